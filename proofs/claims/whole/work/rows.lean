section
-- ===== PART A: goes FIRST, ahead of the names: the tables' words, and 'selects' of the private methods out of them =====
/-- a private method of a class that the tables say can be made, by its rows of tables_1 -/
def lw_okq (q : MethodName × Nat) : Prop := (q.1.cls ≠ "java/lang/invoke/MethodHandle" ∧ q.1.cls ≠ "java/lang/invoke/VarHandle") ∧ Cond.instantiable q.1.cls q.2 ∈ tables_1 ∧ Cond.privateMethod q.1 ∈ tables_1 ∧ Cond.instanceMethod q.1 ∈ tables_1
theorem lw_p0 : lw_okq (⟨"TwoWires", "saveState", "()V"⟩, 6) := ⟨⟨by decide +kernel, by decide +kernel⟩, List.mem_of_getElem? (i := 18) (by decide +kernel), List.mem_of_getElem? (i := 272) (by decide +kernel), List.mem_of_getElem? (i := 273) (by decide +kernel)⟩
theorem lw_p1 : lw_okq (⟨"TwoWires", "dropOldestState", "()V"⟩, 6) := ⟨⟨by decide +kernel, by decide +kernel⟩, List.mem_of_getElem? (i := 18) (by decide +kernel), List.mem_of_getElem? (i := 276) (by decide +kernel), List.mem_of_getElem? (i := 277) (by decide +kernel)⟩
theorem lw_p2 : lw_okq (⟨"TwoWires", "savedAt", "(I)LTwoWires$Bus;"⟩, 6) := ⟨⟨by decide +kernel, by decide +kernel⟩, List.mem_of_getElem? (i := 18) (by decide +kernel), List.mem_of_getElem? (i := 280) (by decide +kernel), List.mem_of_getElem? (i := 281) (by decide +kernel)⟩
theorem lw_p3 : lw_okq (⟨"TwoWires$Bus", "copyFrom", "(LTwoWires$Bus;)V"⟩, 14) := ⟨⟨by decide +kernel, by decide +kernel⟩, List.mem_of_getElem? (i := 26) (by decide +kernel), List.mem_of_getElem? (i := 284) (by decide +kernel), List.mem_of_getElem? (i := 285) (by decide +kernel)⟩
theorem lw_p4 : lw_okq (⟨"TwoWires$Caller", "copyFrom", "(LTwoWires$Caller;)V"⟩, 6) := ⟨⟨by decide +kernel, by decide +kernel⟩, List.mem_of_getElem? (i := 66) (by decide +kernel), List.mem_of_getElem? (i := 288) (by decide +kernel), List.mem_of_getElem? (i := 289) (by decide +kernel)⟩
theorem lw_p5 : lw_okq (⟨"TwoWires$Message", "copyFrom", "(LTwoWires$Message;)V"⟩, 5) := ⟨⟨by decide +kernel, by decide +kernel⟩, List.mem_of_getElem? (i := 73) (by decide +kernel), List.mem_of_getElem? (i := 292) (by decide +kernel), List.mem_of_getElem? (i := 293) (by decide +kernel)⟩
theorem lw_p6 : lw_okq (⟨"TwoWires$Listener", "copyFrom", "(LTwoWires$Listener;)V"⟩, 7) := ⟨⟨by decide +kernel, by decide +kernel⟩, List.mem_of_getElem? (i := 122) (by decide +kernel), List.mem_of_getElem? (i := 305) (by decide +kernel), List.mem_of_getElem? (i := 306) (by decide +kernel)⟩
theorem lw_p7 : lw_okq (⟨"TwoWires$SlotLog", "copyFrom", "(LTwoWires$SlotLog;)V"⟩, 6) := ⟨⟨by decide +kernel, by decide +kernel⟩, List.mem_of_getElem? (i := 36) (by decide +kernel), List.mem_of_getElem? (i := 310) (by decide +kernel), List.mem_of_getElem? (i := 311) (by decide +kernel)⟩
theorem lw_p8 : lw_okq (⟨"TwoWires$Bus", "copyTransfer", "(LTwoWires$Bus;)V"⟩, 14) := ⟨⟨by decide +kernel, by decide +kernel⟩, List.mem_of_getElem? (i := 26) (by decide +kernel), List.mem_of_getElem? (i := 315) (by decide +kernel), List.mem_of_getElem? (i := 316) (by decide +kernel)⟩
theorem lw_p9 : lw_okq (⟨"TwoWires$Bus", "runToRest", "()I"⟩, 14) := ⟨⟨by decide +kernel, by decide +kernel⟩, List.mem_of_getElem? (i := 26) (by decide +kernel), List.mem_of_getElem? (i := 319) (by decide +kernel), List.mem_of_getElem? (i := 320) (by decide +kernel)⟩
theorem lw_p10 : lw_okq (⟨"TwoWires$Bus", "callersWithMessages", "()I"⟩, 14) := ⟨⟨by decide +kernel, by decide +kernel⟩, List.mem_of_getElem? (i := 26) (by decide +kernel), List.mem_of_getElem? (i := 324) (by decide +kernel), List.mem_of_getElem? (i := 325) (by decide +kernel)⟩
theorem lw_p11 : lw_okq (⟨"TwoWires$Bus", "firstMessage", "(I)LTwoWires$Message;"⟩, 14) := ⟨⟨by decide +kernel, by decide +kernel⟩, List.mem_of_getElem? (i := 26) (by decide +kernel), List.mem_of_getElem? (i := 328) (by decide +kernel), List.mem_of_getElem? (i := 329) (by decide +kernel)⟩
theorem lw_p12 : lw_okq (⟨"TwoWires$Bus", "callerAt", "(I)LTwoWires$Caller;"⟩, 14) := ⟨⟨by decide +kernel, by decide +kernel⟩, List.mem_of_getElem? (i := 26) (by decide +kernel), List.mem_of_getElem? (i := 332) (by decide +kernel), List.mem_of_getElem? (i := 333) (by decide +kernel)⟩
theorem lw_p13 : lw_okq (⟨"TwoWires$Caller", "messageAt", "(I)LTwoWires$Message;"⟩, 6) := ⟨⟨by decide +kernel, by decide +kernel⟩, List.mem_of_getElem? (i := 66) (by decide +kernel), List.mem_of_getElem? (i := 336) (by decide +kernel), List.mem_of_getElem? (i := 337) (by decide +kernel)⟩
theorem lw_p14 : lw_okq (⟨"TwoWires$Bus", "passSlot", "()V"⟩, 14) := ⟨⟨by decide +kernel, by decide +kernel⟩, List.mem_of_getElem? (i := 26) (by decide +kernel), List.mem_of_getElem? (i := 340) (by decide +kernel), List.mem_of_getElem? (i := 341) (by decide +kernel)⟩
theorem lw_p15 : lw_okq (⟨"TwoWires$Bus", "startTransfer", "()I"⟩, 14) := ⟨⟨by decide +kernel, by decide +kernel⟩, List.mem_of_getElem? (i := 26) (by decide +kernel), List.mem_of_getElem? (i := 344) (by decide +kernel), List.mem_of_getElem? (i := 345) (by decide +kernel)⟩
def lw_privs_1 : List (MethodName × Nat) := [(⟨"TwoWires", "saveState", "()V"⟩, 6), (⟨"TwoWires", "dropOldestState", "()V"⟩, 6), (⟨"TwoWires", "savedAt", "(I)LTwoWires$Bus;"⟩, 6), (⟨"TwoWires$Bus", "copyFrom", "(LTwoWires$Bus;)V"⟩, 14), (⟨"TwoWires$Caller", "copyFrom", "(LTwoWires$Caller;)V"⟩, 6), (⟨"TwoWires$Message", "copyFrom", "(LTwoWires$Message;)V"⟩, 5), (⟨"TwoWires$Listener", "copyFrom", "(LTwoWires$Listener;)V"⟩, 7), (⟨"TwoWires$SlotLog", "copyFrom", "(LTwoWires$SlotLog;)V"⟩, 6), (⟨"TwoWires$Bus", "copyTransfer", "(LTwoWires$Bus;)V"⟩, 14), (⟨"TwoWires$Bus", "runToRest", "()I"⟩, 14), (⟨"TwoWires$Bus", "callersWithMessages", "()I"⟩, 14), (⟨"TwoWires$Bus", "firstMessage", "(I)LTwoWires$Message;"⟩, 14), (⟨"TwoWires$Bus", "callerAt", "(I)LTwoWires$Caller;"⟩, 14), (⟨"TwoWires$Caller", "messageAt", "(I)LTwoWires$Message;"⟩, 6), (⟨"TwoWires$Bus", "passSlot", "()V"⟩, 14), (⟨"TwoWires$Bus", "startTransfer", "()I"⟩, 14)]
theorem lw_r1 : ∀ q ∈ lw_privs_1, lw_okq q := List.forall_mem_cons.mpr ⟨lw_p0, List.forall_mem_cons.mpr ⟨lw_p1, List.forall_mem_cons.mpr ⟨lw_p2, List.forall_mem_cons.mpr ⟨lw_p3, List.forall_mem_cons.mpr ⟨lw_p4, List.forall_mem_cons.mpr ⟨lw_p5, List.forall_mem_cons.mpr ⟨lw_p6, List.forall_mem_cons.mpr ⟨lw_p7, List.forall_mem_cons.mpr ⟨lw_p8, List.forall_mem_cons.mpr ⟨lw_p9, List.forall_mem_cons.mpr ⟨lw_p10, List.forall_mem_cons.mpr ⟨lw_p11, List.forall_mem_cons.mpr ⟨lw_p12, List.forall_mem_cons.mpr ⟨lw_p13, List.forall_mem_cons.mpr ⟨lw_p14, List.forall_mem_cons.mpr ⟨lw_p15, fun _ h => absurd h List.not_mem_nil⟩⟩⟩⟩⟩⟩⟩⟩⟩⟩⟩⟩⟩⟩⟩⟩
theorem lw_p16 : lw_okq (⟨"TwoWires$Bus", "expectBits", "(I)V"⟩, 14) := ⟨⟨by decide +kernel, by decide +kernel⟩, List.mem_of_getElem? (i := 26) (by decide +kernel), List.mem_of_getElem? (i := 348) (by decide +kernel), List.mem_of_getElem? (i := 349) (by decide +kernel)⟩
theorem lw_p17 : lw_okq (⟨"TwoWires$Bus", "sendBits", "()I"⟩, 14) := ⟨⟨by decide +kernel, by decide +kernel⟩, List.mem_of_getElem? (i := 26) (by decide +kernel), List.mem_of_getElem? (i := 352) (by decide +kernel), List.mem_of_getElem? (i := 353) (by decide +kernel)⟩
theorem lw_p18 : lw_okq (⟨"TwoWires$Bus", "contends", "(I)Z"⟩, 14) := ⟨⟨by decide +kernel, by decide +kernel⟩, List.mem_of_getElem? (i := 26) (by decide +kernel), List.mem_of_getElem? (i := 356) (by decide +kernel), List.mem_of_getElem? (i := 357) (by decide +kernel)⟩
theorem lw_p19 : lw_okq (⟨"TwoWires$Bus", "sentBit", "(LTwoWires$Message;)I"⟩, 14) := ⟨⟨by decide +kernel, by decide +kernel⟩, List.mem_of_getElem? (i := 26) (by decide +kernel), List.mem_of_getElem? (i := 360) (by decide +kernel), List.mem_of_getElem? (i := 361) (by decide +kernel)⟩
theorem lw_p20 : lw_okq (⟨"TwoWires$Message", "header", "()I"⟩, 5) := ⟨⟨by decide +kernel, by decide +kernel⟩, List.mem_of_getElem? (i := 73) (by decide +kernel), List.mem_of_getElem? (i := 364) (by decide +kernel), List.mem_of_getElem? (i := 365) (by decide +kernel)⟩
theorem lw_p21 : lw_okq (⟨"TwoWires$Message", "byteAt", "(I)I"⟩, 5) := ⟨⟨by decide +kernel, by decide +kernel⟩, List.mem_of_getElem? (i := 73) (by decide +kernel), List.mem_of_getElem? (i := 368) (by decide +kernel), List.mem_of_getElem? (i := 369) (by decide +kernel)⟩
theorem lw_p22 : lw_okq (⟨"TwoWires$Bus", "loseBits", "(I)V"⟩, 14) := ⟨⟨by decide +kernel, by decide +kernel⟩, List.mem_of_getElem? (i := 26) (by decide +kernel), List.mem_of_getElem? (i := 372) (by decide +kernel), List.mem_of_getElem? (i := 373) (by decide +kernel)⟩
theorem lw_p23 : lw_okq (⟨"TwoWires$Caller", "loseBit", "(I)V"⟩, 6) := ⟨⟨by decide +kernel, by decide +kernel⟩, List.mem_of_getElem? (i := 66) (by decide +kernel), List.mem_of_getElem? (i := 376) (by decide +kernel), List.mem_of_getElem? (i := 377) (by decide +kernel)⟩
theorem lw_p24 : lw_okq (⟨"TwoWires$Caller", "endFirst", "(I)V"⟩, 6) := ⟨⟨by decide +kernel, by decide +kernel⟩, List.mem_of_getElem? (i := 66) (by decide +kernel), List.mem_of_getElem? (i := 381) (by decide +kernel), List.mem_of_getElem? (i := 382) (by decide +kernel)⟩
theorem lw_p25 : lw_okq (⟨"TwoWires$Bus", "takeBit", "(I)I"⟩, 14) := ⟨⟨by decide +kernel, by decide +kernel⟩, List.mem_of_getElem? (i := 26) (by decide +kernel), List.mem_of_getElem? (i := 385) (by decide +kernel), List.mem_of_getElem? (i := 386) (by decide +kernel)⟩
theorem lw_p26 : lw_okq (⟨"TwoWires$Bus", "endBits", "()V"⟩, 14) := ⟨⟨by decide +kernel, by decide +kernel⟩, List.mem_of_getElem? (i := 26) (by decide +kernel), List.mem_of_getElem? (i := 389) (by decide +kernel), List.mem_of_getElem? (i := 390) (by decide +kernel)⟩
theorem lw_p27 : lw_okq (⟨"TwoWires$Bus", "receiveLevels", "()V"⟩, 14) := ⟨⟨by decide +kernel, by decide +kernel⟩, List.mem_of_getElem? (i := 26) (by decide +kernel), List.mem_of_getElem? (i := 393) (by decide +kernel), List.mem_of_getElem? (i := 394) (by decide +kernel)⟩
theorem lw_p28 : lw_okq (⟨"TwoWires$Bus", "listenerAt", "(I)LTwoWires$Listener;"⟩, 14) := ⟨⟨by decide +kernel, by decide +kernel⟩, List.mem_of_getElem? (i := 26) (by decide +kernel), List.mem_of_getElem? (i := 397) (by decide +kernel), List.mem_of_getElem? (i := 398) (by decide +kernel)⟩
theorem lw_p29 : lw_okq (⟨"TwoWires$Listener", "movePointer", "()V"⟩, 7) := ⟨⟨by decide +kernel, by decide +kernel⟩, List.mem_of_getElem? (i := 122) (by decide +kernel), List.mem_of_getElem? (i := 401) (by decide +kernel), List.mem_of_getElem? (i := 402) (by decide +kernel)⟩
theorem lw_p30 : lw_okq (⟨"TwoWires$Caller", "receiveByte", "(I)V"⟩, 6) := ⟨⟨by decide +kernel, by decide +kernel⟩, List.mem_of_getElem? (i := 66) (by decide +kernel), List.mem_of_getElem? (i := 405) (by decide +kernel), List.mem_of_getElem? (i := 406) (by decide +kernel)⟩
theorem lw_p31 : lw_okq (⟨"TwoWires$Bus", "answerHeader", "()I"⟩, 14) := ⟨⟨by decide +kernel, by decide +kernel⟩, List.mem_of_getElem? (i := 26) (by decide +kernel), List.mem_of_getElem? (i := 409) (by decide +kernel), List.mem_of_getElem? (i := 410) (by decide +kernel)⟩
def lw_privs_2 : List (MethodName × Nat) := [(⟨"TwoWires$Bus", "expectBits", "(I)V"⟩, 14), (⟨"TwoWires$Bus", "sendBits", "()I"⟩, 14), (⟨"TwoWires$Bus", "contends", "(I)Z"⟩, 14), (⟨"TwoWires$Bus", "sentBit", "(LTwoWires$Message;)I"⟩, 14), (⟨"TwoWires$Message", "header", "()I"⟩, 5), (⟨"TwoWires$Message", "byteAt", "(I)I"⟩, 5), (⟨"TwoWires$Bus", "loseBits", "(I)V"⟩, 14), (⟨"TwoWires$Caller", "loseBit", "(I)V"⟩, 6), (⟨"TwoWires$Caller", "endFirst", "(I)V"⟩, 6), (⟨"TwoWires$Bus", "takeBit", "(I)I"⟩, 14), (⟨"TwoWires$Bus", "endBits", "()V"⟩, 14), (⟨"TwoWires$Bus", "receiveLevels", "()V"⟩, 14), (⟨"TwoWires$Bus", "listenerAt", "(I)LTwoWires$Listener;"⟩, 14), (⟨"TwoWires$Listener", "movePointer", "()V"⟩, 7), (⟨"TwoWires$Caller", "receiveByte", "(I)V"⟩, 6), (⟨"TwoWires$Bus", "answerHeader", "()I"⟩, 14)]
theorem lw_r2 : ∀ q ∈ lw_privs_2, lw_okq q := List.forall_mem_cons.mpr ⟨lw_p16, List.forall_mem_cons.mpr ⟨lw_p17, List.forall_mem_cons.mpr ⟨lw_p18, List.forall_mem_cons.mpr ⟨lw_p19, List.forall_mem_cons.mpr ⟨lw_p20, List.forall_mem_cons.mpr ⟨lw_p21, List.forall_mem_cons.mpr ⟨lw_p22, List.forall_mem_cons.mpr ⟨lw_p23, List.forall_mem_cons.mpr ⟨lw_p24, List.forall_mem_cons.mpr ⟨lw_p25, List.forall_mem_cons.mpr ⟨lw_p26, List.forall_mem_cons.mpr ⟨lw_p27, List.forall_mem_cons.mpr ⟨lw_p28, List.forall_mem_cons.mpr ⟨lw_p29, List.forall_mem_cons.mpr ⟨lw_p30, List.forall_mem_cons.mpr ⟨lw_p31, fun _ h => absurd h List.not_mem_nil⟩⟩⟩⟩⟩⟩⟩⟩⟩⟩⟩⟩⟩⟩⟩⟩
theorem lw_p32 : lw_okq (⟨"TwoWires$Bus", "answererTo", "(I)I"⟩, 14) := ⟨⟨by decide +kernel, by decide +kernel⟩, List.mem_of_getElem? (i := 26) (by decide +kernel), List.mem_of_getElem? (i := 413) (by decide +kernel), List.mem_of_getElem? (i := 414) (by decide +kernel)⟩
theorem lw_p33 : lw_okq (⟨"TwoWires$Bus", "listenerWith", "(I)I"⟩, 14) := ⟨⟨by decide +kernel, by decide +kernel⟩, List.mem_of_getElem? (i := 26) (by decide +kernel), List.mem_of_getElem? (i := 417) (by decide +kernel), List.mem_of_getElem? (i := 418) (by decide +kernel)⟩
theorem lw_p34 : lw_okq (⟨"TwoWires$Bus", "endMessages", "(II)V"⟩, 14) := ⟨⟨by decide +kernel, by decide +kernel⟩, List.mem_of_getElem? (i := 26) (by decide +kernel), List.mem_of_getElem? (i := 421) (by decide +kernel), List.mem_of_getElem? (i := 422) (by decide +kernel)⟩
theorem lw_p35 : lw_okq (⟨"TwoWires$Bus", "holdLine", "()V"⟩, 14) := ⟨⟨by decide +kernel, by decide +kernel⟩, List.mem_of_getElem? (i := 26) (by decide +kernel), List.mem_of_getElem? (i := 426) (by decide +kernel), List.mem_of_getElem? (i := 427) (by decide +kernel)⟩
theorem lw_p36 : lw_okq (⟨"TwoWires$Bus", "readBit", "()I"⟩, 14) := ⟨⟨by decide +kernel, by decide +kernel⟩, List.mem_of_getElem? (i := 26) (by decide +kernel), List.mem_of_getElem? (i := 430) (by decide +kernel), List.mem_of_getElem? (i := 431) (by decide +kernel)⟩
theorem lw_p37 : lw_okq (⟨"TwoWires$Listener", "byteAt", "(I)I"⟩, 7) := ⟨⟨by decide +kernel, by decide +kernel⟩, List.mem_of_getElem? (i := 122) (by decide +kernel), List.mem_of_getElem? (i := 434) (by decide +kernel), List.mem_of_getElem? (i := 435) (by decide +kernel)⟩
theorem lw_p38 : lw_okq (⟨"TwoWires$Bus", "answerRead", "()I"⟩, 14) := ⟨⟨by decide +kernel, by decide +kernel⟩, List.mem_of_getElem? (i := 26) (by decide +kernel), List.mem_of_getElem? (i := 438) (by decide +kernel), List.mem_of_getElem? (i := 439) (by decide +kernel)⟩
theorem lw_p39 : lw_okq (⟨"TwoWires$Bus", "contendersWithMoreBytes", "()I"⟩, 14) := ⟨⟨by decide +kernel, by decide +kernel⟩, List.mem_of_getElem? (i := 26) (by decide +kernel), List.mem_of_getElem? (i := 442) (by decide +kernel), List.mem_of_getElem? (i := 443) (by decide +kernel)⟩
theorem lw_p40 : lw_okq (⟨"TwoWires$Bus", "goOnWith", "(I)V"⟩, 14) := ⟨⟨by decide +kernel, by decide +kernel⟩, List.mem_of_getElem? (i := 26) (by decide +kernel), List.mem_of_getElem? (i := 446) (by decide +kernel), List.mem_of_getElem? (i := 447) (by decide +kernel)⟩
theorem lw_p41 : lw_okq (⟨"TwoWires$Bus", "answerWrite", "()I"⟩, 14) := ⟨⟨by decide +kernel, by decide +kernel⟩, List.mem_of_getElem? (i := 26) (by decide +kernel), List.mem_of_getElem? (i := 450) (by decide +kernel), List.mem_of_getElem? (i := 451) (by decide +kernel)⟩
theorem lw_p42 : lw_okq (⟨"TwoWires$Listener", "storeByte", "(I)Z"⟩, 7) := ⟨⟨by decide +kernel, by decide +kernel⟩, List.mem_of_getElem? (i := 122) (by decide +kernel), List.mem_of_getElem? (i := 454) (by decide +kernel), List.mem_of_getElem? (i := 455) (by decide +kernel)⟩
theorem lw_p43 : lw_okq (⟨"TwoWires$Bus", "holdSlot", "()I"⟩, 14) := ⟨⟨by decide +kernel, by decide +kernel⟩, List.mem_of_getElem? (i := 26) (by decide +kernel), List.mem_of_getElem? (i := 458) (by decide +kernel), List.mem_of_getElem? (i := 459) (by decide +kernel)⟩
theorem lw_p44 : lw_okq (⟨"TwoWires$Bus", "stopTransfer", "()V"⟩, 14) := ⟨⟨by decide +kernel, by decide +kernel⟩, List.mem_of_getElem? (i := 26) (by decide +kernel), List.mem_of_getElem? (i := 462) (by decide +kernel), List.mem_of_getElem? (i := 463) (by decide +kernel)⟩
theorem lw_p45 : lw_okq (⟨"TwoWires$SlotLog", "keep", "(III)V"⟩, 6) := ⟨⟨by decide +kernel, by decide +kernel⟩, List.mem_of_getElem? (i := 36) (by decide +kernel), List.mem_of_getElem? (i := 466) (by decide +kernel), List.mem_of_getElem? (i := 467) (by decide +kernel)⟩
theorem lw_p46 : lw_okq (⟨"TwoWires", "runTrial", "()I"⟩, 6) := ⟨⟨by decide +kernel, by decide +kernel⟩, List.mem_of_getElem? (i := 18) (by decide +kernel), List.mem_of_getElem? (i := 474) (by decide +kernel), List.mem_of_getElem? (i := 475) (by decide +kernel)⟩
theorem lw_p47 : lw_okq (⟨"TwoWires$Bus", "lowestHeaders", "()I"⟩, 14) := ⟨⟨by decide +kernel, by decide +kernel⟩, List.mem_of_getElem? (i := 26) (by decide +kernel), List.mem_of_getElem? (i := 482) (by decide +kernel), List.mem_of_getElem? (i := 483) (by decide +kernel)⟩
def lw_privs_3 : List (MethodName × Nat) := [(⟨"TwoWires$Bus", "answererTo", "(I)I"⟩, 14), (⟨"TwoWires$Bus", "listenerWith", "(I)I"⟩, 14), (⟨"TwoWires$Bus", "endMessages", "(II)V"⟩, 14), (⟨"TwoWires$Bus", "holdLine", "()V"⟩, 14), (⟨"TwoWires$Bus", "readBit", "()I"⟩, 14), (⟨"TwoWires$Listener", "byteAt", "(I)I"⟩, 7), (⟨"TwoWires$Bus", "answerRead", "()I"⟩, 14), (⟨"TwoWires$Bus", "contendersWithMoreBytes", "()I"⟩, 14), (⟨"TwoWires$Bus", "goOnWith", "(I)V"⟩, 14), (⟨"TwoWires$Bus", "answerWrite", "()I"⟩, 14), (⟨"TwoWires$Listener", "storeByte", "(I)Z"⟩, 7), (⟨"TwoWires$Bus", "holdSlot", "()I"⟩, 14), (⟨"TwoWires$Bus", "stopTransfer", "()V"⟩, 14), (⟨"TwoWires$SlotLog", "keep", "(III)V"⟩, 6), (⟨"TwoWires", "runTrial", "()I"⟩, 6), (⟨"TwoWires$Bus", "lowestHeaders", "()I"⟩, 14)]
theorem lw_r3 : ∀ q ∈ lw_privs_3, lw_okq q := List.forall_mem_cons.mpr ⟨lw_p32, List.forall_mem_cons.mpr ⟨lw_p33, List.forall_mem_cons.mpr ⟨lw_p34, List.forall_mem_cons.mpr ⟨lw_p35, List.forall_mem_cons.mpr ⟨lw_p36, List.forall_mem_cons.mpr ⟨lw_p37, List.forall_mem_cons.mpr ⟨lw_p38, List.forall_mem_cons.mpr ⟨lw_p39, List.forall_mem_cons.mpr ⟨lw_p40, List.forall_mem_cons.mpr ⟨lw_p41, List.forall_mem_cons.mpr ⟨lw_p42, List.forall_mem_cons.mpr ⟨lw_p43, List.forall_mem_cons.mpr ⟨lw_p44, List.forall_mem_cons.mpr ⟨lw_p45, List.forall_mem_cons.mpr ⟨lw_p46, List.forall_mem_cons.mpr ⟨lw_p47, fun _ h => absurd h List.not_mem_nil⟩⟩⟩⟩⟩⟩⟩⟩⟩⟩⟩⟩⟩⟩⟩⟩
theorem lw_p48 : lw_okq (⟨"TwoWires$OrderText", "findError", "()I"⟩, 10) := ⟨⟨by decide +kernel, by decide +kernel⟩, List.mem_of_getElem? (i := 206) (by decide +kernel), List.mem_of_getElem? (i := 498) (by decide +kernel), List.mem_of_getElem? (i := 499) (by decide +kernel)⟩
theorem lw_p49 : lw_okq (⟨"TwoWires$OrderText", "rewind", "()V"⟩, 10) := ⟨⟨by decide +kernel, by decide +kernel⟩, List.mem_of_getElem? (i := 206) (by decide +kernel), List.mem_of_getElem? (i := 502) (by decide +kernel), List.mem_of_getElem? (i := 503) (by decide +kernel)⟩
theorem lw_p50 : lw_okq (⟨"TwoWires$OrderText", "nextOrder", "()Z"⟩, 10) := ⟨⟨by decide +kernel, by decide +kernel⟩, List.mem_of_getElem? (i := 206) (by decide +kernel), List.mem_of_getElem? (i := 506) (by decide +kernel), List.mem_of_getElem? (i := 507) (by decide +kernel)⟩
theorem lw_p51 : lw_okq (⟨"TwoWires$OrderText", "nextByte", "()I"⟩, 10) := ⟨⟨by decide +kernel, by decide +kernel⟩, List.mem_of_getElem? (i := 206) (by decide +kernel), List.mem_of_getElem? (i := 510) (by decide +kernel), List.mem_of_getElem? (i := 511) (by decide +kernel)⟩
theorem lw_p52 : lw_okq (⟨"TwoWires$OrderText", "readTarget", "()Z"⟩, 10) := ⟨⟨by decide +kernel, by decide +kernel⟩, List.mem_of_getElem? (i := 206) (by decide +kernel), List.mem_of_getElem? (i := 514) (by decide +kernel), List.mem_of_getElem? (i := 515) (by decide +kernel)⟩
theorem lw_p53 : lw_okq (⟨"TwoWires$OrderText", "readDigit", "(II)Z"⟩, 10) := ⟨⟨by decide +kernel, by decide +kernel⟩, List.mem_of_getElem? (i := 206) (by decide +kernel), List.mem_of_getElem? (i := 518) (by decide +kernel), List.mem_of_getElem? (i := 519) (by decide +kernel)⟩
theorem lw_p54 : lw_okq (⟨"TwoWires$OrderText", "fail", "(I)Z"⟩, 10) := ⟨⟨by decide +kernel, by decide +kernel⟩, List.mem_of_getElem? (i := 206) (by decide +kernel), List.mem_of_getElem? (i := 522) (by decide +kernel), List.mem_of_getElem? (i := 523) (by decide +kernel)⟩
theorem lw_p55 : lw_okq (⟨"TwoWires$OrderText", "take", "(I)Z"⟩, 10) := ⟨⟨by decide +kernel, by decide +kernel⟩, List.mem_of_getElem? (i := 206) (by decide +kernel), List.mem_of_getElem? (i := 526) (by decide +kernel), List.mem_of_getElem? (i := 527) (by decide +kernel)⟩
theorem lw_p56 : lw_okq (⟨"TwoWires$OrderText", "takeIfThere", "(I)Z"⟩, 10) := ⟨⟨by decide +kernel, by decide +kernel⟩, List.mem_of_getElem? (i := 206) (by decide +kernel), List.mem_of_getElem? (i := 530) (by decide +kernel), List.mem_of_getElem? (i := 531) (by decide +kernel)⟩
theorem lw_p57 : lw_okq (⟨"TwoWires$OrderText", "readNumber", "(II)Z"⟩, 10) := ⟨⟨by decide +kernel, by decide +kernel⟩, List.mem_of_getElem? (i := 206) (by decide +kernel), List.mem_of_getElem? (i := 534) (by decide +kernel), List.mem_of_getElem? (i := 535) (by decide +kernel)⟩
theorem lw_p58 : lw_okq (⟨"TwoWires$OrderText", "readBytes", "()Z"⟩, 10) := ⟨⟨by decide +kernel, by decide +kernel⟩, List.mem_of_getElem? (i := 206) (by decide +kernel), List.mem_of_getElem? (i := 541) (by decide +kernel), List.mem_of_getElem? (i := 542) (by decide +kernel)⟩
theorem lw_p59 : lw_okq (⟨"TwoWires$OrderText", "readCount", "()Z"⟩, 10) := ⟨⟨by decide +kernel, by decide +kernel⟩, List.mem_of_getElem? (i := 206) (by decide +kernel), List.mem_of_getElem? (i := 545) (by decide +kernel), List.mem_of_getElem? (i := 546) (by decide +kernel)⟩
theorem lw_p60 : lw_okq (⟨"TwoWires$OrderText", "readSlots", "()Z"⟩, 10) := ⟨⟨by decide +kernel, by decide +kernel⟩, List.mem_of_getElem? (i := 206) (by decide +kernel), List.mem_of_getElem? (i := 549) (by decide +kernel), List.mem_of_getElem? (i := 550) (by decide +kernel)⟩
theorem lw_p61 : lw_okq (⟨"TwoWires", "obeyOrder", "()Z"⟩, 6) := ⟨⟨by decide +kernel, by decide +kernel⟩, List.mem_of_getElem? (i := 18) (by decide +kernel), List.mem_of_getElem? (i := 555) (by decide +kernel), List.mem_of_getElem? (i := 556) (by decide +kernel)⟩
theorem lw_p62 : lw_okq (⟨"TwoWires$Bus", "passSlots", "(I)V"⟩, 14) := ⟨⟨by decide +kernel, by decide +kernel⟩, List.mem_of_getElem? (i := 26) (by decide +kernel), List.mem_of_getElem? (i := 559) (by decide +kernel), List.mem_of_getElem? (i := 560) (by decide +kernel)⟩
theorem lw_p63 : lw_okq (⟨"TwoWires$Caller", "enqueue", "(ZIIJ)Z"⟩, 6) := ⟨⟨by decide +kernel, by decide +kernel⟩, List.mem_of_getElem? (i := 66) (by decide +kernel), List.mem_of_getElem? (i := 564) (by decide +kernel), List.mem_of_getElem? (i := 565) (by decide +kernel)⟩
def lw_privs_4 : List (MethodName × Nat) := [(⟨"TwoWires$OrderText", "findError", "()I"⟩, 10), (⟨"TwoWires$OrderText", "rewind", "()V"⟩, 10), (⟨"TwoWires$OrderText", "nextOrder", "()Z"⟩, 10), (⟨"TwoWires$OrderText", "nextByte", "()I"⟩, 10), (⟨"TwoWires$OrderText", "readTarget", "()Z"⟩, 10), (⟨"TwoWires$OrderText", "readDigit", "(II)Z"⟩, 10), (⟨"TwoWires$OrderText", "fail", "(I)Z"⟩, 10), (⟨"TwoWires$OrderText", "take", "(I)Z"⟩, 10), (⟨"TwoWires$OrderText", "takeIfThere", "(I)Z"⟩, 10), (⟨"TwoWires$OrderText", "readNumber", "(II)Z"⟩, 10), (⟨"TwoWires$OrderText", "readBytes", "()Z"⟩, 10), (⟨"TwoWires$OrderText", "readCount", "()Z"⟩, 10), (⟨"TwoWires$OrderText", "readSlots", "()Z"⟩, 10), (⟨"TwoWires", "obeyOrder", "()Z"⟩, 6), (⟨"TwoWires$Bus", "passSlots", "(I)V"⟩, 14), (⟨"TwoWires$Caller", "enqueue", "(ZIIJ)Z"⟩, 6)]
theorem lw_r4 : ∀ q ∈ lw_privs_4, lw_okq q := List.forall_mem_cons.mpr ⟨lw_p48, List.forall_mem_cons.mpr ⟨lw_p49, List.forall_mem_cons.mpr ⟨lw_p50, List.forall_mem_cons.mpr ⟨lw_p51, List.forall_mem_cons.mpr ⟨lw_p52, List.forall_mem_cons.mpr ⟨lw_p53, List.forall_mem_cons.mpr ⟨lw_p54, List.forall_mem_cons.mpr ⟨lw_p55, List.forall_mem_cons.mpr ⟨lw_p56, List.forall_mem_cons.mpr ⟨lw_p57, List.forall_mem_cons.mpr ⟨lw_p58, List.forall_mem_cons.mpr ⟨lw_p59, List.forall_mem_cons.mpr ⟨lw_p60, List.forall_mem_cons.mpr ⟨lw_p61, List.forall_mem_cons.mpr ⟨lw_p62, List.forall_mem_cons.mpr ⟨lw_p63, fun _ h => absurd h List.not_mem_nil⟩⟩⟩⟩⟩⟩⟩⟩⟩⟩⟩⟩⟩⟩⟩⟩
theorem lw_p64 : lw_okq (⟨"TwoWires$Bus", "tell", "(I)I"⟩, 14) := ⟨⟨by decide +kernel, by decide +kernel⟩, List.mem_of_getElem? (i := 26) (by decide +kernel), List.mem_of_getElem? (i := 577) (by decide +kernel), List.mem_of_getElem? (i := 578) (by decide +kernel)⟩
theorem lw_p65 : lw_okq (⟨"TwoWires$SlotLog", "lastLevel", "()I"⟩, 6) := ⟨⟨by decide +kernel, by decide +kernel⟩, List.mem_of_getElem? (i := 36) (by decide +kernel), List.mem_of_getElem? (i := 581) (by decide +kernel), List.mem_of_getElem? (i := 582) (by decide +kernel)⟩
theorem lw_p66 : lw_okq (⟨"TwoWires$SlotLog", "tell", "(II)I"⟩, 6) := ⟨⟨by decide +kernel, by decide +kernel⟩, List.mem_of_getElem? (i := 36) (by decide +kernel), List.mem_of_getElem? (i := 585) (by decide +kernel), List.mem_of_getElem? (i := 586) (by decide +kernel)⟩
theorem lw_p67 : lw_okq (⟨"TwoWires", "mixCaller", "(JI)J"⟩, 6) := ⟨⟨by decide +kernel, by decide +kernel⟩, List.mem_of_getElem? (i := 18) (by decide +kernel), List.mem_of_getElem? (i := 589) (by decide +kernel), List.mem_of_getElem? (i := 590) (by decide +kernel)⟩
theorem lw_p68 : lw_okq (⟨"TwoWires$Caller", "tell", "(I)I"⟩, 6) := ⟨⟨by decide +kernel, by decide +kernel⟩, List.mem_of_getElem? (i := 66) (by decide +kernel), List.mem_of_getElem? (i := 593) (by decide +kernel), List.mem_of_getElem? (i := 594) (by decide +kernel)⟩
theorem lw_p69 : lw_okq (⟨"TwoWires$Message", "tell", "(I)I"⟩, 5) := ⟨⟨by decide +kernel, by decide +kernel⟩, List.mem_of_getElem? (i := 73) (by decide +kernel), List.mem_of_getElem? (i := 602) (by decide +kernel), List.mem_of_getElem? (i := 603) (by decide +kernel)⟩
theorem lw_p70 : lw_okq (⟨"TwoWires$Listener", "tell", "(I)I"⟩, 7) := ⟨⟨by decide +kernel, by decide +kernel⟩, List.mem_of_getElem? (i := 122) (by decide +kernel), List.mem_of_getElem? (i := 611) (by decide +kernel), List.mem_of_getElem? (i := 612) (by decide +kernel)⟩
theorem lw_p71 : lw_okq (⟨"TwoWires$SlotLog", "keptCount", "()I"⟩, 6) := ⟨⟨by decide +kernel, by decide +kernel⟩, List.mem_of_getElem? (i := 36) (by decide +kernel), List.mem_of_getElem? (i := 616) (by decide +kernel), List.mem_of_getElem? (i := 617) (by decide +kernel)⟩
theorem lw_p72 : lw_okq (⟨"java/lang/Throwable", "fillInStackTrace", "(I)Ljava/lang/Throwable;"⟩, 6) := ⟨⟨by decide +kernel, by decide +kernel⟩, List.mem_of_getElem? (i := 671) (by decide +kernel), List.mem_of_getElem? (i := 669) (by decide +kernel), List.mem_of_getElem? (i := 670) (by decide +kernel)⟩
theorem lw_p73 : lw_okq (⟨"TwoWires$Bus", "placeListener", "(II)I"⟩, 14) := ⟨⟨by decide +kernel, by decide +kernel⟩, List.mem_of_getElem? (i := 26) (by decide +kernel), List.mem_of_getElem? (i := 727) (by decide +kernel), List.mem_of_getElem? (i := 728) (by decide +kernel)⟩
theorem lw_p74 : lw_okq (⟨"TwoWires", "listenerOrThrow", "(I)LTwoWires$Listener;"⟩, 6) := ⟨⟨by decide +kernel, by decide +kernel⟩, List.mem_of_getElem? (i := 18) (by decide +kernel), List.mem_of_getElem? (i := 739) (by decide +kernel), List.mem_of_getElem? (i := 740) (by decide +kernel)⟩
theorem lw_p75 : lw_okq (⟨"TwoWires$Bus", "listenersOn", "()I"⟩, 14) := ⟨⟨by decide +kernel, by decide +kernel⟩, List.mem_of_getElem? (i := 26) (by decide +kernel), List.mem_of_getElem? (i := 760) (by decide +kernel), List.mem_of_getElem? (i := 761) (by decide +kernel)⟩
theorem lw_p76 : lw_okq (⟨"TwoWires$Listener", "forget", "()I"⟩, 7) := ⟨⟨by decide +kernel, by decide +kernel⟩, List.mem_of_getElem? (i := 122) (by decide +kernel), List.mem_of_getElem? (i := 771) (by decide +kernel), List.mem_of_getElem? (i := 772) (by decide +kernel)⟩
theorem lw_p77 : lw_okq (⟨"TwoWires", "callerOrThrow", "(I)LTwoWires$Caller;"⟩, 6) := ⟨⟨by decide +kernel, by decide +kernel⟩, List.mem_of_getElem? (i := 18) (by decide +kernel), List.mem_of_getElem? (i := 789) (by decide +kernel), List.mem_of_getElem? (i := 790) (by decide +kernel)⟩
theorem lw_p78 : lw_okq (⟨"TwoWires", "queueMessage", "(LTwoWires$Caller;ZIIJ)I"⟩, 6) := ⟨⟨by decide +kernel, by decide +kernel⟩, List.mem_of_getElem? (i := 18) (by decide +kernel), List.mem_of_getElem? (i := 795) (by decide +kernel), List.mem_of_getElem? (i := 796) (by decide +kernel)⟩
theorem lw_p79 : lw_okq (⟨"TwoWires$Caller", "takeBack", "()I"⟩, 6) := ⟨⟨by decide +kernel, by decide +kernel⟩, List.mem_of_getElem? (i := 66) (by decide +kernel), List.mem_of_getElem? (i := 816) (by decide +kernel), List.mem_of_getElem? (i := 817) (by decide +kernel)⟩
def lw_privs_5 : List (MethodName × Nat) := [(⟨"TwoWires$Bus", "tell", "(I)I"⟩, 14), (⟨"TwoWires$SlotLog", "lastLevel", "()I"⟩, 6), (⟨"TwoWires$SlotLog", "tell", "(II)I"⟩, 6), (⟨"TwoWires", "mixCaller", "(JI)J"⟩, 6), (⟨"TwoWires$Caller", "tell", "(I)I"⟩, 6), (⟨"TwoWires$Message", "tell", "(I)I"⟩, 5), (⟨"TwoWires$Listener", "tell", "(I)I"⟩, 7), (⟨"TwoWires$SlotLog", "keptCount", "()I"⟩, 6), (⟨"java/lang/Throwable", "fillInStackTrace", "(I)Ljava/lang/Throwable;"⟩, 6), (⟨"TwoWires$Bus", "placeListener", "(II)I"⟩, 14), (⟨"TwoWires", "listenerOrThrow", "(I)LTwoWires$Listener;"⟩, 6), (⟨"TwoWires$Bus", "listenersOn", "()I"⟩, 14), (⟨"TwoWires$Listener", "forget", "()I"⟩, 7), (⟨"TwoWires", "callerOrThrow", "(I)LTwoWires$Caller;"⟩, 6), (⟨"TwoWires", "queueMessage", "(LTwoWires$Caller;ZIIJ)I"⟩, 6), (⟨"TwoWires$Caller", "takeBack", "()I"⟩, 6)]
theorem lw_r5 : ∀ q ∈ lw_privs_5, lw_okq q := List.forall_mem_cons.mpr ⟨lw_p64, List.forall_mem_cons.mpr ⟨lw_p65, List.forall_mem_cons.mpr ⟨lw_p66, List.forall_mem_cons.mpr ⟨lw_p67, List.forall_mem_cons.mpr ⟨lw_p68, List.forall_mem_cons.mpr ⟨lw_p69, List.forall_mem_cons.mpr ⟨lw_p70, List.forall_mem_cons.mpr ⟨lw_p71, List.forall_mem_cons.mpr ⟨lw_p72, List.forall_mem_cons.mpr ⟨lw_p73, List.forall_mem_cons.mpr ⟨lw_p74, List.forall_mem_cons.mpr ⟨lw_p75, List.forall_mem_cons.mpr ⟨lw_p76, List.forall_mem_cons.mpr ⟨lw_p77, List.forall_mem_cons.mpr ⟨lw_p78, List.forall_mem_cons.mpr ⟨lw_p79, fun _ h => absurd h List.not_mem_nil⟩⟩⟩⟩⟩⟩⟩⟩⟩⟩⟩⟩⟩⟩⟩⟩
theorem lw_p80 : lw_okq (⟨"TwoWires$Bus", "slotsAlone", "(LTwoWires$Message;)I"⟩, 14) := ⟨⟨by decide +kernel, by decide +kernel⟩, List.mem_of_getElem? (i := 26) (by decide +kernel), List.mem_of_getElem? (i := 879) (by decide +kernel), List.mem_of_getElem? (i := 880) (by decide +kernel)⟩
theorem lw_p81 : lw_okq (⟨"TwoWires$OrderText", "add", "(I)I"⟩, 10) := ⟨⟨by decide +kernel, by decide +kernel⟩, List.mem_of_getElem? (i := 206) (by decide +kernel), List.mem_of_getElem? (i := 899) (by decide +kernel), List.mem_of_getElem? (i := 900) (by decide +kernel)⟩
theorem lw_p82 : lw_okq (⟨"TwoWiresModel", "fresh", "(I)V"⟩, 16) := ⟨⟨by decide +kernel, by decide +kernel⟩, List.mem_of_getElem? (i := 911) (by decide +kernel), List.mem_of_getElem? (i := 917) (by decide +kernel), List.mem_of_getElem? (i := 918) (by decide +kernel)⟩
theorem lw_p83 : lw_okq (⟨"TwoWiresModel", "fails", "(I)I"⟩, 16) := ⟨⟨by decide +kernel, by decide +kernel⟩, List.mem_of_getElem? (i := 911) (by decide +kernel), List.mem_of_getElem? (i := 978) (by decide +kernel), List.mem_of_getElem? (i := 979) (by decide +kernel)⟩
theorem lw_p84 : lw_okq (⟨"TwoWiresModel", "well", "(I)I"⟩, 16) := ⟨⟨by decide +kernel, by decide +kernel⟩, List.mem_of_getElem? (i := 911) (by decide +kernel), List.mem_of_getElem? (i := 982) (by decide +kernel), List.mem_of_getElem? (i := 983) (by decide +kernel)⟩
theorem lw_p85 : lw_okq (⟨"TwoWiresModel", "asides", "()V"⟩, 16) := ⟨⟨by decide +kernel, by decide +kernel⟩, List.mem_of_getElem? (i := 911) (by decide +kernel), List.mem_of_getElem? (i := 994) (by decide +kernel), List.mem_of_getElem? (i := 995) (by decide +kernel)⟩
theorem lw_p86 : lw_okq (⟨"TwoWiresModel", "saves", "()V"⟩, 16) := ⟨⟨by decide +kernel, by decide +kernel⟩, List.mem_of_getElem? (i := 911) (by decide +kernel), List.mem_of_getElem? (i := 998) (by decide +kernel), List.mem_of_getElem? (i := 999) (by decide +kernel)⟩
theorem lw_p87 : lw_okq (⟨"TwoWiresModel", "withAddress", "(I)I"⟩, 16) := ⟨⟨by decide +kernel, by decide +kernel⟩, List.mem_of_getElem? (i := 911) (by decide +kernel), List.mem_of_getElem? (i := 1008) (by decide +kernel), List.mem_of_getElem? (i := 1009) (by decide +kernel)⟩
theorem lw_p88 : lw_okq (⟨"TwoWiresModel", "part", "(II)I"⟩, 16) := ⟨⟨by decide +kernel, by decide +kernel⟩, List.mem_of_getElem? (i := 911) (by decide +kernel), List.mem_of_getElem? (i := 1012) (by decide +kernel), List.mem_of_getElem? (i := 1013) (by decide +kernel)⟩
theorem lw_p89 : lw_okq (⟨"TwoWiresModel", "sets", "(III)V"⟩, 16) := ⟨⟨by decide +kernel, by decide +kernel⟩, List.mem_of_getElem? (i := 911) (by decide +kernel), List.mem_of_getElem? (i := 1016) (by decide +kernel), List.mem_of_getElem? (i := 1017) (by decide +kernel)⟩
theorem lw_p90 : lw_okq (⟨"TwoWiresModel", "isListener", "(I)Z"⟩, 16) := ⟨⟨by decide +kernel, by decide +kernel⟩, List.mem_of_getElem? (i := 911) (by decide +kernel), List.mem_of_getElem? (i := 1024) (by decide +kernel), List.mem_of_getElem? (i := 1025) (by decide +kernel)⟩
theorem lw_p91 : lw_okq (⟨"TwoWiresModel", "on", "()I"⟩, 16) := ⟨⟨by decide +kernel, by decide +kernel⟩, List.mem_of_getElem? (i := 911) (by decide +kernel), List.mem_of_getElem? (i := 1028) (by decide +kernel), List.mem_of_getElem? (i := 1029) (by decide +kernel)⟩
theorem lw_p92 : lw_okq (⟨"TwoWiresModel", "queues", "(IIIIJ)I"⟩, 16) := ⟨⟨by decide +kernel, by decide +kernel⟩, List.mem_of_getElem? (i := 911) (by decide +kernel), List.mem_of_getElem? (i := 1044) (by decide +kernel), List.mem_of_getElem? (i := 1045) (by decide +kernel)⟩
theorem lw_p93 : lw_okq (⟨"TwoWiresModel", "isCaller", "(I)Z"⟩, 16) := ⟨⟨by decide +kernel, by decide +kernel⟩, List.mem_of_getElem? (i := 911) (by decide +kernel), List.mem_of_getElem? (i := 1048) (by decide +kernel), List.mem_of_getElem? (i := 1049) (by decide +kernel)⟩
theorem lw_p94 : lw_okq (⟨"TwoWiresModel", "of", "(II)I"⟩, 16) := ⟨⟨by decide +kernel, by decide +kernel⟩, List.mem_of_getElem? (i := 911) (by decide +kernel), List.mem_of_getElem? (i := 1060) (by decide +kernel), List.mem_of_getElem? (i := 1061) (by decide +kernel)⟩
theorem lw_p95 : lw_okq (⟨"TwoWiresModel", "adds", "(III)V"⟩, 16) := ⟨⟨by decide +kernel, by decide +kernel⟩, List.mem_of_getElem? (i := 911) (by decide +kernel), List.mem_of_getElem? (i := 1064) (by decide +kernel), List.mem_of_getElem? (i := 1065) (by decide +kernel)⟩
def lw_privs_6 : List (MethodName × Nat) := [(⟨"TwoWires$Bus", "slotsAlone", "(LTwoWires$Message;)I"⟩, 14), (⟨"TwoWires$OrderText", "add", "(I)I"⟩, 10), (⟨"TwoWiresModel", "fresh", "(I)V"⟩, 16), (⟨"TwoWiresModel", "fails", "(I)I"⟩, 16), (⟨"TwoWiresModel", "well", "(I)I"⟩, 16), (⟨"TwoWiresModel", "asides", "()V"⟩, 16), (⟨"TwoWiresModel", "saves", "()V"⟩, 16), (⟨"TwoWiresModel", "withAddress", "(I)I"⟩, 16), (⟨"TwoWiresModel", "part", "(II)I"⟩, 16), (⟨"TwoWiresModel", "sets", "(III)V"⟩, 16), (⟨"TwoWiresModel", "isListener", "(I)Z"⟩, 16), (⟨"TwoWiresModel", "on", "()I"⟩, 16), (⟨"TwoWiresModel", "queues", "(IIIIJ)I"⟩, 16), (⟨"TwoWiresModel", "isCaller", "(I)Z"⟩, 16), (⟨"TwoWiresModel", "of", "(II)I"⟩, 16), (⟨"TwoWiresModel", "adds", "(III)V"⟩, 16)]
theorem lw_r6 : ∀ q ∈ lw_privs_6, lw_okq q := List.forall_mem_cons.mpr ⟨lw_p80, List.forall_mem_cons.mpr ⟨lw_p81, List.forall_mem_cons.mpr ⟨lw_p82, List.forall_mem_cons.mpr ⟨lw_p83, List.forall_mem_cons.mpr ⟨lw_p84, List.forall_mem_cons.mpr ⟨lw_p85, List.forall_mem_cons.mpr ⟨lw_p86, List.forall_mem_cons.mpr ⟨lw_p87, List.forall_mem_cons.mpr ⟨lw_p88, List.forall_mem_cons.mpr ⟨lw_p89, List.forall_mem_cons.mpr ⟨lw_p90, List.forall_mem_cons.mpr ⟨lw_p91, List.forall_mem_cons.mpr ⟨lw_p92, List.forall_mem_cons.mpr ⟨lw_p93, List.forall_mem_cons.mpr ⟨lw_p94, List.forall_mem_cons.mpr ⟨lw_p95, fun _ h => absurd h List.not_mem_nil⟩⟩⟩⟩⟩⟩⟩⟩⟩⟩⟩⟩⟩⟩⟩⟩
theorem lw_p96 : lw_okq (⟨"TwoWiresModel", "ends", "(I)I"⟩, 16) := ⟨⟨by decide +kernel, by decide +kernel⟩, List.mem_of_getElem? (i := 911) (by decide +kernel), List.mem_of_getElem? (i := 1068) (by decide +kernel), List.mem_of_getElem? (i := 1069) (by decide +kernel)⟩
theorem lw_p97 : lw_okq (⟨"TwoWiresModel", "isContender", "(I)Z"⟩, 16) := ⟨⟨by decide +kernel, by decide +kernel⟩, List.mem_of_getElem? (i := 911) (by decide +kernel), List.mem_of_getElem? (i := 1080) (by decide +kernel), List.mem_of_getElem? (i := 1081) (by decide +kernel)⟩
theorem lw_p98 : lw_okq (⟨"TwoWiresModel", "told", "(III)I"⟩, 16) := ⟨⟨by decide +kernel, by decide +kernel⟩, List.mem_of_getElem? (i := 911) (by decide +kernel), List.mem_of_getElem? (i := 1084) (by decide +kernel), List.mem_of_getElem? (i := 1085) (by decide +kernel)⟩
theorem lw_p99 : lw_okq (⟨"TwoWiresModel", "passes", "(I)I"⟩, 16) := ⟨⟨by decide +kernel, by decide +kernel⟩, List.mem_of_getElem? (i := 911) (by decide +kernel), List.mem_of_getElem? (i := 1092) (by decide +kernel), List.mem_of_getElem? (i := 1093) (by decide +kernel)⟩
theorem lw_p100 : lw_okq (⟨"TwoWiresModel", "slot", "()V"⟩, 16) := ⟨⟨by decide +kernel, by decide +kernel⟩, List.mem_of_getElem? (i := 911) (by decide +kernel), List.mem_of_getElem? (i := 1097) (by decide +kernel), List.mem_of_getElem? (i := 1098) (by decide +kernel)⟩
theorem lw_p101 : lw_okq (⟨"TwoWiresModel", "step", "()I"⟩, 16) := ⟨⟨by decide +kernel, by decide +kernel⟩, List.mem_of_getElem? (i := 911) (by decide +kernel), List.mem_of_getElem? (i := 1101) (by decide +kernel), List.mem_of_getElem? (i := 1102) (by decide +kernel)⟩
theorem lw_p102 : lw_okq (⟨"TwoWiresModel", "begins", "()I"⟩, 16) := ⟨⟨by decide +kernel, by decide +kernel⟩, List.mem_of_getElem? (i := 911) (by decide +kernel), List.mem_of_getElem? (i := 1105) (by decide +kernel), List.mem_of_getElem? (i := 1106) (by decide +kernel)⟩
theorem lw_p103 : lw_okq (⟨"TwoWiresModel", "bitOf", "(Z)I"⟩, 16) := ⟨⟨by decide +kernel, by decide +kernel⟩, List.mem_of_getElem? (i := 911) (by decide +kernel), List.mem_of_getElem? (i := 1109) (by decide +kernel), List.mem_of_getElem? (i := 1110) (by decide +kernel)⟩
theorem lw_p104 : lw_okq (⟨"TwoWiresModel", "sent", "(IZ)I"⟩, 16) := ⟨⟨by decide +kernel, by decide +kernel⟩, List.mem_of_getElem? (i := 911) (by decide +kernel), List.mem_of_getElem? (i := 1113) (by decide +kernel), List.mem_of_getElem? (i := 1114) (by decide +kernel)⟩
theorem lw_p105 : lw_okq (⟨"TwoWiresModel", "header", "(I)I"⟩, 16) := ⟨⟨by decide +kernel, by decide +kernel⟩, List.mem_of_getElem? (i := 911) (by decide +kernel), List.mem_of_getElem? (i := 1117) (by decide +kernel), List.mem_of_getElem? (i := 1118) (by decide +kernel)⟩
theorem lw_p106 : lw_okq (⟨"TwoWiresModel", "loses", "(I)V"⟩, 16) := ⟨⟨by decide +kernel, by decide +kernel⟩, List.mem_of_getElem? (i := 911) (by decide +kernel), List.mem_of_getElem? (i := 1121) (by decide +kernel), List.mem_of_getElem? (i := 1122) (by decide +kernel)⟩
theorem lw_p107 : lw_okq (⟨"TwoWiresModel", "leaves", "(II)V"⟩, 16) := ⟨⟨by decide +kernel, by decide +kernel⟩, List.mem_of_getElem? (i := 911) (by decide +kernel), List.mem_of_getElem? (i := 1125) (by decide +kernel), List.mem_of_getElem? (i := 1126) (by decide +kernel)⟩
theorem lw_p108 : lw_okq (⟨"TwoWiresModel", "headerAnswer", "()I"⟩, 16) := ⟨⟨by decide +kernel, by decide +kernel⟩, List.mem_of_getElem? (i := 911) (by decide +kernel), List.mem_of_getElem? (i := 1129) (by decide +kernel), List.mem_of_getElem? (i := 1130) (by decide +kernel)⟩
theorem lw_p109 : lw_okq (⟨"TwoWiresModel", "anyContender", "()I"⟩, 16) := ⟨⟨by decide +kernel, by decide +kernel⟩, List.mem_of_getElem? (i := 911) (by decide +kernel), List.mem_of_getElem? (i := 1133) (by decide +kernel), List.mem_of_getElem? (i := 1134) (by decide +kernel)⟩
theorem lw_p110 : lw_okq (⟨"TwoWiresModel", "allLeave", "(I)V"⟩, 16) := ⟨⟨by decide +kernel, by decide +kernel⟩, List.mem_of_getElem? (i := 911) (by decide +kernel), List.mem_of_getElem? (i := 1137) (by decide +kernel), List.mem_of_getElem? (i := 1138) (by decide +kernel)⟩
theorem lw_p111 : lw_okq (⟨"TwoWiresModel", "holds", "()V"⟩, 16) := ⟨⟨by decide +kernel, by decide +kernel⟩, List.mem_of_getElem? (i := 911) (by decide +kernel), List.mem_of_getElem? (i := 1141) (by decide +kernel), List.mem_of_getElem? (i := 1142) (by decide +kernel)⟩
def lw_privs_7 : List (MethodName × Nat) := [(⟨"TwoWiresModel", "ends", "(I)I"⟩, 16), (⟨"TwoWiresModel", "isContender", "(I)Z"⟩, 16), (⟨"TwoWiresModel", "told", "(III)I"⟩, 16), (⟨"TwoWiresModel", "passes", "(I)I"⟩, 16), (⟨"TwoWiresModel", "slot", "()V"⟩, 16), (⟨"TwoWiresModel", "step", "()I"⟩, 16), (⟨"TwoWiresModel", "begins", "()I"⟩, 16), (⟨"TwoWiresModel", "bitOf", "(Z)I"⟩, 16), (⟨"TwoWiresModel", "sent", "(IZ)I"⟩, 16), (⟨"TwoWiresModel", "header", "(I)I"⟩, 16), (⟨"TwoWiresModel", "loses", "(I)V"⟩, 16), (⟨"TwoWiresModel", "leaves", "(II)V"⟩, 16), (⟨"TwoWiresModel", "headerAnswer", "()I"⟩, 16), (⟨"TwoWiresModel", "anyContender", "()I"⟩, 16), (⟨"TwoWiresModel", "allLeave", "(I)V"⟩, 16), (⟨"TwoWiresModel", "holds", "()V"⟩, 16)]
theorem lw_r7 : ∀ q ∈ lw_privs_7, lw_okq q := List.forall_mem_cons.mpr ⟨lw_p96, List.forall_mem_cons.mpr ⟨lw_p97, List.forall_mem_cons.mpr ⟨lw_p98, List.forall_mem_cons.mpr ⟨lw_p99, List.forall_mem_cons.mpr ⟨lw_p100, List.forall_mem_cons.mpr ⟨lw_p101, List.forall_mem_cons.mpr ⟨lw_p102, List.forall_mem_cons.mpr ⟨lw_p103, List.forall_mem_cons.mpr ⟨lw_p104, List.forall_mem_cons.mpr ⟨lw_p105, List.forall_mem_cons.mpr ⟨lw_p106, List.forall_mem_cons.mpr ⟨lw_p107, List.forall_mem_cons.mpr ⟨lw_p108, List.forall_mem_cons.mpr ⟨lw_p109, List.forall_mem_cons.mpr ⟨lw_p110, List.forall_mem_cons.mpr ⟨lw_p111, fun _ h => absurd h List.not_mem_nil⟩⟩⟩⟩⟩⟩⟩⟩⟩⟩⟩⟩⟩⟩⟩⟩
theorem lw_p112 : lw_okq (⟨"TwoWiresModel", "nextByte", "()V"⟩, 16) := ⟨⟨by decide +kernel, by decide +kernel⟩, List.mem_of_getElem? (i := 911) (by decide +kernel), List.mem_of_getElem? (i := 1145) (by decide +kernel), List.mem_of_getElem? (i := 1146) (by decide +kernel)⟩
theorem lw_p113 : lw_okq (⟨"TwoWiresModel", "writeAnswer", "()I"⟩, 16) := ⟨⟨by decide +kernel, by decide +kernel⟩, List.mem_of_getElem? (i := 911) (by decide +kernel), List.mem_of_getElem? (i := 1149) (by decide +kernel), List.mem_of_getElem? (i := 1150) (by decide +kernel)⟩
theorem lw_p114 : lw_okq (⟨"TwoWiresModel", "finishes", "()I"⟩, 16) := ⟨⟨by decide +kernel, by decide +kernel⟩, List.mem_of_getElem? (i := 911) (by decide +kernel), List.mem_of_getElem? (i := 1153) (by decide +kernel), List.mem_of_getElem? (i := 1154) (by decide +kernel)⟩
theorem lw_p115 : lw_okq (⟨"TwoWiresModel", "readBit", "()I"⟩, 16) := ⟨⟨by decide +kernel, by decide +kernel⟩, List.mem_of_getElem? (i := 911) (by decide +kernel), List.mem_of_getElem? (i := 1157) (by decide +kernel), List.mem_of_getElem? (i := 1158) (by decide +kernel)⟩
theorem lw_p116 : lw_okq (⟨"TwoWiresModel", "readAnswer", "()I"⟩, 16) := ⟨⟨by decide +kernel, by decide +kernel⟩, List.mem_of_getElem? (i := 911) (by decide +kernel), List.mem_of_getElem? (i := 1161) (by decide +kernel), List.mem_of_getElem? (i := 1162) (by decide +kernel)⟩
theorem lw_p117 : lw_okq (⟨"TwoWiresModel", "finishing", "()I"⟩, 16) := ⟨⟨by decide +kernel, by decide +kernel⟩, List.mem_of_getElem? (i := 911) (by decide +kernel), List.mem_of_getElem? (i := 1172) (by decide +kernel), List.mem_of_getElem? (i := 1173) (by decide +kernel)⟩
theorem lw_p118 : lw_okq (⟨"TwoWiresModel", "isDone", "()Z"⟩, 16) := ⟨⟨by decide +kernel, by decide +kernel⟩, List.mem_of_getElem? (i := 911) (by decide +kernel), List.mem_of_getElem? (i := 1176) (by decide +kernel), List.mem_of_getElem? (i := 1177) (by decide +kernel)⟩
theorem lw_p119 : lw_okq (⟨"TwoWiresModel", "callerNumber", "(II)I"⟩, 16) := ⟨⟨by decide +kernel, by decide +kernel⟩, List.mem_of_getElem? (i := 911) (by decide +kernel), List.mem_of_getElem? (i := 1185) (by decide +kernel), List.mem_of_getElem? (i := 1186) (by decide +kernel)⟩
theorem lw_p120 : lw_okq (⟨"TwoWiresModel", "number", "(I)I"⟩, 16) := ⟨⟨by decide +kernel, by decide +kernel⟩, List.mem_of_getElem? (i := 911) (by decide +kernel), List.mem_of_getElem? (i := 1207) (by decide +kernel), List.mem_of_getElem? (i := 1208) (by decide +kernel)⟩
theorem lw_p121 : lw_okq (⟨"TwoWiresModel", "logs", "()I"⟩, 16) := ⟨⟨by decide +kernel, by decide +kernel⟩, List.mem_of_getElem? (i := 911) (by decide +kernel), List.mem_of_getElem? (i := 1215) (by decide +kernel), List.mem_of_getElem? (i := 1216) (by decide +kernel)⟩
theorem lw_p122 : lw_okq (⟨"TwoWiresModel", "logged", "(II)I"⟩, 16) := ⟨⟨by decide +kernel, by decide +kernel⟩, List.mem_of_getElem? (i := 911) (by decide +kernel), List.mem_of_getElem? (i := 1220) (by decide +kernel), List.mem_of_getElem? (i := 1221) (by decide +kernel)⟩
theorem lw_p123 : lw_okq (⟨"TwoWiresModel", "wouldTake", "()I"⟩, 16) := ⟨⟨by decide +kernel, by decide +kernel⟩, List.mem_of_getElem? (i := 911) (by decide +kernel), List.mem_of_getElem? (i := 1228) (by decide +kernel), List.mem_of_getElem? (i := 1229) (by decide +kernel)⟩
theorem lw_p124 : lw_okq (⟨"TwoWiresModel", "backs", "()V"⟩, 16) := ⟨⟨by decide +kernel, by decide +kernel⟩, List.mem_of_getElem? (i := 911) (by decide +kernel), List.mem_of_getElem? (i := 1232) (by decide +kernel), List.mem_of_getElem? (i := 1233) (by decide +kernel)⟩
theorem lw_p125 : lw_okq (⟨"TwoWiresModel", "takesAlone", "(I)I"⟩, 16) := ⟨⟨by decide +kernel, by decide +kernel⟩, List.mem_of_getElem? (i := 911) (by decide +kernel), List.mem_of_getElem? (i := 1240) (by decide +kernel), List.mem_of_getElem? (i := 1241) (by decide +kernel)⟩
theorem lw_p126 : lw_okq (⟨"TwoWiresModel", "faultOf", "()I"⟩, 16) := ⟨⟨by decide +kernel, by decide +kernel⟩, List.mem_of_getElem? (i := 911) (by decide +kernel), List.mem_of_getElem? (i := 1268) (by decide +kernel), List.mem_of_getElem? (i := 1269) (by decide +kernel)⟩
theorem lw_p127 : lw_okq (⟨"TwoWiresModel", "reads", "()V"⟩, 16) := ⟨⟨by decide +kernel, by decide +kernel⟩, List.mem_of_getElem? (i := 911) (by decide +kernel), List.mem_of_getElem? (i := 1272) (by decide +kernel), List.mem_of_getElem? (i := 1273) (by decide +kernel)⟩
def lw_privs_8 : List (MethodName × Nat) := [(⟨"TwoWiresModel", "nextByte", "()V"⟩, 16), (⟨"TwoWiresModel", "writeAnswer", "()I"⟩, 16), (⟨"TwoWiresModel", "finishes", "()I"⟩, 16), (⟨"TwoWiresModel", "readBit", "()I"⟩, 16), (⟨"TwoWiresModel", "readAnswer", "()I"⟩, 16), (⟨"TwoWiresModel", "finishing", "()I"⟩, 16), (⟨"TwoWiresModel", "isDone", "()Z"⟩, 16), (⟨"TwoWiresModel", "callerNumber", "(II)I"⟩, 16), (⟨"TwoWiresModel", "number", "(I)I"⟩, 16), (⟨"TwoWiresModel", "logs", "()I"⟩, 16), (⟨"TwoWiresModel", "logged", "(II)I"⟩, 16), (⟨"TwoWiresModel", "wouldTake", "()I"⟩, 16), (⟨"TwoWiresModel", "backs", "()V"⟩, 16), (⟨"TwoWiresModel", "takesAlone", "(I)I"⟩, 16), (⟨"TwoWiresModel", "faultOf", "()I"⟩, 16), (⟨"TwoWiresModel", "reads", "()V"⟩, 16)]
theorem lw_r8 : ∀ q ∈ lw_privs_8, lw_okq q := List.forall_mem_cons.mpr ⟨lw_p112, List.forall_mem_cons.mpr ⟨lw_p113, List.forall_mem_cons.mpr ⟨lw_p114, List.forall_mem_cons.mpr ⟨lw_p115, List.forall_mem_cons.mpr ⟨lw_p116, List.forall_mem_cons.mpr ⟨lw_p117, List.forall_mem_cons.mpr ⟨lw_p118, List.forall_mem_cons.mpr ⟨lw_p119, List.forall_mem_cons.mpr ⟨lw_p120, List.forall_mem_cons.mpr ⟨lw_p121, List.forall_mem_cons.mpr ⟨lw_p122, List.forall_mem_cons.mpr ⟨lw_p123, List.forall_mem_cons.mpr ⟨lw_p124, List.forall_mem_cons.mpr ⟨lw_p125, List.forall_mem_cons.mpr ⟨lw_p126, List.forall_mem_cons.mpr ⟨lw_p127, fun _ h => absurd h List.not_mem_nil⟩⟩⟩⟩⟩⟩⟩⟩⟩⟩⟩⟩⟩⟩⟩⟩
theorem lw_p128 : lw_okq (⟨"TwoWiresModel", "here", "()I"⟩, 16) := ⟨⟨by decide +kernel, by decide +kernel⟩, List.mem_of_getElem? (i := 911) (by decide +kernel), List.mem_of_getElem? (i := 1276) (by decide +kernel), List.mem_of_getElem? (i := 1277) (by decide +kernel)⟩
theorem lw_p129 : lw_okq (⟨"TwoWiresModel", "digit", "(II)I"⟩, 16) := ⟨⟨by decide +kernel, by decide +kernel⟩, List.mem_of_getElem? (i := 911) (by decide +kernel), List.mem_of_getElem? (i := 1280) (by decide +kernel), List.mem_of_getElem? (i := 1281) (by decide +kernel)⟩
theorem lw_p130 : lw_okq (⟨"TwoWiresModel", "wrong", "(I)V"⟩, 16) := ⟨⟨by decide +kernel, by decide +kernel⟩, List.mem_of_getElem? (i := 911) (by decide +kernel), List.mem_of_getElem? (i := 1284) (by decide +kernel), List.mem_of_getElem? (i := 1285) (by decide +kernel)⟩
theorem lw_p131 : lw_okq (⟨"TwoWiresModel", "sign", "(I)V"⟩, 16) := ⟨⟨by decide +kernel, by decide +kernel⟩, List.mem_of_getElem? (i := 911) (by decide +kernel), List.mem_of_getElem? (i := 1288) (by decide +kernel), List.mem_of_getElem? (i := 1289) (by decide +kernel)⟩
theorem lw_p132 : lw_okq (⟨"TwoWiresModel", "readNumber", "(II)I"⟩, 16) := ⟨⟨by decide +kernel, by decide +kernel⟩, List.mem_of_getElem? (i := 911) (by decide +kernel), List.mem_of_getElem? (i := 1292) (by decide +kernel), List.mem_of_getElem? (i := 1293) (by decide +kernel)⟩
theorem lw_p133 : lw_okq (⟨"TwoWiresModel", "readBytes", "()V"⟩, 16) := ⟨⟨by decide +kernel, by decide +kernel⟩, List.mem_of_getElem? (i := 911) (by decide +kernel), List.mem_of_getElem? (i := 1301) (by decide +kernel), List.mem_of_getElem? (i := 1302) (by decide +kernel)⟩
theorem lw_p134 : lw_okq (⟨"TwoWiresModel", "carries", "()I"⟩, 16) := ⟨⟨by decide +kernel, by decide +kernel⟩, List.mem_of_getElem? (i := 911) (by decide +kernel), List.mem_of_getElem? (i := 1306) (by decide +kernel), List.mem_of_getElem? (i := 1307) (by decide +kernel)⟩
theorem lw_p135 : lw_okq (⟨"TwoWiresModel", "hashes", "(I)V"⟩, 16) := ⟨⟨by decide +kernel, by decide +kernel⟩, List.mem_of_getElem? (i := 911) (by decide +kernel), List.mem_of_getElem? (i := 1315) (by decide +kernel), List.mem_of_getElem? (i := 1316) (by decide +kernel)⟩
def lw_privs_9 : List (MethodName × Nat) := [(⟨"TwoWiresModel", "here", "()I"⟩, 16), (⟨"TwoWiresModel", "digit", "(II)I"⟩, 16), (⟨"TwoWiresModel", "wrong", "(I)V"⟩, 16), (⟨"TwoWiresModel", "sign", "(I)V"⟩, 16), (⟨"TwoWiresModel", "readNumber", "(II)I"⟩, 16), (⟨"TwoWiresModel", "readBytes", "()V"⟩, 16), (⟨"TwoWiresModel", "carries", "()I"⟩, 16), (⟨"TwoWiresModel", "hashes", "(I)V"⟩, 16)]
theorem lw_r9 : ∀ q ∈ lw_privs_9, lw_okq q := List.forall_mem_cons.mpr ⟨lw_p128, List.forall_mem_cons.mpr ⟨lw_p129, List.forall_mem_cons.mpr ⟨lw_p130, List.forall_mem_cons.mpr ⟨lw_p131, List.forall_mem_cons.mpr ⟨lw_p132, List.forall_mem_cons.mpr ⟨lw_p133, List.forall_mem_cons.mpr ⟨lw_p134, List.forall_mem_cons.mpr ⟨lw_p135, fun _ h => absurd h List.not_mem_nil⟩⟩⟩⟩⟩⟩⟩⟩
def lw_privs : List (MethodName × Nat) := lw_privs_1 ++ (lw_privs_2 ++ (lw_privs_3 ++ (lw_privs_4 ++ (lw_privs_5 ++ (lw_privs_6 ++ (lw_privs_7 ++ (lw_privs_8 ++ (lw_privs_9))))))))
def lw_tbl : List Cond := k2_sels lw_privs ++ tables_1
theorem lw_privs_ok : ∀ q ∈ lw_privs, lw_okq q := by
  show ∀ q ∈ lw_privs_1 ++ (lw_privs_2 ++ (lw_privs_3 ++ (lw_privs_4 ++ (lw_privs_5 ++ (lw_privs_6 ++ (lw_privs_7 ++ (lw_privs_8 ++ (lw_privs_9)))))))), lw_okq q
  exact List.forall_mem_append.mpr ⟨lw_r1, List.forall_mem_append.mpr ⟨lw_r2, List.forall_mem_append.mpr ⟨lw_r3, List.forall_mem_append.mpr ⟨lw_r4, List.forall_mem_append.mpr ⟨lw_r5, List.forall_mem_append.mpr ⟨lw_r6, List.forall_mem_append.mpr ⟨lw_r7, List.forall_mem_append.mpr ⟨lw_r8, lw_r9⟩⟩⟩⟩⟩⟩⟩⟩
/-- the streams that the claim lets the run draw from -/
abbrev lw_cs : List Choice := [Jvm.Choice.named "NaN.bits"]
theorem lw_bits : nanBits ∈ lw_cs := by first | decide | exact List.mem_cons_self | simp [lw_cs, nanBits]
-- ===== end of PART A; then your names; then what follows =====
end
section
/-! ===== BEGIN words of one list among another's, by their places ===== -/
theorem goodIn_r {big : List Cond} (ws : List Cond) (ps : List Nat) (hp : ws = ps.filterMap (fun i => big[i]?)) (h : ws.all goodWord = true) : GoodIn big ws := by
  intro w hw
  have h1 := List.all_eq_true.mp h w hw
  rw [hp] at hw
  obtain ⟨i, -, hi⟩ := List.mem_filterMap.mp hw
  have hm : w ∈ big := by first | exact List.mem_of_getElem? hi | exact List.getElem?_mem hi
  exact ⟨hm, good_of_word h1⟩
theorem goodIn_app {big a b : List Cond} (ha : GoodIn big a) (hb : GoodIn big b) : GoodIn big (a ++ b) := fun w h => (List.mem_append.mp h).elim (ha w) (hb w)
theorem goodIn_ca {big a b : List Cond} {c : Cond} (ha : GoodIn big (c :: a)) (hb : GoodIn big b) : GoodIn big (c :: (a ++ b)) := fun w h => (List.mem_cons.mp h).elim (fun e => ha w (List.mem_cons.mpr (Or.inl e))) (fun h => (List.mem_append.mp h).elim (fun h => ha w (List.mem_cons.mpr (Or.inr h))) (hb w))
theorem goodIn_sub {big ws : List Cond} (hm : ∀ w ∈ ws, w ∈ big) (h : ws.all goodWord = true) : GoodIn big ws := fun w hw => ⟨hm w hw, good_of_word (List.all_eq_true.mp h w hw)⟩
/-! ===== END ===== -/
/-! ===== BEGIN exceptions that leave a method, and their catching by the caller (launches without stack traces) ===== -/
section VXA
/-! The laws vx_back, vx_callV, vx_callS, vx_callSW, vx_throw0, vx_throwS follow proofs of the library, with one case more: JvmDerived/Free/Laws.lean (Back.of_free), Shelf42/LK1.lean (callV, callS), Shelf/KitTraced.lean (throwNew0V, throwNewS). -/
/-- where a method has thrown q: the class by its name, the cell, what was written, the world -/
def vx_T (XC : String → State → State → Prop) (st : State) (q : Addr) (t : State) (mc ms : Nat) (free : Addr → Prop) : Prop :=
  ∃ (E : String) (ce : Cell) (L : List Loc), XC E st t ∧ t.heap[q]? = some ce ∧ ce.vm = .none ∧ st.vm.findClass E = some ce.cls ∧ st.WarmedH t.vm ∧ st.sameButNew ({ t with vm := st.vm } : State) L mc ms ∧ ∀ z ∈ L, free z.base
def vx_Q (Qc : Array Value → State → Outcome → State → Prop) (XC : String → State → State → Prop) (mc ms : Nat) (free : Addr → Prop) : Array Value → State → Outcome → State → Prop := fun a st o t =>
  (Qc a st o t ∧ ∃ L, FrameEnd st o t L mc ms ∧ ∀ q ∈ L, free q.base) ∨ ∃ q, o = .threw q ∧ vx_T XC st q t mc ms free
/-- a callee that returns or throws -/
def vx_Met (l : Launch) (y : MethodName) (ws : List Cond) (rm : Room) (Pc : Array Value → State → Prop) (Qc : Array Value → State → Outcome → State → Prop) (XC : String → State → State → Prop) (mc ms : Nat) (free : Addr → Prop) : Prop :=
  MetFree l y (headSpec ws rm) Pc (fun _ _ _ _ _ => True) (vx_Q Qc XC mc ms free)
def vx_Post (XC : String → State → State → Prop) (mc ms : Nat) (free : Addr → Prop) : Pt → Array Value → Addr → Pt → Prop := fun A a q B =>
  ∃ (g : JFrame) (mk : MethodId) (t : State) (L : List Loc) (E : String) (ce : Cell), B.U.heap = t.heap ∧ B.U.vm = t.vm ∧ XC E (A.U.calling g mk a) t ∧ t.heap[q]? = some ce ∧ ce.vm = .none ∧ A.U.vm.findClass E = some ce.cls ∧ B.locs = A.locs ++ L ∧ (∀ z ∈ L, free z.base) ∧ B.cells = A.cells + mc ∧ B.slots = A.slots + ms
def vx_Back (l : Launch) (R : Room) (p : Program) (e : Env) (below : List Frame) (s : State) (sargs : Array Value) (y : MethodName) (len W9 : Nat)
    (Pre : Pt → Array Value → Prop) (Post : Pt → Array Value → Option Value → Pt → Prop) (PostX : Pt → Array Value → Addr → Pt → Prop) : Prop :=
  ∀ (m : MethodId) (meth : Method) (c : Code) (A : Pt) (g : JFrame) (ig : Instr) (mk : MethodId) (a : Array Value),
    Stand p l e R s m sargs below meth c A.U A.locs A.cells A.slots → g.method = m → g.locals.size = c.maxLocals → decode c.code g.pc = .ok (ig, len) →
    2 * g.monitorRoom + (g.stack.map fun v => v.category).sum ≤ W9 → A.U.methodNamed? y = some mk → Pre A a →
    (∃ (v : Option Value) (B : Pt), Stand p l e R s m sargs below meth c B.U B.locs B.cells B.slots ∧ Post A a v B ∧
      Steps p.tables e below (doInvoke e (A.U.setTop g) [] mk a).1 (B.U.setTop { g with pc := g.pc + len, stack := v.toList ++ g.stack })) ∨
    (∃ (q : Addr) (B : Pt), Stand p l e R s m sargs below meth c B.U B.locs B.cells B.slots ∧ PostX A a q B ∧
      Steps p.tables e below (doInvoke e (A.U.setTop g) [] mk a).1 ((B.U.setTop g).pushFrame (.throwing q)))
section Payer
variable {l : Launch} {R : Room} {p : Program} {e : Env} {below : List Frame} {s : State} {sargs : Array Value} {y : MethodName} {len W9 : Nat}
theorem vx_back {ws : List Cond} {rm : Room} {Pc : Array Value → State → Prop} {Qc : Array Value → State → Outcome → State → Prop} {XC : String → State → State → Prop} {mc ms : Nat} {free : Addr → Prop} {bytes : ByteArray} {maxL : Nat} {ret : Option FieldType}
    (hM : vx_Met l y ws rm Pc Qc XC mc ms free) (hblind : FrameBlind Pc) (hrc : rm.cells = mc) (hrs : rm.slots = ms)
    (hframes : rm.frames + 1 ≤ R.frames) (hlocals : W9 + (maxL + 11) + rm.locals ≤ R.locals)
    (hws : ∀ w ∈ ws, ∀ a' U, s.WarmedH U.vm → w.before a' U = true) (hcode : Cond.code y bytes maxL ret ∈ ws) (hinit : ∀ a' U, s.WarmedH U.vm → (Cond.initialized y.cls).before a' U = true) :
    vx_Back l R p e below s sargs y len W9 (PreOf R mc ms Pc) (PostOf Qc mc ms free) (vx_Post XC mc ms free) := by
  intro m meth c A g ig mk a X hg hsize hdg hW hn hp
  have h1 : (headSpec ws rm).pre.before a A.U = true := atoms_intro fun w hw => hws w hw _ _ X.warmed
  have h2 : (Cond.code y bytes maxL ret).before a A.U = true := hws _ hcode _ _ X.warmed
  have h3 : (Cond.initialized y.cls).before a A.U = true := hinit _ _ X.warmed
  have h4 : A.cells + (headSpec ws rm).room.cells ≤ R.cells := by rw [show (headSpec ws rm).room.cells = mc from hrc]; exact hp.1
  have h5 : A.slots + (headSpec ws rm).room.slots ≤ R.slots := by rw [show (headSpec ws rm).room.slots = ms from hrs]; exact hp.2.1
  have hPc : Pc a (A.U.calling g mk a) := hblind _ _ _ _ hp.2.2
  obtain ⟨U, Ls, c0, s0⟩ := A
  dsimp only [Pt.U, Pt.locs, Pt.cells, Pt.slots] at h1 h2 h3 h4 h5 X hn hPc ⊢
  obtain ⟨methY, cY, hmY, hcY, -, hlY, -, -, -, -⟩ := Cond.code_spec hn h2
  obtain ⟨kY, hkY, -⟩ := className_of_methodNamed hn
  have hinitY : kY.init = .initialized := Cond.initialized_spec (findClass_of_methodNamed hn) hkY h3
  have h : At U g.method c below := by rw [hg]; exact X.here
  have hlocals9 : W9 + (maxL + 11) + (headSpec ws rm).room.locals ≤ R.locals := hlocals
  have happ : (headSpec ws rm).appliesLoose y e.platform (U.calling g mk a) = true :=
    Spec.appliesLoose_calling (g := g) h hdg hn hkY hinitY
      (X.room_calling (g := g) (R' := (headSpec ws rm).room) hsize hmY hcY hframes (by rw [hlY]; omega) h4 h5) h1
  obtain ⟨mid, hmid⟩ := h.above
  have hfr : (U.setTop g).frames = (.java g :: mid) ++ below := by rw [State.frames_setTop' g h.top, hmid]; rfl
  obtain ⟨o, s₂, hsteps, -, hend, hq⟩ := Steps.callFree hM p X.admits X.cas X.clock (acts := []) hfr happ hPc trivial
  have hq' : vx_Q Qc XC mc ms free a (U.calling g mk a) o s₂ := hq
  rw [State.frames_setTop' g h.top] at hend
  obtain ⟨g₀, hg0⟩ := Option.isSome_iff_exists.mp h.top
  obtain ⟨r, hr⟩ := State.topJava?_eq_some.mp hg0
  have hr' : (({ U with heap := s₂.heap, slotsUsed := s₂.slotsUsed } : State).setVm s₂.vm).frames = .java g₀ :: r := hr
  rcases hq' with ⟨hqc, L, hfe, hL⟩ | ⟨q, rfl, E, ce, L, hx, hce, hcv, hcl, hW₂, hsm, hL⟩
  · obtain ⟨⟨v, rfl⟩, hW₂, e2, q2, q3, q4, q5, q6⟩ := id hfe
    have e3 : s₂ = ({ (U.calling g mk a).setFrames s₂.frames with heap := s₂.heap, slotsUsed := s₂.slotsUsed } : State).setVm s₂.vm := by
      have : s₂ = ({ s₂ with vm := (U.calling g mk a).vm } : State).setVm s₂.vm := rfl
      rw [e2] at this
      exact this
    obtain ⟨c₂, i₂, len₂, hc₂, hd₂, hf₂⟩ := hend
    have hW' : U.WarmedH s₂.vm := hW₂
    have hcc : c₂ = c := by
      have h1 : s₂.code? g.method = U.code? g.method := by
        rw [State.code?_eq, State.code?_eq, hW'.alike.method?]
      exact Option.some.inj (hc₂.symm.trans (h1.trans h.code))
    subst hcc
    have hlen : len₂ = len := by rw [hdg] at hd₂; cases hd₂; rfl
    subst hlen
    have hs₂ : s₂ = (({ U with heap := s₂.heap, slotsUsed := s₂.slotsUsed } : State).setVm s₂.vm).setTop { g with pc := g.pc + len₂, stack := v.toList ++ g.stack } := by
      refine e3.trans ?_
      rw [hf₂, State.calling_eq h.top, State.setFrames_setFrames, State.setTop_of_frames _ hr', hr]
      rfl
    have hsame : U.sameButNew ({ U with heap := s₂.heap, slotsUsed := s₂.slotsUsed } : State) L mc ms := by
      refine ⟨?_, q2, q3, q4, q5, q6⟩
      obtain ⟨t, ht, -⟩ := State.frames_cons hr
      show ({ U with heap := s₂.heap, slotsUsed := s₂.slotsUsed } : State) = { U.setFrames U.frames with heap := s₂.heap, slotsUsed := s₂.slotsUsed }
      rw [State.setFrames_self ht]
    subst hg
    refine Or.inl ⟨v, ⟨(({ U with heap := s₂.heap, slotsUsed := s₂.slotsUsed } : State).setVm s₂.vm), Ls ++ L, c0 + mc, s0 + ms⟩,
      ⟨X.admits, X.cas, X.clock, X.frames, X.room, X.hears, X.method, X.code, (X.here.setHeapUsed s₂.heap s₂.slotsUsed).setVm hW'.alike, X.tail, State.WarmedH.trans X.warmed hW', X.limits, X.bytes, X.same.trans (hsame.setVm s.vm)⟩,
      ⟨g, mk, s₂, L, rfl, rfl, hqc, rfl, hL, rfl, rfl⟩, ?_⟩
    show Steps p.tables e below _ ((({ U with heap := s₂.heap, slotsUsed := s₂.slotsUsed } : State).setVm s₂.vm).setTop { g with pc := g.pc + len₂, stack := v.toList ++ g.stack })
    rw [← hs₂]
    exact hsteps
  · obtain ⟨e2, q2, q3, q4, q5, q6⟩ := id hsm
    have e3 : s₂ = ({ (U.calling g mk a).setFrames s₂.frames with heap := s₂.heap, slotsUsed := s₂.slotsUsed } : State).setVm s₂.vm := by
      have : s₂ = ({ s₂ with vm := (U.calling g mk a).vm } : State).setVm s₂.vm := rfl
      rw [e2] at this
      exact this
    have hf₂ : s₂.frames = .throwing q :: .java g :: U.frames.tail := hend
    have hW' : U.WarmedH s₂.vm := hW₂
    have hs₂ : s₂ = ((({ U with heap := s₂.heap, slotsUsed := s₂.slotsUsed } : State).setVm s₂.vm).setTop g).pushFrame (.throwing q) := by
      refine e3.trans ?_
      rw [hf₂, State.calling_eq h.top, State.setFrames_setFrames, State.pushFrame, State.frames_setTop _ hr', State.setTop_of_frames _ hr', State.setFrames_setFrames, hr]
      rfl
    have hsame : U.sameButNew ({ U with heap := s₂.heap, slotsUsed := s₂.slotsUsed } : State) L mc ms := by
      refine ⟨?_, q2, q3, q4, q5, q6⟩
      obtain ⟨t, ht, -⟩ := State.frames_cons hr
      show ({ U with heap := s₂.heap, slotsUsed := s₂.slotsUsed } : State) = { U.setFrames U.frames with heap := s₂.heap, slotsUsed := s₂.slotsUsed }
      rw [State.setFrames_self ht]
    subst hg
    refine Or.inr ⟨q, ⟨(({ U with heap := s₂.heap, slotsUsed := s₂.slotsUsed } : State).setVm s₂.vm), Ls ++ L, c0 + mc, s0 + ms⟩,
      ⟨X.admits, X.cas, X.clock, X.frames, X.room, X.hears, X.method, X.code, (X.here.setHeapUsed s₂.heap s₂.slotsUsed).setVm hW'.alike, X.tail, State.WarmedH.trans X.warmed hW', X.limits, X.bytes, X.same.trans (hsame.setVm s.vm)⟩,
      ⟨g, mk, s₂, L, E, ce, rfl, rfl, hx, hce, hcv, hcl, rfl, hL, rfl, rfl⟩, ?_⟩
    show Steps p.tables e below _ (((({ U with heap := s₂.heap, slotsUsed := s₂.slotsUsed } : State).setVm s₂.vm).setTop g).pushFrame (.throwing q))
    rw [← hs₂]
    exact hsteps
end Payer
section Calls
variable {p : Program} {l : Launch} {e : Env} {R : Room} {s : State} {m : MethodId} {args : Array Value} {below : List Frame} {meth : Method} {c : Code} {T : State} {locs : List Loc} {cells slots : Nat}
theorem vx_callV (X : Stand p l e R s m args below meth c T locs cells slots) (hexec : p.tables.exec = Jvm.exec) {own C : String} {index : Nat} {y : MethodName} {bytes : ByteArray} {maxL : Nat} {ret : Option FieldType}
    (hown : s.vm.findClass own = some m.cls) (hlink : (Cond.methodLink own index y).before args s = true) (hinst : (Cond.instanceMethod y).before args s = true) (hsel : (Cond.selects C y y).before args s = true)
    (hcode : (Cond.code y bytes maxL ret).before args s = true) (hy : y.cls ≠ "java/lang/invoke/MethodHandle" ∧ y.cls ≠ "java/lang/invoke/VarHandle")
    {W9 : Nat} {Pre : Pt → Array Value → Prop} {Post : Pt → Array Value → Option Value → Pt → Prop} {PostX : Pt → Array Value → Addr → Pt → Prop} (hK : vx_Back l R p e below s args y 3 W9 Pre Post PostX)
    {b : Addr} {cellB : Cell} (hcell : T.heap[b]? = some cellB) (hobj : cellB.vm.isStatics = false) (hcls : s.vm.findClass C = some cellB.cls)
    {g : JFrame} (hg : g.method = m) (hsize : g.locals.size = c.maxLocals) {argsL rest : List Value} (hlen : ∀ sig, parseMethodDescriptor y.desc = some sig → argsL.length = sig.parameters.length)
    (hstack : g.stack = argsL.reverse ++ .ref b :: rest) (hW : 2 * g.monitorRoom + (rest.map fun v => v.category).sum ≤ W9) (hdg : decode c.code g.pc = .ok (.invokevirtual index, 3))
    (hpre : ∀ vm₁, s.WarmedH vm₁ → Pre ⟨T.setVm vm₁, locs, cells, slots⟩ (Value.ref b :: argsL).toArray) :
    (∃ (v : Option Value) (vm₁ : Vm) (B : Pt), s.WarmedH vm₁ ∧ Stand p l e R s m args below meth c B.U B.locs B.cells B.slots ∧ Post ⟨T.setVm vm₁, locs, cells, slots⟩ (Value.ref b :: argsL).toArray v B ∧
      ∀ target, Steps p.tables e below (B.U.setTop { g with pc := g.pc + 3, stack := v.toList ++ rest }) target → Steps p.tables e below (T.setTop g) target) ∨
    (∃ (q : Addr) (vm₁ : Vm) (B : Pt), s.WarmedH vm₁ ∧ Stand p l e R s m args below meth c B.U B.locs B.cells B.slots ∧ PostX ⟨T.setVm vm₁, locs, cells, slots⟩ (Value.ref b :: argsL).toArray q B ∧
      Steps p.tables e below (T.setTop g) ((B.U.setTop { g with stack := rest }).pushFrame (.throwing q))) := by
  obtain ⟨mk, methM, hnamed, hmethM, hstM, habM⟩ := Cond.instanceMethod_spec hinst
  obtain ⟨methM', cM, hmethM', -, -, -, -, -, -, hsigM⟩ := Cond.code_spec hnamed hcode
  cases hmethM.symm.trans hmethM'
  obtain ⟨c2, r2, m2, q1, q2, q3, q4, kP, hkP, hkPi⟩ := Cond.selects_spec hsel
  cases hcls.symm.trans q1
  cases (State.methodFound?_of_named hnamed hy).symm.trans q2
  cases hnamed.symm.trans q3
  have hselP : selectMethod e.platform s.vm cellB.cls mk = .method mk := by rw [Launch.admits_selectMethod X.admits]; exact q4
  obtain ⟨vm₁, X₁, hstep₁⟩ := X.invokevirtual hexec hown hlink hnamed hmethM hstM hkP hkPi hy (a := b) (cell := cellB) hcell
    (fun z h => by rw [h] at hobj; cases hobj) hselP hmethM habM hkP hkPi (g := g) hg (argsL := argsL) (rest := rest) (hlen _ hsigM) hstack hdg
  rcases hK m meth c ⟨T.setVm vm₁, locs, cells, slots⟩ { g with stack := rest } (.invokevirtual index) mk (Value.ref b :: argsL).toArray X₁ hg hsize hdg hW (X₁.named hnamed) (hpre vm₁ X₁.warmed) with ⟨v, B, X', hpost, hsteps⟩ | ⟨q, B, X', hpost, hsteps⟩
  · exact Or.inl ⟨v, vm₁, B, X₁.warmed, X', hpost, fun target h => hstep₁ _ fun acts => by rw [doInvoke_state]; exact hsteps.trans h⟩
  · exact Or.inr ⟨q, vm₁, B, X₁.warmed, X', hpost, hstep₁ _ fun acts => by rw [doInvoke_state]; exact hsteps⟩
theorem vx_callS (X : Stand p l e R s m args below meth c T locs cells slots) (hexec : p.tables.exec = Jvm.exec) {own : String} {index : Nat} {y : MethodName} {bytes : ByteArray} {maxL : Nat} {ret : Option FieldType}
    (hown : s.vm.findClass own = some m.cls) (hlink : (Cond.methodLink own index y).before args s = true) (hstat : (Cond.static y).before args s = true) (hinit : (Cond.initialized y.cls).before args s = true)
    (hcode : (Cond.code y bytes maxL ret).before args s = true) (hy : y.cls ≠ "java/lang/invoke/MethodHandle" ∧ y.cls ≠ "java/lang/invoke/VarHandle")
    {W9 : Nat} {Pre : Pt → Array Value → Prop} {Post : Pt → Array Value → Option Value → Pt → Prop} {PostX : Pt → Array Value → Addr → Pt → Prop} (hK : vx_Back l R p e below s args y 3 W9 Pre Post PostX)
    {g : JFrame} (hg : g.method = m) (hsize : g.locals.size = c.maxLocals) {argsL rest : List Value} (hlen : ∀ sig, parseMethodDescriptor y.desc = some sig → argsL.length = sig.parameters.length)
    (hstack : g.stack = argsL.reverse ++ rest) (hW : 2 * g.monitorRoom + (rest.map fun v => v.category).sum ≤ W9) (hdg : decode c.code g.pc = .ok (.invokestatic index, 3))
    (hpre : ∀ vm₁, s.WarmedH vm₁ → Pre ⟨T.setVm vm₁, locs, cells, slots⟩ argsL.toArray) :
    (∃ (v : Option Value) (vm₁ : Vm) (B : Pt), s.WarmedH vm₁ ∧ Stand p l e R s m args below meth c B.U B.locs B.cells B.slots ∧ Post ⟨T.setVm vm₁, locs, cells, slots⟩ argsL.toArray v B ∧
      ∀ target, Steps p.tables e below (B.U.setTop { g with pc := g.pc + 3, stack := v.toList ++ rest }) target → Steps p.tables e below (T.setTop g) target) ∨
    (∃ (q : Addr) (vm₁ : Vm) (B : Pt), s.WarmedH vm₁ ∧ Stand p l e R s m args below meth c B.U B.locs B.cells B.slots ∧ PostX ⟨T.setVm vm₁, locs, cells, slots⟩ argsL.toArray q B ∧
      Steps p.tables e below (T.setTop g) ((B.U.setTop { g with stack := rest }).pushFrame (.throwing q))) := by
  obtain ⟨mk, hnamed⟩ := Cond.code_named hcode
  obtain ⟨methM, cM, hmethM, -, -, -, -, -, -, hsigM⟩ := Cond.code_spec hnamed hcode
  have hstatic : methM.isStatic = true := Cond.static_spec hnamed hmethM hstat
  obtain ⟨kP, hkP, -⟩ := className_of_methodNamed hnamed
  have hinitP : kP.init = .initialized := Cond.initialized_spec (findClass_of_methodNamed hnamed) hkP hinit
  obtain ⟨vm₁, X₁, hstep₁⟩ := X.invokestatic hexec hown hlink hnamed hmethM hstatic hkP hinitP hy (g := g) hg (argsL := argsL) (rest := rest) (hlen _ hsigM) hstack hdg
  rcases hK m meth c ⟨T.setVm vm₁, locs, cells, slots⟩ { g with stack := rest } (.invokestatic index) mk argsL.toArray X₁ hg hsize hdg hW (X₁.named hnamed) (hpre vm₁ X₁.warmed) with ⟨v, B, X', hpost, hsteps⟩ | ⟨q, B, X', hpost, hsteps⟩
  · exact Or.inl ⟨v, vm₁, B, X₁.warmed, X', hpost, fun target h => hstep₁ _ fun acts => by rw [doInvoke_state]; exact hsteps.trans h⟩
  · exact Or.inr ⟨q, vm₁, B, X₁.warmed, X', hpost, hstep₁ _ fun acts => by rw [doInvoke_state]; exact hsteps⟩
end Calls
theorem vx_cls {s : State} {T : State} {vm₁ : Vm} {E : String} {k : ClassId} (hW : s.WarmedH vm₁) (h : (T.setVm vm₁).vm.findClass E = some k) : s.vm.findClass E = some k := by
  have h1 : vm₁.findClass E = some k := h
  rw [hW.alike.findClass] at h1
  exact h1
/-- the method's frame g, with q thrown over it -/
def vx_W (p : Program) (l : Launch) (e : Env) (R : Room) (s : State) (m : MethodId) (args : Array Value) (below : List Frame) (meth : Method) (c : Code) (H : Heap) (locs : List Loc) (cells slots : Nat) (Q : State → Prop) (g : JFrame) (q : Addr) : Prop :=
  ∀ T : State, T.heap = H → Stand p l e R s m args below meth c T locs cells slots → ∃ t, Steps p.tables e below ((T.setTop g).pushFrame (.throwing q)) t ∧ Q t
def vx_Run (p : Program) (l : Launch) (e : Env) (R : Room) (s : State) (m : MethodId) (args : Array Value) (below : List Frame) (meth : Method) (c : Code) (H : Heap) (locs : List Loc) (cells slots mc ms : Nat) (g : JFrame) (rest : List Value) (Qa : State → Outcome → State → Prop) (XC : String → State → State → Prop) (free : Addr → Prop) : Prop :=
  ∀ T : State, T.heap = H → Stand p l e R s m args below meth c T locs cells slots →
    (∃ (v : Option Value) (st₀ t T' : State) (L : List Loc), st₀.heap = H ∧ Stand p l e R s m args below meth c T' (locs ++ L) (cells + mc) (slots + ms) ∧ (∀ q ∈ L, free q.base) ∧ T'.heap = t.heap ∧ T'.vm = t.vm ∧ Qa st₀ (.returned v) t ∧
      Goes p e below T g T' { g with pc := g.pc + 3, stack := v.toList ++ rest }) ∨
    (∃ (q : Addr) (st₀ t T' : State) (L : List Loc) (E : String) (ce : Cell), st₀.heap = H ∧ Stand p l e R s m args below meth c T' (locs ++ L) (cells + mc) (slots + ms) ∧ (∀ z ∈ L, free z.base) ∧ T'.heap = t.heap ∧ T'.vm = t.vm ∧ XC E st₀ t ∧ t.heap[q]? = some ce ∧ ce.vm = .none ∧ s.vm.findClass E = some ce.cls ∧
      Steps p.tables e below (T.setTop g) ((T'.setTop { g with stack := rest }).pushFrame (.throwing q)))
def vx_X {S : Type} (px : S → Prop) (B : String → S → State → Prop) (A : Nat → Prop) : String → State → State → Prop := fun E st t => ∃ u : S, px u ∧ B E u t ∧ va_F A st t
section Runs
variable {p : Program} {l : Launch} {e : Env} {R : Room} {s : State} {m : MethodId} {args : Array Value} {below : List Frame} {meth : Method} {c : Code} {H : Heap} {locs : List Loc} {cells slots : Nat}
variable {y : MethodName} {bytes cc : ByteArray} {maxL nL mc ms n index : Nat} {ret : Option FieldType} {ws : List Cond} {rm : Room} {Pc : Array Value → State → Prop} {Qc : Array Value → State → Outcome → State → Prop} {XC : String → State → State → Prop} {free : Addr → Prop} {Ts : List Cond} {own C : String} {b : Addr} {As rest : List Value} {g : JFrame}
theorem vx_callBack (cb : CallB R s args own index y bytes maxL ret ws rm mc ms n) (hM : vx_Met l y ws rm Pc Qc XC mc ms free) (hbl : FrameBlind Pc) : vx_Back l R p e below s args y 3 8 (PreOf R mc ms Pc) (PostOf Qc mc ms free) (vx_Post XC mc ms free) := by
  obtain ⟨hrc, hrs, hfr, hlo, hws, hcw, -, hini, -⟩ := cb
  exact vx_back (bytes := bytes) (maxL := maxL) (ret := ret) hM hbl hrc hrs hfr hlo hws hcw (fun a' U hW => word_at hW (Or.inl (by first | rfl | simp [Cond.onTables, Cond.keeps, Cond.steady])) hini)
theorem vx_runV (S : CallFix p m c cc nL s args Ts own) (hM : vx_Met l y ws rm Pc Qc XC mc ms free) (cw : CallW R s args own C index y bytes maxL ret ws rm mc ms n) (hp : PreV s H C b Pc As)
    (hg : g.method = m) (hn : As.length = n) (hsize : g.locals.size = nL) (hstack : g.stack = As.reverse ++ .ref b :: rest) (hW : 2 * g.monitorRoom + (rest.map fun v => v.category).sum ≤ 8) (hdg : decode cc g.pc = .ok (.invokevirtual index, 3)) (hf : cells + mc ≤ R.cells ∧ slots + ms ≤ R.slots) :
    vx_Run p l e R s m args below meth c H locs cells slots mc ms g rest (Qc (Value.ref b :: As).toArray) XC free := by
  have hK : vx_Back l R p e below s args y 3 8 (PreOf R mc ms Pc) (PostOf Qc mc ms free) (vx_Post XC mc ms free) := vx_callBack cw.1 hM hp.1
  obtain ⟨⟨-, -, -, -, -, -, hcode, -, hy, hlen, hl⟩, hin, hse⟩ := cw
  obtain ⟨hx, hb, hml, ho, -⟩ := S
  obtain ⟨-, ⟨cellB, hcB, hoB, hclB⟩, hPc⟩ := hp
  intro T hT X
  rcases vx_callV X hx (C := C) (bytes := bytes) (maxL := maxL) (ret := ret) ho hl hin hse hcode hy hK (by rw [hT]; exact hcB) hoB hclB hg (hsize.trans hml.symm) (argsL := As) (rest := rest) (fun sig h => hn.trans (hlen sig h)) hstack hW (by rw [hb]; exact hdg)
    (fun vm₁ hW₁ => ⟨hf.1, hf.2, hPc (T.setVm vm₁) hT hW₁⟩) with ⟨v, vm₁, ⟨U', l2, c2, s2⟩, hW₁, X', ⟨g', mk, t, L, e1, e2, hq, h1, hL, h2, h3⟩, st⟩ | ⟨q, vm₁, ⟨U', l2, c2, s2⟩, hW₁, X', ⟨g', mk, t, L, E, ce, e1, e2, hq, hce, hcv, hcl, h1, hL, h2, h3⟩, st⟩
  · dsimp only [Pt.U, Pt.locs, Pt.cells, Pt.slots] at X' e1 e2 h1 h2 h3 st
    subst h1; subst h2; subst h3
    exact Or.inl ⟨v, (T.setVm vm₁).calling g' mk (Value.ref b :: As).toArray, t, U', L, hT, X', hL, e1, e2, hq, st⟩
  · dsimp only [Pt.U, Pt.locs, Pt.cells, Pt.slots] at X' e1 e2 h1 h2 h3 st hcl
    subst h1; subst h2; subst h3
    exact Or.inr ⟨q, (T.setVm vm₁).calling g' mk (Value.ref b :: As).toArray, t, U', L, E, ce, hT, X', hL, e1, e2, hq, hce, hcv, vx_cls hW₁ hcl, st⟩
theorem vx_runS (S : CallFix p m c cc nL s args Ts own) (hM : vx_Met l y ws rm Pc Qc XC mc ms free) (cw : CallB R s args own index y bytes maxL ret ws rm mc ms n ∧ (Cond.static y).before args s = true) (hp : PreS s H Pc As)
    (hg : g.method = m) (hn : As.length = n) (hsize : g.locals.size = nL) (hstack : g.stack = As.reverse ++ rest) (hW : 2 * g.monitorRoom + (rest.map fun v => v.category).sum ≤ 8) (hdg : decode cc g.pc = .ok (.invokestatic index, 3)) (hf : cells + mc ≤ R.cells ∧ slots + ms ≤ R.slots) :
    vx_Run p l e R s m args below meth c H locs cells slots mc ms g rest (Qc As.toArray) XC free := by
  have hK : vx_Back l R p e below s args y 3 8 (PreOf R mc ms Pc) (PostOf Qc mc ms free) (vx_Post XC mc ms free) := vx_callBack cw.1 hM hp.1
  obtain ⟨⟨-, -, -, -, -, -, hcode, hini, hy, hlen, hl⟩, hstt⟩ := cw
  obtain ⟨hx, hb, hml, ho, -⟩ := S
  intro T hT X
  rcases vx_callS X hx (bytes := bytes) (maxL := maxL) (ret := ret) ho hl hstt hini hcode hy hK hg (hsize.trans hml.symm) (argsL := As) (rest := rest) (fun sig h => hn.trans (hlen sig h)) hstack hW (by rw [hb]; exact hdg)
    (fun vm₁ hW₁ => ⟨hf.1, hf.2, hp.2 (T.setVm vm₁) hT hW₁⟩) with ⟨v, vm₁, ⟨U', l2, c2, s2⟩, hW₁, X', ⟨g', mk, t, L, e1, e2, hq, h1, hL, h2, h3⟩, st⟩ | ⟨q, vm₁, ⟨U', l2, c2, s2⟩, hW₁, X', ⟨g', mk, t, L, E, ce, e1, e2, hq, hce, hcv, hcl, h1, hL, h2, h3⟩, st⟩
  · dsimp only [Pt.U, Pt.locs, Pt.cells, Pt.slots] at X' e1 e2 h1 h2 h3 st
    subst h1; subst h2; subst h3
    exact Or.inl ⟨v, (T.setVm vm₁).calling g' mk As.toArray, t, U', L, hT, X', hL, e1, e2, hq, st⟩
  · dsimp only [Pt.U, Pt.locs, Pt.cells, Pt.slots] at X' e1 e2 h1 h2 h3 st hcl
    subst h1; subst h2; subst h3
    exact Or.inr ⟨q, (T.setVm vm₁).calling g' mk As.toArray, t, U', L, E, ce, hT, X', hL, e1, e2, hq, hce, hcv, vx_cls hW₁ hcl, st⟩
end Runs
section Rows
variable {p : Program} {l : Launch} {e : Env} {R : Room} {s : State} {m : MethodId} {args : Array Value} {below : List Frame} {meth : Method} {c : Code} {H : Heap} {locs : List Loc} {cells slots : Nat} {Q : State → Prop}
variable {mc ms : Nat} {free : Addr → Prop} {A0 A1 : Nat → Prop} {H0 : Heap} {a : Array Value} {pc : Nat} {ls : Array Slot} {st0 rest : List Value}
theorem vx_keep {st₀ t T' : State} {L : List Loc} (h0 : st₀.heap = H) (e1 : T'.heap = t.heap) (hS : va_S A0 H0 H locs) (hA : ∀ q, q < H.size → A1 q → A0 q) (hf : ∀ q, free q → A0 q) (hL : ∀ q ∈ L, free q.base) (hF : va_F A1 st₀ t) :
    H.size ≤ T'.heap.size ∧ (∀ q : Nat, q < H.size → ¬ A1 q → T'.heap[q]? = H[q]?) ∧ va_S A0 H0 T'.heap (locs ++ L) := by
  obtain ⟨hz, hk⟩ := hF
  rw [h0] at hz hk
  exact ⟨by rw [e1]; exact hz, fun q h1 h2 => by rw [e1]; exact hk q h1 h2,
    ⟨Nat.le_trans hS.1 (by rw [e1]; exact hz), fun q h1 h2 => by rw [e1, hk q (Nat.lt_of_lt_of_le h1 hS.1) (fun z => h2 (hA q (Nat.lt_of_lt_of_le h1 hS.1) z))]; exact hS.2.1 q h1 h2, fun q hq => by
      rcases List.mem_append.mp hq with h | h
      · exact hS.2.2 q h
      · exact hf _ (hL q h)⟩⟩
theorem vx_calli {S SX : Type} {post : Int32 → S → Prop} {px : SX → Prop} {B : S → State → Prop} {BX : String → SX → State → Prop} {AX : Nat → Prop} (hr : vx_Run p l e R s m args below meth c H locs cells slots mc ms (F0 m pc ls st0) rest (va_Qi post B A1 a) (vx_X px BX AX) free) (hS : va_S A0 H0 H locs) (hA : ∀ q, q < H.size → A1 q → A0 q) (hf : ∀ q, free q → A0 q) (hAX : ∀ q, q < H.size → AX q → A0 q)
    (kx : ∀ (E : String) (ce : Cell) (q9 : Addr) (u : SX) (t : State) (H1 : Heap) (locs1 : List Loc), t.heap = H1 → s.vm.Alike t.vm → px u → BX E u t → H.size ≤ H1.size → (∀ q : Nat, q < H.size → ¬ AX q → H1[q]? = H[q]?) → va_S A0 H0 H1 locs1 → H1[q9]? = some ce → ce.vm = .none → s.vm.findClass E = some ce.cls → vx_W p l e R s m args below meth c H1 locs1 (cells + mc) (slots + ms) Q (F0 m pc ls rest) q9)
    (kk : ∀ (r : Int32) (u : S) (t : State) (H1 : Heap) (locs1 : List Loc), t.heap = H1 → s.vm.Alike t.vm → post r u → B u t → H.size ≤ H1.size → (∀ q : Nat, q < H.size → ¬ A1 q → H1[q]? = H[q]?) → va_S A0 H0 H1 locs1 → W p l e R s m args below meth c H1 locs1 (cells + mc) (slots + ms) Q (F0 m (pc + 3) ls (.int r :: rest))) : W p l e R s m args below meth c H locs cells slots Q (F0 m pc ls st0) := by
  intro T hT X
  rcases hr T hT X with ⟨v, st₀, t, T', L, h0, X', hL, e1, e2, ⟨⟨r, u, hv, hp, hb⟩, hF⟩, st⟩ | ⟨q, st₀, t, T', L, E, ce, h0, X', hL, e1, e2, ⟨u, hp, hb, hF⟩, hce, hcv, hcl, st⟩
  · cases hv
    obtain ⟨k1, k2, k3⟩ := vx_keep h0 e1 hS hA hf hL hF
    obtain ⟨t2, a1, b1⟩ := kk r u t T'.heap (locs ++ L) e1.symm (by rw [← e2]; exact X'.warmed.alike) hp hb k1 k2 k3 T' rfl X'
    exact ⟨t2, st t2 a1, b1⟩
  · obtain ⟨k1, k2, k3⟩ := vx_keep h0 e1 hS hAX hf hL hF
    obtain ⟨t2, a1, b1⟩ := kx E ce q u t T'.heap (locs ++ L) e1.symm (by rw [← e2]; exact X'.warmed.alike) hp hb k1 k2 k3 (by rw [e1]; exact hce) hcv hcl T' rfl X'
    exact ⟨t2, st.trans a1, b1⟩
theorem vx_calll {S SX : Type} {post : Int64 → S → Prop} {px : SX → Prop} {B : S → State → Prop} {BX : String → SX → State → Prop} {AX : Nat → Prop} (hr : vx_Run p l e R s m args below meth c H locs cells slots mc ms (F0 m pc ls st0) rest (va_Ql post B A1 a) (vx_X px BX AX) free) (hS : va_S A0 H0 H locs) (hA : ∀ q, q < H.size → A1 q → A0 q) (hf : ∀ q, free q → A0 q) (hAX : ∀ q, q < H.size → AX q → A0 q)
    (kx : ∀ (E : String) (ce : Cell) (q9 : Addr) (u : SX) (t : State) (H1 : Heap) (locs1 : List Loc), t.heap = H1 → s.vm.Alike t.vm → px u → BX E u t → H.size ≤ H1.size → (∀ q : Nat, q < H.size → ¬ AX q → H1[q]? = H[q]?) → va_S A0 H0 H1 locs1 → H1[q9]? = some ce → ce.vm = .none → s.vm.findClass E = some ce.cls → vx_W p l e R s m args below meth c H1 locs1 (cells + mc) (slots + ms) Q (F0 m pc ls rest) q9)
    (kk : ∀ (r : Int64) (u : S) (t : State) (H1 : Heap) (locs1 : List Loc), t.heap = H1 → s.vm.Alike t.vm → post r u → B u t → H.size ≤ H1.size → (∀ q : Nat, q < H.size → ¬ A1 q → H1[q]? = H[q]?) → va_S A0 H0 H1 locs1 → W p l e R s m args below meth c H1 locs1 (cells + mc) (slots + ms) Q (F0 m (pc + 3) ls (.long r :: rest))) : W p l e R s m args below meth c H locs cells slots Q (F0 m pc ls st0) := by
  intro T hT X
  rcases hr T hT X with ⟨v, st₀, t, T', L, h0, X', hL, e1, e2, ⟨⟨r, u, hv, hp, hb⟩, hF⟩, st⟩ | ⟨q, st₀, t, T', L, E, ce, h0, X', hL, e1, e2, ⟨u, hp, hb, hF⟩, hce, hcv, hcl, st⟩
  · cases hv
    obtain ⟨k1, k2, k3⟩ := vx_keep h0 e1 hS hA hf hL hF
    obtain ⟨t2, a1, b1⟩ := kk r u t T'.heap (locs ++ L) e1.symm (by rw [← e2]; exact X'.warmed.alike) hp hb k1 k2 k3 T' rfl X'
    exact ⟨t2, st t2 a1, b1⟩
  · obtain ⟨k1, k2, k3⟩ := vx_keep h0 e1 hS hAX hf hL hF
    obtain ⟨t2, a1, b1⟩ := kx E ce q u t T'.heap (locs ++ L) e1.symm (by rw [← e2]; exact X'.warmed.alike) hp hb k1 k2 k3 (by rw [e1]; exact hce) hcv hcl T' rfl X'
    exact ⟨t2, st.trans a1, b1⟩
theorem vx_callf {S SX : Type} {post : UInt32 → S → Prop} {px : SX → Prop} {B : S → State → Prop} {BX : String → SX → State → Prop} {AX : Nat → Prop} (hr : vx_Run p l e R s m args below meth c H locs cells slots mc ms (F0 m pc ls st0) rest (va_Qf post B A1 a) (vx_X px BX AX) free) (hS : va_S A0 H0 H locs) (hA : ∀ q, q < H.size → A1 q → A0 q) (hf : ∀ q, free q → A0 q) (hAX : ∀ q, q < H.size → AX q → A0 q)
    (kx : ∀ (E : String) (ce : Cell) (q9 : Addr) (u : SX) (t : State) (H1 : Heap) (locs1 : List Loc), t.heap = H1 → s.vm.Alike t.vm → px u → BX E u t → H.size ≤ H1.size → (∀ q : Nat, q < H.size → ¬ AX q → H1[q]? = H[q]?) → va_S A0 H0 H1 locs1 → H1[q9]? = some ce → ce.vm = .none → s.vm.findClass E = some ce.cls → vx_W p l e R s m args below meth c H1 locs1 (cells + mc) (slots + ms) Q (F0 m pc ls rest) q9)
    (kk : ∀ (r : UInt32) (u : S) (t : State) (H1 : Heap) (locs1 : List Loc), t.heap = H1 → s.vm.Alike t.vm → post r u → B u t → H.size ≤ H1.size → (∀ q : Nat, q < H.size → ¬ A1 q → H1[q]? = H[q]?) → va_S A0 H0 H1 locs1 → W p l e R s m args below meth c H1 locs1 (cells + mc) (slots + ms) Q (F0 m (pc + 3) ls (.float r :: rest))) : W p l e R s m args below meth c H locs cells slots Q (F0 m pc ls st0) := by
  intro T hT X
  rcases hr T hT X with ⟨v, st₀, t, T', L, h0, X', hL, e1, e2, ⟨⟨r, u, hv, hp, hb⟩, hF⟩, st⟩ | ⟨q, st₀, t, T', L, E, ce, h0, X', hL, e1, e2, ⟨u, hp, hb, hF⟩, hce, hcv, hcl, st⟩
  · cases hv
    obtain ⟨k1, k2, k3⟩ := vx_keep h0 e1 hS hA hf hL hF
    obtain ⟨t2, a1, b1⟩ := kk r u t T'.heap (locs ++ L) e1.symm (by rw [← e2]; exact X'.warmed.alike) hp hb k1 k2 k3 T' rfl X'
    exact ⟨t2, st t2 a1, b1⟩
  · obtain ⟨k1, k2, k3⟩ := vx_keep h0 e1 hS hAX hf hL hF
    obtain ⟨t2, a1, b1⟩ := kx E ce q u t T'.heap (locs ++ L) e1.symm (by rw [← e2]; exact X'.warmed.alike) hp hb k1 k2 k3 (by rw [e1]; exact hce) hcv hcl T' rfl X'
    exact ⟨t2, st.trans a1, b1⟩
theorem vx_calld {S SX : Type} {post : UInt64 → S → Prop} {px : SX → Prop} {B : S → State → Prop} {BX : String → SX → State → Prop} {AX : Nat → Prop} (hr : vx_Run p l e R s m args below meth c H locs cells slots mc ms (F0 m pc ls st0) rest (va_Qd post B A1 a) (vx_X px BX AX) free) (hS : va_S A0 H0 H locs) (hA : ∀ q, q < H.size → A1 q → A0 q) (hf : ∀ q, free q → A0 q) (hAX : ∀ q, q < H.size → AX q → A0 q)
    (kx : ∀ (E : String) (ce : Cell) (q9 : Addr) (u : SX) (t : State) (H1 : Heap) (locs1 : List Loc), t.heap = H1 → s.vm.Alike t.vm → px u → BX E u t → H.size ≤ H1.size → (∀ q : Nat, q < H.size → ¬ AX q → H1[q]? = H[q]?) → va_S A0 H0 H1 locs1 → H1[q9]? = some ce → ce.vm = .none → s.vm.findClass E = some ce.cls → vx_W p l e R s m args below meth c H1 locs1 (cells + mc) (slots + ms) Q (F0 m pc ls rest) q9)
    (kk : ∀ (r : UInt64) (u : S) (t : State) (H1 : Heap) (locs1 : List Loc), t.heap = H1 → s.vm.Alike t.vm → post r u → B u t → H.size ≤ H1.size → (∀ q : Nat, q < H.size → ¬ A1 q → H1[q]? = H[q]?) → va_S A0 H0 H1 locs1 → W p l e R s m args below meth c H1 locs1 (cells + mc) (slots + ms) Q (F0 m (pc + 3) ls (.double r :: rest))) : W p l e R s m args below meth c H locs cells slots Q (F0 m pc ls st0) := by
  intro T hT X
  rcases hr T hT X with ⟨v, st₀, t, T', L, h0, X', hL, e1, e2, ⟨⟨r, u, hv, hp, hb⟩, hF⟩, st⟩ | ⟨q, st₀, t, T', L, E, ce, h0, X', hL, e1, e2, ⟨u, hp, hb, hF⟩, hce, hcv, hcl, st⟩
  · cases hv
    obtain ⟨k1, k2, k3⟩ := vx_keep h0 e1 hS hA hf hL hF
    obtain ⟨t2, a1, b1⟩ := kk r u t T'.heap (locs ++ L) e1.symm (by rw [← e2]; exact X'.warmed.alike) hp hb k1 k2 k3 T' rfl X'
    exact ⟨t2, st t2 a1, b1⟩
  · obtain ⟨k1, k2, k3⟩ := vx_keep h0 e1 hS hAX hf hL hF
    obtain ⟨t2, a1, b1⟩ := kx E ce q u t T'.heap (locs ++ L) e1.symm (by rw [← e2]; exact X'.warmed.alike) hp hb k1 k2 k3 (by rw [e1]; exact hce) hcv hcl T' rfl X'
    exact ⟨t2, st.trans a1, b1⟩
theorem vx_callv {S SX : Type} {post : S → Prop} {px : SX → Prop} {B : S → State → Prop} {BX : String → SX → State → Prop} {AX : Nat → Prop} (hr : vx_Run p l e R s m args below meth c H locs cells slots mc ms (F0 m pc ls st0) rest (va_Qv post B A1 a) (vx_X px BX AX) free) (hS : va_S A0 H0 H locs) (hA : ∀ q, q < H.size → A1 q → A0 q) (hf : ∀ q, free q → A0 q) (hAX : ∀ q, q < H.size → AX q → A0 q)
    (kx : ∀ (E : String) (ce : Cell) (q9 : Addr) (u : SX) (t : State) (H1 : Heap) (locs1 : List Loc), t.heap = H1 → s.vm.Alike t.vm → px u → BX E u t → H.size ≤ H1.size → (∀ q : Nat, q < H.size → ¬ AX q → H1[q]? = H[q]?) → va_S A0 H0 H1 locs1 → H1[q9]? = some ce → ce.vm = .none → s.vm.findClass E = some ce.cls → vx_W p l e R s m args below meth c H1 locs1 (cells + mc) (slots + ms) Q (F0 m pc ls rest) q9)
    (kk : ∀ (u : S) (t : State) (H1 : Heap) (locs1 : List Loc), t.heap = H1 → s.vm.Alike t.vm → post u → B u t → H.size ≤ H1.size → (∀ q : Nat, q < H.size → ¬ A1 q → H1[q]? = H[q]?) → va_S A0 H0 H1 locs1 → W p l e R s m args below meth c H1 locs1 (cells + mc) (slots + ms) Q (F0 m (pc + 3) ls (rest))) : W p l e R s m args below meth c H locs cells slots Q (F0 m pc ls st0) := by
  intro T hT X
  rcases hr T hT X with ⟨v, st₀, t, T', L, h0, X', hL, e1, e2, ⟨⟨u, hv, hp, hb⟩, hF⟩, st⟩ | ⟨q, st₀, t, T', L, E, ce, h0, X', hL, e1, e2, ⟨u, hp, hb, hF⟩, hce, hcv, hcl, st⟩
  · cases hv
    obtain ⟨k1, k2, k3⟩ := vx_keep h0 e1 hS hA hf hL hF
    obtain ⟨t2, a1, b1⟩ := kk u t T'.heap (locs ++ L) e1.symm (by rw [← e2]; exact X'.warmed.alike) hp hb k1 k2 k3 T' rfl X'
    exact ⟨t2, st t2 a1, b1⟩
  · obtain ⟨k1, k2, k3⟩ := vx_keep h0 e1 hS hAX hf hL hF
    obtain ⟨t2, a1, b1⟩ := kx E ce q u t T'.heap (locs ++ L) e1.symm (by rw [← e2]; exact X'.warmed.alike) hp hb k1 k2 k3 (by rw [e1]; exact hce) hcv hcl T' rfl X'
    exact ⟨t2, st.trans a1, b1⟩
/-- caught by the row x of this method's table; the rows ahead don't take it -/
theorem vx_catch {own name : String} {E : String} {ce : Cell} {q : Addr} (hown : s.vm.findClass own = some m.cls) (pre : List ExceptionTableEntry) (x : ExceptionTableEntry) (suf : List ExceptionTableEntry) (hsplit : c.exceptionTable.toList = pre ++ x :: suf)
    (hpass : ∀ z ∈ pre, covers z pc = false ∨ (z.catchType ≠ 0 ∧ ∃ nm : String, (Cond.classLink own z.catchType nm).before args s = true ∧ va_Nc E nm s)) (hx : covers x pc = true) (h0 : x.catchType ≠ 0)
    (hlink : (Cond.classLink own x.catchType name).before args s = true) (hcast : (Cond.castable E name).before args s = true) (hcell : H[q]? = some ce) (hv : ce.vm = .none) (hcl : s.vm.findClass E = some ce.cls)
    (kk : W p l e R s m args below meth c H locs cells slots Q (F0 m x.handlerPc ls [.ref q])) : vx_W p l e R s m args below meth c H locs cells slots Q (F0 m pc ls rest) q := by
  intro T hT X
  have hpl : e.platform.magicAccessors = ({} : Platform).magicAccessors := by rw [X.admits.platform]
  obtain ⟨c3, c4, hc3, hc4, hasg⟩ := Cond.castable_spec hcast
  cases Option.some.inj (hc3.symm.trans hcl)
  obtain ⟨c5, hc5, hcl5⟩ := Cond.classLink_spec hown hlink e.platform hpl
  cases Option.some.inj (hc4.symm.trans hc5)
  obtain ⟨vm', X', st⟩ := X.thenCaughtThrough q (g := F0 m pc ls rest) rfl (Steps.refl _) (by rw [hT]; exact hcell) (by rw [hv]; rfl) (by obtain ⟨k9, h9, -⟩ := Vm.findClass_spec hcl; exact ⟨k9, h9⟩) pre x suf hsplit
    (fun z hz => by
      rcases hpass z hz with h | ⟨hz0, nm, hl1, hn1⟩
      · exact Or.inl h
      · obtain ⟨c6, hc6, hcl6⟩ := Cond.classLink_spec hown hl1 e.platform hpl
        obtain ⟨a8, b8, h1, h2, h3⟩ := hn1
        cases Option.some.inj (h1.symm.trans hcl)
        cases Option.some.inj (h2.symm.trans hc6)
        exact Or.inr ⟨hz0, _, hcl6, h3⟩) hx (Or.inr ⟨h0, c4, hcl5, hasg⟩)
  obtain ⟨t, a1, b1⟩ := kk (T.setVm vm') hT X'
  exact ⟨t, st.trans a1, b1⟩
end Rows
section Ends
variable {p : Program} {l : Launch} {e : Env} {R : Room} {s : State} {m : MethodId} {args : Array Value} {below : List Frame} {meth : Method} {c : Code} {H : Heap} {locs : List Loc} {cells slots : Nat} {Q : State → Prop}
variable {mc ms : Nat} {free : Addr → Prop} {A0 A1 : Nat → Prop} {H0 : Heap} {a : Array Value} {ls : Array Slot} {st0 rest : List Value}
variable {Qc : Array Value → State → Outcome → State → Prop} {XC : String → State → State → Prop}
/-- what a body that may throw owes at its end -/
def vx_MQ (below : List Frame) (Qc : Array Value → State → Outcome → State → Prop) (XC : String → State → State → Prop) (a : Array Value) (s : State) (mc ms : Nat) (free : Addr → Prop) : State → Prop := fun t =>
  ∃ o, t.status = .running ∧ Ended t below o ∧ vx_Q Qc XC mc ms free a s o t
theorem vx_ret {g : JFrame} {mc ms : Nat} (k : W p l e R s m args below meth c H locs cells slots (MQ below Qc args s mc ms free) g) : W p l e R s m args below meth c H locs cells slots (vx_MQ below Qc XC args s mc ms free) g := by
  intro T hT X
  obtain ⟨t, a1, o, b1, b2, b3, b4⟩ := k T hT X
  exact ⟨t, a1, o, b1, b2, Or.inl ⟨b3, b4⟩⟩
/-- not caught here: it goes on to the caller -/
theorem vx_widen {g : JFrame} {q : Addr} {k n : Nat} (h1 : cells ≤ k) (h2 : slots ≤ n) (kk : vx_W p l e R s m args below meth c H locs k n Q g q) : vx_W p l e R s m args below meth c H locs cells slots Q g q := fun T hT X => kk T hT (stand_widen X h1 h2)
theorem vx_out {pc : Nat} {E : String} {ce : Cell} {q : Addr} {mc ms : Nat} (hout : ∀ x ∈ c.exceptionTable.toList, covers x pc = false) (hlocks : meth.locks = false) (hcell : H[q]? = some ce) (hv : ce.vm = .none) (hcl : s.vm.findClass E = some ce.cls)
    (hx : ∀ t : State, t.heap = H → s.vm.Alike t.vm → XC E s t) (hf : ∀ z ∈ locs, free z.base) (hc : cells ≤ mc) (hs : slots ≤ ms) :
    vx_W p l e R s m args below meth c H locs cells slots (vx_MQ below Qc XC args s mc ms free) (F0 m pc ls rest) q := by
  intro T hT X
  obtain ⟨st1, hrun, hend, hW, hsm⟩ := X.leaveThrown q (g := F0 m pc ls rest) rfl rfl rfl hout hlocks
  have hcell9 : (T.setFrames (.throwing q :: below)).heap[q]? = some ce := by
    show T.heap[q]? = some ce
    rw [hT]; exact hcell
  exact ⟨_, st1, .threw q, hrun, hend, Or.inr ⟨q, rfl, E, ce, locs, hx _ hT hW.alike, hcell9, hv, hcl, hW, hsm.mono hc hs, hf⟩⟩
theorem vx_frame {U : State} {k n : Nat} (h : s.sameButNew ({ U with vm := s.vm } : State) locs k n) : s.heap.size ≤ U.heap.size ∧ ∀ q : Nat, q < s.heap.size → (∀ z ∈ locs, z.base ≠ q) → U.heap[q]? = s.heap[q]? := by
  obtain ⟨-, h2, -, -, -, h6⟩ := h
  refine ⟨h2, fun q hq hz => ?_⟩
  obtain ⟨c9, e1, e2, e3, e4⟩ := h6 q _ (Array.getElem?_eq_getElem hq)
  have hs : c9.slots = (s.heap[q]).slots := Array.ext_getElem? fun i => e4 i fun hm => hz _ hm rfl
  have h9 : c9 = s.heap[q] := by
    rw [hs] at e2
    exact e2
  have e5 : U.heap[q]? = some c9 := e1
  rw [e5, h9, Array.getElem?_eq_getElem hq]
/-- the words of a throw but the four that speak of the heap -/
def vx_no (w : Cond) : Bool := decide (w ≠ .isRef (.static Bundle.tN "UNASSIGNED_STACK" Bundle.steD)) && decide (w ≠ .isRef (.static Bundle.tN "SUPPRESSED_SENTINEL" Bundle.listD)) && decide (w ≠ .laysStatic Bundle.tN "UNASSIGNED_STACK" Bundle.steD) && decide (w ≠ .laysStatic Bundle.tN "SUPPRESSED_SENTINEL" Bundle.listD)
def vx_at0 (own : String) (ic : Nat) (X : String) (names : List String) : List Cond := (Bundle.ownAtoms0 own ic X names).filter vx_no
def vx_atS (own : String) (ic : Nat) (X : String) (names : List String) : List Cond := (Bundle.ownAtoms own ic X names).filter vx_no
/-- a word that the tables alone decide, or a good one -/
def vx_ot (w : Cond) : Bool := w.onTables || goodWord w
theorem vx_ot_at {args a' : Array Value} {s U : State} {w : Cond} (hW : s.WarmedH U.vm) (hvm : s.vm = U.vm) (hg : vx_ot w = true) (h : w.before args s = true) : w.before a' U = true := by
  simp only [vx_ot, Bool.or_eq_true] at hg
  rcases hg with hg | hg
  · exact va_tabs hg hvm h
  · exact word_at hW (good_of_word hg) h
/-- a list's words: the good ones out of the method's own list, the others by premises of their own -/
theorem vx_hat {args : Array Value} {s : State} {L B : List Cond} (h1 : ∀ w ∈ L.filter goodWord, w.before args s = true) (h2 : ∀ w ∈ L.filter (fun w => !goodWord w), w ∈ B) (h3 : ∀ w ∈ B, w.before args s = true) : ∀ w ∈ L, w.before args s = true := by
  intro w hw
  by_cases g : goodWord w = true
  · exact h1 w (List.mem_filter.mpr ⟨hw, g⟩)
  · refine h3 w (h2 w (List.mem_filter.mpr ⟨hw, ?_⟩))
    show (!goodWord w) = true
    cases hgw : goodWord w
    · rfl
    · exact absurd hgw g
theorem vx_c {args : Array Value} {s : State} {w : Cond} {B : List Cond} (h : w.before args s = true) (t : ∀ w ∈ B, w.before args s = true) : ∀ w' ∈ w :: B, w'.before args s = true := fun w' h' => (List.mem_cons.mp h').elim (fun e => by rw [e]; exact h) (t w')
theorem vx_n {args : Array Value} {s : State} : ∀ w ∈ ([] : List Cond), w.before args s = true := fun _ h => nomatch h
theorem vx_own {args : Array Value} {s : State} {L : List Cond} (h1 : ∀ w ∈ L.filter vx_no, w.before args s = true)
    (hU : (Cond.isRef (.static Bundle.tN "UNASSIGNED_STACK" Bundle.steD)).before args s = true) (hN : (Cond.isRef (.static Bundle.tN "SUPPRESSED_SENTINEL" Bundle.listD)).before args s = true)
    (lU : (Cond.laysStatic Bundle.tN "UNASSIGNED_STACK" Bundle.steD).before args s = true) (lN : (Cond.laysStatic Bundle.tN "SUPPRESSED_SENTINEL" Bundle.listD).before args s = true) : ∀ w ∈ L, w.before args s = true := by
  intro w hw
  by_cases e1 : w = .isRef (.static Bundle.tN "UNASSIGNED_STACK" Bundle.steD)
  · rw [e1]; exact hU
  · by_cases e2 : w = .isRef (.static Bundle.tN "SUPPRESSED_SENTINEL" Bundle.listD)
    · rw [e2]; exact hN
    · by_cases e3 : w = .laysStatic Bundle.tN "UNASSIGNED_STACK" Bundle.steD
      · rw [e3]; exact lU
      · by_cases e4 : w = .laysStatic Bundle.tN "SUPPRESSED_SENTINEL" Bundle.listD
        · rw [e4]; exact lN
        · exact h1 w (List.mem_filter.mpr ⟨hw, by unfold vx_no; rw [decide_eq_true e1, decide_eq_true e2, decide_eq_true e3, decide_eq_true e4]; rfl⟩)
/-- where a static field lies, its class's statics cell in H -/
def vx_L (C n d : String) (A : Nat → Prop) (U : State) (H : Heap) : Prop := ∃ (c : ClassId) (k : Class) (i : Nat) (f : Field) (a : Nat) (cell : Cell), U.vm.findClass C = some c ∧ U.fieldFound? C n d = some (c, k, i, f) ∧ f.isStatic = true ∧ k.statics = some a ∧ H[a]? = some cell ∧ cell.vm.isStatics = true ∧ cell.cls = c ∧ f.slot < cell.slots.size ∧ k.staticTypes[f.slot]? = some f.type ∧ ¬ A a
theorem vx_L.moved {C n d : String} {A : Nat → Prop} {u U : State} {H : Heap} (hvm : u.vm.Alike U.vm) (h : vx_L C n d A u H) : vx_L C n d A U H := by
  obtain ⟨c, k, i, f, a, cell, h1, h2, h3, h4, h5, h6, h7, h8, h9, h10⟩ := h
  obtain ⟨k', hi', he⟩ := State.fieldFound?_setVm hvm h2
  exact ⟨c, k', i, f, a, cell, by rw [hvm.findClass]; exact h1, hi', h3, by rw [he]; exact h4, h5, h6, h7, h8, by rw [he]; exact h9, h10⟩
theorem vx_L.kept {C n d : String} {A : Nat → Prop} {U : State} {H H1 : Heap} (h : vx_L C n d A U H) (hq : ∀ a : Nat, a < H.size → ¬ A a → H1[a]? = H[a]?) : vx_L C n d A U H1 := by
  obtain ⟨c, k, i, f, a, cell, h1, h2, h3, h4, h5, h6, h7, h8, h9, h10⟩ := h
  exact ⟨c, k, i, f, a, cell, h1, h2, h3, h4, by rw [hq a (Array.getElem?_eq_some_iff.mp h5).1 h10]; exact h5, h6, h7, h8, h9, h10⟩
theorem vx_L.narrow {C n d : String} {A B : Nat → Prop} {U : State} {H : Heap} (h : vx_L C n d A U H) (hAB : ∀ q, B q → A q) : vx_L C n d B U H := by
  obtain ⟨c, k, i, f, a, cell, h1, h2, h3, h4, h5, h6, h7, h8, h9, h10⟩ := h
  exact ⟨c, k, i, f, a, cell, h1, h2, h3, h4, h5, h6, h7, h8, h9, fun z => h10 (hAB _ z)⟩
theorem vx_L.word {C n d : String} {A : Nat → Prop} {s : State} {args : Array Value} (h : vx_L C n d A s s.heap) : (Cond.laysStatic C n d).before args s = true := by
  obtain ⟨c, k, i, f, a, cell, h1, h2, h3, h4, h5, h6, h7, h8, h9, -⟩ := h
  show (Cond.laysStatic C n d).holds args s none s [] = true
  exact Cond.laysStatic_of h1 h2 h3 h4 h5 h6 h7 h8 h9
/-- .. and what it holds: null or some reference -/
def vx_Zq (C n d : String) (A : Nat → Prop) (U : State) (H : Heap) : Prop := va_Zq C n d A U H ∧ vx_L C n d A U H
theorem vx_Zq.moved {C n d : String} {A : Nat → Prop} {u U : State} {H : Heap} (hvm : u.vm.Alike U.vm) (h : vx_Zq C n d A u H) : vx_Zq C n d A U H := ⟨va_Zq.moved hvm h.1, vx_L.moved hvm h.2⟩
theorem vx_Zq.kept {C n d : String} {A : Nat → Prop} {U : State} {H H1 : Heap} (h : vx_Zq C n d A U H) (hq : ∀ a : Nat, a < H.size → ¬ A a → H1[a]? = H[a]?) : vx_Zq C n d A U H1 := ⟨va_Zq.kept h.1 hq, vx_L.kept h.2 hq⟩
theorem vx_Zq.narrow {C n d : String} {A B : Nat → Prop} {U : State} {H : Heap} (h : vx_Zq C n d A U H) (hAB : ∀ q, B q → A q) : vx_Zq C n d B U H := ⟨va_Zq.narrow h.1 hAB, vx_L.narrow h.2 hAB⟩
theorem vx_Zqof {args : Array Value} {s : State} {C n d : String} {A : Nat → Prop} (hl : (Cond.laysStatic C n d).before args s = true) (hini : (Cond.initialized C).before args s = true) (h : (Cond.isRef (.static C n d)).before args s = true) (hA : ∀ a : Nat, a < s.heap.size → ¬ A a) : vx_Zq C n d A s s.heap := by
  refine ⟨va_Zqof hl hini h hA, ?_⟩
  obtain ⟨c, k, i, f, a, cell, h1, h2, h3, h4, h5, h6, h7, h8, h9⟩ := Cond.laysStatic_spec hl
  exact ⟨c, k, i, f, a, cell, h1, h2, h3, h4, h5, h6, h7, h8, h9, hA a (Array.getElem?_eq_some_iff.mp h5).1⟩
theorem vx_isRef {C n d : String} {v : Value} {A : Nat → Prop} {s : State} {args : Array Value} (h : va_Z C n d v A s s.heap) (hv : v.isRef = true) : (Cond.isRef (.static C n d)).before args s = true := by
  obtain ⟨cf, kf, fi, f, a, cell, h1, h2, h3, h4, h5, h6, h7, -⟩ := h
  have he : (Term.static C n d).eval args s none [] s = some v := by
    simp [Term.eval, State.fieldNamed?, h1, h2, h4, h5, h6, h7]
  simp only [Cond.before, Cond.holds, Cond.value, he]
  cases v <;> simp_all [Value.isRef]
theorem vx_isRefq {C n d : String} {A : Nat → Prop} {s : State} {args : Array Value} (h : va_Zq C n d A s s.heap) : (Cond.isRef (.static C n d)).before args s = true := by
  rcases h with h | ⟨t, h⟩
  · exact vx_isRef h rfl
  · exact vx_isRef h rfl
/-- the same frame, seen from here: as if the method were called anew in this heap -/
theorem vx_rebase {T : State} (X : Stand p l e R s m args below meth c T locs cells slots) {R' : Room} (hf : R'.frames ≤ R.frames) (hl : R'.locals ≤ R.locals) (hc : cells + R'.cells ≤ R.cells) (hs : slots + R'.slots ≤ R.slots) :
    Stand p l e R' ((T.setVm s.vm).setFrames (.invoking m args :: below)) m args below meth c T [] 0 0 := by
  have htop : (T.setVm s.vm).topJava?.isSome := X.here.top
  have hF : ((T.setVm s.vm).setFrames (.invoking m args :: below)).frames = .invoking m args :: below := State.frames_setFrames _ (State.cur_lt_of_top htop)
  obtain ⟨g₀, hg0⟩ := Option.isSome_iff_exists.mp htop
  obtain ⟨r, hr⟩ := State.topJava?_eq_some.mp hg0
  have hl9 : e.platform.stackLimits (T.setVm s.vm).me = e.platform.stackLimits s.me := X.limits
  have hb9 : (T.setVm s.vm).me.stackBytes = s.me.stackBytes := X.bytes
  refine ⟨X.admits, X.cas, X.clock, hF, ?_, X.hears, X.method, X.code, X.here, X.tail, X.warmed, ?_, ?_, ?_⟩
  · have h := X.room
    have hU : ((T.setVm s.vm).setFrames (.invoking m args :: below)).localsInUse = s.localsInUse := by
      rw [State.localsInUse_invoking hF (meth := meth) (c := c) X.method X.code, State.localsInUse_invoking X.frames X.method X.code]
    simp only [State.hasRoom, Bool.and_eq_true, decide_eq_true_eq] at h ⊢
    obtain ⟨⟨⟨⟨h1, h2, h3, h4, h5, h6⟩, h7⟩, h8⟩, h9⟩ := h
    rw [X.frames, List.length_cons] at h2 h3
    have q1 := X.heapSize
    have q2 := X.used
    simp only [hF, hU, List.length_cons, State.stackLimits_setFrames, State.stackBytes_setFrames, hl9, hb9]
    refine ⟨⟨⟨⟨by omega, by omega, by omega, by omega, by omega, h6⟩, ?_⟩, ?_⟩, X.book⟩
    · show T.heap.size + R'.cells ≤ e.platform.maxCells
      omega
    · show T.slotsUsed + R'.slots ≤ e.platform.maxSlots
      omega
  · rw [State.stackLimits_setFrames]; rfl
  · rw [State.stackBytes_setFrames]; rfl
  · refine ⟨?_, Nat.le_refl _, Nat.le_refl _, ?_, ?_, fun a c9 h9 => ⟨c9, h9, rfl, rfl, fun _ _ => rfl⟩⟩
    · obtain ⟨t, ht, -⟩ := State.frames_cons hr
      show T.setVm s.vm = { ((T.setVm s.vm).setFrames (.invoking m args :: below)).setFrames (T.setVm s.vm).frames with heap := T.heap, slotsUsed := T.slotsUsed }
      rw [State.setFrames_setFrames, State.setFrames_self ht]
      rfl
    · show T.slotsUsed = T.slotsUsed + ((T.heap.toList.drop T.heap.size).map (·.slots.size)).sum
      rw [List.drop_eq_nil_of_le (Nat.le_of_eq Array.length_toList)]
      rfl
    · show ((T.heap.toList.drop T.heap.size).map (·.slots.size)).sum ≤ 0
      rw [List.drop_eq_nil_of_le (Nat.le_of_eq Array.length_toList)]
      exact Nat.le_refl _
/-- 'throw new E()': new; dup; invokespecial; athrow -/
theorem vx_throw0 {cc : ByteArray} {pc : Nat} (hexec : p.tables.exec = Jvm.exec) (hb : c.code = cc) (hl : l.stackTraces = false) {own cls : String} {names : List String} {ik ic mc ms : Nat} {A : Nat → Prop}
    (hown : s.vm.findClass own = some m.cls) (hcls : Bundle.fit cls = true) (hnames : ∀ n ∈ names, Bundle.fit n = true)
    (hk : (Cond.classLink own ik cls).before args s = true) (hini : (Cond.initialized cls).before args s = true) (hat : ∀ w ∈ vx_at0 own ic cls names, w.before args s = true)
    (hgood : ∀ w ∈ Cond.classLink own ik cls :: Cond.initialized cls :: vx_at0 own ic cls names, vx_ot w = true)
    (hU : vx_Zq Bundle.tN "UNASSIGNED_STACK" Bundle.steD A s s.heap) (hN : vx_Zq Bundle.tN "SUPPRESSED_SENTINEL" Bundle.listD A s s.heap) (hS : va_S A s.heap H locs) (hsize : ls.size = c.maxLocals)
    (d0 : decode cc pc = .ok (.new ik, 3)) (d3 : decode cc (pc + 3) = .ok (.dup, 1)) (d4 : decode cc (pc + 4) = .ok (.invokespecial ic, 3)) (d7 : decode cc (pc + 7) = .ok (.athrow, 1))
    (hout : ∀ x ∈ c.exceptionTable.toList, covers x (pc + 7) = false)
    (hRframes : names.length + 3 < R.frames) (hRlocals : (rest.map fun v => v.category).sum + (13 * (names.length + 1) + 42) ≤ R.locals) (hRcells : cells + 1 ≤ R.cells) (hRslots : slots + 6 ≤ R.slots) (hlocks : meth.locks = false)
    (hx : ∀ t : State, s.vm.Alike t.vm → H.size ≤ t.heap.size → (∀ q : Nat, q < H.size → t.heap[q]? = H[q]?) → XC cls s t)
    (hf : ∀ z ∈ locs, free z.base) (hc : cells + 1 ≤ mc) (hs : slots + 6 ≤ ms) :
    W p l e R s m args below meth c H locs cells slots (vx_MQ below Qc XC args s mc ms free) (F0 m pc ls rest) := by
  intro T hT X
  have htr : e.platform.stackTraces = false := (show e.platform.stackTraces = l.stackTraces by rw [X.admits.platform]).trans hl
  have Y := vx_rebase X (R' := { frames := R.frames, locals := R.locals, cells := 1, slots := 6 }) (Nat.le_refl _) (Nat.le_refl _) hRcells hRslots
  obtain ⟨s', hA⟩ : ∃ z, z = (T.setVm s.vm).setFrames (.invoking m args :: below) := ⟨_, rfl⟩
  rw [← hA] at Y
  have hvm : s'.vm = s.vm := by rw [hA]; rfl
  have hhp : s'.heap = H := by rw [hA]; exact hT
  have hW0 : s.WarmedH s'.vm := by rw [hvm]; exact State.WarmedH.refl s
  have hat' : ∀ w ∈ vx_at0 own ic cls names, w.before args s' = true := fun w hw => vx_ot_at hW0 hvm.symm (hgood w (List.mem_cons_of_mem _ (List.mem_cons_of_mem _ hw))) (hat w hw)
  have hk' : (Cond.classLink own ik cls).before args s' = true := vx_ot_at hW0 hvm.symm (hgood _ List.mem_cons_self) hk
  have hini' : (Cond.initialized cls).before args s' = true := vx_ot_at hW0 hvm.symm (hgood _ (List.mem_cons_of_mem _ List.mem_cons_self)) hini
  have hU' : vx_Zq Bundle.tN "UNASSIGNED_STACK" Bundle.steD A s' s'.heap := by rw [hhp]; exact vx_Zq.moved hW0.alike (hU.kept hS.2.1)
  have hN' : vx_Zq Bundle.tN "SUPPRESSED_SENTINEL" Bundle.listD A s' s'.heap := by rw [hhp]; exact vx_Zq.moved hW0.alike (hN.kept hS.2.1)
  have h : ∀ w ∈ Bundle.ownAtoms0 own ic cls names, w.before args s' = true := vx_own hat' (vx_isRefq hU'.1) (vx_isRefq hN'.1) hU'.2.word hN'.2.word
  have hown' : s'.vm.findClass own = some m.cls := by rw [hvm]; exact hown
  have hins : (Cond.instantiable cls 6).before args s' = true := h _ (by simp [Bundle.ownAtoms0])
  obtain ⟨vm₁, cX, kX, hfX, hkX, -, -, X₁, st1⟩ := Y.newCold hexec (own := own) (C := cls) (index := ik) (n := 6) hown' hk' hins hini'
    (g := F0 m pc ls rest) rfl (by rw [hb]; exact d0) (Nat.le_refl _) (Nat.le_refl _)
  generalize hT1 : (T.setVm vm₁).pushCell { cls := cX, slots := kX.instanceTypes.map defaultValue, vm := .none } = T1 at X₁ st1
  have hcat : (Value.ref T.heap.size).category = 1 := rfl
  have hcellA : T1.heap[T.heap.size]? = some (freshCell cX kX) := by rw [← hT1]; exact State.heap_pushCell_size _ _
  have d3' : decode c.code (pc + 3) = .ok (.dup, 1) := by rw [hb]; exact d3
  obtain ⟨U, hsteps, hrun, hend, hW, hsame, ce, hce, hO⟩ := X₁.ctorThrow0 hexec htr (own := own) (cls := cls) (names := names) (ic := ic) hown' hcls hnames h (fun x hx => nomatch hx) hfX hkX hcellA (by rw [hhp, hT]; exact Nat.le_refl _)
    (g := { method := m, pc := pc + 4, locals := ls, stack := .ref T.heap.size :: .ref T.heap.size :: rest, locked := none }) rfl hsize rfl rfl (rest := rest) rfl
    (by rw [hb]; exact d4) (by rw [hb]; exact d7) hout hRframes (by simp only [List.map_cons, List.sum_cons, hcat]; omega) hlocks
  obtain ⟨f1, f2⟩ := vx_frame hsame
  rw [hhp] at f1 f2
  have hWs : s.WarmedH U.vm := State.WarmedH.trans hW0 hW
  have hcl : s.vm.findClass cls = some ce.cls := by
    have h9 := hO.cls
    rw [hvm] at h9
    exact h9
  have hall : s.sameButNew ({ U with vm := s.vm } : State) locs mc ms := by
    subst hA
    obtain ⟨e1, e2⟩ := hsame
    rw [State.setFrames_setFrames] at e1
    have h2 : (T.setVm s.vm).sameButNew ({ U with vm := s.vm } : State) [] (0 + 1) (0 + 6) := ⟨e1, e2⟩
    have h3 := X.same.trans h2
    rw [List.append_nil] at h3
    exact h3.mono hc hs
  refine ⟨U, ?_, .threw T.heap.size, hrun, hend, Or.inr ⟨T.heap.size, rfl, cls, ce, locs, hx U hWs.alike f1 (fun q hq => f2 q hq (fun z hz => nomatch hz)), hce, hO.vm, hcl, hWs, hall, hf⟩⟩
  refine st1 _ ?_
  show Steps p.tables e below (T1.setTop { method := m, pc := pc + 3, locals := ls, stack := .ref T.heap.size :: rest, locked := none }) _
  jvm_step X₁.here [X₁.here.top, hexec, d3', Value.category]
  exact hsteps
/-- 'throw new E("text")': new; dup; ldc; invokespecial; athrow -/
theorem vx_throwS {cc : ByteArray} {pc : Nat} (hexec : p.tables.exec = Jvm.exec) (hb : c.code = cc) (hl : l.stackTraces = false) {own cls text : String} {names : List String} {ik is ic mc ms sa : Nat} {A : Nat → Prop}
    (hown : s.vm.findClass own = some m.cls) (hcls : Bundle.fit cls = true) (hnames : ∀ n ∈ names, Bundle.fit n = true)
    (hk : (Cond.classLink own ik cls).before args s = true) (hini : (Cond.initialized cls).before args s = true) (hstr : vk_R own is text sa s) (hat : ∀ w ∈ vx_atS own ic cls names, w.before args s = true)
    (hgood : ∀ w ∈ Cond.classLink own ik cls :: Cond.initialized cls :: vx_atS own ic cls names, vx_ot w = true)
    (hU : vx_Zq Bundle.tN "UNASSIGNED_STACK" Bundle.steD A s s.heap) (hN : vx_Zq Bundle.tN "SUPPRESSED_SENTINEL" Bundle.listD A s s.heap) (hS : va_S A s.heap H locs) (hsize : ls.size = c.maxLocals)
    (d0 : decode cc pc = .ok (.new ik, 3)) (d3 : decode cc (pc + 3) = .ok (.dup, 1)) (d4 : decode cc (pc + 4) = .ok (.ldc is, 2)) (d6 : decode cc (pc + 6) = .ok (.invokespecial ic, 3)) (d9 : decode cc (pc + 9) = .ok (.athrow, 1))
    (hout : ∀ x ∈ c.exceptionTable.toList, covers x (pc + 9) = false)
    (hRframes : names.length + 3 < R.frames) (hRlocals : (rest.map fun v => v.category).sum + (13 * (names.length + 1) + 43) ≤ R.locals) (hRcells : cells + 1 ≤ R.cells) (hRslots : slots + 6 ≤ R.slots) (hlocks : meth.locks = false)
    (hx : ∀ t : State, s.vm.Alike t.vm → H.size ≤ t.heap.size → (∀ q : Nat, q < H.size → t.heap[q]? = H[q]?) → XC cls s t)
    (hf : ∀ z ∈ locs, free z.base) (hc : cells + 1 ≤ mc) (hs : slots + 6 ≤ ms) :
    W p l e R s m args below meth c H locs cells slots (vx_MQ below Qc XC args s mc ms free) (F0 m pc ls rest) := by
  intro T hT X
  have htr : e.platform.stackTraces = false := (show e.platform.stackTraces = l.stackTraces by rw [X.admits.platform]).trans hl
  have Y := vx_rebase X (R' := { frames := R.frames, locals := R.locals, cells := 1, slots := 6 }) (Nat.le_refl _) (Nat.le_refl _) hRcells hRslots
  obtain ⟨s', hA⟩ : ∃ z, z = (T.setVm s.vm).setFrames (.invoking m args :: below) := ⟨_, rfl⟩
  rw [← hA] at Y
  have hvm : s'.vm = s.vm := by rw [hA]; rfl
  have hhp : s'.heap = H := by rw [hA]; exact hT
  have hW0 : s.WarmedH s'.vm := by rw [hvm]; exact State.WarmedH.refl s
  have hat' : ∀ w ∈ vx_atS own ic cls names, w.before args s' = true := fun w hw => vx_ot_at hW0 hvm.symm (hgood w (List.mem_cons_of_mem _ (List.mem_cons_of_mem _ hw))) (hat w hw)
  have hk' : (Cond.classLink own ik cls).before args s' = true := vx_ot_at hW0 hvm.symm (hgood _ List.mem_cons_self) hk
  have hini' : (Cond.initialized cls).before args s' = true := vx_ot_at hW0 hvm.symm (hgood _ (List.mem_cons_of_mem _ List.mem_cons_self)) hini
  have hU' : vx_Zq Bundle.tN "UNASSIGNED_STACK" Bundle.steD A s' s'.heap := by rw [hhp]; exact vx_Zq.moved hW0.alike (hU.kept hS.2.1)
  have hN' : vx_Zq Bundle.tN "SUPPRESSED_SENTINEL" Bundle.listD A s' s'.heap := by rw [hhp]; exact vx_Zq.moved hW0.alike (hN.kept hS.2.1)
  have h : ∀ w ∈ Bundle.ownAtoms own ic cls names, w.before args s' = true := vx_own hat' (vx_isRefq hU'.1) (vx_isRefq hN'.1) hU'.2.word hN'.2.word
  have hown' : s'.vm.findClass own = some m.cls := by rw [hvm]; exact hown
  have hins : (Cond.instantiable cls 6).before args s' = true := h _ (by simp [Bundle.ownAtoms])
  obtain ⟨vm₁, cX, kX, hfX, hkX, -, -, X₁, st1⟩ := Y.newCold hexec (own := own) (C := cls) (index := ik) (n := 6) hown' hk' hins hini'
    (g := F0 m pc ls rest) rfl (by rw [hb]; exact d0) (Nat.le_refl _) (Nat.le_refl _)
  generalize hT1 : (T.setVm vm₁).pushCell { cls := cX, slots := kX.instanceTypes.map defaultValue, vm := .none } = T1 at X₁ st1
  have hcat : (Value.ref T.heap.size).category = 1 := rfl
  have hcellA : T1.heap[T.heap.size]? = some (freshCell cX kX) := by rw [← hT1]; exact State.heap_pushCell_size _ _
  have d3' : decode c.code (pc + 3) = .ok (.dup, 1) := by rw [hb]; exact d3
  have d4' : decode c.code (pc + 4) = .ok (.ldc is, 2) := by rw [hb]; exact d4
  have hstr' : vk_R own is text sa s' := vk_R.warm hW0 hstr
  obtain ⟨U, hsteps, hrun, hend, hW, hsame, ce, hce, hO⟩ := X₁.ctorThrowS hexec htr (own := own) (cls := cls) (names := names) (ic := ic) hown' hcls hnames h (fun x hx => nomatch hx) hfX hkX hcellA (by rw [hhp, hT]; exact Nat.le_refl _) (msg := .ref sa) rfl
    (g := { method := m, pc := pc + 6, locals := ls, stack := .ref sa :: .ref T.heap.size :: .ref T.heap.size :: rest, locked := none }) rfl hsize rfl rfl (rest := rest) rfl
    (by rw [hb]; exact d6) (by rw [hb]; exact d9) hout hRframes (by simp only [List.map_cons, List.sum_cons, hcat]; omega) hlocks
  obtain ⟨f1, f2⟩ := vx_frame hsame
  rw [hhp] at f1 f2
  have hWs : s.WarmedH U.vm := State.WarmedH.trans hW0 hW
  have hcl : s.vm.findClass cls = some ce.cls := by
    have h9 := hO.cls
    rw [hvm] at h9
    exact h9
  have hall : s.sameButNew ({ U with vm := s.vm } : State) locs mc ms := by
    subst hA
    obtain ⟨e1, e2⟩ := hsame
    rw [State.setFrames_setFrames] at e1
    have h2 : (T.setVm s.vm).sameButNew ({ U with vm := s.vm } : State) [] (0 + 1) (0 + 6) := ⟨e1, e2⟩
    have h3 := X.same.trans h2
    rw [List.append_nil] at h3
    exact h3.mono hc hs
  refine ⟨U, ?_, .threw T.heap.size, hrun, hend, Or.inr ⟨T.heap.size, rfl, cls, ce, locs, hx U hWs.alike f1 (fun q hq => f2 q hq (fun z hz => nomatch hz)), hce, hO.vm, hcl, hWs, hall, hf⟩⟩
  refine st1 _ ?_
  show Steps p.tables e below (T1.setTop { method := m, pc := pc + 3, locals := ls, stack := .ref T.heap.size :: rest, locked := none }) _
  jvm_step X₁.here [X₁.here.top, hexec, d3', Value.category]
  exact X₁.ldcString hexec (own := own) (text := text) (index := is) (a := sa) hown' hstr'.1 hstr'.2
    (g := { method := m, pc := pc + 4, locals := ls, stack := .ref T.heap.size :: .ref T.heap.size :: rest, locked := none }) rfl d4' _ hsteps
/-- 'throw new E("text")', the text by a wide index -/
theorem vx_throwSW {cc : ByteArray} {pc : Nat} (hexec : p.tables.exec = Jvm.exec) (hb : c.code = cc) (hl : l.stackTraces = false) {own cls text : String} {names : List String} {ik is ic mc ms sa : Nat} {A : Nat → Prop}
    (hown : s.vm.findClass own = some m.cls) (hcls : Bundle.fit cls = true) (hnames : ∀ n ∈ names, Bundle.fit n = true)
    (hk : (Cond.classLink own ik cls).before args s = true) (hini : (Cond.initialized cls).before args s = true) (hstr : vk_R own is text sa s) (hat : ∀ w ∈ vx_atS own ic cls names, w.before args s = true)
    (hgood : ∀ w ∈ Cond.classLink own ik cls :: Cond.initialized cls :: vx_atS own ic cls names, vx_ot w = true)
    (hU : vx_Zq Bundle.tN "UNASSIGNED_STACK" Bundle.steD A s s.heap) (hN : vx_Zq Bundle.tN "SUPPRESSED_SENTINEL" Bundle.listD A s s.heap) (hS : va_S A s.heap H locs) (hsize : ls.size = c.maxLocals)
    (d0 : decode cc pc = .ok (.new ik, 3)) (d3 : decode cc (pc + 3) = .ok (.dup, 1)) (d4 : decode cc (pc + 4) = .ok (.ldc_w is, 3)) (d7 : decode cc (pc + 7) = .ok (.invokespecial ic, 3)) (d10 : decode cc (pc + 10) = .ok (.athrow, 1))
    (hout : ∀ x ∈ c.exceptionTable.toList, covers x (pc + 10) = false)
    (hRframes : names.length + 3 < R.frames) (hRlocals : (rest.map fun v => v.category).sum + (13 * (names.length + 1) + 43) ≤ R.locals) (hRcells : cells + 1 ≤ R.cells) (hRslots : slots + 6 ≤ R.slots) (hlocks : meth.locks = false)
    (hx : ∀ t : State, s.vm.Alike t.vm → H.size ≤ t.heap.size → (∀ q : Nat, q < H.size → t.heap[q]? = H[q]?) → XC cls s t)
    (hf : ∀ z ∈ locs, free z.base) (hc : cells + 1 ≤ mc) (hs : slots + 6 ≤ ms) :
    W p l e R s m args below meth c H locs cells slots (vx_MQ below Qc XC args s mc ms free) (F0 m pc ls rest) := by
  intro T hT X
  have htr : e.platform.stackTraces = false := (show e.platform.stackTraces = l.stackTraces by rw [X.admits.platform]).trans hl
  have Y := vx_rebase X (R' := { frames := R.frames, locals := R.locals, cells := 1, slots := 6 }) (Nat.le_refl _) (Nat.le_refl _) hRcells hRslots
  obtain ⟨s', hA⟩ : ∃ z, z = (T.setVm s.vm).setFrames (.invoking m args :: below) := ⟨_, rfl⟩
  rw [← hA] at Y
  have hvm : s'.vm = s.vm := by rw [hA]; rfl
  have hhp : s'.heap = H := by rw [hA]; exact hT
  have hW0 : s.WarmedH s'.vm := by rw [hvm]; exact State.WarmedH.refl s
  have hat' : ∀ w ∈ vx_atS own ic cls names, w.before args s' = true := fun w hw => vx_ot_at hW0 hvm.symm (hgood w (List.mem_cons_of_mem _ (List.mem_cons_of_mem _ hw))) (hat w hw)
  have hk' : (Cond.classLink own ik cls).before args s' = true := vx_ot_at hW0 hvm.symm (hgood _ List.mem_cons_self) hk
  have hini' : (Cond.initialized cls).before args s' = true := vx_ot_at hW0 hvm.symm (hgood _ (List.mem_cons_of_mem _ List.mem_cons_self)) hini
  have hU' : vx_Zq Bundle.tN "UNASSIGNED_STACK" Bundle.steD A s' s'.heap := by rw [hhp]; exact vx_Zq.moved hW0.alike (hU.kept hS.2.1)
  have hN' : vx_Zq Bundle.tN "SUPPRESSED_SENTINEL" Bundle.listD A s' s'.heap := by rw [hhp]; exact vx_Zq.moved hW0.alike (hN.kept hS.2.1)
  have h : ∀ w ∈ Bundle.ownAtoms own ic cls names, w.before args s' = true := vx_own hat' (vx_isRefq hU'.1) (vx_isRefq hN'.1) hU'.2.word hN'.2.word
  have hown' : s'.vm.findClass own = some m.cls := by rw [hvm]; exact hown
  have hins : (Cond.instantiable cls 6).before args s' = true := h _ (by simp [Bundle.ownAtoms])
  obtain ⟨vm₁, cX, kX, hfX, hkX, -, -, X₁, st1⟩ := Y.newCold hexec (own := own) (C := cls) (index := ik) (n := 6) hown' hk' hins hini'
    (g := F0 m pc ls rest) rfl (by rw [hb]; exact d0) (Nat.le_refl _) (Nat.le_refl _)
  generalize hT1 : (T.setVm vm₁).pushCell { cls := cX, slots := kX.instanceTypes.map defaultValue, vm := .none } = T1 at X₁ st1
  have hcat : (Value.ref T.heap.size).category = 1 := rfl
  have hcellA : T1.heap[T.heap.size]? = some (freshCell cX kX) := by rw [← hT1]; exact State.heap_pushCell_size _ _
  have d3' : decode c.code (pc + 3) = .ok (.dup, 1) := by rw [hb]; exact d3
  have d4' : decode c.code (pc + 4) = .ok (.ldc_w is, 3) := by rw [hb]; exact d4
  have hstr' : vk_R own is text sa s' := vk_R.warm hW0 hstr
  obtain ⟨U, hsteps, hrun, hend, hW, hsame, ce, hce, hO⟩ := X₁.ctorThrowS hexec htr (own := own) (cls := cls) (names := names) (ic := ic) hown' hcls hnames h (fun x hx => nomatch hx) hfX hkX hcellA (by rw [hhp, hT]; exact Nat.le_refl _) (msg := .ref sa) rfl
    (g := { method := m, pc := pc + 7, locals := ls, stack := .ref sa :: .ref T.heap.size :: .ref T.heap.size :: rest, locked := none }) rfl hsize rfl rfl (rest := rest) rfl
    (by rw [hb]; exact d7) (by rw [hb]; exact d10) hout hRframes (by simp only [List.map_cons, List.sum_cons, hcat]; omega) hlocks
  obtain ⟨f1, f2⟩ := vx_frame hsame
  rw [hhp] at f1 f2
  have hWs : s.WarmedH U.vm := State.WarmedH.trans hW0 hW
  have hcl : s.vm.findClass cls = some ce.cls := by
    have h9 := hO.cls
    rw [hvm] at h9
    exact h9
  have hall : s.sameButNew ({ U with vm := s.vm } : State) locs mc ms := by
    subst hA
    obtain ⟨e1, e2⟩ := hsame
    rw [State.setFrames_setFrames] at e1
    have h2 : (T.setVm s.vm).sameButNew ({ U with vm := s.vm } : State) [] (0 + 1) (0 + 6) := ⟨e1, e2⟩
    have h3 := X.same.trans h2
    rw [List.append_nil] at h3
    exact h3.mono hc hs
  refine ⟨U, ?_, .threw T.heap.size, hrun, hend, Or.inr ⟨T.heap.size, rfl, cls, ce, locs, hx U hWs.alike f1 (fun q hq => f2 q hq (fun z hz => nomatch hz)), hce, hO.vm, hcl, hWs, hall, hf⟩⟩
  refine st1 _ ?_
  show Steps p.tables e below (T1.setTop { method := m, pc := pc + 3, locals := ls, stack := .ref T.heap.size :: rest, locked := none }) _
  jvm_step X₁.here [X₁.here.top, hexec, d3', Value.category]
  exact X₁.ldcStringW hexec (own := own) (text := text) (index := is) (a := sa) hown' hstr'.1 hstr'.2
    (g := { method := m, pc := pc + 4, locals := ls, stack := .ref T.heap.size :: .ref T.heap.size :: rest, locked := none }) rfl d4' _ hsteps
end Ends
section Bodies
variable {l : Launch}
theorem vx_ofW {y : MethodName} {ws ws' : List Cond} {rm : Room} {Pc : Array Value → State → Prop} {Qc : Array Value → State → Outcome → State → Prop} {XC : String → State → State → Prop} {mc ms : Nat} {free : Addr → Prop} {cc : ByteArray} {maxL : Nat} {ret : Option FieldType}
    (hy : plainName y.cls = true) (hw : ws = Cond.code y cc maxL ret :: ws')
    (body : ∀ p e s m args below meth c s₁, BodyLoose p l y (headSpec ws rm) cc maxL ret e s m args below meth c s₁ → c.maxLocals = maxL → (∀ x ∈ c.exceptionTable.toList, False) → Pc args s →
      W p l e (headSpec ws rm).room s m args below meth c s.heap [] 0 0 (vx_MQ below Qc XC args s mc ms free) (entryFrame m args maxL)) : vx_Met l y ws rm Pc Qc XC mc ms free := by
  refine MetFree.of_bodyS (code := cc) (maxLocals := maxL) (ret := ret) hy ?_ ?_
  · intro args s m h hn
    obtain ⟨meth, c, h1, h2, h3, h4, h5, h6, -, -⟩ := Cond.code_spec hn (atoms_spec (ws := ws) h _ (by rw [hw]; exact List.mem_cons_self))
    exact ⟨meth, c, h1, h2, h3, h4, h5, h6⟩
  · intro p e s m args below meth c s₁ B hml hP _
    have hh0 : s₁.heap = s.heap := by rw [B.state]; rfl
    have ht : ∀ x ∈ c.exceptionTable.toList, False := by
      obtain ⟨meth9, c9, h1, h2, -, -, -, -, h7, -⟩ := Cond.code_spec B.named (atoms_spec (ws := ws) B.pre _ (by rw [hw]; exact List.mem_cons_self))
      cases Option.some.inj (h1.symm.trans B.method)
      cases Option.some.inj (h2.symm.trans (Stand.of_body B).code)
      intro x hx
      rw [Array.isEmpty_iff.mp h7] at hx
      cases hx
    obtain ⟨t, a1, o, b1, b2, b3⟩ := body p e s m args below meth c s₁ B hml ht hP s₁ hh0 (Stand.of_body B)
    exact ⟨t, o, a1, b1, b2, b3⟩
/-- the table of a body with handlers -/
theorem vx_table {p : Program} {x y : MethodName} {S : Spec} {cc bytes : ByteArray} {maxL maxL' : Nat} {ret ret' : Option FieldType} {e : Env} {s s₁ : State} {m : MethodId} {args : Array Value} {below : List Frame} {meth : Method} {c : Code} {hh : List (Nat × Nat × Nat × Nat)}
    (B : BodyLoose p l y S cc maxL ret e s m args below meth c s₁) (h : (Cond.codeWith y bytes maxL' ret' hh).before args s = true) : c.exceptionTable.toList = tableOf hh := by
  obtain ⟨m9, meth9, c9, hn9, h1, h2, -, -, h6, -⟩ := Cond.codeWith_spec h
  cases Option.some.inj (hn9.symm.trans B.named)
  cases Option.some.inj (h1.symm.trans B.method)
  cases Option.some.inj (h2.symm.trans (Stand.of_body B).code)
  rw [← h6, table_eq]
end Bodies
end VXA
/-! ===== END ===== -/
/-! ===== BEGIN a static call of a method with an exception table ===== -/
section VXS
variable {p : Program} {l : Launch} {e : Env} {R : Room} {s : State} {m : MethodId} {args : Array Value} {below : List Frame} {meth : Method} {c : Code} {T : State} {H : Heap} {locs : List Loc} {cells slots : Nat}
abbrev vx_CSW (R : Room) (s : State) (args : Array Value) (own : String) (index : Nat) (y : MethodName) (bytes : ByteArray) (maxL : Nat) (ret : Option FieldType) (hh : List (Nat × Nat × Nat × Nat)) (ws : List Cond) (rm : Room) (mc ms n : Nat) : Prop :=
  (rm.cells = mc ∧ rm.slots = ms ∧ rm.frames + 1 ≤ R.frames ∧ 8 + (maxL + 11) + rm.locals ≤ R.locals ∧ (∀ w ∈ ws, ∀ (a' : Array Value) (U : State), s.WarmedH U.vm → w.before a' U = true) ∧ Cond.codeWith y bytes maxL ret hh ∈ ws) ∧
  (Cond.codeWith y bytes maxL ret hh).before args s = true ∧ (Cond.initialized y.cls).before args s = true ∧ (y.cls ≠ "java/lang/invoke/MethodHandle" ∧ y.cls ≠ "java/lang/invoke/VarHandle") ∧
  (∀ sig, parseMethodDescriptor y.desc = some sig → n = sig.parameters.length) ∧ (Cond.methodLink own index y).before args s = true ∧ (Cond.static y).before args s = true
theorem vx_cwSW {own : String} {index maxL mc ms : Nat} {y : MethodName} {bytes : ByteArray} {ret : Option FieldType} {hh : List (Nat × Nat × Nat × Nat)} {Ts ws ws' : List Cond} {rm : Room} (n : Nat) (ht : ∀ w ∈ Ts, w.before args s = true) (hT : GoodIn Ts (va_wsS own index y ws)) (hw : ws = Cond.codeWith y bytes maxL ret hh :: ws') (hrc : rm.cells = mc) (hrs : rm.slots = ms)
    (hd : y.cls ≠ "java/lang/invoke/MethodHandle" ∧ y.cls ≠ "java/lang/invoke/VarHandle" ∧ (parseMethodDescriptor y.desc).map (fun d => d.parameters.length) = some n) (hR : rm.frames + 1 ≤ R.frames ∧ 8 + (maxL + 11) + rm.locals ≤ R.locals) :
    vx_CSW R s args own index y bytes maxL ret hh ws rm mc ms n := by
  have ok : ∀ w ∈ va_wsS own index y ws, w.before args s = true := fun w h => ht w (hT w h).1
  have hG : GoodIn Ts ws := fun w h => hT w (by unfold va_wsS; exact List.mem_append_right _ h)
  have hc : Cond.codeWith y bytes maxL ret hh ∈ ws := by rw [hw]; exact List.mem_cons_self
  refine ⟨⟨hrc, hrs, hR.1, hR.2, pay_in ht hG, hc⟩, ht _ (hG _ hc).1, ok _ (by simp [va_wsS]), ⟨hd.1, hd.2.1⟩, fun sig h => ?_, ok _ (by simp [va_wsS]), ok _ (by simp [va_wsS])⟩
  have h2 := hd.2.2
  rw [h] at h2
  exact (Option.some.inj h2).symm
theorem vx_callSW (X : Stand p l e R s m args below meth c T locs cells slots) (hexec : p.tables.exec = Jvm.exec) {own : String} {index : Nat} {y : MethodName} {bytes : ByteArray} {maxL : Nat} {ret : Option FieldType} {hh : List (Nat × Nat × Nat × Nat)}
    (hown : s.vm.findClass own = some m.cls) (hlink : (Cond.methodLink own index y).before args s = true) (hstat : (Cond.static y).before args s = true) (hinit : (Cond.initialized y.cls).before args s = true)
    (hcode : (Cond.codeWith y bytes maxL ret hh).before args s = true) (hy : y.cls ≠ "java/lang/invoke/MethodHandle" ∧ y.cls ≠ "java/lang/invoke/VarHandle")
    {W9 : Nat} {Pre : Pt → Array Value → Prop} {Post : Pt → Array Value → Option Value → Pt → Prop} (hK : Back l R p e below s args y 3 W9 Pre Post)
    {g : JFrame} (hg : g.method = m) (hsize : g.locals.size = c.maxLocals) {argsL rest : List Value} (hlen : ∀ sig, parseMethodDescriptor y.desc = some sig → argsL.length = sig.parameters.length)
    (hstack : g.stack = argsL.reverse ++ rest) (hW : 2 * g.monitorRoom + (rest.map fun v => v.category).sum ≤ W9) (hdg : decode c.code g.pc = .ok (.invokestatic index, 3))
    (hpre : ∀ vm₁, s.WarmedH vm₁ → Pre ⟨T.setVm vm₁, locs, cells, slots⟩ argsL.toArray) :
    ∃ (v : Option Value) (vm₁ : Vm) (B : Pt), s.WarmedH vm₁ ∧ Stand p l e R s m args below meth c B.U B.locs B.cells B.slots ∧ Post ⟨T.setVm vm₁, locs, cells, slots⟩ argsL.toArray v B ∧
      ∀ target, Steps p.tables e below (B.U.setTop { g with pc := g.pc + 3, stack := v.toList ++ rest }) target → Steps p.tables e below (T.setTop g) target := by
  obtain ⟨mk, methM, cM, hnamed, hmethM, -, -, -, -, -, -, hsigM⟩ := Cond.codeWith_spec hcode
  have hstatic : methM.isStatic = true := Cond.static_spec hnamed hmethM hstat
  obtain ⟨kP, hkP, -⟩ := className_of_methodNamed hnamed
  have hinitP : kP.init = .initialized := Cond.initialized_spec (findClass_of_methodNamed hnamed) hkP hinit
  obtain ⟨vm₁, X₁, hstep₁⟩ := X.invokestatic hexec hown hlink hnamed hmethM hstatic hkP hinitP hy (g := g) hg (argsL := argsL) (rest := rest) (hlen _ hsigM) hstack hdg
  obtain ⟨v, B, X', hpost, hsteps⟩ := hK m meth c ⟨T.setVm vm₁, locs, cells, slots⟩ { g with stack := rest } (.invokestatic index) mk argsL.toArray X₁ hg hsize hdg hW (X₁.named hnamed) (hpre vm₁ X₁.warmed)
  exact ⟨v, vm₁, B, X₁.warmed, X', hpost, fun target h => hstep₁ _ fun acts => by rw [doInvoke_state]; exact hsteps.trans h⟩
theorem vx_runSW {y : MethodName} {bytes cc : ByteArray} {maxL nL mc ms n index : Nat} {ret : Option FieldType} {hh : List (Nat × Nat × Nat × Nat)} {ws : List Cond} {rm : Room} {Pc : Array Value → State → Prop} {Qc : Array Value → State → Outcome → State → Prop} {free : Addr → Prop} {Ts : List Cond} {own : String} {As rest : List Value} {g : JFrame}
    (S : CallFix p m c cc nL s args Ts own) (hM : Met l y ws rm Pc Qc mc ms free) (cw : vx_CSW R s args own index y bytes maxL ret hh ws rm mc ms n) (hp : PreS s H Pc As)
    (hg : g.method = m) (hn : As.length = n) (hsize : g.locals.size = nL) (hstack : g.stack = As.reverse ++ rest) (hW : 2 * g.monitorRoom + (rest.map fun v => v.category).sum ≤ 8) (hdg : decode cc g.pc = .ok (.invokestatic index, 3)) (hf : cells + mc ≤ R.cells ∧ slots + ms ≤ R.slots) :
    va_Run p l e R s m args below meth c H locs cells slots mc ms g rest (Qc As.toArray) (free) := by
  obtain ⟨⟨hrc, hrs, hfr, hlo, hws, hcw⟩, hcode, hini, hy, hlen, hl, hstt⟩ := cw
  have hK : Back l R p e below s args y 3 8 (PreOf R mc ms Pc) (PostOf Qc mc ms free) := va_backW (hh := hh) (bytes := bytes) (maxL := maxL) (ret := ret) hM hp.1 hrc hrs hfr hlo hws hcw (fun a' U hW => word_at hW (Or.inl (by first | rfl | simp [Cond.onTables, Cond.keeps, Cond.steady])) hini)
  obtain ⟨hx, hb, hml, ho, -⟩ := S
  intro T hT X
  obtain ⟨v, vm₁, ⟨U', l2, c2, s2⟩, hW₁, X', ⟨g', mk, t, L, e1, e2, hq, h1, hL, h2, h3⟩, st⟩ := vx_callSW X hx (hh := hh) (bytes := bytes) (maxL := maxL) (ret := ret) ho hl hstt hini hcode hy hK hg (hsize.trans hml.symm) (argsL := As) (rest := rest) (fun sig h => hn.trans (hlen sig h)) hstack hW (by rw [hb]; exact hdg)
    (fun vm₁ hW₁ => ⟨hf.1, hf.2, hp.2 (T.setVm vm₁) hT hW₁⟩)
  dsimp only [Pt.U, Pt.locs, Pt.cells, Pt.slots] at X' e1 e2 h1 h2 h3 st
  subst h1; subst h2; subst h3
  exact ⟨v, (T.setVm vm₁).calling g' mk As.toArray, t, U', L, hT, X', hL, e1, e2, hq, st⟩
/-- not caught here, past rows that name other classes: it goes on to the caller -/
theorem vx_outP {p : Program} {l : Launch} {e : Env} {R : Room} {s : State} {m : MethodId} {args : Array Value} {below : List Frame} {meth : Method} {c : Code} {H : Heap} {locs : List Loc} {cells slots : Nat} {free : Addr → Prop} {ls : Array Slot} {rest : List Value} {Qc : Array Value → State → Outcome → State → Prop} {XC : String → State → State → Prop}
    {pc : Nat} {own E : String} {ce : Cell} {q : Addr} {mc ms : Nat} (hown : s.vm.findClass own = some m.cls) (hlocks : meth.locks = false)
    (hpass : ∀ z ∈ c.exceptionTable.toList, covers z pc = false ∨ (z.catchType ≠ 0 ∧ ∃ nm : String, (Cond.classLink own z.catchType nm).before args s = true ∧ va_Nc E nm s)) (hcell : H[q]? = some ce) (hv : ce.vm = .none) (hcl : s.vm.findClass E = some ce.cls)
    (hx : ∀ t : State, t.heap = H → s.vm.Alike t.vm → XC E s t) (hf : ∀ z ∈ locs, free z.base) (hc : cells ≤ mc) (hs : slots ≤ ms) :
    vx_W p l e R s m args below meth c H locs cells slots (vx_MQ below Qc XC args s mc ms free) (F0 m pc ls rest) q := by
  intro T hT X
  have hpl : e.platform.magicAccessors = ({} : Platform).magicAccessors := by rw [X.admits.platform]
  obtain ⟨vm', hW', X', st⟩ := X.outThrough hlocks q (g := F0 m pc ls rest) rfl rfl rfl (cell := ce) (by rw [hT]; exact hcell) (by rw [hv]; rfl)
    (by obtain ⟨k9, h9, -⟩ := Vm.findClass_spec hcl; exact ⟨k9, h9⟩) (fun z hz => by
      rcases hpass z hz with h | ⟨hz0, nm, hl1, hn1⟩
      · exact Or.inl h
      · obtain ⟨c6, hc6, hcl6⟩ := Cond.classLink_spec hown hl1 e.platform hpl
        obtain ⟨a8, b8, h1, h2, h3⟩ := hn1
        cases Option.some.inj (h1.symm.trans hcl)
        cases Option.some.inj (h2.symm.trans hc6)
        exact Or.inr ⟨hz0, _, hcl6, h3⟩)
  obtain ⟨g₀, hfr⟩ := X'.frames_eq
  have hcell9 : ((T.setVm vm').setFrames (.throwing q :: below)).heap[q]? = some ce := by
    show T.heap[q]? = some ce
    rw [hT]; exact hcell
  have hend : Ended ((T.setVm vm').setFrames (.throwing q :: below)) below (.threw q) := State.frames_setFrames _ (State.cur_lt_of_frames hfr)
  refine ⟨(T.setVm vm').setFrames (.throwing q :: below), ?_, .threw q, X'.here.running, hend, Or.inr ⟨q, rfl, E, ce, locs, hx _ hT (X'.ends _).1.alike, hcell9, hv, hcl, (X'.ends _).1, (X'.ends _).2.mono hc hs, hf⟩⟩
  rw [X.pushThrowing_eq]
  exact st
/-- a thing of a world lies in the heap -/
theorem vx_lt {D : va_G} {cl : List vw_C} {ws : va_W} {H1 : Heap} (h : va_P D cl ws H1) {k : Nat} {q : Nat × va_E} (hk : ws[k]? = some q) : q.1 < H1.size := (h k q hk).lt
end VXS
/-! ===== END ===== -/
/-! ===== BEGIN methods with a table of their own: called by a name, returning or throwing ===== -/
section VXH
/-! vx_backW, vx_callVX, vx_callSX, vx_callVW, vx_runVW, vx_runVX, vx_runSX, vx_ofWH follow the same proofs as their sisters above (Free/Laws.lean, Shelf42/LK1.lean); vx_outP calls Shelf42/NT130.lean (outThrough). -/
section
variable {l : Launch} {R : Room} {p : Program} {e : Env} {below : List Frame} {s : State} {sargs : Array Value} {y : MethodName} {len W9 : Nat}
theorem vx_backW {ws : List Cond} {rm : Room} {Pc : Array Value → State → Prop} {Qc : Array Value → State → Outcome → State → Prop} {XC : String → State → State → Prop} {mc ms : Nat} {free : Addr → Prop} {bytes : ByteArray} {maxL : Nat} {ret : Option FieldType} {hh : List (Nat × Nat × Nat × Nat)}
    (hM : vx_Met l y ws rm Pc Qc XC mc ms free) (hblind : FrameBlind Pc) (hrc : rm.cells = mc) (hrs : rm.slots = ms)
    (hframes : rm.frames + 1 ≤ R.frames) (hlocals : W9 + (maxL + 11) + rm.locals ≤ R.locals)
    (hws : ∀ w ∈ ws, ∀ a' U, s.WarmedH U.vm → w.before a' U = true) (hcode : Cond.codeWith y bytes maxL ret hh ∈ ws) (hinit : ∀ a' U, s.WarmedH U.vm → (Cond.initialized y.cls).before a' U = true) :
    vx_Back l R p e below s sargs y len W9 (PreOf R mc ms Pc) (PostOf Qc mc ms free) (vx_Post XC mc ms free) := by
  intro m meth c A g ig mk a X hg hsize hdg hW hn hp
  have h1 : (headSpec ws rm).pre.before a A.U = true := atoms_intro fun w hw => hws w hw _ _ X.warmed
  have h2 : (Cond.codeWith y bytes maxL ret hh).before a A.U = true := hws _ hcode _ _ X.warmed
  have h3 : (Cond.initialized y.cls).before a A.U = true := hinit _ _ X.warmed
  have h4 : A.cells + (headSpec ws rm).room.cells ≤ R.cells := by rw [show (headSpec ws rm).room.cells = mc from hrc]; exact hp.1
  have h5 : A.slots + (headSpec ws rm).room.slots ≤ R.slots := by rw [show (headSpec ws rm).room.slots = ms from hrs]; exact hp.2.1
  have hPc : Pc a (A.U.calling g mk a) := hblind _ _ _ _ hp.2.2
  obtain ⟨U, Ls, c0, s0⟩ := A
  dsimp only [Pt.U, Pt.locs, Pt.cells, Pt.slots] at h1 h2 h3 h4 h5 X hn hPc ⊢
  obtain ⟨m9, methY, cY, hn9, hmY, hcY, -, hlY, -⟩ := Cond.codeWith_spec h2
  cases Option.some.inj (hn9.symm.trans hn)
  obtain ⟨kY, hkY, -⟩ := className_of_methodNamed hn
  have hinitY : kY.init = .initialized := Cond.initialized_spec (findClass_of_methodNamed hn) hkY h3
  have h : At U g.method c below := by rw [hg]; exact X.here
  have hlocals9 : W9 + (maxL + 11) + (headSpec ws rm).room.locals ≤ R.locals := hlocals
  have happ : (headSpec ws rm).appliesLoose y e.platform (U.calling g mk a) = true :=
    Spec.appliesLoose_calling (g := g) h hdg hn hkY hinitY
      (X.room_calling (g := g) (R' := (headSpec ws rm).room) hsize hmY hcY hframes (by rw [hlY]; omega) h4 h5) h1
  obtain ⟨mid, hmid⟩ := h.above
  have hfr : (U.setTop g).frames = (.java g :: mid) ++ below := by rw [State.frames_setTop' g h.top, hmid]; rfl
  obtain ⟨o, s₂, hsteps, -, hend, hq⟩ := Steps.callFree hM p X.admits X.cas X.clock (acts := []) hfr happ hPc trivial
  have hq' : vx_Q Qc XC mc ms free a (U.calling g mk a) o s₂ := hq
  rw [State.frames_setTop' g h.top] at hend
  obtain ⟨g₀, hg0⟩ := Option.isSome_iff_exists.mp h.top
  obtain ⟨r, hr⟩ := State.topJava?_eq_some.mp hg0
  have hr' : (({ U with heap := s₂.heap, slotsUsed := s₂.slotsUsed } : State).setVm s₂.vm).frames = .java g₀ :: r := hr
  rcases hq' with ⟨hqc, L, hfe, hL⟩ | ⟨q, rfl, E, ce, L, hx, hce, hcv, hcl, hW₂, hsm, hL⟩
  · obtain ⟨⟨v, rfl⟩, hW₂, e2, q2, q3, q4, q5, q6⟩ := id hfe
    have e3 : s₂ = ({ (U.calling g mk a).setFrames s₂.frames with heap := s₂.heap, slotsUsed := s₂.slotsUsed } : State).setVm s₂.vm := by
      have : s₂ = ({ s₂ with vm := (U.calling g mk a).vm } : State).setVm s₂.vm := rfl
      rw [e2] at this
      exact this
    obtain ⟨c₂, i₂, len₂, hc₂, hd₂, hf₂⟩ := hend
    have hW' : U.WarmedH s₂.vm := hW₂
    have hcc : c₂ = c := by
      have h1 : s₂.code? g.method = U.code? g.method := by
        rw [State.code?_eq, State.code?_eq, hW'.alike.method?]
      exact Option.some.inj (hc₂.symm.trans (h1.trans h.code))
    subst hcc
    have hlen : len₂ = len := by rw [hdg] at hd₂; cases hd₂; rfl
    subst hlen
    have hs₂ : s₂ = (({ U with heap := s₂.heap, slotsUsed := s₂.slotsUsed } : State).setVm s₂.vm).setTop { g with pc := g.pc + len₂, stack := v.toList ++ g.stack } := by
      refine e3.trans ?_
      rw [hf₂, State.calling_eq h.top, State.setFrames_setFrames, State.setTop_of_frames _ hr', hr]
      rfl
    have hsame : U.sameButNew ({ U with heap := s₂.heap, slotsUsed := s₂.slotsUsed } : State) L mc ms := by
      refine ⟨?_, q2, q3, q4, q5, q6⟩
      obtain ⟨t, ht, -⟩ := State.frames_cons hr
      show ({ U with heap := s₂.heap, slotsUsed := s₂.slotsUsed } : State) = { U.setFrames U.frames with heap := s₂.heap, slotsUsed := s₂.slotsUsed }
      rw [State.setFrames_self ht]
    subst hg
    refine Or.inl ⟨v, ⟨(({ U with heap := s₂.heap, slotsUsed := s₂.slotsUsed } : State).setVm s₂.vm), Ls ++ L, c0 + mc, s0 + ms⟩,
      ⟨X.admits, X.cas, X.clock, X.frames, X.room, X.hears, X.method, X.code, (X.here.setHeapUsed s₂.heap s₂.slotsUsed).setVm hW'.alike, X.tail, State.WarmedH.trans X.warmed hW', X.limits, X.bytes, X.same.trans (hsame.setVm s.vm)⟩,
      ⟨g, mk, s₂, L, rfl, rfl, hqc, rfl, hL, rfl, rfl⟩, ?_⟩
    show Steps p.tables e below _ ((({ U with heap := s₂.heap, slotsUsed := s₂.slotsUsed } : State).setVm s₂.vm).setTop { g with pc := g.pc + len₂, stack := v.toList ++ g.stack })
    rw [← hs₂]
    exact hsteps
  · obtain ⟨e2, q2, q3, q4, q5, q6⟩ := id hsm
    have e3 : s₂ = ({ (U.calling g mk a).setFrames s₂.frames with heap := s₂.heap, slotsUsed := s₂.slotsUsed } : State).setVm s₂.vm := by
      have : s₂ = ({ s₂ with vm := (U.calling g mk a).vm } : State).setVm s₂.vm := rfl
      rw [e2] at this
      exact this
    have hf₂ : s₂.frames = .throwing q :: .java g :: U.frames.tail := hend
    have hW' : U.WarmedH s₂.vm := hW₂
    have hs₂ : s₂ = ((({ U with heap := s₂.heap, slotsUsed := s₂.slotsUsed } : State).setVm s₂.vm).setTop g).pushFrame (.throwing q) := by
      refine e3.trans ?_
      rw [hf₂, State.calling_eq h.top, State.setFrames_setFrames, State.pushFrame, State.frames_setTop _ hr', State.setTop_of_frames _ hr', State.setFrames_setFrames, hr]
      rfl
    have hsame : U.sameButNew ({ U with heap := s₂.heap, slotsUsed := s₂.slotsUsed } : State) L mc ms := by
      refine ⟨?_, q2, q3, q4, q5, q6⟩
      obtain ⟨t, ht, -⟩ := State.frames_cons hr
      show ({ U with heap := s₂.heap, slotsUsed := s₂.slotsUsed } : State) = { U.setFrames U.frames with heap := s₂.heap, slotsUsed := s₂.slotsUsed }
      rw [State.setFrames_self ht]
    subst hg
    refine Or.inr ⟨q, ⟨(({ U with heap := s₂.heap, slotsUsed := s₂.slotsUsed } : State).setVm s₂.vm), Ls ++ L, c0 + mc, s0 + ms⟩,
      ⟨X.admits, X.cas, X.clock, X.frames, X.room, X.hears, X.method, X.code, (X.here.setHeapUsed s₂.heap s₂.slotsUsed).setVm hW'.alike, X.tail, State.WarmedH.trans X.warmed hW', X.limits, X.bytes, X.same.trans (hsame.setVm s.vm)⟩,
      ⟨g, mk, s₂, L, E, ce, rfl, rfl, hx, hce, hcv, hcl, rfl, hL, rfl, rfl⟩, ?_⟩
    show Steps p.tables e below _ (((({ U with heap := s₂.heap, slotsUsed := s₂.slotsUsed } : State).setVm s₂.vm).setTop g).pushFrame (.throwing q))
    rw [← hs₂]
    exact hsteps
end
variable {p : Program} {l : Launch} {e : Env} {R : Room} {s : State} {m : MethodId} {args : Array Value} {below : List Frame} {meth : Method} {c : Code} {T : State} {H : Heap} {locs : List Loc} {cells slots : Nat}
theorem vx_callVX (X : Stand p l e R s m args below meth c T locs cells slots) (hexec : p.tables.exec = Jvm.exec) {own C : String} {index : Nat} {y : MethodName} {bytes : ByteArray} {maxL : Nat} {ret : Option FieldType} {hh : List (Nat × Nat × Nat × Nat)}
    (hown : s.vm.findClass own = some m.cls) (hlink : (Cond.methodLink own index y).before args s = true) (hinst : (Cond.instanceMethod y).before args s = true) (hsel : (Cond.selects C y y).before args s = true)
    (hcode : (Cond.codeWith y bytes maxL ret hh).before args s = true) (hy : y.cls ≠ "java/lang/invoke/MethodHandle" ∧ y.cls ≠ "java/lang/invoke/VarHandle")
    {W9 : Nat} {Pre : Pt → Array Value → Prop} {Post : Pt → Array Value → Option Value → Pt → Prop} {PostX : Pt → Array Value → Addr → Pt → Prop} (hK : vx_Back l R p e below s args y 3 W9 Pre Post PostX)
    {b : Addr} {cellB : Cell} (hcell : T.heap[b]? = some cellB) (hobj : cellB.vm.isStatics = false) (hcls : s.vm.findClass C = some cellB.cls)
    {g : JFrame} (hg : g.method = m) (hsize : g.locals.size = c.maxLocals) {argsL rest : List Value} (hlen : ∀ sig, parseMethodDescriptor y.desc = some sig → argsL.length = sig.parameters.length)
    (hstack : g.stack = argsL.reverse ++ .ref b :: rest) (hW : 2 * g.monitorRoom + (rest.map fun v => v.category).sum ≤ W9) (hdg : decode c.code g.pc = .ok (.invokevirtual index, 3))
    (hpre : ∀ vm₁, s.WarmedH vm₁ → Pre ⟨T.setVm vm₁, locs, cells, slots⟩ (Value.ref b :: argsL).toArray) :
    (∃ (v : Option Value) (vm₁ : Vm) (B : Pt), s.WarmedH vm₁ ∧ Stand p l e R s m args below meth c B.U B.locs B.cells B.slots ∧ Post ⟨T.setVm vm₁, locs, cells, slots⟩ (Value.ref b :: argsL).toArray v B ∧
      ∀ target, Steps p.tables e below (B.U.setTop { g with pc := g.pc + 3, stack := v.toList ++ rest }) target → Steps p.tables e below (T.setTop g) target) ∨
    (∃ (q : Addr) (vm₁ : Vm) (B : Pt), s.WarmedH vm₁ ∧ Stand p l e R s m args below meth c B.U B.locs B.cells B.slots ∧ PostX ⟨T.setVm vm₁, locs, cells, slots⟩ (Value.ref b :: argsL).toArray q B ∧
      Steps p.tables e below (T.setTop g) ((B.U.setTop { g with stack := rest }).pushFrame (.throwing q))) := by
  obtain ⟨mk, methM, hnamed, hmethM, hstM, habM⟩ := Cond.instanceMethod_spec hinst
  obtain ⟨m8, methM', cM, hn8, hmethM', -, -, -, -, -, -, hsigM⟩ := Cond.codeWith_spec hcode
  cases Option.some.inj (hn8.symm.trans hnamed)
  cases hmethM.symm.trans hmethM'
  obtain ⟨c2, r2, m2, q1, q2, q3, q4, kP, hkP, hkPi⟩ := Cond.selects_spec hsel
  cases hcls.symm.trans q1
  cases (State.methodFound?_of_named hnamed hy).symm.trans q2
  cases hnamed.symm.trans q3
  have hselP : selectMethod e.platform s.vm cellB.cls mk = .method mk := by rw [Launch.admits_selectMethod X.admits]; exact q4
  obtain ⟨vm₁, X₁, hstep₁⟩ := X.invokevirtual hexec hown hlink hnamed hmethM hstM hkP hkPi hy (a := b) (cell := cellB) hcell
    (fun z h => by rw [h] at hobj; cases hobj) hselP hmethM habM hkP hkPi (g := g) hg (argsL := argsL) (rest := rest) (hlen _ hsigM) hstack hdg
  rcases hK m meth c ⟨T.setVm vm₁, locs, cells, slots⟩ { g with stack := rest } (.invokevirtual index) mk (Value.ref b :: argsL).toArray X₁ hg hsize hdg hW (X₁.named hnamed) (hpre vm₁ X₁.warmed) with ⟨v, B, X', hpost, hsteps⟩ | ⟨q, B, X', hpost, hsteps⟩
  · exact Or.inl ⟨v, vm₁, B, X₁.warmed, X', hpost, fun target h => hstep₁ _ fun acts => by rw [doInvoke_state]; exact hsteps.trans h⟩
  · exact Or.inr ⟨q, vm₁, B, X₁.warmed, X', hpost, hstep₁ _ fun acts => by rw [doInvoke_state]; exact hsteps⟩
theorem vx_callSX (X : Stand p l e R s m args below meth c T locs cells slots) (hexec : p.tables.exec = Jvm.exec) {own : String} {index : Nat} {y : MethodName} {bytes : ByteArray} {maxL : Nat} {ret : Option FieldType} {hh : List (Nat × Nat × Nat × Nat)}
    (hown : s.vm.findClass own = some m.cls) (hlink : (Cond.methodLink own index y).before args s = true) (hstat : (Cond.static y).before args s = true) (hinit : (Cond.initialized y.cls).before args s = true)
    (hcode : (Cond.codeWith y bytes maxL ret hh).before args s = true) (hy : y.cls ≠ "java/lang/invoke/MethodHandle" ∧ y.cls ≠ "java/lang/invoke/VarHandle")
    {W9 : Nat} {Pre : Pt → Array Value → Prop} {Post : Pt → Array Value → Option Value → Pt → Prop} {PostX : Pt → Array Value → Addr → Pt → Prop} (hK : vx_Back l R p e below s args y 3 W9 Pre Post PostX)
    {g : JFrame} (hg : g.method = m) (hsize : g.locals.size = c.maxLocals) {argsL rest : List Value} (hlen : ∀ sig, parseMethodDescriptor y.desc = some sig → argsL.length = sig.parameters.length)
    (hstack : g.stack = argsL.reverse ++ rest) (hW : 2 * g.monitorRoom + (rest.map fun v => v.category).sum ≤ W9) (hdg : decode c.code g.pc = .ok (.invokestatic index, 3))
    (hpre : ∀ vm₁, s.WarmedH vm₁ → Pre ⟨T.setVm vm₁, locs, cells, slots⟩ argsL.toArray) :
    (∃ (v : Option Value) (vm₁ : Vm) (B : Pt), s.WarmedH vm₁ ∧ Stand p l e R s m args below meth c B.U B.locs B.cells B.slots ∧ Post ⟨T.setVm vm₁, locs, cells, slots⟩ argsL.toArray v B ∧
      ∀ target, Steps p.tables e below (B.U.setTop { g with pc := g.pc + 3, stack := v.toList ++ rest }) target → Steps p.tables e below (T.setTop g) target) ∨
    (∃ (q : Addr) (vm₁ : Vm) (B : Pt), s.WarmedH vm₁ ∧ Stand p l e R s m args below meth c B.U B.locs B.cells B.slots ∧ PostX ⟨T.setVm vm₁, locs, cells, slots⟩ argsL.toArray q B ∧
      Steps p.tables e below (T.setTop g) ((B.U.setTop { g with stack := rest }).pushFrame (.throwing q))) := by
  obtain ⟨mk, methM, cM, hnamed, hmethM, -, -, -, -, -, -, hsigM⟩ := Cond.codeWith_spec hcode
  have hstatic : methM.isStatic = true := Cond.static_spec hnamed hmethM hstat
  obtain ⟨kP, hkP, -⟩ := className_of_methodNamed hnamed
  have hinitP : kP.init = .initialized := Cond.initialized_spec (findClass_of_methodNamed hnamed) hkP hinit
  obtain ⟨vm₁, X₁, hstep₁⟩ := X.invokestatic hexec hown hlink hnamed hmethM hstatic hkP hinitP hy (g := g) hg (argsL := argsL) (rest := rest) (hlen _ hsigM) hstack hdg
  rcases hK m meth c ⟨T.setVm vm₁, locs, cells, slots⟩ { g with stack := rest } (.invokestatic index) mk argsL.toArray X₁ hg hsize hdg hW (X₁.named hnamed) (hpre vm₁ X₁.warmed) with ⟨v, B, X', hpost, hsteps⟩ | ⟨q, B, X', hpost, hsteps⟩
  · exact Or.inl ⟨v, vm₁, B, X₁.warmed, X', hpost, fun target h => hstep₁ _ fun acts => by rw [doInvoke_state]; exact hsteps.trans h⟩
  · exact Or.inr ⟨q, vm₁, B, X₁.warmed, X', hpost, hstep₁ _ fun acts => by rw [doInvoke_state]; exact hsteps⟩
theorem vx_callVW (X : Stand p l e R s m args below meth c T locs cells slots) (hexec : p.tables.exec = Jvm.exec) {own C : String} {index : Nat} {y : MethodName} {bytes : ByteArray} {maxL : Nat} {ret : Option FieldType} {hh : List (Nat × Nat × Nat × Nat)}
    (hown : s.vm.findClass own = some m.cls) (hlink : (Cond.methodLink own index y).before args s = true) (hinst : (Cond.instanceMethod y).before args s = true) (hsel : (Cond.selects C y y).before args s = true)
    (hcode : (Cond.codeWith y bytes maxL ret hh).before args s = true) (hy : y.cls ≠ "java/lang/invoke/MethodHandle" ∧ y.cls ≠ "java/lang/invoke/VarHandle")
    {W9 : Nat} {Pre : Pt → Array Value → Prop} {Post : Pt → Array Value → Option Value → Pt → Prop} (hK : Back l R p e below s args y 3 W9 Pre Post)
    {b : Addr} {cellB : Cell} (hcell : T.heap[b]? = some cellB) (hobj : cellB.vm.isStatics = false) (hcls : s.vm.findClass C = some cellB.cls)
    {g : JFrame} (hg : g.method = m) (hsize : g.locals.size = c.maxLocals) {argsL rest : List Value} (hlen : ∀ sig, parseMethodDescriptor y.desc = some sig → argsL.length = sig.parameters.length)
    (hstack : g.stack = argsL.reverse ++ .ref b :: rest) (hW : 2 * g.monitorRoom + (rest.map fun v => v.category).sum ≤ W9) (hdg : decode c.code g.pc = .ok (.invokevirtual index, 3))
    (hpre : ∀ vm₁, s.WarmedH vm₁ → Pre ⟨T.setVm vm₁, locs, cells, slots⟩ (Value.ref b :: argsL).toArray) :
    ∃ (v : Option Value) (vm₁ : Vm) (B : Pt), s.WarmedH vm₁ ∧ Stand p l e R s m args below meth c B.U B.locs B.cells B.slots ∧ Post ⟨T.setVm vm₁, locs, cells, slots⟩ (Value.ref b :: argsL).toArray v B ∧
      ∀ target, Steps p.tables e below (B.U.setTop { g with pc := g.pc + 3, stack := v.toList ++ rest }) target → Steps p.tables e below (T.setTop g) target := by
  obtain ⟨mk, methM, hnamed, hmethM, hstM, habM⟩ := Cond.instanceMethod_spec hinst
  obtain ⟨m8, methM', cM, hn8, hmethM', -, -, -, -, -, -, hsigM⟩ := Cond.codeWith_spec hcode
  cases Option.some.inj (hn8.symm.trans hnamed)
  cases hmethM.symm.trans hmethM'
  obtain ⟨c2, r2, m2, q1, q2, q3, q4, kP, hkP, hkPi⟩ := Cond.selects_spec hsel
  cases hcls.symm.trans q1
  cases (State.methodFound?_of_named hnamed hy).symm.trans q2
  cases hnamed.symm.trans q3
  have hselP : selectMethod e.platform s.vm cellB.cls mk = .method mk := by rw [Launch.admits_selectMethod X.admits]; exact q4
  obtain ⟨vm₁, X₁, hstep₁⟩ := X.invokevirtual hexec hown hlink hnamed hmethM hstM hkP hkPi hy (a := b) (cell := cellB) hcell
    (fun z h => by rw [h] at hobj; cases hobj) hselP hmethM habM hkP hkPi (g := g) hg (argsL := argsL) (rest := rest) (hlen _ hsigM) hstack hdg
  obtain ⟨v, B, X', hpost, hsteps⟩ := hK m meth c ⟨T.setVm vm₁, locs, cells, slots⟩ { g with stack := rest } (.invokevirtual index) mk (Value.ref b :: argsL).toArray X₁ hg hsize hdg hW (X₁.named hnamed) (hpre vm₁ X₁.warmed)
  exact ⟨v, vm₁, B, X₁.warmed, X', hpost, fun target h => hstep₁ _ fun acts => by rw [doInvoke_state]; exact hsteps.trans h⟩
abbrev vx_CVW (R : Room) (s : State) (args : Array Value) (own C : String) (index : Nat) (y : MethodName) (bytes : ByteArray) (maxL : Nat) (ret : Option FieldType) (hh : List (Nat × Nat × Nat × Nat)) (ws : List Cond) (rm : Room) (mc ms n : Nat) : Prop :=
  (rm.cells = mc ∧ rm.slots = ms ∧ rm.frames + 1 ≤ R.frames ∧ 8 + (maxL + 11) + rm.locals ≤ R.locals ∧ (∀ w ∈ ws, ∀ (a' : Array Value) (U : State), s.WarmedH U.vm → w.before a' U = true) ∧ Cond.codeWith y bytes maxL ret hh ∈ ws) ∧
  (Cond.codeWith y bytes maxL ret hh).before args s = true ∧ (Cond.initialized y.cls).before args s = true ∧ (y.cls ≠ "java/lang/invoke/MethodHandle" ∧ y.cls ≠ "java/lang/invoke/VarHandle") ∧
  (∀ sig, parseMethodDescriptor y.desc = some sig → n = sig.parameters.length) ∧ (Cond.methodLink own index y).before args s = true ∧ (Cond.instanceMethod y).before args s = true ∧ (Cond.selects C y y).before args s = true
theorem vx_cwVW {own C : String} {index maxL mc ms : Nat} {y : MethodName} {bytes : ByteArray} {ret : Option FieldType} {hh : List (Nat × Nat × Nat × Nat)} {Ts ws ws' : List Cond} {rm : Room} (n : Nat) (ht : ∀ w ∈ Ts, w.before args s = true) (hT : GoodIn Ts (wsV own index C y ws)) (hw : ws = Cond.codeWith y bytes maxL ret hh :: ws') (hrc : rm.cells = mc) (hrs : rm.slots = ms)
    (hd : y.cls = C ∧ y.cls ≠ "java/lang/invoke/MethodHandle" ∧ y.cls ≠ "java/lang/invoke/VarHandle" ∧ (parseMethodDescriptor y.desc).map (fun d => d.parameters.length) = some n) (hR : rm.frames + 1 ≤ R.frames ∧ 8 + (maxL + 11) + rm.locals ≤ R.locals) :
    vx_CVW R s args own C index y bytes maxL ret hh ws rm mc ms n := by
  obtain ⟨hC, hd⟩ := hd
  subst hC
  have ok : ∀ w ∈ wsV own index y.cls y ws, w.before args s = true := fun w h => ht w (hT w h).1
  have hG : GoodIn Ts ws := fun w h => hT w (by unfold wsV; exact List.mem_append_right _ h)
  have hc : Cond.codeWith y bytes maxL ret hh ∈ ws := by rw [hw]; exact List.mem_cons_self
  refine ⟨⟨hrc, hrs, hR.1, hR.2, pay_in ht hG, hc⟩, ht _ (hG _ hc).1, ok _ (by simp [wsV]), ⟨hd.1, hd.2.1⟩, fun sig h => ?_, ok _ (by simp [wsV]), ok _ (by simp [wsV]), ok _ (by simp [wsV])⟩
  have h2 := hd.2.2
  rw [h] at h2
  exact (Option.some.inj h2).symm
theorem vx_runVW {y : MethodName} {bytes cc : ByteArray} {maxL nL mc ms n index : Nat} {ret : Option FieldType} {hh : List (Nat × Nat × Nat × Nat)} {ws : List Cond} {rm : Room} {Pc : Array Value → State → Prop} {Qc : Array Value → State → Outcome → State → Prop} {free : Addr → Prop} {Ts : List Cond} {own C : String} {b : Addr} {As rest : List Value} {g : JFrame}
    (S : CallFix p m c cc nL s args Ts own) (hM : Met l y ws rm Pc Qc mc ms free) (cw : vx_CVW R s args own C index y bytes maxL ret hh ws rm mc ms n) (hp : PreV s H C b Pc As)
    (hg : g.method = m) (hn : As.length = n) (hsize : g.locals.size = nL) (hstack : g.stack = As.reverse ++ .ref b :: rest) (hW : 2 * g.monitorRoom + (rest.map fun v => v.category).sum ≤ 8) (hdg : decode cc g.pc = .ok (.invokevirtual index, 3)) (hf : cells + mc ≤ R.cells ∧ slots + ms ≤ R.slots) :
    va_Run p l e R s m args below meth c H locs cells slots mc ms g rest (Qc (Value.ref b :: As).toArray) free := by
  obtain ⟨⟨hrc, hrs, hfr, hlo, hws, hcw⟩, hcode, hini, hy, hlen, hl, hin, hse⟩ := cw
  have hK : Back l R p e below s args y 3 8 (PreOf R mc ms Pc) (PostOf Qc mc ms free) := va_backW (hh := hh) (bytes := bytes) (maxL := maxL) (ret := ret) hM hp.1 hrc hrs hfr hlo hws hcw (fun a' U hW => word_at hW (Or.inl (by first | rfl | simp [Cond.onTables, Cond.keeps, Cond.steady])) hini)
  obtain ⟨hx, hb, hml, ho, -⟩ := S
  obtain ⟨-, ⟨cellB, hcB, hoB, hclB⟩, hPc⟩ := hp
  intro T hT X
  obtain ⟨v, vm₁, ⟨U', l2, c2, s2⟩, hW₁, X', ⟨g', mk, t, L, e1, e2, hq, h1, hL, h2, h3⟩, st⟩ := vx_callVW X hx (C := C) (hh := hh) (bytes := bytes) (maxL := maxL) (ret := ret) ho hl hin hse hcode hy hK (by rw [hT]; exact hcB) hoB hclB hg (hsize.trans hml.symm) (argsL := As) (rest := rest) (fun sig h => hn.trans (hlen sig h)) hstack hW (by rw [hb]; exact hdg)
    (fun vm₁ hW₁ => ⟨hf.1, hf.2, hPc (T.setVm vm₁) hT hW₁⟩)
  dsimp only [Pt.U, Pt.locs, Pt.cells, Pt.slots] at X' e1 e2 h1 h2 h3 st
  subst h1; subst h2; subst h3
  exact ⟨v, (T.setVm vm₁).calling g' mk (Value.ref b :: As).toArray, t, U', L, hT, X', hL, e1, e2, hq, st⟩
section
variable {y : MethodName} {bytes cc : ByteArray} {maxL nL mc ms n index : Nat} {ret : Option FieldType} {ws : List Cond} {rm : Room} {Pc : Array Value → State → Prop} {Qc : Array Value → State → Outcome → State → Prop} {XC : String → State → State → Prop} {free : Addr → Prop} {Ts : List Cond} {own C : String} {b : Addr} {As rest : List Value} {g : JFrame}
theorem vx_runVX {hh : List (Nat × Nat × Nat × Nat)} (S : CallFix p m c cc nL s args Ts own) (hM : vx_Met l y ws rm Pc Qc XC mc ms free) (cw : vx_CVW R s args own C index y bytes maxL ret hh ws rm mc ms n) (hp : PreV s H C b Pc As)
    (hg : g.method = m) (hn : As.length = n) (hsize : g.locals.size = nL) (hstack : g.stack = As.reverse ++ .ref b :: rest) (hW : 2 * g.monitorRoom + (rest.map fun v => v.category).sum ≤ 8) (hdg : decode cc g.pc = .ok (.invokevirtual index, 3)) (hf : cells + mc ≤ R.cells ∧ slots + ms ≤ R.slots) :
    vx_Run p l e R s m args below meth c H locs cells slots mc ms g rest (Qc (Value.ref b :: As).toArray) XC free := by
  obtain ⟨⟨hrc, hrs, hfr, hlo, hws, hcw⟩, hcode, hini, hy, hlen, hl, hin, hse⟩ := cw
  have hK : vx_Back l R p e below s args y 3 8 (PreOf R mc ms Pc) (PostOf Qc mc ms free) (vx_Post XC mc ms free) := vx_backW (hh := hh) (bytes := bytes) (maxL := maxL) (ret := ret) hM hp.1 hrc hrs hfr hlo hws hcw (fun a' U hW => word_at hW (Or.inl (by first | rfl | simp [Cond.onTables, Cond.keeps, Cond.steady])) hini)
  obtain ⟨hx, hb, hml, ho, -⟩ := S
  obtain ⟨-, ⟨cellB, hcB, hoB, hclB⟩, hPc⟩ := hp
  intro T hT X
  rcases vx_callVX X hx (C := C) (hh := hh) (bytes := bytes) (maxL := maxL) (ret := ret) ho hl hin hse hcode hy hK (by rw [hT]; exact hcB) hoB hclB hg (hsize.trans hml.symm) (argsL := As) (rest := rest) (fun sig h => hn.trans (hlen sig h)) hstack hW (by rw [hb]; exact hdg)
    (fun vm₁ hW₁ => ⟨hf.1, hf.2, hPc (T.setVm vm₁) hT hW₁⟩) with ⟨v, vm₁, ⟨U', l2, c2, s2⟩, hW₁, X', ⟨g', mk, t, L, e1, e2, hq, h1, hL, h2, h3⟩, st⟩ | ⟨q, vm₁, ⟨U', l2, c2, s2⟩, hW₁, X', ⟨g', mk, t, L, E, ce, e1, e2, hq, hce, hcv, hcl, h1, hL, h2, h3⟩, st⟩
  · dsimp only [Pt.U, Pt.locs, Pt.cells, Pt.slots] at X' e1 e2 h1 h2 h3 st
    subst h1; subst h2; subst h3
    exact Or.inl ⟨v, (T.setVm vm₁).calling g' mk (Value.ref b :: As).toArray, t, U', L, hT, X', hL, e1, e2, hq, st⟩
  · dsimp only [Pt.U, Pt.locs, Pt.cells, Pt.slots] at X' e1 e2 h1 h2 h3 st hcl
    subst h1; subst h2; subst h3
    exact Or.inr ⟨q, (T.setVm vm₁).calling g' mk (Value.ref b :: As).toArray, t, U', L, E, ce, hT, X', hL, e1, e2, hq, hce, hcv, vx_cls hW₁ hcl, st⟩
theorem vx_runSX {hh : List (Nat × Nat × Nat × Nat)} (S : CallFix p m c cc nL s args Ts own) (hM : vx_Met l y ws rm Pc Qc XC mc ms free) (cw : vx_CSW R s args own index y bytes maxL ret hh ws rm mc ms n) (hp : PreS s H Pc As)
    (hg : g.method = m) (hn : As.length = n) (hsize : g.locals.size = nL) (hstack : g.stack = As.reverse ++ rest) (hW : 2 * g.monitorRoom + (rest.map fun v => v.category).sum ≤ 8) (hdg : decode cc g.pc = .ok (.invokestatic index, 3)) (hf : cells + mc ≤ R.cells ∧ slots + ms ≤ R.slots) :
    vx_Run p l e R s m args below meth c H locs cells slots mc ms g rest (Qc As.toArray) XC free := by
  obtain ⟨⟨hrc, hrs, hfr, hlo, hws, hcw⟩, hcode, hini, hy, hlen, hl, hstt⟩ := cw
  have hK : vx_Back l R p e below s args y 3 8 (PreOf R mc ms Pc) (PostOf Qc mc ms free) (vx_Post XC mc ms free) := vx_backW (hh := hh) (bytes := bytes) (maxL := maxL) (ret := ret) hM hp.1 hrc hrs hfr hlo hws hcw (fun a' U hW => word_at hW (Or.inl (by first | rfl | simp [Cond.onTables, Cond.keeps, Cond.steady])) hini)
  obtain ⟨hx, hb, hml, ho, -⟩ := S
  intro T hT X
  rcases vx_callSX X hx (hh := hh) (bytes := bytes) (maxL := maxL) (ret := ret) ho hl hstt hini hcode hy hK hg (hsize.trans hml.symm) (argsL := As) (rest := rest) (fun sig h => hn.trans (hlen sig h)) hstack hW (by rw [hb]; exact hdg)
    (fun vm₁ hW₁ => ⟨hf.1, hf.2, hp.2 (T.setVm vm₁) hT hW₁⟩) with ⟨v, vm₁, ⟨U', l2, c2, s2⟩, hW₁, X', ⟨g', mk, t, L, e1, e2, hq, h1, hL, h2, h3⟩, st⟩ | ⟨q, vm₁, ⟨U', l2, c2, s2⟩, hW₁, X', ⟨g', mk, t, L, E, ce, e1, e2, hq, hce, hcv, hcl, h1, hL, h2, h3⟩, st⟩
  · dsimp only [Pt.U, Pt.locs, Pt.cells, Pt.slots] at X' e1 e2 h1 h2 h3 st
    subst h1; subst h2; subst h3
    exact Or.inl ⟨v, (T.setVm vm₁).calling g' mk As.toArray, t, U', L, hT, X', hL, e1, e2, hq, st⟩
  · dsimp only [Pt.U, Pt.locs, Pt.cells, Pt.slots] at X' e1 e2 h1 h2 h3 st hcl
    subst h1; subst h2; subst h3
    exact Or.inr ⟨q, (T.setVm vm₁).calling g' mk As.toArray, t, U', L, E, ce, hT, X', hL, e1, e2, hq, hce, hcv, vx_cls hW₁ hcl, st⟩
end
end VXH
theorem vx_ofWH {l : Launch} {y : MethodName} {ws ws' : List Cond} {rm : Room} {Pc : Array Value → State → Prop} {Qc : Array Value → State → Outcome → State → Prop} {XC : String → State → State → Prop} {mc ms : Nat} {free : Addr → Prop} {cc : ByteArray} {maxL : Nat} {ret : Option FieldType} {hh : List (Nat × Nat × Nat × Nat)}
    (hy : plainName y.cls = true) (hw : ws = Cond.codeWith y cc maxL ret hh :: ws')
    (body : ∀ p e s m args below meth c s₁, BodyLoose p l y (headSpec ws rm) cc maxL ret e s m args below meth c s₁ → c.maxLocals = maxL → Pc args s →
      W p l e (headSpec ws rm).room s m args below meth c s.heap [] 0 0 (vx_MQ below Qc XC args s mc ms free) (entryFrame m args maxL)) : vx_Met l y ws rm Pc Qc XC mc ms free := by
  refine MetFree.of_bodyS (code := cc) (maxLocals := maxL) (ret := ret) hy ?_ ?_
  · intro args s m h hn
    obtain ⟨m9, meth, c, hn9, h1, h2, h3, h4, -, h5, h6, -⟩ := Cond.codeWith_spec (atoms_spec (ws := ws) h _ (by rw [hw]; exact List.mem_cons_self))
    cases hn.symm.trans hn9
    exact ⟨meth, c, h1, h2, h3, h4, h5, h6⟩
  · intro p e s m args below meth c s₁ B hml hP _
    have hh0 : s₁.heap = s.heap := by rw [B.state]; rfl
    obtain ⟨t, a1, o, b1, b2, b3⟩ := body p e s m args below meth c s₁ B hml hP s₁ hh0 (Stand.of_body B)
    exact ⟨t, o, a1, b1, b2, b3⟩
/-! ===== END ===== -/
/-! ===== BEGIN what the machine throws by itself, no traces kept ===== -/
/-! ===== BEGIN a constructor that throws (launches without stack traces) ===== -/
section VXIA
variable {p : Program} {l : Launch} {e : Env} {R : Room} {s : State} {m : MethodId} {args : Array Value} {below : List Frame} {meth : Method} {c : Code} {T : State} {locs : List Loc} {cells slots : Nat}
theorem vx_callI (X : Stand p l e R s m args below meth c T locs cells slots) (hexec : p.tables.exec = Jvm.exec) {own : String} {index : Nat} {y : MethodName} {bytes : ByteArray} {maxL : Nat}
    (hown : s.vm.findClass own = some m.cls) (hy1 : y.name = "<init>") (hlink : (Cond.methodLink own index y).before args s = true) (hinst : (Cond.instanceMethod y).before args s = true)
    (hcode : (Cond.code y bytes maxL none).before args s = true) (hy : y.cls ≠ "java/lang/invoke/MethodHandle" ∧ y.cls ≠ "java/lang/invoke/VarHandle")
    {W9 : Nat} {Pre : Pt → Array Value → Prop} {Post : Pt → Array Value → Option Value → Pt → Prop} {PostX : Pt → Array Value → Addr → Pt → Prop} (hK : vx_Back l R p e below s args y 3 W9 Pre Post PostX)
    {g : JFrame} (hg : g.method = m) (hsize : g.locals.size = c.maxLocals) {a : Addr} {argsL rest : List Value} (hlen : ∀ sig, parseMethodDescriptor y.desc = some sig → argsL.length = sig.parameters.length)
    (hstack : g.stack = argsL.reverse ++ .ref a :: rest) (hW : 2 * g.monitorRoom + (rest.map fun v => v.category).sum ≤ W9) (hdg : decode c.code g.pc = .ok (.invokespecial index, 3))
    (hpre : ∀ vm₁, s.WarmedH vm₁ → Pre ⟨T.setVm vm₁, locs, cells, slots⟩ (Value.ref a :: argsL).toArray) :
    (∃ (v : Option Value) (vm₁ : Vm) (B : Pt), s.WarmedH vm₁ ∧ Stand p l e R s m args below meth c B.U B.locs B.cells B.slots ∧ Post ⟨T.setVm vm₁, locs, cells, slots⟩ (Value.ref a :: argsL).toArray v B ∧
      ∀ target, Steps p.tables e below (B.U.setTop { g with pc := g.pc + 3, stack := v.toList ++ rest }) target → Steps p.tables e below (T.setTop g) target) ∨
    (∃ (q : Addr) (vm₁ : Vm) (B : Pt), s.WarmedH vm₁ ∧ Stand p l e R s m args below meth c B.U B.locs B.cells B.slots ∧ PostX ⟨T.setVm vm₁, locs, cells, slots⟩ (Value.ref a :: argsL).toArray q B ∧
      Steps p.tables e below (T.setTop g) ((B.U.setTop { g with stack := rest }).pushFrame (.throwing q))) := by
  subst hg
  have hpl : e.platform.magicAccessors = ({} : Platform).magicAccessors := by rw [X.admits.platform]
  obtain ⟨mk, methM, cM, kP, vm₁, hnamed, hmethM, hcodeM, -, hlocalsM, -, hkP, -, hW₁, hstep₁⟩ := Steps.initColdArgs (e := e) X.here hexec X.warmed hpl hown hy1 hy hlink hinst hcode (f := g) rfl hlen hstack hdg
  have X₁ := X.noted hW₁
  rcases hK g.method meth c ⟨T.setVm vm₁, locs, cells, slots⟩ { g with stack := rest } (.invokespecial index) mk (Value.ref a :: argsL).toArray X₁ rfl hsize hdg hW (X₁.named hnamed) (hpre vm₁ X₁.warmed) with ⟨v, B, X', hpost, hsteps⟩ | ⟨q, B, X', hpost, hsteps⟩
  · exact Or.inl ⟨v, vm₁, B, X₁.warmed, X', hpost, fun target h => hstep₁ _ fun acts => by rw [doInvoke_state]; exact hsteps.trans h⟩
  · exact Or.inr ⟨q, vm₁, B, X₁.warmed, X', hpost, hstep₁ _ fun acts => by rw [doInvoke_state]; exact hsteps⟩
end VXIA
section VXIB
variable {p : Program} {l : Launch} {e : Env} {R : Room} {s : State} {m : MethodId} {args : Array Value} {below : List Frame} {meth : Method} {c : Code} {H : Heap} {locs : List Loc} {cells slots : Nat}
variable {y : MethodName} {bytes cc : ByteArray} {maxL nL mc ms n index : Nat} {ret : Option FieldType} {ws : List Cond} {rm : Room} {Pc : Array Value → State → Prop} {Qc : Array Value → State → Outcome → State → Prop} {XC : String → State → State → Prop} {free : Addr → Prop} {Ts : List Cond} {own C : String} {b : Addr} {As rest : List Value} {g : JFrame}
theorem vx_runI (S : CallFix p m c cc nL s args Ts own) (hM : vx_Met l y ws rm Pc Qc XC mc ms free) (cw : CallB R s args own index y bytes maxL none ws rm mc ms n ∧ y.name = "<init>" ∧ (Cond.instanceMethod y).before args s = true) (hp : PreS s H Pc (.ref b :: As))
    (hg : g.method = m) (hn : As.length = n) (hsize : g.locals.size = nL) (hstack : g.stack = As.reverse ++ .ref b :: rest) (hW : 2 * g.monitorRoom + (rest.map fun v => v.category).sum ≤ 8) (hdg : decode cc g.pc = .ok (.invokespecial index, 3)) (hf : cells + mc ≤ R.cells ∧ slots + ms ≤ R.slots) :
    vx_Run p l e R s m args below meth c H locs cells slots mc ms g rest (Qc (Value.ref b :: As).toArray) XC free := by
  have hK : vx_Back l R p e below s args y 3 8 (PreOf R mc ms Pc) (PostOf Qc mc ms free) (vx_Post XC mc ms free) := vx_callBack cw.1 hM hp.1
  obtain ⟨⟨-, -, -, -, -, -, hcode, -, hy, hlen, hl⟩, hy1, hin⟩ := cw
  obtain ⟨hx, hb, hml, ho, -⟩ := S
  have hPc := hp.2
  intro T hT X
  rcases vx_callI X hx (bytes := bytes) (maxL := maxL) ho hy1 hl hin hcode hy hK hg (hsize.trans hml.symm) (a := b) (argsL := As) (rest := rest) (fun sig h => hn.trans (hlen sig h)) hstack hW (by rw [hb]; exact hdg)
    (fun vm₁ hW₁ => ⟨hf.1, hf.2, hPc (T.setVm vm₁) hT hW₁⟩) with ⟨v, vm₁, ⟨U', l2, c2, s2⟩, hW₁, X', ⟨g', mk, t, L, e1, e2, hq, h1, hL, h2, h3⟩, st⟩ | ⟨q, vm₁, ⟨U', l2, c2, s2⟩, hW₁, X', ⟨g', mk, t, L, E, ce, e1, e2, hq, hce, hcv, hcl, h1, hL, h2, h3⟩, st⟩
  · dsimp only [Pt.U, Pt.locs, Pt.cells, Pt.slots] at X' e1 e2 h1 h2 h3 st
    subst h1; subst h2; subst h3
    exact Or.inl ⟨v, (T.setVm vm₁).calling g' mk (Value.ref b :: As).toArray, t, U', L, hT, X', hL, e1, e2, hq, st⟩
  · dsimp only [Pt.U, Pt.locs, Pt.cells, Pt.slots] at X' e1 e2 h1 h2 h3 st hcl
    subst h1; subst h2; subst h3
    exact Or.inr ⟨q, (T.setVm vm₁).calling g' mk (Value.ref b :: As).toArray, t, U', L, E, ce, hT, X', hL, e1, e2, hq, hce, hcv, vx_cls hW₁ hcl, st⟩
end VXIB
/-! ===== END ===== -/
/-! ===== BEGIN a private constructor of a nest mate that throws ===== -/
section VXIC
variable {p : Program} {l : Launch} {e : Env} {R : Room} {s : State} {m : MethodId} {args : Array Value} {below : List Frame} {meth : Method} {c : Code} {T : State} {locs : List Loc} {cells slots : Nat}
theorem vx_callIN (X : Stand p l e R s m args below meth c T locs cells slots) (hexec : p.tables.exec = Jvm.exec) {own : String} {index : Nat} {host : String} {y : MethodName} {bytes : ByteArray} {maxL : Nat}
    (hown : s.vm.findClass own = some m.cls) (hy1 : y.name = "<init>") (hlink : (Cond.methodLinkNest own index y host).before args s = true) (hinst : (Cond.instanceMethod y).before args s = true)
    (hcode : (Cond.code y bytes maxL none).before args s = true) (hy : y.cls ≠ "java/lang/invoke/MethodHandle" ∧ y.cls ≠ "java/lang/invoke/VarHandle")
    {W9 : Nat} {Pre : Pt → Array Value → Prop} {Post : Pt → Array Value → Option Value → Pt → Prop} {PostX : Pt → Array Value → Addr → Pt → Prop} (hK : vx_Back l R p e below s args y 3 W9 Pre Post PostX)
    {g : JFrame} (hg : g.method = m) (hsize : g.locals.size = c.maxLocals) {a : Addr} {argsL rest : List Value} (hlen : ∀ sig, parseMethodDescriptor y.desc = some sig → argsL.length = sig.parameters.length)
    (hstack : g.stack = argsL.reverse ++ .ref a :: rest) (hW : 2 * g.monitorRoom + (rest.map fun v => v.category).sum ≤ W9) (hdg : decode c.code g.pc = .ok (.invokespecial index, 3))
    (hpre : ∀ vm₁, s.WarmedH vm₁ → Pre ⟨T.setVm vm₁, locs, cells, slots⟩ (Value.ref a :: argsL).toArray) :
    (∃ (v : Option Value) (vm₁ : Vm) (B : Pt), s.WarmedH vm₁ ∧ Stand p l e R s m args below meth c B.U B.locs B.cells B.slots ∧ Post ⟨T.setVm vm₁, locs, cells, slots⟩ (Value.ref a :: argsL).toArray v B ∧
      ∀ target, Steps p.tables e below (B.U.setTop { g with pc := g.pc + 3, stack := v.toList ++ rest }) target → Steps p.tables e below (T.setTop g) target) ∨
    (∃ (q : Addr) (vm₁ : Vm) (B : Pt), s.WarmedH vm₁ ∧ Stand p l e R s m args below meth c B.U B.locs B.cells B.slots ∧ PostX ⟨T.setVm vm₁, locs, cells, slots⟩ (Value.ref a :: argsL).toArray q B ∧
      Steps p.tables e below (T.setTop g) ((B.U.setTop { g with stack := rest }).pushFrame (.throwing q))) := by
  subst hg
  have hpl : e.platform.magicAccessors = ({} : Platform).magicAccessors := by rw [X.admits.platform]
  obtain ⟨mk, methM, cM, kP, vm₁, hnamed, hmethM, hcodeM, -, hlocalsM, -, hkP, -, hW₁, hstep₁⟩ := Steps.initColdArgsNest (e := e) X.here hexec X.warmed hpl hown hy1 hy hlink hinst hcode (f := g) rfl hlen hstack hdg
  have X₁ := X.noted hW₁
  rcases hK g.method meth c ⟨T.setVm vm₁, locs, cells, slots⟩ { g with stack := rest } (.invokespecial index) mk (Value.ref a :: argsL).toArray X₁ rfl hsize hdg hW (X₁.named hnamed) (hpre vm₁ X₁.warmed) with ⟨v, B, X', hpost, hsteps⟩ | ⟨q, B, X', hpost, hsteps⟩
  · exact Or.inl ⟨v, vm₁, B, X₁.warmed, X', hpost, fun target h => hstep₁ _ fun acts => by rw [doInvoke_state]; exact hsteps.trans h⟩
  · exact Or.inr ⟨q, vm₁, B, X₁.warmed, X', hpost, hstep₁ _ fun acts => by rw [doInvoke_state]; exact hsteps⟩
end VXIC
section VXID
variable {p : Program} {l : Launch} {e : Env} {R : Room} {s : State} {m : MethodId} {args : Array Value} {below : List Frame} {meth : Method} {c : Code} {H : Heap} {locs : List Loc} {cells slots : Nat}
theorem vx_runIN {y : MethodName} {bytes cc : ByteArray} {maxL nL mc ms n index : Nat} {ws : List Cond} {rm : Room} {Pc : Array Value → State → Prop} {Qc : Array Value → State → Outcome → State → Prop} {XC : String → State → State → Prop} {free : Addr → Prop} {Ts : List Cond} {own host : String} {b : Addr} {As rest : List Value} {g : JFrame}
    (S : CallFix p m c cc nL s args Ts own) (hM : vx_Met l y ws rm Pc Qc XC mc ms free) (cw : va_CN R s args own index y host bytes maxL none ws rm mc ms n ∧ y.name = "<init>" ∧ (Cond.instanceMethod y).before args s = true) (hp : PreS s H Pc (.ref b :: As))
    (hg : g.method = m) (hn : As.length = n) (hsize : g.locals.size = nL) (hstack : g.stack = As.reverse ++ .ref b :: rest) (hW : 2 * g.monitorRoom + (rest.map fun v => v.category).sum ≤ 8) (hdg : decode cc g.pc = .ok (.invokespecial index, 3)) (hf : cells + mc ≤ R.cells ∧ slots + ms ≤ R.slots) :
    vx_Run p l e R s m args below meth c H locs cells slots mc ms g rest (Qc (Value.ref b :: As).toArray) XC free := by
  obtain ⟨⟨⟨hrc, hrs, hfr, hlo, hws, hcw⟩, hcode, hini, hy, hlen, hl⟩, hx1, hx2⟩ := cw
  have hK : vx_Back l R p e below s args y 3 8 (PreOf R mc ms Pc) (PostOf Qc mc ms free) (vx_Post XC mc ms free) := vx_back (bytes := bytes) (maxL := maxL) (ret := none) hM hp.1 hrc hrs hfr hlo hws hcw (fun a' U hW => word_at hW (Or.inl (by first | rfl | simp [Cond.onTables, Cond.keeps, Cond.steady])) hini)
  obtain ⟨hx, hb, hml, ho, -⟩ := S
  have hPc := hp.2
  intro T hT X
  rcases vx_callIN X hx (bytes := bytes) (maxL := maxL) ho hx1 hl hx2 hcode hy hK hg (hsize.trans hml.symm) (a := b) (argsL := As) (rest := rest) (fun sig h => hn.trans (hlen sig h)) hstack hW (by rw [hb]; exact hdg)
    (fun vm₁ hW₁ => ⟨hf.1, hf.2, hPc (T.setVm vm₁) hT hW₁⟩) with ⟨v, vm₁, ⟨U', l2, c2, s2⟩, hW₁, X', ⟨g', mk, t, L, e1, e2, hq, h1, hL, h2, h3⟩, st⟩ | ⟨q, vm₁, ⟨U', l2, c2, s2⟩, hW₁, X', ⟨g', mk, t, L, E, ce, e1, e2, hq, hce, hcv, hcl, h1, hL, h2, h3⟩, st⟩
  · dsimp only [Pt.U, Pt.locs, Pt.cells, Pt.slots] at X' e1 e2 h1 h2 h3 st
    subst h1; subst h2; subst h3
    exact Or.inl ⟨v, (T.setVm vm₁).calling g' mk (Value.ref b :: As).toArray, t, U', L, hT, X', hL, e1, e2, hq, st⟩
  · dsimp only [Pt.U, Pt.locs, Pt.cells, Pt.slots] at X' e1 e2 h1 h2 h3 st hcl
    subst h1; subst h2; subst h3
    exact Or.inr ⟨q, (T.setVm vm₁).calling g' mk (Value.ref b :: As).toArray, t, U', L, E, ce, hT, X', hL, e1, e2, hq, hce, hcv, vx_cls hW₁ hcl, st⟩
end VXID
/-! ===== END ===== -/
/-! ===== BEGIN a private method of a nest mate that may throw (follows va_callVN, va_callSN, va_runVN, va_runSN) ===== -/
section
variable {p : Program} {l : Launch} {e : Env} {R : Room} {s : State} {m : MethodId} {args : Array Value} {below : List Frame} {meth : Method} {c : Code} {H : Heap} {locs : List Loc} {cells slots : Nat}
variable {T : State}
theorem vx_callVN (X : Stand p l e R s m args below meth c T locs cells slots) (hexec : p.tables.exec = Jvm.exec) {own C : String} {index : Nat} {host : String} {y : MethodName} {bytes : ByteArray} {maxL : Nat} {ret : Option FieldType}
    (hown : s.vm.findClass own = some m.cls) (hlink : (Cond.methodLinkNest own index y host).before args s = true) (hinst : (Cond.instanceMethod y).before args s = true) (hsel : (Cond.selects C y y).before args s = true)
    (hcode : (Cond.code y bytes maxL ret).before args s = true) (hy : y.cls ≠ "java/lang/invoke/MethodHandle" ∧ y.cls ≠ "java/lang/invoke/VarHandle")
    {W : Nat} {Pre : Pt → Array Value → Prop} {Post : Pt → Array Value → Option Value → Pt → Prop} {PostX : Pt → Array Value → Addr → Pt → Prop} (hK : vx_Back l R p e below s args y 3 W Pre Post PostX)
    {b : Addr} {cellB : Cell} (hcell : T.heap[b]? = some cellB) (hobj : cellB.vm.isStatics = false) (hcls : s.vm.findClass C = some cellB.cls)
    {g : JFrame} (hg : g.method = m) (hsize : g.locals.size = c.maxLocals) {argsL rest : List Value} (hlen : ∀ sig, parseMethodDescriptor y.desc = some sig → argsL.length = sig.parameters.length)
    (hstack : g.stack = argsL.reverse ++ .ref b :: rest) (hW : 2 * g.monitorRoom + (rest.map fun v => v.category).sum ≤ W) (hdg : decode c.code g.pc = .ok (.invokevirtual index, 3))
    (hpre : ∀ vm₁, s.WarmedH vm₁ → Pre ⟨T.setVm vm₁, locs, cells, slots⟩ (Value.ref b :: argsL).toArray) :
    (∃ (v : Option Value) (vm₁ : Vm) (B : Pt), s.WarmedH vm₁ ∧ Stand p l e R s m args below meth c B.U B.locs B.cells B.slots ∧ Post ⟨T.setVm vm₁, locs, cells, slots⟩ (Value.ref b :: argsL).toArray v B ∧
      ∀ target, Steps p.tables e below (B.U.setTop { g with pc := g.pc + 3, stack := v.toList ++ rest }) target → Steps p.tables e below (T.setTop g) target) ∨
    (∃ (q : Addr) (vm₁ : Vm) (B : Pt), s.WarmedH vm₁ ∧ Stand p l e R s m args below meth c B.U B.locs B.cells B.slots ∧ PostX ⟨T.setVm vm₁, locs, cells, slots⟩ (Value.ref b :: argsL).toArray q B ∧
      Steps p.tables e below (T.setTop g) ((B.U.setTop { g with stack := rest }).pushFrame (.throwing q))) := by
  obtain ⟨mk, methM, hnamed, hmethM, hstM, habM⟩ := Cond.instanceMethod_spec hinst
  obtain ⟨methM', cM, hmethM', -, -, -, -, -, -, hsigM⟩ := Cond.code_spec hnamed hcode
  cases hmethM.symm.trans hmethM'
  obtain ⟨c2, r2, m2, q1, q2, q3, q4, kP, hkP, hkPi⟩ := Cond.selects_spec hsel
  cases hcls.symm.trans q1
  cases (State.methodFound?_of_named hnamed hy).symm.trans q2
  cases hnamed.symm.trans q3
  have hselP : selectMethod e.platform s.vm cellB.cls mk = .method mk := by rw [Launch.admits_selectMethod X.admits]; exact q4
  obtain ⟨vm₁, X₁, hstep₁⟩ := X.invokevirtualNest hexec hown hlink hnamed hmethM hstM hkP hkPi hy (a := b) (cell := cellB) hcell
    (fun z h => by rw [h] at hobj; cases hobj) hselP hmethM habM hkP hkPi (g := g) hg (argsL := argsL) (rest := rest) (hlen _ hsigM) hstack hdg
  rcases hK m meth c ⟨T.setVm vm₁, locs, cells, slots⟩ { g with stack := rest } (.invokevirtual index) mk (Value.ref b :: argsL).toArray X₁ hg hsize hdg hW (X₁.named hnamed) (hpre vm₁ X₁.warmed) with ⟨v, B, X', hpost, hsteps⟩ | ⟨q, B, X', hpost, hsteps⟩
  · exact Or.inl ⟨v, vm₁, B, X₁.warmed, X', hpost, fun target h => hstep₁ _ fun acts => by rw [doInvoke_state]; exact hsteps.trans h⟩
  · exact Or.inr ⟨q, vm₁, B, X₁.warmed, X', hpost, hstep₁ _ fun acts => by rw [doInvoke_state]; exact hsteps⟩
theorem vx_callSN (X : Stand p l e R s m args below meth c T locs cells slots) (hexec : p.tables.exec = Jvm.exec) {own : String} {index : Nat} {host : String} {y : MethodName} {bytes : ByteArray} {maxL : Nat} {ret : Option FieldType}
    (hown : s.vm.findClass own = some m.cls) (hlink : (Cond.methodLinkNest own index y host).before args s = true) (hstat : (Cond.static y).before args s = true) (hinit : (Cond.initialized y.cls).before args s = true)
    (hcode : (Cond.code y bytes maxL ret).before args s = true) (hy : y.cls ≠ "java/lang/invoke/MethodHandle" ∧ y.cls ≠ "java/lang/invoke/VarHandle")
    {W : Nat} {Pre : Pt → Array Value → Prop} {Post : Pt → Array Value → Option Value → Pt → Prop} {PostX : Pt → Array Value → Addr → Pt → Prop} (hK : vx_Back l R p e below s args y 3 W Pre Post PostX)
    {g : JFrame} (hg : g.method = m) (hsize : g.locals.size = c.maxLocals) {argsL rest : List Value} (hlen : ∀ sig, parseMethodDescriptor y.desc = some sig → argsL.length = sig.parameters.length)
    (hstack : g.stack = argsL.reverse ++ rest) (hW : 2 * g.monitorRoom + (rest.map fun v => v.category).sum ≤ W) (hdg : decode c.code g.pc = .ok (.invokestatic index, 3))
    (hpre : ∀ vm₁, s.WarmedH vm₁ → Pre ⟨T.setVm vm₁, locs, cells, slots⟩ argsL.toArray) :
    (∃ (v : Option Value) (vm₁ : Vm) (B : Pt), s.WarmedH vm₁ ∧ Stand p l e R s m args below meth c B.U B.locs B.cells B.slots ∧ Post ⟨T.setVm vm₁, locs, cells, slots⟩ argsL.toArray v B ∧
      ∀ target, Steps p.tables e below (B.U.setTop { g with pc := g.pc + 3, stack := v.toList ++ rest }) target → Steps p.tables e below (T.setTop g) target) ∨
    (∃ (q : Addr) (vm₁ : Vm) (B : Pt), s.WarmedH vm₁ ∧ Stand p l e R s m args below meth c B.U B.locs B.cells B.slots ∧ PostX ⟨T.setVm vm₁, locs, cells, slots⟩ argsL.toArray q B ∧
      Steps p.tables e below (T.setTop g) ((B.U.setTop { g with stack := rest }).pushFrame (.throwing q))) := by
  obtain ⟨mk, hnamed⟩ := Cond.code_named hcode
  obtain ⟨methM, cM, hmethM, -, -, -, -, -, -, hsigM⟩ := Cond.code_spec hnamed hcode
  have hstatic : methM.isStatic = true := Cond.static_spec hnamed hmethM hstat
  obtain ⟨kP, hkP, -⟩ := className_of_methodNamed hnamed
  have hinitP : kP.init = .initialized := Cond.initialized_spec (findClass_of_methodNamed hnamed) hkP hinit
  obtain ⟨vm₁, X₁, hstep₁⟩ := X.invokestaticNest hexec hown hlink hnamed hmethM hstatic hkP hinitP hy (g := g) hg (argsL := argsL) (rest := rest) (hlen _ hsigM) hstack hdg
  rcases hK m meth c ⟨T.setVm vm₁, locs, cells, slots⟩ { g with stack := rest } (.invokestatic index) mk argsL.toArray X₁ hg hsize hdg hW (X₁.named hnamed) (hpre vm₁ X₁.warmed) with ⟨v, B, X', hpost, hsteps⟩ | ⟨q, B, X', hpost, hsteps⟩
  · exact Or.inl ⟨v, vm₁, B, X₁.warmed, X', hpost, fun target h => hstep₁ _ fun acts => by rw [doInvoke_state]; exact hsteps.trans h⟩
  · exact Or.inr ⟨q, vm₁, B, X₁.warmed, X', hpost, hstep₁ _ fun acts => by rw [doInvoke_state]; exact hsteps⟩
theorem vx_runVN {y : MethodName} {bytes cc : ByteArray} {maxL nL mc ms n index : Nat} {ret : Option FieldType} {ws : List Cond} {rm : Room} {Pc : Array Value → State → Prop} {Qc : Array Value → State → Outcome → State → Prop} {XC : String → State → State → Prop} {free : Addr → Prop} {Ts : List Cond} {own C host : String} {b : Addr} {As rest : List Value} {g : JFrame}
    (S : CallFix p m c cc nL s args Ts own) (hM : vx_Met l y ws rm Pc Qc XC mc ms free) (cw : va_CN R s args own index y host bytes maxL ret ws rm mc ms n ∧ (Cond.instanceMethod y).before args s = true ∧ (Cond.selects C y y).before args s = true) (hp : PreV s H C b Pc As)
    (hg : g.method = m) (hn : As.length = n) (hsize : g.locals.size = nL) (hstack : g.stack = As.reverse ++ .ref b :: rest) (hW : 2 * g.monitorRoom + (rest.map fun v => v.category).sum ≤ 8) (hdg : decode cc g.pc = .ok (.invokevirtual index, 3)) (hf : cells + mc ≤ R.cells ∧ slots + ms ≤ R.slots) :
    vx_Run p l e R s m args below meth c H locs cells slots mc ms g rest (Qc (Value.ref b :: As).toArray) XC free := by
  obtain ⟨⟨⟨hrc, hrs, hfr, hlo, hws, hcw⟩, hcode, hini, hy, hlen, hl⟩, hx1, hx2⟩ := cw
  have hK : vx_Back l R p e below s args y 3 8 (PreOf R mc ms Pc) (PostOf Qc mc ms free) (vx_Post XC mc ms free) := vx_back (bytes := bytes) (maxL := maxL) (ret := ret) hM hp.1 hrc hrs hfr hlo hws hcw (fun a' U hW => word_at hW (Or.inl (by first | rfl | simp [Cond.onTables, Cond.keeps, Cond.steady])) hini)
  obtain ⟨hx, hb, hml, ho, -⟩ := S
  obtain ⟨-, ⟨cellB, hcB, hoB, hclB⟩, hPc⟩ := hp
  intro T hT X
  rcases vx_callVN X hx (C := C) (bytes := bytes) (maxL := maxL) (ret := ret) ho hl hx1 hx2 hcode hy hK (by rw [hT]; exact hcB) hoB hclB hg (hsize.trans hml.symm) (argsL := As) (rest := rest) (fun sig h => hn.trans (hlen sig h)) hstack hW (by rw [hb]; exact hdg)
    (fun vm₁ hW₁ => ⟨hf.1, hf.2, hPc (T.setVm vm₁) hT hW₁⟩) with ⟨v, vm₁, ⟨U', l2, c2, s2⟩, hW₁, X', ⟨g', mk, t, L, e1, e2, hq, h1, hL, h2, h3⟩, st⟩ | ⟨q, vm₁, ⟨U', l2, c2, s2⟩, hW₁, X', ⟨g', mk, t, L, E, ce, e1, e2, hq, hce, hcv, hcl, h1, hL, h2, h3⟩, st⟩
  · dsimp only [Pt.U, Pt.locs, Pt.cells, Pt.slots] at X' e1 e2 h1 h2 h3 st
    subst h1; subst h2; subst h3
    exact Or.inl ⟨v, (T.setVm vm₁).calling g' mk (Value.ref b :: As).toArray, t, U', L, hT, X', hL, e1, e2, hq, st⟩
  · dsimp only [Pt.U, Pt.locs, Pt.cells, Pt.slots] at X' e1 e2 h1 h2 h3 st hcl
    subst h1; subst h2; subst h3
    exact Or.inr ⟨q, (T.setVm vm₁).calling g' mk (Value.ref b :: As).toArray, t, U', L, E, ce, hT, X', hL, e1, e2, hq, hce, hcv, vx_cls hW₁ hcl, st⟩
theorem vx_runSN {y : MethodName} {bytes cc : ByteArray} {maxL nL mc ms n index : Nat} {ret : Option FieldType} {ws : List Cond} {rm : Room} {Pc : Array Value → State → Prop} {Qc : Array Value → State → Outcome → State → Prop} {XC : String → State → State → Prop} {free : Addr → Prop} {Ts : List Cond} {own host : String} {As rest : List Value} {g : JFrame}
    (S : CallFix p m c cc nL s args Ts own) (hM : vx_Met l y ws rm Pc Qc XC mc ms free) (cw : va_CN R s args own index y host bytes maxL ret ws rm mc ms n ∧ (Cond.static y).before args s = true ∧ True) (hp : PreS s H Pc As)
    (hg : g.method = m) (hn : As.length = n) (hsize : g.locals.size = nL) (hstack : g.stack = As.reverse ++ rest) (hW : 2 * g.monitorRoom + (rest.map fun v => v.category).sum ≤ 8) (hdg : decode cc g.pc = .ok (.invokestatic index, 3)) (hf : cells + mc ≤ R.cells ∧ slots + ms ≤ R.slots) :
    vx_Run p l e R s m args below meth c H locs cells slots mc ms g rest (Qc As.toArray) XC free := by
  obtain ⟨⟨⟨hrc, hrs, hfr, hlo, hws, hcw⟩, hcode, hini, hy, hlen, hl⟩, hx1, hx2⟩ := cw
  have hK : vx_Back l R p e below s args y 3 8 (PreOf R mc ms Pc) (PostOf Qc mc ms free) (vx_Post XC mc ms free) := vx_back (bytes := bytes) (maxL := maxL) (ret := ret) hM hp.1 hrc hrs hfr hlo hws hcw (fun a' U hW => word_at hW (Or.inl (by first | rfl | simp [Cond.onTables, Cond.keeps, Cond.steady])) hini)
  obtain ⟨hx, hb, hml, ho, -⟩ := S
  have hPc := hp.2
  intro T hT X
  rcases vx_callSN X hx (bytes := bytes) (maxL := maxL) (ret := ret) ho hl hx1 hini hcode hy hK hg (hsize.trans hml.symm) (argsL := As) (rest := rest) (fun sig h => hn.trans (hlen sig h)) hstack hW (by rw [hb]; exact hdg)
    (fun vm₁ hW₁ => ⟨hf.1, hf.2, hPc (T.setVm vm₁) hT hW₁⟩) with ⟨v, vm₁, ⟨U', l2, c2, s2⟩, hW₁, X', ⟨g', mk, t, L, e1, e2, hq, h1, hL, h2, h3⟩, st⟩ | ⟨q, vm₁, ⟨U', l2, c2, s2⟩, hW₁, X', ⟨g', mk, t, L, E, ce, e1, e2, hq, hce, hcv, hcl, h1, hL, h2, h3⟩, st⟩
  · dsimp only [Pt.U, Pt.locs, Pt.cells, Pt.slots] at X' e1 e2 h1 h2 h3 st
    subst h1; subst h2; subst h3
    exact Or.inl ⟨v, (T.setVm vm₁).calling g' mk As.toArray, t, U', L, hT, X', hL, e1, e2, hq, st⟩
  · dsimp only [Pt.U, Pt.locs, Pt.cells, Pt.slots] at X' e1 e2 h1 h2 h3 st hcl
    subst h1; subst h2; subst h3
    exact Or.inr ⟨q, (T.setVm vm₁).calling g' mk As.toArray, t, U', L, E, ce, hT, X', hL, e1, e2, hq, hce, hcv, vx_cls hW₁ hcl, st⟩
end
/-! ===== END ===== -/
end
section
def RX0 : String := "TwoWires$Bus"
def TX0 : u_T := fun k => match k with
  | 0 => ("TwoWires$Bus", "callers", "[LTwoWires$Caller;", true)
  | 1 => ("TwoWires$Bus", "callerCount", "I", false)
  | 2 => ("TwoWires$Bus", "listeners", "[LTwoWires$Listener;", true)
  | 3 => ("TwoWires$Bus", "listenerCount", "I", false)
  | 4 => ("TwoWires$Bus", "limit", "I", false)
  | 5 => ("TwoWires$Bus", "slots", "LTwoWires$SlotLog;", true)
  | 6 => ("TwoWires$Bus", "phase", "I", false)
  | 7 => ("TwoWires$Bus", "contenders", "I", false)
  | 8 => ("TwoWires$Bus", "partner", "I", false)
  | 9 => ("TwoWires$Bus", "reading", "Z", false)
  | 10 => ("TwoWires$Bus", "bits", "I", false)
  | 11 => ("TwoWires$Bus", "levels", "I", false)
  | 12 => ("TwoWires$Bus", "bytesDone", "I", false)
  | _ => ("TwoWires$Bus", "holdLeft", "I", false)
def tyX0 : Nat → FieldType := fun k => match k with
  | 0 => .array (.object "TwoWires$Caller")
  | 1 => .int
  | 2 => .array (.object "TwoWires$Listener")
  | 3 => .int
  | 4 => .int
  | 5 => .object "TwoWires$SlotLog"
  | 6 => .int
  | 7 => .int
  | 8 => .int
  | 9 => .boolean
  | 10 => .int
  | 11 => .int
  | 12 => .int
  | _ => .int
theorem nmX0 : ∀ a, a < 14 → ∀ b, b < 14 → a ≠ b → (TX0 a).2.1 ≠ (TX0 b).2.1 := by decide +kernel
theorem tyX0_ok : ∀ k, k < 14 → parseFieldDescriptor (TX0 k).2.2.1 = some (tyX0 k) := by decide +kernel
abbrev cX0_init : ByteArray := prog_2_method_1_code
def yX0_init : MethodName := ⟨RX0, "<init>", "()V"⟩
abbrev cX0_copyFrom : ByteArray := prog_2_method_2_code
def yX0_copyFrom : MethodName := ⟨RX0, "copyFrom", "(LTwoWires$Bus;)V"⟩
abbrev cX0_copyTransfer : ByteArray := prog_2_method_3_code
def yX0_copyTransfer : MethodName := ⟨RX0, "copyTransfer", "(LTwoWires$Bus;)V"⟩
abbrev cX0_callerAt : ByteArray := prog_2_method_4_code
def yX0_callerAt : MethodName := ⟨RX0, "callerAt", "(I)LTwoWires$Caller;"⟩
abbrev cX0_listenerAt : ByteArray := prog_2_method_5_code
def yX0_listenerAt : MethodName := ⟨RX0, "listenerAt", "(I)LTwoWires$Listener;"⟩
abbrev cX0_firstMessage : ByteArray := prog_2_method_6_code
def yX0_firstMessage : MethodName := ⟨RX0, "firstMessage", "(I)LTwoWires$Message;"⟩
abbrev cX0_contends : ByteArray := prog_2_method_7_code
def yX0_contends : MethodName := ⟨RX0, "contends", "(I)Z"⟩
abbrev cX0_listenerWith : ByteArray := prog_2_method_8_code
def yX0_listenerWith : MethodName := ⟨RX0, "listenerWith", "(I)I"⟩
abbrev cX0_answererTo : ByteArray := prog_2_method_9_code
def yX0_answererTo : MethodName := ⟨RX0, "answererTo", "(I)I"⟩
abbrev cX0_placeListener : ByteArray := prog_2_method_10_code
def yX0_placeListener : MethodName := ⟨RX0, "placeListener", "(II)I"⟩
abbrev cX0_listenersOn : ByteArray := prog_2_method_11_code
def yX0_listenersOn : MethodName := ⟨RX0, "listenersOn", "()I"⟩
abbrev cX0_tell : ByteArray := prog_2_method_12_code
def yX0_tell : MethodName := ⟨RX0, "tell", "(I)I"⟩
abbrev cX0_callersWithMessages : ByteArray := prog_2_method_13_code
def yX0_callersWithMessages : MethodName := ⟨RX0, "callersWithMessages", "()I"⟩
abbrev cX0_lowestHeaders : ByteArray := prog_2_method_14_code
def yX0_lowestHeaders : MethodName := ⟨RX0, "lowestHeaders", "()I"⟩
abbrev cX0_slotsAlone : ByteArray := prog_2_method_15_code
def yX0_slotsAlone : MethodName := ⟨RX0, "slotsAlone", "(LTwoWires$Message;)I"⟩
abbrev cX0_passSlots : ByteArray := prog_2_method_16_code
def yX0_passSlots : MethodName := ⟨RX0, "passSlots", "(I)V"⟩
abbrev cX0_runToRest : ByteArray := prog_2_method_17_code
def yX0_runToRest : MethodName := ⟨RX0, "runToRest", "()I"⟩
abbrev cX0_passSlot : ByteArray := prog_2_method_18_code
def yX0_passSlot : MethodName := ⟨RX0, "passSlot", "()V"⟩
abbrev cX0_startTransfer : ByteArray := prog_2_method_19_code
def yX0_startTransfer : MethodName := ⟨RX0, "startTransfer", "()I"⟩
abbrev cX0_expectBits : ByteArray := prog_2_method_20_code
def yX0_expectBits : MethodName := ⟨RX0, "expectBits", "(I)V"⟩
abbrev cX0_sendBits : ByteArray := prog_2_method_21_code
def yX0_sendBits : MethodName := ⟨RX0, "sendBits", "()I"⟩
abbrev cX0_sentBit : ByteArray := prog_2_method_22_code
def yX0_sentBit : MethodName := ⟨RX0, "sentBit", "(LTwoWires$Message;)I"⟩
abbrev cX0_loseBits : ByteArray := prog_2_method_23_code
def yX0_loseBits : MethodName := ⟨RX0, "loseBits", "(I)V"⟩
abbrev cX0_readBit : ByteArray := prog_2_method_24_code
def yX0_readBit : MethodName := ⟨RX0, "readBit", "()I"⟩
abbrev cX0_takeBit : ByteArray := prog_2_method_25_code
def yX0_takeBit : MethodName := ⟨RX0, "takeBit", "(I)I"⟩
abbrev cX0_endBits : ByteArray := prog_2_method_26_code
def yX0_endBits : MethodName := ⟨RX0, "endBits", "()V"⟩
abbrev cX0_receiveLevels : ByteArray := prog_2_method_27_code
def yX0_receiveLevels : MethodName := ⟨RX0, "receiveLevels", "()V"⟩
abbrev cX0_answerHeader : ByteArray := prog_2_method_28_code
def yX0_answerHeader : MethodName := ⟨RX0, "answerHeader", "()I"⟩
abbrev cX0_answerWrite : ByteArray := prog_2_method_29_code
def yX0_answerWrite : MethodName := ⟨RX0, "answerWrite", "()I"⟩
abbrev cX0_answerRead : ByteArray := prog_2_method_30_code
def yX0_answerRead : MethodName := ⟨RX0, "answerRead", "()I"⟩
abbrev cX0_contendersWithMoreBytes : ByteArray := prog_2_method_31_code
def yX0_contendersWithMoreBytes : MethodName := ⟨RX0, "contendersWithMoreBytes", "()I"⟩
abbrev cX0_goOnWith : ByteArray := prog_2_method_32_code
def yX0_goOnWith : MethodName := ⟨RX0, "goOnWith", "(I)V"⟩
abbrev cX0_endMessages : ByteArray := prog_2_method_33_code
def yX0_endMessages : MethodName := ⟨RX0, "endMessages", "(II)V"⟩
abbrev cX0_holdLine : ByteArray := prog_2_method_34_code
def yX0_holdLine : MethodName := ⟨RX0, "holdLine", "()V"⟩
abbrev cX0_holdSlot : ByteArray := prog_2_method_35_code
def yX0_holdSlot : MethodName := ⟨RX0, "holdSlot", "()I"⟩
abbrev cX0_stopTransfer : ByteArray := prog_2_method_36_code
def yX0_stopTransfer : MethodName := ⟨RX0, "stopTransfer", "()V"⟩
def RX1 : String := "TwoWires$Caller"
def TX1 : u_T := fun k => match k with
  | 0 => ("TwoWires$Caller", "queue", "[LTwoWires$Message;", true)
  | 1 => ("TwoWires$Caller", "size", "I", false)
  | 2 => ("TwoWires$Caller", "ended", "[I", true)
  | 3 => ("TwoWires$Caller", "losses", "I", false)
  | 4 => ("TwoWires$Caller", "received", "I", false)
  | _ => ("TwoWires$Caller", "lastByte", "I", false)
def tyX1 : Nat → FieldType := fun k => match k with
  | 0 => .array (.object "TwoWires$Message")
  | 1 => .int
  | 2 => .array .int
  | 3 => .int
  | 4 => .int
  | _ => .int
theorem nmX1 : ∀ a, a < 6 → ∀ b, b < 6 → a ≠ b → (TX1 a).2.1 ≠ (TX1 b).2.1 := by decide +kernel
theorem tyX1_ok : ∀ k, k < 6 → parseFieldDescriptor (TX1 k).2.2.1 = some (tyX1 k) := by decide +kernel
abbrev cX1_init : ByteArray := prog_3_method_1_code
def yX1_init : MethodName := ⟨RX1, "<init>", "()V"⟩
abbrev cX1_copyFrom : ByteArray := prog_3_method_2_code
def yX1_copyFrom : MethodName := ⟨RX1, "copyFrom", "(LTwoWires$Caller;)V"⟩
abbrev cX1_messageAt : ByteArray := prog_3_method_3_code
def yX1_messageAt : MethodName := ⟨RX1, "messageAt", "(I)LTwoWires$Message;"⟩
abbrev cX1_enqueue : ByteArray := prog_3_method_4_code
def yX1_enqueue : MethodName := ⟨RX1, "enqueue", "(ZIIJ)Z"⟩
abbrev cX1_takeBack : ByteArray := prog_3_method_5_code
def yX1_takeBack : MethodName := ⟨RX1, "takeBack", "()I"⟩
abbrev cX1_endFirst : ByteArray := prog_3_method_6_code
def yX1_endFirst : MethodName := ⟨RX1, "endFirst", "(I)V"⟩
abbrev cX1_loseBit : ByteArray := prog_3_method_7_code
def yX1_loseBit : MethodName := ⟨RX1, "loseBit", "(I)V"⟩
abbrev cX1_receiveByte : ByteArray := prog_3_method_8_code
def yX1_receiveByte : MethodName := ⟨RX1, "receiveByte", "(I)V"⟩
abbrev cX1_tell : ByteArray := prog_3_method_9_code
def yX1_tell : MethodName := ⟨RX1, "tell", "(I)I"⟩
def RX2 : String := "TwoWires$Listener"
def TX2 : u_T := fun k => match k with
  | 0 => ("TwoWires$Listener", "address", "I", false)
  | 1 => ("TwoWires$Listener", "hold", "I", false)
  | 2 => ("TwoWires$Listener", "on", "Z", false)
  | 3 => ("TwoWires$Listener", "heldSlots", "I", false)
  | 4 => ("TwoWires$Listener", "bytes", "[I", true)
  | 5 => ("TwoWires$Listener", "size", "I", false)
  | _ => ("TwoWires$Listener", "pointer", "I", false)
def tyX2 : Nat → FieldType := fun k => match k with
  | 0 => .int
  | 1 => .int
  | 2 => .boolean
  | 3 => .int
  | 4 => .array .int
  | 5 => .int
  | _ => .int
theorem nmX2 : ∀ a, a < 7 → ∀ b, b < 7 → a ≠ b → (TX2 a).2.1 ≠ (TX2 b).2.1 := by decide +kernel
theorem tyX2_ok : ∀ k, k < 7 → parseFieldDescriptor (TX2 k).2.2.1 = some (tyX2 k) := by decide +kernel
abbrev cX2_init : ByteArray := prog_4_method_1_code
def yX2_init : MethodName := ⟨RX2, "<init>", "()V"⟩
abbrev cX2_copyFrom : ByteArray := prog_4_method_2_code
def yX2_copyFrom : MethodName := ⟨RX2, "copyFrom", "(LTwoWires$Listener;)V"⟩
abbrev cX2_forget : ByteArray := prog_4_method_3_code
def yX2_forget : MethodName := ⟨RX2, "forget", "()I"⟩
abbrev cX2_byteAt : ByteArray := prog_4_method_4_code
def yX2_byteAt : MethodName := ⟨RX2, "byteAt", "(I)I"⟩
abbrev cX2_storeByte : ByteArray := prog_4_method_5_code
def yX2_storeByte : MethodName := ⟨RX2, "storeByte", "(I)Z"⟩
abbrev cX2_movePointer : ByteArray := prog_4_method_6_code
def yX2_movePointer : MethodName := ⟨RX2, "movePointer", "()V"⟩
abbrev cX2_tell : ByteArray := prog_4_method_7_code
def yX2_tell : MethodName := ⟨RX2, "tell", "(I)I"⟩
def RX3 : String := "TwoWires$Message"
def TX3 : u_T := fun k => match k with
  | 0 => ("TwoWires$Message", "isRead", "Z", false)
  | 1 => ("TwoWires$Message", "address", "I", false)
  | 2 => ("TwoWires$Message", "count", "I", false)
  | 3 => ("TwoWires$Message", "losses", "I", false)
  | _ => ("TwoWires$Message", "bytes", "J", false)
def tyX3 : Nat → FieldType := fun k => match k with
  | 0 => .boolean
  | 1 => .int
  | 2 => .int
  | 3 => .int
  | _ => .long
theorem nmX3 : ∀ a, a < 5 → ∀ b, b < 5 → a ≠ b → (TX3 a).2.1 ≠ (TX3 b).2.1 := by decide +kernel
theorem tyX3_ok : ∀ k, k < 5 → parseFieldDescriptor (TX3 k).2.2.1 = some (tyX3 k) := by decide +kernel
abbrev cX3_init : ByteArray := prog_5_method_1_code
def yX3_init : MethodName := ⟨RX3, "<init>", "()V"⟩
abbrev cX3_copyFrom : ByteArray := prog_5_method_2_code
def yX3_copyFrom : MethodName := ⟨RX3, "copyFrom", "(LTwoWires$Message;)V"⟩
abbrev cX3_header : ByteArray := prog_5_method_3_code
def yX3_header : MethodName := ⟨RX3, "header", "()I"⟩
abbrev cX3_byteAt : ByteArray := prog_5_method_4_code
def yX3_byteAt : MethodName := ⟨RX3, "byteAt", "(I)I"⟩
abbrev cX3_tell : ByteArray := prog_5_method_5_code
def yX3_tell : MethodName := ⟨RX3, "tell", "(I)I"⟩
def RX4 : String := "TwoWires$OrderText"
def TX4 : u_T := fun k => match k with
  | 0 => ("TwoWires$OrderText", "bytesOfText", "[I", true)
  | 1 => ("TwoWires$OrderText", "length", "I", false)
  | 2 => ("TwoWires$OrderText", "at", "I", false)
  | 3 => ("TwoWires$OrderText", "error", "I", false)
  | 4 => ("TwoWires$OrderText", "number", "I", false)
  | 5 => ("TwoWires$OrderText", "kind", "I", false)
  | 6 => ("TwoWires$OrderText", "callerDigit", "I", false)
  | 7 => ("TwoWires$OrderText", "address", "I", false)
  | 8 => ("TwoWires$OrderText", "amount", "I", false)
  | _ => ("TwoWires$OrderText", "bytes", "J", false)
def tyX4 : Nat → FieldType := fun k => match k with
  | 0 => .array .int
  | 1 => .int
  | 2 => .int
  | 3 => .int
  | 4 => .int
  | 5 => .int
  | 6 => .int
  | 7 => .int
  | 8 => .int
  | _ => .long
theorem nmX4 : ∀ a, a < 10 → ∀ b, b < 10 → a ≠ b → (TX4 a).2.1 ≠ (TX4 b).2.1 := by decide +kernel
theorem tyX4_ok : ∀ k, k < 10 → parseFieldDescriptor (TX4 k).2.2.1 = some (tyX4 k) := by decide +kernel
abbrev cX4_init : ByteArray := prog_6_method_1_code
def yX4_init : MethodName := ⟨RX4, "<init>", "()V"⟩
abbrev cX4_add : ByteArray := prog_6_method_2_code
def yX4_add : MethodName := ⟨RX4, "add", "(I)I"⟩
abbrev cX4_rewind : ByteArray := prog_6_method_3_code
def yX4_rewind : MethodName := ⟨RX4, "rewind", "()V"⟩
abbrev cX4_findError : ByteArray := prog_6_method_4_code
def yX4_findError : MethodName := ⟨RX4, "findError", "()I"⟩
abbrev cX4_nextOrder : ByteArray := prog_6_method_5_code
def yX4_nextOrder : MethodName := ⟨RX4, "nextOrder", "()Z"⟩
abbrev cX4_readTarget : ByteArray := prog_6_method_6_code
def yX4_readTarget : MethodName := ⟨RX4, "readTarget", "()Z"⟩
abbrev cX4_readBytes : ByteArray := prog_6_method_7_code
def yX4_readBytes : MethodName := ⟨RX4, "readBytes", "()Z"⟩
abbrev cX4_readCount : ByteArray := prog_6_method_8_code
def yX4_readCount : MethodName := ⟨RX4, "readCount", "()Z"⟩
abbrev cX4_readSlots : ByteArray := prog_6_method_9_code
def yX4_readSlots : MethodName := ⟨RX4, "readSlots", "()Z"⟩
abbrev cX4_readNumber : ByteArray := prog_6_method_10_code
def yX4_readNumber : MethodName := ⟨RX4, "readNumber", "(II)Z"⟩
abbrev cX4_readDigit : ByteArray := prog_6_method_11_code
def yX4_readDigit : MethodName := ⟨RX4, "readDigit", "(II)Z"⟩
abbrev cX4_take : ByteArray := prog_6_method_12_code
def yX4_take : MethodName := ⟨RX4, "take", "(I)Z"⟩
abbrev cX4_takeIfThere : ByteArray := prog_6_method_13_code
def yX4_takeIfThere : MethodName := ⟨RX4, "takeIfThere", "(I)Z"⟩
abbrev cX4_fail : ByteArray := prog_6_method_14_code
def yX4_fail : MethodName := ⟨RX4, "fail", "(I)Z"⟩
abbrev cX4_isDigit : ByteArray := prog_6_method_15_code
def yX4_isDigit : MethodName := ⟨RX4, "isDigit", "(I)Z"⟩
abbrev cX4_nextByte : ByteArray := prog_6_method_16_code
def yX4_nextByte : MethodName := ⟨RX4, "nextByte", "()I"⟩
def RX5 : String := "TwoWires$SlotLog"
def TX5 : u_T := fun k => match k with
  | 0 => ("TwoWires$SlotLog", "passed", "I", false)
  | 1 => ("TwoWires$SlotLog", "notIdle", "I", false)
  | 2 => ("TwoWires$SlotLog", "held", "I", false)
  | 3 => ("TwoWires$SlotLog", "levels", "[I", true)
  | 4 => ("TwoWires$SlotLog", "contenders", "[I", true)
  | _ => ("TwoWires$SlotLog", "kinds", "[I", true)
def tyX5 : Nat → FieldType := fun k => match k with
  | 0 => .int
  | 1 => .int
  | 2 => .int
  | 3 => .array .int
  | 4 => .array .int
  | _ => .array .int
theorem nmX5 : ∀ a, a < 6 → ∀ b, b < 6 → a ≠ b → (TX5 a).2.1 ≠ (TX5 b).2.1 := by decide +kernel
theorem tyX5_ok : ∀ k, k < 6 → parseFieldDescriptor (TX5 k).2.2.1 = some (tyX5 k) := by decide +kernel
abbrev cX5_init : ByteArray := prog_7_method_1_code
def yX5_init : MethodName := ⟨RX5, "<init>", "()V"⟩
abbrev cX5_copyFrom : ByteArray := prog_7_method_2_code
def yX5_copyFrom : MethodName := ⟨RX5, "copyFrom", "(LTwoWires$SlotLog;)V"⟩
abbrev cX5_keptCount : ByteArray := prog_7_method_3_code
def yX5_keptCount : MethodName := ⟨RX5, "keptCount", "()I"⟩
abbrev cX5_keep : ByteArray := prog_7_method_4_code
def yX5_keep : MethodName := ⟨RX5, "keep", "(III)V"⟩
abbrev cX5_tell : ByteArray := prog_7_method_5_code
def yX5_tell : MethodName := ⟨RX5, "tell", "(II)I"⟩
abbrev cX5_lastLevel : ByteArray := prog_7_method_6_code
def yX5_lastLevel : MethodName := ⟨RX5, "lastLevel", "()I"⟩
def RX6 : String := "TwoWires"
def TX6 : u_T := fun k => match k with
  | 0 => ("TwoWires", "bus", "LTwoWires$Bus;", true)
  | 1 => ("TwoWires", "trial", "LTwoWires$Bus;", true)
  | 2 => ("TwoWires", "fresh", "LTwoWires$Bus;", true)
  | 3 => ("TwoWires", "saved", "[LTwoWires$Bus;", true)
  | 4 => ("TwoWires", "savedCount", "I", false)
  | _ => ("TwoWires", "text", "LTwoWires$OrderText;", true)
def tyX6 : Nat → FieldType := fun k => match k with
  | 0 => .object "TwoWires$Bus"
  | 1 => .object "TwoWires$Bus"
  | 2 => .object "TwoWires$Bus"
  | 3 => .array (.object "TwoWires$Bus")
  | 4 => .int
  | _ => .object "TwoWires$OrderText"
theorem nmX6 : ∀ a, a < 6 → ∀ b, b < 6 → a ≠ b → (TX6 a).2.1 ≠ (TX6 b).2.1 := by decide +kernel
theorem tyX6_ok : ∀ k, k < 6 → parseFieldDescriptor (TX6 k).2.2.1 = some (tyX6 k) := by decide +kernel
abbrev cX6_init : ByteArray := prog_1_method_1_code
def yX6_init : MethodName := ⟨RX6, "<init>", "()V"⟩
abbrev cX6_begin : ByteArray := prog_1_method_2_code
def yX6_begin : MethodName := ⟨RX6, "begin", "(I)I"⟩
abbrev cX6_addListener : ByteArray := prog_1_method_3_code
def yX6_addListener : MethodName := ⟨RX6, "addListener", "(II)I"⟩
abbrev cX6_turn : ByteArray := prog_1_method_4_code
def yX6_turn : MethodName := ⟨RX6, "turn", "(IZ)I"⟩
abbrev cX6_empty : ByteArray := prog_1_method_5_code
def yX6_empty : MethodName := ⟨RX6, "empty", "(I)I"⟩
abbrev cX6_setLimit : ByteArray := prog_1_method_6_code
def yX6_setLimit : MethodName := ⟨RX6, "setLimit", "(I)I"⟩
abbrev cX6_write : ByteArray := prog_1_method_7_code
def yX6_write : MethodName := ⟨RX6, "write", "(IIIJ)I"⟩
abbrev cX6_read : ByteArray := prog_1_method_8_code
def yX6_read : MethodName := ⟨RX6, "read", "(III)I"⟩
abbrev cX6_cancel : ByteArray := prog_1_method_9_code
def yX6_cancel : MethodName := ⟨RX6, "cancel", "(I)I"⟩
abbrev cX6_pass : ByteArray := prog_1_method_10_code
def yX6_pass : MethodName := ⟨RX6, "pass", "(I)I"⟩
abbrev cX6_finish : ByteArray := prog_1_method_11_code
def yX6_finish : MethodName := ⟨RX6, "finish", "()I"⟩
abbrev cX6_caller : ByteArray := prog_1_method_12_code
def yX6_caller : MethodName := ⟨RX6, "caller", "(II)I"⟩
abbrev cX6_message : ByteArray := prog_1_method_13_code
def yX6_message : MethodName := ⟨RX6, "message", "(III)I"⟩
abbrev cX6_listener : ByteArray := prog_1_method_14_code
def yX6_listener : MethodName := ⟨RX6, "listener", "(II)I"⟩
abbrev cX6_memory : ByteArray := prog_1_method_15_code
def yX6_memory : MethodName := ⟨RX6, "memory", "(II)I"⟩
abbrev cX6_value : ByteArray := prog_1_method_16_code
def yX6_value : MethodName := ⟨RX6, "value", "(I)I"⟩
abbrev cX6_log : ByteArray := prog_1_method_17_code
def yX6_log : MethodName := ⟨RX6, "log", "(II)I"⟩
abbrev cX6_slotsToFinish : ByteArray := prog_1_method_18_code
def yX6_slotsToFinish : MethodName := ⟨RX6, "slotsToFinish", "()I"⟩
abbrev cX6_alone : ByteArray := prog_1_method_19_code
def yX6_alone : MethodName := ⟨RX6, "alone", "(I)I"⟩
abbrev cX6_winners : ByteArray := prog_1_method_20_code
def yX6_winners : MethodName := ⟨RX6, "winners", "()I"⟩
abbrev cX6_delivers : ByteArray := prog_1_method_21_code
def yX6_delivers : MethodName := ⟨RX6, "delivers", "(I)I"⟩
abbrev cX6_busy : ByteArray := prog_1_method_22_code
def yX6_busy : MethodName := ⟨RX6, "busy", "()D"⟩
abbrev cX6_append : ByteArray := prog_1_method_23_code
def yX6_append : MethodName := ⟨RX6, "append", "(I)I"⟩
abbrev cX6_clearText : ByteArray := prog_1_method_24_code
def yX6_clearText : MethodName := ⟨RX6, "clearText", "()I"⟩
abbrev cX6_carryOut : ByteArray := prog_1_method_25_code
def yX6_carryOut : MethodName := ⟨RX6, "carryOut", "()I"⟩
abbrev cX6_undo : ByteArray := prog_1_method_26_code
def yX6_undo : MethodName := ⟨RX6, "undo", "()I"⟩
abbrev cX6_digest : ByteArray := prog_1_method_27_code
def yX6_digest : MethodName := ⟨RX6, "digest", "()J"⟩
abbrev cX6_mix : ByteArray := prog_1_method_28_code
def yX6_mix : MethodName := ⟨RX6, "mix", "(JI)J"⟩
abbrev cX6_mixCaller : ByteArray := prog_1_method_29_code
def yX6_mixCaller : MethodName := ⟨RX6, "mixCaller", "(JI)J"⟩
abbrev cX6_mixMessage : ByteArray := prog_1_method_30_code
def yX6_mixMessage : MethodName := ⟨RX6, "mixMessage", "(JLTwoWires$Message;)J"⟩
abbrev cX6_mixListener : ByteArray := prog_1_method_31_code
def yX6_mixListener : MethodName := ⟨RX6, "mixListener", "(JLTwoWires$Listener;)J"⟩
abbrev cX6_requireRange : ByteArray := prog_1_method_32_code
def yX6_requireRange : MethodName := ⟨RX6, "requireRange", "(III)V"⟩
abbrev cX6_callerOrThrow : ByteArray := prog_1_method_33_code
def yX6_callerOrThrow : MethodName := ⟨RX6, "callerOrThrow", "(I)LTwoWires$Caller;"⟩
abbrev cX6_listenerOrThrow : ByteArray := prog_1_method_34_code
def yX6_listenerOrThrow : MethodName := ⟨RX6, "listenerOrThrow", "(I)LTwoWires$Listener;"⟩
abbrev cX6_queueMessage : ByteArray := prog_1_method_35_code
def yX6_queueMessage : MethodName := ⟨RX6, "queueMessage", "(LTwoWires$Caller;ZIIJ)I"⟩
abbrev cX6_obeyOrder : ByteArray := prog_1_method_36_code
def yX6_obeyOrder : MethodName := ⟨RX6, "obeyOrder", "()Z"⟩
abbrev cX6_runTrial : ByteArray := prog_1_method_37_code
def yX6_runTrial : MethodName := ⟨RX6, "runTrial", "()I"⟩
abbrev cX6_saveState : ByteArray := prog_1_method_38_code
def yX6_saveState : MethodName := ⟨RX6, "saveState", "()V"⟩
abbrev cX6_dropOldestState : ByteArray := prog_1_method_39_code
def yX6_dropOldestState : MethodName := ⟨RX6, "dropOldestState", "()V"⟩
abbrev cX6_savedAt : ByteArray := prog_1_method_40_code
def yX6_savedAt : MethodName := ⟨RX6, "savedAt", "(I)LTwoWires$Bus;"⟩
abbrev cX6_copyNumbers : ByteArray := prog_1_method_41_code
def yX6_copyNumbers : MethodName := ⟨RX6, "copyNumbers", "([I[I)V"⟩
def RX7 : String := "TwoWiresModel"
def TX7 : u_T := fun k => match k with
  | 0 => ("TwoWiresModel", "now", "[I", true)
  | 1 => ("TwoWiresModel", "kept", "[I", true)
  | 2 => ("TwoWiresModel", "states", "I", false)
  | 3 => ("TwoWiresModel", "aside", "[I", true)
  | 4 => ("TwoWiresModel", "text", "[I", true)
  | 5 => ("TwoWiresModel", "length", "I", false)
  | 6 => ("TwoWiresModel", "thrown", "I", false)
  | 7 => ("TwoWiresModel", "answer", "I", false)
  | 8 => ("TwoWiresModel", "at", "I", false)
  | 9 => ("TwoWiresModel", "fault", "I", false)
  | 10 => ("TwoWiresModel", "letter", "I", false)
  | 11 => ("TwoWiresModel", "who", "I", false)
  | 12 => ("TwoWiresModel", "address", "I", false)
  | 13 => ("TwoWiresModel", "count", "I", false)
  | 14 => ("TwoWiresModel", "bytes", "J", false)
  | _ => ("TwoWiresModel", "hash", "J", false)
def tyX7 : Nat → FieldType := fun k => match k with
  | 0 => .array .int
  | 1 => .array .int
  | 2 => .int
  | 3 => .array .int
  | 4 => .array .int
  | 5 => .int
  | 6 => .int
  | 7 => .int
  | 8 => .int
  | 9 => .int
  | 10 => .int
  | 11 => .int
  | 12 => .int
  | 13 => .int
  | 14 => .long
  | _ => .long
theorem nmX7 : ∀ a, a < 16 → ∀ b, b < 16 → a ≠ b → (TX7 a).2.1 ≠ (TX7 b).2.1 := by decide +kernel
theorem tyX7_ok : ∀ k, k < 16 → parseFieldDescriptor (TX7 k).2.2.1 = some (tyX7 k) := by decide +kernel
abbrev cX7_init : ByteArray := prog_9_method_1_code
def yX7_init : MethodName := ⟨RX7, "<init>", "()V"⟩
abbrev cX7_thrown : ByteArray := prog_9_method_2_code
def yX7_thrown : MethodName := ⟨RX7, "thrown", "()I"⟩
abbrev cX7_fails : ByteArray := prog_9_method_3_code
def yX7_fails : MethodName := ⟨RX7, "fails", "(I)I"⟩
abbrev cX7_well : ByteArray := prog_9_method_4_code
def yX7_well : MethodName := ⟨RX7, "well", "(I)I"⟩
abbrev cX7_in : ByteArray := prog_9_method_5_code
def yX7_in : MethodName := ⟨RX7, "in", "(JJJ)Z"⟩
abbrev cX7_fresh : ByteArray := prog_9_method_6_code
def yX7_fresh : MethodName := ⟨RX7, "fresh", "(I)V"⟩
abbrev cX7_of : ByteArray := prog_9_method_7_code
def yX7_of : MethodName := ⟨RX7, "of", "(II)I"⟩
abbrev cX7_adds : ByteArray := prog_9_method_8_code
def yX7_adds : MethodName := ⟨RX7, "adds", "(III)V"⟩
abbrev cX7_told : ByteArray := prog_9_method_9_code
def yX7_told : MethodName := ⟨RX7, "told", "(III)I"⟩
abbrev cX7_part : ByteArray := prog_9_method_10_code
def yX7_part : MethodName := ⟨RX7, "part", "(II)I"⟩
abbrev cX7_sets : ByteArray := prog_9_method_11_code
def yX7_sets : MethodName := ⟨RX7, "sets", "(III)V"⟩
abbrev cX7_isCaller : ByteArray := prog_9_method_12_code
def yX7_isCaller : MethodName := ⟨RX7, "isCaller", "(I)Z"⟩
abbrev cX7_isListener : ByteArray := prog_9_method_13_code
def yX7_isListener : MethodName := ⟨RX7, "isListener", "(I)Z"⟩
abbrev cX7_isContender : ByteArray := prog_9_method_14_code
def yX7_isContender : MethodName := ⟨RX7, "isContender", "(I)Z"⟩
abbrev cX7_asides : ByteArray := prog_9_method_15_code
def yX7_asides : MethodName := ⟨RX7, "asides", "()V"⟩
abbrev cX7_backs : ByteArray := prog_9_method_16_code
def yX7_backs : MethodName := ⟨RX7, "backs", "()V"⟩
abbrev cX7_saves : ByteArray := prog_9_method_17_code
def yX7_saves : MethodName := ⟨RX7, "saves", "()V"⟩
abbrev cX7_ends : ByteArray := prog_9_method_18_code
def yX7_ends : MethodName := ⟨RX7, "ends", "(I)I"⟩
abbrev cX7_undo : ByteArray := prog_9_method_19_code
def yX7_undo : MethodName := ⟨RX7, "undo", "()I"⟩
abbrev cX7_header : ByteArray := prog_9_method_20_code
def yX7_header : MethodName := ⟨RX7, "header", "(I)I"⟩
abbrev cX7_leaves : ByteArray := prog_9_method_21_code
def yX7_leaves : MethodName := ⟨RX7, "leaves", "(II)V"⟩
abbrev cX7_loses : ByteArray := prog_9_method_22_code
def yX7_loses : MethodName := ⟨RX7, "loses", "(I)V"⟩
abbrev cX7_sent : ByteArray := prog_9_method_23_code
def yX7_sent : MethodName := ⟨RX7, "sent", "(IZ)I"⟩
abbrev cX7_bitOf : ByteArray := prog_9_method_24_code
def yX7_bitOf : MethodName := ⟨RX7, "bitOf", "(Z)I"⟩
abbrev cX7_anyContender : ByteArray := prog_9_method_25_code
def yX7_anyContender : MethodName := ⟨RX7, "anyContender", "()I"⟩
abbrev cX7_allLeave : ByteArray := prog_9_method_26_code
def yX7_allLeave : MethodName := ⟨RX7, "allLeave", "(I)V"⟩
abbrev cX7_finishes : ByteArray := prog_9_method_27_code
def yX7_finishes : MethodName := ⟨RX7, "finishes", "()I"⟩
abbrev cX7_nextByte : ByteArray := prog_9_method_28_code
def yX7_nextByte : MethodName := ⟨RX7, "nextByte", "()V"⟩
abbrev cX7_holds : ByteArray := prog_9_method_29_code
def yX7_holds : MethodName := ⟨RX7, "holds", "()V"⟩
abbrev cX7_withAddress : ByteArray := prog_9_method_30_code
def yX7_withAddress : MethodName := ⟨RX7, "withAddress", "(I)I"⟩
abbrev cX7_headerAnswer : ByteArray := prog_9_method_31_code
def yX7_headerAnswer : MethodName := ⟨RX7, "headerAnswer", "()I"⟩
abbrev cX7_writeAnswer : ByteArray := prog_9_method_32_code
def yX7_writeAnswer : MethodName := ⟨RX7, "writeAnswer", "()I"⟩
abbrev cX7_readBit : ByteArray := prog_9_method_33_code
def yX7_readBit : MethodName := ⟨RX7, "readBit", "()I"⟩
abbrev cX7_readAnswer : ByteArray := prog_9_method_34_code
def yX7_readAnswer : MethodName := ⟨RX7, "readAnswer", "()I"⟩
abbrev cX7_begins : ByteArray := prog_9_method_35_code
def yX7_begins : MethodName := ⟨RX7, "begins", "()I"⟩
abbrev cX7_step : ByteArray := prog_9_method_36_code
def yX7_step : MethodName := ⟨RX7, "step", "()I"⟩
abbrev cX7_kindOf : ByteArray := prog_9_method_37_code
def yX7_kindOf : MethodName := ⟨RX7, "kindOf", "(I)I"⟩
abbrev cX7_slot : ByteArray := prog_9_method_38_code
def yX7_slot : MethodName := ⟨RX7, "slot", "()V"⟩
abbrev cX7_isDone : ByteArray := prog_9_method_39_code
def yX7_isDone : MethodName := ⟨RX7, "isDone", "()Z"⟩
abbrev cX7_finishing : ByteArray := prog_9_method_40_code
def yX7_finishing : MethodName := ⟨RX7, "finishing", "()I"⟩
abbrev cX7_most : ByteArray := prog_9_method_41_code
def yX7_most : MethodName := ⟨RX7, "most", "(I)J"⟩
abbrev cX7_queues : ByteArray := prog_9_method_42_code
def yX7_queues : MethodName := ⟨RX7, "queues", "(IIIIJ)I"⟩
abbrev cX7_passes : ByteArray := prog_9_method_43_code
def yX7_passes : MethodName := ⟨RX7, "passes", "(I)I"⟩
abbrev cX7_begin : ByteArray := prog_9_method_44_code
def yX7_begin : MethodName := ⟨RX7, "begin", "(I)I"⟩
abbrev cX7_addListener : ByteArray := prog_9_method_45_code
def yX7_addListener : MethodName := ⟨RX7, "addListener", "(II)I"⟩
abbrev cX7_on : ByteArray := prog_9_method_46_code
def yX7_on : MethodName := ⟨RX7, "on", "()I"⟩
abbrev cX7_turn : ByteArray := prog_9_method_47_code
def yX7_turn : MethodName := ⟨RX7, "turn", "(IZ)I"⟩
abbrev cX7_empty : ByteArray := prog_9_method_48_code
def yX7_empty : MethodName := ⟨RX7, "empty", "(I)I"⟩
abbrev cX7_setLimit : ByteArray := prog_9_method_49_code
def yX7_setLimit : MethodName := ⟨RX7, "setLimit", "(I)I"⟩
abbrev cX7_write : ByteArray := prog_9_method_50_code
def yX7_write : MethodName := ⟨RX7, "write", "(IIIJ)I"⟩
abbrev cX7_read : ByteArray := prog_9_method_51_code
def yX7_read : MethodName := ⟨RX7, "read", "(III)I"⟩
abbrev cX7_cancel : ByteArray := prog_9_method_52_code
def yX7_cancel : MethodName := ⟨RX7, "cancel", "(I)I"⟩
abbrev cX7_pass : ByteArray := prog_9_method_53_code
def yX7_pass : MethodName := ⟨RX7, "pass", "(I)I"⟩
abbrev cX7_finish : ByteArray := prog_9_method_54_code
def yX7_finish : MethodName := ⟨RX7, "finish", "()I"⟩
abbrev cX7_callerNumber : ByteArray := prog_9_method_55_code
def yX7_callerNumber : MethodName := ⟨RX7, "callerNumber", "(II)I"⟩
abbrev cX7_caller : ByteArray := prog_9_method_56_code
def yX7_caller : MethodName := ⟨RX7, "caller", "(II)I"⟩
abbrev cX7_message : ByteArray := prog_9_method_57_code
def yX7_message : MethodName := ⟨RX7, "message", "(III)I"⟩
abbrev cX7_listener : ByteArray := prog_9_method_58_code
def yX7_listener : MethodName := ⟨RX7, "listener", "(II)I"⟩
abbrev cX7_memory : ByteArray := prog_9_method_59_code
def yX7_memory : MethodName := ⟨RX7, "memory", "(II)I"⟩
abbrev cX7_number : ByteArray := prog_9_method_60_code
def yX7_number : MethodName := ⟨RX7, "number", "(I)I"⟩
abbrev cX7_value : ByteArray := prog_9_method_61_code
def yX7_value : MethodName := ⟨RX7, "value", "(I)I"⟩
abbrev cX7_logged : ByteArray := prog_9_method_62_code
def yX7_logged : MethodName := ⟨RX7, "logged", "(II)I"⟩
abbrev cX7_logs : ByteArray := prog_9_method_63_code
def yX7_logs : MethodName := ⟨RX7, "logs", "()I"⟩
abbrev cX7_log : ByteArray := prog_9_method_64_code
def yX7_log : MethodName := ⟨RX7, "log", "(II)I"⟩
abbrev cX7_wouldTake : ByteArray := prog_9_method_65_code
def yX7_wouldTake : MethodName := ⟨RX7, "wouldTake", "()I"⟩
abbrev cX7_slotsToFinish : ByteArray := prog_9_method_66_code
def yX7_slotsToFinish : MethodName := ⟨RX7, "slotsToFinish", "()I"⟩
abbrev cX7_takesAlone : ByteArray := prog_9_method_67_code
def yX7_takesAlone : MethodName := ⟨RX7, "takesAlone", "(I)I"⟩
abbrev cX7_alone : ByteArray := prog_9_method_68_code
def yX7_alone : MethodName := ⟨RX7, "alone", "(I)I"⟩
abbrev cX7_winners : ByteArray := prog_9_method_69_code
def yX7_winners : MethodName := ⟨RX7, "winners", "()I"⟩
abbrev cX7_delivers : ByteArray := prog_9_method_70_code
def yX7_delivers : MethodName := ⟨RX7, "delivers", "(I)I"⟩
abbrev cX7_busy : ByteArray := prog_9_method_71_code
def yX7_busy : MethodName := ⟨RX7, "busy", "()D"⟩
abbrev cX7_append : ByteArray := prog_9_method_72_code
def yX7_append : MethodName := ⟨RX7, "append", "(I)I"⟩
abbrev cX7_clearText : ByteArray := prog_9_method_73_code
def yX7_clearText : MethodName := ⟨RX7, "clearText", "()I"⟩
abbrev cX7_here : ByteArray := prog_9_method_74_code
def yX7_here : MethodName := ⟨RX7, "here", "()I"⟩
abbrev cX7_wrong : ByteArray := prog_9_method_75_code
def yX7_wrong : MethodName := ⟨RX7, "wrong", "(I)V"⟩
abbrev cX7_sign : ByteArray := prog_9_method_76_code
def yX7_sign : MethodName := ⟨RX7, "sign", "(I)V"⟩
abbrev cX7_digit : ByteArray := prog_9_method_77_code
def yX7_digit : MethodName := ⟨RX7, "digit", "(II)I"⟩
abbrev cX7_isDigit : ByteArray := prog_9_method_78_code
def yX7_isDigit : MethodName := ⟨RX7, "isDigit", "(I)Z"⟩
abbrev cX7_readNumber : ByteArray := prog_9_method_79_code
def yX7_readNumber : MethodName := ⟨RX7, "readNumber", "(II)I"⟩
abbrev cX7_readBytes : ByteArray := prog_9_method_80_code
def yX7_readBytes : MethodName := ⟨RX7, "readBytes", "()V"⟩
abbrev cX7_reads : ByteArray := prog_9_method_81_code
def yX7_reads : MethodName := ⟨RX7, "reads", "()V"⟩
abbrev cX7_faultOf : ByteArray := prog_9_method_82_code
def yX7_faultOf : MethodName := ⟨RX7, "faultOf", "()I"⟩
abbrev cX7_carries : ByteArray := prog_9_method_83_code
def yX7_carries : MethodName := ⟨RX7, "carries", "()I"⟩
abbrev cX7_carryOut : ByteArray := prog_9_method_84_code
def yX7_carryOut : MethodName := ⟨RX7, "carryOut", "()I"⟩
abbrev cX7_hashes : ByteArray := prog_9_method_85_code
def yX7_hashes : MethodName := ⟨RX7, "hashes", "(I)V"⟩
abbrev cX7_digest : ByteArray := prog_9_method_86_code
def yX7_digest : MethodName := ⟨RX7, "digest", "()J"⟩
def RL : String := "TwoWiresLaw"
abbrev cL_begin : ByteArray := method_3_code
def yL_begin : MethodName := ⟨RL, "begin", "(LTwoWires;I[J)I"⟩
abbrev cL_addListener : ByteArray := method_4_code
def yL_addListener : MethodName := ⟨RL, "addListener", "(LTwoWires;II[J)I"⟩
abbrev cL_turn : ByteArray := method_5_code
def yL_turn : MethodName := ⟨RL, "turn", "(LTwoWires;IZ[J)I"⟩
abbrev cL_empty : ByteArray := method_6_code
def yL_empty : MethodName := ⟨RL, "empty", "(LTwoWires;I[J)I"⟩
abbrev cL_setLimit : ByteArray := method_7_code
def yL_setLimit : MethodName := ⟨RL, "setLimit", "(LTwoWires;I[J)I"⟩
abbrev cL_write : ByteArray := method_8_code
def yL_write : MethodName := ⟨RL, "write", "(LTwoWires;IIIJ[J)I"⟩
abbrev cL_read : ByteArray := method_9_code
def yL_read : MethodName := ⟨RL, "read", "(LTwoWires;III[J)I"⟩
abbrev cL_cancel : ByteArray := method_10_code
def yL_cancel : MethodName := ⟨RL, "cancel", "(LTwoWires;I[J)I"⟩
abbrev cL_pass : ByteArray := method_11_code
def yL_pass : MethodName := ⟨RL, "pass", "(LTwoWires;I[J)I"⟩
abbrev cL_caller : ByteArray := method_12_code
def yL_caller : MethodName := ⟨RL, "caller", "(LTwoWires;II[J)I"⟩
abbrev cL_message : ByteArray := method_13_code
def yL_message : MethodName := ⟨RL, "message", "(LTwoWires;III[J)I"⟩
abbrev cL_listener : ByteArray := method_14_code
def yL_listener : MethodName := ⟨RL, "listener", "(LTwoWires;II[J)I"⟩
abbrev cL_memory : ByteArray := method_15_code
def yL_memory : MethodName := ⟨RL, "memory", "(LTwoWires;II[J)I"⟩
abbrev cL_value : ByteArray := method_16_code
def yL_value : MethodName := ⟨RL, "value", "(LTwoWires;I[J)I"⟩
abbrev cL_log : ByteArray := method_17_code
def yL_log : MethodName := ⟨RL, "log", "(LTwoWires;II[J)I"⟩
abbrev cL_alone : ByteArray := method_18_code
def yL_alone : MethodName := ⟨RL, "alone", "(LTwoWires;I[J)I"⟩
abbrev cL_delivers : ByteArray := method_19_code
def yL_delivers : MethodName := ⟨RL, "delivers", "(LTwoWires;I[J)I"⟩
abbrev cL_append : ByteArray := method_20_code
def yL_append : MethodName := ⟨RL, "append", "(LTwoWires;I[J)I"⟩
abbrev cL_undo : ByteArray := method_21_code
def yL_undo : MethodName := ⟨RL, "undo", "(LTwoWires;[J)I"⟩
abbrev cL_law : ByteArray := code
def yL_law : MethodName := ⟨RL, "law", "([I)Z"⟩
abbrev vwCl : List vw_C := [(RX0, TX0, 14), (RX1, TX1, 6), (RX2, TX2, 7), (RX3, TX3, 5), (RX4, TX4, 10), (RX5, TX5, 6), (RX6, TX6, 6), (RX7, TX7, 16)]
abbrev oN : Nat → String := fun k => match k with | 0 => RX0 | 1 => RX1 | 2 => RX2 | 3 => RX3 | 4 => RX4 | 5 => RX5 | 6 => RX6 | 7 => RX7 | _ => RL
def tN_ : Nat → u_T := fun k => match k with | 0 => TX0 | 1 => TX1 | 2 => TX2 | 3 => TX3 | 4 => TX4 | 5 => TX5 | 6 => TX6 | _ => TX7
def nF : Nat → Nat := fun k => match k with | 0 => 14 | 1 => 6 | 2 => 7 | 3 => 5 | 4 => 10 | 5 => 6 | 6 => 6 | _ => 16
/-- the kind of a field: 0 int, 1 boolean, 2 long, 3 a reference -/
def fKs : List (List Nat) := [[3, 0, 3, 0, 0, 3, 0, 0, 0, 1, 0, 0, 0, 0], [3, 0, 3, 0, 0, 0], [0, 0, 1, 0, 3, 0, 0], [1, 0, 0, 0, 2], [3, 0, 0, 0, 0, 0, 0, 0, 0, 2], [0, 0, 0, 3, 3, 3], [3, 3, 3, 3, 0, 3], [3, 3, 0, 3, 3, 0, 0, 0, 0, 0, 0, 0, 0, 0, 2, 2]]
def fK (ci k : Nat) : Nat := (fKs.getD ci []).getD k 0
def eN : Nat → String := fun k => match k with | 0 => "java/lang/IllegalArgumentException" | 1 => "java/lang/IllegalStateException" | _ => "java/lang/IndexOutOfBoundsException"
abbrev MT : Type := MethodName × ByteArray × Nat × Option FieldType × List (Nat × Nat × Nat × Nat) × Nat × Nat × Nat × Nat × Bool × Nat × Nat × Nat × Nat
/-- name, code, locals, answer, handlers, owner, frames, local words, parameters, static, places of the words: code, kind, selects, initialized -/
def mT_0 : List MT := [(yX3_init, cX3_init, 1, none, [], 3, 1, 20, 0, false, 212, 211, 0, 141),
  (yX3_copyFrom, cX3_copyFrom, 2, none, [], 3, 0, 0, 1, false, 430, 429, 5, 141),
  (yX3_header, cX3_header, 1, (some .int), [], 3, 0, 0, 0, false, 502, 501, 20, 141),
  (yX3_byteAt, cX3_byteAt, 2, (some .int), [], 3, 0, 0, 1, false, 506, 505, 21, 141),
  (yX3_tell, cX3_tell, 2, (some .int), [], 3, 1, 21, 1, false, 740, 739, 69, 141),
  (yX1_init, cX1_init, 2, none, [], 1, 2, 40, 0, false, 205, 204, 0, 140),
  (yX1_copyFrom, cX1_copyFrom, 5, none, [], 1, 2, 47, 1, false, 426, 425, 4, 140),
  (yX1_messageAt, cX1_messageAt, 2, (some (.object "TwoWires$Message")), [], 1, 0, 0, 1, false, 474, 473, 13, 140),
  (yX1_enqueue, cX1_enqueue, 7, (some .boolean), [], 1, 0, 0, 4, false, 702, 701, 63, 140),
  (yX1_takeBack, cX1_takeBack, 2, (some .int), [], 1, 1, 21, 0, false, 954, 953, 79, 140),
  (yX1_endFirst, cX1_endFirst, 4, none, [], 1, 0, 0, 1, false, 519, 518, 24, 140),
  (yX1_loseBit, cX1_loseBit, 3, none, [], 1, 1, 23, 1, false, 514, 513, 23, 140),
  (yX1_receiveByte, cX1_receiveByte, 2, none, [], 1, 0, 0, 1, false, 543, 542, 30, 140),
  (yX1_tell, cX1_tell, 2, (some .int), [], 1, 0, 0, 1, false, 731, 730, 68, 140),
  (yX2_init, cX2_init, 1, none, [], 2, 1, 20, 0, false, 261, 260, 0, 142)]
def mT_1 : List MT := [(yX2_copyFrom, cX2_copyFrom, 2, none, [], 2, 2, 47, 1, false, 443, 442, 6, 142),
  (yX2_forget, cX2_forget, 2, (some .int), [], 2, 0, 0, 0, false, 909, 908, 76, 142),
  (yX2_byteAt, cX2_byteAt, 2, (some .int), [], 2, 0, 0, 1, false, 572, 571, 37, 142),
  (yX2_storeByte, cX2_storeByte, 2, (some .boolean), [], 2, 0, 0, 1, false, 592, 591, 42, 142),
  (yX2_movePointer, cX2_movePointer, 1, none, [], 2, 0, 0, 0, false, 539, 538, 29, 142),
  (yX2_tell, cX2_tell, 2, (some .int), [], 2, 0, 0, 1, false, 749, 748, 70, 142),
  (yX5_init, cX5_init, 1, none, [], 5, 1, 20, 0, false, 175, 174, 0, 139),
  (yX5_copyFrom, cX5_copyFrom, 2, none, [], 5, 2, 47, 1, false, 448, 447, 7, 139),
  (yX5_keptCount, cX5_keptCount, 1, (some .int), [], 5, 1, 21, 0, false, 754, 753, 71, 139),
  (yX5_keep, cX5_keep, 5, none, [], 5, 0, 0, 3, false, 604, 603, 45, 139),
  (yX5_tell, cX5_tell, 4, (some .int), [], 5, 0, 0, 2, false, 723, 722, 66, 139),
  (yX5_lastLevel, cX5_lastLevel, 1, (some .int), [], 5, 1, 23, 0, false, 719, 718, 65, 139),
  (yX0_init, cX0_init, 2, none, [], 0, 3, 61, 0, false, 165, 164, 0, 138),
  (yX0_copyFrom, cX0_copyFrom, 5, none, [], 0, 3, 71, 1, false, 422, 421, 3, 138),
  (yX0_copyTransfer, cX0_copyTransfer, 2, none, [], 0, 0, 0, 1, false, 453, 452, 8, 138)]
def mT_2 : List MT := [(yX0_callerAt, cX0_callerAt, 2, (some (.object "TwoWires$Caller")), [], 0, 0, 0, 1, false, 470, 469, 12, 138),
  (yX0_listenerAt, cX0_listenerAt, 2, (some (.object "TwoWires$Listener")), [], 0, 0, 0, 1, false, 535, 534, 28, 138),
  (yX0_firstMessage, cX0_firstMessage, 3, (some (.object "TwoWires$Message")), [], 0, 1, 21, 1, false, 466, 465, 11, 138),
  (yX0_contends, cX0_contends, 2, (some .boolean), [], 0, 0, 0, 1, false, 494, 493, 18, 138),
  (yX0_listenerWith, cX0_listenerWith, 4, (some .int), [], 0, 1, 21, 1, false, 555, 554, 33, 138),
  (yX0_answererTo, cX0_answererTo, 4, (some .int), [], 0, 2, 44, 1, false, 551, 550, 32, 138),
  (yX0_placeListener, cX0_placeListener, 5, (some .int), [], 0, 0, 0, 2, false, 865, 864, 73, 138),
  (yX0_listenersOn, cX0_listenersOn, 4, (some .int), [], 0, 1, 21, 0, false, 898, 897, 75, 138),
  (yX0_tell, cX0_tell, 2, (some .int), [], 0, 2, 43, 1, false, 715, 714, 64, 138),
  (yX0_callersWithMessages, cX0_callersWithMessages, 3, (some .int), [], 0, 2, 43, 0, false, 462, 461, 10, 138),
  (yX0_lowestHeaders, cX0_lowestHeaders, 5, (some .int), [], 0, 2, 43, 0, false, 620, 619, 47, 138),
  (yX0_slotsAlone, cX0_slotsAlone, 5, (some .int), [], 0, 3, 67, 1, false, 1017, 1016, 80, 138),
  (yX0_passSlots, cX0_passSlots, 3, none, [], 0, 5, 112, 1, false, 697, 696, 62, 138),
  (yX0_runToRest, cX0_runToRest, 2, (some .int), [], 0, 5, 112, 0, false, 457, 456, 9, 138),
  (yX0_passSlot, cX0_passSlot, 3, none, [], 0, 4, 90, 0, false, 478, 477, 14, 138)]
def mT_3 : List MT := [(yX0_startTransfer, cX0_startTransfer, 1, (some .int), [], 0, 3, 65, 0, false, 482, 481, 15, 138),
  (yX0_expectBits, cX0_expectBits, 2, none, [], 0, 0, 0, 1, false, 486, 485, 16, 138),
  (yX0_sendBits, cX0_sendBits, 3, (some .int), [], 0, 3, 68, 0, false, 490, 489, 17, 138),
  (yX0_sentBit, cX0_sentBit, 3, (some .int), [], 0, 1, 21, 1, false, 498, 497, 19, 138),
  (yX0_loseBits, cX0_loseBits, 4, none, [], 0, 2, 45, 1, false, 510, 509, 22, 138),
  (yX0_readBit, cX0_readBit, 3, (some .int), [], 0, 1, 21, 0, false, 568, 567, 36, 138),
  (yX0_takeBit, cX0_takeBit, 2, (some .int), [], 0, 3, 64, 1, false, 523, 522, 25, 138),
  (yX0_endBits, cX0_endBits, 1, none, [], 0, 2, 44, 0, false, 527, 526, 26, 138),
  (yX0_receiveLevels, cX0_receiveLevels, 4, none, [], 0, 1, 21, 0, false, 531, 530, 27, 138),
  (yX0_answerHeader, cX0_answerHeader, 1, (some .int), [], 0, 3, 67, 0, false, 547, 546, 31, 138),
  (yX0_answerWrite, cX0_answerWrite, 2, (some .int), [], 0, 3, 68, 0, false, 588, 587, 41, 138),
  (yX0_answerRead, cX0_answerRead, 2, (some .int), [], 0, 3, 68, 0, false, 576, 575, 38, 138),
  (yX0_contendersWithMoreBytes, cX0_contendersWithMoreBytes, 4, (some .int), [], 0, 2, 43, 0, false, 580, 579, 39, 138),
  (yX0_goOnWith, cX0_goOnWith, 2, none, [], 0, 2, 47, 1, false, 584, 583, 40, 138),
  (yX0_endMessages, cX0_endMessages, 5, none, [], 0, 1, 23, 2, false, 559, 558, 34, 138)]
def mT_4 : List MT := [(yX0_holdLine, cX0_holdLine, 2, none, [], 0, 1, 21, 0, false, 564, 563, 35, 138),
  (yX0_holdSlot, cX0_holdSlot, 2, (some .int), [], 0, 1, 21, 0, false, 596, 595, 43, 138),
  (yX0_stopTransfer, cX0_stopTransfer, 1, none, [], 0, 0, 0, 0, false, 600, 599, 44, 138),
  (yX4_init, cX4_init, 1, none, [], 4, 1, 20, 0, false, 345, 344, 0, 143),
  (yX4_add, cX4_add, 2, (some .int), [], 4, 0, 0, 1, false, 1037, 1036, 81, 143),
  (yX4_rewind, cX4_rewind, 1, none, [], 4, 0, 0, 0, false, 640, 639, 49, 143),
  (yX4_findError, cX4_findError, 2, (some .int), [], 4, 5, 102, 0, false, 636, 635, 48, 143),
  (yX4_nextOrder, cX4_nextOrder, 1, (some .boolean), [], 4, 4, 82, 0, false, 644, 643, 50, 143),
  (yX4_readTarget, cX4_readTarget, 1, (some .boolean), [], 4, 3, 62, 0, false, 652, 651, 52, 143),
  (yX4_readBytes, cX4_readBytes, 1, (some .boolean), [], 4, 2, 44, 0, false, 679, 678, 58, 143),
  (yX4_readCount, cX4_readCount, 2, (some .boolean), [], 4, 2, 44, 0, false, 683, 682, 59, 143),
  (yX4_readSlots, cX4_readSlots, 2, (some .boolean), [], 4, 2, 44, 0, false, 687, 686, 60, 143),
  (yX4_readNumber, cX4_readNumber, 4, (some .boolean), [], 4, 1, 21, 2, false, 672, 671, 57, 143),
  (yX4_readDigit, cX4_readDigit, 4, (some .boolean), [], 4, 1, 21, 2, false, 656, 655, 53, 143),
  (yX4_take, cX4_take, 2, (some .boolean), [], 4, 2, 41, 1, false, 664, 663, 55, 143)]
def mT_5 : List MT := [(yX4_takeIfThere, cX4_takeIfThere, 2, (some .boolean), [], 4, 1, 20, 1, false, 668, 667, 56, 143),
  (yX4_fail, cX4_fail, 2, (some .boolean), [], 4, 0, 0, 1, false, 660, 659, 54, 143),
  (yX4_isDigit, cX4_isDigit, 1, (some .boolean), [], 4, 0, 0, 1, true, 675, 674, 0, 143),
  (yX4_nextByte, cX4_nextByte, 1, (some .int), [], 4, 0, 0, 0, false, 648, 647, 51, 143),
  (yX6_init, cX6_init, 2, none, [], 6, 4, 82, 0, false, 157, 156, 0, 137),
  (yX6_begin, cX6_begin, 3, (some .int), [], 6, 7, 116, 1, false, 764, 762, 763, 137),
  (yX6_addListener, cX6_addListener, 3, (some .int), [], 6, 7, 116, 2, false, 843, 841, 842, 137),
  (yX6_turn, cX6_turn, 4, (some .int), [], 6, 7, 116, 2, false, 873, 871, 872, 137),
  (yX6_empty, cX6_empty, 3, (some .int), [], 6, 7, 116, 1, false, 905, 903, 904, 137),
  (yX6_setLimit, cX6_setLimit, 3, (some .int), [], 6, 7, 116, 1, false, 916, 914, 915, 137),
  (yX6_write, cX6_write, 7, (some .int), [], 6, 7, 142, 4, false, 923, 921, 922, 137),
  (yX6_read, cX6_read, 5, (some .int), [], 6, 7, 142, 3, false, 941, 939, 940, 137),
  (yX6_cancel, cX6_cancel, 3, (some .int), [], 6, 7, 116, 1, false, 948, 946, 947, 137),
  (yX6_pass, cX6_pass, 2, (some .int), [], 6, 7, 134, 1, false, 961, 959, 960, 137),
  (yX6_finish, cX6_finish, 1, (some .int), [], 6, 6, 133, 0, false, 406, 404, 405, 137)]
def mT_6 : List MT := [(yX6_caller, cX6_caller, 4, (some .int), [], 6, 7, 112, 2, false, 968, 966, 967, 137),
  (yX6_message, cX6_message, 5, (some .int), [], 6, 7, 112, 3, false, 975, 973, 974, 137),
  (yX6_listener, cX6_listener, 4, (some .int), [], 6, 7, 112, 2, false, 983, 981, 982, 137),
  (yX6_memory, cX6_memory, 4, (some .int), [], 6, 7, 112, 2, false, 990, 988, 989, 137),
  (yX6_value, cX6_value, 2, (some .int), [], 6, 7, 112, 1, false, 998, 996, 997, 137),
  (yX6_log, cX6_log, 3, (some .int), [], 6, 7, 112, 2, false, 1005, 1003, 1004, 137),
  (yX6_slotsToFinish, cX6_slotsToFinish, 1, (some .int), [], 6, 7, 153, 0, false, 608, 606, 607, 137),
  (yX6_alone, cX6_alone, 3, (some .int), [], 6, 7, 112, 1, false, 1013, 1011, 1012, 137),
  (yX6_winners, cX6_winners, 1, (some .int), [], 6, 3, 67, 0, false, 616, 614, 615, 137),
  (yX6_delivers, cX6_delivers, 4, (some .int), [], 6, 7, 153, 1, false, 1025, 1023, 1024, 137),
  (yX6_busy, cX6_busy, 2, (some .double), [], 6, 0, 0, 0, false, 624, 622, 623, 137),
  (yX6_append, cX6_append, 2, (some .int), [], 6, 7, 112, 1, false, 1032, 1030, 1031, 137),
  (yX6_clearText, cX6_clearText, 2, (some .int), [], 6, 0, 0, 0, false, 628, 626, 627, 137),
  (yX6_carryOut, cX6_carryOut, 3, (some .int), [], 6, 7, 155, 0, false, 632, 630, 631, 137),
  (yX6_undo, cX6_undo, 2, (some .int), [], 6, 6, 95, 0, false, 1044, 1042, 1043, 137)]
def mT_7 : List MT := [(yX6_digest, cX6_digest, 5, (some .long), [], 6, 7, 153, 0, false, 706, 704, 705, 137),
  (yX6_mix, cX6_mix, 3, (some .long), [], 6, 0, 0, 2, true, 710, 709, 0, 137),
  (yX6_mixCaller, cX6_mixCaller, 6, (some .long), [], 6, 3, 65, 2, false, 727, 726, 67, 137),
  (yX6_mixMessage, cX6_mixMessage, 4, (some .long), [], 6, 2, 42, 2, true, 736, 735, 0, 137),
  (yX6_mixListener, cX6_mixListener, 4, (some .long), [], 6, 1, 22, 2, true, 745, 744, 0, 137),
  (yX6_requireRange, cX6_requireRange, 3, none, [], 6, 6, 90, 3, true, 767, 766, 0, 137),
  (yX6_callerOrThrow, cX6_callerOrThrow, 3, (some (.object "TwoWires$Caller")), [], 6, 6, 90, 1, false, 927, 926, 77, 137),
  (yX6_listenerOrThrow, cX6_listenerOrThrow, 3, (some (.object "TwoWires$Listener")), [], 6, 6, 90, 1, false, 877, 876, 74, 137),
  (yX6_queueMessage, cX6_queueMessage, 7, (some .int), [], 6, 6, 116, 5, false, 933, 932, 78, 137),
  (yX6_obeyOrder, cX6_obeyOrder, 2, (some .boolean), [], 6, 6, 134, 0, false, 693, 692, 61, 137),
  (yX6_runTrial, cX6_runTrial, 1, (some .int), [], 6, 6, 133, 0, false, 612, 611, 46, 137),
  (yX6_saveState, cX6_saveState, 2, none, [], 6, 4, 95, 0, false, 410, 409, 0, 137),
  (yX6_dropOldestState, cX6_dropOldestState, 3, none, [], 6, 0, 0, 0, false, 414, 413, 1, 137),
  (yX6_savedAt, cX6_savedAt, 2, (some (.object "TwoWires$Bus")), [], 6, 0, 0, 1, false, 418, 417, 2, 137),
  (yX6_copyNumbers, cX6_copyNumbers, 2, none, [], 6, 1, 26, 2, true, 433, 432, 0, 137)]
def mT_8 : List MT := [(yX7_init, cX7_init, 1, none, [], 7, 1, 22, 0, false, 1050, 1049, 0, 144),
  (yX7_thrown, cX7_thrown, 1, (some .int), [], 7, 0, 0, 0, false, 1108, 1106, 1107, 144),
  (yX7_fails, cX7_fails, 2, (some .int), [], 7, 0, 0, 1, false, 1116, 1115, 83, 144),
  (yX7_well, cX7_well, 2, (some .int), [], 7, 0, 0, 1, false, 1120, 1119, 84, 144),
  (yX7_in, cX7_in, 6, (some .boolean), [], 7, 0, 0, 3, true, 1128, 1127, 0, 144),
  (yX7_fresh, cX7_fresh, 3, none, [], 7, 0, 0, 1, false, 1055, 1054, 82, 144),
  (yX7_of, cX7_of, 3, (some .int), [], 7, 0, 0, 2, false, 1198, 1197, 94, 144),
  (yX7_adds, cX7_adds, 4, none, [], 7, 0, 0, 3, false, 1202, 1201, 95, 144),
  (yX7_told, cX7_told, 4, (some .int), [], 7, 0, 0, 3, false, 1222, 1221, 98, 144),
  (yX7_part, cX7_part, 3, (some .int), [], 7, 0, 0, 2, false, 1150, 1149, 88, 144),
  (yX7_sets, cX7_sets, 4, none, [], 7, 0, 0, 3, false, 1154, 1153, 89, 144),
  (yX7_isCaller, cX7_isCaller, 2, (some .boolean), [], 7, 1, 25, 1, false, 1186, 1185, 93, 144),
  (yX7_isListener, cX7_isListener, 2, (some .boolean), [], 7, 1, 25, 1, false, 1162, 1161, 90, 144),
  (yX7_isContender, cX7_isContender, 2, (some .boolean), [], 7, 0, 0, 1, false, 1218, 1217, 97, 144),
  (yX7_asides, cX7_asides, 2, none, [], 7, 0, 0, 0, false, 1132, 1131, 85, 144)]
def mT_9 : List MT := [(yX7_backs, cX7_backs, 2, none, [], 7, 0, 0, 0, false, 1370, 1369, 124, 144),
  (yX7_saves, cX7_saves, 2, none, [], 7, 0, 0, 0, false, 1136, 1135, 86, 144),
  (yX7_ends, cX7_ends, 2, (some .int), [], 7, 1, 21, 1, false, 1206, 1205, 96, 144),
  (yX7_undo, cX7_undo, 2, (some .int), [], 7, 1, 21, 0, false, 1112, 1110, 1111, 144),
  (yX7_header, cX7_header, 2, (some .int), [], 7, 1, 23, 1, false, 1255, 1254, 105, 144),
  (yX7_leaves, cX7_leaves, 5, none, [], 7, 1, 23, 2, false, 1263, 1262, 107, 144),
  (yX7_loses, cX7_loses, 2, none, [], 7, 2, 47, 1, false, 1259, 1258, 106, 144),
  (yX7_sent, cX7_sent, 3, (some .int), [], 7, 2, 44, 2, false, 1251, 1250, 104, 144),
  (yX7_bitOf, cX7_bitOf, 4, (some .int), [], 7, 3, 68, 1, false, 1247, 1246, 103, 144),
  (yX7_anyContender, cX7_anyContender, 1, (some .int), [], 7, 1, 21, 0, false, 1271, 1270, 109, 144),
  (yX7_allLeave, cX7_allLeave, 3, none, [], 7, 2, 47, 1, false, 1275, 1274, 110, 144),
  (yX7_finishes, cX7_finishes, 3, (some .int), [], 7, 2, 47, 0, false, 1291, 1290, 114, 144),
  (yX7_nextByte, cX7_nextByte, 1, none, [], 7, 0, 0, 0, false, 1283, 1282, 112, 144),
  (yX7_holds, cX7_holds, 1, none, [], 7, 1, 22, 0, false, 1279, 1278, 111, 144),
  (yX7_withAddress, cX7_withAddress, 3, (some .int), [], 7, 1, 22, 1, false, 1146, 1145, 87, 144)]
def mT_10 : List MT := [(yX7_headerAnswer, cX7_headerAnswer, 3, (some .int), [], 7, 3, 69, 0, false, 1267, 1266, 108, 144),
  (yX7_writeAnswer, cX7_writeAnswer, 3, (some .int), [], 7, 3, 69, 0, false, 1287, 1286, 113, 144),
  (yX7_readBit, cX7_readBit, 6, (some .int), [], 7, 1, 23, 0, false, 1295, 1294, 115, 144),
  (yX7_readAnswer, cX7_readAnswer, 1, (some .int), [], 7, 3, 69, 0, false, 1299, 1298, 116, 144),
  (yX7_begins, cX7_begins, 3, (some .int), [], 7, 1, 22, 0, false, 1243, 1242, 102, 144),
  (yX7_step, cX7_step, 2, (some .int), [], 7, 4, 91, 0, false, 1239, 1238, 101, 144),
  (yX7_kindOf, cX7_kindOf, 1, (some .int), [], 7, 0, 0, 1, true, 1302, 1301, 0, 144),
  (yX7_slot, cX7_slot, 5, none, [], 7, 5, 112, 0, false, 1235, 1234, 100, 144),
  (yX7_isDone, cX7_isDone, 1, (some .boolean), [], 7, 1, 22, 0, false, 1314, 1313, 118, 144),
  (yX7_finishing, cX7_finishing, 2, (some .int), [], 7, 6, 136, 0, false, 1310, 1309, 117, 144),
  (yX7_most, cX7_most, 1, (some .long), [], 7, 0, 0, 1, true, 1190, 1189, 0, 144),
  (yX7_queues, cX7_queues, 9, (some .int), [], 7, 2, 46, 5, false, 1182, 1181, 92, 144),
  (yX7_passes, cX7_passes, 3, (some .int), [], 7, 6, 136, 1, false, 1230, 1229, 99, 144),
  (yX7_begin, cX7_begin, 3, (some .int), [], 7, 1, 25, 1, false, 1124, 1122, 1123, 144),
  (yX7_addListener, cX7_addListener, 4, (some .int), [], 7, 2, 44, 2, false, 1140, 1138, 1139, 144)]
def mT_11 : List MT := [(yX7_on, cX7_on, 3, (some .int), [], 7, 1, 22, 0, false, 1166, 1165, 91, 144),
  (yX7_turn, cX7_turn, 4, (some .int), [], 7, 2, 46, 2, false, 1158, 1156, 1157, 144),
  (yX7_empty, cX7_empty, 3, (some .int), [], 7, 2, 46, 1, false, 1170, 1168, 1169, 144),
  (yX7_setLimit, cX7_setLimit, 3, (some .int), [], 7, 1, 25, 1, false, 1174, 1172, 1173, 144),
  (yX7_write, cX7_write, 6, (some .int), [], 7, 3, 74, 4, false, 1178, 1176, 1177, 144),
  (yX7_read, cX7_read, 4, (some .int), [], 7, 3, 74, 3, false, 1210, 1208, 1209, 144),
  (yX7_cancel, cX7_cancel, 3, (some .int), [], 7, 2, 46, 1, false, 1214, 1212, 1213, 144),
  (yX7_pass, cX7_pass, 2, (some .int), [], 7, 7, 158, 1, false, 1226, 1224, 1225, 144),
  (yX7_finish, cX7_finish, 1, (some .int), [], 7, 7, 157, 0, false, 1306, 1304, 1305, 144),
  (yX7_callerNumber, cX7_callerNumber, 3, (some .int), [], 7, 1, 22, 2, false, 1323, 1322, 119, 144),
  (yX7_caller, cX7_caller, 3, (some .int), [], 7, 2, 46, 2, false, 1318, 1316, 1317, 144),
  (yX7_message, cX7_message, 4, (some .int), [], 7, 2, 46, 3, false, 1327, 1325, 1326, 144),
  (yX7_listener, cX7_listener, 3, (some .int), [], 7, 2, 46, 2, false, 1332, 1330, 1331, 144),
  (yX7_memory, cX7_memory, 3, (some .int), [], 7, 2, 46, 2, false, 1337, 1335, 1336, 144),
  (yX7_number, cX7_number, 2, (some .int), [], 7, 0, 0, 1, false, 1345, 1344, 120, 144)]
def mT_12 : List MT := [(yX7_value, cX7_value, 2, (some .int), [], 7, 1, 25, 1, false, 1341, 1339, 1340, 144),
  (yX7_logged, cX7_logged, 3, (some .int), [], 7, 0, 0, 2, false, 1358, 1357, 122, 144),
  (yX7_logs, cX7_logs, 1, (some .int), [], 7, 0, 0, 0, false, 1353, 1352, 121, 144),
  (yX7_log, cX7_log, 3, (some .int), [], 7, 1, 25, 2, false, 1349, 1347, 1348, 144),
  (yX7_wouldTake, cX7_wouldTake, 2, (some .int), [], 7, 7, 157, 0, false, 1366, 1365, 123, 144),
  (yX7_slotsToFinish, cX7_slotsToFinish, 1, (some .int), [], 7, 8, 178, 0, false, 1362, 1360, 1361, 144),
  (yX7_takesAlone, cX7_takesAlone, 6, (some .int), [], 7, 2, 44, 1, false, 1378, 1377, 125, 144),
  (yX7_alone, cX7_alone, 2, (some .int), [], 7, 3, 69, 1, false, 1374, 1372, 1373, 144),
  (yX7_winners, cX7_winners, 4, (some .int), [], 7, 2, 44, 0, false, 1382, 1380, 1381, 144),
  (yX7_delivers, cX7_delivers, 4, (some .int), [], 7, 7, 157, 1, false, 1386, 1384, 1385, 144),
  (yX7_busy, cX7_busy, 1, (some .double), [], 7, 0, 0, 0, false, 1390, 1388, 1389, 144),
  (yX7_append, cX7_append, 2, (some .int), [], 7, 1, 25, 1, false, 1394, 1392, 1393, 144),
  (yX7_clearText, cX7_clearText, 2, (some .int), [], 7, 1, 21, 0, false, 1398, 1396, 1397, 144),
  (yX7_here, cX7_here, 1, (some .int), [], 7, 0, 0, 0, false, 1414, 1413, 128, 144),
  (yX7_wrong, cX7_wrong, 2, none, [], 7, 0, 0, 1, false, 1422, 1421, 130, 144)]
def mT_13 : List MT := [(yX7_sign, cX7_sign, 2, none, [], 7, 1, 21, 1, false, 1426, 1425, 131, 144),
  (yX7_digit, cX7_digit, 4, (some .int), [], 7, 1, 25, 2, false, 1418, 1417, 129, 144),
  (yX7_isDigit, cX7_isDigit, 1, (some .boolean), [], 7, 1, 25, 1, true, 1433, 1432, 0, 144),
  (yX7_readNumber, cX7_readNumber, 5, (some .int), [], 7, 2, 45, 2, false, 1430, 1429, 132, 144),
  (yX7_readBytes, cX7_readBytes, 1, none, [], 7, 3, 69, 0, false, 1439, 1438, 133, 144),
  (yX7_reads, cX7_reads, 1, none, [], 7, 4, 89, 0, false, 1410, 1409, 127, 144),
  (yX7_faultOf, cX7_faultOf, 1, (some .int), [], 7, 5, 109, 0, false, 1406, 1405, 126, 144),
  (yX7_carries, cX7_carries, 1, (some .int), [], 7, 7, 158, 0, false, 1444, 1443, 134, 144),
  (yX7_carryOut, cX7_carryOut, 3, (some .int), [], 7, 8, 178, 0, false, 1402, 1400, 1401, 144),
  (yX7_hashes, cX7_hashes, 2, none, [], 7, 0, 0, 1, false, 1453, 1452, 135, 144),
  (yX7_digest, cX7_digest, 5, (some .long), [], 7, 8, 178, 0, false, 1448, 1446, 1447, 144),
  (yL_begin, cL_begin, 4, (some .int), [(0, 9, 12, 13)], 8, 8, 138, 3, true, 759, 758, 0, 136),
  (yL_addListener, cL_addListener, 5, (some .int), [(0, 10, 13, 13), (0, 10, 17, 19)], 8, 8, 138, 4, true, 838, 837, 0, 136),
  (yL_turn, cL_turn, 5, (some .int), [(0, 10, 13, 25), (0, 10, 17, 19)], 8, 8, 139, 4, true, 868, 867, 0, 136),
  (yL_empty, cL_empty, 4, (some .int), [(0, 9, 12, 25)], 8, 8, 138, 3, true, 901, 900, 0, 136)]
def mT_14 : List MT := [(yL_setLimit, cL_setLimit, 4, (some .int), [(0, 9, 12, 13)], 8, 8, 138, 3, true, 912, 911, 0, 136),
  (yL_write, cL_write, 8, (some .int), [(0, 14, 17, 25), (0, 14, 21, 13), (0, 14, 25, 19)], 8, 8, 168, 6, true, 919, 918, 0, 136),
  (yL_read, cL_read, 6, (some .int), [(0, 12, 15, 25), (0, 12, 19, 13), (0, 12, 23, 19)], 8, 8, 166, 5, true, 937, 936, 0, 136),
  (yL_cancel, cL_cancel, 4, (some .int), [(0, 9, 12, 25), (0, 9, 15, 19)], 8, 8, 138, 3, true, 944, 943, 0, 136),
  (yL_pass, cL_pass, 4, (some .int), [(0, 9, 12, 13)], 8, 8, 155, 3, true, 957, 956, 0, 136),
  (yL_caller, cL_caller, 5, (some .int), [(0, 10, 13, 25), (0, 10, 17, 13)], 8, 8, 135, 4, true, 964, 963, 0, 136),
  (yL_message, cL_message, 6, (some .int), [(0, 12, 15, 25), (0, 12, 19, 13)], 8, 8, 136, 5, true, 971, 970, 0, 136),
  (yL_listener, cL_listener, 5, (some .int), [(0, 10, 13, 25), (0, 10, 17, 13)], 8, 8, 135, 4, true, 979, 978, 0, 136),
  (yL_memory, cL_memory, 5, (some .int), [(0, 10, 13, 25)], 8, 8, 135, 4, true, 986, 985, 0, 136),
  (yL_value, cL_value, 4, (some .int), [(0, 9, 12, 13)], 8, 8, 133, 3, true, 994, 993, 0, 136),
  (yL_log, cL_log, 5, (some .int), [(0, 10, 13, 25), (0, 10, 17, 13)], 8, 8, 134, 4, true, 1001, 1000, 0, 136),
  (yL_alone, cL_alone, 4, (some .int), [(0, 9, 12, 25)], 8, 8, 134, 3, true, 1009, 1008, 0, 136),
  (yL_delivers, cL_delivers, 4, (some .int), [(0, 9, 12, 25)], 8, 8, 176, 3, true, 1021, 1020, 0, 136),
  (yL_append, cL_append, 4, (some .int), [(0, 9, 12, 13), (0, 9, 15, 19)], 8, 8, 133, 3, true, 1028, 1027, 0, 136),
  (yL_undo, cL_undo, 3, (some .int), [(0, 8, 11, 19)], 8, 7, 116, 2, true, 1040, 1039, 0, 136)]
def mTabA : List MT := mT_0 ++ (mT_1 ++ (mT_2 ++ (mT_3 ++ (mT_4 ++ (mT_5 ++ (mT_6 ++ (mT_7 ++ (mT_8 ++ (mT_9 ++ (mT_10 ++ (mT_11 ++ (mT_12 ++ (mT_13 ++ (mT_14))))))))))))))
def mT_law : MT := (yL_law, cL_law, 9, (some .boolean), [], 8, 9, 202, 1, false, 0, 0, 0, 136)
def mTab : List MT := mTabA ++ [mT_law]
abbrev m_Message_init : Nat := 0
abbrev m_Message_copyFrom : Nat := 1
abbrev m_Message_header : Nat := 2
abbrev m_Message_byteAt : Nat := 3
abbrev m_Message_tell : Nat := 4
abbrev m_Caller_init : Nat := 5
abbrev m_Caller_copyFrom : Nat := 6
abbrev m_Caller_messageAt : Nat := 7
abbrev m_Caller_enqueue : Nat := 8
abbrev m_Caller_takeBack : Nat := 9
abbrev m_Caller_endFirst : Nat := 10
abbrev m_Caller_loseBit : Nat := 11
abbrev m_Caller_receiveByte : Nat := 12
abbrev m_Caller_tell : Nat := 13
abbrev m_Listener_init : Nat := 14
abbrev m_Listener_copyFrom : Nat := 15
abbrev m_Listener_forget : Nat := 16
abbrev m_Listener_byteAt : Nat := 17
abbrev m_Listener_storeByte : Nat := 18
abbrev m_Listener_movePointer : Nat := 19
abbrev m_Listener_tell : Nat := 20
abbrev m_Log_init : Nat := 21
abbrev m_Log_copyFrom : Nat := 22
abbrev m_Log_keptCount : Nat := 23
abbrev m_Log_keep : Nat := 24
abbrev m_Log_tell : Nat := 25
abbrev m_Log_lastLevel : Nat := 26
abbrev m_Bus_init : Nat := 27
abbrev m_Bus_copyFrom : Nat := 28
abbrev m_Bus_copyTransfer : Nat := 29
abbrev m_Bus_callerAt : Nat := 30
abbrev m_Bus_listenerAt : Nat := 31
abbrev m_Bus_firstMessage : Nat := 32
abbrev m_Bus_contends : Nat := 33
abbrev m_Bus_listenerWith : Nat := 34
abbrev m_Bus_answererTo : Nat := 35
abbrev m_Bus_placeListener : Nat := 36
abbrev m_Bus_listenersOn : Nat := 37
abbrev m_Bus_tell : Nat := 38
abbrev m_Bus_callersWithMessages : Nat := 39
abbrev m_Bus_lowestHeaders : Nat := 40
abbrev m_Bus_slotsAlone : Nat := 41
abbrev m_Bus_passSlots : Nat := 42
abbrev m_Bus_runToRest : Nat := 43
abbrev m_Bus_passSlot : Nat := 44
abbrev m_Bus_startTransfer : Nat := 45
abbrev m_Bus_expectBits : Nat := 46
abbrev m_Bus_sendBits : Nat := 47
abbrev m_Bus_sentBit : Nat := 48
abbrev m_Bus_loseBits : Nat := 49
abbrev m_Bus_readBit : Nat := 50
abbrev m_Bus_takeBit : Nat := 51
abbrev m_Bus_endBits : Nat := 52
abbrev m_Bus_receiveLevels : Nat := 53
abbrev m_Bus_answerHeader : Nat := 54
abbrev m_Bus_answerWrite : Nat := 55
abbrev m_Bus_answerRead : Nat := 56
abbrev m_Bus_contendersWithMoreBytes : Nat := 57
abbrev m_Bus_goOnWith : Nat := 58
abbrev m_Bus_endMessages : Nat := 59
abbrev m_Bus_holdLine : Nat := 60
abbrev m_Bus_holdSlot : Nat := 61
abbrev m_Bus_stopTransfer : Nat := 62
abbrev m_Text_init : Nat := 63
abbrev m_Text_add : Nat := 64
abbrev m_Text_rewind : Nat := 65
abbrev m_Text_findError : Nat := 66
abbrev m_Text_nextOrder : Nat := 67
abbrev m_Text_readTarget : Nat := 68
abbrev m_Text_readBytes : Nat := 69
abbrev m_Text_readCount : Nat := 70
abbrev m_Text_readSlots : Nat := 71
abbrev m_Text_readNumber : Nat := 72
abbrev m_Text_readDigit : Nat := 73
abbrev m_Text_take : Nat := 74
abbrev m_Text_takeIfThere : Nat := 75
abbrev m_Text_fail : Nat := 76
abbrev m_Text_isDigit : Nat := 77
abbrev m_Text_nextByte : Nat := 78
abbrev m_Two_init : Nat := 79
abbrev m_Two_begin : Nat := 80
abbrev m_Two_addListener : Nat := 81
abbrev m_Two_turn : Nat := 82
abbrev m_Two_empty : Nat := 83
abbrev m_Two_setLimit : Nat := 84
abbrev m_Two_write : Nat := 85
abbrev m_Two_read : Nat := 86
abbrev m_Two_cancel : Nat := 87
abbrev m_Two_pass : Nat := 88
abbrev m_Two_finish : Nat := 89
abbrev m_Two_caller : Nat := 90
abbrev m_Two_message : Nat := 91
abbrev m_Two_listener : Nat := 92
abbrev m_Two_memory : Nat := 93
abbrev m_Two_value : Nat := 94
abbrev m_Two_log : Nat := 95
abbrev m_Two_slotsToFinish : Nat := 96
abbrev m_Two_alone : Nat := 97
abbrev m_Two_winners : Nat := 98
abbrev m_Two_delivers : Nat := 99
abbrev m_Two_busy : Nat := 100
abbrev m_Two_append : Nat := 101
abbrev m_Two_clearText : Nat := 102
abbrev m_Two_carryOut : Nat := 103
abbrev m_Two_undo : Nat := 104
abbrev m_Two_digest : Nat := 105
abbrev m_Two_mix : Nat := 106
abbrev m_Two_mixCaller : Nat := 107
abbrev m_Two_mixMessage : Nat := 108
abbrev m_Two_mixListener : Nat := 109
abbrev m_Two_requireRange : Nat := 110
abbrev m_Two_callerOrThrow : Nat := 111
abbrev m_Two_listenerOrThrow : Nat := 112
abbrev m_Two_queueMessage : Nat := 113
abbrev m_Two_obeyOrder : Nat := 114
abbrev m_Two_runTrial : Nat := 115
abbrev m_Two_saveState : Nat := 116
abbrev m_Two_dropOldestState : Nat := 117
abbrev m_Two_savedAt : Nat := 118
abbrev m_Two_copyNumbers : Nat := 119
abbrev m_Model_init : Nat := 120
abbrev m_Model_thrown : Nat := 121
abbrev m_Model_fails : Nat := 122
abbrev m_Model_well : Nat := 123
abbrev m_Model_in : Nat := 124
abbrev m_Model_fresh : Nat := 125
abbrev m_Model_of : Nat := 126
abbrev m_Model_adds : Nat := 127
abbrev m_Model_told : Nat := 128
abbrev m_Model_part : Nat := 129
abbrev m_Model_sets : Nat := 130
abbrev m_Model_isCaller : Nat := 131
abbrev m_Model_isListener : Nat := 132
abbrev m_Model_isContender : Nat := 133
abbrev m_Model_asides : Nat := 134
abbrev m_Model_backs : Nat := 135
abbrev m_Model_saves : Nat := 136
abbrev m_Model_ends : Nat := 137
abbrev m_Model_undo : Nat := 138
abbrev m_Model_header : Nat := 139
abbrev m_Model_leaves : Nat := 140
abbrev m_Model_loses : Nat := 141
abbrev m_Model_sent : Nat := 142
abbrev m_Model_bitOf : Nat := 143
abbrev m_Model_anyContender : Nat := 144
abbrev m_Model_allLeave : Nat := 145
abbrev m_Model_finishes : Nat := 146
abbrev m_Model_nextByte : Nat := 147
abbrev m_Model_holds : Nat := 148
abbrev m_Model_withAddress : Nat := 149
abbrev m_Model_headerAnswer : Nat := 150
abbrev m_Model_writeAnswer : Nat := 151
abbrev m_Model_readBit : Nat := 152
abbrev m_Model_readAnswer : Nat := 153
abbrev m_Model_begins : Nat := 154
abbrev m_Model_step : Nat := 155
abbrev m_Model_kindOf : Nat := 156
abbrev m_Model_slot : Nat := 157
abbrev m_Model_isDone : Nat := 158
abbrev m_Model_finishing : Nat := 159
abbrev m_Model_most : Nat := 160
abbrev m_Model_queues : Nat := 161
abbrev m_Model_passes : Nat := 162
abbrev m_Model_begin : Nat := 163
abbrev m_Model_addListener : Nat := 164
abbrev m_Model_on : Nat := 165
abbrev m_Model_turn : Nat := 166
abbrev m_Model_empty : Nat := 167
abbrev m_Model_setLimit : Nat := 168
abbrev m_Model_write : Nat := 169
abbrev m_Model_read : Nat := 170
abbrev m_Model_cancel : Nat := 171
abbrev m_Model_pass : Nat := 172
abbrev m_Model_finish : Nat := 173
abbrev m_Model_callerNumber : Nat := 174
abbrev m_Model_caller : Nat := 175
abbrev m_Model_message : Nat := 176
abbrev m_Model_listener : Nat := 177
abbrev m_Model_memory : Nat := 178
abbrev m_Model_number : Nat := 179
abbrev m_Model_value : Nat := 180
abbrev m_Model_logged : Nat := 181
abbrev m_Model_logs : Nat := 182
abbrev m_Model_log : Nat := 183
abbrev m_Model_wouldTake : Nat := 184
abbrev m_Model_slotsToFinish : Nat := 185
abbrev m_Model_takesAlone : Nat := 186
abbrev m_Model_alone : Nat := 187
abbrev m_Model_winners : Nat := 188
abbrev m_Model_delivers : Nat := 189
abbrev m_Model_busy : Nat := 190
abbrev m_Model_append : Nat := 191
abbrev m_Model_clearText : Nat := 192
abbrev m_Model_here : Nat := 193
abbrev m_Model_wrong : Nat := 194
abbrev m_Model_sign : Nat := 195
abbrev m_Model_digit : Nat := 196
abbrev m_Model_isDigit : Nat := 197
abbrev m_Model_readNumber : Nat := 198
abbrev m_Model_readBytes : Nat := 199
abbrev m_Model_reads : Nat := 200
abbrev m_Model_faultOf : Nat := 201
abbrev m_Model_carries : Nat := 202
abbrev m_Model_carryOut : Nat := 203
abbrev m_Model_hashes : Nat := 204
abbrev m_Model_digest : Nat := 205
abbrev m_Law_begin : Nat := 206
abbrev m_Law_addListener : Nat := 207
abbrev m_Law_turn : Nat := 208
abbrev m_Law_empty : Nat := 209
abbrev m_Law_setLimit : Nat := 210
abbrev m_Law_write : Nat := 211
abbrev m_Law_read : Nat := 212
abbrev m_Law_cancel : Nat := 213
abbrev m_Law_pass : Nat := 214
abbrev m_Law_caller : Nat := 215
abbrev m_Law_message : Nat := 216
abbrev m_Law_listener : Nat := 217
abbrev m_Law_memory : Nat := 218
abbrev m_Law_value : Nat := 219
abbrev m_Law_log : Nat := 220
abbrev m_Law_alone : Nat := 221
abbrev m_Law_delivers : Nat := 222
abbrev m_Law_append : Nat := 223
abbrev m_Law_undo : Nat := 224
abbrev m_Law_law : Nat := 225
/-- fields by owner and index: class, place, place of the link, a nest link -/
def fT : List (Nat × Nat × Nat × Nat × Nat × Bool) := [(0, 11, 0, 0, 293, false), (0, 17, 0, 1, 294, false), (0, 23, 0, 2, 296, false), (0, 27, 0, 3, 297, false), (0, 30, 0, 4, 299, false), (0, 36, 0, 5, 301, false), (0, 40, 0, 6, 303, false), (0, 43, 0, 7, 304, false), (0, 46, 0, 8, 305, false), (0, 49, 0, 9, 306, false), (0, 53, 0, 10, 307, false), (0, 56, 0, 11, 308, false), (0, 59, 0, 12, 309, false), (0, 62, 0, 13, 310, false), (0, 93, 2, 0, 264, true), (0, 100, 2, 2, 269, true), (0, 103, 2, 1, 266, true), (0, 106, 5, 0, 179, true), (0, 109, 5, 1, 181, true), (0, 112, 5, 2, 184, true), (0, 127, 3, 1, 219, true), (0, 131, 3, 2, 222, true), (0, 134, 3, 0, 216, true), (0, 137, 2, 5, 275, true), (0, 205, 2, 6, 277, true), (0, 240, 2, 3, 271, true), (1, 11, 1, 0, 238, false), (1, 17, 1, 1, 239, false), (1, 21, 1, 2, 241, false), (1, 25, 1, 3, 242, false), (1, 28, 1, 4, 243, false), (1, 31, 1, 5, 244, false), (1, 43, 3, 0, 215, true), (1, 47, 3, 1, 218, true), (1, 50, 3, 2, 221, true), (1, 53, 3, 3, 224, true), (1, 54, 3, 4, 226, true), (2, 9, 2, 0, 263, false), (2, 15, 2, 1, 265, false), (2, 18, 2, 2, 267, false), (2, 22, 2, 3, 270, false), (2, 25, 2, 4, 272, false), (2, 29, 2, 5, 273, false), (2, 32, 2, 6, 276, false), (3, 9, 3, 0, 214, false), (3, 15, 3, 1, 217, false), (3, 19, 3, 2, 220, false), (3, 22, 3, 3, 223, false), (3, 25, 3, 4, 225, false), (4, 9, 4, 0, 347, false), (4, 15, 4, 1, 348, false), (4, 19, 4, 2, 350, false), (4, 22, 4, 3, 351, false), (4, 25, 4, 4, 352, false), (4, 28, 4, 5, 353, false), (4, 31, 4, 6, 355, false), (4, 34, 4, 7, 357, false), (4, 37, 4, 8, 359, false), (4, 40, 4, 9, 361, false), (5, 9, 5, 0, 177, false), (5, 15, 5, 1, 180, false), (5, 18, 5, 2, 183, false), (5, 21, 5, 3, 185, false), (5, 25, 5, 4, 186, false), (5, 28, 5, 5, 187, false), (6, 10, 6, 0, 384, false), (6, 16, 6, 1, 385, false), (6, 19, 6, 2, 386, false), (6, 22, 6, 3, 387, false), (6, 26, 6, 4, 388, false), (6, 33, 6, 5, 389, false), (6, 41, 0, 5, 302, true), (6, 45, 5, 0, 178, true), (6, 57, 0, 1, 295, true), (6, 60, 0, 3, 298, true), (6, 84, 2, 2, 268, true), (6, 99, 0, 4, 300, true), (6, 115, 1, 1, 240, true), (6, 154, 2, 5, 274, true), (6, 181, 5, 1, 182, true), (6, 184, 4, 1, 349, true), (6, 245, 4, 5, 354, true), (6, 248, 4, 8, 360, true), (6, 251, 4, 6, 356, true), (6, 254, 4, 7, 358, true), (6, 257, 4, 9, 362, true), (7, 7, 7, 0, 1056, false), (7, 13, 7, 1, 1057, false), (7, 16, 7, 3, 1059, false), (7, 19, 7, 4, 1060, false), (7, 26, 7, 6, 1062, false), (7, 34, 7, 2, 1058, false), (7, 44, 7, 7, 1063, false), (7, 213, 7, 5, 1061, false), (7, 216, 7, 8, 1064, false), (7, 219, 7, 9, 1065, false), (7, 238, 7, 14, 1070, false), (7, 242, 7, 13, 1069, false), (7, 247, 7, 10, 1066, false), (7, 253, 7, 11, 1067, false), (7, 259, 7, 12, 1068, false), (7, 276, 7, 15, 1071, false)]
/-- calls by owner and index: method, kind, place of the link -/
def cT : List (Nat × Nat × Nat × Nat × Nat) := [(0, 3, 999, 7, 166), (0, 35, 21, 6, 173), (0, 65, 5, 6, 203), (0, 66, 14, 6, 259), (0, 67, 6, 1, 423), (0, 71, 15, 1, 440), (0, 74, 22, 1, 445), (0, 77, 29, 0, 450), (0, 81, 30, 0, 467), (0, 85, 7, 1, 471), (0, 89, 31, 0, 532), (0, 96, 34, 0, 552), (0, 115, 26, 1, 716), (0, 119, 32, 0, 463), (0, 122, 2, 1, 499), (0, 128, 35, 0, 548), (0, 140, 999, 8, 1018), (0, 146, 44, 0, 475), (0, 150, 39, 0, 459), (0, 153, 45, 0, 479), (0, 156, 47, 0, 487), (0, 159, 51, 0, 520), (0, 162, 54, 0, 544), (0, 165, 50, 0, 565), (0, 168, 56, 0, 573), (0, 171, 55, 0, 585), (0, 174, 61, 0, 593), (0, 177, 62, 0, 597), (0, 180, 24, 1, 601), (0, 184, 46, 0, 483), (0, 188, 33, 0, 491), (0, 192, 48, 0, 495), (0, 196, 49, 0, 507), (0, 199, 3, 1, 503), (0, 202, 11, 1, 511), (0, 208, 17, 1, 569), (0, 209, 52, 0, 524), (0, 212, 53, 0, 528), (0, 215, 19, 1, 536), (0, 218, 12, 1, 540), (0, 221, 59, 0, 556), (0, 225, 60, 0, 561), (0, 228, 18, 1, 589), (0, 231, 57, 0, 577), (0, 234, 58, 0, 581), (0, 237, 10, 1, 560), (1, 3, 999, 7, 206), (1, 34, 0, 6, 210), (1, 35, 1, 1, 427), (1, 39, 119, 3, 431), (1, 58, 7, 0, 515), (1, 62, 10, 0, 516), (2, 3, 999, 7, 262), (2, 35, 119, 3, 444), (3, 3, 999, 7, 213), (3, 29, 3, 0, 741), (4, 3, 999, 7, 346), (4, 44, 65, 0, 637), (4, 47, 67, 0, 641), (4, 51, 78, 0, 645), (4, 55, 68, 0, 649), (4, 58, 74, 0, 661), (4, 62, 69, 0, 676), (4, 65, 70, 0, 680), (4, 68, 71, 0, 684), (4, 71, 76, 0, 657), (4, 74, 73, 0, 653), (4, 78, 72, 0, 669), (4, 81, 75, 0, 665), (4, 84, 77, 2, 673), (5, 3, 999, 7, 176), (5, 31, 119, 3, 449), (5, 35, 999, 8, 755), (5, 41, 25, 0, 720), (6, 1, 999, 7, 158), (6, 9, 27, 6, 163), (6, 32, 63, 6, 343), (6, 37, 110, 2, 765), (6, 50, 116, 0, 407), (6, 53, 28, 1, 419), (6, 70, 34, 1, 860), (6, 76, 36, 1, 862), (6, 80, 112, 0, 874), (6, 92, 37, 1, 895), (6, 96, 16, 1, 906), (6, 102, 111, 0, 924), (6, 111, 113, 0, 930), (6, 122, 33, 1, 732), (6, 128, 9, 1, 951), (6, 131, 42, 1, 694), (6, 135, 43, 1, 454), (6, 138, 13, 1, 728), (6, 141, 7, 1, 733), (6, 150, 4, 1, 737), (6, 153, 20, 1, 746), (6, 157, 17, 1, 750), (6, 160, 38, 1, 712), (6, 161, 23, 1, 751), (6, 166, 25, 1, 756), (6, 168, 115, 0, 609), (6, 171, 41, 1, 1014), (6, 175, 40, 1, 617), (6, 178, 30, 1, 698), (6, 189, 64, 1, 1034), (6, 192, 66, 1, 633), (6, 195, 65, 1, 688), (6, 198, 67, 1, 689), (6, 202, 114, 0, 690), (6, 205, 118, 0, 415), (6, 213, 106, 2, 708), (6, 217, 107, 0, 724), (6, 220, 31, 1, 742), (6, 223, 109, 2, 743), (6, 229, 108, 2, 734), (6, 241, 8, 1, 699), (6, 261, 117, 0, 411), (6, 264, 999, 8, 434), (6, 269, 999, 9, 437), (7, 1, 999, 7, 1051), (7, 22, 125, 0, 1052), (7, 30, 124, 2, 1126), (7, 37, 122, 0, 1113), (7, 41, 136, 0, 1133), (7, 47, 123, 0, 1117), (7, 50, 128, 0, 1219), (7, 54, 127, 0, 1199), (7, 58, 140, 0, 1260), (7, 62, 139, 0, 1252), (7, 65, 133, 0, 1215), (7, 69, 142, 0, 1248), (7, 73, 141, 0, 1256), (7, 76, 129, 0, 1147), (7, 80, 147, 0, 1280), (7, 83, 144, 0, 1268), (7, 87, 149, 0, 1143), (7, 90, 145, 0, 1272), (7, 93, 148, 0, 1276), (7, 96, 130, 0, 1151), (7, 99, 146, 0, 1288), (7, 102, 126, 0, 1195), (7, 105, 154, 0, 1240), (7, 108, 143, 0, 1244), (7, 112, 150, 0, 1264), (7, 115, 151, 0, 1284), (7, 118, 152, 0, 1292), (7, 121, 153, 0, 1296), (7, 124, 155, 0, 1236), (7, 127, 156, 2, 1300), (7, 130, 158, 0, 1311), (7, 134, 157, 0, 1232), (7, 145, 131, 0, 1183), (7, 152, 160, 2, 1188), (7, 160, 134, 0, 1129), (7, 165, 132, 0, 1159), (7, 168, 165, 0, 1163), (7, 171, 161, 0, 1179), (7, 175, 137, 0, 1203), (7, 178, 162, 0, 1227), (7, 181, 159, 0, 1307), (7, 186, 174, 0, 1320), (7, 193, 179, 0, 1342), (7, 196, 182, 0, 1350), (7, 201, 181, 0, 1355), (7, 204, 135, 0, 1367), (7, 207, 184, 0, 1363), (7, 210, 186, 0, 1375), (7, 222, 193, 0, 1411), (7, 225, 194, 0, 1419), (7, 232, 197, 2, 1431), (7, 235, 198, 0, 1427), (7, 250, 196, 0, 1415), (7, 256, 195, 0, 1423), (7, 262, 199, 0, 1436), (7, 265, 200, 0, 1407), (7, 268, 201, 0, 1403), (7, 271, 202, 0, 1441), (7, 281, 204, 0, 1450), (8, 7, 80, 0, 761), (8, 15, 81, 0, 840), (8, 21, 82, 0, 870), (8, 27, 83, 0, 902), (8, 30, 84, 0, 913), (8, 33, 85, 0, 920), (8, 37, 86, 0, 938), (8, 41, 87, 0, 945), (8, 44, 88, 0, 958), (8, 47, 90, 0, 965), (8, 50, 91, 0, 972), (8, 53, 92, 0, 980), (8, 56, 93, 0, 987), (8, 59, 94, 0, 995), (8, 62, 95, 0, 1002), (8, 65, 97, 0, 1010), (8, 68, 99, 0, 1022), (8, 71, 101, 0, 1029), (8, 74, 104, 0, 1041), (8, 78, 79, 5, 155), (8, 81, 120, 5, 1048), (8, 82, 206, 4, 757), (8, 87, 163, 0, 1121), (8, 88, 121, 0, 1105), (8, 91, 207, 4, 836), (8, 94, 164, 0, 1137), (8, 95, 208, 4, 866), (8, 98, 166, 0, 1155), (8, 99, 209, 4, 899), (8, 101, 167, 0, 1167), (8, 102, 210, 4, 910), (8, 104, 168, 0, 1171), (8, 107, 211, 4, 917), (8, 110, 169, 0, 1175), (8, 111, 212, 4, 935), (8, 114, 170, 0, 1207), (8, 115, 213, 4, 942), (8, 117, 171, 0, 1211), (8, 118, 214, 4, 955), (8, 120, 172, 0, 1223), (8, 121, 89, 0, 403), (8, 124, 173, 0, 1303), (8, 125, 215, 4, 962), (8, 127, 175, 0, 1315), (8, 128, 216, 4, 969), (8, 130, 176, 0, 1324), (8, 131, 217, 4, 977), (8, 133, 177, 0, 1329), (8, 134, 218, 4, 984), (8, 136, 178, 0, 1334), (8, 137, 219, 4, 992), (8, 139, 180, 0, 1338), (8, 140, 220, 4, 999), (8, 142, 183, 0, 1346), (8, 143, 96, 0, 605), (8, 146, 185, 0, 1359), (8, 147, 221, 4, 1007), (8, 149, 187, 0, 1371), (8, 150, 98, 0, 613), (8, 153, 188, 0, 1379), (8, 154, 222, 4, 1019), (8, 156, 189, 0, 1383), (8, 157, 100, 0, 621), (8, 161, 190, 0, 1387), (8, 162, 223, 4, 1026), (8, 164, 191, 0, 1391), (8, 165, 102, 0, 625), (8, 168, 192, 0, 1395), (8, 169, 103, 0, 629), (8, 172, 203, 0, 1399), (8, 173, 224, 4, 1038), (8, 176, 138, 0, 1109), (8, 177, 105, 0, 703), (8, 181, 205, 0, 1445)]
/-- classes by owner and index: class (100 and on: exceptions), place of the link -/
def nT : List (Nat × Nat × Nat × Nat) := [(0, 9, 1, 167), (0, 21, 2, 169), (0, 33, 5, 171), (1, 9, 3, 207), (6, 7, 0, 161), (6, 30, 4, 341), (6, 63, 101, 844), (6, 106, 100, 768), (6, 145, 102, 878), (8, 8, 6, 153), (8, 13, 100, 760), (8, 19, 101, 839), (8, 25, 102, 869), (8, 79, 7, 1046)]
/-- classes: instantiable, initialized; places -/
def iT : List (Nat × Nat) := [(162, 138), (202, 140), (258, 142), (209, 141), (342, 143), (172, 139), (154, 137), (1047, 144)]
def kT : List (Nat × Nat × Int32 × Nat) := [(0, 149, 1000000, 458)]
def lT : List (Nat × Nat × Int64 × Nat) := [(6, 211, 3803, 707), (6, 227, 31, 711), (7, 158, 3, 1125), (7, 148, 127, 1141), (7, 163, 9, 1142), (7, 150, 4, 1187), (7, 137, 255, 1191), (7, 139, 65535, 1192), (7, 141, 16777215, 1193), (7, 143, 4294967295, 1194), (7, 156, 200, 1231), (7, 184, 8, 1319), (7, 189, 7, 1328), (7, 191, 5, 1333), (7, 199, 2, 1354), (7, 228, 48, 1434), (7, 230, 57, 1435), (7, 245, 256, 1440), (7, 279, 3803, 1449), (7, 274, 31, 1454), (8, 105, 4294967295, 1455)]
/-- texts: owner, index, place -/
def sT : List (Nat × Nat × String × Nat) := [(6, 233, "an argument is out of range", 809), (6, 65, "there are 6 listeners", 853), (6, 74, "a listener has this address", 861), (6, 237, "there is no such listener", 887), (6, 90, "it is so already", 894), (6, 235, "there is no such caller", 928), (6, 108, "the bytes are out of range", 929), (6, 239, "the queue has 4 messages", 934), (6, 120, "the queue is empty", 949), (6, 126, "the only message is on the bus", 950), (6, 147, "the queue has not so many messages", 976), (6, 155, "the memory has not so many bytes", 991), (6, 164, "no such slot is kept", 1006), (6, 187, "the text has 100 bytes", 1033), (6, 209, "there is no saved state", 1045)]
end
section
/-! A plain machine of this claim's own: it walks the same bytecode over cells that are rows of numbers. Part 05 shows that the machine of the library does what it does. -/
abbrev MI : Type := Nat → Nat → Int32
abbrev ML : Type := Nat → Nat → Int64
abbrev MP : Type := Nat → Nat → Option Nat
/-- what lies at an address (kind, length), the next address (while it is known), cells made, slots made -/
abbrev Wd : Type := (Nat → Option (Nat × Nat)) × Option Nat × Nat × Nat
abbrev Rs : Type := (Option Value ⊕ Nat) × Wd × MI × ML × MP
abbrev Nx : Type := Nat × List Value × List Value × Wd × MI × ML × MP
abbrev Cl : Type := Nat × List Value × List Value
abbrev SR : Type := Nx ⊕ Rs ⊕ Cl
def unk : Value := .float 0
def fix1 (v : Value) : Value := if v.category = 2 then unk else v
def updI (I : MI) (a k : Nat) (x : Int32) : MI := fun b j => if b = a ∧ j = k then x else I b j
def updL (I : ML) (a k : Nat) (x : Int64) : ML := fun b j => if b = a ∧ j = k then x else I b j
def updP (I : MP) (a k : Nat) (x : Option Nat) : MP := fun b j => if b = a ∧ j = k then x else I b j
/-- a new row -/
def rowI (I : MI) (a : Nat) : MI := fun b j => if b = a then 0 else I b j
def rowL (I : ML) (a : Nat) : ML := fun b j => if b = a then 0 else I b j
def rowP (I : MP) (a : Nat) : MP := fun b j => if b = a then none else I b j
def newT (w : Wd) (a k n sl : Nat) : Wd := (fun b => if b = a then some (k, n) else w.1 b, some (a + 1), w.2.2.1 + 1, w.2.2.2 + sl)
def thrT (w : Wd) : Wd := (w.1, none, w.2.2.1 + 1, w.2.2.2 + 6)
/-- System.arraycopy of ints -/
def cpyI (I : MI) (a0 sp a1 dp n : Nat) : MI := fun b j => if b = a1 then (if dp ≤ j ∧ j < dp + n then I a0 (sp + (j - dp)) else I b j) else I b j
-- the tables
def mE (m : Nat) : MT := mTab.getD m (yX0_init, ⟨#[]⟩, 0, none, [], 0, 0, 0, 0, false, 0, 0, 0, 0)
def mN (m : Nat) : MethodName := (mE m).1
def mB (m : Nat) : ByteArray := (mE m).2.1
def mL (m : Nat) : Nat := (mE m).2.2.1
def mR (m : Nat) : Option FieldType := (mE m).2.2.2.1
def mH (m : Nat) : List (Nat × Nat × Nat × Nat) := (mE m).2.2.2.2.1
def mO (m : Nat) : Nat := (mE m).2.2.2.2.2.1
def mF (m : Nat) : Nat := (mE m).2.2.2.2.2.2.1
def mW (m : Nat) : Nat := (mE m).2.2.2.2.2.2.2.1
def mA (m : Nat) : Nat := (mE m).2.2.2.2.2.2.2.2.1
def mS (m : Nat) : Bool := (mE m).2.2.2.2.2.2.2.2.2.1
def mI4 (m : Nat) : Nat × Nat × Nat × Nat := (mE m).2.2.2.2.2.2.2.2.2.2
/-- a field: class, place, kind, nest or not -/
def fR (o i : Nat) : Option (Nat × Nat) := (fT.find? (fun e => e.1 == o && e.2.1 == i)).map (fun e => (e.2.2.1, e.2.2.2.1))
/-- a call: method, kind -/
def cR (o i : Nat) : Option (Nat × Nat) := (cT.find? (fun e => e.1 == o && e.2.1 == i)).map (fun e => (e.2.2.1, e.2.2.2.1))
def nR (o i : Nat) : Option Nat := (nT.find? (fun e => e.1 == o && e.2.1 == i)).map (fun e => e.2.2.1)
def kR (o i : Nat) : Option Int32 := (kT.find? (fun e => e.1 == o && e.2.1 == i)).map (fun e => e.2.2.1)
def lR (o i : Nat) : Option Int64 := (lT.find? (fun e => e.1 == o && e.2.1 == i)).map (fun e => e.2.2.1)
def sR (o i : Nat) : Bool := sT.any (fun e => e.1 == o && e.2.1 == i)
-- locals
def lget (ls : List Value) (i : Nat) : Option Value := match ls[i]? with
  | some v => if v = unk then none else some v
  | none => none
def lfix (ls : List Value) (i : Nat) : List Value := match i with
  | 0 => ls
  | j + 1 => ls.modify j fix1
def lset1 (ls : List Value) (i : Nat) (v : Value) : List Value := (lfix ls i).set i v
def lset2 (ls : List Value) (i : Nat) (v : Value) : List Value := ((lfix ls i).set i v).set (i + 1) unk
def entA : List Value → List Value
  | [] => []
  | v :: vs => if v.category = 2 then v :: unk :: entA vs else v :: entA vs
def ent (vs : List Value) (n : Nat) : List Value := entA vs ++ List.replicate (n - (entA vs).length) unk
-- instructions that touch nothing but locals and operands
abbrev A3 : Type := Nat × List Value × List Value
def aI2 (pc : Nat) (ls st : List Value) (f : Int32 → Int32 → Int32) : Option A3 := match st with
  | .int y :: .int x :: r => some (pc + 1, ls, .int (f x y) :: r)
  | _ => none
def aL2 (pc : Nat) (ls st : List Value) (f : Int64 → Int64 → Int64) : Option A3 := match st with
  | .long y :: .long x :: r => some (pc + 1, ls, .long (f x y) :: r)
  | _ => none
def aLS (pc : Nat) (ls st : List Value) (f : Int64 → Int32 → Int64) : Option A3 := match st with
  | .int y :: .long x :: r => some (pc + 1, ls, .long (f x y) :: r)
  | _ => none
def aLd (pc' : Nat) (ls st : List Value) (i : Nat) (q : Value → Bool) : Option A3 := match lget ls i with
  | some v => if q v then some (pc', ls, v :: st) else none
  | none => none
def isI (v : Value) : Bool := match v with | .int _ => true | _ => false
def isJ (v : Value) : Bool := match v with | .long _ => true | _ => false
def isD (v : Value) : Bool := match v with | .double _ => true | _ => false
def isA (v : Value) : Bool := match v with | .ref _ => true | .null => true | _ => false
def aSt (pc' : Nat) (ls st : List Value) (i : Nat) (q : Value → Bool) : Option A3 := match st with
  | v :: r => if q v ∧ i < ls.length then some (pc', lset1 ls i v, r) else none
  | _ => none
def aSt2 (pc' : Nat) (ls st : List Value) (i : Nat) (q : Value → Bool) : Option A3 := match st with
  | v :: r => if q v ∧ i + 1 < ls.length then some (pc', lset2 ls i v, r) else none
  | _ => none
def jmp (pc : Nat) (off : Int) (ls st : List Value) : Option A3 := if 0 ≤ (pc : Int) + off then some (((pc : Int) + off).toNat, ls, st) else none
def aIf (pc : Nat) (off : Int) (ls r : List Value) (b : Prop) (d : Decidable b) : Option A3 := if 0 ≤ (pc : Int) + off then (if b then some (((pc : Int) + off).toNat, ls, r) else some (pc + 3, ls, r)) else none
def i1 (pc : Nat) (off : Int) (ls st : List Value) (q : Int32 → Prop) (d : ∀ x, Decidable (q x)) : Option A3 := match st with
  | .int x :: r => aIf pc off ls r (q x) (d x)
  | _ => none
def i2 (pc : Nat) (off : Int) (ls st : List Value) (q : Int32 → Int32 → Prop) (d : ∀ x y, Decidable (q x y)) : Option A3 := match st with
  | .int y :: .int x :: r => aIf pc off ls r (q x y) (d x y)
  | _ => none
def stA (o pc : Nat) (i : Instr) (len : Nat) (ls st : List Value) : Option A3 := match i with
  | .aconst_null => if len = 1 then some (pc + 1, ls, .null :: st) else none
  | .iconst n => if len = 1 then some (pc + 1, ls, .int (Int32.ofInt n) :: st) else none
  | .bipush n => if len = 2 then some (pc + 2, ls, .int (Int8.ofInt n).toInt32 :: st) else none
  | .sipush n => if len = 3 then some (pc + 3, ls, .int (Int16.ofInt n).toInt32 :: st) else none
  | .lconst n => if len = 1 then some (pc + 1, ls, .long (Int64.ofNat (n : Nat)) :: st) else none
  | .dconst n => if len = 1 ∧ n = 0 then some (pc + 1, ls, .double FP.dconst0 :: st) else none
  | .ldc x => if len = 2 then (match kR o x with | some v => some (pc + 2, ls, .int v :: st) | none => none) else none
  | .ldc2_w x => if len = 3 then (match lR o x with | some v => some (pc + 3, ls, .long v :: st) | none => none) else none
  | .iload_n k => if len = 1 then aLd (pc + 1) ls st k isI else none
  | .iload k => if len = 2 then aLd (pc + 2) ls st k isI else none
  | .lload_n k => if len = 1 then aLd (pc + 1) ls st k isJ else none
  | .lload k => if len = 2 then aLd (pc + 2) ls st k isJ else none
  | .dload_n k => if len = 1 then aLd (pc + 1) ls st k isD else none
  | .dload k => if len = 2 then aLd (pc + 2) ls st k isD else none
  | .aload_n k => if len = 1 then aLd (pc + 1) ls st k isA else none
  | .aload k => if len = 2 then aLd (pc + 2) ls st k isA else none
  | .istore_n k => if len = 1 then aSt (pc + 1) ls st k isI else none
  | .istore k => if len = 2 then aSt (pc + 2) ls st k isI else none
  | .astore_n k => if len = 1 then aSt (pc + 1) ls st k isA else none
  | .astore k => if len = 2 then aSt (pc + 2) ls st k isA else none
  | .lstore_n k => if len = 1 then aSt2 (pc + 1) ls st k isJ else none
  | .lstore k => if len = 2 then aSt2 (pc + 2) ls st k isJ else none
  | .dstore k => if len = 2 then aSt2 (pc + 2) ls st k isD else none
  | .iinc k n => if len = 3 then (match lget ls k with | some (.int x) => some (pc + 3, lset1 ls k (.int (x + Int32.ofInt n)), st) | _ => none) else none
  | .iadd => if len = 1 then aI2 pc ls st (· + ·) else none
  | .isub => if len = 1 then aI2 pc ls st (· - ·) else none
  | .imul => if len = 1 then aI2 pc ls st (· * ·) else none
  | .iand => if len = 1 then aI2 pc ls st (· &&& ·) else none
  | .ior => if len = 1 then aI2 pc ls st (· ||| ·) else none
  | .ixor => if len = 1 then aI2 pc ls st (· ^^^ ·) else none
  | .ishl => if len = 1 then aI2 pc ls st (fun x y => x <<< (y &&& 31)) else none
  | .ishr => if len = 1 then aI2 pc ls st (fun x y => x >>> (y &&& 31)) else none
  | .idiv => if len = 1 then (match st with | .int y :: .int x :: r => if y = 0 then none else some (pc + 1, ls, .int (x / y) :: r) | _ => none) else none
  | .irem => if len = 1 then (match st with | .int y :: .int x :: r => if y = 0 then none else some (pc + 1, ls, .int (x - x / y * y) :: r) | _ => none) else none
  | .ladd => if len = 1 then aL2 pc ls st (· + ·) else none
  | .lmul => if len = 1 then aL2 pc ls st (· * ·) else none
  | .land => if len = 1 then aL2 pc ls st (· &&& ·) else none
  | .lor => if len = 1 then aL2 pc ls st (· ||| ·) else none
  | .lshl => if len = 1 then aLS pc ls st (fun x y => x <<< (y.toInt64 &&& 63)) else none
  | .lshr => if len = 1 then aLS pc ls st (fun x y => x >>> (y.toInt64 &&& 63)) else none
  | .lcmp => if len = 1 then (match st with | .long y :: .long x :: r => some (pc + 1, ls, .int (lg_cmp x y) :: r) | _ => none) else none
  | .i2l => if len = 1 then (match st with | .int x :: r => some (pc + 1, ls, .long x.toInt64 :: r) | _ => none) else none
  | .l2i => if len = 1 then (match st with | .long x :: r => some (pc + 1, ls, .int x.toInt32 :: r) | _ => none) else none
  | .i2d => if len = 1 then (match st with | .int x :: r => some (pc + 1, ls, .double (FP.i2d x) :: r) | _ => none) else none
  | .ddiv => if len = 1 then (match st with | .double y :: .double x :: r => if FP.ddiv x y &&& 0x7fffffffffffffff ≤ 0x7ff0000000000000 then some (pc + 1, ls, .double (FP.ddiv x y) :: r) else none | _ => none) else none
  | .dcmp op => if len = 1 then (match st with | .double y :: .double x :: r => some (pc + 1, ls, .int (Op.cmpValue (FP.dcmp x y) op) :: r) | _ => none) else none
  | .dup => if len = 1 then (match st with | v :: r => if v.category = 1 then some (pc + 1, ls, v :: v :: r) else none | _ => none) else none
  | .pop => if len = 1 then (match st with | v :: r => if v.category = 1 then some (pc + 1, ls, r) else none | _ => none) else none
  | .dup2 => if len = 1 then (match st with | v :: u :: r => if v.category = 1 ∧ u.category = 1 then some (pc + 1, ls, v :: u :: v :: u :: r) else none | _ => none) else none
  | .goto off => if len = 3 then jmp pc off ls st else none
  | .ifCond .eq off => if len = 3 then i1 pc off ls st (fun x => x = 0) (fun x => inferInstanceAs (Decidable (x = 0))) else none
  | .ifCond .ne off => if len = 3 then i1 pc off ls st (fun x => x ≠ 0) (fun x => inferInstanceAs (Decidable (x ≠ 0))) else none
  | .ifCond .lt off => if len = 3 then i1 pc off ls st (fun x => x < 0) (fun x => inferInstanceAs (Decidable (x < 0))) else none
  | .ifCond .ge off => if len = 3 then i1 pc off ls st (fun x => 0 ≤ x) (fun x => inferInstanceAs (Decidable (0 ≤ x))) else none
  | .ifCond .gt off => if len = 3 then i1 pc off ls st (fun x => 0 < x) (fun x => inferInstanceAs (Decidable (0 < x))) else none
  | .ifCond .le off => if len = 3 then i1 pc off ls st (fun x => x ≤ 0) (fun x => inferInstanceAs (Decidable (x ≤ 0))) else none
  | .if_icmp .eq off => if len = 3 then i2 pc off ls st (fun x y => x = y) (fun x y => inferInstanceAs (Decidable (x = y))) else none
  | .if_icmp .ne off => if len = 3 then i2 pc off ls st (fun x y => x ≠ y) (fun x y => inferInstanceAs (Decidable (x ≠ y))) else none
  | .if_icmp .lt off => if len = 3 then i2 pc off ls st (fun x y => x < y) (fun x y => inferInstanceAs (Decidable (x < y))) else none
  | .if_icmp .ge off => if len = 3 then i2 pc off ls st (fun x y => y ≤ x) (fun x y => inferInstanceAs (Decidable (y ≤ x))) else none
  | .if_icmp .gt off => if len = 3 then i2 pc off ls st (fun x y => y < x) (fun x y => inferInstanceAs (Decidable (y < x))) else none
  | .if_icmp .le off => if len = 3 then i2 pc off ls st (fun x y => x ≤ y) (fun x y => inferInstanceAs (Decidable (x ≤ y))) else none
  | .ifnull off => if len = 3 then (match st with | .null :: r => jmp pc off ls r | .ref _ :: r => some (pc + 3, ls, r) | _ => none) else none
  | .ifnonnull off => if len = 3 then (match st with | .ref _ :: r => jmp pc off ls r | .null :: r => some (pc + 3, ls, r) | _ => none) else none
  | .tableswitch dflt lo hi offs => (match st with
    | .int x :: r => if x.toInt < lo ∨ hi < x.toInt then jmp pc dflt ls r else (match offs[(x.toInt - lo).toNat]? with | some off => jmp pc off ls r | none => none)
    | _ => none)
  | .lookupswitch dflt ps => (match st with
    | .int x :: r => if (ps.toList.zip (ps.toList.drop 1)).all (fun (a, next) => a.1 < next.1) = true then jmp pc (Op.lookupswitch.offset ps.toList dflt x.toInt) ls r else none
    | _ => none)
  | _ => none
-- instructions that touch cells
abbrev M6 : Type := Nat × List Value × Wd × MI × ML × MP
def fv (I : MI) (L : ML) (P : MP) (t a k : Nat) : Value := match t with
  | 0 => .int (I a k)
  | 1 => .int (I a k &&& 1)
  | 2 => .long (L a k)
  | _ => va_rf (P a k)
def inB (x : Int32) (n : Nat) : Bool := !(decide (x < 0) || decide (n ≤ x.toNatClampNeg))
/-- may a final field be written here: in a constructor of its class -/
def finOk (m ci k : Nat) : Bool := !(tN_ ci k).2.2.2 || ((mN m).name == "<init>" && mO m == ci)
def putV (w : Wd) (I : MI) (L : ML) (P : MP) (t a k : Nat) (v : Value) : Option (MI × ML × MP) := match t, v with
  | 0, .int x => some (updI I a k x, L, P)
  | 1, .int x => if x &&& 1 = x then some (updI I a k x, L, P) else none
  | 2, .long x => some (I, updL L a k x, P)
  | 3, .ref q => some (I, L, updP P a k (some q))
  | 3, .null => some (I, L, updP P a k none)
  | _, _ => none
def stM (m pc : Nat) (i : Instr) (len : Nat) (st : List Value) (w : Wd) (I : MI) (L : ML) (P : MP) : Option M6 := match i with
  | .getfield x => if len = 3 then (match st with
    | .ref a :: r => (match fR (mO m) x with
      | some (ci, k) => if w.1 a = some (ci, 0) then some (pc + 3, fv I L P (fK ci k) a k :: r, w, I, L, P) else none
      | none => none)
    | _ => none) else none
  | .putfield x => if len = 3 then (match st with
    | v :: .ref a :: r => (match fR (mO m) x with
      | some (ci, k) => if w.1 a = some (ci, 0) ∧ finOk m ci k = true then (match putV w I L P (fK ci k) a k v with
        | some (I', L', P') => some (pc + 3, r, w, I', L', P')
        | none => none) else none
      | none => none)
    | _ => none) else none
  | .iaload => if len = 1 then (match st with
    | .int x :: .ref a :: r => (match w.1 a with
      | some (k, n) => if (k = 8 ∨ k = 14) ∧ inB x n = true then some (pc + 1, .int (I a x.toNatClampNeg) :: r, w, I, L, P) else none
      | none => none)
    | _ => none) else none
  | .laload => if len = 1 then (match st with
    | .int x :: .ref a :: r => (match w.1 a with
      | some (k, n) => if k = 9 ∧ inB x n = true then some (pc + 1, .long (L a x.toNatClampNeg) :: r, w, I, L, P) else none
      | none => none)
    | _ => none) else none
  | .aaload => if len = 1 then (match st with
    | .int x :: .ref a :: r => (match w.1 a with
      | some (k, n) => if (10 ≤ k ∧ k < 14) ∧ inB x n = true then some (pc + 1, va_rf (P a x.toNatClampNeg) :: r, w, I, L, P) else none
      | none => none)
    | _ => none) else none
  | .iastore => if len = 1 then (match st with
    | .int v :: .int x :: .ref a :: r => (match w.1 a with
      | some (k, n) => if k = 8 ∧ inB x n = true then some (pc + 1, r, w, updI I a x.toNatClampNeg v, L, P) else none
      | none => none)
    | _ => none) else none
  | .lastore => if len = 1 then (match st with
    | .long v :: .int x :: .ref a :: r => (match w.1 a with
      | some (k, n) => if k = 9 ∧ inB x n = true then some (pc + 1, r, w, I, updL L a x.toNatClampNeg v, P) else none
      | none => none)
    | _ => none) else none
  | .aastore => if len = 1 then (match st with
    | .ref v :: .int x :: .ref a :: r => (match w.1 a with
      | some (k, n) => if (10 ≤ k ∧ k < 14) ∧ w.1 v = some (k - 10, 0) ∧ inB x n = true then some (pc + 1, r, w, I, L, updP P a x.toNatClampNeg (some v)) else none
      | none => none)
    | _ => none) else none
  | .arraylength => if len = 1 then (match st with
    | .ref a :: r => (match w.1 a with
      | some (k, n) => if 8 ≤ k ∧ k < 15 then some (pc + 1, .int (Int32.ofNat n) :: r, w, I, L, P) else none
      | none => none)
    | _ => none) else none
  | .new x => if len = 3 then (match nR (mO m) x, w.2.1 with
    | some ci, some q => if ci < 8 then some (pc + 3, .ref q :: st, newT w q ci 0 (nF ci), rowI I q, rowL L q, rowP P q) else none
    | _, _ => none) else none
  | .newarray .int => if len = 2 then (match st, w.2.1 with
    | .int n :: r, some q => if ¬ n < 0 ∧ n.toNatClampNeg ≤ 65536 then some (pc + 2, .ref q :: r, newT w q 8 n.toNatClampNeg n.toNatClampNeg, rowI I q, L, P) else none
    | _, _ => none) else none
  | .newarray .long => if len = 2 then (match st, w.2.1 with
    | .int n :: r, some q => if ¬ n < 0 ∧ n.toNatClampNeg ≤ 65536 then some (pc + 2, .ref q :: r, newT w q 9 n.toNatClampNeg n.toNatClampNeg, I, rowL L q, P) else none
    | _, _ => none) else none
  | .anewarray x => if len = 3 then (match nR (mO m) x, st, w.2.1 with
    | some ci, .int n :: r, some q => if ci < 4 ∧ ¬ n < 0 ∧ n.toNatClampNeg ≤ 65536 then some (pc + 3, .ref q :: r, newT w q (10 + ci) n.toNatClampNeg n.toNatClampNeg, I, L, rowP P q) else none
    | _, _, _ => none) else none
  | .invokespecial x => if len = 3 then (match cR (mO m) x, st with
    | some (_, 7), .ref a :: r => if 1 ≤ mF m ∧ 2 * r.length + 12 ≤ mW m then some (pc + 3, r, w, I, L, P) else none
    | _, _ => none) else none
  | .invokestatic x => if len = 3 then (match cR (mO m) x, st with
    | some (_, 8), .int y :: .int x :: r => if 1 ≤ mF m ∧ 2 * r.length + 13 ≤ mW m then some (pc + 3, .int (if y < x then y else x) :: r, w, I, L, P) else none
    | some (_, 9), .int n :: .int dp :: .ref a1 :: .int sp :: .ref a0 :: r => (match w.1 a0, w.1 a1 with
      | some (8, n0), some (8, n1) => if 1 ≤ mF m ∧ 2 * r.length + 18 ≤ mW m ∧ ¬ sp < 0 ∧ ¬ dp < 0 ∧ ¬ n < 0 ∧ sp.toNatClampNeg + n.toNatClampNeg ≤ n0 ∧ dp.toNatClampNeg + n.toNatClampNeg ≤ n1 then
          some (pc + 3, r, w, cpyI I a0 sp.toNatClampNeg a1 dp.toNatClampNeg n.toNatClampNeg, L, P) else none
      | _, _ => none)
    | _, _ => none) else none
  | _ => none
/-- a call: the method, its arguments (the receiver first), the rest; the room that it wants -/
def cls1 (m y : Nat) (st : List Value) (w : Wd) (virt : Bool) : Option Cl :=
  let n := if mS y then mA y else mA y + 1
  let as := (st.take n).reverse
  let r := st.drop n
  if as.length = n ∧ mF y + 1 ≤ mF m ∧ 8 + (mL y + 11) + mW y ≤ mW m ∧ 2 * r.length ≤ 8 ∧ (entA as).length ≤ mL y ∧ y < mTab.length then
    (match mS y, as with
    | true, _ => some (y, as, r)
    | false, .ref b :: _ => if virt = false ∨ w.1 b = some (mO y, 0) then some (y, as, r) else none
    | _, _ => none)
  else none
def stC (m : Nat) (i : Instr) (len : Nat) (st : List Value) (w : Wd) : Option Cl := match i with
  | .invokevirtual x => if len = 3 then (match cR (mO m) x with
    | some (y, 0) => if mS y = false then cls1 m y st w true else none
    | some (y, 1) => if mS y = false then cls1 m y st w true else none
    | _ => none) else none
  | .invokespecial x => if len = 3 then (match cR (mO m) x with
    | some (y, 5) => if mS y = false then cls1 m y st w false else none
    | some (y, 6) => if mS y = false then cls1 m y st w false else none
    | _ => none) else none
  | .invokestatic x => if len = 3 then (match cR (mO m) x with
    | some (y, 2) => if mS y = true then cls1 m y st w false else none
    | some (y, 3) => if mS y = true then cls1 m y st w false else none
    | some (y, 4) => if mS y = true then cls1 m y st w false else none
    | _ => none) else none
  | _ => none
/-- an end -/
def stR (m : Nat) (i : Instr) (len : Nat) (st : List Value) : Option (Option Value) := match i with
  | .return_ => if len = 1 ∧ st = [] ∧ mR m = none then some none else none
  | .ireturn => if len = 1 then (match st with
    | [.int x] => if mR m = some .int ∨ (mR m = some .boolean ∧ x &&& 1 = x) then some (some (.int x)) else none
    | _ => none) else none
  | .lreturn => if len = 1 then (match st with | [.long x] => if mR m = some .long then some (some (.long x)) else none | _ => none) else none
  | .dreturn => if len = 1 then (match st with | [.double x] => if mR m = some .double then some (some (.double x)) else none | _ => none) else none
  | .areturn => if len = 1 then (match st with
    | [.ref a] => (match mR m with | some (.object _) => some (some (.ref a)) | _ => none)
    | [.null] => (match mR m with | some (.object _) => some (some .null) | _ => none)
    | _ => none) else none
  | _ => none
/-- 'throw new E("text")' -/
def stT (m pc : Nat) (i : Instr) (len : Nat) (st : List Value) : Option Nat := match i with
  | .new x => (match nR (mO m) x, decode (mB m) (pc + 3), decode (mB m) (pc + 4), decode (mB m) (pc + 6), decode (mB m) (pc + 9) with
    | some e, .ok (.dup, 1), .ok (.ldc s, 2), .ok (.invokespecial y, 3), .ok (.athrow, 1) =>
      if len = 3 ∧ 100 ≤ e ∧ e < 103 ∧ sR (mO m) s = true ∧ mH m = [] ∧ mO m = 6 ∧ y = (if e = 100 then 110 else if e = 101 then 67 else 149) ∧ 6 ≤ mF m ∧ 2 * st.length + 82 ≤ mW m then some (e - 100) else none
    | _, _, _, _, _ => none)
  | _ => none
def stp (m pc : Nat) (ls st : List Value) (w : Wd) (I : MI) (L : ML) (P : MP) : Option SR := match decode (mB m) pc with
  | .error _ => none
  | .ok (i, len) => (match stA (mO m) pc i len ls st with
    | some (pc', ls', st') => some (.inl (pc', ls', st', w, I, L, P))
    | none => (match stM m pc i len st w I L P with
      | some (pc', st', w', I', L', P') => some (.inl (pc', ls, st', w', I', L', P'))
      | none => (match stC m i len st w with
        | some c => some (.inr (.inr c))
        | none => (match stR m i len st with
          | some v => some (.inr (.inl (.inl v, w, I, L, P)))
          | none => (match stT m pc i len st with
            | some e => some (.inr (.inl (.inr e, thrT w, I, L, P)))
            | none => none)))))
/-- who catches e at pc: where it goes on behind the store of the exception, and in which local that lies -/
def hnd (m pc e : Nat) : Option (Nat × Nat) := match (mH m).find? (fun h => decide (h.1 ≤ pc) && decide (pc < h.2.1) && nR (mO m) h.2.2.2 == some (100 + e)) with
  | some h => (match decode (mB m) h.2.2.1 with
    | .ok (.astore_n k, 1) => some (h.2.2.1 + 1, k)
    | .ok (.astore k, 2) => some (h.2.2.1 + 2, k)
    | _ => none)
  | none => none
def exec : Nat → Nat → Nat → List Value → List Value → Wd → MI → ML → MP → Option Rs
  | 0, _, _, _, _, _, _, _, _ => none
  | n + 1, m, pc, ls, st, w, I, L, P => match stp m pc ls st w I L P with
    | none => none
    | some (.inl (pc', ls', st', w', I', L', P')) => exec n m pc' ls' st' w' I' L' P'
    | some (.inr (.inl r)) => some r
    | some (.inr (.inr (y, as, r))) => (match exec n y 0 (ent as (mL y)) [] w I L P with
      | none => none
      | some (.inl v, w', I', L', P') => exec n m (pc + 3) ls (v.toList ++ r) w' I' L' P'
      | some (.inr e, w', I', L', P') => (match mH m with
        | [] => some (.inr e, w', I', L', P')
        | _ :: _ => (match hnd m pc e with
          | some (pc', k) => if k < ls.length then exec n m pc' (lset1 ls k unk) [] w' I' L' P' else none
          | none => none)))
end
section
theorem ite_some_iff {α : Type} {c : Prop} {h : Decidable c} {a : Option α} {b : α} : (@ite _ c h a none) = some b → c ∧ a = some b := by
  intro e
  by_cases hc : c
  · rw [if_pos hc] at e; exact ⟨hc, e⟩
  · rw [if_neg hc] at e; cases e
-- the locals
def asc (ls : List Value) : List (Nat × Value) := (List.range ls.length).filterMap (fun j => (lget ls j).map (fun v => (j, v)))
theorem lget_lt {ls : List Value} {j : Nat} {v : Value} (h : lget ls j = some v) : j < ls.length := by
  unfold lget at h
  cases hj : ls[j]? with
  | none => rw [hj] at h; cases h
  | some u => exact (List.getElem?_eq_some_iff.mp hj).1
theorem mem_asc {ls : List Value} {j : Nat} {v : Value} : (j, v) ∈ asc ls ↔ lget ls j = some v := by
  unfold asc
  rw [List.mem_filterMap]
  constructor
  · rintro ⟨a, -, ha⟩
    cases hl : lget ls a with
    | none => rw [hl] at ha; cases ha
    | some u =>
      rw [hl] at ha
      have h2 := Option.some.inj ha
      cases h2
      exact hl
  · intro h
    exact ⟨j, List.mem_range.mpr (lget_lt h), by rw [h]; rfl⟩
def lvr (ls : List Value) (lsM : Array Slot) (nL : Nat) : Prop := lv_has lsM nL (asc ls) ∧ ls.length = nL
theorem lvr_get {ls : List Value} {lsM : Array Slot} {nL i : Nat} {v : Value} (h : lvr ls lsM nL) (hg : lget ls i = some v) : lsM[i]? = some (.val v) := h.1.2.2 (i, v) (mem_asc.mpr hg)
theorem lfix_len (ls : List Value) (i : Nat) : (lfix ls i).length = ls.length := by
  cases i <;> simp [lfix]
theorem lset1_len (ls : List Value) (i : Nat) (v : Value) : (lset1 ls i v).length = ls.length := by simp [lset1, lfix_len]
theorem lset2_len (ls : List Value) (i : Nat) (v : Value) : (lset2 ls i v).length = ls.length := by simp [lset2, lfix_len]
theorem lget_some {ls : List Value} {j : Nat} {u : Value} (h : lget ls j = some u) : ls[j]? = some u ∧ u ≠ unk := by
  unfold lget at h
  cases hj : ls[j]? with
  | none => rw [hj] at h; cases h
  | some x =>
    rw [hj] at h
    by_cases hx : x = unk
    · simp [hx] at h
    · simp only [if_neg hx] at h
      cases h
      exact ⟨rfl, hx⟩
theorem lget_of {ls : List Value} {j : Nat} {u : Value} (h : ls[j]? = some u) (hu : u ≠ unk) : lget ls j = some u := by
  unfold lget
  rw [h]
  simp [hu]
theorem fix1_some {u x : Value} (h : fix1 x = u) (hu : u ≠ unk) : x = u ∧ ¬ u.category = 2 := by
  unfold fix1 at h
  by_cases hc : x.category = 2
  · rw [if_pos hc] at h; exact absurd h.symm hu
  · rw [if_neg hc] at h; subst h; exact ⟨rfl, hc⟩
theorem lfix_get {ls : List Value} {i j : Nat} {u : Value} (h : (lfix ls i)[j]? = some u) (hu : u ≠ unk) : ls[j]? = some u ∧ ¬ (j + 1 = i ∧ u.category = 2) := by
  cases i with
  | zero => exact ⟨h, fun q => by omega⟩
  | succ k =>
    simp only [lfix] at h
    by_cases hj : k = j
    · subst hj
      rw [List.getElem?_modify_eq] at h
      cases hk : ls[k]? with
      | none => rw [hk] at h; cases h
      | some x =>
        rw [hk] at h
        have h1 : fix1 x = u := Option.some.inj h
        obtain ⟨h2, h3⟩ := fix1_some h1 hu
        exact ⟨by rw [h2], fun q => h3 q.2⟩
    · simp only [List.getElem?_modify, if_neg hj, Option.map_eq_map, Option.map_id_fun', id_eq] at h
      exact ⟨h, fun q => hj (by omega)⟩
theorem lget_lset1 {ls : List Value} {i j : Nat} {v u : Value} (h : lget (lset1 ls i v) j = some u) : (j = i ∧ u = v) ∨ (j ≠ i ∧ lget ls j = some u ∧ ¬ (j + 1 = i ∧ u.category = 2)) := by
  obtain ⟨h1, hu⟩ := lget_some h
  unfold lset1 at h1
  by_cases hj : i = j
  · subst hj
    rw [List.getElem?_set] at h1
    simp only [if_true] at h1
    split at h1
    · cases h1; exact Or.inl ⟨rfl, rfl⟩
    · cases h1
  · rw [List.getElem?_set_ne hj] at h1
    obtain ⟨h2, h3⟩ := lfix_get h1 hu
    exact Or.inr ⟨fun q => hj q.symm, lget_of h2 hu, h3⟩
theorem lget_lset2 {ls : List Value} {i j : Nat} {v u : Value} (h : lget (lset2 ls i v) j = some u) : (j = i ∧ u = v) ∨ (j ≠ i ∧ j ≠ i + 1 ∧ lget ls j = some u ∧ ¬ (j + 1 = i ∧ u.category = 2)) := by
  obtain ⟨h1, hu⟩ := lget_some h
  unfold lset2 at h1
  by_cases hj2 : i + 1 = j
  · subst hj2
    rw [List.getElem?_set] at h1
    simp only [if_true] at h1
    split at h1
    · cases h1; exact absurd rfl hu
    · cases h1
  · rw [List.getElem?_set_ne hj2] at h1
    have hg : lget (lset1 ls i v) j = some u := lget_of h1 hu
    rcases lget_lset1 hg with q | ⟨q1, q2, q3⟩
    · exact Or.inl q
    · exact Or.inr ⟨q1, fun z => hj2 z.symm, q2, q3⟩
theorem lvr_of1 {ls : List Value} {ls0 ls' : Array Slot} {nL i : Nat} {v v' : Value} (h : lvr ls ls0 nL) (hv : v = v' ∨ v = unk) (h' : lv_has ls' nL ((i, v') :: (asc ls).filter (fun q => !(q.1 == i) && !(q.1 + 1 == i && q.2.category == 2)))) : lvr (lset1 ls i v) ls' nL := by
  refine ⟨⟨h'.1, h'.2.1, fun q hq => ?_⟩, by rw [lset1_len]; exact h.2⟩
  obtain ⟨j, u⟩ := q
  have hg := mem_asc.mp hq
  rcases lget_lset1 hg with ⟨rfl, rfl⟩ | ⟨q1, q2, q3⟩
  · rcases hv with rfl | rfl
    · exact h'.2.2 _ List.mem_cons_self
    · exact absurd rfl (lget_some hg).2
  · refine h'.2.2 (j, u) (List.mem_cons_of_mem _ (List.mem_filter.mpr ⟨mem_asc.mpr q2, ?_⟩))
    simp only [Bool.and_eq_true, Bool.not_eq_true', beq_eq_false_iff_ne, ne_eq, Bool.and_eq_false_iff]
    refine ⟨q1, ?_⟩
    by_cases hz : j + 1 = i
    · exact Or.inr (fun z => q3 ⟨hz, z⟩)
    · exact Or.inl hz
theorem lvr_of2 {ls : List Value} {ls0 ls' : Array Slot} {nL i : Nat} {v : Value} (h : lvr ls ls0 nL) (h' : lv_has ls' nL ((i, v) :: (asc ls).filter (fun q => !(q.1 == i) && (!(q.1 == i + 1) && !(q.1 + 1 == i && q.2.category == 2))))) : lvr (lset2 ls i v) ls' nL := by
  refine ⟨⟨h'.1, h'.2.1, fun q hq => ?_⟩, by rw [lset2_len]; exact h.2⟩
  obtain ⟨j, u⟩ := q
  have hg := mem_asc.mp hq
  rcases lget_lset2 hg with ⟨rfl, rfl⟩ | ⟨q1, q4, q2, q3⟩
  · exact h'.2.2 _ List.mem_cons_self
  · refine h'.2.2 (j, u) (List.mem_cons_of_mem _ (List.mem_filter.mpr ⟨mem_asc.mpr q2, ?_⟩))
    simp only [Bool.and_eq_true, Bool.not_eq_true', beq_eq_false_iff_ne, ne_eq, Bool.and_eq_false_iff]
    refine ⟨q1, q4, ?_⟩
    by_cases hz : j + 1 = i
    · exact Or.inr (fun z => q3 ⟨hz, z⟩)
    · exact Or.inl hz
-- inversions
theorem isI_inv {v : Value} (h : isI v = true) : ∃ x, v = .int x := by cases v <;> simp [isI] at h; exact ⟨_, rfl⟩
theorem isJ_inv {v : Value} (h : isJ v = true) : ∃ x, v = .long x := by cases v <;> simp [isJ] at h; exact ⟨_, rfl⟩
theorem isD_inv {v : Value} (h : isD v = true) : ∃ x, v = .double x := by cases v <;> simp [isD] at h; exact ⟨_, rfl⟩
theorem isA_inv {v : Value} (h : isA v = true) : (∃ a, v = .ref a) ∨ v = .null := by
  cases v <;> simp [isA] at h
  · exact Or.inr rfl
  · exact Or.inl ⟨_, rfl⟩
theorem aI2_inv {pc : Nat} {ls st : List Value} {f : Int32 → Int32 → Int32} {n : A3} (h : aI2 pc ls st f = some n) : ∃ x y r, st = .int y :: .int x :: r ∧ n = (pc + 1, ls, .int (f x y) :: r) := by
  unfold aI2 at h; split at h
  · exact ⟨_, _, _, rfl, (Option.some.inj h).symm⟩
  · cases h
theorem aL2_inv {pc : Nat} {ls st : List Value} {f : Int64 → Int64 → Int64} {n : A3} (h : aL2 pc ls st f = some n) : ∃ x y r, st = .long y :: .long x :: r ∧ n = (pc + 1, ls, .long (f x y) :: r) := by
  unfold aL2 at h; split at h
  · exact ⟨_, _, _, rfl, (Option.some.inj h).symm⟩
  · cases h
theorem aLS_inv {pc : Nat} {ls st : List Value} {f : Int64 → Int32 → Int64} {n : A3} (h : aLS pc ls st f = some n) : ∃ x y r, st = .int y :: .long x :: r ∧ n = (pc + 1, ls, .long (f x y) :: r) := by
  unfold aLS at h; split at h
  · exact ⟨_, _, _, rfl, (Option.some.inj h).symm⟩
  · cases h
theorem aLd_inv {pc' i : Nat} {ls st : List Value} {q : Value → Bool} {n : A3} (h : aLd pc' ls st i q = some n) : ∃ v, lget ls i = some v ∧ q v = true ∧ n = (pc', ls, v :: st) := by
  unfold aLd at h; split at h
  · next v hv =>
    replace h := ite_some_iff h; obtain ⟨h1, h2⟩ := h
    exact ⟨v, hv, h1, (Option.some.inj h2).symm⟩
  · cases h
theorem aSt_inv {pc' i : Nat} {ls st : List Value} {q : Value → Bool} {n : A3} (h : aSt pc' ls st i q = some n) : ∃ v r, st = v :: r ∧ q v = true ∧ i < ls.length ∧ n = (pc', lset1 ls i v, r) := by
  unfold aSt at h; split at h
  · replace h := ite_some_iff h; obtain ⟨h1, h2⟩ := h
    exact ⟨_, _, rfl, h1.1, h1.2, (Option.some.inj h2).symm⟩
  · cases h
theorem aSt2_inv {pc' i : Nat} {ls st : List Value} {q : Value → Bool} {n : A3} (h : aSt2 pc' ls st i q = some n) : ∃ v r, st = v :: r ∧ q v = true ∧ i + 1 < ls.length ∧ n = (pc', lset2 ls i v, r) := by
  unfold aSt2 at h; split at h
  · replace h := ite_some_iff h; obtain ⟨h1, h2⟩ := h
    exact ⟨_, _, rfl, h1.1, h1.2, (Option.some.inj h2).symm⟩
  · cases h
theorem jmp_inv {pc : Nat} {off : Int} {ls st : List Value} {n : A3} (h : jmp pc off ls st = some n) : ∃ t : Nat, (pc : Int) + off = (t : Int) ∧ n = (t, ls, st) := by
  unfold jmp at h
  replace h := ite_some_iff h; obtain ⟨h1, h2⟩ := h
  exact ⟨((pc : Int) + off).toNat, by omega, (Option.some.inj h2).symm⟩
theorem aIf_inv {pc : Nat} {off : Int} {ls r : List Value} {b : Prop} {d : Decidable b} {n : A3} (h : aIf pc off ls r b d = some n) : ∃ t : Nat, (pc : Int) + off = (t : Int) ∧ ((b ∧ n = (t, ls, r)) ∨ (¬ b ∧ n = (pc + 3, ls, r))) := by
  unfold aIf at h
  replace h := ite_some_iff h; obtain ⟨h1, h⟩ := h
  refine ⟨((pc : Int) + off).toNat, by omega, ?_⟩
  by_cases hb : b
  · rw [if_pos hb] at h; exact Or.inl ⟨hb, (Option.some.inj h).symm⟩
  · rw [if_neg hb] at h; exact Or.inr ⟨hb, (Option.some.inj h).symm⟩
theorem i1_inv {pc : Nat} {off : Int} {ls st : List Value} {q : Int32 → Prop} {d : ∀ x, Decidable (q x)} {n : A3} (h : i1 pc off ls st q d = some n) : ∃ x r, st = .int x :: r ∧ aIf pc off ls r (q x) (d x) = some n := by
  unfold i1 at h; split at h
  · exact ⟨_, _, rfl, h⟩
  · cases h
theorem i2_inv {pc : Nat} {off : Int} {ls st : List Value} {q : Int32 → Int32 → Prop} {d : ∀ x y, Decidable (q x y)} {n : A3} (h : i2 pc off ls st q d = some n) : ∃ x y r, st = .int y :: .int x :: r ∧ aIf pc off ls r (q x y) (d x y) = some n := by
  unfold i2 at h; split at h
  · exact ⟨_, _, _, rfl, h⟩
  · cases h
theorem find_map_inv {α β : Type} {l : List α} {p : α → Bool} {f : α → β} {b : β} (h : (l.find? p).map f = some b) : ∃ a ∈ l, p a = true ∧ f a = b := by
  cases hf : l.find? p with
  | none => rw [hf] at h; cases h
  | some a =>
    rw [hf] at h
    exact ⟨a, List.mem_of_find?_eq_some hf, List.find?_some hf, Option.some.inj h⟩
theorem kT_ok : ∀ e ∈ kT, lw_tbl[e.2.2.2]? = some (.constant (oN e.1) e.2.1 e.2.2.1) := by decide +kernel
theorem lT_ok : ∀ e ∈ lT, lw_tbl[e.2.2.2]? = some (.constantLong (oN e.1) e.2.1 e.2.2.1) := by decide +kernel
theorem key_inv {a b o i : Nat} (h : (a == o && b == i) = true) : a = o ∧ b = i := by
  simp only [Bool.and_eq_true, beq_iff_eq] at h; exact h
theorem kR_ok {o i : Nat} {v : Int32} (h : kR o i = some v) : Cond.constant (oN o) i v ∈ lw_tbl := by
  obtain ⟨e, he, hp, rfl⟩ := find_map_inv h
  obtain ⟨rfl, rfl⟩ := key_inv hp
  exact List.mem_of_getElem? (kT_ok e he)
theorem lR_ok {o i : Nat} {v : Int64} (h : lR o i = some v) : Cond.constantLong (oN o) i v ∈ lw_tbl := by
  obtain ⟨e, he, hp, rfl⟩ := find_map_inv h
  obtain ⟨rfl, rfl⟩ := key_inv hp
  exact List.mem_of_getElem? (lT_ok e he)
section SA
variable {p : Program} {l : Launch} {e : Env} {R : Room} {s : State} {m : MethodId} {args : Array Value} {below : List Frame} {meth : Method} {c : Code} {H : Heap} {locs : List Loc} {cells slots : Nat} {Q : State → Prop}
variable {cc : ByteArray} {pc : Nat} {lsM : Array Slot}
set_option maxHeartbeats 4000000 in
theorem simA (hx : p.tables.exec = Jvm.exec) (hb : c.code = cc) {o : Nat} (hown : s.vm.findClass (oN o) = some m.cls) (hG : ∀ w ∈ lw_tbl, goodWord w = true → w.before args s = true) {i : Instr} {len nL : Nat} (hd : decode cc pc = .ok (i, len))
    {ls st : List Value} (hl : lvr ls lsM nL) {n : A3} (h : stA o pc i len ls st = some n)
    (k : ∀ lsM' : Array Slot, lvr n.2.1 lsM' nL → W p l e R s m args below meth c H locs cells slots Q (F0 m n.1 lsM' n.2.2)) : W p l e R s m args below meth c H locs cells slots Q (F0 m pc lsM st) := by
  have hlen := hl.2
  cases i with
  | aconst_null => simp only [stA] at h; replace h := ite_some_iff h; obtain ⟨rfl, h⟩ := h; cases h; exact lv_null hx hb hd (k _ hl)
  | iconst z => simp only [stA] at h; replace h := ite_some_iff h; obtain ⟨rfl, h⟩ := h; cases h; exact lv_iconst hx hb hd rfl (k _ hl)
  | bipush z => simp only [stA] at h; replace h := ite_some_iff h; obtain ⟨rfl, h⟩ := h; cases h; exact lv_bipush hx hb hd rfl (k _ hl)
  | sipush z => simp only [stA] at h; replace h := ite_some_iff h; obtain ⟨rfl, h⟩ := h; cases h; exact lv_sipush hx hb hd rfl (k _ hl)
  | lconst z => simp only [stA] at h; replace h := ite_some_iff h; obtain ⟨rfl, h⟩ := h; cases h; exact lv_lconst hx hb hd rfl (k _ hl)
  | dconst z => simp only [stA] at h; replace h := ite_some_iff h; obtain ⟨⟨rfl, rfl⟩, h⟩ := h; cases h; exact lv_dconst0 hx hb hd (k _ hl)
  | ldc x =>
    simp only [stA] at h; replace h := ite_some_iff h; obtain ⟨rfl, h⟩ := h
    cases hk : kR o x with
    | none => simp [hk] at h
    | some v => simp only [hk] at h; cases h; exact lv_ldc hx hb hown (hG _ (kR_ok hk) rfl) hd (k _ hl)
  | ldc2_w x =>
    simp only [stA] at h; replace h := ite_some_iff h; obtain ⟨rfl, h⟩ := h
    cases hk : lR o x with
    | none => simp [hk] at h
    | some v => simp only [hk] at h; cases h; exact lv_ldc2 hx hb hown (hG _ (lR_ok hk) rfl) hd (k _ hl)
  | iload_n j => simp only [stA] at h; replace h := ite_some_iff h; obtain ⟨rfl, h⟩ := h; obtain ⟨v, h1, h2, rfl⟩ := aLd_inv h; obtain ⟨x, rfl⟩ := isI_inv h2; exact lv_iload_n hx hb hd rfl (lvr_get hl h1) (k _ hl)
  | iload j => simp only [stA] at h; replace h := ite_some_iff h; obtain ⟨rfl, h⟩ := h; obtain ⟨v, h1, h2, rfl⟩ := aLd_inv h; obtain ⟨x, rfl⟩ := isI_inv h2; exact lv_iload hx hb hd (lvr_get hl h1) (k _ hl)
  | lload_n j => simp only [stA] at h; replace h := ite_some_iff h; obtain ⟨rfl, h⟩ := h; obtain ⟨v, h1, h2, rfl⟩ := aLd_inv h; obtain ⟨x, rfl⟩ := isJ_inv h2; exact lv_lload_n hx hb hd rfl (lvr_get hl h1) (k _ hl)
  | lload j => simp only [stA] at h; replace h := ite_some_iff h; obtain ⟨rfl, h⟩ := h; obtain ⟨v, h1, h2, rfl⟩ := aLd_inv h; obtain ⟨x, rfl⟩ := isJ_inv h2; exact lv_lload hx hb hd (lvr_get hl h1) (k _ hl)
  | dload_n j => simp only [stA] at h; replace h := ite_some_iff h; obtain ⟨rfl, h⟩ := h; obtain ⟨v, h1, h2, rfl⟩ := aLd_inv h; obtain ⟨x, rfl⟩ := isD_inv h2; exact lv_dload_n hx hb hd rfl (lvr_get hl h1) (k _ hl)
  | dload j => simp only [stA] at h; replace h := ite_some_iff h; obtain ⟨rfl, h⟩ := h; obtain ⟨v, h1, h2, rfl⟩ := aLd_inv h; obtain ⟨x, rfl⟩ := isD_inv h2; exact lv_dload hx hb hd (lvr_get hl h1) (k _ hl)
  | aload_n j =>
    simp only [stA] at h; replace h := ite_some_iff h; obtain ⟨rfl, h⟩ := h; obtain ⟨v, h1, h2, rfl⟩ := aLd_inv h
    rcases isA_inv h2 with ⟨x, rfl⟩ | rfl
    · exact lv_aload_n hx hb hd rfl (lvr_get hl h1) (k _ hl)
    · exact lv_aload_nN hx hb hd rfl (lvr_get hl h1) (k _ hl)
  | aload j =>
    simp only [stA] at h; replace h := ite_some_iff h; obtain ⟨rfl, h⟩ := h; obtain ⟨v, h1, h2, rfl⟩ := aLd_inv h
    rcases isA_inv h2 with ⟨x, rfl⟩ | rfl
    · exact lv_aload hx hb hd (lvr_get hl h1) (k _ hl)
    · exact lv_aloadN hx hb hd (lvr_get hl h1) (k _ hl)
  | istore_n j => simp only [stA] at h; replace h := ite_some_iff h; obtain ⟨rfl, h⟩ := h; obtain ⟨v, r, rfl, h2, h3, rfl⟩ := aSt_inv h; obtain ⟨x, rfl⟩ := isI_inv h2; exact lv_istore_n hx hb hd rfl hl.1 (by omega) rfl (fun q hq => k _ (lvr_of1 hl (Or.inl rfl) hq))
  | istore j => simp only [stA] at h; replace h := ite_some_iff h; obtain ⟨rfl, h⟩ := h; obtain ⟨v, r, rfl, h2, h3, rfl⟩ := aSt_inv h; obtain ⟨x, rfl⟩ := isI_inv h2; exact lv_istore hx hb hd hl.1 (by omega) rfl (fun q hq => k _ (lvr_of1 hl (Or.inl rfl) hq))
  | astore_n j =>
    simp only [stA] at h; replace h := ite_some_iff h; obtain ⟨rfl, h⟩ := h; obtain ⟨v, r, rfl, h2, h3, rfl⟩ := aSt_inv h
    rcases isA_inv h2 with ⟨x, rfl⟩ | rfl
    · exact lv_astore_n hx hb hd rfl hl.1 (by omega) rfl (fun q hq => k _ (lvr_of1 hl (Or.inl rfl) hq))
    · exact lv_astore_nN hx hb hd rfl hl.1 (by omega) rfl (fun q hq => k _ (lvr_of1 hl (Or.inl rfl) hq))
  | astore j =>
    simp only [stA] at h; replace h := ite_some_iff h; obtain ⟨rfl, h⟩ := h; obtain ⟨v, r, rfl, h2, h3, rfl⟩ := aSt_inv h
    rcases isA_inv h2 with ⟨x, rfl⟩ | rfl
    · exact lv_astore hx hb hd hl.1 (by omega) rfl (fun q hq => k _ (lvr_of1 hl (Or.inl rfl) hq))
    · exact lv_astoreN hx hb hd hl.1 (by omega) rfl (fun q hq => k _ (lvr_of1 hl (Or.inl rfl) hq))
  | lstore_n j => simp only [stA] at h; replace h := ite_some_iff h; obtain ⟨rfl, h⟩ := h; obtain ⟨v, r, rfl, h2, h3, rfl⟩ := aSt2_inv h; obtain ⟨x, rfl⟩ := isJ_inv h2; exact lv_lstore_n hx hb hd rfl hl.1 (by omega) rfl (fun q hq => k _ (lvr_of2 hl hq))
  | lstore j => simp only [stA] at h; replace h := ite_some_iff h; obtain ⟨rfl, h⟩ := h; obtain ⟨v, r, rfl, h2, h3, rfl⟩ := aSt2_inv h; obtain ⟨x, rfl⟩ := isJ_inv h2; exact lv_lstore hx hb hd hl.1 (by omega) rfl (fun q hq => k _ (lvr_of2 hl hq))
  | dstore j => simp only [stA] at h; replace h := ite_some_iff h; obtain ⟨rfl, h⟩ := h; obtain ⟨v, r, rfl, h2, h3, rfl⟩ := aSt2_inv h; obtain ⟨x, rfl⟩ := isD_inv h2; exact lv_dstore hx hb hd hl.1 (by omega) rfl (fun q hq => k _ (lvr_of2 hl hq))
  | iinc j z =>
    simp only [stA] at h; replace h := ite_some_iff h; obtain ⟨rfl, h⟩ := h
    split at h
    · next x hg =>
      cases h
      obtain ⟨i0, hi0⟩ := List.getElem?_of_mem (mem_asc.mpr hg)
      exact lv_iinc hx hb hd hl.1 hi0 rfl (by have := lget_lt hg; omega) rfl (fun q hq => k _ (lvr_of1 hl (Or.inl rfl) hq))
    · cases h
  | iadd => simp only [stA] at h; replace h := ite_some_iff h; obtain ⟨rfl, h⟩ := h; obtain ⟨x, y, r, rfl, rfl⟩ := aI2_inv h; exact lv_iadd hx hb hd (k _ hl)
  | isub => simp only [stA] at h; replace h := ite_some_iff h; obtain ⟨rfl, h⟩ := h; obtain ⟨x, y, r, rfl, rfl⟩ := aI2_inv h; exact lv_isub hx hb hd (k _ hl)
  | imul => simp only [stA] at h; replace h := ite_some_iff h; obtain ⟨rfl, h⟩ := h; obtain ⟨x, y, r, rfl, rfl⟩ := aI2_inv h; exact lv_imul hx hb hd (k _ hl)
  | iand => simp only [stA] at h; replace h := ite_some_iff h; obtain ⟨rfl, h⟩ := h; obtain ⟨x, y, r, rfl, rfl⟩ := aI2_inv h; exact lv_iand hx hb hd (k _ hl)
  | ior => simp only [stA] at h; replace h := ite_some_iff h; obtain ⟨rfl, h⟩ := h; obtain ⟨x, y, r, rfl, rfl⟩ := aI2_inv h; exact lv_ior hx hb hd (k _ hl)
  | ixor => simp only [stA] at h; replace h := ite_some_iff h; obtain ⟨rfl, h⟩ := h; obtain ⟨x, y, r, rfl, rfl⟩ := aI2_inv h; exact lv_ixor hx hb hd (k _ hl)
  | ishl => simp only [stA] at h; replace h := ite_some_iff h; obtain ⟨rfl, h⟩ := h; obtain ⟨x, y, r, rfl, rfl⟩ := aI2_inv h; exact lv_ishl hx hb hd (k _ hl)
  | ishr => simp only [stA] at h; replace h := ite_some_iff h; obtain ⟨rfl, h⟩ := h; obtain ⟨x, y, r, rfl, rfl⟩ := aI2_inv h; exact lv_ishr hx hb hd (k _ hl)
  | idiv =>
    simp only [stA] at h; replace h := ite_some_iff h; obtain ⟨rfl, h⟩ := h
    split at h
    · next y x r =>
      by_cases hy : y = 0
      · rw [if_pos hy] at h; cases h
      · rw [if_neg hy] at h; cases h; exact lv_idiv hx hb hd hy (k _ hl)
    · cases h
  | irem =>
    simp only [stA] at h; replace h := ite_some_iff h; obtain ⟨rfl, h⟩ := h
    split at h
    · next y x r =>
      by_cases hy : y = 0
      · rw [if_pos hy] at h; cases h
      · rw [if_neg hy] at h; cases h; exact lv_irem hx hb hd hy (k _ hl)
    · cases h
  | ladd => simp only [stA] at h; replace h := ite_some_iff h; obtain ⟨rfl, h⟩ := h; obtain ⟨x, y, r, rfl, rfl⟩ := aL2_inv h; exact lv_ladd hx hb hd (k _ hl)
  | lmul => simp only [stA] at h; replace h := ite_some_iff h; obtain ⟨rfl, h⟩ := h; obtain ⟨x, y, r, rfl, rfl⟩ := aL2_inv h; exact lv_lmul hx hb hd (k _ hl)
  | land => simp only [stA] at h; replace h := ite_some_iff h; obtain ⟨rfl, h⟩ := h; obtain ⟨x, y, r, rfl, rfl⟩ := aL2_inv h; exact lv_land hx hb hd (k _ hl)
  | lor => simp only [stA] at h; replace h := ite_some_iff h; obtain ⟨rfl, h⟩ := h; obtain ⟨x, y, r, rfl, rfl⟩ := aL2_inv h; exact lv_lor hx hb hd (k _ hl)
  | lshl => simp only [stA] at h; replace h := ite_some_iff h; obtain ⟨rfl, h⟩ := h; obtain ⟨x, y, r, rfl, rfl⟩ := aLS_inv h; exact lv_lshl hx hb hd rfl (k _ hl)
  | lshr => simp only [stA] at h; replace h := ite_some_iff h; obtain ⟨rfl, h⟩ := h; obtain ⟨x, y, r, rfl, rfl⟩ := aLS_inv h; exact lv_lshr hx hb hd rfl (k _ hl)
  | lcmp =>
    simp only [stA] at h; replace h := ite_some_iff h; obtain ⟨rfl, h⟩ := h
    split at h
    · cases h; exact W.lcmp hx hb hd (k _ hl)
    · cases h
  | i2l =>
    simp only [stA] at h; replace h := ite_some_iff h; obtain ⟨rfl, h⟩ := h
    split at h
    · cases h; exact lv_i2l hx hb hd rfl (k _ hl)
    · cases h
  | l2i =>
    simp only [stA] at h; replace h := ite_some_iff h; obtain ⟨rfl, h⟩ := h
    split at h
    · cases h; exact lv_l2i hx hb hd rfl (k _ hl)
    · cases h
  | i2d =>
    simp only [stA] at h; replace h := ite_some_iff h; obtain ⟨rfl, h⟩ := h
    split at h
    · cases h; exact lv_i2d hx hb hd (k _ hl)
    · cases h
  | ddiv =>
    simp only [stA] at h; replace h := ite_some_iff h; obtain ⟨rfl, h⟩ := h
    split at h
    · replace h := ite_some_iff h; obtain ⟨h1, h⟩ := h; cases h; exact lv_ddiv hx hb hd h1 (k _ hl)
    · cases h
  | dcmp op =>
    simp only [stA] at h; replace h := ite_some_iff h; obtain ⟨rfl, h⟩ := h
    split at h
    · cases h; exact lv_dcmp hx hb hd (k _ hl)
    · cases h
  | dup =>
    simp only [stA] at h; replace h := ite_some_iff h; obtain ⟨rfl, h⟩ := h
    split at h
    · replace h := ite_some_iff h; obtain ⟨h1, h⟩ := h; cases h; exact lv_dup hx hb hd h1 (k _ hl)
    · cases h
  | pop =>
    simp only [stA] at h; replace h := ite_some_iff h; obtain ⟨rfl, h⟩ := h
    split at h
    · replace h := ite_some_iff h; obtain ⟨h1, h⟩ := h; cases h; exact lv_pop hx hb hd h1 (k _ hl)
    · cases h
  | dup2 =>
    simp only [stA] at h; replace h := ite_some_iff h; obtain ⟨rfl, h⟩ := h
    split at h
    · replace h := ite_some_iff h; obtain ⟨h1, h⟩ := h; cases h; exact lv_dup2_11 hx hb hd h1.1 h1.2 (k _ hl)
    · cases h
  | goto off => simp only [stA] at h; replace h := ite_some_iff h; obtain ⟨rfl, h⟩ := h; obtain ⟨t, ht, rfl⟩ := jmp_inv h; exact lv_goto hx hb hd ht (k _ hl)
  | ifCond cnd off =>
    cases cnd with
    | eq => simp only [stA] at h; replace h := ite_some_iff h; obtain ⟨rfl, h⟩ := h; obtain ⟨x, r, rfl, h⟩ := i1_inv h; obtain ⟨t, ht, h⟩ := aIf_inv h; exact lv_if_eq hx hb hd ht (fun z => by rcases h with ⟨hq, rfl⟩ | ⟨hq, rfl⟩ <;> first | exact (hq z).elim | exact k _ hl) (fun z => by rcases h with ⟨hq, rfl⟩ | ⟨hq, rfl⟩ <;> first | exact (z hq).elim | exact (hq z).elim | exact k _ hl)
    | ne => simp only [stA] at h; replace h := ite_some_iff h; obtain ⟨rfl, h⟩ := h; obtain ⟨x, r, rfl, h⟩ := i1_inv h; obtain ⟨t, ht, h⟩ := aIf_inv h; exact lv_if_ne hx hb hd ht (fun z => by rcases h with ⟨hq, rfl⟩ | ⟨hq, rfl⟩ <;> first | exact (hq z).elim | exact k _ hl) (fun z => by rcases h with ⟨hq, rfl⟩ | ⟨hq, rfl⟩ <;> first | exact (z hq).elim | exact (hq z).elim | exact k _ hl)
    | lt => simp only [stA] at h; replace h := ite_some_iff h; obtain ⟨rfl, h⟩ := h; obtain ⟨x, r, rfl, h⟩ := i1_inv h; obtain ⟨t, ht, h⟩ := aIf_inv h; exact lv_if_lt hx hb hd ht (fun z => by rcases h with ⟨hq, rfl⟩ | ⟨hq, rfl⟩ <;> first | exact (hq z).elim | exact k _ hl) (fun z => by rcases h with ⟨hq, rfl⟩ | ⟨hq, rfl⟩ <;> first | exact (z hq).elim | exact (hq z).elim | exact k _ hl)
    | ge => simp only [stA] at h; replace h := ite_some_iff h; obtain ⟨rfl, h⟩ := h; obtain ⟨x, r, rfl, h⟩ := i1_inv h; obtain ⟨t, ht, h⟩ := aIf_inv h; exact lv_if_ge hx hb hd ht (fun z => by rcases h with ⟨hq, rfl⟩ | ⟨hq, rfl⟩ <;> first | exact (hq z).elim | exact k _ hl) (fun z => by rcases h with ⟨hq, rfl⟩ | ⟨hq, rfl⟩ <;> first | exact (z hq).elim | exact (hq z).elim | exact k _ hl)
    | gt => simp only [stA] at h; replace h := ite_some_iff h; obtain ⟨rfl, h⟩ := h; obtain ⟨x, r, rfl, h⟩ := i1_inv h; obtain ⟨t, ht, h⟩ := aIf_inv h; exact lv_if_gt hx hb hd ht (fun z => by rcases h with ⟨hq, rfl⟩ | ⟨hq, rfl⟩ <;> first | exact (hq z).elim | exact k _ hl) (fun z => by rcases h with ⟨hq, rfl⟩ | ⟨hq, rfl⟩ <;> first | exact (z hq).elim | exact (hq z).elim | exact k _ hl)
    | le => simp only [stA] at h; replace h := ite_some_iff h; obtain ⟨rfl, h⟩ := h; obtain ⟨x, r, rfl, h⟩ := i1_inv h; obtain ⟨t, ht, h⟩ := aIf_inv h; exact lv_if_le hx hb hd ht (fun z => by rcases h with ⟨hq, rfl⟩ | ⟨hq, rfl⟩ <;> first | exact (hq z).elim | exact k _ hl) (fun z => by rcases h with ⟨hq, rfl⟩ | ⟨hq, rfl⟩ <;> first | exact (z hq).elim | exact (hq z).elim | exact k _ hl)
  | if_icmp cnd off =>
    cases cnd with
    | eq => simp only [stA] at h; replace h := ite_some_iff h; obtain ⟨rfl, h⟩ := h; obtain ⟨x, y, r, rfl, h⟩ := i2_inv h; obtain ⟨t, ht, h⟩ := aIf_inv h; exact lv_icmp_eq hx hb hd ht (fun z => by rcases h with ⟨hq, rfl⟩ | ⟨hq, rfl⟩ <;> first | exact (hq z).elim | exact k _ hl) (fun z => by rcases h with ⟨hq, rfl⟩ | ⟨hq, rfl⟩ <;> first | exact (z hq).elim | exact (hq z).elim | exact k _ hl)
    | ne => simp only [stA] at h; replace h := ite_some_iff h; obtain ⟨rfl, h⟩ := h; obtain ⟨x, y, r, rfl, h⟩ := i2_inv h; obtain ⟨t, ht, h⟩ := aIf_inv h; exact lv_icmp_ne hx hb hd ht (fun z => by rcases h with ⟨hq, rfl⟩ | ⟨hq, rfl⟩ <;> first | exact (hq z).elim | exact k _ hl) (fun z => by rcases h with ⟨hq, rfl⟩ | ⟨hq, rfl⟩ <;> first | exact (z hq).elim | exact (hq z).elim | exact k _ hl)
    | lt => simp only [stA] at h; replace h := ite_some_iff h; obtain ⟨rfl, h⟩ := h; obtain ⟨x, y, r, rfl, h⟩ := i2_inv h; obtain ⟨t, ht, h⟩ := aIf_inv h; exact lv_icmp_lt hx hb hd ht (fun z => by rcases h with ⟨hq, rfl⟩ | ⟨hq, rfl⟩ <;> first | exact (hq z).elim | exact k _ hl) (fun z => by rcases h with ⟨hq, rfl⟩ | ⟨hq, rfl⟩ <;> first | exact (z hq).elim | exact (hq z).elim | exact k _ hl)
    | ge => simp only [stA] at h; replace h := ite_some_iff h; obtain ⟨rfl, h⟩ := h; obtain ⟨x, y, r, rfl, h⟩ := i2_inv h; obtain ⟨t, ht, h⟩ := aIf_inv h; exact lv_icmp_ge hx hb hd ht (fun z => by rcases h with ⟨hq, rfl⟩ | ⟨hq, rfl⟩ <;> first | exact (hq z).elim | exact k _ hl) (fun z => by rcases h with ⟨hq, rfl⟩ | ⟨hq, rfl⟩ <;> first | exact (z hq).elim | exact (hq z).elim | exact k _ hl)
    | gt => simp only [stA] at h; replace h := ite_some_iff h; obtain ⟨rfl, h⟩ := h; obtain ⟨x, y, r, rfl, h⟩ := i2_inv h; obtain ⟨t, ht, h⟩ := aIf_inv h; exact lv_icmp_gt hx hb hd ht (fun z => by rcases h with ⟨hq, rfl⟩ | ⟨hq, rfl⟩ <;> first | exact (hq z).elim | exact k _ hl) (fun z => by rcases h with ⟨hq, rfl⟩ | ⟨hq, rfl⟩ <;> first | exact (z hq).elim | exact (hq z).elim | exact k _ hl)
    | le => simp only [stA] at h; replace h := ite_some_iff h; obtain ⟨rfl, h⟩ := h; obtain ⟨x, y, r, rfl, h⟩ := i2_inv h; obtain ⟨t, ht, h⟩ := aIf_inv h; exact lv_icmp_le hx hb hd ht (fun z => by rcases h with ⟨hq, rfl⟩ | ⟨hq, rfl⟩ <;> first | exact (hq z).elim | exact k _ hl) (fun z => by rcases h with ⟨hq, rfl⟩ | ⟨hq, rfl⟩ <;> first | exact (z hq).elim | exact (hq z).elim | exact k _ hl)
  | ifnull off =>
    simp only [stA] at h; replace h := ite_some_iff h; obtain ⟨rfl, h⟩ := h
    split at h
    · obtain ⟨t, ht, rfl⟩ := jmp_inv h; exact lv_ifnullN hx hb hd ht (k _ hl)
    · cases h; exact lv_ifnull hx hb hd (k _ hl)
    · cases h
  | ifnonnull off =>
    simp only [stA] at h; replace h := ite_some_iff h; obtain ⟨rfl, h⟩ := h
    split at h
    · obtain ⟨t, ht, rfl⟩ := jmp_inv h; exact lv_ifnonnull hx hb hd ht (k _ hl)
    · cases h; exact lv_ifnonnullN hx hb hd (k _ hl)
    · cases h
  | tableswitch dflt lo hi offs =>
    simp only [stA] at h
    split at h
    · next x r =>
      by_cases hq : x.toInt < lo ∨ hi < x.toInt
      · rw [if_pos hq] at h; obtain ⟨t, ht, rfl⟩ := jmp_inv h; exact lv_tableOut hx hb hd hq ht (k _ hl)
      · rw [if_neg hq] at h
        split at h
        · next off ho => obtain ⟨t, ht, rfl⟩ := jmp_inv h; exact lv_tableIn hx hb hd (fun z => hq (Or.inl z)) (fun z => hq (Or.inr z)) ho ht (k _ hl)
        · cases h
    · cases h
  | lookupswitch dflt ps =>
    simp only [stA] at h
    split at h
    · next x r => replace h := ite_some_iff h; obtain ⟨hp, h⟩ := h; obtain ⟨t, ht, rfl⟩ := jmp_inv h; exact lv_lookup hx hb hd hp rfl ht (k _ hl)
    · cases h
  | _ => simp only [stA] at h; cases h
end SA
end
section
-- the cells that the plain machine's rows stand for
def tysL (cy : Nat → ClassId) : List (ClassId × FieldType) := [(cy 8, .int), (cy 9, .long), (cy 10, .object RX0), (cy 11, .object RX1), (cy 12, .object RX2), (cy 13, .object RX3)]
def fsOf (I : MI) (L : ML) (P : MP) (ci a : Nat) : List Value := (List.range (nF ci)).map (fun j => fv I L P (fK ci j) a j)
def cellE (cy : Nat → ClassId) (w : Wd) (I : MI) (L : ML) (P : MP) (a : Nat) : va_E := match w.1 a with
  | some (k, n) => if k < 8 then .inr (k, fsOf I L P k a) else if k = 8 then .inl (cy 8, n, .inl (I a)) else if k = 9 then .inl (cy 9, n, .inr (.inl (L a))) else .inl (cy k, n, .inr (.inr (.inr (.inr (P a)))))
  | none => .inl (0, 0, .inl (I a))
def wA (B : Nat) : Nat → Prop := fun q => B ≤ q
def Hp (D : va_G) (cy : Nat → ClassId) (B : Nat) (s : State) (H : Heap) (w : Wd) (I : MI) (L : ML) (P : MP) : Prop :=
  (∀ a k n, w.1 a = some (k, n) → k < 15) ∧ (∀ a k n, w.1 a = some (k, n) → k < 14 → va_at D vwCl (a, cellE cy w I L P a) H ∧ B ≤ a) ∧
  (∀ a n, w.1 a = some (14, n) → va_X a n (I a) s H ∧ a < B) ∧ (∀ q, w.2.1 = some q → q = H.size) ∧ B ≤ H.size ∧
  vx_Zq Bundle.tN "UNASSIGNED_STACK" Bundle.steD (wA B) s H ∧ vx_Zq Bundle.tN "SUPPRESSED_SENTINEL" Bundle.listD (wA B) s H
theorem one_P {D : va_G} {cl : List vw_C} {q : Nat × va_E} {H : Heap} (h : va_at D cl q H) : va_P D cl [q] H := by
  intro k z hz
  cases k with
  | zero => cases hz; exact h
  | succ k => cases hz
def goodL : List Cond := lw_tbl.filter goodWord
theorem uws_ok : ∀ ci, ci < 8 → ∀ w ∈ u_ws (oN ci) (tN_ ci) (nF ci), w ∈ goodL := by decide +kernel
theorem vw_ok : ∀ ci, ci < 8 → vwCl[ci]? = some (oN ci, tN_ ci, nF ci) := by
  intro ci h
  have h9 : ci = 0 ∨ ci = 1 ∨ ci = 2 ∨ ci = 3 ∨ ci = 4 ∨ ci = 5 ∨ ci = 6 ∨ ci = 7 := by omega
  rcases h9 with rfl | rfl | rfl | rfl | rfl | rfl | rfl | rfl <;> rfl
def tyN : Nat → Nat → FieldType := fun k => match k with | 0 => tyX0 | 1 => tyX1 | 2 => tyX2 | 3 => tyX3 | 4 => tyX4 | 5 => tyX5 | 6 => tyX6 | _ => tyX7
theorem tyN_ok : ∀ ci, ci < 8 → ∀ k, k < nF ci → parseFieldDescriptor (tN_ ci k).2.2.1 = some (tyN ci k) := by
  intro ci h
  have h9 : ci = 0 ∨ ci = 1 ∨ ci = 2 ∨ ci = 3 ∨ ci = 4 ∨ ci = 5 ∨ ci = 6 ∨ ci = 7 := by omega
  rcases h9 with rfl | rfl | rfl | rfl | rfl | rfl | rfl | rfl
  · exact tyX0_ok
  · exact tyX1_ok
  · exact tyX2_ok
  · exact tyX3_ok
  · exact tyX4_ok
  · exact tyX5_ok
  · exact tyX6_ok
  · exact tyX7_ok
theorem nm_ok : ∀ ci, ci < 8 → ∀ a, a < nF ci → ∀ b, b < nF ci → a ≠ b → (tN_ ci a).2.1 ≠ (tN_ ci b).2.1 := by
  intro ci h
  have h9 : ci = 0 ∨ ci = 1 ∨ ci = 2 ∨ ci = 3 ∨ ci = 4 ∨ ci = 5 ∨ ci = 6 ∨ ci = 7 := by omega
  rcases h9 with rfl | rfl | rfl | rfl | rfl | rfl | rfl | rfl
  · exact nmX0
  · exact nmX1
  · exact nmX2
  · exact nmX3
  · exact nmX4
  · exact nmX5
  · exact nmX6
  · exact nmX7
def ktyOf : FieldType → Nat
  | .int => 0
  | .boolean => 1
  | .long => 2
  | .object _ => 3
  | .array _ => 3
  | _ => 9
theorem kty_ok : ∀ ci, ci < 8 → ∀ k, k < nF ci → ktyOf (tyN ci k) = fK ci k := by decide +kernel
theorem own_ok : ∀ ci, ci < 8 → ∀ k, k < nF ci → (tN_ ci k).1 = oN ci := by decide +kernel
def fWord (e : Nat × Nat × Nat × Nat × Nat × Bool) : Cond := if e.2.2.2.2.2 = true then .fieldLinkNest (oN e.1) e.2.1 (tN_ e.2.2.1 e.2.2.2.1).1 (tN_ e.2.2.1 e.2.2.2.1).2.1 (tN_ e.2.2.1 e.2.2.2.1).2.2.1 "TwoWires" else .fieldLink (oN e.1) e.2.1 (tN_ e.2.2.1 e.2.2.2.1).1 (tN_ e.2.2.1 e.2.2.2.1).2.1 (tN_ e.2.2.1 e.2.2.2.1).2.2.1
theorem fT_ok : ∀ e ∈ fT, e.2.2.1 < 8 ∧ e.2.2.2.1 < nF e.2.2.1 ∧ (e.2.2.2.2.2 = true → e.1 ≠ e.2.2.1) ∧ lw_tbl[e.2.2.2.2.1]? = some (fWord e) := by decide +kernel
/-- what a field's row of the tables says -/
theorem fR_ok {o i ci k : Nat} (h : fR o i = some (ci, k)) : ci < 8 ∧ k < nF ci ∧ ((o ≠ ci ∧ Cond.fieldLinkNest (oN o) i (tN_ ci k).1 (tN_ ci k).2.1 (tN_ ci k).2.2.1 "TwoWires" ∈ lw_tbl) ∨ Cond.fieldLink (oN o) i (tN_ ci k).1 (tN_ ci k).2.1 (tN_ ci k).2.2.1 ∈ lw_tbl) := by
  obtain ⟨e, he, hp, hv⟩ := find_map_inv h
  obtain ⟨rfl, rfl⟩ := key_inv hp
  obtain ⟨h1, h2, h3, h4⟩ := fT_ok e he
  obtain ⟨e1, e2, e3, e4, e5, e6⟩ := e
  cases hv
  refine ⟨h1, h2, ?_⟩
  cases e6 with
  | true => exact Or.inl ⟨h3 rfl, List.mem_of_getElem? h4⟩
  | false => exact Or.inr (List.mem_of_getElem? h4)
def isNest (w : Cond) : Bool := match w with | .fieldLinkNest .. => true | .methodLinkNest .. => true | .declares _ => true | _ => false
/-- what stays as long as the tables stay: the classes' places, the words that only tables tell -/
def Sf (D : va_G) (cy : Nat → ClassId) (s : State) : Prop :=
  va_K D vwCl (tysL cy) s ∧ (∀ w ∈ lw_tbl, isNest w = true → va_Nw w s) ∧ (∀ ci, ci < 4 → va_AO (oN ci) s) ∧
  (∀ x ∈ sT, ∃ a, vk_R (oN x.1) x.2.1 x.2.2.1 a s) ∧ (∀ i, i < 3 → ∀ j, j < 3 → if i = j then va_Nw (.castable (eN i) (eN j)) s else va_Nc (eN i) (eN j) s)
theorem fsOf_get {I : MI} {L : ML} {P : MP} {ci a k : Nat} (h : k < nF ci) : (fsOf I L P ci a)[k]? = some (fv I L P (fK ci k) a k) := by
  simp [fsOf, h]
theorem fsOf_len {I : MI} {L : ML} {P : MP} {ci a : Nat} : (fsOf I L P ci a).length = nF ci := by simp [fsOf]
theorem cellE_obj {cy : Nat → ClassId} {w : Wd} {I : MI} {L : ML} {P : MP} {a ci n : Nat} (h : w.1 a = some (ci, n)) (h8 : ci < 8) : cellE cy w I L P a = .inr (ci, fsOf I L P ci a) := by
  unfold cellE; rw [h]; simp [h8]
theorem cellE_int {cy : Nat → ClassId} {w : Wd} {I : MI} {L : ML} {P : MP} {a n : Nat} (h : w.1 a = some (8, n)) : cellE cy w I L P a = .inl (cy 8, n, .inl (I a)) := by
  unfold cellE; rw [h]; simp
theorem cellE_long {cy : Nat → ClassId} {w : Wd} {I : MI} {L : ML} {P : MP} {a n : Nat} (h : w.1 a = some (9, n)) : cellE cy w I L P a = .inl (cy 9, n, .inr (.inl (L a))) := by
  unfold cellE; rw [h]; simp
theorem cellE_ref {cy : Nat → ClassId} {w : Wd} {I : MI} {L : ML} {P : MP} {a n k : Nat} (h : w.1 a = some (k, n)) (h1 : 10 ≤ k) : cellE cy w I L P a = .inl (cy k, n, .inr (.inr (.inr (.inr (P a))))) := by
  unfold cellE; rw [h]
  have a1 : ¬ k < 8 := by omega
  have a2 : ¬ k = 8 := by omega
  have a3 : ¬ k = 9 := by omega
  simp [a1, a2, a3]
theorem tys_at {cy : Nat → ClassId} {k : Nat} (h1 : 10 ≤ k) (h2 : k < 14) : (tysL cy)[k - 8]? = some (cy k, .object (oN (k - 10))) := by
  have h9 : k = 10 ∨ k = 11 ∨ k = 12 ∨ k = 13 := by omega
  rcases h9 with rfl | rfl | rfl | rfl <;> rfl
theorem inB_in {x : Int32} {n : Nat} (h : inB x n = true) : vp_in x n := by
  unfold inB at h; unfold vp_in
  simpa using h
theorem and1 (x : Int32) (h : x &&& 1 = x) : x = 0 ∨ x = 1 := by
  have h1 : x.toBitVec &&& 1#32 = x.toBitVec := by
    have := congrArg Int32.toBitVec h
    simpa using this
  have h2 : x.toBitVec.toNat % 2 = x.toBitVec.toNat := by
    have h3 := congrArg BitVec.toNat h1
    rw [BitVec.toNat_and] at h3
    have h4 : (1#32).toNat = 1 := rfl
    rw [h4, Nat.and_one_is_mod] at h3
    exact h3
  have h5 : x.toBitVec.toNat = 0 ∨ x.toBitVec.toNat = 1 := by omega
  rcases h5 with h5 | h5
  · left
    apply Int32.toBitVec_inj.mp
    apply BitVec.eq_of_toNat_eq
    rw [h5]; rfl
  · right
    apply Int32.toBitVec_inj.mp
    apply BitVec.eq_of_toNat_eq
    rw [h5]; rfl
/-- the heap with one cell written anew -/
theorem Hp_put {D : va_G} {cy : Nat → ClassId} {B : Nat} {s : State} {H H1 : Heap} {w : Wd} {I I' : MI} {L L' : ML} {P P' : MP} (h : Hp D cy B s H w I L P) {a k n : Nat} (ha : w.1 a = some (k, n)) (hk : k < 14) (hz : H1.size = H.size) (oq : ∀ q : Nat, q ≠ a → H1[q]? = H[q]?)
    (hat : va_at D vwCl (a, cellE cy w I' L' P' a) H1) (hI : ∀ b, b ≠ a → I' b = I b) (hL : ∀ b, b ≠ a → L' b = L b) (hP : ∀ b, b ≠ a → P' b = P b) : Hp D cy B s H1 w I' L' P' := by
  obtain ⟨g0, g1, g2, g3, g4, g5, g6⟩ := h
  have hBa : B ≤ a := (g1 a k n ha hk).2
  have kp : ∀ q : Nat, q < H.size → ¬ wA B q → H1[q]? = H[q]? := fun q _ hq => oq q (fun z => hq (by rw [z]; exact hBa))
  refine ⟨g0, fun b k2 n2 hb hk2 => ?_, fun b n2 hb => ?_, fun q hq => by rw [hz]; exact g3 q hq, by rw [hz]; exact g4, g5.kept kp, g6.kept kp⟩
  · by_cases hba : b = a
    · subst hba; exact ⟨hat, hBa⟩
    · obtain ⟨q1, q2⟩ := g1 b k2 n2 hb hk2
      refine ⟨?_, q2⟩
      have e : cellE cy w I' L' P' b = cellE cy w I L P b := by
        unfold cellE
        rw [hb]
        simp only [fsOf, fv, hI b hba, hL b hba, hP b hba]
      rw [e]
      exact q1.kept (oq b hba)
  · have hba : b ≠ a := fun z => by rw [z, ha] at hb; cases hb; omega
    obtain ⟨q1, q2⟩ := g2 b n2 hb
    refine ⟨?_, q2⟩
    rw [hI b hba]
    exact q1.kept (oq b hba)
theorem Hp_push {D : va_G} {cy : Nat → ClassId} {B : Nat} {s : State} {H H1 : Heap} {w : Wd} {I I' : MI} {L L' : ML} {P P' : MP} {q k n sl : Nat} (h : Hp D cy B s H w I L P) (hq : q = H.size) (hk : k < 14) (hz : H1.size = H.size + 1) (oq : ∀ z : Nat, z < H.size → H1[z]? = H[z]?)
    (hat : va_at D vwCl (q, cellE cy (newT w q k n sl) I' L' P' q) H1) (hI : ∀ b, b ≠ q → I' b = I b) (hL : ∀ b, b ≠ q → L' b = L b) (hP : ∀ b, b ≠ q → P' b = P b) : Hp D cy B s H1 (newT w q k n sl) I' L' P' := by
  obtain ⟨g0, g1, g2, g3, g4, g5, g6⟩ := h
  have kp : ∀ z : Nat, z < H.size → ¬ wA B z → H1[z]? = H[z]? := fun z hz _ => oq z hz
  refine ⟨fun b k2 n2 hb => ?_, fun b k2 n2 hb hk2 => ?_, fun b n2 hb => ?_, fun z hz2 => ?_, by omega, g5.kept kp, g6.kept kp⟩
  · by_cases hbq : b = q
    · simp [newT, hbq] at hb; omega
    · simp [newT, hbq] at hb; exact g0 b k2 n2 hb
  · by_cases hbq : b = q
    · subst hbq; exact ⟨hat, by omega⟩
    · have hb' : w.1 b = some (k2, n2) := by simpa [newT, hbq] using hb
      obtain ⟨q1, q2⟩ := g1 b k2 n2 hb' hk2
      refine ⟨?_, q2⟩
      have e : cellE cy (newT w q k n sl) I' L' P' b = cellE cy w I L P b := by
        unfold cellE
        rw [hb, hb']
        simp only [fsOf, fv, hI b hbq, hL b hbq, hP b hbq]
      rw [e]
      exact q1.kept (oq b q1.lt)
  · by_cases hbq : b = q
    · simp [newT, hbq] at hb; omega
    · have hb' : w.1 b = some (14, n2) := by simpa [newT, hbq] using hb
      obtain ⟨q1, q2⟩ := g2 b n2 hb'
      refine ⟨?_, q2⟩
      rw [hI b hbq]
      exact q1.kept (oq b (by omega))
  · simp [newT] at hz2; omega
section XP
variable {p : Program} {l : Launch} {e : Env} {R : Room} {s : State} {m : MethodId} {args : Array Value} {below : List Frame} {meth : Method} {c : Code} {H : Heap} {locs : List Loc} {cells slots : Nat} {Q : State → Prop}
variable {cc : ByteArray} {pc : Nat} {ls : Array Slot} {rest : List Value} {D : va_G} {cl : List vw_C} {a : Nat} {tys : List (ClassId × FieldType)}
/-- putfield, the cell behind it (these follow va_put, va_putF, va_putN and their sisters of the kit, with the heap's size kept in the words) -/
theorem x_put (hexec : p.tables.exec = Jvm.exec) (hb : c.code = cc) {own ref C : String} {T : u_T} {N ci index : Nat} {Ts : List Cond} (hts : ∀ w ∈ Ts, w.before args s = true) (hin : ∀ w ∈ u_ws C T N, w ∈ Ts) (ty0 : Nat → FieldType) (hty : ∀ k, k < N → parseFieldDescriptor (T k).2.2.1 = some (ty0 k)) (hnm : ∀ a, a < N → ∀ b, b < N → a ≠ b → (T a).2.1 ≠ (T b).2.1) (hown : s.vm.findClass own = some m.cls) (hK : va_K D cl tys s) {fs : List Value} (hP : va_at D cl (a, .inr (ci, fs)) H) (hc : cl[ci]? = some (C, T, N)) (k : Nat) (hk : k < N) (hlink : (Cond.fieldLink own index ref (T k).2.1 (T k).2.2.1).before args s = true) (hsame : ∀ x, s.fieldFound? (T k).1 (T k).2.1 (T k).2.2.1 = some x → s.fieldFound? ref (T k).2.1 (T k).2.2.1 = some x) (hfin : (T k).2.2.2 = false) {ty : FieldType} {v : Value} (hd : parseFieldDescriptor (T k).2.2.1 = some ty) (hn : narrow ty v = v) (hfit : fits ty v = true) (hl : k < fs.length)
    (hdg : decode cc pc = .ok (.putfield index, 3)) (kk : ∀ (H1 : Heap) (j : Nat), va_at D cl (a, .inr (ci, fs.set k v)) H1 → H1.size = H.size → (∀ q : Nat, q ≠ a → H1[q]? = H[q]?) → W p l e R s m args below meth c H1 (locs ++ [⟨a, j⟩]) cells slots Q (F0 m (pc + 3) ls rest)) : W p l e R s m args below meth c H locs cells slots Q (F0 m pc ls (v :: .ref a :: rest)) := by
  have hap := va_apart (own := own) hts hin ty0 hty hnm hK hc
  obtain ⟨r, h1, cell, q1, q2, q3, q4⟩ := hP
  have hr : r = (C, T, N) := Option.some.inj (h1.symm.trans hc)
  subst hr
  obtain ⟨hS, hfc, kC, hkC, hkind⟩ := hK.1 ci _ hc
  obtain ⟨cf, kf, fi, f, hi, hsl⟩ := hS k hk
  have hlay := hts _ (hin _ (u_in_lay hk))
  unfold u_lay at hlay
  rw [if_neg (by rw [hfin]; decide)] at hlay
  have hst := (u_facts hfc hkC (u_lays hts hin hk) hi).1
  have h6 := u_store hfc hkC hkind hlay hi hd hn hfit
  refine W.putK hexec hb (f := f) ⟨hown, hlink, ⟨_, _, _, hsame _ hi⟩, hst⟩ (by rw [q2]; exact h6) q1 q3 (by rw [hsl]; exact k2_hasslot (q4 k hk)) rfl rfl hdg fun H' e1 e2 e3 => ?_
  rw [hsl] at e1 ⊢
  exact kk H' _ ⟨_, hc, t_OB.to (V := updV (vp_V fs) k v) ⟨_, e1, q2, q3, t_set q4 hap hk v⟩ (fun j _ => vp_updV_set hl v j)⟩ e2 e3
theorem x_putF (hexec : p.tables.exec = Jvm.exec) (hb : c.code = cc) {own ref C : String} {T : u_T} {N ci index : Nat} {Ts : List Cond} (hts : ∀ w ∈ Ts, w.before args s = true) (hin : ∀ w ∈ u_ws C T N, w ∈ Ts) (ty0 : Nat → FieldType) (hty : ∀ k, k < N → parseFieldDescriptor (T k).2.2.1 = some (ty0 k)) (hnm : ∀ a, a < N → ∀ b, b < N → a ≠ b → (T a).2.1 ≠ (T b).2.1) (hown : s.vm.findClass own = some m.cls) (hK : va_K D cl tys s) {fs : List Value} (hP : va_at D cl (a, .inr (ci, fs)) H) (hc : cl[ci]? = some (C, T, N)) (k : Nat) (hk : k < N) (hlink : (Cond.fieldLink own index ref (T k).2.1 (T k).2.2.1).before args s = true) (hsame : ∀ x, s.fieldFound? (T k).1 (T k).2.1 (T k).2.2.1 = some x → s.fieldFound? ref (T k).2.1 (T k).2.2.1 = some x) (hfin : (T k).2.2.2 = true) (hin2 : meth.name = "<init>") (hdecl : (T k).1 = own) {ty : FieldType} {v : Value} (hd : parseFieldDescriptor (T k).2.2.1 = some ty) (hn : narrow ty v = v) (hfit : fits ty v = true) (hl : k < fs.length)
    (hdg : decode cc pc = .ok (.putfield index, 3)) (kk : ∀ (H1 : Heap) (j : Nat), va_at D cl (a, .inr (ci, fs.set k v)) H1 → H1.size = H.size → (∀ q : Nat, q ≠ a → H1[q]? = H[q]?) → W p l e R s m args below meth c H1 (locs ++ [⟨a, j⟩]) cells slots Q (F0 m (pc + 3) ls rest)) : W p l e R s m args below meth c H locs cells slots Q (F0 m pc ls (v :: .ref a :: rest)) := by
  have hap := va_apart (own := own) hts hin ty0 hty hnm hK hc
  obtain ⟨r, h1, cell, q1, q2, q3, q4⟩ := hP
  have hr : r = (C, T, N) := Option.some.inj (h1.symm.trans hc)
  subst hr
  obtain ⟨hS, hfc, kC, hkC, hkind⟩ := hK.1 ci _ hc
  obtain ⟨cf, kf, fi, f, hi, hsl⟩ := hS k hk
  have hlay := hts _ (hin _ (u_in_lay hk))
  unfold u_lay at hlay
  rw [if_pos hfin] at hlay
  have hst := (u_facts hfc hkC (u_lays hts hin hk) hi).1
  have hcf : m.cls = cf := by
    obtain ⟨_, _, c', _, _, _, -, -, hf', -, -, -, hown2, -⟩ := Cond.laysFinal_spec hlay
    have e1 : c' = cf := by have := hi.symm.trans hf'; simp at this; exact this.1.symm
    rw [hdecl] at hown2
    rw [← e1]; exact Option.some.inj (hown.symm.trans hown2)
  have h6 := u_fits hfc hkC hkind (Or.inr hlay) hi hd hn hfit
  refine W.putFinK hexec hb hown hlink (hsame _ hi) hst hcf hin2 (by rw [q2]; exact h6) q1 q3 (by rw [hsl]; exact k2_hasslot (q4 k hk)) rfl rfl hdg fun H' e1 e2 e3 => ?_
  rw [hsl] at e1 ⊢
  exact kk H' _ ⟨_, hc, t_OB.to (V := updV (vp_V fs) k v) ⟨_, e1, q2, q3, t_set q4 hap hk v⟩ (fun j _ => vp_updV_set hl v j)⟩ e2 e3
theorem x_putN (hexec : p.tables.exec = Jvm.exec) (hb : c.code = cc) {own ref C host : String} {T : u_T} {N ci index : Nat} {Ts : List Cond} (hts : ∀ w ∈ Ts, w.before args s = true) (hin : ∀ w ∈ u_ws C T N, w ∈ Ts) (ty0 : Nat → FieldType) (hty : ∀ k, k < N → parseFieldDescriptor (T k).2.2.1 = some (ty0 k)) (hnm : ∀ a, a < N → ∀ b, b < N → a ≠ b → (T a).2.1 ≠ (T b).2.1) (hown : s.vm.findClass own = some m.cls) (hK : va_K D cl tys s) {fs : List Value} (hP : va_at D cl (a, .inr (ci, fs)) H) (hc : cl[ci]? = some (C, T, N)) (k : Nat) (hk : k < N) (hlink : (Cond.fieldLinkNest own index ref (T k).2.1 (T k).2.2.1 host).before args s = true) (hsame : ∀ x, s.fieldFound? (T k).1 (T k).2.1 (T k).2.2.1 = some x → s.fieldFound? ref (T k).2.1 (T k).2.2.1 = some x) (hfin : (T k).2.2.2 = false) {ty : FieldType} {v : Value} (hd : parseFieldDescriptor (T k).2.2.1 = some ty) (hn : narrow ty v = v) (hfit : fits ty v = true) (hl : k < fs.length)
    (hdg : decode cc pc = .ok (.putfield index, 3)) (kk : ∀ (H1 : Heap) (j : Nat), va_at D cl (a, .inr (ci, fs.set k v)) H1 → H1.size = H.size → (∀ q : Nat, q ≠ a → H1[q]? = H[q]?) → W p l e R s m args below meth c H1 (locs ++ [⟨a, j⟩]) cells slots Q (F0 m (pc + 3) ls rest)) : W p l e R s m args below meth c H locs cells slots Q (F0 m pc ls (v :: .ref a :: rest)) := by
  have hap := va_apart (own := own) hts hin ty0 hty hnm hK hc
  obtain ⟨r, h1, cell, q1, q2, q3, q4⟩ := hP
  have hr : r = (C, T, N) := Option.some.inj (h1.symm.trans hc)
  subst hr
  obtain ⟨hS, hfc, kC, hkC, hkind⟩ := hK.1 ci _ hc
  obtain ⟨cf, kf, fi, f, hi, hsl⟩ := hS k hk
  have hlay := hts _ (hin _ (u_in_lay hk))
  unfold u_lay at hlay
  rw [if_neg (by rw [hfin]; decide)] at hlay
  have hst := (u_facts hfc hkC (u_lays hts hin hk) hi).1
  have h6 := u_store hfc hkC hkind hlay hi hd hn hfit
  refine va_WputK hexec hb (f := f) hown hlink (hsame _ hi) hst (by rw [q2]; exact h6) q1 q3 (by rw [hsl]; exact k2_hasslot (q4 k hk)) rfl rfl hdg fun H' e1 e2 e3 => ?_
  rw [hsl] at e1 ⊢
  exact kk H' _ ⟨_, hc, t_OB.to (V := updV (vp_V fs) k v) ⟨_, e1, q2, q3, t_set q4 hap hk v⟩ (fun j _ => vp_updV_set hl v j)⟩ e2 e3
theorem x_iast (hexec : p.tables.exec = Jvm.exec) (hb : c.code = cc) (hK : va_K D cl tys s) (t0 : Nat) {cA : ClassId} {n : Nat} {f : Nat → Int32} (hP : va_at D cl (a, .inl (cA, n, .inl f)) H) (ht : tys[t0]? = some (cA, .int)) {i : Int32} {x : Int32} (hin : vp_in i n) (hdg : decode cc pc = .ok (.iastore, 1))
    (kk : ∀ (H1 : Heap) (j : Nat), va_at D cl (a, .inl (cA, n, .inl (upd f i.toNatClampNeg x))) H1 → H1.size = H.size → (∀ q : Nat, q ≠ a → H1[q]? = H[q]?) → W p l e R s m args below meth c H1 (locs ++ [⟨a, j⟩]) cells slots Q (F0 m (pc + 1) ls rest)) : W p l e R s m args below meth c H locs cells slots Q (F0 m pc ls (.int x :: .int i :: .ref a :: rest)) := by
  refine W.iast hexec hb hP ((hK.2 t0 _ ht).1 n (fun j => .int (f j))) (fun q => by cases q) (by show ¬ (i < 0 ∨ (arrV _ _ _).slots.size ≤ _); rw [arrV_size]; exact hin) rfl rfl hdg fun H1 e z oq => ?_
  refine kk H1 _ ?_ z oq
  show H1[a]? = some (vp_cell _ _)
  rw [e]
  rw [vp_cell_i, vp_cell_i, arrV_store]
  congr 2
  funext q
  by_cases hq : q = i.toNatClampNeg
  · subst hq
    simp [updV, upd]
  · simp [updV, upd, hq]
theorem x_last (hexec : p.tables.exec = Jvm.exec) (hb : c.code = cc) (hK : va_K D cl tys s) (t0 : Nat) {cA : ClassId} {n : Nat} {f : Nat → Int64} (hP : va_at D cl (a, .inl (cA, n, .inr (.inl f))) H) (ht : tys[t0]? = some (cA, .long)) {i : Int32} {x : Int64} (hin : vp_in i n) (hdg : decode cc pc = .ok (.lastore, 1))
    (kk : ∀ (H1 : Heap) (j : Nat), va_at D cl (a, .inl (cA, n, .inr (.inl (vp_updL f i.toNatClampNeg x)))) H1 → H1.size = H.size → (∀ q : Nat, q ≠ a → H1[q]? = H[q]?) → W p l e R s m args below meth c H1 (locs ++ [⟨a, j⟩]) cells slots Q (F0 m (pc + 1) ls rest)) : W p l e R s m args below meth c H locs cells slots Q (F0 m pc ls (.long x :: .int i :: .ref a :: rest)) := by
  refine W.last hexec hb hP ((hK.2 t0 _ ht).1 n (fun j => .long (f j))) (fun q => by cases q) (by show ¬ (i < 0 ∨ (arrV _ _ _).slots.size ≤ _); rw [arrV_size]; exact hin) rfl rfl hdg fun H1 e z oq => ?_
  refine kk H1 _ ?_ z oq
  show H1[a]? = some (vp_cell _ _)
  rw [e]
  rw [vp_cell_l, vp_cell_l, arrV_store]
  congr 2
  funext q
  by_cases hq : q = i.toNatClampNeg
  · subst hq
    simp [updV, vp_updL]
  · simp [updV, vp_updL, hq]
theorem x_astq (hexec : p.tables.exec = Jvm.exec) (hb : c.code = cc) (hK : va_K D cl tys s) (t0 ci : Nat) {cA : ClassId} {r : vw_C} {n v : Nat} {vs : List Value} {f : Nat → Option Nat} (hP : va_at D cl (a, .inl (cA, n, .inr (.inr (.inr (.inr f))))) H) (ht : tys[t0]? = some (cA, .object r.1)) (hv : va_at D cl (v, .inr (ci, vs)) H) (hc : cl[ci]? = some r) {i : Int32} (hin : vp_in i n) (hdg : decode cc pc = .ok (.aastore, 1))
    (kk : ∀ (H1 : Heap) (j : Nat), va_at D cl (a, .inl (cA, n, .inr (.inr (.inr (.inr (va_up f i.toNatClampNeg (some v))))))) H1 → H1.size = H.size → (∀ q : Nat, q ≠ a → H1[q]? = H[q]?) → W p l e R s m args below meth c H1 (locs ++ [⟨a, j⟩]) cells slots Q (F0 m (pc + 1) ls rest)) : W p l e R s m args below meth c H locs cells slots Q (F0 m pc ls (.ref v :: .int i :: .ref a :: rest)) := by
  have hlt : i.toNatClampNeg < n := Nat.not_le.mp fun q => hin (Or.inr q)
  have h0 : ¬ i < 0 := fun q => hin (Or.inl q)
  obtain ⟨r', hr', cellV, g1, g2, g3, -⟩ := hv
  have hcls := (hK.1 ci r hc).2
  obtain ⟨kA, comp, k1, k2, k3, -⟩ := (hK.2 t0 _ ht).2
  have hcomp : comp = D.1 ci := Option.some.inj (k3.symm.trans hcls.1)
  subst hcomp
  obtain ⟨kC, hkC, -⟩ := hcls.2
  refine W.aast hexec hb hP (fun q h => by cases h) (fun h => by cases h) k1 k2 rfl hkC ⟨h0, by show _ < (arrV _ _ _).slots.size; rw [arrV_size]; exact hlt⟩ g1 (fun q h => by rw [g3] at h; cases h) (by rw [g2]; exact hkC) (by rw [g2]; exact va_assign hcls) rfl rfl hdg fun H1 e z oq => ?_
  refine kk H1 _ ?_ z oq
  show H1[a]? = some (vp_cell _ _)
  rw [e]
  rw [vp_cell_q, vp_cell_q, arrV_store]
  congr 2
  funext q
  by_cases hq : q = i.toNatClampNeg
  · subst hq
    simp [updV, va_up, va_rf]
  · simp [updV, va_up, hq]
end XP
end
section
def cWord (e : Nat × Nat × Nat × Nat × Nat) : Cond := match e.2.2.2.1 with
  | 7 => .methodLink (oN e.1) e.2.1 objectInit
  | 8 => .methodLink (oN e.1) e.2.1 Lib.Math.min.name
  | 9 => .methodLink (oN e.1) e.2.1 arraycopyName
  | 1 => .methodLinkNest (oN e.1) e.2.1 (mN e.2.2.1) "TwoWires"
  | 3 => .methodLinkNest (oN e.1) e.2.1 (mN e.2.2.1) "TwoWires"
  | 6 => .methodLinkNest (oN e.1) e.2.1 (mN e.2.2.1) "TwoWires"
  | _ => .methodLink (oN e.1) e.2.1 (mN e.2.2.1)
theorem cT_ok : ∀ e ∈ cT, lw_tbl[e.2.2.2.2]? = some (cWord e) := by decide +kernel
theorem cR_ok {o i y kd : Nat} (h : cR o i = some (y, kd)) : ∃ n, cWord (o, i, y, kd, n) ∈ lw_tbl := by
  obtain ⟨e, he, hp, hv⟩ := find_map_inv h
  obtain ⟨rfl, rfl⟩ := key_inv hp
  have h4 := cT_ok e he
  obtain ⟨e1, e2, e3, e4, e5⟩ := e
  cases hv
  exact ⟨e5, List.mem_of_getElem? h4⟩
theorem nT_ok : ∀ e ∈ nT, lw_tbl[e.2.2.2]? = some (.classLink (oN e.1) e.2.1 (if e.2.2.1 < 100 then oN e.2.2.1 else eN (e.2.2.1 - 100))) := by decide +kernel
theorem nR_ok {o i ci : Nat} (h : nR o i = some ci) : Cond.classLink (oN o) i (if ci < 100 then oN ci else eN (ci - 100)) ∈ lw_tbl := by
  obtain ⟨e, he, hp, rfl⟩ := find_map_inv h
  obtain ⟨rfl, rfl⟩ := key_inv hp
  exact List.mem_of_getElem? (nT_ok e he)
theorem iT_ok : ∀ ci, ci < 8 → lw_tbl[(iT.getD ci (0, 0)).1]? = some (.instantiable (oN ci) (nF ci)) ∧ lw_tbl[(iT.getD ci (0, 0)).2]? = some (.initialized (oN ci)) := by decide +kernel
theorem few_ok : ∀ w ∈ [Cond.instanceMethod objectInit, Cond.code objectInit ⟨#[0xb1]⟩ 1 none, .static Lib.Math.min.name, .initialized "java/lang/Math", .code Lib.Math.min.name Lib.Math.min.code 2 (some .int), .native arraycopyName, .static arraycopyName, .initialized "java/lang/System", .arrayClass .int, .arrayClass .long], w ∈ lw_tbl ∧ goodWord w = true := by decide +kernel
theorem zero_ok : ∀ ci, ci < 8 → ∀ j, j < nF ci → defaultValue (tyN ci j) = (match fK ci j with | 0 => Value.int 0 | 1 => .int 0 | 2 => .long 0 | _ => .null) := by decide +kernel
theorem cat_len (r : List Value) : (r.map fun v => v.category).sum ≤ 2 * r.length := by
  induction r with
  | nil => simp
  | cons v r ih =>
    have : v.category ≤ 2 := by cases v <;> simp [Value.category]
    simp only [List.map_cons, List.sum_cons, List.length_cons]
    omega
theorem mem_goodL {w : Cond} (h : w ∈ lw_tbl) (g : goodWord w = true) : w ∈ goodL := List.mem_filter.mpr ⟨h, g⟩
section SM
variable {p : Program} {l : Launch} {e : Env} {R : Room} {s : State} {m : MethodId} {args : Array Value} {below : List Frame} {meth : Method} {c : Code} {H : Heap} {locs : List Loc} {cells slots : Nat} {Q : State → Prop}
variable {D : va_G} {cy : Nat → ClassId} {B mm pc c0 s0 : Nat} {lsM : Array Slot} {H0 : Heap} {w : Wd} {I : MI} {L : ML} {P : MP} {st : List Value}
theorem simM_get (hx : p.tables.exec = Jvm.exec) (hb : c.code = mB mm) (hown : s.vm.findClass (oN (mO mm)) = some m.cls) (hG : ∀ w ∈ goodL, w.before args s = true) (hSf : Sf D cy s) (hH : Hp D cy B s H w I L P) {x a ci k : Nat} {r : List Value} (hf : fR (mO mm) x = some (ci, k)) (hT : w.1 a = some (ci, 0)) (hd : decode (mB mm) pc = .ok (.getfield x, 3))
    (kk : W p l e R s m args below meth c H locs cells slots Q (F0 m (pc + 3) lsM (fv I L P (fK ci k) a k :: r))) : W p l e R s m args below meth c H locs cells slots Q (F0 m pc lsM (.ref a :: r)) := by
  obtain ⟨h8, hk, hw⟩ := fR_ok hf
  have hat := (hH.2.1 a ci 0 hT (by omega)).1
  rw [cellE_obj hT h8] at hat
  rcases hw with ⟨-, hw⟩ | hw
  · exact va_getN (host := "TwoWires") hx hb hG (uws_ok ci h8) hown hSf.1 (one_P hat) 0 rfl (vw_ok ci h8) k hk (va_Nw.use rfl (hSf.2.1 _ hw rfl)) (fun _ h9 => h9) (fsOf_get hk) hd kk
  · exact va_get hx hb hG (uws_ok ci h8) hown hSf.1 (one_P hat) 0 rfl (vw_ok ci h8) k hk (hG _ (mem_goodL hw rfl)) (fun _ h9 => h9) (fsOf_get hk) hd kk
theorem putV_inv {t a k : Nat} {v : Value} {r : MI × ML × MP} (h : putV w I L P t a k v = some r) : (t = 0 ∧ ∃ x, v = .int x ∧ r = (updI I a k x, L, P)) ∨ (t = 1 ∧ ∃ x, v = .int x ∧ x &&& 1 = x ∧ r = (updI I a k x, L, P)) ∨ (t = 2 ∧ ∃ x, v = .long x ∧ r = (I, updL L a k x, P)) ∨ (t = 3 ∧ ((∃ q, v = .ref q ∧ r = (I, L, updP P a k (some q))) ∨ (v = .null ∧ r = (I, L, updP P a k none)))) := by
  unfold putV at h
  split at h
  · cases h; exact Or.inl ⟨rfl, _, rfl, rfl⟩
  · next x => obtain ⟨h1, h2⟩ := ite_some_iff h; cases h2; exact Or.inr (Or.inl ⟨rfl, x, rfl, h1, rfl⟩)
  · cases h; exact Or.inr (Or.inr (Or.inl ⟨rfl, _, rfl, rfl⟩))
  · cases h; exact Or.inr (Or.inr (Or.inr ⟨rfl, Or.inl ⟨_, rfl, rfl⟩⟩))
  · cases h; exact Or.inr (Or.inr (Or.inr ⟨rfl, Or.inr ⟨rfl, rfl⟩⟩))
  · cases h
theorem kty_cases {ty : FieldType} {t : Nat} (h : ktyOf ty = t) (h4 : t < 4) : (t = 0 ∧ ty = .int) ∨ (t = 1 ∧ ty = .boolean) ∨ (t = 2 ∧ ty = .long) ∨ (t = 3 ∧ ((∃ C, ty = .object C) ∨ ∃ u, ty = .array u)) := by
  cases ty <;> simp [ktyOf] at h <;> first | omega | (subst h; simp)
/-- what a put does: the value is one that the field may hold, the rows are written at this place alone, and stand for it -/
theorem putV_ok {ci k a : Nat} {v : Value} {r : MI × ML × MP} (h8 : ci < 8) (hk : k < nF ci) (h : putV w I L P (fK ci k) a k v = some r) :
    narrow (tyN ci k) v = v ∧ fits (tyN ci k) v = true ∧ (∀ b, b ≠ a → r.1 b = I b) ∧ (∀ b, b ≠ a → r.2.1 b = L b) ∧ (∀ b, b ≠ a → r.2.2 b = P b) ∧ fsOf r.1 r.2.1 r.2.2 ci a = (fsOf I L P ci a).set k v := by
  have hkt := kty_ok ci h8 k hk
  have key : ∀ (I' : MI) (L' : ML) (P' : MP), (∀ j, j ≠ k → I' a j = I a j) → (∀ j, j ≠ k → L' a j = L a j) → (∀ j, j ≠ k → P' a j = P a j) → fv I' L' P' (fK ci k) a k = v → fsOf I' L' P' ci a = (fsOf I L P ci a).set k v := by
    intro I' L' P' e1 e2 e3 e4
    apply List.ext_getElem?
    intro j
    by_cases hj : j = k
    · subst hj
      rw [List.getElem?_set_self (by rw [fsOf_len]; exact hk), fsOf_get hk, e4]
    · rw [List.getElem?_set_ne (Ne.symm hj)]
      by_cases hjn : j < nF ci
      · rw [fsOf_get hjn, fsOf_get hjn]
        simp only [fv, e1 j hj, e2 j hj, e3 j hj]
      · rw [List.getElem?_eq_none (by rw [fsOf_len]; omega), List.getElem?_eq_none (by rw [fsOf_len]; omega)]
  rcases putV_inv h with ⟨h0, x, rfl, rfl⟩ | ⟨h0, x, rfl, hx, rfl⟩ | ⟨h0, x, rfl, rfl⟩ | ⟨h0, ⟨q, rfl, rfl⟩ | ⟨rfl, rfl⟩⟩ <;> rw [h0] at hkt <;> rcases kty_cases hkt (by omega) with ⟨g, ht⟩ | ⟨g, ht⟩ | ⟨g, ht⟩ | ⟨g, ht⟩ <;> first | (exfalso; omega) | skip
  · rw [ht]
    exact ⟨rfl, rfl, fun b hb => by funext j; simp [updI, hb], fun _ _ => rfl, fun _ _ => rfl, key _ _ _ (fun j hj => by simp [updI, hj]) (fun _ _ => rfl) (fun _ _ => rfl) (by rw [h0]; simp [fv, updI])⟩
  · rw [ht]
    refine ⟨by show Value.int (x &&& 1) = _; rw [hx], ?_, fun b hb => by funext j; simp [updI, hb], fun _ _ => rfl, fun _ _ => rfl, key _ _ _ (fun j hj => by simp [updI, hj]) (fun _ _ => rfl) (fun _ _ => rfl) (by rw [h0]; simp [fv, updI, hx])⟩
    rcases and1 x hx with rfl | rfl <;> rfl
  · rw [ht]
    exact ⟨rfl, rfl, fun _ _ => rfl, fun b hb => by funext j; simp [updL, hb], fun _ _ => rfl, key _ _ _ (fun _ _ => rfl) (fun j hj => by simp [updL, hj]) (fun _ _ => rfl) (by rw [h0]; simp [fv, updL])⟩
  · rcases ht with ⟨C, ht⟩ | ⟨C, ht⟩ <;> rw [ht] <;>
      exact ⟨rfl, rfl, fun _ _ => rfl, fun _ _ => rfl, fun b hb => by funext j; simp [updP, hb], key _ _ _ (fun _ _ => rfl) (fun _ _ => rfl) (fun j hj => by simp [updP, hj]) (by rw [h0]; simp [fv, updP, va_rf])⟩
  · rcases ht with ⟨C, ht⟩ | ⟨C, ht⟩ <;> rw [ht] <;>
      exact ⟨rfl, rfl, fun _ _ => rfl, fun _ _ => rfl, fun b hb => by funext j; simp [updP, hb], key _ _ _ (fun _ _ => rfl) (fun _ _ => rfl) (fun j hj => by simp [updP, hj]) (by rw [h0]; simp [fv, updP, va_rf])⟩
theorem simM_put (hx : p.tables.exec = Jvm.exec) (hb : c.code = mB mm) (hown : s.vm.findClass (oN (mO mm)) = some m.cls) (hG : ∀ w ∈ goodL, w.before args s = true) (hSf : Sf D cy s) (hname : (mN mm).name = "<init>" → meth.name = "<init>") (hH : Hp D cy B s H w I L P) (hS : va_S (wA B) H0 H locs) {x a ci k : Nat} {v : Value} {r : List Value} {o : MI × ML × MP} (hf : fR (mO mm) x = some (ci, k)) (hT : w.1 a = some (ci, 0)) (hfin : finOk mm ci k = true) (hv : putV w I L P (fK ci k) a k v = some o) (hd : decode (mB mm) pc = .ok (.putfield x, 3))
    (kk : ∀ (H1 : Heap) (locs1 : List Loc), Hp D cy B s H1 w o.1 o.2.1 o.2.2 → va_S (wA B) H0 H1 locs1 → W p l e R s m args below meth c H1 locs1 cells slots Q (F0 m (pc + 3) lsM r)) : W p l e R s m args below meth c H locs cells slots Q (F0 m pc lsM (v :: .ref a :: r)) := by
  obtain ⟨h8, hk, hw⟩ := fR_ok hf
  obtain ⟨hat, hBa⟩ := hH.2.1 a ci 0 hT (by omega)
  have hat0 := hat
  rw [cellE_obj hT h8] at hat
  obtain ⟨g1, g2, g3, g4, g5, g6⟩ := putV_ok h8 hk hv
  have fin : ∀ (H1 : Heap) (j : Nat), va_at D vwCl (a, .inr (ci, (fsOf I L P ci a).set k v)) H1 → H1.size = H.size → (∀ q : Nat, q ≠ a → H1[q]? = H[q]?) → W p l e R s m args below meth c H1 (locs ++ [⟨a, j⟩]) cells slots Q (F0 m (pc + 3) lsM r) := by
    intro H1 j e1 e2 e3
    refine kk H1 _ (Hp_put hH hT (by omega) e2 e3 ?_ g3 g4 g5) (hS.put e2 e3 hBa)
    rw [cellE_obj hT h8, g6]
    exact e1
  have hlen : k < (fsOf I L P ci a).length := by rw [fsOf_len]; exact hk
  cases hff : (tN_ ci k).2.2.2 with
  | false =>
    rcases hw with ⟨-, hw⟩ | hw
    · exact x_putN (host := "TwoWires") hx hb hG (uws_ok ci h8) (tyN ci) (tyN_ok ci h8) (nm_ok ci h8) hown hSf.1 hat (vw_ok ci h8) k hk (va_Nw.use rfl (hSf.2.1 _ hw rfl)) (fun _ h9 => h9) hff (tyN_ok ci h8 k hk) g1 g2 hlen hd fin
    · exact x_put hx hb hG (uws_ok ci h8) (tyN ci) (tyN_ok ci h8) (nm_ok ci h8) hown hSf.1 hat (vw_ok ci h8) k hk (hG _ (mem_goodL hw rfl)) (fun _ h9 => h9) hff (tyN_ok ci h8 k hk) g1 g2 hlen hd fin
  | true =>
    unfold finOk at hfin
    rw [hff] at hfin
    simp only [Bool.not_true, Bool.false_or, Bool.and_eq_true, beq_iff_eq] at hfin
    rcases hw with ⟨hne, hw⟩ | hw
    · exact absurd hfin.2 hne
    · exact x_putF hx hb hG (uws_ok ci h8) (tyN ci) (tyN_ok ci h8) (nm_ok ci h8) hown hSf.1 hat (vw_ok ci h8) k hk (hG _ (mem_goodL hw rfl)) (fun _ h9 => h9) hff (hname hfin.1) (by rw [own_ok ci h8 k hk, hfin.2]) (tyN_ok ci h8 k hk) g1 g2 hlen hd fin
end SM
end
section
theorem fK_lt : ∀ ci, ci < 8 → ∀ j, j < nF ci → fK ci j < 4 := by decide +kernel
section XCP
variable {p : Program} {l : Launch} {e : Env} {R : Room} {s : State} {m : MethodId} {args : Array Value} {below : List Frame} {meth : Method} {c : Code} {H : Heap} {locs : List Loc} {cells slots : Nat} {Q : State → Prop}
variable {cc : ByteArray} {pc : Nat} {ls : Array Slot} {rest : List Value} {D : va_G} {cl : List vw_C} {a : Nat} {tys : List (ClassId × FieldType)}
/-- follows va_copyi of the kit, with the heap's size kept in the words -/
theorem x_copyi {cc : ByteArray} (hexec : p.tables.exec = Jvm.exec) (hb : c.code = cc) (hml : c.maxLocals = ls.size) {own : String} {index : Nat} (hown : s.vm.findClass own = some m.cls) (hlink : (Cond.methodLink own index arraycopyName).before args s = true) (hnat : (Cond.native arraycopyName).before args s = true) (hstat : (Cond.static arraycopyName).before args s = true) (hini : (Cond.initialized "java/lang/System").before args s = true)
    (hK : va_K D cl tys s) (t0 : Nat) {a0 : Nat} {c0 : ClassId} {n0 n1 : Nat} {f g : Nat → Int32} (ha0 : va_at D cl (a0, .inl (c0, n0, .inl f)) H) (ha1 : va_at D cl (a, .inl (c0, n1, .inl g)) H) (ht0 : tys[t0]? = some (c0, .int))
    {sp dp n : Int32} (h1 : ¬ sp < 0) (h2 : ¬ dp < 0) (h3 : ¬ n < 0) (h4 : sp.toNatClampNeg + n.toNatClampNeg ≤ n0) (h5 : dp.toNatClampNeg + n.toNatClampNeg ≤ n1)
    (hframes : 1 ≤ R.frames) (hlocals : (rest.map fun v => v.category).sum + (nativeFrameWords "java/lang/System" "arraycopy" 5 + 11) ≤ R.locals) (hdg : decode cc pc = .ok (.invokestatic index, 3))
    (kk : ∀ (H1 : Heap) (locs1 : List Loc), (∀ q ∈ locs1, q ∈ locs ∨ q.base = a) → va_at D cl (a, .inl (c0, n1, .inl (va_cpy f g sp.toNatClampNeg dp.toNatClampNeg n.toNatClampNeg))) H1 → H1.size = H.size → (∀ q : Nat, q ≠ a → H1[q]? = H[q]?) → W p l e R s m args below meth c H1 locs1 cells slots Q (F0 m (pc + 3) ls rest)) : W p l e R s m args below meth c H locs cells slots Q (F0 m pc ls (.int n :: .int dp :: .ref a :: .int sp :: .ref a0 :: rest)) := by
  have nn : ∀ z : Int32, ¬ z < 0 → z.toInt = (z.toNatClampNeg : Int) := by
    intro z hz
    have hz0 : (0 : Int) ≤ z.toInt := by
      have := Int32.not_lt.mp hz
      simpa using Int32.le_iff_toInt_le.mp this
    show z.toInt = ((z.toInt.toNat : Nat) : Int)
    omega
  intro T hT X
  have hc0 : H[a0]? = some (vp_cell c0 (n0, .inl f)) := ha0
  have hc1 : H[a]? = some (vp_cell c0 (n1, .inl g)) := ha1
  obtain ⟨-, k0, hk0, cm0, hkk0⟩ := (hK.2 t0 _ ht0).1 n0 (fun j => .int (f j))
  obtain ⟨-, k1, hk1, cm1, hkk1⟩ := (hK.2 t0 _ ht0).1 n1 (fun j => .int (g j))
  obtain ⟨vm', X', step⟩ := X.arraycopy hexec hown hlink hnat hstat hini (src := a0) (dst := a) (cs := vp_cell c0 (n0, .inl f)) (cd := vp_cell c0 (n1, .inl g)) (srcPos := sp) (destPos := dp) (n := n) (by rw [hT]; exact hc0) (by rw [hT]; exact hc1)
    (fun _ h => by cases h) (fun _ h => by cases h) (fun h => by cases h) (fun h => by cases h) hk0 hk1 hkk0 hkk1 (by simp [refKind]) h1 h2 h3
    (by rw [nn sp h1, nn n h3]; show ¬ _ > ((arrV c0 n0 (fun j => .int (f j))).slots.size : Int); rw [arrV_size]; omega)
    (by rw [nn dp h2, nn n h3]; show ¬ _ > ((arrV c0 n1 (fun j => .int (g j))).slots.size : Int); rw [arrV_size]; omega)
    (fun vm₁ _ i hi => by
      have e : (vp_cell c0 (n0, .inl f)).slots.getD (sp.toNatClampNeg + i) .null = .int (f (sp.toNatClampNeg + i)) := by
        show (arrV c0 n0 (fun j => .int (f j))).slots.getD _ _ = _
        rw [Array.getD_eq_getD_getElem?, arrV_read _ _ (by omega)]
        rfl
      refine ⟨?_, ?_⟩
      · rw [e]
        rfl
      · rw [e]
        exact trivial)
    (g := F0 m pc ls (.int n :: .int dp :: .ref a :: .int sp :: .ref a0 :: rest)) rfl (by rw [hml]) (rest := rest) rfl (by rw [hb]; exact hdg) hframes (by show 2 * 0 + _ + _ ≤ _; omega)
  have e1 : copied (vp_cell c0 (n0, .inl f)) (vp_cell c0 (n1, .inl g)) sp dp n = vp_cell c0 (n1, .inl (va_cpy f g sp.toNatClampNeg dp.toNatClampNeg n.toNatClampNeg)) := va_copied (fun z => .int z) c0 c0 f g h4
  rw [e1] at X' step
  have hl : a < H.size := (Array.getElem?_eq_some_iff.mp hc1).1
  have hheap : ((T.setVm vm').setCell a (vp_cell c0 (n1, .inl (va_cpy f g sp.toNatClampNeg dp.toNatClampNeg n.toNatClampNeg)))).heap = H.setIfInBounds a (vp_cell c0 (n1, .inl (va_cpy f g sp.toNatClampNeg dp.toNatClampNeg n.toNatClampNeg))) := by rw [← hT]; rfl
  have oq : ∀ q : Nat, q ≠ a → (H.setIfInBounds a (vp_cell c0 (n1, .inl (va_cpy f g sp.toNatClampNeg dp.toNatClampNeg n.toNatClampNeg))))[q]? = H[q]? := fun q hq => by simp [Array.getElem?_setIfInBounds, Ne.symm hq]
  obtain ⟨t, a1, b1⟩ := kk _ _ (fun q hq => by
      rcases List.mem_append.mp hq with h | h
      · exact Or.inl h
      · obtain ⟨z, -, hz⟩ := List.mem_map.mp h
        exact Or.inr (by rw [← hz])) (show (H.setIfInBounds a _)[a]? = some _ by simp [Array.getElem?_setIfInBounds, hl]) (by simp) oq _ hheap X'
  exact ⟨t, step t a1, b1⟩
end XCP
section SM3
variable {p : Program} {l : Launch} {e : Env} {R : Room} {s : State} {m : MethodId} {args : Array Value} {below : List Frame} {meth : Method} {c : Code} {H : Heap} {locs : List Loc} {cells slots : Nat} {Q : State → Prop}
variable {D : va_G} {cy : Nat → ClassId} {B mm pc c0 s0 : Nat} {lsM : Array Slot} {H0 : Heap} {w : Wd} {I : MI} {L : ML} {P : MP} {st : List Value}
theorem few {P : Cond → Prop} (h : ∀ w ∈ goodL, P w) {w : Cond} (hw : w ∈ [Cond.instanceMethod objectInit, Cond.code objectInit ⟨#[0xb1]⟩ 1 none, .static Lib.Math.min.name, .initialized "java/lang/Math", .code Lib.Math.min.name Lib.Math.min.code 2 (some .int), .native arraycopyName, .static arraycopyName, .initialized "java/lang/System", .arrayClass .int, .arrayClass .long]) : P w :=
  h w (mem_goodL (few_ok w hw).1 (few_ok w hw).2)
set_option maxHeartbeats 4000000 in
theorem simM (hx : p.tables.exec = Jvm.exec) (hb : c.code = mB mm) (hown : s.vm.findClass (oN (mO mm)) = some m.cls) (hG : ∀ w ∈ goodL, w.before args s = true) (hSf : Sf D cy s) (hname : (mN mm).name = "<init>" → meth.name = "<init>") (hml : c.maxLocals = lsM.size) (hR : mF mm ≤ R.frames ∧ mW mm ≤ R.locals)
    (hH : Hp D cy B s H w I L P) (hS : va_S (wA B) H0 H locs) {i : Instr} {len : Nat} (hd : decode (mB mm) pc = .ok (i, len)) {n : M6} (h : stM mm pc i len st w I L P = some n)
    (hc : cells + c0 = w.2.2.1) (hs : slots + s0 = w.2.2.2) (hRc : n.2.2.1.2.2.1 ≤ R.cells + c0) (hRs : n.2.2.1.2.2.2 ≤ R.slots + s0)
    (k : ∀ (H1 : Heap) (locs1 : List Loc) (cells1 slots1 : Nat), Hp D cy B s H1 n.2.2.1 n.2.2.2.1 n.2.2.2.2.1 n.2.2.2.2.2 → va_S (wA B) H0 H1 locs1 → cells1 + c0 = n.2.2.1.2.2.1 → slots1 + s0 = n.2.2.1.2.2.2 → W p l e R s m args below meth c H1 locs1 cells1 slots1 Q (F0 m n.1 lsM n.2.1)) :
    W p l e R s m args below meth c H locs cells slots Q (F0 m pc lsM st) := by
  cases i with
  | getfield x =>
    simp only [stM] at h; replace h := ite_some_iff h; obtain ⟨rfl, h⟩ := h
    split at h
    · next a r =>
      split at h
      · next ci kk hf => replace h := ite_some_iff h; obtain ⟨hT, h⟩ := h; cases h; exact simM_get hx hb hown hG hSf hH hf hT hd (k _ _ _ _ hH hS hc hs)
      · cases h
    · cases h
  | putfield x =>
    simp only [stM] at h; replace h := ite_some_iff h; obtain ⟨rfl, h⟩ := h
    split at h
    · next v a r =>
      split at h
      · next ci kk hf =>
        replace h := ite_some_iff h; obtain ⟨⟨hT, hfin⟩, h⟩ := h
        split at h
        · next I' L' P' hv => cases h; exact simM_put hx hb hown hG hSf hname hH hS hf hT hfin hv hd (fun H1 locs1 q1 q2 => k _ _ _ _ q1 q2 hc hs)
        · cases h
      · cases h
    · cases h
  | iaload =>
    simp only [stM] at h; replace h := ite_some_iff h; obtain ⟨rfl, h⟩ := h
    split at h
    · next x a r =>
      split at h
      · next kd n hT =>
        replace h := ite_some_iff h; obtain ⟨⟨hk, hi⟩, h⟩ := h; cases h
        rcases hk with rfl | rfl
        · have hat := (hH.2.1 a 8 n hT (by omega)).1
          rw [cellE_int hT] at hat
          exact va_iald hx hb hSf.1 (one_P hat) 0 0 rfl rfl (inB_in hi) hd (k _ _ _ _ hH hS hc hs)
        · obtain ⟨hX, ha⟩ := hH.2.2.1 a n hT
          have hlt : a < H.size := by obtain ⟨scr, h1, -⟩ := hX; exact (Array.getElem?_eq_some_iff.mp h1).1
          exact va_sld (A := wA B) hx hb hX hlt (fun z => by unfold wA at z; omega) ⟨Nat.le_refl _, fun _ _ _ => rfl, hS.2.2⟩ (inB_in hi) hd (k _ _ _ _ hH hS hc hs)
      · cases h
    · cases h
  | laload =>
    simp only [stM] at h; replace h := ite_some_iff h; obtain ⟨rfl, h⟩ := h
    split at h
    · next x a r =>
      split at h
      · next kd n hT =>
        replace h := ite_some_iff h; obtain ⟨⟨rfl, hi⟩, h⟩ := h; cases h
        have hat := (hH.2.1 a 9 n hT (by omega)).1
        rw [cellE_long hT] at hat
        exact va_lald hx hb hSf.1 (one_P hat) 0 1 rfl rfl (inB_in hi) hd (k _ _ _ _ hH hS hc hs)
      · cases h
    · cases h
  | aaload =>
    simp only [stM] at h; replace h := ite_some_iff h; obtain ⟨rfl, h⟩ := h
    split at h
    · next x a r =>
      split at h
      · next kd n hT =>
        replace h := ite_some_iff h; obtain ⟨⟨⟨k1, k2⟩, hi⟩, h⟩ := h; cases h
        have hat := (hH.2.1 a kd n hT (by omega)).1
        rw [cellE_ref hT k1] at hat
        exact va_aldq hx hb hSf.1 (one_P hat) 0 (kd - 8) rfl (tys_at k1 k2) (inB_in hi) hd (k _ _ _ _ hH hS hc hs)
      · cases h
    · cases h
  | iastore =>
    simp only [stM] at h; replace h := ite_some_iff h; obtain ⟨rfl, h⟩ := h
    split at h
    · next v x a r =>
      split at h
      · next kd n hT =>
        replace h := ite_some_iff h; obtain ⟨⟨rfl, hi⟩, h⟩ := h; cases h
        obtain ⟨hat, hBa⟩ := hH.2.1 a 8 n hT (by omega)
        rw [cellE_int hT] at hat
        refine x_iast hx hb hSf.1 0 hat rfl (inB_in hi) hd (fun H1 j e1 e2 e3 => k _ _ _ _ (Hp_put hH hT (by omega) e2 e3 ?_ (fun b hb2 => by funext j; simp [updI, hb2]) (fun _ _ => rfl) (fun _ _ => rfl)) (hS.put e2 e3 hBa) hc hs)
        rw [cellE_int hT]
        show va_at D vwCl (a, .inl (cy 8, n, .inl (updI I a x.toNatClampNeg v a))) H1
        have e9 : updI I a x.toNatClampNeg v a = upd (I a) x.toNatClampNeg v := by funext j; simp [updI, upd]
        rw [e9]; exact e1
      · cases h
    · cases h
  | lastore =>
    simp only [stM] at h; replace h := ite_some_iff h; obtain ⟨rfl, h⟩ := h
    split at h
    · next v x a r =>
      split at h
      · next kd n hT =>
        replace h := ite_some_iff h; obtain ⟨⟨rfl, hi⟩, h⟩ := h; cases h
        obtain ⟨hat, hBa⟩ := hH.2.1 a 9 n hT (by omega)
        rw [cellE_long hT] at hat
        refine x_last hx hb hSf.1 1 hat rfl (inB_in hi) hd (fun H1 j e1 e2 e3 => k _ _ _ _ (Hp_put hH hT (by omega) e2 e3 ?_ (fun _ _ => rfl) (fun b hb2 => by funext j; simp [updL, hb2]) (fun _ _ => rfl)) (hS.put e2 e3 hBa) hc hs)
        rw [cellE_long hT]
        show va_at D vwCl (a, .inl (cy 9, n, .inr (.inl (updL L a x.toNatClampNeg v a)))) H1
        have e9 : updL L a x.toNatClampNeg v a = vp_updL (L a) x.toNatClampNeg v := by funext j; simp [updL, vp_updL]
        rw [e9]; exact e1
      · cases h
    · cases h
  | aastore =>
    simp only [stM] at h; replace h := ite_some_iff h; obtain ⟨rfl, h⟩ := h
    split at h
    · next v x a r =>
      split at h
      · next kd n hT =>
        replace h := ite_some_iff h; obtain ⟨⟨⟨k1, k2⟩, hv, hi⟩, h⟩ := h; cases h
        obtain ⟨hat, hBa⟩ := hH.2.1 a kd n hT (by omega)
        rw [cellE_ref hT k1] at hat
        have hav := (hH.2.1 v (kd - 10) 0 hv (by omega)).1
        rw [cellE_obj hv (by omega)] at hav
        refine x_astq (r := (oN (kd - 10), tN_ (kd - 10), nF (kd - 10))) hx hb hSf.1 (kd - 8) (kd - 10) hat (tys_at k1 k2) hav (vw_ok _ (by omega)) (inB_in hi) hd (fun H1 j e1 e2 e3 => k _ _ _ _ (Hp_put hH hT (by omega) e2 e3 ?_ (fun _ _ => rfl) (fun _ _ => rfl) (fun b hb2 => by funext j; simp [updP, hb2])) (hS.put e2 e3 hBa) hc hs)
        rw [cellE_ref hT k1]
        show va_at D vwCl (a, .inl (cy kd, n, .inr (.inr (.inr (.inr (updP P a x.toNatClampNeg (some v) a)))))) H1
        have e9 : updP P a x.toNatClampNeg (some v) a = va_up (P a) x.toNatClampNeg (some v) := by funext j; simp [updP, va_up]
        rw [e9]; exact e1
      · cases h
    · cases h
  | arraylength =>
    simp only [stM] at h; replace h := ite_some_iff h; obtain ⟨rfl, h⟩ := h
    split at h
    · next a r =>
      split at h
      · next kd n hT =>
        replace h := ite_some_iff h; obtain ⟨⟨k1, k2⟩, h⟩ := h; cases h
        by_cases h14 : kd = 14
        · subst h14
          obtain ⟨hX, ha⟩ := hH.2.2.1 a n hT
          have hlt : a < H.size := by obtain ⟨scr, h1, -⟩ := hX; exact (Array.getElem?_eq_some_iff.mp h1).1
          exact va_slen (A := wA B) hx hb hX hlt (fun z => by unfold wA at z; omega) ⟨Nat.le_refl _, fun _ _ _ => rfl, hS.2.2⟩ hd (k _ _ _ _ hH hS hc hs)
        · have hat := (hH.2.1 a kd n hT (by omega)).1
          by_cases h8 : kd = 8
          · subst h8
            rw [cellE_int hT] at hat
            exact va_alen hx hb hSf.1 (one_P hat) 0 0 rfl rfl rfl hd (k _ _ _ _ hH hS hc hs)
          · by_cases h9 : kd = 9
            · subst h9
              rw [cellE_long hT] at hat
              exact va_alen hx hb hSf.1 (one_P hat) 0 1 rfl rfl rfl hd (k _ _ _ _ hH hS hc hs)
            · rw [cellE_ref hT (by omega)] at hat
              exact va_alen hx hb hSf.1 (one_P hat) 0 (kd - 8) rfl (tys_at (by omega) (by omega)) rfl hd (k _ _ _ _ hH hS hc hs)
      · cases h
    · cases h
  | new x =>
    simp only [stM] at h; replace h := ite_some_iff h; obtain ⟨rfl, h⟩ := h
    split at h
    · next ci q hn hq =>
      replace h := ite_some_iff h; obtain ⟨h8, h⟩ := h; cases h
      have hq2 : q = H.size := hH.2.2.2.1 q hq
      have hcl := nR_ok hn
      rw [if_pos (by omega)] at hcl
      obtain ⟨i1, i2⟩ := iT_ok ci h8
      have hKn := hSf.1.1 ci _ (vw_ok ci h8)
      have hsz := Nat.le_trans hH.2.2.2.2.1 (Nat.le_refl _)
      subst hq2
      simp only [newT] at hRc hRs
      refine W.newcK hx hb hown (hG _ (mem_goodL hcl rfl)) (hG _ (mem_goodL (List.mem_of_getElem? i1) rfl)) (hG _ (mem_goodL (List.mem_of_getElem? i2) rfl)) rfl hd (by omega) (by omega) hKn.2.1 rfl fun H1 kC hkC e1 z1 o1 => ?_
      refine k H1 locs (cells + 1) (slots + nF ci) (Hp_push hH rfl (by omega) z1 o1 ?_ (fun b hb2 => by funext j; simp [rowI, hb2]) (fun b hb2 => by funext j; simp [rowL, hb2]) (fun b hb2 => by funext j; simp [rowP, hb2])) ⟨Nat.le_trans hS.1 (by omega), fun z g1 g2 => (o1 z (Nat.lt_of_lt_of_le g1 hS.1)).trans (hS.2.1 z g1 g2), hS.2.2⟩ (by simp only [newT]; omega) (by simp only [newT]; omega)
      rw [cellE_obj (n := 0) (by simp [newT]) h8]
      refine ⟨_, vw_ok ci h8, (u_born (tyN ci) hG (uws_ok ci h8) hKn hkC e1 (tyN_ok ci h8)).to (fun j hj => ?_)⟩
      rw [zero_ok ci h8 j hj]
      unfold vp_V
      rw [List.getD_eq_getElem?_getD, fsOf_get hj]
      have h3 : fK ci j < 4 := fK_lt ci h8 j hj
      have h4 : fK ci j = 0 ∨ fK ci j = 1 ∨ fK ci j = 2 ∨ fK ci j = 3 := by omega
      rcases h4 with h4 | h4 | h4 | h4 <;> rw [h4] <;> simp [fv, rowI, rowL, rowP, va_rf]
    · cases h
  | newarray ty =>
    cases ty with
    | int =>
      simp only [stM] at h; replace h := ite_some_iff h; obtain ⟨rfl, h⟩ := h
      split at h
      · next n r q hq =>
        replace h := ite_some_iff h; obtain ⟨⟨hn, hn2⟩, h⟩ := h; cases h
        have hq2 : q = H.size := hH.2.2.2.1 q hq
        have hsz := hH.2.2.2.2.1
        subst hq2
        simp only [newT] at hRc hRs
        refine va_newaK (atype := .int) hx hb (few hG (by simp [newarray.typeOf])) rfl hd rfl hn rfl (by simp only [newarray.typeOf, componentBytes]; omega) (by omega) (by omega) rfl fun H1 cA e1 z1 o1 hAr hNm => ?_
        have hcA : cA = cy 8 := by
          have hz := (hSf.1.2 0 (cy 8, .int) rfl).2
          exact Option.some.inj (hNm.symm.trans hz)
        subst hcA
        refine k H1 locs (cells + 1) (slots + n.toNatClampNeg) (Hp_push hH rfl (by omega) z1 o1 ?_ (fun b hb2 => by funext j; simp [rowI, hb2]) (fun _ _ => rfl) (fun _ _ => rfl)) ⟨Nat.le_trans hS.1 (by omega), fun z g1 g2 => (o1 z (Nat.lt_of_lt_of_le g1 hS.1)).trans (hS.2.1 z g1 g2), hS.2.2⟩ (by simp only [newT]; omega) (by simp only [newT]; omega)
        rw [cellE_int (n := n.toNatClampNeg) (by simp [newT])]
        show H1[H.size]? = some (vp_cell _ _)
        rw [vp_cell_i, e1]
        congr 2
        funext j
        simp [rowI, newarray.typeOf, defaultValue]
      · cases h
    | long =>
      simp only [stM] at h; replace h := ite_some_iff h; obtain ⟨rfl, h⟩ := h
      split at h
      · next n r q hq =>
        replace h := ite_some_iff h; obtain ⟨⟨hn, hn2⟩, h⟩ := h; cases h
        have hq2 : q = H.size := hH.2.2.2.1 q hq
        have hsz := hH.2.2.2.2.1
        subst hq2
        simp only [newT] at hRc hRs
        refine va_newaK (atype := .long) hx hb (few hG (by simp [newarray.typeOf])) rfl hd rfl hn rfl (by simp only [newarray.typeOf, componentBytes]; omega) (by omega) (by omega) rfl fun H1 cA e1 z1 o1 hAr hNm => ?_
        have hcA : cA = cy 9 := by
          have hz := (hSf.1.2 1 (cy 9, .long) rfl).2
          exact Option.some.inj (hNm.symm.trans hz)
        subst hcA
        refine k H1 locs (cells + 1) (slots + n.toNatClampNeg) (Hp_push hH rfl (by omega) z1 o1 ?_ (fun _ _ => rfl) (fun b hb2 => by funext j; simp [rowL, hb2]) (fun _ _ => rfl)) ⟨Nat.le_trans hS.1 (by omega), fun z g1 g2 => (o1 z (Nat.lt_of_lt_of_le g1 hS.1)).trans (hS.2.1 z g1 g2), hS.2.2⟩ (by simp only [newT]; omega) (by simp only [newT]; omega)
        rw [cellE_long (n := n.toNatClampNeg) (by simp [newT])]
        show H1[H.size]? = some (vp_cell _ _)
        rw [vp_cell_l, e1]
        congr 2
        funext j
        simp [rowL, newarray.typeOf, defaultValue]
      · cases h
    | _ => simp only [stM] at h; cases h
  | anewarray x =>
    simp only [stM] at h; replace h := ite_some_iff h; obtain ⟨rfl, h⟩ := h
    split at h
    · next ci n r q hn0 hq =>
      replace h := ite_some_iff h; obtain ⟨⟨h4, hn, hn2⟩, h⟩ := h; cases h
      have hq2 : q = H.size := hH.2.2.2.1 q hq
      have hsz := hH.2.2.2.2.1
      have hcl := nR_ok hn0
      rw [if_pos (by omega)] at hcl
      subst hq2
      simp only [newT] at hRc hRs
      refine W.anew hx hb hown (hG _ (mem_goodL hcl rfl)) (va_AO.use (hSf.2.2.1 ci h4)) rfl hd rfl hn (by omega) (by omega) (by omega) fun cA kA comp f1 f2 f3 f4 => ?_
      generalize hH1 : H.push ({ cls := cA, slots := Array.replicate n.toNatClampNeg .null, vm := .none } : Cell) = H1
      have z1 : H1.size = H.size + 1 := by rw [← hH1, Array.size_push]
      have e1 : H1[H.size]? = some (arrV cA n.toNatClampNeg (fun _ => .null)) := by rw [← hH1, Array.getElem?_push_size, ← arrV_new]
      have o1 : ∀ q : Nat, q < H.size → H1[q]? = H[q]? := fun q hq => by rw [← hH1, Array.getElem?_push, if_neg (Nat.ne_of_lt hq)]
      have hcA : cA = cy (10 + ci) := by
        have hz := (hSf.1.2 (10 + ci - 8) _ (tys_at (cy := cy) (k := 10 + ci) (by omega) (by omega))).2
        obtain ⟨-, -, -, -, -, hz⟩ := hz
        rw [show 10 + ci - 10 = ci by omega] at hz
        exact Option.some.inj (f1.symm.trans hz)
      subst hcA
      refine k H1 locs (cells + 1) (slots + n.toNatClampNeg) (Hp_push hH rfl (by omega) z1 o1 ?_ (fun _ _ => rfl) (fun _ _ => rfl) (fun b hb2 => by funext j; simp [rowP, hb2])) ⟨Nat.le_trans hS.1 (by omega), fun z g1 g2 => (o1 z (Nat.lt_of_lt_of_le g1 hS.1)).trans (hS.2.1 z g1 g2), hS.2.2⟩ (by simp only [newT]; omega) (by simp only [newT]; omega)
      rw [cellE_ref (n := n.toNatClampNeg) (k := 10 + ci) (by simp [newT]) (by omega)]
      show H1[H.size]? = some (vp_cell _ _)
      rw [vp_cell_q, e1]
      congr 2
      funext j
      simp [rowP, va_rf]
    · cases h
  | invokespecial x =>
    simp only [stM] at h; replace h := ite_some_iff h; obtain ⟨rfl, h⟩ := h
    split at h
    · next y a r hcr =>
      replace h := ite_some_iff h; obtain ⟨⟨h1, h2⟩, h⟩ := h; cases h
      obtain ⟨nn, hw⟩ := cR_ok hcr
      have hcl := cat_len r
      refine W.objInit hx hb hown (hG _ (mem_goodL hw rfl)) (few hG (by simp)) (few hG (by simp)) rfl hml.symm rfl hd (by omega) (by show 2 * 0 + _ + 12 ≤ _; omega) ?_
      exact W.eq rfl (k _ _ _ _ hH hS hc hs)
    · cases h
  | invokestatic x =>
    simp only [stM] at h; replace h := ite_some_iff h; obtain ⟨rfl, h⟩ := h
    split at h
    · next yy y x r hcr =>
      replace h := ite_some_iff h; obtain ⟨⟨h1, h2⟩, h⟩ := h; cases h
      obtain ⟨nn, hw⟩ := cR_ok hcr
      have hcl := cat_len r
      dsimp only at hRc hRs
      exact va_mmin hx hb hml hown (hG _ (mem_goodL hw rfl)) (few hG (by simp)) (few hG (by simp)) (few hG (by simp)) (by omega) (by omega) (by omega) (by omega) hd (k _ _ _ _ hH hS hc hs)
    · next yy n dp a1 sp a0 r hcr =>
      split at h
      · next n0 n1 hT0 hT1 =>
        replace h := ite_some_iff h; obtain ⟨⟨h1, h2, g1, g2, g3, g4, g5⟩, h⟩ := h; cases h
        obtain ⟨nn, hw⟩ := cR_ok hcr
        have hcl := cat_len r
        have hat0 := (hH.2.1 a0 8 n0 hT0 (by omega)).1
        rw [cellE_int hT0] at hat0
        obtain ⟨hat1, hB1⟩ := hH.2.1 a1 8 n1 hT1 (by omega)
        rw [cellE_int hT1] at hat1
        refine x_copyi hx hb hml hown (hG _ (mem_goodL hw rfl)) (few hG (by simp)) (few hG (by simp)) (few hG (by simp)) hSf.1 0 hat0 hat1 rfl g1 g2 g3 g4 g5 (by omega) (by rw [show nativeFrameWords "java/lang/System" "arraycopy" 5 + 11 = 18 from by decide +kernel]; omega) hd (fun H1 locs1 hlo e1 e2 e3 => k _ _ _ _ (Hp_put hH hT1 (by omega) e2 e3 ?_ (fun b hb2 => by funext j; simp [cpyI, hb2]) (fun _ _ => rfl) (fun _ _ => rfl)) ⟨by rw [e2]; exact hS.1, fun q z1 z2 => by rw [e3 q (fun z => z2 (by rw [z]; exact hB1))]; exact hS.2.1 q z1 z2, fun q hq => by
          rcases hlo q hq with hq | hq
          · exact hS.2.2 q hq
          · rw [hq]; exact hB1⟩ hc hs)
        rw [cellE_int hT1]
        show va_at D vwCl (a1, .inl (cy 8, n1, .inl (cpyI I a0 sp.toNatClampNeg a1 dp.toNatClampNeg n.toNatClampNeg a1))) H1
        have e9 : cpyI I a0 sp.toNatClampNeg a1 dp.toNatClampNeg n.toNatClampNeg a1 = va_cpy (I a0) (I a1) sp.toNatClampNeg dp.toNatClampNeg n.toNatClampNeg := by funext j; simp [cpyI, va_cpy]
        rw [e9]; exact e1
      · cases h
    · cases h
  | _ => simp only [stM] at h; cases h
end SM3
end
section
-- what the tables say of the methods
def mHead (e : MT) : Cond := if e.2.2.2.2.1 = [] then .code e.1 e.2.1 e.2.2.1 e.2.2.2.1 else .codeWith e.1 e.2.1 e.2.2.1 e.2.2.2.1 e.2.2.2.2.1
abbrev mIx (e : MT) : Nat × Nat × Nat × Nat := e.2.2.2.2.2.2.2.2.2.2
abbrev mSt (e : MT) : Bool := e.2.2.2.2.2.2.2.2.2.1
set_option maxRecDepth 100000 in
theorem mTc_0 : ∀ e ∈ mT_0, lw_tbl[(mIx e).1]? = some (mHead e) := List.forall_mem_cons.mpr ⟨rfl, List.forall_mem_cons.mpr ⟨rfl, List.forall_mem_cons.mpr ⟨rfl, List.forall_mem_cons.mpr ⟨rfl, List.forall_mem_cons.mpr ⟨rfl, List.forall_mem_cons.mpr ⟨rfl, List.forall_mem_cons.mpr ⟨rfl, List.forall_mem_cons.mpr ⟨rfl, List.forall_mem_cons.mpr ⟨rfl, List.forall_mem_cons.mpr ⟨rfl, List.forall_mem_cons.mpr ⟨rfl, List.forall_mem_cons.mpr ⟨rfl, List.forall_mem_cons.mpr ⟨rfl, List.forall_mem_cons.mpr ⟨rfl, List.forall_mem_cons.mpr ⟨rfl, fun _ h => absurd h List.not_mem_nil⟩⟩⟩⟩⟩⟩⟩⟩⟩⟩⟩⟩⟩⟩⟩
set_option maxRecDepth 100000 in
theorem mTc_1 : ∀ e ∈ mT_1, lw_tbl[(mIx e).1]? = some (mHead e) := List.forall_mem_cons.mpr ⟨rfl, List.forall_mem_cons.mpr ⟨rfl, List.forall_mem_cons.mpr ⟨rfl, List.forall_mem_cons.mpr ⟨rfl, List.forall_mem_cons.mpr ⟨rfl, List.forall_mem_cons.mpr ⟨rfl, List.forall_mem_cons.mpr ⟨rfl, List.forall_mem_cons.mpr ⟨rfl, List.forall_mem_cons.mpr ⟨rfl, List.forall_mem_cons.mpr ⟨rfl, List.forall_mem_cons.mpr ⟨rfl, List.forall_mem_cons.mpr ⟨rfl, List.forall_mem_cons.mpr ⟨rfl, List.forall_mem_cons.mpr ⟨rfl, List.forall_mem_cons.mpr ⟨rfl, fun _ h => absurd h List.not_mem_nil⟩⟩⟩⟩⟩⟩⟩⟩⟩⟩⟩⟩⟩⟩⟩
set_option maxRecDepth 100000 in
theorem mTc_2 : ∀ e ∈ mT_2, lw_tbl[(mIx e).1]? = some (mHead e) := List.forall_mem_cons.mpr ⟨rfl, List.forall_mem_cons.mpr ⟨rfl, List.forall_mem_cons.mpr ⟨rfl, List.forall_mem_cons.mpr ⟨rfl, List.forall_mem_cons.mpr ⟨rfl, List.forall_mem_cons.mpr ⟨rfl, List.forall_mem_cons.mpr ⟨rfl, List.forall_mem_cons.mpr ⟨rfl, List.forall_mem_cons.mpr ⟨rfl, List.forall_mem_cons.mpr ⟨rfl, List.forall_mem_cons.mpr ⟨rfl, List.forall_mem_cons.mpr ⟨rfl, List.forall_mem_cons.mpr ⟨rfl, List.forall_mem_cons.mpr ⟨rfl, List.forall_mem_cons.mpr ⟨rfl, fun _ h => absurd h List.not_mem_nil⟩⟩⟩⟩⟩⟩⟩⟩⟩⟩⟩⟩⟩⟩⟩
set_option maxRecDepth 100000 in
theorem mTc_3 : ∀ e ∈ mT_3, lw_tbl[(mIx e).1]? = some (mHead e) := List.forall_mem_cons.mpr ⟨rfl, List.forall_mem_cons.mpr ⟨rfl, List.forall_mem_cons.mpr ⟨rfl, List.forall_mem_cons.mpr ⟨rfl, List.forall_mem_cons.mpr ⟨rfl, List.forall_mem_cons.mpr ⟨rfl, List.forall_mem_cons.mpr ⟨rfl, List.forall_mem_cons.mpr ⟨rfl, List.forall_mem_cons.mpr ⟨rfl, List.forall_mem_cons.mpr ⟨rfl, List.forall_mem_cons.mpr ⟨rfl, List.forall_mem_cons.mpr ⟨rfl, List.forall_mem_cons.mpr ⟨rfl, List.forall_mem_cons.mpr ⟨rfl, List.forall_mem_cons.mpr ⟨rfl, fun _ h => absurd h List.not_mem_nil⟩⟩⟩⟩⟩⟩⟩⟩⟩⟩⟩⟩⟩⟩⟩
set_option maxRecDepth 100000 in
theorem mTc_4 : ∀ e ∈ mT_4, lw_tbl[(mIx e).1]? = some (mHead e) := List.forall_mem_cons.mpr ⟨rfl, List.forall_mem_cons.mpr ⟨rfl, List.forall_mem_cons.mpr ⟨rfl, List.forall_mem_cons.mpr ⟨rfl, List.forall_mem_cons.mpr ⟨rfl, List.forall_mem_cons.mpr ⟨rfl, List.forall_mem_cons.mpr ⟨rfl, List.forall_mem_cons.mpr ⟨rfl, List.forall_mem_cons.mpr ⟨rfl, List.forall_mem_cons.mpr ⟨rfl, List.forall_mem_cons.mpr ⟨rfl, List.forall_mem_cons.mpr ⟨rfl, List.forall_mem_cons.mpr ⟨rfl, List.forall_mem_cons.mpr ⟨rfl, List.forall_mem_cons.mpr ⟨rfl, fun _ h => absurd h List.not_mem_nil⟩⟩⟩⟩⟩⟩⟩⟩⟩⟩⟩⟩⟩⟩⟩
set_option maxRecDepth 100000 in
theorem mTc_5 : ∀ e ∈ mT_5, lw_tbl[(mIx e).1]? = some (mHead e) := List.forall_mem_cons.mpr ⟨rfl, List.forall_mem_cons.mpr ⟨rfl, List.forall_mem_cons.mpr ⟨rfl, List.forall_mem_cons.mpr ⟨rfl, List.forall_mem_cons.mpr ⟨rfl, List.forall_mem_cons.mpr ⟨rfl, List.forall_mem_cons.mpr ⟨rfl, List.forall_mem_cons.mpr ⟨rfl, List.forall_mem_cons.mpr ⟨rfl, List.forall_mem_cons.mpr ⟨rfl, List.forall_mem_cons.mpr ⟨rfl, List.forall_mem_cons.mpr ⟨rfl, List.forall_mem_cons.mpr ⟨rfl, List.forall_mem_cons.mpr ⟨rfl, List.forall_mem_cons.mpr ⟨rfl, fun _ h => absurd h List.not_mem_nil⟩⟩⟩⟩⟩⟩⟩⟩⟩⟩⟩⟩⟩⟩⟩
set_option maxRecDepth 100000 in
theorem mTc_6 : ∀ e ∈ mT_6, lw_tbl[(mIx e).1]? = some (mHead e) := List.forall_mem_cons.mpr ⟨rfl, List.forall_mem_cons.mpr ⟨rfl, List.forall_mem_cons.mpr ⟨rfl, List.forall_mem_cons.mpr ⟨rfl, List.forall_mem_cons.mpr ⟨rfl, List.forall_mem_cons.mpr ⟨rfl, List.forall_mem_cons.mpr ⟨rfl, List.forall_mem_cons.mpr ⟨rfl, List.forall_mem_cons.mpr ⟨rfl, List.forall_mem_cons.mpr ⟨rfl, List.forall_mem_cons.mpr ⟨rfl, List.forall_mem_cons.mpr ⟨rfl, List.forall_mem_cons.mpr ⟨rfl, List.forall_mem_cons.mpr ⟨rfl, List.forall_mem_cons.mpr ⟨rfl, fun _ h => absurd h List.not_mem_nil⟩⟩⟩⟩⟩⟩⟩⟩⟩⟩⟩⟩⟩⟩⟩
set_option maxRecDepth 100000 in
theorem mTc_7 : ∀ e ∈ mT_7, lw_tbl[(mIx e).1]? = some (mHead e) := List.forall_mem_cons.mpr ⟨rfl, List.forall_mem_cons.mpr ⟨rfl, List.forall_mem_cons.mpr ⟨rfl, List.forall_mem_cons.mpr ⟨rfl, List.forall_mem_cons.mpr ⟨rfl, List.forall_mem_cons.mpr ⟨rfl, List.forall_mem_cons.mpr ⟨rfl, List.forall_mem_cons.mpr ⟨rfl, List.forall_mem_cons.mpr ⟨rfl, List.forall_mem_cons.mpr ⟨rfl, List.forall_mem_cons.mpr ⟨rfl, List.forall_mem_cons.mpr ⟨rfl, List.forall_mem_cons.mpr ⟨rfl, List.forall_mem_cons.mpr ⟨rfl, List.forall_mem_cons.mpr ⟨rfl, fun _ h => absurd h List.not_mem_nil⟩⟩⟩⟩⟩⟩⟩⟩⟩⟩⟩⟩⟩⟩⟩
set_option maxRecDepth 100000 in
theorem mTc_8 : ∀ e ∈ mT_8, lw_tbl[(mIx e).1]? = some (mHead e) := List.forall_mem_cons.mpr ⟨rfl, List.forall_mem_cons.mpr ⟨rfl, List.forall_mem_cons.mpr ⟨rfl, List.forall_mem_cons.mpr ⟨rfl, List.forall_mem_cons.mpr ⟨rfl, List.forall_mem_cons.mpr ⟨rfl, List.forall_mem_cons.mpr ⟨rfl, List.forall_mem_cons.mpr ⟨rfl, List.forall_mem_cons.mpr ⟨rfl, List.forall_mem_cons.mpr ⟨rfl, List.forall_mem_cons.mpr ⟨rfl, List.forall_mem_cons.mpr ⟨rfl, List.forall_mem_cons.mpr ⟨rfl, List.forall_mem_cons.mpr ⟨rfl, List.forall_mem_cons.mpr ⟨rfl, fun _ h => absurd h List.not_mem_nil⟩⟩⟩⟩⟩⟩⟩⟩⟩⟩⟩⟩⟩⟩⟩
set_option maxRecDepth 100000 in
theorem mTc_9 : ∀ e ∈ mT_9, lw_tbl[(mIx e).1]? = some (mHead e) := List.forall_mem_cons.mpr ⟨rfl, List.forall_mem_cons.mpr ⟨rfl, List.forall_mem_cons.mpr ⟨rfl, List.forall_mem_cons.mpr ⟨rfl, List.forall_mem_cons.mpr ⟨rfl, List.forall_mem_cons.mpr ⟨rfl, List.forall_mem_cons.mpr ⟨rfl, List.forall_mem_cons.mpr ⟨rfl, List.forall_mem_cons.mpr ⟨rfl, List.forall_mem_cons.mpr ⟨rfl, List.forall_mem_cons.mpr ⟨rfl, List.forall_mem_cons.mpr ⟨rfl, List.forall_mem_cons.mpr ⟨rfl, List.forall_mem_cons.mpr ⟨rfl, List.forall_mem_cons.mpr ⟨rfl, fun _ h => absurd h List.not_mem_nil⟩⟩⟩⟩⟩⟩⟩⟩⟩⟩⟩⟩⟩⟩⟩
set_option maxRecDepth 100000 in
theorem mTc_10 : ∀ e ∈ mT_10, lw_tbl[(mIx e).1]? = some (mHead e) := List.forall_mem_cons.mpr ⟨rfl, List.forall_mem_cons.mpr ⟨rfl, List.forall_mem_cons.mpr ⟨rfl, List.forall_mem_cons.mpr ⟨rfl, List.forall_mem_cons.mpr ⟨rfl, List.forall_mem_cons.mpr ⟨rfl, List.forall_mem_cons.mpr ⟨rfl, List.forall_mem_cons.mpr ⟨rfl, List.forall_mem_cons.mpr ⟨rfl, List.forall_mem_cons.mpr ⟨rfl, List.forall_mem_cons.mpr ⟨rfl, List.forall_mem_cons.mpr ⟨rfl, List.forall_mem_cons.mpr ⟨rfl, List.forall_mem_cons.mpr ⟨rfl, List.forall_mem_cons.mpr ⟨rfl, fun _ h => absurd h List.not_mem_nil⟩⟩⟩⟩⟩⟩⟩⟩⟩⟩⟩⟩⟩⟩⟩
set_option maxRecDepth 100000 in
theorem mTc_11 : ∀ e ∈ mT_11, lw_tbl[(mIx e).1]? = some (mHead e) := List.forall_mem_cons.mpr ⟨rfl, List.forall_mem_cons.mpr ⟨rfl, List.forall_mem_cons.mpr ⟨rfl, List.forall_mem_cons.mpr ⟨rfl, List.forall_mem_cons.mpr ⟨rfl, List.forall_mem_cons.mpr ⟨rfl, List.forall_mem_cons.mpr ⟨rfl, List.forall_mem_cons.mpr ⟨rfl, List.forall_mem_cons.mpr ⟨rfl, List.forall_mem_cons.mpr ⟨rfl, List.forall_mem_cons.mpr ⟨rfl, List.forall_mem_cons.mpr ⟨rfl, List.forall_mem_cons.mpr ⟨rfl, List.forall_mem_cons.mpr ⟨rfl, List.forall_mem_cons.mpr ⟨rfl, fun _ h => absurd h List.not_mem_nil⟩⟩⟩⟩⟩⟩⟩⟩⟩⟩⟩⟩⟩⟩⟩
set_option maxRecDepth 100000 in
theorem mTc_12 : ∀ e ∈ mT_12, lw_tbl[(mIx e).1]? = some (mHead e) := List.forall_mem_cons.mpr ⟨rfl, List.forall_mem_cons.mpr ⟨rfl, List.forall_mem_cons.mpr ⟨rfl, List.forall_mem_cons.mpr ⟨rfl, List.forall_mem_cons.mpr ⟨rfl, List.forall_mem_cons.mpr ⟨rfl, List.forall_mem_cons.mpr ⟨rfl, List.forall_mem_cons.mpr ⟨rfl, List.forall_mem_cons.mpr ⟨rfl, List.forall_mem_cons.mpr ⟨rfl, List.forall_mem_cons.mpr ⟨rfl, List.forall_mem_cons.mpr ⟨rfl, List.forall_mem_cons.mpr ⟨rfl, List.forall_mem_cons.mpr ⟨rfl, List.forall_mem_cons.mpr ⟨rfl, fun _ h => absurd h List.not_mem_nil⟩⟩⟩⟩⟩⟩⟩⟩⟩⟩⟩⟩⟩⟩⟩
set_option maxRecDepth 100000 in
theorem mTc_13 : ∀ e ∈ mT_13, lw_tbl[(mIx e).1]? = some (mHead e) := List.forall_mem_cons.mpr ⟨rfl, List.forall_mem_cons.mpr ⟨rfl, List.forall_mem_cons.mpr ⟨rfl, List.forall_mem_cons.mpr ⟨rfl, List.forall_mem_cons.mpr ⟨rfl, List.forall_mem_cons.mpr ⟨rfl, List.forall_mem_cons.mpr ⟨rfl, List.forall_mem_cons.mpr ⟨rfl, List.forall_mem_cons.mpr ⟨rfl, List.forall_mem_cons.mpr ⟨rfl, List.forall_mem_cons.mpr ⟨rfl, List.forall_mem_cons.mpr ⟨rfl, List.forall_mem_cons.mpr ⟨rfl, List.forall_mem_cons.mpr ⟨rfl, List.forall_mem_cons.mpr ⟨rfl, fun _ h => absurd h List.not_mem_nil⟩⟩⟩⟩⟩⟩⟩⟩⟩⟩⟩⟩⟩⟩⟩
set_option maxRecDepth 100000 in
theorem mTc_14 : ∀ e ∈ mT_14, lw_tbl[(mIx e).1]? = some (mHead e) := List.forall_mem_cons.mpr ⟨rfl, List.forall_mem_cons.mpr ⟨rfl, List.forall_mem_cons.mpr ⟨rfl, List.forall_mem_cons.mpr ⟨rfl, List.forall_mem_cons.mpr ⟨rfl, List.forall_mem_cons.mpr ⟨rfl, List.forall_mem_cons.mpr ⟨rfl, List.forall_mem_cons.mpr ⟨rfl, List.forall_mem_cons.mpr ⟨rfl, List.forall_mem_cons.mpr ⟨rfl, List.forall_mem_cons.mpr ⟨rfl, List.forall_mem_cons.mpr ⟨rfl, List.forall_mem_cons.mpr ⟨rfl, List.forall_mem_cons.mpr ⟨rfl, List.forall_mem_cons.mpr ⟨rfl, fun _ h => absurd h List.not_mem_nil⟩⟩⟩⟩⟩⟩⟩⟩⟩⟩⟩⟩⟩⟩⟩
theorem mT_code : ∀ e ∈ mTabA, lw_tbl[(mIx e).1]? = some (mHead e) := List.forall_mem_append.mpr ⟨mTc_0, List.forall_mem_append.mpr ⟨mTc_1, List.forall_mem_append.mpr ⟨mTc_2, List.forall_mem_append.mpr ⟨mTc_3, List.forall_mem_append.mpr ⟨mTc_4, List.forall_mem_append.mpr ⟨mTc_5, List.forall_mem_append.mpr ⟨mTc_6, List.forall_mem_append.mpr ⟨mTc_7, List.forall_mem_append.mpr ⟨mTc_8, List.forall_mem_append.mpr ⟨mTc_9, List.forall_mem_append.mpr ⟨mTc_10, List.forall_mem_append.mpr ⟨mTc_11, List.forall_mem_append.mpr ⟨mTc_12, List.forall_mem_append.mpr ⟨mTc_13, mTc_14⟩⟩⟩⟩⟩⟩⟩⟩⟩⟩⟩⟩⟩⟩
theorem mT_kind : ∀ e ∈ mTabA, lw_tbl[(mIx e).2.1]? = some (if mSt e = true then .static e.1 else .instanceMethod e.1) := by decide +kernel
theorem mT_sel : ∀ e ∈ mTabA, mSt e = false → e.1.name ≠ "<init>" → lw_tbl[(mIx e).2.2.1]? = some (.selects e.1.cls e.1 e.1) := by decide +kernel
theorem mT_init : ∀ e ∈ mTabA, lw_tbl[(mIx e).2.2.2]? = some (.initialized e.1.cls) := by decide +kernel
theorem mT_more : ∀ e ∈ mTabA, e.1.cls = oN e.2.2.2.2.2.1 ∧ plainName e.1.cls = true ∧ e.1.cls ≠ "java/lang/invoke/MethodHandle" ∧ e.1.cls ≠ "java/lang/invoke/VarHandle" ∧ (parseMethodDescriptor e.1.desc).map (fun d => d.parameters.length) = some e.2.2.2.2.2.2.2.2.1 ∧ (e.2.2.2.2.1 ≠ [] → mSt e = true) := by decide +kernel
theorem mT_hnd : ∀ e ∈ mTabA, ∀ h ∈ e.2.2.2.2.1, h.2.2.2 ≠ 0 ∧ (nR e.2.2.2.2.2.1 h.2.2.2 = some 100 ∨ nR e.2.2.2.2.2.1 h.2.2.2 = some 101 ∨ nR e.2.2.2.2.2.1 h.2.2.2 = some 102) := by decide +kernel
theorem cT_kinds : ∀ e ∈ cT, e.2.2.2.1 < 7 → e.2.2.1 < 225 ∧ (e.2.2.2.1 = 4 ↔ mH e.2.2.1 ≠ []) ∧ (e.2.2.2.1 = 5 ∨ e.2.2.2.1 = 6 ↔ (mN e.2.2.1).name = "<init>") := by decide +kernel
theorem mTab_len : mTabA.length = 225 := by decide +kernel
end
section
theorem mHead_good (e : MT) : goodWord (mHead e) = true := by unfold mHead; split <;> rfl
theorem mT_own : ∀ e ∈ mTabA, mSt e = false → e.2.2.2.2.2.1 < 8 := by decide +kernel
theorem mT_initR : ∀ e ∈ mTabA, e.1.name = "<init>" → e.2.2.2.1 = none := by decide +kernel
theorem mE_mem {y : Nat} (h : y < 225) : mE y ∈ mTabA := by
  have hl := mTab_len
  unfold mE mTab
  rw [List.getD_eq_getElem?_getD, List.getElem?_append_left (by omega)]
  have h2 : y < mTabA.length := by omega
  rw [List.getElem?_eq_getElem h2]
  exact List.getElem_mem h2
/-- the words of a method -/
def mWd (y : Nat) : List Cond := mHead (mE y) :: goodL
theorem w_code {y : Nat} (h : y < 225) : mHead (mE y) ∈ goodL := mem_goodL (List.mem_of_getElem? (mT_code _ (mE_mem h))) (mHead_good _)
theorem w_static {y : Nat} (h : y < 225) (hs : mS y = true) : Cond.static (mN y) ∈ goodL := by
  have h1 := mT_kind _ (mE_mem h)
  rw [if_pos (show mSt (mE y) = true from hs)] at h1
  exact mem_goodL (List.mem_of_getElem? h1) rfl
theorem w_inst {y : Nat} (h : y < 225) (hs : mS y = false) : Cond.instanceMethod (mN y) ∈ goodL := by
  have h1 := mT_kind _ (mE_mem h)
  rw [if_neg (by rw [show mSt (mE y) = false from hs]; decide)] at h1
  exact mem_goodL (List.mem_of_getElem? h1) rfl
theorem w_sel {y : Nat} (h : y < 225) (hs : mS y = false) (hn : (mN y).name ≠ "<init>") : Cond.selects (mN y).cls (mN y) (mN y) ∈ goodL :=
  mem_goodL (List.mem_of_getElem? (mT_sel _ (mE_mem h) hs hn)) rfl
theorem w_init {y : Nat} (h : y < 225) : Cond.initialized (mN y).cls ∈ goodL := mem_goodL (List.mem_of_getElem? (mT_init _ (mE_mem h))) rfl
theorem mWd_code {y : Nat} (hh : mH y = []) : mWd y = Cond.code (mN y) (mB y) (mL y) (mR y) :: goodL := by
  unfold mWd mHead
  rw [if_pos (show (mE y).2.2.2.2.1 = [] from hh)]
  rfl
theorem mWd_codeW {y : Nat} (hh : mH y ≠ []) : mWd y = Cond.codeWith (mN y) (mB y) (mL y) (mR y) (mH y) :: goodL := by
  unfold mWd mHead
  rw [if_neg (show ¬ (mE y).2.2.2.2.1 = [] from hh)]
  rfl
theorem w_code0 {y : Nat} (h : y < 225) (hh : mH y = []) : Cond.code (mN y) (mB y) (mL y) (mR y) ∈ goodL := by
  have h1 := w_code h
  unfold mHead at h1
  rw [if_pos (show (mE y).2.2.2.2.1 = [] from hh)] at h1
  exact h1
theorem w_codeW {y : Nat} (h : y < 225) (hh : mH y ≠ []) : Cond.codeWith (mN y) (mB y) (mL y) (mR y) (mH y) ∈ goodL := by
  have h1 := w_code h
  unfold mHead at h1
  rw [if_neg (show ¬ (mE y).2.2.2.2.1 = [] from hh)] at h1
  exact h1
-- what stays from state to state
theorem goodL_warm {args a' : Array Value} {s U : State} (hW : s.WarmedH U.vm) (h : ∀ w ∈ goodL, w.before args s = true) : ∀ w ∈ goodL, w.before a' U = true :=
  fun w hw => word_at hW (good_of_word (List.mem_filter.mp hw).2) (h w hw)
theorem Sf.warm {D : va_G} {cy : Nat → ClassId} {s U : State} (hW : s.WarmedH U.vm) (h : Sf D cy s) : Sf D cy U := by
  obtain ⟨h1, h2, h3, h4, h5⟩ := h
  refine ⟨va_K.moved hW.alike h1, fun w hw hn => ?_, fun ci hci => (h3 ci hci).moved hW.alike, fun x hx => ?_, fun i hi j hj => ?_⟩
  · have h9 := h2 w hw hn
    cases w <;> simp [isNest] at hn
    · exact va_Nw.warmM hW h9
    · exact va_Nw.warmF hW h9
    · exact va_Nw.warmD hW h9
  · obtain ⟨a, ha⟩ := h4 x hx
    exact ⟨a, ha.warm hW⟩
  · have h9 := h5 i hi j hj
    by_cases hij : i = j
    · rw [if_pos hij] at h9 ⊢; exact va_Nw.warmC hW h9
    · rw [if_neg hij] at h9 ⊢; exact va_Nc.moved hW.alike h9
theorem Hp.moved {D : va_G} {cy : Nat → ClassId} {B : Nat} {s U : State} {H : Heap} {w : Wd} {I : MI} {L : ML} {P : MP} (hvm : s.vm.Alike U.vm) (h : Hp D cy B s H w I L P) : Hp D cy B U H w I L P :=
  ⟨h.1, h.2.1, fun a n ha => ⟨(h.2.2.1 a n ha).1.moved hvm, (h.2.2.1 a n ha).2⟩, h.2.2.2.1, h.2.2.2.2.1, h.2.2.2.2.2.1.moved hvm, h.2.2.2.2.2.2.moved hvm⟩
-- counts only grow
theorem stM_mono {m pc len : Nat} {i : Instr} {st : List Value} {w : Wd} {I : MI} {L : ML} {P : MP} {n : M6} (h : stM m pc i len st w I L P = some n) : w.2.2.1 ≤ n.2.2.1.2.2.1 ∧ w.2.2.2 ≤ n.2.2.1.2.2.2 := by
  unfold stM at h
  repeat' (first | (cases h; done) | (cases h; (first | exact ⟨Nat.le_refl _, Nat.le_refl _⟩ | (simp only [newT]; omega))) | split at h)
theorem exec_mono : ∀ (n m pc : Nat) (ls st : List Value) (w : Wd) (I : MI) (L : ML) (P : MP) (r : Rs), exec n m pc ls st w I L P = some r → w.2.2.1 ≤ r.2.1.2.2.1 ∧ w.2.2.2 ≤ r.2.1.2.2.2 := by
  intro n
  induction n with
  | zero => intro m pc ls st w I L P r h; cases h
  | succ n ih =>
    intro m pc ls st w I L P r h
    unfold exec at h
    split at h
    · cases h
    · next pc' ls' st' w' I' L' P' hs =>
      have h1 := ih _ _ _ _ _ _ _ _ _ h
      have h2 : w.2.2.1 ≤ w'.2.2.1 ∧ w.2.2.2 ≤ w'.2.2.2 := by
        unfold stp at hs
        split at hs
        · cases hs
        · split at hs
          · cases hs; exact ⟨Nat.le_refl _, Nat.le_refl _⟩
          · split at hs
            · next hm => cases hs; exact stM_mono hm
            · split at hs
              · cases hs
              · split at hs
                · cases hs
                · split at hs <;> cases hs
      omega
    · next r' hs =>
      cases h
      unfold stp at hs
      split at hs
      · cases hs
      · split at hs
        · cases hs
        · split at hs
          · cases hs
          · split at hs
            · cases hs
            · split at hs
              · cases hs; exact ⟨Nat.le_refl _, Nat.le_refl _⟩
              · split at hs
                · cases hs; simp only [thrT]; omega
                · cases hs
    · split at h
      · cases h
      · next hx =>
        have h1 := ih _ _ _ _ _ _ _ _ _ hx
        have h2 := ih _ _ _ _ _ _ _ _ _ h
        simp only at h1
        omega
      · next hx =>
        have h1 := ih _ _ _ _ _ _ _ _ _ hx
        simp only at h1
        split at h
        · cases h; exact h1
        · split at h
          · obtain ⟨-, h⟩ := ite_some_iff h
            have h2 := ih _ _ _ _ _ _ _ _ _ h
            omega
          · cases h
end
section
-- contracts
def cPc (D : va_G) (cy : Nat → ClassId) (B : Nat) (as : List Value) (w : Wd) (I : MI) (L : ML) (P : MP) : Array Value → State → Prop := va_Pc as (fun U => Sf D cy U ∧ Hp D cy B U U.heap w I L P)
def cQc (D : va_G) (cy : Nat → ClassId) (B : Nat) (r : Rs) : Array Value → State → Outcome → State → Prop := fun _ st o t => ∃ v, r.1 = .inl v ∧ o = .returned v ∧ Hp D cy B t t.heap r.2.1 r.2.2.1 r.2.2.2.1 r.2.2.2.2 ∧ va_F (wA B) st t
def cXC (D : va_G) (cy : Nat → ClassId) (B : Nat) (r : Rs) : String → State → State → Prop := fun E st t => ∃ e, e < 3 ∧ r.1 = .inr e ∧ E = eN e ∧ Hp D cy B t t.heap r.2.1 r.2.2.1 r.2.2.2.1 r.2.2.2.2 ∧ va_F (wA B) st t
def mRm (y : Nat) (k n : Nat) : Room := { frames := mF y, cells := k, slots := n, locals := mW y }
/-- the machine does with y what the plain machine does -/
def SimC (y : Nat) (as : List Value) (w : Wd) (I : MI) (L : ML) (P : MP) (r : Rs) : Prop := ∀ (l : Launch), l.stackTraces = false → ∀ (D : va_G) (cy : Nat → ClassId) (B : Nat),
  vx_Met l (mN y) (mWd y) (mRm y (r.2.1.2.2.1 - w.2.2.1) (r.2.1.2.2.2 - w.2.2.2)) (cPc D cy B as w I L P) (cQc D cy B r) (cXC D cy B r) (r.2.1.2.2.1 - w.2.2.1) (r.2.1.2.2.2 - w.2.2.2) (wA B)
theorem cPc_blind {D : va_G} {cy : Nat → ClassId} {B : Nat} {as : List Value} {w : Wd} {I : MI} {L : ML} {P : MP} : FrameBlind (cPc D cy B as w I L P) := by
  intro a U g mk h
  obtain ⟨h1, h2, h3⟩ := h
  exact ⟨h1, Sf.warm (U := U.calling g mk a) (State.WarmedH.refl U) h2, Hp.moved (U := U.calling g mk a) (Vm.Alike.refl U.vm) h3⟩
section XC
variable {p : Program} {l : Launch} {e : Env} {R : Room} {s : State} {m : MethodId} {args : Array Value} {below : List Frame} {meth : Method} {c : Code} {H : Heap} {locs : List Loc} {cells slots : Nat} {Q : State → Prop}
variable {D : va_G} {cy : Nat → ClassId} {B mm pc c0 s0 : Nat} {lsM : Array Slot} {H0 : Heap} {w : Wd} {I : MI} {L : ML} {P : MP} {st rest st0 : List Value} {r : Rs} {a : Array Value} {mc ms : Nat}
/-- behind a call -/
theorem x_call (hr : vx_Run p l e R s m args below meth c H locs cells slots mc ms (F0 m pc lsM st0) rest (cQc D cy B r a) (cXC D cy B r) (wA B)) (hS : va_S (wA B) H0 H locs)
    (k : ∀ (v : Option Value) (H1 : Heap) (locs1 : List Loc), r.1 = .inl v → Hp D cy B s H1 r.2.1 r.2.2.1 r.2.2.2.1 r.2.2.2.2 → va_S (wA B) H0 H1 locs1 → W p l e R s m args below meth c H1 locs1 (cells + mc) (slots + ms) Q (F0 m (pc + 3) lsM (v.toList ++ rest)))
    (kx : ∀ (x : Nat) (ce : Cell) (q : Addr) (H1 : Heap) (locs1 : List Loc), x < 3 → r.1 = .inr x → Hp D cy B s H1 r.2.1 r.2.2.1 r.2.2.2.1 r.2.2.2.2 → va_S (wA B) H0 H1 locs1 → H1[q]? = some ce → ce.vm = .none → s.vm.findClass (eN x) = some ce.cls → vx_W p l e R s m args below meth c H1 locs1 (cells + mc) (slots + ms) Q (F0 m pc lsM rest) q) :
    W p l e R s m args below meth c H locs cells slots Q (F0 m pc lsM st0) := by
  have hA : ∀ q, q < H.size → wA B q → wA B q := fun q _ h => h
  have hf : ∀ q, wA B q → wA B q := fun q h => h
  intro T hT X
  rcases hr T hT X with ⟨v, st₀, t, T', L1, h0, X', hL, e1, e2, ⟨v1, hq1, hq2, hHp, hF⟩, go⟩ | ⟨q, st₀, t, T', L1, E, ce, h0, X', hL, e1, e2, ⟨x, hx3, hx1, rfl, hHp, hF⟩, hce, hcv, hcl, go⟩
  · have hvv : v = v1 := Outcome.returned.inj hq2
    subst hvv
    obtain ⟨k1, k2, k3⟩ := vx_keep h0 e1 hS hA hf hL hF
    have hal : s.vm.Alike t.vm := by rw [← e2]; exact X'.warmed.alike
    rw [← e1] at hHp
    obtain ⟨t2, a1, b1⟩ := k v T'.heap (locs ++ L1) hq1 (hHp.moved hal.symm) k3 T' rfl X'
    exact ⟨t2, go t2 a1, b1⟩
  · obtain ⟨k1, k2, k3⟩ := vx_keep h0 e1 hS hA hf hL hF
    have hal : s.vm.Alike t.vm := by rw [← e2]; exact X'.warmed.alike
    rw [← e1] at hHp
    obtain ⟨t2, a1, b1⟩ := kx x ce q T'.heap (locs ++ L1) hx3 hx1 (hHp.moved hal.symm) k3 (by rw [e1]; exact hce) hcv hcl T' rfl X'
    exact ⟨t2, go.trans a1, b1⟩
theorem cls1_inv {m y : Nat} {st : List Value} {w : Wd} {virt : Bool} {o : Cl} (h : cls1 m y st w virt = some o) : ∃ as r, o = (y, as, r) ∧ st = as.reverse ++ r ∧ as.length = (if mS y then mA y else mA y + 1) ∧ mF y + 1 ≤ mF m ∧ 8 + (mL y + 11) + mW y ≤ mW m ∧ 2 * r.length ≤ 8 ∧ (entA as).length ≤ mL y ∧ (mS y = false → ∃ b bs, as = .ref b :: bs ∧ (virt = false ∨ w.1 b = some (mO y, 0))) := by
  unfold cls1 at h
  simp only at h
  obtain ⟨⟨h1, h2, h3, h4, h5, h6⟩, h⟩ := ite_some_iff h
  refine ⟨(st.take (if mS y then mA y else mA y + 1)).reverse, st.drop (if mS y then mA y else mA y + 1), ?_, ?_, h1, h2, h3, h4, h5, ?_⟩
  · split at h
    · exact (Option.some.inj h).symm
    · obtain ⟨-, h⟩ := ite_some_iff h
      exact (Option.some.inj h).symm
    · cases h
  · rw [List.reverse_reverse, List.take_append_drop]
  · intro hs
    split at h
    · next hs2 => rw [hs] at hs2; cases hs2
    · next b bs hs2 has =>
      obtain ⟨h9, -⟩ := ite_some_iff h
      exact ⟨b, bs, has, h9⟩
    · cases h
theorem sub_of {y : Nat} {as : List Value} {U : State} (hG : ∀ w ∈ goodL, w.before args s = true) (hy : y < 225) : ∀ w ∈ mWd y, ∀ (a' : Array Value) (U : State), s.WarmedH U.vm → w.before a' U = true := by
  intro w hw a' U hW
  rcases List.mem_cons.mp hw with rfl | hw
  · exact goodL_warm hW hG _ (w_code hy)
  · exact goodL_warm hW hG _ hw
set_option maxHeartbeats 4000000 in
/-- a call of a method whose contract stands -/
theorem simC (hx : p.tables.exec = Jvm.exec) (hlst : l.stackTraces = false) (hb : c.code = mB mm) (hown : s.vm.findClass (oN (mO mm)) = some m.cls) (hG : ∀ w ∈ goodL, w.before args s = true) (hSf : Sf D cy s) (hml : c.maxLocals = lsM.size) (hR : mF mm ≤ R.frames ∧ mW mm ≤ R.locals)
    (hH : Hp D cy B s H w I L P) (hS : va_S (wA B) H0 H locs) {i : Instr} {len : Nat} (hd : decode (mB mm) pc = .ok (i, len)) {y : Nat} {as rs : List Value} (h : stC mm i len st w = some (y, as, rs)) (hM : y < 225 → SimC y as w I L P r)
    (hc1 : cells + (r.2.1.2.2.1 - w.2.2.1) ≤ R.cells) (hs1 : slots + (r.2.1.2.2.2 - w.2.2.2) ≤ R.slots)
    (k : ∀ (v : Option Value) (H1 : Heap) (locs1 : List Loc), r.1 = .inl v → Hp D cy B s H1 r.2.1 r.2.2.1 r.2.2.2.1 r.2.2.2.2 → va_S (wA B) H0 H1 locs1 → W p l e R s m args below meth c H1 locs1 (cells + (r.2.1.2.2.1 - w.2.2.1)) (slots + (r.2.1.2.2.2 - w.2.2.2)) Q (F0 m (pc + 3) lsM (v.toList ++ rs)))
    (kx : ∀ (x : Nat) (ce : Cell) (q : Addr) (H1 : Heap) (locs1 : List Loc), x < 3 → r.1 = .inr x → Hp D cy B s H1 r.2.1 r.2.2.1 r.2.2.2.1 r.2.2.2.2 → va_S (wA B) H0 H1 locs1 → H1[q]? = some ce → ce.vm = .none → s.vm.findClass (eN x) = some ce.cls → vx_W p l e R s m args below meth c H1 locs1 (cells + (r.2.1.2.2.1 - w.2.2.1)) (slots + (r.2.1.2.2.2 - w.2.2.2)) Q (F0 m pc lsM rs) q) :
    W p l e R s m args below meth c H locs cells slots Q (F0 m pc lsM st) := by
  have hPcU : ∀ U : State, U.heap = H → s.WarmedH U.vm → cPc D cy B as w I L P as.toArray U := fun U hU hW => ⟨rfl, hSf.warm hW, by rw [hU]; exact hH.moved hW.alike⟩
  have core : ∀ (x kd : Nat), cR (mO mm) x = some (y, kd) → (kd < 7 → y < 225 ∧ (kd = 4 ↔ mH y ≠ []) ∧ (kd = 5 ∨ kd = 6 ↔ (mN y).name = "<init>")) := by
    intro x kd hcr hk
    obtain ⟨e', he, hp, hv⟩ := find_map_inv hcr
    have h9 := cT_kinds e' he
    obtain ⟨e1, e2, e3, e4, e5⟩ := e'
    cases hv
    exact h9 hk
  have hrest : ∀ (rs' : List Value), 2 * rs'.length ≤ 8 → 2 * (F0 m pc lsM st).monitorRoom + (rs'.map fun v => v.category).sum ≤ 8 := fun rs' h8 => by
    have := cat_len rs'
    show 2 * 0 + _ ≤ 8
    omega
  have CF : CallFix p m c (mB mm) lsM.size s args goodL (oN (mO mm)) := ⟨hx, hb, hml, hown, hG⟩
  have hdat : ∀ (x kd : Nat), cR (mO mm) x = some (y, kd) → kd < 7 → y < 225 ∧ (kd = 4 ↔ mH y ≠ []) ∧ (kd = 5 ∨ kd = 6 ↔ (mN y).name = "<init>") ∧ (mN y).cls = oN (mO y) ∧ ((mN y).cls ≠ "java/lang/invoke/MethodHandle" ∧ (mN y).cls ≠ "java/lang/invoke/VarHandle") ∧ (∀ sig, parseMethodDescriptor (mN y).desc = some sig → mA y = sig.parameters.length) := by
    intro x kd hcr hk
    obtain ⟨hy, h4, h5⟩ := core x kd hcr hk
    obtain ⟨g1, g2, g3, g4, g5, g6⟩ := mT_more _ (mE_mem hy)
    refine ⟨hy, h4, h5, g1, ⟨g3, g4⟩, fun sig hsg => ?_⟩
    have h2 := g5
    rw [show (mE y).1.desc = (mN y).desc from rfl, hsg] at h2
    exact (Option.some.inj h2).symm
  have hvirt : ∀ b, y < 225 → mS y = false → w.1 b = some (mO y, 0) → ∃ cell : Cell, H[b]? = some cell ∧ cell.vm.isStatics = false ∧ s.vm.findClass (oN (mO y)) = some cell.cls := by
    intro b hy hst hT
    have h8 : mO y < 8 := mT_own _ (mE_mem hy) hst
    have hat := (hH.2.1 b (mO y) 0 hT (by omega)).1
    rw [cellE_obj hT h8] at hat
    exact va_recv (s := s) hSf.1 (one_P hat) (q0 := 0) (vw_ok _ h8) rfl
  cases i with
  | invokevirtual x =>
    simp only [stC] at h
    replace h := ite_some_iff h; obtain ⟨rfl, h⟩ := h
    split at h
    · next y' hcr =>
      replace h := ite_some_iff h; obtain ⟨hst, h⟩ := h
      obtain ⟨as', r', ho, hstk, hal, hf1, hl1, hr1, hen, hrec⟩ := cls1_inv h
      cases ho
      obtain ⟨hy, hk4, hk5, g1, g34, hlen9⟩ := hdat x 0 hcr (by omega)
      obtain ⟨nn, hw⟩ := cR_ok hcr
      have hhd : mH y = [] := Classical.byContradiction fun z => absurd (hk4.mpr z) (by omega)
      obtain ⟨b, bs, rfl, hb2⟩ := hrec hst
      rw [hst, if_neg (by decide)] at hal
      have hal2 : bs.length = mA y := by simpa using hal
      rw [List.reverse_cons, List.append_assoc] at hstk
      have hT : w.1 b = some (mO y, 0) := by rcases hb2 with h9 | h9 <;> first | cases h9 | exact h9
      have hni : (mN y).name ≠ "<init>" := fun z => absurd (hk5.mpr z) (by omega)
      exact x_call (vx_runV (As := bs) (rest := rs) (C := (mN y).cls) CF (hM hy l hlst D cy B) ⟨⟨rfl, rfl, by show mF y + 1 ≤ _; omega, by show 8 + (mL y + 11) + mW y ≤ _; omega, sub_of (as := []) (U := s) hG hy, by rw [mWd_code hhd]; exact List.mem_cons_self, hG _ (w_code0 hy hhd), hG _ (w_init hy), g34, hlen9, hG _ (mem_goodL hw rfl)⟩, hG _ (w_inst hy hst), hG _ (w_sel hy hst hni)⟩ ⟨cPc_blind, by rw [g1]; exact hvirt b hy hst hT, hPcU⟩ rfl hal2 rfl (by show st = _; rw [hstk]; rfl) (hrest _ hr1) hd ⟨hc1, hs1⟩) hS k kx
    · next y' hcr =>
      replace h := ite_some_iff h; obtain ⟨hst, h⟩ := h
      obtain ⟨as', r', ho, hstk, hal, hf1, hl1, hr1, hen, hrec⟩ := cls1_inv h
      cases ho
      obtain ⟨hy, hk4, hk5, g1, g34, hlen9⟩ := hdat x 1 hcr (by omega)
      obtain ⟨nn, hw⟩ := cR_ok hcr
      have hhd : mH y = [] := Classical.byContradiction fun z => absurd (hk4.mpr z) (by omega)
      obtain ⟨b, bs, rfl, hb2⟩ := hrec hst
      rw [hst, if_neg (by decide)] at hal
      have hal2 : bs.length = mA y := by simpa using hal
      rw [List.reverse_cons, List.append_assoc] at hstk
      have hT : w.1 b = some (mO y, 0) := by rcases hb2 with h9 | h9 <;> first | cases h9 | exact h9
      have hni : (mN y).name ≠ "<init>" := fun z => absurd (hk5.mpr z) (by omega)
      exact x_call (vx_runVN (host := "TwoWires") (As := bs) (rest := rs) (C := (mN y).cls) CF (hM hy l hlst D cy B) ⟨⟨⟨rfl, rfl, by show mF y + 1 ≤ _; omega, by show 8 + (mL y + 11) + mW y ≤ _; omega, sub_of (as := []) (U := s) hG hy, by rw [mWd_code hhd]; exact List.mem_cons_self⟩, hG _ (w_code0 hy hhd), hG _ (w_init hy), g34, hlen9, va_Nw.use rfl (hSf.2.1 _ hw rfl)⟩, hG _ (w_inst hy hst), hG _ (w_sel hy hst hni)⟩ ⟨cPc_blind, by rw [g1]; exact hvirt b hy hst hT, hPcU⟩ rfl hal2 rfl (by show st = _; rw [hstk]; rfl) (hrest _ hr1) hd ⟨hc1, hs1⟩) hS k kx
    · cases h
  | invokespecial x =>
    simp only [stC] at h
    replace h := ite_some_iff h; obtain ⟨rfl, h⟩ := h
    split at h
    · next y' hcr =>
      replace h := ite_some_iff h; obtain ⟨hst, h⟩ := h
      obtain ⟨as', r', ho, hstk, hal, hf1, hl1, hr1, hen, hrec⟩ := cls1_inv h
      cases ho
      obtain ⟨hy, hk4, hk5, g1, g34, hlen9⟩ := hdat x 5 hcr (by omega)
      obtain ⟨nn, hw⟩ := cR_ok hcr
      have hhd : mH y = [] := Classical.byContradiction fun z => absurd (hk4.mpr z) (by omega)
      obtain ⟨b, bs, rfl, hb2⟩ := hrec hst
      rw [hst, if_neg (by decide)] at hal
      have hal2 : bs.length = mA y := by simpa using hal
      rw [List.reverse_cons, List.append_assoc] at hstk
      have hni : (mN y).name = "<init>" := hk5.mp (by omega)
      have hrn : mR y = none := mT_initR _ (mE_mem hy) hni
      exact x_call (vx_runI (As := bs) (rest := rs) (b := b) CF (hM hy l hlst D cy B) ⟨⟨rfl, rfl, by show mF y + 1 ≤ _; omega, by show 8 + (mL y + 11) + mW y ≤ _; omega, sub_of (as := []) (U := s) hG hy, by rw [mWd_code hhd, hrn]; exact List.mem_cons_self, by rw [← hrn]; exact hG _ (w_code0 hy hhd), hG _ (w_init hy), g34, hlen9, hG _ (mem_goodL hw rfl)⟩, hni, hG _ (w_inst hy hst)⟩ ⟨cPc_blind, hPcU⟩ rfl hal2 rfl (by show st = _; rw [hstk]; rfl) (hrest _ hr1) hd ⟨hc1, hs1⟩) hS k kx
    · next y' hcr =>
      replace h := ite_some_iff h; obtain ⟨hst, h⟩ := h
      obtain ⟨as', r', ho, hstk, hal, hf1, hl1, hr1, hen, hrec⟩ := cls1_inv h
      cases ho
      obtain ⟨hy, hk4, hk5, g1, g34, hlen9⟩ := hdat x 6 hcr (by omega)
      obtain ⟨nn, hw⟩ := cR_ok hcr
      have hhd : mH y = [] := Classical.byContradiction fun z => absurd (hk4.mpr z) (by omega)
      obtain ⟨b, bs, rfl, hb2⟩ := hrec hst
      rw [hst, if_neg (by decide)] at hal
      have hal2 : bs.length = mA y := by simpa using hal
      rw [List.reverse_cons, List.append_assoc] at hstk
      have hni : (mN y).name = "<init>" := hk5.mp (by omega)
      have hrn : mR y = none := mT_initR _ (mE_mem hy) hni
      exact x_call (vx_runIN (host := "TwoWires") (As := bs) (rest := rs) (b := b) CF (hM hy l hlst D cy B) ⟨⟨⟨rfl, rfl, by show mF y + 1 ≤ _; omega, by show 8 + (mL y + 11) + mW y ≤ _; omega, sub_of (as := []) (U := s) hG hy, by rw [mWd_code hhd, hrn]; exact List.mem_cons_self⟩, by rw [← hrn]; exact hG _ (w_code0 hy hhd), hG _ (w_init hy), g34, hlen9, va_Nw.use rfl (hSf.2.1 _ hw rfl)⟩, hni, hG _ (w_inst hy hst)⟩ ⟨cPc_blind, hPcU⟩ rfl hal2 rfl (by show st = _; rw [hstk]; rfl) (hrest _ hr1) hd ⟨hc1, hs1⟩) hS k kx
    · cases h
  | invokestatic x =>
    simp only [stC] at h
    replace h := ite_some_iff h; obtain ⟨rfl, h⟩ := h
    split at h
    · next y' hcr =>
      replace h := ite_some_iff h; obtain ⟨hst, h⟩ := h
      obtain ⟨as', r', ho, hstk, hal, hf1, hl1, hr1, hen, hrec⟩ := cls1_inv h
      cases ho
      obtain ⟨hy, hk4, hk5, g1, g34, hlen9⟩ := hdat x 2 hcr (by omega)
      obtain ⟨nn, hw⟩ := cR_ok hcr
      have hhd : mH y = [] := Classical.byContradiction fun z => absurd (hk4.mpr z) (by omega)
      rw [hst, if_pos rfl] at hal
      exact x_call (vx_runS (As := as) (rest := rs) CF (hM hy l hlst D cy B) ⟨⟨rfl, rfl, by show mF y + 1 ≤ _; omega, by show 8 + (mL y + 11) + mW y ≤ _; omega, sub_of (as := []) (U := s) hG hy, by rw [mWd_code hhd]; exact List.mem_cons_self, hG _ (w_code0 hy hhd), hG _ (w_init hy), g34, hlen9, hG _ (mem_goodL hw rfl)⟩, hG _ (w_static hy hst)⟩ ⟨cPc_blind, hPcU⟩ rfl hal rfl hstk (hrest _ hr1) hd ⟨hc1, hs1⟩) hS k kx
    · next y' hcr =>
      replace h := ite_some_iff h; obtain ⟨hst, h⟩ := h
      obtain ⟨as', r', ho, hstk, hal, hf1, hl1, hr1, hen, hrec⟩ := cls1_inv h
      cases ho
      obtain ⟨hy, hk4, hk5, g1, g34, hlen9⟩ := hdat x 3 hcr (by omega)
      obtain ⟨nn, hw⟩ := cR_ok hcr
      have hhd : mH y = [] := Classical.byContradiction fun z => absurd (hk4.mpr z) (by omega)
      rw [hst, if_pos rfl] at hal
      exact x_call (vx_runSN (host := "TwoWires") (As := as) (rest := rs) CF (hM hy l hlst D cy B) ⟨⟨⟨rfl, rfl, by show mF y + 1 ≤ _; omega, by show 8 + (mL y + 11) + mW y ≤ _; omega, sub_of (as := []) (U := s) hG hy, by rw [mWd_code hhd]; exact List.mem_cons_self⟩, hG _ (w_code0 hy hhd), hG _ (w_init hy), g34, hlen9, va_Nw.use rfl (hSf.2.1 _ hw rfl)⟩, hG _ (w_static hy hst), trivial⟩ ⟨cPc_blind, hPcU⟩ rfl hal rfl hstk (hrest _ hr1) hd ⟨hc1, hs1⟩) hS k kx
    · next y' hcr =>
      replace h := ite_some_iff h; obtain ⟨hst, h⟩ := h
      obtain ⟨as', r', ho, hstk, hal, hf1, hl1, hr1, hen, hrec⟩ := cls1_inv h
      cases ho
      obtain ⟨hy, hk4, hk5, g1, g34, hlen9⟩ := hdat x 4 hcr (by omega)
      obtain ⟨nn, hw⟩ := cR_ok hcr
      have hhd : mH y ≠ [] := hk4.mp rfl
      rw [hst, if_pos rfl] at hal
      exact x_call (vx_runSX (As := as) (rest := rs) CF (hM hy l hlst D cy B) ⟨⟨rfl, rfl, by show mF y + 1 ≤ _; omega, by show 8 + (mL y + 11) + mW y ≤ _; omega, sub_of (as := []) (U := s) hG hy, by rw [mWd_codeW hhd]; exact List.mem_cons_self⟩, hG _ (w_codeW hy hhd), hG _ (w_init hy), g34, hlen9, hG _ (mem_goodL hw rfl), hG _ (w_static hy hst)⟩ ⟨cPc_blind, hPcU⟩ rfl hal rfl hstk (hrest _ hr1) hd ⟨hc1, hs1⟩) hS k kx
    · cases h
  | _ => simp only [stC] at h; cases h
end XC
end
section
theorem Hp_throw {D : va_G} {cy : Nat → ClassId} {B : Nat} {s : State} {H H1 : Heap} {w : Wd} {I : MI} {L : ML} {P : MP} (h : Hp D cy B s H w I L P) (hz : H.size ≤ H1.size) (oq : ∀ q : Nat, q < H.size → H1[q]? = H[q]?) : Hp D cy B s H1 (thrT w) I L P := by
  obtain ⟨g0, g1, g2, g3, g4, g5, g6⟩ := h
  have kp : ∀ z : Nat, z < H.size → ¬ wA B z → H1[z]? = H[z]? := fun z hz _ => oq z hz
  refine ⟨g0, fun b k n hb hk => ?_, fun b n hb => ?_, fun q hq => ?_, by omega, g5.kept kp, g6.kept kp⟩
  · obtain ⟨q1, q2⟩ := g1 b k n hb hk
    exact ⟨q1.kept (oq b q1.lt), q2⟩
  · obtain ⟨q1, q2⟩ := g2 b n hb
    exact ⟨q1.kept (oq b (by omega)), q2⟩
  · cases hq
def xIx (e : Nat) : Nat := if e = 0 then 110 else if e = 1 then 67 else 149
def xNm : List String := ["java/lang/RuntimeException", "java/lang/Exception"]
theorem xw_good : ∀ e, e < 3 → ∀ w ∈ (vx_atS (oN 6) (xIx e) (eN e) xNm).filter goodWord, w ∈ goodL := by decide +kernel
theorem xw_bad : ∀ e, e < 3 → ∀ w ∈ (vx_atS (oN 6) (xIx e) (eN e) xNm).filter (fun w => !goodWord w), w = .castable (eN e) (eN e) ∨ (isNest w = true ∧ w ∈ lw_tbl) := by decide +kernel
theorem xw_ot : ∀ e, e < 3 → ∀ w ∈ vx_atS (oN 6) (xIx e) (eN e) xNm, vx_ot w = true := by decide +kernel
theorem xw_ini : ∀ e, e < 3 → Cond.initialized (eN e) ∈ goodL := by decide +kernel
theorem xw_fit : (∀ e, e < 3 → Bundle.fit (eN e) = true) ∧ ∀ n ∈ xNm, Bundle.fit n = true := by decide +kernel
section FR
variable {p : Program} {l : Launch} {e : Env} {R : Room} {s : State} {m : MethodId} {args : Array Value} {below : List Frame} {meth : Method} {c : Code} {Q : State → Prop}
variable {D : va_G} {cy : Nat → ClassId} {B mm c0 s0 : Nat} {r : Rs}
theorem sR_inv {o i : Nat} (h : sR o i = true) : ∃ x ∈ sT, x.1 = o ∧ x.2.1 = i := by
  unfold sR at h
  obtain ⟨x, hx, hp⟩ := List.any_eq_true.mp h
  exact ⟨x, hx, key_inv hp⟩
theorem stT_inv {pc len x : Nat} {i : Instr} {st : List Value} (h : stT mm pc i len st = some x) : ∃ ik is ic, i = .new ik ∧ len = 3 ∧ nR (mO mm) ik = some (100 + x) ∧ x < 3 ∧ decode (mB mm) (pc + 3) = .ok (.dup, 1) ∧ decode (mB mm) (pc + 4) = .ok (.ldc is, 2) ∧ decode (mB mm) (pc + 6) = .ok (.invokespecial ic, 3) ∧ decode (mB mm) (pc + 9) = .ok (.athrow, 1) ∧ sR (mO mm) is = true ∧ mH mm = [] ∧ mO mm = 6 ∧ ic = xIx x ∧ 6 ≤ mF mm ∧ 2 * st.length + 82 ≤ mW mm := by
  cases i with
  | new ik =>
    simp only [stT] at h
    split at h
    · next e' is ic h1 h2 h3 h4 h5 =>
      replace h := ite_some_iff h
      obtain ⟨⟨g1, g2, g3, g4, g5, g6, g7, g8, g9⟩, h⟩ := h
      cases h
      refine ⟨ik, is, ic, rfl, g1, by rw [h1]; congr 1; omega, by omega, h2, h3, h4, h5, g4, g5, g6, ?_, g8, g9⟩
      rw [g7]
      unfold xIx
      have h9 : e' = 100 ∨ e' = 101 ∨ e' = 102 := by omega
      rcases h9 with rfl | rfl | rfl <;> rfl
    · cases h
  | _ => simp only [stT] at h; cases h
theorem hnd_inv {pc x pc' k : Nat} (h : hnd mm pc x = some (pc', k)) : ∃ hh pre suf, mH mm = pre ++ hh :: suf ∧ (hh.1 ≤ pc ∧ pc < hh.2.1 ∧ nR (mO mm) hh.2.2.2 = some (100 + x)) ∧ (∀ z ∈ pre, ¬ (z.1 ≤ pc ∧ pc < z.2.1 ∧ nR (mO mm) z.2.2.2 = some (100 + x))) ∧
    ((∃ j : Fin 4, (j : Nat) = k ∧ decode (mB mm) hh.2.2.1 = .ok (.astore_n j, 1) ∧ pc' = hh.2.2.1 + 1) ∨ (decode (mB mm) hh.2.2.1 = .ok (.astore k, 2) ∧ pc' = hh.2.2.1 + 2)) := by
  unfold hnd at h
  split at h
  · next hh hf =>
    obtain ⟨hp, pre, suf, hsp, hno⟩ := List.find?_eq_some_iff_append.mp hf
    refine ⟨hh, pre, suf, hsp, ?_, fun z hz hq => ?_, ?_⟩
    · simp only [Bool.and_eq_true, decide_eq_true_eq, beq_iff_eq] at hp
      exact ⟨hp.1.1, hp.1.2, hp.2⟩
    · have h9 := hno z hz
      simp only [Bool.not_eq_true', Bool.and_eq_false_iff, decide_eq_false_iff_not, beq_eq_false_iff_ne] at h9
      rcases h9 with (h9 | h9) | h9
      · exact h9 hq.1
      · exact h9 hq.2.1
      · exact h9 hq.2.2
    · split at h
      · next j hd => cases h; exact Or.inl ⟨j, rfl, hd, rfl⟩
      · next j hd => cases h; exact Or.inr ⟨hd, rfl⟩
      · cases h
  · cases h
set_option maxHeartbeats 8000000 in
/-- a frame of the machine does what the frame of the plain machine does, up to its end -/
theorem frame (hx : p.tables.exec = Jvm.exec) (hlst : l.stackTraces = false) (hb : c.code = mB mm) (hown : s.vm.findClass (oN (mO mm)) = some m.cls) (hG : ∀ w ∈ goodL, w.before args s = true) (hSf : Sf D cy s) (hname : (mN mm).name = "<init>" → meth.name = "<init>") (hml : c.maxLocals = mL mm) (hR : mF mm ≤ R.frames ∧ mW mm ≤ R.locals)
    (htab : mH mm ≠ [] → c.exceptionTable.toList = tableOf (mH mm)) (hhok : ∀ h ∈ mH mm, h.2.2.2 ≠ 0 ∧ ∃ x, x < 3 ∧ nR (mO mm) h.2.2.2 = some (100 + x))
    (hret : ∀ (v : Option Value) (pc : Nat) (i : Instr) (len : Nat) (ls' : Array Slot) (stk : List Value) (H1 : Heap) (locs1 : List Loc) (cells1 slots1 : Nat), r.1 = .inl v → decode (mB mm) pc = .ok (i, len) → stR mm i len stk = some v → Hp D cy B s H1 r.2.1 r.2.2.1 r.2.2.2.1 r.2.2.2.2 → va_S (wA B) s.heap H1 locs1 → cells1 + c0 = r.2.1.2.2.1 → slots1 + s0 = r.2.1.2.2.2 →
      W p l e R s m args below meth c H1 locs1 cells1 slots1 Q (F0 m pc ls' stk))
    (hthr : ∀ (x : Nat) (pc : Nat) (ls' : Array Slot) (stk : List Value) (ce : Cell) (q : Addr) (H1 : Heap) (locs1 : List Loc) (cells1 slots1 : Nat), x < 3 → mH mm = [] → r.1 = .inr x → Hp D cy B s H1 r.2.1 r.2.2.1 r.2.2.2.1 r.2.2.2.2 → va_S (wA B) s.heap H1 locs1 → cells1 + c0 = r.2.1.2.2.1 → slots1 + s0 = r.2.1.2.2.2 → H1[q]? = some ce → ce.vm = .none → s.vm.findClass (eN x) = some ce.cls →
      vx_W p l e R s m args below meth c H1 locs1 cells1 slots1 Q (F0 m pc ls' stk) q)
    (hthN : ∀ (x pc : Nat) (i : Instr) (len : Nat) (ls' : Array Slot) (stk : List Value) (H1 : Heap) (locs1 : List Loc) (cells1 slots1 : Nat) (w : Wd) (I : MI) (L : ML) (P : MP), decode (mB mm) pc = .ok (i, len) → stT mm pc i len stk = some x → ls'.size = c.maxLocals → r = (.inr x, thrT w, I, L, P) → Hp D cy B s H1 w I L P → va_S (wA B) s.heap H1 locs1 → cells1 + c0 = w.2.2.1 → slots1 + s0 = w.2.2.2 →
      W p l e R s m args below meth c H1 locs1 cells1 slots1 Q (F0 m pc ls' stk))
    (hRc : r.2.1.2.2.1 ≤ R.cells + c0) (hRs : r.2.1.2.2.2 ≤ R.slots + s0) (N : Nat)
    (hcall : ∀ n', n' < N → ∀ (y : Nat) (as : List Value) (w : Wd) (I : MI) (L : ML) (P : MP) (r : Rs), y < 225 → (entA as).length ≤ mL y → exec n' y 0 (ent as (mL y)) [] w I L P = some r → SimC y as w I L P r) :
    ∀ n, n ≤ N → ∀ (pc : Nat) (ls st : List Value) (w : Wd) (I : MI) (L : ML) (P : MP) (lsM : Array Slot) (H : Heap) (locs : List Loc) (cells slots : Nat), exec n mm pc ls st w I L P = some r → lvr ls lsM (mL mm) → Hp D cy B s H w I L P → va_S (wA B) s.heap H locs → cells + c0 = w.2.2.1 → slots + s0 = w.2.2.2 →
      W p l e R s m args below meth c H locs cells slots Q (F0 m pc lsM st) := by
  intro n
  induction n with
  | zero => intro _ pc ls st w I L P lsM H locs cells slots h; cases h
  | succ n ih =>
    intro hn pc ls st w I L P lsM H locs cells slots h hl hH hS hc hs
    have ih := ih (by omega)
    unfold exec at h
    have hsz : c.maxLocals = lsM.size := by rw [hml]; exact hl.1.1.symm
    cases hstp : stp mm pc ls st w I L P with
    | none => rw [hstp] at h; cases h
    | some o =>
      rw [hstp] at h
      unfold stp at hstp
      cases hd : decode (mB mm) pc with
      | error _ => rw [hd] at hstp; cases hstp
      | ok il =>
        obtain ⟨i, len⟩ := il
        rw [hd] at hstp
        simp only at hstp
        cases hA : stA (mO mm) pc i len ls st with
        | some o3 =>
          rw [hA] at hstp
          obtain ⟨pc', ls', st'⟩ := o3
          cases hstp
          exact simA hx hb hown (fun w hw hg => hG w (mem_goodL hw hg)) hd hl hA (fun lsM' hl' => ih pc' ls' st' w I L P lsM' H locs cells slots h hl' hH hS hc hs)
        | none =>
          rw [hA] at hstp
          simp only at hstp
          cases hM : stM mm pc i len st w I L P with
          | some o6 =>
            rw [hM] at hstp
            obtain ⟨pc', st', w', I', L', P'⟩ := o6
            cases hstp
            have hmo := exec_mono _ _ _ _ _ _ _ _ _ _ h
            exact simM hx hb hown hG hSf hname hsz hR hH hS hd hM hc hs (by simp only; omega) (by simp only; omega) (fun H1 locs1 cells1 slots1 q1 q2 q3 q4 => ih pc' ls st' w' I' L' P' lsM H1 locs1 cells1 slots1 h hl q1 q2 q3 q4)
          | none =>
            rw [hM] at hstp
            simp only at hstp
            cases hC : stC mm i len st w with
            | some o2 =>
              rw [hC] at hstp
              obtain ⟨y, as, rs⟩ := o2
              cases hstp
              simp only at h
              have hen : (entA as).length ≤ mL y := by
                have key : ∀ virt, cls1 mm y st w virt = some (y, as, rs) → (entA as).length ≤ mL y := by
                  intro virt hv
                  obtain ⟨as', r', ho, -, -, -, -, -, h9, -⟩ := cls1_inv hv
                  cases ho; exact h9
                have out : ∀ y' virt, cls1 mm y' st w virt = some (y, as, rs) → y' = y := by
                  intro y' virt hv
                  obtain ⟨as', r', ho, -⟩ := cls1_inv hv
                  cases ho; rfl
                unfold stC at hC
                repeat' (first | (cases hC; done) | (have h9 := out _ _ hC; subst h9; exact key _ hC) | (replace hC := (ite_some_iff hC).2) | split at hC)
              cases hx1 : exec n y 0 (ent as (mL y)) [] w I L P with
              | none => rw [hx1] at h; cases h
              | some r1 =>
                have hmo1 := exec_mono _ _ _ _ _ _ _ _ _ _ hx1
                rw [hx1] at h
                have hSim : y < 225 → SimC y as w I L P r1 := fun hy => hcall n (by omega) y as w I L P r1 hy hen hx1
                obtain ⟨o1, w', I', L', P'⟩ := r1
                simp only at hmo1
                cases o1 with
                | inl v =>
                  simp only at h
                  have hmo2 := exec_mono _ _ _ _ _ _ _ _ _ _ h
                  refine simC hx hlst hb hown hG hSf hsz hR hH hS hd hC hSim (by simp only; omega) (by simp only; omega) (fun v2 H1 locs1 hv q1 q2 => ?_) (fun x ce q H1 locs1 _ hxx _ _ _ _ _ => by cases hxx)
                  cases hv
                  exact ih (pc + 3) ls (v.toList ++ rs) w' I' L' P' lsM H1 locs1 _ _ h hl q1 q2 (by simp only; omega) (by simp only; omega)
                | inr x =>
                  simp only at h
                  have hmo2 : w'.2.2.1 ≤ r.2.1.2.2.1 ∧ w'.2.2.2 ≤ r.2.1.2.2.2 := by
                    split at h
                    · cases h; exact ⟨Nat.le_refl _, Nat.le_refl _⟩
                    · split at h
                      · obtain ⟨-, h⟩ := ite_some_iff h
                        exact exec_mono _ _ _ _ _ _ _ _ _ _ h
                      · cases h
                  refine simC hx hlst hb hown hG hSf hsz hR hH hS hd hC hSim (by simp only; omega) (by simp only; omega) (fun v2 H1 locs1 hv q1 q2 => by cases hv) (fun x2 ce q H1 locs1 hx3 hxx q1 q2 q3 q4 q5 => ?_)
                  cases hxx
                  simp only at q1
                  cases hmh : mH mm with
                  | nil =>
                    rw [hmh] at h
                    simp only at h
                    cases h
                    exact hthr x pc lsM rs ce q H1 locs1 _ _ hx3 hmh rfl q1 q2 (by simp only; omega) (by simp only; omega) q3 q4 q5
                  | cons h0 ht =>
                    rw [hmh] at h
                    simp only at h
                    cases hh : hnd mm pc x with
                    | none => rw [hh] at h; cases h
                    | some pk =>
                      rw [hh] at h
                      obtain ⟨pc', k⟩ := pk
                      simp only at h
                      obtain ⟨hkl, h⟩ := ite_some_iff h
                      obtain ⟨hd2, pre, suf, hsp, ⟨c1, c2, c3⟩, hno, hdec⟩ := hnd_inv hh
                      have hlen := hl.2
                      have hnm : ∀ j, (Cond.classLink (oN (mO mm)) j (eN x)) ∈ lw_tbl → (Cond.classLink (oN (mO mm)) j (eN x)).before args s = true := fun j hj => hG _ (mem_goodL hj rfl)
                      have hlnk : ∀ (j z : Nat), z < 3 → nR (mO mm) j = some (100 + z) → Cond.classLink (oN (mO mm)) j (eN z) ∈ lw_tbl := by
                        intro j z hz hj
                        have h9 := nR_ok hj
                        rw [if_neg (by omega), show 100 + z - 100 = z by omega] at h9
                        exact h9
                      have hcast : (Cond.castable (eN x) (eN x)).before args s = true := by
                        have h9 := hSf.2.2.2.2 x hx3 x hx3
                        rw [if_pos rfl] at h9
                        exact va_Nw.use rfl h9
                      have hmm : hd2 ∈ mH mm := by rw [hsp]; exact List.mem_append_right _ List.mem_cons_self
                      refine vx_catch (own := oN (mO mm)) (name := eN x) (E := eN x) hown (tableOf pre) ⟨hd2.1, hd2.2.1, hd2.2.2.1, hd2.2.2.2⟩ (tableOf suf) (by rw [htab (by rw [hmh]; exact List.cons_ne_nil _ _), hsp]; simp [tableOf]) (fun z hz => ?_) (by show (decide (hd2.1 ≤ pc) && decide (pc < hd2.2.1)) = true; simp [c1, c2]) (hhok hd2 hmm).1 (hG _ (mem_goodL (hlnk _ _ hx3 c3) rfl)) hcast q3 q4 q5 ?_
                      · obtain ⟨z0, hz0, rfl⟩ := List.mem_map.mp hz
                        obtain ⟨g1, x9, g2, g3⟩ := hhok z0 (by rw [hsp]; exact List.mem_append_left _ hz0)
                        by_cases hcv : covers (⟨z0.1, z0.2.1, z0.2.2.1, z0.2.2.2⟩ : ExceptionTableEntry) pc = false
                        · exact Or.inl hcv
                        · refine Or.inr ⟨g1, eN x9, hG _ (mem_goodL (hlnk _ _ g2 g3) rfl), ?_⟩
                          have hcv2 : z0.1 ≤ pc ∧ pc < z0.2.1 := by simpa [covers] using hcv
                          have hne : x ≠ x9 := fun hq => hno z0 hz0 ⟨hcv2.1, hcv2.2, by rw [hq]; exact g3⟩
                          have h9 := hSf.2.2.2.2 x hx3 x9 g2
                          rw [if_neg hne] at h9
                          exact h9
                      · rcases hdec with ⟨j, rfl, hda, rfl⟩ | ⟨hda, rfl⟩
                        · exact lv_astore_n hx hb hda rfl hl.1 (by omega) rfl (fun ls9 hq9 => ih _ _ _ _ _ _ _ ls9 H1 locs1 _ _ h (lvr_of1 hl (Or.inr rfl) hq9) q1 q2 (by simp only; omega) (by simp only; omega))
                        · exact lv_astore hx hb hda hl.1 (by omega) rfl (fun ls9 hq9 => ih _ _ _ _ _ _ _ ls9 H1 locs1 _ _ h (lvr_of1 hl (Or.inr rfl) hq9) q1 q2 (by simp only; omega) (by simp only; omega))
            | none =>
              rw [hC] at hstp
              simp only at hstp
              cases hRt : stR mm i len st with
              | some v =>
                rw [hRt] at hstp
                cases hstp
                cases h
                exact hret v pc i len lsM st H locs cells slots rfl hd hRt hH hS hc hs
              | none =>
                rw [hRt] at hstp
                simp only at hstp
                cases hTt : stT mm pc i len st with
                | some x =>
                  rw [hTt] at hstp
                  cases hstp
                  cases h
                  exact hthN x pc i len lsM st H locs cells slots w I L P hd hTt hsz.symm rfl hH hS hc hs
                | none =>
                  rw [hTt] at hstp
                  cases hstp
end FR
end
section
theorem entA_len (vs : List Value) : (entA vs).length = (lg_sl vs).length := by
  induction vs with
  | nil => rfl
  | cons v vs ih =>
    by_cases h : v.category = 2
    · simp only [entA, h, if_true, lg_sl, List.flatMap_cons, List.length_cons, List.length_append, List.length_nil]
      have : (lg_sl vs).length = (List.flatMap (fun v => if v.category = 2 then [Slot.val v, Slot.second] else [Slot.val v]) vs).length := rfl
      omega
    · simp only [entA, h, if_false, lg_sl, List.flatMap_cons, List.length_cons, List.length_append, List.length_nil]
      have : (lg_sl vs).length = (List.flatMap (fun v => if v.category = 2 then [Slot.val v, Slot.second] else [Slot.val v]) vs).length := rfl
      omega
theorem lget_nil (n j : Nat) (u : Value) : lget (List.replicate n unk) j ≠ some u := by
  intro h
  obtain ⟨h1, h2⟩ := lget_some h
  have h3 := List.eq_of_mem_replicate (List.mem_of_getElem? h1)
  exact h2 h3
theorem lget_cons (v : Value) (ls : List Value) (j : Nat) : lget (v :: ls) (j + 1) = lget ls j := rfl
theorem ent_args (vs : List Value) (n : Nat) : ∀ (k j : Nat) (u : Value), lget (entA vs ++ List.replicate n unk) j = some u → (k + j, u) ∈ lv_args k vs := by
  induction vs with
  | nil => intro k j u h; exact absurd h (lget_nil n j u)
  | cons v vs ih =>
    intro k j u h
    by_cases hc : v.category = 2
    · simp only [entA, hc, if_true, List.cons_append] at h
      simp only [lv_args, hc, if_true]
      match j, h with
      | 0, h =>
        have h1 := (lget_some h).1
        cases h1
        exact List.mem_cons_self
      | 1, h => exact absurd (Option.some.inj (lget_some h).1).symm (lget_some h).2
      | j + 2, h =>
        rw [lget_cons, lget_cons] at h
        have := ih (k + 2) j u h
        rw [show k + 2 + j = k + (j + 2) by omega] at this
        exact List.mem_cons_of_mem _ this
    · simp only [entA, hc, if_false, List.cons_append] at h
      simp only [lv_args, hc, if_false]
      match j, h with
      | 0, h =>
        have h1 := (lget_some h).1
        cases h1
        exact List.mem_cons_self
      | j + 1, h =>
        rw [lget_cons] at h
        have := ih (k + 1) j u h
        rw [show k + 1 + j = k + (j + 1) by omega] at this
        exact List.mem_cons_of_mem _ this
theorem ent_lvr (vs : List Value) {n : Nat} (h : (entA vs).length ≤ n) : lvr (ent vs n) ((lg_sl vs ++ List.replicate (n - (lg_sl vs).length) Slot.unset).toArray) n := by
  have h0 := lv_entry vs (n := n) (by rw [← entA_len]; exact h)
  refine ⟨⟨h0.1, h0.2.1, fun q hq => h0.2.2 q ?_⟩, by unfold ent; simp; omega⟩
  obtain ⟨j, u⟩ := q
  have := ent_args vs _ 0 j u (mem_asc.mp hq)
  rwa [Nat.zero_add] at this
theorem mhok {y : Nat} (hy : y < 225) : ∀ h ∈ mH y, h.2.2.2 ≠ 0 ∧ ∃ x, x < 3 ∧ nR (mO y) h.2.2.2 = some (100 + x) := by
  intro h hh
  obtain ⟨h1, h2⟩ := mT_hnd _ (mE_mem hy) h hh
  refine ⟨h1, ?_⟩
  rcases h2 with h2 | h2 | h2
  · exact ⟨0, by omega, h2⟩
  · exact ⟨1, by omega, h2⟩
  · exact ⟨2, by omega, h2⟩
section TOP
variable {p : Program} {l : Launch} {e : Env} {s : State} {m : MethodId} {args : Array Value} {below : List Frame} {meth : Method} {c : Code}
variable {D : va_G} {cy : Nat → ClassId} {B : Nat} {r : Rs}
theorem stR_end {R : Room} {y pc len : Nat} {i : Instr} {stk : List Value} {v : Option Value} {H : Heap} {locs : List Loc} {cells slots : Nat} {ls' : Array Slot} {Qc : Array Value → State → Outcome → State → Prop} {free : Addr → Prop} (hx : p.tables.exec = Jvm.exec) (hb : c.code = mB y) (hr : meth.sig.returnType = mR y) (hlocks : meth.locks = false) (hd : decode (mB y) pc = .ok (i, len)) (h : stR y i len stk = some v)
    (hq : ∀ t : State, t.heap = H → s.WarmedH t.vm → Qc args s (.returned v) t) (hf : ∀ q ∈ locs, free q.base) : W p l e R s m args below meth c H locs cells slots (MQ below Qc args s cells slots free) (F0 m pc ls' stk) := by
  cases i with
  | return_ => simp only [stR] at h; replace h := ite_some_iff h; obtain ⟨⟨rfl, rfl, h1⟩, h⟩ := h; cases h; exact W.vret hx hb (by rw [hr, h1]) hq hf hd
  | ireturn =>
    simp only [stR] at h; replace h := ite_some_iff h; obtain ⟨rfl, h⟩ := h
    split at h
    · next x =>
      replace h := ite_some_iff h; obtain ⟨h1, h⟩ := h; cases h
      rcases h1 with h1 | ⟨h1, h2⟩
      · exact W.iret hx hb (by rw [hr, h1]) hq hf hd
      · exact W.zret (ty := .boolean) hx hb (by rw [hr, h1]) (by show Value.int (x &&& 1) = _; rw [h2]) hq hf hd
    · cases h
  | lreturn =>
    simp only [stR] at h; replace h := ite_some_iff h; obtain ⟨rfl, h⟩ := h
    split at h
    · replace h := ite_some_iff h; obtain ⟨h1, h⟩ := h; cases h; exact W.lret hx hb (by rw [hr, h1]) hq hf hd
    · cases h
  | dreturn =>
    simp only [stR] at h; replace h := ite_some_iff h; obtain ⟨rfl, h⟩ := h
    split at h
    · replace h := ite_some_iff h; obtain ⟨h1, h⟩ := h; cases h; exact W.dret hx hb (by rw [hr, h1]) hq hf hd
    · cases h
  | areturn =>
    simp only [stR] at h; replace h := ite_some_iff h; obtain ⟨rfl, h⟩ := h
    split at h
    · next a =>
      split at h
      · next C hC => cases h; exact W.aret (rt := .object C) hx hb (by rw [hr, hC]) (Or.inl ⟨C, rfl⟩) (Or.inr ⟨a, rfl⟩) hq hf hd
      · cases h
    · split at h
      · next C hC => cases h; exact W.aret (rt := .object C) hx hb (by rw [hr, hC]) (Or.inl ⟨C, rfl⟩) (Or.inl rfl) hq hf hd
      · cases h
    · cases h
  | _ => simp only [stR] at h; cases h
set_option maxHeartbeats 8000000 in
theorem simStep (N : Nat) (ih : ∀ n', n' < N → ∀ (y : Nat) (as : List Value) (w : Wd) (I : MI) (L : ML) (P : MP) (r : Rs), y < 225 → (entA as).length ≤ mL y → exec n' y 0 (ent as (mL y)) [] w I L P = some r → SimC y as w I L P r) :
    ∀ (y : Nat) (as : List Value) (w : Wd) (I : MI) (L : ML) (P : MP) (r : Rs), y < 225 → (entA as).length ≤ mL y → exec N y 0 (ent as (mL y)) [] w I L P = some r → SimC y as w I L P r := by
  intro y as w I L P r hy hen hex l hlst D cy B
  have hmo := exec_mono _ _ _ _ _ _ _ _ _ _ hex
  obtain ⟨g1, g2, g3, g4, g5, g6⟩ := mT_more _ (mE_mem hy)
  have body : ∀ (p : Program) (e : Env) (s : State) (m : MethodId) (args : Array Value) (below : List Frame) (meth : Method) (c : Code) (s₁ : State), BodyLoose p l (mN y) (headSpec (mWd y) (mRm y (r.2.1.2.2.1 - w.2.2.1) (r.2.1.2.2.2 - w.2.2.2))) (mB y) (mL y) (mR y) e s m args below meth c s₁ → c.maxLocals = mL y → c.exceptionTable.toList = tableOf (mH y) → cPc D cy B as w I L P args s →
      W p l e (mRm y (r.2.1.2.2.1 - w.2.2.1) (r.2.1.2.2.2 - w.2.2.2)) s m args below meth c s.heap [] 0 0 (vx_MQ below (cQc D cy B r) (cXC D cy B r) args s (r.2.1.2.2.1 - w.2.2.1) (r.2.1.2.2.2 - w.2.2.2) (wA B)) (entryFrame m args (mL y)) := by
    intro p e s m args below meth c s₁ Bd hml htab hv
    obtain ⟨rfl, hSf, hH⟩ := hv
    have hts := atoms_spec (ws := mWd y) Bd.pre
    have hG : ∀ w ∈ goodL, w.before as.toArray s = true := fun w hw => hts w (List.mem_cons_of_mem _ hw)
    have hcls : s.vm.findClass (mN y).cls = some m.cls := findClass_of_methodNamed Bd.named
    have hown : s.vm.findClass (oN (mO y)) = some m.cls := by rw [← show (mN y).cls = oN (mO y) from g1]; exact hcls
    have hlocks := Bd.notSynchronized
    have hS0 : va_S (wA B) s.heap s.heap [] := va_S.rf
    rw [lg_entry_eq]
    refine frame (mm := y) (r := r) (c0 := w.2.2.1) (s0 := w.2.2.2) Bd.exec hlst Bd.bytes hown hG hSf (fun hn => (name_of_methodNamed Bd.named Bd.method).1.trans hn) hml ⟨Nat.le_refl _, Nat.le_refl _⟩ (fun _ => htab) (mhok hy) ?_ ?_ ?_ (by show _ ≤ (r.2.1.2.2.1 - w.2.2.1) + _; omega) (by show _ ≤ (r.2.1.2.2.2 - w.2.2.2) + _; omega) N ih N (Nat.le_refl _) 0 (ent as (mL y)) [] w I L P _ s.heap [] 0 0 hex (ent_lvr as hen) hH hS0 (by omega) (by omega)
    · intro v pc i len ls' stk H1 locs1 cells1 slots1 hv hd hsr hH1 hS1 hc1 hs1
      have e1 : cells1 = r.2.1.2.2.1 - w.2.2.1 := by omega
      have e2 : slots1 = r.2.1.2.2.2 - w.2.2.2 := by omega
      rw [← e1, ← e2]
      exact vx_ret (stR_end Bd.exec Bd.bytes Bd.returns hlocks hd hsr (fun t ht hW => ⟨v, hv, rfl, by rw [ht]; exact hH1.moved hW.alike, hS1.F ht⟩) hS1.2.2)
    · intro x pc ls' stk ce q H1 locs1 cells1 slots1 hx3 hmh hv hH1 hS1 hc1 hs1 q1 q2 q3
      refine vx_out (E := eN x) (fun z hz => ?_) hlocks q1 q2 q3 (fun t ht hal => ⟨x, hx3, hv, rfl, by rw [ht]; exact hH1.moved hal, hS1.F ht⟩) hS1.2.2 (by omega) (by omega)
      rw [htab, hmh] at hz
      cases hz
    · intro x pc i len ls' stk H1 locs1 cells1 slots1 w' I' L' P' hd hst hsz hr hH1 hS1 hc1 hs1
      obtain ⟨ik, is, ic, rfl, rfl, hnr, hx3, d3, d4, d6, d9, hsr, hmh, hmo6, rfl, hf6, hw82⟩ := stT_inv hst
      obtain ⟨xs, hxs, hxo, hxi⟩ := sR_inv hsr
      obtain ⟨sa, hsa⟩ := hSf.2.2.2.1 xs hxs
      rw [hxo, hxi] at hsa
      have hcl := nR_ok hnr
      rw [if_neg (by omega), show 100 + x - 100 = x by omega] at hcl
      have hcat := cat_len stk
      have hat : ∀ w ∈ vx_atS (oN (mO y)) (xIx x) (eN x) xNm, w.before as.toArray s = true := by
        rw [hmo6]
        intro w9 hw9
        by_cases g : goodWord w9 = true
        · exact hG _ (xw_good x hx3 w9 (List.mem_filter.mpr ⟨hw9, g⟩))
        · rcases xw_bad x hx3 w9 (List.mem_filter.mpr ⟨hw9, by simpa using g⟩) with rfl | ⟨h1, h2⟩
          · have h9 := hSf.2.2.2.2 x hx3 x hx3
            rw [if_pos rfl] at h9
            exact va_Nw.use rfl h9
          · have h9 := hSf.2.1 w9 h2 h1
            cases w9 <;> simp [isNest] at h1 <;> exact va_Nw.use rfl h9
      have hr1 : r.2.1 = thrT w' := by rw [hr]
      have hr2 : r.2.1.2.2.1 = w'.2.2.1 + 1 := by rw [hr1]; rfl
      have hr3 : r.2.1.2.2.2 = w'.2.2.2 + 6 := by rw [hr1]; rfl
      refine vx_throwS (own := oN (mO y)) (cls := eN x) (names := xNm) (A := wA B) Bd.exec Bd.bytes hlst hown (xw_fit.1 x hx3) xw_fit.2 (hG _ (mem_goodL hcl rfl)) (hG _ (xw_ini x hx3)) hsa hat (fun w9 hw9 => ?_) hH.2.2.2.2.2.1 hH.2.2.2.2.2.2 hS1 hsz hd d3 d4 d6 d9 (fun z hz => by rw [htab, hmh] at hz; cases hz) (by show 2 + 3 < mF y; omega) (by show _ + (13 * (2 + 1) + 43) ≤ mW y; omega) (by show _ ≤ r.2.1.2.2.1 - w.2.2.1; omega) (by show _ ≤ r.2.1.2.2.2 - w.2.2.2; omega) hlocks (fun t hal hz hq => ?_) hS1.2.2 (by omega) (by omega)
      · rcases List.mem_cons.mp hw9 with rfl | hw9
        · rfl
        · rcases List.mem_cons.mp hw9 with rfl | hw9
          · rfl
          · rw [hmo6] at hw9; exact xw_ot x hx3 w9 hw9
      · refine ⟨x, hx3, by rw [hr], rfl, ?_, Nat.le_trans hS1.1 hz, fun q h1 h2 => by rw [hq q (Nat.lt_of_lt_of_le h1 hS1.1)]; exact hS1.2.1 q h1 h2⟩
        rw [hr]
        exact (Hp_throw hH1 hz hq).moved hal
  by_cases hh : mH y = []
  · refine vx_ofW (cc := mB y) (maxL := mL y) (ret := mR y) (by exact g2) (mWd_code hh) (fun p e s m args below meth c s₁ Bd hml htab hv => body p e s m args below meth c s₁ Bd hml ?_ hv)
    rw [hh]
    exact List.eq_nil_iff_forall_not_mem.mpr (fun x hx => htab x hx)
  · refine vx_ofWH (cc := mB y) (maxL := mL y) (ret := mR y) (hh := mH y) (by exact g2) (mWd_codeW hh) (fun p e s m args below meth c s₁ Bd hml hv => body p e s m args below meth c s₁ Bd hml ?_ hv)
    have hts := atoms_spec (ws := mWd y) Bd.pre
    have hcw : Cond.codeWith (mN y) (mB y) (mL y) (mR y) (mH y) ∈ mWd y := by rw [mWd_codeW hh]; exact List.mem_cons_self
    exact vx_table (x := mN y) Bd (hts _ hcw)
theorem sim_all : ∀ (N : Nat) (y : Nat) (as : List Value) (w : Wd) (I : MI) (L : ML) (P : MP) (r : Rs), y < 225 → (entA as).length ≤ mL y → exec N y 0 (ent as (mL y)) [] w I L P = some r → SimC y as w I L P r := by
  intro N
  induction N using Nat.strongRecOn with
  | ind N ih => exact simStep N (fun n' h => ih n' h)
end TOP
end
section
/-! THE CLAIM OUT OF ONE WALK OF THE LAW'S BODY. Your part is whole_start (and what it stands on); all else here is the same for every law, but numbers. -/
def R_law : String := "TwoWiresLaw"
def lw_P (b : Addr) (xs : List Int32) (args : Array Value) (s : State) : Prop := args = #[.ref b] ∧ s.IntsAt b xs ∧ xs.length ≤ 3072 ∧ (Jvm.Cond.and given_1 narrow_1).before args s = true
/-- what a walk over the start with the record d0 says of its end, said of the start itself -/
theorem lw_closed {s t : State} {o : Outcome} {d0 : Drawn} {L : List Loc} {k n : Nat} (hd0 : s.drawn.sameBut d0 lw_cs) (hv : ∃ v, o = .returned v) (hW : (s.setDrawn d0).WarmedH t.vm) (hs : (s.setDrawn d0).sameButNew ({ t with vm := s.vm } : State) L k n) : State.butDraws s t lw_cs (fun t1 => Framed s o t1 L k n) := by
  have h2 : t.drawn = d0 := congrArg State.drawn hs.1
  refine ⟨⟨hv, hW, State.sameButNew.setDrawn hs s.drawn⟩, ?_, by decide⟩
  rw [h2]
  exact hd0
def lw_Q (_ : Array Value) (s : State) (o : Outcome) (t : State) : Prop := o = .returned (some (.int 1)) ∧ State.butDraws s t lw_cs (fun t1 => Framed s o t1 [] 601024 7293033)
def lw_Z (below : List Frame) (a : Array Value) (s : State) : State → Prop := fun t => ∃ o, t.status = .running ∧ Ended t below o ∧ lw_Q a s o t
/-- the law's own end, with 1 on the stack, nothing written that was there before, its room as the claim has it; d0: the record of draws at this point (at the entry s.drawn: begin with 'refine W.base ?_' and 'have hd0 := Drawn.sameBut.refl s.drawn lw_cs') -/
theorem lw_ret {p : Program} {l : Launch} {e : Env} {s : State} {m : MethodId} {below : List Frame} {meth : Method} {c : Code} {b : Nat} {d0 : Drawn} (hd0 : s.drawn.sameBut d0 lw_cs) (hx : p.tables.exec = Jvm.exec) (hb : c.code = code) (hr : meth.sig.returnType = ret) (hlocks : meth.locks = false) {pc : Nat} {H : Heap} {ls : Array Slot} (hdg : decode code pc = .ok (.ireturn, 1)) : W p l e room_1 (s.setDrawn d0) m #[Value.ref b] below meth c H [] 601024 7293033 (lw_Z below #[Value.ref b] s) (F0 m pc ls [.int 1]) := by
  intro T hT X
  obtain ⟨fs, hret, hrun, hended, hW, hframe⟩ := X.leave (v := some (.int 1)) (hlocks := hlocks) (fun h => by rw [hr] at h; cases h)
  have hmeth' : T.vm.method? m = some meth := X.method'
  refine ⟨T.setFrames fs, ?_, .returned (some (.int 1)), hrun, hended, rfl, lw_closed hd0 ⟨_, rfl⟩ hW hframe⟩
  jvm_step X.here [X.here.top, hx, hb, hdg, hmeth', hr, ret, narrow_b1]
  (try refine ⟨rfl, ?_⟩); (try refine ⟨rfl, ?_⟩)
  first | (intro acts; rw [hret _ acts rfl rfl rfl]) | rw [hret _ _ rfl rfl rfl]
  exact Steps.refl _
/-- what holds at the law's entry: the machine, the code, the tables' words (any of lw_tbl by 'hts w (by decide +kernel)'), the script of L ints xs at the cell b, what the Statement gives of the start (any of its parts by flat_of_before) -/
def lw_At (p : Program) (s : State) (m : MethodId) (meth : Method) (c : Code) (b L : Nat) (xs : Nat → Int32) : Prop :=
  p.tables.exec = Jvm.exec ∧ c.code = code ∧ meth.sig.returnType = ret ∧ c.maxLocals = 9 ∧ s.vm.findClass R_law = some m.cls ∧ (∀ w ∈ lw_tbl, w.before #[Value.ref b] s = true) ∧ va_X b L xs s s.heap ∧ b < s.heap.size ∧ meth.locks = false ∧ (Jvm.Cond.and given_1 narrow_1).before #[Value.ref b] s = true
/-- the plain machine's start -/
def w00 (b L B : Nat) : Wd := (fun a => if a = b then some (14, L) else none, some B, 0, 0)
def I00 (b : Nat) (xs : Nat → Int32) : MI := fun a k => if a = b then xs k else 0
def L00 : ML := fun _ _ => 0
def P00 : MP := fun _ _ => none
theorem tab_good : ∀ w ∈ goodL, w ∈ lw_tbl := fun w h => (List.mem_filter.mp h).1
theorem few2 : (∀ ci, ci < 4 → Cond.arrayOver (.object (oN ci)) ∈ lw_tbl) ∧ (∀ x ∈ sT, Cond.stringRef (oN x.1) x.2.1 x.2.2.1 ∈ lw_tbl ∧ x.1 = 6) ∧ (∀ i, i < 3 → Cond.castable (eN i) (eN i) ∈ lw_tbl) ∧ Cond.laysStatic Bundle.tN "UNASSIGNED_STACK" Bundle.steD ∈ lw_tbl ∧ Cond.laysStatic Bundle.tN "SUPPRESSED_SENTINEL" Bundle.listD ∈ lw_tbl ∧ Cond.initialized Bundle.tN ∈ lw_tbl := by decide +kernel
set_option maxRecDepth 100000 in
theorem few3 : (∀ i, i < 3 → ∀ j, j < 3 → i ≠ j → Cond.not (.castable (eN i) (eN j)) ∈ flatC (Jvm.Cond.and given_1 narrow_1)) ∧ Cond.isRef (.static Bundle.tN "UNASSIGNED_STACK" Bundle.steD) ∈ flatC (Jvm.Cond.and given_1 narrow_1) ∧ Cond.isRef (.static Bundle.tN "SUPPRESSED_SENTINEL" Bundle.listD) ∈ flatC (Jvm.Cond.and given_1 narrow_1) := by decide +kernel
def arrTy (k : Nat) : FieldType := if k = 8 then .int else if k = 9 then .long else .object (oN (k - 10))
section TOP2
variable {p : Program} {e : Env} {s : State} {m : MethodId} {below : List Frame} {meth : Method} {c : Code}
theorem start_Sf {args : Array Value} (hts : ∀ w ∈ lw_tbl, w.before args s = true) (hgv : (Jvm.Cond.and given_1 narrow_1).before args s = true) : ∃ (D : va_G) (cy : Nat → ClassId), Sf D cy s := by
  have hG : ∀ w ∈ goodL, w.before args s = true := fun w hw => hts w (tab_good w hw)
  have hn := flat_of_before _ hgv
  have hcl : ∀ ci, ∃ q : ClassId × (Nat → Nat), ci < 8 → u_Kn s (oN ci) (tN_ ci) (nF ci) q.1 q.2 := by
    intro ci
    by_cases h : ci < 8
    · obtain ⟨cC, iS, hK⟩ := u_known hG (uws_ok ci h) (hts _ (List.mem_of_getElem? (iT_ok ci h).1))
      exact ⟨(cC, iS), fun _ => hK⟩
    · exact ⟨(0, fun _ => 0), fun z => absurd z h⟩
  have hKc : ∀ (k : Nat) (q : vw_C), vwCl[k]? = some q → u_Kn s q.1 q.2.1 q.2.2 (Classical.choose (hcl k)).1 (Classical.choose (hcl k)).2 := by
    intro k q hq
    have h8 : k < 8 := (List.getElem?_eq_some_iff.mp hq).1
    have h9 := Classical.choose_spec (hcl k) h8
    rw [vw_ok k h8] at hq
    cases hq
    exact h9
  have harr : ∀ k, ∃ cA : ClassId, 8 ≤ k → k < 14 → ArrOfT s cA (arrTy k) ∧ va_RA s cA (arrTy k) := by
    intro k
    by_cases h8 : k = 8
    · subst h8
      obtain ⟨cA, kA, comp, h1, h2, h3⟩ := Cond.arrayClass_spec (hts (.arrayClass .int) (few_ok _ (by simp)).1)
      exact ⟨cA, fun _ _ => (show ArrOfT s cA .int ∧ va_RA s cA .int from ⟨fun n z => ⟨fun k h => (by cases h), kA, h2, comp, h3⟩, h1⟩)⟩
    · by_cases h9 : k = 9
      · subst h9
        obtain ⟨cA, kA, comp, h1, h2, h3⟩ := Cond.arrayClass_spec (hts (.arrayClass .long) (few_ok _ (by simp)).1)
        exact ⟨cA, fun _ _ => (show ArrOfT s cA .long ∧ va_RA s cA .long from ⟨fun n z => ⟨fun k h => (by cases h), kA, h2, comp, h3⟩, h1⟩)⟩
      · by_cases hk : 10 ≤ k ∧ k < 14
        · obtain ⟨comp, cA, kA, h1, h2, h3, h4, h5⟩ := Cond.arrayOver_spec (hts _ (few2.1 (k - 10) (by omega)))
          refine ⟨cA, fun _ _ => ?_⟩
          unfold arrTy
          rw [if_neg h8, if_neg h9]
          exact ⟨fun n z => ⟨fun k h => (by cases h), kA, h3, comp, h4⟩, kA, comp, h3, h4, h1, h5⟩
        · exact ⟨0, fun z1 z2 => by omega⟩
  refine ⟨(fun k => (Classical.choose (hcl k)).1, fun k => (Classical.choose (hcl k)).2), fun k => Classical.choose (harr k), ⟨hKc, fun k q hk => ?_⟩, fun w hw hn => ?_, fun ci hci => va_AO.of (A := args) ?_, fun x hx => ?_, fun i hi j hj => ?_⟩
  · have hl : k < 6 := (List.getElem?_eq_some_iff.mp hk).1
    have h9 := Classical.choose_spec (harr (k + 8)) (by omega) (by omega)
    have h6 : k = 0 ∨ k = 1 ∨ k = 2 ∨ k = 3 ∨ k = 4 ∨ k = 5 := by omega
    rcases h6 with rfl | rfl | rfl | rfl | rfl | rfl <;> cases hk <;> exact h9
  · have h9 := hts w hw
    cases w <;> simp [isNest] at hn <;> exact va_Nw.of rfl h9
  · exact hts _ (few2.1 ci hci)
  · obtain ⟨h1, h2⟩ := few2.2.1 x hx
    have h3 := hts _ h1
    obtain ⟨k, cf, i, a, -, -, -, -, -, ha⟩ := Cond.stringRef_spec (cur := (Classical.choose (hcl 6)).1) (by rw [h2]; exact (Classical.choose_spec (hcl 6) (by omega)).2.1) h3
    exact ⟨a, vk_R.of (A := args) h3 ha⟩
  · by_cases hij : i = j
    · subst hij
      rw [if_pos rfl]
      exact va_Nw.of rfl (hts _ (few2.2.2.1 i hi))
    · rw [if_neg hij]
      exact va_Nc.of (hn _ (few3.1 i hi j hj hij))
set_option maxHeartbeats 4000000 in
/-- the law's walk out of a run of the plain machine -/
theorem law_of (l : Launch) (hflags : l.flags = flags0) {b L : Nat} {xs : Nat → Int32} (hL : L ≤ 3072) (C0 : lw_At p s m meth c b L xs) {n : Nat} {w1 : Wd} {I1 : MI} {L1 : ML} {P1 : MP}
    (h : exec n 225 0 (ent [.ref b] 9) [] (w00 b L s.heap.size) (I00 b xs) L00 P00 = some (.inl (some (.int 1)), w1, I1, L1, P1)) (hk1 : w1.2.2.1 ≤ 601024) (hk2 : w1.2.2.2 ≤ 7293033) :
    W p l e room_1 s m #[Value.ref b] below meth c s.heap [] 0 0 (lw_Z below #[Value.ref b] s) (entryFrame m ([Value.ref b] : List Value).toArray 9) := by
  obtain ⟨hx, hb, hr, hml, hown, hts, hX, hbl, hlocks, hgv⟩ := id C0
  have hG : ∀ w ∈ goodL, w.before #[Value.ref b] s = true := fun w hw => hts w (tab_good w hw)
  obtain ⟨D, cy, hSf⟩ := start_Sf hts hgv
  have hn := flat_of_before _ hgv
  have hA : ∀ a : Nat, a < s.heap.size → ¬ wA s.heap.size a := fun a h z => by unfold wA at z; omega
  have hH : Hp D cy s.heap.size s s.heap (w00 b L s.heap.size) (I00 b xs) L00 P00 := by
    refine ⟨fun a k n ha => ?_, fun a k n ha hk => ?_, fun a n ha => ?_, fun q hq => (Option.some.inj hq).symm, Nat.le_refl _, vx_Zqof (hts _ few2.2.2.2.1) (hts _ few2.2.2.2.2.2) (hn _ few3.2.1) hA, vx_Zqof (hts _ few2.2.2.2.2.1) (hts _ few2.2.2.2.2.2) (hn _ few3.2.2) hA⟩
    · unfold w00 at ha
      simp only at ha
      split at ha
      · cases ha; omega
      · cases ha
    · unfold w00 at ha
      simp only at ha
      split at ha
      · cases ha; omega
      · cases ha
    · unfold w00 at ha
      simp only at ha
      split at ha
      · next hab =>
        cases ha
        subst hab
        refine ⟨?_, hbl⟩
        have e9 : I00 a xs a = xs := by funext k; simp [I00]
        rw [e9]
        exact hX
      · cases ha
  rw [lg_entry_eq]
  have hfl : l.stackTraces = false := by
    unfold Launch.stackTraces
    rw [hflags]
    decide +kernel
  refine frame (mm := 225) (r := (.inl (some (.int 1)), w1, I1, L1, P1)) (c0 := 0) (s0 := 0) (D := D) (cy := cy) (B := s.heap.size) hx hfl hb hown hG hSf (fun hn => absurd hn (by decide +kernel)) hml ⟨by decide +kernel, by decide +kernel⟩ (fun hn => absurd rfl hn) (fun z hz => by cases hz) ?_ ?_ ?_ (by show w1.2.2.1 ≤ 601024 + 0; omega) (by show w1.2.2.2 ≤ 7293033 + 0; omega) n (fun n' _ => sim_all n') n (Nat.le_refl _) 0 (ent [.ref b] 9) [] (w00 b L s.heap.size) (I00 b xs) L00 P00 _ s.heap [] 0 0 h (ent_lvr [.ref b] (Nat.le_of_ble_eq_true rfl)) hH va_S.rf rfl rfl
  · intro v pc i len ls' stk H1 locs1 cells1 slots1 hv hd hsr hH1 hS1 hc1 hs1
    cases hv
    cases i with
    | ireturn =>
      simp only [stR] at hsr; replace hsr := ite_some_iff hsr; obtain ⟨rfl, hsr⟩ := hsr
      split at hsr
      · next x =>
        replace hsr := ite_some_iff hsr; obtain ⟨-, hsr⟩ := hsr; cases hsr
        refine va_forget (fun q hq => hS1.2.2 q hq) (W.widen (k := 601024) (n := 7293033) (by simp only at hc1; omega) (by simp only at hs1; omega) ?_)
        exact lw_ret (d0 := s.drawn) (Drawn.sameBut.refl s.drawn lw_cs) hx hb hr hlocks hd
      · cases hsr
    | return_ => simp only [stR] at hsr; replace hsr := (ite_some_iff hsr).2; cases hsr
    | lreturn =>
      simp only [stR] at hsr; replace hsr := (ite_some_iff hsr).2
      split at hsr
      · replace hsr := (ite_some_iff hsr).2; cases hsr
      · cases hsr
    | dreturn =>
      simp only [stR] at hsr; replace hsr := (ite_some_iff hsr).2
      split at hsr
      · replace hsr := (ite_some_iff hsr).2; cases hsr
      · cases hsr
    | areturn =>
      simp only [stR] at hsr; replace hsr := (ite_some_iff hsr).2
      split at hsr
      · split at hsr <;> cases hsr
      · split at hsr <;> cases hsr
      · cases hsr
    | _ => simp only [stR] at hsr; cases hsr
  · intro x pc ls' stk ce q H1 locs1 cells1 slots1 _ _ hv
    cases hv
  · intro x pc i len ls' stk H1 locs1 cells1 slots1 w' I' L' P' hd hst
    obtain ⟨_, _, _, _, _, _, _, _, _, _, _, _, _, hmo, _⟩ := stT_inv hst
    exact absurd hmo (by decide +kernel)
end TOP2
end
section
-- the plain machine's runs as equations
theorem exec_up : ∀ (n m pc : Nat) (ls st : List Value) (w : Wd) (I : MI) (L : ML) (P : MP) (r : Rs), exec n m pc ls st w I L P = some r → exec (n + 1) m pc ls st w I L P = some r := by
  intro n
  induction n with
  | zero => intro m pc ls st w I L P r h; cases h
  | succ n ih =>
    intro m pc ls st w I L P r h
    rw [exec] at h ⊢
    split at h
    · cases h
    · next pc' ls' st' w' I' L' P' hs => exact ih _ _ _ _ _ _ _ _ _ h
    · next r' hs => exact h
    · next y as rs hs =>
      split at h
      · cases h
      · next v w' I' L' P' hx =>
        rw [ih _ _ _ _ _ _ _ _ _ hx]
        exact ih _ _ _ _ _ _ _ _ _ h
      · next x w' I' L' P' hx =>
        rw [ih _ _ _ _ _ _ _ _ _ hx]
        simp only
        split at h
        · exact h
        · split at h
          · next pc' k hh =>
            obtain ⟨h1, h2⟩ := ite_some_iff h
            rw [if_pos h1]
            exact ih _ _ _ _ _ _ _ _ _ h2
          · cases h
theorem exec_le {n k m pc : Nat} {ls st : List Value} {w : Wd} {I : MI} {L : ML} {P : MP} {r : Rs} (h : exec n m pc ls st w I L P = some r) (hk : n ≤ k) : exec k m pc ls st w I L P = some r := by
  induction hk with
  | refl => exact h
  | step _ ih => exact exec_up _ _ _ _ _ _ _ _ _ _ ih
theorem exec_det {n k m pc : Nat} {ls st : List Value} {w : Wd} {I : MI} {L : ML} {P : MP} {r r' : Rs} (h : exec n m pc ls st w I L P = some r) (h' : exec k m pc ls st w I L P = some r') : r = r' := by
  have h1 := exec_le h (Nat.le_max_left n k)
  have h2 := exec_le h' (Nat.le_max_right n k)
  exact Option.some.inj (h1.symm.trans h2)
noncomputable def go (m pc : Nat) (ls st : List Value) (w : Wd) (I : MI) (L : ML) (P : MP) : Option Rs := @dite _ (∃ (r : Rs) (n : Nat), exec n m pc ls st w I L P = some r) (Classical.propDecidable _) (fun h => some (Classical.choose h)) (fun _ => none)
theorem go_of {n m pc : Nat} {ls st : List Value} {w : Wd} {I : MI} {L : ML} {P : MP} {r : Rs} (h : exec n m pc ls st w I L P = some r) : go m pc ls st w I L P = some r := by
  have hx : ∃ (r : Rs) (n : Nat), exec n m pc ls st w I L P = some r := ⟨r, n, h⟩
  unfold go
  rw [dif_pos hx]
  obtain ⟨k, hk⟩ := Classical.choose_spec hx
  rw [exec_det hk h]
theorem go_to {m pc : Nat} {ls st : List Value} {w : Wd} {I : MI} {L : ML} {P : MP} {r : Rs} (h : go m pc ls st w I L P = some r) : ∃ n, exec n m pc ls st w I L P = some r := by
  unfold go at h
  split at h
  · next hx =>
    obtain ⟨k, hk⟩ := Classical.choose_spec hx
    rw [Option.some.inj h] at hk
    exact ⟨k, hk⟩
  · cases h
theorem go_ext {m pc m' pc' : Nat} {ls st ls' st' : List Value} {w w' : Wd} {I I' : MI} {L L' : ML} {P P' : MP} (h1 : ∀ n r, exec n m pc ls st w I L P = some r → ∃ k, exec k m' pc' ls' st' w' I' L' P' = some r) (h2 : ∀ n r, exec n m' pc' ls' st' w' I' L' P' = some r → ∃ k, exec k m pc ls st w I L P = some r) : go m pc ls st w I L P = go m' pc' ls' st' w' I' L' P' := by
  cases ha : go m pc ls st w I L P with
  | some r =>
    obtain ⟨n, hn⟩ := go_to ha
    obtain ⟨k, hk⟩ := h1 n r hn
    exact (go_of hk).symm
  | none =>
    cases hb : go m' pc' ls' st' w' I' L' P' with
    | none => rfl
    | some r =>
      obtain ⟨n, hn⟩ := go_to hb
      obtain ⟨k, hk⟩ := h2 n r hn
      rw [go_of hk] at ha
      cases ha
theorem go_next {m pc pc' : Nat} {ls st ls' st' : List Value} {w w' : Wd} {I I' : MI} {L L' : ML} {P P' : MP} (h : stp m pc ls st w I L P = some (.inl (pc', ls', st', w', I', L', P'))) : go m pc ls st w I L P = go m pc' ls' st' w' I' L' P' := by
  refine go_ext (fun n r hn => ?_) (fun n r hn => ⟨n + 1, by rw [exec, h]; exact hn⟩)
  cases n with
  | zero => cases hn
  | succ n => rw [exec, h] at hn; exact ⟨n, hn⟩
noncomputable def call (y : Nat) (as : List Value) (w : Wd) (I : MI) (L : ML) (P : MP) : Option Rs := go y 0 (ent as (mL y)) [] w I L P
/-- behind a call that answers a value, one that answers nothing: no handler here -/
def kV (o : Option Rs) (f : Value → Wd → MI → ML → MP → Option Rs) : Option Rs := match o with
  | some (.inl (some v), w, I, L, P) => f v w I L P
  | some (.inr e, w, I, L, P) => some (.inr e, w, I, L, P)
  | _ => none
def k0 (o : Option Rs) (f : Wd → MI → ML → MP → Option Rs) : Option Rs := match o with
  | some (.inl none, w, I, L, P) => f w I L P
  | some (.inr e, w, I, L, P) => some (.inr e, w, I, L, P)
  | _ => none
section GO
variable {m pc : Nat} {ls st r : List Value} {w : Wd} {I : MI} {L : ML} {P : MP} {i : Instr} {len : Nat}
theorem go_A {n : A3} (hd : decode (mB m) pc = .ok (i, len)) (h : stA (mO m) pc i len ls st = some n) : go m pc ls st w I L P = go m n.1 n.2.1 n.2.2 w I L P := by
  refine go_next ?_
  unfold stp
  rw [hd]
  simp only [h]
theorem go_M {n : M6} (hd : decode (mB m) pc = .ok (i, len)) (hA : stA (mO m) pc i len ls st = none) (h : stM m pc i len st w I L P = some n) : go m pc ls st w I L P = go m n.1 ls n.2.1 n.2.2.1 n.2.2.2.1 n.2.2.2.2.1 n.2.2.2.2.2 := by
  refine go_next ?_
  unfold stp
  rw [hd]
  simp only [hA, h]
theorem go_R {v : Option Value} (hd : decode (mB m) pc = .ok (i, len)) (hA : stA (mO m) pc i len ls st = none) (hM : stM m pc i len st w I L P = none) (hC : stC m i len st w = none) (h : stR m i len st = some v) : go m pc ls st w I L P = some (.inl v, w, I, L, P) := by
  refine go_of (n := 1) ?_
  rw [exec]
  unfold stp
  rw [hd]
  simp only [hA, hM, hC, h]
theorem go_T {x : Nat} (hd : decode (mB m) pc = .ok (i, len)) (hA : stA (mO m) pc i len ls st = none) (hM : stM m pc i len st w I L P = none) (hC : stC m i len st w = none) (hR : stR m i len st = none) (h : stT m pc i len st = some x) : go m pc ls st w I L P = some (.inr x, thrT w, I, L, P) := by
  refine go_of (n := 1) ?_
  rw [exec]
  unfold stp
  rw [hd]
  simp only [hA, hM, hC, hR, h]
/-- a call: what the callee does, and what follows -/
theorem go_C {y : Nat} {as rs : List Value} (hd : decode (mB m) pc = .ok (i, len)) (hA : stA (mO m) pc i len ls st = none) (hM : stM m pc i len st w I L P = none) (h : stC m i len st w = some (y, as, rs)) :
    go m pc ls st w I L P = (match call y as w I L P with
      | none => none
      | some (.inl v, w', I', L', P') => go m (pc + 3) ls (v.toList ++ rs) w' I' L' P'
      | some (.inr x, w', I', L', P') => (match mH m with
        | [] => some (.inr x, w', I', L', P')
        | _ :: _ => (match hnd m pc x with
          | some (pc', k) => if k < ls.length then go m pc' (lset1 ls k unk) [] w' I' L' P' else none
          | none => none))) := by
  have hs : stp m pc ls st w I L P = some (.inr (.inr (y, as, rs))) := by
    unfold stp
    rw [hd]
    simp only [hA, hM, h]
  cases hc : call y as w I L P with
  | none =>
    simp only
    cases hg : go m pc ls st w I L P with
    | none => rfl
    | some r =>
      obtain ⟨n, hn⟩ := go_to hg
      cases n with
      | zero => cases hn
      | succ n =>
        rw [exec, hs] at hn
        simp only at hn
        split at hn
        · cases hn
        · next hx => rw [show call y as w I L P = _ from go_of hx] at hc; cases hc
        · next hx => rw [show call y as w I L P = _ from go_of hx] at hc; cases hc
  | some o =>
    obtain ⟨k, hk⟩ := go_to (show go y 0 (ent as (mL y)) [] w I L P = some o from hc)
    obtain ⟨o1, w', I', L', P'⟩ := o
    cases o1 with
    | inl v =>
      simp only
      refine go_ext (fun n r hn => ?_) (fun n r hn => ⟨max n k + 1, ?_⟩)
      · cases n with
        | zero => cases hn
        | succ n =>
          rw [exec, hs] at hn
          simp only at hn
          split at hn
          · cases hn
          · next hx => cases exec_det hk hx; exact ⟨n, hn⟩
          · next hx => cases exec_det hk hx
      · rw [exec, hs]
        simp only
        rw [exec_le hk (Nat.le_max_right n k)]
        exact exec_le hn (Nat.le_max_left n k)
    | inr x =>
      simp only
      cases hm : mH m with
      | nil =>
        simp only
        refine go_of (n := k + 1) ?_
        rw [exec, hs]
        simp only
        rw [hk]
        simp only [hm]
      | cons h0 ht =>
        simp only
        cases hh : hnd m pc x with
        | none =>
          simp only
          cases hg : go m pc ls st w I L P with
          | none => rfl
          | some r =>
            obtain ⟨n, hn⟩ := go_to hg
            cases n with
            | zero => cases hn
            | succ n =>
              rw [exec, hs] at hn
              simp only at hn
              split at hn
              · cases hn
              · next hx => cases exec_det hk hx
              · next hx =>
                cases exec_det hk hx
                rw [hm] at hn
                simp only [hh] at hn
                cases hn
        | some pk =>
          obtain ⟨pc', kk⟩ := pk
          simp only
          by_cases hl : kk < ls.length
          · rw [if_pos hl]
            refine go_ext (fun n r hn => ?_) (fun n r hn => ⟨max n k + 1, ?_⟩)
            · cases n with
              | zero => cases hn
              | succ n =>
                rw [exec, hs] at hn
                simp only at hn
                split at hn
                · cases hn
                · next hx => cases exec_det hk hx
                · next hx =>
                  cases exec_det hk hx
                  rw [hm] at hn
                  simp only [hh, if_pos hl] at hn
                  exact ⟨n, hn⟩
            · rw [exec, hs]
              simp only
              rw [exec_le hk (Nat.le_max_right n k)]
              simp only [hm, hh, if_pos hl]
              exact exec_le hn (Nat.le_max_left n k)
          · rw [if_neg hl]
            cases hg : go m pc ls st w I L P with
            | none => rfl
            | some r =>
              obtain ⟨n, hn⟩ := go_to hg
              cases n with
              | zero => cases hn
              | succ n =>
                rw [exec, hs] at hn
                simp only at hn
                split at hn
                · cases hn
                · next hx => cases exec_det hk hx
                · next hx =>
                  cases exec_det hk hx
                  rw [hm] at hn
                  simp only [hh, if_neg hl] at hn
                  cases hn
end GO
end
section
-- one equation an instruction
def kC (o : Option Rs) (f : Option Value → Wd → MI → ML → MP → Option Rs) : Option Rs := match o with
  | none => none
  | some (.inl v, w, I, L, P) => f v w I L P
  | some (.inr e, w, I, L, P) => some (.inr e, w, I, L, P)
theorem kC_ret {v : Option Value} {w : Wd} {I : MI} {L : ML} {P : MP} {f : Option Value → Wd → MI → ML → MP → Option Rs} : kC (some (.inl v, w, I, L, P)) f = f v w I L P := rfl
theorem kC_thr {x : Nat} {w : Wd} {I : MI} {L : ML} {P : MP} {f : Option Value → Wd → MI → ML → MP → Option Rs} : kC (some (.inr x, w, I, L, P)) f = some (.inr x, w, I, L, P) := rfl
def tagU (T : Nat → Option (Nat × Nat)) (a k n : Nat) : Nat → Option (Nat × Nat) := fun b => if b = a then some (k, n) else T b
def inA (w : Wd) (a k : Nat) (x : Int32) : Prop := match w.1 a with | some (k', n) => k' = k ∧ inB x n = true | none => False
def isAr (w : Wd) (a k : Nat) : Prop := match w.1 a with | some (k', _) => k' = k | none => False
def alen (w : Wd) (a : Nat) : Int32 := match w.1 a with | some (_, n) => Int32.ofNat n | none => 0
theorem inA_inv {w : Wd} {a k : Nat} {x : Int32} (h : inA w a k x) : ∃ n, w.1 a = some (k, n) ∧ inB x n = true := by
  unfold inA at h; split at h
  · next k' n hw => obtain ⟨rfl, h2⟩ := h; exact ⟨n, hw, h2⟩
  · cases h
theorem isAr_inv {w : Wd} {a k : Nat} (h : isAr w a k) : ∃ n, w.1 a = some (k, n) := by
  unfold isAr at h; split at h
  · next k' n hw => subst h; exact ⟨n, hw⟩
  · cases h
def selT (x : Int32) : List (Int32 × Nat) → Nat → Nat
  | [], d => d
  | (k, t) :: r, d => if x = k then t else selT x r d
def rmk (m y : Nat) : Bool := decide (mF y + 1 ≤ mF m) && decide (8 + (mL y + 11) + mW y ≤ mW m) && decide (y < mTab.length)
section GI
variable {m pc o : Nat} {ls ls' st r : List Value} {w : Wd} {I : MI} {L : ML} {P : MP}
theorem go_B {pc' : Nat} {st' : List Value} {i : Instr} {len : Nat} (hd : decode (mB m) pc = .ok (i, len)) (h : stA (mO m) pc i len ls st = some (pc', ls', st')) : go m pc ls st w I L P = go m pc' ls' st' w I L P := go_A hd h
theorem go_anull  (hd : decode (mB m) pc = .ok (.aconst_null, 1))  : go m pc ls (st) w I L P = go m (pc + 1) ls (.null :: st) w I L P := go_A (n := (pc + 1, ls, .null :: st)) hd rfl
theorem go_ic {n : Int} {v : Int32} (hd : decode (mB m) pc = .ok (.iconst n, 1)) (hv : Int32.ofInt n = v) : go m pc ls (st) w I L P = go m (pc + 1) ls (.int v :: st) w I L P := hv ▸ go_B hd rfl
theorem go_bi {n : Int} {v : Int32} (hd : decode (mB m) pc = .ok (.bipush n, 2)) (hv : (Int8.ofInt n).toInt32 = v) : go m pc ls (st) w I L P = go m (pc + 2) ls (.int v :: st) w I L P := hv ▸ go_B hd rfl
theorem go_si {n : Int} {v : Int32} (hd : decode (mB m) pc = .ok (.sipush n, 3)) (hv : (Int16.ofInt n).toInt32 = v) : go m pc ls (st) w I L P = go m (pc + 3) ls (.int v :: st) w I L P := hv ▸ go_B hd rfl
theorem go_lc {n : Fin 2} {v : Int64} (hd : decode (mB m) pc = .ok (.lconst n, 1)) (hv : Int64.ofNat (n : Nat) = v) : go m pc ls (st) w I L P = go m (pc + 1) ls (.long v :: st) w I L P := hv ▸ go_B hd rfl
theorem go_dc  (hd : decode (mB m) pc = .ok (.dconst 0, 1))  : go m pc ls (st) w I L P = go m (pc + 1) ls (.double FP.dconst0 :: st) w I L P := go_A (n := (pc + 1, ls, .double FP.dconst0 :: st)) hd rfl
theorem go_ldc {x : Nat} {v : Int32} (hd : decode (mB m) pc = .ok (.ldc x, 2)) (ho : mO m = o) (hv : kR o x = some v) : go m pc ls (st) w I L P = go m (pc + 2) ls (.int v :: st) w I L P := by subst ho; exact go_A (n := (pc + 2, ls, .int v :: st)) hd (by simp only [stA, hv]; rfl)
theorem go_ldc2 {x : Nat} {v : Int64} (hd : decode (mB m) pc = .ok (.ldc2_w x, 3)) (ho : mO m = o) (hv : lR o x = some v) : go m pc ls (st) w I L P = go m (pc + 3) ls (.long v :: st) w I L P := by subst ho; exact go_A (n := (pc + 3, ls, .long v :: st)) hd (by simp only [stA, hv]; rfl)
theorem go_iload_n {k : Fin 4} {x : Int32} (hd : decode (mB m) pc = .ok (.iload_n k, 1)) (hg : ls[(k : Nat)]? = some (.int x)) : go m pc ls (st) w I L P = go m (pc + 1) ls (.int x :: st) w I L P := go_A (n := (pc + 1, ls, .int x :: st)) hd (by simp only [stA, aLd, lget, hg]; rfl)
theorem go_lload_n {k : Fin 4} {x : Int64} (hd : decode (mB m) pc = .ok (.lload_n k, 1)) (hg : ls[(k : Nat)]? = some (.long x)) : go m pc ls (st) w I L P = go m (pc + 1) ls (.long x :: st) w I L P := go_A (n := (pc + 1, ls, .long x :: st)) hd (by simp only [stA, aLd, lget, hg]; rfl)
theorem go_dload_n {k : Fin 4} {x : UInt64} (hd : decode (mB m) pc = .ok (.dload_n k, 1)) (hg : ls[(k : Nat)]? = some (.double x)) : go m pc ls (st) w I L P = go m (pc + 1) ls (.double x :: st) w I L P := go_A (n := (pc + 1, ls, .double x :: st)) hd (by simp only [stA, aLd, lget, hg]; rfl)
theorem go_aload_n {k : Fin 4} {x : Nat} (hd : decode (mB m) pc = .ok (.aload_n k, 1)) (hg : ls[(k : Nat)]? = some (.ref x)) : go m pc ls (st) w I L P = go m (pc + 1) ls (.ref x :: st) w I L P := go_A (n := (pc + 1, ls, .ref x :: st)) hd (by simp only [stA, aLd, lget, hg]; rfl)
theorem go_aload_nN {k : Fin 4} (hd : decode (mB m) pc = .ok (.aload_n k, 1)) (hg : ls[(k : Nat)]? = some .null) : go m pc ls (st) w I L P = go m (pc + 1) ls (.null :: st) w I L P := go_A (n := (pc + 1, ls, .null :: st)) hd (by simp only [stA, aLd, lget, hg]; rfl)
theorem go_iload {k : Nat} {x : Int32} (hd : decode (mB m) pc = .ok (.iload k, 2)) (hg : ls[(k : Nat)]? = some (.int x)) : go m pc ls (st) w I L P = go m (pc + 2) ls (.int x :: st) w I L P := go_A (n := (pc + 2, ls, .int x :: st)) hd (by simp only [stA, aLd, lget, hg]; rfl)
theorem go_lload {k : Nat} {x : Int64} (hd : decode (mB m) pc = .ok (.lload k, 2)) (hg : ls[(k : Nat)]? = some (.long x)) : go m pc ls (st) w I L P = go m (pc + 2) ls (.long x :: st) w I L P := go_A (n := (pc + 2, ls, .long x :: st)) hd (by simp only [stA, aLd, lget, hg]; rfl)
theorem go_dload {k : Nat} {x : UInt64} (hd : decode (mB m) pc = .ok (.dload k, 2)) (hg : ls[(k : Nat)]? = some (.double x)) : go m pc ls (st) w I L P = go m (pc + 2) ls (.double x :: st) w I L P := go_A (n := (pc + 2, ls, .double x :: st)) hd (by simp only [stA, aLd, lget, hg]; rfl)
theorem go_aload {k : Nat} {x : Nat} (hd : decode (mB m) pc = .ok (.aload k, 2)) (hg : ls[(k : Nat)]? = some (.ref x)) : go m pc ls (st) w I L P = go m (pc + 2) ls (.ref x :: st) w I L P := go_A (n := (pc + 2, ls, .ref x :: st)) hd (by simp only [stA, aLd, lget, hg]; rfl)
theorem go_aloadN {k : Nat} (hd : decode (mB m) pc = .ok (.aload k, 2)) (hg : ls[(k : Nat)]? = some .null) : go m pc ls (st) w I L P = go m (pc + 2) ls (.null :: st) w I L P := go_A (n := (pc + 2, ls, .null :: st)) hd (by simp only [stA, aLd, lget, hg]; rfl)
theorem go_istore_n {k : Fin 4} {x : Int32} (hd : decode (mB m) pc = .ok (.istore_n k, 1)) (hl : (k : Nat) < ls.length) (hs : lset1 ls k (.int x) = ls') : go m pc ls (.int x :: r) w I L P = go m (pc + 1) ls' r w I L P := by subst hs; exact go_A (n := (pc + 1, lset1 ls k (.int x), r)) hd (by simp only [stA, aSt]; rw [if_pos trivial, if_pos ⟨rfl, hl⟩])
theorem go_astore_n {k : Fin 4} {x : Nat} (hd : decode (mB m) pc = .ok (.astore_n k, 1)) (hl : (k : Nat) < ls.length) (hs : lset1 ls k (.ref x) = ls') : go m pc ls (.ref x :: r) w I L P = go m (pc + 1) ls' r w I L P := by subst hs; exact go_A (n := (pc + 1, lset1 ls k (.ref x), r)) hd (by simp only [stA, aSt]; rw [if_pos trivial, if_pos ⟨rfl, hl⟩])
theorem go_astore_nN {k : Fin 4}  (hd : decode (mB m) pc = .ok (.astore_n k, 1)) (hl : (k : Nat) < ls.length) (hs : lset1 ls k (.null) = ls') : go m pc ls (.null :: r) w I L P = go m (pc + 1) ls' r w I L P := by subst hs; exact go_A (n := (pc + 1, lset1 ls k (.null), r)) hd (by simp only [stA, aSt]; rw [if_pos trivial, if_pos ⟨rfl, hl⟩])
theorem go_lstore_n {k : Fin 4} {x : Int64} (hd : decode (mB m) pc = .ok (.lstore_n k, 1)) (hl : (k : Nat) + 1 < ls.length) (hs : lset2 ls k (.long x) = ls') : go m pc ls (.long x :: r) w I L P = go m (pc + 1) ls' r w I L P := by subst hs; exact go_A (n := (pc + 1, lset2 ls k (.long x), r)) hd (by simp only [stA, aSt2]; rw [if_pos trivial, if_pos ⟨rfl, hl⟩])
theorem go_istore {k : Nat} {x : Int32} (hd : decode (mB m) pc = .ok (.istore k, 2)) (hl : (k : Nat) < ls.length) (hs : lset1 ls k (.int x) = ls') : go m pc ls (.int x :: r) w I L P = go m (pc + 2) ls' r w I L P := by subst hs; exact go_A (n := (pc + 2, lset1 ls k (.int x), r)) hd (by simp only [stA, aSt]; rw [if_pos trivial, if_pos ⟨rfl, hl⟩])
theorem go_astore {k : Nat} {x : Nat} (hd : decode (mB m) pc = .ok (.astore k, 2)) (hl : (k : Nat) < ls.length) (hs : lset1 ls k (.ref x) = ls') : go m pc ls (.ref x :: r) w I L P = go m (pc + 2) ls' r w I L P := by subst hs; exact go_A (n := (pc + 2, lset1 ls k (.ref x), r)) hd (by simp only [stA, aSt]; rw [if_pos trivial, if_pos ⟨rfl, hl⟩])
theorem go_astoreN {k : Nat}  (hd : decode (mB m) pc = .ok (.astore k, 2)) (hl : (k : Nat) < ls.length) (hs : lset1 ls k (.null) = ls') : go m pc ls (.null :: r) w I L P = go m (pc + 2) ls' r w I L P := by subst hs; exact go_A (n := (pc + 2, lset1 ls k (.null), r)) hd (by simp only [stA, aSt]; rw [if_pos trivial, if_pos ⟨rfl, hl⟩])
theorem go_lstore {k : Nat} {x : Int64} (hd : decode (mB m) pc = .ok (.lstore k, 2)) (hl : (k : Nat) + 1 < ls.length) (hs : lset2 ls k (.long x) = ls') : go m pc ls (.long x :: r) w I L P = go m (pc + 2) ls' r w I L P := by subst hs; exact go_A (n := (pc + 2, lset2 ls k (.long x), r)) hd (by simp only [stA, aSt2]; rw [if_pos trivial, if_pos ⟨rfl, hl⟩])
theorem go_dstore {k : Nat} {x : UInt64} (hd : decode (mB m) pc = .ok (.dstore k, 2)) (hl : (k : Nat) + 1 < ls.length) (hs : lset2 ls k (.double x) = ls') : go m pc ls (.double x :: r) w I L P = go m (pc + 2) ls' r w I L P := by subst hs; exact go_A (n := (pc + 2, lset2 ls k (.double x), r)) hd (by simp only [stA, aSt2]; rw [if_pos trivial, if_pos ⟨rfl, hl⟩])
theorem go_iinc {k : Nat} {n : Int} {x v : Int32} (hd : decode (mB m) pc = .ok (.iinc k n, 3)) (hg : ls[k]? = some (.int x)) (hv : x + Int32.ofInt n = v) (hs : lset1 ls k (.int v) = ls') : go m pc ls st w I L P = go m (pc + 3) ls' st w I L P := by subst hv; subst hs; exact go_A (n := (pc + 3, lset1 ls k (.int (x + Int32.ofInt n)), st)) hd (by simp only [stA, lget, hg]; rfl)
theorem go_iadd {x y : Int32} (hd : decode (mB m) pc = .ok (.iadd, 1))  : go m pc ls (.int y :: .int x :: r) w I L P = go m (pc + 1) ls (.int (x + y) :: r) w I L P := go_A (n := (pc + 1, ls, .int (x + y) :: r)) hd rfl
theorem go_isub {x y : Int32} (hd : decode (mB m) pc = .ok (.isub, 1))  : go m pc ls (.int y :: .int x :: r) w I L P = go m (pc + 1) ls (.int (x - y) :: r) w I L P := go_A (n := (pc + 1, ls, .int (x - y) :: r)) hd rfl
theorem go_imul {x y : Int32} (hd : decode (mB m) pc = .ok (.imul, 1))  : go m pc ls (.int y :: .int x :: r) w I L P = go m (pc + 1) ls (.int (x * y) :: r) w I L P := go_A (n := (pc + 1, ls, .int (x * y) :: r)) hd rfl
theorem go_iand {x y : Int32} (hd : decode (mB m) pc = .ok (.iand, 1))  : go m pc ls (.int y :: .int x :: r) w I L P = go m (pc + 1) ls (.int (x &&& y) :: r) w I L P := go_A (n := (pc + 1, ls, .int (x &&& y) :: r)) hd rfl
theorem go_ior {x y : Int32} (hd : decode (mB m) pc = .ok (.ior, 1))  : go m pc ls (.int y :: .int x :: r) w I L P = go m (pc + 1) ls (.int (x ||| y) :: r) w I L P := go_A (n := (pc + 1, ls, .int (x ||| y) :: r)) hd rfl
theorem go_ixor {x y : Int32} (hd : decode (mB m) pc = .ok (.ixor, 1))  : go m pc ls (.int y :: .int x :: r) w I L P = go m (pc + 1) ls (.int (x ^^^ y) :: r) w I L P := go_A (n := (pc + 1, ls, .int (x ^^^ y) :: r)) hd rfl
theorem go_ishl {x y : Int32} (hd : decode (mB m) pc = .ok (.ishl, 1))  : go m pc ls (.int y :: .int x :: r) w I L P = go m (pc + 1) ls (.int (x <<< (y &&& 31)) :: r) w I L P := go_A (n := (pc + 1, ls, .int (x <<< (y &&& 31)) :: r)) hd rfl
theorem go_ishr {x y : Int32} (hd : decode (mB m) pc = .ok (.ishr, 1))  : go m pc ls (.int y :: .int x :: r) w I L P = go m (pc + 1) ls (.int (x >>> (y &&& 31)) :: r) w I L P := go_A (n := (pc + 1, ls, .int (x >>> (y &&& 31)) :: r)) hd rfl
theorem go_idiv {x y : Int32} (hd : decode (mB m) pc = .ok (.idiv, 1)) (hy : ¬ y = 0) : go m pc ls (.int y :: .int x :: r) w I L P = go m (pc + 1) ls (.int (x / y) :: r) w I L P := go_A (n := (pc + 1, ls, .int (x / y) :: r)) hd (by simp only [stA, if_neg hy]; rfl)
theorem go_irem {x y : Int32} (hd : decode (mB m) pc = .ok (.irem, 1)) (hy : ¬ y = 0) : go m pc ls (.int y :: .int x :: r) w I L P = go m (pc + 1) ls (.int (x - x / y * y) :: r) w I L P := go_A (n := (pc + 1, ls, .int (x - x / y * y) :: r)) hd (by simp only [stA, if_neg hy]; rfl)
theorem go_ladd {x y : Int64} (hd : decode (mB m) pc = .ok (.ladd, 1))  : go m pc ls (.long y :: .long x :: r) w I L P = go m (pc + 1) ls (.long (x + y) :: r) w I L P := go_A (n := (pc + 1, ls, .long (x + y) :: r)) hd rfl
theorem go_lmul {x y : Int64} (hd : decode (mB m) pc = .ok (.lmul, 1))  : go m pc ls (.long y :: .long x :: r) w I L P = go m (pc + 1) ls (.long (x * y) :: r) w I L P := go_A (n := (pc + 1, ls, .long (x * y) :: r)) hd rfl
theorem go_land {x y : Int64} (hd : decode (mB m) pc = .ok (.land, 1))  : go m pc ls (.long y :: .long x :: r) w I L P = go m (pc + 1) ls (.long (x &&& y) :: r) w I L P := go_A (n := (pc + 1, ls, .long (x &&& y) :: r)) hd rfl
theorem go_lor {x y : Int64} (hd : decode (mB m) pc = .ok (.lor, 1))  : go m pc ls (.long y :: .long x :: r) w I L P = go m (pc + 1) ls (.long (x ||| y) :: r) w I L P := go_A (n := (pc + 1, ls, .long (x ||| y) :: r)) hd rfl
theorem go_lshl {x : Int64} {y : Int32} (hd : decode (mB m) pc = .ok (.lshl, 1))  : go m pc ls (.int y :: .long x :: r) w I L P = go m (pc + 1) ls (.long (x <<< (y.toInt64 &&& 63)) :: r) w I L P := go_A (n := (pc + 1, ls, .long (x <<< (y.toInt64 &&& 63)) :: r)) hd rfl
theorem go_lshr {x : Int64} {y : Int32} (hd : decode (mB m) pc = .ok (.lshr, 1))  : go m pc ls (.int y :: .long x :: r) w I L P = go m (pc + 1) ls (.long (x >>> (y.toInt64 &&& 63)) :: r) w I L P := go_A (n := (pc + 1, ls, .long (x >>> (y.toInt64 &&& 63)) :: r)) hd rfl
theorem go_lcmp {x y : Int64} (hd : decode (mB m) pc = .ok (.lcmp, 1))  : go m pc ls (.long y :: .long x :: r) w I L P = go m (pc + 1) ls (.int (lg_cmp x y) :: r) w I L P := go_A (n := (pc + 1, ls, .int (lg_cmp x y) :: r)) hd rfl
theorem go_i2l {x : Int32} (hd : decode (mB m) pc = .ok (.i2l, 1))  : go m pc ls (.int x :: r) w I L P = go m (pc + 1) ls (.long x.toInt64 :: r) w I L P := go_A (n := (pc + 1, ls, .long x.toInt64 :: r)) hd rfl
theorem go_l2i {x : Int64} (hd : decode (mB m) pc = .ok (.l2i, 1))  : go m pc ls (.long x :: r) w I L P = go m (pc + 1) ls (.int x.toInt32 :: r) w I L P := go_A (n := (pc + 1, ls, .int x.toInt32 :: r)) hd rfl
theorem go_i2d {x : Int32} (hd : decode (mB m) pc = .ok (.i2d, 1))  : go m pc ls (.int x :: r) w I L P = go m (pc + 1) ls (.double (FP.i2d x) :: r) w I L P := go_A (n := (pc + 1, ls, .double (FP.i2d x) :: r)) hd rfl
theorem go_ddiv {x y : UInt64} (hd : decode (mB m) pc = .ok (.ddiv, 1)) (hn : FP.ddiv x y &&& 0x7fffffffffffffff ≤ 0x7ff0000000000000) : go m pc ls (.double y :: .double x :: r) w I L P = go m (pc + 1) ls (.double (FP.ddiv x y) :: r) w I L P := go_A (n := (pc + 1, ls, .double (FP.ddiv x y) :: r)) hd (by simp only [stA, if_pos hn]; rfl)
theorem go_dcmp {x y : UInt64} {op : CmpOp} (hd : decode (mB m) pc = .ok (.dcmp op, 1))  : go m pc ls (.double y :: .double x :: r) w I L P = go m (pc + 1) ls (.int (Op.cmpValue (FP.dcmp x y) op) :: r) w I L P := go_A (n := (pc + 1, ls, .int (Op.cmpValue (FP.dcmp x y) op) :: r)) hd rfl
theorem go_dup {v : Value} (hd : decode (mB m) pc = .ok (.dup, 1)) (hv : v.category = 1) : go m pc ls (v :: r) w I L P = go m (pc + 1) ls (v :: v :: r) w I L P := go_A (n := (pc + 1, ls, v :: v :: r)) hd (by simp only [stA, if_pos hv]; rfl)
theorem go_pop {v : Value} (hd : decode (mB m) pc = .ok (.pop, 1)) (hv : v.category = 1) : go m pc ls (v :: r) w I L P = go m (pc + 1) ls (r) w I L P := go_A (n := (pc + 1, ls, r)) hd (by simp only [stA, if_pos hv]; rfl)
theorem go_dup2 {v u : Value} (hd : decode (mB m) pc = .ok (.dup2, 1)) (hv : v.category = 1) (hu : u.category = 1) : go m pc ls (v :: u :: r) w I L P = go m (pc + 1) ls (v :: u :: v :: u :: r) w I L P := go_A (n := (pc + 1, ls, v :: u :: v :: u :: r)) hd (by simp only [stA, if_pos (And.intro hv hu)]; rfl)
theorem jmp_at {off : Int} {t : Nat} (ht : (pc : Int) + off = (t : Int)) : jmp pc off ls st = some (t, ls, st) := by unfold jmp; rw [ht, if_pos (by omega)]; rfl
theorem go_goto {off : Int} {t : Nat} (hd : decode (mB m) pc = .ok (.goto off, 3)) (ht : (pc : Int) + off = (t : Int)) : go m pc ls st w I L P = go m t ls st w I L P := go_A (n := (t, ls, st)) hd (by simp only [stA, jmp_at ht]; rfl)
theorem aIf_at {off : Int} {t : Nat} {b : Prop} {d : Decidable b} (ht : (pc : Int) + off = (t : Int)) : aIf pc off ls r b d = some (if b then (t, ls, r) else (pc + 3, ls, r)) := by unfold aIf; rw [ht, if_pos (by omega)]; by_cases hb : b <;> simp [hb]
theorem go_ifeq {x : Int32} {off : Int} {t : Nat} (hd : decode (mB m) pc = .ok (.ifCond .eq off, 3)) (ht : (pc : Int) + off = (t : Int)) : go m pc ls (.int x :: r) w I L P = if x = 0 then go m t ls r w I L P else go m (pc + 3) ls r w I L P := by
  rw [go_A hd (n := if x = 0 then (t, ls, r) else (pc + 3, ls, r)) (by simp only [stA, i1, aIf_at ht]; rfl)]
  by_cases hb : x = 0
  · rw [if_pos hb, if_pos hb]
  · rw [if_neg hb, if_neg hb]
theorem go_ifne {x : Int32} {off : Int} {t : Nat} (hd : decode (mB m) pc = .ok (.ifCond .ne off, 3)) (ht : (pc : Int) + off = (t : Int)) : go m pc ls (.int x :: r) w I L P = if x ≠ 0 then go m t ls r w I L P else go m (pc + 3) ls r w I L P := by
  rw [go_A hd (n := if x ≠ 0 then (t, ls, r) else (pc + 3, ls, r)) (by simp only [stA, i1, aIf_at ht]; rfl)]
  by_cases hb : x ≠ 0
  · rw [if_pos hb, if_pos hb]
  · rw [if_neg hb, if_neg hb]
theorem go_iflt {x : Int32} {off : Int} {t : Nat} (hd : decode (mB m) pc = .ok (.ifCond .lt off, 3)) (ht : (pc : Int) + off = (t : Int)) : go m pc ls (.int x :: r) w I L P = if x < 0 then go m t ls r w I L P else go m (pc + 3) ls r w I L P := by
  rw [go_A hd (n := if x < 0 then (t, ls, r) else (pc + 3, ls, r)) (by simp only [stA, i1, aIf_at ht]; rfl)]
  by_cases hb : x < 0
  · rw [if_pos hb, if_pos hb]
  · rw [if_neg hb, if_neg hb]
theorem go_ifge {x : Int32} {off : Int} {t : Nat} (hd : decode (mB m) pc = .ok (.ifCond .ge off, 3)) (ht : (pc : Int) + off = (t : Int)) : go m pc ls (.int x :: r) w I L P = if 0 ≤ x then go m t ls r w I L P else go m (pc + 3) ls r w I L P := by
  rw [go_A hd (n := if 0 ≤ x then (t, ls, r) else (pc + 3, ls, r)) (by simp only [stA, i1, aIf_at ht]; rfl)]
  by_cases hb : 0 ≤ x
  · rw [if_pos hb, if_pos hb]
  · rw [if_neg hb, if_neg hb]
theorem go_ifgt {x : Int32} {off : Int} {t : Nat} (hd : decode (mB m) pc = .ok (.ifCond .gt off, 3)) (ht : (pc : Int) + off = (t : Int)) : go m pc ls (.int x :: r) w I L P = if 0 < x then go m t ls r w I L P else go m (pc + 3) ls r w I L P := by
  rw [go_A hd (n := if 0 < x then (t, ls, r) else (pc + 3, ls, r)) (by simp only [stA, i1, aIf_at ht]; rfl)]
  by_cases hb : 0 < x
  · rw [if_pos hb, if_pos hb]
  · rw [if_neg hb, if_neg hb]
theorem go_ifle {x : Int32} {off : Int} {t : Nat} (hd : decode (mB m) pc = .ok (.ifCond .le off, 3)) (ht : (pc : Int) + off = (t : Int)) : go m pc ls (.int x :: r) w I L P = if x ≤ 0 then go m t ls r w I L P else go m (pc + 3) ls r w I L P := by
  rw [go_A hd (n := if x ≤ 0 then (t, ls, r) else (pc + 3, ls, r)) (by simp only [stA, i1, aIf_at ht]; rfl)]
  by_cases hb : x ≤ 0
  · rw [if_pos hb, if_pos hb]
  · rw [if_neg hb, if_neg hb]
theorem go_icmpeq {x y : Int32} {off : Int} {t : Nat} (hd : decode (mB m) pc = .ok (.if_icmp .eq off, 3)) (ht : (pc : Int) + off = (t : Int)) : go m pc ls (.int y :: .int x :: r) w I L P = if x = y then go m t ls r w I L P else go m (pc + 3) ls r w I L P := by
  rw [go_A hd (n := if x = y then (t, ls, r) else (pc + 3, ls, r)) (by simp only [stA, i2, aIf_at ht]; rfl)]
  by_cases hb : x = y
  · rw [if_pos hb, if_pos hb]
  · rw [if_neg hb, if_neg hb]
theorem go_icmpne {x y : Int32} {off : Int} {t : Nat} (hd : decode (mB m) pc = .ok (.if_icmp .ne off, 3)) (ht : (pc : Int) + off = (t : Int)) : go m pc ls (.int y :: .int x :: r) w I L P = if x ≠ y then go m t ls r w I L P else go m (pc + 3) ls r w I L P := by
  rw [go_A hd (n := if x ≠ y then (t, ls, r) else (pc + 3, ls, r)) (by simp only [stA, i2, aIf_at ht]; rfl)]
  by_cases hb : x ≠ y
  · rw [if_pos hb, if_pos hb]
  · rw [if_neg hb, if_neg hb]
theorem go_icmplt {x y : Int32} {off : Int} {t : Nat} (hd : decode (mB m) pc = .ok (.if_icmp .lt off, 3)) (ht : (pc : Int) + off = (t : Int)) : go m pc ls (.int y :: .int x :: r) w I L P = if x < y then go m t ls r w I L P else go m (pc + 3) ls r w I L P := by
  rw [go_A hd (n := if x < y then (t, ls, r) else (pc + 3, ls, r)) (by simp only [stA, i2, aIf_at ht]; rfl)]
  by_cases hb : x < y
  · rw [if_pos hb, if_pos hb]
  · rw [if_neg hb, if_neg hb]
theorem go_icmpge {x y : Int32} {off : Int} {t : Nat} (hd : decode (mB m) pc = .ok (.if_icmp .ge off, 3)) (ht : (pc : Int) + off = (t : Int)) : go m pc ls (.int y :: .int x :: r) w I L P = if y ≤ x then go m t ls r w I L P else go m (pc + 3) ls r w I L P := by
  rw [go_A hd (n := if y ≤ x then (t, ls, r) else (pc + 3, ls, r)) (by simp only [stA, i2, aIf_at ht]; rfl)]
  by_cases hb : y ≤ x
  · rw [if_pos hb, if_pos hb]
  · rw [if_neg hb, if_neg hb]
theorem go_icmpgt {x y : Int32} {off : Int} {t : Nat} (hd : decode (mB m) pc = .ok (.if_icmp .gt off, 3)) (ht : (pc : Int) + off = (t : Int)) : go m pc ls (.int y :: .int x :: r) w I L P = if y < x then go m t ls r w I L P else go m (pc + 3) ls r w I L P := by
  rw [go_A hd (n := if y < x then (t, ls, r) else (pc + 3, ls, r)) (by simp only [stA, i2, aIf_at ht]; rfl)]
  by_cases hb : y < x
  · rw [if_pos hb, if_pos hb]
  · rw [if_neg hb, if_neg hb]
theorem go_icmple {x y : Int32} {off : Int} {t : Nat} (hd : decode (mB m) pc = .ok (.if_icmp .le off, 3)) (ht : (pc : Int) + off = (t : Int)) : go m pc ls (.int y :: .int x :: r) w I L P = if x ≤ y then go m t ls r w I L P else go m (pc + 3) ls r w I L P := by
  rw [go_A hd (n := if x ≤ y then (t, ls, r) else (pc + 3, ls, r)) (by simp only [stA, i2, aIf_at ht]; rfl)]
  by_cases hb : x ≤ y
  · rw [if_pos hb, if_pos hb]
  · rw [if_neg hb, if_neg hb]
theorem go_ifnullN {off : Int} {t : Nat} (hd : decode (mB m) pc = .ok (.ifnull off, 3)) (ht : (pc : Int) + off = (t : Int)) : go m pc ls (.null :: r) w I L P = go m t ls r w I L P := go_A (n := (t, ls, r)) hd (by simp only [stA, jmp_at ht]; rfl)
theorem go_ifnullR {off : Int} {a : Nat} (hd : decode (mB m) pc = .ok (.ifnull off, 3)) : go m pc ls (.ref a :: r) w I L P = go m (pc + 3) ls r w I L P := go_A (n := (pc + 3, ls, r)) hd rfl
theorem go_ifnonnullR {off : Int} {t a : Nat} (hd : decode (mB m) pc = .ok (.ifnonnull off, 3)) (ht : (pc : Int) + off = (t : Int)) : go m pc ls (.ref a :: r) w I L P = go m t ls r w I L P := go_A (n := (t, ls, r)) hd (by simp only [stA, jmp_at ht]; rfl)
theorem go_ifnonnullN {off : Int} (hd : decode (mB m) pc = .ok (.ifnonnull off, 3)) : go m pc ls (.null :: r) w I L P = go m (pc + 3) ls r w I L P := go_A (n := (pc + 3, ls, r)) hd rfl
theorem go_getI {x a ci k : Nat} (hd : decode (mB m) pc = .ok (.getfield x, 3)) (ho : mO m = o) (hf : fR o x = some (ci, k)) (hk : fK ci k = 0) (hT : w.1 a = some (ci, 0)) : go m pc ls (.ref a :: r) w I L P = go m (pc + 3) ls (.int (I a k) :: r) w I L P := by
  subst ho
  exact go_M (n := (pc + 3, .int (I a k) :: r, w, I, L, P)) hd rfl (by simp only [stM, hf, hT, hk, fv]; rfl)
theorem go_getZ {x a ci k : Nat} (hd : decode (mB m) pc = .ok (.getfield x, 3)) (ho : mO m = o) (hf : fR o x = some (ci, k)) (hk : fK ci k = 1) (hT : w.1 a = some (ci, 0)) : go m pc ls (.ref a :: r) w I L P = go m (pc + 3) ls (.int (I a k &&& 1) :: r) w I L P := by
  subst ho
  exact go_M (n := (pc + 3, .int (I a k &&& 1) :: r, w, I, L, P)) hd rfl (by simp only [stM, hf, hT, hk, fv]; rfl)
theorem go_getJ {x a ci k : Nat} (hd : decode (mB m) pc = .ok (.getfield x, 3)) (ho : mO m = o) (hf : fR o x = some (ci, k)) (hk : fK ci k = 2) (hT : w.1 a = some (ci, 0)) : go m pc ls (.ref a :: r) w I L P = go m (pc + 3) ls (.long (L a k) :: r) w I L P := by
  subst ho
  exact go_M (n := (pc + 3, .long (L a k) :: r, w, I, L, P)) hd rfl (by simp only [stM, hf, hT, hk, fv]; rfl)
theorem go_getR {x a ci k : Nat} (hd : decode (mB m) pc = .ok (.getfield x, 3)) (ho : mO m = o) (hf : fR o x = some (ci, k)) (hk : fK ci k = 3) (hT : w.1 a = some (ci, 0)) : go m pc ls (.ref a :: r) w I L P = go m (pc + 3) ls (va_rf (P a k) :: r) w I L P := by
  subst ho
  exact go_M (n := (pc + 3, va_rf (P a k) :: r, w, I, L, P)) hd rfl (by simp only [stM, hf, hT, hk, fv]; rfl)
theorem go_putI {x a ci k : Nat} {v : Int32} (hd : decode (mB m) pc = .ok (.putfield x, 3)) (ho : mO m = o) (hf : fR o x = some (ci, k)) (hk : fK ci k = 0) (hfin : finOk m ci k = true)  (hT : w.1 a = some (ci, 0)) : go m pc ls (.int v :: .ref a :: r) w I L P = go m (pc + 3) ls r w (updI I a k v) L P := by
  subst ho
  exact go_M (n := (pc + 3, r, w, updI I a k v, L, P)) hd rfl (by simp only [stM, hf, hk, putV, if_pos (And.intro hT hfin)]; rfl)
theorem go_putZ {x a ci k : Nat} {v : Int32} (hd : decode (mB m) pc = .ok (.putfield x, 3)) (ho : mO m = o) (hf : fR o x = some (ci, k)) (hk : fK ci k = 1) (hfin : finOk m ci k = true) (hz : v &&& 1 = v) (hT : w.1 a = some (ci, 0)) : go m pc ls (.int v :: .ref a :: r) w I L P = go m (pc + 3) ls r w (updI I a k v) L P := by
  subst ho
  exact go_M (n := (pc + 3, r, w, updI I a k v, L, P)) hd rfl (by simp only [stM, hf, hk, putV, if_pos hz, if_pos (And.intro hT hfin)]; rfl)
theorem go_putJ {x a ci k : Nat} {v : Int64} (hd : decode (mB m) pc = .ok (.putfield x, 3)) (ho : mO m = o) (hf : fR o x = some (ci, k)) (hk : fK ci k = 2) (hfin : finOk m ci k = true)  (hT : w.1 a = some (ci, 0)) : go m pc ls (.long v :: .ref a :: r) w I L P = go m (pc + 3) ls r w I (updL L a k v) P := by
  subst ho
  exact go_M (n := (pc + 3, r, w, I, updL L a k v, P)) hd rfl (by simp only [stM, hf, hk, putV, if_pos (And.intro hT hfin)]; rfl)
theorem go_putR {x a ci k : Nat} {v : Nat} (hd : decode (mB m) pc = .ok (.putfield x, 3)) (ho : mO m = o) (hf : fR o x = some (ci, k)) (hk : fK ci k = 3) (hfin : finOk m ci k = true)  (hT : w.1 a = some (ci, 0)) : go m pc ls (.ref v :: .ref a :: r) w I L P = go m (pc + 3) ls r w I L (updP P a k (some v)) := by
  subst ho
  exact go_M (n := (pc + 3, r, w, I, L, updP P a k (some v))) hd rfl (by simp only [stM, hf, hk, putV, if_pos (And.intro hT hfin)]; rfl)
theorem go_putN {x a ci k : Nat}  (hd : decode (mB m) pc = .ok (.putfield x, 3)) (ho : mO m = o) (hf : fR o x = some (ci, k)) (hk : fK ci k = 3) (hfin : finOk m ci k = true)  (hT : w.1 a = some (ci, 0)) : go m pc ls (.null :: .ref a :: r) w I L P = go m (pc + 3) ls r w I L (updP P a k none) := by
  subst ho
  exact go_M (n := (pc + 3, r, w, I, L, updP P a k none)) hd rfl (by simp only [stM, hf, hk, putV, if_pos (And.intro hT hfin)]; rfl)
theorem go_iald {x : Int32} {a : Nat}  (hd : decode (mB m) pc = .ok (.iaload, 1)) (h : inA w a 8 x) : go m pc ls (.int x :: .ref a :: r) w I L P = go m (pc + 1) ls (.int (I a x.toNatClampNeg) :: r) w I L P := by
  obtain ⟨n, h1, h2⟩ := inA_inv h
  exact go_M (n := (pc + 1, .int (I a x.toNatClampNeg) :: r, w, I, L, P)) hd rfl (by simp only [stM, h1, h2]; rfl)
theorem go_iald14 {x : Int32} {a : Nat}  (hd : decode (mB m) pc = .ok (.iaload, 1)) (h : inA w a 14 x) : go m pc ls (.int x :: .ref a :: r) w I L P = go m (pc + 1) ls (.int (I a x.toNatClampNeg) :: r) w I L P := by
  obtain ⟨n, h1, h2⟩ := inA_inv h
  exact go_M (n := (pc + 1, .int (I a x.toNatClampNeg) :: r, w, I, L, P)) hd rfl (by simp only [stM, h1, h2]; rfl)
theorem go_lald {x : Int32} {a : Nat}  (hd : decode (mB m) pc = .ok (.laload, 1)) (h : inA w a 9 x) : go m pc ls (.int x :: .ref a :: r) w I L P = go m (pc + 1) ls (.long (L a x.toNatClampNeg) :: r) w I L P := by
  obtain ⟨n, h1, h2⟩ := inA_inv h
  exact go_M (n := (pc + 1, .long (L a x.toNatClampNeg) :: r, w, I, L, P)) hd rfl (by simp only [stM, h1, h2]; rfl)
theorem go_aald10 {x : Int32} {a : Nat}  (hd : decode (mB m) pc = .ok (.aaload, 1)) (h : inA w a 10 x) : go m pc ls (.int x :: .ref a :: r) w I L P = go m (pc + 1) ls (va_rf (P a x.toNatClampNeg) :: r) w I L P := by
  obtain ⟨n, h1, h2⟩ := inA_inv h
  exact go_M (n := (pc + 1, va_rf (P a x.toNatClampNeg) :: r, w, I, L, P)) hd rfl (by simp only [stM, h1, h2]; rfl)
theorem go_aald11 {x : Int32} {a : Nat}  (hd : decode (mB m) pc = .ok (.aaload, 1)) (h : inA w a 11 x) : go m pc ls (.int x :: .ref a :: r) w I L P = go m (pc + 1) ls (va_rf (P a x.toNatClampNeg) :: r) w I L P := by
  obtain ⟨n, h1, h2⟩ := inA_inv h
  exact go_M (n := (pc + 1, va_rf (P a x.toNatClampNeg) :: r, w, I, L, P)) hd rfl (by simp only [stM, h1, h2]; rfl)
theorem go_aald12 {x : Int32} {a : Nat}  (hd : decode (mB m) pc = .ok (.aaload, 1)) (h : inA w a 12 x) : go m pc ls (.int x :: .ref a :: r) w I L P = go m (pc + 1) ls (va_rf (P a x.toNatClampNeg) :: r) w I L P := by
  obtain ⟨n, h1, h2⟩ := inA_inv h
  exact go_M (n := (pc + 1, va_rf (P a x.toNatClampNeg) :: r, w, I, L, P)) hd rfl (by simp only [stM, h1, h2]; rfl)
theorem go_aald13 {x : Int32} {a : Nat}  (hd : decode (mB m) pc = .ok (.aaload, 1)) (h : inA w a 13 x) : go m pc ls (.int x :: .ref a :: r) w I L P = go m (pc + 1) ls (va_rf (P a x.toNatClampNeg) :: r) w I L P := by
  obtain ⟨n, h1, h2⟩ := inA_inv h
  exact go_M (n := (pc + 1, va_rf (P a x.toNatClampNeg) :: r, w, I, L, P)) hd rfl (by simp only [stM, h1, h2]; rfl)
theorem go_iast {x : Int32} {a : Nat} {v : Int32} (hd : decode (mB m) pc = .ok (.iastore, 1)) (h : inA w a 8 x) : go m pc ls (.int v :: .int x :: .ref a :: r) w I L P = go m (pc + 1) ls (r) w (updI I a x.toNatClampNeg v) L P := by
  obtain ⟨n, h1, h2⟩ := inA_inv h
  exact go_M (n := (pc + 1, r, w, updI I a x.toNatClampNeg v, L, P)) hd rfl (by simp only [stM, h1, h2]; rfl)
theorem go_last {x : Int32} {a : Nat} {v : Int64} (hd : decode (mB m) pc = .ok (.lastore, 1)) (h : inA w a 9 x) : go m pc ls (.long v :: .int x :: .ref a :: r) w I L P = go m (pc + 1) ls (r) w I (updL L a x.toNatClampNeg v) P := by
  obtain ⟨n, h1, h2⟩ := inA_inv h
  exact go_M (n := (pc + 1, r, w, I, updL L a x.toNatClampNeg v, P)) hd rfl (by simp only [stM, h1, h2]; rfl)
theorem go_aast10 {x : Int32} {a v : Nat} (hd : decode (mB m) pc = .ok (.aastore, 1)) (h : inA w a 10 x) (hv : w.1 v = some (0, 0)) : go m pc ls (.ref v :: .int x :: .ref a :: r) w I L P = go m (pc + 1) ls r w I L (updP P a x.toNatClampNeg (some v)) := by
  obtain ⟨n, h1, h2⟩ := inA_inv h
  exact go_M (n := (pc + 1, r, w, I, L, updP P a x.toNatClampNeg (some v))) hd rfl (by simp only [stM, h1, h2, hv]; rfl)
theorem go_aast11 {x : Int32} {a v : Nat} (hd : decode (mB m) pc = .ok (.aastore, 1)) (h : inA w a 11 x) (hv : w.1 v = some (1, 0)) : go m pc ls (.ref v :: .int x :: .ref a :: r) w I L P = go m (pc + 1) ls r w I L (updP P a x.toNatClampNeg (some v)) := by
  obtain ⟨n, h1, h2⟩ := inA_inv h
  exact go_M (n := (pc + 1, r, w, I, L, updP P a x.toNatClampNeg (some v))) hd rfl (by simp only [stM, h1, h2, hv]; rfl)
theorem go_aast12 {x : Int32} {a v : Nat} (hd : decode (mB m) pc = .ok (.aastore, 1)) (h : inA w a 12 x) (hv : w.1 v = some (2, 0)) : go m pc ls (.ref v :: .int x :: .ref a :: r) w I L P = go m (pc + 1) ls r w I L (updP P a x.toNatClampNeg (some v)) := by
  obtain ⟨n, h1, h2⟩ := inA_inv h
  exact go_M (n := (pc + 1, r, w, I, L, updP P a x.toNatClampNeg (some v))) hd rfl (by simp only [stM, h1, h2, hv]; rfl)
theorem go_aast13 {x : Int32} {a v : Nat} (hd : decode (mB m) pc = .ok (.aastore, 1)) (h : inA w a 13 x) (hv : w.1 v = some (3, 0)) : go m pc ls (.ref v :: .int x :: .ref a :: r) w I L P = go m (pc + 1) ls r w I L (updP P a x.toNatClampNeg (some v)) := by
  obtain ⟨n, h1, h2⟩ := inA_inv h
  exact go_M (n := (pc + 1, r, w, I, L, updP P a x.toNatClampNeg (some v))) hd rfl (by simp only [stM, h1, h2, hv]; rfl)
theorem go_alen8 {a : Nat} (hd : decode (mB m) pc = .ok (.arraylength, 1)) (h : isAr w a 8) : go m pc ls (.ref a :: r) w I L P = go m (pc + 1) ls (.int (alen w a) :: r) w I L P := by
  obtain ⟨n, h1⟩ := isAr_inv h
  exact go_M (n := (pc + 1, .int (alen w a) :: r, w, I, L, P)) hd rfl (by simp only [stM, h1, alen]; rfl)
theorem go_alen9 {a : Nat} (hd : decode (mB m) pc = .ok (.arraylength, 1)) (h : isAr w a 9) : go m pc ls (.ref a :: r) w I L P = go m (pc + 1) ls (.int (alen w a) :: r) w I L P := by
  obtain ⟨n, h1⟩ := isAr_inv h
  exact go_M (n := (pc + 1, .int (alen w a) :: r, w, I, L, P)) hd rfl (by simp only [stM, h1, alen]; rfl)
theorem go_alen10 {a : Nat} (hd : decode (mB m) pc = .ok (.arraylength, 1)) (h : isAr w a 10) : go m pc ls (.ref a :: r) w I L P = go m (pc + 1) ls (.int (alen w a) :: r) w I L P := by
  obtain ⟨n, h1⟩ := isAr_inv h
  exact go_M (n := (pc + 1, .int (alen w a) :: r, w, I, L, P)) hd rfl (by simp only [stM, h1, alen]; rfl)
theorem go_alen11 {a : Nat} (hd : decode (mB m) pc = .ok (.arraylength, 1)) (h : isAr w a 11) : go m pc ls (.ref a :: r) w I L P = go m (pc + 1) ls (.int (alen w a) :: r) w I L P := by
  obtain ⟨n, h1⟩ := isAr_inv h
  exact go_M (n := (pc + 1, .int (alen w a) :: r, w, I, L, P)) hd rfl (by simp only [stM, h1, alen]; rfl)
theorem go_alen12 {a : Nat} (hd : decode (mB m) pc = .ok (.arraylength, 1)) (h : isAr w a 12) : go m pc ls (.ref a :: r) w I L P = go m (pc + 1) ls (.int (alen w a) :: r) w I L P := by
  obtain ⟨n, h1⟩ := isAr_inv h
  exact go_M (n := (pc + 1, .int (alen w a) :: r, w, I, L, P)) hd rfl (by simp only [stM, h1, alen]; rfl)
theorem go_alen13 {a : Nat} (hd : decode (mB m) pc = .ok (.arraylength, 1)) (h : isAr w a 13) : go m pc ls (.ref a :: r) w I L P = go m (pc + 1) ls (.int (alen w a) :: r) w I L P := by
  obtain ⟨n, h1⟩ := isAr_inv h
  exact go_M (n := (pc + 1, .int (alen w a) :: r, w, I, L, P)) hd rfl (by simp only [stM, h1, alen]; rfl)
theorem go_alen14 {a : Nat} (hd : decode (mB m) pc = .ok (.arraylength, 1)) (h : isAr w a 14) : go m pc ls (.ref a :: r) w I L P = go m (pc + 1) ls (.int (alen w a) :: r) w I L P := by
  obtain ⟨n, h1⟩ := isAr_inv h
  exact go_M (n := (pc + 1, .int (alen w a) :: r, w, I, L, P)) hd rfl (by simp only [stM, h1, alen]; rfl)
theorem go_new {x q ci kc ks nf : Nat} {T : Nat → Option (Nat × Nat)} (hd : decode (mB m) pc = .ok (.new x, 3)) (ho : mO m = o) (hn : nR o x = some ci) (h8 : ci < 8) (hf : nF ci = nf) : go m pc ls st (T, some q, kc, ks) I L P = go m (pc + 3) ls (.ref q :: st) (tagU T q ci 0, some (q + 1), kc + 1, ks + nf) (rowI I q) (rowL L q) (rowP P q) := by
  subst ho; subst hf
  exact go_M (n := (pc + 3, .ref q :: st, newT (T, some q, kc, ks) q ci 0 (nF ci), rowI I q, rowL L q, rowP P q)) hd rfl (by simp only [stM, hn, if_pos h8]; rfl)
theorem go_newI {x : Int32} {q kc ks : Nat} {T : Nat → Option (Nat × Nat)} (hd : decode (mB m) pc = .ok (.newarray .int, 2)) (h : ¬ x < 0 ∧ x.toNatClampNeg ≤ 65536) : go m pc ls (.int x :: r) (T, some q, kc, ks) I L P = go m (pc + 2) ls (.ref q :: r) (tagU T q 8 x.toNatClampNeg, some (q + 1), kc + 1, ks + x.toNatClampNeg) (rowI I q) L P := by
  exact go_M (n := (pc + 2, .ref q :: r, newT (T, some q, kc, ks) q 8 x.toNatClampNeg x.toNatClampNeg, rowI I q, L, P)) hd rfl (by simp only [stM, if_pos h]; rfl)
theorem go_newJ {x : Int32} {q kc ks : Nat} {T : Nat → Option (Nat × Nat)} (hd : decode (mB m) pc = .ok (.newarray .long, 2)) (h : ¬ x < 0 ∧ x.toNatClampNeg ≤ 65536) : go m pc ls (.int x :: r) (T, some q, kc, ks) I L P = go m (pc + 2) ls (.ref q :: r) (tagU T q 9 x.toNatClampNeg, some (q + 1), kc + 1, ks + x.toNatClampNeg) I (rowL L q) P := by
  exact go_M (n := (pc + 2, .ref q :: r, newT (T, some q, kc, ks) q 9 x.toNatClampNeg x.toNatClampNeg, I, rowL L q, P)) hd rfl (by simp only [stM, if_pos h]; rfl)
theorem go_newR {x : Int32} {j q kc ks ci : Nat} {T : Nat → Option (Nat × Nat)} (hd : decode (mB m) pc = .ok (.anewarray j, 3)) (ho : mO m = o) (hn : nR o j = some ci) (h : ci < 4 ∧ ¬ x < 0 ∧ x.toNatClampNeg ≤ 65536) : go m pc ls (.int x :: r) (T, some q, kc, ks) I L P = go m (pc + 3) ls (.ref q :: r) (tagU T q (10 + ci) x.toNatClampNeg, some (q + 1), kc + 1, ks + x.toNatClampNeg) I L (rowP P q) := by
  subst ho
  exact go_M (n := (pc + 3, .ref q :: r, newT (T, some q, kc, ks) q (10 + ci) x.toNatClampNeg x.toNatClampNeg, I, L, rowP P q)) hd rfl (by simp only [stM, hn, if_pos h]; rfl)
theorem go_obj {x y a : Nat} (hd : decode (mB m) pc = .ok (.invokespecial x, 3)) (ho : mO m = o) (hc : cR o x = some (y, 7)) (h : 1 ≤ mF m ∧ 2 * r.length + 12 ≤ mW m) : go m pc ls (.ref a :: r) w I L P = go m (pc + 3) ls r w I L P := by
  subst ho
  exact go_M (n := (pc + 3, r, w, I, L, P)) hd rfl (by simp only [stM, hc, if_pos h]; rfl)
theorem go_min {j y' : Nat} {x y : Int32} (hd : decode (mB m) pc = .ok (.invokestatic j, 3)) (ho : mO m = o) (hc : cR o j = some (y', 8)) (h : 1 ≤ mF m ∧ 2 * r.length + 13 ≤ mW m) : go m pc ls (.int y :: .int x :: r) w I L P = go m (pc + 3) ls (.int (if y < x then y else x) :: r) w I L P := by
  subst ho
  exact go_M (n := (pc + 3, .int (if y < x then y else x) :: r, w, I, L, P)) hd rfl (by simp only [stM, hc, if_pos h]; rfl)
def cpOk (w : Wd) (a0 a1 : Nat) (sp dp n : Int32) : Prop := ∃ n0 n1, w.1 a0 = some (8, n0) ∧ w.1 a1 = some (8, n1) ∧ ¬ sp < 0 ∧ ¬ dp < 0 ∧ ¬ n < 0 ∧ sp.toNatClampNeg + n.toNatClampNeg ≤ n0 ∧ dp.toNatClampNeg + n.toNatClampNeg ≤ n1
theorem go_cpy {j y' a0 a1 : Nat} {sp dp n : Int32} (hd : decode (mB m) pc = .ok (.invokestatic j, 3)) (ho : mO m = o) (hc : cR o j = some (y', 9)) (h : 1 ≤ mF m ∧ 2 * r.length + 18 ≤ mW m) (hk : cpOk w a0 a1 sp dp n) : go m pc ls (.int n :: .int dp :: .ref a1 :: .int sp :: .ref a0 :: r) w I L P = go m (pc + 3) ls r w (cpyI I a0 sp.toNatClampNeg a1 dp.toNatClampNeg n.toNatClampNeg) L P := by
  subst ho
  obtain ⟨n0, n1, h1, h2, h3⟩ := hk
  exact go_M (n := (pc + 3, r, w, cpyI I a0 sp.toNatClampNeg a1 dp.toNatClampNeg n.toNatClampNeg, L, P)) hd rfl (by simp only [stM, hc, h1, h2]; rw [if_pos trivial, if_pos ⟨h.1, h.2, h3⟩])
-- ends
theorem go_retV (hd : decode (mB m) pc = .ok (.return_, 1)) (hr : mR m = none) : go m pc ls [] w I L P = some (.inl none, w, I, L, P) := go_R hd rfl rfl rfl (by simp [stR, hr])
theorem go_retI {x : Int32} (hd : decode (mB m) pc = .ok (.ireturn, 1)) (hr : mR m = some .int) : go m pc ls [.int x] w I L P = some (.inl (some (.int x)), w, I, L, P) := go_R hd rfl rfl rfl (by simp [stR, hr])
theorem go_retZ {x : Int32} (hd : decode (mB m) pc = .ok (.ireturn, 1)) (hr : mR m = some .boolean) (hx : x &&& 1 = x) : go m pc ls [.int x] w I L P = some (.inl (some (.int x)), w, I, L, P) := go_R hd rfl rfl rfl (by simp [stR, hr, hx])
theorem go_retJ {x : Int64} (hd : decode (mB m) pc = .ok (.lreturn, 1)) (hr : mR m = some .long) : go m pc ls [.long x] w I L P = some (.inl (some (.long x)), w, I, L, P) := go_R hd rfl rfl rfl (by simp [stR, hr])
theorem go_retD {x : UInt64} (hd : decode (mB m) pc = .ok (.dreturn, 1)) (hr : mR m = some .double) : go m pc ls [.double x] w I L P = some (.inl (some (.double x)), w, I, L, P) := go_R hd rfl rfl rfl (by simp [stR, hr])
theorem go_retR {a : Nat} {C : String} (hd : decode (mB m) pc = .ok (.areturn, 1)) (hr : mR m = some (.object C)) : go m pc ls [.ref a] w I L P = some (.inl (some (.ref a)), w, I, L, P) := go_R hd rfl rfl rfl (by simp [stR, hr])
theorem go_retN {C : String} (hd : decode (mB m) pc = .ok (.areturn, 1)) (hr : mR m = some (.object C)) : go m pc ls [.null] w I L P = some (.inl (some .null), w, I, L, P) := go_R hd rfl rfl rfl (by simp [stR, hr])
theorem go_thr {ik is x e : Nat} (d0 : decode (mB m) pc = .ok (.new ik, 3)) (ho : mO m = 6) (hn : nR 6 ik = some e) (he : e = 100 + x) (hx : x < 3) (d3 : decode (mB m) (pc + 3) = .ok (.dup, 1)) (d4 : decode (mB m) (pc + 4) = .ok (.ldc is, 2)) (d6 : decode (mB m) (pc + 6) = .ok (.invokespecial (xIx x), 3)) (d9 : decode (mB m) (pc + 9) = .ok (.athrow, 1)) (hs : sR 6 is = true) (hh : mH m = []) (hf : 6 ≤ mF m) (hw : 2 * st.length + 82 ≤ mW m) : go m pc ls st w I L P = some (.inr x, thrT w, I, L, P) := by
  subst he
  have h8 : ¬ 100 + x < 8 := by omega
  refine go_T d0 rfl ?_ rfl rfl ?_
  · simp only [stM, ho, hn]
    cases w.2.1 <;> simp [h8]
  · simp only [stT, ho, hn, d3, d4, d6, d9, hs, hh]
    have h7 : xIx x = (if 100 + x = 100 then 110 else if 100 + x = 101 then 67 else 149) := by
      have h9 : x = 0 ∨ x = 1 ∨ x = 2 := by omega
      rcases h9 with rfl | rfl | rfl <;> rfl
    rw [if_pos ⟨trivial, by omega, by omega, trivial, trivial, trivial, h7, hf, hw⟩]
    congr 1; omega
-- calls
theorem cls1_v {y b : Nat} {bs rs : List Value} (hs : mS y = false) (hst : st = bs.reverse ++ .ref b :: rs) (hn : bs.length = mA y) (hrm : rmk m y = true) (hr : rs.length ≤ 4) (hen : (entA (.ref b :: bs)).length ≤ mL y) (virt : Bool) (hT : virt = false ∨ w.1 b = some (mO y, 0)) : cls1 m y st w virt = some (y, .ref b :: bs, rs) := by
  unfold rmk at hrm
  simp only [Bool.and_eq_true, decide_eq_true_eq] at hrm
  unfold cls1
  have e1 : (st.take (mA y + 1)).reverse = .ref b :: bs := by
    rw [hst, List.append_cons, List.take_append_of_le_length (by simp; omega), List.take_of_length_le (by simp; omega)]
    simp
  have e2 : st.drop (mA y + 1) = rs := by
    rw [hst, List.append_cons, List.drop_append_of_le_length (by simp; omega), List.drop_of_length_le (by simp; omega)]
    simp
  simp only [hs, Bool.false_eq_true, if_false, e1, e2]
  rw [if_pos ⟨by simp; omega, hrm.1.1, hrm.1.2, by omega, hen, hrm.2⟩]
  simp only [if_pos hT]
theorem cls1_s {y : Nat} {as rs : List Value} (hs : mS y = true) (hst : st = as.reverse ++ rs) (hn : as.length = mA y) (hrm : rmk m y = true) (hr : rs.length ≤ 4) (hen : (entA as).length ≤ mL y) (virt : Bool) : cls1 m y st w virt = some (y, as, rs) := by
  unfold rmk at hrm
  simp only [Bool.and_eq_true, decide_eq_true_eq] at hrm
  unfold cls1
  have e1 : (st.take (mA y)).reverse = as := by
    rw [hst, List.take_append_of_le_length (by simp; omega), List.take_of_length_le (by simp; omega)]
    simp
  have e2 : st.drop (mA y) = rs := by
    rw [hst, List.drop_append_of_le_length (by simp; omega), List.drop_of_length_le (by simp; omega)]
    simp
  simp only [hs, if_true, e1, e2]
  rw [if_pos ⟨by omega, hrm.1.1, hrm.1.2, by omega, hen, hrm.2⟩]
theorem go_Cn {i : Instr} {len y : Nat} {as rs : List Value} (hd : decode (mB m) pc = .ok (i, len)) (hA : stA (mO m) pc i len ls st = none) (hM : stM m pc i len st w I L P = none) (h : stC m i len st w = some (y, as, rs)) (hh : mH m = []) : go m pc ls st w I L P = kC (call y as w I L P) (fun v w I L P => go m (pc + 3) ls (v.toList ++ rs) w I L P) := by
  rw [go_C hd hA hM h]
  cases call y as w I L P with
  | none => rfl
  | some o =>
    obtain ⟨o1, w', I', L', P'⟩ := o
    cases o1 with
    | inl v => rfl
    | inr x => simp only [hh]; rfl
theorem go_vir {x y kd b : Nat} {bs rs : List Value} (hd : decode (mB m) pc = .ok (.invokevirtual x, 3)) (ho : mO m = o) (hh : mH m = []) (hc : cR o x = some (y, kd)) (hkd : kd = 0 ∨ kd = 1) (hs : mS y = false) (hst : st = bs.reverse ++ .ref b :: rs) (hn : bs.length = mA y) (hrm : rmk m y = true) (hr : rs.length ≤ 4) (hen : (entA (.ref b :: bs)).length ≤ mL y) (hT : w.1 b = some (mO y, 0)) :
    go m pc ls st w I L P = kC (call y (.ref b :: bs) w I L P) (fun v w I L P => go m (pc + 3) ls (v.toList ++ rs) w I L P) := by
  subst ho
  have h1 := cls1_v (m := m) hs hst hn hrm hr hen true (Or.inr hT)
  rcases hkd with rfl | rfl <;> exact go_Cn hd rfl rfl (by simp only [stC, hc, hs, h1]; rfl) hh
theorem go_spc {x y kd b : Nat} {bs rs : List Value} (hd : decode (mB m) pc = .ok (.invokespecial x, 3)) (ho : mO m = o) (hh : mH m = []) (hc : cR o x = some (y, kd)) (hkd : kd = 5 ∨ kd = 6) (hs : mS y = false) (hst : st = bs.reverse ++ .ref b :: rs) (hn : bs.length = mA y) (hrm : rmk m y = true) (hr : rs.length ≤ 4) (hen : (entA (.ref b :: bs)).length ≤ mL y) :
    go m pc ls st w I L P = kC (call y (.ref b :: bs) w I L P) (fun v w I L P => go m (pc + 3) ls (v.toList ++ rs) w I L P) := by
  subst ho
  have h1 := cls1_v (w := w) (m := m) hs hst hn hrm hr hen false (Or.inl rfl)
  rcases hkd with rfl | rfl <;> exact go_Cn hd rfl (by simp only [stM, hc]; rfl) (by simp only [stC, hc, hs, h1]; rfl) hh
theorem go_sta {x y kd : Nat} {as rs : List Value} (hd : decode (mB m) pc = .ok (.invokestatic x, 3)) (ho : mO m = o) (hh : mH m = []) (hc : cR o x = some (y, kd)) (hkd : kd = 2 ∨ kd = 3 ∨ kd = 4) (hs : mS y = true) (hst : st = as.reverse ++ rs) (hn : as.length = mA y) (hrm : rmk m y = true) (hr : rs.length ≤ 4) (hen : (entA as).length ≤ mL y) :
    go m pc ls st w I L P = kC (call y as w I L P) (fun v w I L P => go m (pc + 3) ls (v.toList ++ rs) w I L P) := by
  subst ho
  have h1 := cls1_s (w := w) (m := m) hs hst hn hrm hr hen false
  rcases hkd with rfl | rfl | rfl <;> exact go_Cn hd rfl (by simp only [stM, hc]; rfl) (by simp only [stC, hc, hs, h1]; rfl) hh
/-- in a method with handlers: what follows a return, what follows a throw -/
theorem go_virH {x y kd b : Nat} {bs rs : List Value} {v : Option Value} {w' : Wd} {I' : MI} {L' : ML} {P' : MP} (hd : decode (mB m) pc = .ok (.invokevirtual x, 3)) (ho : mO m = o) (hc : cR o x = some (y, kd)) (hkd : kd = 0 ∨ kd = 1) (hs : mS y = false) (hst : st = bs.reverse ++ .ref b :: rs) (hn : bs.length = mA y) (hrm : rmk m y = true) (hr : rs.length ≤ 4) (hen : (entA (.ref b :: bs)).length ≤ mL y) (hT : w.1 b = some (mO y, 0))
    (hcall : call y (.ref b :: bs) w I L P = some (.inl v, w', I', L', P')) : go m pc ls st w I L P = go m (pc + 3) ls (v.toList ++ rs) w' I' L' P' := by
  subst ho
  have h1 := cls1_v (m := m) hs hst hn hrm hr hen true (Or.inr hT)
  rcases hkd with rfl | rfl <;> rw [go_C hd rfl rfl (by simp only [stC, hc, hs, h1]; rfl), hcall]
theorem go_virT {x y kd b e pc' k : Nat} {bs rs : List Value} {w' : Wd} {I' : MI} {L' : ML} {P' : MP} (hd : decode (mB m) pc = .ok (.invokevirtual x, 3)) (ho : mO m = o) (hc : cR o x = some (y, kd)) (hkd : kd = 0 ∨ kd = 1) (hs : mS y = false) (hst : st = bs.reverse ++ .ref b :: rs) (hn : bs.length = mA y) (hrm : rmk m y = true) (hr : rs.length ≤ 4) (hen : (entA (.ref b :: bs)).length ≤ mL y) (hT : w.1 b = some (mO y, 0))
    (hmh : mH m ≠ []) (hh : hnd m pc e = some (pc', k)) (hk : k < ls.length) (hcall : call y (.ref b :: bs) w I L P = some (.inr e, w', I', L', P')) : go m pc ls st w I L P = go m pc' (lset1 ls k unk) [] w' I' L' P' := by
  subst ho
  have h1 := cls1_v (m := m) hs hst hn hrm hr hen true (Or.inr hT)
  have key : ∀ i, decode (mB m) pc = .ok (i, 3) → stA (mO m) pc i 3 ls st = none → stM m pc i 3 st w I L P = none → stC m i 3 st w = some (y, .ref b :: bs, rs) → go m pc ls st w I L P = go m pc' (lset1 ls k unk) [] w' I' L' P' := by
    intro i g1 g2 g3 g4
    rw [go_C g1 g2 g3 g4, hcall]
    simp only
    cases hm : mH m with
    | nil => exact absurd hm hmh
    | cons a t => simp only [hh, if_pos hk]
  rcases hkd with rfl | rfl <;> exact key _ hd rfl rfl (by simp only [stC, hc, hs, h1]; rfl)
end GI
theorem isA_ref (a : Nat) : isA (.ref a) = true := rfl
theorem isA_null : isA .null = true := rfl
theorem isA_rf (r : Option Nat) : isA (va_rf r) = true := by cases r <;> rfl
theorem rf_some (a : Nat) : va_rf (some a) = .ref a := rfl
theorem rf_none : va_rf none = .null := rfl
theorem fix1_int (x : Int32) : fix1 (.int x) = .int x := rfl
theorem fix1_ref (a : Nat) : fix1 (.ref a) = .ref a := rfl
theorem fix1_null : fix1 .null = .null := rfl
theorem fix1_unk : fix1 unk = unk := rfl
theorem fix1_long (x : Int64) : fix1 (.long x) = unk := rfl
theorem fix1_double (x : UInt64) : fix1 (.double x) = unk := rfl
theorem fix1_rf (r : Option Nat) : fix1 (va_rf r) = va_rf r := by cases r <;> rfl
end
section
-- constants and rows of the tables
theorem ic_m1 : Int32.ofInt (-1) = (-1) := by decide
theorem ic_0 : Int32.ofInt (0) = (nI 0) := by decide
theorem ic_1 : Int32.ofInt (1) = (nI 1) := by decide
theorem ic_2 : Int32.ofInt (2) = (nI 2) := by decide
theorem ic_3 : Int32.ofInt (3) = (nI 3) := by decide
theorem ic_4 : Int32.ofInt (4) = (nI 4) := by decide
theorem ic_5 : Int32.ofInt (5) = (nI 5) := by decide
theorem ic_6 : Int32.ofInt (6) = (nI 6) := by decide
theorem bi_m10 : (Int8.ofInt (-10)).toInt32 = (-10) := by decide
theorem bi_6 : (Int8.ofInt (6)).toInt32 = (nI 6) := by decide
theorem bi_7 : (Int8.ofInt (7)).toInt32 = (nI 7) := by decide
theorem bi_8 : (Int8.ofInt (8)).toInt32 = (nI 8) := by decide
theorem bi_9 : (Int8.ofInt (9)).toInt32 = (nI 9) := by decide
theorem bi_10 : (Int8.ofInt (10)).toInt32 = (nI 10) := by decide
theorem bi_11 : (Int8.ofInt (11)).toInt32 = (nI 11) := by decide
theorem bi_12 : (Int8.ofInt (12)).toInt32 = (nI 12) := by decide
theorem bi_13 : (Int8.ofInt (13)).toInt32 = (nI 13) := by decide
theorem bi_14 : (Int8.ofInt (14)).toInt32 = (nI 14) := by decide
theorem bi_15 : (Int8.ofInt (15)).toInt32 = (nI 15) := by decide
theorem bi_16 : (Int8.ofInt (16)).toInt32 = (nI 16) := by decide
theorem bi_22 : (Int8.ofInt (22)).toInt32 = (nI 22) := by decide
theorem bi_24 : (Int8.ofInt (24)).toInt32 = (nI 24) := by decide
theorem bi_31 : (Int8.ofInt (31)).toInt32 = (nI 31) := by decide
theorem bi_32 : (Int8.ofInt (32)).toInt32 = (nI 32) := by decide
theorem bi_40 : (Int8.ofInt (40)).toInt32 = (nI 40) := by decide
theorem bi_42 : (Int8.ofInt (42)).toInt32 = (nI 42) := by decide
theorem bi_44 : (Int8.ofInt (44)).toInt32 = (nI 44) := by decide
theorem bi_48 : (Int8.ofInt (48)).toInt32 = (nI 48) := by decide
theorem bi_49 : (Int8.ofInt (49)).toInt32 = (nI 49) := by decide
theorem bi_50 : (Int8.ofInt (50)).toInt32 = (nI 50) := by decide
theorem bi_52 : (Int8.ofInt (52)).toInt32 = (nI 52) := by decide
theorem bi_57 : (Int8.ofInt (57)).toInt32 = (nI 57) := by decide
theorem bi_58 : (Int8.ofInt (58)).toInt32 = (nI 58) := by decide
theorem bi_59 : (Int8.ofInt (59)).toInt32 = (nI 59) := by decide
theorem bi_61 : (Int8.ofInt (61)).toInt32 = (nI 61) := by decide
theorem bi_63 : (Int8.ofInt (63)).toInt32 = (nI 63) := by decide
theorem bi_64 : (Int8.ofInt (64)).toInt32 = (nI 64) := by decide
theorem bi_100 : (Int8.ofInt (100)).toInt32 = (nI 100) := by decide
theorem bi_114 : (Int8.ofInt (114)).toInt32 = (nI 114) := by decide
theorem bi_115 : (Int8.ofInt (115)).toInt32 = (nI 115) := by decide
theorem bi_119 : (Int8.ofInt (119)).toInt32 = (nI 119) := by decide
theorem bi_127 : (Int8.ofInt (127)).toInt32 = (nI 127) := by decide
theorem si_200 : (Int16.ofInt (200)).toInt32 = (nI 200) := by decide
theorem si_207 : (Int16.ofInt (207)).toInt32 = (nI 207) := by decide
theorem si_255 : (Int16.ofInt (255)).toInt32 = (nI 255) := by decide
theorem si_256 : (Int16.ofInt (256)).toInt32 = (nI 256) := by decide
theorem si_327 : (Int16.ofInt (327)).toInt32 = (nI 327) := by decide
theorem si_459 : (Int16.ofInt (459)).toInt32 = (nI 459) := by decide
theorem si_1836 : (Int16.ofInt (1836)).toInt32 = (nI 1836) := by decide
theorem f_0_11 : fR 0 11 = some (0, 0) := by decide +kernel
theorem f_0_17 : fR 0 17 = some (0, 1) := by decide +kernel
theorem f_0_23 : fR 0 23 = some (0, 2) := by decide +kernel
theorem f_0_27 : fR 0 27 = some (0, 3) := by decide +kernel
theorem f_0_30 : fR 0 30 = some (0, 4) := by decide +kernel
theorem f_0_36 : fR 0 36 = some (0, 5) := by decide +kernel
theorem f_0_40 : fR 0 40 = some (0, 6) := by decide +kernel
theorem f_0_43 : fR 0 43 = some (0, 7) := by decide +kernel
theorem f_0_46 : fR 0 46 = some (0, 8) := by decide +kernel
theorem f_0_49 : fR 0 49 = some (0, 9) := by decide +kernel
theorem f_0_53 : fR 0 53 = some (0, 10) := by decide +kernel
theorem f_0_56 : fR 0 56 = some (0, 11) := by decide +kernel
theorem f_0_59 : fR 0 59 = some (0, 12) := by decide +kernel
theorem f_0_62 : fR 0 62 = some (0, 13) := by decide +kernel
theorem f_0_93 : fR 0 93 = some (2, 0) := by decide +kernel
theorem f_0_100 : fR 0 100 = some (2, 2) := by decide +kernel
theorem f_0_103 : fR 0 103 = some (2, 1) := by decide +kernel
theorem f_0_106 : fR 0 106 = some (5, 0) := by decide +kernel
theorem f_0_109 : fR 0 109 = some (5, 1) := by decide +kernel
theorem f_0_112 : fR 0 112 = some (5, 2) := by decide +kernel
theorem f_0_127 : fR 0 127 = some (3, 1) := by decide +kernel
theorem f_0_131 : fR 0 131 = some (3, 2) := by decide +kernel
theorem f_0_134 : fR 0 134 = some (3, 0) := by decide +kernel
theorem f_0_137 : fR 0 137 = some (2, 5) := by decide +kernel
theorem f_0_205 : fR 0 205 = some (2, 6) := by decide +kernel
theorem f_0_240 : fR 0 240 = some (2, 3) := by decide +kernel
theorem f_1_11 : fR 1 11 = some (1, 0) := by decide +kernel
theorem f_1_17 : fR 1 17 = some (1, 1) := by decide +kernel
theorem f_1_21 : fR 1 21 = some (1, 2) := by decide +kernel
theorem f_1_25 : fR 1 25 = some (1, 3) := by decide +kernel
theorem f_1_28 : fR 1 28 = some (1, 4) := by decide +kernel
theorem f_1_31 : fR 1 31 = some (1, 5) := by decide +kernel
theorem f_1_43 : fR 1 43 = some (3, 0) := by decide +kernel
theorem f_1_47 : fR 1 47 = some (3, 1) := by decide +kernel
theorem f_1_50 : fR 1 50 = some (3, 2) := by decide +kernel
theorem f_1_53 : fR 1 53 = some (3, 3) := by decide +kernel
theorem f_1_54 : fR 1 54 = some (3, 4) := by decide +kernel
theorem f_2_9 : fR 2 9 = some (2, 0) := by decide +kernel
theorem f_2_15 : fR 2 15 = some (2, 1) := by decide +kernel
theorem f_2_18 : fR 2 18 = some (2, 2) := by decide +kernel
theorem f_2_22 : fR 2 22 = some (2, 3) := by decide +kernel
theorem f_2_25 : fR 2 25 = some (2, 4) := by decide +kernel
theorem f_2_29 : fR 2 29 = some (2, 5) := by decide +kernel
theorem f_2_32 : fR 2 32 = some (2, 6) := by decide +kernel
theorem f_3_9 : fR 3 9 = some (3, 0) := by decide +kernel
theorem f_3_15 : fR 3 15 = some (3, 1) := by decide +kernel
theorem f_3_19 : fR 3 19 = some (3, 2) := by decide +kernel
theorem f_3_22 : fR 3 22 = some (3, 3) := by decide +kernel
theorem f_3_25 : fR 3 25 = some (3, 4) := by decide +kernel
theorem f_4_9 : fR 4 9 = some (4, 0) := by decide +kernel
theorem f_4_15 : fR 4 15 = some (4, 1) := by decide +kernel
theorem f_4_19 : fR 4 19 = some (4, 2) := by decide +kernel
theorem f_4_22 : fR 4 22 = some (4, 3) := by decide +kernel
theorem f_4_25 : fR 4 25 = some (4, 4) := by decide +kernel
theorem f_4_28 : fR 4 28 = some (4, 5) := by decide +kernel
theorem f_4_31 : fR 4 31 = some (4, 6) := by decide +kernel
theorem f_4_34 : fR 4 34 = some (4, 7) := by decide +kernel
theorem f_4_37 : fR 4 37 = some (4, 8) := by decide +kernel
theorem f_4_40 : fR 4 40 = some (4, 9) := by decide +kernel
theorem f_5_9 : fR 5 9 = some (5, 0) := by decide +kernel
theorem f_5_15 : fR 5 15 = some (5, 1) := by decide +kernel
theorem f_5_18 : fR 5 18 = some (5, 2) := by decide +kernel
theorem f_5_21 : fR 5 21 = some (5, 3) := by decide +kernel
theorem f_5_25 : fR 5 25 = some (5, 4) := by decide +kernel
theorem f_5_28 : fR 5 28 = some (5, 5) := by decide +kernel
theorem f_6_10 : fR 6 10 = some (6, 0) := by decide +kernel
theorem f_6_16 : fR 6 16 = some (6, 1) := by decide +kernel
theorem f_6_19 : fR 6 19 = some (6, 2) := by decide +kernel
theorem f_6_22 : fR 6 22 = some (6, 3) := by decide +kernel
theorem f_6_26 : fR 6 26 = some (6, 4) := by decide +kernel
theorem f_6_33 : fR 6 33 = some (6, 5) := by decide +kernel
theorem f_6_41 : fR 6 41 = some (0, 5) := by decide +kernel
theorem f_6_45 : fR 6 45 = some (5, 0) := by decide +kernel
theorem f_6_57 : fR 6 57 = some (0, 1) := by decide +kernel
theorem f_6_60 : fR 6 60 = some (0, 3) := by decide +kernel
theorem f_6_84 : fR 6 84 = some (2, 2) := by decide +kernel
theorem f_6_99 : fR 6 99 = some (0, 4) := by decide +kernel
theorem f_6_115 : fR 6 115 = some (1, 1) := by decide +kernel
theorem f_6_154 : fR 6 154 = some (2, 5) := by decide +kernel
theorem f_6_181 : fR 6 181 = some (5, 1) := by decide +kernel
theorem f_6_184 : fR 6 184 = some (4, 1) := by decide +kernel
theorem f_6_245 : fR 6 245 = some (4, 5) := by decide +kernel
theorem f_6_248 : fR 6 248 = some (4, 8) := by decide +kernel
theorem f_6_251 : fR 6 251 = some (4, 6) := by decide +kernel
theorem f_6_254 : fR 6 254 = some (4, 7) := by decide +kernel
theorem f_6_257 : fR 6 257 = some (4, 9) := by decide +kernel
theorem f_7_7 : fR 7 7 = some (7, 0) := by decide +kernel
theorem f_7_13 : fR 7 13 = some (7, 1) := by decide +kernel
theorem f_7_16 : fR 7 16 = some (7, 3) := by decide +kernel
theorem f_7_19 : fR 7 19 = some (7, 4) := by decide +kernel
theorem f_7_26 : fR 7 26 = some (7, 6) := by decide +kernel
theorem f_7_34 : fR 7 34 = some (7, 2) := by decide +kernel
theorem f_7_44 : fR 7 44 = some (7, 7) := by decide +kernel
theorem f_7_213 : fR 7 213 = some (7, 5) := by decide +kernel
theorem f_7_216 : fR 7 216 = some (7, 8) := by decide +kernel
theorem f_7_219 : fR 7 219 = some (7, 9) := by decide +kernel
theorem f_7_238 : fR 7 238 = some (7, 14) := by decide +kernel
theorem f_7_242 : fR 7 242 = some (7, 13) := by decide +kernel
theorem f_7_247 : fR 7 247 = some (7, 10) := by decide +kernel
theorem f_7_253 : fR 7 253 = some (7, 11) := by decide +kernel
theorem f_7_259 : fR 7 259 = some (7, 12) := by decide +kernel
theorem f_7_276 : fR 7 276 = some (7, 15) := by decide +kernel
theorem c_0_35 : cR 0 35 = some (21, 6) := by decide +kernel
theorem c_0_65 : cR 0 65 = some (5, 6) := by decide +kernel
theorem c_0_66 : cR 0 66 = some (14, 6) := by decide +kernel
theorem c_0_67 : cR 0 67 = some (6, 1) := by decide +kernel
theorem c_0_71 : cR 0 71 = some (15, 1) := by decide +kernel
theorem c_0_74 : cR 0 74 = some (22, 1) := by decide +kernel
theorem c_0_77 : cR 0 77 = some (29, 0) := by decide +kernel
theorem c_0_81 : cR 0 81 = some (30, 0) := by decide +kernel
theorem c_0_85 : cR 0 85 = some (7, 1) := by decide +kernel
theorem c_0_89 : cR 0 89 = some (31, 0) := by decide +kernel
theorem c_0_96 : cR 0 96 = some (34, 0) := by decide +kernel
theorem c_0_115 : cR 0 115 = some (26, 1) := by decide +kernel
theorem c_0_119 : cR 0 119 = some (32, 0) := by decide +kernel
theorem c_0_122 : cR 0 122 = some (2, 1) := by decide +kernel
theorem c_0_128 : cR 0 128 = some (35, 0) := by decide +kernel
theorem c_0_146 : cR 0 146 = some (44, 0) := by decide +kernel
theorem c_0_150 : cR 0 150 = some (39, 0) := by decide +kernel
theorem c_0_153 : cR 0 153 = some (45, 0) := by decide +kernel
theorem c_0_156 : cR 0 156 = some (47, 0) := by decide +kernel
theorem c_0_159 : cR 0 159 = some (51, 0) := by decide +kernel
theorem c_0_162 : cR 0 162 = some (54, 0) := by decide +kernel
theorem c_0_165 : cR 0 165 = some (50, 0) := by decide +kernel
theorem c_0_168 : cR 0 168 = some (56, 0) := by decide +kernel
theorem c_0_171 : cR 0 171 = some (55, 0) := by decide +kernel
theorem c_0_174 : cR 0 174 = some (61, 0) := by decide +kernel
theorem c_0_177 : cR 0 177 = some (62, 0) := by decide +kernel
theorem c_0_180 : cR 0 180 = some (24, 1) := by decide +kernel
theorem c_0_184 : cR 0 184 = some (46, 0) := by decide +kernel
theorem c_0_188 : cR 0 188 = some (33, 0) := by decide +kernel
theorem c_0_192 : cR 0 192 = some (48, 0) := by decide +kernel
theorem c_0_196 : cR 0 196 = some (49, 0) := by decide +kernel
theorem c_0_199 : cR 0 199 = some (3, 1) := by decide +kernel
theorem c_0_202 : cR 0 202 = some (11, 1) := by decide +kernel
theorem c_0_208 : cR 0 208 = some (17, 1) := by decide +kernel
theorem c_0_209 : cR 0 209 = some (52, 0) := by decide +kernel
theorem c_0_212 : cR 0 212 = some (53, 0) := by decide +kernel
theorem c_0_215 : cR 0 215 = some (19, 1) := by decide +kernel
theorem c_0_218 : cR 0 218 = some (12, 1) := by decide +kernel
theorem c_0_221 : cR 0 221 = some (59, 0) := by decide +kernel
theorem c_0_225 : cR 0 225 = some (60, 0) := by decide +kernel
theorem c_0_228 : cR 0 228 = some (18, 1) := by decide +kernel
theorem c_0_231 : cR 0 231 = some (57, 0) := by decide +kernel
theorem c_0_234 : cR 0 234 = some (58, 0) := by decide +kernel
theorem c_0_237 : cR 0 237 = some (10, 1) := by decide +kernel
theorem c_1_34 : cR 1 34 = some (0, 6) := by decide +kernel
theorem c_1_35 : cR 1 35 = some (1, 1) := by decide +kernel
theorem c_1_39 : cR 1 39 = some (119, 3) := by decide +kernel
theorem c_1_58 : cR 1 58 = some (7, 0) := by decide +kernel
theorem c_1_62 : cR 1 62 = some (10, 0) := by decide +kernel
theorem c_2_35 : cR 2 35 = some (119, 3) := by decide +kernel
theorem c_3_29 : cR 3 29 = some (3, 0) := by decide +kernel
theorem c_4_44 : cR 4 44 = some (65, 0) := by decide +kernel
theorem c_4_47 : cR 4 47 = some (67, 0) := by decide +kernel
theorem c_4_51 : cR 4 51 = some (78, 0) := by decide +kernel
theorem c_4_55 : cR 4 55 = some (68, 0) := by decide +kernel
theorem c_4_58 : cR 4 58 = some (74, 0) := by decide +kernel
theorem c_4_62 : cR 4 62 = some (69, 0) := by decide +kernel
theorem c_4_65 : cR 4 65 = some (70, 0) := by decide +kernel
theorem c_4_68 : cR 4 68 = some (71, 0) := by decide +kernel
theorem c_4_71 : cR 4 71 = some (76, 0) := by decide +kernel
theorem c_4_74 : cR 4 74 = some (73, 0) := by decide +kernel
theorem c_4_78 : cR 4 78 = some (72, 0) := by decide +kernel
theorem c_4_81 : cR 4 81 = some (75, 0) := by decide +kernel
theorem c_4_84 : cR 4 84 = some (77, 2) := by decide +kernel
theorem c_5_31 : cR 5 31 = some (119, 3) := by decide +kernel
theorem c_5_41 : cR 5 41 = some (25, 0) := by decide +kernel
theorem c_6_9 : cR 6 9 = some (27, 6) := by decide +kernel
theorem c_6_32 : cR 6 32 = some (63, 6) := by decide +kernel
theorem c_6_37 : cR 6 37 = some (110, 2) := by decide +kernel
theorem c_6_50 : cR 6 50 = some (116, 0) := by decide +kernel
theorem c_6_53 : cR 6 53 = some (28, 1) := by decide +kernel
theorem c_6_70 : cR 6 70 = some (34, 1) := by decide +kernel
theorem c_6_76 : cR 6 76 = some (36, 1) := by decide +kernel
theorem c_6_80 : cR 6 80 = some (112, 0) := by decide +kernel
theorem c_6_92 : cR 6 92 = some (37, 1) := by decide +kernel
theorem c_6_96 : cR 6 96 = some (16, 1) := by decide +kernel
theorem c_6_102 : cR 6 102 = some (111, 0) := by decide +kernel
theorem c_6_111 : cR 6 111 = some (113, 0) := by decide +kernel
theorem c_6_122 : cR 6 122 = some (33, 1) := by decide +kernel
theorem c_6_128 : cR 6 128 = some (9, 1) := by decide +kernel
theorem c_6_131 : cR 6 131 = some (42, 1) := by decide +kernel
theorem c_6_135 : cR 6 135 = some (43, 1) := by decide +kernel
theorem c_6_138 : cR 6 138 = some (13, 1) := by decide +kernel
theorem c_6_141 : cR 6 141 = some (7, 1) := by decide +kernel
theorem c_6_150 : cR 6 150 = some (4, 1) := by decide +kernel
theorem c_6_153 : cR 6 153 = some (20, 1) := by decide +kernel
theorem c_6_157 : cR 6 157 = some (17, 1) := by decide +kernel
theorem c_6_160 : cR 6 160 = some (38, 1) := by decide +kernel
theorem c_6_161 : cR 6 161 = some (23, 1) := by decide +kernel
theorem c_6_166 : cR 6 166 = some (25, 1) := by decide +kernel
theorem c_6_168 : cR 6 168 = some (115, 0) := by decide +kernel
theorem c_6_171 : cR 6 171 = some (41, 1) := by decide +kernel
theorem c_6_175 : cR 6 175 = some (40, 1) := by decide +kernel
theorem c_6_178 : cR 6 178 = some (30, 1) := by decide +kernel
theorem c_6_189 : cR 6 189 = some (64, 1) := by decide +kernel
theorem c_6_192 : cR 6 192 = some (66, 1) := by decide +kernel
theorem c_6_195 : cR 6 195 = some (65, 1) := by decide +kernel
theorem c_6_198 : cR 6 198 = some (67, 1) := by decide +kernel
theorem c_6_202 : cR 6 202 = some (114, 0) := by decide +kernel
theorem c_6_205 : cR 6 205 = some (118, 0) := by decide +kernel
theorem c_6_213 : cR 6 213 = some (106, 2) := by decide +kernel
theorem c_6_217 : cR 6 217 = some (107, 0) := by decide +kernel
theorem c_6_220 : cR 6 220 = some (31, 1) := by decide +kernel
theorem c_6_223 : cR 6 223 = some (109, 2) := by decide +kernel
theorem c_6_229 : cR 6 229 = some (108, 2) := by decide +kernel
theorem c_6_241 : cR 6 241 = some (8, 1) := by decide +kernel
theorem c_6_261 : cR 6 261 = some (117, 0) := by decide +kernel
theorem c_7_22 : cR 7 22 = some (125, 0) := by decide +kernel
theorem c_7_30 : cR 7 30 = some (124, 2) := by decide +kernel
theorem c_7_37 : cR 7 37 = some (122, 0) := by decide +kernel
theorem c_7_41 : cR 7 41 = some (136, 0) := by decide +kernel
theorem c_7_47 : cR 7 47 = some (123, 0) := by decide +kernel
theorem c_7_50 : cR 7 50 = some (128, 0) := by decide +kernel
theorem c_7_54 : cR 7 54 = some (127, 0) := by decide +kernel
theorem c_7_58 : cR 7 58 = some (140, 0) := by decide +kernel
theorem c_7_62 : cR 7 62 = some (139, 0) := by decide +kernel
theorem c_7_65 : cR 7 65 = some (133, 0) := by decide +kernel
theorem c_7_69 : cR 7 69 = some (142, 0) := by decide +kernel
theorem c_7_73 : cR 7 73 = some (141, 0) := by decide +kernel
theorem c_7_76 : cR 7 76 = some (129, 0) := by decide +kernel
theorem c_7_80 : cR 7 80 = some (147, 0) := by decide +kernel
theorem c_7_83 : cR 7 83 = some (144, 0) := by decide +kernel
theorem c_7_87 : cR 7 87 = some (149, 0) := by decide +kernel
theorem c_7_90 : cR 7 90 = some (145, 0) := by decide +kernel
theorem c_7_93 : cR 7 93 = some (148, 0) := by decide +kernel
theorem c_7_96 : cR 7 96 = some (130, 0) := by decide +kernel
theorem c_7_99 : cR 7 99 = some (146, 0) := by decide +kernel
theorem c_7_102 : cR 7 102 = some (126, 0) := by decide +kernel
theorem c_7_105 : cR 7 105 = some (154, 0) := by decide +kernel
theorem c_7_108 : cR 7 108 = some (143, 0) := by decide +kernel
theorem c_7_112 : cR 7 112 = some (150, 0) := by decide +kernel
theorem c_7_115 : cR 7 115 = some (151, 0) := by decide +kernel
theorem c_7_118 : cR 7 118 = some (152, 0) := by decide +kernel
theorem c_7_121 : cR 7 121 = some (153, 0) := by decide +kernel
theorem c_7_124 : cR 7 124 = some (155, 0) := by decide +kernel
theorem c_7_127 : cR 7 127 = some (156, 2) := by decide +kernel
theorem c_7_130 : cR 7 130 = some (158, 0) := by decide +kernel
theorem c_7_134 : cR 7 134 = some (157, 0) := by decide +kernel
theorem c_7_145 : cR 7 145 = some (131, 0) := by decide +kernel
theorem c_7_152 : cR 7 152 = some (160, 2) := by decide +kernel
theorem c_7_160 : cR 7 160 = some (134, 0) := by decide +kernel
theorem c_7_165 : cR 7 165 = some (132, 0) := by decide +kernel
theorem c_7_168 : cR 7 168 = some (165, 0) := by decide +kernel
theorem c_7_171 : cR 7 171 = some (161, 0) := by decide +kernel
theorem c_7_175 : cR 7 175 = some (137, 0) := by decide +kernel
theorem c_7_178 : cR 7 178 = some (162, 0) := by decide +kernel
theorem c_7_181 : cR 7 181 = some (159, 0) := by decide +kernel
theorem c_7_186 : cR 7 186 = some (174, 0) := by decide +kernel
theorem c_7_193 : cR 7 193 = some (179, 0) := by decide +kernel
theorem c_7_196 : cR 7 196 = some (182, 0) := by decide +kernel
theorem c_7_201 : cR 7 201 = some (181, 0) := by decide +kernel
theorem c_7_204 : cR 7 204 = some (135, 0) := by decide +kernel
theorem c_7_207 : cR 7 207 = some (184, 0) := by decide +kernel
theorem c_7_210 : cR 7 210 = some (186, 0) := by decide +kernel
theorem c_7_222 : cR 7 222 = some (193, 0) := by decide +kernel
theorem c_7_225 : cR 7 225 = some (194, 0) := by decide +kernel
theorem c_7_232 : cR 7 232 = some (197, 2) := by decide +kernel
theorem c_7_235 : cR 7 235 = some (198, 0) := by decide +kernel
theorem c_7_250 : cR 7 250 = some (196, 0) := by decide +kernel
theorem c_7_256 : cR 7 256 = some (195, 0) := by decide +kernel
theorem c_7_262 : cR 7 262 = some (199, 0) := by decide +kernel
theorem c_7_265 : cR 7 265 = some (200, 0) := by decide +kernel
theorem c_7_268 : cR 7 268 = some (201, 0) := by decide +kernel
theorem c_7_271 : cR 7 271 = some (202, 0) := by decide +kernel
theorem c_7_281 : cR 7 281 = some (204, 0) := by decide +kernel
theorem c_8_7 : cR 8 7 = some (80, 0) := by decide +kernel
theorem c_8_15 : cR 8 15 = some (81, 0) := by decide +kernel
theorem c_8_21 : cR 8 21 = some (82, 0) := by decide +kernel
theorem c_8_27 : cR 8 27 = some (83, 0) := by decide +kernel
theorem c_8_30 : cR 8 30 = some (84, 0) := by decide +kernel
theorem c_8_33 : cR 8 33 = some (85, 0) := by decide +kernel
theorem c_8_37 : cR 8 37 = some (86, 0) := by decide +kernel
theorem c_8_41 : cR 8 41 = some (87, 0) := by decide +kernel
theorem c_8_44 : cR 8 44 = some (88, 0) := by decide +kernel
theorem c_8_47 : cR 8 47 = some (90, 0) := by decide +kernel
theorem c_8_50 : cR 8 50 = some (91, 0) := by decide +kernel
theorem c_8_53 : cR 8 53 = some (92, 0) := by decide +kernel
theorem c_8_56 : cR 8 56 = some (93, 0) := by decide +kernel
theorem c_8_59 : cR 8 59 = some (94, 0) := by decide +kernel
theorem c_8_62 : cR 8 62 = some (95, 0) := by decide +kernel
theorem c_8_65 : cR 8 65 = some (97, 0) := by decide +kernel
theorem c_8_68 : cR 8 68 = some (99, 0) := by decide +kernel
theorem c_8_71 : cR 8 71 = some (101, 0) := by decide +kernel
theorem c_8_74 : cR 8 74 = some (104, 0) := by decide +kernel
theorem c_8_78 : cR 8 78 = some (79, 5) := by decide +kernel
theorem c_8_81 : cR 8 81 = some (120, 5) := by decide +kernel
theorem c_8_82 : cR 8 82 = some (206, 4) := by decide +kernel
theorem c_8_87 : cR 8 87 = some (163, 0) := by decide +kernel
theorem c_8_88 : cR 8 88 = some (121, 0) := by decide +kernel
theorem c_8_91 : cR 8 91 = some (207, 4) := by decide +kernel
theorem c_8_94 : cR 8 94 = some (164, 0) := by decide +kernel
theorem c_8_95 : cR 8 95 = some (208, 4) := by decide +kernel
theorem c_8_98 : cR 8 98 = some (166, 0) := by decide +kernel
theorem c_8_99 : cR 8 99 = some (209, 4) := by decide +kernel
theorem c_8_101 : cR 8 101 = some (167, 0) := by decide +kernel
theorem c_8_102 : cR 8 102 = some (210, 4) := by decide +kernel
theorem c_8_104 : cR 8 104 = some (168, 0) := by decide +kernel
theorem c_8_107 : cR 8 107 = some (211, 4) := by decide +kernel
theorem c_8_110 : cR 8 110 = some (169, 0) := by decide +kernel
theorem c_8_111 : cR 8 111 = some (212, 4) := by decide +kernel
theorem c_8_114 : cR 8 114 = some (170, 0) := by decide +kernel
theorem c_8_115 : cR 8 115 = some (213, 4) := by decide +kernel
theorem c_8_117 : cR 8 117 = some (171, 0) := by decide +kernel
theorem c_8_118 : cR 8 118 = some (214, 4) := by decide +kernel
theorem c_8_120 : cR 8 120 = some (172, 0) := by decide +kernel
theorem c_8_121 : cR 8 121 = some (89, 0) := by decide +kernel
theorem c_8_124 : cR 8 124 = some (173, 0) := by decide +kernel
theorem c_8_125 : cR 8 125 = some (215, 4) := by decide +kernel
theorem c_8_127 : cR 8 127 = some (175, 0) := by decide +kernel
theorem c_8_128 : cR 8 128 = some (216, 4) := by decide +kernel
theorem c_8_130 : cR 8 130 = some (176, 0) := by decide +kernel
theorem c_8_131 : cR 8 131 = some (217, 4) := by decide +kernel
theorem c_8_133 : cR 8 133 = some (177, 0) := by decide +kernel
theorem c_8_134 : cR 8 134 = some (218, 4) := by decide +kernel
theorem c_8_136 : cR 8 136 = some (178, 0) := by decide +kernel
theorem c_8_137 : cR 8 137 = some (219, 4) := by decide +kernel
theorem c_8_139 : cR 8 139 = some (180, 0) := by decide +kernel
theorem c_8_140 : cR 8 140 = some (220, 4) := by decide +kernel
theorem c_8_142 : cR 8 142 = some (183, 0) := by decide +kernel
theorem c_8_143 : cR 8 143 = some (96, 0) := by decide +kernel
theorem c_8_146 : cR 8 146 = some (185, 0) := by decide +kernel
theorem c_8_147 : cR 8 147 = some (221, 4) := by decide +kernel
theorem c_8_149 : cR 8 149 = some (187, 0) := by decide +kernel
theorem c_8_150 : cR 8 150 = some (98, 0) := by decide +kernel
theorem c_8_153 : cR 8 153 = some (188, 0) := by decide +kernel
theorem c_8_154 : cR 8 154 = some (222, 4) := by decide +kernel
theorem c_8_156 : cR 8 156 = some (189, 0) := by decide +kernel
theorem c_8_157 : cR 8 157 = some (100, 0) := by decide +kernel
theorem c_8_161 : cR 8 161 = some (190, 0) := by decide +kernel
theorem c_8_162 : cR 8 162 = some (223, 4) := by decide +kernel
theorem c_8_164 : cR 8 164 = some (191, 0) := by decide +kernel
theorem c_8_165 : cR 8 165 = some (102, 0) := by decide +kernel
theorem c_8_168 : cR 8 168 = some (192, 0) := by decide +kernel
theorem c_8_169 : cR 8 169 = some (103, 0) := by decide +kernel
theorem c_8_172 : cR 8 172 = some (203, 0) := by decide +kernel
theorem c_8_173 : cR 8 173 = some (224, 4) := by decide +kernel
theorem c_8_176 : cR 8 176 = some (138, 0) := by decide +kernel
theorem c_8_177 : cR 8 177 = some (105, 0) := by decide +kernel
theorem c_8_181 : cR 8 181 = some (205, 0) := by decide +kernel
section TS
variable {m pc : Nat} {ls r : List Value} {w : Wd} {I : MI} {L : ML} {P : MP}
theorem go_tsI {dflt lo hi z off : Int} {offs : Array Int} {len t k : Nat} (hd : decode (mB m) pc = .ok (.tableswitch dflt lo hi offs, len)) (hx : (nI k).toInt = z) (h1 : ¬ z < lo) (h2 : ¬ hi < z) (ho : offs[(z - lo).toNat]? = some off) (ht : (pc : Int) + off = (t : Int)) : go m pc ls (.int (nI k) :: r) w I L P = go m t ls r w I L P := by
  refine go_A (n := (t, ls, r)) hd ?_
  simp only [stA, hx]
  rw [if_neg (by omega), ho]
  exact jmp_at ht
theorem go_tsO {dflt lo hi : Int} {offs : Array Int} {len t : Nat} {x : Int32} (hd : decode (mB m) pc = .ok (.tableswitch dflt lo hi offs, len)) (h : x.toInt < lo ∨ hi < x.toInt) (ht : (pc : Int) + dflt = (t : Int)) : go m pc ls (.int x :: r) w I L P = go m t ls r w I L P := by
  refine go_A (n := (t, ls, r)) hd ?_
  simp only [stA]
  rw [if_pos h]
  exact jmp_at ht
theorem go_lsI {dflt z off : Int} {ps : Array (Int × Int)} {len t k : Nat} (hd : decode (mB m) pc = .ok (.lookupswitch dflt ps, len)) (hp : (ps.toList.zip (ps.toList.drop 1)).all (fun (a, next) => a.1 < next.1) = true) (hx : (nI k).toInt = z) (ho : Op.lookupswitch.offset ps.toList dflt z = off) (ht : (pc : Int) + off = (t : Int)) : go m pc ls (.int (nI k) :: r) w I L P = go m t ls r w I L P := by
  refine go_A (n := (t, ls, r)) hd ?_
  simp only [stA, hx, ho]
  rw [if_pos hp]
  exact jmp_at ht
theorem go_lsO {dflt off : Int} {ps : Array (Int × Int)} {len t : Nat} {x : Int32} (hd : decode (mB m) pc = .ok (.lookupswitch dflt ps, len)) (hp : (ps.toList.zip (ps.toList.drop 1)).all (fun (a, next) => a.1 < next.1) = true) (ho : Op.lookupswitch.offset ps.toList dflt x.toInt = off) (ht : (pc : Int) + off = (t : Int)) : go m pc ls (.int x :: r) w I L P = go m t ls r w I L P := by
  refine go_A (n := (t, ls, r)) hd ?_
  simp only [stA, ho]
  rw [if_pos hp]
  exact jmp_at ht
end TS
end
section
theorem Message_init_0 (a_l0 : Nat) (w : Wd) (I : MI) (L : ML) (P : MP) (h0 : w.1 a_l0 = some (3, 0)) (h1 : (nI 0) &&& 1 = (nI 0)) : go 0 0 [.ref a_l0] [] w I L P = some (.inl none, w, (updI (updI (updI (updI I a_l0 0 (nI 0)) a_l0 1 (nI 0)) a_l0 2 (nI 1)) a_l0 3 (nI 0)), (updL L a_l0 4 0), P) := by
  refine (go_aload_n (m := 0) (pc := 0) (k := 0) (by decide +kernel) rfl).trans ?_
  refine (go_obj (m := 0) (pc := 1) (o := 3) (x := 3) (y := 999) (by decide +kernel) rfl (by decide +kernel) (by decide +kernel)).trans ?_
  refine (go_aload_n (m := 0) (pc := 4) (k := 0) (by decide +kernel) rfl).trans ?_
  refine (go_ic (m := 0) (pc := 5) (n := 0) (by decide +kernel) ic_0).trans ?_
  refine (go_putZ (m := 0) (pc := 6) (o := 3) (x := 9) (ci := 3) (k := 0) (by decide +kernel) rfl f_3_9 rfl (by decide +kernel) h1 h0).trans ?_
  refine (go_aload_n (m := 0) (pc := 9) (k := 0) (by decide +kernel) rfl).trans ?_
  refine (go_ic (m := 0) (pc := 10) (n := 0) (by decide +kernel) ic_0).trans ?_
  refine (go_putI (m := 0) (pc := 11) (o := 3) (x := 15) (ci := 3) (k := 1) (by decide +kernel) rfl f_3_15 rfl (by decide +kernel) h0).trans ?_
  refine (go_aload_n (m := 0) (pc := 14) (k := 0) (by decide +kernel) rfl).trans ?_
  refine (go_ic (m := 0) (pc := 15) (n := 1) (by decide +kernel) ic_1).trans ?_
  refine (go_putI (m := 0) (pc := 16) (o := 3) (x := 19) (ci := 3) (k := 2) (by decide +kernel) rfl f_3_19 rfl (by decide +kernel) h0).trans ?_
  refine (go_aload_n (m := 0) (pc := 19) (k := 0) (by decide +kernel) rfl).trans ?_
  refine (go_ic (m := 0) (pc := 20) (n := 0) (by decide +kernel) ic_0).trans ?_
  refine (go_putI (m := 0) (pc := 21) (o := 3) (x := 22) (ci := 3) (k := 3) (by decide +kernel) rfl f_3_22 rfl (by decide +kernel) h0).trans ?_
  refine (go_aload_n (m := 0) (pc := 24) (k := 0) (by decide +kernel) rfl).trans ?_
  refine (go_lc (m := 0) (pc := 25) (n := 0) (v := 0) (by decide +kernel) rfl).trans ?_
  refine (go_putJ (m := 0) (pc := 26) (o := 3) (x := 25) (ci := 3) (k := 4) (by decide +kernel) rfl f_3_25 rfl (by decide +kernel) h0).trans ?_
  exact go_retV (m := 0) (pc := 29) (by decide +kernel) rfl
theorem Message_init_E (this : Nat) (w : Wd) (I : MI) (L : ML) (P : MP) : call 0 [.ref this] w I L P = go 0 0 [.ref this] [] w I L P := rfl
theorem Message_copyFrom_0 (a_l0 : Nat) (a_l1 : Nat) (w : Wd) (I : MI) (L : ML) (P : MP) (h0 : w.1 a_l1 = some (3, 0)) (h1 : w.1 a_l0 = some (3, 0)) (h2 : (I a_l1 0 &&& 1) &&& 1 = (I a_l1 0 &&& 1)) : go 1 0 [.ref a_l0, .ref a_l1] [] w I L P = some (.inl none, w, (updI (updI (updI (updI I a_l0 0 (I a_l1 0 &&& 1)) a_l0 1 ((updI I a_l0 0 (I a_l1 0 &&& 1)) a_l1 1)) a_l0 2 ((updI (updI I a_l0 0 (I a_l1 0 &&& 1)) a_l0 1 ((updI I a_l0 0 (I a_l1 0 &&& 1)) a_l1 1)) a_l1 2)) a_l0 3 ((updI (updI (updI I a_l0 0 (I a_l1 0 &&& 1)) a_l0 1 ((updI I a_l0 0 (I a_l1 0 &&& 1)) a_l1 1)) a_l0 2 ((updI (updI I a_l0 0 (I a_l1 0 &&& 1)) a_l0 1 ((updI I a_l0 0 (I a_l1 0 &&& 1)) a_l1 1)) a_l1 2)) a_l1 3)), (updL L a_l0 4 (L a_l1 4)), P) := by
  refine (go_aload_n (m := 1) (pc := 0) (k := 0) (by decide +kernel) rfl).trans ?_
  refine (go_aload_n (m := 1) (pc := 1) (k := 1) (by decide +kernel) rfl).trans ?_
  refine (go_getZ (m := 1) (pc := 2) (o := 3) (x := 9) (ci := 3) (k := 0) (by decide +kernel) rfl f_3_9 rfl h0).trans ?_
  refine (go_putZ (m := 1) (pc := 5) (o := 3) (x := 9) (ci := 3) (k := 0) (by decide +kernel) rfl f_3_9 rfl (by decide +kernel) h2 h1).trans ?_
  refine (go_aload_n (m := 1) (pc := 8) (k := 0) (by decide +kernel) rfl).trans ?_
  refine (go_aload_n (m := 1) (pc := 9) (k := 1) (by decide +kernel) rfl).trans ?_
  refine (go_getI (m := 1) (pc := 10) (o := 3) (x := 15) (ci := 3) (k := 1) (by decide +kernel) rfl f_3_15 rfl h0).trans ?_
  refine (go_putI (m := 1) (pc := 13) (o := 3) (x := 15) (ci := 3) (k := 1) (by decide +kernel) rfl f_3_15 rfl (by decide +kernel) h1).trans ?_
  refine (go_aload_n (m := 1) (pc := 16) (k := 0) (by decide +kernel) rfl).trans ?_
  refine (go_aload_n (m := 1) (pc := 17) (k := 1) (by decide +kernel) rfl).trans ?_
  refine (go_getI (m := 1) (pc := 18) (o := 3) (x := 19) (ci := 3) (k := 2) (by decide +kernel) rfl f_3_19 rfl h0).trans ?_
  refine (go_putI (m := 1) (pc := 21) (o := 3) (x := 19) (ci := 3) (k := 2) (by decide +kernel) rfl f_3_19 rfl (by decide +kernel) h1).trans ?_
  refine (go_aload_n (m := 1) (pc := 24) (k := 0) (by decide +kernel) rfl).trans ?_
  refine (go_aload_n (m := 1) (pc := 25) (k := 1) (by decide +kernel) rfl).trans ?_
  refine (go_getI (m := 1) (pc := 26) (o := 3) (x := 22) (ci := 3) (k := 3) (by decide +kernel) rfl f_3_22 rfl h0).trans ?_
  refine (go_putI (m := 1) (pc := 29) (o := 3) (x := 22) (ci := 3) (k := 3) (by decide +kernel) rfl f_3_22 rfl (by decide +kernel) h1).trans ?_
  refine (go_aload_n (m := 1) (pc := 32) (k := 0) (by decide +kernel) rfl).trans ?_
  refine (go_aload_n (m := 1) (pc := 33) (k := 1) (by decide +kernel) rfl).trans ?_
  refine (go_getJ (m := 1) (pc := 34) (o := 3) (x := 25) (ci := 3) (k := 4) (by decide +kernel) rfl f_3_25 rfl h0).trans ?_
  refine (go_putJ (m := 1) (pc := 37) (o := 3) (x := 25) (ci := 3) (k := 4) (by decide +kernel) rfl f_3_25 rfl (by decide +kernel) h1).trans ?_
  exact go_retV (m := 1) (pc := 40) (by decide +kernel) rfl
theorem Message_copyFrom_E (this : Nat) (p0 : Nat) (w : Wd) (I : MI) (L : ML) (P : MP) : call 1 [.ref this, .ref p0] w I L P = go 1 0 [.ref this, .ref p0] [] w I L P := rfl
theorem Message_copyFrom_E1 (this : Nat) (w : Wd) (I : MI) (L : ML) (P : MP) : call 1 [.ref this, .null] w I L P = go 1 0 [.ref this, .null] [] w I L P := rfl
theorem Message_header_0 (a_l0 : Nat) (w : Wd) (I : MI) (L : ML) (P : MP) (h0 : w.1 a_l0 = some (3, 0)) : go 2 0 [.ref a_l0] [] w I L P = if (I a_l0 0 &&& 1) = 0 then go 2 17 [.ref a_l0] [.int ((nI 2) * (I a_l0 1))] w I L P else go 2 13 [.ref a_l0] [.int ((nI 2) * (I a_l0 1))] w I L P := by
  refine (go_ic (m := 2) (pc := 0) (n := 2) (by decide +kernel) ic_2).trans ?_
  refine (go_aload_n (m := 2) (pc := 1) (k := 0) (by decide +kernel) rfl).trans ?_
  refine (go_getI (m := 2) (pc := 2) (o := 3) (x := 15) (ci := 3) (k := 1) (by decide +kernel) rfl f_3_15 rfl h0).trans ?_
  refine (go_imul (m := 2) (pc := 5) (by decide +kernel)).trans ?_
  refine (go_aload_n (m := 2) (pc := 6) (k := 0) (by decide +kernel) rfl).trans ?_
  refine (go_getZ (m := 2) (pc := 7) (o := 3) (x := 9) (ci := 3) (k := 0) (by decide +kernel) rfl f_3_9 rfl h0).trans ?_
  exact go_ifeq (m := 2) (pc := 10) (off := 7) (t := 17) (by decide +kernel) (by decide)
theorem Message_header_13 (l0 : Value) (y0 : Int32) (w : Wd) (I : MI) (L : ML) (P : MP)  : go 2 13 [l0] [.int y0] w I L P = go 2 18 [l0] [.int (nI 1), .int y0] w I L P := by
  refine (go_ic (m := 2) (pc := 13) (n := 1) (by decide +kernel) ic_1).trans ?_
  refine (go_goto (m := 2) (pc := 14) (off := 4) (t := 18) (by decide +kernel) (by decide)).trans ?_
  rfl
theorem Message_header_17 (l0 : Value) (y0 : Int32) (w : Wd) (I : MI) (L : ML) (P : MP)  : go 2 17 [l0] [.int y0] w I L P = go 2 18 [l0] [.int (nI 0), .int y0] w I L P := by
  refine (go_ic (m := 2) (pc := 17) (n := 0) (by decide +kernel) ic_0).trans ?_
  rfl
theorem Message_header_18 (l0 : Value) (y0 : Int32) (y1 : Int32) (w : Wd) (I : MI) (L : ML) (P : MP)  : go 2 18 [l0] [.int y1, .int y0] w I L P = some (.inl (some (.int (y0 + y1))), w, I, L, P) := by
  refine (go_iadd (m := 2) (pc := 18) (by decide +kernel)).trans ?_
  exact go_retI (m := 2) (pc := 19) (by decide +kernel) rfl
theorem Message_header_E (this : Nat) (w : Wd) (I : MI) (L : ML) (P : MP) : call 2 [.ref this] w I L P = go 2 0 [.ref this] [] w I L P := rfl
theorem Message_byteAt_0 (a_l0 : Nat) (l1 : Value) (w : Wd) (I : MI) (L : ML) (P : MP) (h0 : w.1 a_l0 = some (3, 0)) : go 3 0 [.ref a_l0, l1] [] w I L P = if (I a_l0 0 &&& 1) ≠ 0 then go 3 19 [.ref a_l0, l1] [] w I L P else go 3 7 [.ref a_l0, l1] [] w I L P := by
  refine (go_aload_n (m := 3) (pc := 0) (k := 0) (by decide +kernel) rfl).trans ?_
  refine (go_getZ (m := 3) (pc := 1) (o := 3) (x := 9) (ci := 3) (k := 0) (by decide +kernel) rfl f_3_9 rfl h0).trans ?_
  exact go_ifne (m := 3) (pc := 4) (off := 15) (t := 19) (by decide +kernel) (by decide)
theorem Message_byteAt_7 (l0 : Value) (x_l1 : Int32) (w : Wd) (I : MI) (L : ML) (P : MP)  : go 3 7 [l0, .int x_l1] [] w I L P = if x_l1 < 0 then go 3 19 [l0, .int x_l1] [] w I L P else go 3 11 [l0, .int x_l1] [] w I L P := by
  refine (go_iload_n (m := 3) (pc := 7) (k := 1) (by decide +kernel) rfl).trans ?_
  exact go_iflt (m := 3) (pc := 8) (off := 11) (t := 19) (by decide +kernel) (by decide)
theorem Message_byteAt_11 (a_l0 : Nat) (x_l1 : Int32) (w : Wd) (I : MI) (L : ML) (P : MP) (h0 : w.1 a_l0 = some (3, 0)) : go 3 11 [.ref a_l0, .int x_l1] [] w I L P = if x_l1 < (I a_l0 2) then go 3 21 [.ref a_l0, .int x_l1] [] w I L P else go 3 19 [.ref a_l0, .int x_l1] [] w I L P := by
  refine (go_iload_n (m := 3) (pc := 11) (k := 1) (by decide +kernel) rfl).trans ?_
  refine (go_aload_n (m := 3) (pc := 12) (k := 0) (by decide +kernel) rfl).trans ?_
  refine (go_getI (m := 3) (pc := 13) (o := 3) (x := 19) (ci := 3) (k := 2) (by decide +kernel) rfl f_3_19 rfl h0).trans ?_
  exact go_icmplt (m := 3) (pc := 16) (off := 5) (t := 21) (by decide +kernel) (by decide)
theorem Message_byteAt_19 (l0 : Value) (l1 : Value) (w : Wd) (I : MI) (L : ML) (P : MP)  : go 3 19 [l0, l1] [] w I L P = some (.inl (some (.int (-1))), w, I, L, P) := by
  refine (go_ic (m := 3) (pc := 19) (n := -1) (by decide +kernel) ic_m1).trans ?_
  exact go_retI (m := 3) (pc := 20) (by decide +kernel) rfl
theorem Message_byteAt_21 (a_l0 : Nat) (x_l1 : Int32) (w : Wd) (I : MI) (L : ML) (P : MP) (h0 : w.1 a_l0 = some (3, 0)) : go 3 21 [.ref a_l0, .int x_l1] [] w I L P = some (.inl (some (.int ((Int64.toInt32 ((L a_l0 4) >>> (Int32.toInt64 ((nI 8) * (((I a_l0 2) - (nI 1)) - x_l1)) &&& 63))) &&& (nI 255)))), w, I, L, P) := by
  refine (go_aload_n (m := 3) (pc := 21) (k := 0) (by decide +kernel) rfl).trans ?_
  refine (go_getJ (m := 3) (pc := 22) (o := 3) (x := 25) (ci := 3) (k := 4) (by decide +kernel) rfl f_3_25 rfl h0).trans ?_
  refine (go_bi (m := 3) (pc := 25) (n := 8) (by decide +kernel) bi_8).trans ?_
  refine (go_aload_n (m := 3) (pc := 27) (k := 0) (by decide +kernel) rfl).trans ?_
  refine (go_getI (m := 3) (pc := 28) (o := 3) (x := 19) (ci := 3) (k := 2) (by decide +kernel) rfl f_3_19 rfl h0).trans ?_
  refine (go_ic (m := 3) (pc := 31) (n := 1) (by decide +kernel) ic_1).trans ?_
  refine (go_isub (m := 3) (pc := 32) (by decide +kernel)).trans ?_
  refine (go_iload_n (m := 3) (pc := 33) (k := 1) (by decide +kernel) rfl).trans ?_
  refine (go_isub (m := 3) (pc := 34) (by decide +kernel)).trans ?_
  refine (go_imul (m := 3) (pc := 35) (by decide +kernel)).trans ?_
  refine (go_lshr (m := 3) (pc := 36) (by decide +kernel)).trans ?_
  refine (go_l2i (m := 3) (pc := 37) (by decide +kernel)).trans ?_
  refine (go_si (m := 3) (pc := 38) (n := 255) (by decide +kernel) si_255).trans ?_
  refine (go_iand (m := 3) (pc := 41) (by decide +kernel)).trans ?_
  exact go_retI (m := 3) (pc := 42) (by decide +kernel) rfl
theorem Message_byteAt_E (this : Nat) (p0 : Int32) (w : Wd) (I : MI) (L : ML) (P : MP) : call 3 [.ref this, .int p0] w I L P = go 3 0 [.ref this, .int p0] [] w I L P := rfl
theorem Message_tell_0 (l0 : Value) (x_l1 : Int32) (w : Wd) (I : MI) (L : ML) (P : MP)  : go 4 0 [l0, .int x_l1] [] w I L P = go 4 1 [l0, .int x_l1] [.int x_l1] w I L P := by
  refine (go_iload_n (m := 4) (pc := 0) (k := 1) (by decide +kernel) rfl).trans ?_
  rfl
theorem Message_tell_1_k0 (l0 : Value) (l1 : Value) (w : Wd) (I : MI) (L : ML) (P : MP) : go 4 1 [l0, l1] [.int (nI 0)] w I L P = go 4 32 [l0, l1] [] w I L P := go_tsI (m := 4) (pc := 1) (z := 0) (off := 31) (t := 32) (dflt := 59) (lo := 0) (hi := 3) (offs := #[31, 36, 49, 54]) (len := 31) (by decide +kernel) (by decide) (by decide) (by decide) (by decide) (by decide)
theorem Message_tell_1_k1 (l0 : Value) (l1 : Value) (w : Wd) (I : MI) (L : ML) (P : MP) : go 4 1 [l0, l1] [.int (nI 1)] w I L P = go 4 37 [l0, l1] [] w I L P := go_tsI (m := 4) (pc := 1) (z := 1) (off := 36) (t := 37) (dflt := 59) (lo := 0) (hi := 3) (offs := #[31, 36, 49, 54]) (len := 31) (by decide +kernel) (by decide) (by decide) (by decide) (by decide) (by decide)
theorem Message_tell_1_k2 (l0 : Value) (l1 : Value) (w : Wd) (I : MI) (L : ML) (P : MP) : go 4 1 [l0, l1] [.int (nI 2)] w I L P = go 4 50 [l0, l1] [] w I L P := go_tsI (m := 4) (pc := 1) (z := 2) (off := 49) (t := 50) (dflt := 59) (lo := 0) (hi := 3) (offs := #[31, 36, 49, 54]) (len := 31) (by decide +kernel) (by decide) (by decide) (by decide) (by decide) (by decide)
theorem Message_tell_1_k3 (l0 : Value) (l1 : Value) (w : Wd) (I : MI) (L : ML) (P : MP) : go 4 1 [l0, l1] [.int (nI 3)] w I L P = go 4 55 [l0, l1] [] w I L P := go_tsI (m := 4) (pc := 1) (z := 3) (off := 54) (t := 55) (dflt := 59) (lo := 0) (hi := 3) (offs := #[31, 36, 49, 54]) (len := 31) (by decide +kernel) (by decide) (by decide) (by decide) (by decide) (by decide)
theorem Message_tell_1_kd (l0 : Value) (l1 : Value) (w : Wd) (I : MI) (L : ML) (P : MP) (y : Int32) (h0 : y.toInt < 0 ∨ 3 < y.toInt) : go 4 1 [l0, l1] [.int y] w I L P = go 4 60 [l0, l1] [] w I L P := go_tsO (m := 4) (pc := 1) (t := 60) (dflt := 59) (lo := 0) (hi := 3) (offs := #[31, 36, 49, 54]) (len := 31) (by decide +kernel) h0 (by decide)
theorem Message_tell_32 (a_l0 : Nat) (l1 : Value) (w : Wd) (I : MI) (L : ML) (P : MP) (h0 : w.1 a_l0 = some (3, 0)) : go 4 32 [.ref a_l0, l1] [] w I L P = some (.inl (some (.int (I a_l0 1))), w, I, L, P) := by
  refine (go_aload_n (m := 4) (pc := 32) (k := 0) (by decide +kernel) rfl).trans ?_
  refine (go_getI (m := 4) (pc := 33) (o := 3) (x := 15) (ci := 3) (k := 1) (by decide +kernel) rfl f_3_15 rfl h0).trans ?_
  exact go_retI (m := 4) (pc := 36) (by decide +kernel) rfl
theorem Message_tell_37 (a_l0 : Nat) (l1 : Value) (w : Wd) (I : MI) (L : ML) (P : MP) (h0 : w.1 a_l0 = some (3, 0)) : go 4 37 [.ref a_l0, l1] [] w I L P = if (I a_l0 0 &&& 1) = 0 then go 4 48 [.ref a_l0, l1] [] w I L P else go 4 44 [.ref a_l0, l1] [] w I L P := by
  refine (go_aload_n (m := 4) (pc := 37) (k := 0) (by decide +kernel) rfl).trans ?_
  refine (go_getZ (m := 4) (pc := 38) (o := 3) (x := 9) (ci := 3) (k := 0) (by decide +kernel) rfl f_3_9 rfl h0).trans ?_
  exact go_ifeq (m := 4) (pc := 41) (off := 7) (t := 48) (by decide +kernel) (by decide)
theorem Message_tell_44 (l0 : Value) (l1 : Value) (w : Wd) (I : MI) (L : ML) (P : MP)  : go 4 44 [l0, l1] [] w I L P = go 4 49 [l0, l1] [.int (nI 1)] w I L P := by
  refine (go_ic (m := 4) (pc := 44) (n := 1) (by decide +kernel) ic_1).trans ?_
  refine (go_goto (m := 4) (pc := 45) (off := 4) (t := 49) (by decide +kernel) (by decide)).trans ?_
  rfl
theorem Message_tell_48 (l0 : Value) (l1 : Value) (w : Wd) (I : MI) (L : ML) (P : MP)  : go 4 48 [l0, l1] [] w I L P = go 4 49 [l0, l1] [.int (nI 0)] w I L P := by
  refine (go_ic (m := 4) (pc := 48) (n := 0) (by decide +kernel) ic_0).trans ?_
  rfl
theorem Message_tell_49 (l0 : Value) (l1 : Value) (y0 : Int32) (w : Wd) (I : MI) (L : ML) (P : MP)  : go 4 49 [l0, l1] [.int y0] w I L P = some (.inl (some (.int y0)), w, I, L, P) := by
  exact go_retI (m := 4) (pc := 49) (by decide +kernel) rfl
theorem Message_tell_50 (a_l0 : Nat) (l1 : Value) (w : Wd) (I : MI) (L : ML) (P : MP) (h0 : w.1 a_l0 = some (3, 0)) : go 4 50 [.ref a_l0, l1] [] w I L P = some (.inl (some (.int (I a_l0 2))), w, I, L, P) := by
  refine (go_aload_n (m := 4) (pc := 50) (k := 0) (by decide +kernel) rfl).trans ?_
  refine (go_getI (m := 4) (pc := 51) (o := 3) (x := 19) (ci := 3) (k := 2) (by decide +kernel) rfl f_3_19 rfl h0).trans ?_
  exact go_retI (m := 4) (pc := 54) (by decide +kernel) rfl
theorem Message_tell_55 (a_l0 : Nat) (l1 : Value) (w : Wd) (I : MI) (L : ML) (P : MP) (h0 : w.1 a_l0 = some (3, 0)) : go 4 55 [.ref a_l0, l1] [] w I L P = some (.inl (some (.int (I a_l0 3))), w, I, L, P) := by
  refine (go_aload_n (m := 4) (pc := 55) (k := 0) (by decide +kernel) rfl).trans ?_
  refine (go_getI (m := 4) (pc := 56) (o := 3) (x := 22) (ci := 3) (k := 3) (by decide +kernel) rfl f_3_22 rfl h0).trans ?_
  exact go_retI (m := 4) (pc := 59) (by decide +kernel) rfl
theorem Message_tell_60 (a_l0 : Nat) (x_l1 : Int32) (w : Wd) (I : MI) (L : ML) (P : MP) (h0 : w.1 a_l0 = some (3, 0)) : go 4 60 [.ref a_l0, .int x_l1] [] w I L P = kC (call 3 [.ref a_l0, .int (x_l1 - (nI 4))] w I L P) (fun v w I L P => go 4 67 [.ref a_l0, .int x_l1] (v.toList ++ []) w I L P) := by
  refine (go_aload_n (m := 4) (pc := 60) (k := 0) (by decide +kernel) rfl).trans ?_
  refine (go_iload_n (m := 4) (pc := 61) (k := 1) (by decide +kernel) rfl).trans ?_
  refine (go_ic (m := 4) (pc := 62) (n := 4) (by decide +kernel) ic_4).trans ?_
  refine (go_isub (m := 4) (pc := 63) (by decide +kernel)).trans ?_
  exact go_vir (m := 4) (pc := 64) (o := 3) (x := 29) (y := 3) (kd := 0) (b := a_l0) (bs := [.int (x_l1 - (nI 4))]) (rs := []) (by decide +kernel) rfl rfl c_3_29 (Or.inl rfl) rfl rfl rfl (by decide +kernel) (by simp only [List.length_cons, List.length_nil]; decide) (Nat.le_of_ble_eq_true rfl) h0
theorem Message_tell_67 (l0 : Value) (l1 : Value) (y0 : Int32) (w : Wd) (I : MI) (L : ML) (P : MP)  : go 4 67 [l0, l1] [.int y0] w I L P = some (.inl (some (.int y0)), w, I, L, P) := by
  exact go_retI (m := 4) (pc := 67) (by decide +kernel) rfl
theorem Message_tell_E (this : Nat) (p0 : Int32) (w : Wd) (I : MI) (L : ML) (P : MP) : call 4 [.ref this, .int p0] w I L P = go 4 0 [.ref this, .int p0] [] w I L P := rfl
theorem Caller_init_0 (a_l0 : Nat) (l1 : Value) (T : Nat → Option (Nat × Nat)) (q0 kc ks : Nat) (I : MI) (L : ML) (P : MP) (h0 : ¬ (nI 4) < 0 ∧ Int32.toNatClampNeg (nI 4) ≤ 65536) (h1 : (tagU T q0 13 (Int32.toNatClampNeg (nI 4))) a_l0 = some (1, 0)) (h2 : ¬ (nI 5) < 0 ∧ Int32.toNatClampNeg (nI 5) ≤ 65536) (h3 : (tagU (tagU T q0 13 (Int32.toNatClampNeg (nI 4))) (q0 + 1) 8 (Int32.toNatClampNeg (nI 5))) a_l0 = some (1, 0)) : go 5 0 [.ref a_l0, l1] [] (T, some q0, kc, ks) I L P = go 5 41 [.ref a_l0, .int (nI 0)] [] ((tagU (tagU T q0 13 (Int32.toNatClampNeg (nI 4))) (q0 + 1) 8 (Int32.toNatClampNeg (nI 5))), some ((q0 + 1) + 1), ((kc + 1) + 1), ((ks + Int32.toNatClampNeg (nI 4)) + Int32.toNatClampNeg (nI 5))) (updI (updI (updI (rowI (updI I a_l0 1 (nI 0)) (q0 + 1)) a_l0 3 (nI 0)) a_l0 4 (nI 0)) a_l0 5 (-1)) L (updP (updP (rowP P q0) a_l0 0 (some q0)) a_l0 2 (some (q0 + 1))) := by
  refine (go_aload_n (m := 5) (pc := 0) (k := 0) (by decide +kernel) rfl).trans ?_
  refine (go_obj (m := 5) (pc := 1) (o := 1) (x := 3) (y := 999) (by decide +kernel) rfl (by decide +kernel) (by decide +kernel)).trans ?_
  refine (go_aload_n (m := 5) (pc := 4) (k := 0) (by decide +kernel) rfl).trans ?_
  refine (go_ic (m := 5) (pc := 5) (n := 4) (by decide +kernel) ic_4).trans ?_
  refine (go_newR (m := 5) (pc := 6) (o := 1) (j := 9) (ci := 3) (by decide +kernel) rfl (by decide +kernel) ⟨by decide, h0⟩).trans ?_
  refine (go_putR (m := 5) (pc := 9) (o := 1) (x := 11) (ci := 1) (k := 0) (by decide +kernel) rfl f_1_11 rfl (by decide +kernel) h1).trans ?_
  refine (go_aload_n (m := 5) (pc := 12) (k := 0) (by decide +kernel) rfl).trans ?_
  refine (go_ic (m := 5) (pc := 13) (n := 0) (by decide +kernel) ic_0).trans ?_
  refine (go_putI (m := 5) (pc := 14) (o := 1) (x := 17) (ci := 1) (k := 1) (by decide +kernel) rfl f_1_17 rfl (by decide +kernel) h1).trans ?_
  refine (go_aload_n (m := 5) (pc := 17) (k := 0) (by decide +kernel) rfl).trans ?_
  refine (go_ic (m := 5) (pc := 18) (n := 5) (by decide +kernel) ic_5).trans ?_
  refine (go_newI (m := 5) (pc := 19) (by decide +kernel) h2).trans ?_
  refine (go_putR (m := 5) (pc := 21) (o := 1) (x := 21) (ci := 1) (k := 2) (by decide +kernel) rfl f_1_21 rfl (by decide +kernel) h3).trans ?_
  refine (go_aload_n (m := 5) (pc := 24) (k := 0) (by decide +kernel) rfl).trans ?_
  refine (go_ic (m := 5) (pc := 25) (n := 0) (by decide +kernel) ic_0).trans ?_
  refine (go_putI (m := 5) (pc := 26) (o := 1) (x := 25) (ci := 1) (k := 3) (by decide +kernel) rfl f_1_25 rfl (by decide +kernel) h3).trans ?_
  refine (go_aload_n (m := 5) (pc := 29) (k := 0) (by decide +kernel) rfl).trans ?_
  refine (go_ic (m := 5) (pc := 30) (n := 0) (by decide +kernel) ic_0).trans ?_
  refine (go_putI (m := 5) (pc := 31) (o := 1) (x := 28) (ci := 1) (k := 4) (by decide +kernel) rfl f_1_28 rfl (by decide +kernel) h3).trans ?_
  refine (go_aload_n (m := 5) (pc := 34) (k := 0) (by decide +kernel) rfl).trans ?_
  refine (go_ic (m := 5) (pc := 35) (n := -1) (by decide +kernel) ic_m1).trans ?_
  refine (go_putI (m := 5) (pc := 36) (o := 1) (x := 31) (ci := 1) (k := 5) (by decide +kernel) rfl f_1_31 rfl (by decide +kernel) h3).trans ?_
  refine (go_ic (m := 5) (pc := 39) (n := 0) (by decide +kernel) ic_0).trans ?_
  refine (go_istore_n (m := 5) (pc := 40) (k := 1) (ls' := [.ref a_l0, .int (nI 0)]) (by decide +kernel) (by simp only [List.length_cons, List.length_nil]; decide) rfl).trans ?_
  rfl
theorem Caller_init_41 (a_l0 : Nat) (x_l1 : Int32) (w : Wd) (I : MI) (L : ML) (P : MP) (h0 : w.1 a_l0 = some (1, 0)) : go 5 41 [.ref a_l0, .int x_l1] [] w I L P = go 5 46 [.ref a_l0, .int x_l1] [(va_rf (P a_l0 0)), .int x_l1] w I L P := by
  refine (go_iload_n (m := 5) (pc := 41) (k := 1) (by decide +kernel) rfl).trans ?_
  refine (go_aload_n (m := 5) (pc := 42) (k := 0) (by decide +kernel) rfl).trans ?_
  refine (go_getR (m := 5) (pc := 43) (o := 1) (x := 11) (ci := 1) (k := 0) (by decide +kernel) rfl f_1_11 rfl h0).trans ?_
  rfl
theorem Caller_init_46 (l0 : Value) (l1 : Value) (y0 : Int32) (a_s1 : Nat) (w : Wd) (I : MI) (L : ML) (P : MP) (h0 : isAr w a_s1 13) : go 5 46 [l0, l1] [.ref a_s1, .int y0] w I L P = if (alen w a_s1) ≤ y0 then go 5 69 [l0, l1] [] w I L P else go 5 50 [l0, l1] [] w I L P := by
  refine (go_alen13 (m := 5) (pc := 46) (by decide +kernel) h0).trans ?_
  exact go_icmpge (m := 5) (pc := 47) (off := 22) (t := 69) (by decide +kernel) (by decide)
theorem Caller_init_50 (a_l0 : Nat) (l1 : Value) (w : Wd) (I : MI) (L : ML) (P : MP) (h0 : w.1 a_l0 = some (1, 0)) : go 5 50 [.ref a_l0, l1] [] w I L P = go 5 54 [.ref a_l0, l1] [(va_rf (P a_l0 0))] w I L P := by
  refine (go_aload_n (m := 5) (pc := 50) (k := 0) (by decide +kernel) rfl).trans ?_
  refine (go_getR (m := 5) (pc := 51) (o := 1) (x := 11) (ci := 1) (k := 0) (by decide +kernel) rfl f_1_11 rfl h0).trans ?_
  rfl
theorem Caller_init_54 (l0 : Value) (x_l1 : Int32) (v0 : Value) (T : Nat → Option (Nat × Nat)) (q0 kc ks : Nat) (I : MI) (L : ML) (P : MP)  : go 5 54 [l0, .int x_l1] [v0] (T, some q0, kc, ks) I L P = kC (call 0 [.ref q0] ((tagU T q0 3 0), some (q0 + 1), (kc + 1), (ks + 5)) (rowI I q0) (rowL L q0) (rowP P q0)) (fun v w I L P => go 5 62 [l0, .int x_l1] (v.toList ++ [.ref q0, .int x_l1, v0]) w I L P) := by
  refine (go_iload_n (m := 5) (pc := 54) (k := 1) (by decide +kernel) rfl).trans ?_
  refine (go_new (m := 5) (pc := 55) (o := 1) (x := 9) (ci := 3) (nf := 5) (by decide +kernel) rfl (by decide +kernel) (by decide) rfl).trans ?_
  refine (go_dup (m := 5) (pc := 58) (by decide +kernel) rfl).trans ?_
  exact go_spc (m := 5) (pc := 59) (o := 1) (x := 34) (y := 0) (kd := 6) (b := q0) (bs := []) (rs := [.ref q0, .int x_l1, v0]) (by decide +kernel) rfl rfl c_1_34 (Or.inr rfl) rfl rfl rfl (by decide +kernel) (by simp only [List.length_cons, List.length_nil]; decide) (Nat.le_of_ble_eq_true rfl)
theorem Caller_init_62 (l0 : Value) (x_l1 : Int32) (a_s0 : Nat) (y1 : Int32) (a_s2 : Nat) (w : Wd) (I : MI) (L : ML) (P : MP) (h0 : inA w a_s0 13 y1) (h1 : w.1 a_s2 = some (3, 0)) : go 5 62 [l0, .int x_l1] [.ref a_s2, .int y1, .ref a_s0] w I L P = go 5 41 [(fix1 l0), .int (x_l1 + (nI 1))] [] w I L (updP P a_s0 (Int32.toNatClampNeg y1) (some a_s2)) := by
  refine (go_aast13 (m := 5) (pc := 62) (by decide +kernel) h0 h1).trans ?_
  refine (go_iinc (m := 5) (pc := 63) (k := 1) (n := 1) (x := x_l1) (v := x_l1 + (nI 1)) (ls' := [(fix1 l0), .int (x_l1 + (nI 1))]) (by decide +kernel) rfl (by rw [ic_1]) rfl).trans ?_
  refine (go_goto (m := 5) (pc := 66) (off := -25) (t := 41) (by decide +kernel) (by decide)).trans ?_
  rfl
theorem Caller_init_69 (l0 : Value) (l1 : Value) (w : Wd) (I : MI) (L : ML) (P : MP)  : go 5 69 [l0, l1] [] w I L P = some (.inl none, w, I, L, P) := by
  exact go_retV (m := 5) (pc := 69) (by decide +kernel) rfl
theorem Caller_init_E (this : Nat) (w : Wd) (I : MI) (L : ML) (P : MP) : call 5 [.ref this] w I L P = go 5 0 [.ref this, unk] [] w I L P := rfl
theorem Caller_copyFrom_0 (l0 : Value) (l1 : Value) (l2 : Value) (l3 : Value) (l4 : Value) (w : Wd) (I : MI) (L : ML) (P : MP)  : go 6 0 [l0, l1, l2, l3, l4] [] w I L P = go 6 2 [l0, (fix1 l1), .int (nI 0), l3, l4] [] w I L P := by
  refine (go_ic (m := 6) (pc := 0) (n := 0) (by decide +kernel) ic_0).trans ?_
  refine (go_istore_n (m := 6) (pc := 1) (k := 2) (ls' := [l0, (fix1 l1), .int (nI 0), l3, l4]) (by decide +kernel) (by simp only [List.length_cons, List.length_nil]; decide) rfl).trans ?_
  rfl
theorem Caller_copyFrom_2 (a_l0 : Nat) (l1 : Value) (x_l2 : Int32) (l3 : Value) (l4 : Value) (w : Wd) (I : MI) (L : ML) (P : MP) (h0 : w.1 a_l0 = some (1, 0)) : go 6 2 [.ref a_l0, l1, .int x_l2, l3, l4] [] w I L P = go 6 7 [.ref a_l0, l1, .int x_l2, l3, l4] [(va_rf (P a_l0 0)), .int x_l2] w I L P := by
  refine (go_iload_n (m := 6) (pc := 2) (k := 2) (by decide +kernel) rfl).trans ?_
  refine (go_aload_n (m := 6) (pc := 3) (k := 0) (by decide +kernel) rfl).trans ?_
  refine (go_getR (m := 6) (pc := 4) (o := 1) (x := 11) (ci := 1) (k := 0) (by decide +kernel) rfl f_1_11 rfl h0).trans ?_
  rfl
theorem Caller_copyFrom_7 (l0 : Value) (l1 : Value) (l2 : Value) (l3 : Value) (l4 : Value) (y0 : Int32) (a_s1 : Nat) (w : Wd) (I : MI) (L : ML) (P : MP) (h0 : isAr w a_s1 13) : go 6 7 [l0, l1, l2, l3, l4] [.ref a_s1, .int y0] w I L P = if (alen w a_s1) ≤ y0 then go 6 56 [l0, l1, l2, l3, l4] [] w I L P else go 6 11 [l0, l1, l2, l3, l4] [] w I L P := by
  refine (go_alen13 (m := 6) (pc := 7) (by decide +kernel) h0).trans ?_
  exact go_icmpge (m := 6) (pc := 8) (off := 48) (t := 56) (by decide +kernel) (by decide)
theorem Caller_copyFrom_11 (l0 : Value) (a_l1 : Nat) (x_l2 : Int32) (l3 : Value) (l4 : Value) (w : Wd) (I : MI) (L : ML) (P : MP) (h0 : w.1 a_l1 = some (1, 0)) : go 6 11 [l0, .ref a_l1, .int x_l2, l3, l4] [] w I L P = go 6 16 [l0, .ref a_l1, .int x_l2, l3, l4] [(va_rf (P a_l1 0)), .int x_l2] w I L P := by
  refine (go_iload_n (m := 6) (pc := 11) (k := 2) (by decide +kernel) rfl).trans ?_
  refine (go_aload_n (m := 6) (pc := 12) (k := 1) (by decide +kernel) rfl).trans ?_
  refine (go_getR (m := 6) (pc := 13) (o := 1) (x := 11) (ci := 1) (k := 0) (by decide +kernel) rfl f_1_11 rfl h0).trans ?_
  rfl
theorem Caller_copyFrom_16 (l0 : Value) (l1 : Value) (l2 : Value) (l3 : Value) (l4 : Value) (y0 : Int32) (a_s1 : Nat) (w : Wd) (I : MI) (L : ML) (P : MP) (h0 : isAr w a_s1 13) : go 6 16 [l0, l1, l2, l3, l4] [.ref a_s1, .int y0] w I L P = if (alen w a_s1) ≤ y0 then go 6 56 [l0, l1, l2, l3, l4] [] w I L P else go 6 20 [l0, l1, l2, l3, l4] [] w I L P := by
  refine (go_alen13 (m := 6) (pc := 16) (by decide +kernel) h0).trans ?_
  exact go_icmpge (m := 6) (pc := 17) (off := 39) (t := 56) (by decide +kernel) (by decide)
theorem Caller_copyFrom_20 (a_l0 : Nat) (l1 : Value) (l2 : Value) (l3 : Value) (l4 : Value) (w : Wd) (I : MI) (L : ML) (P : MP) (h0 : w.1 a_l0 = some (1, 0)) : go 6 20 [.ref a_l0, l1, l2, l3, l4] [] w I L P = go 6 24 [.ref a_l0, l1, l2, l3, l4] [(va_rf (P a_l0 0))] w I L P := by
  refine (go_aload_n (m := 6) (pc := 20) (k := 0) (by decide +kernel) rfl).trans ?_
  refine (go_getR (m := 6) (pc := 21) (o := 1) (x := 11) (ci := 1) (k := 0) (by decide +kernel) rfl f_1_11 rfl h0).trans ?_
  rfl
theorem Caller_copyFrom_24 (l0 : Value) (l1 : Value) (x_l2 : Int32) (l3 : Value) (l4 : Value) (a_s0 : Nat) (w : Wd) (I : MI) (L : ML) (P : MP) (h0 : inA w a_s0 13 x_l2) : go 6 24 [l0, l1, .int x_l2, l3, l4] [.ref a_s0] w I L P = go 6 26 [l0, l1, .int x_l2, l3, l4] [(va_rf (P a_s0 (Int32.toNatClampNeg x_l2)))] w I L P := by
  refine (go_iload_n (m := 6) (pc := 24) (k := 2) (by decide +kernel) rfl).trans ?_
  refine (go_aald13 (m := 6) (pc := 25) (by decide +kernel) h0).trans ?_
  rfl
theorem Caller_copyFrom_26_0 (l0 : Value) (a_l1 : Nat) (l2 : Value) (l3 : Value) (l4 : Value) (w : Wd) (I : MI) (L : ML) (P : MP) (h0 : w.1 a_l1 = some (1, 0)) : go 6 26 [l0, .ref a_l1, l2, l3, l4] [.null] w I L P = go 6 31 [l0, .ref a_l1, (fix1 l2), .null, l4] [(va_rf (P a_l1 0))] w I L P := by
  refine (go_astore_nN (m := 6) (pc := 26) (k := 3) (ls' := [l0, .ref a_l1, (fix1 l2), .null, l4]) (by decide +kernel) (by simp only [List.length_cons, List.length_nil]; decide) rfl).trans ?_
  refine (go_aload_n (m := 6) (pc := 27) (k := 1) (by decide +kernel) rfl).trans ?_
  refine (go_getR (m := 6) (pc := 28) (o := 1) (x := 11) (ci := 1) (k := 0) (by decide +kernel) rfl f_1_11 rfl h0).trans ?_
  rfl
theorem Caller_copyFrom_26_1 (l0 : Value) (a_l1 : Nat) (l2 : Value) (l3 : Value) (l4 : Value) (a_s0 : Nat) (w : Wd) (I : MI) (L : ML) (P : MP) (h0 : w.1 a_l1 = some (1, 0)) : go 6 26 [l0, .ref a_l1, l2, l3, l4] [.ref a_s0] w I L P = go 6 31 [l0, .ref a_l1, (fix1 l2), .ref a_s0, l4] [(va_rf (P a_l1 0))] w I L P := by
  refine (go_astore_n (m := 6) (pc := 26) (k := 3) (ls' := [l0, .ref a_l1, (fix1 l2), .ref a_s0, l4]) (by decide +kernel) (by simp only [List.length_cons, List.length_nil]; decide) rfl).trans ?_
  refine (go_aload_n (m := 6) (pc := 27) (k := 1) (by decide +kernel) rfl).trans ?_
  refine (go_getR (m := 6) (pc := 28) (o := 1) (x := 11) (ci := 1) (k := 0) (by decide +kernel) rfl f_1_11 rfl h0).trans ?_
  rfl
theorem Caller_copyFrom_31 (l0 : Value) (l1 : Value) (x_l2 : Int32) (l3 : Value) (l4 : Value) (a_s0 : Nat) (w : Wd) (I : MI) (L : ML) (P : MP) (h0 : inA w a_s0 13 x_l2) : go 6 31 [l0, l1, .int x_l2, l3, l4] [.ref a_s0] w I L P = go 6 33 [l0, l1, .int x_l2, l3, l4] [(va_rf (P a_s0 (Int32.toNatClampNeg x_l2)))] w I L P := by
  refine (go_iload_n (m := 6) (pc := 31) (k := 2) (by decide +kernel) rfl).trans ?_
  refine (go_aald13 (m := 6) (pc := 32) (by decide +kernel) h0).trans ?_
  rfl
theorem Caller_copyFrom_33_0 (l0 : Value) (l1 : Value) (l2 : Value) (l4 : Value) (w : Wd) (I : MI) (L : ML) (P : MP)  : go 6 33 [l0, l1, l2, .null, l4] [.null] w I L P = go 6 50 [l0, l1, l2, .null, .null] [] w I L P := by
  refine (go_astoreN (m := 6) (pc := 33) (k := 4) (ls' := [l0, l1, l2, .null, .null]) (by decide +kernel) (by simp only [List.length_cons, List.length_nil]; decide) rfl).trans ?_
  refine (go_aload_nN (m := 6) (pc := 35) (k := 3) (by decide +kernel) rfl).trans ?_
  exact go_ifnullN (m := 6) (pc := 36) (off := 14) (t := 50) (by decide +kernel) (by decide)
theorem Caller_copyFrom_33_1 (l0 : Value) (l1 : Value) (l2 : Value) (l4 : Value) (a_s0 : Nat) (w : Wd) (I : MI) (L : ML) (P : MP)  : go 6 33 [l0, l1, l2, .null, l4] [.ref a_s0] w I L P = go 6 50 [l0, l1, l2, .null, .ref a_s0] [] w I L P := by
  refine (go_astore (m := 6) (pc := 33) (k := 4) (ls' := [l0, l1, l2, .null, .ref a_s0]) (by decide +kernel) (by simp only [List.length_cons, List.length_nil]; decide) rfl).trans ?_
  refine (go_aload_nN (m := 6) (pc := 35) (k := 3) (by decide +kernel) rfl).trans ?_
  exact go_ifnullN (m := 6) (pc := 36) (off := 14) (t := 50) (by decide +kernel) (by decide)
theorem Caller_copyFrom_33_2 (l0 : Value) (l1 : Value) (l2 : Value) (a_l3 : Nat) (l4 : Value) (w : Wd) (I : MI) (L : ML) (P : MP)  : go 6 33 [l0, l1, l2, .ref a_l3, l4] [.null] w I L P = go 6 39 [l0, l1, l2, .ref a_l3, .null] [] w I L P := by
  refine (go_astoreN (m := 6) (pc := 33) (k := 4) (ls' := [l0, l1, l2, .ref a_l3, .null]) (by decide +kernel) (by simp only [List.length_cons, List.length_nil]; decide) rfl).trans ?_
  refine (go_aload_n (m := 6) (pc := 35) (k := 3) (by decide +kernel) rfl).trans ?_
  exact go_ifnullR (m := 6) (pc := 36) (off := 14) (by decide +kernel)
theorem Caller_copyFrom_33_3 (l0 : Value) (l1 : Value) (l2 : Value) (a_l3 : Nat) (l4 : Value) (a_s0 : Nat) (w : Wd) (I : MI) (L : ML) (P : MP)  : go 6 33 [l0, l1, l2, .ref a_l3, l4] [.ref a_s0] w I L P = go 6 39 [l0, l1, l2, .ref a_l3, .ref a_s0] [] w I L P := by
  refine (go_astore (m := 6) (pc := 33) (k := 4) (ls' := [l0, l1, l2, .ref a_l3, .ref a_s0]) (by decide +kernel) (by simp only [List.length_cons, List.length_nil]; decide) rfl).trans ?_
  refine (go_aload_n (m := 6) (pc := 35) (k := 3) (by decide +kernel) rfl).trans ?_
  exact go_ifnullR (m := 6) (pc := 36) (off := 14) (by decide +kernel)
theorem Caller_copyFrom_39_0 (l0 : Value) (l1 : Value) (l2 : Value) (l3 : Value) (w : Wd) (I : MI) (L : ML) (P : MP)  : go 6 39 [l0, l1, l2, l3, .null] [] w I L P = go 6 50 [l0, l1, l2, l3, .null] [] w I L P := by
  refine (go_aloadN (m := 6) (pc := 39) (k := 4) (by decide +kernel) rfl).trans ?_
  exact go_ifnullN (m := 6) (pc := 41) (off := 9) (t := 50) (by decide +kernel) (by decide)
theorem Caller_copyFrom_39_1 (l0 : Value) (l1 : Value) (l2 : Value) (l3 : Value) (a_l4 : Nat) (w : Wd) (I : MI) (L : ML) (P : MP)  : go 6 39 [l0, l1, l2, l3, .ref a_l4] [] w I L P = go 6 44 [l0, l1, l2, l3, .ref a_l4] [] w I L P := by
  refine (go_aload (m := 6) (pc := 39) (k := 4) (by decide +kernel) rfl).trans ?_
  exact go_ifnullR (m := 6) (pc := 41) (off := 9) (by decide +kernel)
theorem Caller_copyFrom_44_0 (l0 : Value) (l1 : Value) (l2 : Value) (a_l3 : Nat) (w : Wd) (I : MI) (L : ML) (P : MP) (h0 : w.1 a_l3 = some (3, 0)) : go 6 44 [l0, l1, l2, .ref a_l3, .null] [] w I L P = kC (call 1 [.ref a_l3, .null] w I L P) (fun v w I L P => go 6 50 [l0, l1, l2, .ref a_l3, .null] (v.toList ++ []) w I L P) := by
  refine (go_aload_n (m := 6) (pc := 44) (k := 3) (by decide +kernel) rfl).trans ?_
  refine (go_aloadN (m := 6) (pc := 45) (k := 4) (by decide +kernel) rfl).trans ?_
  exact go_vir (m := 6) (pc := 47) (o := 1) (x := 35) (y := 1) (kd := 1) (b := a_l3) (bs := [.null]) (rs := []) (by decide +kernel) rfl rfl c_1_35 (Or.inr rfl) rfl rfl rfl (by decide +kernel) (by simp only [List.length_cons, List.length_nil]; decide) (Nat.le_of_ble_eq_true rfl) h0
theorem Caller_copyFrom_44_1 (l0 : Value) (l1 : Value) (l2 : Value) (a_l3 : Nat) (a_l4 : Nat) (w : Wd) (I : MI) (L : ML) (P : MP) (h0 : w.1 a_l3 = some (3, 0)) : go 6 44 [l0, l1, l2, .ref a_l3, .ref a_l4] [] w I L P = kC (call 1 [.ref a_l3, .ref a_l4] w I L P) (fun v w I L P => go 6 50 [l0, l1, l2, .ref a_l3, .ref a_l4] (v.toList ++ []) w I L P) := by
  refine (go_aload_n (m := 6) (pc := 44) (k := 3) (by decide +kernel) rfl).trans ?_
  refine (go_aload (m := 6) (pc := 45) (k := 4) (by decide +kernel) rfl).trans ?_
  exact go_vir (m := 6) (pc := 47) (o := 1) (x := 35) (y := 1) (kd := 1) (b := a_l3) (bs := [.ref a_l4]) (rs := []) (by decide +kernel) rfl rfl c_1_35 (Or.inr rfl) rfl rfl rfl (by decide +kernel) (by simp only [List.length_cons, List.length_nil]; decide) (Nat.le_of_ble_eq_true rfl) h0
theorem Caller_copyFrom_50 (l0 : Value) (l1 : Value) (x_l2 : Int32) (l3 : Value) (l4 : Value) (w : Wd) (I : MI) (L : ML) (P : MP)  : go 6 50 [l0, l1, .int x_l2, l3, l4] [] w I L P = go 6 2 [l0, (fix1 l1), .int (x_l2 + (nI 1)), l3, l4] [] w I L P := by
  refine (go_iinc (m := 6) (pc := 50) (k := 2) (n := 1) (x := x_l2) (v := x_l2 + (nI 1)) (ls' := [l0, (fix1 l1), .int (x_l2 + (nI 1)), l3, l4]) (by decide +kernel) rfl (by rw [ic_1]) rfl).trans ?_
  refine (go_goto (m := 6) (pc := 53) (off := -51) (t := 2) (by decide +kernel) (by decide)).trans ?_
  rfl
theorem Caller_copyFrom_56 (a_l0 : Nat) (a_l1 : Nat) (l2 : Value) (l3 : Value) (l4 : Value) (w : Wd) (I : MI) (L : ML) (P : MP) (h0 : w.1 a_l1 = some (1, 0)) (h1 : w.1 a_l0 = some (1, 0)) : go 6 56 [.ref a_l0, .ref a_l1, l2, l3, l4] [] w I L P = go 6 68 [.ref a_l0, .ref a_l1, l2, l3, l4] [(va_rf (P a_l1 2))] w (updI I a_l0 1 (I a_l1 1)) L P := by
  refine (go_aload_n (m := 6) (pc := 56) (k := 0) (by decide +kernel) rfl).trans ?_
  refine (go_aload_n (m := 6) (pc := 57) (k := 1) (by decide +kernel) rfl).trans ?_
  refine (go_getI (m := 6) (pc := 58) (o := 1) (x := 17) (ci := 1) (k := 1) (by decide +kernel) rfl f_1_17 rfl h0).trans ?_
  refine (go_putI (m := 6) (pc := 61) (o := 1) (x := 17) (ci := 1) (k := 1) (by decide +kernel) rfl f_1_17 rfl (by decide +kernel) h1).trans ?_
  refine (go_aload_n (m := 6) (pc := 64) (k := 1) (by decide +kernel) rfl).trans ?_
  refine (go_getR (m := 6) (pc := 65) (o := 1) (x := 21) (ci := 1) (k := 2) (by decide +kernel) rfl f_1_21 rfl h0).trans ?_
  rfl
theorem Caller_copyFrom_68 (a_l0 : Nat) (l1 : Value) (l2 : Value) (l3 : Value) (l4 : Value) (v0 : Value) (w : Wd) (I : MI) (L : ML) (P : MP) (h0 : w.1 a_l0 = some (1, 0)) : go 6 68 [.ref a_l0, l1, l2, l3, l4] [v0] w I L P = go 6 72 [.ref a_l0, l1, l2, l3, l4] [(va_rf (P a_l0 2)), v0] w I L P := by
  refine (go_aload_n (m := 6) (pc := 68) (k := 0) (by decide +kernel) rfl).trans ?_
  refine (go_getR (m := 6) (pc := 69) (o := 1) (x := 21) (ci := 1) (k := 2) (by decide +kernel) rfl f_1_21 rfl h0).trans ?_
  rfl
theorem Caller_copyFrom_72_0 (l0 : Value) (l1 : Value) (l2 : Value) (l3 : Value) (l4 : Value) (w : Wd) (I : MI) (L : ML) (P : MP)  : go 6 72 [l0, l1, l2, l3, l4] [.null, .null] w I L P = kC (call 119 [.null, .null] w I L P) (fun v w I L P => go 6 75 [l0, l1, l2, l3, l4] (v.toList ++ []) w I L P) := by
  exact go_sta (m := 6) (pc := 72) (o := 1) (x := 39) (y := 119) (kd := 3) (as := [.null, .null]) (rs := []) (by decide +kernel) rfl rfl c_1_39 (Or.inr (Or.inl rfl)) rfl rfl rfl (by decide +kernel) (by simp only [List.length_cons, List.length_nil]; decide) (Nat.le_of_ble_eq_true rfl)
theorem Caller_copyFrom_72_1 (l0 : Value) (l1 : Value) (l2 : Value) (l3 : Value) (l4 : Value) (a_s1 : Nat) (w : Wd) (I : MI) (L : ML) (P : MP)  : go 6 72 [l0, l1, l2, l3, l4] [.ref a_s1, .null] w I L P = kC (call 119 [.null, .ref a_s1] w I L P) (fun v w I L P => go 6 75 [l0, l1, l2, l3, l4] (v.toList ++ []) w I L P) := by
  exact go_sta (m := 6) (pc := 72) (o := 1) (x := 39) (y := 119) (kd := 3) (as := [.null, .ref a_s1]) (rs := []) (by decide +kernel) rfl rfl c_1_39 (Or.inr (Or.inl rfl)) rfl rfl rfl (by decide +kernel) (by simp only [List.length_cons, List.length_nil]; decide) (Nat.le_of_ble_eq_true rfl)
theorem Caller_copyFrom_72_2 (l0 : Value) (l1 : Value) (l2 : Value) (l3 : Value) (l4 : Value) (a_s0 : Nat) (w : Wd) (I : MI) (L : ML) (P : MP)  : go 6 72 [l0, l1, l2, l3, l4] [.null, .ref a_s0] w I L P = kC (call 119 [.ref a_s0, .null] w I L P) (fun v w I L P => go 6 75 [l0, l1, l2, l3, l4] (v.toList ++ []) w I L P) := by
  exact go_sta (m := 6) (pc := 72) (o := 1) (x := 39) (y := 119) (kd := 3) (as := [.ref a_s0, .null]) (rs := []) (by decide +kernel) rfl rfl c_1_39 (Or.inr (Or.inl rfl)) rfl rfl rfl (by decide +kernel) (by simp only [List.length_cons, List.length_nil]; decide) (Nat.le_of_ble_eq_true rfl)
theorem Caller_copyFrom_72_3 (l0 : Value) (l1 : Value) (l2 : Value) (l3 : Value) (l4 : Value) (a_s0 : Nat) (a_s1 : Nat) (w : Wd) (I : MI) (L : ML) (P : MP)  : go 6 72 [l0, l1, l2, l3, l4] [.ref a_s1, .ref a_s0] w I L P = kC (call 119 [.ref a_s0, .ref a_s1] w I L P) (fun v w I L P => go 6 75 [l0, l1, l2, l3, l4] (v.toList ++ []) w I L P) := by
  exact go_sta (m := 6) (pc := 72) (o := 1) (x := 39) (y := 119) (kd := 3) (as := [.ref a_s0, .ref a_s1]) (rs := []) (by decide +kernel) rfl rfl c_1_39 (Or.inr (Or.inl rfl)) rfl rfl rfl (by decide +kernel) (by simp only [List.length_cons, List.length_nil]; decide) (Nat.le_of_ble_eq_true rfl)
theorem Caller_copyFrom_75 (a_l0 : Nat) (a_l1 : Nat) (l2 : Value) (l3 : Value) (l4 : Value) (w : Wd) (I : MI) (L : ML) (P : MP) (h0 : w.1 a_l1 = some (1, 0)) (h1 : w.1 a_l0 = some (1, 0)) : go 6 75 [.ref a_l0, .ref a_l1, l2, l3, l4] [] w I L P = some (.inl none, w, (updI (updI (updI I a_l0 3 (I a_l1 3)) a_l0 4 ((updI I a_l0 3 (I a_l1 3)) a_l1 4)) a_l0 5 ((updI (updI I a_l0 3 (I a_l1 3)) a_l0 4 ((updI I a_l0 3 (I a_l1 3)) a_l1 4)) a_l1 5)), L, P) := by
  refine (go_aload_n (m := 6) (pc := 75) (k := 0) (by decide +kernel) rfl).trans ?_
  refine (go_aload_n (m := 6) (pc := 76) (k := 1) (by decide +kernel) rfl).trans ?_
  refine (go_getI (m := 6) (pc := 77) (o := 1) (x := 25) (ci := 1) (k := 3) (by decide +kernel) rfl f_1_25 rfl h0).trans ?_
  refine (go_putI (m := 6) (pc := 80) (o := 1) (x := 25) (ci := 1) (k := 3) (by decide +kernel) rfl f_1_25 rfl (by decide +kernel) h1).trans ?_
  refine (go_aload_n (m := 6) (pc := 83) (k := 0) (by decide +kernel) rfl).trans ?_
  refine (go_aload_n (m := 6) (pc := 84) (k := 1) (by decide +kernel) rfl).trans ?_
  refine (go_getI (m := 6) (pc := 85) (o := 1) (x := 28) (ci := 1) (k := 4) (by decide +kernel) rfl f_1_28 rfl h0).trans ?_
  refine (go_putI (m := 6) (pc := 88) (o := 1) (x := 28) (ci := 1) (k := 4) (by decide +kernel) rfl f_1_28 rfl (by decide +kernel) h1).trans ?_
  refine (go_aload_n (m := 6) (pc := 91) (k := 0) (by decide +kernel) rfl).trans ?_
  refine (go_aload_n (m := 6) (pc := 92) (k := 1) (by decide +kernel) rfl).trans ?_
  refine (go_getI (m := 6) (pc := 93) (o := 1) (x := 31) (ci := 1) (k := 5) (by decide +kernel) rfl f_1_31 rfl h0).trans ?_
  refine (go_putI (m := 6) (pc := 96) (o := 1) (x := 31) (ci := 1) (k := 5) (by decide +kernel) rfl f_1_31 rfl (by decide +kernel) h1).trans ?_
  exact go_retV (m := 6) (pc := 99) (by decide +kernel) rfl
theorem Caller_copyFrom_E (this : Nat) (p0 : Nat) (w : Wd) (I : MI) (L : ML) (P : MP) : call 6 [.ref this, .ref p0] w I L P = go 6 0 [.ref this, .ref p0, unk, unk, unk] [] w I L P := rfl
theorem Caller_copyFrom_E1 (this : Nat) (w : Wd) (I : MI) (L : ML) (P : MP) : call 6 [.ref this, .null] w I L P = go 6 0 [.ref this, .null, unk, unk, unk] [] w I L P := rfl
theorem Caller_messageAt_0 (l0 : Value) (x_l1 : Int32) (w : Wd) (I : MI) (L : ML) (P : MP)  : go 7 0 [l0, .int x_l1] [] w I L P = if x_l1 < 0 then go 7 30 [l0, .int x_l1] [] w I L P else go 7 4 [l0, .int x_l1] [] w I L P := by
  refine (go_iload_n (m := 7) (pc := 0) (k := 1) (by decide +kernel) rfl).trans ?_
  exact go_iflt (m := 7) (pc := 1) (off := 29) (t := 30) (by decide +kernel) (by decide)
theorem Caller_messageAt_4 (a_l0 : Nat) (x_l1 : Int32) (w : Wd) (I : MI) (L : ML) (P : MP) (h0 : w.1 a_l0 = some (1, 0)) : go 7 4 [.ref a_l0, .int x_l1] [] w I L P = if (I a_l0 1) ≤ x_l1 then go 7 30 [.ref a_l0, .int x_l1] [] w I L P else go 7 12 [.ref a_l0, .int x_l1] [] w I L P := by
  refine (go_iload_n (m := 7) (pc := 4) (k := 1) (by decide +kernel) rfl).trans ?_
  refine (go_aload_n (m := 7) (pc := 5) (k := 0) (by decide +kernel) rfl).trans ?_
  refine (go_getI (m := 7) (pc := 6) (o := 1) (x := 17) (ci := 1) (k := 1) (by decide +kernel) rfl f_1_17 rfl h0).trans ?_
  exact go_icmpge (m := 7) (pc := 9) (off := 21) (t := 30) (by decide +kernel) (by decide)
theorem Caller_messageAt_12 (a_l0 : Nat) (x_l1 : Int32) (w : Wd) (I : MI) (L : ML) (P : MP) (h0 : w.1 a_l0 = some (1, 0)) : go 7 12 [.ref a_l0, .int x_l1] [] w I L P = go 7 17 [.ref a_l0, .int x_l1] [(va_rf (P a_l0 0)), .int x_l1] w I L P := by
  refine (go_iload_n (m := 7) (pc := 12) (k := 1) (by decide +kernel) rfl).trans ?_
  refine (go_aload_n (m := 7) (pc := 13) (k := 0) (by decide +kernel) rfl).trans ?_
  refine (go_getR (m := 7) (pc := 14) (o := 1) (x := 11) (ci := 1) (k := 0) (by decide +kernel) rfl f_1_11 rfl h0).trans ?_
  rfl
theorem Caller_messageAt_17 (l0 : Value) (l1 : Value) (y0 : Int32) (a_s1 : Nat) (w : Wd) (I : MI) (L : ML) (P : MP) (h0 : isAr w a_s1 13) : go 7 17 [l0, l1] [.ref a_s1, .int y0] w I L P = if (alen w a_s1) ≤ y0 then go 7 30 [l0, l1] [] w I L P else go 7 21 [l0, l1] [] w I L P := by
  refine (go_alen13 (m := 7) (pc := 17) (by decide +kernel) h0).trans ?_
  exact go_icmpge (m := 7) (pc := 18) (off := 12) (t := 30) (by decide +kernel) (by decide)
theorem Caller_messageAt_21 (a_l0 : Nat) (l1 : Value) (w : Wd) (I : MI) (L : ML) (P : MP) (h0 : w.1 a_l0 = some (1, 0)) : go 7 21 [.ref a_l0, l1] [] w I L P = go 7 25 [.ref a_l0, l1] [(va_rf (P a_l0 0))] w I L P := by
  refine (go_aload_n (m := 7) (pc := 21) (k := 0) (by decide +kernel) rfl).trans ?_
  refine (go_getR (m := 7) (pc := 22) (o := 1) (x := 11) (ci := 1) (k := 0) (by decide +kernel) rfl f_1_11 rfl h0).trans ?_
  rfl
theorem Caller_messageAt_25 (l0 : Value) (x_l1 : Int32) (a_s0 : Nat) (w : Wd) (I : MI) (L : ML) (P : MP) (h0 : inA w a_s0 13 x_l1) : go 7 25 [l0, .int x_l1] [.ref a_s0] w I L P = go 7 27 [l0, .int x_l1] [(va_rf (P a_s0 (Int32.toNatClampNeg x_l1)))] w I L P := by
  refine (go_iload_n (m := 7) (pc := 25) (k := 1) (by decide +kernel) rfl).trans ?_
  refine (go_aald13 (m := 7) (pc := 26) (by decide +kernel) h0).trans ?_
  rfl
theorem Caller_messageAt_27 (l0 : Value) (l1 : Value) (v0 : Value) (w : Wd) (I : MI) (L : ML) (P : MP)  : go 7 27 [l0, l1] [v0] w I L P = go 7 31 [l0, l1] [v0] w I L P := by
  refine (go_goto (m := 7) (pc := 27) (off := 4) (t := 31) (by decide +kernel) (by decide)).trans ?_
  rfl
theorem Caller_messageAt_30 (l0 : Value) (l1 : Value) (w : Wd) (I : MI) (L : ML) (P : MP)  : go 7 30 [l0, l1] [] w I L P = go 7 31 [l0, l1] [.null] w I L P := by
  refine (go_anull (m := 7) (pc := 30) (by decide +kernel)).trans ?_
  rfl
theorem Caller_messageAt_31_0 (l0 : Value) (l1 : Value) (w : Wd) (I : MI) (L : ML) (P : MP)  : go 7 31 [l0, l1] [.null] w I L P = some (.inl (some (.null)), w, I, L, P) := by
  exact go_retN (m := 7) (pc := 31) (by decide +kernel) rfl
theorem Caller_messageAt_31_1 (l0 : Value) (l1 : Value) (a_s0 : Nat) (w : Wd) (I : MI) (L : ML) (P : MP)  : go 7 31 [l0, l1] [.ref a_s0] w I L P = some (.inl (some (.ref a_s0)), w, I, L, P) := by
  exact go_retR (m := 7) (pc := 31) (by decide +kernel) rfl
theorem Caller_messageAt_E (this : Nat) (p0 : Int32) (w : Wd) (I : MI) (L : ML) (P : MP) : call 7 [.ref this, .int p0] w I L P = go 7 0 [.ref this, .int p0] [] w I L P := rfl
theorem Caller_enqueue_0 (a_l0 : Nat) (l1 : Value) (l2 : Value) (l3 : Value) (l4 : Value) (l5 : Value) (l6 : Value) (w : Wd) (I : MI) (L : ML) (P : MP) (h0 : w.1 a_l0 = some (1, 0)) : go 8 0 [.ref a_l0, l1, l2, l3, l4, l5, l6] [] w I L P = if (I a_l0 1) < 0 then go 8 31 [.ref a_l0, l1, l2, l3, l4, l5, l6] [] w I L P else go 8 7 [.ref a_l0, l1, l2, l3, l4, l5, l6] [] w I L P := by
  refine (go_aload_n (m := 8) (pc := 0) (k := 0) (by decide +kernel) rfl).trans ?_
  refine (go_getI (m := 8) (pc := 1) (o := 1) (x := 17) (ci := 1) (k := 1) (by decide +kernel) rfl f_1_17 rfl h0).trans ?_
  exact go_iflt (m := 8) (pc := 4) (off := 27) (t := 31) (by decide +kernel) (by decide)
theorem Caller_enqueue_7 (a_l0 : Nat) (l1 : Value) (l2 : Value) (l3 : Value) (l4 : Value) (l5 : Value) (l6 : Value) (w : Wd) (I : MI) (L : ML) (P : MP) (h0 : w.1 a_l0 = some (1, 0)) : go 8 7 [.ref a_l0, l1, l2, l3, l4, l5, l6] [] w I L P = go 8 15 [.ref a_l0, l1, l2, l3, l4, l5, l6] [(va_rf (P a_l0 0)), .int (I a_l0 1)] w I L P := by
  refine (go_aload_n (m := 8) (pc := 7) (k := 0) (by decide +kernel) rfl).trans ?_
  refine (go_getI (m := 8) (pc := 8) (o := 1) (x := 17) (ci := 1) (k := 1) (by decide +kernel) rfl f_1_17 rfl h0).trans ?_
  refine (go_aload_n (m := 8) (pc := 11) (k := 0) (by decide +kernel) rfl).trans ?_
  refine (go_getR (m := 8) (pc := 12) (o := 1) (x := 11) (ci := 1) (k := 0) (by decide +kernel) rfl f_1_11 rfl h0).trans ?_
  rfl
theorem Caller_enqueue_15 (l0 : Value) (l1 : Value) (l2 : Value) (l3 : Value) (l4 : Value) (l5 : Value) (l6 : Value) (y0 : Int32) (a_s1 : Nat) (w : Wd) (I : MI) (L : ML) (P : MP) (h0 : isAr w a_s1 13) : go 8 15 [l0, l1, l2, l3, l4, l5, l6] [.ref a_s1, .int y0] w I L P = if (alen w a_s1) ≤ y0 then go 8 31 [l0, l1, l2, l3, l4, l5, l6] [] w I L P else go 8 19 [l0, l1, l2, l3, l4, l5, l6] [] w I L P := by
  refine (go_alen13 (m := 8) (pc := 15) (by decide +kernel) h0).trans ?_
  exact go_icmpge (m := 8) (pc := 16) (off := 15) (t := 31) (by decide +kernel) (by decide)
theorem Caller_enqueue_19 (a_l0 : Nat) (l1 : Value) (l2 : Value) (l3 : Value) (l4 : Value) (l5 : Value) (l6 : Value) (w : Wd) (I : MI) (L : ML) (P : MP) (h0 : w.1 a_l0 = some (1, 0)) : go 8 19 [.ref a_l0, l1, l2, l3, l4, l5, l6] [] w I L P = go 8 23 [.ref a_l0, l1, l2, l3, l4, l5, l6] [(va_rf (P a_l0 0))] w I L P := by
  refine (go_aload_n (m := 8) (pc := 19) (k := 0) (by decide +kernel) rfl).trans ?_
  refine (go_getR (m := 8) (pc := 20) (o := 1) (x := 11) (ci := 1) (k := 0) (by decide +kernel) rfl f_1_11 rfl h0).trans ?_
  rfl
theorem Caller_enqueue_23 (a_l0 : Nat) (l1 : Value) (l2 : Value) (l3 : Value) (l4 : Value) (l5 : Value) (l6 : Value) (a_s0 : Nat) (w : Wd) (I : MI) (L : ML) (P : MP) (h0 : w.1 a_l0 = some (1, 0)) (h1 : inA w a_s0 13 (I a_l0 1)) : go 8 23 [.ref a_l0, l1, l2, l3, l4, l5, l6] [.ref a_s0] w I L P = go 8 28 [.ref a_l0, l1, l2, l3, l4, l5, l6] [(va_rf (P a_s0 (Int32.toNatClampNeg (I a_l0 1))))] w I L P := by
  refine (go_aload_n (m := 8) (pc := 23) (k := 0) (by decide +kernel) rfl).trans ?_
  refine (go_getI (m := 8) (pc := 24) (o := 1) (x := 17) (ci := 1) (k := 1) (by decide +kernel) rfl f_1_17 rfl h0).trans ?_
  refine (go_aald13 (m := 8) (pc := 27) (by decide +kernel) h1).trans ?_
  rfl
theorem Caller_enqueue_28 (l0 : Value) (l1 : Value) (l2 : Value) (l3 : Value) (l4 : Value) (l5 : Value) (l6 : Value) (v0 : Value) (w : Wd) (I : MI) (L : ML) (P : MP)  : go 8 28 [l0, l1, l2, l3, l4, l5, l6] [v0] w I L P = go 8 32 [l0, l1, l2, l3, l4, l5, l6] [v0] w I L P := by
  refine (go_goto (m := 8) (pc := 28) (off := 4) (t := 32) (by decide +kernel) (by decide)).trans ?_
  rfl
theorem Caller_enqueue_31 (l0 : Value) (l1 : Value) (l2 : Value) (l3 : Value) (l4 : Value) (l5 : Value) (l6 : Value) (w : Wd) (I : MI) (L : ML) (P : MP)  : go 8 31 [l0, l1, l2, l3, l4, l5, l6] [] w I L P = go 8 32 [l0, l1, l2, l3, l4, l5, l6] [.null] w I L P := by
  refine (go_anull (m := 8) (pc := 31) (by decide +kernel)).trans ?_
  rfl
theorem Caller_enqueue_32_0 (l0 : Value) (l1 : Value) (l2 : Value) (l3 : Value) (l4 : Value) (l5 : Value) (l6 : Value) (w : Wd) (I : MI) (L : ML) (P : MP)  : go 8 32 [l0, l1, l2, l3, l4, l5, l6] [.null] w I L P = go 8 39 [l0, l1, l2, l3, l4, (fix1 l5), .null] [] w I L P := by
  refine (go_astoreN (m := 8) (pc := 32) (k := 6) (ls' := [l0, l1, l2, l3, l4, (fix1 l5), .null]) (by decide +kernel) (by simp only [List.length_cons, List.length_nil]; decide) rfl).trans ?_
  refine (go_aloadN (m := 8) (pc := 34) (k := 6) (by decide +kernel) rfl).trans ?_
  exact go_ifnonnullN (m := 8) (pc := 36) (off := 5) (by decide +kernel)
theorem Caller_enqueue_32_1 (l0 : Value) (l1 : Value) (l2 : Value) (l3 : Value) (l4 : Value) (l5 : Value) (l6 : Value) (a_s0 : Nat) (w : Wd) (I : MI) (L : ML) (P : MP)  : go 8 32 [l0, l1, l2, l3, l4, l5, l6] [.ref a_s0] w I L P = go 8 41 [l0, l1, l2, l3, l4, (fix1 l5), .ref a_s0] [] w I L P := by
  refine (go_astore (m := 8) (pc := 32) (k := 6) (ls' := [l0, l1, l2, l3, l4, (fix1 l5), .ref a_s0]) (by decide +kernel) (by simp only [List.length_cons, List.length_nil]; decide) rfl).trans ?_
  refine (go_aload (m := 8) (pc := 34) (k := 6) (by decide +kernel) rfl).trans ?_
  exact go_ifnonnullR (m := 8) (pc := 36) (off := 5) (t := 41) (by decide +kernel) (by decide)
theorem Caller_enqueue_39 (l0 : Value) (l1 : Value) (l2 : Value) (l3 : Value) (l4 : Value) (l5 : Value) (l6 : Value) (w : Wd) (I : MI) (L : ML) (P : MP) (h0 : (nI 0) &&& 1 = (nI 0)) : go 8 39 [l0, l1, l2, l3, l4, l5, l6] [] w I L P = some (.inl (some (.int (nI 0))), w, I, L, P) := by
  refine (go_ic (m := 8) (pc := 39) (n := 0) (by decide +kernel) ic_0).trans ?_
  exact go_retZ (m := 8) (pc := 40) (by decide +kernel) rfl h0
theorem Caller_enqueue_41 (a_l0 : Nat) (x_l1 : Int32) (x_l2 : Int32) (x_l3 : Int32) (x_l4 : Int64) (l5 : Value) (a_l6 : Nat) (w : Wd) (I : MI) (L : ML) (P : MP) (h0 : w.1 a_l6 = some (3, 0)) (h1 : x_l1 &&& 1 = x_l1) (h2 : w.1 a_l0 = some (1, 0)) (h3 : (nI 1) &&& 1 = (nI 1)) : go 8 41 [.ref a_l0, .int x_l1, .int x_l2, .int x_l3, .long x_l4, l5, .ref a_l6] [] w I L P = some (.inl (some (.int (nI 1))), w, (updI (updI (updI (updI (updI I a_l6 0 x_l1) a_l6 1 x_l2) a_l6 2 x_l3) a_l6 3 (nI 0)) a_l0 1 (((updI (updI (updI (updI I a_l6 0 x_l1) a_l6 1 x_l2) a_l6 2 x_l3) a_l6 3 (nI 0)) a_l0 1) + (nI 1))), (updL L a_l6 4 x_l4), P) := by
  refine (go_aload (m := 8) (pc := 41) (k := 6) (by decide +kernel) rfl).trans ?_
  refine (go_iload_n (m := 8) (pc := 43) (k := 1) (by decide +kernel) rfl).trans ?_
  refine (go_putZ (m := 8) (pc := 44) (o := 1) (x := 43) (ci := 3) (k := 0) (by decide +kernel) rfl f_1_43 rfl (by decide +kernel) h1 h0).trans ?_
  refine (go_aload (m := 8) (pc := 47) (k := 6) (by decide +kernel) rfl).trans ?_
  refine (go_iload_n (m := 8) (pc := 49) (k := 2) (by decide +kernel) rfl).trans ?_
  refine (go_putI (m := 8) (pc := 50) (o := 1) (x := 47) (ci := 3) (k := 1) (by decide +kernel) rfl f_1_47 rfl (by decide +kernel) h0).trans ?_
  refine (go_aload (m := 8) (pc := 53) (k := 6) (by decide +kernel) rfl).trans ?_
  refine (go_iload_n (m := 8) (pc := 55) (k := 3) (by decide +kernel) rfl).trans ?_
  refine (go_putI (m := 8) (pc := 56) (o := 1) (x := 50) (ci := 3) (k := 2) (by decide +kernel) rfl f_1_50 rfl (by decide +kernel) h0).trans ?_
  refine (go_aload (m := 8) (pc := 59) (k := 6) (by decide +kernel) rfl).trans ?_
  refine (go_ic (m := 8) (pc := 61) (n := 0) (by decide +kernel) ic_0).trans ?_
  refine (go_putI (m := 8) (pc := 62) (o := 1) (x := 53) (ci := 3) (k := 3) (by decide +kernel) rfl f_1_53 rfl (by decide +kernel) h0).trans ?_
  refine (go_aload (m := 8) (pc := 65) (k := 6) (by decide +kernel) rfl).trans ?_
  refine (go_lload (m := 8) (pc := 67) (k := 4) (by decide +kernel) rfl).trans ?_
  refine (go_putJ (m := 8) (pc := 69) (o := 1) (x := 54) (ci := 3) (k := 4) (by decide +kernel) rfl f_1_54 rfl (by decide +kernel) h0).trans ?_
  refine (go_aload_n (m := 8) (pc := 72) (k := 0) (by decide +kernel) rfl).trans ?_
  refine (go_dup (m := 8) (pc := 73) (by decide +kernel) rfl).trans ?_
  refine (go_getI (m := 8) (pc := 74) (o := 1) (x := 17) (ci := 1) (k := 1) (by decide +kernel) rfl f_1_17 rfl h2).trans ?_
  refine (go_ic (m := 8) (pc := 77) (n := 1) (by decide +kernel) ic_1).trans ?_
  refine (go_iadd (m := 8) (pc := 78) (by decide +kernel)).trans ?_
  refine (go_putI (m := 8) (pc := 79) (o := 1) (x := 17) (ci := 1) (k := 1) (by decide +kernel) rfl f_1_17 rfl (by decide +kernel) h2).trans ?_
  refine (go_ic (m := 8) (pc := 82) (n := 1) (by decide +kernel) ic_1).trans ?_
  exact go_retZ (m := 8) (pc := 83) (by decide +kernel) rfl h3
theorem Caller_enqueue_E (this : Nat) (p0 : Int32) (p1 : Int32) (p2 : Int32) (p3 : Int64) (w : Wd) (I : MI) (L : ML) (P : MP) : call 8 [.ref this, .int p0, .int p1, .int p2, .long p3] w I L P = go 8 0 [.ref this, .int p0, .int p1, .int p2, .long p3, unk, unk] [] w I L P := rfl
theorem Caller_takeBack_0 (a_l0 : Nat) (l1 : Value) (w : Wd) (I : MI) (L : ML) (P : MP) (h0 : w.1 a_l0 = some (1, 0)) : go 9 0 [.ref a_l0, l1] [] w I L P = kC (call 7 [.ref a_l0, .int ((I a_l0 1) - (nI 1))] w I L P) (fun v w I L P => go 9 10 [.ref a_l0, l1] (v.toList ++ []) w I L P) := by
  refine (go_aload_n (m := 9) (pc := 0) (k := 0) (by decide +kernel) rfl).trans ?_
  refine (go_aload_n (m := 9) (pc := 1) (k := 0) (by decide +kernel) rfl).trans ?_
  refine (go_getI (m := 9) (pc := 2) (o := 1) (x := 17) (ci := 1) (k := 1) (by decide +kernel) rfl f_1_17 rfl h0).trans ?_
  refine (go_ic (m := 9) (pc := 5) (n := 1) (by decide +kernel) ic_1).trans ?_
  refine (go_isub (m := 9) (pc := 6) (by decide +kernel)).trans ?_
  exact go_vir (m := 9) (pc := 7) (o := 1) (x := 58) (y := 7) (kd := 0) (b := a_l0) (bs := [.int ((I a_l0 1) - (nI 1))]) (rs := []) (by decide +kernel) rfl rfl c_1_58 (Or.inl rfl) rfl rfl rfl (by decide +kernel) (by simp only [List.length_cons, List.length_nil]; decide) (Nat.le_of_ble_eq_true rfl) h0
theorem Caller_takeBack_10_0 (l0 : Value) (l1 : Value) (w : Wd) (I : MI) (L : ML) (P : MP)  : go 9 10 [l0, l1] [.null] w I L P = go 9 15 [(fix1 l0), .null] [] w I L P := by
  refine (go_astore_nN (m := 9) (pc := 10) (k := 1) (ls' := [(fix1 l0), .null]) (by decide +kernel) (by simp only [List.length_cons, List.length_nil]; decide) rfl).trans ?_
  refine (go_aload_nN (m := 9) (pc := 11) (k := 1) (by decide +kernel) rfl).trans ?_
  exact go_ifnonnullN (m := 9) (pc := 12) (off := 5) (by decide +kernel)
theorem Caller_takeBack_10_1 (l0 : Value) (l1 : Value) (a_s0 : Nat) (w : Wd) (I : MI) (L : ML) (P : MP)  : go 9 10 [l0, l1] [.ref a_s0] w I L P = go 9 17 [(fix1 l0), .ref a_s0] [] w I L P := by
  refine (go_astore_n (m := 9) (pc := 10) (k := 1) (ls' := [(fix1 l0), .ref a_s0]) (by decide +kernel) (by simp only [List.length_cons, List.length_nil]; decide) rfl).trans ?_
  refine (go_aload_n (m := 9) (pc := 11) (k := 1) (by decide +kernel) rfl).trans ?_
  exact go_ifnonnullR (m := 9) (pc := 12) (off := 5) (t := 17) (by decide +kernel) (by decide)
theorem Caller_takeBack_15 (l0 : Value) (l1 : Value) (w : Wd) (I : MI) (L : ML) (P : MP)  : go 9 15 [l0, l1] [] w I L P = some (.inl (some (.int (-1))), w, I, L, P) := by
  refine (go_ic (m := 9) (pc := 15) (n := -1) (by decide +kernel) ic_m1).trans ?_
  exact go_retI (m := 9) (pc := 16) (by decide +kernel) rfl
theorem Caller_takeBack_17 (a_l0 : Nat) (a_l1 : Nat) (w : Wd) (I : MI) (L : ML) (P : MP) (h0 : w.1 a_l0 = some (1, 0)) (h1 : w.1 a_l1 = some (3, 0)) : go 9 17 [.ref a_l0, .ref a_l1] [] w I L P = some (.inl (some (.int ((updI I a_l0 1 ((I a_l0 1) - (nI 1))) a_l1 1))), w, (updI I a_l0 1 ((I a_l0 1) - (nI 1))), L, P) := by
  refine (go_aload_n (m := 9) (pc := 17) (k := 0) (by decide +kernel) rfl).trans ?_
  refine (go_dup (m := 9) (pc := 18) (by decide +kernel) rfl).trans ?_
  refine (go_getI (m := 9) (pc := 19) (o := 1) (x := 17) (ci := 1) (k := 1) (by decide +kernel) rfl f_1_17 rfl h0).trans ?_
  refine (go_ic (m := 9) (pc := 22) (n := 1) (by decide +kernel) ic_1).trans ?_
  refine (go_isub (m := 9) (pc := 23) (by decide +kernel)).trans ?_
  refine (go_putI (m := 9) (pc := 24) (o := 1) (x := 17) (ci := 1) (k := 1) (by decide +kernel) rfl f_1_17 rfl (by decide +kernel) h0).trans ?_
  refine (go_aload_n (m := 9) (pc := 27) (k := 1) (by decide +kernel) rfl).trans ?_
  refine (go_getI (m := 9) (pc := 28) (o := 1) (x := 47) (ci := 3) (k := 1) (by decide +kernel) rfl f_1_47 rfl h1).trans ?_
  exact go_retI (m := 9) (pc := 31) (by decide +kernel) rfl
theorem Caller_takeBack_E (this : Nat) (w : Wd) (I : MI) (L : ML) (P : MP) : call 9 [.ref this] w I L P = go 9 0 [.ref this, unk] [] w I L P := rfl
theorem Caller_endFirst_0 (a_l0 : Nat) (l1 : Value) (l2 : Value) (l3 : Value) (w : Wd) (I : MI) (L : ML) (P : MP) (h0 : w.1 a_l0 = some (1, 0)) : go 10 0 [.ref a_l0, l1, l2, l3] [] w I L P = if (I a_l0 1) ≤ 0 then go 10 20 [.ref a_l0, l1, l2, l3] [] w I L P else go 10 7 [.ref a_l0, l1, l2, l3] [] w I L P := by
  refine (go_aload_n (m := 10) (pc := 0) (k := 0) (by decide +kernel) rfl).trans ?_
  refine (go_getI (m := 10) (pc := 1) (o := 1) (x := 17) (ci := 1) (k := 1) (by decide +kernel) rfl f_1_17 rfl h0).trans ?_
  exact go_ifle (m := 10) (pc := 4) (off := 16) (t := 20) (by decide +kernel) (by decide)
theorem Caller_endFirst_7 (l0 : Value) (x_l1 : Int32) (l2 : Value) (l3 : Value) (w : Wd) (I : MI) (L : ML) (P : MP)  : go 10 7 [l0, .int x_l1, l2, l3] [] w I L P = if x_l1 < 0 then go 10 20 [l0, .int x_l1, l2, l3] [] w I L P else go 10 11 [l0, .int x_l1, l2, l3] [] w I L P := by
  refine (go_iload_n (m := 10) (pc := 7) (k := 1) (by decide +kernel) rfl).trans ?_
  exact go_iflt (m := 10) (pc := 8) (off := 12) (t := 20) (by decide +kernel) (by decide)
theorem Caller_endFirst_11 (a_l0 : Nat) (x_l1 : Int32) (l2 : Value) (l3 : Value) (w : Wd) (I : MI) (L : ML) (P : MP) (h0 : w.1 a_l0 = some (1, 0)) : go 10 11 [.ref a_l0, .int x_l1, l2, l3] [] w I L P = go 10 16 [.ref a_l0, .int x_l1, l2, l3] [(va_rf (P a_l0 2)), .int x_l1] w I L P := by
  refine (go_iload_n (m := 10) (pc := 11) (k := 1) (by decide +kernel) rfl).trans ?_
  refine (go_aload_n (m := 10) (pc := 12) (k := 0) (by decide +kernel) rfl).trans ?_
  refine (go_getR (m := 10) (pc := 13) (o := 1) (x := 21) (ci := 1) (k := 2) (by decide +kernel) rfl f_1_21 rfl h0).trans ?_
  rfl
theorem Caller_endFirst_16 (l0 : Value) (l1 : Value) (l2 : Value) (l3 : Value) (y0 : Int32) (a_s1 : Nat) (w : Wd) (I : MI) (L : ML) (P : MP) (h0 : isAr w a_s1 8) : go 10 16 [l0, l1, l2, l3] [.ref a_s1, .int y0] w I L P = if y0 < (alen w a_s1) then go 10 21 [l0, l1, l2, l3] [] w I L P else go 10 20 [l0, l1, l2, l3] [] w I L P := by
  refine (go_alen8 (m := 10) (pc := 16) (by decide +kernel) h0).trans ?_
  exact go_icmplt (m := 10) (pc := 17) (off := 4) (t := 21) (by decide +kernel) (by decide)
theorem Caller_endFirst_20 (l0 : Value) (l1 : Value) (l2 : Value) (l3 : Value) (w : Wd) (I : MI) (L : ML) (P : MP)  : go 10 20 [l0, l1, l2, l3] [] w I L P = some (.inl none, w, I, L, P) := by
  exact go_retV (m := 10) (pc := 20) (by decide +kernel) rfl
theorem Caller_endFirst_21 (a_l0 : Nat) (l1 : Value) (l2 : Value) (l3 : Value) (w : Wd) (I : MI) (L : ML) (P : MP) (h0 : w.1 a_l0 = some (1, 0)) : go 10 21 [.ref a_l0, l1, l2, l3] [] w I L P = go 10 25 [.ref a_l0, l1, l2, l3] [(va_rf (P a_l0 0))] w I L P := by
  refine (go_aload_n (m := 10) (pc := 21) (k := 0) (by decide +kernel) rfl).trans ?_
  refine (go_getR (m := 10) (pc := 22) (o := 1) (x := 11) (ci := 1) (k := 0) (by decide +kernel) rfl f_1_11 rfl h0).trans ?_
  rfl
theorem Caller_endFirst_25 (l0 : Value) (l1 : Value) (l2 : Value) (l3 : Value) (a_s0 : Nat) (w : Wd) (I : MI) (L : ML) (P : MP) (h0 : inA w a_s0 13 (nI 0)) : go 10 25 [l0, l1, l2, l3] [.ref a_s0] w I L P = go 10 27 [l0, l1, l2, l3] [(va_rf (P a_s0 (Int32.toNatClampNeg (nI 0))))] w I L P := by
  refine (go_ic (m := 10) (pc := 25) (n := 0) (by decide +kernel) ic_0).trans ?_
  refine (go_aald13 (m := 10) (pc := 26) (by decide +kernel) h0).trans ?_
  rfl
theorem Caller_endFirst_27_0 (l0 : Value) (l1 : Value) (l2 : Value) (l3 : Value) (w : Wd) (I : MI) (L : ML) (P : MP)  : go 10 27 [l0, l1, l2, l3] [.null] w I L P = go 10 30 [l0, (fix1 l1), .null, .int (nI 1)] [] w I L P := by
  refine (go_astore_nN (m := 10) (pc := 27) (k := 2) (ls' := [l0, (fix1 l1), .null, l3]) (by decide +kernel) (by simp only [List.length_cons, List.length_nil]; decide) rfl).trans ?_
  refine (go_ic (m := 10) (pc := 28) (n := 1) (by decide +kernel) ic_1).trans ?_
  refine (go_istore_n (m := 10) (pc := 29) (k := 3) (ls' := [l0, (fix1 l1), .null, .int (nI 1)]) (by decide +kernel) (by simp only [List.length_cons, List.length_nil]; decide) rfl).trans ?_
  rfl
theorem Caller_endFirst_27_1 (l0 : Value) (l1 : Value) (l2 : Value) (l3 : Value) (a_s0 : Nat) (w : Wd) (I : MI) (L : ML) (P : MP)  : go 10 27 [l0, l1, l2, l3] [.ref a_s0] w I L P = go 10 30 [l0, (fix1 l1), .ref a_s0, .int (nI 1)] [] w I L P := by
  refine (go_astore_n (m := 10) (pc := 27) (k := 2) (ls' := [l0, (fix1 l1), .ref a_s0, l3]) (by decide +kernel) (by simp only [List.length_cons, List.length_nil]; decide) rfl).trans ?_
  refine (go_ic (m := 10) (pc := 28) (n := 1) (by decide +kernel) ic_1).trans ?_
  refine (go_istore_n (m := 10) (pc := 29) (k := 3) (ls' := [l0, (fix1 l1), .ref a_s0, .int (nI 1)]) (by decide +kernel) (by simp only [List.length_cons, List.length_nil]; decide) rfl).trans ?_
  rfl
theorem Caller_endFirst_30 (a_l0 : Nat) (l1 : Value) (l2 : Value) (x_l3 : Int32) (w : Wd) (I : MI) (L : ML) (P : MP) (h0 : w.1 a_l0 = some (1, 0)) : go 10 30 [.ref a_l0, l1, l2, .int x_l3] [] w I L P = go 10 35 [.ref a_l0, l1, l2, .int x_l3] [(va_rf (P a_l0 0)), .int x_l3] w I L P := by
  refine (go_iload_n (m := 10) (pc := 30) (k := 3) (by decide +kernel) rfl).trans ?_
  refine (go_aload_n (m := 10) (pc := 31) (k := 0) (by decide +kernel) rfl).trans ?_
  refine (go_getR (m := 10) (pc := 32) (o := 1) (x := 11) (ci := 1) (k := 0) (by decide +kernel) rfl f_1_11 rfl h0).trans ?_
  rfl
theorem Caller_endFirst_35 (l0 : Value) (l1 : Value) (l2 : Value) (l3 : Value) (y0 : Int32) (a_s1 : Nat) (w : Wd) (I : MI) (L : ML) (P : MP) (h0 : isAr w a_s1 13) : go 10 35 [l0, l1, l2, l3] [.ref a_s1, .int y0] w I L P = if (alen w a_s1) ≤ y0 then go 10 59 [l0, l1, l2, l3] [] w I L P else go 10 39 [l0, l1, l2, l3] [] w I L P := by
  refine (go_alen13 (m := 10) (pc := 35) (by decide +kernel) h0).trans ?_
  exact go_icmpge (m := 10) (pc := 36) (off := 23) (t := 59) (by decide +kernel) (by decide)
theorem Caller_endFirst_39 (a_l0 : Nat) (l1 : Value) (l2 : Value) (l3 : Value) (w : Wd) (I : MI) (L : ML) (P : MP) (h0 : w.1 a_l0 = some (1, 0)) : go 10 39 [.ref a_l0, l1, l2, l3] [] w I L P = go 10 43 [.ref a_l0, l1, l2, l3] [(va_rf (P a_l0 0))] w I L P := by
  refine (go_aload_n (m := 10) (pc := 39) (k := 0) (by decide +kernel) rfl).trans ?_
  refine (go_getR (m := 10) (pc := 40) (o := 1) (x := 11) (ci := 1) (k := 0) (by decide +kernel) rfl f_1_11 rfl h0).trans ?_
  rfl
theorem Caller_endFirst_43 (a_l0 : Nat) (l1 : Value) (l2 : Value) (x_l3 : Int32) (v0 : Value) (w : Wd) (I : MI) (L : ML) (P : MP) (h0 : w.1 a_l0 = some (1, 0)) : go 10 43 [.ref a_l0, l1, l2, .int x_l3] [v0] w I L P = go 10 50 [.ref a_l0, l1, l2, .int x_l3] [(va_rf (P a_l0 0)), .int (x_l3 - (nI 1)), v0] w I L P := by
  refine (go_iload_n (m := 10) (pc := 43) (k := 3) (by decide +kernel) rfl).trans ?_
  refine (go_ic (m := 10) (pc := 44) (n := 1) (by decide +kernel) ic_1).trans ?_
  refine (go_isub (m := 10) (pc := 45) (by decide +kernel)).trans ?_
  refine (go_aload_n (m := 10) (pc := 46) (k := 0) (by decide +kernel) rfl).trans ?_
  refine (go_getR (m := 10) (pc := 47) (o := 1) (x := 11) (ci := 1) (k := 0) (by decide +kernel) rfl f_1_11 rfl h0).trans ?_
  rfl
theorem Caller_endFirst_50 (l0 : Value) (l1 : Value) (l2 : Value) (x_l3 : Int32) (v0 : Value) (y1 : Int32) (a_s2 : Nat) (w : Wd) (I : MI) (L : ML) (P : MP) (h0 : inA w a_s2 13 x_l3) : go 10 50 [l0, l1, l2, .int x_l3] [.ref a_s2, .int y1, v0] w I L P = go 10 52 [l0, l1, l2, .int x_l3] [(va_rf (P a_s2 (Int32.toNatClampNeg x_l3))), .int y1, v0] w I L P := by
  refine (go_iload_n (m := 10) (pc := 50) (k := 3) (by decide +kernel) rfl).trans ?_
  refine (go_aald13 (m := 10) (pc := 51) (by decide +kernel) h0).trans ?_
  rfl
theorem Caller_endFirst_52 (l0 : Value) (l1 : Value) (l2 : Value) (x_l3 : Int32) (a_s0 : Nat) (y1 : Int32) (a_s2 : Nat) (w : Wd) (I : MI) (L : ML) (P : MP) (h0 : inA w a_s0 13 y1) (h1 : w.1 a_s2 = some (3, 0)) : go 10 52 [l0, l1, l2, .int x_l3] [.ref a_s2, .int y1, .ref a_s0] w I L P = go 10 30 [l0, l1, (fix1 l2), .int (x_l3 + (nI 1))] [] w I L (updP P a_s0 (Int32.toNatClampNeg y1) (some a_s2)) := by
  refine (go_aast13 (m := 10) (pc := 52) (by decide +kernel) h0 h1).trans ?_
  refine (go_iinc (m := 10) (pc := 53) (k := 3) (n := 1) (x := x_l3) (v := x_l3 + (nI 1)) (ls' := [l0, l1, (fix1 l2), .int (x_l3 + (nI 1))]) (by decide +kernel) rfl (by rw [ic_1]) rfl).trans ?_
  refine (go_goto (m := 10) (pc := 56) (off := -26) (t := 30) (by decide +kernel) (by decide)).trans ?_
  rfl
theorem Caller_endFirst_59 (a_l0 : Nat) (l1 : Value) (l2 : Value) (l3 : Value) (w : Wd) (I : MI) (L : ML) (P : MP) (h0 : w.1 a_l0 = some (1, 0)) : go 10 59 [.ref a_l0, l1, l2, l3] [] w I L P = go 10 63 [.ref a_l0, l1, l2, l3] [(va_rf (P a_l0 0))] w I L P := by
  refine (go_aload_n (m := 10) (pc := 59) (k := 0) (by decide +kernel) rfl).trans ?_
  refine (go_getR (m := 10) (pc := 60) (o := 1) (x := 11) (ci := 1) (k := 0) (by decide +kernel) rfl f_1_11 rfl h0).trans ?_
  rfl
theorem Caller_endFirst_63 (a_l0 : Nat) (l1 : Value) (l2 : Value) (l3 : Value) (v0 : Value) (w : Wd) (I : MI) (L : ML) (P : MP) (h0 : w.1 a_l0 = some (1, 0)) : go 10 63 [.ref a_l0, l1, l2, l3] [v0] w I L P = go 10 67 [.ref a_l0, l1, l2, l3] [(va_rf (P a_l0 0)), v0] w I L P := by
  refine (go_aload_n (m := 10) (pc := 63) (k := 0) (by decide +kernel) rfl).trans ?_
  refine (go_getR (m := 10) (pc := 64) (o := 1) (x := 11) (ci := 1) (k := 0) (by decide +kernel) rfl f_1_11 rfl h0).trans ?_
  rfl
theorem Caller_endFirst_67 (a_l0 : Nat) (l1 : Value) (a_l2 : Nat) (l3 : Value) (a_s0 : Nat) (a_s1 : Nat) (w : Wd) (I : MI) (L : ML) (P : MP) (h0 : isAr w a_s1 13) (h1 : inA w a_s0 13 ((alen w a_s1) - (nI 1))) (h2 : w.1 a_l2 = some (3, 0)) (h3 : w.1 a_l0 = some (1, 0)) : go 10 67 [.ref a_l0, l1, .ref a_l2, l3] [.ref a_s1, .ref a_s0] w I L P = go 10 86 [.ref a_l0, l1, .ref a_l2, l3] [(va_rf ((updP P a_s0 (Int32.toNatClampNeg ((alen w a_s1) - (nI 1))) (some a_l2)) a_l0 2))] w (updI I a_l0 1 ((I a_l0 1) - (nI 1))) L (updP P a_s0 (Int32.toNatClampNeg ((alen w a_s1) - (nI 1))) (some a_l2)) := by
  refine (go_alen13 (m := 10) (pc := 67) (by decide +kernel) h0).trans ?_
  refine (go_ic (m := 10) (pc := 68) (n := 1) (by decide +kernel) ic_1).trans ?_
  refine (go_isub (m := 10) (pc := 69) (by decide +kernel)).trans ?_
  refine (go_aload_n (m := 10) (pc := 70) (k := 2) (by decide +kernel) rfl).trans ?_
  refine (go_aast13 (m := 10) (pc := 71) (by decide +kernel) h1 h2).trans ?_
  refine (go_aload_n (m := 10) (pc := 72) (k := 0) (by decide +kernel) rfl).trans ?_
  refine (go_dup (m := 10) (pc := 73) (by decide +kernel) rfl).trans ?_
  refine (go_getI (m := 10) (pc := 74) (o := 1) (x := 17) (ci := 1) (k := 1) (by decide +kernel) rfl f_1_17 rfl h3).trans ?_
  refine (go_ic (m := 10) (pc := 77) (n := 1) (by decide +kernel) ic_1).trans ?_
  refine (go_isub (m := 10) (pc := 78) (by decide +kernel)).trans ?_
  refine (go_putI (m := 10) (pc := 79) (o := 1) (x := 17) (ci := 1) (k := 1) (by decide +kernel) rfl f_1_17 rfl (by decide +kernel) h3).trans ?_
  refine (go_aload_n (m := 10) (pc := 82) (k := 0) (by decide +kernel) rfl).trans ?_
  refine (go_getR (m := 10) (pc := 83) (o := 1) (x := 21) (ci := 1) (k := 2) (by decide +kernel) rfl f_1_21 rfl h3).trans ?_
  rfl
theorem Caller_endFirst_86 (l0 : Value) (x_l1 : Int32) (l2 : Value) (l3 : Value) (a_s0 : Nat) (w : Wd) (I : MI) (L : ML) (P : MP) (h0 : inA w a_s0 8 x_l1) : go 10 86 [l0, .int x_l1, l2, l3] [.ref a_s0] w I L P = some (.inl none, w, (updI I a_s0 (Int32.toNatClampNeg x_l1) ((I a_s0 (Int32.toNatClampNeg x_l1)) + (nI 1))), L, P) := by
  refine (go_iload_n (m := 10) (pc := 86) (k := 1) (by decide +kernel) rfl).trans ?_
  refine (go_dup2 (m := 10) (pc := 87) (by decide +kernel) rfl rfl).trans ?_
  refine (go_iald (m := 10) (pc := 88) (by decide +kernel) h0).trans ?_
  refine (go_ic (m := 10) (pc := 89) (n := 1) (by decide +kernel) ic_1).trans ?_
  refine (go_iadd (m := 10) (pc := 90) (by decide +kernel)).trans ?_
  refine (go_iast (m := 10) (pc := 91) (by decide +kernel) h0).trans ?_
  exact go_retV (m := 10) (pc := 92) (by decide +kernel) rfl
theorem Caller_endFirst_E (this : Nat) (p0 : Int32) (w : Wd) (I : MI) (L : ML) (P : MP) : call 10 [.ref this, .int p0] w I L P = go 10 0 [.ref this, .int p0, unk, unk] [] w I L P := rfl
theorem Caller_loseBit_0 (a_l0 : Nat) (l1 : Value) (l2 : Value) (w : Wd) (I : MI) (L : ML) (P : MP) (h0 : w.1 a_l0 = some (1, 0)) : go 11 0 [.ref a_l0, l1, l2] [] w I L P = kC (call 7 [.ref a_l0, .int (nI 0)] w I L P) (fun v w I L P => go 11 5 [.ref a_l0, l1, l2] (v.toList ++ []) w I L P) := by
  refine (go_aload_n (m := 11) (pc := 0) (k := 0) (by decide +kernel) rfl).trans ?_
  refine (go_ic (m := 11) (pc := 1) (n := 0) (by decide +kernel) ic_0).trans ?_
  exact go_vir (m := 11) (pc := 2) (o := 1) (x := 58) (y := 7) (kd := 0) (b := a_l0) (bs := [.int (nI 0)]) (rs := []) (by decide +kernel) rfl rfl c_1_58 (Or.inl rfl) rfl rfl rfl (by decide +kernel) (by simp only [List.length_cons, List.length_nil]; decide) (Nat.le_of_ble_eq_true rfl) h0
theorem Caller_loseBit_5_0 (l0 : Value) (l1 : Value) (l2 : Value) (w : Wd) (I : MI) (L : ML) (P : MP)  : go 11 5 [l0, l1, l2] [.null] w I L P = go 11 10 [l0, (fix1 l1), .null] [] w I L P := by
  refine (go_astore_nN (m := 11) (pc := 5) (k := 2) (ls' := [l0, (fix1 l1), .null]) (by decide +kernel) (by simp only [List.length_cons, List.length_nil]; decide) rfl).trans ?_
  refine (go_aload_nN (m := 11) (pc := 6) (k := 2) (by decide +kernel) rfl).trans ?_
  exact go_ifnonnullN (m := 11) (pc := 7) (off := 4) (by decide +kernel)
theorem Caller_loseBit_5_1 (l0 : Value) (l1 : Value) (l2 : Value) (a_s0 : Nat) (w : Wd) (I : MI) (L : ML) (P : MP)  : go 11 5 [l0, l1, l2] [.ref a_s0] w I L P = go 11 11 [l0, (fix1 l1), .ref a_s0] [] w I L P := by
  refine (go_astore_n (m := 11) (pc := 5) (k := 2) (ls' := [l0, (fix1 l1), .ref a_s0]) (by decide +kernel) (by simp only [List.length_cons, List.length_nil]; decide) rfl).trans ?_
  refine (go_aload_n (m := 11) (pc := 6) (k := 2) (by decide +kernel) rfl).trans ?_
  exact go_ifnonnullR (m := 11) (pc := 7) (off := 4) (t := 11) (by decide +kernel) (by decide)
theorem Caller_loseBit_10 (l0 : Value) (l1 : Value) (l2 : Value) (w : Wd) (I : MI) (L : ML) (P : MP)  : go 11 10 [l0, l1, l2] [] w I L P = some (.inl none, w, I, L, P) := by
  exact go_retV (m := 11) (pc := 10) (by decide +kernel) rfl
theorem Caller_loseBit_11 (a_l0 : Nat) (x_l1 : Int32) (a_l2 : Nat) (w : Wd) (I : MI) (L : ML) (P : MP) (h0 : w.1 a_l2 = some (3, 0)) (h1 : w.1 a_l0 = some (1, 0)) : go 11 11 [.ref a_l0, .int x_l1, .ref a_l2] [] w I L P = if ((updI (updI I a_l2 3 ((I a_l2 3) + (nI 1))) a_l0 3 (((updI I a_l2 3 ((I a_l2 3) + (nI 1))) a_l0 3) + (nI 1))) a_l2 3) < x_l1 then go 11 44 [.ref a_l0, .int x_l1, .ref a_l2] [] w (updI (updI I a_l2 3 ((I a_l2 3) + (nI 1))) a_l0 3 (((updI I a_l2 3 ((I a_l2 3) + (nI 1))) a_l0 3) + (nI 1))) L P else go 11 39 [.ref a_l0, .int x_l1, .ref a_l2] [] w (updI (updI I a_l2 3 ((I a_l2 3) + (nI 1))) a_l0 3 (((updI I a_l2 3 ((I a_l2 3) + (nI 1))) a_l0 3) + (nI 1))) L P := by
  refine (go_aload_n (m := 11) (pc := 11) (k := 2) (by decide +kernel) rfl).trans ?_
  refine (go_dup (m := 11) (pc := 12) (by decide +kernel) rfl).trans ?_
  refine (go_getI (m := 11) (pc := 13) (o := 1) (x := 53) (ci := 3) (k := 3) (by decide +kernel) rfl f_1_53 rfl h0).trans ?_
  refine (go_ic (m := 11) (pc := 16) (n := 1) (by decide +kernel) ic_1).trans ?_
  refine (go_iadd (m := 11) (pc := 17) (by decide +kernel)).trans ?_
  refine (go_putI (m := 11) (pc := 18) (o := 1) (x := 53) (ci := 3) (k := 3) (by decide +kernel) rfl f_1_53 rfl (by decide +kernel) h0).trans ?_
  refine (go_aload_n (m := 11) (pc := 21) (k := 0) (by decide +kernel) rfl).trans ?_
  refine (go_dup (m := 11) (pc := 22) (by decide +kernel) rfl).trans ?_
  refine (go_getI (m := 11) (pc := 23) (o := 1) (x := 25) (ci := 1) (k := 3) (by decide +kernel) rfl f_1_25 rfl h1).trans ?_
  refine (go_ic (m := 11) (pc := 26) (n := 1) (by decide +kernel) ic_1).trans ?_
  refine (go_iadd (m := 11) (pc := 27) (by decide +kernel)).trans ?_
  refine (go_putI (m := 11) (pc := 28) (o := 1) (x := 25) (ci := 1) (k := 3) (by decide +kernel) rfl f_1_25 rfl (by decide +kernel) h1).trans ?_
  refine (go_aload_n (m := 11) (pc := 31) (k := 2) (by decide +kernel) rfl).trans ?_
  refine (go_getI (m := 11) (pc := 32) (o := 1) (x := 53) (ci := 3) (k := 3) (by decide +kernel) rfl f_1_53 rfl h0).trans ?_
  refine (go_iload_n (m := 11) (pc := 35) (k := 1) (by decide +kernel) rfl).trans ?_
  exact go_icmplt (m := 11) (pc := 36) (off := 8) (t := 44) (by decide +kernel) (by decide)
theorem Caller_loseBit_39 (a_l0 : Nat) (l1 : Value) (l2 : Value) (w : Wd) (I : MI) (L : ML) (P : MP) (h0 : w.1 a_l0 = some (1, 0)) : go 11 39 [.ref a_l0, l1, l2] [] w I L P = kC (call 10 [.ref a_l0, .int (nI 4)] w I L P) (fun v w I L P => go 11 44 [.ref a_l0, l1, l2] (v.toList ++ []) w I L P) := by
  refine (go_aload_n (m := 11) (pc := 39) (k := 0) (by decide +kernel) rfl).trans ?_
  refine (go_ic (m := 11) (pc := 40) (n := 4) (by decide +kernel) ic_4).trans ?_
  exact go_vir (m := 11) (pc := 41) (o := 1) (x := 62) (y := 10) (kd := 0) (b := a_l0) (bs := [.int (nI 4)]) (rs := []) (by decide +kernel) rfl rfl c_1_62 (Or.inl rfl) rfl rfl rfl (by decide +kernel) (by simp only [List.length_cons, List.length_nil]; decide) (Nat.le_of_ble_eq_true rfl) h0
theorem Caller_loseBit_44 (l0 : Value) (l1 : Value) (l2 : Value) (w : Wd) (I : MI) (L : ML) (P : MP)  : go 11 44 [l0, l1, l2] [] w I L P = some (.inl none, w, I, L, P) := by
  exact go_retV (m := 11) (pc := 44) (by decide +kernel) rfl
theorem Caller_loseBit_E (this : Nat) (p0 : Int32) (w : Wd) (I : MI) (L : ML) (P : MP) : call 11 [.ref this, .int p0] w I L P = go 11 0 [.ref this, .int p0, unk] [] w I L P := rfl
theorem Caller_receiveByte_0 (a_l0 : Nat) (x_l1 : Int32) (w : Wd) (I : MI) (L : ML) (P : MP) (h0 : w.1 a_l0 = some (1, 0)) : go 12 0 [.ref a_l0, .int x_l1] [] w I L P = some (.inl none, w, (updI (updI I a_l0 4 ((I a_l0 4) + (nI 1))) a_l0 5 x_l1), L, P) := by
  refine (go_aload_n (m := 12) (pc := 0) (k := 0) (by decide +kernel) rfl).trans ?_
  refine (go_dup (m := 12) (pc := 1) (by decide +kernel) rfl).trans ?_
  refine (go_getI (m := 12) (pc := 2) (o := 1) (x := 28) (ci := 1) (k := 4) (by decide +kernel) rfl f_1_28 rfl h0).trans ?_
  refine (go_ic (m := 12) (pc := 5) (n := 1) (by decide +kernel) ic_1).trans ?_
  refine (go_iadd (m := 12) (pc := 6) (by decide +kernel)).trans ?_
  refine (go_putI (m := 12) (pc := 7) (o := 1) (x := 28) (ci := 1) (k := 4) (by decide +kernel) rfl f_1_28 rfl (by decide +kernel) h0).trans ?_
  refine (go_aload_n (m := 12) (pc := 10) (k := 0) (by decide +kernel) rfl).trans ?_
  refine (go_iload_n (m := 12) (pc := 11) (k := 1) (by decide +kernel) rfl).trans ?_
  refine (go_putI (m := 12) (pc := 12) (o := 1) (x := 31) (ci := 1) (k := 5) (by decide +kernel) rfl f_1_31 rfl (by decide +kernel) h0).trans ?_
  exact go_retV (m := 12) (pc := 15) (by decide +kernel) rfl
theorem Caller_receiveByte_E (this : Nat) (p0 : Int32) (w : Wd) (I : MI) (L : ML) (P : MP) : call 12 [.ref this, .int p0] w I L P = go 12 0 [.ref this, .int p0] [] w I L P := rfl
theorem Caller_tell_0 (l0 : Value) (x_l1 : Int32) (w : Wd) (I : MI) (L : ML) (P : MP)  : go 13 0 [l0, .int x_l1] [] w I L P = go 13 1 [l0, .int x_l1] [.int x_l1] w I L P := by
  refine (go_iload_n (m := 13) (pc := 0) (k := 1) (by decide +kernel) rfl).trans ?_
  rfl
theorem Caller_tell_1_k0 (l0 : Value) (l1 : Value) (w : Wd) (I : MI) (L : ML) (P : MP) : go 13 1 [l0, l1] [.int (nI 0)] w I L P = go 13 48 [l0, l1] [] w I L P := go_tsI (m := 13) (pc := 1) (z := 0) (off := 47) (t := 48) (dflt := 67) (lo := 0) (hi := 7) (offs := #[47, 67, 67, 67, 67, 52, 57, 62]) (len := 47) (by decide +kernel) (by decide) (by decide) (by decide) (by decide) (by decide)
theorem Caller_tell_1_k1 (l0 : Value) (l1 : Value) (w : Wd) (I : MI) (L : ML) (P : MP) : go 13 1 [l0, l1] [.int (nI 1)] w I L P = go 13 68 [l0, l1] [] w I L P := go_tsI (m := 13) (pc := 1) (z := 1) (off := 67) (t := 68) (dflt := 67) (lo := 0) (hi := 7) (offs := #[47, 67, 67, 67, 67, 52, 57, 62]) (len := 47) (by decide +kernel) (by decide) (by decide) (by decide) (by decide) (by decide)
theorem Caller_tell_1_k2 (l0 : Value) (l1 : Value) (w : Wd) (I : MI) (L : ML) (P : MP) : go 13 1 [l0, l1] [.int (nI 2)] w I L P = go 13 68 [l0, l1] [] w I L P := go_tsI (m := 13) (pc := 1) (z := 2) (off := 67) (t := 68) (dflt := 67) (lo := 0) (hi := 7) (offs := #[47, 67, 67, 67, 67, 52, 57, 62]) (len := 47) (by decide +kernel) (by decide) (by decide) (by decide) (by decide) (by decide)
theorem Caller_tell_1_k3 (l0 : Value) (l1 : Value) (w : Wd) (I : MI) (L : ML) (P : MP) : go 13 1 [l0, l1] [.int (nI 3)] w I L P = go 13 68 [l0, l1] [] w I L P := go_tsI (m := 13) (pc := 1) (z := 3) (off := 67) (t := 68) (dflt := 67) (lo := 0) (hi := 7) (offs := #[47, 67, 67, 67, 67, 52, 57, 62]) (len := 47) (by decide +kernel) (by decide) (by decide) (by decide) (by decide) (by decide)
theorem Caller_tell_1_k4 (l0 : Value) (l1 : Value) (w : Wd) (I : MI) (L : ML) (P : MP) : go 13 1 [l0, l1] [.int (nI 4)] w I L P = go 13 68 [l0, l1] [] w I L P := go_tsI (m := 13) (pc := 1) (z := 4) (off := 67) (t := 68) (dflt := 67) (lo := 0) (hi := 7) (offs := #[47, 67, 67, 67, 67, 52, 57, 62]) (len := 47) (by decide +kernel) (by decide) (by decide) (by decide) (by decide) (by decide)
theorem Caller_tell_1_k5 (l0 : Value) (l1 : Value) (w : Wd) (I : MI) (L : ML) (P : MP) : go 13 1 [l0, l1] [.int (nI 5)] w I L P = go 13 53 [l0, l1] [] w I L P := go_tsI (m := 13) (pc := 1) (z := 5) (off := 52) (t := 53) (dflt := 67) (lo := 0) (hi := 7) (offs := #[47, 67, 67, 67, 67, 52, 57, 62]) (len := 47) (by decide +kernel) (by decide) (by decide) (by decide) (by decide) (by decide)
theorem Caller_tell_1_k6 (l0 : Value) (l1 : Value) (w : Wd) (I : MI) (L : ML) (P : MP) : go 13 1 [l0, l1] [.int (nI 6)] w I L P = go 13 58 [l0, l1] [] w I L P := go_tsI (m := 13) (pc := 1) (z := 6) (off := 57) (t := 58) (dflt := 67) (lo := 0) (hi := 7) (offs := #[47, 67, 67, 67, 67, 52, 57, 62]) (len := 47) (by decide +kernel) (by decide) (by decide) (by decide) (by decide) (by decide)
theorem Caller_tell_1_k7 (l0 : Value) (l1 : Value) (w : Wd) (I : MI) (L : ML) (P : MP) : go 13 1 [l0, l1] [.int (nI 7)] w I L P = go 13 63 [l0, l1] [] w I L P := go_tsI (m := 13) (pc := 1) (z := 7) (off := 62) (t := 63) (dflt := 67) (lo := 0) (hi := 7) (offs := #[47, 67, 67, 67, 67, 52, 57, 62]) (len := 47) (by decide +kernel) (by decide) (by decide) (by decide) (by decide) (by decide)
theorem Caller_tell_1_kd (l0 : Value) (l1 : Value) (w : Wd) (I : MI) (L : ML) (P : MP) (y : Int32) (h0 : y.toInt < 0 ∨ 7 < y.toInt) : go 13 1 [l0, l1] [.int y] w I L P = go 13 68 [l0, l1] [] w I L P := go_tsO (m := 13) (pc := 1) (t := 68) (dflt := 67) (lo := 0) (hi := 7) (offs := #[47, 67, 67, 67, 67, 52, 57, 62]) (len := 47) (by decide +kernel) h0 (by decide)
theorem Caller_tell_48 (a_l0 : Nat) (l1 : Value) (w : Wd) (I : MI) (L : ML) (P : MP) (h0 : w.1 a_l0 = some (1, 0)) : go 13 48 [.ref a_l0, l1] [] w I L P = some (.inl (some (.int (I a_l0 1))), w, I, L, P) := by
  refine (go_aload_n (m := 13) (pc := 48) (k := 0) (by decide +kernel) rfl).trans ?_
  refine (go_getI (m := 13) (pc := 49) (o := 1) (x := 17) (ci := 1) (k := 1) (by decide +kernel) rfl f_1_17 rfl h0).trans ?_
  exact go_retI (m := 13) (pc := 52) (by decide +kernel) rfl
theorem Caller_tell_53 (a_l0 : Nat) (l1 : Value) (w : Wd) (I : MI) (L : ML) (P : MP) (h0 : w.1 a_l0 = some (1, 0)) : go 13 53 [.ref a_l0, l1] [] w I L P = some (.inl (some (.int (I a_l0 3))), w, I, L, P) := by
  refine (go_aload_n (m := 13) (pc := 53) (k := 0) (by decide +kernel) rfl).trans ?_
  refine (go_getI (m := 13) (pc := 54) (o := 1) (x := 25) (ci := 1) (k := 3) (by decide +kernel) rfl f_1_25 rfl h0).trans ?_
  exact go_retI (m := 13) (pc := 57) (by decide +kernel) rfl
theorem Caller_tell_58 (a_l0 : Nat) (l1 : Value) (w : Wd) (I : MI) (L : ML) (P : MP) (h0 : w.1 a_l0 = some (1, 0)) : go 13 58 [.ref a_l0, l1] [] w I L P = some (.inl (some (.int (I a_l0 4))), w, I, L, P) := by
  refine (go_aload_n (m := 13) (pc := 58) (k := 0) (by decide +kernel) rfl).trans ?_
  refine (go_getI (m := 13) (pc := 59) (o := 1) (x := 28) (ci := 1) (k := 4) (by decide +kernel) rfl f_1_28 rfl h0).trans ?_
  exact go_retI (m := 13) (pc := 62) (by decide +kernel) rfl
theorem Caller_tell_63 (a_l0 : Nat) (l1 : Value) (w : Wd) (I : MI) (L : ML) (P : MP) (h0 : w.1 a_l0 = some (1, 0)) : go 13 63 [.ref a_l0, l1] [] w I L P = some (.inl (some (.int (I a_l0 5))), w, I, L, P) := by
  refine (go_aload_n (m := 13) (pc := 63) (k := 0) (by decide +kernel) rfl).trans ?_
  refine (go_getI (m := 13) (pc := 64) (o := 1) (x := 31) (ci := 1) (k := 5) (by decide +kernel) rfl f_1_31 rfl h0).trans ?_
  exact go_retI (m := 13) (pc := 67) (by decide +kernel) rfl
theorem Caller_tell_68 (l0 : Value) (x_l1 : Int32) (w : Wd) (I : MI) (L : ML) (P : MP)  : go 13 68 [l0, .int x_l1] [] w I L P = if x_l1 ≤ 0 then go 13 90 [l0, .int x_l1] [] w I L P else go 13 72 [l0, .int x_l1] [] w I L P := by
  refine (go_iload_n (m := 13) (pc := 68) (k := 1) (by decide +kernel) rfl).trans ?_
  exact go_ifle (m := 13) (pc := 69) (off := 21) (t := 90) (by decide +kernel) (by decide)
theorem Caller_tell_72 (a_l0 : Nat) (x_l1 : Int32) (w : Wd) (I : MI) (L : ML) (P : MP) (h0 : w.1 a_l0 = some (1, 0)) : go 13 72 [.ref a_l0, .int x_l1] [] w I L P = go 13 77 [.ref a_l0, .int x_l1] [(va_rf (P a_l0 2)), .int x_l1] w I L P := by
  refine (go_iload_n (m := 13) (pc := 72) (k := 1) (by decide +kernel) rfl).trans ?_
  refine (go_aload_n (m := 13) (pc := 73) (k := 0) (by decide +kernel) rfl).trans ?_
  refine (go_getR (m := 13) (pc := 74) (o := 1) (x := 21) (ci := 1) (k := 2) (by decide +kernel) rfl f_1_21 rfl h0).trans ?_
  rfl
theorem Caller_tell_77 (l0 : Value) (l1 : Value) (y0 : Int32) (a_s1 : Nat) (w : Wd) (I : MI) (L : ML) (P : MP) (h0 : isAr w a_s1 8) : go 13 77 [l0, l1] [.ref a_s1, .int y0] w I L P = if (alen w a_s1) ≤ y0 then go 13 90 [l0, l1] [] w I L P else go 13 81 [l0, l1] [] w I L P := by
  refine (go_alen8 (m := 13) (pc := 77) (by decide +kernel) h0).trans ?_
  exact go_icmpge (m := 13) (pc := 78) (off := 12) (t := 90) (by decide +kernel) (by decide)
theorem Caller_tell_81 (a_l0 : Nat) (l1 : Value) (w : Wd) (I : MI) (L : ML) (P : MP) (h0 : w.1 a_l0 = some (1, 0)) : go 13 81 [.ref a_l0, l1] [] w I L P = go 13 85 [.ref a_l0, l1] [(va_rf (P a_l0 2))] w I L P := by
  refine (go_aload_n (m := 13) (pc := 81) (k := 0) (by decide +kernel) rfl).trans ?_
  refine (go_getR (m := 13) (pc := 82) (o := 1) (x := 21) (ci := 1) (k := 2) (by decide +kernel) rfl f_1_21 rfl h0).trans ?_
  rfl
theorem Caller_tell_85 (l0 : Value) (x_l1 : Int32) (a_s0 : Nat) (w : Wd) (I : MI) (L : ML) (P : MP) (h0 : inA w a_s0 8 x_l1) : go 13 85 [l0, .int x_l1] [.ref a_s0] w I L P = go 13 91 [l0, .int x_l1] [.int (I a_s0 (Int32.toNatClampNeg x_l1))] w I L P := by
  refine (go_iload_n (m := 13) (pc := 85) (k := 1) (by decide +kernel) rfl).trans ?_
  refine (go_iald (m := 13) (pc := 86) (by decide +kernel) h0).trans ?_
  refine (go_goto (m := 13) (pc := 87) (off := 4) (t := 91) (by decide +kernel) (by decide)).trans ?_
  rfl
theorem Caller_tell_90 (l0 : Value) (l1 : Value) (w : Wd) (I : MI) (L : ML) (P : MP)  : go 13 90 [l0, l1] [] w I L P = go 13 91 [l0, l1] [.int (nI 0)] w I L P := by
  refine (go_ic (m := 13) (pc := 90) (n := 0) (by decide +kernel) ic_0).trans ?_
  rfl
theorem Caller_tell_91 (l0 : Value) (l1 : Value) (y0 : Int32) (w : Wd) (I : MI) (L : ML) (P : MP)  : go 13 91 [l0, l1] [.int y0] w I L P = some (.inl (some (.int y0)), w, I, L, P) := by
  exact go_retI (m := 13) (pc := 91) (by decide +kernel) rfl
theorem Caller_tell_E (this : Nat) (p0 : Int32) (w : Wd) (I : MI) (L : ML) (P : MP) : call 13 [.ref this, .int p0] w I L P = go 13 0 [.ref this, .int p0] [] w I L P := rfl
theorem Listener_init_0 (a_l0 : Nat) (T : Nat → Option (Nat × Nat)) (q0 kc ks : Nat) (I : MI) (L : ML) (P : MP) (h0 : T a_l0 = some (2, 0)) (h1 : (nI 1) &&& 1 = (nI 1)) (h2 : ¬ (nI 16) < 0 ∧ Int32.toNatClampNeg (nI 16) ≤ 65536) (h3 : (tagU T q0 8 (Int32.toNatClampNeg (nI 16))) a_l0 = some (2, 0)) : go 14 0 [.ref a_l0] [] (T, some q0, kc, ks) I L P = some (.inl none, ((tagU T q0 8 (Int32.toNatClampNeg (nI 16))), some (q0 + 1), (kc + 1), (ks + Int32.toNatClampNeg (nI 16))), (updI (updI (rowI (updI (updI (updI (updI I a_l0 0 (nI 0)) a_l0 1 (nI 0)) a_l0 2 (nI 1)) a_l0 3 (nI 0)) q0) a_l0 5 (nI 0)) a_l0 6 (nI 0)), L, (updP P a_l0 4 (some q0))) := by
  refine (go_aload_n (m := 14) (pc := 0) (k := 0) (by decide +kernel) rfl).trans ?_
  refine (go_obj (m := 14) (pc := 1) (o := 2) (x := 3) (y := 999) (by decide +kernel) rfl (by decide +kernel) (by decide +kernel)).trans ?_
  refine (go_aload_n (m := 14) (pc := 4) (k := 0) (by decide +kernel) rfl).trans ?_
  refine (go_ic (m := 14) (pc := 5) (n := 0) (by decide +kernel) ic_0).trans ?_
  refine (go_putI (m := 14) (pc := 6) (o := 2) (x := 9) (ci := 2) (k := 0) (by decide +kernel) rfl f_2_9 rfl (by decide +kernel) h0).trans ?_
  refine (go_aload_n (m := 14) (pc := 9) (k := 0) (by decide +kernel) rfl).trans ?_
  refine (go_ic (m := 14) (pc := 10) (n := 0) (by decide +kernel) ic_0).trans ?_
  refine (go_putI (m := 14) (pc := 11) (o := 2) (x := 15) (ci := 2) (k := 1) (by decide +kernel) rfl f_2_15 rfl (by decide +kernel) h0).trans ?_
  refine (go_aload_n (m := 14) (pc := 14) (k := 0) (by decide +kernel) rfl).trans ?_
  refine (go_ic (m := 14) (pc := 15) (n := 1) (by decide +kernel) ic_1).trans ?_
  refine (go_putZ (m := 14) (pc := 16) (o := 2) (x := 18) (ci := 2) (k := 2) (by decide +kernel) rfl f_2_18 rfl (by decide +kernel) h1 h0).trans ?_
  refine (go_aload_n (m := 14) (pc := 19) (k := 0) (by decide +kernel) rfl).trans ?_
  refine (go_ic (m := 14) (pc := 20) (n := 0) (by decide +kernel) ic_0).trans ?_
  refine (go_putI (m := 14) (pc := 21) (o := 2) (x := 22) (ci := 2) (k := 3) (by decide +kernel) rfl f_2_22 rfl (by decide +kernel) h0).trans ?_
  refine (go_aload_n (m := 14) (pc := 24) (k := 0) (by decide +kernel) rfl).trans ?_
  refine (go_bi (m := 14) (pc := 25) (n := 16) (by decide +kernel) bi_16).trans ?_
  refine (go_newI (m := 14) (pc := 27) (by decide +kernel) h2).trans ?_
  refine (go_putR (m := 14) (pc := 29) (o := 2) (x := 25) (ci := 2) (k := 4) (by decide +kernel) rfl f_2_25 rfl (by decide +kernel) h3).trans ?_
  refine (go_aload_n (m := 14) (pc := 32) (k := 0) (by decide +kernel) rfl).trans ?_
  refine (go_ic (m := 14) (pc := 33) (n := 0) (by decide +kernel) ic_0).trans ?_
  refine (go_putI (m := 14) (pc := 34) (o := 2) (x := 29) (ci := 2) (k := 5) (by decide +kernel) rfl f_2_29 rfl (by decide +kernel) h3).trans ?_
  refine (go_aload_n (m := 14) (pc := 37) (k := 0) (by decide +kernel) rfl).trans ?_
  refine (go_ic (m := 14) (pc := 38) (n := 0) (by decide +kernel) ic_0).trans ?_
  refine (go_putI (m := 14) (pc := 39) (o := 2) (x := 32) (ci := 2) (k := 6) (by decide +kernel) rfl f_2_32 rfl (by decide +kernel) h3).trans ?_
  exact go_retV (m := 14) (pc := 42) (by decide +kernel) rfl
theorem Listener_init_E (this : Nat) (w : Wd) (I : MI) (L : ML) (P : MP) : call 14 [.ref this] w I L P = go 14 0 [.ref this] [] w I L P := rfl
theorem Listener_copyFrom_0 (a_l0 : Nat) (a_l1 : Nat) (w : Wd) (I : MI) (L : ML) (P : MP) (h0 : w.1 a_l1 = some (2, 0)) (h1 : w.1 a_l0 = some (2, 0)) (h2 : ((updI (updI I a_l0 0 (I a_l1 0)) a_l0 1 ((updI I a_l0 0 (I a_l1 0)) a_l1 1)) a_l1 2 &&& 1) &&& 1 = ((updI (updI I a_l0 0 (I a_l1 0)) a_l0 1 ((updI I a_l0 0 (I a_l1 0)) a_l1 1)) a_l1 2 &&& 1)) : go 15 0 [.ref a_l0, .ref a_l1] [] w I L P = go 15 36 [.ref a_l0, .ref a_l1] [(va_rf (P a_l1 4))] w (updI (updI (updI (updI I a_l0 0 (I a_l1 0)) a_l0 1 ((updI I a_l0 0 (I a_l1 0)) a_l1 1)) a_l0 2 ((updI (updI I a_l0 0 (I a_l1 0)) a_l0 1 ((updI I a_l0 0 (I a_l1 0)) a_l1 1)) a_l1 2 &&& 1)) a_l0 3 ((updI (updI (updI I a_l0 0 (I a_l1 0)) a_l0 1 ((updI I a_l0 0 (I a_l1 0)) a_l1 1)) a_l0 2 ((updI (updI I a_l0 0 (I a_l1 0)) a_l0 1 ((updI I a_l0 0 (I a_l1 0)) a_l1 1)) a_l1 2 &&& 1)) a_l1 3)) L P := by
  refine (go_aload_n (m := 15) (pc := 0) (k := 0) (by decide +kernel) rfl).trans ?_
  refine (go_aload_n (m := 15) (pc := 1) (k := 1) (by decide +kernel) rfl).trans ?_
  refine (go_getI (m := 15) (pc := 2) (o := 2) (x := 9) (ci := 2) (k := 0) (by decide +kernel) rfl f_2_9 rfl h0).trans ?_
  refine (go_putI (m := 15) (pc := 5) (o := 2) (x := 9) (ci := 2) (k := 0) (by decide +kernel) rfl f_2_9 rfl (by decide +kernel) h1).trans ?_
  refine (go_aload_n (m := 15) (pc := 8) (k := 0) (by decide +kernel) rfl).trans ?_
  refine (go_aload_n (m := 15) (pc := 9) (k := 1) (by decide +kernel) rfl).trans ?_
  refine (go_getI (m := 15) (pc := 10) (o := 2) (x := 15) (ci := 2) (k := 1) (by decide +kernel) rfl f_2_15 rfl h0).trans ?_
  refine (go_putI (m := 15) (pc := 13) (o := 2) (x := 15) (ci := 2) (k := 1) (by decide +kernel) rfl f_2_15 rfl (by decide +kernel) h1).trans ?_
  refine (go_aload_n (m := 15) (pc := 16) (k := 0) (by decide +kernel) rfl).trans ?_
  refine (go_aload_n (m := 15) (pc := 17) (k := 1) (by decide +kernel) rfl).trans ?_
  refine (go_getZ (m := 15) (pc := 18) (o := 2) (x := 18) (ci := 2) (k := 2) (by decide +kernel) rfl f_2_18 rfl h0).trans ?_
  refine (go_putZ (m := 15) (pc := 21) (o := 2) (x := 18) (ci := 2) (k := 2) (by decide +kernel) rfl f_2_18 rfl (by decide +kernel) h2 h1).trans ?_
  refine (go_aload_n (m := 15) (pc := 24) (k := 0) (by decide +kernel) rfl).trans ?_
  refine (go_aload_n (m := 15) (pc := 25) (k := 1) (by decide +kernel) rfl).trans ?_
  refine (go_getI (m := 15) (pc := 26) (o := 2) (x := 22) (ci := 2) (k := 3) (by decide +kernel) rfl f_2_22 rfl h0).trans ?_
  refine (go_putI (m := 15) (pc := 29) (o := 2) (x := 22) (ci := 2) (k := 3) (by decide +kernel) rfl f_2_22 rfl (by decide +kernel) h1).trans ?_
  refine (go_aload_n (m := 15) (pc := 32) (k := 1) (by decide +kernel) rfl).trans ?_
  refine (go_getR (m := 15) (pc := 33) (o := 2) (x := 25) (ci := 2) (k := 4) (by decide +kernel) rfl f_2_25 rfl h0).trans ?_
  rfl
theorem Listener_copyFrom_36 (a_l0 : Nat) (l1 : Value) (v0 : Value) (w : Wd) (I : MI) (L : ML) (P : MP) (h0 : w.1 a_l0 = some (2, 0)) : go 15 36 [.ref a_l0, l1] [v0] w I L P = go 15 40 [.ref a_l0, l1] [(va_rf (P a_l0 4)), v0] w I L P := by
  refine (go_aload_n (m := 15) (pc := 36) (k := 0) (by decide +kernel) rfl).trans ?_
  refine (go_getR (m := 15) (pc := 37) (o := 2) (x := 25) (ci := 2) (k := 4) (by decide +kernel) rfl f_2_25 rfl h0).trans ?_
  rfl
theorem Listener_copyFrom_40_0 (l0 : Value) (l1 : Value) (w : Wd) (I : MI) (L : ML) (P : MP)  : go 15 40 [l0, l1] [.null, .null] w I L P = kC (call 119 [.null, .null] w I L P) (fun v w I L P => go 15 43 [l0, l1] (v.toList ++ []) w I L P) := by
  exact go_sta (m := 15) (pc := 40) (o := 2) (x := 35) (y := 119) (kd := 3) (as := [.null, .null]) (rs := []) (by decide +kernel) rfl rfl c_2_35 (Or.inr (Or.inl rfl)) rfl rfl rfl (by decide +kernel) (by simp only [List.length_cons, List.length_nil]; decide) (Nat.le_of_ble_eq_true rfl)
theorem Listener_copyFrom_40_1 (l0 : Value) (l1 : Value) (a_s1 : Nat) (w : Wd) (I : MI) (L : ML) (P : MP)  : go 15 40 [l0, l1] [.ref a_s1, .null] w I L P = kC (call 119 [.null, .ref a_s1] w I L P) (fun v w I L P => go 15 43 [l0, l1] (v.toList ++ []) w I L P) := by
  exact go_sta (m := 15) (pc := 40) (o := 2) (x := 35) (y := 119) (kd := 3) (as := [.null, .ref a_s1]) (rs := []) (by decide +kernel) rfl rfl c_2_35 (Or.inr (Or.inl rfl)) rfl rfl rfl (by decide +kernel) (by simp only [List.length_cons, List.length_nil]; decide) (Nat.le_of_ble_eq_true rfl)
theorem Listener_copyFrom_40_2 (l0 : Value) (l1 : Value) (a_s0 : Nat) (w : Wd) (I : MI) (L : ML) (P : MP)  : go 15 40 [l0, l1] [.null, .ref a_s0] w I L P = kC (call 119 [.ref a_s0, .null] w I L P) (fun v w I L P => go 15 43 [l0, l1] (v.toList ++ []) w I L P) := by
  exact go_sta (m := 15) (pc := 40) (o := 2) (x := 35) (y := 119) (kd := 3) (as := [.ref a_s0, .null]) (rs := []) (by decide +kernel) rfl rfl c_2_35 (Or.inr (Or.inl rfl)) rfl rfl rfl (by decide +kernel) (by simp only [List.length_cons, List.length_nil]; decide) (Nat.le_of_ble_eq_true rfl)
theorem Listener_copyFrom_40_3 (l0 : Value) (l1 : Value) (a_s0 : Nat) (a_s1 : Nat) (w : Wd) (I : MI) (L : ML) (P : MP)  : go 15 40 [l0, l1] [.ref a_s1, .ref a_s0] w I L P = kC (call 119 [.ref a_s0, .ref a_s1] w I L P) (fun v w I L P => go 15 43 [l0, l1] (v.toList ++ []) w I L P) := by
  exact go_sta (m := 15) (pc := 40) (o := 2) (x := 35) (y := 119) (kd := 3) (as := [.ref a_s0, .ref a_s1]) (rs := []) (by decide +kernel) rfl rfl c_2_35 (Or.inr (Or.inl rfl)) rfl rfl rfl (by decide +kernel) (by simp only [List.length_cons, List.length_nil]; decide) (Nat.le_of_ble_eq_true rfl)
theorem Listener_copyFrom_43 (a_l0 : Nat) (a_l1 : Nat) (w : Wd) (I : MI) (L : ML) (P : MP) (h0 : w.1 a_l1 = some (2, 0)) (h1 : w.1 a_l0 = some (2, 0)) : go 15 43 [.ref a_l0, .ref a_l1] [] w I L P = some (.inl none, w, (updI (updI I a_l0 5 (I a_l1 5)) a_l0 6 ((updI I a_l0 5 (I a_l1 5)) a_l1 6)), L, P) := by
  refine (go_aload_n (m := 15) (pc := 43) (k := 0) (by decide +kernel) rfl).trans ?_
  refine (go_aload_n (m := 15) (pc := 44) (k := 1) (by decide +kernel) rfl).trans ?_
  refine (go_getI (m := 15) (pc := 45) (o := 2) (x := 29) (ci := 2) (k := 5) (by decide +kernel) rfl f_2_29 rfl h0).trans ?_
  refine (go_putI (m := 15) (pc := 48) (o := 2) (x := 29) (ci := 2) (k := 5) (by decide +kernel) rfl f_2_29 rfl (by decide +kernel) h1).trans ?_
  refine (go_aload_n (m := 15) (pc := 51) (k := 0) (by decide +kernel) rfl).trans ?_
  refine (go_aload_n (m := 15) (pc := 52) (k := 1) (by decide +kernel) rfl).trans ?_
  refine (go_getI (m := 15) (pc := 53) (o := 2) (x := 32) (ci := 2) (k := 6) (by decide +kernel) rfl f_2_32 rfl h0).trans ?_
  refine (go_putI (m := 15) (pc := 56) (o := 2) (x := 32) (ci := 2) (k := 6) (by decide +kernel) rfl f_2_32 rfl (by decide +kernel) h1).trans ?_
  exact go_retV (m := 15) (pc := 59) (by decide +kernel) rfl
theorem Listener_copyFrom_E (this : Nat) (p0 : Nat) (w : Wd) (I : MI) (L : ML) (P : MP) : call 15 [.ref this, .ref p0] w I L P = go 15 0 [.ref this, .ref p0] [] w I L P := rfl
theorem Listener_copyFrom_E1 (this : Nat) (w : Wd) (I : MI) (L : ML) (P : MP) : call 15 [.ref this, .null] w I L P = go 15 0 [.ref this, .null] [] w I L P := rfl
theorem Listener_forget_0 (a_l0 : Nat) (l1 : Value) (w : Wd) (I : MI) (L : ML) (P : MP) (h0 : w.1 a_l0 = some (2, 0)) : go 16 0 [.ref a_l0, l1] [] w I L P = some (.inl (some (.int (I a_l0 5))), w, (updI (updI I a_l0 5 (nI 0)) a_l0 6 (nI 0)), L, P) := by
  refine (go_aload_n (m := 16) (pc := 0) (k := 0) (by decide +kernel) rfl).trans ?_
  refine (go_getI (m := 16) (pc := 1) (o := 2) (x := 29) (ci := 2) (k := 5) (by decide +kernel) rfl f_2_29 rfl h0).trans ?_
  refine (go_istore_n (m := 16) (pc := 4) (k := 1) (ls' := [.ref a_l0, .int (I a_l0 5)]) (by decide +kernel) (by simp only [List.length_cons, List.length_nil]; decide) rfl).trans ?_
  refine (go_aload_n (m := 16) (pc := 5) (k := 0) (by decide +kernel) rfl).trans ?_
  refine (go_ic (m := 16) (pc := 6) (n := 0) (by decide +kernel) ic_0).trans ?_
  refine (go_putI (m := 16) (pc := 7) (o := 2) (x := 29) (ci := 2) (k := 5) (by decide +kernel) rfl f_2_29 rfl (by decide +kernel) h0).trans ?_
  refine (go_aload_n (m := 16) (pc := 10) (k := 0) (by decide +kernel) rfl).trans ?_
  refine (go_ic (m := 16) (pc := 11) (n := 0) (by decide +kernel) ic_0).trans ?_
  refine (go_putI (m := 16) (pc := 12) (o := 2) (x := 32) (ci := 2) (k := 6) (by decide +kernel) rfl f_2_32 rfl (by decide +kernel) h0).trans ?_
  refine (go_iload_n (m := 16) (pc := 15) (k := 1) (by decide +kernel) rfl).trans ?_
  exact go_retI (m := 16) (pc := 16) (by decide +kernel) rfl
theorem Listener_forget_E (this : Nat) (w : Wd) (I : MI) (L : ML) (P : MP) : call 16 [.ref this] w I L P = go 16 0 [.ref this, unk] [] w I L P := rfl
theorem Listener_byteAt_0 (l0 : Value) (x_l1 : Int32) (w : Wd) (I : MI) (L : ML) (P : MP)  : go 17 0 [l0, .int x_l1] [] w I L P = if x_l1 < 0 then go 17 30 [l0, .int x_l1] [] w I L P else go 17 4 [l0, .int x_l1] [] w I L P := by
  refine (go_iload_n (m := 17) (pc := 0) (k := 1) (by decide +kernel) rfl).trans ?_
  exact go_iflt (m := 17) (pc := 1) (off := 29) (t := 30) (by decide +kernel) (by decide)
theorem Listener_byteAt_4 (a_l0 : Nat) (x_l1 : Int32) (w : Wd) (I : MI) (L : ML) (P : MP) (h0 : w.1 a_l0 = some (2, 0)) : go 17 4 [.ref a_l0, .int x_l1] [] w I L P = if (I a_l0 5) ≤ x_l1 then go 17 30 [.ref a_l0, .int x_l1] [] w I L P else go 17 12 [.ref a_l0, .int x_l1] [] w I L P := by
  refine (go_iload_n (m := 17) (pc := 4) (k := 1) (by decide +kernel) rfl).trans ?_
  refine (go_aload_n (m := 17) (pc := 5) (k := 0) (by decide +kernel) rfl).trans ?_
  refine (go_getI (m := 17) (pc := 6) (o := 2) (x := 29) (ci := 2) (k := 5) (by decide +kernel) rfl f_2_29 rfl h0).trans ?_
  exact go_icmpge (m := 17) (pc := 9) (off := 21) (t := 30) (by decide +kernel) (by decide)
theorem Listener_byteAt_12 (a_l0 : Nat) (x_l1 : Int32) (w : Wd) (I : MI) (L : ML) (P : MP) (h0 : w.1 a_l0 = some (2, 0)) : go 17 12 [.ref a_l0, .int x_l1] [] w I L P = go 17 17 [.ref a_l0, .int x_l1] [(va_rf (P a_l0 4)), .int x_l1] w I L P := by
  refine (go_iload_n (m := 17) (pc := 12) (k := 1) (by decide +kernel) rfl).trans ?_
  refine (go_aload_n (m := 17) (pc := 13) (k := 0) (by decide +kernel) rfl).trans ?_
  refine (go_getR (m := 17) (pc := 14) (o := 2) (x := 25) (ci := 2) (k := 4) (by decide +kernel) rfl f_2_25 rfl h0).trans ?_
  rfl
theorem Listener_byteAt_17 (l0 : Value) (l1 : Value) (y0 : Int32) (a_s1 : Nat) (w : Wd) (I : MI) (L : ML) (P : MP) (h0 : isAr w a_s1 8) : go 17 17 [l0, l1] [.ref a_s1, .int y0] w I L P = if (alen w a_s1) ≤ y0 then go 17 30 [l0, l1] [] w I L P else go 17 21 [l0, l1] [] w I L P := by
  refine (go_alen8 (m := 17) (pc := 17) (by decide +kernel) h0).trans ?_
  exact go_icmpge (m := 17) (pc := 18) (off := 12) (t := 30) (by decide +kernel) (by decide)
theorem Listener_byteAt_21 (a_l0 : Nat) (l1 : Value) (w : Wd) (I : MI) (L : ML) (P : MP) (h0 : w.1 a_l0 = some (2, 0)) : go 17 21 [.ref a_l0, l1] [] w I L P = go 17 25 [.ref a_l0, l1] [(va_rf (P a_l0 4))] w I L P := by
  refine (go_aload_n (m := 17) (pc := 21) (k := 0) (by decide +kernel) rfl).trans ?_
  refine (go_getR (m := 17) (pc := 22) (o := 2) (x := 25) (ci := 2) (k := 4) (by decide +kernel) rfl f_2_25 rfl h0).trans ?_
  rfl
theorem Listener_byteAt_25 (l0 : Value) (x_l1 : Int32) (a_s0 : Nat) (w : Wd) (I : MI) (L : ML) (P : MP) (h0 : inA w a_s0 8 x_l1) : go 17 25 [l0, .int x_l1] [.ref a_s0] w I L P = go 17 33 [l0, .int x_l1] [.int (I a_s0 (Int32.toNatClampNeg x_l1))] w I L P := by
  refine (go_iload_n (m := 17) (pc := 25) (k := 1) (by decide +kernel) rfl).trans ?_
  refine (go_iald (m := 17) (pc := 26) (by decide +kernel) h0).trans ?_
  refine (go_goto (m := 17) (pc := 27) (off := 6) (t := 33) (by decide +kernel) (by decide)).trans ?_
  rfl
theorem Listener_byteAt_30 (l0 : Value) (l1 : Value) (w : Wd) (I : MI) (L : ML) (P : MP)  : go 17 30 [l0, l1] [] w I L P = go 17 33 [l0, l1] [.int (nI 255)] w I L P := by
  refine (go_si (m := 17) (pc := 30) (n := 255) (by decide +kernel) si_255).trans ?_
  rfl
theorem Listener_byteAt_33 (l0 : Value) (l1 : Value) (y0 : Int32) (w : Wd) (I : MI) (L : ML) (P : MP)  : go 17 33 [l0, l1] [.int y0] w I L P = some (.inl (some (.int y0)), w, I, L, P) := by
  exact go_retI (m := 17) (pc := 33) (by decide +kernel) rfl
theorem Listener_byteAt_E (this : Nat) (p0 : Int32) (w : Wd) (I : MI) (L : ML) (P : MP) : call 17 [.ref this, .int p0] w I L P = go 17 0 [.ref this, .int p0] [] w I L P := rfl
theorem Listener_storeByte_0 (a_l0 : Nat) (l1 : Value) (w : Wd) (I : MI) (L : ML) (P : MP) (h0 : w.1 a_l0 = some (2, 0)) : go 18 0 [.ref a_l0, l1] [] w I L P = if (I a_l0 5) < 0 then go 18 19 [.ref a_l0, l1] [] w I L P else go 18 7 [.ref a_l0, l1] [] w I L P := by
  refine (go_aload_n (m := 18) (pc := 0) (k := 0) (by decide +kernel) rfl).trans ?_
  refine (go_getI (m := 18) (pc := 1) (o := 2) (x := 29) (ci := 2) (k := 5) (by decide +kernel) rfl f_2_29 rfl h0).trans ?_
  exact go_iflt (m := 18) (pc := 4) (off := 15) (t := 19) (by decide +kernel) (by decide)
theorem Listener_storeByte_7 (a_l0 : Nat) (l1 : Value) (w : Wd) (I : MI) (L : ML) (P : MP) (h0 : w.1 a_l0 = some (2, 0)) : go 18 7 [.ref a_l0, l1] [] w I L P = go 18 15 [.ref a_l0, l1] [(va_rf (P a_l0 4)), .int (I a_l0 5)] w I L P := by
  refine (go_aload_n (m := 18) (pc := 7) (k := 0) (by decide +kernel) rfl).trans ?_
  refine (go_getI (m := 18) (pc := 8) (o := 2) (x := 29) (ci := 2) (k := 5) (by decide +kernel) rfl f_2_29 rfl h0).trans ?_
  refine (go_aload_n (m := 18) (pc := 11) (k := 0) (by decide +kernel) rfl).trans ?_
  refine (go_getR (m := 18) (pc := 12) (o := 2) (x := 25) (ci := 2) (k := 4) (by decide +kernel) rfl f_2_25 rfl h0).trans ?_
  rfl
theorem Listener_storeByte_15 (l0 : Value) (l1 : Value) (y0 : Int32) (a_s1 : Nat) (w : Wd) (I : MI) (L : ML) (P : MP) (h0 : isAr w a_s1 8) : go 18 15 [l0, l1] [.ref a_s1, .int y0] w I L P = if y0 < (alen w a_s1) then go 18 21 [l0, l1] [] w I L P else go 18 19 [l0, l1] [] w I L P := by
  refine (go_alen8 (m := 18) (pc := 15) (by decide +kernel) h0).trans ?_
  exact go_icmplt (m := 18) (pc := 16) (off := 5) (t := 21) (by decide +kernel) (by decide)
theorem Listener_storeByte_19 (l0 : Value) (l1 : Value) (w : Wd) (I : MI) (L : ML) (P : MP) (h0 : (nI 0) &&& 1 = (nI 0)) : go 18 19 [l0, l1] [] w I L P = some (.inl (some (.int (nI 0))), w, I, L, P) := by
  refine (go_ic (m := 18) (pc := 19) (n := 0) (by decide +kernel) ic_0).trans ?_
  exact go_retZ (m := 18) (pc := 20) (by decide +kernel) rfl h0
theorem Listener_storeByte_21 (a_l0 : Nat) (l1 : Value) (w : Wd) (I : MI) (L : ML) (P : MP) (h0 : w.1 a_l0 = some (2, 0)) : go 18 21 [.ref a_l0, l1] [] w I L P = go 18 25 [.ref a_l0, l1] [(va_rf (P a_l0 4))] w I L P := by
  refine (go_aload_n (m := 18) (pc := 21) (k := 0) (by decide +kernel) rfl).trans ?_
  refine (go_getR (m := 18) (pc := 22) (o := 2) (x := 25) (ci := 2) (k := 4) (by decide +kernel) rfl f_2_25 rfl h0).trans ?_
  rfl
theorem Listener_storeByte_25 (a_l0 : Nat) (x_l1 : Int32) (a_s0 : Nat) (w : Wd) (I : MI) (L : ML) (P : MP) (h0 : w.1 a_l0 = some (2, 0)) (h1 : inA w a_s0 8 (I a_l0 5)) (h2 : (nI 1) &&& 1 = (nI 1)) : go 18 25 [.ref a_l0, .int x_l1] [.ref a_s0] w I L P = some (.inl (some (.int (nI 1))), w, (updI (updI I a_s0 (Int32.toNatClampNeg (I a_l0 5)) x_l1) a_l0 5 (((updI I a_s0 (Int32.toNatClampNeg (I a_l0 5)) x_l1) a_l0 5) + (nI 1))), L, P) := by
  refine (go_aload_n (m := 18) (pc := 25) (k := 0) (by decide +kernel) rfl).trans ?_
  refine (go_getI (m := 18) (pc := 26) (o := 2) (x := 29) (ci := 2) (k := 5) (by decide +kernel) rfl f_2_29 rfl h0).trans ?_
  refine (go_iload_n (m := 18) (pc := 29) (k := 1) (by decide +kernel) rfl).trans ?_
  refine (go_iast (m := 18) (pc := 30) (by decide +kernel) h1).trans ?_
  refine (go_aload_n (m := 18) (pc := 31) (k := 0) (by decide +kernel) rfl).trans ?_
  refine (go_dup (m := 18) (pc := 32) (by decide +kernel) rfl).trans ?_
  refine (go_getI (m := 18) (pc := 33) (o := 2) (x := 29) (ci := 2) (k := 5) (by decide +kernel) rfl f_2_29 rfl h0).trans ?_
  refine (go_ic (m := 18) (pc := 36) (n := 1) (by decide +kernel) ic_1).trans ?_
  refine (go_iadd (m := 18) (pc := 37) (by decide +kernel)).trans ?_
  refine (go_putI (m := 18) (pc := 38) (o := 2) (x := 29) (ci := 2) (k := 5) (by decide +kernel) rfl f_2_29 rfl (by decide +kernel) h0).trans ?_
  refine (go_ic (m := 18) (pc := 41) (n := 1) (by decide +kernel) ic_1).trans ?_
  exact go_retZ (m := 18) (pc := 42) (by decide +kernel) rfl h2
theorem Listener_storeByte_E (this : Nat) (p0 : Int32) (w : Wd) (I : MI) (L : ML) (P : MP) : call 18 [.ref this, .int p0] w I L P = go 18 0 [.ref this, .int p0] [] w I L P := rfl
theorem Listener_movePointer_0 (a_l0 : Nat) (w : Wd) (I : MI) (L : ML) (P : MP) (h0 : w.1 a_l0 = some (2, 0)) : go 19 0 [.ref a_l0] [] w I L P = if ((updI I a_l0 6 ((I a_l0 6) + (nI 1))) a_l0 6) < ((updI I a_l0 6 ((I a_l0 6) + (nI 1))) a_l0 5) then go 19 26 [.ref a_l0] [] w (updI I a_l0 6 ((I a_l0 6) + (nI 1))) L P else go 19 21 [.ref a_l0] [] w (updI I a_l0 6 ((I a_l0 6) + (nI 1))) L P := by
  refine (go_aload_n (m := 19) (pc := 0) (k := 0) (by decide +kernel) rfl).trans ?_
  refine (go_dup (m := 19) (pc := 1) (by decide +kernel) rfl).trans ?_
  refine (go_getI (m := 19) (pc := 2) (o := 2) (x := 32) (ci := 2) (k := 6) (by decide +kernel) rfl f_2_32 rfl h0).trans ?_
  refine (go_ic (m := 19) (pc := 5) (n := 1) (by decide +kernel) ic_1).trans ?_
  refine (go_iadd (m := 19) (pc := 6) (by decide +kernel)).trans ?_
  refine (go_putI (m := 19) (pc := 7) (o := 2) (x := 32) (ci := 2) (k := 6) (by decide +kernel) rfl f_2_32 rfl (by decide +kernel) h0).trans ?_
  refine (go_aload_n (m := 19) (pc := 10) (k := 0) (by decide +kernel) rfl).trans ?_
  refine (go_getI (m := 19) (pc := 11) (o := 2) (x := 32) (ci := 2) (k := 6) (by decide +kernel) rfl f_2_32 rfl h0).trans ?_
  refine (go_aload_n (m := 19) (pc := 14) (k := 0) (by decide +kernel) rfl).trans ?_
  refine (go_getI (m := 19) (pc := 15) (o := 2) (x := 29) (ci := 2) (k := 5) (by decide +kernel) rfl f_2_29 rfl h0).trans ?_
  exact go_icmplt (m := 19) (pc := 18) (off := 8) (t := 26) (by decide +kernel) (by decide)
theorem Listener_movePointer_21 (a_l0 : Nat) (w : Wd) (I : MI) (L : ML) (P : MP) (h0 : w.1 a_l0 = some (2, 0)) : go 19 21 [.ref a_l0] [] w I L P = go 19 26 [.ref a_l0] [] w (updI I a_l0 6 (nI 0)) L P := by
  refine (go_aload_n (m := 19) (pc := 21) (k := 0) (by decide +kernel) rfl).trans ?_
  refine (go_ic (m := 19) (pc := 22) (n := 0) (by decide +kernel) ic_0).trans ?_
  refine (go_putI (m := 19) (pc := 23) (o := 2) (x := 32) (ci := 2) (k := 6) (by decide +kernel) rfl f_2_32 rfl (by decide +kernel) h0).trans ?_
  rfl
theorem Listener_movePointer_26 (l0 : Value) (w : Wd) (I : MI) (L : ML) (P : MP)  : go 19 26 [l0] [] w I L P = some (.inl none, w, I, L, P) := by
  exact go_retV (m := 19) (pc := 26) (by decide +kernel) rfl
theorem Listener_movePointer_E (this : Nat) (w : Wd) (I : MI) (L : ML) (P : MP) : call 19 [.ref this] w I L P = go 19 0 [.ref this] [] w I L P := rfl
theorem Listener_tell_0 (l0 : Value) (x_l1 : Int32) (w : Wd) (I : MI) (L : ML) (P : MP)  : go 20 0 [l0, .int x_l1] [] w I L P = go 20 1 [l0, .int x_l1] [.int x_l1] w I L P := by
  refine (go_iload_n (m := 20) (pc := 0) (k := 1) (by decide +kernel) rfl).trans ?_
  rfl
theorem Listener_tell_1_k0 (l0 : Value) (l1 : Value) (w : Wd) (I : MI) (L : ML) (P : MP) : go 20 1 [l0, l1] [.int (nI 0)] w I L P = go 20 36 [l0, l1] [] w I L P := go_tsI (m := 20) (pc := 1) (z := 0) (off := 35) (t := 36) (dflt := 68) (lo := 0) (hi := 4) (offs := #[35, 40, 45, 50, 55]) (len := 35) (by decide +kernel) (by decide) (by decide) (by decide) (by decide) (by decide)
theorem Listener_tell_1_k1 (l0 : Value) (l1 : Value) (w : Wd) (I : MI) (L : ML) (P : MP) : go 20 1 [l0, l1] [.int (nI 1)] w I L P = go 20 41 [l0, l1] [] w I L P := go_tsI (m := 20) (pc := 1) (z := 1) (off := 40) (t := 41) (dflt := 68) (lo := 0) (hi := 4) (offs := #[35, 40, 45, 50, 55]) (len := 35) (by decide +kernel) (by decide) (by decide) (by decide) (by decide) (by decide)
theorem Listener_tell_1_k2 (l0 : Value) (l1 : Value) (w : Wd) (I : MI) (L : ML) (P : MP) : go 20 1 [l0, l1] [.int (nI 2)] w I L P = go 20 46 [l0, l1] [] w I L P := go_tsI (m := 20) (pc := 1) (z := 2) (off := 45) (t := 46) (dflt := 68) (lo := 0) (hi := 4) (offs := #[35, 40, 45, 50, 55]) (len := 35) (by decide +kernel) (by decide) (by decide) (by decide) (by decide) (by decide)
theorem Listener_tell_1_k3 (l0 : Value) (l1 : Value) (w : Wd) (I : MI) (L : ML) (P : MP) : go 20 1 [l0, l1] [.int (nI 3)] w I L P = go 20 51 [l0, l1] [] w I L P := go_tsI (m := 20) (pc := 1) (z := 3) (off := 50) (t := 51) (dflt := 68) (lo := 0) (hi := 4) (offs := #[35, 40, 45, 50, 55]) (len := 35) (by decide +kernel) (by decide) (by decide) (by decide) (by decide) (by decide)
theorem Listener_tell_1_k4 (l0 : Value) (l1 : Value) (w : Wd) (I : MI) (L : ML) (P : MP) : go 20 1 [l0, l1] [.int (nI 4)] w I L P = go 20 56 [l0, l1] [] w I L P := go_tsI (m := 20) (pc := 1) (z := 4) (off := 55) (t := 56) (dflt := 68) (lo := 0) (hi := 4) (offs := #[35, 40, 45, 50, 55]) (len := 35) (by decide +kernel) (by decide) (by decide) (by decide) (by decide) (by decide)
theorem Listener_tell_1_kd (l0 : Value) (l1 : Value) (w : Wd) (I : MI) (L : ML) (P : MP) (y : Int32) (h0 : y.toInt < 0 ∨ 4 < y.toInt) : go 20 1 [l0, l1] [.int y] w I L P = go 20 69 [l0, l1] [] w I L P := go_tsO (m := 20) (pc := 1) (t := 69) (dflt := 68) (lo := 0) (hi := 4) (offs := #[35, 40, 45, 50, 55]) (len := 35) (by decide +kernel) h0 (by decide)
theorem Listener_tell_36 (a_l0 : Nat) (l1 : Value) (w : Wd) (I : MI) (L : ML) (P : MP) (h0 : w.1 a_l0 = some (2, 0)) : go 20 36 [.ref a_l0, l1] [] w I L P = some (.inl (some (.int (I a_l0 0))), w, I, L, P) := by
  refine (go_aload_n (m := 20) (pc := 36) (k := 0) (by decide +kernel) rfl).trans ?_
  refine (go_getI (m := 20) (pc := 37) (o := 2) (x := 9) (ci := 2) (k := 0) (by decide +kernel) rfl f_2_9 rfl h0).trans ?_
  exact go_retI (m := 20) (pc := 40) (by decide +kernel) rfl
theorem Listener_tell_41 (a_l0 : Nat) (l1 : Value) (w : Wd) (I : MI) (L : ML) (P : MP) (h0 : w.1 a_l0 = some (2, 0)) : go 20 41 [.ref a_l0, l1] [] w I L P = some (.inl (some (.int (I a_l0 1))), w, I, L, P) := by
  refine (go_aload_n (m := 20) (pc := 41) (k := 0) (by decide +kernel) rfl).trans ?_
  refine (go_getI (m := 20) (pc := 42) (o := 2) (x := 15) (ci := 2) (k := 1) (by decide +kernel) rfl f_2_15 rfl h0).trans ?_
  exact go_retI (m := 20) (pc := 45) (by decide +kernel) rfl
theorem Listener_tell_46 (a_l0 : Nat) (l1 : Value) (w : Wd) (I : MI) (L : ML) (P : MP) (h0 : w.1 a_l0 = some (2, 0)) : go 20 46 [.ref a_l0, l1] [] w I L P = some (.inl (some (.int (I a_l0 5))), w, I, L, P) := by
  refine (go_aload_n (m := 20) (pc := 46) (k := 0) (by decide +kernel) rfl).trans ?_
  refine (go_getI (m := 20) (pc := 47) (o := 2) (x := 29) (ci := 2) (k := 5) (by decide +kernel) rfl f_2_29 rfl h0).trans ?_
  exact go_retI (m := 20) (pc := 50) (by decide +kernel) rfl
theorem Listener_tell_51 (a_l0 : Nat) (l1 : Value) (w : Wd) (I : MI) (L : ML) (P : MP) (h0 : w.1 a_l0 = some (2, 0)) : go 20 51 [.ref a_l0, l1] [] w I L P = some (.inl (some (.int (I a_l0 6))), w, I, L, P) := by
  refine (go_aload_n (m := 20) (pc := 51) (k := 0) (by decide +kernel) rfl).trans ?_
  refine (go_getI (m := 20) (pc := 52) (o := 2) (x := 32) (ci := 2) (k := 6) (by decide +kernel) rfl f_2_32 rfl h0).trans ?_
  exact go_retI (m := 20) (pc := 55) (by decide +kernel) rfl
theorem Listener_tell_56 (a_l0 : Nat) (l1 : Value) (w : Wd) (I : MI) (L : ML) (P : MP) (h0 : w.1 a_l0 = some (2, 0)) : go 20 56 [.ref a_l0, l1] [] w I L P = if (I a_l0 2 &&& 1) = 0 then go 20 67 [.ref a_l0, l1] [] w I L P else go 20 63 [.ref a_l0, l1] [] w I L P := by
  refine (go_aload_n (m := 20) (pc := 56) (k := 0) (by decide +kernel) rfl).trans ?_
  refine (go_getZ (m := 20) (pc := 57) (o := 2) (x := 18) (ci := 2) (k := 2) (by decide +kernel) rfl f_2_18 rfl h0).trans ?_
  exact go_ifeq (m := 20) (pc := 60) (off := 7) (t := 67) (by decide +kernel) (by decide)
theorem Listener_tell_63 (l0 : Value) (l1 : Value) (w : Wd) (I : MI) (L : ML) (P : MP)  : go 20 63 [l0, l1] [] w I L P = go 20 68 [l0, l1] [.int (nI 1)] w I L P := by
  refine (go_ic (m := 20) (pc := 63) (n := 1) (by decide +kernel) ic_1).trans ?_
  refine (go_goto (m := 20) (pc := 64) (off := 4) (t := 68) (by decide +kernel) (by decide)).trans ?_
  rfl
theorem Listener_tell_67 (l0 : Value) (l1 : Value) (w : Wd) (I : MI) (L : ML) (P : MP)  : go 20 67 [l0, l1] [] w I L P = go 20 68 [l0, l1] [.int (nI 0)] w I L P := by
  refine (go_ic (m := 20) (pc := 67) (n := 0) (by decide +kernel) ic_0).trans ?_
  rfl
theorem Listener_tell_68 (l0 : Value) (l1 : Value) (y0 : Int32) (w : Wd) (I : MI) (L : ML) (P : MP)  : go 20 68 [l0, l1] [.int y0] w I L P = some (.inl (some (.int y0)), w, I, L, P) := by
  exact go_retI (m := 20) (pc := 68) (by decide +kernel) rfl
theorem Listener_tell_69 (a_l0 : Nat) (l1 : Value) (w : Wd) (I : MI) (L : ML) (P : MP) (h0 : w.1 a_l0 = some (2, 0)) : go 20 69 [.ref a_l0, l1] [] w I L P = some (.inl (some (.int (I a_l0 3))), w, I, L, P) := by
  refine (go_aload_n (m := 20) (pc := 69) (k := 0) (by decide +kernel) rfl).trans ?_
  refine (go_getI (m := 20) (pc := 70) (o := 2) (x := 22) (ci := 2) (k := 3) (by decide +kernel) rfl f_2_22 rfl h0).trans ?_
  exact go_retI (m := 20) (pc := 73) (by decide +kernel) rfl
theorem Listener_tell_E (this : Nat) (p0 : Int32) (w : Wd) (I : MI) (L : ML) (P : MP) : call 20 [.ref this, .int p0] w I L P = go 20 0 [.ref this, .int p0] [] w I L P := rfl
theorem Log_init_0 (a_l0 : Nat) (T : Nat → Option (Nat × Nat)) (q0 kc ks : Nat) (I : MI) (L : ML) (P : MP) (h0 : T a_l0 = some (5, 0)) (h1 : ¬ (nI 64) < 0 ∧ Int32.toNatClampNeg (nI 64) ≤ 65536) (h2 : (tagU T q0 8 (Int32.toNatClampNeg (nI 64))) a_l0 = some (5, 0)) (h3 : (tagU (tagU T q0 8 (Int32.toNatClampNeg (nI 64))) (q0 + 1) 8 (Int32.toNatClampNeg (nI 64))) a_l0 = some (5, 0)) (h4 : (tagU (tagU (tagU T q0 8 (Int32.toNatClampNeg (nI 64))) (q0 + 1) 8 (Int32.toNatClampNeg (nI 64))) ((q0 + 1) + 1) 8 (Int32.toNatClampNeg (nI 64))) a_l0 = some (5, 0)) : go 21 0 [.ref a_l0] [] (T, some q0, kc, ks) I L P = some (.inl none, ((tagU (tagU (tagU T q0 8 (Int32.toNatClampNeg (nI 64))) (q0 + 1) 8 (Int32.toNatClampNeg (nI 64))) ((q0 + 1) + 1) 8 (Int32.toNatClampNeg (nI 64))), some (((q0 + 1) + 1) + 1), (((kc + 1) + 1) + 1), (((ks + Int32.toNatClampNeg (nI 64)) + Int32.toNatClampNeg (nI 64)) + Int32.toNatClampNeg (nI 64))), (rowI (rowI (rowI (updI (updI (updI I a_l0 0 (nI 0)) a_l0 1 (nI 0)) a_l0 2 (nI 0)) q0) (q0 + 1)) ((q0 + 1) + 1)), L, (updP (updP (updP P a_l0 3 (some q0)) a_l0 4 (some (q0 + 1))) a_l0 5 (some ((q0 + 1) + 1)))) := by
  refine (go_aload_n (m := 21) (pc := 0) (k := 0) (by decide +kernel) rfl).trans ?_
  refine (go_obj (m := 21) (pc := 1) (o := 5) (x := 3) (y := 999) (by decide +kernel) rfl (by decide +kernel) (by decide +kernel)).trans ?_
  refine (go_aload_n (m := 21) (pc := 4) (k := 0) (by decide +kernel) rfl).trans ?_
  refine (go_ic (m := 21) (pc := 5) (n := 0) (by decide +kernel) ic_0).trans ?_
  refine (go_putI (m := 21) (pc := 6) (o := 5) (x := 9) (ci := 5) (k := 0) (by decide +kernel) rfl f_5_9 rfl (by decide +kernel) h0).trans ?_
  refine (go_aload_n (m := 21) (pc := 9) (k := 0) (by decide +kernel) rfl).trans ?_
  refine (go_ic (m := 21) (pc := 10) (n := 0) (by decide +kernel) ic_0).trans ?_
  refine (go_putI (m := 21) (pc := 11) (o := 5) (x := 15) (ci := 5) (k := 1) (by decide +kernel) rfl f_5_15 rfl (by decide +kernel) h0).trans ?_
  refine (go_aload_n (m := 21) (pc := 14) (k := 0) (by decide +kernel) rfl).trans ?_
  refine (go_ic (m := 21) (pc := 15) (n := 0) (by decide +kernel) ic_0).trans ?_
  refine (go_putI (m := 21) (pc := 16) (o := 5) (x := 18) (ci := 5) (k := 2) (by decide +kernel) rfl f_5_18 rfl (by decide +kernel) h0).trans ?_
  refine (go_aload_n (m := 21) (pc := 19) (k := 0) (by decide +kernel) rfl).trans ?_
  refine (go_bi (m := 21) (pc := 20) (n := 64) (by decide +kernel) bi_64).trans ?_
  refine (go_newI (m := 21) (pc := 22) (by decide +kernel) h1).trans ?_
  refine (go_putR (m := 21) (pc := 24) (o := 5) (x := 21) (ci := 5) (k := 3) (by decide +kernel) rfl f_5_21 rfl (by decide +kernel) h2).trans ?_
  refine (go_aload_n (m := 21) (pc := 27) (k := 0) (by decide +kernel) rfl).trans ?_
  refine (go_bi (m := 21) (pc := 28) (n := 64) (by decide +kernel) bi_64).trans ?_
  refine (go_newI (m := 21) (pc := 30) (by decide +kernel) h1).trans ?_
  refine (go_putR (m := 21) (pc := 32) (o := 5) (x := 25) (ci := 5) (k := 4) (by decide +kernel) rfl f_5_25 rfl (by decide +kernel) h3).trans ?_
  refine (go_aload_n (m := 21) (pc := 35) (k := 0) (by decide +kernel) rfl).trans ?_
  refine (go_bi (m := 21) (pc := 36) (n := 64) (by decide +kernel) bi_64).trans ?_
  refine (go_newI (m := 21) (pc := 38) (by decide +kernel) h1).trans ?_
  refine (go_putR (m := 21) (pc := 40) (o := 5) (x := 28) (ci := 5) (k := 5) (by decide +kernel) rfl f_5_28 rfl (by decide +kernel) h4).trans ?_
  exact go_retV (m := 21) (pc := 43) (by decide +kernel) rfl
theorem Log_init_E (this : Nat) (w : Wd) (I : MI) (L : ML) (P : MP) : call 21 [.ref this] w I L P = go 21 0 [.ref this] [] w I L P := rfl
theorem Log_copyFrom_0 (a_l0 : Nat) (a_l1 : Nat) (w : Wd) (I : MI) (L : ML) (P : MP) (h0 : w.1 a_l1 = some (5, 0)) (h1 : w.1 a_l0 = some (5, 0)) : go 22 0 [.ref a_l0, .ref a_l1] [] w I L P = go 22 28 [.ref a_l0, .ref a_l1] [(va_rf (P a_l1 3))] w (updI (updI (updI I a_l0 0 (I a_l1 0)) a_l0 1 ((updI I a_l0 0 (I a_l1 0)) a_l1 1)) a_l0 2 ((updI (updI I a_l0 0 (I a_l1 0)) a_l0 1 ((updI I a_l0 0 (I a_l1 0)) a_l1 1)) a_l1 2)) L P := by
  refine (go_aload_n (m := 22) (pc := 0) (k := 0) (by decide +kernel) rfl).trans ?_
  refine (go_aload_n (m := 22) (pc := 1) (k := 1) (by decide +kernel) rfl).trans ?_
  refine (go_getI (m := 22) (pc := 2) (o := 5) (x := 9) (ci := 5) (k := 0) (by decide +kernel) rfl f_5_9 rfl h0).trans ?_
  refine (go_putI (m := 22) (pc := 5) (o := 5) (x := 9) (ci := 5) (k := 0) (by decide +kernel) rfl f_5_9 rfl (by decide +kernel) h1).trans ?_
  refine (go_aload_n (m := 22) (pc := 8) (k := 0) (by decide +kernel) rfl).trans ?_
  refine (go_aload_n (m := 22) (pc := 9) (k := 1) (by decide +kernel) rfl).trans ?_
  refine (go_getI (m := 22) (pc := 10) (o := 5) (x := 15) (ci := 5) (k := 1) (by decide +kernel) rfl f_5_15 rfl h0).trans ?_
  refine (go_putI (m := 22) (pc := 13) (o := 5) (x := 15) (ci := 5) (k := 1) (by decide +kernel) rfl f_5_15 rfl (by decide +kernel) h1).trans ?_
  refine (go_aload_n (m := 22) (pc := 16) (k := 0) (by decide +kernel) rfl).trans ?_
  refine (go_aload_n (m := 22) (pc := 17) (k := 1) (by decide +kernel) rfl).trans ?_
  refine (go_getI (m := 22) (pc := 18) (o := 5) (x := 18) (ci := 5) (k := 2) (by decide +kernel) rfl f_5_18 rfl h0).trans ?_
  refine (go_putI (m := 22) (pc := 21) (o := 5) (x := 18) (ci := 5) (k := 2) (by decide +kernel) rfl f_5_18 rfl (by decide +kernel) h1).trans ?_
  refine (go_aload_n (m := 22) (pc := 24) (k := 1) (by decide +kernel) rfl).trans ?_
  refine (go_getR (m := 22) (pc := 25) (o := 5) (x := 21) (ci := 5) (k := 3) (by decide +kernel) rfl f_5_21 rfl h0).trans ?_
  rfl
theorem Log_copyFrom_28 (a_l0 : Nat) (l1 : Value) (v0 : Value) (w : Wd) (I : MI) (L : ML) (P : MP) (h0 : w.1 a_l0 = some (5, 0)) : go 22 28 [.ref a_l0, l1] [v0] w I L P = go 22 32 [.ref a_l0, l1] [(va_rf (P a_l0 3)), v0] w I L P := by
  refine (go_aload_n (m := 22) (pc := 28) (k := 0) (by decide +kernel) rfl).trans ?_
  refine (go_getR (m := 22) (pc := 29) (o := 5) (x := 21) (ci := 5) (k := 3) (by decide +kernel) rfl f_5_21 rfl h0).trans ?_
  rfl
theorem Log_copyFrom_32_0 (l0 : Value) (l1 : Value) (w : Wd) (I : MI) (L : ML) (P : MP)  : go 22 32 [l0, l1] [.null, .null] w I L P = kC (call 119 [.null, .null] w I L P) (fun v w I L P => go 22 35 [l0, l1] (v.toList ++ []) w I L P) := by
  exact go_sta (m := 22) (pc := 32) (o := 5) (x := 31) (y := 119) (kd := 3) (as := [.null, .null]) (rs := []) (by decide +kernel) rfl rfl c_5_31 (Or.inr (Or.inl rfl)) rfl rfl rfl (by decide +kernel) (by simp only [List.length_cons, List.length_nil]; decide) (Nat.le_of_ble_eq_true rfl)
theorem Log_copyFrom_32_1 (l0 : Value) (l1 : Value) (a_s1 : Nat) (w : Wd) (I : MI) (L : ML) (P : MP)  : go 22 32 [l0, l1] [.ref a_s1, .null] w I L P = kC (call 119 [.null, .ref a_s1] w I L P) (fun v w I L P => go 22 35 [l0, l1] (v.toList ++ []) w I L P) := by
  exact go_sta (m := 22) (pc := 32) (o := 5) (x := 31) (y := 119) (kd := 3) (as := [.null, .ref a_s1]) (rs := []) (by decide +kernel) rfl rfl c_5_31 (Or.inr (Or.inl rfl)) rfl rfl rfl (by decide +kernel) (by simp only [List.length_cons, List.length_nil]; decide) (Nat.le_of_ble_eq_true rfl)
theorem Log_copyFrom_32_2 (l0 : Value) (l1 : Value) (a_s0 : Nat) (w : Wd) (I : MI) (L : ML) (P : MP)  : go 22 32 [l0, l1] [.null, .ref a_s0] w I L P = kC (call 119 [.ref a_s0, .null] w I L P) (fun v w I L P => go 22 35 [l0, l1] (v.toList ++ []) w I L P) := by
  exact go_sta (m := 22) (pc := 32) (o := 5) (x := 31) (y := 119) (kd := 3) (as := [.ref a_s0, .null]) (rs := []) (by decide +kernel) rfl rfl c_5_31 (Or.inr (Or.inl rfl)) rfl rfl rfl (by decide +kernel) (by simp only [List.length_cons, List.length_nil]; decide) (Nat.le_of_ble_eq_true rfl)
theorem Log_copyFrom_32_3 (l0 : Value) (l1 : Value) (a_s0 : Nat) (a_s1 : Nat) (w : Wd) (I : MI) (L : ML) (P : MP)  : go 22 32 [l0, l1] [.ref a_s1, .ref a_s0] w I L P = kC (call 119 [.ref a_s0, .ref a_s1] w I L P) (fun v w I L P => go 22 35 [l0, l1] (v.toList ++ []) w I L P) := by
  exact go_sta (m := 22) (pc := 32) (o := 5) (x := 31) (y := 119) (kd := 3) (as := [.ref a_s0, .ref a_s1]) (rs := []) (by decide +kernel) rfl rfl c_5_31 (Or.inr (Or.inl rfl)) rfl rfl rfl (by decide +kernel) (by simp only [List.length_cons, List.length_nil]; decide) (Nat.le_of_ble_eq_true rfl)
theorem Log_copyFrom_35 (l0 : Value) (a_l1 : Nat) (w : Wd) (I : MI) (L : ML) (P : MP) (h0 : w.1 a_l1 = some (5, 0)) : go 22 35 [l0, .ref a_l1] [] w I L P = go 22 39 [l0, .ref a_l1] [(va_rf (P a_l1 4))] w I L P := by
  refine (go_aload_n (m := 22) (pc := 35) (k := 1) (by decide +kernel) rfl).trans ?_
  refine (go_getR (m := 22) (pc := 36) (o := 5) (x := 25) (ci := 5) (k := 4) (by decide +kernel) rfl f_5_25 rfl h0).trans ?_
  rfl
theorem Log_copyFrom_39 (a_l0 : Nat) (l1 : Value) (v0 : Value) (w : Wd) (I : MI) (L : ML) (P : MP) (h0 : w.1 a_l0 = some (5, 0)) : go 22 39 [.ref a_l0, l1] [v0] w I L P = go 22 43 [.ref a_l0, l1] [(va_rf (P a_l0 4)), v0] w I L P := by
  refine (go_aload_n (m := 22) (pc := 39) (k := 0) (by decide +kernel) rfl).trans ?_
  refine (go_getR (m := 22) (pc := 40) (o := 5) (x := 25) (ci := 5) (k := 4) (by decide +kernel) rfl f_5_25 rfl h0).trans ?_
  rfl
theorem Log_copyFrom_43_0 (l0 : Value) (l1 : Value) (w : Wd) (I : MI) (L : ML) (P : MP)  : go 22 43 [l0, l1] [.null, .null] w I L P = kC (call 119 [.null, .null] w I L P) (fun v w I L P => go 22 46 [l0, l1] (v.toList ++ []) w I L P) := by
  exact go_sta (m := 22) (pc := 43) (o := 5) (x := 31) (y := 119) (kd := 3) (as := [.null, .null]) (rs := []) (by decide +kernel) rfl rfl c_5_31 (Or.inr (Or.inl rfl)) rfl rfl rfl (by decide +kernel) (by simp only [List.length_cons, List.length_nil]; decide) (Nat.le_of_ble_eq_true rfl)
theorem Log_copyFrom_43_1 (l0 : Value) (l1 : Value) (a_s1 : Nat) (w : Wd) (I : MI) (L : ML) (P : MP)  : go 22 43 [l0, l1] [.ref a_s1, .null] w I L P = kC (call 119 [.null, .ref a_s1] w I L P) (fun v w I L P => go 22 46 [l0, l1] (v.toList ++ []) w I L P) := by
  exact go_sta (m := 22) (pc := 43) (o := 5) (x := 31) (y := 119) (kd := 3) (as := [.null, .ref a_s1]) (rs := []) (by decide +kernel) rfl rfl c_5_31 (Or.inr (Or.inl rfl)) rfl rfl rfl (by decide +kernel) (by simp only [List.length_cons, List.length_nil]; decide) (Nat.le_of_ble_eq_true rfl)
theorem Log_copyFrom_43_2 (l0 : Value) (l1 : Value) (a_s0 : Nat) (w : Wd) (I : MI) (L : ML) (P : MP)  : go 22 43 [l0, l1] [.null, .ref a_s0] w I L P = kC (call 119 [.ref a_s0, .null] w I L P) (fun v w I L P => go 22 46 [l0, l1] (v.toList ++ []) w I L P) := by
  exact go_sta (m := 22) (pc := 43) (o := 5) (x := 31) (y := 119) (kd := 3) (as := [.ref a_s0, .null]) (rs := []) (by decide +kernel) rfl rfl c_5_31 (Or.inr (Or.inl rfl)) rfl rfl rfl (by decide +kernel) (by simp only [List.length_cons, List.length_nil]; decide) (Nat.le_of_ble_eq_true rfl)
theorem Log_copyFrom_43_3 (l0 : Value) (l1 : Value) (a_s0 : Nat) (a_s1 : Nat) (w : Wd) (I : MI) (L : ML) (P : MP)  : go 22 43 [l0, l1] [.ref a_s1, .ref a_s0] w I L P = kC (call 119 [.ref a_s0, .ref a_s1] w I L P) (fun v w I L P => go 22 46 [l0, l1] (v.toList ++ []) w I L P) := by
  exact go_sta (m := 22) (pc := 43) (o := 5) (x := 31) (y := 119) (kd := 3) (as := [.ref a_s0, .ref a_s1]) (rs := []) (by decide +kernel) rfl rfl c_5_31 (Or.inr (Or.inl rfl)) rfl rfl rfl (by decide +kernel) (by simp only [List.length_cons, List.length_nil]; decide) (Nat.le_of_ble_eq_true rfl)
theorem Log_copyFrom_46 (l0 : Value) (a_l1 : Nat) (w : Wd) (I : MI) (L : ML) (P : MP) (h0 : w.1 a_l1 = some (5, 0)) : go 22 46 [l0, .ref a_l1] [] w I L P = go 22 50 [l0, .ref a_l1] [(va_rf (P a_l1 5))] w I L P := by
  refine (go_aload_n (m := 22) (pc := 46) (k := 1) (by decide +kernel) rfl).trans ?_
  refine (go_getR (m := 22) (pc := 47) (o := 5) (x := 28) (ci := 5) (k := 5) (by decide +kernel) rfl f_5_28 rfl h0).trans ?_
  rfl
theorem Log_copyFrom_50 (a_l0 : Nat) (l1 : Value) (v0 : Value) (w : Wd) (I : MI) (L : ML) (P : MP) (h0 : w.1 a_l0 = some (5, 0)) : go 22 50 [.ref a_l0, l1] [v0] w I L P = go 22 54 [.ref a_l0, l1] [(va_rf (P a_l0 5)), v0] w I L P := by
  refine (go_aload_n (m := 22) (pc := 50) (k := 0) (by decide +kernel) rfl).trans ?_
  refine (go_getR (m := 22) (pc := 51) (o := 5) (x := 28) (ci := 5) (k := 5) (by decide +kernel) rfl f_5_28 rfl h0).trans ?_
  rfl
theorem Log_copyFrom_54_0 (l0 : Value) (l1 : Value) (w : Wd) (I : MI) (L : ML) (P : MP)  : go 22 54 [l0, l1] [.null, .null] w I L P = kC (call 119 [.null, .null] w I L P) (fun v w I L P => go 22 57 [l0, l1] (v.toList ++ []) w I L P) := by
  exact go_sta (m := 22) (pc := 54) (o := 5) (x := 31) (y := 119) (kd := 3) (as := [.null, .null]) (rs := []) (by decide +kernel) rfl rfl c_5_31 (Or.inr (Or.inl rfl)) rfl rfl rfl (by decide +kernel) (by simp only [List.length_cons, List.length_nil]; decide) (Nat.le_of_ble_eq_true rfl)
theorem Log_copyFrom_54_1 (l0 : Value) (l1 : Value) (a_s1 : Nat) (w : Wd) (I : MI) (L : ML) (P : MP)  : go 22 54 [l0, l1] [.ref a_s1, .null] w I L P = kC (call 119 [.null, .ref a_s1] w I L P) (fun v w I L P => go 22 57 [l0, l1] (v.toList ++ []) w I L P) := by
  exact go_sta (m := 22) (pc := 54) (o := 5) (x := 31) (y := 119) (kd := 3) (as := [.null, .ref a_s1]) (rs := []) (by decide +kernel) rfl rfl c_5_31 (Or.inr (Or.inl rfl)) rfl rfl rfl (by decide +kernel) (by simp only [List.length_cons, List.length_nil]; decide) (Nat.le_of_ble_eq_true rfl)
theorem Log_copyFrom_54_2 (l0 : Value) (l1 : Value) (a_s0 : Nat) (w : Wd) (I : MI) (L : ML) (P : MP)  : go 22 54 [l0, l1] [.null, .ref a_s0] w I L P = kC (call 119 [.ref a_s0, .null] w I L P) (fun v w I L P => go 22 57 [l0, l1] (v.toList ++ []) w I L P) := by
  exact go_sta (m := 22) (pc := 54) (o := 5) (x := 31) (y := 119) (kd := 3) (as := [.ref a_s0, .null]) (rs := []) (by decide +kernel) rfl rfl c_5_31 (Or.inr (Or.inl rfl)) rfl rfl rfl (by decide +kernel) (by simp only [List.length_cons, List.length_nil]; decide) (Nat.le_of_ble_eq_true rfl)
theorem Log_copyFrom_54_3 (l0 : Value) (l1 : Value) (a_s0 : Nat) (a_s1 : Nat) (w : Wd) (I : MI) (L : ML) (P : MP)  : go 22 54 [l0, l1] [.ref a_s1, .ref a_s0] w I L P = kC (call 119 [.ref a_s0, .ref a_s1] w I L P) (fun v w I L P => go 22 57 [l0, l1] (v.toList ++ []) w I L P) := by
  exact go_sta (m := 22) (pc := 54) (o := 5) (x := 31) (y := 119) (kd := 3) (as := [.ref a_s0, .ref a_s1]) (rs := []) (by decide +kernel) rfl rfl c_5_31 (Or.inr (Or.inl rfl)) rfl rfl rfl (by decide +kernel) (by simp only [List.length_cons, List.length_nil]; decide) (Nat.le_of_ble_eq_true rfl)
theorem Log_copyFrom_57 (l0 : Value) (l1 : Value) (w : Wd) (I : MI) (L : ML) (P : MP)  : go 22 57 [l0, l1] [] w I L P = some (.inl none, w, I, L, P) := by
  exact go_retV (m := 22) (pc := 57) (by decide +kernel) rfl
theorem Log_copyFrom_E (this : Nat) (p0 : Nat) (w : Wd) (I : MI) (L : ML) (P : MP) : call 22 [.ref this, .ref p0] w I L P = go 22 0 [.ref this, .ref p0] [] w I L P := rfl
theorem Log_copyFrom_E1 (this : Nat) (w : Wd) (I : MI) (L : ML) (P : MP) : call 22 [.ref this, .null] w I L P = go 22 0 [.ref this, .null] [] w I L P := rfl
theorem Log_keptCount_0 (a_l0 : Nat) (w : Wd) (I : MI) (L : ML) (P : MP) (h0 : w.1 a_l0 = some (5, 0)) : go 23 0 [.ref a_l0] [] w I L P = some (.inl (some (.int (if (nI 64) < (I a_l0 0) then (nI 64) else (I a_l0 0)))), w, I, L, P) := by
  refine (go_aload_n (m := 23) (pc := 0) (k := 0) (by decide +kernel) rfl).trans ?_
  refine (go_getI (m := 23) (pc := 1) (o := 5) (x := 9) (ci := 5) (k := 0) (by decide +kernel) rfl f_5_9 rfl h0).trans ?_
  refine (go_bi (m := 23) (pc := 4) (n := 64) (by decide +kernel) bi_64).trans ?_
  refine (go_min (m := 23) (pc := 6) (o := 5) (j := 35) (y' := 999) (by decide +kernel) rfl (by decide +kernel) (by decide +kernel)).trans ?_
  exact go_retI (m := 23) (pc := 9) (by decide +kernel) rfl
theorem Log_keptCount_E (this : Nat) (w : Wd) (I : MI) (L : ML) (P : MP) : call 23 [.ref this] w I L P = go 23 0 [.ref this] [] w I L P := rfl
theorem Log_keep_0 (a_l0 : Nat) (l1 : Value) (l2 : Value) (l3 : Value) (l4 : Value) (w : Wd) (I : MI) (L : ML) (P : MP) (h0 : w.1 a_l0 = some (5, 0)) : go 24 0 [.ref a_l0, l1, l2, l3, l4] [] w I L P = go 24 13 [.ref a_l0, l1, l2, (fix1 l3), .int ((I a_l0 0) &&& (nI 63))] [(va_rf (P a_l0 3))] w I L P := by
  refine (go_aload_n (m := 24) (pc := 0) (k := 0) (by decide +kernel) rfl).trans ?_
  refine (go_getI (m := 24) (pc := 1) (o := 5) (x := 9) (ci := 5) (k := 0) (by decide +kernel) rfl f_5_9 rfl h0).trans ?_
  refine (go_bi (m := 24) (pc := 4) (n := 63) (by decide +kernel) bi_63).trans ?_
  refine (go_iand (m := 24) (pc := 6) (by decide +kernel)).trans ?_
  refine (go_istore (m := 24) (pc := 7) (k := 4) (ls' := [.ref a_l0, l1, l2, (fix1 l3), .int ((I a_l0 0) &&& (nI 63))]) (by decide +kernel) (by simp only [List.length_cons, List.length_nil]; decide) rfl).trans ?_
  refine (go_aload_n (m := 24) (pc := 9) (k := 0) (by decide +kernel) rfl).trans ?_
  refine (go_getR (m := 24) (pc := 10) (o := 5) (x := 21) (ci := 5) (k := 3) (by decide +kernel) rfl f_5_21 rfl h0).trans ?_
  rfl
theorem Log_keep_13 (a_l0 : Nat) (l1 : Value) (x_l2 : Int32) (l3 : Value) (x_l4 : Int32) (a_s0 : Nat) (w : Wd) (I : MI) (L : ML) (P : MP) (h0 : inA w a_s0 8 x_l4) (h1 : w.1 a_l0 = some (5, 0)) : go 24 13 [.ref a_l0, l1, .int x_l2, l3, .int x_l4] [.ref a_s0] w I L P = go 24 21 [.ref a_l0, l1, .int x_l2, l3, .int x_l4] [(va_rf (P a_l0 4))] w (updI I a_s0 (Int32.toNatClampNeg x_l4) x_l2) L P := by
  refine (go_iload (m := 24) (pc := 13) (k := 4) (by decide +kernel) rfl).trans ?_
  refine (go_iload_n (m := 24) (pc := 15) (k := 2) (by decide +kernel) rfl).trans ?_
  refine (go_iast (m := 24) (pc := 16) (by decide +kernel) h0).trans ?_
  refine (go_aload_n (m := 24) (pc := 17) (k := 0) (by decide +kernel) rfl).trans ?_
  refine (go_getR (m := 24) (pc := 18) (o := 5) (x := 25) (ci := 5) (k := 4) (by decide +kernel) rfl f_5_25 rfl h1).trans ?_
  rfl
theorem Log_keep_21 (a_l0 : Nat) (l1 : Value) (l2 : Value) (x_l3 : Int32) (x_l4 : Int32) (a_s0 : Nat) (w : Wd) (I : MI) (L : ML) (P : MP) (h0 : inA w a_s0 8 x_l4) (h1 : w.1 a_l0 = some (5, 0)) : go 24 21 [.ref a_l0, l1, l2, .int x_l3, .int x_l4] [.ref a_s0] w I L P = go 24 29 [.ref a_l0, l1, l2, .int x_l3, .int x_l4] [(va_rf (P a_l0 5))] w (updI I a_s0 (Int32.toNatClampNeg x_l4) x_l3) L P := by
  refine (go_iload (m := 24) (pc := 21) (k := 4) (by decide +kernel) rfl).trans ?_
  refine (go_iload_n (m := 24) (pc := 23) (k := 3) (by decide +kernel) rfl).trans ?_
  refine (go_iast (m := 24) (pc := 24) (by decide +kernel) h0).trans ?_
  refine (go_aload_n (m := 24) (pc := 25) (k := 0) (by decide +kernel) rfl).trans ?_
  refine (go_getR (m := 24) (pc := 26) (o := 5) (x := 28) (ci := 5) (k := 5) (by decide +kernel) rfl f_5_28 rfl h1).trans ?_
  rfl
theorem Log_keep_29 (a_l0 : Nat) (x_l1 : Int32) (l2 : Value) (l3 : Value) (x_l4 : Int32) (a_s0 : Nat) (w : Wd) (I : MI) (L : ML) (P : MP) (h0 : inA w a_s0 8 x_l4) (h1 : w.1 a_l0 = some (5, 0)) : go 24 29 [.ref a_l0, .int x_l1, l2, l3, .int x_l4] [.ref a_s0] w I L P = if x_l1 = 0 then go 24 57 [.ref a_l0, .int x_l1, l2, l3, .int x_l4] [] w (updI (updI I a_s0 (Int32.toNatClampNeg x_l4) x_l1) a_l0 0 (((updI I a_s0 (Int32.toNatClampNeg x_l4) x_l1) a_l0 0) + (nI 1))) L P else go 24 47 [.ref a_l0, .int x_l1, l2, l3, .int x_l4] [] w (updI (updI I a_s0 (Int32.toNatClampNeg x_l4) x_l1) a_l0 0 (((updI I a_s0 (Int32.toNatClampNeg x_l4) x_l1) a_l0 0) + (nI 1))) L P := by
  refine (go_iload (m := 24) (pc := 29) (k := 4) (by decide +kernel) rfl).trans ?_
  refine (go_iload_n (m := 24) (pc := 31) (k := 1) (by decide +kernel) rfl).trans ?_
  refine (go_iast (m := 24) (pc := 32) (by decide +kernel) h0).trans ?_
  refine (go_aload_n (m := 24) (pc := 33) (k := 0) (by decide +kernel) rfl).trans ?_
  refine (go_dup (m := 24) (pc := 34) (by decide +kernel) rfl).trans ?_
  refine (go_getI (m := 24) (pc := 35) (o := 5) (x := 9) (ci := 5) (k := 0) (by decide +kernel) rfl f_5_9 rfl h1).trans ?_
  refine (go_ic (m := 24) (pc := 38) (n := 1) (by decide +kernel) ic_1).trans ?_
  refine (go_iadd (m := 24) (pc := 39) (by decide +kernel)).trans ?_
  refine (go_putI (m := 24) (pc := 40) (o := 5) (x := 9) (ci := 5) (k := 0) (by decide +kernel) rfl f_5_9 rfl (by decide +kernel) h1).trans ?_
  refine (go_iload_n (m := 24) (pc := 43) (k := 1) (by decide +kernel) rfl).trans ?_
  exact go_ifeq (m := 24) (pc := 44) (off := 13) (t := 57) (by decide +kernel) (by decide)
theorem Log_keep_47 (a_l0 : Nat) (l1 : Value) (l2 : Value) (l3 : Value) (l4 : Value) (w : Wd) (I : MI) (L : ML) (P : MP) (h0 : w.1 a_l0 = some (5, 0)) : go 24 47 [.ref a_l0, l1, l2, l3, l4] [] w I L P = go 24 57 [.ref a_l0, l1, l2, l3, l4] [] w (updI I a_l0 1 ((I a_l0 1) + (nI 1))) L P := by
  refine (go_aload_n (m := 24) (pc := 47) (k := 0) (by decide +kernel) rfl).trans ?_
  refine (go_dup (m := 24) (pc := 48) (by decide +kernel) rfl).trans ?_
  refine (go_getI (m := 24) (pc := 49) (o := 5) (x := 15) (ci := 5) (k := 1) (by decide +kernel) rfl f_5_15 rfl h0).trans ?_
  refine (go_ic (m := 24) (pc := 52) (n := 1) (by decide +kernel) ic_1).trans ?_
  refine (go_iadd (m := 24) (pc := 53) (by decide +kernel)).trans ?_
  refine (go_putI (m := 24) (pc := 54) (o := 5) (x := 15) (ci := 5) (k := 1) (by decide +kernel) rfl f_5_15 rfl (by decide +kernel) h0).trans ?_
  rfl
theorem Log_keep_57 (l0 : Value) (x_l1 : Int32) (l2 : Value) (l3 : Value) (l4 : Value) (w : Wd) (I : MI) (L : ML) (P : MP)  : go 24 57 [l0, .int x_l1, l2, l3, l4] [] w I L P = if x_l1 ≠ (nI 6) then go 24 73 [l0, .int x_l1, l2, l3, l4] [] w I L P else go 24 63 [l0, .int x_l1, l2, l3, l4] [] w I L P := by
  refine (go_iload_n (m := 24) (pc := 57) (k := 1) (by decide +kernel) rfl).trans ?_
  refine (go_bi (m := 24) (pc := 58) (n := 6) (by decide +kernel) bi_6).trans ?_
  exact go_icmpne (m := 24) (pc := 60) (off := 13) (t := 73) (by decide +kernel) (by decide)
theorem Log_keep_63 (a_l0 : Nat) (l1 : Value) (l2 : Value) (l3 : Value) (l4 : Value) (w : Wd) (I : MI) (L : ML) (P : MP) (h0 : w.1 a_l0 = some (5, 0)) : go 24 63 [.ref a_l0, l1, l2, l3, l4] [] w I L P = go 24 73 [.ref a_l0, l1, l2, l3, l4] [] w (updI I a_l0 2 ((I a_l0 2) + (nI 1))) L P := by
  refine (go_aload_n (m := 24) (pc := 63) (k := 0) (by decide +kernel) rfl).trans ?_
  refine (go_dup (m := 24) (pc := 64) (by decide +kernel) rfl).trans ?_
  refine (go_getI (m := 24) (pc := 65) (o := 5) (x := 18) (ci := 5) (k := 2) (by decide +kernel) rfl f_5_18 rfl h0).trans ?_
  refine (go_ic (m := 24) (pc := 68) (n := 1) (by decide +kernel) ic_1).trans ?_
  refine (go_iadd (m := 24) (pc := 69) (by decide +kernel)).trans ?_
  refine (go_putI (m := 24) (pc := 70) (o := 5) (x := 18) (ci := 5) (k := 2) (by decide +kernel) rfl f_5_18 rfl (by decide +kernel) h0).trans ?_
  rfl
theorem Log_keep_73 (l0 : Value) (l1 : Value) (l2 : Value) (l3 : Value) (l4 : Value) (w : Wd) (I : MI) (L : ML) (P : MP)  : go 24 73 [l0, l1, l2, l3, l4] [] w I L P = some (.inl none, w, I, L, P) := by
  exact go_retV (m := 24) (pc := 73) (by decide +kernel) rfl
theorem Log_keep_E (this : Nat) (p0 : Int32) (p1 : Int32) (p2 : Int32) (w : Wd) (I : MI) (L : ML) (P : MP) : call 24 [.ref this, .int p0, .int p1, .int p2] w I L P = go 24 0 [.ref this, .int p0, .int p1, .int p2, unk] [] w I L P := rfl
theorem Log_tell_0 (a_l0 : Nat) (x_l1 : Int32) (x_l2 : Int32) (l3 : Value) (w : Wd) (I : MI) (L : ML) (P : MP) (h0 : w.1 a_l0 = some (5, 0)) : go 25 0 [.ref a_l0, .int x_l1, .int x_l2, l3] [] w I L P = go 25 13 [.ref a_l0, .int x_l1, .int x_l2, .int ((((I a_l0 0) - (nI 1)) - x_l1) &&& (nI 63))] [.int x_l2] w I L P := by
  refine (go_aload_n (m := 25) (pc := 0) (k := 0) (by decide +kernel) rfl).trans ?_
  refine (go_getI (m := 25) (pc := 1) (o := 5) (x := 9) (ci := 5) (k := 0) (by decide +kernel) rfl f_5_9 rfl h0).trans ?_
  refine (go_ic (m := 25) (pc := 4) (n := 1) (by decide +kernel) ic_1).trans ?_
  refine (go_isub (m := 25) (pc := 5) (by decide +kernel)).trans ?_
  refine (go_iload_n (m := 25) (pc := 6) (k := 1) (by decide +kernel) rfl).trans ?_
  refine (go_isub (m := 25) (pc := 7) (by decide +kernel)).trans ?_
  refine (go_bi (m := 25) (pc := 8) (n := 63) (by decide +kernel) bi_63).trans ?_
  refine (go_iand (m := 25) (pc := 10) (by decide +kernel)).trans ?_
  refine (go_istore_n (m := 25) (pc := 11) (k := 3) (ls' := [.ref a_l0, .int x_l1, .int x_l2, .int ((((I a_l0 0) - (nI 1)) - x_l1) &&& (nI 63))]) (by decide +kernel) (by simp only [List.length_cons, List.length_nil]; decide) rfl).trans ?_
  refine (go_iload_n (m := 25) (pc := 12) (k := 2) (by decide +kernel) rfl).trans ?_
  rfl
theorem Log_tell_13_k0 (l0 : Value) (l1 : Value) (l2 : Value) (l3 : Value) (w : Wd) (I : MI) (L : ML) (P : MP) : go 25 13 [l0, l1, l2, l3] [.int (nI 0)] w I L P = go 25 40 [l0, l1, l2, l3] [] w I L P := go_lsI (m := 25) (pc := 13) (z := 0) (off := 27) (t := 40) (dflt := 41) (ps := #[(0, 27), (1, 34)]) (len := 27) (by decide +kernel) (by decide) (by decide) (by decide) (by decide)
theorem Log_tell_13_k1 (l0 : Value) (l1 : Value) (l2 : Value) (l3 : Value) (w : Wd) (I : MI) (L : ML) (P : MP) : go 25 13 [l0, l1, l2, l3] [.int (nI 1)] w I L P = go 25 47 [l0, l1, l2, l3] [] w I L P := go_lsI (m := 25) (pc := 13) (z := 1) (off := 34) (t := 47) (dflt := 41) (ps := #[(0, 27), (1, 34)]) (len := 27) (by decide +kernel) (by decide) (by decide) (by decide) (by decide)
theorem Log_tell_13_kd (l0 : Value) (l1 : Value) (l2 : Value) (l3 : Value) (w : Wd) (I : MI) (L : ML) (P : MP) (y : Int32) (h0 : ¬ y = nI 0) (h1 : ¬ y = nI 1) : go 25 13 [l0, l1, l2, l3] [.int y] w I L P = go 25 54 [l0, l1, l2, l3] [] w I L P := by
  refine go_lsO (m := 25) (pc := 13) (off := 41) (t := 54) (dflt := 41) (ps := #[(0, 27), (1, 34)]) (len := 27) (by decide +kernel) (by decide) ?_ (by decide)
  refine (lv_osw h0 (by decide)).trans ?_
  refine (lv_osw h1 (by decide)).trans ?_
  rfl
theorem Log_tell_40 (a_l0 : Nat) (l1 : Value) (l2 : Value) (l3 : Value) (w : Wd) (I : MI) (L : ML) (P : MP) (h0 : w.1 a_l0 = some (5, 0)) : go 25 40 [.ref a_l0, l1, l2, l3] [] w I L P = go 25 44 [.ref a_l0, l1, l2, l3] [(va_rf (P a_l0 3))] w I L P := by
  refine (go_aload_n (m := 25) (pc := 40) (k := 0) (by decide +kernel) rfl).trans ?_
  refine (go_getR (m := 25) (pc := 41) (o := 5) (x := 21) (ci := 5) (k := 3) (by decide +kernel) rfl f_5_21 rfl h0).trans ?_
  rfl
theorem Log_tell_44 (l0 : Value) (l1 : Value) (l2 : Value) (x_l3 : Int32) (a_s0 : Nat) (w : Wd) (I : MI) (L : ML) (P : MP) (h0 : inA w a_s0 8 x_l3) : go 25 44 [l0, l1, l2, .int x_l3] [.ref a_s0] w I L P = some (.inl (some (.int (I a_s0 (Int32.toNatClampNeg x_l3)))), w, I, L, P) := by
  refine (go_iload_n (m := 25) (pc := 44) (k := 3) (by decide +kernel) rfl).trans ?_
  refine (go_iald (m := 25) (pc := 45) (by decide +kernel) h0).trans ?_
  exact go_retI (m := 25) (pc := 46) (by decide +kernel) rfl
theorem Log_tell_47 (a_l0 : Nat) (l1 : Value) (l2 : Value) (l3 : Value) (w : Wd) (I : MI) (L : ML) (P : MP) (h0 : w.1 a_l0 = some (5, 0)) : go 25 47 [.ref a_l0, l1, l2, l3] [] w I L P = go 25 51 [.ref a_l0, l1, l2, l3] [(va_rf (P a_l0 4))] w I L P := by
  refine (go_aload_n (m := 25) (pc := 47) (k := 0) (by decide +kernel) rfl).trans ?_
  refine (go_getR (m := 25) (pc := 48) (o := 5) (x := 25) (ci := 5) (k := 4) (by decide +kernel) rfl f_5_25 rfl h0).trans ?_
  rfl
theorem Log_tell_51 (l0 : Value) (l1 : Value) (l2 : Value) (x_l3 : Int32) (a_s0 : Nat) (w : Wd) (I : MI) (L : ML) (P : MP) (h0 : inA w a_s0 8 x_l3) : go 25 51 [l0, l1, l2, .int x_l3] [.ref a_s0] w I L P = some (.inl (some (.int (I a_s0 (Int32.toNatClampNeg x_l3)))), w, I, L, P) := by
  refine (go_iload_n (m := 25) (pc := 51) (k := 3) (by decide +kernel) rfl).trans ?_
  refine (go_iald (m := 25) (pc := 52) (by decide +kernel) h0).trans ?_
  exact go_retI (m := 25) (pc := 53) (by decide +kernel) rfl
theorem Log_tell_54 (a_l0 : Nat) (l1 : Value) (l2 : Value) (l3 : Value) (w : Wd) (I : MI) (L : ML) (P : MP) (h0 : w.1 a_l0 = some (5, 0)) : go 25 54 [.ref a_l0, l1, l2, l3] [] w I L P = go 25 58 [.ref a_l0, l1, l2, l3] [(va_rf (P a_l0 5))] w I L P := by
  refine (go_aload_n (m := 25) (pc := 54) (k := 0) (by decide +kernel) rfl).trans ?_
  refine (go_getR (m := 25) (pc := 55) (o := 5) (x := 28) (ci := 5) (k := 5) (by decide +kernel) rfl f_5_28 rfl h0).trans ?_
  rfl
theorem Log_tell_58 (l0 : Value) (l1 : Value) (l2 : Value) (x_l3 : Int32) (a_s0 : Nat) (w : Wd) (I : MI) (L : ML) (P : MP) (h0 : inA w a_s0 8 x_l3) : go 25 58 [l0, l1, l2, .int x_l3] [.ref a_s0] w I L P = some (.inl (some (.int (I a_s0 (Int32.toNatClampNeg x_l3)))), w, I, L, P) := by
  refine (go_iload_n (m := 25) (pc := 58) (k := 3) (by decide +kernel) rfl).trans ?_
  refine (go_iald (m := 25) (pc := 59) (by decide +kernel) h0).trans ?_
  exact go_retI (m := 25) (pc := 60) (by decide +kernel) rfl
theorem Log_tell_E (this : Nat) (p0 : Int32) (p1 : Int32) (w : Wd) (I : MI) (L : ML) (P : MP) : call 25 [.ref this, .int p0, .int p1] w I L P = go 25 0 [.ref this, .int p0, .int p1, unk] [] w I L P := rfl
theorem Log_lastLevel_0 (a_l0 : Nat) (w : Wd) (I : MI) (L : ML) (P : MP) (h0 : w.1 a_l0 = some (5, 0)) : go 26 0 [.ref a_l0] [] w I L P = if (I a_l0 0) ≠ 0 then go 26 11 [.ref a_l0] [] w I L P else go 26 7 [.ref a_l0] [] w I L P := by
  refine (go_aload_n (m := 26) (pc := 0) (k := 0) (by decide +kernel) rfl).trans ?_
  refine (go_getI (m := 26) (pc := 1) (o := 5) (x := 9) (ci := 5) (k := 0) (by decide +kernel) rfl f_5_9 rfl h0).trans ?_
  exact go_ifne (m := 26) (pc := 4) (off := 7) (t := 11) (by decide +kernel) (by decide)
theorem Log_lastLevel_7 (l0 : Value) (w : Wd) (I : MI) (L : ML) (P : MP)  : go 26 7 [l0] [] w I L P = go 26 17 [l0] [.int (nI 1)] w I L P := by
  refine (go_ic (m := 26) (pc := 7) (n := 1) (by decide +kernel) ic_1).trans ?_
  refine (go_goto (m := 26) (pc := 8) (off := 9) (t := 17) (by decide +kernel) (by decide)).trans ?_
  rfl
theorem Log_lastLevel_11 (a_l0 : Nat) (w : Wd) (I : MI) (L : ML) (P : MP) (h0 : w.1 a_l0 = some (5, 0)) : go 26 11 [.ref a_l0] [] w I L P = kC (call 25 [.ref a_l0, .int (nI 0), .int (nI 0)] w I L P) (fun v w I L P => go 26 17 [.ref a_l0] (v.toList ++ []) w I L P) := by
  refine (go_aload_n (m := 26) (pc := 11) (k := 0) (by decide +kernel) rfl).trans ?_
  refine (go_ic (m := 26) (pc := 12) (n := 0) (by decide +kernel) ic_0).trans ?_
  refine (go_ic (m := 26) (pc := 13) (n := 0) (by decide +kernel) ic_0).trans ?_
  exact go_vir (m := 26) (pc := 14) (o := 5) (x := 41) (y := 25) (kd := 0) (b := a_l0) (bs := [.int (nI 0), .int (nI 0)]) (rs := []) (by decide +kernel) rfl rfl c_5_41 (Or.inl rfl) rfl rfl rfl (by decide +kernel) (by simp only [List.length_cons, List.length_nil]; decide) (Nat.le_of_ble_eq_true rfl) h0
theorem Log_lastLevel_17 (l0 : Value) (y0 : Int32) (w : Wd) (I : MI) (L : ML) (P : MP)  : go 26 17 [l0] [.int y0] w I L P = some (.inl (some (.int y0)), w, I, L, P) := by
  exact go_retI (m := 26) (pc := 17) (by decide +kernel) rfl
theorem Log_lastLevel_E (this : Nat) (w : Wd) (I : MI) (L : ML) (P : MP) : call 26 [.ref this] w I L P = go 26 0 [.ref this] [] w I L P := rfl
end
