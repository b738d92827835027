/-! the law's small methods -/
section
variable {B : Nat} {w w1 : Wd} {I I1 : MI} {L L1 : ML} {P P1 : MP}
theorem lr_begin {p1 : Int32} (t : w.1 B = some (6, 0)) {v : Int32} (hc : call 80 [.ref B, .int p1] w I L P = some (.inl (some (.int v)), w1, I1, L1, P1)) : call 120 [.ref B, .int p1] w I L P = some (.inl (some (.int v)), w1, I1, L1, P1) := by
  rw [Law_begin_E, Law_begin_0_ret _ _ _ _ _ _ _ _ _ _ _ _ t hc]
  simp only [Option.toList, List.cons_append, List.nil_append]
  rw [Law_begin_5]
theorem lt_begin0 {p1 : Int32} (t : w.1 B = some (6, 0)) (hc : call 80 [.ref B, .int p1] w I L P = some (.inr 0, w1, I1, L1, P1)) : call 120 [.ref B, .int p1] w I L P = some (.inl (some (.int (-11))), w1, I1, L1, P1) := by
  rw [Law_begin_E, Law_begin_0_thr0 _ _ _ _ _ _ _ _ _ _ _ t hc, Law_begin_7]
theorem lr_addListener {p1 : Int32} {p2 : Int32} (t : w.1 B = some (6, 0)) {v : Int32} (hc : call 81 [.ref B, .int p1, .int p2] w I L P = some (.inl (some (.int v)), w1, I1, L1, P1)) : call 121 [.ref B, .int p1, .int p2] w I L P = some (.inl (some (.int v)), w1, I1, L1, P1) := by
  rw [Law_addListener_E, Law_addListener_0_ret _ _ _ _ _ _ _ _ _ _ _ _ _ t hc]
  simp only [Option.toList, List.cons_append, List.nil_append]
  rw [Law_addListener_6]
theorem lt_addListener0 {p1 : Int32} {p2 : Int32} (t : w.1 B = some (6, 0)) (hc : call 81 [.ref B, .int p1, .int p2] w I L P = some (.inr 0, w1, I1, L1, P1)) : call 121 [.ref B, .int p1, .int p2] w I L P = some (.inl (some (.int (-11))), w1, I1, L1, P1) := by
  rw [Law_addListener_E, Law_addListener_0_thr0 _ _ _ _ _ _ _ _ _ _ _ _ t hc, Law_addListener_8]
theorem lt_addListener1 {p1 : Int32} {p2 : Int32} (t : w.1 B = some (6, 0)) (hc : call 81 [.ref B, .int p1, .int p2] w I L P = some (.inr 1, w1, I1, L1, P1)) : call 121 [.ref B, .int p1, .int p2] w I L P = some (.inl (some (.int (-12))), w1, I1, L1, P1) := by
  rw [Law_addListener_E, Law_addListener_0_thr1 _ _ _ _ _ _ _ _ _ _ _ _ t hc, Law_addListener_12]
theorem lr_turn {p1 : Int32} {p2 : Int32} (t : w.1 B = some (6, 0)) {v : Int32} (hc : call 82 [.ref B, .int p1, .int p2] w I L P = some (.inl (some (.int v)), w1, I1, L1, P1)) : call 122 [.ref B, .int p1, .int p2] w I L P = some (.inl (some (.int v)), w1, I1, L1, P1) := by
  rw [Law_turn_E, Law_turn_0_ret _ _ _ _ _ _ _ _ _ _ _ _ _ t hc]
  simp only [Option.toList, List.cons_append, List.nil_append]
  rw [Law_turn_6]
theorem lt_turn1 {p1 : Int32} {p2 : Int32} (t : w.1 B = some (6, 0)) (hc : call 82 [.ref B, .int p1, .int p2] w I L P = some (.inr 1, w1, I1, L1, P1)) : call 122 [.ref B, .int p1, .int p2] w I L P = some (.inl (some (.int (-12))), w1, I1, L1, P1) := by
  rw [Law_turn_E, Law_turn_0_thr1 _ _ _ _ _ _ _ _ _ _ _ _ t hc, Law_turn_12]
theorem lt_turn2 {p1 : Int32} {p2 : Int32} (t : w.1 B = some (6, 0)) (hc : call 82 [.ref B, .int p1, .int p2] w I L P = some (.inr 2, w1, I1, L1, P1)) : call 122 [.ref B, .int p1, .int p2] w I L P = some (.inl (some (.int (-11))), w1, I1, L1, P1) := by
  rw [Law_turn_E, Law_turn_0_thr2 _ _ _ _ _ _ _ _ _ _ _ _ t hc, Law_turn_8]
theorem lr_empty {p1 : Int32} (t : w.1 B = some (6, 0)) {v : Int32} (hc : call 83 [.ref B, .int p1] w I L P = some (.inl (some (.int v)), w1, I1, L1, P1)) : call 123 [.ref B, .int p1] w I L P = some (.inl (some (.int v)), w1, I1, L1, P1) := by
  rw [Law_empty_E, Law_empty_0_ret _ _ _ _ _ _ _ _ _ _ _ _ t hc]
  simp only [Option.toList, List.cons_append, List.nil_append]
  rw [Law_empty_5]
theorem lt_empty2 {p1 : Int32} (t : w.1 B = some (6, 0)) (hc : call 83 [.ref B, .int p1] w I L P = some (.inr 2, w1, I1, L1, P1)) : call 123 [.ref B, .int p1] w I L P = some (.inl (some (.int (-11))), w1, I1, L1, P1) := by
  rw [Law_empty_E, Law_empty_0_thr2 _ _ _ _ _ _ _ _ _ _ _ t hc, Law_empty_7]
theorem lr_setLimit {p1 : Int32} (t : w.1 B = some (6, 0)) {v : Int32} (hc : call 84 [.ref B, .int p1] w I L P = some (.inl (some (.int v)), w1, I1, L1, P1)) : call 124 [.ref B, .int p1] w I L P = some (.inl (some (.int v)), w1, I1, L1, P1) := by
  rw [Law_setLimit_E, Law_setLimit_0_ret _ _ _ _ _ _ _ _ _ _ _ _ t hc]
  simp only [Option.toList, List.cons_append, List.nil_append]
  rw [Law_setLimit_5]
theorem lt_setLimit0 {p1 : Int32} (t : w.1 B = some (6, 0)) (hc : call 84 [.ref B, .int p1] w I L P = some (.inr 0, w1, I1, L1, P1)) : call 124 [.ref B, .int p1] w I L P = some (.inl (some (.int (-11))), w1, I1, L1, P1) := by
  rw [Law_setLimit_E, Law_setLimit_0_thr0 _ _ _ _ _ _ _ _ _ _ _ t hc, Law_setLimit_7]
theorem lr_write {p1 : Int32} {p2 : Int32} {p3 : Int32} {p4 : Int64} (t : w.1 B = some (6, 0)) {v : Int32} (hc : call 85 [.ref B, .int p1, .int p2, .int p3, .long p4] w I L P = some (.inl (some (.int v)), w1, I1, L1, P1)) : call 125 [.ref B, .int p1, .int p2, .int p3, .long p4] w I L P = some (.inl (some (.int v)), w1, I1, L1, P1) := by
  rw [Law_write_E, Law_write_0_ret _ _ _ _ _ _ _ _ _ _ _ _ _ _ _ _ t hc]
  simp only [Option.toList, List.cons_append, List.nil_append]
  rw [Law_write_9]
theorem lt_write0 {p1 : Int32} {p2 : Int32} {p3 : Int32} {p4 : Int64} (t : w.1 B = some (6, 0)) (hc : call 85 [.ref B, .int p1, .int p2, .int p3, .long p4] w I L P = some (.inr 0, w1, I1, L1, P1)) : call 125 [.ref B, .int p1, .int p2, .int p3, .long p4] w I L P = some (.inl (some (.int (-12))), w1, I1, L1, P1) := by
  rw [Law_write_E, Law_write_0_thr0 _ _ _ _ _ _ _ _ _ _ _ _ _ _ _ t hc, Law_write_17]
theorem lt_write1 {p1 : Int32} {p2 : Int32} {p3 : Int32} {p4 : Int64} (t : w.1 B = some (6, 0)) (hc : call 85 [.ref B, .int p1, .int p2, .int p3, .long p4] w I L P = some (.inr 1, w1, I1, L1, P1)) : call 125 [.ref B, .int p1, .int p2, .int p3, .long p4] w I L P = some (.inl (some (.int (-13))), w1, I1, L1, P1) := by
  rw [Law_write_E, Law_write_0_thr1 _ _ _ _ _ _ _ _ _ _ _ _ _ _ _ t hc, Law_write_22]
theorem lt_write2 {p1 : Int32} {p2 : Int32} {p3 : Int32} {p4 : Int64} (t : w.1 B = some (6, 0)) (hc : call 85 [.ref B, .int p1, .int p2, .int p3, .long p4] w I L P = some (.inr 2, w1, I1, L1, P1)) : call 125 [.ref B, .int p1, .int p2, .int p3, .long p4] w I L P = some (.inl (some (.int (-11))), w1, I1, L1, P1) := by
  rw [Law_write_E, Law_write_0_thr2 _ _ _ _ _ _ _ _ _ _ _ _ _ _ _ t hc, Law_write_12]
theorem lr_read {p1 : Int32} {p2 : Int32} {p3 : Int32} (t : w.1 B = some (6, 0)) {v : Int32} (hc : call 86 [.ref B, .int p1, .int p2, .int p3] w I L P = some (.inl (some (.int v)), w1, I1, L1, P1)) : call 126 [.ref B, .int p1, .int p2, .int p3] w I L P = some (.inl (some (.int v)), w1, I1, L1, P1) := by
  rw [Law_read_E, Law_read_0_ret _ _ _ _ _ _ _ _ _ _ _ _ _ _ t hc]
  simp only [Option.toList, List.cons_append, List.nil_append]
  rw [Law_read_7]
theorem lt_read0 {p1 : Int32} {p2 : Int32} {p3 : Int32} (t : w.1 B = some (6, 0)) (hc : call 86 [.ref B, .int p1, .int p2, .int p3] w I L P = some (.inr 0, w1, I1, L1, P1)) : call 126 [.ref B, .int p1, .int p2, .int p3] w I L P = some (.inl (some (.int (-12))), w1, I1, L1, P1) := by
  rw [Law_read_E, Law_read_0_thr0 _ _ _ _ _ _ _ _ _ _ _ _ _ t hc, Law_read_15]
theorem lt_read1 {p1 : Int32} {p2 : Int32} {p3 : Int32} (t : w.1 B = some (6, 0)) (hc : call 86 [.ref B, .int p1, .int p2, .int p3] w I L P = some (.inr 1, w1, I1, L1, P1)) : call 126 [.ref B, .int p1, .int p2, .int p3] w I L P = some (.inl (some (.int (-13))), w1, I1, L1, P1) := by
  rw [Law_read_E, Law_read_0_thr1 _ _ _ _ _ _ _ _ _ _ _ _ _ t hc, Law_read_20]
theorem lt_read2 {p1 : Int32} {p2 : Int32} {p3 : Int32} (t : w.1 B = some (6, 0)) (hc : call 86 [.ref B, .int p1, .int p2, .int p3] w I L P = some (.inr 2, w1, I1, L1, P1)) : call 126 [.ref B, .int p1, .int p2, .int p3] w I L P = some (.inl (some (.int (-11))), w1, I1, L1, P1) := by
  rw [Law_read_E, Law_read_0_thr2 _ _ _ _ _ _ _ _ _ _ _ _ _ t hc, Law_read_10]
theorem lr_cancel {p1 : Int32} (t : w.1 B = some (6, 0)) {v : Int32} (hc : call 87 [.ref B, .int p1] w I L P = some (.inl (some (.int v)), w1, I1, L1, P1)) : call 127 [.ref B, .int p1] w I L P = some (.inl (some (.int v)), w1, I1, L1, P1) := by
  rw [Law_cancel_E, Law_cancel_0_ret _ _ _ _ _ _ _ _ _ _ _ _ t hc]
  simp only [Option.toList, List.cons_append, List.nil_append]
  rw [Law_cancel_5]
theorem lt_cancel1 {p1 : Int32} (t : w.1 B = some (6, 0)) (hc : call 87 [.ref B, .int p1] w I L P = some (.inr 1, w1, I1, L1, P1)) : call 127 [.ref B, .int p1] w I L P = some (.inl (some (.int (-12))), w1, I1, L1, P1) := by
  rw [Law_cancel_E, Law_cancel_0_thr1 _ _ _ _ _ _ _ _ _ _ _ t hc, Law_cancel_11]
theorem lt_cancel2 {p1 : Int32} (t : w.1 B = some (6, 0)) (hc : call 87 [.ref B, .int p1] w I L P = some (.inr 2, w1, I1, L1, P1)) : call 127 [.ref B, .int p1] w I L P = some (.inl (some (.int (-11))), w1, I1, L1, P1) := by
  rw [Law_cancel_E, Law_cancel_0_thr2 _ _ _ _ _ _ _ _ _ _ _ t hc, Law_cancel_7]
theorem lr_pass {p1 : Int32} (t : w.1 B = some (6, 0)) {v : Int32} (hc : call 88 [.ref B, .int p1] w I L P = some (.inl (some (.int v)), w1, I1, L1, P1)) : call 128 [.ref B, .int p1] w I L P = some (.inl (some (.int v)), w1, I1, L1, P1) := by
  rw [Law_pass_E, Law_pass_0_ret _ _ _ _ _ _ _ _ _ _ _ _ t hc]
  simp only [Option.toList, List.cons_append, List.nil_append]
  rw [Law_pass_5]
theorem lt_pass0 {p1 : Int32} (t : w.1 B = some (6, 0)) (hc : call 88 [.ref B, .int p1] w I L P = some (.inr 0, w1, I1, L1, P1)) : call 128 [.ref B, .int p1] w I L P = some (.inl (some (.int (-11))), w1, I1, L1, P1) := by
  rw [Law_pass_E, Law_pass_0_thr0 _ _ _ _ _ _ _ _ _ _ _ t hc, Law_pass_7]
theorem lr_caller {p1 : Int32} {p2 : Int32} (t : w.1 B = some (6, 0)) {v : Int32} (hc : call 90 [.ref B, .int p1, .int p2] w I L P = some (.inl (some (.int v)), w1, I1, L1, P1)) : call 129 [.ref B, .int p1, .int p2] w I L P = some (.inl (some (.int v)), w1, I1, L1, P1) := by
  rw [Law_caller_E, Law_caller_0_ret _ _ _ _ _ _ _ _ _ _ _ _ _ t hc]
  simp only [Option.toList, List.cons_append, List.nil_append]
  rw [Law_caller_6]
theorem lt_caller0 {p1 : Int32} {p2 : Int32} (t : w.1 B = some (6, 0)) (hc : call 90 [.ref B, .int p1, .int p2] w I L P = some (.inr 0, w1, I1, L1, P1)) : call 129 [.ref B, .int p1, .int p2] w I L P = some (.inl (some (.int (-12))), w1, I1, L1, P1) := by
  rw [Law_caller_E, Law_caller_0_thr0 _ _ _ _ _ _ _ _ _ _ _ _ t hc, Law_caller_12]
theorem lt_caller2 {p1 : Int32} {p2 : Int32} (t : w.1 B = some (6, 0)) (hc : call 90 [.ref B, .int p1, .int p2] w I L P = some (.inr 2, w1, I1, L1, P1)) : call 129 [.ref B, .int p1, .int p2] w I L P = some (.inl (some (.int (-11))), w1, I1, L1, P1) := by
  rw [Law_caller_E, Law_caller_0_thr2 _ _ _ _ _ _ _ _ _ _ _ _ t hc, Law_caller_8]
theorem lr_message {p1 : Int32} {p2 : Int32} {p3 : Int32} (t : w.1 B = some (6, 0)) {v : Int32} (hc : call 91 [.ref B, .int p1, .int p2, .int p3] w I L P = some (.inl (some (.int v)), w1, I1, L1, P1)) : call 130 [.ref B, .int p1, .int p2, .int p3] w I L P = some (.inl (some (.int v)), w1, I1, L1, P1) := by
  rw [Law_message_E, Law_message_0_ret _ _ _ _ _ _ _ _ _ _ _ _ _ _ t hc]
  simp only [Option.toList, List.cons_append, List.nil_append]
  rw [Law_message_7]
theorem lt_message0 {p1 : Int32} {p2 : Int32} {p3 : Int32} (t : w.1 B = some (6, 0)) (hc : call 91 [.ref B, .int p1, .int p2, .int p3] w I L P = some (.inr 0, w1, I1, L1, P1)) : call 130 [.ref B, .int p1, .int p2, .int p3] w I L P = some (.inl (some (.int (-12))), w1, I1, L1, P1) := by
  rw [Law_message_E, Law_message_0_thr0 _ _ _ _ _ _ _ _ _ _ _ _ _ t hc, Law_message_15]
theorem lt_message2 {p1 : Int32} {p2 : Int32} {p3 : Int32} (t : w.1 B = some (6, 0)) (hc : call 91 [.ref B, .int p1, .int p2, .int p3] w I L P = some (.inr 2, w1, I1, L1, P1)) : call 130 [.ref B, .int p1, .int p2, .int p3] w I L P = some (.inl (some (.int (-11))), w1, I1, L1, P1) := by
  rw [Law_message_E, Law_message_0_thr2 _ _ _ _ _ _ _ _ _ _ _ _ _ t hc, Law_message_10]
theorem lr_listener {p1 : Int32} {p2 : Int32} (t : w.1 B = some (6, 0)) {v : Int32} (hc : call 92 [.ref B, .int p1, .int p2] w I L P = some (.inl (some (.int v)), w1, I1, L1, P1)) : call 131 [.ref B, .int p1, .int p2] w I L P = some (.inl (some (.int v)), w1, I1, L1, P1) := by
  rw [Law_listener_E, Law_listener_0_ret _ _ _ _ _ _ _ _ _ _ _ _ _ t hc]
  simp only [Option.toList, List.cons_append, List.nil_append]
  rw [Law_listener_6]
theorem lt_listener0 {p1 : Int32} {p2 : Int32} (t : w.1 B = some (6, 0)) (hc : call 92 [.ref B, .int p1, .int p2] w I L P = some (.inr 0, w1, I1, L1, P1)) : call 131 [.ref B, .int p1, .int p2] w I L P = some (.inl (some (.int (-12))), w1, I1, L1, P1) := by
  rw [Law_listener_E, Law_listener_0_thr0 _ _ _ _ _ _ _ _ _ _ _ _ t hc, Law_listener_12]
theorem lt_listener2 {p1 : Int32} {p2 : Int32} (t : w.1 B = some (6, 0)) (hc : call 92 [.ref B, .int p1, .int p2] w I L P = some (.inr 2, w1, I1, L1, P1)) : call 131 [.ref B, .int p1, .int p2] w I L P = some (.inl (some (.int (-11))), w1, I1, L1, P1) := by
  rw [Law_listener_E, Law_listener_0_thr2 _ _ _ _ _ _ _ _ _ _ _ _ t hc, Law_listener_8]
theorem lr_memory {p1 : Int32} {p2 : Int32} (t : w.1 B = some (6, 0)) {v : Int32} (hc : call 93 [.ref B, .int p1, .int p2] w I L P = some (.inl (some (.int v)), w1, I1, L1, P1)) : call 132 [.ref B, .int p1, .int p2] w I L P = some (.inl (some (.int v)), w1, I1, L1, P1) := by
  rw [Law_memory_E, Law_memory_0_ret _ _ _ _ _ _ _ _ _ _ _ _ _ t hc]
  simp only [Option.toList, List.cons_append, List.nil_append]
  rw [Law_memory_6]
theorem lt_memory2 {p1 : Int32} {p2 : Int32} (t : w.1 B = some (6, 0)) (hc : call 93 [.ref B, .int p1, .int p2] w I L P = some (.inr 2, w1, I1, L1, P1)) : call 132 [.ref B, .int p1, .int p2] w I L P = some (.inl (some (.int (-11))), w1, I1, L1, P1) := by
  rw [Law_memory_E, Law_memory_0_thr2 _ _ _ _ _ _ _ _ _ _ _ _ t hc, Law_memory_8]
theorem lr_value {p1 : Int32} (t : w.1 B = some (6, 0)) {v : Int32} (hc : call 94 [.ref B, .int p1] w I L P = some (.inl (some (.int v)), w1, I1, L1, P1)) : call 133 [.ref B, .int p1] w I L P = some (.inl (some (.int v)), w1, I1, L1, P1) := by
  rw [Law_value_E, Law_value_0_ret _ _ _ _ _ _ _ _ _ _ _ _ t hc]
  simp only [Option.toList, List.cons_append, List.nil_append]
  rw [Law_value_5]
theorem lt_value0 {p1 : Int32} (t : w.1 B = some (6, 0)) (hc : call 94 [.ref B, .int p1] w I L P = some (.inr 0, w1, I1, L1, P1)) : call 133 [.ref B, .int p1] w I L P = some (.inl (some (.int (-11))), w1, I1, L1, P1) := by
  rw [Law_value_E, Law_value_0_thr0 _ _ _ _ _ _ _ _ _ _ _ t hc, Law_value_7]
theorem lr_log {p1 : Int32} {p2 : Int32} (t : w.1 B = some (6, 0)) {v : Int32} (hc : call 95 [.ref B, .int p1, .int p2] w I L P = some (.inl (some (.int v)), w1, I1, L1, P1)) : call 134 [.ref B, .int p1, .int p2] w I L P = some (.inl (some (.int v)), w1, I1, L1, P1) := by
  rw [Law_log_E, Law_log_0_ret _ _ _ _ _ _ _ _ _ _ _ _ _ t hc]
  simp only [Option.toList, List.cons_append, List.nil_append]
  rw [Law_log_6]
theorem lt_log0 {p1 : Int32} {p2 : Int32} (t : w.1 B = some (6, 0)) (hc : call 95 [.ref B, .int p1, .int p2] w I L P = some (.inr 0, w1, I1, L1, P1)) : call 134 [.ref B, .int p1, .int p2] w I L P = some (.inl (some (.int (-12))), w1, I1, L1, P1) := by
  rw [Law_log_E, Law_log_0_thr0 _ _ _ _ _ _ _ _ _ _ _ _ t hc, Law_log_12]
theorem lt_log2 {p1 : Int32} {p2 : Int32} (t : w.1 B = some (6, 0)) (hc : call 95 [.ref B, .int p1, .int p2] w I L P = some (.inr 2, w1, I1, L1, P1)) : call 134 [.ref B, .int p1, .int p2] w I L P = some (.inl (some (.int (-11))), w1, I1, L1, P1) := by
  rw [Law_log_E, Law_log_0_thr2 _ _ _ _ _ _ _ _ _ _ _ _ t hc, Law_log_8]
theorem lr_alone {p1 : Int32} (t : w.1 B = some (6, 0)) {v : Int32} (hc : call 97 [.ref B, .int p1] w I L P = some (.inl (some (.int v)), w1, I1, L1, P1)) : call 135 [.ref B, .int p1] w I L P = some (.inl (some (.int v)), w1, I1, L1, P1) := by
  rw [Law_alone_E, Law_alone_0_ret _ _ _ _ _ _ _ _ _ _ _ _ t hc]
  simp only [Option.toList, List.cons_append, List.nil_append]
  rw [Law_alone_5]
theorem lt_alone2 {p1 : Int32} (t : w.1 B = some (6, 0)) (hc : call 97 [.ref B, .int p1] w I L P = some (.inr 2, w1, I1, L1, P1)) : call 135 [.ref B, .int p1] w I L P = some (.inl (some (.int (-11))), w1, I1, L1, P1) := by
  rw [Law_alone_E, Law_alone_0_thr2 _ _ _ _ _ _ _ _ _ _ _ t hc, Law_alone_7]
theorem lr_delivers {p1 : Int32} (t : w.1 B = some (6, 0)) {v : Int32} (hc : call 99 [.ref B, .int p1] w I L P = some (.inl (some (.int v)), w1, I1, L1, P1)) : call 136 [.ref B, .int p1] w I L P = some (.inl (some (.int v)), w1, I1, L1, P1) := by
  rw [Law_delivers_E, Law_delivers_0_ret _ _ _ _ _ _ _ _ _ _ _ _ t hc]
  simp only [Option.toList, List.cons_append, List.nil_append]
  rw [Law_delivers_5]
theorem lt_delivers2 {p1 : Int32} (t : w.1 B = some (6, 0)) (hc : call 99 [.ref B, .int p1] w I L P = some (.inr 2, w1, I1, L1, P1)) : call 136 [.ref B, .int p1] w I L P = some (.inl (some (.int (-11))), w1, I1, L1, P1) := by
  rw [Law_delivers_E, Law_delivers_0_thr2 _ _ _ _ _ _ _ _ _ _ _ t hc, Law_delivers_7]
theorem lr_append {p1 : Int32} (t : w.1 B = some (6, 0)) {v : Int32} (hc : call 101 [.ref B, .int p1] w I L P = some (.inl (some (.int v)), w1, I1, L1, P1)) : call 137 [.ref B, .int p1] w I L P = some (.inl (some (.int v)), w1, I1, L1, P1) := by
  rw [Law_append_E, Law_append_0_ret _ _ _ _ _ _ _ _ _ _ _ _ t hc]
  simp only [Option.toList, List.cons_append, List.nil_append]
  rw [Law_append_5]
theorem lt_append0 {p1 : Int32} (t : w.1 B = some (6, 0)) (hc : call 101 [.ref B, .int p1] w I L P = some (.inr 0, w1, I1, L1, P1)) : call 137 [.ref B, .int p1] w I L P = some (.inl (some (.int (-11))), w1, I1, L1, P1) := by
  rw [Law_append_E, Law_append_0_thr0 _ _ _ _ _ _ _ _ _ _ _ t hc, Law_append_7]
theorem lt_append1 {p1 : Int32} (t : w.1 B = some (6, 0)) (hc : call 101 [.ref B, .int p1] w I L P = some (.inr 1, w1, I1, L1, P1)) : call 137 [.ref B, .int p1] w I L P = some (.inl (some (.int (-12))), w1, I1, L1, P1) := by
  rw [Law_append_E, Law_append_0_thr1 _ _ _ _ _ _ _ _ _ _ _ t hc, Law_append_11]
theorem lr_undo  (t : w.1 B = some (6, 0)) {v : Int32} (hc : call 104 [.ref B] w I L P = some (.inl (some (.int v)), w1, I1, L1, P1)) : call 138 [.ref B] w I L P = some (.inl (some (.int v)), w1, I1, L1, P1) := by
  rw [Law_undo_E, Law_undo_0_ret _ _ _ _ _ _ _ _ _ _ _ t hc]
  simp only [Option.toList, List.cons_append, List.nil_append]
  rw [Law_undo_4]
theorem lt_undo1  (t : w.1 B = some (6, 0)) (hc : call 104 [.ref B] w I L P = some (.inr 1, w1, I1, L1, P1)) : call 138 [.ref B] w I L P = some (.inl (some (.int (-11))), w1, I1, L1, P1) := by
  rw [Law_undo_E, Law_undo_0_thr1 _ _ _ _ _ _ _ _ _ _ t hc, Law_undo_6]
end
