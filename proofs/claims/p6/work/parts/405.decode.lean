def lgX12_errors_1 : List (Nat × Instr × Nat) := [(106, .aload_n 0, 1), (107, .getfield 27, 3), (110, .iload 5, 2), (112, .iaload, 1), (113, .ifCond .le 7, 3), (116, .iconst 1, 1), (117, .goto 4, 3)]
theorem dgX12_errors_1 : ∀ q ∈ lgX12_errors_1, decode cX12_errors q.1 = .ok (q.2.1, q.2.2) := by decide +kernel
theorem dX12_errors_106 : decode cX12_errors 106 = .ok (.aload_n 0, 1) := dall dgX12_errors_1 0 rfl
theorem dX12_errors_107 : decode cX12_errors 107 = .ok (.getfield 27, 3) := dall dgX12_errors_1 1 rfl
theorem dX12_errors_110 : decode cX12_errors 110 = .ok (.iload 5, 2) := dall dgX12_errors_1 2 rfl
theorem dX12_errors_112 : decode cX12_errors 112 = .ok (.iaload, 1) := dall dgX12_errors_1 3 rfl
theorem dX12_errors_113 : decode cX12_errors 113 = .ok (.ifCond .le 7, 3) := dall dgX12_errors_1 4 rfl
theorem dX12_errors_116 : decode cX12_errors 116 = .ok (.iconst 1, 1) := dall dgX12_errors_1 5 rfl
theorem dX12_errors_117 : decode cX12_errors 117 = .ok (.goto 4, 3) := dall dgX12_errors_1 6 rfl
