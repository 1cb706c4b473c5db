section
variable {nm : Nat → MethodName} {D : va_G} {cA : Nat → ClassId} {B0 sb : Nat} {H00 : Heap} {Th : State → Prop} {cc : ByteArray} {own mn : String} {eh : List (Nat × Nat × Nat × Nat)} {rt : Option FieldType} {pc n v : Nat}
theorem ok_copy : am_Ok nm D cA B0 sb H00 Th cc own mn eh rt pc (ac_copy n) := sorry
theorem ok_slen : am_Ok nm D cA B0 sb H00 Th cc own mn eh rt pc (ac_slen n) := sorry
theorem ok_schr : am_Ok nm D cA B0 sb H00 Th cc own mn eh rt pc (ac_schr v n) := sorry
theorem ok_throw_78_76 (h0 : decode cc pc = .ok (.new 74, 3)) (h1 : decode cc (pc + 3) = .ok (.dup, 1)) (h2 : decode cc (pc + 4) = .ok (.ldc 76, 2)) (h3 : decode cc (pc + 6) = .ok (.invokespecial 78, 3)) (h4 : decode cc (pc + 9) = .ok (.athrow, 1)) : am_Ok nm D cA B0 sb H00 Th cc "TokenMouth" mn [] rt pc (ac_throw 0) := sorry
theorem ok_throw_88_86 (h0 : decode cc pc = .ok (.new 84, 3)) (h1 : decode cc (pc + 3) = .ok (.dup, 1)) (h2 : decode cc (pc + 4) = .ok (.ldc 86, 2)) (h3 : decode cc (pc + 6) = .ok (.invokespecial 88, 3)) (h4 : decode cc (pc + 9) = .ok (.athrow, 1)) : am_Ok nm D cA B0 sb H00 Th cc "TokenMouth" mn [] rt pc (ac_throw 1) := sorry
theorem ok_throw_110_108 (h0 : decode cc pc = .ok (.new 106, 3)) (h1 : decode cc (pc + 3) = .ok (.dup, 1)) (h2 : decode cc (pc + 4) = .ok (.ldc 108, 2)) (h3 : decode cc (pc + 6) = .ok (.invokespecial 110, 3)) (h4 : decode cc (pc + 9) = .ok (.athrow, 1)) : am_Ok nm D cA B0 sb H00 Th cc "TokenMouth" mn [] rt pc (ac_throw 2) := sorry
theorem ok_throw_110_117 (h0 : decode cc pc = .ok (.new 106, 3)) (h1 : decode cc (pc + 3) = .ok (.dup, 1)) (h2 : decode cc (pc + 4) = .ok (.ldc 117, 2)) (h3 : decode cc (pc + 6) = .ok (.invokespecial 110, 3)) (h4 : decode cc (pc + 9) = .ok (.athrow, 1)) : am_Ok nm D cA B0 sb H00 Th cc "TokenMouth" mn [] rt pc (ac_throw 2) := sorry
theorem ok_throw_110_129 (h0 : decode cc pc = .ok (.new 106, 3)) (h1 : decode cc (pc + 3) = .ok (.dup, 1)) (h2 : decode cc (pc + 4) = .ok (.ldc 129, 2)) (h3 : decode cc (pc + 6) = .ok (.invokespecial 110, 3)) (h4 : decode cc (pc + 9) = .ok (.athrow, 1)) : am_Ok nm D cA B0 sb H00 Th cc "TokenMouth" mn [] rt pc (ac_throw 2) := sorry
theorem ok_throw_110_135 (h0 : decode cc pc = .ok (.new 106, 3)) (h1 : decode cc (pc + 3) = .ok (.dup, 1)) (h2 : decode cc (pc + 4) = .ok (.ldc 135, 2)) (h3 : decode cc (pc + 6) = .ok (.invokespecial 110, 3)) (h4 : decode cc (pc + 9) = .ok (.athrow, 1)) : am_Ok nm D cA B0 sb H00 Th cc "TokenMouth" mn [] rt pc (ac_throw 2) := sorry
theorem ok_throw_88_163 (h0 : decode cc pc = .ok (.new 84, 3)) (h1 : decode cc (pc + 3) = .ok (.dup, 1)) (h2 : decode cc (pc + 4) = .ok (.ldc 163, 2)) (h3 : decode cc (pc + 6) = .ok (.invokespecial 88, 3)) (h4 : decode cc (pc + 9) = .ok (.athrow, 1)) : am_Ok nm D cA B0 sb H00 Th cc "TokenMouth" mn [] rt pc (ac_throw 1) := sorry
theorem ok_throw_173_171 (h0 : decode cc pc = .ok (.new 169, 3)) (h1 : decode cc (pc + 3) = .ok (.dup, 1)) (h2 : decode cc (pc + 4) = .ok (.ldc 171, 2)) (h3 : decode cc (pc + 6) = .ok (.invokespecial 173, 3)) (h4 : decode cc (pc + 9) = .ok (.athrow, 1)) : am_Ok nm D cA B0 sb H00 Th cc "TokenMouth" mn [] rt pc (ac_throw 3) := sorry
def k_hd154 : Nat → Option (Nat × Nat) := fun k => bif Nat.beq k 0 then some (13, 3) else bif Nat.beq k 1 then some (16, 3) else none
theorem ok_HD154 : am_Ok k_nm D cA B0 sb H00 Th method_3_code "TokenMouthLaw" "run" [(0, 9, 12, 13), (0, 9, 15, 15)] (some .int) 4 (ac_callV 5 40 2 7 k_hd154) := sorry
def k_hd155 : Nat → Option (Nat × Nat) := fun k => bif Nat.beq k 2 then some (13, 3) else none
theorem ok_HD155 : am_Ok k_nm D cA B0 sb H00 Th method_4_code "TokenMouthLaw" "fault" [(0, 9, 12, 20)] (some .int) 4 (ac_callV 5 41 2 7 k_hd155) := sorry
def k_hd156 : Nat → Option (Nat × Nat) := fun k => bif Nat.beq k 2 then some (13, 3) else none
theorem ok_HD156 : am_Ok k_nm D cA B0 sb H00 Th method_5_code "TokenMouthLaw" "out" [(0, 9, 12, 20)] (some .int) 4 (ac_callV 5 42 2 7 k_hd156) := sorry
def k_hd157 : Nat → Option (Nat × Nat) := fun k => bif Nat.beq k 2 then some (13, 3) else none
theorem ok_HD157 : am_Ok k_nm D cA B0 sb H00 Th method_6_code "TokenMouthLaw" "count" [(0, 9, 12, 20)] (some .int) 4 (ac_callV 5 43 2 7 k_hd157) := sorry
def k_hd158 : Nat → Option (Nat × Nat) := fun k => bif Nat.beq k 2 then some (13, 3) else none
theorem ok_HD158 : am_Ok k_nm D cA B0 sb H00 Th method_7_code "TokenMouthLaw" "category" [(0, 9, 12, 20)] (some .int) 4 (ac_callV 5 44 2 7 k_hd158) := sorry
def k_hd159 : Nat → Option (Nat × Nat) := fun k => bif Nat.beq k 3 then some (16, 5) else none
theorem ok_HD159 : am_Ok k_nm D cA B0 sb H00 Th method_8_code "TokenMouthLaw" "meaning" [(0, 11, 14, 35)] (some .int) 6 (ac_callV 5 45 3 9 k_hd159) := sorry
def k_hd160 : Nat → Option (Nat × Nat) := fun k => bif Nat.beq k 3 then some (18, 6) else none
theorem ok_HD160 : am_Ok k_nm D cA B0 sb H00 Th method_9_code "TokenMouthLaw" "detail" [(0, 13, 16, 35)] (some .int) 8 (ac_callV 5 46 4 11 k_hd160) := sorry
theorem ok_callSW {y n0 idx maxL : Nat} {bytes : ByteArray} {ret : Option FieldType} {hh : List (Nat × Nat × Nat × Nat)} (hd : decode cc pc = .ok (.invokestatic idx, 3)) (h1 : Cond.methodLink own idx (nm y) ∈ am_ws) (h2 : Cond.static (nm y) ∈ am_ws) (h3 : Cond.initialized (nm y).cls ∈ am_ws) (h4 : Cond.codeWith (nm y) bytes maxL ret hh ∈ am_ws) (h5 : ((nm y).cls != "java/lang/invoke/MethodHandle" && (nm y).cls != "java/lang/invoke/VarHandle") = true) (h6 : (parseMethodDescriptor (nm y).desc).map (fun d => d.parameters.length) = some n0) : am_Ok nm D cA B0 sb H00 Th cc own mn [] rt pc (ac_callS y n0 (pc + 3)) := sorry
end
