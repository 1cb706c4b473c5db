section
variable {nm : Nat → MethodName} {D : va_G} {cA : Nat → ClassId} {B0 sb : Nat} {H00 : Heap} {Th : State → Prop} {cc : ByteArray} {own mn : String} {eh : List (Nat × Nat × Nat × Nat)} {rt : Option FieldType} {pc n v : Nat}
theorem ok_copy : am_Ok nm D cA B0 sb H00 Th cc own mn eh rt pc (ac_copy n) := sorry
theorem ok_slen : am_Ok nm D cA B0 sb H00 Th cc own mn eh rt pc (ac_slen n) := sorry
theorem ok_schr : am_Ok nm D cA B0 sb H00 Th cc own mn eh rt pc (ac_schr v n) := sorry
end
