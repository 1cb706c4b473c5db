/-! arraycopy of ints -/
section CPY
variable {nm : Nat → MethodName} {D : va_G} {cA : Nat → ClassId} {B0 : Nat} {sb : Nat → Option Nat} {H00 : Heap} {Th : State → Prop} {cc : ByteArray} {own mn : String} {eh : List (Nat × Nat × Nat × Nat)} {rt : Option FieldType} {pc : Nat}
theorem am_nn {z : Int32} (hz : ¬ z < 0) : z.toInt = (z.toNatClampNeg : Int) := by
  have hz0 : (0 : Int) ≤ z.toInt := by
    have := Int32.not_lt.mp hz
    simpa using Int32.le_iff_toInt_le.mp this
  show z.toInt = ((z.toInt.toNat : Nat) : Int)
  omega
theorem ok_copy {idx : Nat} (hd : decode cc pc = .ok (.invokestatic idx, 3)) (h1 : Cond.methodLink own idx arraycopyName ∈ am_ws) (h2 : Cond.native arraycopyName ∈ am_ws) (h3 : Cond.static arraycopyName ∈ am_ws) (h4 : Cond.initialized "java/lang/System" ∈ am_ws) : am_Ok nm D cA B0 sb H00 Th cc own mn eh rt pc (ac_copy (pc + 3)) := by
  refine ok_condM fun ls st M res h => ?_
  unfold ac_copy at h
  split at h
  next len dp kb sp ka r =>
    split at h
    next n0 n1 hsa hsb =>
      split at h
      next hr =>
        cases h
        refine ⟨_, _, _, _, rfl, rfl, ?_⟩
        intro p l e R s m args below meth c H locs cells slots Q real C hml hR hS hcd kk
        obtain ⟨g1, g2, g3, g4, g5⟩ := hcd
        obtain ⟨-, hat0⟩ := am_at_arr (by decide) (hR.1 ka _ hsa)
        obtain ⟨h5, hat1⟩ := am_at_arr (by decide) (hR.1 kb _ hsb)
        have hts := C.2.2.2.2.2.1
        have hKK := C.2.2.2.2.2.2.1.1
        intro T hT X
        have hc0 : H[B0 + ka]? = some (vp_cell (cA 0) (n0, .inl (M.1 ka))) := hat0
        have hc1 : H[B0 + kb]? = some (vp_cell (cA 0) (n1, .inl (M.1 kb))) := hat1
        obtain ⟨-, k0, hk0, cm0, hkk0⟩ := (hKK.2 0 _ rfl).1 n0 (fun j => .int (M.1 ka j))
        obtain ⟨-, k1, hk1, cm1, hkk1⟩ := (hKK.2 0 _ rfl).1 n1 (fun j => .int (M.1 kb j))
        have h9 := C.2.2.2.2.2.2.2.2.2.1
        have h8 : ((r.map (am_val B0 sb)).map fun v => v.category).sum ≤ 8 := by rw [am_cats]; exact hr
        obtain ⟨vm', X', step⟩ := X.arraycopy C.1 C.2.2.2.2.1 (hts _ h1) (hts _ h2) (hts _ h3) (hts _ h4) (src := B0 + ka) (dst := B0 + kb) (cs := vp_cell (cA 0) (n0, .inl (M.1 ka))) (cd := vp_cell (cA 0) (n1, .inl (M.1 kb))) (srcPos := sp) (destPos := dp) (n := len) (by rw [hT]; exact hc0) (by rw [hT]; exact hc1)
          (fun _ h => by cases h) (fun _ h => by cases h) (fun h => by cases h) (fun h => by cases h) hk0 hk1 hkk0 hkk1 rfl g1 g2 g3
          (by rw [am_nn g1, am_nn g3]; show ¬ _ > ((arrV (cA 0) n0 (fun j => .int (M.1 ka j))).slots.size : Int); rw [arrV_size]; omega)
          (by rw [am_nn g2, am_nn g3]; show ¬ _ > ((arrV (cA 0) n1 (fun j => .int (M.1 kb j))).slots.size : Int); rw [arrV_size]; omega)
          (fun vm₁ _ i hi => by
            have e : (vp_cell (cA 0) (n0, .inl (M.1 ka))).slots.getD (sp.toNatClampNeg + i) .null = .int (M.1 ka (sp.toNatClampNeg + i)) := by
              show (arrV (cA 0) n0 (fun j => .int (M.1 ka j))).slots.getD _ _ = _
              rw [Array.getD_eq_getD_getElem?, arrV_read _ _ (by omega)]
              rfl
            refine ⟨?_, ?_⟩
            · rw [e]
              rfl
            · rw [e]
              exact trivial)
          (g := F0 m pc real (.int len :: .int dp :: .ref (B0 + kb) :: .int sp :: .ref (B0 + ka) :: r.map (am_val B0 sb))) rfl (by show real.size = _; rw [hml]) (rest := r.map (am_val B0 sb)) rfl (by rw [C.2.1]; exact hd) (by have := C.2.2.2.2.2.2.2.2.1; omega) (by show 2 * 0 + _ + (nativeFrameWords "java/lang/System" "arraycopy" 5 + 11) ≤ _; have h10 : nativeFrameWords "java/lang/System" "arraycopy" 5 + 11 ≤ 200 := (by decide); omega)
        have e1 : copied (vp_cell (cA 0) (n0, .inl (M.1 ka))) (vp_cell (cA 0) (n1, .inl (M.1 kb))) sp dp len = vp_cell (cA 0) (n1, .inl (va_cpy (M.1 ka) (M.1 kb) sp.toNatClampNeg dp.toNatClampNeg len.toNatClampNeg)) := va_copied (fun z => .int z) (cA 0) (cA 0) (M.1 ka) (M.1 kb) g4
        rw [e1] at X' step
        have hl : B0 + kb < H.size := (Array.getElem?_eq_some_iff.mp hc1).1
        have hheap : ((T.setVm vm').setCell (B0 + kb) (vp_cell (cA 0) (n1, .inl (va_cpy (M.1 ka) (M.1 kb) sp.toNatClampNeg dp.toNatClampNeg len.toNatClampNeg)))).heap = H.setIfInBounds (B0 + kb) (vp_cell (cA 0) (n1, .inl (va_cpy (M.1 ka) (M.1 kb) sp.toNatClampNeg dp.toNatClampNeg len.toNatClampNeg))) := by rw [← hT]; rfl
        have oq : ∀ q : Nat, q ≠ B0 + kb → (H.setIfInBounds (B0 + kb) (vp_cell (cA 0) (n1, .inl (va_cpy (M.1 ka) (M.1 kb) sp.toNatClampNeg dp.toNatClampNeg len.toNatClampNeg))))[q]? = H[q]? := fun q hq => by simp [Array.getElem?_setIfInBounds, Ne.symm hq]
        have hz : (H.setIfInBounds (B0 + kb) (vp_cell (cA 0) (n1, .inl (va_cpy (M.1 ka) (M.1 kb) sp.toNatClampNeg dp.toNatClampNeg len.toNatClampNeg)))).size = H.size := by simp
        obtain ⟨t, a1, b1⟩ := kk _ _ (am_arr_rel (k := kb) (kd := 0) (w := n1) hR hsb h5 rfl (fun q hq => am_u1_ne hq) (fun _ _ => rfl) (fun _ _ => rfl) hz oq (by
            show _ = some (vp_cell (cA 0) (n1, .inl (am_u1 M.1 kb (va_cpy (M.1 ka) (M.1 kb) sp.toNatClampNeg dp.toNatClampNeg len.toNatClampNeg) kb)))
            rw [am_u1_eq]
            simp [Array.getElem?_setIfInBounds, hl])) ⟨by rw [hz]; exact hS.1, fun q g1 g2 => by
              rw [oq q (fun e => g2 (by rw [e]; exact Nat.le_add_right _ _))]
              exact hS.2.1 q g1 g2, fun q hq => by
              rcases List.mem_append.mp hq with h | h
              · exact hS.2.2 q h
              · obtain ⟨z, -, hz⟩ := List.mem_map.mp h
                rw [← hz]
                exact Nat.le_add_right _ _⟩ _ hheap X'
        exact ⟨t, step t a1, b1⟩
      next => cases h
    next => cases h
  next => cases h
end CPY
