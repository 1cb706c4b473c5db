/-! what the methods mean; printed by wip/whole/dec.py -/
-- 119: TokenMouthModel.longArgument(IIII)V
def w_mLongArgument_0 (n d : Nat) (a1 : Int) (a2 : Int) (a3 : Int) (a4 : Int) (D : z_D) (H9 : Int → Int → Int → Int → Int → Bool → Int → z_D → Prop) (K : z_D → Prop) (T : Nat → z_D → Prop) : Prop :=
  H9 a1 a2 a3 a4 0 false 1 D
theorem v_mLongArgument_0 {n d : Nat} {X : z_Xt} {a1 : Int} {a2 : Int} {a3 : Int} {a4 : Int}  {D : z_D} {H9 : Int → Int → Int → Int → Int → Bool → Int → z_D → Prop} {K : z_D → Prop} {T : Nat → z_D → Prop} (hH9 : ∀ (a1 : Int) (a2 : Int) (a3 : Int) (a4 : Int) (a5 : Int) (b6 : Bool) (a7 : Int) (o8 : Option Value) (o9 : Option Value) (D : z_D), z_nl o8 → z_nl o9 → H9 a1 a2 a3 a4 a5 b6 a7 D → z_w n d (k_tb 119) X 9 [some (.ref 336), some (.int (z_i a1)), some (.int (z_i a2)), some (.int (z_i a3)), some (.int (z_i a4)), some (.int (z_i a5)), some (.int (z_i (z_b b6))), some (.int (z_i a7)), o8, o9, none] [] D (z_qV K T)) (h : w_mLongArgument_0 n d a1 a2 a3 a4 D H9 K T) : z_w n d (k_tb 119) X 0 [some (.ref 336), some (.int (z_i a1)), some (.int (z_i a2)), some (.int (z_i a3)), some (.int (z_i a4)), none, none, none, none, none, none] [] D (z_qV K T) := by
  unfold w_mLongArgument_0 at h
  refine zs_pushI (0) rfl rfl ?_
  refine zs_istore (ls1 := [some (.ref 336), some (.int (z_i a1)), some (.int (z_i a2)), some (.int (z_i a3)), some (.int (z_i a4)), some (.int (z_i 0)), none, none, none, none, none]) rfl rfl rfl ?_
  refine zs_pushI (0) rfl rfl ?_
  refine zs_istore (ls1 := [some (.ref 336), some (.int (z_i a1)), some (.int (z_i a2)), some (.int (z_i a3)), some (.int (z_i a4)), some (.int (z_i 0)), some (.int (z_i 0)), none, none, none, none]) rfl rfl rfl ?_
  refine zs_pushI (1) rfl rfl ?_
  refine zs_istore (ls1 := [some (.ref 336), some (.int (z_i a1)), some (.int (z_i a2)), some (.int (z_i a3)), some (.int (z_i a4)), some (.int (z_i 0)), some (.int (z_i 0)), some (.int (z_i 1)), none, none, none]) rfl rfl rfl ?_
  exact hH9 _ _ _ _ _ _ _ _ _ _ (by first | assumption | exact trivial) (by first | assumption | exact trivial) h
def w_mLongArgument_79 (n d : Nat) (a1 : Int) (a2 : Int) (a3 : Int) (a4 : Int) (a7 : Int) (s0 : Int) (s1 : Int) (D : z_D) (H9 : Int → Int → Int → Int → Int → Bool → Int → z_D → Prop) (K : z_D → Prop) (T : Nat → z_D → Prop) : Prop :=
  (z_r (s0 + s1)) ∧
  ((¬ (s0 + s1) = 0) →
    H9 a1 a2 a3 a4 (s0 + s1) false (a7 + 1) D) ∧
  (((s0 + s1) = 0) →
    z_c n d 115 [.ref 336, .int (z_i a1), .int (z_i a2), .int (z_i a3), .int (z_i a4)] D (z_qZ (fun v3 D2 => 
      ((v3 = false) →
        H9 a1 a2 a3 a4 (s0 + s1) false (a7 + 1) D2) ∧
      ((v3 = true) →
        H9 a1 a2 a3 a4 (s0 + s1) true (a7 + 1) D2)) T))
theorem v_mLongArgument_79 {n d : Nat} {X : z_Xt} {a1 : Int} {a2 : Int} {a3 : Int} {a4 : Int} {a7 : Int} {s0 : Int} {s1 : Int} {o5 : Option Value} {o6 : Option Value} {o8 : Option Value} {o9 : Option Value} {D : z_D} {H9 : Int → Int → Int → Int → Int → Bool → Int → z_D → Prop} {K : z_D → Prop} {T : Nat → z_D → Prop} (hH9 : ∀ (a1 : Int) (a2 : Int) (a3 : Int) (a4 : Int) (a5 : Int) (b6 : Bool) (a7 : Int) (o8 : Option Value) (o9 : Option Value) (D : z_D), z_nl o8 → z_nl o9 → H9 a1 a2 a3 a4 a5 b6 a7 D → z_w n d (k_tb 119) X 9 [some (.ref 336), some (.int (z_i a1)), some (.int (z_i a2)), some (.int (z_i a3)), some (.int (z_i a4)), some (.int (z_i a5)), some (.int (z_i (z_b b6))), some (.int (z_i a7)), o8, o9, none] [] D (z_qV K T)) (n5 : z_nl o5) (n6 : z_nl o6) (n8 : z_nl o8) (n9 : z_nl o9) (h : w_mLongArgument_79 n d a1 a2 a3 a4 a7 s0 s1 D H9 K T) : z_w n d (k_tb 119) X 79 [some (.ref 336), some (.int (z_i a1)), some (.int (z_i a2)), some (.int (z_i a3)), some (.int (z_i a4)), o5, o6, some (.int (z_i a7)), o8, o9, none] [.int (z_i s1), .int (z_i s0)] D (z_qV K T) := by
  unfold w_mLongArgument_79 at h
  refine zs_add (a := s0) (b := s1) rfl ?_
  refine zs_istore (ls1 := [some (.ref 336), some (.int (z_i a1)), some (.int (z_i a2)), some (.int (z_i a3)), some (.int (z_i a4)), some (.int (z_i (s0 + s1))), o6, some (.int (z_i a7)), o8, o9, none]) rfl rfl rfl ?_
  refine zs_iload rfl rfl ?_
  obtain ⟨g1, h⟩ := h
  obtain ⟨h6, h7⟩ := h
  refine zs_ifne rfl g1 (fun c => ?_) (fun c => ?_)
  · have h := h6 c
    refine zs_pushI (0) rfl rfl ?_
    refine zs_istore (ls1 := [some (.ref 336), some (.int (z_i a1)), some (.int (z_i a2)), some (.int (z_i a3)), some (.int (z_i a4)), some (.int (z_i (s0 + s1))), some (.int (z_i 0)), some (.int (z_i a7)), o8, o9, none]) rfl rfl rfl ?_
    refine zs_iinc (a := a7) (1) (ls1 := [some (.ref 336), some (.int (z_i a1)), some (.int (z_i a2)), some (.int (z_i a3)), some (.int (z_i a4)), some (.int (z_i (s0 + s1))), some (.int (z_i 0)), some (.int (z_i (a7 + 1))), o8, o9, none]) rfl rfl rfl rfl ?_
    refine zs_goto rfl ?_
    exact hH9 _ _ _ _ _ _ _ _ _ _ (by first | assumption | exact trivial) (by first | assumption | exact trivial) h
  · have h := h7 c
    refine zs_aload rfl rfl ?_
    refine zs_iload rfl rfl ?_
    refine zs_iload rfl rfl ?_
    refine zs_iload rfl rfl ?_
    refine zs_iload rfl rfl ?_
    refine z_callV (k := 336) (as0 := [.int (z_i a1), .int (z_i a2), .int (z_i a3), .int (z_i a4)]) (r := []) rfl rfl rfl (Nat.le_of_ble_eq_true rfl) (z_oZ h (fun v3 D2 h => ?_) (fun _ _ h => h))
    obtain ⟨h4, h5⟩ := h
    refine zs_beq rfl (fun c => ?_) (fun c => ?_)
    · have h := h4 c
      refine zs_pushI (0) rfl rfl ?_
      refine zs_istore (ls1 := [some (.ref 336), some (.int (z_i a1)), some (.int (z_i a2)), some (.int (z_i a3)), some (.int (z_i a4)), some (.int (z_i (s0 + s1))), some (.int (z_i 0)), some (.int (z_i a7)), o8, o9, none]) rfl rfl rfl ?_
      refine zs_iinc (a := a7) (1) (ls1 := [some (.ref 336), some (.int (z_i a1)), some (.int (z_i a2)), some (.int (z_i a3)), some (.int (z_i a4)), some (.int (z_i (s0 + s1))), some (.int (z_i 0)), some (.int (z_i (a7 + 1))), o8, o9, none]) rfl rfl rfl rfl ?_
      refine zs_goto rfl ?_
      exact hH9 _ _ _ _ _ _ _ _ _ _ (by first | assumption | exact trivial) (by first | assumption | exact trivial) h
    · have h := h5 c
      refine zs_pushI (1) rfl rfl ?_
      refine zs_goto rfl ?_
      refine zs_istore (ls1 := [some (.ref 336), some (.int (z_i a1)), some (.int (z_i a2)), some (.int (z_i a3)), some (.int (z_i a4)), some (.int (z_i (s0 + s1))), some (.int (z_i 1)), some (.int (z_i a7)), o8, o9, none]) rfl rfl rfl ?_
      refine zs_iinc (a := a7) (1) (ls1 := [some (.ref 336), some (.int (z_i a1)), some (.int (z_i a2)), some (.int (z_i a3)), some (.int (z_i a4)), some (.int (z_i (s0 + s1))), some (.int (z_i 1)), some (.int (z_i (a7 + 1))), o8, o9, none]) rfl rfl rfl rfl ?_
      refine zs_goto rfl ?_
      exact hH9 _ _ _ _ _ _ _ _ _ _ (by first | assumption | exact trivial) (by first | assumption | exact trivial) h
def w_mLongArgument_205 (n d : Nat) (a1 : Int) (a7 : Int) (a8 : Int) (s0 : Int) (s1 : Int) (D : z_D) (H162 : Int → Int → Int → Int → z_D → Prop) (H226 : Int → Int → Int → z_D → Prop) (K : z_D → Prop) (T : Nat → z_D → Prop) : Prop :=
  (z_r (s0 + s1)) ∧
  ((0 < (s0 + s1)) →
    H162 a1 a7 (a8 + 1) (s0 + s1) D) ∧
  (((s0 + s1) ≤ 0) →
    (z_r (a8 + 1)) ∧ (z_r a7) ∧
    ((¬ (a8 + 1) = a7) →
      K D) ∧
    (((a8 + 1) = a7) →
      H226 a1 a7 1 D))
theorem v_mLongArgument_205 {n d : Nat} {X : z_Xt} {a1 : Int} {a7 : Int} {a8 : Int} {s0 : Int} {s1 : Int} {o2 : Option Value} {o3 : Option Value} {o4 : Option Value} {o5 : Option Value} {o6 : Option Value} {o9 : Option Value} {o10 : Option Value} {D : z_D} {H162 : Int → Int → Int → Int → z_D → Prop} {H226 : Int → Int → Int → z_D → Prop} {K : z_D → Prop} {T : Nat → z_D → Prop} (hH162 : ∀ (a1 : Int) (a7 : Int) (a8 : Int) (a9 : Int) (o2 : Option Value) (o3 : Option Value) (o4 : Option Value) (o5 : Option Value) (o6 : Option Value) (o10 : Option Value) (D : z_D), z_nl o2 → z_nl o3 → z_nl o4 → z_nl o5 → z_nl o6 → z_nl o10 → H162 a1 a7 a8 a9 D → z_w n d (k_tb 119) X 162 [some (.ref 336), some (.int (z_i a1)), o2, o3, o4, o5, o6, some (.int (z_i a7)), some (.int (z_i a8)), some (.int (z_i a9)), o10] [] D (z_qV K T)) (hH226 : ∀ (a1 : Int) (a7 : Int) (a10 : Int) (o2 : Option Value) (o3 : Option Value) (o4 : Option Value) (o5 : Option Value) (o6 : Option Value) (o8 : Option Value) (o9 : Option Value) (D : z_D), z_nl o2 → z_nl o3 → z_nl o4 → z_nl o5 → z_nl o6 → z_nl o8 → z_nl o9 → H226 a1 a7 a10 D → z_w n d (k_tb 119) X 226 [some (.ref 336), some (.int (z_i a1)), o2, o3, o4, o5, o6, some (.int (z_i a7)), o8, o9, some (.int (z_i a10))] [] D (z_qV K T)) (n2 : z_nl o2) (n3 : z_nl o3) (n4 : z_nl o4) (n5 : z_nl o5) (n6 : z_nl o6) (n9 : z_nl o9) (n10 : z_nl o10) (h : w_mLongArgument_205 n d a1 a7 a8 s0 s1 D H162 H226 K T) : z_w n d (k_tb 119) X 205 [some (.ref 336), some (.int (z_i a1)), o2, o3, o4, o5, o6, some (.int (z_i a7)), some (.int (z_i a8)), o9, o10] [.int (z_i s1), .int (z_i s0)] D (z_qV K T) := by
  unfold w_mLongArgument_205 at h
  refine zs_add (a := s0) (b := s1) rfl ?_
  refine zs_istore (ls1 := [some (.ref 336), some (.int (z_i a1)), o2, o3, o4, o5, o6, some (.int (z_i a7)), some (.int (z_i a8)), some (.int (z_i (s0 + s1))), o10]) rfl rfl rfl ?_
  refine zs_iinc (a := a8) (1) (ls1 := [some (.ref 336), some (.int (z_i a1)), o2, o3, o4, o5, o6, some (.int (z_i a7)), some (.int (z_i (a8 + 1))), some (.int (z_i (s0 + s1))), o10]) rfl rfl rfl rfl ?_
  refine zs_iload rfl rfl ?_
  obtain ⟨g1, h⟩ := h
  obtain ⟨h6, h7⟩ := h
  refine zs_ifgt rfl g1 (fun c => ?_) (fun c => ?_)
  · have h := h6 c
    exact hH162 _ _ _ _ _ _ _ _ _ _ _ (by first | assumption | exact trivial) (by first | assumption | exact trivial) (by first | assumption | exact trivial) (by first | assumption | exact trivial) (by first | assumption | exact trivial) (by first | assumption | exact trivial) h
  · have h := h7 c
    refine zs_iload rfl rfl ?_
    refine zs_iload rfl rfl ?_
    obtain ⟨g2, g3, h⟩ := h
    obtain ⟨h4, h5⟩ := h
    refine zs_cne rfl g2 g3 (fun c => ?_) (fun c => ?_)
    · have h := h4 c
      exact zs_ret rfl h
    · have h := h5 c
      refine zs_pushI (1) rfl rfl ?_
      refine zs_istore (ls1 := [some (.ref 336), some (.int (z_i a1)), o2, o3, o4, o5, o6, some (.int (z_i a7)), some (.int (z_i (a8 + 1))), some (.int (z_i (s0 + s1))), some (.int (z_i 1))]) rfl rfl rfl ?_
      exact hH226 _ _ _ _ _ _ _ _ _ _ _ (by first | assumption | exact trivial) (by first | assumption | exact trivial) (by first | assumption | exact trivial) (by first | assumption | exact trivial) (by first | assumption | exact trivial) (by first | assumption | exact trivial) (by first | assumption | exact trivial) h
def w_mLongArgument_9 (n d : Nat) (a1 : Int) (a2 : Int) (a3 : Int) (a4 : Int) (a5 : Int) (b6 : Bool) (a7 : Int) (D : z_D) (H9 : Int → Int → Int → Int → Int → Bool → Int → z_D → Prop) (H162 : Int → Int → Int → Int → z_D → Prop) (K : z_D → Prop) (T : Nat → z_D → Prop) : Prop :=
  ((b6 = true) →
    (0 ≤ a1 ∧ a1 < 4) ∧
    (0 ≤ a1 ∧ a1 < 4) ∧
    ∀ D3, D3 = z_uz D 361 (Int.toNat a1) ((D.1 361 (Int.toNat a1)) - (a4 - a3)) →
    (0 ≤ a1 ∧ a1 < 4) ∧
    (z_r (D3.1 361 (Int.toNat a1))) ∧
    (((D3.1 361 (Int.toNat a1)) < 2) →
      K D3) ∧
    ((2 ≤ (D3.1 361 (Int.toNat a1))) →
      (0 ≤ (42 * a1) ∧ (42 * a1) < 168) ∧
      z_c n d 110 [.int (z_i (D3.1 360 (Int.toNat (42 * a1)))), .int (z_i 1)] D3 (z_qZ (fun v8 D7 => 
        ((v8 = true) →
          H162 a1 (D3.1 361 (Int.toNat a1)) 0 0 D7) ∧
        ((v8 = false) →
          K D7)) T))) ∧
  ((b6 = false) →
    z_c n d 104 [.ref 336] D (z_qI (fun v14 D13 => 
      z_c n d 116 [.ref 336, .int (z_i v14), .int (z_i a7), .int (z_i a2), .int (z_i a3), .int (z_i a4), .int (z_i a5)] D13 (z_qI (fun v16 D15 => 
        (z_r v16) ∧
        ((¬ v16 = (-1)) →
          z_c n d 117 [.ref 336, .int (z_i a1), .int (z_i v16)] D15 (z_qV (fun D18 => 
            z_c n d 110 [.int (z_i v16), .int (z_i 1)] D18 (z_qZ (fun v20 D19 => 
              ((v20 = false) →
                z_c n d 110 [.int (z_i v16), .int (z_i 2)] D19 (z_qZ (fun v22 D21 => 
                  ((v22 = false) →
                    w_mLongArgument_79 n d a1 a2 a3 a4 a7 a5 0 D21 H9 K T) ∧
                  ((v22 = true) →
                    w_mLongArgument_79 n d a1 a2 a3 a4 a7 a5 (-1) D21 H9 K T)) T)) ∧
              ((v20 = true) →
                w_mLongArgument_79 n d a1 a2 a3 a4 a7 a5 1 D19 H9 K T)) T)) T)) ∧
        ((v16 = (-1)) →
          K D15)) T)) T))
theorem v_mLongArgument_9 {n d : Nat} {X : z_Xt} {a1 : Int} {a2 : Int} {a3 : Int} {a4 : Int} {a5 : Int} {b6 : Bool} {a7 : Int} {o8 : Option Value} {o9 : Option Value} {D : z_D} {H9 : Int → Int → Int → Int → Int → Bool → Int → z_D → Prop} {H162 : Int → Int → Int → Int → z_D → Prop} {K : z_D → Prop} {T : Nat → z_D → Prop} (hH9 : ∀ (a1 : Int) (a2 : Int) (a3 : Int) (a4 : Int) (a5 : Int) (b6 : Bool) (a7 : Int) (o8 : Option Value) (o9 : Option Value) (D : z_D), z_nl o8 → z_nl o9 → H9 a1 a2 a3 a4 a5 b6 a7 D → z_w n d (k_tb 119) X 9 [some (.ref 336), some (.int (z_i a1)), some (.int (z_i a2)), some (.int (z_i a3)), some (.int (z_i a4)), some (.int (z_i a5)), some (.int (z_i (z_b b6))), some (.int (z_i a7)), o8, o9, none] [] D (z_qV K T)) (hH162 : ∀ (a1 : Int) (a7 : Int) (a8 : Int) (a9 : Int) (o2 : Option Value) (o3 : Option Value) (o4 : Option Value) (o5 : Option Value) (o6 : Option Value) (o10 : Option Value) (D : z_D), z_nl o2 → z_nl o3 → z_nl o4 → z_nl o5 → z_nl o6 → z_nl o10 → H162 a1 a7 a8 a9 D → z_w n d (k_tb 119) X 162 [some (.ref 336), some (.int (z_i a1)), o2, o3, o4, o5, o6, some (.int (z_i a7)), some (.int (z_i a8)), some (.int (z_i a9)), o10] [] D (z_qV K T)) (n8 : z_nl o8) (n9 : z_nl o9) (h : w_mLongArgument_9 n d a1 a2 a3 a4 a5 b6 a7 D H9 H162 K T) : z_w n d (k_tb 119) X 9 [some (.ref 336), some (.int (z_i a1)), some (.int (z_i a2)), some (.int (z_i a3)), some (.int (z_i a4)), some (.int (z_i a5)), some (.int (z_i (z_b b6))), some (.int (z_i a7)), o8, o9, none] [] D (z_qV K T) := by
  unfold w_mLongArgument_9 at h
  refine zs_iload rfl rfl ?_
  obtain ⟨h29, h30⟩ := h
  refine zs_bne rfl (fun c => ?_) (fun c => ?_)
  · have h := h29 c
    refine zs_aload rfl rfl ?_
    refine zs_getR (x := 361) rfl rfl rfl ?_
    refine zs_iload rfl rfl ?_
    refine zs_dup2 rfl rfl rfl ?_
    obtain ⟨g1, h⟩ := h
    refine zs_iald rfl rfl (by decide) g1 ?_
    refine zs_iload rfl rfl ?_
    refine zs_iload rfl rfl ?_
    refine zs_sub (a := a4) (b := a3) rfl ?_
    refine zs_sub (a := (D.1 361 (Int.toNat a1))) (b := (a4 - a3)) rfl ?_
    obtain ⟨g2, h⟩ := h
    refine zs_iast rfl rfl (by decide) g2 (fun D3 eD3 => ?_)
    have h := h D3 eD3
    refine zs_aload rfl rfl ?_
    refine zs_getR (x := 361) rfl rfl rfl ?_
    refine zs_iload rfl rfl ?_
    obtain ⟨g4, h⟩ := h
    refine zs_iald rfl rfl (by decide) g4 ?_
    refine zs_istore (ls1 := [some (.ref 336), some (.int (z_i a1)), some (.int (z_i a2)), some (.int (z_i a3)), some (.int (z_i a4)), some (.int (z_i a5)), some (.int (z_i (z_b b6))), some (.int (z_i (D3.1 361 (Int.toNat a1)))), o8, o9, none]) rfl rfl rfl ?_
    refine zs_iload rfl rfl ?_
    refine zs_pushI (2) rfl rfl ?_
    obtain ⟨g5, h⟩ := h
    obtain ⟨h11, h12⟩ := h
    refine zs_clt rfl g5 (z_rk rfl) (fun c => ?_) (fun c => ?_)
    · have h := h11 c
      exact zs_ret rfl h
    · have h := h12 c
      refine zs_aload rfl rfl ?_
      refine zs_getR (x := 360) rfl rfl rfl ?_
      refine zs_pushI (42) rfl rfl ?_
      refine zs_iload rfl rfl ?_
      refine zs_mul (a := 42) (b := a1) rfl ?_
      obtain ⟨g6, h⟩ := h
      refine zs_iald rfl rfl (by decide) g6 ?_
      refine zs_pushI (1) rfl rfl ?_
      refine z_callS (as0 := [.int (z_i (D3.1 360 (Int.toNat (42 * a1)))), .int (z_i 1)]) (r := []) rfl rfl (Nat.le_of_ble_eq_true rfl) (z_oZ h (fun v8 D7 h => ?_) (fun _ _ h => h))
      obtain ⟨h9, h10⟩ := h
      refine zs_bne rfl (fun c => ?_) (fun c => ?_)
      · have h := h9 c
        refine zs_pushI (0) rfl rfl ?_
        refine zs_istore (ls1 := [some (.ref 336), some (.int (z_i a1)), some (.int (z_i a2)), some (.int (z_i a3)), some (.int (z_i a4)), some (.int (z_i a5)), some (.int (z_i (z_b b6))), some (.int (z_i (D3.1 361 (Int.toNat a1)))), some (.int (z_i 0)), o9, none]) rfl rfl rfl ?_
        refine zs_pushI (0) rfl rfl ?_
        refine zs_istore (ls1 := [some (.ref 336), some (.int (z_i a1)), some (.int (z_i a2)), some (.int (z_i a3)), some (.int (z_i a4)), some (.int (z_i a5)), some (.int (z_i (z_b b6))), some (.int (z_i (D3.1 361 (Int.toNat a1)))), some (.int (z_i 0)), some (.int (z_i 0)), none]) rfl rfl rfl ?_
        exact hH162 _ _ _ _ _ _ _ _ _ _ _ (by first | assumption | exact trivial) (by first | assumption | exact trivial) (by first | assumption | exact trivial) (by first | assumption | exact trivial) (by first | assumption | exact trivial) (by first | assumption | exact trivial) h
      · have h := h10 c
        exact zs_ret rfl h
  · have h := h30 c
    refine zs_aload rfl rfl ?_
    refine z_callV (k := 336) (as0 := []) (r := []) rfl rfl rfl (Nat.le_of_ble_eq_true rfl) (z_oI h (fun v14 D13 h => ?_) (fun _ _ h => h))
    refine zs_istore (ls1 := [some (.ref 336), some (.int (z_i a1)), some (.int (z_i a2)), some (.int (z_i a3)), some (.int (z_i a4)), some (.int (z_i a5)), some (.int (z_i (z_b b6))), some (.int (z_i a7)), some (.int (z_i v14)), o9, none]) rfl rfl rfl ?_
    refine zs_aload rfl rfl ?_
    refine zs_iload rfl rfl ?_
    refine zs_iload rfl rfl ?_
    refine zs_iload rfl rfl ?_
    refine zs_iload rfl rfl ?_
    refine zs_iload rfl rfl ?_
    refine zs_iload rfl rfl ?_
    refine z_callV (k := 336) (as0 := [.int (z_i v14), .int (z_i a7), .int (z_i a2), .int (z_i a3), .int (z_i a4), .int (z_i a5)]) (r := []) rfl rfl rfl (Nat.le_of_ble_eq_true rfl) (z_oI h (fun v16 D15 h => ?_) (fun _ _ h => h))
    refine zs_istore (ls1 := [some (.ref 336), some (.int (z_i a1)), some (.int (z_i a2)), some (.int (z_i a3)), some (.int (z_i a4)), some (.int (z_i a5)), some (.int (z_i (z_b b6))), some (.int (z_i a7)), some (.int (z_i v14)), some (.int (z_i v16)), none]) rfl rfl rfl ?_
    refine zs_iload rfl rfl ?_
    refine zs_pushI (-1) rfl rfl ?_
    obtain ⟨g17, h⟩ := h
    obtain ⟨h27, h28⟩ := h
    refine zs_cne rfl g17 (z_rk rfl) (fun c => ?_) (fun c => ?_)
    · have h := h27 c
      refine zs_aload rfl rfl ?_
      refine zs_iload rfl rfl ?_
      refine zs_iload rfl rfl ?_
      refine z_callV (k := 336) (as0 := [.int (z_i a1), .int (z_i v16)]) (r := []) rfl rfl rfl (Nat.le_of_ble_eq_true rfl) (z_oV h (fun D18 h => ?_) (fun _ _ h => h))
      refine zs_iload rfl rfl ?_
      refine zs_iload rfl rfl ?_
      refine zs_pushI (1) rfl rfl ?_
      refine z_callS (as0 := [.int (z_i v16), .int (z_i 1)]) (r := [.int (z_i a5)]) rfl rfl (Nat.le_of_ble_eq_true rfl) (z_oZ h (fun v20 D19 h => ?_) (fun _ _ h => h))
      obtain ⟨h25, h26⟩ := h
      refine zs_beq rfl (fun c => ?_) (fun c => ?_)
      · have h := h25 c
        refine zs_iload rfl rfl ?_
        refine zs_pushI (2) rfl rfl ?_
        refine z_callS (as0 := [.int (z_i v16), .int (z_i 2)]) (r := [.int (z_i a5)]) rfl rfl (Nat.le_of_ble_eq_true rfl) (z_oZ h (fun v22 D21 h => ?_) (fun _ _ h => h))
        obtain ⟨h23, h24⟩ := h
        refine zs_beq rfl (fun c => ?_) (fun c => ?_)
        · have h := h23 c
          refine zs_pushI (0) rfl rfl ?_
          exact v_mLongArgument_79 hH9 (by first | assumption | exact trivial) (by first | assumption | exact trivial) (by first | assumption | exact trivial) (by first | assumption | exact trivial) h
        · have h := h24 c
          refine zs_pushI (-1) rfl rfl ?_
          refine zs_goto rfl ?_
          exact v_mLongArgument_79 hH9 (by first | assumption | exact trivial) (by first | assumption | exact trivial) (by first | assumption | exact trivial) (by first | assumption | exact trivial) h
      · have h := h26 c
        refine zs_pushI (1) rfl rfl ?_
        refine zs_goto rfl ?_
        exact v_mLongArgument_79 hH9 (by first | assumption | exact trivial) (by first | assumption | exact trivial) (by first | assumption | exact trivial) (by first | assumption | exact trivial) h
    · have h := h28 c
      exact zs_ret rfl h
def w_mLongArgument_162 (n d : Nat) (a1 : Int) (a7 : Int) (a8 : Int) (a9 : Int) (D : z_D) (H162 : Int → Int → Int → Int → z_D → Prop) (H226 : Int → Int → Int → z_D → Prop) (K : z_D → Prop) (T : Nat → z_D → Prop) : Prop :=
  (0 ≤ ((42 * a1) + a8) ∧ ((42 * a1) + a8) < 168) ∧
  z_c n d 110 [.int (z_i (D.1 360 (Int.toNat ((42 * a1) + a8)))), .int (z_i 1)] D (z_qZ (fun v3 D2 => 
    ((v3 = false) →
      z_c n d 110 [.int (z_i (D.1 360 (Int.toNat ((42 * a1) + a8)))), .int (z_i 2)] D2 (z_qZ (fun v5 D4 => 
        ((v5 = false) →
          w_mLongArgument_205 n d a1 a7 a8 a9 0 D4 H162 H226 K T) ∧
        ((v5 = true) →
          w_mLongArgument_205 n d a1 a7 a8 a9 (-1) D4 H162 H226 K T)) T)) ∧
    ((v3 = true) →
      w_mLongArgument_205 n d a1 a7 a8 a9 1 D2 H162 H226 K T)) T)
theorem v_mLongArgument_162 {n d : Nat} {X : z_Xt} {a1 : Int} {a7 : Int} {a8 : Int} {a9 : Int} {o2 : Option Value} {o3 : Option Value} {o4 : Option Value} {o5 : Option Value} {o6 : Option Value} {o10 : Option Value} {D : z_D} {H162 : Int → Int → Int → Int → z_D → Prop} {H226 : Int → Int → Int → z_D → Prop} {K : z_D → Prop} {T : Nat → z_D → Prop} (hH162 : ∀ (a1 : Int) (a7 : Int) (a8 : Int) (a9 : Int) (o2 : Option Value) (o3 : Option Value) (o4 : Option Value) (o5 : Option Value) (o6 : Option Value) (o10 : Option Value) (D : z_D), z_nl o2 → z_nl o3 → z_nl o4 → z_nl o5 → z_nl o6 → z_nl o10 → H162 a1 a7 a8 a9 D → z_w n d (k_tb 119) X 162 [some (.ref 336), some (.int (z_i a1)), o2, o3, o4, o5, o6, some (.int (z_i a7)), some (.int (z_i a8)), some (.int (z_i a9)), o10] [] D (z_qV K T)) (hH226 : ∀ (a1 : Int) (a7 : Int) (a10 : Int) (o2 : Option Value) (o3 : Option Value) (o4 : Option Value) (o5 : Option Value) (o6 : Option Value) (o8 : Option Value) (o9 : Option Value) (D : z_D), z_nl o2 → z_nl o3 → z_nl o4 → z_nl o5 → z_nl o6 → z_nl o8 → z_nl o9 → H226 a1 a7 a10 D → z_w n d (k_tb 119) X 226 [some (.ref 336), some (.int (z_i a1)), o2, o3, o4, o5, o6, some (.int (z_i a7)), o8, o9, some (.int (z_i a10))] [] D (z_qV K T)) (n2 : z_nl o2) (n3 : z_nl o3) (n4 : z_nl o4) (n5 : z_nl o5) (n6 : z_nl o6) (n10 : z_nl o10) (h : w_mLongArgument_162 n d a1 a7 a8 a9 D H162 H226 K T) : z_w n d (k_tb 119) X 162 [some (.ref 336), some (.int (z_i a1)), o2, o3, o4, o5, o6, some (.int (z_i a7)), some (.int (z_i a8)), some (.int (z_i a9)), o10] [] D (z_qV K T) := by
  unfold w_mLongArgument_162 at h
  refine zs_aload rfl rfl ?_
  refine zs_getR (x := 360) rfl rfl rfl ?_
  refine zs_pushI (42) rfl rfl ?_
  refine zs_iload rfl rfl ?_
  refine zs_mul (a := 42) (b := a1) rfl ?_
  refine zs_iload rfl rfl ?_
  refine zs_add (a := (42 * a1)) (b := a8) rfl ?_
  obtain ⟨g1, h⟩ := h
  refine zs_iald rfl rfl (by decide) g1 ?_
  refine zs_istore (ls1 := [some (.ref 336), some (.int (z_i a1)), o2, o3, o4, o5, o6, some (.int (z_i a7)), some (.int (z_i a8)), some (.int (z_i a9)), some (.int (z_i (D.1 360 (Int.toNat ((42 * a1) + a8)))))]) rfl rfl rfl ?_
  refine zs_iload rfl rfl ?_
  refine zs_iload rfl rfl ?_
  refine zs_pushI (1) rfl rfl ?_
  refine z_callS (as0 := [.int (z_i (D.1 360 (Int.toNat ((42 * a1) + a8)))), .int (z_i 1)]) (r := [.int (z_i a9)]) rfl rfl (Nat.le_of_ble_eq_true rfl) (z_oZ h (fun v3 D2 h => ?_) (fun _ _ h => h))
  obtain ⟨h8, h9⟩ := h
  refine zs_beq rfl (fun c => ?_) (fun c => ?_)
  · have h := h8 c
    refine zs_iload rfl rfl ?_
    refine zs_pushI (2) rfl rfl ?_
    refine z_callS (as0 := [.int (z_i (D.1 360 (Int.toNat ((42 * a1) + a8)))), .int (z_i 2)]) (r := [.int (z_i a9)]) rfl rfl (Nat.le_of_ble_eq_true rfl) (z_oZ h (fun v5 D4 h => ?_) (fun _ _ h => h))
    obtain ⟨h6, h7⟩ := h
    refine zs_beq rfl (fun c => ?_) (fun c => ?_)
    · have h := h6 c
      refine zs_pushI (0) rfl rfl ?_
      exact v_mLongArgument_205 hH162 hH226 (by first | assumption | exact trivial) (by first | assumption | exact trivial) (by first | assumption | exact trivial) (by first | assumption | exact trivial) (by first | assumption | exact trivial) (by first | assumption | exact trivial) (by first | assumption | exact trivial) h
    · have h := h7 c
      refine zs_pushI (-1) rfl rfl ?_
      refine zs_goto rfl ?_
      exact v_mLongArgument_205 hH162 hH226 (by first | assumption | exact trivial) (by first | assumption | exact trivial) (by first | assumption | exact trivial) (by first | assumption | exact trivial) (by first | assumption | exact trivial) (by first | assumption | exact trivial) (by first | assumption | exact trivial) h
  · have h := h9 c
    refine zs_pushI (1) rfl rfl ?_
    refine zs_goto rfl ?_
    exact v_mLongArgument_205 hH162 hH226 (by first | assumption | exact trivial) (by first | assumption | exact trivial) (by first | assumption | exact trivial) (by first | assumption | exact trivial) (by first | assumption | exact trivial) (by first | assumption | exact trivial) (by first | assumption | exact trivial) h
def w_mLongArgument_226 (n d : Nat) (a1 : Int) (a7 : Int) (a10 : Int) (D : z_D) (H226 : Int → Int → Int → z_D → Prop) (K : z_D → Prop) (T : Nat → z_D → Prop) : Prop :=
  (z_r a10) ∧ (z_r (a7 - 1)) ∧
  (((a7 - 1) ≤ a10) →
    (0 ≤ a1 ∧ a1 < 4) ∧
    ∀ D4, D4 = z_uz D 361 (Int.toNat a1) (a7 - 2) →
    K D4) ∧
  ((a10 < (a7 - 1)) →
    (0 ≤ ((42 * a1) + a10) ∧ ((42 * a1) + a10) < 168) ∧
    (0 ≤ (((42 * a1) + a10) - 1) ∧ (((42 * a1) + a10) - 1) < 168) ∧
    ∀ D7, D7 = z_uz D 360 (Int.toNat (((42 * a1) + a10) - 1)) (D.1 360 (Int.toNat ((42 * a1) + a10))) →
    H226 a1 a7 (a10 + 1) D7)
theorem v_mLongArgument_226 {n d : Nat} {X : z_Xt} {a1 : Int} {a7 : Int} {a10 : Int} {o2 : Option Value} {o3 : Option Value} {o4 : Option Value} {o5 : Option Value} {o6 : Option Value} {o8 : Option Value} {o9 : Option Value} {D : z_D} {H226 : Int → Int → Int → z_D → Prop} {K : z_D → Prop} {T : Nat → z_D → Prop} (hH226 : ∀ (a1 : Int) (a7 : Int) (a10 : Int) (o2 : Option Value) (o3 : Option Value) (o4 : Option Value) (o5 : Option Value) (o6 : Option Value) (o8 : Option Value) (o9 : Option Value) (D : z_D), z_nl o2 → z_nl o3 → z_nl o4 → z_nl o5 → z_nl o6 → z_nl o8 → z_nl o9 → H226 a1 a7 a10 D → z_w n d (k_tb 119) X 226 [some (.ref 336), some (.int (z_i a1)), o2, o3, o4, o5, o6, some (.int (z_i a7)), o8, o9, some (.int (z_i a10))] [] D (z_qV K T)) (n2 : z_nl o2) (n3 : z_nl o3) (n4 : z_nl o4) (n5 : z_nl o5) (n6 : z_nl o6) (n8 : z_nl o8) (n9 : z_nl o9) (h : w_mLongArgument_226 n d a1 a7 a10 D H226 K T) : z_w n d (k_tb 119) X 226 [some (.ref 336), some (.int (z_i a1)), o2, o3, o4, o5, o6, some (.int (z_i a7)), o8, o9, some (.int (z_i a10))] [] D (z_qV K T) := by
  unfold w_mLongArgument_226 at h
  refine zs_iload rfl rfl ?_
  refine zs_iload rfl rfl ?_
  refine zs_pushI (1) rfl rfl ?_
  refine zs_sub (a := a7) (b := 1) rfl ?_
  obtain ⟨g1, g2, h⟩ := h
  obtain ⟨h8, h9⟩ := h
  refine zs_cge rfl g1 g2 (fun c => ?_) (fun c => ?_)
  · have h := h8 c
    refine zs_aload rfl rfl ?_
    refine zs_getR (x := 361) rfl rfl rfl ?_
    refine zs_iload rfl rfl ?_
    refine zs_iload rfl rfl ?_
    refine zs_pushI (2) rfl rfl ?_
    refine zs_sub (a := a7) (b := 2) rfl ?_
    obtain ⟨g3, h⟩ := h
    refine zs_iast rfl rfl (by decide) g3 (fun D4 eD4 => ?_)
    have h := h D4 eD4
    exact zs_ret rfl h
  · have h := h9 c
    refine zs_aload rfl rfl ?_
    refine zs_getR (x := 360) rfl rfl rfl ?_
    refine zs_pushI (42) rfl rfl ?_
    refine zs_iload rfl rfl ?_
    refine zs_mul (a := 42) (b := a1) rfl ?_
    refine zs_iload rfl rfl ?_
    refine zs_add (a := (42 * a1)) (b := a10) rfl ?_
    refine zs_pushI (1) rfl rfl ?_
    refine zs_sub (a := ((42 * a1) + a10)) (b := 1) rfl ?_
    refine zs_aload rfl rfl ?_
    refine zs_getR (x := 360) rfl rfl rfl ?_
    refine zs_pushI (42) rfl rfl ?_
    refine zs_iload rfl rfl ?_
    refine zs_mul (a := 42) (b := a1) rfl ?_
    refine zs_iload rfl rfl ?_
    refine zs_add (a := (42 * a1)) (b := a10) rfl ?_
    obtain ⟨g5, h⟩ := h
    refine zs_iald rfl rfl (by decide) g5 ?_
    obtain ⟨g6, h⟩ := h
    refine zs_iast rfl rfl (by decide) g6 (fun D7 eD7 => ?_)
    have h := h D7 eD7
    refine zs_iinc (a := a10) (1) (ls1 := [some (.ref 336), some (.int (z_i a1)), o2, o3, o4, o5, o6, some (.int (z_i a7)), o8, o9, some (.int (z_i (a10 + 1)))]) rfl rfl rfl ((z_st1 rfl n9).trans rfl) ?_
    refine zs_goto rfl ?_
    exact hH226 _ _ _ _ _ _ _ _ _ _ _ (by first | assumption | exact trivial) (by first | assumption | exact trivial) (by first | assumption | exact trivial) (by first | assumption | exact trivial) (by first | assumption | exact trivial) (by first | assumption | exact trivial) (by first | assumption | exact trivial) h
theorem r_mLongArgument {n d : Nat} {a1 : Int} {a2 : Int} {a3 : Int} {a4 : Int} {D : z_D} {K : z_D → Prop} {T : Nat → z_D → Prop}  (I9 : Nat → Int → Int → Int → Int → Int → Bool → Int → z_D → Prop) (I162 : Nat → Int → Int → Int → Int → z_D → Prop) (I226 : Nat → Int → Int → Int → z_D → Prop) (hE : w_mLongArgument_0 n d a1 a2 a3 a4 D (fun a1 a2 a3 a4 a5 b6 a7 D => ∃ m, I9 m a1 a2 a3 a4 a5 b6 a7 D) K T) (h9 : ∀ (mm : Nat) (a1 : Int) (a2 : Int) (a3 : Int) (a4 : Int) (a5 : Int) (b6 : Bool) (a7 : Int) (D : z_D), I9 mm a1 a2 a3 a4 a5 b6 a7 D → w_mLongArgument_9 n d a1 a2 a3 a4 a5 b6 a7 D (fun a1 a2 a3 a4 a5 b6 a7 D => ∃ m, m < mm ∧ I9 m a1 a2 a3 a4 a5 b6 a7 D) (fun a1 a7 a8 a9 D => ∃ m, m < mm ∧ I162 m a1 a7 a8 a9 D) K T) (h162 : ∀ (mm : Nat) (a1 : Int) (a7 : Int) (a8 : Int) (a9 : Int) (D : z_D), I162 mm a1 a7 a8 a9 D → w_mLongArgument_162 n d a1 a7 a8 a9 D (fun a1 a7 a8 a9 D => ∃ m, m < mm ∧ I162 m a1 a7 a8 a9 D) (fun a1 a7 a10 D => ∃ m, m < mm ∧ I226 m a1 a7 a10 D) K T) (h226 : ∀ (mm : Nat) (a1 : Int) (a7 : Int) (a10 : Int) (D : z_D), I226 mm a1 a7 a10 D → w_mLongArgument_226 n d a1 a7 a10 D (fun a1 a7 a10 D => ∃ m, m < mm ∧ I226 m a1 a7 a10 D) K T) : z_c n (d + 1) 119 [.ref 336, .int (z_i a1), .int (z_i a2), .int (z_i a3), .int (z_i a4)] D (z_qV K T) := by
  refine z_enter (Nat.le_of_ble_eq_true rfl) rfl (fun X => ?_)
  have key : ∀ m, (∀ (a1 : Int) (a2 : Int) (a3 : Int) (a4 : Int) (a5 : Int) (b6 : Bool) (a7 : Int) (o8 : Option Value) (o9 : Option Value) (D : z_D), z_nl o8 → z_nl o9 → I9 m a1 a2 a3 a4 a5 b6 a7 D → z_w n d (k_tb 119) X 9 [some (.ref 336), some (.int (z_i a1)), some (.int (z_i a2)), some (.int (z_i a3)), some (.int (z_i a4)), some (.int (z_i a5)), some (.int (z_i (z_b b6))), some (.int (z_i a7)), o8, o9, none] [] D (z_qV K T)) ∧ (∀ (a1 : Int) (a7 : Int) (a8 : Int) (a9 : Int) (o2 : Option Value) (o3 : Option Value) (o4 : Option Value) (o5 : Option Value) (o6 : Option Value) (o10 : Option Value) (D : z_D), z_nl o2 → z_nl o3 → z_nl o4 → z_nl o5 → z_nl o6 → z_nl o10 → I162 m a1 a7 a8 a9 D → z_w n d (k_tb 119) X 162 [some (.ref 336), some (.int (z_i a1)), o2, o3, o4, o5, o6, some (.int (z_i a7)), some (.int (z_i a8)), some (.int (z_i a9)), o10] [] D (z_qV K T)) ∧ (∀ (a1 : Int) (a7 : Int) (a10 : Int) (o2 : Option Value) (o3 : Option Value) (o4 : Option Value) (o5 : Option Value) (o6 : Option Value) (o8 : Option Value) (o9 : Option Value) (D : z_D), z_nl o2 → z_nl o3 → z_nl o4 → z_nl o5 → z_nl o6 → z_nl o8 → z_nl o9 → I226 m a1 a7 a10 D → z_w n d (k_tb 119) X 226 [some (.ref 336), some (.int (z_i a1)), o2, o3, o4, o5, o6, some (.int (z_i a7)), o8, o9, some (.int (z_i a10))] [] D (z_qV K T)) := by
    intro m
    induction m using Nat.strongRecOn with
    | _ mm ih =>
      exact ⟨fun a1 a2 a3 a4 a5 b6 a7 o8 o9 D n8 n9 hI => v_mLongArgument_9 (fun a1 a2 a3 a4 a5 b6 a7 o8 o9 D n8 n9 ⟨m, hm, hI⟩ => (ih m hm).1 _ _ _ _ _ _ _ _ _ _ n8 n9 hI) (fun a1 a7 a8 a9 o2 o3 o4 o5 o6 o10 D n2 n3 n4 n5 n6 n10 ⟨m, hm, hI⟩ => (ih m hm).2.1 _ _ _ _ _ _ _ _ _ _ _ n2 n3 n4 n5 n6 n10 hI) n8 n9 (h9 mm a1 a2 a3 a4 a5 b6 a7 D hI), fun a1 a7 a8 a9 o2 o3 o4 o5 o6 o10 D n2 n3 n4 n5 n6 n10 hI => v_mLongArgument_162 (fun a1 a7 a8 a9 o2 o3 o4 o5 o6 o10 D n2 n3 n4 n5 n6 n10 ⟨m, hm, hI⟩ => (ih m hm).2.1 _ _ _ _ _ _ _ _ _ _ _ n2 n3 n4 n5 n6 n10 hI) (fun a1 a7 a10 o2 o3 o4 o5 o6 o8 o9 D n2 n3 n4 n5 n6 n8 n9 ⟨m, hm, hI⟩ => (ih m hm).2.2 _ _ _ _ _ _ _ _ _ _ _ n2 n3 n4 n5 n6 n8 n9 hI) n2 n3 n4 n5 n6 n10 (h162 mm a1 a7 a8 a9 D hI), fun a1 a7 a10 o2 o3 o4 o5 o6 o8 o9 D n2 n3 n4 n5 n6 n8 n9 hI => v_mLongArgument_226 (fun a1 a7 a10 o2 o3 o4 o5 o6 o8 o9 D n2 n3 n4 n5 n6 n8 n9 ⟨m, hm, hI⟩ => (ih m hm).2.2 _ _ _ _ _ _ _ _ _ _ _ n2 n3 n4 n5 n6 n8 n9 hI) n2 n3 n4 n5 n6 n8 n9 (h226 mm a1 a7 a10 D hI)⟩
  exact v_mLongArgument_0 (fun a1 a2 a3 a4 a5 b6 a7 o8 o9 D n8 n9 ⟨m, hI⟩ => (key m).1 _ _ _ _ _ _ _ _ _ _ n8 n9 hI) hE
-- 120: TokenMouthModel.call(I)V
def w_mCall_0 (n d : Nat) (a1 : Int) (D : z_D) (H2 : Int → Int → z_D → Prop) (K : z_D → Prop) (T : Nat → z_D → Prop) : Prop :=
  H2 a1 0 D
theorem v_mCall_0 {n d : Nat} {X : z_Xt} {a1 : Int}  {D : z_D} {H2 : Int → Int → z_D → Prop} {K : z_D → Prop} {T : Nat → z_D → Prop} (hH2 : ∀ (a1 : Int) (a2 : Int) (o3 : Option Value) (D : z_D), z_nl o3 → H2 a1 a2 D → z_w n d (k_tb 120) X 2 [some (.ref 336), some (.int (z_i a1)), some (.int (z_i a2)), o3, none, none, none] [] D (z_qV K T)) (h : w_mCall_0 n d a1 D H2 K T) : z_w n d (k_tb 120) X 0 [some (.ref 336), some (.int (z_i a1)), none, none, none, none, none] [] D (z_qV K T) := by
  unfold w_mCall_0 at h
  refine zs_pushI (0) rfl rfl ?_
  refine zs_istore (ls1 := [some (.ref 336), some (.int (z_i a1)), some (.int (z_i 0)), none, none, none, none]) rfl rfl rfl ?_
  exact hH2 _ _ _ _ (by first | assumption | exact trivial) h
def w_mCall_132 (n d : Nat) (a1 : Int) (a2 : Int) (a3 : Int) (a4 : Int) (D : z_D) (H75 : Int → Int → Int → z_D → Prop) (K : z_D → Prop) (T : Nat → z_D → Prop) : Prop :=
  (0 ≤ a3 ∧ a3 < 4) ∧
  ∀ D2, D2 = z_uz D 361 (Int.toNat a3) 0 →
  (z_r a4) ∧ (z_r (a2 + 1)) ∧
  ((¬ a4 = (a2 + 1)) →
    z_c n d 119 [.ref 336, .int (z_i a3), .int (z_i a1), .int (z_i (a2 + 1)), .int (z_i a4)] D2 (z_qV (fun D5 => 
      H75 a1 a4 (a3 + 1) D5) T)) ∧
  ((a4 = (a2 + 1)) →
    z_c n d 118 [.ref 336, .int (z_i a3), .int (z_i a1)] D2 (z_qV (fun D6 => 
      H75 a1 a4 (a3 + 1) D6) T))
theorem v_mCall_132 {n d : Nat} {X : z_Xt} {a1 : Int} {a2 : Int} {a3 : Int} {a4 : Int}  {D : z_D} {H75 : Int → Int → Int → z_D → Prop} {K : z_D → Prop} {T : Nat → z_D → Prop} (hH75 : ∀ (a1 : Int) (a2 : Int) (a3 : Int) (o4 : Option Value) (D : z_D), z_nl o4 → H75 a1 a2 a3 D → z_w n d (k_tb 120) X 75 [some (.ref 336), some (.int (z_i a1)), some (.int (z_i a2)), some (.int (z_i a3)), o4, none, none] [] D (z_qV K T)) (h : w_mCall_132 n d a1 a2 a3 a4 D H75 K T) : z_w n d (k_tb 120) X 132 [some (.ref 336), some (.int (z_i a1)), some (.int (z_i a2)), some (.int (z_i a3)), some (.int (z_i a4)), none, none] [] D (z_qV K T) := by
  unfold w_mCall_132 at h
  refine zs_aload rfl rfl ?_
  refine zs_getR (x := 361) rfl rfl rfl ?_
  refine zs_iload rfl rfl ?_
  refine zs_pushI (0) rfl rfl ?_
  obtain ⟨g1, h⟩ := h
  refine zs_iast rfl rfl (by decide) g1 (fun D2 eD2 => ?_)
  have h := h D2 eD2
  refine zs_iload rfl rfl ?_
  refine zs_iload rfl rfl ?_
  refine zs_pushI (1) rfl rfl ?_
  refine zs_add (a := a2) (b := 1) rfl ?_
  obtain ⟨g3, g4, h⟩ := h
  obtain ⟨h7, h8⟩ := h
  refine zs_cne rfl g3 g4 (fun c => ?_) (fun c => ?_)
  · have h := h7 c
    refine zs_aload rfl rfl ?_
    refine zs_iload rfl rfl ?_
    refine zs_iload rfl rfl ?_
    refine zs_iload rfl rfl ?_
    refine zs_pushI (1) rfl rfl ?_
    refine zs_add (a := a2) (b := 1) rfl ?_
    refine zs_iload rfl rfl ?_
    refine z_callV (k := 336) (as0 := [.int (z_i a3), .int (z_i a1), .int (z_i (a2 + 1)), .int (z_i a4)]) (r := []) rfl rfl rfl (Nat.le_of_ble_eq_true rfl) (z_oV h (fun D5 h => ?_) (fun _ _ h => h))
    refine zs_iload rfl rfl ?_
    refine zs_istore (ls1 := [some (.ref 336), some (.int (z_i a1)), some (.int (z_i a4)), some (.int (z_i a3)), some (.int (z_i a4)), none, none]) rfl rfl rfl ?_
    refine zs_iinc (a := a3) (1) (ls1 := [some (.ref 336), some (.int (z_i a1)), some (.int (z_i a4)), some (.int (z_i (a3 + 1))), some (.int (z_i a4)), none, none]) rfl rfl rfl rfl ?_
    refine zs_goto rfl ?_
    exact hH75 _ _ _ _ _ (by first | assumption | exact trivial) h
  · have h := h8 c
    refine zs_aload rfl rfl ?_
    refine zs_iload rfl rfl ?_
    refine zs_iload rfl rfl ?_
    refine z_callV (k := 336) (as0 := [.int (z_i a3), .int (z_i a1)]) (r := []) rfl rfl rfl (Nat.le_of_ble_eq_true rfl) (z_oV h (fun D6 h => ?_) (fun _ _ h => h))
    refine zs_goto rfl ?_
    refine zs_iload rfl rfl ?_
    refine zs_istore (ls1 := [some (.ref 336), some (.int (z_i a1)), some (.int (z_i a4)), some (.int (z_i a3)), some (.int (z_i a4)), none, none]) rfl rfl rfl ?_
    refine zs_iinc (a := a3) (1) (ls1 := [some (.ref 336), some (.int (z_i a1)), some (.int (z_i a4)), some (.int (z_i (a3 + 1))), some (.int (z_i a4)), none, none]) rfl rfl rfl rfl ?_
    refine zs_goto rfl ?_
    exact hH75 _ _ _ _ _ (by first | assumption | exact trivial) h
def w_mCall_2 (n d : Nat) (a1 : Int) (a2 : Int) (D : z_D) (H2 : Int → Int → z_D → Prop) (H75 : Int → Int → Int → z_D → Prop) (K : z_D → Prop) (T : Nat → z_D → Prop) : Prop :=
  (0 ≤ a1 ∧ a1 < 61) ∧
  (z_r a2) ∧ (z_r (D.1 348 (Int.toNat a1))) ∧
  (((D.1 348 (Int.toNat a1)) ≤ a2) →
    H75 a1 a2 0 D) ∧
  ((a2 < (D.1 348 (Int.toNat a1))) →
    (0 ≤ ((13 * a1) + a2) ∧ ((13 * a1) + a2) < 800) ∧
    (z_r (D.1 349 (Int.toNat ((13 * a1) + a2)))) ∧
    ((16384 ≤ (D.1 349 (Int.toNat ((13 * a1) + a2)))) →
      H75 a1 a2 0 D) ∧
    (((D.1 349 (Int.toNat ((13 * a1) + a2))) < 16384) →
      z_c n d 105 [.ref 336] D (z_qI (fun v7 D6 => 
        (z_r v7) ∧
        ((¬ v7 = (-1)) →
          z_c n d 109 [.int (z_i v7)] D6 (z_qI (fun v10 D9 => 
            (0 ≤ ((13 * a1) + a2) ∧ ((13 * a1) + a2) < 800) ∧
            (z_r v10) ∧ (z_r (D9.1 349 (Int.toNat ((13 * a1) + a2)))) ∧
            ((v10 = (D9.1 349 (Int.toNat ((13 * a1) + a2)))) →
              H2 a1 (a2 + 1) D9) ∧
            ((¬ v10 = (D9.1 349 (Int.toNat ((13 * a1) + a2)))) →
              z_c n d 98 [.ref 336, .int (z_i 6)] D9 (z_qI (fun v15 D14 => 
                K D14) T))) T)) ∧
        ((v7 = (-1)) →
          K D6)) T)))
theorem v_mCall_2 {n d : Nat} {X : z_Xt} {a1 : Int} {a2 : Int} {o3 : Option Value} {D : z_D} {H2 : Int → Int → z_D → Prop} {H75 : Int → Int → Int → z_D → Prop} {K : z_D → Prop} {T : Nat → z_D → Prop} (hH2 : ∀ (a1 : Int) (a2 : Int) (o3 : Option Value) (D : z_D), z_nl o3 → H2 a1 a2 D → z_w n d (k_tb 120) X 2 [some (.ref 336), some (.int (z_i a1)), some (.int (z_i a2)), o3, none, none, none] [] D (z_qV K T)) (hH75 : ∀ (a1 : Int) (a2 : Int) (a3 : Int) (o4 : Option Value) (D : z_D), z_nl o4 → H75 a1 a2 a3 D → z_w n d (k_tb 120) X 75 [some (.ref 336), some (.int (z_i a1)), some (.int (z_i a2)), some (.int (z_i a3)), o4, none, none] [] D (z_qV K T)) (n3 : z_nl o3) (h : w_mCall_2 n d a1 a2 D H2 H75 K T) : z_w n d (k_tb 120) X 2 [some (.ref 336), some (.int (z_i a1)), some (.int (z_i a2)), o3, none, none, none] [] D (z_qV K T) := by
  unfold w_mCall_2 at h
  refine zs_iload rfl rfl ?_
  refine zs_aload rfl rfl ?_
  refine zs_getR (x := 348) rfl rfl rfl ?_
  refine zs_iload rfl rfl ?_
  obtain ⟨g1, h⟩ := h
  refine zs_iald rfl rfl (by decide) g1 ?_
  obtain ⟨g2, g3, h⟩ := h
  obtain ⟨h22, h23⟩ := h
  refine zs_cge rfl g2 g3 (fun c => ?_) (fun c => ?_)
  · have h := h22 c
    refine zs_pushI (0) rfl rfl ?_
    refine zs_istore (ls1 := [some (.ref 336), some (.int (z_i a1)), some (.int (z_i a2)), some (.int (z_i 0)), none, none, none]) rfl rfl rfl ?_
    exact hH75 _ _ _ _ _ (by first | assumption | exact trivial) h
  · have h := h23 c
    refine zs_aload rfl rfl ?_
    refine zs_getR (x := 349) rfl rfl rfl ?_
    refine zs_pushI (13) rfl rfl ?_
    refine zs_iload rfl rfl ?_
    refine zs_mul (a := 13) (b := a1) rfl ?_
    refine zs_iload rfl rfl ?_
    refine zs_add (a := (13 * a1)) (b := a2) rfl ?_
    obtain ⟨g4, h⟩ := h
    refine zs_iald rfl rfl (by decide) g4 ?_
    refine zs_pushI (16384) rfl rfl ?_
    obtain ⟨g5, h⟩ := h
    obtain ⟨h20, h21⟩ := h
    refine zs_cge rfl g5 (z_rk rfl) (fun c => ?_) (fun c => ?_)
    · have h := h20 c
      refine zs_pushI (0) rfl rfl ?_
      refine zs_istore (ls1 := [some (.ref 336), some (.int (z_i a1)), some (.int (z_i a2)), some (.int (z_i 0)), none, none, none]) rfl rfl rfl ?_
      exact hH75 _ _ _ _ _ (by first | assumption | exact trivial) h
    · have h := h21 c
      refine zs_aload rfl rfl ?_
      refine z_callV (k := 336) (as0 := []) (r := []) rfl rfl rfl (Nat.le_of_ble_eq_true rfl) (z_oI h (fun v7 D6 h => ?_) (fun _ _ h => h))
      refine zs_istore (ls1 := [some (.ref 336), some (.int (z_i a1)), some (.int (z_i a2)), some (.int (z_i v7)), none, none, none]) rfl rfl rfl ?_
      refine zs_iload rfl rfl ?_
      refine zs_pushI (-1) rfl rfl ?_
      obtain ⟨g8, h⟩ := h
      obtain ⟨h18, h19⟩ := h
      refine zs_cne rfl g8 (z_rk rfl) (fun c => ?_) (fun c => ?_)
      · have h := h18 c
        refine zs_iload rfl rfl ?_
        refine z_callS (as0 := [.int (z_i v7)]) (r := []) rfl rfl (Nat.le_of_ble_eq_true rfl) (z_oI h (fun v10 D9 h => ?_) (fun _ _ h => h))
        refine zs_aload rfl rfl ?_
        refine zs_getR (x := 349) rfl rfl rfl ?_
        refine zs_pushI (13) rfl rfl ?_
        refine zs_iload rfl rfl ?_
        refine zs_mul (a := 13) (b := a1) rfl ?_
        refine zs_iload rfl rfl ?_
        refine zs_add (a := (13 * a1)) (b := a2) rfl ?_
        obtain ⟨g11, h⟩ := h
        refine zs_iald rfl rfl (by decide) g11 ?_
        obtain ⟨g12, g13, h⟩ := h
        obtain ⟨h16, h17⟩ := h
        refine zs_ceq rfl g12 g13 (fun c => ?_) (fun c => ?_)
        · have h := h16 c
          refine zs_iinc (a := a2) (1) (ls1 := [some (.ref 336), some (.int (z_i a1)), some (.int (z_i (a2 + 1))), some (.int (z_i v7)), none, none, none]) rfl rfl rfl rfl ?_
          refine zs_goto rfl ?_
          exact hH2 _ _ _ _ (by first | assumption | exact trivial) h
        · have h := h17 c
          refine zs_aload rfl rfl ?_
          refine zs_pushI (6) rfl rfl ?_
          refine z_callV (k := 336) (as0 := [.int (z_i 6)]) (r := []) rfl rfl rfl (Nat.le_of_ble_eq_true rfl) (z_oI h (fun v15 D14 h => ?_) (fun _ _ h => h))
          refine zs_istore (ls1 := [some (.ref 336), some (.int (z_i a1)), some (.int (z_i a2)), some (.int (z_i v7)), some (.int (z_i v15)), none, none]) rfl rfl rfl ?_
          exact zs_ret rfl h
      · have h := h19 c
        exact zs_ret rfl h
def w_mCall_75 (n d : Nat) (a1 : Int) (a2 : Int) (a3 : Int) (D : z_D) (H97 : Int → Int → Int → Int → z_D → Prop) (H185 : Int → Int → z_D → Prop) (K : z_D → Prop) (T : Nat → z_D → Prop) : Prop :=
  (0 ≤ a1 ∧ a1 < 61) ∧
  (z_r a3) ∧ (z_r (D.1 352 (Int.toNat a1))) ∧
  (((D.1 352 (Int.toNat a1)) ≤ a3) →
    (0 ≤ a1 ∧ a1 < 61) ∧
    H185 a1 ((D.1 350 (Int.toNat a1)) - 1) D) ∧
  ((a3 < (D.1 352 (Int.toNat a1))) →
    (z_r (D.1 336 5)) ∧
    ((¬ (D.1 336 5) = 0) →
      (0 ≤ a1 ∧ a1 < 61) ∧
      H185 a1 ((D.1 350 (Int.toNat a1)) - 1) D) ∧
    (((D.1 336 5) = 0) →
      H97 a1 a2 a3 (a2 + 1) D))
theorem v_mCall_75 {n d : Nat} {X : z_Xt} {a1 : Int} {a2 : Int} {a3 : Int} {o4 : Option Value} {D : z_D} {H97 : Int → Int → Int → Int → z_D → Prop} {H185 : Int → Int → z_D → Prop} {K : z_D → Prop} {T : Nat → z_D → Prop} (hH97 : ∀ (a1 : Int) (a2 : Int) (a3 : Int) (a4 : Int) (D : z_D), H97 a1 a2 a3 a4 D → z_w n d (k_tb 120) X 97 [some (.ref 336), some (.int (z_i a1)), some (.int (z_i a2)), some (.int (z_i a3)), some (.int (z_i a4)), none, none] [] D (z_qV K T)) (hH185 : ∀ (a1 : Int) (a3 : Int) (o2 : Option Value) (o4 : Option Value) (o5 : Option Value) (o6 : Option Value) (D : z_D), z_nl o2 → z_nl o4 → z_nl o5 → z_nl o6 → H185 a1 a3 D → z_w n d (k_tb 120) X 185 [some (.ref 336), some (.int (z_i a1)), o2, some (.int (z_i a3)), o4, o5, o6] [] D (z_qV K T)) (n4 : z_nl o4) (h : w_mCall_75 n d a1 a2 a3 D H97 H185 K T) : z_w n d (k_tb 120) X 75 [some (.ref 336), some (.int (z_i a1)), some (.int (z_i a2)), some (.int (z_i a3)), o4, none, none] [] D (z_qV K T) := by
  unfold w_mCall_75 at h
  refine zs_iload rfl rfl ?_
  refine zs_aload rfl rfl ?_
  refine zs_getR (x := 352) rfl rfl rfl ?_
  refine zs_iload rfl rfl ?_
  obtain ⟨g1, h⟩ := h
  refine zs_iald rfl rfl (by decide) g1 ?_
  obtain ⟨g2, g3, h⟩ := h
  obtain ⟨h9, h10⟩ := h
  refine zs_cge rfl g2 g3 (fun c => ?_) (fun c => ?_)
  · have h := h9 c
    refine zs_aload rfl rfl ?_
    refine zs_getR (x := 350) rfl rfl rfl ?_
    refine zs_iload rfl rfl ?_
    obtain ⟨g4, h⟩ := h
    refine zs_iald rfl rfl (by decide) g4 ?_
    refine zs_pushI (1) rfl rfl ?_
    refine zs_sub (a := (D.1 350 (Int.toNat a1))) (b := 1) rfl ?_
    refine zs_istore (ls1 := [some (.ref 336), some (.int (z_i a1)), some (.int (z_i a2)), some (.int (z_i ((D.1 350 (Int.toNat a1)) - 1))), o4, none, none]) rfl rfl rfl ?_
    exact hH185 _ _ _ _ _ _ _ (by first | assumption | exact trivial) (by first | assumption | exact trivial) (by first | assumption | exact trivial) (by first | assumption | exact trivial) h
  · have h := h10 c
    refine zs_aload rfl rfl ?_
    refine zs_getI rfl rfl ?_
    obtain ⟨g5, h⟩ := h
    obtain ⟨h7, h8⟩ := h
    refine zs_ifne rfl g5 (fun c => ?_) (fun c => ?_)
    · have h := h7 c
      refine zs_aload rfl rfl ?_
      refine zs_getR (x := 350) rfl rfl rfl ?_
      refine zs_iload rfl rfl ?_
      obtain ⟨g6, h⟩ := h
      refine zs_iald rfl rfl (by decide) g6 ?_
      refine zs_pushI (1) rfl rfl ?_
      refine zs_sub (a := (D.1 350 (Int.toNat a1))) (b := 1) rfl ?_
      refine zs_istore (ls1 := [some (.ref 336), some (.int (z_i a1)), some (.int (z_i a2)), some (.int (z_i ((D.1 350 (Int.toNat a1)) - 1))), o4, none, none]) rfl rfl rfl ?_
      exact hH185 _ _ _ _ _ _ _ (by first | assumption | exact trivial) (by first | assumption | exact trivial) (by first | assumption | exact trivial) (by first | assumption | exact trivial) h
    · have h := h8 c
      refine zs_iload rfl rfl ?_
      refine zs_pushI (1) rfl rfl ?_
      refine zs_add (a := a2) (b := 1) rfl ?_
      refine zs_istore (ls1 := [some (.ref 336), some (.int (z_i a1)), some (.int (z_i a2)), some (.int (z_i a3)), some (.int (z_i (a2 + 1))), none, none]) rfl rfl rfl ?_
      exact hH97 _ _ _ _  _  h
def w_mCall_97 (n d : Nat) (a1 : Int) (a2 : Int) (a3 : Int) (a4 : Int) (D : z_D) (H75 : Int → Int → Int → z_D → Prop) (H97 : Int → Int → Int → Int → z_D → Prop) (K : z_D → Prop) (T : Nat → z_D → Prop) : Prop :=
  (0 ≤ a1 ∧ a1 < 61) ∧
  (z_r a4) ∧ (z_r (D.1 348 (Int.toNat a1))) ∧
  (((D.1 348 (Int.toNat a1)) ≤ a4) →
    w_mCall_132 n d a1 a2 a3 a4 D H75 K T) ∧
  ((a4 < (D.1 348 (Int.toNat a1))) →
    (0 ≤ ((13 * a1) + a4) ∧ ((13 * a1) + a4) < 800) ∧
    (z_r (D.1 349 (Int.toNat ((13 * a1) + a4)))) ∧
    ((16384 ≤ (D.1 349 (Int.toNat ((13 * a1) + a4)))) →
      w_mCall_132 n d a1 a2 a3 a4 D H75 K T) ∧
    (((D.1 349 (Int.toNat ((13 * a1) + a4))) < 16384) →
      H97 a1 a2 a3 (a4 + 1) D))
theorem v_mCall_97 {n d : Nat} {X : z_Xt} {a1 : Int} {a2 : Int} {a3 : Int} {a4 : Int}  {D : z_D} {H75 : Int → Int → Int → z_D → Prop} {H97 : Int → Int → Int → Int → z_D → Prop} {K : z_D → Prop} {T : Nat → z_D → Prop} (hH75 : ∀ (a1 : Int) (a2 : Int) (a3 : Int) (o4 : Option Value) (D : z_D), z_nl o4 → H75 a1 a2 a3 D → z_w n d (k_tb 120) X 75 [some (.ref 336), some (.int (z_i a1)), some (.int (z_i a2)), some (.int (z_i a3)), o4, none, none] [] D (z_qV K T)) (hH97 : ∀ (a1 : Int) (a2 : Int) (a3 : Int) (a4 : Int) (D : z_D), H97 a1 a2 a3 a4 D → z_w n d (k_tb 120) X 97 [some (.ref 336), some (.int (z_i a1)), some (.int (z_i a2)), some (.int (z_i a3)), some (.int (z_i a4)), none, none] [] D (z_qV K T)) (h : w_mCall_97 n d a1 a2 a3 a4 D H75 H97 K T) : z_w n d (k_tb 120) X 97 [some (.ref 336), some (.int (z_i a1)), some (.int (z_i a2)), some (.int (z_i a3)), some (.int (z_i a4)), none, none] [] D (z_qV K T) := by
  unfold w_mCall_97 at h
  refine zs_iload rfl rfl ?_
  refine zs_aload rfl rfl ?_
  refine zs_getR (x := 348) rfl rfl rfl ?_
  refine zs_iload rfl rfl ?_
  obtain ⟨g1, h⟩ := h
  refine zs_iald rfl rfl (by decide) g1 ?_
  obtain ⟨g2, g3, h⟩ := h
  obtain ⟨h8, h9⟩ := h
  refine zs_cge rfl g2 g3 (fun c => ?_) (fun c => ?_)
  · have h := h8 c
    exact v_mCall_132 hH75 h
  · have h := h9 c
    refine zs_aload rfl rfl ?_
    refine zs_getR (x := 349) rfl rfl rfl ?_
    refine zs_pushI (13) rfl rfl ?_
    refine zs_iload rfl rfl ?_
    refine zs_mul (a := 13) (b := a1) rfl ?_
    refine zs_iload rfl rfl ?_
    refine zs_add (a := (13 * a1)) (b := a4) rfl ?_
    obtain ⟨g4, h⟩ := h
    refine zs_iald rfl rfl (by decide) g4 ?_
    refine zs_pushI (16384) rfl rfl ?_
    obtain ⟨g5, h⟩ := h
    obtain ⟨h6, h7⟩ := h
    refine zs_cge rfl g5 (z_rk rfl) (fun c => ?_) (fun c => ?_)
    · have h := h6 c
      exact v_mCall_132 hH75 h
    · have h := h7 c
      refine zs_iinc (a := a4) (1) (ls1 := [some (.ref 336), some (.int (z_i a1)), some (.int (z_i a2)), some (.int (z_i a3)), some (.int (z_i (a4 + 1))), none, none]) rfl rfl rfl rfl ?_
      refine zs_goto rfl ?_
      exact hH97 _ _ _ _  _  h
def w_mCall_185 (n d : Nat) (a1 : Int) (a3 : Int) (D : z_D) (H185 : Int → Int → z_D → Prop) (H247 : Int → Int → Int → Int → z_D → Prop) (K : z_D → Prop) (T : Nat → z_D → Prop) : Prop :=
  (z_r a3) ∧
  ((a3 < 0) →
    K D) ∧
  ((0 ≤ a3) →
    (z_r (D.1 336 5)) ∧
    ((¬ (D.1 336 5) = 0) →
      K D) ∧
    (((D.1 336 5) = 0) →
      (0 ≤ ((41 * a1) + a3) ∧ ((41 * a1) + a3) < 2500) ∧
      (z_r (D.1 351 (Int.toNat ((41 * a1) + a3)))) ∧
      ((16384 ≤ (D.1 351 (Int.toNat ((41 * a1) + a3)))) →
        (0 ≤ (((D.1 351 (Int.toNat ((41 * a1) + a3))) - 16384) - 1) ∧ (((D.1 351 (Int.toNat ((41 * a1) + a3))) - 16384) - 1) < 4) ∧
        H247 a1 a3 (((D.1 351 (Int.toNat ((41 * a1) + a3))) - 16384) - 1) ((D.1 361 (Int.toNat (((D.1 351 (Int.toNat ((41 * a1) + a3))) - 16384) - 1))) - 1) D) ∧
      (((D.1 351 (Int.toNat ((41 * a1) + a3))) < 16384) →
        z_c n d 106 [.ref 336, .int (z_i (D.1 351 (Int.toNat ((41 * a1) + a3))))] D (z_qV (fun D6 => 
          H185 a1 (a3 + (-1)) D6) T))))
theorem v_mCall_185 {n d : Nat} {X : z_Xt} {a1 : Int} {a3 : Int} {o2 : Option Value} {o4 : Option Value} {o5 : Option Value} {o6 : Option Value} {D : z_D} {H185 : Int → Int → z_D → Prop} {H247 : Int → Int → Int → Int → z_D → Prop} {K : z_D → Prop} {T : Nat → z_D → Prop} (hH185 : ∀ (a1 : Int) (a3 : Int) (o2 : Option Value) (o4 : Option Value) (o5 : Option Value) (o6 : Option Value) (D : z_D), z_nl o2 → z_nl o4 → z_nl o5 → z_nl o6 → H185 a1 a3 D → z_w n d (k_tb 120) X 185 [some (.ref 336), some (.int (z_i a1)), o2, some (.int (z_i a3)), o4, o5, o6] [] D (z_qV K T)) (hH247 : ∀ (a1 : Int) (a3 : Int) (a5 : Int) (a6 : Int) (o2 : Option Value) (o4 : Option Value) (D : z_D), z_nl o2 → z_nl o4 → H247 a1 a3 a5 a6 D → z_w n d (k_tb 120) X 247 [some (.ref 336), some (.int (z_i a1)), o2, some (.int (z_i a3)), o4, some (.int (z_i a5)), some (.int (z_i a6))] [] D (z_qV K T)) (n2 : z_nl o2) (n4 : z_nl o4) (n5 : z_nl o5) (n6 : z_nl o6) (h : w_mCall_185 n d a1 a3 D H185 H247 K T) : z_w n d (k_tb 120) X 185 [some (.ref 336), some (.int (z_i a1)), o2, some (.int (z_i a3)), o4, o5, o6] [] D (z_qV K T) := by
  unfold w_mCall_185 at h
  refine zs_iload rfl rfl ?_
  obtain ⟨g1, h⟩ := h
  obtain ⟨h11, h12⟩ := h
  refine zs_iflt rfl g1 (fun c => ?_) (fun c => ?_)
  · have h := h11 c
    exact zs_ret rfl h
  · have h := h12 c
    refine zs_aload rfl rfl ?_
    refine zs_getI rfl rfl ?_
    obtain ⟨g2, h⟩ := h
    obtain ⟨h9, h10⟩ := h
    refine zs_ifne rfl g2 (fun c => ?_) (fun c => ?_)
    · have h := h9 c
      exact zs_ret rfl h
    · have h := h10 c
      refine zs_aload rfl rfl ?_
      refine zs_getR (x := 351) rfl rfl rfl ?_
      refine zs_pushI (41) rfl rfl ?_
      refine zs_iload rfl rfl ?_
      refine zs_mul (a := 41) (b := a1) rfl ?_
      refine zs_iload rfl rfl ?_
      refine zs_add (a := (41 * a1)) (b := a3) rfl ?_
      obtain ⟨g3, h⟩ := h
      refine zs_iald rfl rfl (by decide) g3 ?_
      refine zs_istore (ls1 := [some (.ref 336), some (.int (z_i a1)), o2, some (.int (z_i a3)), some (.int (z_i (D.1 351 (Int.toNat ((41 * a1) + a3))))), o5, o6]) rfl rfl rfl ?_
      refine zs_iload rfl rfl ?_
      refine zs_pushI (16384) rfl rfl ?_
      obtain ⟨g4, h⟩ := h
      obtain ⟨h7, h8⟩ := h
      refine zs_cge rfl g4 (z_rk rfl) (fun c => ?_) (fun c => ?_)
      · have h := h7 c
        refine zs_iload rfl rfl ?_
        refine zs_pushI (16384) rfl rfl ?_
        refine zs_sub (a := (D.1 351 (Int.toNat ((41 * a1) + a3)))) (b := 16384) rfl ?_
        refine zs_pushI (1) rfl rfl ?_
        refine zs_sub (a := ((D.1 351 (Int.toNat ((41 * a1) + a3))) - 16384)) (b := 1) rfl ?_
        refine zs_istore (ls1 := [some (.ref 336), some (.int (z_i a1)), o2, some (.int (z_i a3)), some (.int (z_i (D.1 351 (Int.toNat ((41 * a1) + a3))))), some (.int (z_i (((D.1 351 (Int.toNat ((41 * a1) + a3))) - 16384) - 1))), o6]) rfl rfl rfl ?_
        refine zs_aload rfl rfl ?_
        refine zs_getR (x := 361) rfl rfl rfl ?_
        refine zs_iload rfl rfl ?_
        obtain ⟨g5, h⟩ := h
        refine zs_iald rfl rfl (by decide) g5 ?_
        refine zs_pushI (1) rfl rfl ?_
        refine zs_sub (a := (D.1 361 (Int.toNat (((D.1 351 (Int.toNat ((41 * a1) + a3))) - 16384) - 1)))) (b := 1) rfl ?_
        refine zs_istore (ls1 := [some (.ref 336), some (.int (z_i a1)), o2, some (.int (z_i a3)), some (.int (z_i (D.1 351 (Int.toNat ((41 * a1) + a3))))), some (.int (z_i (((D.1 351 (Int.toNat ((41 * a1) + a3))) - 16384) - 1))), some (.int (z_i ((D.1 361 (Int.toNat (((D.1 351 (Int.toNat ((41 * a1) + a3))) - 16384) - 1))) - 1)))]) rfl rfl rfl ?_
        exact hH247 _ _ _ _ _ _ _ (by first | assumption | exact trivial) (by first | assumption | exact trivial) h
      · have h := h8 c
        refine zs_aload rfl rfl ?_
        refine zs_iload rfl rfl ?_
        refine z_callV (k := 336) (as0 := [.int (z_i (D.1 351 (Int.toNat ((41 * a1) + a3))))]) (r := []) rfl rfl rfl (Nat.le_of_ble_eq_true rfl) (z_oV h (fun D6 h => ?_) (fun _ _ h => h))
        refine zs_goto rfl ?_
        refine zs_iinc (a := a3) (-1) (ls1 := [some (.ref 336), some (.int (z_i a1)), o2, some (.int (z_i (a3 + (-1)))), some (.int (z_i (D.1 351 (Int.toNat ((41 * a1) + a3))))), o5, o6]) rfl rfl rfl ((z_st1 rfl n2).trans rfl) ?_
        refine zs_goto rfl ?_
        exact hH185 _ _ _ _ _ _ _ (by first | assumption | exact trivial) (by first | assumption | exact trivial) (by first | assumption | exact trivial) (by first | assumption | exact trivial) h
def w_mCall_247 (n d : Nat) (a1 : Int) (a3 : Int) (a5 : Int) (a6 : Int) (D : z_D) (H185 : Int → Int → z_D → Prop) (H247 : Int → Int → Int → Int → z_D → Prop) (K : z_D → Prop) (T : Nat → z_D → Prop) : Prop :=
  (z_r a6) ∧
  ((a6 < 0) →
    H185 a1 (a3 + (-1)) D) ∧
  ((0 ≤ a6) →
    (z_r (D.1 336 5)) ∧
    ((¬ (D.1 336 5) = 0) →
      H185 a1 (a3 + (-1)) D) ∧
    (((D.1 336 5) = 0) →
      (0 ≤ ((42 * a5) + a6) ∧ ((42 * a5) + a6) < 168) ∧
      z_c n d 106 [.ref 336, .int (z_i (D.1 360 (Int.toNat ((42 * a5) + a6))))] D (z_qV (fun D4 => 
        H247 a1 a3 a5 (a6 + (-1)) D4) T)))
theorem v_mCall_247 {n d : Nat} {X : z_Xt} {a1 : Int} {a3 : Int} {a5 : Int} {a6 : Int} {o2 : Option Value} {o4 : Option Value} {D : z_D} {H185 : Int → Int → z_D → Prop} {H247 : Int → Int → Int → Int → z_D → Prop} {K : z_D → Prop} {T : Nat → z_D → Prop} (hH185 : ∀ (a1 : Int) (a3 : Int) (o2 : Option Value) (o4 : Option Value) (o5 : Option Value) (o6 : Option Value) (D : z_D), z_nl o2 → z_nl o4 → z_nl o5 → z_nl o6 → H185 a1 a3 D → z_w n d (k_tb 120) X 185 [some (.ref 336), some (.int (z_i a1)), o2, some (.int (z_i a3)), o4, o5, o6] [] D (z_qV K T)) (hH247 : ∀ (a1 : Int) (a3 : Int) (a5 : Int) (a6 : Int) (o2 : Option Value) (o4 : Option Value) (D : z_D), z_nl o2 → z_nl o4 → H247 a1 a3 a5 a6 D → z_w n d (k_tb 120) X 247 [some (.ref 336), some (.int (z_i a1)), o2, some (.int (z_i a3)), o4, some (.int (z_i a5)), some (.int (z_i a6))] [] D (z_qV K T)) (n2 : z_nl o2) (n4 : z_nl o4) (h : w_mCall_247 n d a1 a3 a5 a6 D H185 H247 K T) : z_w n d (k_tb 120) X 247 [some (.ref 336), some (.int (z_i a1)), o2, some (.int (z_i a3)), o4, some (.int (z_i a5)), some (.int (z_i a6))] [] D (z_qV K T) := by
  unfold w_mCall_247 at h
  refine zs_iload rfl rfl ?_
  obtain ⟨g1, h⟩ := h
  obtain ⟨h7, h8⟩ := h
  refine zs_iflt rfl g1 (fun c => ?_) (fun c => ?_)
  · have h := h7 c
    refine zs_iinc (a := a3) (-1) (ls1 := [some (.ref 336), some (.int (z_i a1)), o2, some (.int (z_i (a3 + (-1)))), o4, some (.int (z_i a5)), some (.int (z_i a6))]) rfl rfl rfl ((z_st1 rfl n2).trans rfl) ?_
    refine zs_goto rfl ?_
    exact hH185 _ _ _ _ _ _ _ (by first | assumption | exact trivial) (by first | assumption | exact trivial) (by first | assumption | exact trivial) (by first | assumption | exact trivial) h
  · have h := h8 c
    refine zs_aload rfl rfl ?_
    refine zs_getI rfl rfl ?_
    obtain ⟨g2, h⟩ := h
    obtain ⟨h5, h6⟩ := h
    refine zs_ifne rfl g2 (fun c => ?_) (fun c => ?_)
    · have h := h5 c
      refine zs_iinc (a := a3) (-1) (ls1 := [some (.ref 336), some (.int (z_i a1)), o2, some (.int (z_i (a3 + (-1)))), o4, some (.int (z_i a5)), some (.int (z_i a6))]) rfl rfl rfl ((z_st1 rfl n2).trans rfl) ?_
      refine zs_goto rfl ?_
      exact hH185 _ _ _ _ _ _ _ (by first | assumption | exact trivial) (by first | assumption | exact trivial) (by first | assumption | exact trivial) (by first | assumption | exact trivial) h
    · have h := h6 c
      refine zs_aload rfl rfl ?_
      refine zs_aload rfl rfl ?_
      refine zs_getR (x := 360) rfl rfl rfl ?_
      refine zs_pushI (42) rfl rfl ?_
      refine zs_iload rfl rfl ?_
      refine zs_mul (a := 42) (b := a5) rfl ?_
      refine zs_iload rfl rfl ?_
      refine zs_add (a := (42 * a5)) (b := a6) rfl ?_
      obtain ⟨g3, h⟩ := h
      refine zs_iald rfl rfl (by decide) g3 ?_
      refine z_callV (k := 336) (as0 := [.int (z_i (D.1 360 (Int.toNat ((42 * a5) + a6))))]) (r := []) rfl rfl rfl (Nat.le_of_ble_eq_true rfl) (z_oV h (fun D4 h => ?_) (fun _ _ h => h))
      refine zs_iinc (a := a6) (-1) (ls1 := [some (.ref 336), some (.int (z_i a1)), o2, some (.int (z_i a3)), o4, some (.int (z_i a5)), some (.int (z_i (a6 + (-1))))]) rfl rfl rfl rfl ?_
      refine zs_goto rfl ?_
      exact hH247 _ _ _ _ _ _ _ (by first | assumption | exact trivial) (by first | assumption | exact trivial) h
theorem r_mCall {n d : Nat} {a1 : Int} {D : z_D} {K : z_D → Prop} {T : Nat → z_D → Prop}  (I2 : Nat → Int → Int → z_D → Prop) (I75 : Nat → Int → Int → Int → z_D → Prop) (I97 : Nat → Int → Int → Int → Int → z_D → Prop) (I185 : Nat → Int → Int → z_D → Prop) (I247 : Nat → Int → Int → Int → Int → z_D → Prop) (hE : w_mCall_0 n d a1 D (fun a1 a2 D => ∃ m, I2 m a1 a2 D) K T) (h2 : ∀ (mm : Nat) (a1 : Int) (a2 : Int) (D : z_D), I2 mm a1 a2 D → w_mCall_2 n d a1 a2 D (fun a1 a2 D => ∃ m, m < mm ∧ I2 m a1 a2 D) (fun a1 a2 a3 D => ∃ m, m < mm ∧ I75 m a1 a2 a3 D) K T) (h75 : ∀ (mm : Nat) (a1 : Int) (a2 : Int) (a3 : Int) (D : z_D), I75 mm a1 a2 a3 D → w_mCall_75 n d a1 a2 a3 D (fun a1 a2 a3 a4 D => ∃ m, m < mm ∧ I97 m a1 a2 a3 a4 D) (fun a1 a3 D => ∃ m, m < mm ∧ I185 m a1 a3 D) K T) (h97 : ∀ (mm : Nat) (a1 : Int) (a2 : Int) (a3 : Int) (a4 : Int) (D : z_D), I97 mm a1 a2 a3 a4 D → w_mCall_97 n d a1 a2 a3 a4 D (fun a1 a2 a3 D => ∃ m, m < mm ∧ I75 m a1 a2 a3 D) (fun a1 a2 a3 a4 D => ∃ m, m < mm ∧ I97 m a1 a2 a3 a4 D) K T) (h185 : ∀ (mm : Nat) (a1 : Int) (a3 : Int) (D : z_D), I185 mm a1 a3 D → w_mCall_185 n d a1 a3 D (fun a1 a3 D => ∃ m, m < mm ∧ I185 m a1 a3 D) (fun a1 a3 a5 a6 D => ∃ m, m < mm ∧ I247 m a1 a3 a5 a6 D) K T) (h247 : ∀ (mm : Nat) (a1 : Int) (a3 : Int) (a5 : Int) (a6 : Int) (D : z_D), I247 mm a1 a3 a5 a6 D → w_mCall_247 n d a1 a3 a5 a6 D (fun a1 a3 D => ∃ m, m < mm ∧ I185 m a1 a3 D) (fun a1 a3 a5 a6 D => ∃ m, m < mm ∧ I247 m a1 a3 a5 a6 D) K T) : z_c n (d + 1) 120 [.ref 336, .int (z_i a1)] D (z_qV K T) := by
  refine z_enter (Nat.le_of_ble_eq_true rfl) rfl (fun X => ?_)
  have key : ∀ m, (∀ (a1 : Int) (a2 : Int) (o3 : Option Value) (D : z_D), z_nl o3 → I2 m a1 a2 D → z_w n d (k_tb 120) X 2 [some (.ref 336), some (.int (z_i a1)), some (.int (z_i a2)), o3, none, none, none] [] D (z_qV K T)) ∧ (∀ (a1 : Int) (a2 : Int) (a3 : Int) (o4 : Option Value) (D : z_D), z_nl o4 → I75 m a1 a2 a3 D → z_w n d (k_tb 120) X 75 [some (.ref 336), some (.int (z_i a1)), some (.int (z_i a2)), some (.int (z_i a3)), o4, none, none] [] D (z_qV K T)) ∧ (∀ (a1 : Int) (a2 : Int) (a3 : Int) (a4 : Int) (D : z_D), I97 m a1 a2 a3 a4 D → z_w n d (k_tb 120) X 97 [some (.ref 336), some (.int (z_i a1)), some (.int (z_i a2)), some (.int (z_i a3)), some (.int (z_i a4)), none, none] [] D (z_qV K T)) ∧ (∀ (a1 : Int) (a3 : Int) (o2 : Option Value) (o4 : Option Value) (o5 : Option Value) (o6 : Option Value) (D : z_D), z_nl o2 → z_nl o4 → z_nl o5 → z_nl o6 → I185 m a1 a3 D → z_w n d (k_tb 120) X 185 [some (.ref 336), some (.int (z_i a1)), o2, some (.int (z_i a3)), o4, o5, o6] [] D (z_qV K T)) ∧ (∀ (a1 : Int) (a3 : Int) (a5 : Int) (a6 : Int) (o2 : Option Value) (o4 : Option Value) (D : z_D), z_nl o2 → z_nl o4 → I247 m a1 a3 a5 a6 D → z_w n d (k_tb 120) X 247 [some (.ref 336), some (.int (z_i a1)), o2, some (.int (z_i a3)), o4, some (.int (z_i a5)), some (.int (z_i a6))] [] D (z_qV K T)) := by
    intro m
    induction m using Nat.strongRecOn with
    | _ mm ih =>
      exact ⟨fun a1 a2 o3 D n3 hI => v_mCall_2 (fun a1 a2 o3 D n3 ⟨m, hm, hI⟩ => (ih m hm).1 _ _ _ _ n3 hI) (fun a1 a2 a3 o4 D n4 ⟨m, hm, hI⟩ => (ih m hm).2.1 _ _ _ _ _ n4 hI) n3 (h2 mm a1 a2 D hI), fun a1 a2 a3 o4 D n4 hI => v_mCall_75 (fun a1 a2 a3 a4 D ⟨m, hm, hI⟩ => (ih m hm).2.2.1 _ _ _ _ _  hI) (fun a1 a3 o2 o4 o5 o6 D n2 n4 n5 n6 ⟨m, hm, hI⟩ => (ih m hm).2.2.2.1 _ _ _ _ _ _ _ n2 n4 n5 n6 hI) n4 (h75 mm a1 a2 a3 D hI), fun a1 a2 a3 a4 D hI => v_mCall_97 (fun a1 a2 a3 o4 D n4 ⟨m, hm, hI⟩ => (ih m hm).2.1 _ _ _ _ _ n4 hI) (fun a1 a2 a3 a4 D ⟨m, hm, hI⟩ => (ih m hm).2.2.1 _ _ _ _ _  hI) (h97 mm a1 a2 a3 a4 D hI), fun a1 a3 o2 o4 o5 o6 D n2 n4 n5 n6 hI => v_mCall_185 (fun a1 a3 o2 o4 o5 o6 D n2 n4 n5 n6 ⟨m, hm, hI⟩ => (ih m hm).2.2.2.1 _ _ _ _ _ _ _ n2 n4 n5 n6 hI) (fun a1 a3 a5 a6 o2 o4 D n2 n4 ⟨m, hm, hI⟩ => (ih m hm).2.2.2.2 _ _ _ _ _ _ _ n2 n4 hI) n2 n4 n5 n6 (h185 mm a1 a3 D hI), fun a1 a3 a5 a6 o2 o4 D n2 n4 hI => v_mCall_247 (fun a1 a3 o2 o4 o5 o6 D n2 n4 n5 n6 ⟨m, hm, hI⟩ => (ih m hm).2.2.2.1 _ _ _ _ _ _ _ n2 n4 n5 n6 hI) (fun a1 a3 a5 a6 o2 o4 D n2 n4 ⟨m, hm, hI⟩ => (ih m hm).2.2.2.2 _ _ _ _ _ _ _ n2 n4 hI) n2 n4 (h247 mm a1 a3 a5 a6 D hI)⟩
  exact v_mCall_0 (fun a1 a2 o3 D n3 ⟨m, hI⟩ => (key m).1 _ _ _ _ n3 hI) hE
-- 121: TokenMouthModel.open()V
def w_mOpen_0 (n d : Nat)  (D : z_D)  (K : z_D → Prop) (T : Nat → z_D → Prop) : Prop :=
  (z_r (D.1 336 29)) ∧
  ((¬ (D.1 336 29) = 12) →
    (0 ≤ (D.1 336 29) ∧ (D.1 336 29) < 12) ∧
    ∀ D3, D3 = z_uz D 353 (Int.toNat (D.1 336 29)) 0 →
    ∀ D4, D4 = z_uz D3 336 29 ((D3.1 336 29) + 1) →
    K D4) ∧
  (((D.1 336 29) = 12) →
    z_c n d 98 [.ref 336, .int (z_i 5)] D (z_qI (fun v6 D5 => 
      K D5) T))
theorem v_mOpen_0 {n d : Nat} {X : z_Xt}   {D : z_D}  {K : z_D → Prop} {T : Nat → z_D → Prop}  (h : w_mOpen_0 n d D K T) : z_w n d (k_tb 121) X 0 [some (.ref 336), none] [] D (z_qV K T) := by
  unfold w_mOpen_0 at h
  refine zs_aload rfl rfl ?_
  refine zs_getI rfl rfl ?_
  refine zs_pushI (12) rfl rfl ?_
  obtain ⟨g1, h⟩ := h
  obtain ⟨h7, h8⟩ := h
  refine zs_cne rfl g1 (z_rk rfl) (fun c => ?_) (fun c => ?_)
  · have h := h7 c
    refine zs_aload rfl rfl ?_
    refine zs_getR (x := 353) rfl rfl rfl ?_
    refine zs_aload rfl rfl ?_
    refine zs_getI rfl rfl ?_
    refine zs_pushI (0) rfl rfl ?_
    obtain ⟨g2, h⟩ := h
    refine zs_iast rfl rfl (by decide) g2 (fun D3 eD3 => ?_)
    have h := h D3 eD3
    refine zs_aload rfl rfl ?_
    refine zs_dup rfl rfl ?_
    refine zs_getI rfl rfl ?_
    refine zs_pushI (1) rfl rfl ?_
    refine zs_add (a := (D3.1 336 29)) (b := 1) rfl ?_
    refine zs_putI rfl rfl (fun D4 eD4 => ?_)
    have h := h D4 eD4
    exact zs_ret rfl h
  · have h := h8 c
    refine zs_aload rfl rfl ?_
    refine zs_pushI (5) rfl rfl ?_
    refine z_callV (k := 336) (as0 := [.int (z_i 5)]) (r := []) rfl rfl rfl (Nat.le_of_ble_eq_true rfl) (z_oI h (fun v6 D5 h => ?_) (fun _ _ h => h))
    refine zs_istore (ls1 := [some (.ref 336), some (.int (z_i v6))]) rfl rfl rfl ?_
    exact zs_ret rfl h
theorem r_mOpen {n d : Nat}  {D : z_D} {K : z_D → Prop} {T : Nat → z_D → Prop}  (h : w_mOpen_0 n d D K T) : z_c n (d + 1) 121 [.ref 336] D (z_qV K T) :=
  z_enter (Nat.le_of_ble_eq_true rfl) rfl (fun X => v_mOpen_0 h)
-- 122: TokenMouthModel.pass(Z)Z
def w_mPass_0 (n d : Nat) (b1 : Bool) (D : z_D) (H2 : Bool → Int → z_D → Prop) (K : Bool → z_D → Prop) (T : Nat → z_D → Prop) : Prop :=
  H2 b1 0 D
theorem v_mPass_0 {n d : Nat} {X : z_Xt} {b1 : Bool}  {D : z_D} {H2 : Bool → Int → z_D → Prop} {K : Bool → z_D → Prop} {T : Nat → z_D → Prop} (hH2 : ∀ (b1 : Bool) (a2 : Int) (o3 : Option Value) (o4 : Option Value) (D : z_D), z_nl o3 → z_nl o4 → H2 b1 a2 D → z_w n d (k_tb 122) X 2 [some (.ref 336), some (.int (z_i (z_b b1))), some (.int (z_i a2)), o3, o4] [] D (z_qZ K T)) (h : w_mPass_0 n d b1 D H2 K T) : z_w n d (k_tb 122) X 0 [some (.ref 336), some (.int (z_i (z_b b1))), none, none, none] [] D (z_qZ K T) := by
  unfold w_mPass_0 at h
  refine zs_pushI (0) rfl rfl ?_
  refine zs_istore (ls1 := [some (.ref 336), some (.int (z_i (z_b b1))), some (.int (z_i 0)), none, none]) rfl rfl rfl ?_
  exact hH2 _ _ _ _ _ (by first | assumption | exact trivial) (by first | assumption | exact trivial) h
def w_mPass_41 (n d : Nat) (b1 : Bool) (a2 : Int) (a4 : Int) (D : z_D) (H2 : Bool → Int → z_D → Prop) (K : Bool → z_D → Prop) (T : Nat → z_D → Prop) : Prop :=
  (z_r a4) ∧
  ((¬ a4 = 18) →
    ((¬ a4 = 17) →
      H2 b1 a2 D) ∧
    ((a4 = 17) →
      (z_r a2) ∧
      ((¬ a2 = 0) →
        H2 b1 a2 D) ∧
      ((a2 = 0) →
        ((b1 = false) →
          H2 b1 a2 D) ∧
        ((b1 = true) →
          K true D)))) ∧
  ((a4 = 18) →
    (z_r (a2 + (-1))) ∧
    ((0 ≤ (a2 + (-1))) →
      H2 b1 (a2 + (-1)) D) ∧
    (((a2 + (-1)) < 0) →
      K false D))
theorem v_mPass_41 {n d : Nat} {X : z_Xt} {b1 : Bool} {a2 : Int} {a4 : Int} {o3 : Option Value} {D : z_D} {H2 : Bool → Int → z_D → Prop} {K : Bool → z_D → Prop} {T : Nat → z_D → Prop} (hH2 : ∀ (b1 : Bool) (a2 : Int) (o3 : Option Value) (o4 : Option Value) (D : z_D), z_nl o3 → z_nl o4 → H2 b1 a2 D → z_w n d (k_tb 122) X 2 [some (.ref 336), some (.int (z_i (z_b b1))), some (.int (z_i a2)), o3, o4] [] D (z_qZ K T)) (n3 : z_nl o3) (h : w_mPass_41 n d b1 a2 a4 D H2 K T) : z_w n d (k_tb 122) X 41 [some (.ref 336), some (.int (z_i (z_b b1))), some (.int (z_i a2)), o3, some (.int (z_i a4))] [] D (z_qZ K T) := by
  unfold w_mPass_41 at h
  refine zs_iload rfl rfl ?_
  refine zs_pushI (18) rfl rfl ?_
  obtain ⟨g1, h⟩ := h
  obtain ⟨h12, h13⟩ := h
  refine zs_cne rfl g1 (z_rk rfl) (fun c => ?_) (fun c => ?_)
  · have h := h12 c
    refine zs_iload rfl rfl ?_
    refine zs_pushI (17) rfl rfl ?_
    obtain ⟨h7, h8⟩ := h
    refine zs_cne rfl g1 (z_rk rfl) (fun c => ?_) (fun c => ?_)
    · have h := h7 c
      refine zs_goto rfl ?_
      exact hH2 _ _ _ _ _ (by first | assumption | exact trivial) (by first | assumption | exact trivial) h
    · have h := h8 c
      refine zs_iload rfl rfl ?_
      obtain ⟨g2, h⟩ := h
      obtain ⟨h5, h6⟩ := h
      refine zs_ifne rfl g2 (fun c => ?_) (fun c => ?_)
      · have h := h5 c
        refine zs_goto rfl ?_
        exact hH2 _ _ _ _ _ (by first | assumption | exact trivial) (by first | assumption | exact trivial) h
      · have h := h6 c
        refine zs_iload rfl rfl ?_
        obtain ⟨h3, h4⟩ := h
        refine zs_beq rfl (fun c => ?_) (fun c => ?_)
        · have h := h3 c
          refine zs_goto rfl ?_
          exact hH2 _ _ _ _ _ (by first | assumption | exact trivial) (by first | assumption | exact trivial) h
        · have h := h4 c
          refine zs_pushI (1) rfl rfl ?_
          exact zs_zret (b := true) rfl h
  · have h := h13 c
    refine zs_iinc (a := a2) (-1) (ls1 := [some (.ref 336), some (.int (z_i (z_b b1))), some (.int (z_i (a2 + (-1)))), o3, some (.int (z_i a4))]) rfl rfl rfl rfl ?_
    refine zs_iload rfl rfl ?_
    obtain ⟨g9, h⟩ := h
    obtain ⟨h10, h11⟩ := h
    refine zs_ifge rfl g9 (fun c => ?_) (fun c => ?_)
    · have h := h10 c
      refine zs_goto rfl ?_
      exact hH2 _ _ _ _ _ (by first | assumption | exact trivial) (by first | assumption | exact trivial) h
    · have h := h11 c
      refine zs_pushI (0) rfl rfl ?_
      exact zs_zret (b := false) rfl h
def w_mPass_2 (n d : Nat) (b1 : Bool) (a2 : Int) (D : z_D) (H2 : Bool → Int → z_D → Prop) (K : Bool → z_D → Prop) (T : Nat → z_D → Prop) : Prop :=
  z_c n d 105 [.ref 336] D (z_qI (fun v2 D1 => 
    (z_r v2) ∧
    ((¬ v2 = (-1)) →
      z_c n d 111 [.ref 336, .int (z_i v2)] D1 (z_qI (fun v5 D4 => 
        (z_r v5) ∧
        ((v5 < 13) →
          w_mPass_41 n d b1 a2 v5 D4 H2 K T) ∧
        ((13 ≤ v5) →
          ((16 < v5) →
            w_mPass_41 n d b1 a2 v5 D4 H2 K T) ∧
          ((v5 ≤ 16) →
            H2 b1 (a2 + 1) D4))) T)) ∧
    ((v2 = (-1)) →
      K false D1)) T)
theorem v_mPass_2 {n d : Nat} {X : z_Xt} {b1 : Bool} {a2 : Int} {o3 : Option Value} {o4 : Option Value} {D : z_D} {H2 : Bool → Int → z_D → Prop} {K : Bool → z_D → Prop} {T : Nat → z_D → Prop} (hH2 : ∀ (b1 : Bool) (a2 : Int) (o3 : Option Value) (o4 : Option Value) (D : z_D), z_nl o3 → z_nl o4 → H2 b1 a2 D → z_w n d (k_tb 122) X 2 [some (.ref 336), some (.int (z_i (z_b b1))), some (.int (z_i a2)), o3, o4] [] D (z_qZ K T)) (n3 : z_nl o3) (n4 : z_nl o4) (h : w_mPass_2 n d b1 a2 D H2 K T) : z_w n d (k_tb 122) X 2 [some (.ref 336), some (.int (z_i (z_b b1))), some (.int (z_i a2)), o3, o4] [] D (z_qZ K T) := by
  unfold w_mPass_2 at h
  refine zs_aload rfl rfl ?_
  refine z_callV (k := 336) (as0 := []) (r := []) rfl rfl rfl (Nat.le_of_ble_eq_true rfl) (z_oI h (fun v2 D1 h => ?_) (fun _ _ h => h))
  refine zs_istore (ls1 := [some (.ref 336), some (.int (z_i (z_b b1))), some (.int (z_i a2)), some (.int (z_i v2)), o4]) rfl rfl rfl ?_
  refine zs_iload rfl rfl ?_
  refine zs_pushI (-1) rfl rfl ?_
  obtain ⟨g3, h⟩ := h
  obtain ⟨h11, h12⟩ := h
  refine zs_cne rfl g3 (z_rk rfl) (fun c => ?_) (fun c => ?_)
  · have h := h11 c
    refine zs_aload rfl rfl ?_
    refine zs_iload rfl rfl ?_
    refine z_callV (k := 336) (as0 := [.int (z_i v2)]) (r := []) rfl rfl rfl (Nat.le_of_ble_eq_true rfl) (z_oI h (fun v5 D4 h => ?_) (fun _ _ h => h))
    refine zs_istore (ls1 := [some (.ref 336), some (.int (z_i (z_b b1))), some (.int (z_i a2)), some (.int (z_i v2)), some (.int (z_i v5))]) rfl rfl rfl ?_
    refine zs_iload rfl rfl ?_
    refine zs_pushI (13) rfl rfl ?_
    obtain ⟨g6, h⟩ := h
    obtain ⟨h9, h10⟩ := h
    refine zs_clt rfl g6 (z_rk rfl) (fun c => ?_) (fun c => ?_)
    · have h := h9 c
      exact v_mPass_41 hH2 (by first | assumption | exact trivial) h
    · have h := h10 c
      refine zs_iload rfl rfl ?_
      refine zs_pushI (16) rfl rfl ?_
      obtain ⟨h7, h8⟩ := h
      refine zs_cgt rfl g6 (z_rk rfl) (fun c => ?_) (fun c => ?_)
      · have h := h7 c
        exact v_mPass_41 hH2 (by first | assumption | exact trivial) h
      · have h := h8 c
        refine zs_iinc (a := a2) (1) (ls1 := [some (.ref 336), some (.int (z_i (z_b b1))), some (.int (z_i (a2 + 1))), some (.int (z_i v2)), some (.int (z_i v5))]) rfl rfl rfl rfl ?_
        refine zs_goto rfl ?_
        refine zs_goto rfl ?_
        exact hH2 _ _ _ _ _ (by first | assumption | exact trivial) (by first | assumption | exact trivial) h
  · have h := h12 c
    refine zs_pushI (0) rfl rfl ?_
    exact zs_zret (b := false) rfl h
theorem r_mPass {n d : Nat} {b1 : Bool} {D : z_D} {K : Bool → z_D → Prop} {T : Nat → z_D → Prop}  (I2 : Nat → Bool → Int → z_D → Prop) (hE : w_mPass_0 n d b1 D (fun b1 a2 D => ∃ m, I2 m b1 a2 D) K T) (h2 : ∀ (mm : Nat) (b1 : Bool) (a2 : Int) (D : z_D), I2 mm b1 a2 D → w_mPass_2 n d b1 a2 D (fun b1 a2 D => ∃ m, m < mm ∧ I2 m b1 a2 D) K T) : z_c n (d + 1) 122 [.ref 336, .int (z_i (z_b b1))] D (z_qZ K T) := by
  refine z_enter (Nat.le_of_ble_eq_true rfl) rfl (fun X => ?_)
  have key : ∀ m, (∀ (b1 : Bool) (a2 : Int) (o3 : Option Value) (o4 : Option Value) (D : z_D), z_nl o3 → z_nl o4 → I2 m b1 a2 D → z_w n d (k_tb 122) X 2 [some (.ref 336), some (.int (z_i (z_b b1))), some (.int (z_i a2)), o3, o4] [] D (z_qZ K T)) := by
    intro m
    induction m using Nat.strongRecOn with
    | _ mm ih =>
      exact fun b1 a2 o3 o4 D n3 n4 hI => v_mPass_2 (fun b1 a2 o3 o4 D n3 n4 ⟨m, hm, hI⟩ => (ih m hm) _ _ _ _ _ n3 n4 hI) n3 n4 (h2 mm b1 a2 D hI)
  exact v_mPass_0 (fun b1 a2 o3 o4 D n3 n4 ⟨m, hI⟩ => (key m) _ _ _ _ _ n3 n4 hI) hE
-- 123: TokenMouthModel.decide(IZ)V
def w_mDecide_0 (n d : Nat) (a1 : Int) (b2 : Bool) (D : z_D)  (K : z_D → Prop) (T : Nat → z_D → Prop) : Prop :=
  ∀ D1, D1 = z_uz D 336 29 (a1 + 1) →
  ((b2 = false) →
    z_c n d 122 [.ref 336, .int (z_i (z_b true))] D1 (z_qZ (fun v3 D2 => 
      ((v3 = false) →
        (z_r (D2.1 336 5)) ∧
        ((¬ (D2.1 336 5) = 0) →
          K D2) ∧
        (((D2.1 336 5) = 0) →
          ∀ D5, D5 = z_uz D2 336 29 a1 →
          K D5)) ∧
      ((v3 = true) →
        (0 ≤ a1 ∧ a1 < 12) ∧
        ∀ D9, D9 = z_uz D2 353 (Int.toNat a1) 2 →
        K D9)) T)) ∧
  ((b2 = true) →
    (0 ≤ a1 ∧ a1 < 12) ∧
    ∀ D13, D13 = z_uz D1 353 (Int.toNat a1) 1 →
    K D13)
theorem v_mDecide_0 {n d : Nat} {X : z_Xt} {a1 : Int} {b2 : Bool}  {D : z_D}  {K : z_D → Prop} {T : Nat → z_D → Prop}  (h : w_mDecide_0 n d a1 b2 D K T) : z_w n d (k_tb 123) X 0 [some (.ref 336), some (.int (z_i a1)), some (.int (z_i (z_b b2)))] [] D (z_qV K T) := by
  unfold w_mDecide_0 at h
  refine zs_aload rfl rfl ?_
  refine zs_iload rfl rfl ?_
  refine zs_pushI (1) rfl rfl ?_
  refine zs_add (a := a1) (b := 1) rfl ?_
  refine zs_putI rfl rfl (fun D1 eD1 => ?_)
  have h := h D1 eD1
  refine zs_iload rfl rfl ?_
  obtain ⟨h14, h15⟩ := h
  refine zs_beq rfl (fun c => ?_) (fun c => ?_)
  · have h := h14 c
    refine zs_aload rfl rfl ?_
    refine zs_pushI (1) rfl rfl ?_
    refine z_callV (k := 336) (as0 := [.int (z_i (z_b true))]) (r := []) rfl rfl rfl (Nat.le_of_ble_eq_true rfl) (z_oZ h (fun v3 D2 h => ?_) (fun _ _ h => h))
    obtain ⟨h10, h11⟩ := h
    refine zs_beq rfl (fun c => ?_) (fun c => ?_)
    · have h := h10 c
      refine zs_aload rfl rfl ?_
      refine zs_getI rfl rfl ?_
      obtain ⟨g4, h⟩ := h
      obtain ⟨h6, h7⟩ := h
      refine zs_ifne rfl g4 (fun c => ?_) (fun c => ?_)
      · have h := h6 c
        exact zs_ret rfl h
      · have h := h7 c
        refine zs_aload rfl rfl ?_
        refine zs_iload rfl rfl ?_
        refine zs_putI rfl rfl (fun D5 eD5 => ?_)
        have h := h D5 eD5
        exact zs_ret rfl h
    · have h := h11 c
      refine zs_aload rfl rfl ?_
      refine zs_getR (x := 353) rfl rfl rfl ?_
      refine zs_iload rfl rfl ?_
      refine zs_pushI (2) rfl rfl ?_
      obtain ⟨g8, h⟩ := h
      refine zs_iast rfl rfl (by decide) g8 (fun D9 eD9 => ?_)
      have h := h D9 eD9
      refine zs_goto rfl ?_
      exact zs_ret rfl h
  · have h := h15 c
    refine zs_aload rfl rfl ?_
    refine zs_getR (x := 353) rfl rfl rfl ?_
    refine zs_iload rfl rfl ?_
    refine zs_pushI (1) rfl rfl ?_
    obtain ⟨g12, h⟩ := h
    refine zs_iast rfl rfl (by decide) g12 (fun D13 eD13 => ?_)
    have h := h D13 eD13
    refine zs_goto rfl ?_
    exact zs_ret rfl h
theorem r_mDecide {n d : Nat} {a1 : Int} {b2 : Bool} {D : z_D} {K : z_D → Prop} {T : Nat → z_D → Prop}  (h : w_mDecide_0 n d a1 b2 D K T) : z_c n (d + 1) 123 [.ref 336, .int (z_i a1), .int (z_i (z_b b2))] D (z_qV K T) :=
  z_enter (Nat.le_of_ble_eq_true rfl) rfl (fun X => v_mDecide_0 h)
