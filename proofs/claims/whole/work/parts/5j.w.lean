/-! what the methods mean; printed by wip/whole/dec.py -/
-- 124: TokenMouthModel.alike(II)Z
def w_mAlike_0 (n d : Nat) (a1 : Int) (a2 : Int) (D : z_D) (H78 : Int → Int → Bool → Int → z_D → Prop) (K : Bool → z_D → Prop) (T : Nat → z_D → Prop) : Prop :=
  (z_r a1) ∧ (z_r a2) ∧
  ((¬ a1 = a2) →
    ((a1 < 6000) →
      K false D) ∧
    ((6000 ≤ a1) →
      ((6000 ≤ a2) →
        (0 ≤ (a1 - 6000) ∧ (a1 - 6000) < 61) ∧
        (0 ≤ (a2 - 6000) ∧ (a2 - 6000) < 61) ∧
        (z_r (D.1 348 (Int.toNat (a1 - 6000)))) ∧ (z_r (D.1 348 (Int.toNat (a2 - 6000)))) ∧
        ((¬ (D.1 348 (Int.toNat (a1 - 6000))) = (D.1 348 (Int.toNat (a2 - 6000)))) →
          H78 (a1 - 6000) (a2 - 6000) false 0 D) ∧
        (((D.1 348 (Int.toNat (a1 - 6000))) = (D.1 348 (Int.toNat (a2 - 6000)))) →
          (0 ≤ (a1 - 6000) ∧ (a1 - 6000) < 61) ∧
          (0 ≤ (a2 - 6000) ∧ (a2 - 6000) < 61) ∧
          (z_r (D.1 350 (Int.toNat (a1 - 6000)))) ∧ (z_r (D.1 350 (Int.toNat (a2 - 6000)))) ∧
          ((¬ (D.1 350 (Int.toNat (a1 - 6000))) = (D.1 350 (Int.toNat (a2 - 6000)))) →
            H78 (a1 - 6000) (a2 - 6000) false 0 D) ∧
          (((D.1 350 (Int.toNat (a1 - 6000))) = (D.1 350 (Int.toNat (a2 - 6000)))) →
            H78 (a1 - 6000) (a2 - 6000) true 0 D))) ∧
      ((a2 < 6000) →
        K false D))) ∧
  ((a1 = a2) →
    K true D)
theorem v_mAlike_0 {n d : Nat} {X : z_Xt} {a1 : Int} {a2 : Int}  {D : z_D} {H78 : Int → Int → Bool → Int → z_D → Prop} {K : Bool → z_D → Prop} {T : Nat → z_D → Prop} (hH78 : ∀ (a3 : Int) (a4 : Int) (b5 : Bool) (a6 : Int) (o1 : Option Value) (o2 : Option Value) (D : z_D), z_nl o1 → z_nl o2 → H78 a3 a4 b5 a6 D → z_w n d (k_tb 124) X 78 [some (.ref 336), o1, o2, some (.int (z_i a3)), some (.int (z_i a4)), some (.int (z_i (z_b b5))), some (.int (z_i a6))] [] D (z_qZ K T)) (h : w_mAlike_0 n d a1 a2 D H78 K T) : z_w n d (k_tb 124) X 0 [some (.ref 336), some (.int (z_i a1)), some (.int (z_i a2)), none, none, none, none] [] D (z_qZ K T) := by
  unfold w_mAlike_0 at h
  refine zs_iload rfl rfl ?_
  refine zs_iload rfl rfl ?_
  obtain ⟨g1, g2, h⟩ := h
  obtain ⟨h19, h20⟩ := h
  refine zs_cne rfl g1 g2 (fun c => ?_) (fun c => ?_)
  · have h := h19 c
    refine zs_iload rfl rfl ?_
    refine zs_pushI (6000) rfl rfl ?_
    obtain ⟨h17, h18⟩ := h
    refine zs_clt rfl g1 (z_rk rfl) (fun c => ?_) (fun c => ?_)
    · have h := h17 c
      refine zs_pushI (0) rfl rfl ?_
      exact zs_zret (b := false) rfl h
    · have h := h18 c
      refine zs_iload rfl rfl ?_
      refine zs_pushI (6000) rfl rfl ?_
      obtain ⟨h15, h16⟩ := h
      refine zs_cge rfl g2 (z_rk rfl) (fun c => ?_) (fun c => ?_)
      · have h := h15 c
        refine zs_iload rfl rfl ?_
        refine zs_pushI (6000) rfl rfl ?_
        refine zs_sub (a := a1) (b := 6000) rfl ?_
        refine zs_istore (ls1 := [some (.ref 336), some (.int (z_i a1)), some (.int (z_i a2)), some (.int (z_i (a1 - 6000))), none, none, none]) rfl rfl rfl ?_
        refine zs_iload rfl rfl ?_
        refine zs_pushI (6000) rfl rfl ?_
        refine zs_sub (a := a2) (b := 6000) rfl ?_
        refine zs_istore (ls1 := [some (.ref 336), some (.int (z_i a1)), some (.int (z_i a2)), some (.int (z_i (a1 - 6000))), some (.int (z_i (a2 - 6000))), none, none]) rfl rfl rfl ?_
        refine zs_aload rfl rfl ?_
        refine zs_getR (x := 348) rfl rfl rfl ?_
        refine zs_iload rfl rfl ?_
        obtain ⟨g3, h⟩ := h
        refine zs_iald rfl rfl (by decide) g3 ?_
        refine zs_aload rfl rfl ?_
        refine zs_getR (x := 348) rfl rfl rfl ?_
        refine zs_iload rfl rfl ?_
        obtain ⟨g4, h⟩ := h
        refine zs_iald rfl rfl (by decide) g4 ?_
        obtain ⟨g5, g6, h⟩ := h
        obtain ⟨h13, h14⟩ := h
        refine zs_cne rfl g5 g6 (fun c => ?_) (fun c => ?_)
        · have h := h13 c
          refine zs_pushI (0) rfl rfl ?_
          refine zs_istore (ls1 := [some (.ref 336), some (.int (z_i a1)), some (.int (z_i a2)), some (.int (z_i (a1 - 6000))), some (.int (z_i (a2 - 6000))), some (.int (z_i 0)), none]) rfl rfl rfl ?_
          refine zs_pushI (0) rfl rfl ?_
          refine zs_istore (ls1 := [some (.ref 336), some (.int (z_i a1)), some (.int (z_i a2)), some (.int (z_i (a1 - 6000))), some (.int (z_i (a2 - 6000))), some (.int (z_i 0)), some (.int (z_i 0))]) rfl rfl rfl ?_
          exact hH78 _ _ _ _ _ _ _ (by first | assumption | exact trivial) (by first | assumption | exact trivial) h
        · have h := h14 c
          refine zs_aload rfl rfl ?_
          refine zs_getR (x := 350) rfl rfl rfl ?_
          refine zs_iload rfl rfl ?_
          obtain ⟨g7, h⟩ := h
          refine zs_iald rfl rfl (by decide) g7 ?_
          refine zs_aload rfl rfl ?_
          refine zs_getR (x := 350) rfl rfl rfl ?_
          refine zs_iload rfl rfl ?_
          obtain ⟨g8, h⟩ := h
          refine zs_iald rfl rfl (by decide) g8 ?_
          obtain ⟨g9, g10, h⟩ := h
          obtain ⟨h11, h12⟩ := h
          refine zs_cne rfl g9 g10 (fun c => ?_) (fun c => ?_)
          · have h := h11 c
            refine zs_pushI (0) rfl rfl ?_
            refine zs_istore (ls1 := [some (.ref 336), some (.int (z_i a1)), some (.int (z_i a2)), some (.int (z_i (a1 - 6000))), some (.int (z_i (a2 - 6000))), some (.int (z_i 0)), none]) rfl rfl rfl ?_
            refine zs_pushI (0) rfl rfl ?_
            refine zs_istore (ls1 := [some (.ref 336), some (.int (z_i a1)), some (.int (z_i a2)), some (.int (z_i (a1 - 6000))), some (.int (z_i (a2 - 6000))), some (.int (z_i 0)), some (.int (z_i 0))]) rfl rfl rfl ?_
            exact hH78 _ _ _ _ _ _ _ (by first | assumption | exact trivial) (by first | assumption | exact trivial) h
          · have h := h12 c
            refine zs_pushI (1) rfl rfl ?_
            refine zs_goto rfl ?_
            refine zs_istore (ls1 := [some (.ref 336), some (.int (z_i a1)), some (.int (z_i a2)), some (.int (z_i (a1 - 6000))), some (.int (z_i (a2 - 6000))), some (.int (z_i 1)), none]) rfl rfl rfl ?_
            refine zs_pushI (0) rfl rfl ?_
            refine zs_istore (ls1 := [some (.ref 336), some (.int (z_i a1)), some (.int (z_i a2)), some (.int (z_i (a1 - 6000))), some (.int (z_i (a2 - 6000))), some (.int (z_i 1)), some (.int (z_i 0))]) rfl rfl rfl ?_
            exact hH78 _ _ _ _ _ _ _ (by first | assumption | exact trivial) (by first | assumption | exact trivial) h
      · have h := h16 c
        refine zs_pushI (0) rfl rfl ?_
        exact zs_zret (b := false) rfl h
  · have h := h20 c
    refine zs_pushI (1) rfl rfl ?_
    exact zs_zret (b := true) rfl h
def w_mAlike_78 (n d : Nat) (a3 : Int) (a4 : Int) (b5 : Bool) (a6 : Int) (D : z_D) (H78 : Int → Int → Bool → Int → z_D → Prop) (H138 : Int → Int → Bool → Int → z_D → Prop) (K : Bool → z_D → Prop) (T : Nat → z_D → Prop) : Prop :=
  (0 ≤ a3 ∧ a3 < 61) ∧
  (z_r a6) ∧ (z_r (D.1 348 (Int.toNat a3))) ∧
  (((D.1 348 (Int.toNat a3)) ≤ a6) →
    H138 a3 a4 b5 0 D) ∧
  ((a6 < (D.1 348 (Int.toNat a3))) →
    ((b5 = false) →
      H138 a3 a4 b5 0 D) ∧
    ((b5 = true) →
      (0 ≤ ((13 * a3) + a6) ∧ ((13 * a3) + a6) < 800) ∧
      (0 ≤ ((13 * a4) + a6) ∧ ((13 * a4) + a6) < 800) ∧
      (z_r (D.1 349 (Int.toNat ((13 * a3) + a6)))) ∧ (z_r (D.1 349 (Int.toNat ((13 * a4) + a6)))) ∧
      ((¬ (D.1 349 (Int.toNat ((13 * a3) + a6))) = (D.1 349 (Int.toNat ((13 * a4) + a6)))) →
        H78 a3 a4 false (a6 + 1) D) ∧
      (((D.1 349 (Int.toNat ((13 * a3) + a6))) = (D.1 349 (Int.toNat ((13 * a4) + a6)))) →
        H78 a3 a4 true (a6 + 1) D)))
theorem v_mAlike_78 {n d : Nat} {X : z_Xt} {a3 : Int} {a4 : Int} {b5 : Bool} {a6 : Int} {o1 : Option Value} {o2 : Option Value} {D : z_D} {H78 : Int → Int → Bool → Int → z_D → Prop} {H138 : Int → Int → Bool → Int → z_D → Prop} {K : Bool → z_D → Prop} {T : Nat → z_D → Prop} (hH78 : ∀ (a3 : Int) (a4 : Int) (b5 : Bool) (a6 : Int) (o1 : Option Value) (o2 : Option Value) (D : z_D), z_nl o1 → z_nl o2 → H78 a3 a4 b5 a6 D → z_w n d (k_tb 124) X 78 [some (.ref 336), o1, o2, some (.int (z_i a3)), some (.int (z_i a4)), some (.int (z_i (z_b b5))), some (.int (z_i a6))] [] D (z_qZ K T)) (hH138 : ∀ (a3 : Int) (a4 : Int) (b5 : Bool) (a6 : Int) (o1 : Option Value) (o2 : Option Value) (D : z_D), z_nl o1 → z_nl o2 → H138 a3 a4 b5 a6 D → z_w n d (k_tb 124) X 138 [some (.ref 336), o1, o2, some (.int (z_i a3)), some (.int (z_i a4)), some (.int (z_i (z_b b5))), some (.int (z_i a6))] [] D (z_qZ K T)) (n1 : z_nl o1) (n2 : z_nl o2) (h : w_mAlike_78 n d a3 a4 b5 a6 D H78 H138 K T) : z_w n d (k_tb 124) X 78 [some (.ref 336), o1, o2, some (.int (z_i a3)), some (.int (z_i a4)), some (.int (z_i (z_b b5))), some (.int (z_i a6))] [] D (z_qZ K T) := by
  unfold w_mAlike_78 at h
  refine zs_iload rfl rfl ?_
  refine zs_aload rfl rfl ?_
  refine zs_getR (x := 348) rfl rfl rfl ?_
  refine zs_iload rfl rfl ?_
  obtain ⟨g1, h⟩ := h
  refine zs_iald rfl rfl (by decide) g1 ?_
  obtain ⟨g2, g3, h⟩ := h
  obtain ⟨h12, h13⟩ := h
  refine zs_cge rfl g2 g3 (fun c => ?_) (fun c => ?_)
  · have h := h12 c
    refine zs_pushI (0) rfl rfl ?_
    refine zs_istore (ls1 := [some (.ref 336), o1, o2, some (.int (z_i a3)), some (.int (z_i a4)), some (.int (z_i (z_b b5))), some (.int (z_i 0))]) rfl rfl rfl ?_
    exact hH138 _ _ _ _ _ _ _ (by first | assumption | exact trivial) (by first | assumption | exact trivial) h
  · have h := h13 c
    refine zs_iload rfl rfl ?_
    obtain ⟨h10, h11⟩ := h
    refine zs_beq rfl (fun c => ?_) (fun c => ?_)
    · have h := h10 c
      refine zs_pushI (0) rfl rfl ?_
      refine zs_istore (ls1 := [some (.ref 336), o1, o2, some (.int (z_i a3)), some (.int (z_i a4)), some (.int (z_i (z_b b5))), some (.int (z_i 0))]) rfl rfl rfl ?_
      exact hH138 _ _ _ _ _ _ _ (by first | assumption | exact trivial) (by first | assumption | exact trivial) h
    · have h := h11 c
      refine zs_aload rfl rfl ?_
      refine zs_getR (x := 349) rfl rfl rfl ?_
      refine zs_pushI (13) rfl rfl ?_
      refine zs_iload rfl rfl ?_
      refine zs_mul (a := 13) (b := a3) rfl ?_
      refine zs_iload rfl rfl ?_
      refine zs_add (a := (13 * a3)) (b := a6) rfl ?_
      obtain ⟨g4, h⟩ := h
      refine zs_iald rfl rfl (by decide) g4 ?_
      refine zs_aload rfl rfl ?_
      refine zs_getR (x := 349) rfl rfl rfl ?_
      refine zs_pushI (13) rfl rfl ?_
      refine zs_iload rfl rfl ?_
      refine zs_mul (a := 13) (b := a4) rfl ?_
      refine zs_iload rfl rfl ?_
      refine zs_add (a := (13 * a4)) (b := a6) rfl ?_
      obtain ⟨g5, h⟩ := h
      refine zs_iald rfl rfl (by decide) g5 ?_
      obtain ⟨g6, g7, h⟩ := h
      obtain ⟨h8, h9⟩ := h
      refine zs_cne rfl g6 g7 (fun c => ?_) (fun c => ?_)
      · have h := h8 c
        refine zs_pushI (0) rfl rfl ?_
        refine zs_istore (ls1 := [some (.ref 336), o1, o2, some (.int (z_i a3)), some (.int (z_i a4)), some (.int (z_i 0)), some (.int (z_i a6))]) rfl rfl rfl ?_
        refine zs_iinc (a := a6) (1) (ls1 := [some (.ref 336), o1, o2, some (.int (z_i a3)), some (.int (z_i a4)), some (.int (z_i 0)), some (.int (z_i (a6 + 1)))]) rfl rfl rfl rfl ?_
        refine zs_goto rfl ?_
        exact hH78 _ _ _ _ _ _ _ (by first | assumption | exact trivial) (by first | assumption | exact trivial) h
      · have h := h9 c
        refine zs_pushI (1) rfl rfl ?_
        refine zs_goto rfl ?_
        refine zs_istore (ls1 := [some (.ref 336), o1, o2, some (.int (z_i a3)), some (.int (z_i a4)), some (.int (z_i 1)), some (.int (z_i a6))]) rfl rfl rfl ?_
        refine zs_iinc (a := a6) (1) (ls1 := [some (.ref 336), o1, o2, some (.int (z_i a3)), some (.int (z_i a4)), some (.int (z_i 1)), some (.int (z_i (a6 + 1)))]) rfl rfl rfl rfl ?_
        refine zs_goto rfl ?_
        exact hH78 _ _ _ _ _ _ _ (by first | assumption | exact trivial) (by first | assumption | exact trivial) h
def w_mAlike_138 (n d : Nat) (a3 : Int) (a4 : Int) (b5 : Bool) (a6 : Int) (D : z_D) (H138 : Int → Int → Bool → Int → z_D → Prop) (K : Bool → z_D → Prop) (T : Nat → z_D → Prop) : Prop :=
  (0 ≤ a3 ∧ a3 < 61) ∧
  (z_r a6) ∧ (z_r (D.1 350 (Int.toNat a3))) ∧
  (((D.1 350 (Int.toNat a3)) ≤ a6) →
    K b5 D) ∧
  ((a6 < (D.1 350 (Int.toNat a3))) →
    ((b5 = false) →
      K b5 D) ∧
    ((b5 = true) →
      (0 ≤ ((41 * a3) + a6) ∧ ((41 * a3) + a6) < 2500) ∧
      (0 ≤ ((41 * a4) + a6) ∧ ((41 * a4) + a6) < 2500) ∧
      (z_r (D.1 351 (Int.toNat ((41 * a3) + a6)))) ∧ (z_r (D.1 351 (Int.toNat ((41 * a4) + a6)))) ∧
      ((¬ (D.1 351 (Int.toNat ((41 * a3) + a6))) = (D.1 351 (Int.toNat ((41 * a4) + a6)))) →
        H138 a3 a4 false (a6 + 1) D) ∧
      (((D.1 351 (Int.toNat ((41 * a3) + a6))) = (D.1 351 (Int.toNat ((41 * a4) + a6)))) →
        H138 a3 a4 true (a6 + 1) D)))
theorem v_mAlike_138 {n d : Nat} {X : z_Xt} {a3 : Int} {a4 : Int} {b5 : Bool} {a6 : Int} {o1 : Option Value} {o2 : Option Value} {D : z_D} {H138 : Int → Int → Bool → Int → z_D → Prop} {K : Bool → z_D → Prop} {T : Nat → z_D → Prop} (hH138 : ∀ (a3 : Int) (a4 : Int) (b5 : Bool) (a6 : Int) (o1 : Option Value) (o2 : Option Value) (D : z_D), z_nl o1 → z_nl o2 → H138 a3 a4 b5 a6 D → z_w n d (k_tb 124) X 138 [some (.ref 336), o1, o2, some (.int (z_i a3)), some (.int (z_i a4)), some (.int (z_i (z_b b5))), some (.int (z_i a6))] [] D (z_qZ K T)) (n1 : z_nl o1) (n2 : z_nl o2) (h : w_mAlike_138 n d a3 a4 b5 a6 D H138 K T) : z_w n d (k_tb 124) X 138 [some (.ref 336), o1, o2, some (.int (z_i a3)), some (.int (z_i a4)), some (.int (z_i (z_b b5))), some (.int (z_i a6))] [] D (z_qZ K T) := by
  unfold w_mAlike_138 at h
  refine zs_iload rfl rfl ?_
  refine zs_aload rfl rfl ?_
  refine zs_getR (x := 350) rfl rfl rfl ?_
  refine zs_iload rfl rfl ?_
  obtain ⟨g1, h⟩ := h
  refine zs_iald rfl rfl (by decide) g1 ?_
  obtain ⟨g2, g3, h⟩ := h
  obtain ⟨h12, h13⟩ := h
  refine zs_cge rfl g2 g3 (fun c => ?_) (fun c => ?_)
  · have h := h12 c
    refine zs_iload rfl rfl ?_
    exact zs_zret rfl h
  · have h := h13 c
    refine zs_iload rfl rfl ?_
    obtain ⟨h10, h11⟩ := h
    refine zs_beq rfl (fun c => ?_) (fun c => ?_)
    · have h := h10 c
      refine zs_iload rfl rfl ?_
      exact zs_zret rfl h
    · have h := h11 c
      refine zs_aload rfl rfl ?_
      refine zs_getR (x := 351) rfl rfl rfl ?_
      refine zs_pushI (41) rfl rfl ?_
      refine zs_iload rfl rfl ?_
      refine zs_mul (a := 41) (b := a3) rfl ?_
      refine zs_iload rfl rfl ?_
      refine zs_add (a := (41 * a3)) (b := a6) rfl ?_
      obtain ⟨g4, h⟩ := h
      refine zs_iald rfl rfl (by decide) g4 ?_
      refine zs_aload rfl rfl ?_
      refine zs_getR (x := 351) rfl rfl rfl ?_
      refine zs_pushI (41) rfl rfl ?_
      refine zs_iload rfl rfl ?_
      refine zs_mul (a := 41) (b := a4) rfl ?_
      refine zs_iload rfl rfl ?_
      refine zs_add (a := (41 * a4)) (b := a6) rfl ?_
      obtain ⟨g5, h⟩ := h
      refine zs_iald rfl rfl (by decide) g5 ?_
      obtain ⟨g6, g7, h⟩ := h
      obtain ⟨h8, h9⟩ := h
      refine zs_cne rfl g6 g7 (fun c => ?_) (fun c => ?_)
      · have h := h8 c
        refine zs_pushI (0) rfl rfl ?_
        refine zs_istore (ls1 := [some (.ref 336), o1, o2, some (.int (z_i a3)), some (.int (z_i a4)), some (.int (z_i 0)), some (.int (z_i a6))]) rfl rfl rfl ?_
        refine zs_iinc (a := a6) (1) (ls1 := [some (.ref 336), o1, o2, some (.int (z_i a3)), some (.int (z_i a4)), some (.int (z_i 0)), some (.int (z_i (a6 + 1)))]) rfl rfl rfl rfl ?_
        refine zs_goto rfl ?_
        exact hH138 _ _ _ _ _ _ _ (by first | assumption | exact trivial) (by first | assumption | exact trivial) h
      · have h := h9 c
        refine zs_pushI (1) rfl rfl ?_
        refine zs_goto rfl ?_
        refine zs_istore (ls1 := [some (.ref 336), o1, o2, some (.int (z_i a3)), some (.int (z_i a4)), some (.int (z_i 1)), some (.int (z_i a6))]) rfl rfl rfl ?_
        refine zs_iinc (a := a6) (1) (ls1 := [some (.ref 336), o1, o2, some (.int (z_i a3)), some (.int (z_i a4)), some (.int (z_i 1)), some (.int (z_i (a6 + 1)))]) rfl rfl rfl rfl ?_
        refine zs_goto rfl ?_
        exact hH138 _ _ _ _ _ _ _ (by first | assumption | exact trivial) (by first | assumption | exact trivial) h
theorem r_mAlike {n d : Nat} {a1 : Int} {a2 : Int} {D : z_D} {K : Bool → z_D → Prop} {T : Nat → z_D → Prop}  (I78 : Nat → Int → Int → Bool → Int → z_D → Prop) (I138 : Nat → Int → Int → Bool → Int → z_D → Prop) (hE : w_mAlike_0 n d a1 a2 D (fun a3 a4 b5 a6 D => ∃ m, I78 m a3 a4 b5 a6 D) K T) (h78 : ∀ (mm : Nat) (a3 : Int) (a4 : Int) (b5 : Bool) (a6 : Int) (D : z_D), I78 mm a3 a4 b5 a6 D → w_mAlike_78 n d a3 a4 b5 a6 D (fun a3 a4 b5 a6 D => ∃ m, m < mm ∧ I78 m a3 a4 b5 a6 D) (fun a3 a4 b5 a6 D => ∃ m, m < mm ∧ I138 m a3 a4 b5 a6 D) K T) (h138 : ∀ (mm : Nat) (a3 : Int) (a4 : Int) (b5 : Bool) (a6 : Int) (D : z_D), I138 mm a3 a4 b5 a6 D → w_mAlike_138 n d a3 a4 b5 a6 D (fun a3 a4 b5 a6 D => ∃ m, m < mm ∧ I138 m a3 a4 b5 a6 D) K T) : z_c n (d + 1) 124 [.ref 336, .int (z_i a1), .int (z_i a2)] D (z_qZ K T) := by
  refine z_enter (Nat.le_of_ble_eq_true rfl) rfl (fun X => ?_)
  have key : ∀ m, (∀ (a3 : Int) (a4 : Int) (b5 : Bool) (a6 : Int) (o1 : Option Value) (o2 : Option Value) (D : z_D), z_nl o1 → z_nl o2 → I78 m a3 a4 b5 a6 D → z_w n d (k_tb 124) X 78 [some (.ref 336), o1, o2, some (.int (z_i a3)), some (.int (z_i a4)), some (.int (z_i (z_b b5))), some (.int (z_i a6))] [] D (z_qZ K T)) ∧ (∀ (a3 : Int) (a4 : Int) (b5 : Bool) (a6 : Int) (o1 : Option Value) (o2 : Option Value) (D : z_D), z_nl o1 → z_nl o2 → I138 m a3 a4 b5 a6 D → z_w n d (k_tb 124) X 138 [some (.ref 336), o1, o2, some (.int (z_i a3)), some (.int (z_i a4)), some (.int (z_i (z_b b5))), some (.int (z_i a6))] [] D (z_qZ K T)) := by
    intro m
    induction m using Nat.strongRecOn with
    | _ mm ih =>
      exact ⟨fun a3 a4 b5 a6 o1 o2 D n1 n2 hI => v_mAlike_78 (fun a3 a4 b5 a6 o1 o2 D n1 n2 ⟨m, hm, hI⟩ => (ih m hm).1 _ _ _ _ _ _ _ n1 n2 hI) (fun a3 a4 b5 a6 o1 o2 D n1 n2 ⟨m, hm, hI⟩ => (ih m hm).2 _ _ _ _ _ _ _ n1 n2 hI) n1 n2 (h78 mm a3 a4 b5 a6 D hI), fun a3 a4 b5 a6 o1 o2 D n1 n2 hI => v_mAlike_138 (fun a3 a4 b5 a6 o1 o2 D n1 n2 ⟨m, hm, hI⟩ => (ih m hm).2 _ _ _ _ _ _ _ n1 n2 hI) n1 n2 (h138 mm a3 a4 b5 a6 D hI)⟩
  exact v_mAlike_0 (fun a3 a4 b5 a6 o1 o2 D n1 n2 ⟨m, hI⟩ => (key m).1 _ _ _ _ _ _ _ n1 n2 hI) hE
-- 125: TokenMouthModel.other(I)I
def w_mOther_0 (n d : Nat) (a0 : Int) (D : z_D)  (K : Int → z_D → Prop) (T : Nat → z_D → Prop) : Prop :=
  (z_r a0) ∧
  ((¬ a0 = 32) →
    K (a0 + 3072) D) ∧
  ((a0 = 32) →
    K 2592 D)
theorem v_mOther_0 {n d : Nat} {X : z_Xt} {a0 : Int}  {D : z_D}  {K : Int → z_D → Prop} {T : Nat → z_D → Prop}  (h : w_mOther_0 n d a0 D K T) : z_w n d (k_tb 125) X 0 [some (.int (z_i a0))] [] D (z_qI K T) := by
  unfold w_mOther_0 at h
  refine zs_iload rfl rfl ?_
  refine zs_pushI (32) rfl rfl ?_
  obtain ⟨g1, h⟩ := h
  obtain ⟨h2, h3⟩ := h
  refine zs_cne rfl g1 (z_rk rfl) (fun c => ?_) (fun c => ?_)
  · have h := h2 c
    refine zs_iload rfl rfl ?_
    refine zs_pushI (3072) rfl rfl ?_
    refine zs_add (a := a0) (b := 3072) rfl ?_
    exact zs_iret rfl h
  · have h := h3 c
    refine zs_pushI (2592) rfl rfl ?_
    refine zs_goto rfl ?_
    exact zs_iret rfl h
theorem r_mOther {n d : Nat} {a0 : Int} {D : z_D} {K : Int → z_D → Prop} {T : Nat → z_D → Prop}  (h : w_mOther_0 n d a0 D K T) : z_c n (d + 1) 125 [.int (z_i a0)] D (z_qI K T) :=
  z_enter (Nat.le_of_ble_eq_true rfl) rfl (fun X => v_mOther_0 h)
-- 126: TokenMouthModel.string(I)V
def w_mString_0 (n d : Nat) (a1 : Int) (D : z_D) (H38 : Int → Int → z_D → Prop) (K : z_D → Prop) (T : Nat → z_D → Prop) : Prop :=
  (z_r a1) ∧
  ((4096 ≤ a1) →
    z_c n d 109 [.int (z_i a1)] D (z_qI (fun v3 D2 => 
      (0 ≤ (v3 - 4096) ∧ (v3 - 4096) < 120) ∧
      H38 (v3 - 4096) ((D2.1 341 (Int.toNat (v3 - 4096))) - 1) D2) T)) ∧
  ((a1 < 4096) →
    z_c n d 125 [.int (z_i (z_and a1 255))] D (z_qI (fun v6 D5 => 
      z_c n d 106 [.ref 336, .int (z_i v6)] D5 (z_qV (fun D7 => 
        K D7) T)) T))
theorem v_mString_0 {n d : Nat} {X : z_Xt} {a1 : Int}  {D : z_D} {H38 : Int → Int → z_D → Prop} {K : z_D → Prop} {T : Nat → z_D → Prop} (hH38 : ∀ (a2 : Int) (a3 : Int) (o1 : Option Value) (D : z_D), z_nl o1 → H38 a2 a3 D → z_w n d (k_tb 126) X 38 [some (.ref 336), o1, some (.int (z_i a2)), some (.int (z_i a3))] [] D (z_qV K T)) (h : w_mString_0 n d a1 D H38 K T) : z_w n d (k_tb 126) X 0 [some (.ref 336), some (.int (z_i a1)), none, none] [] D (z_qV K T) := by
  unfold w_mString_0 at h
  refine zs_iload rfl rfl ?_
  refine zs_pushI (4096) rfl rfl ?_
  obtain ⟨g1, h⟩ := h
  obtain ⟨h8, h9⟩ := h
  refine zs_cge rfl g1 (z_rk rfl) (fun c => ?_) (fun c => ?_)
  · have h := h8 c
    refine zs_iload rfl rfl ?_
    refine z_callS (as0 := [.int (z_i a1)]) (r := []) rfl rfl (Nat.le_of_ble_eq_true rfl) (z_oI h (fun v3 D2 h => ?_) (fun _ _ h => h))
    refine zs_pushI (4096) rfl rfl ?_
    refine zs_sub (a := v3) (b := 4096) rfl ?_
    refine zs_istore (ls1 := [some (.ref 336), some (.int (z_i a1)), some (.int (z_i (v3 - 4096))), none]) rfl rfl rfl ?_
    refine zs_aload rfl rfl ?_
    refine zs_getR (x := 341) rfl rfl rfl ?_
    refine zs_iload rfl rfl ?_
    obtain ⟨g4, h⟩ := h
    refine zs_iald rfl rfl (by decide) g4 ?_
    refine zs_pushI (1) rfl rfl ?_
    refine zs_sub (a := (D2.1 341 (Int.toNat (v3 - 4096)))) (b := 1) rfl ?_
    refine zs_istore (ls1 := [some (.ref 336), some (.int (z_i a1)), some (.int (z_i (v3 - 4096))), some (.int (z_i ((D2.1 341 (Int.toNat (v3 - 4096))) - 1)))]) rfl rfl rfl ?_
    exact hH38 _ _ _ _ (by first | assumption | exact trivial) h
  · have h := h9 c
    refine zs_aload rfl rfl ?_
    refine zs_iload rfl rfl ?_
    refine zs_pushI (255) rfl rfl ?_
    refine zs_and (a := a1) (b := 255) rfl ?_
    refine z_callS (as0 := [.int (z_i (z_and a1 255))]) (r := [.ref 336]) rfl rfl (Nat.le_of_ble_eq_true rfl) (z_oI h (fun v6 D5 h => ?_) (fun _ _ h => h))
    refine z_callV (k := 336) (as0 := [.int (z_i v6)]) (r := []) rfl rfl rfl (Nat.le_of_ble_eq_true rfl) (z_oV h (fun D7 h => ?_) (fun _ _ h => h))
    exact zs_ret rfl h
def w_mString_73 (n d : Nat) (a2 : Int) (D : z_D)  (K : z_D → Prop) (T : Nat → z_D → Prop) : Prop :=
  (0 ≤ a2 ∧ a2 < 120) ∧
  (z_r (D.1 342 (Int.toNat a2))) ∧
  ((¬ (D.1 342 (Int.toNat a2)) = 0) →
    K D) ∧
  (((D.1 342 (Int.toNat a2)) = 0) →
    (z_r (D.1 336 5)) ∧
    ((¬ (D.1 336 5) = 0) →
      K D) ∧
    (((D.1 336 5) = 0) →
      z_c n d 125 [.int (z_i 92)] D (z_qI (fun v5 D4 => 
        z_c n d 106 [.ref 336, .int (z_i v5)] D4 (z_qV (fun D6 => 
          K D6) T)) T)))
theorem v_mString_73 {n d : Nat} {X : z_Xt} {a2 : Int} {o1 : Option Value} {o3 : Option Value} {D : z_D}  {K : z_D → Prop} {T : Nat → z_D → Prop} (n1 : z_nl o1) (n3 : z_nl o3) (h : w_mString_73 n d a2 D K T) : z_w n d (k_tb 126) X 73 [some (.ref 336), o1, some (.int (z_i a2)), o3] [] D (z_qV K T) := by
  unfold w_mString_73 at h
  refine zs_aload rfl rfl ?_
  refine zs_getR (x := 342) rfl rfl rfl ?_
  refine zs_iload rfl rfl ?_
  obtain ⟨g1, h⟩ := h
  refine zs_iald rfl rfl (by decide) g1 ?_
  obtain ⟨g2, h⟩ := h
  obtain ⟨h9, h10⟩ := h
  refine zs_ifne rfl g2 (fun c => ?_) (fun c => ?_)
  · have h := h9 c
    exact zs_ret rfl h
  · have h := h10 c
    refine zs_aload rfl rfl ?_
    refine zs_getI rfl rfl ?_
    obtain ⟨g3, h⟩ := h
    obtain ⟨h7, h8⟩ := h
    refine zs_ifne rfl g3 (fun c => ?_) (fun c => ?_)
    · have h := h7 c
      exact zs_ret rfl h
    · have h := h8 c
      refine zs_aload rfl rfl ?_
      refine zs_pushI (92) rfl rfl ?_
      refine z_callS (as0 := [.int (z_i 92)]) (r := [.ref 336]) rfl rfl (Nat.le_of_ble_eq_true rfl) (z_oI h (fun v5 D4 h => ?_) (fun _ _ h => h))
      refine z_callV (k := 336) (as0 := [.int (z_i v5)]) (r := []) rfl rfl rfl (Nat.le_of_ble_eq_true rfl) (z_oV h (fun D6 h => ?_) (fun _ _ h => h))
      exact zs_ret rfl h
def w_mString_38 (n d : Nat) (a2 : Int) (a3 : Int) (D : z_D) (H38 : Int → Int → z_D → Prop) (K : z_D → Prop) (T : Nat → z_D → Prop) : Prop :=
  (z_r a3) ∧
  ((a3 < 0) →
    w_mString_73 n d a2 D K T) ∧
  ((0 ≤ a3) →
    (z_r (D.1 336 5)) ∧
    ((¬ (D.1 336 5) = 0) →
      w_mString_73 n d a2 D K T) ∧
    (((D.1 336 5) = 0) →
      (0 ≤ ((11 * a2) + a3) ∧ ((11 * a2) + a3) < 1320) ∧
      z_c n d 125 [.int (z_i (D.1 340 (Int.toNat ((11 * a2) + a3))))] D (z_qI (fun v5 D4 => 
        z_c n d 106 [.ref 336, .int (z_i v5)] D4 (z_qV (fun D6 => 
          H38 a2 (a3 + (-1)) D6) T)) T)))
theorem v_mString_38 {n d : Nat} {X : z_Xt} {a2 : Int} {a3 : Int} {o1 : Option Value} {D : z_D} {H38 : Int → Int → z_D → Prop} {K : z_D → Prop} {T : Nat → z_D → Prop} (hH38 : ∀ (a2 : Int) (a3 : Int) (o1 : Option Value) (D : z_D), z_nl o1 → H38 a2 a3 D → z_w n d (k_tb 126) X 38 [some (.ref 336), o1, some (.int (z_i a2)), some (.int (z_i a3))] [] D (z_qV K T)) (n1 : z_nl o1) (h : w_mString_38 n d a2 a3 D H38 K T) : z_w n d (k_tb 126) X 38 [some (.ref 336), o1, some (.int (z_i a2)), some (.int (z_i a3))] [] D (z_qV K T) := by
  unfold w_mString_38 at h
  refine zs_iload rfl rfl ?_
  obtain ⟨g1, h⟩ := h
  obtain ⟨h9, h10⟩ := h
  refine zs_iflt rfl g1 (fun c => ?_) (fun c => ?_)
  · have h := h9 c
    exact v_mString_73 (by first | assumption | exact trivial) (by first | assumption | exact trivial) h
  · have h := h10 c
    refine zs_aload rfl rfl ?_
    refine zs_getI rfl rfl ?_
    obtain ⟨g2, h⟩ := h
    obtain ⟨h7, h8⟩ := h
    refine zs_ifne rfl g2 (fun c => ?_) (fun c => ?_)
    · have h := h7 c
      exact v_mString_73 (by first | assumption | exact trivial) (by first | assumption | exact trivial) h
    · have h := h8 c
      refine zs_aload rfl rfl ?_
      refine zs_aload rfl rfl ?_
      refine zs_getR (x := 340) rfl rfl rfl ?_
      refine zs_pushI (11) rfl rfl ?_
      refine zs_iload rfl rfl ?_
      refine zs_mul (a := 11) (b := a2) rfl ?_
      refine zs_iload rfl rfl ?_
      refine zs_add (a := (11 * a2)) (b := a3) rfl ?_
      obtain ⟨g3, h⟩ := h
      refine zs_iald rfl rfl (by decide) g3 ?_
      refine z_callS (as0 := [.int (z_i (D.1 340 (Int.toNat ((11 * a2) + a3))))]) (r := [.ref 336]) rfl rfl (Nat.le_of_ble_eq_true rfl) (z_oI h (fun v5 D4 h => ?_) (fun _ _ h => h))
      refine z_callV (k := 336) (as0 := [.int (z_i v5)]) (r := []) rfl rfl rfl (Nat.le_of_ble_eq_true rfl) (z_oV h (fun D6 h => ?_) (fun _ _ h => h))
      refine zs_iinc (a := a3) (-1) (ls1 := [some (.ref 336), o1, some (.int (z_i a2)), some (.int (z_i (a3 + (-1))))]) rfl rfl rfl rfl ?_
      refine zs_goto rfl ?_
      exact hH38 _ _ _ _ (by first | assumption | exact trivial) h
theorem r_mString {n d : Nat} {a1 : Int} {D : z_D} {K : z_D → Prop} {T : Nat → z_D → Prop}  (I38 : Nat → Int → Int → z_D → Prop) (hE : w_mString_0 n d a1 D (fun a2 a3 D => ∃ m, I38 m a2 a3 D) K T) (h38 : ∀ (mm : Nat) (a2 : Int) (a3 : Int) (D : z_D), I38 mm a2 a3 D → w_mString_38 n d a2 a3 D (fun a2 a3 D => ∃ m, m < mm ∧ I38 m a2 a3 D) K T) : z_c n (d + 1) 126 [.ref 336, .int (z_i a1)] D (z_qV K T) := by
  refine z_enter (Nat.le_of_ble_eq_true rfl) rfl (fun X => ?_)
  have key : ∀ m, (∀ (a2 : Int) (a3 : Int) (o1 : Option Value) (D : z_D), z_nl o1 → I38 m a2 a3 D → z_w n d (k_tb 126) X 38 [some (.ref 336), o1, some (.int (z_i a2)), some (.int (z_i a3))] [] D (z_qV K T)) := by
    intro m
    induction m using Nat.strongRecOn with
    | _ mm ih =>
      exact fun a2 a3 o1 D n1 hI => v_mString_38 (fun a2 a3 o1 D n1 ⟨m, hm, hI⟩ => (ih m hm) _ _ _ _ n1 hI) n1 (h38 mm a2 a3 D hI)
  exact v_mString_0 (fun a2 a3 o1 D n1 ⟨m, hI⟩ => (key m) _ _ _ _ n1 hI) hE
-- 127: TokenMouthModel.push(III)V
def w_mPush_0 (n d : Nat) (a1 : Int) (a2 : Int) (a3 : Int) (D : z_D)  (K : z_D → Prop) (T : Nat → z_D → Prop) : Prop :=
  (0 ≤ (D.1 336 31) ∧ (D.1 336 31) < 30) ∧
  ∀ D2, D2 = z_uz D 354 (Int.toNat (D.1 336 31)) a1 →
  (0 ≤ (D2.1 336 31) ∧ (D2.1 336 31) < 30) ∧
  ∀ D4, D4 = z_uz D2 355 (Int.toNat (D2.1 336 31)) a2 →
  (0 ≤ (D4.1 336 31) ∧ (D4.1 336 31) < 30) ∧
  ∀ D6, D6 = z_uz D4 356 (Int.toNat (D4.1 336 31)) 0 →
  (0 ≤ (D6.1 336 31) ∧ (D6.1 336 31) < 30) ∧
  ∀ D8, D8 = z_uz D6 357 (Int.toNat (D6.1 336 31)) a3 →
  ∀ D9, D9 = z_uz D8 336 31 ((D8.1 336 31) + 1) →
  K D9
theorem v_mPush_0 {n d : Nat} {X : z_Xt} {a1 : Int} {a2 : Int} {a3 : Int}  {D : z_D}  {K : z_D → Prop} {T : Nat → z_D → Prop}  (h : w_mPush_0 n d a1 a2 a3 D K T) : z_w n d (k_tb 127) X 0 [some (.ref 336), some (.int (z_i a1)), some (.int (z_i a2)), some (.int (z_i a3))] [] D (z_qV K T) := by
  unfold w_mPush_0 at h
  refine zs_aload rfl rfl ?_
  refine zs_getR (x := 354) rfl rfl rfl ?_
  refine zs_aload rfl rfl ?_
  refine zs_getI rfl rfl ?_
  refine zs_iload rfl rfl ?_
  obtain ⟨g1, h⟩ := h
  refine zs_iast rfl rfl (by decide) g1 (fun D2 eD2 => ?_)
  have h := h D2 eD2
  refine zs_aload rfl rfl ?_
  refine zs_getR (x := 355) rfl rfl rfl ?_
  refine zs_aload rfl rfl ?_
  refine zs_getI rfl rfl ?_
  refine zs_iload rfl rfl ?_
  obtain ⟨g3, h⟩ := h
  refine zs_iast rfl rfl (by decide) g3 (fun D4 eD4 => ?_)
  have h := h D4 eD4
  refine zs_aload rfl rfl ?_
  refine zs_getR (x := 356) rfl rfl rfl ?_
  refine zs_aload rfl rfl ?_
  refine zs_getI rfl rfl ?_
  refine zs_pushI (0) rfl rfl ?_
  obtain ⟨g5, h⟩ := h
  refine zs_iast rfl rfl (by decide) g5 (fun D6 eD6 => ?_)
  have h := h D6 eD6
  refine zs_aload rfl rfl ?_
  refine zs_getR (x := 357) rfl rfl rfl ?_
  refine zs_aload rfl rfl ?_
  refine zs_getI rfl rfl ?_
  refine zs_iload rfl rfl ?_
  obtain ⟨g7, h⟩ := h
  refine zs_iast rfl rfl (by decide) g7 (fun D8 eD8 => ?_)
  have h := h D8 eD8
  refine zs_aload rfl rfl ?_
  refine zs_dup rfl rfl ?_
  refine zs_getI rfl rfl ?_
  refine zs_pushI (1) rfl rfl ?_
  refine zs_add (a := (D8.1 336 31)) (b := 1) rfl ?_
  refine zs_putI rfl rfl (fun D9 eD9 => ?_)
  have h := h D9 eD9
  exact zs_ret rfl h
theorem r_mPush {n d : Nat} {a1 : Int} {a2 : Int} {a3 : Int} {D : z_D} {K : z_D → Prop} {T : Nat → z_D → Prop}  (h : w_mPush_0 n d a1 a2 a3 D K T) : z_c n (d + 1) 127 [.ref 336, .int (z_i a1), .int (z_i a2), .int (z_i a3)] D (z_qV K T) :=
  z_enter (Nat.le_of_ble_eq_true rfl) rfl (fun X => v_mPush_0 h)
-- 128: TokenMouthModel.begin(I)I
def w_mBegin_19 (n d : Nat)  (D : z_D)  (K : Int → z_D → Prop) (T : Nat → z_D → Prop) : Prop :=
  z_c n d 98 [.ref 336, .int (z_i 5)] D (z_qI (fun v2 D1 => 
    K v2 D1) T)
theorem v_mBegin_19 {n d : Nat} {X : z_Xt}  {o1 : Option Value} {D : z_D}  {K : Int → z_D → Prop} {T : Nat → z_D → Prop} (n1 : z_nl o1) (h : w_mBegin_19 n d D K T) : z_w n d (k_tb 128) X 19 [some (.ref 336), o1, none, none, none] [] D (z_qI K T) := by
  unfold w_mBegin_19 at h
  refine zs_aload rfl rfl ?_
  refine zs_pushI (5) rfl rfl ?_
  refine z_callV (k := 336) (as0 := [.int (z_i 5)]) (r := []) rfl rfl rfl (Nat.le_of_ble_eq_true rfl) (z_oI h (fun v2 D1 h => ?_) (fun _ _ h => h))
  exact zs_iret rfl h
def w_mBegin_230 (n d : Nat) (a2 : Int) (D : z_D)  (K : Int → z_D → Prop) (T : Nat → z_D → Prop) : Prop :=
  z_c n d 129 [.ref 336, .int (z_i a2)] D (z_qV (fun D1 => 
    K (-1) D1) T)
theorem v_mBegin_230 {n d : Nat} {X : z_Xt} {a2 : Int} {o1 : Option Value} {D : z_D}  {K : Int → z_D → Prop} {T : Nat → z_D → Prop} (n1 : z_nl o1) (h : w_mBegin_230 n d a2 D K T) : z_w n d (k_tb 128) X 230 [some (.ref 336), o1, some (.int (z_i a2)), none, none] [] D (z_qI K T) := by
  unfold w_mBegin_230 at h
  refine zs_aload rfl rfl ?_
  refine zs_iload rfl rfl ?_
  refine z_callV (k := 336) (as0 := [.int (z_i a2)]) (r := []) rfl rfl rfl (Nat.le_of_ble_eq_true rfl) (z_oV h (fun D1 h => ?_) (fun _ _ h => h))
  refine zs_goto rfl ?_
  refine zs_pushI (-1) rfl rfl ?_
  exact zs_iret rfl h
def w_mBegin_172 (n d : Nat) (s1 : Int) (D : z_D)  (K : Int → z_D → Prop) (T : Nat → z_D → Prop) : Prop :=
  z_c n d 106 [.ref 336, .int (z_i s1)] D (z_qV (fun D1 => 
    K (-1) D1) T)
theorem v_mBegin_172 {n d : Nat} {X : z_Xt} {s1 : Int} {o1 : Option Value} {o2 : Option Value} {o3 : Option Value} {D : z_D}  {K : Int → z_D → Prop} {T : Nat → z_D → Prop} (n1 : z_nl o1) (n2 : z_nl o2) (n3 : z_nl o3) (h : w_mBegin_172 n d s1 D K T) : z_w n d (k_tb 128) X 172 [some (.ref 336), o1, o2, o3, none] [.int (z_i s1), .ref 336] D (z_qI K T) := by
  unfold w_mBegin_172 at h
  refine z_callV (k := 336) (as0 := [.int (z_i s1)]) (r := []) rfl rfl rfl (Nat.le_of_ble_eq_true rfl) (z_oV h (fun D1 h => ?_) (fun _ _ h => h))
  refine zs_goto rfl ?_
  refine zs_pushI (-1) rfl rfl ?_
  exact zs_iret rfl h
def w_mBegin_171 (n d : Nat) (a3 : Int) (D : z_D)  (K : Int → z_D → Prop) (T : Nat → z_D → Prop) : Prop :=
  w_mBegin_172 n d a3 D K T
theorem v_mBegin_171 {n d : Nat} {X : z_Xt} {a3 : Int} {o1 : Option Value} {o2 : Option Value} {D : z_D}  {K : Int → z_D → Prop} {T : Nat → z_D → Prop} (n1 : z_nl o1) (n2 : z_nl o2) (h : w_mBegin_171 n d a3 D K T) : z_w n d (k_tb 128) X 171 [some (.ref 336), o1, o2, some (.int (z_i a3)), none] [.ref 336] D (z_qI K T) := by
  unfold w_mBegin_171 at h
  refine zs_iload rfl rfl ?_
  exact v_mBegin_172 (by first | assumption | exact trivial) (by first | assumption | exact trivial) (by first | assumption | exact trivial) h
def w_mBegin_111 (n d : Nat) (a3 : Int) (a4 : Int) (D : z_D)  (K : Int → z_D → Prop) (T : Nat → z_D → Prop) : Prop :=
  (z_r a4) ∧
  ((a4 = (-1)) →
    K (-1) D) ∧
  ((¬ a4 = (-1)) →
    z_c n d 106 [.ref 336, .int (z_i a4)] D (z_qV (fun D2 => 
      z_c n d 106 [.ref 336, .int (z_i a3)] D2 (z_qV (fun D3 => 
        K (-1) D3) T)) T))
theorem v_mBegin_111 {n d : Nat} {X : z_Xt} {a3 : Int} {a4 : Int} {o1 : Option Value} {o2 : Option Value} {D : z_D}  {K : Int → z_D → Prop} {T : Nat → z_D → Prop} (n1 : z_nl o1) (n2 : z_nl o2) (h : w_mBegin_111 n d a3 a4 D K T) : z_w n d (k_tb 128) X 111 [some (.ref 336), o1, o2, some (.int (z_i a3)), some (.int (z_i a4))] [] D (z_qI K T) := by
  unfold w_mBegin_111 at h
  refine zs_iload rfl rfl ?_
  refine zs_pushI (-1) rfl rfl ?_
  obtain ⟨g1, h⟩ := h
  obtain ⟨h4, h5⟩ := h
  refine zs_ceq rfl g1 (z_rk rfl) (fun c => ?_) (fun c => ?_)
  · have h := h4 c
    refine zs_goto rfl ?_
    refine zs_pushI (-1) rfl rfl ?_
    exact zs_iret rfl h
  · have h := h5 c
    refine zs_aload rfl rfl ?_
    refine zs_iload rfl rfl ?_
    refine z_callV (k := 336) (as0 := [.int (z_i a4)]) (r := []) rfl rfl rfl (Nat.le_of_ble_eq_true rfl) (z_oV h (fun D2 h => ?_) (fun _ _ h => h))
    refine zs_aload rfl rfl ?_
    refine zs_iload rfl rfl ?_
    refine z_callV (k := 336) (as0 := [.int (z_i a3)]) (r := []) rfl rfl rfl (Nat.le_of_ble_eq_true rfl) (z_oV h (fun D3 h => ?_) (fun _ _ h => h))
    refine zs_goto rfl ?_
    refine zs_pushI (-1) rfl rfl ?_
    exact zs_iret rfl h
def w_mBegin_84 (n d : Nat) (a2 : Int) (a3 : Int) (s0 : Int) (D : z_D)  (K : Int → z_D → Prop) (T : Nat → z_D → Prop) : Prop :=
  (z_r s0) ∧
  ((s0 = (-1)) →
    w_mBegin_111 n d a3 s0 D K T) ∧
  ((¬ s0 = (-1)) →
    z_c n d 112 [.ref 336, .int (z_i s0)] D (z_qZ (fun v3 D2 => 
      ((v3 = false) →
        w_mBegin_111 n d a3 s0 D2 K T) ∧
      ((v3 = true) →
        z_c n d 127 [.ref 336, .int (z_i a2), .int (z_i a3), .int (z_i 0)] D2 (z_qV (fun D4 => 
          K s0 D4) T))) T))
theorem v_mBegin_84 {n d : Nat} {X : z_Xt} {a2 : Int} {a3 : Int} {s0 : Int} {o1 : Option Value} {D : z_D}  {K : Int → z_D → Prop} {T : Nat → z_D → Prop} (n1 : z_nl o1) (h : w_mBegin_84 n d a2 a3 s0 D K T) : z_w n d (k_tb 128) X 84 [some (.ref 336), o1, some (.int (z_i a2)), some (.int (z_i a3)), none] [.int (z_i s0)] D (z_qI K T) := by
  unfold w_mBegin_84 at h
  refine zs_istore (ls1 := [some (.ref 336), o1, some (.int (z_i a2)), some (.int (z_i a3)), some (.int (z_i s0))]) rfl rfl rfl ?_
  refine zs_iload rfl rfl ?_
  refine zs_pushI (-1) rfl rfl ?_
  obtain ⟨g1, h⟩ := h
  obtain ⟨h7, h8⟩ := h
  refine zs_ceq rfl g1 (z_rk rfl) (fun c => ?_) (fun c => ?_)
  · have h := h7 c
    exact v_mBegin_111 (by first | assumption | exact trivial) (by first | assumption | exact trivial) h
  · have h := h8 c
    refine zs_aload rfl rfl ?_
    refine zs_iload rfl rfl ?_
    refine z_callV (k := 336) (as0 := [.int (z_i s0)]) (r := []) rfl rfl rfl (Nat.le_of_ble_eq_true rfl) (z_oZ h (fun v3 D2 h => ?_) (fun _ _ h => h))
    obtain ⟨h5, h6⟩ := h
    refine zs_beq rfl (fun c => ?_) (fun c => ?_)
    · have h := h5 c
      exact v_mBegin_111 (by first | assumption | exact trivial) (by first | assumption | exact trivial) h
    · have h := h6 c
      refine zs_aload rfl rfl ?_
      refine zs_iload rfl rfl ?_
      refine zs_iload rfl rfl ?_
      refine zs_pushI (0) rfl rfl ?_
      refine z_callV (k := 336) (as0 := [.int (z_i a2), .int (z_i a3), .int (z_i 0)]) (r := []) rfl rfl rfl (Nat.le_of_ble_eq_true rfl) (z_oV h (fun D4 h => ?_) (fun _ _ h => h))
      refine zs_iload rfl rfl ?_
      exact zs_iret rfl h
def w_mBegin_0 (n d : Nat) (a1 : Int) (D : z_D)  (K : Int → z_D → Prop) (T : Nat → z_D → Prop) : Prop :=
  (z_r (D.1 336 7)) ∧
  (((D.1 336 7) = 200) →
    w_mBegin_19 n d D K T) ∧
  ((¬ (D.1 336 7) = 200) →
    (z_r (D.1 336 31)) ∧
    ((¬ (D.1 336 31) = 30) →
      ∀ D3, D3 = z_uz D 336 7 ((D.1 336 7) + 1) →
      z_c n d 111 [.ref 336, .int (z_i a1)] D3 (z_qI (fun v5 D4 => 
        (z_r v5) ∧
        ((v5 < 6000) →
          ((¬ v5 = 8) →
            ((¬ v5 = 9) →
              ((¬ v5 = 12) →
                ((¬ v5 = 10) →
                  ((v5 = 17) →
                    w_mBegin_230 n d v5 D4 K T) ∧
                  ((¬ v5 = 17) →
                    ((¬ v5 = 18) →
                      z_c n d 121 [.ref 336] D4 (z_qV (fun D7 => 
                        (z_r (D7.1 336 5)) ∧
                        ((¬ (D7.1 336 5) = 0) →
                          K (-1) D7) ∧
                        (((D7.1 336 5) = 0) →
                          z_c n d 130 [.ref 336, .int (z_i v5)] D7 (z_qV (fun D9 => 
                            K (-1) D9) T))) T)) ∧
                    ((v5 = 18) →
                      w_mBegin_230 n d v5 D4 K T))) ∧
                ((v5 = 10) →
                  z_c n d 127 [.ref 336, .int (z_i v5), .int (z_i 0), .int (z_i 0)] D4 (z_qV (fun D16 => 
                    K (-1) D16) T))) ∧
              ((v5 = 12) →
                z_c n d 105 [.ref 336] D4 (z_qI (fun v20 D19 => 
                  (z_r v20) ∧
                  ((v20 = (-1)) →
                    K (-1) D19) ∧
                  ((¬ v20 = (-1)) →
                    z_c n d 126 [.ref 336, .int (z_i v20)] D19 (z_qV (fun D22 => 
                      K (-1) D22) T))) T))) ∧
            ((v5 = 9) →
              z_c n d 105 [.ref 336] D4 (z_qI (fun v28 D27 => 
                (z_r v28) ∧
                ((v28 = (-1)) →
                  K (-1) D27) ∧
                ((¬ v28 = (-1)) →
                  z_c n d 107 [.int (z_i v28)] D27 (z_qZ (fun v31 D30 => 
                    ((v31 = false) →
                      w_mBegin_171 n d v28 D30 K T) ∧
                    ((v31 = true) →
                      z_c n d 112 [.ref 336, .int (z_i v28)] D30 (z_qZ (fun v33 D32 => 
                        ((v33 = false) →
                          w_mBegin_171 n d v28 D32 K T) ∧
                        ((v33 = true) →
                          w_mBegin_172 n d (v28 + 8192) D32 K T)) T))) T))) T))) ∧
          ((v5 = 8) →
            z_c n d 105 [.ref 336] D4 (z_qI (fun v43 D42 => 
              (z_r v43) ∧
              ((¬ v43 = (-1)) →
                z_c n d 105 [.ref 336] D42 (z_qI (fun v46 D45 => 
                  w_mBegin_84 n d v5 v43 v46 D45 K T) T)) ∧
              ((v43 = (-1)) →
                w_mBegin_84 n d v5 v43 (-1) D42 K T)) T))) ∧
        ((6000 ≤ v5) →
          z_c n d 120 [.ref 336, .int (z_i (v5 - 6000))] D4 (z_qV (fun D51 => 
            K (-1) D51) T))) T)) ∧
    (((D.1 336 31) = 30) →
      w_mBegin_19 n d D K T))
theorem v_mBegin_0 {n d : Nat} {X : z_Xt} {a1 : Int}  {D : z_D}  {K : Int → z_D → Prop} {T : Nat → z_D → Prop}  (h : w_mBegin_0 n d a1 D K T) : z_w n d (k_tb 128) X 0 [some (.ref 336), some (.int (z_i a1)), none, none, none] [] D (z_qI K T) := by
  unfold w_mBegin_0 at h
  refine zs_aload rfl rfl ?_
  refine zs_getI rfl rfl ?_
  refine zs_pushI (200) rfl rfl ?_
  obtain ⟨g1, h⟩ := h
  obtain ⟨h56, h57⟩ := h
  refine zs_ceq rfl g1 (z_rk rfl) (fun c => ?_) (fun c => ?_)
  · have h := h56 c
    exact v_mBegin_19 (by first | assumption | exact trivial) h
  · have h := h57 c
    refine zs_aload rfl rfl ?_
    refine zs_getI rfl rfl ?_
    refine zs_pushI (30) rfl rfl ?_
    obtain ⟨g2, h⟩ := h
    obtain ⟨h54, h55⟩ := h
    refine zs_cne rfl g2 (z_rk rfl) (fun c => ?_) (fun c => ?_)
    · have h := h54 c
      refine zs_aload rfl rfl ?_
      refine zs_dup rfl rfl ?_
      refine zs_getI rfl rfl ?_
      refine zs_pushI (1) rfl rfl ?_
      refine zs_add (a := (D.1 336 7)) (b := 1) rfl ?_
      refine zs_putI rfl rfl (fun D3 eD3 => ?_)
      have h := h D3 eD3
      refine zs_aload rfl rfl ?_
      refine zs_iload rfl rfl ?_
      refine z_callV (k := 336) (as0 := [.int (z_i a1)]) (r := []) rfl rfl rfl (Nat.le_of_ble_eq_true rfl) (z_oI h (fun v5 D4 h => ?_) (fun _ _ h => h))
      refine zs_istore (ls1 := [some (.ref 336), some (.int (z_i a1)), some (.int (z_i v5)), none, none]) rfl rfl rfl ?_
      refine zs_iload rfl rfl ?_
      refine zs_pushI (6000) rfl rfl ?_
      obtain ⟨g6, h⟩ := h
      obtain ⟨h52, h53⟩ := h
      refine zs_clt rfl g6 (z_rk rfl) (fun c => ?_) (fun c => ?_)
      · have h := h52 c
        refine zs_iload rfl rfl ?_
        refine zs_pushI (8) rfl rfl ?_
        obtain ⟨h49, h50⟩ := h
        refine zs_cne rfl g6 (z_rk rfl) (fun c => ?_) (fun c => ?_)
        · have h := h49 c
          refine zs_iload rfl rfl ?_
          refine zs_pushI (9) rfl rfl ?_
          obtain ⟨h40, h41⟩ := h
          refine zs_cne rfl g6 (z_rk rfl) (fun c => ?_) (fun c => ?_)
          · have h := h40 c
            refine zs_iload rfl rfl ?_
            refine zs_pushI (12) rfl rfl ?_
            obtain ⟨h25, h26⟩ := h
            refine zs_cne rfl g6 (z_rk rfl) (fun c => ?_) (fun c => ?_)
            · have h := h25 c
              refine zs_iload rfl rfl ?_
              refine zs_pushI (10) rfl rfl ?_
              obtain ⟨h17, h18⟩ := h
              refine zs_cne rfl g6 (z_rk rfl) (fun c => ?_) (fun c => ?_)
              · have h := h17 c
                refine zs_iload rfl rfl ?_
                refine zs_pushI (17) rfl rfl ?_
                obtain ⟨h14, h15⟩ := h
                refine zs_ceq rfl g6 (z_rk rfl) (fun c => ?_) (fun c => ?_)
                · have h := h14 c
                  exact v_mBegin_230 (by first | assumption | exact trivial) h
                · have h := h15 c
                  refine zs_iload rfl rfl ?_
                  refine zs_pushI (18) rfl rfl ?_
                  obtain ⟨h12, h13⟩ := h
                  refine zs_cne rfl g6 (z_rk rfl) (fun c => ?_) (fun c => ?_)
                  · have h := h12 c
                    refine zs_aload rfl rfl ?_
                    refine z_callV (k := 336) (as0 := []) (r := []) rfl rfl rfl (Nat.le_of_ble_eq_true rfl) (z_oV h (fun D7 h => ?_) (fun _ _ h => h))
                    refine zs_aload rfl rfl ?_
                    refine zs_getI rfl rfl ?_
                    obtain ⟨g8, h⟩ := h
                    obtain ⟨h10, h11⟩ := h
                    refine zs_ifne rfl g8 (fun c => ?_) (fun c => ?_)
                    · have h := h10 c
                      refine zs_pushI (-1) rfl rfl ?_
                      exact zs_iret rfl h
                    · have h := h11 c
                      refine zs_aload rfl rfl ?_
                      refine zs_iload rfl rfl ?_
                      refine z_callV (k := 336) (as0 := [.int (z_i v5)]) (r := []) rfl rfl rfl (Nat.le_of_ble_eq_true rfl) (z_oV h (fun D9 h => ?_) (fun _ _ h => h))
                      refine zs_pushI (-1) rfl rfl ?_
                      exact zs_iret rfl h
                  · have h := h13 c
                    exact v_mBegin_230 (by first | assumption | exact trivial) h
              · have h := h18 c
                refine zs_aload rfl rfl ?_
                refine zs_iload rfl rfl ?_
                refine zs_pushI (0) rfl rfl ?_
                refine zs_pushI (0) rfl rfl ?_
                refine z_callV (k := 336) (as0 := [.int (z_i v5), .int (z_i 0), .int (z_i 0)]) (r := []) rfl rfl rfl (Nat.le_of_ble_eq_true rfl) (z_oV h (fun D16 h => ?_) (fun _ _ h => h))
                refine zs_goto rfl ?_
                refine zs_pushI (-1) rfl rfl ?_
                exact zs_iret rfl h
            · have h := h26 c
              refine zs_aload rfl rfl ?_
              refine z_callV (k := 336) (as0 := []) (r := []) rfl rfl rfl (Nat.le_of_ble_eq_true rfl) (z_oI h (fun v20 D19 h => ?_) (fun _ _ h => h))
              refine zs_istore (ls1 := [some (.ref 336), some (.int (z_i a1)), some (.int (z_i v5)), some (.int (z_i v20)), none]) rfl rfl rfl ?_
              refine zs_iload rfl rfl ?_
              refine zs_pushI (-1) rfl rfl ?_
              obtain ⟨g21, h⟩ := h
              obtain ⟨h23, h24⟩ := h
              refine zs_ceq rfl g21 (z_rk rfl) (fun c => ?_) (fun c => ?_)
              · have h := h23 c
                refine zs_goto rfl ?_
                refine zs_pushI (-1) rfl rfl ?_
                exact zs_iret rfl h
              · have h := h24 c
                refine zs_aload rfl rfl ?_
                refine zs_iload rfl rfl ?_
                refine z_callV (k := 336) (as0 := [.int (z_i v20)]) (r := []) rfl rfl rfl (Nat.le_of_ble_eq_true rfl) (z_oV h (fun D22 h => ?_) (fun _ _ h => h))
                refine zs_goto rfl ?_
                refine zs_pushI (-1) rfl rfl ?_
                exact zs_iret rfl h
          · have h := h41 c
            refine zs_aload rfl rfl ?_
            refine z_callV (k := 336) (as0 := []) (r := []) rfl rfl rfl (Nat.le_of_ble_eq_true rfl) (z_oI h (fun v28 D27 h => ?_) (fun _ _ h => h))
            refine zs_istore (ls1 := [some (.ref 336), some (.int (z_i a1)), some (.int (z_i v5)), some (.int (z_i v28)), none]) rfl rfl rfl ?_
            refine zs_iload rfl rfl ?_
            refine zs_pushI (-1) rfl rfl ?_
            obtain ⟨g29, h⟩ := h
            obtain ⟨h38, h39⟩ := h
            refine zs_ceq rfl g29 (z_rk rfl) (fun c => ?_) (fun c => ?_)
            · have h := h38 c
              refine zs_goto rfl ?_
              refine zs_pushI (-1) rfl rfl ?_
              exact zs_iret rfl h
            · have h := h39 c
              refine zs_aload rfl rfl ?_
              refine zs_iload rfl rfl ?_
              refine z_callS (as0 := [.int (z_i v28)]) (r := [.ref 336]) rfl rfl (Nat.le_of_ble_eq_true rfl) (z_oZ h (fun v31 D30 h => ?_) (fun _ _ h => h))
              obtain ⟨h36, h37⟩ := h
              refine zs_beq rfl (fun c => ?_) (fun c => ?_)
              · have h := h36 c
                exact v_mBegin_171 (by first | assumption | exact trivial) (by first | assumption | exact trivial) h
              · have h := h37 c
                refine zs_aload rfl rfl ?_
                refine zs_iload rfl rfl ?_
                refine z_callV (k := 336) (as0 := [.int (z_i v28)]) (r := [.ref 336]) rfl rfl rfl (Nat.le_of_ble_eq_true rfl) (z_oZ h (fun v33 D32 h => ?_) (fun _ _ h => h))
                obtain ⟨h34, h35⟩ := h
                refine zs_beq rfl (fun c => ?_) (fun c => ?_)
                · have h := h34 c
                  exact v_mBegin_171 (by first | assumption | exact trivial) (by first | assumption | exact trivial) h
                · have h := h35 c
                  refine zs_iload rfl rfl ?_
                  refine zs_pushI (8192) rfl rfl ?_
                  refine zs_add (a := v28) (b := 8192) rfl ?_
                  refine zs_goto rfl ?_
                  exact v_mBegin_172 (by first | assumption | exact trivial) (by first | assumption | exact trivial) (by first | assumption | exact trivial) h
        · have h := h50 c
          refine zs_aload rfl rfl ?_
          refine z_callV (k := 336) (as0 := []) (r := []) rfl rfl rfl (Nat.le_of_ble_eq_true rfl) (z_oI h (fun v43 D42 h => ?_) (fun _ _ h => h))
          refine zs_istore (ls1 := [some (.ref 336), some (.int (z_i a1)), some (.int (z_i v5)), some (.int (z_i v43)), none]) rfl rfl rfl ?_
          refine zs_iload rfl rfl ?_
          refine zs_pushI (-1) rfl rfl ?_
          obtain ⟨g44, h⟩ := h
          obtain ⟨h47, h48⟩ := h
          refine zs_cne rfl g44 (z_rk rfl) (fun c => ?_) (fun c => ?_)
          · have h := h47 c
            refine zs_aload rfl rfl ?_
            refine z_callV (k := 336) (as0 := []) (r := []) rfl rfl rfl (Nat.le_of_ble_eq_true rfl) (z_oI h (fun v46 D45 h => ?_) (fun _ _ h => h))
            exact v_mBegin_84 (by first | assumption | exact trivial) h
          · have h := h48 c
            refine zs_pushI (-1) rfl rfl ?_
            refine zs_goto rfl ?_
            exact v_mBegin_84 (by first | assumption | exact trivial) h
      · have h := h53 c
        refine zs_aload rfl rfl ?_
        refine zs_iload rfl rfl ?_
        refine zs_pushI (6000) rfl rfl ?_
        refine zs_sub (a := v5) (b := 6000) rfl ?_
        refine z_callV (k := 336) (as0 := [.int (z_i (v5 - 6000))]) (r := []) rfl rfl rfl (Nat.le_of_ble_eq_true rfl) (z_oV h (fun D51 h => ?_) (fun _ _ h => h))
        refine zs_goto rfl ?_
        refine zs_pushI (-1) rfl rfl ?_
        exact zs_iret rfl h
    · have h := h55 c
      exact v_mBegin_19 (by first | assumption | exact trivial) h
theorem r_mBegin {n d : Nat} {a1 : Int} {D : z_D} {K : Int → z_D → Prop} {T : Nat → z_D → Prop}  (h : w_mBegin_0 n d a1 D K T) : z_c n (d + 1) 128 [.ref 336, .int (z_i a1)] D (z_qI K T) :=
  z_enter (Nat.le_of_ble_eq_true rfl) rfl (fun X => v_mBegin_0 h)
-- 129: TokenMouthModel.close(I)V
def w_mClose_81 (n d : Nat) (s0 : Bool) (D : z_D)  (K : z_D → Prop) (T : Nat → z_D → Prop) : Prop :=
  (z_r (D.1 336 5)) ∧
  ((¬ (D.1 336 5) = 0) →
    ∀ D2, D2 = z_uz D 336 29 ((D.1 336 29) - 0) →
    K D2) ∧
  (((D.1 336 5) = 0) →
    ∀ D3, D3 = z_uz D 336 29 ((D.1 336 29) - 1) →
    K D3)
theorem v_mClose_81 {n d : Nat} {X : z_Xt} {s0 : Bool} {o1 : Option Value} {o2 : Option Value} {D : z_D}  {K : z_D → Prop} {T : Nat → z_D → Prop} (n1 : z_nl o1) (n2 : z_nl o2) (h : w_mClose_81 n d s0 D K T) : z_w n d (k_tb 129) X 81 [some (.ref 336), o1, o2, none] [.int (z_i (z_b s0))] D (z_qV K T) := by
  unfold w_mClose_81 at h
  refine zs_istore (ls1 := [some (.ref 336), o1, o2, some (.int (z_i (z_b s0)))]) rfl rfl ((z_st1 rfl n2).trans rfl) ?_
  refine zs_aload rfl rfl ?_
  refine zs_dup rfl rfl ?_
  refine zs_getI rfl rfl ?_
  refine zs_aload rfl rfl ?_
  refine zs_getI rfl rfl ?_
  obtain ⟨g1, h⟩ := h
  obtain ⟨h4, h5⟩ := h
  refine zs_ifne rfl g1 (fun c => ?_) (fun c => ?_)
  · have h := h4 c
    refine zs_pushI (0) rfl rfl ?_
    refine zs_sub (a := (D.1 336 29)) (b := 0) rfl ?_
    refine zs_putI rfl rfl (fun D2 eD2 => ?_)
    have h := h D2 eD2
    exact zs_ret rfl h
  · have h := h5 c
    refine zs_pushI (1) rfl rfl ?_
    refine zs_goto rfl ?_
    refine zs_sub (a := (D.1 336 29)) (b := 1) rfl ?_
    refine zs_putI rfl rfl (fun D3 eD3 => ?_)
    have h := h D3 eD3
    exact zs_ret rfl h
def w_mClose_80 (n d : Nat)  (D : z_D)  (K : z_D → Prop) (T : Nat → z_D → Prop) : Prop :=
  w_mClose_81 n d false D K T
theorem v_mClose_80 {n d : Nat} {X : z_Xt}  {o1 : Option Value} {o2 : Option Value} {D : z_D}  {K : z_D → Prop} {T : Nat → z_D → Prop} (n1 : z_nl o1) (n2 : z_nl o2) (h : w_mClose_80 n d D K T) : z_w n d (k_tb 129) X 80 [some (.ref 336), o1, o2, none] [] D (z_qV K T) := by
  unfold w_mClose_80 at h
  refine zs_pushI (0) rfl rfl ?_
  exact v_mClose_81 (by first | assumption | exact trivial) (by first | assumption | exact trivial) h
def w_mClose_50 (n d : Nat) (a1 : Int) (s0 : Bool) (D : z_D)  (K : z_D → Prop) (T : Nat → z_D → Prop) : Prop :=
  ((s0 = true) →
    (z_r a1) ∧
    ((¬ a1 = 17) →
      w_mClose_80 n d D K T) ∧
    ((a1 = 17) →
      z_c n d 122 [.ref 336, .int (z_i (z_b false))] D (z_qZ (fun v3 D2 => 
        ((v3 = false) →
          w_mClose_80 n d D2 K T) ∧
        ((v3 = true) →
          w_mClose_81 n d true D2 K T)) T))) ∧
  ((s0 = false) →
    z_c n d 98 [.ref 336, .int (z_i 1)] D (z_qI (fun v9 D8 => 
      K D8) T))
theorem v_mClose_50 {n d : Nat} {X : z_Xt} {a1 : Int} {s0 : Bool}  {D : z_D}  {K : z_D → Prop} {T : Nat → z_D → Prop}  (h : w_mClose_50 n d a1 s0 D K T) : z_w n d (k_tb 129) X 50 [some (.ref 336), some (.int (z_i a1)), none, none] [.int (z_i (z_b s0))] D (z_qV K T) := by
  unfold w_mClose_50 at h
  refine zs_istore (ls1 := [some (.ref 336), some (.int (z_i a1)), some (.int (z_i (z_b s0))), none]) rfl rfl rfl ?_
  refine zs_iload rfl rfl ?_
  obtain ⟨h10, h11⟩ := h
  refine zs_bne rfl (fun c => ?_) (fun c => ?_)
  · have h := h10 c
    refine zs_iload rfl rfl ?_
    refine zs_pushI (17) rfl rfl ?_
    obtain ⟨g1, h⟩ := h
    obtain ⟨h6, h7⟩ := h
    refine zs_cne rfl g1 (z_rk rfl) (fun c => ?_) (fun c => ?_)
    · have h := h6 c
      exact v_mClose_80 (by first | assumption | exact trivial) (by first | assumption | exact trivial) h
    · have h := h7 c
      refine zs_aload rfl rfl ?_
      refine zs_pushI (0) rfl rfl ?_
      refine z_callV (k := 336) (as0 := [.int (z_i (z_b false))]) (r := []) rfl rfl rfl (Nat.le_of_ble_eq_true rfl) (z_oZ h (fun v3 D2 h => ?_) (fun _ _ h => h))
      obtain ⟨h4, h5⟩ := h
      refine zs_beq rfl (fun c => ?_) (fun c => ?_)
      · have h := h4 c
        exact v_mClose_80 (by first | assumption | exact trivial) (by first | assumption | exact trivial) h
      · have h := h5 c
        refine zs_pushI (1) rfl rfl ?_
        refine zs_goto rfl ?_
        exact v_mClose_81 (by first | assumption | exact trivial) (by first | assumption | exact trivial) h
  · have h := h11 c
    refine zs_aload rfl rfl ?_
    refine zs_pushI (1) rfl rfl ?_
    refine z_callV (k := 336) (as0 := [.int (z_i 1)]) (r := []) rfl rfl rfl (Nat.le_of_ble_eq_true rfl) (z_oI h (fun v9 D8 h => ?_) (fun _ _ h => h))
    refine zs_istore (ls1 := [some (.ref 336), some (.int (z_i a1)), some (.int (z_i (z_b s0))), some (.int (z_i v9))]) rfl rfl rfl ?_
    exact zs_ret rfl h
def w_mClose_49 (n d : Nat) (a1 : Int) (D : z_D)  (K : z_D → Prop) (T : Nat → z_D → Prop) : Prop :=
  w_mClose_50 n d a1 false D K T
theorem v_mClose_49 {n d : Nat} {X : z_Xt} {a1 : Int}  {D : z_D}  {K : z_D → Prop} {T : Nat → z_D → Prop}  (h : w_mClose_49 n d a1 D K T) : z_w n d (k_tb 129) X 49 [some (.ref 336), some (.int (z_i a1)), none, none] [] D (z_qV K T) := by
  unfold w_mClose_49 at h
  refine zs_pushI (0) rfl rfl ?_
  exact v_mClose_50 h
def w_mClose_45 (n d : Nat) (a1 : Int) (D : z_D)  (K : z_D → Prop) (T : Nat → z_D → Prop) : Prop :=
  w_mClose_50 n d a1 true D K T
theorem v_mClose_45 {n d : Nat} {X : z_Xt} {a1 : Int}  {D : z_D}  {K : z_D → Prop} {T : Nat → z_D → Prop}  (h : w_mClose_45 n d a1 D K T) : z_w n d (k_tb 129) X 45 [some (.ref 336), some (.int (z_i a1)), none, none] [] D (z_qV K T) := by
  unfold w_mClose_45 at h
  refine zs_pushI (1) rfl rfl ?_
  refine zs_goto rfl ?_
  exact v_mClose_50 h
def w_mClose_0 (n d : Nat) (a1 : Int) (D : z_D)  (K : z_D → Prop) (T : Nat → z_D → Prop) : Prop :=
  (z_r (D.1 336 29)) ∧
  (((D.1 336 29) ≤ 0) →
    w_mClose_49 n d a1 D K T) ∧
  ((0 < (D.1 336 29)) →
    (z_r a1) ∧
    ((¬ a1 = 17) →
      (0 ≤ ((D.1 336 29) - 1) ∧ ((D.1 336 29) - 1) < 12) ∧
      (z_r (D.1 353 (Int.toNat ((D.1 336 29) - 1)))) ∧
      (((D.1 353 (Int.toNat ((D.1 336 29) - 1))) ≤ 0) →
        w_mClose_49 n d a1 D K T) ∧
      ((0 < (D.1 353 (Int.toNat ((D.1 336 29) - 1)))) →
        w_mClose_45 n d a1 D K T)) ∧
    ((a1 = 17) →
      (0 ≤ ((D.1 336 29) - 1) ∧ ((D.1 336 29) - 1) < 12) ∧
      (z_r (D.1 353 (Int.toNat ((D.1 336 29) - 1)))) ∧
      ((¬ (D.1 353 (Int.toNat ((D.1 336 29) - 1))) = 1) →
        w_mClose_49 n d a1 D K T) ∧
      (((D.1 353 (Int.toNat ((D.1 336 29) - 1))) = 1) →
        w_mClose_45 n d a1 D K T)))
theorem v_mClose_0 {n d : Nat} {X : z_Xt} {a1 : Int}  {D : z_D}  {K : z_D → Prop} {T : Nat → z_D → Prop}  (h : w_mClose_0 n d a1 D K T) : z_w n d (k_tb 129) X 0 [some (.ref 336), some (.int (z_i a1)), none, none] [] D (z_qV K T) := by
  unfold w_mClose_0 at h
  refine zs_aload rfl rfl ?_
  refine zs_getI rfl rfl ?_
  obtain ⟨g1, h⟩ := h
  obtain ⟨h13, h14⟩ := h
  refine zs_ifle rfl g1 (fun c => ?_) (fun c => ?_)
  · have h := h13 c
    exact v_mClose_49 h
  · have h := h14 c
    refine zs_iload rfl rfl ?_
    refine zs_pushI (17) rfl rfl ?_
    obtain ⟨g2, h⟩ := h
    obtain ⟨h11, h12⟩ := h
    refine zs_cne rfl g2 (z_rk rfl) (fun c => ?_) (fun c => ?_)
    · have h := h11 c
      refine zs_aload rfl rfl ?_
      refine zs_getR (x := 353) rfl rfl rfl ?_
      refine zs_aload rfl rfl ?_
      refine zs_getI rfl rfl ?_
      refine zs_pushI (1) rfl rfl ?_
      refine zs_sub (a := (D.1 336 29)) (b := 1) rfl ?_
      obtain ⟨g3, h⟩ := h
      refine zs_iald rfl rfl (by decide) g3 ?_
      obtain ⟨g4, h⟩ := h
      obtain ⟨h5, h6⟩ := h
      refine zs_ifle rfl g4 (fun c => ?_) (fun c => ?_)
      · have h := h5 c
        exact v_mClose_49 h
      · have h := h6 c
        exact v_mClose_45 h
    · have h := h12 c
      refine zs_aload rfl rfl ?_
      refine zs_getR (x := 353) rfl rfl rfl ?_
      refine zs_aload rfl rfl ?_
      refine zs_getI rfl rfl ?_
      refine zs_pushI (1) rfl rfl ?_
      refine zs_sub (a := (D.1 336 29)) (b := 1) rfl ?_
      obtain ⟨g7, h⟩ := h
      refine zs_iald rfl rfl (by decide) g7 ?_
      refine zs_pushI (1) rfl rfl ?_
      obtain ⟨g8, h⟩ := h
      obtain ⟨h9, h10⟩ := h
      refine zs_cne rfl g8 (z_rk rfl) (fun c => ?_) (fun c => ?_)
      · have h := h9 c
        exact v_mClose_49 h
      · have h := h10 c
        refine zs_goto rfl ?_
        exact v_mClose_45 h
theorem r_mClose {n d : Nat} {a1 : Int} {D : z_D} {K : z_D → Prop} {T : Nat → z_D → Prop}  (h : w_mClose_0 n d a1 D K T) : z_c n (d + 1) 129 [.ref 336, .int (z_i a1)] D (z_qV K T) :=
  z_enter (Nat.le_of_ble_eq_true rfl) rfl (fun X => v_mClose_0 h)
-- 130: TokenMouthModel.test(I)V
def w_mTest_91 (n d : Nat) (s1 : Int) (s2 : Bool) (D : z_D)  (K : z_D → Prop) (T : Nat → z_D → Prop) : Prop :=
  z_c n d 123 [.ref 336, .int (z_i s1), .int (z_i (z_b s2))] D (z_qV (fun D1 => 
    K D1) T)
theorem v_mTest_91 {n d : Nat} {X : z_Xt} {s1 : Int} {s2 : Bool} {o1 : Option Value} {o2 : Option Value} {D : z_D}  {K : z_D → Prop} {T : Nat → z_D → Prop} (n1 : z_nl o1) (n2 : z_nl o2) (h : w_mTest_91 n d s1 s2 D K T) : z_w n d (k_tb 130) X 91 [some (.ref 336), o1, o2, none, none] [.int (z_i (z_b s2)), .int (z_i s1), .ref 336] D (z_qV K T) := by
  unfold w_mTest_91 at h
  refine z_callV (k := 336) (as0 := [.int (z_i s1), .int (z_i (z_b s2))]) (r := []) rfl rfl rfl (Nat.le_of_ble_eq_true rfl) (z_oV h (fun D1 h => ?_) (fun _ _ h => h))
  exact zs_ret rfl h
def w_mTest_47 (n d : Nat) (a2 : Int) (a3 : Int) (s0 : Int) (D : z_D)  (K : z_D → Prop) (T : Nat → z_D → Prop) : Prop :=
  (z_r s0) ∧
  ((s0 = (-1)) →
    K D) ∧
  ((¬ s0 = (-1)) →
    z_c n d 111 [.ref 336, .int (z_i a3)] D (z_qI (fun v3 D2 => 
      z_c n d 111 [.ref 336, .int (z_i s0)] D2 (z_qI (fun v5 D4 => 
        z_c n d 124 [.ref 336, .int (z_i v3), .int (z_i v5)] D4 (z_qZ (fun v7 D6 => 
          z_c n d 123 [.ref 336, .int (z_i a2), .int (z_i (z_b v7))] D6 (z_qV (fun D8 => 
            K D8) T)) T)) T)) T))
theorem v_mTest_47 {n d : Nat} {X : z_Xt} {a2 : Int} {a3 : Int} {s0 : Int} {o1 : Option Value} {D : z_D}  {K : z_D → Prop} {T : Nat → z_D → Prop} (n1 : z_nl o1) (h : w_mTest_47 n d a2 a3 s0 D K T) : z_w n d (k_tb 130) X 47 [some (.ref 336), o1, some (.int (z_i a2)), some (.int (z_i a3)), none] [.int (z_i s0)] D (z_qV K T) := by
  unfold w_mTest_47 at h
  refine zs_istore (ls1 := [some (.ref 336), o1, some (.int (z_i a2)), some (.int (z_i a3)), some (.int (z_i s0))]) rfl rfl rfl ?_
  refine zs_iload rfl rfl ?_
  refine zs_pushI (-1) rfl rfl ?_
  obtain ⟨g1, h⟩ := h
  obtain ⟨h9, h10⟩ := h
  refine zs_ceq rfl g1 (z_rk rfl) (fun c => ?_) (fun c => ?_)
  · have h := h9 c
    refine zs_goto rfl ?_
    exact zs_ret rfl h
  · have h := h10 c
    refine zs_aload rfl rfl ?_
    refine zs_iload rfl rfl ?_
    refine zs_aload rfl rfl ?_
    refine zs_aload rfl rfl ?_
    refine zs_iload rfl rfl ?_
    refine z_callV (k := 336) (as0 := [.int (z_i a3)]) (r := [.ref 336, .int (z_i a2), .ref 336]) rfl rfl rfl (Nat.le_of_ble_eq_true rfl) (z_oI h (fun v3 D2 h => ?_) (fun _ _ h => h))
    refine zs_aload rfl rfl ?_
    refine zs_iload rfl rfl ?_
    refine z_callV (k := 336) (as0 := [.int (z_i s0)]) (r := [.int (z_i v3), .ref 336, .int (z_i a2), .ref 336]) rfl rfl rfl (Nat.le_of_ble_eq_true rfl) (z_oI h (fun v5 D4 h => ?_) (fun _ _ h => h))
    refine z_callV (k := 336) (as0 := [.int (z_i v3), .int (z_i v5)]) (r := [.int (z_i a2), .ref 336]) rfl rfl rfl (Nat.le_of_ble_eq_true rfl) (z_oZ h (fun v7 D6 h => ?_) (fun _ _ h => h))
    refine z_callV (k := 336) (as0 := [.int (z_i a2), .int (z_i (z_b v7))]) (r := []) rfl rfl rfl (Nat.le_of_ble_eq_true rfl) (z_oV h (fun D8 h => ?_) (fun _ _ h => h))
    refine zs_goto rfl ?_
    exact zs_ret rfl h
def w_mTest_0 (n d : Nat) (a1 : Int) (D : z_D)  (K : z_D → Prop) (T : Nat → z_D → Prop) : Prop :=
  (z_r a1) ∧
  ((¬ a1 = 13) →
    ((¬ a1 = 14) →
      ((¬ a1 = 15) →
        w_mTest_91 n d ((D.1 336 29) - 1) false D K T) ∧
      ((a1 = 15) →
        w_mTest_91 n d ((D.1 336 29) - 1) true D K T)) ∧
    ((a1 = 14) →
      z_c n d 105 [.ref 336] D (z_qI (fun v5 D4 => 
        (z_r v5) ∧
        ((¬ v5 = (-1)) →
          z_c n d 105 [.ref 336] D4 (z_qI (fun v8 D7 => 
            w_mTest_47 n d ((D.1 336 29) - 1) v5 v8 D7 K T) T)) ∧
        ((v5 = (-1)) →
          w_mTest_47 n d ((D.1 336 29) - 1) v5 (-1) D4 K T)) T))) ∧
  ((a1 = 13) →
    z_c n d 127 [.ref 336, .int (z_i a1), .int (z_i 0), .int (z_i ((D.1 336 29) - 1))] D (z_qV (fun D13 => 
      K D13) T))
theorem v_mTest_0 {n d : Nat} {X : z_Xt} {a1 : Int}  {D : z_D}  {K : z_D → Prop} {T : Nat → z_D → Prop}  (h : w_mTest_0 n d a1 D K T) : z_w n d (k_tb 130) X 0 [some (.ref 336), some (.int (z_i a1)), none, none, none] [] D (z_qV K T) := by
  unfold w_mTest_0 at h
  refine zs_aload rfl rfl ?_
  refine zs_getI rfl rfl ?_
  refine zs_pushI (1) rfl rfl ?_
  refine zs_sub (a := (D.1 336 29)) (b := 1) rfl ?_
  refine zs_istore (ls1 := [some (.ref 336), some (.int (z_i a1)), some (.int (z_i ((D.1 336 29) - 1))), none, none]) rfl rfl rfl ?_
  refine zs_iload rfl rfl ?_
  refine zs_pushI (13) rfl rfl ?_
  obtain ⟨g1, h⟩ := h
  obtain ⟨h14, h15⟩ := h
  refine zs_cne rfl g1 (z_rk rfl) (fun c => ?_) (fun c => ?_)
  · have h := h14 c
    refine zs_iload rfl rfl ?_
    refine zs_pushI (14) rfl rfl ?_
    obtain ⟨h11, h12⟩ := h
    refine zs_cne rfl g1 (z_rk rfl) (fun c => ?_) (fun c => ?_)
    · have h := h11 c
      refine zs_aload rfl rfl ?_
      refine zs_iload rfl rfl ?_
      refine zs_iload rfl rfl ?_
      refine zs_pushI (15) rfl rfl ?_
      obtain ⟨h2, h3⟩ := h
      refine zs_cne rfl g1 (z_rk rfl) (fun c => ?_) (fun c => ?_)
      · have h := h2 c
        refine zs_pushI (0) rfl rfl ?_
        exact v_mTest_91 (by first | assumption | exact trivial) (by first | assumption | exact trivial) h
      · have h := h3 c
        refine zs_pushI (1) rfl rfl ?_
        refine zs_goto rfl ?_
        exact v_mTest_91 (by first | assumption | exact trivial) (by first | assumption | exact trivial) h
    · have h := h12 c
      refine zs_aload rfl rfl ?_
      refine z_callV (k := 336) (as0 := []) (r := []) rfl rfl rfl (Nat.le_of_ble_eq_true rfl) (z_oI h (fun v5 D4 h => ?_) (fun _ _ h => h))
      refine zs_istore (ls1 := [some (.ref 336), some (.int (z_i a1)), some (.int (z_i ((D.1 336 29) - 1))), some (.int (z_i v5)), none]) rfl rfl rfl ?_
      refine zs_iload rfl rfl ?_
      refine zs_pushI (-1) rfl rfl ?_
      obtain ⟨g6, h⟩ := h
      obtain ⟨h9, h10⟩ := h
      refine zs_cne rfl g6 (z_rk rfl) (fun c => ?_) (fun c => ?_)
      · have h := h9 c
        refine zs_aload rfl rfl ?_
        refine z_callV (k := 336) (as0 := []) (r := []) rfl rfl rfl (Nat.le_of_ble_eq_true rfl) (z_oI h (fun v8 D7 h => ?_) (fun _ _ h => h))
        exact v_mTest_47 (by first | assumption | exact trivial) h
      · have h := h10 c
        refine zs_pushI (-1) rfl rfl ?_
        refine zs_goto rfl ?_
        exact v_mTest_47 (by first | assumption | exact trivial) h
  · have h := h15 c
    refine zs_aload rfl rfl ?_
    refine zs_iload rfl rfl ?_
    refine zs_pushI (0) rfl rfl ?_
    refine zs_iload rfl rfl ?_
    refine z_callV (k := 336) (as0 := [.int (z_i a1), .int (z_i 0), .int (z_i ((D.1 336 29) - 1))]) (r := []) rfl rfl rfl (Nat.le_of_ble_eq_true rfl) (z_oV h (fun D13 h => ?_) (fun _ _ h => h))
    refine zs_goto rfl ?_
    exact zs_ret rfl h
theorem r_mTest {n d : Nat} {a1 : Int} {D : z_D} {K : z_D → Prop} {T : Nat → z_D → Prop}  (h : w_mTest_0 n d a1 D K T) : z_c n (d + 1) 130 [.ref 336, .int (z_i a1)] D (z_qV K T) :=
  z_enter (Nat.le_of_ble_eq_true rfl) rfl (fun X => v_mTest_0 h)
-- 131: TokenMouthModel.goOn()I
def w_mGoOn_154 (n d : Nat) (a1 : Int) (a4 : Int) (s1 : Int) (s2 : Bool) (D : z_D)  (K : Int → z_D → Prop) (T : Nat → z_D → Prop) : Prop :=
  z_c n d 123 [.ref 336, .int (z_i s1), .int (z_i (z_b s2))] D (z_qV (fun D1 => 
    (0 ≤ a1 ∧ a1 < 30) ∧
    ∀ D3, D3 = z_uz D1 355 (Int.toNat a1) a4 →
    K (-1) D3) T)
theorem v_mGoOn_154 {n d : Nat} {X : z_Xt} {a1 : Int} {a4 : Int} {s1 : Int} {s2 : Bool} {o2 : Option Value} {o3 : Option Value} {D : z_D}  {K : Int → z_D → Prop} {T : Nat → z_D → Prop} (n2 : z_nl o2) (n3 : z_nl o3) (h : w_mGoOn_154 n d a1 a4 s1 s2 D K T) : z_w n d (k_tb 131) X 154 [some (.ref 336), some (.int (z_i a1)), o2, o3, some (.int (z_i a4))] [.int (z_i (z_b s2)), .int (z_i s1), .ref 336] D (z_qI K T) := by
  unfold w_mGoOn_154 at h
  refine z_callV (k := 336) (as0 := [.int (z_i s1), .int (z_i (z_b s2))]) (r := []) rfl rfl rfl (Nat.le_of_ble_eq_true rfl) (z_oV h (fun D1 h => ?_) (fun _ _ h => h))
  refine zs_aload rfl rfl ?_
  refine zs_getR (x := 355) rfl rfl rfl ?_
  refine zs_iload rfl rfl ?_
  refine zs_iload rfl rfl ?_
  obtain ⟨g2, h⟩ := h
  refine zs_iast rfl rfl (by decide) g2 (fun D3 eD3 => ?_)
  have h := h D3 eD3
  refine zs_goto rfl ?_
  refine zs_pushI (-1) rfl rfl ?_
  exact zs_iret rfl h
def w_mGoOn_99 (n d : Nat) (a1 : Int) (s0 : Int) (D : z_D)  (K : Int → z_D → Prop) (T : Nat → z_D → Prop) : Prop :=
  (0 ≤ a1 ∧ a1 < 30) ∧
  (0 ≤ a1 ∧ a1 < 30) ∧
  ∀ D3, D3 = z_uz D 356 (Int.toNat a1) ((D.1 356 (Int.toNat a1)) + 1) →
  (0 ≤ a1 ∧ a1 < 30) ∧
  (z_r (D3.1 356 (Int.toNat a1))) ∧
  ((¬ (D3.1 356 (Int.toNat a1)) = 2) →
    (0 ≤ a1 ∧ a1 < 30) ∧
    ∀ D7, D7 = z_uz D3 355 (Int.toNat a1) s0 →
    K (-1) D7) ∧
  (((D3.1 356 (Int.toNat a1)) = 2) →
    ∀ D8, D8 = z_uz D3 336 31 ((D3.1 336 31) - 1) →
    (0 ≤ a1 ∧ a1 < 30) ∧
    (0 ≤ a1 ∧ a1 < 30) ∧
    (z_r s0) ∧ (z_r (D8.1 355 (Int.toNat a1))) ∧
    ((¬ s0 = (D8.1 355 (Int.toNat a1))) →
      w_mGoOn_154 n d a1 s0 (D8.1 357 (Int.toNat a1)) false D8 K T) ∧
    ((s0 = (D8.1 355 (Int.toNat a1))) →
      w_mGoOn_154 n d a1 s0 (D8.1 357 (Int.toNat a1)) true D8 K T))
theorem v_mGoOn_99 {n d : Nat} {X : z_Xt} {a1 : Int} {s0 : Int} {o2 : Option Value} {o3 : Option Value} {D : z_D}  {K : Int → z_D → Prop} {T : Nat → z_D → Prop} (n2 : z_nl o2) (n3 : z_nl o3) (h : w_mGoOn_99 n d a1 s0 D K T) : z_w n d (k_tb 131) X 99 [some (.ref 336), some (.int (z_i a1)), o2, o3, none] [.int (z_i s0)] D (z_qI K T) := by
  unfold w_mGoOn_99 at h
  refine zs_istore (ls1 := [some (.ref 336), some (.int (z_i a1)), o2, o3, some (.int (z_i s0))]) rfl rfl ((z_st1 rfl n3).trans rfl) ?_
  refine zs_aload rfl rfl ?_
  refine zs_getR (x := 356) rfl rfl rfl ?_
  refine zs_iload rfl rfl ?_
  refine zs_dup2 rfl rfl rfl ?_
  obtain ⟨g1, h⟩ := h
  refine zs_iald rfl rfl (by decide) g1 ?_
  refine zs_pushI (1) rfl rfl ?_
  refine zs_add (a := (D.1 356 (Int.toNat a1))) (b := 1) rfl ?_
  obtain ⟨g2, h⟩ := h
  refine zs_iast rfl rfl (by decide) g2 (fun D3 eD3 => ?_)
  have h := h D3 eD3
  refine zs_aload rfl rfl ?_
  refine zs_getR (x := 356) rfl rfl rfl ?_
  refine zs_iload rfl rfl ?_
  obtain ⟨g4, h⟩ := h
  refine zs_iald rfl rfl (by decide) g4 ?_
  refine zs_pushI (2) rfl rfl ?_
  obtain ⟨g5, h⟩ := h
  obtain ⟨h15, h16⟩ := h
  refine zs_cne rfl g5 (z_rk rfl) (fun c => ?_) (fun c => ?_)
  · have h := h15 c
    refine zs_aload rfl rfl ?_
    refine zs_getR (x := 355) rfl rfl rfl ?_
    refine zs_iload rfl rfl ?_
    refine zs_iload rfl rfl ?_
    obtain ⟨g6, h⟩ := h
    refine zs_iast rfl rfl (by decide) g6 (fun D7 eD7 => ?_)
    have h := h D7 eD7
    refine zs_goto rfl ?_
    refine zs_pushI (-1) rfl rfl ?_
    exact zs_iret rfl h
  · have h := h16 c
    refine zs_aload rfl rfl ?_
    refine zs_dup rfl rfl ?_
    refine zs_getI rfl rfl ?_
    refine zs_pushI (1) rfl rfl ?_
    refine zs_sub (a := (D3.1 336 31)) (b := 1) rfl ?_
    refine zs_putI rfl rfl (fun D8 eD8 => ?_)
    have h := h D8 eD8
    refine zs_aload rfl rfl ?_
    refine zs_aload rfl rfl ?_
    refine zs_getR (x := 357) rfl rfl rfl ?_
    refine zs_iload rfl rfl ?_
    obtain ⟨g9, h⟩ := h
    refine zs_iald rfl rfl (by decide) g9 ?_
    refine zs_iload rfl rfl ?_
    refine zs_aload rfl rfl ?_
    refine zs_getR (x := 355) rfl rfl rfl ?_
    refine zs_iload rfl rfl ?_
    obtain ⟨g10, h⟩ := h
    refine zs_iald rfl rfl (by decide) g10 ?_
    obtain ⟨g11, g12, h⟩ := h
    obtain ⟨h13, h14⟩ := h
    refine zs_cne rfl g11 g12 (fun c => ?_) (fun c => ?_)
    · have h := h13 c
      refine zs_pushI (0) rfl rfl ?_
      exact v_mGoOn_154 (by first | assumption | exact trivial) (by first | assumption | exact trivial) h
    · have h := h14 c
      refine zs_pushI (1) rfl rfl ?_
      refine zs_goto rfl ?_
      exact v_mGoOn_154 (by first | assumption | exact trivial) (by first | assumption | exact trivial) h
def w_mGoOn_0 (n d : Nat)  (D : z_D)  (K : Int → z_D → Prop) (T : Nat → z_D → Prop) : Prop :=
  (0 ≤ ((D.1 336 31) - 1) ∧ ((D.1 336 31) - 1) < 30) ∧
  (z_r (D.1 354 (Int.toNat ((D.1 336 31) - 1)))) ∧
  ((¬ (D.1 354 (Int.toNat ((D.1 336 31) - 1))) = 8) →
    z_c n d 105 [.ref 336] D (z_qI (fun v4 D3 => 
      (z_r v4) ∧
      ((v4 = (-1)) →
        K v4 D3) ∧
      ((¬ v4 = (-1)) →
        z_c n d 112 [.ref 336, .int (z_i v4)] D3 (z_qZ (fun v7 D6 => 
          ((v7 = false) →
            z_c n d 111 [.ref 336, .int (z_i v4)] D6 (z_qI (fun v9 D8 => 
              (0 ≤ ((D.1 336 31) - 1) ∧ ((D.1 336 31) - 1) < 30) ∧
              (z_r (D8.1 354 (Int.toNat ((D.1 336 31) - 1)))) ∧
              ((¬ (D8.1 354 (Int.toNat ((D.1 336 31) - 1))) = 13) →
                (z_r v9) ∧
                ((¬ v9 = 11) →
                  ((v4 < 4096) →
                    (0 ≤ ((D.1 336 31) - 1) ∧ ((D.1 336 31) - 1) < 30) ∧
                    (z_r (D8.1 356 (Int.toNat ((D.1 336 31) - 1)))) ∧
                    ((¬ (D8.1 356 (Int.toNat ((D.1 336 31) - 1))) = 11) →
                      (0 ≤ ((D.1 336 31) - 1) ∧ ((D.1 336 31) - 1) < 30) ∧
                      (0 ≤ ((12 * ((D.1 336 31) - 1)) + (D8.1 356 (Int.toNat ((D.1 336 31) - 1)))) ∧ ((12 * ((D.1 336 31) - 1)) + (D8.1 356 (Int.toNat ((D.1 336 31) - 1)))) < 360) ∧
                      ∀ D17, D17 = z_uz D8 358 (Int.toNat ((12 * ((D.1 336 31) - 1)) + (D8.1 356 (Int.toNat ((D.1 336 31) - 1))))) (z_and v4 255) →
                      (0 ≤ ((D.1 336 31) - 1) ∧ ((D.1 336 31) - 1) < 30) ∧
                      (0 ≤ ((D.1 336 31) - 1) ∧ ((D.1 336 31) - 1) < 30) ∧
                      ∀ D20, D20 = z_uz D17 356 (Int.toNat ((D.1 336 31) - 1)) ((D17.1 356 (Int.toNat ((D.1 336 31) - 1))) + 1) →
                      K (-1) D20) ∧
                    (((D8.1 356 (Int.toNat ((D.1 336 31) - 1))) = 11) →
                      z_c n d 98 [.ref 336, .int (z_i 5)] D8 (z_qI (fun v22 D21 => 
                        K v22 D21) T))) ∧
                  ((4096 ≤ v4) →
                    z_c n d 98 [.ref 336, .int (z_i 4)] D8 (z_qI (fun v26 D25 => 
                      K v26 D25) T))) ∧
                ((v9 = 11) →
                  ∀ D29, D29 = z_uz D8 336 31 ((D8.1 336 31) - 1) →
                  z_c n d 132 [.ref 336, .int (z_i ((D.1 336 31) - 1))] D29 (z_qV (fun D30 => 
                    K (-1) D30) T))) ∧
              (((D8.1 354 (Int.toNat ((D.1 336 31) - 1))) = 13) →
                (z_r v9) ∧
                ((1000 ≤ v9) →
                  w_mGoOn_99 n d ((D.1 336 31) - 1) (z_and (v9 - 1000) 255) D8 K T) ∧
                ((v9 < 1000) →
                  w_mGoOn_99 n d ((D.1 336 31) - 1) 256 D8 K T))) T)) ∧
          ((v7 = true) →
            K v4 D6)) T))) T)) ∧
  (((D.1 354 (Int.toNat ((D.1 336 31) - 1))) = 8) →
    ∀ D42, D42 = z_uz D 336 31 ((D.1 336 31) - 1) →
    (0 ≤ ((D.1 336 31) - 1) ∧ ((D.1 336 31) - 1) < 30) ∧
    z_c n d 106 [.ref 336, .int (z_i (D42.1 355 (Int.toNat ((D.1 336 31) - 1))))] D42 (z_qV (fun D44 => 
      K (-1) D44) T))
theorem v_mGoOn_0 {n d : Nat} {X : z_Xt}   {D : z_D}  {K : Int → z_D → Prop} {T : Nat → z_D → Prop}  (h : w_mGoOn_0 n d D K T) : z_w n d (k_tb 131) X 0 [some (.ref 336), none, none, none, none] [] D (z_qI K T) := by
  unfold w_mGoOn_0 at h
  refine zs_aload rfl rfl ?_
  refine zs_getI rfl rfl ?_
  refine zs_pushI (1) rfl rfl ?_
  refine zs_sub (a := (D.1 336 31)) (b := 1) rfl ?_
  refine zs_istore (ls1 := [some (.ref 336), some (.int (z_i ((D.1 336 31) - 1))), none, none, none]) rfl rfl rfl ?_
  refine zs_aload rfl rfl ?_
  refine zs_getR (x := 354) rfl rfl rfl ?_
  refine zs_iload rfl rfl ?_
  obtain ⟨g1, h⟩ := h
  refine zs_iald rfl rfl (by decide) g1 ?_
  refine zs_pushI (8) rfl rfl ?_
  obtain ⟨g2, h⟩ := h
  obtain ⟨h45, h46⟩ := h
  refine zs_cne rfl g2 (z_rk rfl) (fun c => ?_) (fun c => ?_)
  · have h := h45 c
    refine zs_aload rfl rfl ?_
    refine z_callV (k := 336) (as0 := []) (r := []) rfl rfl rfl (Nat.le_of_ble_eq_true rfl) (z_oI h (fun v4 D3 h => ?_) (fun _ _ h => h))
    refine zs_istore (ls1 := [some (.ref 336), some (.int (z_i ((D.1 336 31) - 1))), some (.int (z_i v4)), none, none]) rfl rfl rfl ?_
    refine zs_iload rfl rfl ?_
    refine zs_pushI (-1) rfl rfl ?_
    obtain ⟨g5, h⟩ := h
    obtain ⟨h40, h41⟩ := h
    refine zs_ceq rfl g5 (z_rk rfl) (fun c => ?_) (fun c => ?_)
    · have h := h40 c
      refine zs_iload rfl rfl ?_
      exact zs_iret rfl h
    · have h := h41 c
      refine zs_aload rfl rfl ?_
      refine zs_iload rfl rfl ?_
      refine z_callV (k := 336) (as0 := [.int (z_i v4)]) (r := []) rfl rfl rfl (Nat.le_of_ble_eq_true rfl) (z_oZ h (fun v7 D6 h => ?_) (fun _ _ h => h))
      obtain ⟨h38, h39⟩ := h
      refine zs_beq rfl (fun c => ?_) (fun c => ?_)
      · have h := h38 c
        refine zs_aload rfl rfl ?_
        refine zs_iload rfl rfl ?_
        refine z_callV (k := 336) (as0 := [.int (z_i v4)]) (r := []) rfl rfl rfl (Nat.le_of_ble_eq_true rfl) (z_oI h (fun v9 D8 h => ?_) (fun _ _ h => h))
        refine zs_istore (ls1 := [some (.ref 336), some (.int (z_i ((D.1 336 31) - 1))), some (.int (z_i v4)), some (.int (z_i v9)), none]) rfl rfl rfl ?_
        refine zs_aload rfl rfl ?_
        refine zs_getR (x := 354) rfl rfl rfl ?_
        refine zs_iload rfl rfl ?_
        obtain ⟨g10, h⟩ := h
        refine zs_iald rfl rfl (by decide) g10 ?_
        refine zs_pushI (13) rfl rfl ?_
        obtain ⟨g11, h⟩ := h
        obtain ⟨h36, h37⟩ := h
        refine zs_cne rfl g11 (z_rk rfl) (fun c => ?_) (fun c => ?_)
        · have h := h36 c
          refine zs_iload rfl rfl ?_
          refine zs_pushI (11) rfl rfl ?_
          obtain ⟨g12, h⟩ := h
          obtain ⟨h31, h32⟩ := h
          refine zs_cne rfl g12 (z_rk rfl) (fun c => ?_) (fun c => ?_)
          · have h := h31 c
            refine zs_iload rfl rfl ?_
            refine zs_pushI (4096) rfl rfl ?_
            obtain ⟨h27, h28⟩ := h
            refine zs_clt rfl g5 (z_rk rfl) (fun c => ?_) (fun c => ?_)
            · have h := h27 c
              refine zs_aload rfl rfl ?_
              refine zs_getR (x := 356) rfl rfl rfl ?_
              refine zs_iload rfl rfl ?_
              obtain ⟨g13, h⟩ := h
              refine zs_iald rfl rfl (by decide) g13 ?_
              refine zs_pushI (11) rfl rfl ?_
              obtain ⟨g14, h⟩ := h
              obtain ⟨h23, h24⟩ := h
              refine zs_cne rfl g14 (z_rk rfl) (fun c => ?_) (fun c => ?_)
              · have h := h23 c
                refine zs_aload rfl rfl ?_
                refine zs_getR (x := 358) rfl rfl rfl ?_
                refine zs_pushI (12) rfl rfl ?_
                refine zs_iload rfl rfl ?_
                refine zs_mul (a := 12) (b := ((D.1 336 31) - 1)) rfl ?_
                refine zs_aload rfl rfl ?_
                refine zs_getR (x := 356) rfl rfl rfl ?_
                refine zs_iload rfl rfl ?_
                obtain ⟨g15, h⟩ := h
                refine zs_iald rfl rfl (by decide) g15 ?_
                refine zs_add (a := (12 * ((D.1 336 31) - 1))) (b := (D8.1 356 (Int.toNat ((D.1 336 31) - 1)))) rfl ?_
                refine zs_iload rfl rfl ?_
                refine zs_pushI (255) rfl rfl ?_
                refine zs_and (a := v4) (b := 255) rfl ?_
                obtain ⟨g16, h⟩ := h
                refine zs_iast rfl rfl (by decide) g16 (fun D17 eD17 => ?_)
                have h := h D17 eD17
                refine zs_aload rfl rfl ?_
                refine zs_getR (x := 356) rfl rfl rfl ?_
                refine zs_iload rfl rfl ?_
                refine zs_dup2 rfl rfl rfl ?_
                obtain ⟨g18, h⟩ := h
                refine zs_iald rfl rfl (by decide) g18 ?_
                refine zs_pushI (1) rfl rfl ?_
                refine zs_add (a := (D17.1 356 (Int.toNat ((D.1 336 31) - 1)))) (b := 1) rfl ?_
                obtain ⟨g19, h⟩ := h
                refine zs_iast rfl rfl (by decide) g19 (fun D20 eD20 => ?_)
                have h := h D20 eD20
                refine zs_pushI (-1) rfl rfl ?_
                exact zs_iret rfl h
              · have h := h24 c
                refine zs_aload rfl rfl ?_
                refine zs_pushI (5) rfl rfl ?_
                refine z_callV (k := 336) (as0 := [.int (z_i 5)]) (r := []) rfl rfl rfl (Nat.le_of_ble_eq_true rfl) (z_oI h (fun v22 D21 h => ?_) (fun _ _ h => h))
                exact zs_iret rfl h
            · have h := h28 c
              refine zs_aload rfl rfl ?_
              refine zs_pushI (4) rfl rfl ?_
              refine z_callV (k := 336) (as0 := [.int (z_i 4)]) (r := []) rfl rfl rfl (Nat.le_of_ble_eq_true rfl) (z_oI h (fun v26 D25 h => ?_) (fun _ _ h => h))
              exact zs_iret rfl h
          · have h := h32 c
            refine zs_aload rfl rfl ?_
            refine zs_dup rfl rfl ?_
            refine zs_getI rfl rfl ?_
            refine zs_pushI (1) rfl rfl ?_
            refine zs_sub (a := (D8.1 336 31)) (b := 1) rfl ?_
            refine zs_putI rfl rfl (fun D29 eD29 => ?_)
            have h := h D29 eD29
            refine zs_aload rfl rfl ?_
            refine zs_iload rfl rfl ?_
            refine z_callV (k := 336) (as0 := [.int (z_i ((D.1 336 31) - 1))]) (r := []) rfl rfl rfl (Nat.le_of_ble_eq_true rfl) (z_oV h (fun D30 h => ?_) (fun _ _ h => h))
            refine zs_goto rfl ?_
            refine zs_pushI (-1) rfl rfl ?_
            exact zs_iret rfl h
        · have h := h37 c
          refine zs_iload rfl rfl ?_
          refine zs_pushI (1000) rfl rfl ?_
          obtain ⟨g33, h⟩ := h
          obtain ⟨h34, h35⟩ := h
          refine zs_cge rfl g33 (z_rk rfl) (fun c => ?_) (fun c => ?_)
          · have h := h34 c
            refine zs_iload rfl rfl ?_
            refine zs_pushI (1000) rfl rfl ?_
            refine zs_sub (a := v9) (b := 1000) rfl ?_
            refine zs_pushI (255) rfl rfl ?_
            refine zs_and (a := (v9 - 1000)) (b := 255) rfl ?_
            exact v_mGoOn_99 (by first | assumption | exact trivial) (by first | assumption | exact trivial) h
          · have h := h35 c
            refine zs_pushI (256) rfl rfl ?_
            refine zs_goto rfl ?_
            exact v_mGoOn_99 (by first | assumption | exact trivial) (by first | assumption | exact trivial) h
      · have h := h39 c
        refine zs_iload rfl rfl ?_
        exact zs_iret rfl h
  · have h := h46 c
    refine zs_aload rfl rfl ?_
    refine zs_dup rfl rfl ?_
    refine zs_getI rfl rfl ?_
    refine zs_pushI (1) rfl rfl ?_
    refine zs_sub (a := (D.1 336 31)) (b := 1) rfl ?_
    refine zs_putI rfl rfl (fun D42 eD42 => ?_)
    have h := h D42 eD42
    refine zs_aload rfl rfl ?_
    refine zs_aload rfl rfl ?_
    refine zs_getR (x := 355) rfl rfl rfl ?_
    refine zs_iload rfl rfl ?_
    obtain ⟨g43, h⟩ := h
    refine zs_iald rfl rfl (by decide) g43 ?_
    refine z_callV (k := 336) (as0 := [.int (z_i (D42.1 355 (Int.toNat ((D.1 336 31) - 1))))]) (r := []) rfl rfl rfl (Nat.le_of_ble_eq_true rfl) (z_oV h (fun D44 h => ?_) (fun _ _ h => h))
    refine zs_pushI (-1) rfl rfl ?_
    exact zs_iret rfl h
theorem r_mGoOn {n d : Nat}  {D : z_D} {K : Int → z_D → Prop} {T : Nat → z_D → Prop}  (h : w_mGoOn_0 n d D K T) : z_c n (d + 1) 131 [.ref 336] D (z_qI K T) :=
  z_enter (Nat.le_of_ble_eq_true rfl) rfl (fun X => v_mGoOn_0 h)
-- 132: TokenMouthModel.spelled(I)V
def w_mSpelled_0 (n d : Nat) (a1 : Int) (D : z_D) (H23 : Int → Int → z_D → Prop) (K : z_D → Prop) (T : Nat → z_D → Prop) : Prop :=
  (0 ≤ a1 ∧ a1 < 30) ∧
  (z_r (D.1 356 (Int.toNat a1))) ∧
  ((¬ (D.1 356 (Int.toNat a1)) = 0) →
    ∀ D3, D3 = z_uz D 336 16 0 →
    H23 a1 0 D3) ∧
  (((D.1 356 (Int.toNat a1)) = 0) →
    z_c n d 98 [.ref 336, .int (z_i 4)] D (z_qI (fun v5 D4 => 
      K D4) T))
theorem v_mSpelled_0 {n d : Nat} {X : z_Xt} {a1 : Int}  {D : z_D} {H23 : Int → Int → z_D → Prop} {K : z_D → Prop} {T : Nat → z_D → Prop} (hH23 : ∀ (a1 : Int) (a2 : Int) (D : z_D), H23 a1 a2 D → z_w n d (k_tb 132) X 23 [some (.ref 336), some (.int (z_i a1)), some (.int (z_i a2))] [] D (z_qV K T)) (h : w_mSpelled_0 n d a1 D H23 K T) : z_w n d (k_tb 132) X 0 [some (.ref 336), some (.int (z_i a1)), none] [] D (z_qV K T) := by
  unfold w_mSpelled_0 at h
  refine zs_aload rfl rfl ?_
  refine zs_getR (x := 356) rfl rfl rfl ?_
  refine zs_iload rfl rfl ?_
  obtain ⟨g1, h⟩ := h
  refine zs_iald rfl rfl (by decide) g1 ?_
  obtain ⟨g2, h⟩ := h
  obtain ⟨h6, h7⟩ := h
  refine zs_ifne rfl g2 (fun c => ?_) (fun c => ?_)
  · have h := h6 c
    refine zs_aload rfl rfl ?_
    refine zs_pushI (0) rfl rfl ?_
    refine zs_putI rfl rfl (fun D3 eD3 => ?_)
    have h := h D3 eD3
    refine zs_pushI (0) rfl rfl ?_
    refine zs_istore (ls1 := [some (.ref 336), some (.int (z_i a1)), some (.int (z_i 0))]) rfl rfl rfl ?_
    exact hH23 _ _  _  h
  · have h := h7 c
    refine zs_aload rfl rfl ?_
    refine zs_pushI (4) rfl rfl ?_
    refine z_callV (k := 336) (as0 := [.int (z_i 4)]) (r := []) rfl rfl rfl (Nat.le_of_ble_eq_true rfl) (z_oI h (fun v5 D4 h => ?_) (fun _ _ h => h))
    refine zs_istore (ls1 := [some (.ref 336), some (.int (z_i a1)), some (.int (z_i v5))]) rfl rfl rfl ?_
    exact zs_ret rfl h
def w_mSpelled_88 (n d : Nat) (a2 : Int) (D : z_D)  (K : z_D → Prop) (T : Nat → z_D → Prop) : Prop :=
  (z_r (D.1 336 5)) ∧
  ((¬ (D.1 336 5) = 0) →
    K D) ∧
  (((D.1 336 5) = 0) →
    z_c n d 106 [.ref 336, .int (z_i a2)] D (z_qV (fun D2 => 
      K D2) T))
theorem v_mSpelled_88 {n d : Nat} {X : z_Xt} {a2 : Int} {o1 : Option Value} {D : z_D}  {K : z_D → Prop} {T : Nat → z_D → Prop} (n1 : z_nl o1) (h : w_mSpelled_88 n d a2 D K T) : z_w n d (k_tb 132) X 88 [some (.ref 336), o1, some (.int (z_i a2))] [] D (z_qV K T) := by
  unfold w_mSpelled_88 at h
  refine zs_aload rfl rfl ?_
  refine zs_getI rfl rfl ?_
  obtain ⟨g1, h⟩ := h
  obtain ⟨h3, h4⟩ := h
  refine zs_ifne rfl g1 (fun c => ?_) (fun c => ?_)
  · have h := h3 c
    exact zs_ret rfl h
  · have h := h4 c
    refine zs_aload rfl rfl ?_
    refine zs_iload rfl rfl ?_
    refine z_callV (k := 336) (as0 := [.int (z_i a2)]) (r := []) rfl rfl rfl (Nat.le_of_ble_eq_true rfl) (z_oV h (fun D2 h => ?_) (fun _ _ h => h))
    exact zs_ret rfl h
def w_mSpelled_23 (n d : Nat) (a1 : Int) (a2 : Int) (D : z_D) (H23 : Int → Int → z_D → Prop) (K : z_D → Prop) (T : Nat → z_D → Prop) : Prop :=
  (0 ≤ a1 ∧ a1 < 30) ∧
  (z_r a2) ∧ (z_r (D.1 356 (Int.toNat a1))) ∧
  (((D.1 356 (Int.toNat a1)) ≤ a2) →
    z_c n d 101 [.ref 336, .int (z_i (z_b false))] D (z_qI (fun v5 D4 => 
      (z_r v5) ∧
      ((v5 = (-1)) →
        w_mSpelled_88 n d v5 D4 K T) ∧
      ((¬ v5 = (-1)) →
        (0 ≤ (v5 - 4096) ∧ (v5 - 4096) < 120) ∧
        (z_r (D4.1 343 (Int.toNat (v5 - 4096)))) ∧
        ((¬ (D4.1 343 (Int.toNat (v5 - 4096))) = 0) →
          w_mSpelled_88 n d v5 D4 K T) ∧
        (((D4.1 343 (Int.toNat (v5 - 4096))) = 0) →
          z_c n d 113 [.ref 336, .int (z_i (v5 - 4096)), .int (z_i 2)] D4 (z_qV (fun D9 => 
            w_mSpelled_88 n d v5 D9 K T) T)))) T)) ∧
  ((a2 < (D.1 356 (Int.toNat a1))) →
    (0 ≤ ((12 * a1) + a2) ∧ ((12 * a1) + a2) < 360) ∧
    z_c n d 99 [.ref 336, .int (z_i (D.1 358 (Int.toNat ((12 * a1) + a2))))] D (z_qV (fun D15 => 
      H23 a1 (a2 + 1) D15) T))
theorem v_mSpelled_23 {n d : Nat} {X : z_Xt} {a1 : Int} {a2 : Int}  {D : z_D} {H23 : Int → Int → z_D → Prop} {K : z_D → Prop} {T : Nat → z_D → Prop} (hH23 : ∀ (a1 : Int) (a2 : Int) (D : z_D), H23 a1 a2 D → z_w n d (k_tb 132) X 23 [some (.ref 336), some (.int (z_i a1)), some (.int (z_i a2))] [] D (z_qV K T)) (h : w_mSpelled_23 n d a1 a2 D H23 K T) : z_w n d (k_tb 132) X 23 [some (.ref 336), some (.int (z_i a1)), some (.int (z_i a2))] [] D (z_qV K T) := by
  unfold w_mSpelled_23 at h
  refine zs_iload rfl rfl ?_
  refine zs_aload rfl rfl ?_
  refine zs_getR (x := 356) rfl rfl rfl ?_
  refine zs_iload rfl rfl ?_
  obtain ⟨g1, h⟩ := h
  refine zs_iald rfl rfl (by decide) g1 ?_
  obtain ⟨g2, g3, h⟩ := h
  obtain ⟨h16, h17⟩ := h
  refine zs_cge rfl g2 g3 (fun c => ?_) (fun c => ?_)
  · have h := h16 c
    refine zs_aload rfl rfl ?_
    refine zs_pushI (0) rfl rfl ?_
    refine z_callV (k := 336) (as0 := [.int (z_i (z_b false))]) (r := []) rfl rfl rfl (Nat.le_of_ble_eq_true rfl) (z_oI h (fun v5 D4 h => ?_) (fun _ _ h => h))
    refine zs_istore (ls1 := [some (.ref 336), some (.int (z_i a1)), some (.int (z_i v5))]) rfl rfl rfl ?_
    refine zs_iload rfl rfl ?_
    refine zs_pushI (-1) rfl rfl ?_
    obtain ⟨g6, h⟩ := h
    obtain ⟨h12, h13⟩ := h
    refine zs_ceq rfl g6 (z_rk rfl) (fun c => ?_) (fun c => ?_)
    · have h := h12 c
      exact v_mSpelled_88 (by first | assumption | exact trivial) h
    · have h := h13 c
      refine zs_aload rfl rfl ?_
      refine zs_getR (x := 343) rfl rfl rfl ?_
      refine zs_iload rfl rfl ?_
      refine zs_pushI (4096) rfl rfl ?_
      refine zs_sub (a := v5) (b := 4096) rfl ?_
      obtain ⟨g7, h⟩ := h
      refine zs_iald rfl rfl (by decide) g7 ?_
      obtain ⟨g8, h⟩ := h
      obtain ⟨h10, h11⟩ := h
      refine zs_ifne rfl g8 (fun c => ?_) (fun c => ?_)
      · have h := h10 c
        exact v_mSpelled_88 (by first | assumption | exact trivial) h
      · have h := h11 c
        refine zs_aload rfl rfl ?_
        refine zs_iload rfl rfl ?_
        refine zs_pushI (4096) rfl rfl ?_
        refine zs_sub (a := v5) (b := 4096) rfl ?_
        refine zs_pushI (2) rfl rfl ?_
        refine z_callV (k := 336) (as0 := [.int (z_i (v5 - 4096)), .int (z_i 2)]) (r := []) rfl rfl rfl (Nat.le_of_ble_eq_true rfl) (z_oV h (fun D9 h => ?_) (fun _ _ h => h))
        exact v_mSpelled_88 (by first | assumption | exact trivial) h
  · have h := h17 c
    refine zs_aload rfl rfl ?_
    refine zs_aload rfl rfl ?_
    refine zs_getR (x := 358) rfl rfl rfl ?_
    refine zs_pushI (12) rfl rfl ?_
    refine zs_iload rfl rfl ?_
    refine zs_mul (a := 12) (b := a1) rfl ?_
    refine zs_iload rfl rfl ?_
    refine zs_add (a := (12 * a1)) (b := a2) rfl ?_
    obtain ⟨g14, h⟩ := h
    refine zs_iald rfl rfl (by decide) g14 ?_
    refine z_callV (k := 336) (as0 := [.int (z_i (D.1 358 (Int.toNat ((12 * a1) + a2))))]) (r := []) rfl rfl rfl (Nat.le_of_ble_eq_true rfl) (z_oV h (fun D15 h => ?_) (fun _ _ h => h))
    refine zs_iinc (a := a2) (1) (ls1 := [some (.ref 336), some (.int (z_i a1)), some (.int (z_i (a2 + 1)))]) rfl rfl rfl rfl ?_
    refine zs_goto rfl ?_
    exact hH23 _ _  _  h
theorem r_mSpelled {n d : Nat} {a1 : Int} {D : z_D} {K : z_D → Prop} {T : Nat → z_D → Prop}  (I23 : Nat → Int → Int → z_D → Prop) (hE : w_mSpelled_0 n d a1 D (fun a1 a2 D => ∃ m, I23 m a1 a2 D) K T) (h23 : ∀ (mm : Nat) (a1 : Int) (a2 : Int) (D : z_D), I23 mm a1 a2 D → w_mSpelled_23 n d a1 a2 D (fun a1 a2 D => ∃ m, m < mm ∧ I23 m a1 a2 D) K T) : z_c n (d + 1) 132 [.ref 336, .int (z_i a1)] D (z_qV K T) := by
  refine z_enter (Nat.le_of_ble_eq_true rfl) rfl (fun X => ?_)
  have key : ∀ m, (∀ (a1 : Int) (a2 : Int) (D : z_D), I23 m a1 a2 D → z_w n d (k_tb 132) X 23 [some (.ref 336), some (.int (z_i a1)), some (.int (z_i a2))] [] D (z_qV K T)) := by
    intro m
    induction m using Nat.strongRecOn with
    | _ mm ih =>
      exact fun a1 a2 D hI => v_mSpelled_23 (fun a1 a2 D ⟨m, hm, hI⟩ => (ih m hm) _ _ _  hI) (h23 mm a1 a2 D hI)
  exact v_mSpelled_0 (fun a1 a2 D ⟨m, hI⟩ => (key m) _ _ _  hI) hE
