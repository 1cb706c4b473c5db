/-! what the methods mean; printed by wip/whole/dec.py -/
-- 141: TokenMouthModel.catcode()V
def w_mCatcode_182 (n d : Nat) (a3 : Int) (a5 : Int) (D : z_D)  (K : z_D → Prop) (T : Nat → z_D → Prop) : Prop :=
  (z_r (D.1 336 5)) ∧
  ((¬ (D.1 336 5) = 0) →
    K D) ∧
  (((D.1 336 5) = 0) →
    z_c n d 113 [.ref 336, .int (z_i (200 + a3)), .int (z_i a5)] D (z_qV (fun D2 => 
      K D2) T))
theorem v_mCatcode_182 {n d : Nat} {X : z_Xt} {a3 : Int} {a5 : Int} {o1 : Option Value} {o2 : Option Value} {o4 : Option Value} {o6 : Option Value} {o7 : Option Value} {D : z_D}  {K : z_D → Prop} {T : Nat → z_D → Prop} (n1 : z_nl o1) (n2 : z_nl o2) (n4 : z_nl o4) (n6 : z_nl o6) (n7 : z_nl o7) (h : w_mCatcode_182 n d a3 a5 D K T) : z_w n d (k_tb 141) X 182 [some (.ref 336), o1, o2, some (.int (z_i a3)), o4, some (.int (z_i a5)), o6, o7] [] D (z_qV K T) := by
  unfold w_mCatcode_182 at h
  refine zs_aload rfl rfl ?_
  refine zs_getI rfl rfl ?_
  obtain ⟨g1, h⟩ := h
  obtain ⟨h3, h4⟩ := h
  refine zs_ifne rfl g1 (fun c => ?_) (fun c => ?_)
  · have h := h3 c
    exact zs_ret rfl h
  · have h := h4 c
    refine zs_aload rfl rfl ?_
    refine zs_pushI (200) rfl rfl ?_
    refine zs_iload rfl rfl ?_
    refine zs_add (a := 200) (b := a3) rfl ?_
    refine zs_iload rfl rfl ?_
    refine z_callV (k := 336) (as0 := [.int (z_i (200 + a3)), .int (z_i a5)]) (r := []) rfl rfl rfl (Nat.le_of_ble_eq_true rfl) (z_oV h (fun D2 h => ?_) (fun _ _ h => h))
    exact zs_ret rfl h
def w_mCatcode_161 (n d : Nat) (a3 : Int) (a5 : Int) (D : z_D)  (K : z_D → Prop) (T : Nat → z_D → Prop) : Prop :=
  (z_r (D.1 336 5)) ∧
  ((¬ (D.1 336 5) = 0) →
    w_mCatcode_182 n d a3 a5 D K T) ∧
  (((D.1 336 5) = 0) →
    (z_r a5) ∧
    ((a5 ≤ 15) →
      w_mCatcode_182 n d a3 a5 D K T) ∧
    ((15 < a5) →
      z_c n d 98 [.ref 336, .int (z_i 4)] D (z_qI (fun v4 D3 => 
        w_mCatcode_182 n d a3 a5 D3 K T) T)))
theorem v_mCatcode_161 {n d : Nat} {X : z_Xt} {a3 : Int} {a5 : Int} {o1 : Option Value} {o2 : Option Value} {o4 : Option Value} {o6 : Option Value} {D : z_D}  {K : z_D → Prop} {T : Nat → z_D → Prop} (n1 : z_nl o1) (n2 : z_nl o2) (n4 : z_nl o4) (n6 : z_nl o6) (h : w_mCatcode_161 n d a3 a5 D K T) : z_w n d (k_tb 141) X 161 [some (.ref 336), o1, o2, some (.int (z_i a3)), o4, some (.int (z_i a5)), o6, none] [] D (z_qV K T) := by
  unfold w_mCatcode_161 at h
  refine zs_aload rfl rfl ?_
  refine zs_getI rfl rfl ?_
  obtain ⟨g1, h⟩ := h
  obtain ⟨h7, h8⟩ := h
  refine zs_ifne rfl g1 (fun c => ?_) (fun c => ?_)
  · have h := h7 c
    exact v_mCatcode_182 (by first | assumption | exact trivial) (by first | assumption | exact trivial) (by first | assumption | exact trivial) (by first | assumption | exact trivial) (by first | assumption | exact trivial) h
  · have h := h8 c
    refine zs_iload rfl rfl ?_
    refine zs_pushI (15) rfl rfl ?_
    obtain ⟨g2, h⟩ := h
    obtain ⟨h5, h6⟩ := h
    refine zs_cle rfl g2 (z_rk rfl) (fun c => ?_) (fun c => ?_)
    · have h := h5 c
      exact v_mCatcode_182 (by first | assumption | exact trivial) (by first | assumption | exact trivial) (by first | assumption | exact trivial) (by first | assumption | exact trivial) (by first | assumption | exact trivial) h
    · have h := h6 c
      refine zs_aload rfl rfl ?_
      refine zs_pushI (4) rfl rfl ?_
      refine z_callV (k := 336) (as0 := [.int (z_i 4)]) (r := []) rfl rfl rfl (Nat.le_of_ble_eq_true rfl) (z_oI h (fun v4 D3 h => ?_) (fun _ _ h => h))
      refine zs_istore (ls1 := [some (.ref 336), o1, o2, some (.int (z_i a3)), o4, some (.int (z_i a5)), o6, some (.int (z_i v4))]) rfl rfl ((z_st1 rfl n6).trans rfl) ?_
      exact v_mCatcode_182 (by first | assumption | exact trivial) (by first | assumption | exact trivial) (by first | assumption | exact trivial) (by first | assumption | exact trivial) (by first | assumption | exact trivial) h
def w_mCatcode_149 (n d : Nat) (a3 : Int) (a5 : Int) (a6 : Int) (D : z_D)  (K : z_D → Prop) (T : Nat → z_D → Prop) : Prop :=
  (z_r a6) ∧
  ((a6 = (-1)) →
    w_mCatcode_161 n d a3 a5 D K T) ∧
  ((¬ a6 = (-1)) →
    z_c n d 106 [.ref 336, .int (z_i a6)] D (z_qV (fun D2 => 
      w_mCatcode_161 n d a3 a5 D2 K T) T))
theorem v_mCatcode_149 {n d : Nat} {X : z_Xt} {a3 : Int} {a5 : Int} {a6 : Int} {o1 : Option Value} {o2 : Option Value} {o4 : Option Value} {D : z_D}  {K : z_D → Prop} {T : Nat → z_D → Prop} (n1 : z_nl o1) (n2 : z_nl o2) (n4 : z_nl o4) (h : w_mCatcode_149 n d a3 a5 a6 D K T) : z_w n d (k_tb 141) X 149 [some (.ref 336), o1, o2, some (.int (z_i a3)), o4, some (.int (z_i a5)), some (.int (z_i a6)), none] [] D (z_qV K T) := by
  unfold w_mCatcode_149 at h
  refine zs_iload rfl rfl ?_
  refine zs_pushI (-1) rfl rfl ?_
  obtain ⟨g1, h⟩ := h
  obtain ⟨h3, h4⟩ := h
  refine zs_ceq rfl g1 (z_rk rfl) (fun c => ?_) (fun c => ?_)
  · have h := h3 c
    exact v_mCatcode_161 (by first | assumption | exact trivial) (by first | assumption | exact trivial) (by first | assumption | exact trivial) (by first | assumption | exact trivial) h
  · have h := h4 c
    refine zs_aload rfl rfl ?_
    refine zs_iload rfl rfl ?_
    refine z_callV (k := 336) (as0 := [.int (z_i a6)]) (r := []) rfl rfl rfl (Nat.le_of_ble_eq_true rfl) (z_oV h (fun D2 h => ?_) (fun _ _ h => h))
    exact v_mCatcode_161 (by first | assumption | exact trivial) (by first | assumption | exact trivial) (by first | assumption | exact trivial) (by first | assumption | exact trivial) h
def w_mCatcode_79 (n d : Nat) (s0 : Int) (D : z_D)  (K : z_D → Prop) (T : Nat → z_D → Prop) : Prop :=
  z_c n d 105 [.ref 336] D (z_qI (fun v2 D1 => 
    (z_r v2) ∧
    ((¬ v2 = (-1)) →
      z_c n d 140 [.int (z_i v2)] D1 (z_qI (fun v5 D4 => 
        (z_r v5) ∧
        ((0 ≤ v5) →
          z_c n d 104 [.ref 336] D4 (z_qI (fun v8 D7 => 
            (z_r v8) ∧
            ((v8 = (-1)) →
              w_mCatcode_149 n d s0 v5 v8 D7 K T) ∧
            ((¬ v8 = (-1)) →
              z_c n d 140 [.int (z_i v8)] D7 (z_qI (fun v11 D10 => 
                (z_r v11) ∧
                ((v11 < 0) →
                  w_mCatcode_149 n d s0 v5 v8 D10 K T) ∧
                ((0 ≤ v11) →
                  z_c n d 140 [.int (z_i v8)] D10 (z_qI (fun v14 D13 => 
                    w_mCatcode_161 n d s0 ((10 * v5) + v14) D13 K T) T))) T))) T)) ∧
        ((v5 < 0) →
          z_c n d 98 [.ref 336, .int (z_i 4)] D4 (z_qI (fun v20 D19 => 
            K D19) T))) T)) ∧
    ((v2 = (-1)) →
      K D1)) T)
theorem v_mCatcode_79 {n d : Nat} {X : z_Xt} {s0 : Int} {o1 : Option Value} {o2 : Option Value} {D : z_D}  {K : z_D → Prop} {T : Nat → z_D → Prop} (n1 : z_nl o1) (n2 : z_nl o2) (h : w_mCatcode_79 n d s0 D K T) : z_w n d (k_tb 141) X 79 [some (.ref 336), o1, o2, none, none, none, none, none] [.int (z_i s0)] D (z_qV K T) := by
  unfold w_mCatcode_79 at h
  refine zs_istore (ls1 := [some (.ref 336), o1, o2, some (.int (z_i s0)), none, none, none, none]) rfl rfl ((z_st1 rfl n2).trans rfl) ?_
  refine zs_aload rfl rfl ?_
  refine z_callV (k := 336) (as0 := []) (r := []) rfl rfl rfl (Nat.le_of_ble_eq_true rfl) (z_oI h (fun v2 D1 h => ?_) (fun _ _ h => h))
  refine zs_istore (ls1 := [some (.ref 336), o1, o2, some (.int (z_i s0)), some (.int (z_i v2)), none, none, none]) rfl rfl rfl ?_
  refine zs_iload rfl rfl ?_
  refine zs_pushI (-1) rfl rfl ?_
  obtain ⟨g3, h⟩ := h
  obtain ⟨h23, h24⟩ := h
  refine zs_cne rfl g3 (z_rk rfl) (fun c => ?_) (fun c => ?_)
  · have h := h23 c
    refine zs_iload rfl rfl ?_
    refine z_callS (as0 := [.int (z_i v2)]) (r := []) rfl rfl (Nat.le_of_ble_eq_true rfl) (z_oI h (fun v5 D4 h => ?_) (fun _ _ h => h))
    refine zs_istore (ls1 := [some (.ref 336), o1, o2, some (.int (z_i s0)), some (.int (z_i v2)), some (.int (z_i v5)), none, none]) rfl rfl rfl ?_
    refine zs_iload rfl rfl ?_
    obtain ⟨g6, h⟩ := h
    obtain ⟨h21, h22⟩ := h
    refine zs_ifge rfl g6 (fun c => ?_) (fun c => ?_)
    · have h := h21 c
      refine zs_aload rfl rfl ?_
      refine z_callV (k := 336) (as0 := []) (r := []) rfl rfl rfl (Nat.le_of_ble_eq_true rfl) (z_oI h (fun v8 D7 h => ?_) (fun _ _ h => h))
      refine zs_istore (ls1 := [some (.ref 336), o1, o2, some (.int (z_i s0)), some (.int (z_i v2)), some (.int (z_i v5)), some (.int (z_i v8)), none]) rfl rfl rfl ?_
      refine zs_iload rfl rfl ?_
      refine zs_pushI (-1) rfl rfl ?_
      obtain ⟨g9, h⟩ := h
      obtain ⟨h17, h18⟩ := h
      refine zs_ceq rfl g9 (z_rk rfl) (fun c => ?_) (fun c => ?_)
      · have h := h17 c
        exact v_mCatcode_149 (by first | assumption | exact trivial) (by first | assumption | exact trivial) (by first | assumption | exact trivial) h
      · have h := h18 c
        refine zs_iload rfl rfl ?_
        refine z_callS (as0 := [.int (z_i v8)]) (r := []) rfl rfl (Nat.le_of_ble_eq_true rfl) (z_oI h (fun v11 D10 h => ?_) (fun _ _ h => h))
        obtain ⟨g12, h⟩ := h
        obtain ⟨h15, h16⟩ := h
        refine zs_iflt rfl g12 (fun c => ?_) (fun c => ?_)
        · have h := h15 c
          exact v_mCatcode_149 (by first | assumption | exact trivial) (by first | assumption | exact trivial) (by first | assumption | exact trivial) h
        · have h := h16 c
          refine zs_pushI (10) rfl rfl ?_
          refine zs_iload rfl rfl ?_
          refine zs_mul (a := 10) (b := v5) rfl ?_
          refine zs_iload rfl rfl ?_
          refine z_callS (as0 := [.int (z_i v8)]) (r := [.int (z_i (10 * v5))]) rfl rfl (Nat.le_of_ble_eq_true rfl) (z_oI h (fun v14 D13 h => ?_) (fun _ _ h => h))
          refine zs_add (a := (10 * v5)) (b := v14) rfl ?_
          refine zs_istore (ls1 := [some (.ref 336), o1, o2, some (.int (z_i s0)), some (.int (z_i v2)), some (.int (z_i ((10 * v5) + v14))), some (.int (z_i v8)), none]) rfl rfl rfl ?_
          refine zs_goto rfl ?_
          exact v_mCatcode_161 (by first | assumption | exact trivial) (by first | assumption | exact trivial) (by first | assumption | exact trivial) (by first | assumption | exact trivial) h
    · have h := h22 c
      refine zs_aload rfl rfl ?_
      refine zs_pushI (4) rfl rfl ?_
      refine z_callV (k := 336) (as0 := [.int (z_i 4)]) (r := []) rfl rfl rfl (Nat.le_of_ble_eq_true rfl) (z_oI h (fun v20 D19 h => ?_) (fun _ _ h => h))
      refine zs_istore (ls1 := [some (.ref 336), o1, o2, some (.int (z_i s0)), some (.int (z_i v2)), some (.int (z_i v5)), some (.int (z_i v20)), none]) rfl rfl rfl ?_
      exact zs_ret rfl h
  · have h := h24 c
    exact zs_ret rfl h
def w_mCatcode_55 (n d : Nat) (a1 : Int) (a2 : Int) (D : z_D)  (K : z_D → Prop) (T : Nat → z_D → Prop) : Prop :=
  z_c n d 107 [.int (z_i a1)] D (z_qZ (fun v2 D1 => 
    ((v2 = false) →
      w_mCatcode_79 n d (z_and a1 255) D1 K T) ∧
    ((v2 = true) →
      (0 ≤ (11 * a2) ∧ (11 * a2) < 1320) ∧
      w_mCatcode_79 n d (D1.1 340 (Int.toNat (11 * a2))) D1 K T)) T)
theorem v_mCatcode_55 {n d : Nat} {X : z_Xt} {a1 : Int} {a2 : Int}  {D : z_D}  {K : z_D → Prop} {T : Nat → z_D → Prop}  (h : w_mCatcode_55 n d a1 a2 D K T) : z_w n d (k_tb 141) X 55 [some (.ref 336), some (.int (z_i a1)), some (.int (z_i a2)), none, none, none, none, none] [] D (z_qV K T) := by
  unfold w_mCatcode_55 at h
  refine zs_iload rfl rfl ?_
  refine z_callS (as0 := [.int (z_i a1)]) (r := []) rfl rfl (Nat.le_of_ble_eq_true rfl) (z_oZ h (fun v2 D1 h => ?_) (fun _ _ h => h))
  obtain ⟨h4, h5⟩ := h
  refine zs_beq rfl (fun c => ?_) (fun c => ?_)
  · have h := h4 c
    refine zs_iload rfl rfl ?_
    refine zs_pushI (255) rfl rfl ?_
    refine zs_and (a := a1) (b := 255) rfl ?_
    exact v_mCatcode_79 (by first | assumption | exact trivial) (by first | assumption | exact trivial) h
  · have h := h5 c
    refine zs_aload rfl rfl ?_
    refine zs_getR (x := 340) rfl rfl rfl ?_
    refine zs_pushI (11) rfl rfl ?_
    refine zs_iload rfl rfl ?_
    refine zs_mul (a := 11) (b := a2) rfl ?_
    obtain ⟨g3, h⟩ := h
    refine zs_iald rfl rfl (by decide) g3 ?_
    refine zs_goto rfl ?_
    exact v_mCatcode_79 (by first | assumption | exact trivial) (by first | assumption | exact trivial) h
def w_mCatcode_30 (n d : Nat) (a1 : Int) (s0 : Int) (D : z_D)  (K : z_D → Prop) (T : Nat → z_D → Prop) : Prop :=
  z_c n d 107 [.int (z_i a1)] D (z_qZ (fun v2 D1 => 
    ((v2 = false) →
      w_mCatcode_55 n d a1 s0 D1 K T) ∧
    ((v2 = true) →
      (0 ≤ s0 ∧ s0 < 120) ∧
      (z_r (D1.1 341 (Int.toNat s0))) ∧
      (((D1.1 341 (Int.toNat s0)) = 1) →
        w_mCatcode_55 n d a1 s0 D1 K T) ∧
      ((¬ (D1.1 341 (Int.toNat s0)) = 1) →
        z_c n d 98 [.ref 336, .int (z_i 4)] D1 (z_qI (fun v6 D5 => 
          K D5) T)))) T)
theorem v_mCatcode_30 {n d : Nat} {X : z_Xt} {a1 : Int} {s0 : Int}  {D : z_D}  {K : z_D → Prop} {T : Nat → z_D → Prop}  (h : w_mCatcode_30 n d a1 s0 D K T) : z_w n d (k_tb 141) X 30 [some (.ref 336), some (.int (z_i a1)), none, none, none, none, none, none] [.int (z_i s0)] D (z_qV K T) := by
  unfold w_mCatcode_30 at h
  refine zs_istore (ls1 := [some (.ref 336), some (.int (z_i a1)), some (.int (z_i s0)), none, none, none, none, none]) rfl rfl rfl ?_
  refine zs_iload rfl rfl ?_
  refine z_callS (as0 := [.int (z_i a1)]) (r := []) rfl rfl (Nat.le_of_ble_eq_true rfl) (z_oZ h (fun v2 D1 h => ?_) (fun _ _ h => h))
  obtain ⟨h9, h10⟩ := h
  refine zs_beq rfl (fun c => ?_) (fun c => ?_)
  · have h := h9 c
    exact v_mCatcode_55 h
  · have h := h10 c
    refine zs_aload rfl rfl ?_
    refine zs_getR (x := 341) rfl rfl rfl ?_
    refine zs_iload rfl rfl ?_
    obtain ⟨g3, h⟩ := h
    refine zs_iald rfl rfl (by decide) g3 ?_
    refine zs_pushI (1) rfl rfl ?_
    obtain ⟨g4, h⟩ := h
    obtain ⟨h7, h8⟩ := h
    refine zs_ceq rfl g4 (z_rk rfl) (fun c => ?_) (fun c => ?_)
    · have h := h7 c
      exact v_mCatcode_55 h
    · have h := h8 c
      refine zs_aload rfl rfl ?_
      refine zs_pushI (4) rfl rfl ?_
      refine z_callV (k := 336) (as0 := [.int (z_i 4)]) (r := []) rfl rfl rfl (Nat.le_of_ble_eq_true rfl) (z_oI h (fun v6 D5 h => ?_) (fun _ _ h => h))
      refine zs_istore (ls1 := [some (.ref 336), some (.int (z_i a1)), some (.int (z_i s0)), some (.int (z_i v6)), none, none, none, none]) rfl rfl rfl ?_
      exact zs_ret rfl h
def w_mCatcode_0 (n d : Nat)  (D : z_D)  (K : z_D → Prop) (T : Nat → z_D → Prop) : Prop :=
  z_c n d 105 [.ref 336] D (z_qI (fun v2 D1 => 
    (z_r v2) ∧
    ((¬ v2 = (-1)) →
      z_c n d 107 [.int (z_i v2)] D1 (z_qZ (fun v5 D4 => 
        ((v5 = false) →
          w_mCatcode_30 n d v2 0 D4 K T) ∧
        ((v5 = true) →
          z_c n d 109 [.int (z_i v2)] D4 (z_qI (fun v7 D6 => 
            w_mCatcode_30 n d v2 (v7 - 4096) D6 K T) T))) T)) ∧
    ((v2 = (-1)) →
      K D1)) T)
theorem v_mCatcode_0 {n d : Nat} {X : z_Xt}   {D : z_D}  {K : z_D → Prop} {T : Nat → z_D → Prop}  (h : w_mCatcode_0 n d D K T) : z_w n d (k_tb 141) X 0 [some (.ref 336), none, none, none, none, none, none, none] [] D (z_qV K T) := by
  unfold w_mCatcode_0 at h
  refine zs_aload rfl rfl ?_
  refine z_callV (k := 336) (as0 := []) (r := []) rfl rfl rfl (Nat.le_of_ble_eq_true rfl) (z_oI h (fun v2 D1 h => ?_) (fun _ _ h => h))
  refine zs_istore (ls1 := [some (.ref 336), some (.int (z_i v2)), none, none, none, none, none, none]) rfl rfl rfl ?_
  refine zs_iload rfl rfl ?_
  refine zs_pushI (-1) rfl rfl ?_
  obtain ⟨g3, h⟩ := h
  obtain ⟨h10, h11⟩ := h
  refine zs_cne rfl g3 (z_rk rfl) (fun c => ?_) (fun c => ?_)
  · have h := h10 c
    refine zs_iload rfl rfl ?_
    refine z_callS (as0 := [.int (z_i v2)]) (r := []) rfl rfl (Nat.le_of_ble_eq_true rfl) (z_oZ h (fun v5 D4 h => ?_) (fun _ _ h => h))
    obtain ⟨h8, h9⟩ := h
    refine zs_beq rfl (fun c => ?_) (fun c => ?_)
    · have h := h8 c
      refine zs_pushI (0) rfl rfl ?_
      exact v_mCatcode_30 h
    · have h := h9 c
      refine zs_iload rfl rfl ?_
      refine z_callS (as0 := [.int (z_i v2)]) (r := []) rfl rfl (Nat.le_of_ble_eq_true rfl) (z_oI h (fun v7 D6 h => ?_) (fun _ _ h => h))
      refine zs_pushI (4096) rfl rfl ?_
      refine zs_sub (a := v7) (b := 4096) rfl ?_
      refine zs_goto rfl ?_
      exact v_mCatcode_30 h
  · have h := h11 c
    exact zs_ret rfl h
theorem r_mCatcode {n d : Nat}  {D : z_D} {K : z_D → Prop} {T : Nat → z_D → Prop}  (h : w_mCatcode_0 n d D K T) : z_c n (d + 1) 141 [.ref 336] D (z_qV K T) :=
  z_enter (Nat.le_of_ble_eq_true rfl) rfl (fun X => v_mCatcode_0 h)
-- 142: TokenMouthModel.send(I)V
def w_mSend_0 (n d : Nat) (a1 : Int) (D : z_D)  (K : z_D → Prop) (T : Nat → z_D → Prop) : Prop :=
  (z_r (D.1 336 37)) ∧
  ((¬ (D.1 336 37) = 200) →
    (0 ≤ (D.1 336 37) ∧ (D.1 336 37) < 200) ∧
    ∀ D3, D3 = z_uz D 359 (Int.toNat (D.1 336 37)) a1 →
    ∀ D4, D4 = z_uz D3 336 37 ((D3.1 336 37) + 1) →
    K D4) ∧
  (((D.1 336 37) = 200) →
    z_c n d 98 [.ref 336, .int (z_i 5)] D (z_qI (fun v6 D5 => 
      K D5) T))
theorem v_mSend_0 {n d : Nat} {X : z_Xt} {a1 : Int}  {D : z_D}  {K : z_D → Prop} {T : Nat → z_D → Prop}  (h : w_mSend_0 n d a1 D K T) : z_w n d (k_tb 142) X 0 [some (.ref 336), some (.int (z_i a1)), none] [] D (z_qV K T) := by
  unfold w_mSend_0 at h
  refine zs_aload rfl rfl ?_
  refine zs_getI rfl rfl ?_
  refine zs_pushI (200) rfl rfl ?_
  obtain ⟨g1, h⟩ := h
  obtain ⟨h7, h8⟩ := h
  refine zs_cne rfl g1 (z_rk rfl) (fun c => ?_) (fun c => ?_)
  · have h := h7 c
    refine zs_aload rfl rfl ?_
    refine zs_getR (x := 359) rfl rfl rfl ?_
    refine zs_aload rfl rfl ?_
    refine zs_getI rfl rfl ?_
    refine zs_iload rfl rfl ?_
    obtain ⟨g2, h⟩ := h
    refine zs_iast rfl rfl (by decide) g2 (fun D3 eD3 => ?_)
    have h := h D3 eD3
    refine zs_aload rfl rfl ?_
    refine zs_dup rfl rfl ?_
    refine zs_getI rfl rfl ?_
    refine zs_pushI (1) rfl rfl ?_
    refine zs_add (a := (D3.1 336 37)) (b := 1) rfl ?_
    refine zs_putI rfl rfl (fun D4 eD4 => ?_)
    have h := h D4 eD4
    exact zs_ret rfl h
  · have h := h8 c
    refine zs_aload rfl rfl ?_
    refine zs_pushI (5) rfl rfl ?_
    refine z_callV (k := 336) (as0 := [.int (z_i 5)]) (r := []) rfl rfl rfl (Nat.le_of_ble_eq_true rfl) (z_oI h (fun v6 D5 h => ?_) (fun _ _ h => h))
    refine zs_istore (ls1 := [some (.ref 336), some (.int (z_i a1)), some (.int (z_i v6))]) rfl rfl rfl ?_
    exact zs_ret rfl h
theorem r_mSend {n d : Nat} {a1 : Int} {D : z_D} {K : z_D → Prop} {T : Nat → z_D → Prop}  (h : w_mSend_0 n d a1 D K T) : z_c n (d + 1) 142 [.ref 336, .int (z_i a1)] D (z_qV K T) :=
  z_enter (Nat.le_of_ble_eq_true rfl) rfl (fun X => v_mSend_0 h)
-- 143: TokenMouthModel.act(I)V
def w_mAct_109 (n d : Nat) (s1 : Int) (D : z_D)  (K : z_D → Prop) (T : Nat → z_D → Prop) : Prop :=
  z_c n d 98 [.ref 336, .int (z_i s1)] D (z_qI (fun v2 D1 => 
    K D1) T)
theorem v_mAct_109 {n d : Nat} {X : z_Xt} {s1 : Int} {o1 : Option Value} {o2 : Option Value} {D : z_D}  {K : z_D → Prop} {T : Nat → z_D → Prop} (n1 : z_nl o1) (n2 : z_nl o2) (h : w_mAct_109 n d s1 D K T) : z_w n d (k_tb 143) X 109 [some (.ref 336), o1, o2, none, none] [.int (z_i s1), .ref 336] D (z_qV K T) := by
  unfold w_mAct_109 at h
  refine z_callV (k := 336) (as0 := [.int (z_i s1)]) (r := []) rfl rfl rfl (Nat.le_of_ble_eq_true rfl) (z_oI h (fun v2 D1 h => ?_) (fun _ _ h => h))
  refine zs_istore (ls1 := [some (.ref 336), o1, o2, some (.int (z_i v2)), none]) rfl rfl ((z_st1 rfl n2).trans rfl) ?_
  refine zs_goto rfl ?_
  exact zs_ret rfl h
def w_mAct_99 (n d : Nat) (a2 : Int) (D : z_D)  (K : z_D → Prop) (T : Nat → z_D → Prop) : Prop :=
  (z_r a2) ∧
  ((¬ a2 = 0) →
    w_mAct_109 n d 1 D K T) ∧
  ((a2 = 0) →
    w_mAct_109 n d 2 D K T)
theorem v_mAct_99 {n d : Nat} {X : z_Xt} {a2 : Int} {o1 : Option Value} {D : z_D}  {K : z_D → Prop} {T : Nat → z_D → Prop} (n1 : z_nl o1) (h : w_mAct_99 n d a2 D K T) : z_w n d (k_tb 143) X 99 [some (.ref 336), o1, some (.int (z_i a2)), none, none] [] D (z_qV K T) := by
  unfold w_mAct_99 at h
  refine zs_aload rfl rfl ?_
  refine zs_iload rfl rfl ?_
  obtain ⟨g1, h⟩ := h
  obtain ⟨h2, h3⟩ := h
  refine zs_ifne rfl g1 (fun c => ?_) (fun c => ?_)
  · have h := h2 c
    refine zs_pushI (1) rfl rfl ?_
    exact v_mAct_109 (by first | assumption | exact trivial) (by first | assumption | exact trivial) h
  · have h := h3 c
    refine zs_pushI (2) rfl rfl ?_
    refine zs_goto rfl ?_
    exact v_mAct_109 (by first | assumption | exact trivial) (by first | assumption | exact trivial) h
def w_mAct_0 (n d : Nat) (a1 : Int) (D : z_D)  (K : z_D → Prop) (T : Nat → z_D → Prop) : Prop :=
  z_c n d 111 [.ref 336, .int (z_i a1)] D (z_qI (fun v2 D1 => 
    (z_r v2) ∧
    ((v2 < 1000) →
      ((v2 = 0) →
        w_mAct_99 n d v2 D1 K T) ∧
      ((¬ v2 = 0) →
        ((¬ v2 = 11) →
          ((¬ v2 = 1) →
            ((¬ v2 = 6) →
              ((¬ v2 = 7) →
                ((v2 = 2) →
                  K D1) ∧
                ((¬ v2 = 2) →
                  z_c n d 138 [.ref 336, .int (z_i v2)] D1 (z_qV (fun D4 => 
                    K D4) T))) ∧
              ((v2 = 7) →
                z_c n d 141 [.ref 336] D1 (z_qV (fun D7 => 
                  K D7) T))) ∧
            ((v2 = 6) →
              z_c n d 139 [.ref 336] D1 (z_qV (fun D10 => 
                K D10) T))) ∧
          ((v2 = 1) →
            z_c n d 142 [.ref 336, .int (z_i 4096)] D1 (z_qV (fun D13 => 
              K D13) T))) ∧
        ((v2 = 11) →
          w_mAct_99 n d v2 D1 K T))) ∧
    ((1000 ≤ v2) →
      z_c n d 110 [.int (z_i (v2 - 1000)), .int (z_i 1)] D1 (z_qZ (fun v21 D20 => 
        ((v21 = false) →
          z_c n d 110 [.int (z_i (v2 - 1000)), .int (z_i 2)] D20 (z_qZ (fun v23 D22 => 
            ((v23 = false) →
              z_c n d 142 [.ref 336, .int (z_i (v2 - 1000))] D22 (z_qV (fun D24 => 
                K D24) T)) ∧
            ((v23 = true) →
              z_c n d 114 [.ref 336] D22 (z_qV (fun D25 => 
                K D25) T))) T)) ∧
        ((v21 = true) →
          ∀ D28, D28 = z_uz D20 336 18 ((D20.1 336 18) + 1) →
          (z_r (D28.1 336 18)) ∧
          (((D28.1 336 18) ≤ 30) →
            K D28) ∧
          ((30 < (D28.1 336 18)) →
            ∀ D30, D30 = z_uz D28 336 18 ((D28.1 336 18) - 1) →
            z_c n d 98 [.ref 336, .int (z_i 5)] D30 (z_qI (fun v32 D31 => 
              K D31) T)))) T))) T)
theorem v_mAct_0 {n d : Nat} {X : z_Xt} {a1 : Int}  {D : z_D}  {K : z_D → Prop} {T : Nat → z_D → Prop}  (h : w_mAct_0 n d a1 D K T) : z_w n d (k_tb 143) X 0 [some (.ref 336), some (.int (z_i a1)), none, none, none] [] D (z_qV K T) := by
  unfold w_mAct_0 at h
  refine zs_aload rfl rfl ?_
  refine zs_iload rfl rfl ?_
  refine z_callV (k := 336) (as0 := [.int (z_i a1)]) (r := []) rfl rfl rfl (Nat.le_of_ble_eq_true rfl) (z_oI h (fun v2 D1 h => ?_) (fun _ _ h => h))
  refine zs_istore (ls1 := [some (.ref 336), some (.int (z_i a1)), some (.int (z_i v2)), none, none]) rfl rfl rfl ?_
  refine zs_iload rfl rfl ?_
  refine zs_pushI (1000) rfl rfl ?_
  obtain ⟨g3, h⟩ := h
  obtain ⟨h37, h38⟩ := h
  refine zs_clt rfl g3 (z_rk rfl) (fun c => ?_) (fun c => ?_)
  · have h := h37 c
    refine zs_iload rfl rfl ?_
    obtain ⟨h18, h19⟩ := h
    refine zs_ifeq rfl g3 (fun c => ?_) (fun c => ?_)
    · have h := h18 c
      exact v_mAct_99 (by first | assumption | exact trivial) h
    · have h := h19 c
      refine zs_iload rfl rfl ?_
      refine zs_pushI (11) rfl rfl ?_
      obtain ⟨h16, h17⟩ := h
      refine zs_cne rfl g3 (z_rk rfl) (fun c => ?_) (fun c => ?_)
      · have h := h16 c
        refine zs_iload rfl rfl ?_
        refine zs_pushI (1) rfl rfl ?_
        obtain ⟨h14, h15⟩ := h
        refine zs_cne rfl g3 (z_rk rfl) (fun c => ?_) (fun c => ?_)
        · have h := h14 c
          refine zs_iload rfl rfl ?_
          refine zs_pushI (6) rfl rfl ?_
          obtain ⟨h11, h12⟩ := h
          refine zs_cne rfl g3 (z_rk rfl) (fun c => ?_) (fun c => ?_)
          · have h := h11 c
            refine zs_iload rfl rfl ?_
            refine zs_pushI (7) rfl rfl ?_
            obtain ⟨h8, h9⟩ := h
            refine zs_cne rfl g3 (z_rk rfl) (fun c => ?_) (fun c => ?_)
            · have h := h8 c
              refine zs_iload rfl rfl ?_
              refine zs_pushI (2) rfl rfl ?_
              obtain ⟨h5, h6⟩ := h
              refine zs_ceq rfl g3 (z_rk rfl) (fun c => ?_) (fun c => ?_)
              · have h := h5 c
                exact zs_ret rfl h
              · have h := h6 c
                refine zs_aload rfl rfl ?_
                refine zs_iload rfl rfl ?_
                refine z_callV (k := 336) (as0 := [.int (z_i v2)]) (r := []) rfl rfl rfl (Nat.le_of_ble_eq_true rfl) (z_oV h (fun D4 h => ?_) (fun _ _ h => h))
                exact zs_ret rfl h
            · have h := h9 c
              refine zs_aload rfl rfl ?_
              refine z_callV (k := 336) (as0 := []) (r := []) rfl rfl rfl (Nat.le_of_ble_eq_true rfl) (z_oV h (fun D7 h => ?_) (fun _ _ h => h))
              refine zs_goto rfl ?_
              exact zs_ret rfl h
          · have h := h12 c
            refine zs_aload rfl rfl ?_
            refine z_callV (k := 336) (as0 := []) (r := []) rfl rfl rfl (Nat.le_of_ble_eq_true rfl) (z_oV h (fun D10 h => ?_) (fun _ _ h => h))
            refine zs_goto rfl ?_
            exact zs_ret rfl h
        · have h := h15 c
          refine zs_aload rfl rfl ?_
          refine zs_pushI (4096) rfl rfl ?_
          refine z_callV (k := 336) (as0 := [.int (z_i 4096)]) (r := []) rfl rfl rfl (Nat.le_of_ble_eq_true rfl) (z_oV h (fun D13 h => ?_) (fun _ _ h => h))
          refine zs_goto rfl ?_
          exact zs_ret rfl h
      · have h := h17 c
        exact v_mAct_99 (by first | assumption | exact trivial) h
  · have h := h38 c
    refine zs_iload rfl rfl ?_
    refine zs_pushI (1000) rfl rfl ?_
    refine zs_sub (a := v2) (b := 1000) rfl ?_
    refine zs_istore (ls1 := [some (.ref 336), some (.int (z_i a1)), some (.int (z_i v2)), some (.int (z_i (v2 - 1000))), none]) rfl rfl rfl ?_
    refine zs_iload rfl rfl ?_
    refine zs_pushI (1) rfl rfl ?_
    refine z_callS (as0 := [.int (z_i (v2 - 1000)), .int (z_i 1)]) (r := []) rfl rfl (Nat.le_of_ble_eq_true rfl) (z_oZ h (fun v21 D20 h => ?_) (fun _ _ h => h))
    obtain ⟨h35, h36⟩ := h
    refine zs_beq rfl (fun c => ?_) (fun c => ?_)
    · have h := h35 c
      refine zs_iload rfl rfl ?_
      refine zs_pushI (2) rfl rfl ?_
      refine z_callS (as0 := [.int (z_i (v2 - 1000)), .int (z_i 2)]) (r := []) rfl rfl (Nat.le_of_ble_eq_true rfl) (z_oZ h (fun v23 D22 h => ?_) (fun _ _ h => h))
      obtain ⟨h26, h27⟩ := h
      refine zs_beq rfl (fun c => ?_) (fun c => ?_)
      · have h := h26 c
        refine zs_aload rfl rfl ?_
        refine zs_iload rfl rfl ?_
        refine z_callV (k := 336) (as0 := [.int (z_i (v2 - 1000))]) (r := []) rfl rfl rfl (Nat.le_of_ble_eq_true rfl) (z_oV h (fun D24 h => ?_) (fun _ _ h => h))
        refine zs_goto rfl ?_
        exact zs_ret rfl h
      · have h := h27 c
        refine zs_aload rfl rfl ?_
        refine z_callV (k := 336) (as0 := []) (r := []) rfl rfl rfl (Nat.le_of_ble_eq_true rfl) (z_oV h (fun D25 h => ?_) (fun _ _ h => h))
        refine zs_goto rfl ?_
        refine zs_goto rfl ?_
        exact zs_ret rfl h
    · have h := h36 c
      refine zs_aload rfl rfl ?_
      refine zs_dup rfl rfl ?_
      refine zs_getI rfl rfl ?_
      refine zs_pushI (1) rfl rfl ?_
      refine zs_add (a := (D20.1 336 18)) (b := 1) rfl ?_
      refine zs_putI rfl rfl (fun D28 eD28 => ?_)
      have h := h D28 eD28
      refine zs_aload rfl rfl ?_
      refine zs_getI rfl rfl ?_
      refine zs_pushI (30) rfl rfl ?_
      obtain ⟨g29, h⟩ := h
      obtain ⟨h33, h34⟩ := h
      refine zs_cle rfl g29 (z_rk rfl) (fun c => ?_) (fun c => ?_)
      · have h := h33 c
        refine zs_goto rfl ?_
        exact zs_ret rfl h
      · have h := h34 c
        refine zs_aload rfl rfl ?_
        refine zs_dup rfl rfl ?_
        refine zs_getI rfl rfl ?_
        refine zs_pushI (1) rfl rfl ?_
        refine zs_sub (a := (D28.1 336 18)) (b := 1) rfl ?_
        refine zs_putI rfl rfl (fun D30 eD30 => ?_)
        have h := h D30 eD30
        refine zs_aload rfl rfl ?_
        refine zs_pushI (5) rfl rfl ?_
        refine z_callV (k := 336) (as0 := [.int (z_i 5)]) (r := []) rfl rfl rfl (Nat.le_of_ble_eq_true rfl) (z_oI h (fun v32 D31 h => ?_) (fun _ _ h => h))
        refine zs_istore (ls1 := [some (.ref 336), some (.int (z_i a1)), some (.int (z_i v2)), some (.int (z_i (v2 - 1000))), some (.int (z_i v32))]) rfl rfl rfl ?_
        refine zs_goto rfl ?_
        refine zs_goto rfl ?_
        exact zs_ret rfl h
theorem r_mAct {n d : Nat} {a1 : Int} {D : z_D} {K : z_D → Prop} {T : Nat → z_D → Prop}  (h : w_mAct_0 n d a1 D K T) : z_c n (d + 1) 143 [.ref 336, .int (z_i a1)] D (z_qV K T) :=
  z_enter (Nat.le_of_ble_eq_true rfl) rfl (fun X => v_mAct_0 h)
-- 144: TokenMouthModel.step()Z
def w_mStep_29 (n d : Nat) (a1 : Int) (D : z_D)  (K : Bool → z_D → Prop) (T : Nat → z_D → Prop) : Prop :=
  ∀ D1, D1 = z_uz D 336 6 ((D.1 336 6) + 1) →
  (z_r a1) ∧
  ((a1 = (-1)) →
    K true D1) ∧
  ((¬ a1 = (-1)) →
    z_c n d 112 [.ref 336, .int (z_i a1)] D1 (z_qZ (fun v4 D3 => 
      ((v4 = false) →
        z_c n d 143 [.ref 336, .int (z_i a1)] D3 (z_qV (fun D5 => 
          K true D5) T)) ∧
      ((v4 = true) →
        z_c n d 133 [.ref 336, .int (z_i a1)] D3 (z_qV (fun D6 => 
          K true D6) T))) T))
theorem v_mStep_29 {n d : Nat} {X : z_Xt} {a1 : Int}  {D : z_D}  {K : Bool → z_D → Prop} {T : Nat → z_D → Prop}  (h : w_mStep_29 n d a1 D K T) : z_w n d (k_tb 144) X 29 [some (.ref 336), some (.int (z_i a1))] [] D (z_qZ K T) := by
  unfold w_mStep_29 at h
  refine zs_aload rfl rfl ?_
  refine zs_dup rfl rfl ?_
  refine zs_getI rfl rfl ?_
  refine zs_pushI (1) rfl rfl ?_
  refine zs_add (a := (D.1 336 6)) (b := 1) rfl ?_
  refine zs_putI rfl rfl (fun D1 eD1 => ?_)
  have h := h D1 eD1
  refine zs_iload rfl rfl ?_
  refine zs_pushI (-1) rfl rfl ?_
  obtain ⟨g2, h⟩ := h
  obtain ⟨h9, h10⟩ := h
  refine zs_ceq rfl g2 (z_rk rfl) (fun c => ?_) (fun c => ?_)
  · have h := h9 c
    refine zs_pushI (1) rfl rfl ?_
    exact zs_zret (b := true) rfl h
  · have h := h10 c
    refine zs_aload rfl rfl ?_
    refine zs_iload rfl rfl ?_
    refine z_callV (k := 336) (as0 := [.int (z_i a1)]) (r := []) rfl rfl rfl (Nat.le_of_ble_eq_true rfl) (z_oZ h (fun v4 D3 h => ?_) (fun _ _ h => h))
    obtain ⟨h7, h8⟩ := h
    refine zs_beq rfl (fun c => ?_) (fun c => ?_)
    · have h := h7 c
      refine zs_aload rfl rfl ?_
      refine zs_iload rfl rfl ?_
      refine z_callV (k := 336) (as0 := [.int (z_i a1)]) (r := []) rfl rfl rfl (Nat.le_of_ble_eq_true rfl) (z_oV h (fun D5 h => ?_) (fun _ _ h => h))
      refine zs_pushI (1) rfl rfl ?_
      exact zs_zret (b := true) rfl h
    · have h := h8 c
      refine zs_aload rfl rfl ?_
      refine zs_iload rfl rfl ?_
      refine z_callV (k := 336) (as0 := [.int (z_i a1)]) (r := []) rfl rfl rfl (Nat.le_of_ble_eq_true rfl) (z_oV h (fun D6 h => ?_) (fun _ _ h => h))
      refine zs_goto rfl ?_
      refine zs_pushI (1) rfl rfl ?_
      exact zs_zret (b := true) rfl h
def w_mStep_0 (n d : Nat)  (D : z_D)  (K : Bool → z_D → Prop) (T : Nat → z_D → Prop) : Prop :=
  ∀ D1, D1 = z_uz D 336 7 0 →
  ∀ D2, D2 = z_uz D1 336 31 0 →
  z_c n d 104 [.ref 336] D2 (z_qI (fun v4 D3 => 
    (z_r v4) ∧
    ((¬ v4 = (-1)) →
      w_mStep_29 n d v4 D3 K T) ∧
    ((v4 = (-1)) →
      (z_r (D3.1 336 5)) ∧
      ((¬ (D3.1 336 5) = 0) →
        w_mStep_29 n d v4 D3 K T) ∧
      (((D3.1 336 5) = 0) →
        K false D3))) T)
theorem v_mStep_0 {n d : Nat} {X : z_Xt}   {D : z_D}  {K : Bool → z_D → Prop} {T : Nat → z_D → Prop}  (h : w_mStep_0 n d D K T) : z_w n d (k_tb 144) X 0 [some (.ref 336), none] [] D (z_qZ K T) := by
  unfold w_mStep_0 at h
  refine zs_aload rfl rfl ?_
  refine zs_pushI (0) rfl rfl ?_
  refine zs_putI rfl rfl (fun D1 eD1 => ?_)
  have h := h D1 eD1
  refine zs_aload rfl rfl ?_
  refine zs_pushI (0) rfl rfl ?_
  refine zs_putI rfl rfl (fun D2 eD2 => ?_)
  have h := h D2 eD2
  refine zs_aload rfl rfl ?_
  refine z_callV (k := 336) (as0 := []) (r := []) rfl rfl rfl (Nat.le_of_ble_eq_true rfl) (z_oI h (fun v4 D3 h => ?_) (fun _ _ h => h))
  refine zs_istore (ls1 := [some (.ref 336), some (.int (z_i v4))]) rfl rfl rfl ?_
  refine zs_iload rfl rfl ?_
  refine zs_pushI (-1) rfl rfl ?_
  obtain ⟨g5, h⟩ := h
  obtain ⟨h9, h10⟩ := h
  refine zs_cne rfl g5 (z_rk rfl) (fun c => ?_) (fun c => ?_)
  · have h := h9 c
    exact v_mStep_29 h
  · have h := h10 c
    refine zs_aload rfl rfl ?_
    refine zs_getI rfl rfl ?_
    obtain ⟨g6, h⟩ := h
    obtain ⟨h7, h8⟩ := h
    refine zs_ifne rfl g6 (fun c => ?_) (fun c => ?_)
    · have h := h7 c
      exact v_mStep_29 h
    · have h := h8 c
      refine zs_pushI (0) rfl rfl ?_
      exact zs_zret (b := false) rfl h
theorem r_mStep {n d : Nat}  {D : z_D} {K : Bool → z_D → Prop} {T : Nat → z_D → Prop}  (h : w_mStep_0 n d D K T) : z_c n (d + 1) 144 [.ref 336] D (z_qZ K T) :=
  z_enter (Nat.le_of_ble_eq_true rfl) rfl (fun X => v_mStep_0 h)
-- 145: TokenMouthModel.run(I)I
def w_mRun_0 (n d : Nat) (a1 : Int) (D : z_D) (H34 : Int → Int → z_D → Prop) (K : Int → z_D → Prop) (T : Nat → z_D → Prop) : Prop :=
  (z_r a1) ∧
  ((a1 < 1) →
    ∀ D2, D2 = z_uz D 336 0 1 →
    H34 a1 0 D2) ∧
  ((1 ≤ a1) →
    ((a1 ≤ 500) →
      (z_r (D.1 336 5)) ∧
      (((D.1 336 5) ≤ 0) →
        ∀ D4, D4 = z_uz D 336 0 0 →
        H34 a1 0 D4) ∧
      ((0 < (D.1 336 5)) →
        ∀ D5, D5 = z_uz D 336 0 2 →
        H34 a1 0 D5)) ∧
    ((500 < a1) →
      ∀ D8, D8 = z_uz D 336 0 1 →
      H34 a1 0 D8))
theorem v_mRun_0 {n d : Nat} {X : z_Xt} {a1 : Int}  {D : z_D} {H34 : Int → Int → z_D → Prop} {K : Int → z_D → Prop} {T : Nat → z_D → Prop} (hH34 : ∀ (a1 : Int) (a2 : Int) (D : z_D), H34 a1 a2 D → z_w n d (k_tb 145) X 34 [some (.ref 336), some (.int (z_i a1)), some (.int (z_i a2))] [] D (z_qI K T)) (h : w_mRun_0 n d a1 D H34 K T) : z_w n d (k_tb 145) X 0 [some (.ref 336), some (.int (z_i a1)), none] [] D (z_qI K T) := by
  unfold w_mRun_0 at h
  refine zs_aload rfl rfl ?_
  refine zs_iload rfl rfl ?_
  refine zs_pushI (1) rfl rfl ?_
  obtain ⟨g1, h⟩ := h
  obtain ⟨h11, h12⟩ := h
  refine zs_clt rfl g1 (z_rk rfl) (fun c => ?_) (fun c => ?_)
  · have h := h11 c
    refine zs_pushI (1) rfl rfl ?_
    refine zs_goto rfl ?_
    refine zs_putI rfl rfl (fun D2 eD2 => ?_)
    have h := h D2 eD2
    refine zs_pushI (0) rfl rfl ?_
    refine zs_istore (ls1 := [some (.ref 336), some (.int (z_i a1)), some (.int (z_i 0))]) rfl rfl rfl ?_
    exact hH34 _ _  _  h
  · have h := h12 c
    refine zs_iload rfl rfl ?_
    refine zs_pushI (500) rfl rfl ?_
    obtain ⟨h9, h10⟩ := h
    refine zs_cle rfl g1 (z_rk rfl) (fun c => ?_) (fun c => ?_)
    · have h := h9 c
      refine zs_aload rfl rfl ?_
      refine zs_getI rfl rfl ?_
      obtain ⟨g3, h⟩ := h
      obtain ⟨h6, h7⟩ := h
      refine zs_ifle rfl g3 (fun c => ?_) (fun c => ?_)
      · have h := h6 c
        refine zs_pushI (0) rfl rfl ?_
        refine zs_putI rfl rfl (fun D4 eD4 => ?_)
        have h := h D4 eD4
        refine zs_pushI (0) rfl rfl ?_
        refine zs_istore (ls1 := [some (.ref 336), some (.int (z_i a1)), some (.int (z_i 0))]) rfl rfl rfl ?_
        exact hH34 _ _  _  h
      · have h := h7 c
        refine zs_pushI (2) rfl rfl ?_
        refine zs_goto rfl ?_
        refine zs_putI rfl rfl (fun D5 eD5 => ?_)
        have h := h D5 eD5
        refine zs_pushI (0) rfl rfl ?_
        refine zs_istore (ls1 := [some (.ref 336), some (.int (z_i a1)), some (.int (z_i 0))]) rfl rfl rfl ?_
        exact hH34 _ _  _  h
    · have h := h10 c
      refine zs_pushI (1) rfl rfl ?_
      refine zs_goto rfl ?_
      refine zs_putI rfl rfl (fun D8 eD8 => ?_)
      have h := h D8 eD8
      refine zs_pushI (0) rfl rfl ?_
      refine zs_istore (ls1 := [some (.ref 336), some (.int (z_i a1)), some (.int (z_i 0))]) rfl rfl rfl ?_
      exact hH34 _ _  _  h
def w_mRun_34 (n d : Nat) (a1 : Int) (a2 : Int) (D : z_D) (H34 : Int → Int → z_D → Prop) (K : Int → z_D → Prop) (T : Nat → z_D → Prop) : Prop :=
  (z_r a2) ∧ (z_r a1) ∧
  ((a1 ≤ a2) →
    K 0 D) ∧
  ((a2 < a1) →
    (z_r (D.1 336 0)) ∧
    ((¬ (D.1 336 0) = 0) →
      K 0 D) ∧
    (((D.1 336 0) = 0) →
      z_c n d 144 [.ref 336] D (z_qZ (fun v5 D4 => 
        ((v5 = true) →
          (z_r (D4.1 336 5)) ∧
          (((D4.1 336 5) ≤ 0) →
            ∀ D7, D7 = z_uz D4 336 0 0 →
            H34 a1 (a2 + 1) D7) ∧
          ((0 < (D4.1 336 5)) →
            ∀ D8, D8 = z_uz D4 336 0 2 →
            H34 a1 (a2 + 1) D8)) ∧
        ((v5 = false) →
          K 1 D4)) T)))
theorem v_mRun_34 {n d : Nat} {X : z_Xt} {a1 : Int} {a2 : Int}  {D : z_D} {H34 : Int → Int → z_D → Prop} {K : Int → z_D → Prop} {T : Nat → z_D → Prop} (hH34 : ∀ (a1 : Int) (a2 : Int) (D : z_D), H34 a1 a2 D → z_w n d (k_tb 145) X 34 [some (.ref 336), some (.int (z_i a1)), some (.int (z_i a2))] [] D (z_qI K T)) (h : w_mRun_34 n d a1 a2 D H34 K T) : z_w n d (k_tb 145) X 34 [some (.ref 336), some (.int (z_i a1)), some (.int (z_i a2))] [] D (z_qI K T) := by
  unfold w_mRun_34 at h
  refine zs_iload rfl rfl ?_
  refine zs_iload rfl rfl ?_
  obtain ⟨g1, g2, h⟩ := h
  obtain ⟨h15, h16⟩ := h
  refine zs_cge rfl g1 g2 (fun c => ?_) (fun c => ?_)
  · have h := h15 c
    refine zs_pushI (0) rfl rfl ?_
    exact zs_iret rfl h
  · have h := h16 c
    refine zs_aload rfl rfl ?_
    refine zs_getI rfl rfl ?_
    obtain ⟨g3, h⟩ := h
    obtain ⟨h13, h14⟩ := h
    refine zs_ifne rfl g3 (fun c => ?_) (fun c => ?_)
    · have h := h13 c
      refine zs_pushI (0) rfl rfl ?_
      exact zs_iret rfl h
    · have h := h14 c
      refine zs_aload rfl rfl ?_
      refine z_callV (k := 336) (as0 := []) (r := []) rfl rfl rfl (Nat.le_of_ble_eq_true rfl) (z_oZ h (fun v5 D4 h => ?_) (fun _ _ h => h))
      obtain ⟨h11, h12⟩ := h
      refine zs_bne rfl (fun c => ?_) (fun c => ?_)
      · have h := h11 c
        refine zs_aload rfl rfl ?_
        refine zs_aload rfl rfl ?_
        refine zs_getI rfl rfl ?_
        obtain ⟨g6, h⟩ := h
        obtain ⟨h9, h10⟩ := h
        refine zs_ifle rfl g6 (fun c => ?_) (fun c => ?_)
        · have h := h9 c
          refine zs_pushI (0) rfl rfl ?_
          refine zs_putI rfl rfl (fun D7 eD7 => ?_)
          have h := h D7 eD7
          refine zs_iinc (a := a2) (1) (ls1 := [some (.ref 336), some (.int (z_i a1)), some (.int (z_i (a2 + 1)))]) rfl rfl rfl rfl ?_
          refine zs_goto rfl ?_
          exact hH34 _ _  _  h
        · have h := h10 c
          refine zs_pushI (2) rfl rfl ?_
          refine zs_goto rfl ?_
          refine zs_putI rfl rfl (fun D8 eD8 => ?_)
          have h := h D8 eD8
          refine zs_iinc (a := a2) (1) (ls1 := [some (.ref 336), some (.int (z_i a1)), some (.int (z_i (a2 + 1)))]) rfl rfl rfl rfl ?_
          refine zs_goto rfl ?_
          exact hH34 _ _  _  h
      · have h := h12 c
        refine zs_pushI (1) rfl rfl ?_
        exact zs_iret rfl h
theorem r_mRun {n d : Nat} {a1 : Int} {D : z_D} {K : Int → z_D → Prop} {T : Nat → z_D → Prop}  (I34 : Nat → Int → Int → z_D → Prop) (hE : w_mRun_0 n d a1 D (fun a1 a2 D => ∃ m, I34 m a1 a2 D) K T) (h34 : ∀ (mm : Nat) (a1 : Int) (a2 : Int) (D : z_D), I34 mm a1 a2 D → w_mRun_34 n d a1 a2 D (fun a1 a2 D => ∃ m, m < mm ∧ I34 m a1 a2 D) K T) : z_c n (d + 1) 145 [.ref 336, .int (z_i a1)] D (z_qI K T) := by
  refine z_enter (Nat.le_of_ble_eq_true rfl) rfl (fun X => ?_)
  have key : ∀ m, (∀ (a1 : Int) (a2 : Int) (D : z_D), I34 m a1 a2 D → z_w n d (k_tb 145) X 34 [some (.ref 336), some (.int (z_i a1)), some (.int (z_i a2))] [] D (z_qI K T)) := by
    intro m
    induction m using Nat.strongRecOn with
    | _ mm ih =>
      exact fun a1 a2 D hI => v_mRun_34 (fun a1 a2 D ⟨m, hm, hI⟩ => (ih m hm) _ _ _  hI) (h34 mm a1 a2 D hI)
  exact v_mRun_0 (fun a1 a2 D ⟨m, hI⟩ => (key m) _ _ _  hI) hE
-- 146: TokenMouthModel.fails()I
def w_mFails_0 (n d : Nat)  (D : z_D)  (K : Int → z_D → Prop) (T : Nat → z_D → Prop) : Prop :=
  ∀ D1, D1 = z_uz D 336 0 1 →
  K 0 D1
theorem v_mFails_0 {n d : Nat} {X : z_Xt}   {D : z_D}  {K : Int → z_D → Prop} {T : Nat → z_D → Prop}  (h : w_mFails_0 n d D K T) : z_w n d (k_tb 146) X 0 [some (.ref 336)] [] D (z_qI K T) := by
  unfold w_mFails_0 at h
  refine zs_aload rfl rfl ?_
  refine zs_pushI (1) rfl rfl ?_
  refine zs_putI rfl rfl (fun D1 eD1 => ?_)
  have h := h D1 eD1
  refine zs_pushI (0) rfl rfl ?_
  exact zs_iret rfl h
theorem r_mFails {n d : Nat}  {D : z_D} {K : Int → z_D → Prop} {T : Nat → z_D → Prop}  (h : w_mFails_0 n d D K T) : z_c n (d + 1) 146 [.ref 336] D (z_qI K T) :=
  z_enter (Nat.le_of_ble_eq_true rfl) rfl (fun X => v_mFails_0 h)
-- 147: TokenMouthModel.fault(I)I
def w_mFault_0 (n d : Nat) (a1 : Int) (D : z_D)  (K : Int → z_D → Prop) (T : Nat → z_D → Prop) : Prop :=
  ∀ D1, D1 = z_uz D 336 0 0 →
  (z_r a1) ∧
  ((¬ a1 = 0) →
    ((¬ a1 = 1) →
      z_c n d 146 [.ref 336] D1 (z_qI (fun v4 D3 => 
        K v4 D3) T)) ∧
    ((a1 = 1) →
      K (D1.1 336 3) D1)) ∧
  ((a1 = 0) →
    K (D1.1 336 5) D1)
theorem v_mFault_0 {n d : Nat} {X : z_Xt} {a1 : Int}  {D : z_D}  {K : Int → z_D → Prop} {T : Nat → z_D → Prop}  (h : w_mFault_0 n d a1 D K T) : z_w n d (k_tb 147) X 0 [some (.ref 336), some (.int (z_i a1))] [] D (z_qI K T) := by
  unfold w_mFault_0 at h
  refine zs_aload rfl rfl ?_
  refine zs_pushI (0) rfl rfl ?_
  refine zs_putI rfl rfl (fun D1 eD1 => ?_)
  have h := h D1 eD1
  refine zs_iload rfl rfl ?_
  obtain ⟨g2, h⟩ := h
  obtain ⟨h7, h8⟩ := h
  refine zs_ifne rfl g2 (fun c => ?_) (fun c => ?_)
  · have h := h7 c
    refine zs_iload rfl rfl ?_
    refine zs_pushI (1) rfl rfl ?_
    obtain ⟨h5, h6⟩ := h
    refine zs_cne rfl g2 (z_rk rfl) (fun c => ?_) (fun c => ?_)
    · have h := h5 c
      refine zs_aload rfl rfl ?_
      refine z_callV (k := 336) (as0 := []) (r := []) rfl rfl rfl (Nat.le_of_ble_eq_true rfl) (z_oI h (fun v4 D3 h => ?_) (fun _ _ h => h))
      exact zs_iret rfl h
    · have h := h6 c
      refine zs_aload rfl rfl ?_
      refine zs_getI rfl rfl ?_
      refine zs_goto rfl ?_
      exact zs_iret rfl h
  · have h := h8 c
    refine zs_aload rfl rfl ?_
    refine zs_getI rfl rfl ?_
    refine zs_goto rfl ?_
    exact zs_iret rfl h
theorem r_mFault {n d : Nat} {a1 : Int} {D : z_D} {K : Int → z_D → Prop} {T : Nat → z_D → Prop}  (h : w_mFault_0 n d a1 D K T) : z_c n (d + 1) 147 [.ref 336, .int (z_i a1)] D (z_qI K T) :=
  z_enter (Nat.le_of_ble_eq_true rfl) rfl (fun X => v_mFault_0 h)
-- 148: TokenMouthModel.out(I)I
def w_mOut_17 (n d : Nat)  (D : z_D)  (K : Int → z_D → Prop) (T : Nat → z_D → Prop) : Prop :=
  z_c n d 146 [.ref 336] D (z_qI (fun v2 D1 => 
    K v2 D1) T)
theorem v_mOut_17 {n d : Nat} {X : z_Xt}  {o1 : Option Value} {D : z_D}  {K : Int → z_D → Prop} {T : Nat → z_D → Prop} (n1 : z_nl o1) (h : w_mOut_17 n d D K T) : z_w n d (k_tb 148) X 17 [some (.ref 336), o1] [] D (z_qI K T) := by
  unfold w_mOut_17 at h
  refine zs_aload rfl rfl ?_
  refine z_callV (k := 336) (as0 := []) (r := []) rfl rfl rfl (Nat.le_of_ble_eq_true rfl) (z_oI h (fun v2 D1 h => ?_) (fun _ _ h => h))
  refine zs_goto rfl ?_
  exact zs_iret rfl h
def w_mOut_0 (n d : Nat) (a1 : Int) (D : z_D)  (K : Int → z_D → Prop) (T : Nat → z_D → Prop) : Prop :=
  ∀ D1, D1 = z_uz D 336 0 0 →
  (z_r a1) ∧
  ((a1 < 0) →
    w_mOut_17 n d D1 K T) ∧
  ((0 ≤ a1) →
    (z_r (D1.1 336 37)) ∧
    ((a1 < (D1.1 336 37)) →
      (0 ≤ a1 ∧ a1 < 200) ∧
      K (D1.1 359 (Int.toNat a1)) D1) ∧
    (((D1.1 336 37) ≤ a1) →
      w_mOut_17 n d D1 K T))
theorem v_mOut_0 {n d : Nat} {X : z_Xt} {a1 : Int}  {D : z_D}  {K : Int → z_D → Prop} {T : Nat → z_D → Prop}  (h : w_mOut_0 n d a1 D K T) : z_w n d (k_tb 148) X 0 [some (.ref 336), some (.int (z_i a1))] [] D (z_qI K T) := by
  unfold w_mOut_0 at h
  refine zs_aload rfl rfl ?_
  refine zs_pushI (0) rfl rfl ?_
  refine zs_putI rfl rfl (fun D1 eD1 => ?_)
  have h := h D1 eD1
  refine zs_iload rfl rfl ?_
  obtain ⟨g2, h⟩ := h
  obtain ⟨h7, h8⟩ := h
  refine zs_iflt rfl g2 (fun c => ?_) (fun c => ?_)
  · have h := h7 c
    exact v_mOut_17 (by first | assumption | exact trivial) h
  · have h := h8 c
    refine zs_iload rfl rfl ?_
    refine zs_aload rfl rfl ?_
    refine zs_getI rfl rfl ?_
    obtain ⟨g3, h⟩ := h
    obtain ⟨h5, h6⟩ := h
    refine zs_clt rfl g2 g3 (fun c => ?_) (fun c => ?_)
    · have h := h5 c
      refine zs_aload rfl rfl ?_
      refine zs_getR (x := 359) rfl rfl rfl ?_
      refine zs_iload rfl rfl ?_
      obtain ⟨g4, h⟩ := h
      refine zs_iald rfl rfl (by decide) g4 ?_
      exact zs_iret rfl h
    · have h := h6 c
      exact v_mOut_17 (by first | assumption | exact trivial) h
theorem r_mOut {n d : Nat} {a1 : Int} {D : z_D} {K : Int → z_D → Prop} {T : Nat → z_D → Prop}  (h : w_mOut_0 n d a1 D K T) : z_c n (d + 1) 148 [.ref 336, .int (z_i a1)] D (z_qI K T) :=
  z_enter (Nat.le_of_ble_eq_true rfl) rfl (fun X => v_mOut_0 h)
-- 149: TokenMouthModel.count(I)I
def w_mCount_0 (n d : Nat) (a1 : Int) (D : z_D)  (K : Int → z_D → Prop) (T : Nat → z_D → Prop) : Prop :=
  ∀ D1, D1 = z_uz D 336 0 0 →
  (z_r a1) ∧
  ((¬ a1 = 0) →
    ((¬ a1 = 1) →
      ((¬ a1 = 2) →
        ((¬ a1 = 3) →
          ((¬ a1 = 4) →
            z_c n d 146 [.ref 336] D1 (z_qI (fun v4 D3 => 
              K v4 D3) T)) ∧
          ((a1 = 4) →
            K (D1.1 336 23) D1)) ∧
        ((a1 = 3) →
          K (D1.1 336 29) D1)) ∧
      ((a1 = 2) →
        K (D1.1 336 18) D1)) ∧
    ((a1 = 1) →
      K (D1.1 336 6) D1)) ∧
  ((a1 = 0) →
    K (D1.1 336 37) D1)
theorem v_mCount_0 {n d : Nat} {X : z_Xt} {a1 : Int}  {D : z_D}  {K : Int → z_D → Prop} {T : Nat → z_D → Prop}  (h : w_mCount_0 n d a1 D K T) : z_w n d (k_tb 149) X 0 [some (.ref 336), some (.int (z_i a1))] [] D (z_qI K T) := by
  unfold w_mCount_0 at h
  refine zs_aload rfl rfl ?_
  refine zs_pushI (0) rfl rfl ?_
  refine zs_putI rfl rfl (fun D1 eD1 => ?_)
  have h := h D1 eD1
  refine zs_iload rfl rfl ?_
  obtain ⟨g2, h⟩ := h
  obtain ⟨h13, h14⟩ := h
  refine zs_ifne rfl g2 (fun c => ?_) (fun c => ?_)
  · have h := h13 c
    refine zs_iload rfl rfl ?_
    refine zs_pushI (1) rfl rfl ?_
    obtain ⟨h11, h12⟩ := h
    refine zs_cne rfl g2 (z_rk rfl) (fun c => ?_) (fun c => ?_)
    · have h := h11 c
      refine zs_iload rfl rfl ?_
      refine zs_pushI (2) rfl rfl ?_
      obtain ⟨h9, h10⟩ := h
      refine zs_cne rfl g2 (z_rk rfl) (fun c => ?_) (fun c => ?_)
      · have h := h9 c
        refine zs_iload rfl rfl ?_
        refine zs_pushI (3) rfl rfl ?_
        obtain ⟨h7, h8⟩ := h
        refine zs_cne rfl g2 (z_rk rfl) (fun c => ?_) (fun c => ?_)
        · have h := h7 c
          refine zs_iload rfl rfl ?_
          refine zs_pushI (4) rfl rfl ?_
          obtain ⟨h5, h6⟩ := h
          refine zs_cne rfl g2 (z_rk rfl) (fun c => ?_) (fun c => ?_)
          · have h := h5 c
            refine zs_aload rfl rfl ?_
            refine z_callV (k := 336) (as0 := []) (r := []) rfl rfl rfl (Nat.le_of_ble_eq_true rfl) (z_oI h (fun v4 D3 h => ?_) (fun _ _ h => h))
            exact zs_iret rfl h
          · have h := h6 c
            refine zs_aload rfl rfl ?_
            refine zs_getI rfl rfl ?_
            refine zs_goto rfl ?_
            exact zs_iret rfl h
        · have h := h8 c
          refine zs_aload rfl rfl ?_
          refine zs_getI rfl rfl ?_
          refine zs_goto rfl ?_
          exact zs_iret rfl h
      · have h := h10 c
        refine zs_aload rfl rfl ?_
        refine zs_getI rfl rfl ?_
        refine zs_goto rfl ?_
        exact zs_iret rfl h
    · have h := h12 c
      refine zs_aload rfl rfl ?_
      refine zs_getI rfl rfl ?_
      refine zs_goto rfl ?_
      exact zs_iret rfl h
  · have h := h14 c
    refine zs_aload rfl rfl ?_
    refine zs_getI rfl rfl ?_
    refine zs_goto rfl ?_
    exact zs_iret rfl h
theorem r_mCount {n d : Nat} {a1 : Int} {D : z_D} {K : Int → z_D → Prop} {T : Nat → z_D → Prop}  (h : w_mCount_0 n d a1 D K T) : z_c n (d + 1) 149 [.ref 336, .int (z_i a1)] D (z_qI K T) :=
  z_enter (Nat.le_of_ble_eq_true rfl) rfl (fun X => v_mCount_0 h)
-- 150: TokenMouthModel.category(I)I
def w_mCategory_32 (n d : Nat)  (D : z_D)  (K : Int → z_D → Prop) (T : Nat → z_D → Prop) : Prop :=
  z_c n d 146 [.ref 336] D (z_qI (fun v2 D1 => 
    K v2 D1) T)
theorem v_mCategory_32 {n d : Nat} {X : z_Xt}  {o1 : Option Value} {D : z_D}  {K : Int → z_D → Prop} {T : Nat → z_D → Prop} (n1 : z_nl o1) (h : w_mCategory_32 n d D K T) : z_w n d (k_tb 150) X 32 [some (.ref 336), o1] [] D (z_qI K T) := by
  unfold w_mCategory_32 at h
  refine zs_aload rfl rfl ?_
  refine z_callV (k := 336) (as0 := []) (r := []) rfl rfl rfl (Nat.le_of_ble_eq_true rfl) (z_oI h (fun v2 D1 h => ?_) (fun _ _ h => h))
  exact zs_iret rfl h
def w_mCategory_0 (n d : Nat) (a1 : Int) (D : z_D)  (K : Int → z_D → Prop) (T : Nat → z_D → Prop) : Prop :=
  ∀ D1, D1 = z_uz D 336 0 0 →
  (z_r a1) ∧
  ((a1 = 10) →
    (0 ≤ a1 ∧ a1 < 128) ∧
    K (D1.1 338 (Int.toNat a1)) D1) ∧
  ((¬ a1 = 10) →
    ((a1 ≤ 31) →
      w_mCategory_32 n d D1 K T) ∧
    ((31 < a1) →
      ((127 ≤ a1) →
        w_mCategory_32 n d D1 K T) ∧
      ((a1 < 127) →
        (0 ≤ a1 ∧ a1 < 128) ∧
        K (D1.1 338 (Int.toNat a1)) D1)))
theorem v_mCategory_0 {n d : Nat} {X : z_Xt} {a1 : Int}  {D : z_D}  {K : Int → z_D → Prop} {T : Nat → z_D → Prop}  (h : w_mCategory_0 n d a1 D K T) : z_w n d (k_tb 150) X 0 [some (.ref 336), some (.int (z_i a1))] [] D (z_qI K T) := by
  unfold w_mCategory_0 at h
  refine zs_aload rfl rfl ?_
  refine zs_pushI (0) rfl rfl ?_
  refine zs_putI rfl rfl (fun D1 eD1 => ?_)
  have h := h D1 eD1
  refine zs_iload rfl rfl ?_
  refine zs_pushI (10) rfl rfl ?_
  obtain ⟨g2, h⟩ := h
  obtain ⟨h9, h10⟩ := h
  refine zs_ceq rfl g2 (z_rk rfl) (fun c => ?_) (fun c => ?_)
  · have h := h9 c
    refine zs_aload rfl rfl ?_
    refine zs_getR (x := 338) rfl rfl rfl ?_
    refine zs_iload rfl rfl ?_
    obtain ⟨g3, h⟩ := h
    refine zs_iald rfl rfl (by decide) g3 ?_
    refine zs_goto rfl ?_
    exact zs_iret rfl h
  · have h := h10 c
    refine zs_iload rfl rfl ?_
    refine zs_pushI (31) rfl rfl ?_
    obtain ⟨h7, h8⟩ := h
    refine zs_cle rfl g2 (z_rk rfl) (fun c => ?_) (fun c => ?_)
    · have h := h7 c
      exact v_mCategory_32 (by first | assumption | exact trivial) h
    · have h := h8 c
      refine zs_iload rfl rfl ?_
      refine zs_pushI (127) rfl rfl ?_
      obtain ⟨h5, h6⟩ := h
      refine zs_cge rfl g2 (z_rk rfl) (fun c => ?_) (fun c => ?_)
      · have h := h5 c
        exact v_mCategory_32 (by first | assumption | exact trivial) h
      · have h := h6 c
        refine zs_aload rfl rfl ?_
        refine zs_getR (x := 338) rfl rfl rfl ?_
        refine zs_iload rfl rfl ?_
        obtain ⟨g4, h⟩ := h
        refine zs_iald rfl rfl (by decide) g4 ?_
        refine zs_goto rfl ?_
        exact zs_iret rfl h
theorem r_mCategory {n d : Nat} {a1 : Int} {D : z_D} {K : Int → z_D → Prop} {T : Nat → z_D → Prop}  (h : w_mCategory_0 n d a1 D K T) : z_c n (d + 1) 150 [.ref 336, .int (z_i a1)] D (z_qI K T) :=
  z_enter (Nat.le_of_ble_eq_true rfl) rfl (fun X => v_mCategory_0 h)
-- 151: TokenMouthModel.lookUp(JZ)I
def w_mLookUp_0 (n d : Nat) (a1 : Int64) (b3 : Bool) (D : z_D) (H12 : Int64 → Bool → Bool → Int → z_D → Prop) (K : Int → z_D → Prop) (T : Nat → z_D → Prop) : Prop :=
  ∀ D1, D1 = z_uz D 336 16 0 →
  H12 a1 b3 true 7 D1
theorem v_mLookUp_0 {n d : Nat} {X : z_Xt} {a1 : Int64} {b3 : Bool}  {D : z_D} {H12 : Int64 → Bool → Bool → Int → z_D → Prop} {K : Int → z_D → Prop} {T : Nat → z_D → Prop} (hH12 : ∀ (a1 : Int64) (b3 : Bool) (b4 : Bool) (a5 : Int) (o6 : Option Value) (D : z_D), z_nl o6 → H12 a1 b3 b4 a5 D → z_w n d (k_tb 151) X 12 [some (.ref 336), some (.long a1), none, some (.int (z_i (z_b b3))), some (.int (z_i (z_b b4))), some (.int (z_i a5)), o6] [] D (z_qI K T)) (h : w_mLookUp_0 n d a1 b3 D H12 K T) : z_w n d (k_tb 151) X 0 [some (.ref 336), some (.long a1), none, some (.int (z_i (z_b b3))), none, none, none] [] D (z_qI K T) := by
  unfold w_mLookUp_0 at h
  refine zs_aload rfl rfl ?_
  refine zs_pushI (0) rfl rfl ?_
  refine zs_putI rfl rfl (fun D1 eD1 => ?_)
  have h := h D1 eD1
  refine zs_pushI (1) rfl rfl ?_
  refine zs_istore (ls1 := [some (.ref 336), some (.long a1), none, some (.int (z_i (z_b b3))), some (.int (z_i 1)), none, none]) rfl rfl rfl ?_
  refine zs_pushI (7) rfl rfl ?_
  refine zs_istore (ls1 := [some (.ref 336), some (.long a1), none, some (.int (z_i (z_b b3))), some (.int (z_i 1)), some (.int (z_i 7)), none]) rfl rfl rfl ?_
  exact hH12 _ _ _ _ _ _ (by first | assumption | exact trivial) h
def w_mLookUp_54 (n d : Nat) (a1 : Int64) (b3 : Bool) (a5 : Int) (a6 : Int) (s0 : Bool) (D : z_D) (H12 : Int64 → Bool → Bool → Int → z_D → Prop) (K : Int → z_D → Prop) (T : Nat → z_D → Prop) : Prop :=
  (z_r a6) ∧
  ((a6 ≤ 0) →
    H12 a1 b3 s0 (a5 + (-1)) D) ∧
  ((0 < a6) →
    z_c n d 99 [.ref 336, .int (z_i a6)] D (z_qV (fun D2 => 
      H12 a1 b3 s0 (a5 + (-1)) D2) T))
theorem v_mLookUp_54 {n d : Nat} {X : z_Xt} {a1 : Int64} {b3 : Bool} {a5 : Int} {a6 : Int} {s0 : Bool} {o4 : Option Value} {D : z_D} {H12 : Int64 → Bool → Bool → Int → z_D → Prop} {K : Int → z_D → Prop} {T : Nat → z_D → Prop} (hH12 : ∀ (a1 : Int64) (b3 : Bool) (b4 : Bool) (a5 : Int) (o6 : Option Value) (D : z_D), z_nl o6 → H12 a1 b3 b4 a5 D → z_w n d (k_tb 151) X 12 [some (.ref 336), some (.long a1), none, some (.int (z_i (z_b b3))), some (.int (z_i (z_b b4))), some (.int (z_i a5)), o6] [] D (z_qI K T)) (n4 : z_nl o4) (h : w_mLookUp_54 n d a1 b3 a5 a6 s0 D H12 K T) : z_w n d (k_tb 151) X 54 [some (.ref 336), some (.long a1), none, some (.int (z_i (z_b b3))), o4, some (.int (z_i a5)), some (.int (z_i a6))] [.int (z_i (z_b s0))] D (z_qI K T) := by
  unfold w_mLookUp_54 at h
  refine zs_istore (ls1 := [some (.ref 336), some (.long a1), none, some (.int (z_i (z_b b3))), some (.int (z_i (z_b s0))), some (.int (z_i a5)), some (.int (z_i a6))]) rfl rfl rfl ?_
  refine zs_iload rfl rfl ?_
  obtain ⟨g1, h⟩ := h
  obtain ⟨h3, h4⟩ := h
  refine zs_ifle rfl g1 (fun c => ?_) (fun c => ?_)
  · have h := h3 c
    refine zs_iinc (a := a5) (-1) (ls1 := [some (.ref 336), some (.long a1), none, some (.int (z_i (z_b b3))), some (.int (z_i (z_b s0))), some (.int (z_i (a5 + (-1)))), some (.int (z_i a6))]) rfl rfl rfl rfl ?_
    refine zs_goto rfl ?_
    exact hH12 _ _ _ _ _ _ (by first | assumption | exact trivial) h
  · have h := h4 c
    refine zs_aload rfl rfl ?_
    refine zs_iload rfl rfl ?_
    refine z_callV (k := 336) (as0 := [.int (z_i a6)]) (r := []) rfl rfl rfl (Nat.le_of_ble_eq_true rfl) (z_oV h (fun D2 h => ?_) (fun _ _ h => h))
    refine zs_iinc (a := a5) (-1) (ls1 := [some (.ref 336), some (.long a1), none, some (.int (z_i (z_b b3))), some (.int (z_i (z_b s0))), some (.int (z_i (a5 + (-1)))), some (.int (z_i a6))]) rfl rfl rfl rfl ?_
    refine zs_goto rfl ?_
    exact hH12 _ _ _ _ _ _ (by first | assumption | exact trivial) h
def w_mLookUp_49 (n d : Nat) (a1 : Int64) (b3 : Bool) (a5 : Int) (a6 : Int) (D : z_D) (H12 : Int64 → Bool → Bool → Int → z_D → Prop) (K : Int → z_D → Prop) (T : Nat → z_D → Prop) : Prop :=
  w_mLookUp_54 n d a1 b3 a5 a6 true D H12 K T
theorem v_mLookUp_49 {n d : Nat} {X : z_Xt} {a1 : Int64} {b3 : Bool} {a5 : Int} {a6 : Int} {o4 : Option Value} {D : z_D} {H12 : Int64 → Bool → Bool → Int → z_D → Prop} {K : Int → z_D → Prop} {T : Nat → z_D → Prop} (hH12 : ∀ (a1 : Int64) (b3 : Bool) (b4 : Bool) (a5 : Int) (o6 : Option Value) (D : z_D), z_nl o6 → H12 a1 b3 b4 a5 D → z_w n d (k_tb 151) X 12 [some (.ref 336), some (.long a1), none, some (.int (z_i (z_b b3))), some (.int (z_i (z_b b4))), some (.int (z_i a5)), o6] [] D (z_qI K T)) (n4 : z_nl o4) (h : w_mLookUp_49 n d a1 b3 a5 a6 D H12 K T) : z_w n d (k_tb 151) X 49 [some (.ref 336), some (.long a1), none, some (.int (z_i (z_b b3))), o4, some (.int (z_i a5)), some (.int (z_i a6))] [] D (z_qI K T) := by
  unfold w_mLookUp_49 at h
  refine zs_pushI (1) rfl rfl ?_
  refine zs_goto rfl ?_
  exact v_mLookUp_54 hH12 (by first | assumption | exact trivial) h
def w_mLookUp_53 (n d : Nat) (a1 : Int64) (b3 : Bool) (a5 : Int) (a6 : Int) (D : z_D) (H12 : Int64 → Bool → Bool → Int → z_D → Prop) (K : Int → z_D → Prop) (T : Nat → z_D → Prop) : Prop :=
  w_mLookUp_54 n d a1 b3 a5 a6 false D H12 K T
theorem v_mLookUp_53 {n d : Nat} {X : z_Xt} {a1 : Int64} {b3 : Bool} {a5 : Int} {a6 : Int} {o4 : Option Value} {D : z_D} {H12 : Int64 → Bool → Bool → Int → z_D → Prop} {K : Int → z_D → Prop} {T : Nat → z_D → Prop} (hH12 : ∀ (a1 : Int64) (b3 : Bool) (b4 : Bool) (a5 : Int) (o6 : Option Value) (D : z_D), z_nl o6 → H12 a1 b3 b4 a5 D → z_w n d (k_tb 151) X 12 [some (.ref 336), some (.long a1), none, some (.int (z_i (z_b b3))), some (.int (z_i (z_b b4))), some (.int (z_i a5)), o6] [] D (z_qI K T)) (n4 : z_nl o4) (h : w_mLookUp_53 n d a1 b3 a5 a6 D H12 K T) : z_w n d (k_tb 151) X 53 [some (.ref 336), some (.long a1), none, some (.int (z_i (z_b b3))), o4, some (.int (z_i a5)), some (.int (z_i a6))] [] D (z_qI K T) := by
  unfold w_mLookUp_53 at h
  refine zs_pushI (0) rfl rfl ?_
  exact v_mLookUp_54 hH12 (by first | assumption | exact trivial) h
def w_mLookUp_99 (n d : Nat) (a1 : Int64) (b3 : Bool) (D : z_D)  (K : Int → z_D → Prop) (T : Nat → z_D → Prop) : Prop :=
  z_c n d 100 [.ref 336, .int (z_i (z_b b3))] D (z_qI (fun v2 D1 => 
    (z_r v2) ∧
    ((0 ≤ v2) →
      (0 ≤ v2 ∧ v2 < 120) ∧
      K (D1.1 343 (Int.toNat v2)) D1) ∧
    ((v2 < 0) →
      K 0 D1)) T)
theorem v_mLookUp_99 {n d : Nat} {X : z_Xt} {a1 : Int64} {b3 : Bool} {o4 : Option Value} {o5 : Option Value} {o6 : Option Value} {D : z_D}  {K : Int → z_D → Prop} {T : Nat → z_D → Prop} (n4 : z_nl o4) (n5 : z_nl o5) (n6 : z_nl o6) (h : w_mLookUp_99 n d a1 b3 D K T) : z_w n d (k_tb 151) X 99 [some (.ref 336), some (.long a1), none, some (.int (z_i (z_b b3))), o4, o5, o6] [] D (z_qI K T) := by
  unfold w_mLookUp_99 at h
  refine zs_aload rfl rfl ?_
  refine zs_iload rfl rfl ?_
  refine z_callV (k := 336) (as0 := [.int (z_i (z_b b3))]) (r := []) rfl rfl rfl (Nat.le_of_ble_eq_true rfl) (z_oI h (fun v2 D1 h => ?_) (fun _ _ h => h))
  refine zs_istore (ls1 := [some (.ref 336), some (.long a1), none, some (.int (z_i (z_b b3))), o4, some (.int (z_i v2)), o6]) rfl rfl ((z_st1 rfl n4).trans rfl) ?_
  refine zs_iload rfl rfl ?_
  obtain ⟨g3, h⟩ := h
  obtain ⟨h5, h6⟩ := h
  refine zs_ifge rfl g3 (fun c => ?_) (fun c => ?_)
  · have h := h5 c
    refine zs_aload rfl rfl ?_
    refine zs_getR (x := 343) rfl rfl rfl ?_
    refine zs_iload rfl rfl ?_
    obtain ⟨g4, h⟩ := h
    refine zs_iald rfl rfl (by decide) g4 ?_
    exact zs_iret rfl h
  · have h := h6 c
    refine zs_pushI (0) rfl rfl ?_
    refine zs_goto rfl ?_
    exact zs_iret rfl h
def w_mLookUp_12 (n d : Nat) (a1 : Int64) (b3 : Bool) (b4 : Bool) (a5 : Int) (D : z_D) (H12 : Int64 → Bool → Bool → Int → z_D → Prop) (K : Int → z_D → Prop) (T : Nat → z_D → Prop) : Prop :=
  (z_r a5) ∧
  ((a5 < 0) →
    ((b4 = false) →
      K (-1) D) ∧
    ((b4 = true) →
      (z_r (D.1 336 16)) ∧
      (((D.1 336 16) = 0) →
        K (-1) D) ∧
      ((¬ (D.1 336 16) = 0) →
        ((b3 = false) →
          w_mLookUp_99 n d a1 b3 D K T) ∧
        ((b3 = true) →
          (((D.1 336 16) ≤ 1) →
            w_mLookUp_99 n d a1 b3 D K T) ∧
          ((1 < (D.1 336 16)) →
            K (-1) D))))) ∧
  ((0 ≤ a5) →
    ((b4 = false) →
      w_mLookUp_53 n d a1 b3 a5 (z_li ((z_sar a1 (8 * a5)) &&& (255))) D H12 K T) ∧
    ((b4 = true) →
      (((z_li ((z_sar a1 (8 * a5)) &&& (255))) = 0) →
        w_mLookUp_49 n d a1 b3 a5 (z_li ((z_sar a1 (8 * a5)) &&& (255))) D H12 K T) ∧
      ((¬ (z_li ((z_sar a1 (8 * a5)) &&& (255))) = 0) →
        z_c n d 94 [.int (z_i (z_li ((z_sar a1 (8 * a5)) &&& (255))))] D (z_qZ (fun v12 D11 => 
          ((v12 = false) →
            w_mLookUp_53 n d a1 b3 a5 (z_li ((z_sar a1 (8 * a5)) &&& (255))) D11 H12 K T) ∧
          ((v12 = true) →
            w_mLookUp_49 n d a1 b3 a5 (z_li ((z_sar a1 (8 * a5)) &&& (255))) D11 H12 K T)) T))))
theorem v_mLookUp_12 {n d : Nat} {X : z_Xt} {a1 : Int64} {b3 : Bool} {b4 : Bool} {a5 : Int} {o6 : Option Value} {D : z_D} {H12 : Int64 → Bool → Bool → Int → z_D → Prop} {K : Int → z_D → Prop} {T : Nat → z_D → Prop} (hH12 : ∀ (a1 : Int64) (b3 : Bool) (b4 : Bool) (a5 : Int) (o6 : Option Value) (D : z_D), z_nl o6 → H12 a1 b3 b4 a5 D → z_w n d (k_tb 151) X 12 [some (.ref 336), some (.long a1), none, some (.int (z_i (z_b b3))), some (.int (z_i (z_b b4))), some (.int (z_i a5)), o6] [] D (z_qI K T)) (n6 : z_nl o6) (h : w_mLookUp_12 n d a1 b3 b4 a5 D H12 K T) : z_w n d (k_tb 151) X 12 [some (.ref 336), some (.long a1), none, some (.int (z_i (z_b b3))), some (.int (z_i (z_b b4))), some (.int (z_i a5)), o6] [] D (z_qI K T) := by
  unfold w_mLookUp_12 at h
  refine zs_iload rfl rfl ?_
  obtain ⟨g1, h⟩ := h
  obtain ⟨h19, h20⟩ := h
  refine zs_iflt rfl g1 (fun c => ?_) (fun c => ?_)
  · have h := h19 c
    refine zs_iload rfl rfl ?_
    obtain ⟨h9, h10⟩ := h
    refine zs_beq rfl (fun c => ?_) (fun c => ?_)
    · have h := h9 c
      refine zs_pushI (-1) rfl rfl ?_
      exact zs_iret rfl h
    · have h := h10 c
      refine zs_aload rfl rfl ?_
      refine zs_getI rfl rfl ?_
      obtain ⟨g2, h⟩ := h
      obtain ⟨h7, h8⟩ := h
      refine zs_ifeq rfl g2 (fun c => ?_) (fun c => ?_)
      · have h := h7 c
        refine zs_pushI (-1) rfl rfl ?_
        exact zs_iret rfl h
      · have h := h8 c
        refine zs_iload rfl rfl ?_
        obtain ⟨h5, h6⟩ := h
        refine zs_beq rfl (fun c => ?_) (fun c => ?_)
        · have h := h5 c
          exact v_mLookUp_99 (by first | assumption | exact trivial) (by first | assumption | exact trivial) (by first | assumption | exact trivial) h
        · have h := h6 c
          refine zs_aload rfl rfl ?_
          refine zs_getI rfl rfl ?_
          refine zs_pushI (1) rfl rfl ?_
          obtain ⟨h3, h4⟩ := h
          refine zs_cle rfl g2 (z_rk rfl) (fun c => ?_) (fun c => ?_)
          · have h := h3 c
            exact v_mLookUp_99 (by first | assumption | exact trivial) (by first | assumption | exact trivial) (by first | assumption | exact trivial) h
          · have h := h4 c
            refine zs_pushI (-1) rfl rfl ?_
            exact zs_iret rfl h
  · have h := h20 c
    refine zs_lload rfl rfl ?_
    refine zs_pushI (8) rfl rfl ?_
    refine zs_iload rfl rfl ?_
    refine zs_mul (a := 8) (b := a5) rfl ?_
    refine zs_li (b := (8 * a5)) rfl ?_
    refine zs_push rfl ?_
    refine zs_ll rfl ?_
    refine zs_l2 rfl ?_
    refine zs_istore (ls1 := [some (.ref 336), some (.long a1), none, some (.int (z_i (z_b b3))), some (.int (z_i (z_b b4))), some (.int (z_i a5)), some (.int (z_i (z_li ((z_sar a1 (8 * a5)) &&& (255)))))]) rfl rfl rfl ?_
    refine zs_iload rfl rfl ?_
    obtain ⟨h17, h18⟩ := h
    refine zs_beq rfl (fun c => ?_) (fun c => ?_)
    · have h := h17 c
      exact v_mLookUp_53 hH12 (by first | assumption | exact trivial) h
    · have h := h18 c
      refine zs_iload rfl rfl ?_
      obtain ⟨h15, h16⟩ := h
      refine zs_ifeq rfl (z_r_toInt _) (fun c => ?_) (fun c => ?_)
      · have h := h15 c
        exact v_mLookUp_49 hH12 (by first | assumption | exact trivial) h
      · have h := h16 c
        refine zs_iload rfl rfl ?_
        refine z_callS (as0 := [.int (z_i (z_li ((z_sar a1 (8 * a5)) &&& (255))))]) (r := []) rfl rfl (Nat.le_of_ble_eq_true rfl) (z_oZ h (fun v12 D11 h => ?_) (fun _ _ h => h))
        obtain ⟨h13, h14⟩ := h
        refine zs_beq rfl (fun c => ?_) (fun c => ?_)
        · have h := h13 c
          exact v_mLookUp_53 hH12 (by first | assumption | exact trivial) h
        · have h := h14 c
          exact v_mLookUp_49 hH12 (by first | assumption | exact trivial) h
theorem r_mLookUp {n d : Nat} {a1 : Int64} {b3 : Bool} {D : z_D} {K : Int → z_D → Prop} {T : Nat → z_D → Prop}  (I12 : Nat → Int64 → Bool → Bool → Int → z_D → Prop) (hE : w_mLookUp_0 n d a1 b3 D (fun a1 b3 b4 a5 D => ∃ m, I12 m a1 b3 b4 a5 D) K T) (h12 : ∀ (mm : Nat) (a1 : Int64) (b3 : Bool) (b4 : Bool) (a5 : Int) (D : z_D), I12 mm a1 b3 b4 a5 D → w_mLookUp_12 n d a1 b3 b4 a5 D (fun a1 b3 b4 a5 D => ∃ m, m < mm ∧ I12 m a1 b3 b4 a5 D) K T) : z_c n (d + 1) 151 [.ref 336, .long a1, .int (z_i (z_b b3))] D (z_qI K T) := by
  refine z_enter (Nat.le_of_ble_eq_true rfl) rfl (fun X => ?_)
  have key : ∀ m, (∀ (a1 : Int64) (b3 : Bool) (b4 : Bool) (a5 : Int) (o6 : Option Value) (D : z_D), z_nl o6 → I12 m a1 b3 b4 a5 D → z_w n d (k_tb 151) X 12 [some (.ref 336), some (.long a1), none, some (.int (z_i (z_b b3))), some (.int (z_i (z_b b4))), some (.int (z_i a5)), o6] [] D (z_qI K T)) := by
    intro m
    induction m using Nat.strongRecOn with
    | _ mm ih =>
      exact fun a1 b3 b4 a5 o6 D n6 hI => v_mLookUp_12 (fun a1 b3 b4 a5 o6 D n6 ⟨m, hm, hI⟩ => (ih m hm) _ _ _ _ _ _ n6 hI) n6 (h12 mm a1 b3 b4 a5 D hI)
  exact v_mLookUp_0 (fun a1 b3 b4 a5 o6 D n6 ⟨m, hI⟩ => (key m) _ _ _ _ _ _ n6 hI) hE
-- 152: TokenMouthModel.meaning(JZ)I
def w_mMeaning_0 (n d : Nat) (a1 : Int64) (b3 : Bool) (D : z_D)  (K : Int → z_D → Prop) (T : Nat → z_D → Prop) : Prop :=
  ∀ D1, D1 = z_uz D 336 0 0 →
  z_c n d 151 [.ref 336, .long a1, .int (z_i (z_b b3))] D1 (z_qI (fun v3 D2 => 
    (z_r v3) ∧
    ((0 ≤ v3) →
      ((¬ v3 = 0) →
        ((1000 ≤ v3) →
          ((6000 ≤ v3) →
            K 3 D2) ∧
          ((v3 < 6000) →
            K 2 D2)) ∧
        ((v3 < 1000) →
          K 1 D2)) ∧
      ((v3 = 0) →
        K 0 D2)) ∧
    ((v3 < 0) →
      z_c n d 146 [.ref 336] D2 (z_qI (fun v12 D11 => 
        K v12 D11) T))) T)
theorem v_mMeaning_0 {n d : Nat} {X : z_Xt} {a1 : Int64} {b3 : Bool}  {D : z_D}  {K : Int → z_D → Prop} {T : Nat → z_D → Prop}  (h : w_mMeaning_0 n d a1 b3 D K T) : z_w n d (k_tb 152) X 0 [some (.ref 336), some (.long a1), none, some (.int (z_i (z_b b3))), none] [] D (z_qI K T) := by
  unfold w_mMeaning_0 at h
  refine zs_aload rfl rfl ?_
  refine zs_pushI (0) rfl rfl ?_
  refine zs_putI rfl rfl (fun D1 eD1 => ?_)
  have h := h D1 eD1
  refine zs_aload rfl rfl ?_
  refine zs_lload rfl rfl ?_
  refine zs_iload rfl rfl ?_
  refine z_callV (k := 336) (as0 := [.long a1, .int (z_i (z_b b3))]) (r := []) rfl rfl rfl (Nat.le_of_ble_eq_true rfl) (z_oI h (fun v3 D2 h => ?_) (fun _ _ h => h))
  refine zs_istore (ls1 := [some (.ref 336), some (.long a1), none, some (.int (z_i (z_b b3))), some (.int (z_i v3))]) rfl rfl rfl ?_
  refine zs_iload rfl rfl ?_
  obtain ⟨g4, h⟩ := h
  obtain ⟨h13, h14⟩ := h
  refine zs_ifge rfl g4 (fun c => ?_) (fun c => ?_)
  · have h := h13 c
    refine zs_iload rfl rfl ?_
    obtain ⟨h9, h10⟩ := h
    refine zs_ifne rfl g4 (fun c => ?_) (fun c => ?_)
    · have h := h9 c
      refine zs_iload rfl rfl ?_
      refine zs_pushI (1000) rfl rfl ?_
      obtain ⟨h7, h8⟩ := h
      refine zs_cge rfl g4 (z_rk rfl) (fun c => ?_) (fun c => ?_)
      · have h := h7 c
        refine zs_iload rfl rfl ?_
        refine zs_pushI (6000) rfl rfl ?_
        obtain ⟨h5, h6⟩ := h
        refine zs_cge rfl g4 (z_rk rfl) (fun c => ?_) (fun c => ?_)
        · have h := h5 c
          refine zs_pushI (3) rfl rfl ?_
          exact zs_iret rfl h
        · have h := h6 c
          refine zs_pushI (2) rfl rfl ?_
          refine zs_goto rfl ?_
          exact zs_iret rfl h
      · have h := h8 c
        refine zs_pushI (1) rfl rfl ?_
        refine zs_goto rfl ?_
        exact zs_iret rfl h
    · have h := h10 c
      refine zs_pushI (0) rfl rfl ?_
      refine zs_goto rfl ?_
      exact zs_iret rfl h
  · have h := h14 c
    refine zs_aload rfl rfl ?_
    refine z_callV (k := 336) (as0 := []) (r := []) rfl rfl rfl (Nat.le_of_ble_eq_true rfl) (z_oI h (fun v12 D11 h => ?_) (fun _ _ h => h))
    refine zs_goto rfl ?_
    exact zs_iret rfl h
theorem r_mMeaning {n d : Nat} {a1 : Int64} {b3 : Bool} {D : z_D} {K : Int → z_D → Prop} {T : Nat → z_D → Prop}  (h : w_mMeaning_0 n d a1 b3 D K T) : z_c n (d + 1) 152 [.ref 336, .long a1, .int (z_i (z_b b3))] D (z_qI K T) :=
  z_enter (Nat.le_of_ble_eq_true rfl) rfl (fun X => v_mMeaning_0 h)
-- 153: TokenMouthModel.detail(JZI)I
def w_mDetail_116 (n d : Nat) (a1 : Int64) (a4 : Int) (b6 : Bool) (a7 : Int) (D : z_D)  (K : Int → z_D → Prop) (T : Nat → z_D → Prop) : Prop :=
  ((b6 = true) →
    (z_r a4) ∧
    ((¬ a4 = 1) →
      (0 ≤ a7 ∧ a7 < 61) ∧
      K (D.1 350 (Int.toNat a7)) D) ∧
    ((a4 = 1) →
      (0 ≤ a7 ∧ a7 < 61) ∧
      K (D.1 348 (Int.toNat a7)) D)) ∧
  ((b6 = false) →
    K 0 D)
theorem v_mDetail_116 {n d : Nat} {X : z_Xt} {a1 : Int64} {a4 : Int} {b6 : Bool} {a7 : Int} {o3 : Option Value} {o5 : Option Value} {D : z_D}  {K : Int → z_D → Prop} {T : Nat → z_D → Prop} (n3 : z_nl o3) (n5 : z_nl o5) (h : w_mDetail_116 n d a1 a4 b6 a7 D K T) : z_w n d (k_tb 153) X 116 [some (.ref 336), some (.long a1), none, o3, some (.int (z_i a4)), o5, some (.int (z_i (z_b b6))), some (.int (z_i a7)), none] [] D (z_qI K T) := by
  unfold w_mDetail_116 at h
  refine zs_iload rfl rfl ?_
  obtain ⟨h6, h7⟩ := h
  refine zs_bne rfl (fun c => ?_) (fun c => ?_)
  · have h := h6 c
    refine zs_iload rfl rfl ?_
    refine zs_pushI (1) rfl rfl ?_
    obtain ⟨g1, h⟩ := h
    obtain ⟨h4, h5⟩ := h
    refine zs_cne rfl g1 (z_rk rfl) (fun c => ?_) (fun c => ?_)
    · have h := h4 c
      refine zs_aload rfl rfl ?_
      refine zs_getR (x := 350) rfl rfl rfl ?_
      refine zs_iload rfl rfl ?_
      obtain ⟨g2, h⟩ := h
      refine zs_iald rfl rfl (by decide) g2 ?_
      exact zs_iret rfl h
    · have h := h5 c
      refine zs_aload rfl rfl ?_
      refine zs_getR (x := 348) rfl rfl rfl ?_
      refine zs_iload rfl rfl ?_
      obtain ⟨g3, h⟩ := h
      refine zs_iald rfl rfl (by decide) g3 ?_
      refine zs_goto rfl ?_
      exact zs_iret rfl h
  · have h := h7 c
    refine zs_pushI (0) rfl rfl ?_
    refine zs_goto rfl ?_
    exact zs_iret rfl h
def w_mDetail_53 (n d : Nat) (a1 : Int64) (a4 : Int) (a5 : Int) (b6 : Bool) (s0 : Int) (D : z_D)  (K : Int → z_D → Prop) (T : Nat → z_D → Prop) : Prop :=
  (z_r a4) ∧
  ((¬ a4 = 0) →
    ((a4 = 1) →
      w_mDetail_116 n d a1 a4 b6 s0 D K T) ∧
    ((¬ a4 = 1) →
      ((¬ a4 = 2) →
        ((b6 = false) →
          K (-1) D) ∧
        ((b6 = true) →
          ((a4 < 3) →
            K (-1) D) ∧
          ((3 ≤ a4) →
            (0 ≤ s0 ∧ s0 < 61) ∧
            (z_r (a4 - 3)) ∧ (z_r (D.1 350 (Int.toNat s0))) ∧
            (((a4 - 3) < (D.1 350 (Int.toNat s0))) →
              (0 ≤ (((41 * s0) + a4) - 3) ∧ (((41 * s0) + a4) - 3) < 2500) ∧
              (z_r (D.1 351 (Int.toNat (((41 * s0) + a4) - 3)))) ∧
              ((4096 ≤ (D.1 351 (Int.toNat (((41 * s0) + a4) - 3)))) →
                ((16384 ≤ (D.1 351 (Int.toNat (((41 * s0) + a4) - 3)))) →
                  K ((4096 + (D.1 351 (Int.toNat (((41 * s0) + a4) - 3)))) - 16384) D) ∧
                (((D.1 351 (Int.toNat (((41 * s0) + a4) - 3))) < 16384) →
                  K 4096 D)) ∧
              (((D.1 351 (Int.toNat (((41 * s0) + a4) - 3))) < 4096) →
                K (D.1 351 (Int.toNat (((41 * s0) + a4) - 3))) D)) ∧
            (((D.1 350 (Int.toNat s0)) ≤ (a4 - 3)) →
              K (-1) D)))) ∧
      ((a4 = 2) →
        w_mDetail_116 n d a1 a4 b6 s0 D K T))) ∧
  ((a4 = 0) →
    (z_r a5) ∧
    ((¬ a5 = 0) →
      ((b6 = false) →
        ((1000 ≤ a5) →
          K (a5 - 1000) D) ∧
        ((a5 < 1000) →
          K a5 D)) ∧
      ((b6 = true) →
        (0 ≤ s0 ∧ s0 < 61) ∧
        K (D.1 352 (Int.toNat s0)) D)) ∧
    ((a5 = 0) →
      K (-1) D))
theorem v_mDetail_53 {n d : Nat} {X : z_Xt} {a1 : Int64} {a4 : Int} {a5 : Int} {b6 : Bool} {s0 : Int} {o3 : Option Value} {D : z_D}  {K : Int → z_D → Prop} {T : Nat → z_D → Prop} (n3 : z_nl o3) (h : w_mDetail_53 n d a1 a4 a5 b6 s0 D K T) : z_w n d (k_tb 153) X 53 [some (.ref 336), some (.long a1), none, o3, some (.int (z_i a4)), some (.int (z_i a5)), some (.int (z_i (z_b b6))), none, none] [.int (z_i s0)] D (z_qI K T) := by
  unfold w_mDetail_53 at h
  refine zs_istore (ls1 := [some (.ref 336), some (.long a1), none, o3, some (.int (z_i a4)), some (.int (z_i a5)), some (.int (z_i (z_b b6))), some (.int (z_i s0)), none]) rfl rfl rfl ?_
  refine zs_iload rfl rfl ?_
  obtain ⟨g1, h⟩ := h
  obtain ⟨h29, h30⟩ := h
  refine zs_ifne rfl g1 (fun c => ?_) (fun c => ?_)
  · have h := h29 c
    refine zs_iload rfl rfl ?_
    refine zs_pushI (1) rfl rfl ?_
    obtain ⟨h19, h20⟩ := h
    refine zs_ceq rfl g1 (z_rk rfl) (fun c => ?_) (fun c => ?_)
    · have h := h19 c
      exact v_mDetail_116 (by first | assumption | exact trivial) (by first | assumption | exact trivial) h
    · have h := h20 c
      refine zs_iload rfl rfl ?_
      refine zs_pushI (2) rfl rfl ?_
      obtain ⟨h17, h18⟩ := h
      refine zs_cne rfl g1 (z_rk rfl) (fun c => ?_) (fun c => ?_)
      · have h := h17 c
        refine zs_iload rfl rfl ?_
        obtain ⟨h15, h16⟩ := h
        refine zs_beq rfl (fun c => ?_) (fun c => ?_)
        · have h := h15 c
          refine zs_pushI (-1) rfl rfl ?_
          exact zs_iret rfl h
        · have h := h16 c
          refine zs_iload rfl rfl ?_
          refine zs_pushI (3) rfl rfl ?_
          obtain ⟨h13, h14⟩ := h
          refine zs_clt rfl g1 (z_rk rfl) (fun c => ?_) (fun c => ?_)
          · have h := h13 c
            refine zs_pushI (-1) rfl rfl ?_
            exact zs_iret rfl h
          · have h := h14 c
            refine zs_iload rfl rfl ?_
            refine zs_pushI (3) rfl rfl ?_
            refine zs_sub (a := a4) (b := 3) rfl ?_
            refine zs_aload rfl rfl ?_
            refine zs_getR (x := 350) rfl rfl rfl ?_
            refine zs_iload rfl rfl ?_
            obtain ⟨g2, h⟩ := h
            refine zs_iald rfl rfl (by decide) g2 ?_
            obtain ⟨g3, g4, h⟩ := h
            obtain ⟨h11, h12⟩ := h
            refine zs_clt rfl g3 g4 (fun c => ?_) (fun c => ?_)
            · have h := h11 c
              refine zs_aload rfl rfl ?_
              refine zs_getR (x := 351) rfl rfl rfl ?_
              refine zs_pushI (41) rfl rfl ?_
              refine zs_iload rfl rfl ?_
              refine zs_mul (a := 41) (b := s0) rfl ?_
              refine zs_iload rfl rfl ?_
              refine zs_add (a := (41 * s0)) (b := a4) rfl ?_
              refine zs_pushI (3) rfl rfl ?_
              refine zs_sub (a := ((41 * s0) + a4)) (b := 3) rfl ?_
              obtain ⟨g5, h⟩ := h
              refine zs_iald rfl rfl (by decide) g5 ?_
              refine zs_istore (ls1 := [some (.ref 336), some (.long a1), none, o3, some (.int (z_i a4)), some (.int (z_i a5)), some (.int (z_i (z_b b6))), some (.int (z_i s0)), some (.int (z_i (D.1 351 (Int.toNat (((41 * s0) + a4) - 3)))))]) rfl rfl rfl ?_
              refine zs_iload rfl rfl ?_
              refine zs_pushI (4096) rfl rfl ?_
              obtain ⟨g6, h⟩ := h
              obtain ⟨h9, h10⟩ := h
              refine zs_cge rfl g6 (z_rk rfl) (fun c => ?_) (fun c => ?_)
              · have h := h9 c
                refine zs_iload rfl rfl ?_
                refine zs_pushI (16384) rfl rfl ?_
                obtain ⟨h7, h8⟩ := h
                refine zs_cge rfl g6 (z_rk rfl) (fun c => ?_) (fun c => ?_)
                · have h := h7 c
                  refine zs_pushI (4096) rfl rfl ?_
                  refine zs_iload rfl rfl ?_
                  refine zs_add (a := 4096) (b := (D.1 351 (Int.toNat (((41 * s0) + a4) - 3)))) rfl ?_
                  refine zs_pushI (16384) rfl rfl ?_
                  refine zs_sub (a := (4096 + (D.1 351 (Int.toNat (((41 * s0) + a4) - 3))))) (b := 16384) rfl ?_
                  exact zs_iret rfl h
                · have h := h8 c
                  refine zs_pushI (4096) rfl rfl ?_
                  refine zs_goto rfl ?_
                  exact zs_iret rfl h
              · have h := h10 c
                refine zs_iload rfl rfl ?_
                refine zs_goto rfl ?_
                exact zs_iret rfl h
            · have h := h12 c
              refine zs_pushI (-1) rfl rfl ?_
              exact zs_iret rfl h
      · have h := h18 c
        exact v_mDetail_116 (by first | assumption | exact trivial) (by first | assumption | exact trivial) h
  · have h := h30 c
    refine zs_iload rfl rfl ?_
    obtain ⟨g21, h⟩ := h
    obtain ⟨h27, h28⟩ := h
    refine zs_ifne rfl g21 (fun c => ?_) (fun c => ?_)
    · have h := h27 c
      refine zs_iload rfl rfl ?_
      obtain ⟨h25, h26⟩ := h
      refine zs_beq rfl (fun c => ?_) (fun c => ?_)
      · have h := h25 c
        refine zs_iload rfl rfl ?_
        refine zs_pushI (1000) rfl rfl ?_
        obtain ⟨h22, h23⟩ := h
        refine zs_cge rfl g21 (z_rk rfl) (fun c => ?_) (fun c => ?_)
        · have h := h22 c
          refine zs_iload rfl rfl ?_
          refine zs_pushI (1000) rfl rfl ?_
          refine zs_sub (a := a5) (b := 1000) rfl ?_
          exact zs_iret rfl h
        · have h := h23 c
          refine zs_iload rfl rfl ?_
          refine zs_goto rfl ?_
          exact zs_iret rfl h
      · have h := h26 c
        refine zs_aload rfl rfl ?_
        refine zs_getR (x := 352) rfl rfl rfl ?_
        refine zs_iload rfl rfl ?_
        obtain ⟨g24, h⟩ := h
        refine zs_iald rfl rfl (by decide) g24 ?_
        refine zs_goto rfl ?_
        exact zs_iret rfl h
    · have h := h28 c
      refine zs_pushI (-1) rfl rfl ?_
      refine zs_goto rfl ?_
      exact zs_iret rfl h
def w_mDetail_36 (n d : Nat) (a1 : Int64) (a4 : Int) (a5 : Int) (s0 : Bool) (D : z_D)  (K : Int → z_D → Prop) (T : Nat → z_D → Prop) : Prop :=
  ((s0 = false) →
    w_mDetail_53 n d a1 a4 a5 s0 0 D K T) ∧
  ((s0 = true) →
    w_mDetail_53 n d a1 a4 a5 s0 (a5 - 6000) D K T)
theorem v_mDetail_36 {n d : Nat} {X : z_Xt} {a1 : Int64} {a4 : Int} {a5 : Int} {s0 : Bool} {o3 : Option Value} {D : z_D}  {K : Int → z_D → Prop} {T : Nat → z_D → Prop} (n3 : z_nl o3) (h : w_mDetail_36 n d a1 a4 a5 s0 D K T) : z_w n d (k_tb 153) X 36 [some (.ref 336), some (.long a1), none, o3, some (.int (z_i a4)), some (.int (z_i a5)), none, none, none] [.int (z_i (z_b s0))] D (z_qI K T) := by
  unfold w_mDetail_36 at h
  refine zs_istore (ls1 := [some (.ref 336), some (.long a1), none, o3, some (.int (z_i a4)), some (.int (z_i a5)), some (.int (z_i (z_b s0))), none, none]) rfl rfl rfl ?_
  refine zs_iload rfl rfl ?_
  obtain ⟨h1, h2⟩ := h
  refine zs_beq rfl (fun c => ?_) (fun c => ?_)
  · have h := h1 c
    refine zs_pushI (0) rfl rfl ?_
    exact v_mDetail_53 (by first | assumption | exact trivial) h
  · have h := h2 c
    refine zs_iload rfl rfl ?_
    refine zs_pushI (6000) rfl rfl ?_
    refine zs_sub (a := a5) (b := 6000) rfl ?_
    refine zs_goto rfl ?_
    exact v_mDetail_53 (by first | assumption | exact trivial) h
def w_mDetail_0 (n d : Nat) (a1 : Int64) (b3 : Bool) (a4 : Int) (D : z_D)  (K : Int → z_D → Prop) (T : Nat → z_D → Prop) : Prop :=
  ∀ D1, D1 = z_uz D 336 0 0 →
  z_c n d 151 [.ref 336, .long a1, .int (z_i (z_b b3))] D1 (z_qI (fun v3 D2 => 
    (z_r v3) ∧
    ((0 ≤ v3) →
      ((v3 < 6000) →
        w_mDetail_36 n d a1 a4 v3 false D2 K T) ∧
      ((6000 ≤ v3) →
        w_mDetail_36 n d a1 a4 v3 true D2 K T)) ∧
    ((v3 < 0) →
      z_c n d 146 [.ref 336] D2 (z_qI (fun v8 D7 => 
        K v8 D7) T))) T)
theorem v_mDetail_0 {n d : Nat} {X : z_Xt} {a1 : Int64} {b3 : Bool} {a4 : Int}  {D : z_D}  {K : Int → z_D → Prop} {T : Nat → z_D → Prop}  (h : w_mDetail_0 n d a1 b3 a4 D K T) : z_w n d (k_tb 153) X 0 [some (.ref 336), some (.long a1), none, some (.int (z_i (z_b b3))), some (.int (z_i a4)), none, none, none, none] [] D (z_qI K T) := by
  unfold w_mDetail_0 at h
  refine zs_aload rfl rfl ?_
  refine zs_pushI (0) rfl rfl ?_
  refine zs_putI rfl rfl (fun D1 eD1 => ?_)
  have h := h D1 eD1
  refine zs_aload rfl rfl ?_
  refine zs_lload rfl rfl ?_
  refine zs_iload rfl rfl ?_
  refine z_callV (k := 336) (as0 := [.long a1, .int (z_i (z_b b3))]) (r := []) rfl rfl rfl (Nat.le_of_ble_eq_true rfl) (z_oI h (fun v3 D2 h => ?_) (fun _ _ h => h))
  refine zs_istore (ls1 := [some (.ref 336), some (.long a1), none, some (.int (z_i (z_b b3))), some (.int (z_i a4)), some (.int (z_i v3)), none, none, none]) rfl rfl rfl ?_
  refine zs_iload rfl rfl ?_
  obtain ⟨g4, h⟩ := h
  obtain ⟨h9, h10⟩ := h
  refine zs_ifge rfl g4 (fun c => ?_) (fun c => ?_)
  · have h := h9 c
    refine zs_iload rfl rfl ?_
    refine zs_pushI (6000) rfl rfl ?_
    obtain ⟨h5, h6⟩ := h
    refine zs_clt rfl g4 (z_rk rfl) (fun c => ?_) (fun c => ?_)
    · have h := h5 c
      refine zs_pushI (0) rfl rfl ?_
      exact v_mDetail_36 (by first | assumption | exact trivial) h
    · have h := h6 c
      refine zs_pushI (1) rfl rfl ?_
      refine zs_goto rfl ?_
      exact v_mDetail_36 (by first | assumption | exact trivial) h
  · have h := h10 c
    refine zs_aload rfl rfl ?_
    refine z_callV (k := 336) (as0 := []) (r := []) rfl rfl rfl (Nat.le_of_ble_eq_true rfl) (z_oI h (fun v8 D7 h => ?_) (fun _ _ h => h))
    exact zs_iret rfl h
theorem r_mDetail {n d : Nat} {a1 : Int64} {b3 : Bool} {a4 : Int} {D : z_D} {K : Int → z_D → Prop} {T : Nat → z_D → Prop}  (h : w_mDetail_0 n d a1 b3 a4 D K T) : z_c n (d + 1) 153 [.ref 336, .long a1, .int (z_i (z_b b3)), .int (z_i a4)] D (z_qI K T) :=
  z_enter (Nat.le_of_ble_eq_true rfl) rfl (fun X => v_mDetail_0 h)
