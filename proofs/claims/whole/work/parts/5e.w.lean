/-! what the methods mean; printed by wip/whole/dec.py -/
-- 79: TokenMouth.expand(I)V
def w_tExpand_137 (n d : Nat) (a2 : Int) (D : z_D)  (K : z_D → Prop) (T : Nat → z_D → Prop) : Prop :=
  z_c n d 63 [.ref 0, .int (z_i a2)] D (z_qV (fun D1 => 
    ∀ D2, D2 = z_uz D1 0 13 ((D1.1 0 13) - 1) →
    K D2) T)
theorem v_tExpand_137 {n d : Nat} {X : z_Xt} {a2 : Int} {o1 : Option Value} {D : z_D}  {K : z_D → Prop} {T : Nat → z_D → Prop} (n1 : z_nl o1) (h : w_tExpand_137 n d a2 D K T) : z_w n d (k_tb 79) X 137 [some (.ref 0), o1, some (.int (z_i a2)), none, none, none] [] D (z_qV K T) := by
  unfold w_tExpand_137 at h
  refine zs_aload rfl rfl ?_
  refine zs_iload rfl rfl ?_
  refine z_callV (k := 0) (as0 := [.int (z_i a2)]) (r := []) rfl rfl rfl (Nat.le_of_ble_eq_true rfl) (z_oV h (fun D1 h => ?_) (fun _ _ h => h))
  refine zs_goto rfl ?_
  refine zs_aload rfl rfl ?_
  refine zs_dup rfl rfl ?_
  refine zs_getI rfl rfl ?_
  refine zs_pushI (1) rfl rfl ?_
  refine zs_sub (a := (D1.1 0 13)) (b := 1) rfl ?_
  refine zs_putI rfl rfl (fun D2 eD2 => ?_)
  have h := h D2 eD2
  exact zs_ret rfl h
def w_tExpand_185 (n d : Nat)  (D : z_D)  (K : z_D → Prop) (T : Nat → z_D → Prop) : Prop :=
  z_c n d 89 [.ref 0, .int (z_i (z_b false))] D (z_qV (fun D1 => 
    ∀ D2, D2 = z_uz D1 0 13 ((D1.1 0 13) - 1) →
    K D2) T)
theorem v_tExpand_185 {n d : Nat} {X : z_Xt}  {o1 : Option Value} {D : z_D}  {K : z_D → Prop} {T : Nat → z_D → Prop} (n1 : z_nl o1) (h : w_tExpand_185 n d D K T) : z_w n d (k_tb 79) X 185 [some (.ref 0), o1, none, none, none, none] [] D (z_qV K T) := by
  unfold w_tExpand_185 at h
  refine zs_aload rfl rfl ?_
  refine zs_pushI (0) rfl rfl ?_
  refine z_callV (k := 0) (as0 := [.int (z_i (z_b false))]) (r := []) rfl rfl rfl (Nat.le_of_ble_eq_true rfl) (z_oV h (fun D1 h => ?_) (fun _ _ h => h))
  refine zs_goto rfl ?_
  refine zs_aload rfl rfl ?_
  refine zs_dup rfl rfl ?_
  refine zs_getI rfl rfl ?_
  refine zs_pushI (1) rfl rfl ?_
  refine zs_sub (a := (D1.1 0 13)) (b := 1) rfl ?_
  refine zs_putI rfl rfl (fun D2 eD2 => ?_)
  have h := h D2 eD2
  exact zs_ret rfl h
def w_tExpand_209 (n d : Nat)  (D : z_D)  (K : z_D → Prop) (T : Nat → z_D → Prop) : Prop :=
  z_c n d 28 [.ref 19] D (z_qI (fun v2 D1 => 
    ∀ D3, D3 = z_uz D1 0 13 ((D1.1 0 13) - 1) →
    K D3) T)
theorem v_tExpand_209 {n d : Nat} {X : z_Xt}  {o1 : Option Value} {D : z_D}  {K : z_D → Prop} {T : Nat → z_D → Prop} (n1 : z_nl o1) (h : w_tExpand_209 n d D K T) : z_w n d (k_tb 79) X 209 [some (.ref 0), o1, none, none, none, none] [] D (z_qV K T) := by
  unfold w_tExpand_209 at h
  refine zs_aload rfl rfl ?_
  refine zs_getR (x := 19) rfl rfl rfl ?_
  refine z_callV (k := 19) (as0 := []) (r := []) rfl rfl rfl (Nat.le_of_ble_eq_true rfl) (z_oI h (fun v2 D1 h => ?_) (fun _ _ h => h))
  refine zs_pop rfl rfl ?_
  refine zs_goto rfl ?_
  refine zs_aload rfl rfl ?_
  refine zs_dup rfl rfl ?_
  refine zs_getI rfl rfl ?_
  refine zs_pushI (1) rfl rfl ?_
  refine zs_sub (a := (D1.1 0 13)) (b := 1) rfl ?_
  refine zs_putI rfl rfl (fun D3 eD3 => ?_)
  have h := h D3 eD3
  exact zs_ret rfl h
def w_tExpand_25 (n d : Nat) (a1 : Int) (D : z_D) (H243 : Nat → Int → Int → z_D → Prop) (K : z_D → Prop) (T : Nat → z_D → Prop) : Prop :=
  ∀ D1, D1 = z_uz D 0 12 ((D.1 0 12) + 1) →
  ∀ D2, D2 = z_uz D1 0 13 ((D1.1 0 13) + 1) →
  (z_r a1) ∧
  (a1 = 8 →
    z_c n d 83 [.ref 0] D2 (z_qV (fun D4 => 
      ∀ D5, D5 = z_uz D4 0 13 ((D4.1 0 13) - 1) →
      K D5) T)) ∧
  (a1 = 9 →
    z_c n d 84 [.ref 0] D2 (z_qV (fun D7 => 
      ∀ D8, D8 = z_uz D7 0 13 ((D7.1 0 13) - 1) →
      K D8) T)) ∧
  (a1 = 10 →
    z_c n d 85 [.ref 0] D2 (z_qI (fun v11 D10 => 
      z_c n d 55 [.ref 0, .int (z_i v11)] D10 (z_qI (fun v13 D12 => 
        (z_r v13) ∧
        ((¬ v13 = 0) →
          w_tExpand_137 n d v11 D12 K T) ∧
        ((v13 = 0) →
          z_c n d 69 [.ref 0, .int (z_i v11), .int (z_i 2)] D12 (z_qV (fun D15 => 
            w_tExpand_137 n d v11 D15 K T) T))) T)) T)) ∧
  (a1 = 11 →
    z_c n d 58 [.ref 0, .int (z_i a1)] D2 (z_qR (fun D19 => 
      ∀ D21, D21 = z_uz D19 0 13 ((D19.1 0 13) - 1) →
      K D21) (fun m20 D19 => 
      (z_mc m20) ∧
      z_c n d 80 [.ref 0, .ref (m20 + 1)] D19 (z_qI (fun v24 D23 => 
        H243 m20 v24 0 D23) T)) T)) ∧
  (a1 = 12 →
    z_c n d 86 [.ref 0] D2 (z_qV (fun D26 => 
      ∀ D27, D27 = z_uz D26 0 13 ((D26.1 0 13) - 1) →
      K D27) T)) ∧
  (a1 = 13 →
    z_c n d 88 [.ref 0, .int (z_i a1)] D2 (z_qZ (fun v30 D29 => 
      ((v30 = true) →
        ∀ D31, D31 = z_uz D29 0 13 ((D29.1 0 13) - 1) →
        K D31) ∧
      ((v30 = false) →
        z_c n d 89 [.ref 0, .int (z_i (z_b true))] D29 (z_qV (fun D32 => 
          ∀ D33, D33 = z_uz D32 0 13 ((D32.1 0 13) - 1) →
          K D33) T))) T)) ∧
  (a1 = 14 →
    z_c n d 88 [.ref 0, .int (z_i a1)] D2 (z_qZ (fun v38 D37 => 
      ((v38 = true) →
        ∀ D39, D39 = z_uz D37 0 13 ((D37.1 0 13) - 1) →
        K D39) ∧
      ((v38 = false) →
        z_c n d 89 [.ref 0, .int (z_i (z_b true))] D37 (z_qV (fun D40 => 
          ∀ D41, D41 = z_uz D40 0 13 ((D40.1 0 13) - 1) →
          K D41) T))) T)) ∧
  (a1 = 15 →
    z_c n d 88 [.ref 0, .int (z_i a1)] D2 (z_qZ (fun v46 D45 => 
      ((v46 = true) →
        ∀ D47, D47 = z_uz D45 0 13 ((D45.1 0 13) - 1) →
        K D47) ∧
      ((v46 = false) →
        z_c n d 89 [.ref 0, .int (z_i (z_b true))] D45 (z_qV (fun D48 => 
          ∀ D49, D49 = z_uz D48 0 13 ((D48.1 0 13) - 1) →
          K D49) T))) T)) ∧
  (a1 = 16 →
    z_c n d 88 [.ref 0, .int (z_i a1)] D2 (z_qZ (fun v54 D53 => 
      ((v54 = true) →
        ∀ D55, D55 = z_uz D53 0 13 ((D53.1 0 13) - 1) →
        K D55) ∧
      ((v54 = false) →
        z_c n d 89 [.ref 0, .int (z_i (z_b true))] D53 (z_qV (fun D56 => 
          ∀ D57, D57 = z_uz D56 0 13 ((D56.1 0 13) - 1) →
          K D57) T))) T)) ∧
  (a1 = 17 →
    z_c n d 26 [.ref 19] D2 (z_qI (fun v62 D61 => 
      (z_r v62) ∧
      ((v62 = 1) →
        w_tExpand_185 n d D61 K T) ∧
      ((¬ v62 = 1) →
        z_c n d 48 [.ref 0, .int (z_i 1)] D61 (z_qI (fun v65 D64 => 
          w_tExpand_185 n d D64 K T) T))) T)) ∧
  (a1 = 18 →
    z_c n d 26 [.ref 19] D2 (z_qI (fun v70 D69 => 
      (z_r v70) ∧
      ((0 < v70) →
        w_tExpand_209 n d D69 K T) ∧
      ((v70 ≤ 0) →
        z_c n d 48 [.ref 0, .int (z_i 1)] D69 (z_qI (fun v73 D72 => 
          w_tExpand_209 n d D72 K T) T))) T)) ∧
  (¬ a1 = 8 → ¬ a1 = 9 → ¬ a1 = 10 → ¬ a1 = 11 → ¬ a1 = 12 → ¬ a1 = 13 → ¬ a1 = 14 → ¬ a1 = 15 → ¬ a1 = 16 → ¬ a1 = 17 → ¬ a1 = 18 →
    z_c n d 58 [.ref 0, .int (z_i a1)] D2 (z_qR (fun D77 => 
      ∀ D79, D79 = z_uz D77 0 13 ((D77.1 0 13) - 1) →
      K D79) (fun m78 D77 => 
      (z_mc m78) ∧
      z_c n d 80 [.ref 0, .ref (m78 + 1)] D77 (z_qI (fun v82 D81 => 
        H243 m78 v82 0 D81) T)) T))
theorem v_tExpand_25 {n d : Nat} {X : z_Xt} {a1 : Int}  {D : z_D} {H243 : Nat → Int → Int → z_D → Prop} {K : z_D → Prop} {T : Nat → z_D → Prop} (hH243 : ∀ (a3 : Nat) (a4 : Int) (a5 : Int) (o1 : Option Value) (D : z_D), z_nl o1 → H243 a3 a4 a5 D → z_w n d (k_tb 79) X 243 [some (.ref 0), o1, none, some (.ref a3), some (.int (z_i a4)), some (.int (z_i a5))] [] D (z_qV K T)) (h : w_tExpand_25 n d a1 D H243 K T) : z_w n d (k_tb 79) X 25 [some (.ref 0), some (.int (z_i a1)), none, none, none, none] [] D (z_qV K T) := by
  unfold w_tExpand_25 at h
  refine zs_aload rfl rfl ?_
  refine zs_dup rfl rfl ?_
  refine zs_getI rfl rfl ?_
  refine zs_pushI (1) rfl rfl ?_
  refine zs_add (a := (D.1 0 12)) (b := 1) rfl ?_
  refine zs_putI rfl rfl (fun D1 eD1 => ?_)
  have h := h D1 eD1
  refine zs_aload rfl rfl ?_
  refine zs_dup rfl rfl ?_
  refine zs_getI rfl rfl ?_
  refine zs_pushI (1) rfl rfl ?_
  refine zs_add (a := (D1.1 0 13)) (b := 1) rfl ?_
  refine zs_putI rfl rfl (fun D2 eD2 => ?_)
  have h := h D2 eD2
  refine zs_iload rfl rfl ?_
  obtain ⟨g3, h⟩ := h
  obtain ⟨h6, h9, h18, h25, h28, h36, h44, h52, h60, h68, h76, h83⟩ := h
  refine zw_s rfl rfl ?_
  refine z_sw1 g3 (z_rk (z := 8) rfl) rfl (fun c => ?_) (fun e84 => ?_)
  · have h := h6 c
    refine zs_aload rfl rfl ?_
    refine z_callV (k := 0) (as0 := []) (r := []) rfl rfl rfl (Nat.le_of_ble_eq_true rfl) (z_oV h (fun D4 h => ?_) (fun _ _ h => h))
    refine zs_goto rfl ?_
    refine zs_aload rfl rfl ?_
    refine zs_dup rfl rfl ?_
    refine zs_getI rfl rfl ?_
    refine zs_pushI (1) rfl rfl ?_
    refine zs_sub (a := (D4.1 0 13)) (b := 1) rfl ?_
    refine zs_putI rfl rfl (fun D5 eD5 => ?_)
    have h := h D5 eD5
    exact zs_ret rfl h
  refine z_sw1 g3 (z_rk (z := 9) rfl) rfl (fun c => ?_) (fun e85 => ?_)
  · have h := h9 c
    refine zs_aload rfl rfl ?_
    refine z_callV (k := 0) (as0 := []) (r := []) rfl rfl rfl (Nat.le_of_ble_eq_true rfl) (z_oV h (fun D7 h => ?_) (fun _ _ h => h))
    refine zs_goto rfl ?_
    refine zs_aload rfl rfl ?_
    refine zs_dup rfl rfl ?_
    refine zs_getI rfl rfl ?_
    refine zs_pushI (1) rfl rfl ?_
    refine zs_sub (a := (D7.1 0 13)) (b := 1) rfl ?_
    refine zs_putI rfl rfl (fun D8 eD8 => ?_)
    have h := h D8 eD8
    exact zs_ret rfl h
  refine z_sw1 g3 (z_rk (z := 10) rfl) rfl (fun c => ?_) (fun e86 => ?_)
  · have h := h18 c
    refine zs_aload rfl rfl ?_
    refine z_callV (k := 0) (as0 := []) (r := []) rfl rfl rfl (Nat.le_of_ble_eq_true rfl) (z_oI h (fun v11 D10 h => ?_) (fun _ _ h => h))
    refine zs_istore (ls1 := [some (.ref 0), some (.int (z_i a1)), some (.int (z_i v11)), none, none, none]) rfl rfl rfl ?_
    refine zs_aload rfl rfl ?_
    refine zs_iload rfl rfl ?_
    refine z_callV (k := 0) (as0 := [.int (z_i v11)]) (r := []) rfl rfl rfl (Nat.le_of_ble_eq_true rfl) (z_oI h (fun v13 D12 h => ?_) (fun _ _ h => h))
    obtain ⟨g14, h⟩ := h
    obtain ⟨h16, h17⟩ := h
    refine zs_ifne rfl g14 (fun c => ?_) (fun c => ?_)
    · have h := h16 c
      exact v_tExpand_137 (by first | assumption | exact trivial) h
    · have h := h17 c
      refine zs_aload rfl rfl ?_
      refine zs_iload rfl rfl ?_
      refine zs_pushI (2) rfl rfl ?_
      refine z_callV (k := 0) (as0 := [.int (z_i v11), .int (z_i 2)]) (r := []) rfl rfl rfl (Nat.le_of_ble_eq_true rfl) (z_oV h (fun D15 h => ?_) (fun _ _ h => h))
      exact v_tExpand_137 (by first | assumption | exact trivial) h
  refine z_sw1 g3 (z_rk (z := 11) rfl) rfl (fun c => ?_) (fun e87 => ?_)
  · have h := h25 c
    refine zs_aload rfl rfl ?_
    refine zs_iload rfl rfl ?_
    refine z_callV (k := 0) (as0 := [.int (z_i a1)]) (r := []) rfl rfl rfl (Nat.le_of_ble_eq_true rfl) (z_oR h (fun D19 h => ?_) (fun m20 D19 h => ?_) (fun _ _ h => h))
    · refine zs_astoreN (ls1 := [some (.ref 0), some (.int (z_i a1)), none, some (.null), none, none]) rfl rfl rfl ?_
      refine zs_aloadN rfl rfl ?_
      refine zs_nullN rfl ?_
      refine zs_aload rfl rfl ?_
      refine zs_dup rfl rfl ?_
      refine zs_getI rfl rfl ?_
      refine zs_pushI (1) rfl rfl ?_
      refine zs_sub (a := (D19.1 0 13)) (b := 1) rfl ?_
      refine zs_putI rfl rfl (fun D21 eD21 => ?_)
      have h := h D21 eD21
      exact zs_ret rfl h
    · refine zs_astore (ls1 := [some (.ref 0), some (.int (z_i a1)), none, some (.ref m20), none, none]) rfl rfl rfl ?_
      refine zs_aload rfl rfl ?_
      refine zs_nullR rfl ?_
      refine zs_aload rfl rfl ?_
      refine zs_aload rfl rfl ?_
      obtain ⟨g22, h⟩ := h
      refine zs_getR rfl (z_sh_m0 g22) (z_R_mt g22) ?_
      refine z_callV (k := 0) (as0 := [.ref (m20 + 1)]) (r := []) rfl rfl rfl (Nat.le_of_ble_eq_true rfl) (z_oI h (fun v24 D23 h => ?_) (fun _ _ h => h))
      refine zs_istore (ls1 := [some (.ref 0), some (.int (z_i a1)), none, some (.ref m20), some (.int (z_i v24)), none]) rfl rfl rfl ?_
      refine zs_pushI (0) rfl rfl ?_
      refine zs_istore (ls1 := [some (.ref 0), some (.int (z_i a1)), none, some (.ref m20), some (.int (z_i v24)), some (.int (z_i 0))]) rfl rfl rfl ?_
      exact hH243 _ _ _ _ _ (by first | assumption | exact trivial) h
  refine z_sw1 g3 (z_rk (z := 12) rfl) rfl (fun c => ?_) (fun e88 => ?_)
  · have h := h28 c
    refine zs_aload rfl rfl ?_
    refine z_callV (k := 0) (as0 := []) (r := []) rfl rfl rfl (Nat.le_of_ble_eq_true rfl) (z_oV h (fun D26 h => ?_) (fun _ _ h => h))
    refine zs_goto rfl ?_
    refine zs_aload rfl rfl ?_
    refine zs_dup rfl rfl ?_
    refine zs_getI rfl rfl ?_
    refine zs_pushI (1) rfl rfl ?_
    refine zs_sub (a := (D26.1 0 13)) (b := 1) rfl ?_
    refine zs_putI rfl rfl (fun D27 eD27 => ?_)
    have h := h D27 eD27
    exact zs_ret rfl h
  refine z_sw1 g3 (z_rk (z := 13) rfl) rfl (fun c => ?_) (fun e89 => ?_)
  · have h := h36 c
    refine zs_aload rfl rfl ?_
    refine zs_iload rfl rfl ?_
    refine z_callV (k := 0) (as0 := [.int (z_i a1)]) (r := []) rfl rfl rfl (Nat.le_of_ble_eq_true rfl) (z_oZ h (fun v30 D29 h => ?_) (fun _ _ h => h))
    obtain ⟨h34, h35⟩ := h
    refine zs_bne rfl (fun c => ?_) (fun c => ?_)
    · have h := h34 c
      refine zs_aload rfl rfl ?_
      refine zs_dup rfl rfl ?_
      refine zs_getI rfl rfl ?_
      refine zs_pushI (1) rfl rfl ?_
      refine zs_sub (a := (D29.1 0 13)) (b := 1) rfl ?_
      refine zs_putI rfl rfl (fun D31 eD31 => ?_)
      have h := h D31 eD31
      exact zs_ret rfl h
    · have h := h35 c
      refine zs_aload rfl rfl ?_
      refine zs_pushI (1) rfl rfl ?_
      refine z_callV (k := 0) (as0 := [.int (z_i (z_b true))]) (r := []) rfl rfl rfl (Nat.le_of_ble_eq_true rfl) (z_oV h (fun D32 h => ?_) (fun _ _ h => h))
      refine zs_goto rfl ?_
      refine zs_aload rfl rfl ?_
      refine zs_dup rfl rfl ?_
      refine zs_getI rfl rfl ?_
      refine zs_pushI (1) rfl rfl ?_
      refine zs_sub (a := (D32.1 0 13)) (b := 1) rfl ?_
      refine zs_putI rfl rfl (fun D33 eD33 => ?_)
      have h := h D33 eD33
      exact zs_ret rfl h
  refine z_sw1 g3 (z_rk (z := 14) rfl) rfl (fun c => ?_) (fun e90 => ?_)
  · have h := h44 c
    refine zs_aload rfl rfl ?_
    refine zs_iload rfl rfl ?_
    refine z_callV (k := 0) (as0 := [.int (z_i a1)]) (r := []) rfl rfl rfl (Nat.le_of_ble_eq_true rfl) (z_oZ h (fun v38 D37 h => ?_) (fun _ _ h => h))
    obtain ⟨h42, h43⟩ := h
    refine zs_bne rfl (fun c => ?_) (fun c => ?_)
    · have h := h42 c
      refine zs_aload rfl rfl ?_
      refine zs_dup rfl rfl ?_
      refine zs_getI rfl rfl ?_
      refine zs_pushI (1) rfl rfl ?_
      refine zs_sub (a := (D37.1 0 13)) (b := 1) rfl ?_
      refine zs_putI rfl rfl (fun D39 eD39 => ?_)
      have h := h D39 eD39
      exact zs_ret rfl h
    · have h := h43 c
      refine zs_aload rfl rfl ?_
      refine zs_pushI (1) rfl rfl ?_
      refine z_callV (k := 0) (as0 := [.int (z_i (z_b true))]) (r := []) rfl rfl rfl (Nat.le_of_ble_eq_true rfl) (z_oV h (fun D40 h => ?_) (fun _ _ h => h))
      refine zs_goto rfl ?_
      refine zs_aload rfl rfl ?_
      refine zs_dup rfl rfl ?_
      refine zs_getI rfl rfl ?_
      refine zs_pushI (1) rfl rfl ?_
      refine zs_sub (a := (D40.1 0 13)) (b := 1) rfl ?_
      refine zs_putI rfl rfl (fun D41 eD41 => ?_)
      have h := h D41 eD41
      exact zs_ret rfl h
  refine z_sw1 g3 (z_rk (z := 15) rfl) rfl (fun c => ?_) (fun e91 => ?_)
  · have h := h52 c
    refine zs_aload rfl rfl ?_
    refine zs_iload rfl rfl ?_
    refine z_callV (k := 0) (as0 := [.int (z_i a1)]) (r := []) rfl rfl rfl (Nat.le_of_ble_eq_true rfl) (z_oZ h (fun v46 D45 h => ?_) (fun _ _ h => h))
    obtain ⟨h50, h51⟩ := h
    refine zs_bne rfl (fun c => ?_) (fun c => ?_)
    · have h := h50 c
      refine zs_aload rfl rfl ?_
      refine zs_dup rfl rfl ?_
      refine zs_getI rfl rfl ?_
      refine zs_pushI (1) rfl rfl ?_
      refine zs_sub (a := (D45.1 0 13)) (b := 1) rfl ?_
      refine zs_putI rfl rfl (fun D47 eD47 => ?_)
      have h := h D47 eD47
      exact zs_ret rfl h
    · have h := h51 c
      refine zs_aload rfl rfl ?_
      refine zs_pushI (1) rfl rfl ?_
      refine z_callV (k := 0) (as0 := [.int (z_i (z_b true))]) (r := []) rfl rfl rfl (Nat.le_of_ble_eq_true rfl) (z_oV h (fun D48 h => ?_) (fun _ _ h => h))
      refine zs_goto rfl ?_
      refine zs_aload rfl rfl ?_
      refine zs_dup rfl rfl ?_
      refine zs_getI rfl rfl ?_
      refine zs_pushI (1) rfl rfl ?_
      refine zs_sub (a := (D48.1 0 13)) (b := 1) rfl ?_
      refine zs_putI rfl rfl (fun D49 eD49 => ?_)
      have h := h D49 eD49
      exact zs_ret rfl h
  refine z_sw1 g3 (z_rk (z := 16) rfl) rfl (fun c => ?_) (fun e92 => ?_)
  · have h := h60 c
    refine zs_aload rfl rfl ?_
    refine zs_iload rfl rfl ?_
    refine z_callV (k := 0) (as0 := [.int (z_i a1)]) (r := []) rfl rfl rfl (Nat.le_of_ble_eq_true rfl) (z_oZ h (fun v54 D53 h => ?_) (fun _ _ h => h))
    obtain ⟨h58, h59⟩ := h
    refine zs_bne rfl (fun c => ?_) (fun c => ?_)
    · have h := h58 c
      refine zs_aload rfl rfl ?_
      refine zs_dup rfl rfl ?_
      refine zs_getI rfl rfl ?_
      refine zs_pushI (1) rfl rfl ?_
      refine zs_sub (a := (D53.1 0 13)) (b := 1) rfl ?_
      refine zs_putI rfl rfl (fun D55 eD55 => ?_)
      have h := h D55 eD55
      exact zs_ret rfl h
    · have h := h59 c
      refine zs_aload rfl rfl ?_
      refine zs_pushI (1) rfl rfl ?_
      refine z_callV (k := 0) (as0 := [.int (z_i (z_b true))]) (r := []) rfl rfl rfl (Nat.le_of_ble_eq_true rfl) (z_oV h (fun D56 h => ?_) (fun _ _ h => h))
      refine zs_goto rfl ?_
      refine zs_aload rfl rfl ?_
      refine zs_dup rfl rfl ?_
      refine zs_getI rfl rfl ?_
      refine zs_pushI (1) rfl rfl ?_
      refine zs_sub (a := (D56.1 0 13)) (b := 1) rfl ?_
      refine zs_putI rfl rfl (fun D57 eD57 => ?_)
      have h := h D57 eD57
      exact zs_ret rfl h
  refine z_sw1 g3 (z_rk (z := 17) rfl) rfl (fun c => ?_) (fun e93 => ?_)
  · have h := h68 c
    refine zs_aload rfl rfl ?_
    refine zs_getR (x := 19) rfl rfl rfl ?_
    refine z_callV (k := 19) (as0 := []) (r := []) rfl rfl rfl (Nat.le_of_ble_eq_true rfl) (z_oI h (fun v62 D61 h => ?_) (fun _ _ h => h))
    refine zs_pushI (1) rfl rfl ?_
    obtain ⟨g63, h⟩ := h
    obtain ⟨h66, h67⟩ := h
    refine zs_ceq rfl g63 (z_rk rfl) (fun c => ?_) (fun c => ?_)
    · have h := h66 c
      exact v_tExpand_185 (by first | assumption | exact trivial) h
    · have h := h67 c
      refine zs_aload rfl rfl ?_
      refine zs_pushI (1) rfl rfl ?_
      refine z_callV (k := 0) (as0 := [.int (z_i 1)]) (r := []) rfl rfl rfl (Nat.le_of_ble_eq_true rfl) (z_oI h (fun v65 D64 h => ?_) (fun _ _ h => h))
      refine zs_pop rfl rfl ?_
      exact v_tExpand_185 (by first | assumption | exact trivial) h
  refine z_sw1 g3 (z_rk (z := 18) rfl) rfl (fun c => ?_) (fun e94 => ?_)
  · have h := h76 c
    refine zs_aload rfl rfl ?_
    refine zs_getR (x := 19) rfl rfl rfl ?_
    refine z_callV (k := 19) (as0 := []) (r := []) rfl rfl rfl (Nat.le_of_ble_eq_true rfl) (z_oI h (fun v70 D69 h => ?_) (fun _ _ h => h))
    obtain ⟨g71, h⟩ := h
    obtain ⟨h74, h75⟩ := h
    refine zs_ifgt rfl g71 (fun c => ?_) (fun c => ?_)
    · have h := h74 c
      exact v_tExpand_209 (by first | assumption | exact trivial) h
    · have h := h75 c
      refine zs_aload rfl rfl ?_
      refine zs_pushI (1) rfl rfl ?_
      refine z_callV (k := 0) (as0 := [.int (z_i 1)]) (r := []) rfl rfl rfl (Nat.le_of_ble_eq_true rfl) (z_oI h (fun v73 D72 h => ?_) (fun _ _ h => h))
      refine zs_pop rfl rfl ?_
      exact v_tExpand_209 (by first | assumption | exact trivial) h
  refine z_sw0 ?_
  have h := h83 e84 e85 e86 e87 e88 e89 e90 e91 e92 e93 e94
  refine zs_aload rfl rfl ?_
  refine zs_iload rfl rfl ?_
  refine z_callV (k := 0) (as0 := [.int (z_i a1)]) (r := []) rfl rfl rfl (Nat.le_of_ble_eq_true rfl) (z_oR h (fun D77 h => ?_) (fun m78 D77 h => ?_) (fun _ _ h => h))
  · refine zs_astoreN (ls1 := [some (.ref 0), some (.int (z_i a1)), none, some (.null), none, none]) rfl rfl rfl ?_
    refine zs_aloadN rfl rfl ?_
    refine zs_nullN rfl ?_
    refine zs_aload rfl rfl ?_
    refine zs_dup rfl rfl ?_
    refine zs_getI rfl rfl ?_
    refine zs_pushI (1) rfl rfl ?_
    refine zs_sub (a := (D77.1 0 13)) (b := 1) rfl ?_
    refine zs_putI rfl rfl (fun D79 eD79 => ?_)
    have h := h D79 eD79
    exact zs_ret rfl h
  · refine zs_astore (ls1 := [some (.ref 0), some (.int (z_i a1)), none, some (.ref m78), none, none]) rfl rfl rfl ?_
    refine zs_aload rfl rfl ?_
    refine zs_nullR rfl ?_
    refine zs_aload rfl rfl ?_
    refine zs_aload rfl rfl ?_
    obtain ⟨g80, h⟩ := h
    refine zs_getR rfl (z_sh_m0 g80) (z_R_mt g80) ?_
    refine z_callV (k := 0) (as0 := [.ref (m78 + 1)]) (r := []) rfl rfl rfl (Nat.le_of_ble_eq_true rfl) (z_oI h (fun v82 D81 h => ?_) (fun _ _ h => h))
    refine zs_istore (ls1 := [some (.ref 0), some (.int (z_i a1)), none, some (.ref m78), some (.int (z_i v82)), none]) rfl rfl rfl ?_
    refine zs_pushI (0) rfl rfl ?_
    refine zs_istore (ls1 := [some (.ref 0), some (.int (z_i a1)), none, some (.ref m78), some (.int (z_i v82)), some (.int (z_i 0))]) rfl rfl rfl ?_
    exact hH243 _ _ _ _ _ (by first | assumption | exact trivial) h
def w_tExpand_19 (n d : Nat) (a1 : Int) (D : z_D) (H243 : Nat → Int → Int → z_D → Prop) (K : z_D → Prop) (T : Nat → z_D → Prop) : Prop :=
  z_c n d 48 [.ref 0, .int (z_i 5)] D (z_qI (fun v2 D1 => 
    w_tExpand_25 n d a1 D1 H243 K T) T)
theorem v_tExpand_19 {n d : Nat} {X : z_Xt} {a1 : Int}  {D : z_D} {H243 : Nat → Int → Int → z_D → Prop} {K : z_D → Prop} {T : Nat → z_D → Prop} (hH243 : ∀ (a3 : Nat) (a4 : Int) (a5 : Int) (o1 : Option Value) (D : z_D), z_nl o1 → H243 a3 a4 a5 D → z_w n d (k_tb 79) X 243 [some (.ref 0), o1, none, some (.ref a3), some (.int (z_i a4)), some (.int (z_i a5))] [] D (z_qV K T)) (h : w_tExpand_19 n d a1 D H243 K T) : z_w n d (k_tb 79) X 19 [some (.ref 0), some (.int (z_i a1)), none, none, none, none] [] D (z_qV K T) := by
  unfold w_tExpand_19 at h
  refine zs_aload rfl rfl ?_
  refine zs_pushI (5) rfl rfl ?_
  refine z_callV (k := 0) (as0 := [.int (z_i 5)]) (r := []) rfl rfl rfl (Nat.le_of_ble_eq_true rfl) (z_oI h (fun v2 D1 h => ?_) (fun _ _ h => h))
  refine zs_pop rfl rfl ?_
  exact v_tExpand_25 hH243 h
def w_tExpand_0 (n d : Nat) (a1 : Int) (D : z_D) (H243 : Nat → Int → Int → z_D → Prop) (K : z_D → Prop) (T : Nat → z_D → Prop) : Prop :=
  (z_r (D.1 0 12)) ∧
  ((200 ≤ (D.1 0 12)) →
    w_tExpand_19 n d a1 D H243 K T) ∧
  (((D.1 0 12) < 200) →
    (z_r (D.1 0 13)) ∧
    (((D.1 0 13) < 30) →
      w_tExpand_25 n d a1 D H243 K T) ∧
    ((30 ≤ (D.1 0 13)) →
      w_tExpand_19 n d a1 D H243 K T))
theorem v_tExpand_0 {n d : Nat} {X : z_Xt} {a1 : Int}  {D : z_D} {H243 : Nat → Int → Int → z_D → Prop} {K : z_D → Prop} {T : Nat → z_D → Prop} (hH243 : ∀ (a3 : Nat) (a4 : Int) (a5 : Int) (o1 : Option Value) (D : z_D), z_nl o1 → H243 a3 a4 a5 D → z_w n d (k_tb 79) X 243 [some (.ref 0), o1, none, some (.ref a3), some (.int (z_i a4)), some (.int (z_i a5))] [] D (z_qV K T)) (h : w_tExpand_0 n d a1 D H243 K T) : z_w n d (k_tb 79) X 0 [some (.ref 0), some (.int (z_i a1)), none, none, none, none] [] D (z_qV K T) := by
  unfold w_tExpand_0 at h
  refine zs_aload rfl rfl ?_
  refine zs_getI rfl rfl ?_
  refine zs_pushI (200) rfl rfl ?_
  obtain ⟨g1, h⟩ := h
  obtain ⟨h5, h6⟩ := h
  refine zs_cge rfl g1 (z_rk rfl) (fun c => ?_) (fun c => ?_)
  · have h := h5 c
    exact v_tExpand_19 hH243 h
  · have h := h6 c
    refine zs_aload rfl rfl ?_
    refine zs_getI rfl rfl ?_
    refine zs_pushI (30) rfl rfl ?_
    obtain ⟨g2, h⟩ := h
    obtain ⟨h3, h4⟩ := h
    refine zs_clt rfl g2 (z_rk rfl) (fun c => ?_) (fun c => ?_)
    · have h := h3 c
      exact v_tExpand_25 hH243 h
    · have h := h4 c
      exact v_tExpand_19 hH243 h
def w_tExpand_287 (n d : Nat) (a3 : Nat) (D : z_D)  (K : z_D → Prop) (T : Nat → z_D → Prop) : Prop :=
  (z_mc a3) ∧
  z_c n d 82 [.ref 0, .ref (a3 + 3)] D (z_qV (fun D2 => 
    ∀ D3, D3 = z_uz D2 0 13 ((D2.1 0 13) - 1) →
    K D3) T)
theorem v_tExpand_287 {n d : Nat} {X : z_Xt} {a3 : Nat} {o1 : Option Value} {o4 : Option Value} {o5 : Option Value} {D : z_D}  {K : z_D → Prop} {T : Nat → z_D → Prop} (n1 : z_nl o1) (n4 : z_nl o4) (n5 : z_nl o5) (h : w_tExpand_287 n d a3 D K T) : z_w n d (k_tb 79) X 287 [some (.ref 0), o1, none, some (.ref a3), o4, o5] [] D (z_qV K T) := by
  unfold w_tExpand_287 at h
  refine zs_aload rfl rfl ?_
  refine zs_aload rfl rfl ?_
  obtain ⟨g1, h⟩ := h
  refine zs_getR rfl (z_sh_m0 g1) (z_R_mb g1) ?_
  refine z_callV (k := 0) (as0 := [.ref (a3 + 3)]) (r := []) rfl rfl rfl (Nat.le_of_ble_eq_true rfl) (z_oV h (fun D2 h => ?_) (fun _ _ h => h))
  refine zs_aload rfl rfl ?_
  refine zs_dup rfl rfl ?_
  refine zs_getI rfl rfl ?_
  refine zs_pushI (1) rfl rfl ?_
  refine zs_sub (a := (D2.1 0 13)) (b := 1) rfl ?_
  refine zs_putI rfl rfl (fun D3 eD3 => ?_)
  have h := h D3 eD3
  exact zs_ret rfl h
def w_tExpand_243 (n d : Nat) (a3 : Nat) (a4 : Int) (a5 : Int) (D : z_D) (H243 : Nat → Int → Int → z_D → Prop) (K : z_D → Prop) (T : Nat → z_D → Prop) : Prop :=
  (z_mc a3) ∧
  (z_r a5) ∧ (z_r (D.1 a3 2)) ∧
  (((D.1 a3 2) ≤ a5) →
    w_tExpand_287 n d a3 D K T) ∧
  ((a5 < (D.1 a3 2)) →
    ((4 ≤ a5) →
      w_tExpand_287 n d a3 D K T) ∧
    ((a5 < 4) →
      (0 ≤ a5 ∧ a5 < 4) ∧
      z_c n d 81 [.ref 0, .ref (a3 + 1), .int (z_i a4), .ref (22 + 2 * (Int.toNat a5))] D (z_qI (fun v6 D5 => 
        H243 a3 v6 (a5 + 1) D5) T)))
theorem v_tExpand_243 {n d : Nat} {X : z_Xt} {a3 : Nat} {a4 : Int} {a5 : Int} {o1 : Option Value} {D : z_D} {H243 : Nat → Int → Int → z_D → Prop} {K : z_D → Prop} {T : Nat → z_D → Prop} (hH243 : ∀ (a3 : Nat) (a4 : Int) (a5 : Int) (o1 : Option Value) (D : z_D), z_nl o1 → H243 a3 a4 a5 D → z_w n d (k_tb 79) X 243 [some (.ref 0), o1, none, some (.ref a3), some (.int (z_i a4)), some (.int (z_i a5))] [] D (z_qV K T)) (n1 : z_nl o1) (h : w_tExpand_243 n d a3 a4 a5 D H243 K T) : z_w n d (k_tb 79) X 243 [some (.ref 0), o1, none, some (.ref a3), some (.int (z_i a4)), some (.int (z_i a5))] [] D (z_qV K T) := by
  unfold w_tExpand_243 at h
  refine zs_iload rfl rfl ?_
  refine zs_aload rfl rfl ?_
  obtain ⟨g1, h⟩ := h
  refine zs_getI rfl (z_sh_m0 g1) ?_
  obtain ⟨g2, g3, h⟩ := h
  obtain ⟨h9, h10⟩ := h
  refine zs_cge rfl g2 g3 (fun c => ?_) (fun c => ?_)
  · have h := h9 c
    exact v_tExpand_287 (by first | assumption | exact trivial) (by first | assumption | exact trivial) (by first | assumption | exact trivial) h
  · have h := h10 c
    refine zs_iload rfl rfl ?_
    refine zs_aload rfl rfl ?_
    refine zs_getR (x := 21) rfl rfl rfl ?_
    refine zs_alenZ (4) rfl rfl rfl (by decide) ?_
    obtain ⟨h7, h8⟩ := h
    refine zs_cge rfl g2 (z_rk rfl) (fun c => ?_) (fun c => ?_)
    · have h := h7 c
      exact v_tExpand_287 (by first | assumption | exact trivial) (by first | assumption | exact trivial) (by first | assumption | exact trivial) h
    · have h := h8 c
      refine zs_aload rfl rfl ?_
      refine zs_aload rfl rfl ?_
      refine zs_getR rfl (z_sh_m0 g1) (z_R_mt g1) ?_
      refine zs_iload rfl rfl ?_
      refine zs_aload rfl rfl ?_
      refine zs_getR (x := 21) rfl rfl rfl ?_
      refine zs_iload rfl rfl ?_
      obtain ⟨g4, h⟩ := h
      refine zs_aald rfl rfl (by decide) g4 (z_R_a g4.1 g4.2) ?_
      refine z_callV (k := 0) (as0 := [.ref (a3 + 1), .int (z_i a4), .ref (22 + 2 * (Int.toNat a5))]) (r := []) rfl rfl rfl (Nat.le_of_ble_eq_true rfl) (z_oI h (fun v6 D5 h => ?_) (fun _ _ h => h))
      refine zs_istore (ls1 := [some (.ref 0), o1, none, some (.ref a3), some (.int (z_i v6)), some (.int (z_i a5))]) rfl rfl rfl ?_
      refine zs_iinc (a := a5) (1) (ls1 := [some (.ref 0), o1, none, some (.ref a3), some (.int (z_i v6)), some (.int (z_i (a5 + 1)))]) rfl rfl rfl rfl ?_
      refine zs_goto rfl ?_
      exact hH243 _ _ _ _ _ (by first | assumption | exact trivial) h
theorem r_tExpand {n d : Nat} {a1 : Int} {D : z_D} {K : z_D → Prop} {T : Nat → z_D → Prop}  (I243 : Nat → Nat → Int → Int → z_D → Prop) (hE : w_tExpand_0 n d a1 D (fun a3 a4 a5 D => ∃ m, I243 m a3 a4 a5 D) K T) (h243 : ∀ (mm : Nat) (a3 : Nat) (a4 : Int) (a5 : Int) (D : z_D), I243 mm a3 a4 a5 D → w_tExpand_243 n d a3 a4 a5 D (fun a3 a4 a5 D => ∃ m, m < mm ∧ I243 m a3 a4 a5 D) K T) : z_c n (d + 1) 79 [.ref 0, .int (z_i a1)] D (z_qV K T) := by
  refine z_enter (Nat.le_of_ble_eq_true rfl) rfl (fun X => ?_)
  have key : ∀ m, (∀ (a3 : Nat) (a4 : Int) (a5 : Int) (o1 : Option Value) (D : z_D), z_nl o1 → I243 m a3 a4 a5 D → z_w n d (k_tb 79) X 243 [some (.ref 0), o1, none, some (.ref a3), some (.int (z_i a4)), some (.int (z_i a5))] [] D (z_qV K T)) := by
    intro m
    induction m using Nat.strongRecOn with
    | _ mm ih =>
      exact fun a3 a4 a5 o1 D n1 hI => v_tExpand_243 (fun a3 a4 a5 o1 D n1 ⟨m, hm, hI⟩ => (ih m hm) _ _ _ _ _ n1 hI) n1 (h243 mm a3 a4 a5 D hI)
  exact v_tExpand_0 (fun a3 a4 a5 o1 D n1 ⟨m, hI⟩ => (key m) _ _ _ _ _ n1 hI) hE
-- 80: TokenMouth.matchStart(LTokenMouth$Row;)I
def w_tMatchStart_0 (n d : Nat) (r1 : Nat) (D : z_D) (H8 : Int → Int → z_D → Prop) (K : Int → z_D → Prop) (T : Nat → z_D → Prop) : Prop :=
  (z_sh n r1 = some (.inl 4)) ∧
  z_c n d 34 [.ref r1, .int (z_i 0)] D (z_qI (fun v3 D2 => 
    H8 v3 0 D2) T)
theorem v_tMatchStart_0 {n d : Nat} {X : z_Xt} {r1 : Nat}  {D : z_D} {H8 : Int → Int → z_D → Prop} {K : Int → z_D → Prop} {T : Nat → z_D → Prop} (hH8 : ∀ (a2 : Int) (a3 : Int) (D : z_D), H8 a2 a3 D → z_w n d (k_tb 80) X 8 [some (.ref 0), some (.ref r1), some (.int (z_i a2)), some (.int (z_i a3))] [] D (z_qI K T)) (h : w_tMatchStart_0 n d r1 D H8 K T) : z_w n d (k_tb 80) X 0 [some (.ref 0), some (.ref r1), none, none] [] D (z_qI K T) := by
  unfold w_tMatchStart_0 at h
  refine zs_aload rfl rfl ?_
  refine zs_pushI (0) rfl rfl ?_
  obtain ⟨g1, h⟩ := h
  refine z_callV (k := r1) (as0 := [.int (z_i 0)]) (r := []) rfl rfl g1 (Nat.le_of_ble_eq_true rfl) (z_oI h (fun v3 D2 h => ?_) (fun _ _ h => h))
  refine zs_istore (ls1 := [some (.ref 0), some (.ref r1), some (.int (z_i v3)), none]) rfl rfl rfl ?_
  refine zs_pushI (0) rfl rfl ?_
  refine zs_istore (ls1 := [some (.ref 0), some (.ref r1), some (.int (z_i v3)), some (.int (z_i 0))]) rfl rfl rfl ?_
  exact hH8 _ _  _  h
def w_tMatchStart_8 (n d : Nat) (r1 : Nat) (a2 : Int) (a3 : Int) (D : z_D) (H8 : Int → Int → z_D → Prop) (K : Int → z_D → Prop) (T : Nat → z_D → Prop) : Prop :=
  (z_r a3) ∧ (z_r a2) ∧
  ((a2 ≤ a3) →
    K a2 D) ∧
  ((a3 < a2) →
    z_c n d 61 [.ref 0, .int (z_i (z_b true))] D (z_qI (fun v4 D3 => 
      z_c n d 52 [.int (z_i v4)] D3 (z_qI (fun v6 D5 => 
        (z_sh n r1 = some (.inl 4)) ∧
        z_c n d 25 [.ref r1, .int (z_i a3)] D5 (z_qI (fun v9 D8 => 
          (z_r v6) ∧ (z_r v9) ∧
          ((v6 = v9) →
            H8 a2 (a3 + 1) D8) ∧
          ((¬ v6 = v9) →
            z_c n d 48 [.ref 0, .int (z_i 6)] D8 (z_qI (fun v13 D12 => 
              H8 a2 (a3 + 1) D12) T))) T)) T)) T))
theorem v_tMatchStart_8 {n d : Nat} {X : z_Xt} {r1 : Nat} {a2 : Int} {a3 : Int}  {D : z_D} {H8 : Int → Int → z_D → Prop} {K : Int → z_D → Prop} {T : Nat → z_D → Prop} (hH8 : ∀ (a2 : Int) (a3 : Int) (D : z_D), H8 a2 a3 D → z_w n d (k_tb 80) X 8 [some (.ref 0), some (.ref r1), some (.int (z_i a2)), some (.int (z_i a3))] [] D (z_qI K T)) (h : w_tMatchStart_8 n d r1 a2 a3 D H8 K T) : z_w n d (k_tb 80) X 8 [some (.ref 0), some (.ref r1), some (.int (z_i a2)), some (.int (z_i a3))] [] D (z_qI K T) := by
  unfold w_tMatchStart_8 at h
  refine zs_iload rfl rfl ?_
  refine zs_iload rfl rfl ?_
  obtain ⟨g1, g2, h⟩ := h
  obtain ⟨h16, h17⟩ := h
  refine zs_cge rfl g1 g2 (fun c => ?_) (fun c => ?_)
  · have h := h16 c
    refine zs_iload rfl rfl ?_
    exact zs_iret rfl h
  · have h := h17 c
    refine zs_aload rfl rfl ?_
    refine zs_pushI (1) rfl rfl ?_
    refine z_callV (k := 0) (as0 := [.int (z_i (z_b true))]) (r := []) rfl rfl rfl (Nat.le_of_ble_eq_true rfl) (z_oI h (fun v4 D3 h => ?_) (fun _ _ h => h))
    refine z_callS (as0 := [.int (z_i v4)]) (r := []) rfl rfl (Nat.le_of_ble_eq_true rfl) (z_oI h (fun v6 D5 h => ?_) (fun _ _ h => h))
    refine zs_aload rfl rfl ?_
    refine zs_iload rfl rfl ?_
    obtain ⟨g7, h⟩ := h
    refine z_callV (k := r1) (as0 := [.int (z_i a3)]) (r := [.int (z_i v6)]) rfl rfl g7 (Nat.le_of_ble_eq_true rfl) (z_oI h (fun v9 D8 h => ?_) (fun _ _ h => h))
    obtain ⟨g10, g11, h⟩ := h
    obtain ⟨h14, h15⟩ := h
    refine zs_ceq rfl g10 g11 (fun c => ?_) (fun c => ?_)
    · have h := h14 c
      refine zs_iinc (a := a3) (1) (ls1 := [some (.ref 0), some (.ref r1), some (.int (z_i a2)), some (.int (z_i (a3 + 1)))]) rfl rfl rfl rfl ?_
      refine zs_goto rfl ?_
      exact hH8 _ _  _  h
    · have h := h15 c
      refine zs_aload rfl rfl ?_
      refine zs_pushI (6) rfl rfl ?_
      refine z_callV (k := 0) (as0 := [.int (z_i 6)]) (r := []) rfl rfl rfl (Nat.le_of_ble_eq_true rfl) (z_oI h (fun v13 D12 h => ?_) (fun _ _ h => h))
      refine zs_pop rfl rfl ?_
      refine zs_iinc (a := a3) (1) (ls1 := [some (.ref 0), some (.ref r1), some (.int (z_i a2)), some (.int (z_i (a3 + 1)))]) rfl rfl rfl rfl ?_
      refine zs_goto rfl ?_
      exact hH8 _ _  _  h
theorem r_tMatchStart {n d : Nat} {r1 : Nat} {D : z_D} {K : Int → z_D → Prop} {T : Nat → z_D → Prop}  (I8 : Nat → Int → Int → z_D → Prop) (hE : w_tMatchStart_0 n d r1 D (fun a2 a3 D => ∃ m, I8 m a2 a3 D) K T) (h8 : ∀ (mm : Nat) (a2 : Int) (a3 : Int) (D : z_D), I8 mm a2 a3 D → w_tMatchStart_8 n d r1 a2 a3 D (fun a2 a3 D => ∃ m, m < mm ∧ I8 m a2 a3 D) K T) : z_c n (d + 1) 80 [.ref 0, .ref r1] D (z_qI K T) := by
  refine z_enter (Nat.le_of_ble_eq_true rfl) rfl (fun X => ?_)
  have key : ∀ m, (∀ (a2 : Int) (a3 : Int) (D : z_D), I8 m a2 a3 D → z_w n d (k_tb 80) X 8 [some (.ref 0), some (.ref r1), some (.int (z_i a2)), some (.int (z_i a3))] [] D (z_qI K T)) := by
    intro m
    induction m using Nat.strongRecOn with
    | _ mm ih =>
      exact fun a2 a3 D hI => v_tMatchStart_8 (fun a2 a3 D ⟨m, hm, hI⟩ => (ih m hm) _ _ _  hI) (h8 mm a2 a3 D hI)
  exact v_tMatchStart_0 (fun a2 a3 D ⟨m, hI⟩ => (key m) _ _ _  hI) hE
-- 81: TokenMouth.takeArgument(LTokenMouth$Row;ILTokenMouth$Row;)I
def w_tTakeArgument_0 (n d : Nat) (r1 r3 : Nat) (a2 : Int) (D : z_D) (H41 : Int → Int → Bool → Int → Int → z_D → Prop) (K : Int → z_D → Prop) (T : Nat → z_D → Prop) : Prop :=
  (z_sh n r1 = some (.inl 4)) ∧
  z_c n d 34 [.ref r1, .int (z_i (a2 + 1))] D (z_qI (fun v3 D2 => 
    z_c n d 32 [.ref r1, .int (z_i 4096), .int (z_i (a2 + 1)), .int (z_i v3)] D2 (z_qZ (fun v5 D4 => 
      (z_sh n r3 = some (.inl 4)) ∧
      z_c n d 30 [.ref r3, .int (z_i 0)] D4 (z_qV (fun D7 => 
        z_c n d 61 [.ref 0, .int (z_i (z_b true))] D7 (z_qI (fun v9 D8 => 
          H41 (a2 + 1) v3 v5 v9 0 D8) T)) T)) T)) T)
theorem v_tTakeArgument_0 {n d : Nat} {X : z_Xt} {r1 r3 : Nat} {a2 : Int}  {D : z_D} {H41 : Int → Int → Bool → Int → Int → z_D → Prop} {K : Int → z_D → Prop} {T : Nat → z_D → Prop} (hH41 : ∀ (a4 : Int) (a5 : Int) (b6 : Bool) (a7 : Int) (a8 : Int) (o2 : Option Value) (D : z_D), z_nl o2 → H41 a4 a5 b6 a7 a8 D → z_w n d (k_tb 81) X 41 [some (.ref 0), some (.ref r1), o2, some (.ref r3), some (.int (z_i a4)), some (.int (z_i a5)), some (.int (z_i (z_b b6))), some (.int (z_i a7)), some (.int (z_i a8)), none] [] D (z_qI K T)) (h : w_tTakeArgument_0 n d r1 r3 a2 D H41 K T) : z_w n d (k_tb 81) X 0 [some (.ref 0), some (.ref r1), some (.int (z_i a2)), some (.ref r3), none, none, none, none, none, none] [] D (z_qI K T) := by
  unfold w_tTakeArgument_0 at h
  refine zs_iload rfl rfl ?_
  refine zs_pushI (1) rfl rfl ?_
  refine zs_add (a := a2) (b := 1) rfl ?_
  refine zs_istore (ls1 := [some (.ref 0), some (.ref r1), some (.int (z_i a2)), some (.ref r3), some (.int (z_i (a2 + 1))), none, none, none, none, none]) rfl rfl rfl ?_
  refine zs_aload rfl rfl ?_
  refine zs_iload rfl rfl ?_
  obtain ⟨g1, h⟩ := h
  refine z_callV (k := r1) (as0 := [.int (z_i (a2 + 1))]) (r := []) rfl rfl g1 (Nat.le_of_ble_eq_true rfl) (z_oI h (fun v3 D2 h => ?_) (fun _ _ h => h))
  refine zs_istore (ls1 := [some (.ref 0), some (.ref r1), some (.int (z_i a2)), some (.ref r3), some (.int (z_i (a2 + 1))), some (.int (z_i v3)), none, none, none, none]) rfl rfl rfl ?_
  refine zs_aload rfl rfl ?_
  refine zs_pushI (4096) rfl rfl ?_
  refine zs_iload rfl rfl ?_
  refine zs_iload rfl rfl ?_
  refine z_callV (k := r1) (as0 := [.int (z_i 4096), .int (z_i (a2 + 1)), .int (z_i v3)]) (r := []) rfl rfl g1 (Nat.le_of_ble_eq_true rfl) (z_oZ h (fun v5 D4 h => ?_) (fun _ _ h => h))
  refine zs_istore (ls1 := [some (.ref 0), some (.ref r1), some (.int (z_i a2)), some (.ref r3), some (.int (z_i (a2 + 1))), some (.int (z_i v3)), some (.int (z_i (z_b v5))), none, none, none]) rfl rfl rfl ?_
  refine zs_aload rfl rfl ?_
  refine zs_pushI (0) rfl rfl ?_
  obtain ⟨g6, h⟩ := h
  refine z_callV (k := r3) (as0 := [.int (z_i 0)]) (r := []) rfl rfl g6 (Nat.le_of_ble_eq_true rfl) (z_oV h (fun D7 h => ?_) (fun _ _ h => h))
  refine zs_aload rfl rfl ?_
  refine zs_pushI (1) rfl rfl ?_
  refine z_callV (k := 0) (as0 := [.int (z_i (z_b true))]) (r := []) rfl rfl rfl (Nat.le_of_ble_eq_true rfl) (z_oI h (fun v9 D8 h => ?_) (fun _ _ h => h))
  refine zs_istore (ls1 := [some (.ref 0), some (.ref r1), some (.int (z_i a2)), some (.ref r3), some (.int (z_i (a2 + 1))), some (.int (z_i v3)), some (.int (z_i (z_b v5))), some (.int (z_i v9)), none, none]) rfl rfl rfl ?_
  refine zs_pushI (0) rfl rfl ?_
  refine zs_istore (ls1 := [some (.ref 0), some (.ref r1), some (.int (z_i a2)), some (.ref r3), some (.int (z_i (a2 + 1))), some (.int (z_i v3)), some (.int (z_i (z_b v5))), some (.int (z_i v9)), some (.int (z_i 0)), none]) rfl rfl rfl ?_
  exact hH41 _ _ _ _ _ _ _ (by first | assumption | exact trivial) h
def w_tTakeArgument_183 (n d : Nat) (r1 r3 : Nat) (a4 : Int) (a5 : Int) (b6 : Bool) (a8 : Int) (a9 : Int) (D : z_D) (H83 : Int → Int → Bool → Int → Int → Int → z_D → Prop) (K : Int → z_D → Prop) (T : Nat → z_D → Prop) : Prop :=
  z_c n d 61 [.ref 0, .int (z_i (z_b true))] D (z_qI (fun v2 D1 => 
    H83 a4 a5 b6 v2 a8 (a9 + 1) D1) T)
theorem v_tTakeArgument_183 {n d : Nat} {X : z_Xt} {r1 r3 : Nat} {a4 : Int} {a5 : Int} {b6 : Bool} {a8 : Int} {a9 : Int} {o2 : Option Value} {o7 : Option Value} {D : z_D} {H83 : Int → Int → Bool → Int → Int → Int → z_D → Prop} {K : Int → z_D → Prop} {T : Nat → z_D → Prop} (hH83 : ∀ (a4 : Int) (a5 : Int) (b6 : Bool) (a7 : Int) (a8 : Int) (a9 : Int) (o2 : Option Value) (D : z_D), z_nl o2 → H83 a4 a5 b6 a7 a8 a9 D → z_w n d (k_tb 81) X 83 [some (.ref 0), some (.ref r1), o2, some (.ref r3), some (.int (z_i a4)), some (.int (z_i a5)), some (.int (z_i (z_b b6))), some (.int (z_i a7)), some (.int (z_i a8)), some (.int (z_i a9))] [] D (z_qI K T)) (n2 : z_nl o2) (n7 : z_nl o7) (h : w_tTakeArgument_183 n d r1 r3 a4 a5 b6 a8 a9 D H83 K T) : z_w n d (k_tb 81) X 183 [some (.ref 0), some (.ref r1), o2, some (.ref r3), some (.int (z_i a4)), some (.int (z_i a5)), some (.int (z_i (z_b b6))), o7, some (.int (z_i a8)), some (.int (z_i a9))] [] D (z_qI K T) := by
  unfold w_tTakeArgument_183 at h
  refine zs_aload rfl rfl ?_
  refine zs_pushI (1) rfl rfl ?_
  refine z_callV (k := 0) (as0 := [.int (z_i (z_b true))]) (r := []) rfl rfl rfl (Nat.le_of_ble_eq_true rfl) (z_oI h (fun v2 D1 h => ?_) (fun _ _ h => h))
  refine zs_istore (ls1 := [some (.ref 0), some (.ref r1), o2, some (.ref r3), some (.int (z_i a4)), some (.int (z_i a5)), some (.int (z_i (z_b b6))), some (.int (z_i v2)), some (.int (z_i a8)), some (.int (z_i a9))]) rfl rfl rfl ?_
  refine zs_iinc (a := a9) (1) (ls1 := [some (.ref 0), some (.ref r1), o2, some (.ref r3), some (.int (z_i a4)), some (.int (z_i a5)), some (.int (z_i (z_b b6))), some (.int (z_i v2)), some (.int (z_i a8)), some (.int (z_i (a9 + 1)))]) rfl rfl rfl rfl ?_
  refine zs_goto rfl ?_
  exact hH83 _ _ _ _ _ _ _ _ (by first | assumption | exact trivial) h
def w_tTakeArgument_138 (n d : Nat) (r1 r3 : Nat) (a4 : Int) (a5 : Int) (b6 : Bool) (a7 : Int) (a8 : Int) (a9 : Int) (D : z_D) (H83 : Int → Int → Bool → Int → Int → Int → z_D → Prop) (K : Int → z_D → Prop) (T : Nat → z_D → Prop) : Prop :=
  (z_sh n r3 = some (.inl 4)) ∧
  z_c n d 27 [.ref r3, .int (z_i a7)] D (z_qZ (fun v3 D2 => 
    (z_r a8) ∧
    ((¬ a8 = 0) →
      w_tTakeArgument_183 n d r1 r3 a4 a5 b6 a8 a9 D2 H83 K T) ∧
    ((a8 = 0) →
      z_c n d 33 [.ref r3, .ref r1, .int (z_i a4), .int (z_i a5)] D2 (z_qZ (fun v6 D5 => 
        ((v6 = false) →
          w_tTakeArgument_183 n d r1 r3 a4 a5 b6 a8 a9 D5 H83 K T) ∧
        ((v6 = true) →
          z_c n d 24 [.ref r3] D5 (z_qI (fun v8 D7 => 
            z_c n d 30 [.ref r3, .int (z_i (v8 - (a5 - a4)))] D7 (z_qV (fun D9 => 
              z_c n d 35 [.ref r3] D9 (z_qV (fun D10 => 
                K a5 D10) T)) T)) T))) T))) T)
theorem v_tTakeArgument_138 {n d : Nat} {X : z_Xt} {r1 r3 : Nat} {a4 : Int} {a5 : Int} {b6 : Bool} {a7 : Int} {a8 : Int} {a9 : Int} {o2 : Option Value} {D : z_D} {H83 : Int → Int → Bool → Int → Int → Int → z_D → Prop} {K : Int → z_D → Prop} {T : Nat → z_D → Prop} (hH83 : ∀ (a4 : Int) (a5 : Int) (b6 : Bool) (a7 : Int) (a8 : Int) (a9 : Int) (o2 : Option Value) (D : z_D), z_nl o2 → H83 a4 a5 b6 a7 a8 a9 D → z_w n d (k_tb 81) X 83 [some (.ref 0), some (.ref r1), o2, some (.ref r3), some (.int (z_i a4)), some (.int (z_i a5)), some (.int (z_i (z_b b6))), some (.int (z_i a7)), some (.int (z_i a8)), some (.int (z_i a9))] [] D (z_qI K T)) (n2 : z_nl o2) (h : w_tTakeArgument_138 n d r1 r3 a4 a5 b6 a7 a8 a9 D H83 K T) : z_w n d (k_tb 81) X 138 [some (.ref 0), some (.ref r1), o2, some (.ref r3), some (.int (z_i a4)), some (.int (z_i a5)), some (.int (z_i (z_b b6))), some (.int (z_i a7)), some (.int (z_i a8)), some (.int (z_i a9))] [] D (z_qI K T) := by
  unfold w_tTakeArgument_138 at h
  refine zs_aload rfl rfl ?_
  refine zs_iload rfl rfl ?_
  obtain ⟨g1, h⟩ := h
  refine z_callV (k := r3) (as0 := [.int (z_i a7)]) (r := []) rfl rfl g1 (Nat.le_of_ble_eq_true rfl) (z_oZ h (fun v3 D2 h => ?_) (fun _ _ h => h))
  refine zs_pop rfl rfl ?_
  refine zs_iload rfl rfl ?_
  obtain ⟨g4, h⟩ := h
  obtain ⟨h13, h14⟩ := h
  refine zs_ifne rfl g4 (fun c => ?_) (fun c => ?_)
  · have h := h13 c
    exact v_tTakeArgument_183 hH83 (by first | assumption | exact trivial) (by first | assumption | exact trivial) h
  · have h := h14 c
    refine zs_aload rfl rfl ?_
    refine zs_aload rfl rfl ?_
    refine zs_iload rfl rfl ?_
    refine zs_iload rfl rfl ?_
    refine z_callV (k := r3) (as0 := [.ref r1, .int (z_i a4), .int (z_i a5)]) (r := []) rfl rfl g1 (Nat.le_of_ble_eq_true rfl) (z_oZ h (fun v6 D5 h => ?_) (fun _ _ h => h))
    obtain ⟨h11, h12⟩ := h
    refine zs_beq rfl (fun c => ?_) (fun c => ?_)
    · have h := h11 c
      exact v_tTakeArgument_183 hH83 (by first | assumption | exact trivial) (by first | assumption | exact trivial) h
    · have h := h12 c
      refine zs_aload rfl rfl ?_
      refine zs_aload rfl rfl ?_
      refine z_callV (k := r3) (as0 := []) (r := [.ref r3]) rfl rfl g1 (Nat.le_of_ble_eq_true rfl) (z_oI h (fun v8 D7 h => ?_) (fun _ _ h => h))
      refine zs_iload rfl rfl ?_
      refine zs_iload rfl rfl ?_
      refine zs_sub (a := a5) (b := a4) rfl ?_
      refine zs_sub (a := v8) (b := (a5 - a4)) rfl ?_
      refine z_callV (k := r3) (as0 := [.int (z_i (v8 - (a5 - a4)))]) (r := []) rfl rfl g1 (Nat.le_of_ble_eq_true rfl) (z_oV h (fun D9 h => ?_) (fun _ _ h => h))
      refine zs_aload rfl rfl ?_
      refine z_callV (k := r3) (as0 := []) (r := []) rfl rfl g1 (Nat.le_of_ble_eq_true rfl) (z_oV h (fun D10 h => ?_) (fun _ _ h => h))
      refine zs_iload rfl rfl ?_
      exact zs_iret rfl h
def w_tTakeArgument_117 (n d : Nat) (r1 r3 : Nat) (a4 : Int) (a5 : Int) (b6 : Bool) (a7 : Int) (a8 : Int) (a9 : Int) (D : z_D) (H83 : Int → Int → Bool → Int → Int → Int → z_D → Prop) (K : Int → z_D → Prop) (T : Nat → z_D → Prop) : Prop :=
  z_c n d 54 [.int (z_i a7)] D (z_qI (fun v2 D1 => 
    (z_r (a8 + v2)) ∧
    ((0 ≤ (a8 + v2)) →
      w_tTakeArgument_138 n d r1 r3 a4 a5 b6 a7 (a8 + v2) a9 D1 H83 K T) ∧
    (((a8 + v2) < 0) →
      z_c n d 48 [.ref 0, .int (z_i 1)] D1 (z_qI (fun v5 D4 => 
        w_tTakeArgument_138 n d r1 r3 a4 a5 b6 a7 (a8 + v2) a9 D4 H83 K T) T))) T)
theorem v_tTakeArgument_117 {n d : Nat} {X : z_Xt} {r1 r3 : Nat} {a4 : Int} {a5 : Int} {b6 : Bool} {a7 : Int} {a8 : Int} {a9 : Int} {o2 : Option Value} {D : z_D} {H83 : Int → Int → Bool → Int → Int → Int → z_D → Prop} {K : Int → z_D → Prop} {T : Nat → z_D → Prop} (hH83 : ∀ (a4 : Int) (a5 : Int) (b6 : Bool) (a7 : Int) (a8 : Int) (a9 : Int) (o2 : Option Value) (D : z_D), z_nl o2 → H83 a4 a5 b6 a7 a8 a9 D → z_w n d (k_tb 81) X 83 [some (.ref 0), some (.ref r1), o2, some (.ref r3), some (.int (z_i a4)), some (.int (z_i a5)), some (.int (z_i (z_b b6))), some (.int (z_i a7)), some (.int (z_i a8)), some (.int (z_i a9))] [] D (z_qI K T)) (n2 : z_nl o2) (h : w_tTakeArgument_117 n d r1 r3 a4 a5 b6 a7 a8 a9 D H83 K T) : z_w n d (k_tb 81) X 117 [some (.ref 0), some (.ref r1), o2, some (.ref r3), some (.int (z_i a4)), some (.int (z_i a5)), some (.int (z_i (z_b b6))), some (.int (z_i a7)), some (.int (z_i a8)), some (.int (z_i a9))] [] D (z_qI K T) := by
  unfold w_tTakeArgument_117 at h
  refine zs_iload rfl rfl ?_
  refine zs_iload rfl rfl ?_
  refine z_callS (as0 := [.int (z_i a7)]) (r := [.int (z_i a8)]) rfl rfl (Nat.le_of_ble_eq_true rfl) (z_oI h (fun v2 D1 h => ?_) (fun _ _ h => h))
  refine zs_add (a := a8) (b := v2) rfl ?_
  refine zs_istore (ls1 := [some (.ref 0), some (.ref r1), o2, some (.ref r3), some (.int (z_i a4)), some (.int (z_i a5)), some (.int (z_i (z_b b6))), some (.int (z_i a7)), some (.int (z_i (a8 + v2))), some (.int (z_i a9))]) rfl rfl rfl ?_
  refine zs_iload rfl rfl ?_
  obtain ⟨g3, h⟩ := h
  obtain ⟨h6, h7⟩ := h
  refine zs_ifge rfl g3 (fun c => ?_) (fun c => ?_)
  · have h := h6 c
    exact v_tTakeArgument_138 hH83 (by first | assumption | exact trivial) h
  · have h := h7 c
    refine zs_aload rfl rfl ?_
    refine zs_pushI (1) rfl rfl ?_
    refine z_callV (k := 0) (as0 := [.int (z_i 1)]) (r := []) rfl rfl rfl (Nat.le_of_ble_eq_true rfl) (z_oI h (fun v5 D4 h => ?_) (fun _ _ h => h))
    refine zs_pop rfl rfl ?_
    exact v_tTakeArgument_138 hH83 (by first | assumption | exact trivial) h
def w_tTakeArgument_41 (n d : Nat) (r1 r3 : Nat) (a4 : Int) (a5 : Int) (b6 : Bool) (a7 : Int) (a8 : Int) (D : z_D) (H41 : Int → Int → Bool → Int → Int → z_D → Prop) (H83 : Int → Int → Bool → Int → Int → Int → z_D → Prop) (K : Int → z_D → Prop) (T : Nat → z_D → Prop) : Prop :=
  (z_r a4) ∧ (z_r a5) ∧
  ((¬ a4 = a5) →
    H83 a4 a5 b6 a7 0 1 D) ∧
  ((a4 = a5) →
    (z_r a7) ∧
    ((¬ a7 = 2592) →
      H83 a4 a5 b6 a7 0 1 D) ∧
    ((a7 = 2592) →
      (z_r a8) ∧
      ((1000 ≤ a8) →
        H83 a4 a5 b6 a7 0 1 D) ∧
      ((a8 < 1000) →
        z_c n d 61 [.ref 0, .int (z_i (z_b true))] D (z_qI (fun v6 D5 => 
          H41 a4 a5 b6 v6 (a8 + 1) D5) T))))
theorem v_tTakeArgument_41 {n d : Nat} {X : z_Xt} {r1 r3 : Nat} {a4 : Int} {a5 : Int} {b6 : Bool} {a7 : Int} {a8 : Int} {o2 : Option Value} {D : z_D} {H41 : Int → Int → Bool → Int → Int → z_D → Prop} {H83 : Int → Int → Bool → Int → Int → Int → z_D → Prop} {K : Int → z_D → Prop} {T : Nat → z_D → Prop} (hH41 : ∀ (a4 : Int) (a5 : Int) (b6 : Bool) (a7 : Int) (a8 : Int) (o2 : Option Value) (D : z_D), z_nl o2 → H41 a4 a5 b6 a7 a8 D → z_w n d (k_tb 81) X 41 [some (.ref 0), some (.ref r1), o2, some (.ref r3), some (.int (z_i a4)), some (.int (z_i a5)), some (.int (z_i (z_b b6))), some (.int (z_i a7)), some (.int (z_i a8)), none] [] D (z_qI K T)) (hH83 : ∀ (a4 : Int) (a5 : Int) (b6 : Bool) (a7 : Int) (a8 : Int) (a9 : Int) (o2 : Option Value) (D : z_D), z_nl o2 → H83 a4 a5 b6 a7 a8 a9 D → z_w n d (k_tb 81) X 83 [some (.ref 0), some (.ref r1), o2, some (.ref r3), some (.int (z_i a4)), some (.int (z_i a5)), some (.int (z_i (z_b b6))), some (.int (z_i a7)), some (.int (z_i a8)), some (.int (z_i a9))] [] D (z_qI K T)) (n2 : z_nl o2) (h : w_tTakeArgument_41 n d r1 r3 a4 a5 b6 a7 a8 D H41 H83 K T) : z_w n d (k_tb 81) X 41 [some (.ref 0), some (.ref r1), o2, some (.ref r3), some (.int (z_i a4)), some (.int (z_i a5)), some (.int (z_i (z_b b6))), some (.int (z_i a7)), some (.int (z_i a8)), none] [] D (z_qI K T) := by
  unfold w_tTakeArgument_41 at h
  refine zs_iload rfl rfl ?_
  refine zs_iload rfl rfl ?_
  obtain ⟨g1, g2, h⟩ := h
  obtain ⟨h11, h12⟩ := h
  refine zs_cne rfl g1 g2 (fun c => ?_) (fun c => ?_)
  · have h := h11 c
    refine zs_pushI (0) rfl rfl ?_
    refine zs_istore (ls1 := [some (.ref 0), some (.ref r1), o2, some (.ref r3), some (.int (z_i a4)), some (.int (z_i a5)), some (.int (z_i (z_b b6))), some (.int (z_i a7)), some (.int (z_i 0)), none]) rfl rfl rfl ?_
    refine zs_pushI (1) rfl rfl ?_
    refine zs_istore (ls1 := [some (.ref 0), some (.ref r1), o2, some (.ref r3), some (.int (z_i a4)), some (.int (z_i a5)), some (.int (z_i (z_b b6))), some (.int (z_i a7)), some (.int (z_i 0)), some (.int (z_i 1))]) rfl rfl rfl ?_
    exact hH83 _ _ _ _ _ _ _ _ (by first | assumption | exact trivial) h
  · have h := h12 c
    refine zs_iload rfl rfl ?_
    refine zs_pushI (2592) rfl rfl ?_
    obtain ⟨g3, h⟩ := h
    obtain ⟨h9, h10⟩ := h
    refine zs_cne rfl g3 (z_rk rfl) (fun c => ?_) (fun c => ?_)
    · have h := h9 c
      refine zs_pushI (0) rfl rfl ?_
      refine zs_istore (ls1 := [some (.ref 0), some (.ref r1), o2, some (.ref r3), some (.int (z_i a4)), some (.int (z_i a5)), some (.int (z_i (z_b b6))), some (.int (z_i a7)), some (.int (z_i 0)), none]) rfl rfl rfl ?_
      refine zs_pushI (1) rfl rfl ?_
      refine zs_istore (ls1 := [some (.ref 0), some (.ref r1), o2, some (.ref r3), some (.int (z_i a4)), some (.int (z_i a5)), some (.int (z_i (z_b b6))), some (.int (z_i a7)), some (.int (z_i 0)), some (.int (z_i 1))]) rfl rfl rfl ?_
      exact hH83 _ _ _ _ _ _ _ _ (by first | assumption | exact trivial) h
    · have h := h10 c
      refine zs_iload rfl rfl ?_
      refine zs_pushI (1000) rfl rfl ?_
      obtain ⟨g4, h⟩ := h
      obtain ⟨h7, h8⟩ := h
      refine zs_cge rfl g4 (z_rk rfl) (fun c => ?_) (fun c => ?_)
      · have h := h7 c
        refine zs_pushI (0) rfl rfl ?_
        refine zs_istore (ls1 := [some (.ref 0), some (.ref r1), o2, some (.ref r3), some (.int (z_i a4)), some (.int (z_i a5)), some (.int (z_i (z_b b6))), some (.int (z_i a7)), some (.int (z_i 0)), none]) rfl rfl rfl ?_
        refine zs_pushI (1) rfl rfl ?_
        refine zs_istore (ls1 := [some (.ref 0), some (.ref r1), o2, some (.ref r3), some (.int (z_i a4)), some (.int (z_i a5)), some (.int (z_i (z_b b6))), some (.int (z_i a7)), some (.int (z_i 0)), some (.int (z_i 1))]) rfl rfl rfl ?_
        exact hH83 _ _ _ _ _ _ _ _ (by first | assumption | exact trivial) h
      · have h := h8 c
        refine zs_aload rfl rfl ?_
        refine zs_pushI (1) rfl rfl ?_
        refine z_callV (k := 0) (as0 := [.int (z_i (z_b true))]) (r := []) rfl rfl rfl (Nat.le_of_ble_eq_true rfl) (z_oI h (fun v6 D5 h => ?_) (fun _ _ h => h))
        refine zs_istore (ls1 := [some (.ref 0), some (.ref r1), o2, some (.ref r3), some (.int (z_i a4)), some (.int (z_i a5)), some (.int (z_i (z_b b6))), some (.int (z_i v6)), some (.int (z_i a8)), none]) rfl rfl rfl ?_
        refine zs_iinc (a := a8) (1) (ls1 := [some (.ref 0), some (.ref r1), o2, some (.ref r3), some (.int (z_i a4)), some (.int (z_i a5)), some (.int (z_i (z_b b6))), some (.int (z_i v6)), some (.int (z_i (a8 + 1))), none]) rfl rfl rfl rfl ?_
        refine zs_goto rfl ?_
        exact hH41 _ _ _ _ _ _ _ (by first | assumption | exact trivial) h
def w_tTakeArgument_83 (n d : Nat) (r1 r3 : Nat) (a4 : Int) (a5 : Int) (b6 : Bool) (a7 : Int) (a8 : Int) (a9 : Int) (D : z_D) (H83 : Int → Int → Bool → Int → Int → Int → z_D → Prop) (K : Int → z_D → Prop) (T : Nat → z_D → Prop) : Prop :=
  (z_r a9) ∧
  ((40 < a9) →
    z_c n d 48 [.ref 0, .int (z_i 5)] D (z_qI (fun v3 D2 => 
      K v3 D2) T)) ∧
  ((a9 ≤ 40) →
    z_c n d 52 [.int (z_i a7)] D (z_qI (fun v5 D4 => 
      (z_r v5) ∧
      ((¬ v5 = 4096) →
        w_tTakeArgument_117 n d r1 r3 a4 a5 b6 v5 a8 a9 D4 H83 K T) ∧
      ((v5 = 4096) →
        ((b6 = true) →
          w_tTakeArgument_117 n d r1 r3 a4 a5 b6 v5 a8 a9 D4 H83 K T) ∧
        ((b6 = false) →
          z_c n d 48 [.ref 0, .int (z_i 7)] D4 (z_qI (fun v8 D7 => 
            w_tTakeArgument_117 n d r1 r3 a4 a5 b6 v5 a8 a9 D7 H83 K T) T)))) T))
theorem v_tTakeArgument_83 {n d : Nat} {X : z_Xt} {r1 r3 : Nat} {a4 : Int} {a5 : Int} {b6 : Bool} {a7 : Int} {a8 : Int} {a9 : Int} {o2 : Option Value} {D : z_D} {H83 : Int → Int → Bool → Int → Int → Int → z_D → Prop} {K : Int → z_D → Prop} {T : Nat → z_D → Prop} (hH83 : ∀ (a4 : Int) (a5 : Int) (b6 : Bool) (a7 : Int) (a8 : Int) (a9 : Int) (o2 : Option Value) (D : z_D), z_nl o2 → H83 a4 a5 b6 a7 a8 a9 D → z_w n d (k_tb 81) X 83 [some (.ref 0), some (.ref r1), o2, some (.ref r3), some (.int (z_i a4)), some (.int (z_i a5)), some (.int (z_i (z_b b6))), some (.int (z_i a7)), some (.int (z_i a8)), some (.int (z_i a9))] [] D (z_qI K T)) (n2 : z_nl o2) (h : w_tTakeArgument_83 n d r1 r3 a4 a5 b6 a7 a8 a9 D H83 K T) : z_w n d (k_tb 81) X 83 [some (.ref 0), some (.ref r1), o2, some (.ref r3), some (.int (z_i a4)), some (.int (z_i a5)), some (.int (z_i (z_b b6))), some (.int (z_i a7)), some (.int (z_i a8)), some (.int (z_i a9))] [] D (z_qI K T) := by
  unfold w_tTakeArgument_83 at h
  refine zs_iload rfl rfl ?_
  refine zs_pushI (40) rfl rfl ?_
  obtain ⟨g1, h⟩ := h
  obtain ⟨h13, h14⟩ := h
  refine zs_cgt rfl g1 (z_rk rfl) (fun c => ?_) (fun c => ?_)
  · have h := h13 c
    refine zs_aload rfl rfl ?_
    refine zs_pushI (5) rfl rfl ?_
    refine z_callV (k := 0) (as0 := [.int (z_i 5)]) (r := []) rfl rfl rfl (Nat.le_of_ble_eq_true rfl) (z_oI h (fun v3 D2 h => ?_) (fun _ _ h => h))
    exact zs_iret rfl h
  · have h := h14 c
    refine zs_iload rfl rfl ?_
    refine z_callS (as0 := [.int (z_i a7)]) (r := []) rfl rfl (Nat.le_of_ble_eq_true rfl) (z_oI h (fun v5 D4 h => ?_) (fun _ _ h => h))
    refine zs_istore (ls1 := [some (.ref 0), some (.ref r1), o2, some (.ref r3), some (.int (z_i a4)), some (.int (z_i a5)), some (.int (z_i (z_b b6))), some (.int (z_i v5)), some (.int (z_i a8)), some (.int (z_i a9))]) rfl rfl rfl ?_
    refine zs_iload rfl rfl ?_
    refine zs_pushI (4096) rfl rfl ?_
    obtain ⟨g6, h⟩ := h
    obtain ⟨h11, h12⟩ := h
    refine zs_cne rfl g6 (z_rk rfl) (fun c => ?_) (fun c => ?_)
    · have h := h11 c
      exact v_tTakeArgument_117 hH83 (by first | assumption | exact trivial) h
    · have h := h12 c
      refine zs_iload rfl rfl ?_
      obtain ⟨h9, h10⟩ := h
      refine zs_bne rfl (fun c => ?_) (fun c => ?_)
      · have h := h9 c
        exact v_tTakeArgument_117 hH83 (by first | assumption | exact trivial) h
      · have h := h10 c
        refine zs_aload rfl rfl ?_
        refine zs_pushI (7) rfl rfl ?_
        refine z_callV (k := 0) (as0 := [.int (z_i 7)]) (r := []) rfl rfl rfl (Nat.le_of_ble_eq_true rfl) (z_oI h (fun v8 D7 h => ?_) (fun _ _ h => h))
        refine zs_pop rfl rfl ?_
        exact v_tTakeArgument_117 hH83 (by first | assumption | exact trivial) h
theorem r_tTakeArgument {n d : Nat} {r1 r3 : Nat} {a2 : Int} {D : z_D} {K : Int → z_D → Prop} {T : Nat → z_D → Prop}  (I41 : Nat → Int → Int → Bool → Int → Int → z_D → Prop) (I83 : Nat → Int → Int → Bool → Int → Int → Int → z_D → Prop) (hE : w_tTakeArgument_0 n d r1 r3 a2 D (fun a4 a5 b6 a7 a8 D => ∃ m, I41 m a4 a5 b6 a7 a8 D) K T) (h41 : ∀ (mm : Nat) (a4 : Int) (a5 : Int) (b6 : Bool) (a7 : Int) (a8 : Int) (D : z_D), I41 mm a4 a5 b6 a7 a8 D → w_tTakeArgument_41 n d r1 r3 a4 a5 b6 a7 a8 D (fun a4 a5 b6 a7 a8 D => ∃ m, m < mm ∧ I41 m a4 a5 b6 a7 a8 D) (fun a4 a5 b6 a7 a8 a9 D => ∃ m, m < mm ∧ I83 m a4 a5 b6 a7 a8 a9 D) K T) (h83 : ∀ (mm : Nat) (a4 : Int) (a5 : Int) (b6 : Bool) (a7 : Int) (a8 : Int) (a9 : Int) (D : z_D), I83 mm a4 a5 b6 a7 a8 a9 D → w_tTakeArgument_83 n d r1 r3 a4 a5 b6 a7 a8 a9 D (fun a4 a5 b6 a7 a8 a9 D => ∃ m, m < mm ∧ I83 m a4 a5 b6 a7 a8 a9 D) K T) : z_c n (d + 1) 81 [.ref 0, .ref r1, .int (z_i a2), .ref r3] D (z_qI K T) := by
  refine z_enter (Nat.le_of_ble_eq_true rfl) rfl (fun X => ?_)
  have key : ∀ m, (∀ (a4 : Int) (a5 : Int) (b6 : Bool) (a7 : Int) (a8 : Int) (o2 : Option Value) (D : z_D), z_nl o2 → I41 m a4 a5 b6 a7 a8 D → z_w n d (k_tb 81) X 41 [some (.ref 0), some (.ref r1), o2, some (.ref r3), some (.int (z_i a4)), some (.int (z_i a5)), some (.int (z_i (z_b b6))), some (.int (z_i a7)), some (.int (z_i a8)), none] [] D (z_qI K T)) ∧ (∀ (a4 : Int) (a5 : Int) (b6 : Bool) (a7 : Int) (a8 : Int) (a9 : Int) (o2 : Option Value) (D : z_D), z_nl o2 → I83 m a4 a5 b6 a7 a8 a9 D → z_w n d (k_tb 81) X 83 [some (.ref 0), some (.ref r1), o2, some (.ref r3), some (.int (z_i a4)), some (.int (z_i a5)), some (.int (z_i (z_b b6))), some (.int (z_i a7)), some (.int (z_i a8)), some (.int (z_i a9))] [] D (z_qI K T)) := by
    intro m
    induction m using Nat.strongRecOn with
    | _ mm ih =>
      exact ⟨fun a4 a5 b6 a7 a8 o2 D n2 hI => v_tTakeArgument_41 (fun a4 a5 b6 a7 a8 o2 D n2 ⟨m, hm, hI⟩ => (ih m hm).1 _ _ _ _ _ _ _ n2 hI) (fun a4 a5 b6 a7 a8 a9 o2 D n2 ⟨m, hm, hI⟩ => (ih m hm).2 _ _ _ _ _ _ _ _ n2 hI) n2 (h41 mm a4 a5 b6 a7 a8 D hI), fun a4 a5 b6 a7 a8 a9 o2 D n2 hI => v_tTakeArgument_83 (fun a4 a5 b6 a7 a8 a9 o2 D n2 ⟨m, hm, hI⟩ => (ih m hm).2 _ _ _ _ _ _ _ _ n2 hI) n2 (h83 mm a4 a5 b6 a7 a8 a9 D hI)⟩
  exact v_tTakeArgument_0 (fun a4 a5 b6 a7 a8 o2 D n2 ⟨m, hI⟩ => (key m).1 _ _ _ _ _ _ _ n2 hI) hE
-- 82: TokenMouth.putBodyBack(LTokenMouth$Row;)V
def w_tPutBodyBack_0 (n d : Nat) (r1 : Nat) (D : z_D) (H7 : Int → z_D → Prop) (K : z_D → Prop) (T : Nat → z_D → Prop) : Prop :=
  (z_sh n r1 = some (.inl 4)) ∧
  z_c n d 24 [.ref r1] D (z_qI (fun v3 D2 => 
    H7 (v3 - 1) D2) T)
theorem v_tPutBodyBack_0 {n d : Nat} {X : z_Xt} {r1 : Nat}  {D : z_D} {H7 : Int → z_D → Prop} {K : z_D → Prop} {T : Nat → z_D → Prop} (hH7 : ∀ (a2 : Int) (o3 : Option Value) (o4 : Option Value) (o5 : Option Value) (o6 : Option Value) (D : z_D), z_nl o3 → z_nl o4 → z_nl o5 → z_nl o6 → H7 a2 D → z_w n d (k_tb 82) X 7 [some (.ref 0), some (.ref r1), some (.int (z_i a2)), o3, o4, o5, o6] [] D (z_qV K T)) (h : w_tPutBodyBack_0 n d r1 D H7 K T) : z_w n d (k_tb 82) X 0 [some (.ref 0), some (.ref r1), none, none, none, none, none] [] D (z_qV K T) := by
  unfold w_tPutBodyBack_0 at h
  refine zs_aload rfl rfl ?_
  obtain ⟨g1, h⟩ := h
  refine z_callV (k := r1) (as0 := []) (r := []) rfl rfl g1 (Nat.le_of_ble_eq_true rfl) (z_oI h (fun v3 D2 h => ?_) (fun _ _ h => h))
  refine zs_pushI (1) rfl rfl ?_
  refine zs_sub (a := v3) (b := 1) rfl ?_
  refine zs_istore (ls1 := [some (.ref 0), some (.ref r1), some (.int (z_i (v3 - 1))), none, none, none, none]) rfl rfl rfl ?_
  exact hH7 _ _ _ _ _ _ (by first | assumption | exact trivial) (by first | assumption | exact trivial) (by first | assumption | exact trivial) (by first | assumption | exact trivial) h
def w_tPutBodyBack_41 (n d : Nat) (r1 : Nat) (a2 : Int) (a3 : Int) (D : z_D) (H7 : Int → z_D → Prop) (K : z_D → Prop) (T : Nat → z_D → Prop) : Prop :=
  z_c n d 63 [.ref 0, .int (z_i a3)] D (z_qV (fun D1 => 
    H7 (a2 + (-1)) D1) T)
theorem v_tPutBodyBack_41 {n d : Nat} {X : z_Xt} {r1 : Nat} {a2 : Int} {a3 : Int} {o4 : Option Value} {o5 : Option Value} {o6 : Option Value} {D : z_D} {H7 : Int → z_D → Prop} {K : z_D → Prop} {T : Nat → z_D → Prop} (hH7 : ∀ (a2 : Int) (o3 : Option Value) (o4 : Option Value) (o5 : Option Value) (o6 : Option Value) (D : z_D), z_nl o3 → z_nl o4 → z_nl o5 → z_nl o6 → H7 a2 D → z_w n d (k_tb 82) X 7 [some (.ref 0), some (.ref r1), some (.int (z_i a2)), o3, o4, o5, o6] [] D (z_qV K T)) (n4 : z_nl o4) (n5 : z_nl o5) (n6 : z_nl o6) (h : w_tPutBodyBack_41 n d r1 a2 a3 D H7 K T) : z_w n d (k_tb 82) X 41 [some (.ref 0), some (.ref r1), some (.int (z_i a2)), some (.int (z_i a3)), o4, o5, o6] [] D (z_qV K T) := by
  unfold w_tPutBodyBack_41 at h
  refine zs_aload rfl rfl ?_
  refine zs_iload rfl rfl ?_
  refine z_callV (k := 0) (as0 := [.int (z_i a3)]) (r := []) rfl rfl rfl (Nat.le_of_ble_eq_true rfl) (z_oV h (fun D1 h => ?_) (fun _ _ h => h))
  refine zs_goto rfl ?_
  refine zs_iinc (a := a2) (-1) (ls1 := [some (.ref 0), some (.ref r1), some (.int (z_i (a2 + (-1)))), some (.int (z_i a3)), o4, o5, o6]) rfl rfl rfl rfl ?_
  refine zs_goto rfl ?_
  exact hH7 _ _ _ _ _ _ (by first | assumption | exact trivial) (by first | assumption | exact trivial) (by first | assumption | exact trivial) (by first | assumption | exact trivial) h
def w_tPutBodyBack_7 (n d : Nat) (r1 : Nat) (a2 : Int) (D : z_D) (H7 : Int → z_D → Prop) (H67 : Int → Nat → Int → z_D → Prop) (K : z_D → Prop) (T : Nat → z_D → Prop) : Prop :=
  (z_r a2) ∧
  ((a2 < 0) →
    K D) ∧
  ((0 ≤ a2) →
    (z_sh n r1 = some (.inl 4)) ∧
    z_c n d 25 [.ref r1, .int (z_i a2)] D (z_qI (fun v4 D3 => 
      (z_r ((v4 - 8192) - 1)) ∧
      ((((v4 - 8192) - 1) < 0) →
        w_tPutBodyBack_41 n d r1 a2 v4 D3 H7 K T) ∧
      ((0 ≤ ((v4 - 8192) - 1)) →
        ((((v4 - 8192) - 1) < 4) →
          (0 ≤ ((v4 - 8192) - 1) ∧ ((v4 - 8192) - 1) < 4) ∧
          z_c n d 24 [.ref (22 + 2 * (Int.toNat ((v4 - 8192) - 1)))] D3 (z_qI (fun v8 D7 => 
            H67 a2 (22 + 2 * (Int.toNat ((v4 - 8192) - 1))) (v8 - 1) D7) T)) ∧
        ((4 ≤ ((v4 - 8192) - 1)) →
          w_tPutBodyBack_41 n d r1 a2 v4 D3 H7 K T))) T))
theorem v_tPutBodyBack_7 {n d : Nat} {X : z_Xt} {r1 : Nat} {a2 : Int} {o3 : Option Value} {o4 : Option Value} {o5 : Option Value} {o6 : Option Value} {D : z_D} {H7 : Int → z_D → Prop} {H67 : Int → Nat → Int → z_D → Prop} {K : z_D → Prop} {T : Nat → z_D → Prop} (hH7 : ∀ (a2 : Int) (o3 : Option Value) (o4 : Option Value) (o5 : Option Value) (o6 : Option Value) (D : z_D), z_nl o3 → z_nl o4 → z_nl o5 → z_nl o6 → H7 a2 D → z_w n d (k_tb 82) X 7 [some (.ref 0), some (.ref r1), some (.int (z_i a2)), o3, o4, o5, o6] [] D (z_qV K T)) (hH67 : ∀ (a2 : Int) (a5 : Nat) (a6 : Int) (o3 : Option Value) (o4 : Option Value) (D : z_D), z_nl o3 → z_nl o4 → H67 a2 a5 a6 D → z_w n d (k_tb 82) X 67 [some (.ref 0), some (.ref r1), some (.int (z_i a2)), o3, o4, some (.ref a5), some (.int (z_i a6))] [] D (z_qV K T)) (n3 : z_nl o3) (n4 : z_nl o4) (n5 : z_nl o5) (n6 : z_nl o6) (h : w_tPutBodyBack_7 n d r1 a2 D H7 H67 K T) : z_w n d (k_tb 82) X 7 [some (.ref 0), some (.ref r1), some (.int (z_i a2)), o3, o4, o5, o6] [] D (z_qV K T) := by
  unfold w_tPutBodyBack_7 at h
  refine zs_iload rfl rfl ?_
  obtain ⟨g1, h⟩ := h
  obtain ⟨h13, h14⟩ := h
  refine zs_iflt rfl g1 (fun c => ?_) (fun c => ?_)
  · have h := h13 c
    exact zs_ret rfl h
  · have h := h14 c
    refine zs_aload rfl rfl ?_
    refine zs_iload rfl rfl ?_
    obtain ⟨g2, h⟩ := h
    refine z_callV (k := r1) (as0 := [.int (z_i a2)]) (r := []) rfl rfl g2 (Nat.le_of_ble_eq_true rfl) (z_oI h (fun v4 D3 h => ?_) (fun _ _ h => h))
    refine zs_istore (ls1 := [some (.ref 0), some (.ref r1), some (.int (z_i a2)), some (.int (z_i v4)), o4, o5, o6]) rfl rfl rfl ?_
    refine zs_iload rfl rfl ?_
    refine zs_pushI (8192) rfl rfl ?_
    refine zs_sub (a := v4) (b := 8192) rfl ?_
    refine zs_pushI (1) rfl rfl ?_
    refine zs_sub (a := (v4 - 8192)) (b := 1) rfl ?_
    refine zs_istore (ls1 := [some (.ref 0), some (.ref r1), some (.int (z_i a2)), some (.int (z_i v4)), some (.int (z_i ((v4 - 8192) - 1))), o5, o6]) rfl rfl rfl ?_
    refine zs_iload rfl rfl ?_
    obtain ⟨g5, h⟩ := h
    obtain ⟨h11, h12⟩ := h
    refine zs_iflt rfl g5 (fun c => ?_) (fun c => ?_)
    · have h := h11 c
      exact v_tPutBodyBack_41 hH7 (by first | assumption | exact trivial) (by first | assumption | exact trivial) (by first | assumption | exact trivial) h
    · have h := h12 c
      refine zs_iload rfl rfl ?_
      refine zs_aload rfl rfl ?_
      refine zs_getR (x := 21) rfl rfl rfl ?_
      refine zs_alenZ (4) rfl rfl rfl (by decide) ?_
      obtain ⟨h9, h10⟩ := h
      refine zs_clt rfl g5 (z_rk rfl) (fun c => ?_) (fun c => ?_)
      · have h := h9 c
        refine zs_aload rfl rfl ?_
        refine zs_getR (x := 21) rfl rfl rfl ?_
        refine zs_iload rfl rfl ?_
        obtain ⟨g6, h⟩ := h
        refine zs_aald rfl rfl (by decide) g6 (z_R_a g6.1 g6.2) ?_
        refine zs_astore (ls1 := [some (.ref 0), some (.ref r1), some (.int (z_i a2)), some (.int (z_i v4)), some (.int (z_i ((v4 - 8192) - 1))), some (.ref (22 + 2 * (Int.toNat ((v4 - 8192) - 1)))), o6]) rfl rfl rfl ?_
        refine zs_aload rfl rfl ?_
        refine z_callV (k := (22 + 2 * (Int.toNat ((v4 - 8192) - 1)))) (as0 := []) (r := []) rfl rfl (z_row_a g6.1 g6.2).1 (Nat.le_of_ble_eq_true rfl) (z_oI h (fun v8 D7 h => ?_) (fun _ _ h => h))
        refine zs_pushI (1) rfl rfl ?_
        refine zs_sub (a := v8) (b := 1) rfl ?_
        refine zs_istore (ls1 := [some (.ref 0), some (.ref r1), some (.int (z_i a2)), some (.int (z_i v4)), some (.int (z_i ((v4 - 8192) - 1))), some (.ref (22 + 2 * (Int.toNat ((v4 - 8192) - 1)))), some (.int (z_i (v8 - 1)))]) rfl rfl rfl ?_
        exact hH67 _ _ _ _ _ _ (by first | assumption | exact trivial) (by first | assumption | exact trivial) h
      · have h := h10 c
        exact v_tPutBodyBack_41 hH7 (by first | assumption | exact trivial) (by first | assumption | exact trivial) (by first | assumption | exact trivial) h
def w_tPutBodyBack_67 (n d : Nat) (r1 : Nat) (a2 : Int) (a5 : Nat) (a6 : Int) (D : z_D) (H7 : Int → z_D → Prop) (H67 : Int → Nat → Int → z_D → Prop) (K : z_D → Prop) (T : Nat → z_D → Prop) : Prop :=
  (z_r a6) ∧
  ((a6 < 0) →
    H7 (a2 + (-1)) D) ∧
  ((0 ≤ a6) →
    (z_sh n a5 = some (.inl 4)) ∧
    z_c n d 25 [.ref a5, .int (z_i a6)] D (z_qI (fun v4 D3 => 
      z_c n d 63 [.ref 0, .int (z_i v4)] D3 (z_qV (fun D5 => 
        H67 a2 a5 (a6 + (-1)) D5) T)) T))
theorem v_tPutBodyBack_67 {n d : Nat} {X : z_Xt} {r1 : Nat} {a2 : Int} {a5 : Nat} {a6 : Int} {o3 : Option Value} {o4 : Option Value} {D : z_D} {H7 : Int → z_D → Prop} {H67 : Int → Nat → Int → z_D → Prop} {K : z_D → Prop} {T : Nat → z_D → Prop} (hH7 : ∀ (a2 : Int) (o3 : Option Value) (o4 : Option Value) (o5 : Option Value) (o6 : Option Value) (D : z_D), z_nl o3 → z_nl o4 → z_nl o5 → z_nl o6 → H7 a2 D → z_w n d (k_tb 82) X 7 [some (.ref 0), some (.ref r1), some (.int (z_i a2)), o3, o4, o5, o6] [] D (z_qV K T)) (hH67 : ∀ (a2 : Int) (a5 : Nat) (a6 : Int) (o3 : Option Value) (o4 : Option Value) (D : z_D), z_nl o3 → z_nl o4 → H67 a2 a5 a6 D → z_w n d (k_tb 82) X 67 [some (.ref 0), some (.ref r1), some (.int (z_i a2)), o3, o4, some (.ref a5), some (.int (z_i a6))] [] D (z_qV K T)) (n3 : z_nl o3) (n4 : z_nl o4) (h : w_tPutBodyBack_67 n d r1 a2 a5 a6 D H7 H67 K T) : z_w n d (k_tb 82) X 67 [some (.ref 0), some (.ref r1), some (.int (z_i a2)), o3, o4, some (.ref a5), some (.int (z_i a6))] [] D (z_qV K T) := by
  unfold w_tPutBodyBack_67 at h
  refine zs_iload rfl rfl ?_
  obtain ⟨g1, h⟩ := h
  obtain ⟨h6, h7⟩ := h
  refine zs_iflt rfl g1 (fun c => ?_) (fun c => ?_)
  · have h := h6 c
    refine zs_iinc (a := a2) (-1) (ls1 := [some (.ref 0), some (.ref r1), some (.int (z_i (a2 + (-1)))), o3, o4, some (.ref a5), some (.int (z_i a6))]) rfl rfl rfl rfl ?_
    refine zs_goto rfl ?_
    exact hH7 _ _ _ _ _ _ (by first | assumption | exact trivial) (by first | assumption | exact trivial) (by first | assumption | exact trivial) (by first | assumption | exact trivial) h
  · have h := h7 c
    refine zs_aload rfl rfl ?_
    refine zs_aload rfl rfl ?_
    refine zs_iload rfl rfl ?_
    obtain ⟨g2, h⟩ := h
    refine z_callV (k := a5) (as0 := [.int (z_i a6)]) (r := [.ref 0]) rfl rfl g2 (Nat.le_of_ble_eq_true rfl) (z_oI h (fun v4 D3 h => ?_) (fun _ _ h => h))
    refine z_callV (k := 0) (as0 := [.int (z_i v4)]) (r := []) rfl rfl rfl (Nat.le_of_ble_eq_true rfl) (z_oV h (fun D5 h => ?_) (fun _ _ h => h))
    refine zs_iinc (a := a6) (-1) (ls1 := [some (.ref 0), some (.ref r1), some (.int (z_i a2)), o3, o4, some (.ref a5), some (.int (z_i (a6 + (-1))))]) rfl rfl rfl rfl ?_
    refine zs_goto rfl ?_
    exact hH67 _ _ _ _ _ _ (by first | assumption | exact trivial) (by first | assumption | exact trivial) h
theorem r_tPutBodyBack {n d : Nat} {r1 : Nat} {D : z_D} {K : z_D → Prop} {T : Nat → z_D → Prop}  (I7 : Nat → Int → z_D → Prop) (I67 : Nat → Int → Nat → Int → z_D → Prop) (hE : w_tPutBodyBack_0 n d r1 D (fun a2 D => ∃ m, I7 m a2 D) K T) (h7 : ∀ (mm : Nat) (a2 : Int) (D : z_D), I7 mm a2 D → w_tPutBodyBack_7 n d r1 a2 D (fun a2 D => ∃ m, m < mm ∧ I7 m a2 D) (fun a2 a5 a6 D => ∃ m, m < mm ∧ I67 m a2 a5 a6 D) K T) (h67 : ∀ (mm : Nat) (a2 : Int) (a5 : Nat) (a6 : Int) (D : z_D), I67 mm a2 a5 a6 D → w_tPutBodyBack_67 n d r1 a2 a5 a6 D (fun a2 D => ∃ m, m < mm ∧ I7 m a2 D) (fun a2 a5 a6 D => ∃ m, m < mm ∧ I67 m a2 a5 a6 D) K T) : z_c n (d + 1) 82 [.ref 0, .ref r1] D (z_qV K T) := by
  refine z_enter (Nat.le_of_ble_eq_true rfl) rfl (fun X => ?_)
  have key : ∀ m, (∀ (a2 : Int) (o3 : Option Value) (o4 : Option Value) (o5 : Option Value) (o6 : Option Value) (D : z_D), z_nl o3 → z_nl o4 → z_nl o5 → z_nl o6 → I7 m a2 D → z_w n d (k_tb 82) X 7 [some (.ref 0), some (.ref r1), some (.int (z_i a2)), o3, o4, o5, o6] [] D (z_qV K T)) ∧ (∀ (a2 : Int) (a5 : Nat) (a6 : Int) (o3 : Option Value) (o4 : Option Value) (D : z_D), z_nl o3 → z_nl o4 → I67 m a2 a5 a6 D → z_w n d (k_tb 82) X 67 [some (.ref 0), some (.ref r1), some (.int (z_i a2)), o3, o4, some (.ref a5), some (.int (z_i a6))] [] D (z_qV K T)) := by
    intro m
    induction m using Nat.strongRecOn with
    | _ mm ih =>
      exact ⟨fun a2 o3 o4 o5 o6 D n3 n4 n5 n6 hI => v_tPutBodyBack_7 (fun a2 o3 o4 o5 o6 D n3 n4 n5 n6 ⟨m, hm, hI⟩ => (ih m hm).1 _ _ _ _ _ _ n3 n4 n5 n6 hI) (fun a2 a5 a6 o3 o4 D n3 n4 ⟨m, hm, hI⟩ => (ih m hm).2 _ _ _ _ _ _ n3 n4 hI) n3 n4 n5 n6 (h7 mm a2 D hI), fun a2 a5 a6 o3 o4 D n3 n4 hI => v_tPutBodyBack_67 (fun a2 o3 o4 o5 o6 D n3 n4 n5 n6 ⟨m, hm, hI⟩ => (ih m hm).1 _ _ _ _ _ _ n3 n4 n5 n6 hI) (fun a2 a5 a6 o3 o4 D n3 n4 ⟨m, hm, hI⟩ => (ih m hm).2 _ _ _ _ _ _ n3 n4 hI) n3 n4 (h67 mm a2 a5 a6 D hI)⟩
  exact v_tPutBodyBack_0 (fun a2 o3 o4 o5 o6 D n3 n4 n5 n6 ⟨m, hI⟩ => (key m).1 _ _ _ _ _ _ n3 n4 n5 n6 hI) hE
-- 83: TokenMouth.expandAfter()V
def w_tExpandAfter_38 (n d : Nat) (a1 : Int) (D : z_D)  (K : z_D → Prop) (T : Nat → z_D → Prop) : Prop :=
  z_c n d 63 [.ref 0, .int (z_i a1)] D (z_qV (fun D1 => 
    K D1) T)
theorem v_tExpandAfter_38 {n d : Nat} {X : z_Xt} {a1 : Int} {o2 : Option Value} {o3 : Option Value} {D : z_D}  {K : z_D → Prop} {T : Nat → z_D → Prop} (n2 : z_nl o2) (n3 : z_nl o3) (h : w_tExpandAfter_38 n d a1 D K T) : z_w n d (k_tb 83) X 38 [some (.ref 0), some (.int (z_i a1)), o2, o3] [] D (z_qV K T) := by
  unfold w_tExpandAfter_38 at h
  refine zs_aload rfl rfl ?_
  refine zs_iload rfl rfl ?_
  refine z_callV (k := 0) (as0 := [.int (z_i a1)]) (r := []) rfl rfl rfl (Nat.le_of_ble_eq_true rfl) (z_oV h (fun D1 h => ?_) (fun _ _ h => h))
  exact zs_ret rfl h
def w_tExpandAfter_0 (n d : Nat)  (D : z_D)  (K : z_D → Prop) (T : Nat → z_D → Prop) : Prop :=
  z_c n d 61 [.ref 0, .int (z_i (z_b true))] D (z_qI (fun v2 D1 => 
    z_c n d 61 [.ref 0, .int (z_i (z_b true))] D1 (z_qI (fun v4 D3 => 
      z_c n d 55 [.ref 0, .int (z_i v4)] D3 (z_qI (fun v6 D5 => 
        z_c n d 57 [.int (z_i v6)] D5 (z_qZ (fun v8 D7 => 
          ((v8 = false) →
            z_c n d 63 [.ref 0, .int (z_i v4)] D7 (z_qV (fun D9 => 
              w_tExpandAfter_38 n d v2 D9 K T) T)) ∧
          ((v8 = true) →
            z_c n d 79 [.ref 0, .int (z_i v6)] D7 (z_qV (fun D10 => 
              w_tExpandAfter_38 n d v2 D10 K T) T))) T)) T)) T)) T)
theorem v_tExpandAfter_0 {n d : Nat} {X : z_Xt}   {D : z_D}  {K : z_D → Prop} {T : Nat → z_D → Prop}  (h : w_tExpandAfter_0 n d D K T) : z_w n d (k_tb 83) X 0 [some (.ref 0), none, none, none] [] D (z_qV K T) := by
  unfold w_tExpandAfter_0 at h
  refine zs_aload rfl rfl ?_
  refine zs_pushI (1) rfl rfl ?_
  refine z_callV (k := 0) (as0 := [.int (z_i (z_b true))]) (r := []) rfl rfl rfl (Nat.le_of_ble_eq_true rfl) (z_oI h (fun v2 D1 h => ?_) (fun _ _ h => h))
  refine zs_istore (ls1 := [some (.ref 0), some (.int (z_i v2)), none, none]) rfl rfl rfl ?_
  refine zs_aload rfl rfl ?_
  refine zs_pushI (1) rfl rfl ?_
  refine z_callV (k := 0) (as0 := [.int (z_i (z_b true))]) (r := []) rfl rfl rfl (Nat.le_of_ble_eq_true rfl) (z_oI h (fun v4 D3 h => ?_) (fun _ _ h => h))
  refine zs_istore (ls1 := [some (.ref 0), some (.int (z_i v2)), some (.int (z_i v4)), none]) rfl rfl rfl ?_
  refine zs_aload rfl rfl ?_
  refine zs_iload rfl rfl ?_
  refine z_callV (k := 0) (as0 := [.int (z_i v4)]) (r := []) rfl rfl rfl (Nat.le_of_ble_eq_true rfl) (z_oI h (fun v6 D5 h => ?_) (fun _ _ h => h))
  refine zs_istore (ls1 := [some (.ref 0), some (.int (z_i v2)), some (.int (z_i v4)), some (.int (z_i v6))]) rfl rfl rfl ?_
  refine zs_iload rfl rfl ?_
  refine z_callS (as0 := [.int (z_i v6)]) (r := []) rfl rfl (Nat.le_of_ble_eq_true rfl) (z_oZ h (fun v8 D7 h => ?_) (fun _ _ h => h))
  obtain ⟨h11, h12⟩ := h
  refine zs_beq rfl (fun c => ?_) (fun c => ?_)
  · have h := h11 c
    refine zs_aload rfl rfl ?_
    refine zs_iload rfl rfl ?_
    refine z_callV (k := 0) (as0 := [.int (z_i v4)]) (r := []) rfl rfl rfl (Nat.le_of_ble_eq_true rfl) (z_oV h (fun D9 h => ?_) (fun _ _ h => h))
    exact v_tExpandAfter_38 (by first | assumption | exact trivial) (by first | assumption | exact trivial) h
  · have h := h12 c
    refine zs_aload rfl rfl ?_
    refine zs_iload rfl rfl ?_
    refine z_callV (k := 0) (as0 := [.int (z_i v6)]) (r := []) rfl rfl rfl (Nat.le_of_ble_eq_true rfl) (z_oV h (fun D10 h => ?_) (fun _ _ h => h))
    refine zs_goto rfl ?_
    exact v_tExpandAfter_38 (by first | assumption | exact trivial) (by first | assumption | exact trivial) h
theorem r_tExpandAfter {n d : Nat}  {D : z_D} {K : z_D → Prop} {T : Nat → z_D → Prop}  (h : w_tExpandAfter_0 n d D K T) : z_c n (d + 1) 83 [.ref 0] D (z_qV K T) :=
  z_enter (Nat.le_of_ble_eq_true rfl) rfl (fun X => v_tExpandAfter_0 h)
-- 84: TokenMouth.markNext()V
def w_tMarkNext_27 (n d : Nat) (s1 : Int) (D : z_D)  (K : z_D → Prop) (T : Nat → z_D → Prop) : Prop :=
  z_c n d 63 [.ref 0, .int (z_i s1)] D (z_qV (fun D1 => 
    K D1) T)
theorem v_tMarkNext_27 {n d : Nat} {X : z_Xt} {s1 : Int} {o1 : Option Value} {D : z_D}  {K : z_D → Prop} {T : Nat → z_D → Prop} (n1 : z_nl o1) (h : w_tMarkNext_27 n d s1 D K T) : z_w n d (k_tb 84) X 27 [some (.ref 0), o1] [.int (z_i s1), .ref 0] D (z_qV K T) := by
  unfold w_tMarkNext_27 at h
  refine z_callV (k := 0) (as0 := [.int (z_i s1)]) (r := []) rfl rfl rfl (Nat.le_of_ble_eq_true rfl) (z_oV h (fun D1 h => ?_) (fun _ _ h => h))
  exact zs_ret rfl h
def w_tMarkNext_0 (n d : Nat)  (D : z_D)  (K : z_D → Prop) (T : Nat → z_D → Prop) : Prop :=
  z_c n d 61 [.ref 0, .int (z_i (z_b true))] D (z_qI (fun v2 D1 => 
    z_c n d 55 [.ref 0, .int (z_i v2)] D1 (z_qI (fun v4 D3 => 
      z_c n d 57 [.int (z_i v4)] D3 (z_qZ (fun v6 D5 => 
        ((v6 = false) →
          w_tMarkNext_27 n d v2 D5 K T) ∧
        ((v6 = true) →
          w_tMarkNext_27 n d (z_or v2 16384) D5 K T)) T)) T)) T)
theorem v_tMarkNext_0 {n d : Nat} {X : z_Xt}   {D : z_D}  {K : z_D → Prop} {T : Nat → z_D → Prop}  (h : w_tMarkNext_0 n d D K T) : z_w n d (k_tb 84) X 0 [some (.ref 0), none] [] D (z_qV K T) := by
  unfold w_tMarkNext_0 at h
  refine zs_aload rfl rfl ?_
  refine zs_pushI (1) rfl rfl ?_
  refine z_callV (k := 0) (as0 := [.int (z_i (z_b true))]) (r := []) rfl rfl rfl (Nat.le_of_ble_eq_true rfl) (z_oI h (fun v2 D1 h => ?_) (fun _ _ h => h))
  refine zs_istore (ls1 := [some (.ref 0), some (.int (z_i v2))]) rfl rfl rfl ?_
  refine zs_aload rfl rfl ?_
  refine zs_aload rfl rfl ?_
  refine zs_iload rfl rfl ?_
  refine z_callV (k := 0) (as0 := [.int (z_i v2)]) (r := [.ref 0]) rfl rfl rfl (Nat.le_of_ble_eq_true rfl) (z_oI h (fun v4 D3 h => ?_) (fun _ _ h => h))
  refine z_callS (as0 := [.int (z_i v4)]) (r := [.ref 0]) rfl rfl (Nat.le_of_ble_eq_true rfl) (z_oZ h (fun v6 D5 h => ?_) (fun _ _ h => h))
  obtain ⟨h7, h8⟩ := h
  refine zs_beq rfl (fun c => ?_) (fun c => ?_)
  · have h := h7 c
    refine zs_iload rfl rfl ?_
    exact v_tMarkNext_27 (by first | assumption | exact trivial) h
  · have h := h8 c
    refine zs_iload rfl rfl ?_
    refine zs_pushI (16384) rfl rfl ?_
    refine zs_or (a := v2) (b := 16384) rfl ?_
    refine zs_goto rfl ?_
    exact v_tMarkNext_27 (by first | assumption | exact trivial) h
theorem r_tMarkNext {n d : Nat}  {D : z_D} {K : z_D → Prop} {T : Nat → z_D → Prop}  (h : w_tMarkNext_0 n d D K T) : z_c n (d + 1) 84 [.ref 0] D (z_qV K T) :=
  z_enter (Nat.le_of_ble_eq_true rfl) rfl (fun X => v_tMarkNext_0 h)
-- 85: TokenMouth.makeName()I
def w_tMakeName_0 (n d : Nat)  (D : z_D) (H13 : Int64 → Int64 → Int → Int → z_D → Prop) (K : Int → z_D → Prop) (T : Nat → z_D → Prop) : Prop :=
  z_c n d 62 [.ref 0] D (z_qI (fun v2 D1 => 
    H13 (0) (0) v2 0 D1) T)
theorem v_tMakeName_0 {n d : Nat} {X : z_Xt}   {D : z_D} {H13 : Int64 → Int64 → Int → Int → z_D → Prop} {K : Int → z_D → Prop} {T : Nat → z_D → Prop} (hH13 : ∀ (a1 : Int64) (a3 : Int64) (a5 : Int) (a6 : Int) (D : z_D), H13 a1 a3 a5 a6 D → z_w n d (k_tb 85) X 13 [some (.ref 0), some (.long a1), none, some (.long a3), none, some (.int (z_i a5)), some (.int (z_i a6))] [] D (z_qI K T)) (h : w_tMakeName_0 n d D H13 K T) : z_w n d (k_tb 85) X 0 [some (.ref 0), none, none, none, none, none, none] [] D (z_qI K T) := by
  unfold w_tMakeName_0 at h
  refine zs_push rfl ?_
  refine zs_lstore (ls1 := [some (.ref 0), some (.long (0)), none, none, none, none, none]) rfl rfl rfl ?_
  refine zs_push rfl ?_
  refine zs_lstore (ls1 := [some (.ref 0), some (.long (0)), none, some (.long (0)), none, none, none]) rfl rfl rfl ?_
  refine zs_aload rfl rfl ?_
  refine z_callV (k := 0) (as0 := []) (r := []) rfl rfl rfl (Nat.le_of_ble_eq_true rfl) (z_oI h (fun v2 D1 h => ?_) (fun _ _ h => h))
  refine zs_istore (ls1 := [some (.ref 0), some (.long (0)), none, some (.long (0)), none, some (.int (z_i v2)), none]) rfl rfl rfl ?_
  refine zs_pushI (0) rfl rfl ?_
  refine zs_istore (ls1 := [some (.ref 0), some (.long (0)), none, some (.long (0)), none, some (.int (z_i v2)), some (.int (z_i 0))]) rfl rfl rfl ?_
  exact hH13 _ _ _ _  _  h
def w_tMakeName_58 (n d : Nat) (a1 : Int64) (a3 : Int64) (a5 : Int) (a6 : Int) (D : z_D) (H13 : Int64 → Int64 → Int → Int → z_D → Prop) (K : Int → z_D → Prop) (T : Nat → z_D → Prop) : Prop :=
  z_c n d 62 [.ref 0] D (z_qI (fun v2 D1 => 
    H13 ((z_shl a1 8) ||| (z_il (z_and a5 255))) ((z_shl a3 8) ||| (z_usr a1 56)) v2 (a6 + 1) D1) T)
theorem v_tMakeName_58 {n d : Nat} {X : z_Xt} {a1 : Int64} {a3 : Int64} {a5 : Int} {a6 : Int}  {D : z_D} {H13 : Int64 → Int64 → Int → Int → z_D → Prop} {K : Int → z_D → Prop} {T : Nat → z_D → Prop} (hH13 : ∀ (a1 : Int64) (a3 : Int64) (a5 : Int) (a6 : Int) (D : z_D), H13 a1 a3 a5 a6 D → z_w n d (k_tb 85) X 13 [some (.ref 0), some (.long a1), none, some (.long a3), none, some (.int (z_i a5)), some (.int (z_i a6))] [] D (z_qI K T)) (h : w_tMakeName_58 n d a1 a3 a5 a6 D H13 K T) : z_w n d (k_tb 85) X 58 [some (.ref 0), some (.long a1), none, some (.long a3), none, some (.int (z_i a5)), some (.int (z_i a6))] [] D (z_qI K T) := by
  unfold w_tMakeName_58 at h
  refine zs_lload rfl rfl ?_
  refine zs_pushI (8) rfl rfl ?_
  refine zs_li (b := 8) rfl ?_
  refine zs_lload rfl rfl ?_
  refine zs_pushI (56) rfl rfl ?_
  refine zs_li (b := 56) rfl ?_
  refine zs_ll rfl ?_
  refine zs_lstore (ls1 := [some (.ref 0), some (.long a1), none, some (.long ((z_shl a3 8) ||| (z_usr a1 56))), none, some (.int (z_i a5)), some (.int (z_i a6))]) rfl rfl rfl ?_
  refine zs_lload rfl rfl ?_
  refine zs_pushI (8) rfl rfl ?_
  refine zs_li (b := 8) rfl ?_
  refine zs_iload rfl rfl ?_
  refine zs_pushI (255) rfl rfl ?_
  refine zs_and (a := a5) (b := 255) rfl ?_
  refine zs_il (a := (z_and a5 255)) rfl ?_
  refine zs_ll rfl ?_
  refine zs_lstore (ls1 := [some (.ref 0), some (.long ((z_shl a1 8) ||| (z_il (z_and a5 255)))), none, some (.long ((z_shl a3 8) ||| (z_usr a1 56))), none, some (.int (z_i a5)), some (.int (z_i a6))]) rfl rfl rfl ?_
  refine zs_aload rfl rfl ?_
  refine z_callV (k := 0) (as0 := []) (r := []) rfl rfl rfl (Nat.le_of_ble_eq_true rfl) (z_oI h (fun v2 D1 h => ?_) (fun _ _ h => h))
  refine zs_istore (ls1 := [some (.ref 0), some (.long ((z_shl a1 8) ||| (z_il (z_and a5 255)))), none, some (.long ((z_shl a3 8) ||| (z_usr a1 56))), none, some (.int (z_i v2)), some (.int (z_i a6))]) rfl rfl rfl ?_
  refine zs_iinc (a := a6) (1) (ls1 := [some (.ref 0), some (.long ((z_shl a1 8) ||| (z_il (z_and a5 255)))), none, some (.long ((z_shl a3 8) ||| (z_usr a1 56))), none, some (.int (z_i v2)), some (.int (z_i (a6 + 1)))]) rfl rfl rfl rfl ?_
  refine zs_goto rfl ?_
  exact hH13 _ _ _ _  _  h
def w_tMakeName_45 (n d : Nat) (a1 : Int64) (a3 : Int64) (a5 : Int) (a6 : Int) (D : z_D) (H13 : Int64 → Int64 → Int → Int → z_D → Prop) (K : Int → z_D → Prop) (T : Nat → z_D → Prop) : Prop :=
  (z_r a6) ∧
  ((¬ a6 = 11) →
    w_tMakeName_58 n d a1 a3 a5 a6 D H13 K T) ∧
  ((a6 = 11) →
    z_c n d 48 [.ref 0, .int (z_i 5)] D (z_qI (fun v3 D2 => 
      w_tMakeName_58 n d a1 a3 a5 a6 D2 H13 K T) T))
theorem v_tMakeName_45 {n d : Nat} {X : z_Xt} {a1 : Int64} {a3 : Int64} {a5 : Int} {a6 : Int}  {D : z_D} {H13 : Int64 → Int64 → Int → Int → z_D → Prop} {K : Int → z_D → Prop} {T : Nat → z_D → Prop} (hH13 : ∀ (a1 : Int64) (a3 : Int64) (a5 : Int) (a6 : Int) (D : z_D), H13 a1 a3 a5 a6 D → z_w n d (k_tb 85) X 13 [some (.ref 0), some (.long a1), none, some (.long a3), none, some (.int (z_i a5)), some (.int (z_i a6))] [] D (z_qI K T)) (h : w_tMakeName_45 n d a1 a3 a5 a6 D H13 K T) : z_w n d (k_tb 85) X 45 [some (.ref 0), some (.long a1), none, some (.long a3), none, some (.int (z_i a5)), some (.int (z_i a6))] [] D (z_qI K T) := by
  unfold w_tMakeName_45 at h
  refine zs_iload rfl rfl ?_
  refine zs_pushI (11) rfl rfl ?_
  obtain ⟨g1, h⟩ := h
  obtain ⟨h4, h5⟩ := h
  refine zs_cne rfl g1 (z_rk rfl) (fun c => ?_) (fun c => ?_)
  · have h := h4 c
    exact v_tMakeName_58 hH13 h
  · have h := h5 c
    refine zs_aload rfl rfl ?_
    refine zs_pushI (5) rfl rfl ?_
    refine z_callV (k := 0) (as0 := [.int (z_i 5)]) (r := []) rfl rfl rfl (Nat.le_of_ble_eq_true rfl) (z_oI h (fun v3 D2 h => ?_) (fun _ _ h => h))
    refine zs_pop rfl rfl ?_
    exact v_tMakeName_58 hH13 h
def w_tMakeName_105 (n d : Nat) (a1 : Int64) (a3 : Int64) (D : z_D)  (K : Int → z_D → Prop) (T : Nat → z_D → Prop) : Prop :=
  z_c n d 9 [.ref 4, .long a1, .long a3, .int (z_i (z_b true))] D (z_qI (fun v2 D1 => 
    (z_r v2) ∧
    ((¬ v2 = (-1)) →
      K (4096 + v2) D1) ∧
    ((v2 = (-1)) →
      z_c n d 48 [.ref 0, .int (z_i 5)] D1 (z_qI (fun v5 D4 => 
        K v5 D4) T))) T)
theorem v_tMakeName_105 {n d : Nat} {X : z_Xt} {a1 : Int64} {a3 : Int64} {o5 : Option Value} {o6 : Option Value} {D : z_D}  {K : Int → z_D → Prop} {T : Nat → z_D → Prop} (n5 : z_nl o5) (n6 : z_nl o6) (h : w_tMakeName_105 n d a1 a3 D K T) : z_w n d (k_tb 85) X 105 [some (.ref 0), some (.long a1), none, some (.long a3), none, o5, o6] [] D (z_qI K T) := by
  unfold w_tMakeName_105 at h
  refine zs_aload rfl rfl ?_
  refine zs_getR (x := 4) rfl rfl rfl ?_
  refine zs_lload rfl rfl ?_
  refine zs_lload rfl rfl ?_
  refine zs_pushI (1) rfl rfl ?_
  refine z_callV (k := 4) (as0 := [.long a1, .long a3, .int (z_i (z_b true))]) (r := []) rfl rfl rfl (Nat.le_of_ble_eq_true rfl) (z_oI h (fun v2 D1 h => ?_) (fun _ _ h => h))
  refine zs_istore (ls1 := [some (.ref 0), some (.long a1), none, some (.long a3), none, o5, some (.int (z_i v2))]) rfl rfl ((z_st1 rfl n5).trans rfl) ?_
  refine zs_iload rfl rfl ?_
  refine zs_pushI (-1) rfl rfl ?_
  obtain ⟨g3, h⟩ := h
  obtain ⟨h6, h7⟩ := h
  refine zs_cne rfl g3 (z_rk rfl) (fun c => ?_) (fun c => ?_)
  · have h := h6 c
    refine zs_pushI (4096) rfl rfl ?_
    refine zs_iload rfl rfl ?_
    refine zs_add (a := 4096) (b := v2) rfl ?_
    exact zs_iret rfl h
  · have h := h7 c
    refine zs_aload rfl rfl ?_
    refine zs_pushI (5) rfl rfl ?_
    refine z_callV (k := 0) (as0 := [.int (z_i 5)]) (r := []) rfl rfl rfl (Nat.le_of_ble_eq_true rfl) (z_oI h (fun v5 D4 h => ?_) (fun _ _ h => h))
    refine zs_goto rfl ?_
    exact zs_iret rfl h
def w_tMakeName_93 (n d : Nat) (a1 : Int64) (a3 : Int64) (D : z_D)  (K : Int → z_D → Prop) (T : Nat → z_D → Prop) : Prop :=
  ((¬ (z_cmp a1 (0)) = 0) →
    w_tMakeName_105 n d a1 a3 D K T) ∧
  (((z_cmp a1 (0)) = 0) →
    z_c n d 48 [.ref 0, .int (z_i 4)] D (z_qI (fun v2 D1 => 
      w_tMakeName_105 n d a1 a3 D1 K T) T))
theorem v_tMakeName_93 {n d : Nat} {X : z_Xt} {a1 : Int64} {a3 : Int64} {o5 : Option Value} {o6 : Option Value} {D : z_D}  {K : Int → z_D → Prop} {T : Nat → z_D → Prop} (n5 : z_nl o5) (n6 : z_nl o6) (h : w_tMakeName_93 n d a1 a3 D K T) : z_w n d (k_tb 85) X 93 [some (.ref 0), some (.long a1), none, some (.long a3), none, o5, o6] [] D (z_qI K T) := by
  unfold w_tMakeName_93 at h
  refine zs_lload rfl rfl ?_
  refine zs_push rfl ?_
  refine zs_cmp rfl ?_
  obtain ⟨h3, h4⟩ := h
  refine zs_ifne rfl (z_r_toInt _) (fun c => ?_) (fun c => ?_)
  · have h := h3 c
    exact v_tMakeName_105 (by first | assumption | exact trivial) (by first | assumption | exact trivial) h
  · have h := h4 c
    refine zs_aload rfl rfl ?_
    refine zs_pushI (4) rfl rfl ?_
    refine z_callV (k := 0) (as0 := [.int (z_i 4)]) (r := []) rfl rfl rfl (Nat.le_of_ble_eq_true rfl) (z_oI h (fun v2 D1 h => ?_) (fun _ _ h => h))
    refine zs_pop rfl rfl ?_
    exact v_tMakeName_105 (by first | assumption | exact trivial) (by first | assumption | exact trivial) h
def w_tMakeName_13 (n d : Nat) (a1 : Int64) (a3 : Int64) (a5 : Int) (a6 : Int) (D : z_D) (H13 : Int64 → Int64 → Int → Int → z_D → Prop) (K : Int → z_D → Prop) (T : Nat → z_D → Prop) : Prop :=
  (z_r a6) ∧
  ((11 < a6) →
    w_tMakeName_93 n d a1 a3 D K T) ∧
  ((a6 ≤ 11) →
    z_c n d 55 [.ref 0, .int (z_i a5)] D (z_qI (fun v3 D2 => 
      (z_r v3) ∧
      ((v3 = 11) →
        w_tMakeName_93 n d a1 a3 D2 K T) ∧
      ((¬ v3 = 11) →
        (z_r a5) ∧
        ((a5 < 4096) →
          w_tMakeName_45 n d a1 a3 a5 a6 D2 H13 K T) ∧
        ((4096 ≤ a5) →
          z_c n d 48 [.ref 0, .int (z_i 4)] D2 (z_qI (fun v7 D6 => 
            w_tMakeName_45 n d a1 a3 a5 a6 D6 H13 K T) T)))) T))
theorem v_tMakeName_13 {n d : Nat} {X : z_Xt} {a1 : Int64} {a3 : Int64} {a5 : Int} {a6 : Int}  {D : z_D} {H13 : Int64 → Int64 → Int → Int → z_D → Prop} {K : Int → z_D → Prop} {T : Nat → z_D → Prop} (hH13 : ∀ (a1 : Int64) (a3 : Int64) (a5 : Int) (a6 : Int) (D : z_D), H13 a1 a3 a5 a6 D → z_w n d (k_tb 85) X 13 [some (.ref 0), some (.long a1), none, some (.long a3), none, some (.int (z_i a5)), some (.int (z_i a6))] [] D (z_qI K T)) (h : w_tMakeName_13 n d a1 a3 a5 a6 D H13 K T) : z_w n d (k_tb 85) X 13 [some (.ref 0), some (.long a1), none, some (.long a3), none, some (.int (z_i a5)), some (.int (z_i a6))] [] D (z_qI K T) := by
  unfold w_tMakeName_13 at h
  refine zs_iload rfl rfl ?_
  refine zs_pushI (11) rfl rfl ?_
  obtain ⟨g1, h⟩ := h
  obtain ⟨h12, h13⟩ := h
  refine zs_cgt rfl g1 (z_rk rfl) (fun c => ?_) (fun c => ?_)
  · have h := h12 c
    exact v_tMakeName_93 (by first | assumption | exact trivial) (by first | assumption | exact trivial) h
  · have h := h13 c
    refine zs_aload rfl rfl ?_
    refine zs_iload rfl rfl ?_
    refine z_callV (k := 0) (as0 := [.int (z_i a5)]) (r := []) rfl rfl rfl (Nat.le_of_ble_eq_true rfl) (z_oI h (fun v3 D2 h => ?_) (fun _ _ h => h))
    refine zs_pushI (11) rfl rfl ?_
    obtain ⟨g4, h⟩ := h
    obtain ⟨h10, h11⟩ := h
    refine zs_ceq rfl g4 (z_rk rfl) (fun c => ?_) (fun c => ?_)
    · have h := h10 c
      exact v_tMakeName_93 (by first | assumption | exact trivial) (by first | assumption | exact trivial) h
    · have h := h11 c
      refine zs_iload rfl rfl ?_
      refine zs_pushI (4096) rfl rfl ?_
      obtain ⟨g5, h⟩ := h
      obtain ⟨h8, h9⟩ := h
      refine zs_clt rfl g5 (z_rk rfl) (fun c => ?_) (fun c => ?_)
      · have h := h8 c
        exact v_tMakeName_45 hH13 h
      · have h := h9 c
        refine zs_aload rfl rfl ?_
        refine zs_pushI (4) rfl rfl ?_
        refine z_callV (k := 0) (as0 := [.int (z_i 4)]) (r := []) rfl rfl rfl (Nat.le_of_ble_eq_true rfl) (z_oI h (fun v7 D6 h => ?_) (fun _ _ h => h))
        refine zs_pop rfl rfl ?_
        exact v_tMakeName_45 hH13 h
theorem r_tMakeName {n d : Nat}  {D : z_D} {K : Int → z_D → Prop} {T : Nat → z_D → Prop}  (I13 : Nat → Int64 → Int64 → Int → Int → z_D → Prop) (hE : w_tMakeName_0 n d D (fun a1 a3 a5 a6 D => ∃ m, I13 m a1 a3 a5 a6 D) K T) (h13 : ∀ (mm : Nat) (a1 : Int64) (a3 : Int64) (a5 : Int) (a6 : Int) (D : z_D), I13 mm a1 a3 a5 a6 D → w_tMakeName_13 n d a1 a3 a5 a6 D (fun a1 a3 a5 a6 D => ∃ m, m < mm ∧ I13 m a1 a3 a5 a6 D) K T) : z_c n (d + 1) 85 [.ref 0] D (z_qI K T) := by
  refine z_enter (Nat.le_of_ble_eq_true rfl) rfl (fun X => ?_)
  have key : ∀ m, (∀ (a1 : Int64) (a3 : Int64) (a5 : Int) (a6 : Int) (D : z_D), I13 m a1 a3 a5 a6 D → z_w n d (k_tb 85) X 13 [some (.ref 0), some (.long a1), none, some (.long a3), none, some (.int (z_i a5)), some (.int (z_i a6))] [] D (z_qI K T)) := by
    intro m
    induction m using Nat.strongRecOn with
    | _ mm ih =>
      exact fun a1 a3 a5 a6 D hI => v_tMakeName_13 (fun a1 a3 a5 a6 D ⟨m, hm, hI⟩ => (ih m hm) _ _ _ _ _  hI) (h13 mm a1 a3 a5 a6 D hI)
  exact v_tMakeName_0 (fun a1 a3 a5 a6 D ⟨m, hI⟩ => (key m) _ _ _ _ _  hI) hE
