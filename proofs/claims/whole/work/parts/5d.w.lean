/-! what the methods mean; printed by wip/whole/dec.py -/
-- 64: TokenMouth.execute(I)V
def w_tExecute_132 (n d : Nat) (s1 : Int) (s2 : Bool) (D : z_D)  (K : z_D → Prop) (T : Nat → z_D → Prop) : Prop :=
  z_c n d 78 [.ref 0, .int (z_i s1), .int (z_i (z_b s2))] D (z_qV (fun D1 => 
    K D1) T)
theorem v_tExecute_132 {n d : Nat} {X : z_Xt} {s1 : Int} {s2 : Bool} {o1 : Option Value} {o2 : Option Value} {D : z_D}  {K : z_D → Prop} {T : Nat → z_D → Prop} (n1 : z_nl o1) (n2 : z_nl o2) (h : w_tExecute_132 n d s1 s2 D K T) : z_w n d (k_tb 64) X 132 [some (.ref 0), o1, o2] [.int (z_i (z_b s2)), .int (z_i s1), .ref 0] D (z_qV K T) := by
  unfold w_tExecute_132 at h
  refine z_callV (k := 0) (as0 := [.int (z_i s1), .int (z_i (z_b s2))]) (r := []) rfl rfl rfl (Nat.le_of_ble_eq_true rfl) (z_oV h (fun D1 h => ?_) (fun _ _ h => h))
  refine zs_goto rfl ?_
  exact zs_ret rfl h
def w_tExecute_117 (n d : Nat) (a1 : Int) (a2 : Int) (s1 : Bool) (D : z_D)  (K : z_D → Prop) (T : Nat → z_D → Prop) : Prop :=
  z_c n d 76 [.ref 0, .int (z_i (z_b s1))] D (z_qV (fun D1 => 
    (z_r a1) ∧
    ((¬ a1 = 4) →
      w_tExecute_132 n d a2 false D1 K T) ∧
    ((a1 = 4) →
      w_tExecute_132 n d a2 true D1 K T)) T)
theorem v_tExecute_117 {n d : Nat} {X : z_Xt} {a1 : Int} {a2 : Int} {s1 : Bool}  {D : z_D}  {K : z_D → Prop} {T : Nat → z_D → Prop}  (h : w_tExecute_117 n d a1 a2 s1 D K T) : z_w n d (k_tb 64) X 117 [some (.ref 0), some (.int (z_i a1)), some (.int (z_i a2))] [.int (z_i (z_b s1)), .ref 0] D (z_qV K T) := by
  unfold w_tExecute_117 at h
  refine z_callV (k := 0) (as0 := [.int (z_i (z_b s1))]) (r := []) rfl rfl rfl (Nat.le_of_ble_eq_true rfl) (z_oV h (fun D1 h => ?_) (fun _ _ h => h))
  refine zs_aload rfl rfl ?_
  refine zs_iload rfl rfl ?_
  refine zs_iload rfl rfl ?_
  refine zs_pushI (4) rfl rfl ?_
  obtain ⟨g2, h⟩ := h
  obtain ⟨h3, h4⟩ := h
  refine zs_cne rfl g2 (z_rk rfl) (fun c => ?_) (fun c => ?_)
  · have h := h3 c
    refine zs_pushI (0) rfl rfl ?_
    exact v_tExecute_132 (by first | assumption | exact trivial) (by first | assumption | exact trivial) h
  · have h := h4 c
    refine zs_pushI (1) rfl rfl ?_
    refine zs_goto rfl ?_
    exact v_tExecute_132 (by first | assumption | exact trivial) (by first | assumption | exact trivial) h
def w_tExecute_0 (n d : Nat) (a1 : Int) (D : z_D)  (K : z_D → Prop) (T : Nat → z_D → Prop) : Prop :=
  z_c n d 57 [.int (z_i a1)] D (z_qZ (fun v2 D1 => 
    ((v2 = false) →
      z_c n d 56 [.int (z_i a1)] D1 (z_qZ (fun v4 D3 => 
        ((v4 = false) →
          (z_r a1) ∧
          (a1 = 1 →
            z_c n d 66 [.ref 0, .int (z_i 4096)] D3 (z_qV (fun D6 => 
              K D6) T)) ∧
          (a1 = 2 →
            K D3) ∧
          (a1 = 3 →
            z_c n d 70 [.ref 0] D3 (z_qI (fun v10 D9 => 
              z_c n d 74 [.ref 0] D9 (z_qV (fun D11 => 
                ((¬ a1 = 5) →
                  w_tExecute_117 n d a1 v10 false D11 K T) ∧
                ((a1 = 5) →
                  w_tExecute_117 n d a1 v10 true D11 K T)) T)) T)) ∧
          (a1 = 4 →
            z_c n d 70 [.ref 0] D3 (z_qI (fun v16 D15 => 
              z_c n d 74 [.ref 0] D15 (z_qV (fun D17 => 
                ((¬ a1 = 5) →
                  w_tExecute_117 n d a1 v16 false D17 K T) ∧
                ((a1 = 5) →
                  w_tExecute_117 n d a1 v16 true D17 K T)) T)) T)) ∧
          (a1 = 5 →
            z_c n d 70 [.ref 0] D3 (z_qI (fun v22 D21 => 
              z_c n d 74 [.ref 0] D21 (z_qV (fun D23 => 
                ((¬ a1 = 5) →
                  w_tExecute_117 n d a1 v22 false D23 K T) ∧
                ((a1 = 5) →
                  w_tExecute_117 n d a1 v22 true D23 K T)) T)) T)) ∧
          (a1 = 6 →
            z_c n d 71 [.ref 0] D3 (z_qV (fun D27 => 
              K D27) T)) ∧
          (a1 = 7 →
            z_c n d 72 [.ref 0] D3 (z_qV (fun D29 => 
              K D29) T)) ∧
          (a1 = 8 →
            z_c n d 48 [.ref 0, .int (z_i 2)] D3 (z_qI (fun v32 D31 => 
              K D31) T)) ∧
          (a1 = 9 →
            z_c n d 48 [.ref 0, .int (z_i 2)] D3 (z_qI (fun v35 D34 => 
              K D34) T)) ∧
          (a1 = 10 →
            z_c n d 48 [.ref 0, .int (z_i 2)] D3 (z_qI (fun v38 D37 => 
              K D37) T)) ∧
          (a1 = 11 →
            z_c n d 48 [.ref 0, .int (z_i 1)] D3 (z_qI (fun v41 D40 => 
              K D40) T)) ∧
          (¬ a1 = 1 → ¬ a1 = 2 → ¬ a1 = 3 → ¬ a1 = 4 → ¬ a1 = 5 → ¬ a1 = 6 → ¬ a1 = 7 → ¬ a1 = 8 → ¬ a1 = 9 → ¬ a1 = 10 → ¬ a1 = 11 →
            z_c n d 48 [.ref 0, .int (z_i 2)] D3 (z_qI (fun v44 D43 => 
              K D43) T))) ∧
        ((v4 = true) →
          z_c n d 65 [.ref 0, .int (z_i a1)] D3 (z_qV (fun D57 => 
            K D57) T))) T)) ∧
    ((v2 = true) →
      z_c n d 79 [.ref 0, .int (z_i a1)] D1 (z_qV (fun D60 => 
        K D60) T))) T)
theorem v_tExecute_0 {n d : Nat} {X : z_Xt} {a1 : Int}  {D : z_D}  {K : z_D → Prop} {T : Nat → z_D → Prop}  (h : w_tExecute_0 n d a1 D K T) : z_w n d (k_tb 64) X 0 [some (.ref 0), some (.int (z_i a1)), none] [] D (z_qV K T) := by
  unfold w_tExecute_0 at h
  refine zs_iload rfl rfl ?_
  refine z_callS (as0 := [.int (z_i a1)]) (r := []) rfl rfl (Nat.le_of_ble_eq_true rfl) (z_oZ h (fun v2 D1 h => ?_) (fun _ _ h => h))
  obtain ⟨h61, h62⟩ := h
  refine zs_beq rfl (fun c => ?_) (fun c => ?_)
  · have h := h61 c
    refine zs_iload rfl rfl ?_
    refine z_callS (as0 := [.int (z_i a1)]) (r := []) rfl rfl (Nat.le_of_ble_eq_true rfl) (z_oZ h (fun v4 D3 h => ?_) (fun _ _ h => h))
    obtain ⟨h58, h59⟩ := h
    refine zs_beq rfl (fun c => ?_) (fun c => ?_)
    · have h := h58 c
      refine zs_iload rfl rfl ?_
      obtain ⟨g5, h⟩ := h
      obtain ⟨h7, h8, h14, h20, h26, h28, h30, h33, h36, h39, h42, h45⟩ := h
      refine zw_s rfl rfl ?_
      refine z_sw1 g5 (z_rk (z := 1) rfl) rfl (fun c => ?_) (fun e46 => ?_)
      · have h := h7 c
        refine zs_aload rfl rfl ?_
        refine zs_pushI (4096) rfl rfl ?_
        refine z_callV (k := 0) (as0 := [.int (z_i 4096)]) (r := []) rfl rfl rfl (Nat.le_of_ble_eq_true rfl) (z_oV h (fun D6 h => ?_) (fun _ _ h => h))
        refine zs_goto rfl ?_
        exact zs_ret rfl h
      refine z_sw1 g5 (z_rk (z := 2) rfl) rfl (fun c => ?_) (fun e47 => ?_)
      · have h := h8 c
        refine zs_goto rfl ?_
        exact zs_ret rfl h
      refine z_sw1 g5 (z_rk (z := 3) rfl) rfl (fun c => ?_) (fun e48 => ?_)
      · have h := h14 c
        refine zs_aload rfl rfl ?_
        refine z_callV (k := 0) (as0 := []) (r := []) rfl rfl rfl (Nat.le_of_ble_eq_true rfl) (z_oI h (fun v10 D9 h => ?_) (fun _ _ h => h))
        refine zs_istore (ls1 := [some (.ref 0), some (.int (z_i a1)), some (.int (z_i v10))]) rfl rfl rfl ?_
        refine zs_aload rfl rfl ?_
        refine z_callV (k := 0) (as0 := []) (r := []) rfl rfl rfl (Nat.le_of_ble_eq_true rfl) (z_oV h (fun D11 h => ?_) (fun _ _ h => h))
        refine zs_aload rfl rfl ?_
        refine zs_iload rfl rfl ?_
        refine zs_pushI (5) rfl rfl ?_
        obtain ⟨h12, h13⟩ := h
        refine zs_cne rfl g5 (z_rk rfl) (fun c => ?_) (fun c => ?_)
        · have h := h12 c
          refine zs_pushI (0) rfl rfl ?_
          exact v_tExecute_117 h
        · have h := h13 c
          refine zs_pushI (1) rfl rfl ?_
          refine zs_goto rfl ?_
          exact v_tExecute_117 h
      refine z_sw1 g5 (z_rk (z := 4) rfl) rfl (fun c => ?_) (fun e49 => ?_)
      · have h := h20 c
        refine zs_aload rfl rfl ?_
        refine z_callV (k := 0) (as0 := []) (r := []) rfl rfl rfl (Nat.le_of_ble_eq_true rfl) (z_oI h (fun v16 D15 h => ?_) (fun _ _ h => h))
        refine zs_istore (ls1 := [some (.ref 0), some (.int (z_i a1)), some (.int (z_i v16))]) rfl rfl rfl ?_
        refine zs_aload rfl rfl ?_
        refine z_callV (k := 0) (as0 := []) (r := []) rfl rfl rfl (Nat.le_of_ble_eq_true rfl) (z_oV h (fun D17 h => ?_) (fun _ _ h => h))
        refine zs_aload rfl rfl ?_
        refine zs_iload rfl rfl ?_
        refine zs_pushI (5) rfl rfl ?_
        obtain ⟨h18, h19⟩ := h
        refine zs_cne rfl g5 (z_rk rfl) (fun c => ?_) (fun c => ?_)
        · have h := h18 c
          refine zs_pushI (0) rfl rfl ?_
          exact v_tExecute_117 h
        · have h := h19 c
          refine zs_pushI (1) rfl rfl ?_
          refine zs_goto rfl ?_
          exact v_tExecute_117 h
      refine z_sw1 g5 (z_rk (z := 5) rfl) rfl (fun c => ?_) (fun e50 => ?_)
      · have h := h26 c
        refine zs_aload rfl rfl ?_
        refine z_callV (k := 0) (as0 := []) (r := []) rfl rfl rfl (Nat.le_of_ble_eq_true rfl) (z_oI h (fun v22 D21 h => ?_) (fun _ _ h => h))
        refine zs_istore (ls1 := [some (.ref 0), some (.int (z_i a1)), some (.int (z_i v22))]) rfl rfl rfl ?_
        refine zs_aload rfl rfl ?_
        refine z_callV (k := 0) (as0 := []) (r := []) rfl rfl rfl (Nat.le_of_ble_eq_true rfl) (z_oV h (fun D23 h => ?_) (fun _ _ h => h))
        refine zs_aload rfl rfl ?_
        refine zs_iload rfl rfl ?_
        refine zs_pushI (5) rfl rfl ?_
        obtain ⟨h24, h25⟩ := h
        refine zs_cne rfl g5 (z_rk rfl) (fun c => ?_) (fun c => ?_)
        · have h := h24 c
          refine zs_pushI (0) rfl rfl ?_
          exact v_tExecute_117 h
        · have h := h25 c
          refine zs_pushI (1) rfl rfl ?_
          refine zs_goto rfl ?_
          exact v_tExecute_117 h
      refine z_sw1 g5 (z_rk (z := 6) rfl) rfl (fun c => ?_) (fun e51 => ?_)
      · have h := h28 c
        refine zs_aload rfl rfl ?_
        refine z_callV (k := 0) (as0 := []) (r := []) rfl rfl rfl (Nat.le_of_ble_eq_true rfl) (z_oV h (fun D27 h => ?_) (fun _ _ h => h))
        refine zs_goto rfl ?_
        exact zs_ret rfl h
      refine z_sw1 g5 (z_rk (z := 7) rfl) rfl (fun c => ?_) (fun e52 => ?_)
      · have h := h30 c
        refine zs_aload rfl rfl ?_
        refine z_callV (k := 0) (as0 := []) (r := []) rfl rfl rfl (Nat.le_of_ble_eq_true rfl) (z_oV h (fun D29 h => ?_) (fun _ _ h => h))
        refine zs_goto rfl ?_
        exact zs_ret rfl h
      refine z_sw1 g5 (z_rk (z := 8) rfl) rfl (fun c => ?_) (fun e53 => ?_)
      · have h := h33 c
        refine zs_aload rfl rfl ?_
        refine zs_pushI (2) rfl rfl ?_
        refine z_callV (k := 0) (as0 := [.int (z_i 2)]) (r := []) rfl rfl rfl (Nat.le_of_ble_eq_true rfl) (z_oI h (fun v32 D31 h => ?_) (fun _ _ h => h))
        refine zs_pop rfl rfl ?_
        exact zs_ret rfl h
      refine z_sw1 g5 (z_rk (z := 9) rfl) rfl (fun c => ?_) (fun e54 => ?_)
      · have h := h36 c
        refine zs_aload rfl rfl ?_
        refine zs_pushI (2) rfl rfl ?_
        refine z_callV (k := 0) (as0 := [.int (z_i 2)]) (r := []) rfl rfl rfl (Nat.le_of_ble_eq_true rfl) (z_oI h (fun v35 D34 h => ?_) (fun _ _ h => h))
        refine zs_pop rfl rfl ?_
        exact zs_ret rfl h
      refine z_sw1 g5 (z_rk (z := 10) rfl) rfl (fun c => ?_) (fun e55 => ?_)
      · have h := h39 c
        refine zs_aload rfl rfl ?_
        refine zs_pushI (2) rfl rfl ?_
        refine z_callV (k := 0) (as0 := [.int (z_i 2)]) (r := []) rfl rfl rfl (Nat.le_of_ble_eq_true rfl) (z_oI h (fun v38 D37 h => ?_) (fun _ _ h => h))
        refine zs_pop rfl rfl ?_
        exact zs_ret rfl h
      refine z_sw1 g5 (z_rk (z := 11) rfl) rfl (fun c => ?_) (fun e56 => ?_)
      · have h := h42 c
        refine zs_aload rfl rfl ?_
        refine zs_pushI (1) rfl rfl ?_
        refine z_callV (k := 0) (as0 := [.int (z_i 1)]) (r := []) rfl rfl rfl (Nat.le_of_ble_eq_true rfl) (z_oI h (fun v41 D40 h => ?_) (fun _ _ h => h))
        refine zs_pop rfl rfl ?_
        refine zs_goto rfl ?_
        exact zs_ret rfl h
      refine z_sw0 ?_
      have h := h45 e46 e47 e48 e49 e50 e51 e52 e53 e54 e55 e56
      refine zs_aload rfl rfl ?_
      refine zs_pushI (2) rfl rfl ?_
      refine z_callV (k := 0) (as0 := [.int (z_i 2)]) (r := []) rfl rfl rfl (Nat.le_of_ble_eq_true rfl) (z_oI h (fun v44 D43 h => ?_) (fun _ _ h => h))
      refine zs_pop rfl rfl ?_
      exact zs_ret rfl h
    · have h := h59 c
      refine zs_aload rfl rfl ?_
      refine zs_iload rfl rfl ?_
      refine z_callV (k := 0) (as0 := [.int (z_i a1)]) (r := []) rfl rfl rfl (Nat.le_of_ble_eq_true rfl) (z_oV h (fun D57 h => ?_) (fun _ _ h => h))
      exact zs_ret rfl h
  · have h := h62 c
    refine zs_aload rfl rfl ?_
    refine zs_iload rfl rfl ?_
    refine z_callV (k := 0) (as0 := [.int (z_i a1)]) (r := []) rfl rfl rfl (Nat.le_of_ble_eq_true rfl) (z_oV h (fun D60 h => ?_) (fun _ _ h => h))
    exact zs_ret rfl h
theorem r_tExecute {n d : Nat} {a1 : Int} {D : z_D} {K : z_D → Prop} {T : Nat → z_D → Prop}  (h : w_tExecute_0 n d a1 D K T) : z_c n (d + 1) 64 [.ref 0, .int (z_i a1)] D (z_qV K T) :=
  z_enter (Nat.le_of_ble_eq_true rfl) rfl (fun X => v_tExecute_0 h)
-- 65: TokenMouth.executeCharacter(I)V
def w_tExecuteCharacter_0 (n d : Nat) (a1 : Int) (D : z_D)  (K : z_D → Prop) (T : Nat → z_D → Prop) : Prop :=
  z_c n d 53 [.int (z_i a1)] D (z_qI (fun v2 D1 => 
    (z_r v2) ∧
    ((¬ v2 = 1) →
      ((¬ v2 = 2) →
        z_c n d 66 [.ref 0, .int (z_i a1)] D1 (z_qV (fun D4 => 
          K D4) T)) ∧
      ((v2 = 2) →
        z_c n d 67 [.ref 0] D1 (z_qV (fun D5 => 
          K D5) T))) ∧
    ((v2 = 1) →
      z_c n d 2 [.ref 8] D1 (z_qZ (fun v9 D8 => 
        ((v9 = true) →
          K D8) ∧
        ((v9 = false) →
          z_c n d 48 [.ref 0, .int (z_i 5)] D8 (z_qI (fun v11 D10 => 
            K D10) T))) T))) T)
theorem v_tExecuteCharacter_0 {n d : Nat} {X : z_Xt} {a1 : Int}  {D : z_D}  {K : z_D → Prop} {T : Nat → z_D → Prop}  (h : w_tExecuteCharacter_0 n d a1 D K T) : z_w n d (k_tb 65) X 0 [some (.ref 0), some (.int (z_i a1)), none] [] D (z_qV K T) := by
  unfold w_tExecuteCharacter_0 at h
  refine zs_iload rfl rfl ?_
  refine z_callS (as0 := [.int (z_i a1)]) (r := []) rfl rfl (Nat.le_of_ble_eq_true rfl) (z_oI h (fun v2 D1 h => ?_) (fun _ _ h => h))
  refine zs_istore (ls1 := [some (.ref 0), some (.int (z_i a1)), some (.int (z_i v2))]) rfl rfl rfl ?_
  refine zs_iload rfl rfl ?_
  refine zs_pushI (1) rfl rfl ?_
  obtain ⟨g3, h⟩ := h
  obtain ⟨h14, h15⟩ := h
  refine zs_cne rfl g3 (z_rk rfl) (fun c => ?_) (fun c => ?_)
  · have h := h14 c
    refine zs_iload rfl rfl ?_
    refine zs_pushI (2) rfl rfl ?_
    obtain ⟨h6, h7⟩ := h
    refine zs_cne rfl g3 (z_rk rfl) (fun c => ?_) (fun c => ?_)
    · have h := h6 c
      refine zs_aload rfl rfl ?_
      refine zs_iload rfl rfl ?_
      refine z_callV (k := 0) (as0 := [.int (z_i a1)]) (r := []) rfl rfl rfl (Nat.le_of_ble_eq_true rfl) (z_oV h (fun D4 h => ?_) (fun _ _ h => h))
      exact zs_ret rfl h
    · have h := h7 c
      refine zs_aload rfl rfl ?_
      refine z_callV (k := 0) (as0 := []) (r := []) rfl rfl rfl (Nat.le_of_ble_eq_true rfl) (z_oV h (fun D5 h => ?_) (fun _ _ h => h))
      refine zs_goto rfl ?_
      exact zs_ret rfl h
  · have h := h15 c
    refine zs_aload rfl rfl ?_
    refine zs_getR (x := 8) rfl rfl rfl ?_
    refine z_callV (k := 8) (as0 := []) (r := []) rfl rfl rfl (Nat.le_of_ble_eq_true rfl) (z_oZ h (fun v9 D8 h => ?_) (fun _ _ h => h))
    obtain ⟨h12, h13⟩ := h
    refine zs_bne rfl (fun c => ?_) (fun c => ?_)
    · have h := h12 c
      exact zs_ret rfl h
    · have h := h13 c
      refine zs_aload rfl rfl ?_
      refine zs_pushI (5) rfl rfl ?_
      refine z_callV (k := 0) (as0 := [.int (z_i 5)]) (r := []) rfl rfl rfl (Nat.le_of_ble_eq_true rfl) (z_oI h (fun v11 D10 h => ?_) (fun _ _ h => h))
      refine zs_pop rfl rfl ?_
      refine zs_goto rfl ?_
      exact zs_ret rfl h
theorem r_tExecuteCharacter {n d : Nat} {a1 : Int} {D : z_D} {K : z_D → Prop} {T : Nat → z_D → Prop}  (h : w_tExecuteCharacter_0 n d a1 D K T) : z_c n (d + 1) 65 [.ref 0, .int (z_i a1)] D (z_qV K T) :=
  z_enter (Nat.le_of_ble_eq_true rfl) rfl (fun X => v_tExecuteCharacter_0 h)
-- 66: TokenMouth.putOut(I)V
def w_tPutOut_0 (n d : Nat) (a1 : Int) (D : z_D)  (K : z_D → Prop) (T : Nat → z_D → Prop) : Prop :=
  z_c n d 27 [.ref 17, .int (z_i a1)] D (z_qZ (fun v2 D1 => 
    ((v2 = true) →
      K D1) ∧
    ((v2 = false) →
      z_c n d 48 [.ref 0, .int (z_i 5)] D1 (z_qI (fun v4 D3 => 
        K D3) T))) T)
theorem v_tPutOut_0 {n d : Nat} {X : z_Xt} {a1 : Int}  {D : z_D}  {K : z_D → Prop} {T : Nat → z_D → Prop}  (h : w_tPutOut_0 n d a1 D K T) : z_w n d (k_tb 66) X 0 [some (.ref 0), some (.int (z_i a1))] [] D (z_qV K T) := by
  unfold w_tPutOut_0 at h
  refine zs_aload rfl rfl ?_
  refine zs_getR (x := 17) rfl rfl rfl ?_
  refine zs_iload rfl rfl ?_
  refine z_callV (k := 17) (as0 := [.int (z_i a1)]) (r := []) rfl rfl rfl (Nat.le_of_ble_eq_true rfl) (z_oZ h (fun v2 D1 h => ?_) (fun _ _ h => h))
  obtain ⟨h5, h6⟩ := h
  refine zs_bne rfl (fun c => ?_) (fun c => ?_)
  · have h := h5 c
    exact zs_ret rfl h
  · have h := h6 c
    refine zs_aload rfl rfl ?_
    refine zs_pushI (5) rfl rfl ?_
    refine z_callV (k := 0) (as0 := [.int (z_i 5)]) (r := []) rfl rfl rfl (Nat.le_of_ble_eq_true rfl) (z_oI h (fun v4 D3 h => ?_) (fun _ _ h => h))
    refine zs_pop rfl rfl ?_
    exact zs_ret rfl h
theorem r_tPutOut {n d : Nat} {a1 : Int} {D : z_D} {K : z_D → Prop} {T : Nat → z_D → Prop}  (h : w_tPutOut_0 n d a1 D K T) : z_c n (d + 1) 66 [.ref 0, .int (z_i a1)] D (z_qV K T) :=
  z_enter (Nat.le_of_ble_eq_true rfl) rfl (fun X => v_tPutOut_0 h)
-- 67: TokenMouth.closeGroup()V
def w_tCloseGroup_22 (n d : Nat) (a1 : Int) (D : z_D) (H33 : Int → Int → z_D → Prop) (K : z_D → Prop) (T : Nat → z_D → Prop) : Prop :=
  z_c n d 24 [.ref 11] D (z_qI (fun v2 D1 => 
    H33 a1 v2 D1) T)
theorem v_tCloseGroup_22 {n d : Nat} {X : z_Xt} {a1 : Int}  {D : z_D} {H33 : Int → Int → z_D → Prop} {K : z_D → Prop} {T : Nat → z_D → Prop} (hH33 : ∀ (a1 : Int) (a2 : Int) (D : z_D), H33 a1 a2 D → z_w n d (k_tb 67) X 33 [some (.ref 0), some (.int (z_i a1)), some (.int (z_i a2))] [] D (z_qV K T)) (h : w_tCloseGroup_22 n d a1 D H33 K T) : z_w n d (k_tb 67) X 22 [some (.ref 0), some (.int (z_i a1)), none] [] D (z_qV K T) := by
  unfold w_tCloseGroup_22 at h
  refine zs_aload rfl rfl ?_
  refine zs_getR (x := 8) rfl rfl rfl ?_
  refine zs_getR (x := 11) rfl rfl rfl ?_
  refine z_callV (k := 11) (as0 := []) (r := []) rfl rfl rfl (Nat.le_of_ble_eq_true rfl) (z_oI h (fun v2 D1 h => ?_) (fun _ _ h => h))
  refine zs_istore (ls1 := [some (.ref 0), some (.int (z_i a1)), some (.int (z_i v2))]) rfl rfl rfl ?_
  exact hH33 _ _  _  h
def w_tCloseGroup_0 (n d : Nat)  (D : z_D) (H33 : Int → Int → z_D → Prop) (K : z_D → Prop) (T : Nat → z_D → Prop) : Prop :=
  z_c n d 28 [.ref 9] D (z_qI (fun v2 D1 => 
    (z_r v2) ∧
    ((¬ v2 = (-1)) →
      w_tCloseGroup_22 n d v2 D1 H33 K T) ∧
    ((v2 = (-1)) →
      z_c n d 48 [.ref 0, .int (z_i 1)] D1 (z_qI (fun v5 D4 => 
        w_tCloseGroup_22 n d v2 D4 H33 K T) T))) T)
theorem v_tCloseGroup_0 {n d : Nat} {X : z_Xt}   {D : z_D} {H33 : Int → Int → z_D → Prop} {K : z_D → Prop} {T : Nat → z_D → Prop} (hH33 : ∀ (a1 : Int) (a2 : Int) (D : z_D), H33 a1 a2 D → z_w n d (k_tb 67) X 33 [some (.ref 0), some (.int (z_i a1)), some (.int (z_i a2))] [] D (z_qV K T)) (h : w_tCloseGroup_0 n d D H33 K T) : z_w n d (k_tb 67) X 0 [some (.ref 0), none, none] [] D (z_qV K T) := by
  unfold w_tCloseGroup_0 at h
  refine zs_aload rfl rfl ?_
  refine zs_getR (x := 8) rfl rfl rfl ?_
  refine zs_getR (x := 9) rfl rfl rfl ?_
  refine z_callV (k := 9) (as0 := []) (r := []) rfl rfl rfl (Nat.le_of_ble_eq_true rfl) (z_oI h (fun v2 D1 h => ?_) (fun _ _ h => h))
  refine zs_istore (ls1 := [some (.ref 0), some (.int (z_i v2)), none]) rfl rfl rfl ?_
  refine zs_iload rfl rfl ?_
  refine zs_pushI (-1) rfl rfl ?_
  obtain ⟨g3, h⟩ := h
  obtain ⟨h6, h7⟩ := h
  refine zs_cne rfl g3 (z_rk rfl) (fun c => ?_) (fun c => ?_)
  · have h := h6 c
    exact v_tCloseGroup_22 hH33 h
  · have h := h7 c
    refine zs_aload rfl rfl ?_
    refine zs_pushI (1) rfl rfl ?_
    refine z_callV (k := 0) (as0 := [.int (z_i 1)]) (r := []) rfl rfl rfl (Nat.le_of_ble_eq_true rfl) (z_oI h (fun v5 D4 h => ?_) (fun _ _ h => h))
    refine zs_pop rfl rfl ?_
    exact v_tCloseGroup_22 hH33 h
def w_tCloseGroup_33 (n d : Nat) (a1 : Int) (a2 : Int) (D : z_D) (H33 : Int → Int → z_D → Prop) (K : z_D → Prop) (T : Nat → z_D → Prop) : Prop :=
  (z_r a2) ∧ (z_r a1) ∧
  ((a2 ≤ a1) →
    K D) ∧
  ((a1 < a2) →
    z_c n d 28 [.ref 11] D (z_qI (fun v4 D3 => 
      z_c n d 28 [.ref 13] D3 (z_qI (fun v6 D5 => 
        z_c n d 68 [.ref 0, .int (z_i v4), .int (z_i v6)] D5 (z_qV (fun D7 => 
          H33 a1 (a2 + (-1)) D7) T)) T)) T))
theorem v_tCloseGroup_33 {n d : Nat} {X : z_Xt} {a1 : Int} {a2 : Int}  {D : z_D} {H33 : Int → Int → z_D → Prop} {K : z_D → Prop} {T : Nat → z_D → Prop} (hH33 : ∀ (a1 : Int) (a2 : Int) (D : z_D), H33 a1 a2 D → z_w n d (k_tb 67) X 33 [some (.ref 0), some (.int (z_i a1)), some (.int (z_i a2))] [] D (z_qV K T)) (h : w_tCloseGroup_33 n d a1 a2 D H33 K T) : z_w n d (k_tb 67) X 33 [some (.ref 0), some (.int (z_i a1)), some (.int (z_i a2))] [] D (z_qV K T) := by
  unfold w_tCloseGroup_33 at h
  refine zs_iload rfl rfl ?_
  refine zs_iload rfl rfl ?_
  obtain ⟨g1, g2, h⟩ := h
  obtain ⟨h8, h9⟩ := h
  refine zs_cle rfl g1 g2 (fun c => ?_) (fun c => ?_)
  · have h := h8 c
    exact zs_ret rfl h
  · have h := h9 c
    refine zs_aload rfl rfl ?_
    refine zs_aload rfl rfl ?_
    refine zs_getR (x := 8) rfl rfl rfl ?_
    refine zs_getR (x := 11) rfl rfl rfl ?_
    refine z_callV (k := 11) (as0 := []) (r := [.ref 0]) rfl rfl rfl (Nat.le_of_ble_eq_true rfl) (z_oI h (fun v4 D3 h => ?_) (fun _ _ h => h))
    refine zs_aload rfl rfl ?_
    refine zs_getR (x := 8) rfl rfl rfl ?_
    refine zs_getR (x := 13) rfl rfl rfl ?_
    refine z_callV (k := 13) (as0 := []) (r := [.int (z_i v4), .ref 0]) rfl rfl rfl (Nat.le_of_ble_eq_true rfl) (z_oI h (fun v6 D5 h => ?_) (fun _ _ h => h))
    refine z_callV (k := 0) (as0 := [.int (z_i v4), .int (z_i v6)]) (r := []) rfl rfl rfl (Nat.le_of_ble_eq_true rfl) (z_oV h (fun D7 h => ?_) (fun _ _ h => h))
    refine zs_iinc (a := a2) (-1) (ls1 := [some (.ref 0), some (.int (z_i a1)), some (.int (z_i (a2 + (-1))))]) rfl rfl rfl rfl ?_
    refine zs_goto rfl ?_
    exact hH33 _ _  _  h
theorem r_tCloseGroup {n d : Nat}  {D : z_D} {K : z_D → Prop} {T : Nat → z_D → Prop}  (I33 : Nat → Int → Int → z_D → Prop) (hE : w_tCloseGroup_0 n d D (fun a1 a2 D => ∃ m, I33 m a1 a2 D) K T) (h33 : ∀ (mm : Nat) (a1 : Int) (a2 : Int) (D : z_D), I33 mm a1 a2 D → w_tCloseGroup_33 n d a1 a2 D (fun a1 a2 D => ∃ m, m < mm ∧ I33 m a1 a2 D) K T) : z_c n (d + 1) 67 [.ref 0] D (z_qV K T) := by
  refine z_enter (Nat.le_of_ble_eq_true rfl) rfl (fun X => ?_)
  have key : ∀ m, (∀ (a1 : Int) (a2 : Int) (D : z_D), I33 m a1 a2 D → z_w n d (k_tb 67) X 33 [some (.ref 0), some (.int (z_i a1)), some (.int (z_i a2))] [] D (z_qV K T)) := by
    intro m
    induction m using Nat.strongRecOn with
    | _ mm ih =>
      exact fun a1 a2 D hI => v_tCloseGroup_33 (fun a1 a2 D ⟨m, hm, hI⟩ => (ih m hm) _ _ _  hI) (h33 mm a1 a2 D hI)
  exact v_tCloseGroup_0 (fun a1 a2 D ⟨m, hI⟩ => (key m) _ _ _  hI) hE
-- 68: TokenMouth.set(II)V
def w_tSet_0 (n d : Nat) (a1 : Int) (a2 : Int) (D : z_D)  (K : z_D → Prop) (T : Nat → z_D → Prop) : Prop :=
  (z_r a1) ∧
  ((a1 < 4096) →
    z_c n d 19 [.ref 1, .int (z_i a1), .int (z_i a2)] D (z_qV (fun D2 => 
      K D2) T)) ∧
  ((4096 ≤ a1) →
    z_c n d 11 [.ref 4, .int (z_i (a1 - 4096)), .int (z_i a2)] D (z_qV (fun D3 => 
      K D3) T))
theorem v_tSet_0 {n d : Nat} {X : z_Xt} {a1 : Int} {a2 : Int}  {D : z_D}  {K : z_D → Prop} {T : Nat → z_D → Prop}  (h : w_tSet_0 n d a1 a2 D K T) : z_w n d (k_tb 68) X 0 [some (.ref 0), some (.int (z_i a1)), some (.int (z_i a2))] [] D (z_qV K T) := by
  unfold w_tSet_0 at h
  refine zs_iload rfl rfl ?_
  refine zs_pushI (4096) rfl rfl ?_
  obtain ⟨g1, h⟩ := h
  obtain ⟨h4, h5⟩ := h
  refine zs_clt rfl g1 (z_rk rfl) (fun c => ?_) (fun c => ?_)
  · have h := h4 c
    refine zs_aload rfl rfl ?_
    refine zs_getR (x := 1) rfl rfl rfl ?_
    refine zs_iload rfl rfl ?_
    refine zs_iload rfl rfl ?_
    refine z_callV (k := 1) (as0 := [.int (z_i a1), .int (z_i a2)]) (r := []) rfl rfl rfl (Nat.le_of_ble_eq_true rfl) (z_oV h (fun D2 h => ?_) (fun _ _ h => h))
    exact zs_ret rfl h
  · have h := h5 c
    refine zs_aload rfl rfl ?_
    refine zs_getR (x := 4) rfl rfl rfl ?_
    refine zs_iload rfl rfl ?_
    refine zs_pushI (4096) rfl rfl ?_
    refine zs_sub (a := a1) (b := 4096) rfl ?_
    refine zs_iload rfl rfl ?_
    refine z_callV (k := 4) (as0 := [.int (z_i (a1 - 4096)), .int (z_i a2)]) (r := []) rfl rfl rfl (Nat.le_of_ble_eq_true rfl) (z_oV h (fun D3 h => ?_) (fun _ _ h => h))
    refine zs_goto rfl ?_
    exact zs_ret rfl h
theorem r_tSet {n d : Nat} {a1 : Int} {a2 : Int} {D : z_D} {K : z_D → Prop} {T : Nat → z_D → Prop}  (h : w_tSet_0 n d a1 a2 D K T) : z_c n (d + 1) 68 [.ref 0, .int (z_i a1), .int (z_i a2)] D (z_qV K T) :=
  z_enter (Nat.le_of_ble_eq_true rfl) rfl (fun X => v_tSet_0 h)
-- 69: TokenMouth.change(II)V
def w_tChange_49 (n d : Nat) (a1 : Int) (a2 : Int) (D : z_D)  (K : z_D → Prop) (T : Nat → z_D → Prop) : Prop :=
  z_c n d 68 [.ref 0, .int (z_i a1), .int (z_i a2)] D (z_qV (fun D1 => 
    K D1) T)
theorem v_tChange_49 {n d : Nat} {X : z_Xt} {a1 : Int} {a2 : Int} {o3 : Option Value} {D : z_D}  {K : z_D → Prop} {T : Nat → z_D → Prop} (n3 : z_nl o3) (h : w_tChange_49 n d a1 a2 D K T) : z_w n d (k_tb 69) X 49 [some (.ref 0), some (.int (z_i a1)), some (.int (z_i a2)), o3] [] D (z_qV K T) := by
  unfold w_tChange_49 at h
  refine zs_aload rfl rfl ?_
  refine zs_iload rfl rfl ?_
  refine zs_iload rfl rfl ?_
  refine z_callV (k := 0) (as0 := [.int (z_i a1), .int (z_i a2)]) (r := []) rfl rfl rfl (Nat.le_of_ble_eq_true rfl) (z_oV h (fun D1 h => ?_) (fun _ _ h => h))
  exact zs_ret rfl h
def w_tChange_30 (n d : Nat) (a1 : Int) (a2 : Int) (s0 : Int) (D : z_D)  (K : z_D → Prop) (T : Nat → z_D → Prop) : Prop :=
  z_c n d 3 [.ref 8, .int (z_i a1), .int (z_i s0)] D (z_qZ (fun v2 D1 => 
    ((v2 = true) →
      w_tChange_49 n d a1 a2 D1 K T) ∧
    ((v2 = false) →
      z_c n d 48 [.ref 0, .int (z_i 5)] D1 (z_qI (fun v4 D3 => 
        w_tChange_49 n d a1 a2 D3 K T) T))) T)
theorem v_tChange_30 {n d : Nat} {X : z_Xt} {a1 : Int} {a2 : Int} {s0 : Int}  {D : z_D}  {K : z_D → Prop} {T : Nat → z_D → Prop}  (h : w_tChange_30 n d a1 a2 s0 D K T) : z_w n d (k_tb 69) X 30 [some (.ref 0), some (.int (z_i a1)), some (.int (z_i a2)), none] [.int (z_i s0)] D (z_qV K T) := by
  unfold w_tChange_30 at h
  refine zs_istore (ls1 := [some (.ref 0), some (.int (z_i a1)), some (.int (z_i a2)), some (.int (z_i s0))]) rfl rfl rfl ?_
  refine zs_aload rfl rfl ?_
  refine zs_getR (x := 8) rfl rfl rfl ?_
  refine zs_iload rfl rfl ?_
  refine zs_iload rfl rfl ?_
  refine z_callV (k := 8) (as0 := [.int (z_i a1), .int (z_i s0)]) (r := []) rfl rfl rfl (Nat.le_of_ble_eq_true rfl) (z_oZ h (fun v2 D1 h => ?_) (fun _ _ h => h))
  obtain ⟨h5, h6⟩ := h
  refine zs_bne rfl (fun c => ?_) (fun c => ?_)
  · have h := h5 c
    exact v_tChange_49 (by first | assumption | exact trivial) h
  · have h := h6 c
    refine zs_aload rfl rfl ?_
    refine zs_pushI (5) rfl rfl ?_
    refine z_callV (k := 0) (as0 := [.int (z_i 5)]) (r := []) rfl rfl rfl (Nat.le_of_ble_eq_true rfl) (z_oI h (fun v4 D3 h => ?_) (fun _ _ h => h))
    refine zs_pop rfl rfl ?_
    exact v_tChange_49 (by first | assumption | exact trivial) h
def w_tChange_0 (n d : Nat) (a1 : Int) (a2 : Int) (D : z_D)  (K : z_D → Prop) (T : Nat → z_D → Prop) : Prop :=
  (z_r a1) ∧
  ((a1 < 4096) →
    z_c n d 18 [.ref 1, .int (z_i a1)] D (z_qI (fun v3 D2 => 
      w_tChange_30 n d a1 a2 v3 D2 K T) T)) ∧
  ((4096 ≤ a1) →
    z_c n d 10 [.ref 4, .int (z_i (a1 - 4096))] D (z_qI (fun v5 D4 => 
      w_tChange_30 n d a1 a2 v5 D4 K T) T))
theorem v_tChange_0 {n d : Nat} {X : z_Xt} {a1 : Int} {a2 : Int}  {D : z_D}  {K : z_D → Prop} {T : Nat → z_D → Prop}  (h : w_tChange_0 n d a1 a2 D K T) : z_w n d (k_tb 69) X 0 [some (.ref 0), some (.int (z_i a1)), some (.int (z_i a2)), none] [] D (z_qV K T) := by
  unfold w_tChange_0 at h
  refine zs_iload rfl rfl ?_
  refine zs_pushI (4096) rfl rfl ?_
  obtain ⟨g1, h⟩ := h
  obtain ⟨h6, h7⟩ := h
  refine zs_clt rfl g1 (z_rk rfl) (fun c => ?_) (fun c => ?_)
  · have h := h6 c
    refine zs_aload rfl rfl ?_
    refine zs_getR (x := 1) rfl rfl rfl ?_
    refine zs_iload rfl rfl ?_
    refine z_callV (k := 1) (as0 := [.int (z_i a1)]) (r := []) rfl rfl rfl (Nat.le_of_ble_eq_true rfl) (z_oI h (fun v3 D2 h => ?_) (fun _ _ h => h))
    exact v_tChange_30 h
  · have h := h7 c
    refine zs_aload rfl rfl ?_
    refine zs_getR (x := 4) rfl rfl rfl ?_
    refine zs_iload rfl rfl ?_
    refine zs_pushI (4096) rfl rfl ?_
    refine zs_sub (a := a1) (b := 4096) rfl ?_
    refine z_callV (k := 4) (as0 := [.int (z_i (a1 - 4096))]) (r := []) rfl rfl rfl (Nat.le_of_ble_eq_true rfl) (z_oI h (fun v5 D4 h => ?_) (fun _ _ h => h))
    refine zs_goto rfl ?_
    exact v_tChange_30 h
theorem r_tChange {n d : Nat} {a1 : Int} {a2 : Int} {D : z_D} {K : z_D → Prop} {T : Nat → z_D → Prop}  (h : w_tChange_0 n d a1 a2 D K T) : z_c n (d + 1) 69 [.ref 0, .int (z_i a1), .int (z_i a2)] D (z_qV K T) :=
  z_enter (Nat.le_of_ble_eq_true rfl) rfl (fun X => v_tChange_0 h)
-- 70: TokenMouth.getName()I
def w_tGetName_0 (n d : Nat)  (D : z_D)  (K : Int → z_D → Prop) (T : Nat → z_D → Prop) : Prop :=
  z_c n d 61 [.ref 0, .int (z_i (z_b true))] D (z_qI (fun v2 D1 => 
    z_c n d 52 [.int (z_i v2)] D1 (z_qI (fun v4 D3 => 
      (z_r v4) ∧
      ((4096 ≤ v4) →
        K v4 D3) ∧
      ((v4 < 4096) →
        z_c n d 48 [.ref 0, .int (z_i 4)] D3 (z_qI (fun v7 D6 => 
          K v7 D6) T))) T)) T)
theorem v_tGetName_0 {n d : Nat} {X : z_Xt}   {D : z_D}  {K : Int → z_D → Prop} {T : Nat → z_D → Prop}  (h : w_tGetName_0 n d D K T) : z_w n d (k_tb 70) X 0 [some (.ref 0), none] [] D (z_qI K T) := by
  unfold w_tGetName_0 at h
  refine zs_aload rfl rfl ?_
  refine zs_pushI (1) rfl rfl ?_
  refine z_callV (k := 0) (as0 := [.int (z_i (z_b true))]) (r := []) rfl rfl rfl (Nat.le_of_ble_eq_true rfl) (z_oI h (fun v2 D1 h => ?_) (fun _ _ h => h))
  refine z_callS (as0 := [.int (z_i v2)]) (r := []) rfl rfl (Nat.le_of_ble_eq_true rfl) (z_oI h (fun v4 D3 h => ?_) (fun _ _ h => h))
  refine zs_istore (ls1 := [some (.ref 0), some (.int (z_i v4))]) rfl rfl rfl ?_
  refine zs_iload rfl rfl ?_
  refine zs_pushI (4096) rfl rfl ?_
  obtain ⟨g5, h⟩ := h
  obtain ⟨h8, h9⟩ := h
  refine zs_cge rfl g5 (z_rk rfl) (fun c => ?_) (fun c => ?_)
  · have h := h8 c
    refine zs_iload rfl rfl ?_
    exact zs_iret rfl h
  · have h := h9 c
    refine zs_aload rfl rfl ?_
    refine zs_pushI (4) rfl rfl ?_
    refine z_callV (k := 0) (as0 := [.int (z_i 4)]) (r := []) rfl rfl rfl (Nat.le_of_ble_eq_true rfl) (z_oI h (fun v7 D6 h => ?_) (fun _ _ h => h))
    refine zs_goto rfl ?_
    exact zs_iret rfl h
theorem r_tGetName {n d : Nat}  {D : z_D} {K : Int → z_D → Prop} {T : Nat → z_D → Prop}  (h : w_tGetName_0 n d D K T) : z_c n (d + 1) 70 [.ref 0] D (z_qI K T) :=
  z_enter (Nat.le_of_ble_eq_true rfl) rfl (fun X => v_tGetName_0 h)
-- 71: TokenMouth.let()V
def w_tLet_24 (n d : Nat) (a1 : Int) (a2 : Int) (D : z_D)  (K : z_D → Prop) (T : Nat → z_D → Prop) : Prop :=
  z_c n d 55 [.ref 0, .int (z_i a2)] D (z_qI (fun v2 D1 => 
    z_c n d 69 [.ref 0, .int (z_i a1), .int (z_i v2)] D1 (z_qV (fun D3 => 
      K D3) T)) T)
theorem v_tLet_24 {n d : Nat} {X : z_Xt} {a1 : Int} {a2 : Int}  {D : z_D}  {K : z_D → Prop} {T : Nat → z_D → Prop}  (h : w_tLet_24 n d a1 a2 D K T) : z_w n d (k_tb 71) X 24 [some (.ref 0), some (.int (z_i a1)), some (.int (z_i a2))] [] D (z_qV K T) := by
  unfold w_tLet_24 at h
  refine zs_aload rfl rfl ?_
  refine zs_iload rfl rfl ?_
  refine zs_aload rfl rfl ?_
  refine zs_iload rfl rfl ?_
  refine z_callV (k := 0) (as0 := [.int (z_i a2)]) (r := [.int (z_i a1), .ref 0]) rfl rfl rfl (Nat.le_of_ble_eq_true rfl) (z_oI h (fun v2 D1 h => ?_) (fun _ _ h => h))
  refine z_callV (k := 0) (as0 := [.int (z_i a1), .int (z_i v2)]) (r := []) rfl rfl rfl (Nat.le_of_ble_eq_true rfl) (z_oV h (fun D3 h => ?_) (fun _ _ h => h))
  exact zs_ret rfl h
def w_tLet_0 (n d : Nat)  (D : z_D)  (K : z_D → Prop) (T : Nat → z_D → Prop) : Prop :=
  z_c n d 70 [.ref 0] D (z_qI (fun v2 D1 => 
    z_c n d 61 [.ref 0, .int (z_i (z_b true))] D1 (z_qI (fun v4 D3 => 
      (z_r v4) ∧
      ((¬ v4 = 3133) →
        w_tLet_24 n d v2 v4 D3 K T) ∧
      ((v4 = 3133) →
        z_c n d 61 [.ref 0, .int (z_i (z_b true))] D3 (z_qI (fun v7 D6 => 
          w_tLet_24 n d v2 v7 D6 K T) T))) T)) T)
theorem v_tLet_0 {n d : Nat} {X : z_Xt}   {D : z_D}  {K : z_D → Prop} {T : Nat → z_D → Prop}  (h : w_tLet_0 n d D K T) : z_w n d (k_tb 71) X 0 [some (.ref 0), none, none] [] D (z_qV K T) := by
  unfold w_tLet_0 at h
  refine zs_aload rfl rfl ?_
  refine z_callV (k := 0) (as0 := []) (r := []) rfl rfl rfl (Nat.le_of_ble_eq_true rfl) (z_oI h (fun v2 D1 h => ?_) (fun _ _ h => h))
  refine zs_istore (ls1 := [some (.ref 0), some (.int (z_i v2)), none]) rfl rfl rfl ?_
  refine zs_aload rfl rfl ?_
  refine zs_pushI (1) rfl rfl ?_
  refine z_callV (k := 0) (as0 := [.int (z_i (z_b true))]) (r := []) rfl rfl rfl (Nat.le_of_ble_eq_true rfl) (z_oI h (fun v4 D3 h => ?_) (fun _ _ h => h))
  refine zs_istore (ls1 := [some (.ref 0), some (.int (z_i v2)), some (.int (z_i v4))]) rfl rfl rfl ?_
  refine zs_iload rfl rfl ?_
  refine zs_pushI (3133) rfl rfl ?_
  obtain ⟨g5, h⟩ := h
  obtain ⟨h8, h9⟩ := h
  refine zs_cne rfl g5 (z_rk rfl) (fun c => ?_) (fun c => ?_)
  · have h := h8 c
    exact v_tLet_24 h
  · have h := h9 c
    refine zs_aload rfl rfl ?_
    refine zs_pushI (1) rfl rfl ?_
    refine z_callV (k := 0) (as0 := [.int (z_i (z_b true))]) (r := []) rfl rfl rfl (Nat.le_of_ble_eq_true rfl) (z_oI h (fun v7 D6 h => ?_) (fun _ _ h => h))
    refine zs_istore (ls1 := [some (.ref 0), some (.int (z_i v2)), some (.int (z_i v7))]) rfl rfl rfl ?_
    exact v_tLet_24 h
theorem r_tLet {n d : Nat}  {D : z_D} {K : z_D → Prop} {T : Nat → z_D → Prop}  (h : w_tLet_0 n d D K T) : z_c n (d + 1) 71 [.ref 0] D (z_qV K T) :=
  z_enter (Nat.le_of_ble_eq_true rfl) rfl (fun X => v_tLet_0 h)
-- 72: TokenMouth.changeCategory()V
def w_tChangeCategory_123 (n d : Nat) (a2 : Int) (a3 : Int) (D : z_D)  (K : z_D → Prop) (T : Nat → z_D → Prop) : Prop :=
  z_c n d 69 [.ref 0, .int (z_i a2), .int (z_i a3)] D (z_qV (fun D1 => 
    K D1) T)
theorem v_tChangeCategory_123 {n d : Nat} {X : z_Xt} {a2 : Int} {a3 : Int} {o1 : Option Value} {o4 : Option Value} {o5 : Option Value} {D : z_D}  {K : z_D → Prop} {T : Nat → z_D → Prop} (n1 : z_nl o1) (n4 : z_nl o4) (n5 : z_nl o5) (h : w_tChangeCategory_123 n d a2 a3 D K T) : z_w n d (k_tb 72) X 123 [some (.ref 0), o1, some (.int (z_i a2)), some (.int (z_i a3)), o4, o5] [] D (z_qV K T) := by
  unfold w_tChangeCategory_123 at h
  refine zs_aload rfl rfl ?_
  refine zs_iload rfl rfl ?_
  refine zs_iload rfl rfl ?_
  refine z_callV (k := 0) (as0 := [.int (z_i a2), .int (z_i a3)]) (r := []) rfl rfl rfl (Nat.le_of_ble_eq_true rfl) (z_oV h (fun D1 h => ?_) (fun _ _ h => h))
  exact zs_ret rfl h
def w_tChangeCategory_111 (n d : Nat) (a2 : Int) (a3 : Int) (D : z_D)  (K : z_D → Prop) (T : Nat → z_D → Prop) : Prop :=
  (z_r a3) ∧
  ((a3 ≤ 15) →
    w_tChangeCategory_123 n d a2 a3 D K T) ∧
  ((15 < a3) →
    z_c n d 48 [.ref 0, .int (z_i 4)] D (z_qI (fun v3 D2 => 
      w_tChangeCategory_123 n d a2 a3 D2 K T) T))
theorem v_tChangeCategory_111 {n d : Nat} {X : z_Xt} {a2 : Int} {a3 : Int} {o1 : Option Value} {o4 : Option Value} {o5 : Option Value} {D : z_D}  {K : z_D → Prop} {T : Nat → z_D → Prop} (n1 : z_nl o1) (n4 : z_nl o4) (n5 : z_nl o5) (h : w_tChangeCategory_111 n d a2 a3 D K T) : z_w n d (k_tb 72) X 111 [some (.ref 0), o1, some (.int (z_i a2)), some (.int (z_i a3)), o4, o5] [] D (z_qV K T) := by
  unfold w_tChangeCategory_111 at h
  refine zs_iload rfl rfl ?_
  refine zs_pushI (15) rfl rfl ?_
  obtain ⟨g1, h⟩ := h
  obtain ⟨h4, h5⟩ := h
  refine zs_cle rfl g1 (z_rk rfl) (fun c => ?_) (fun c => ?_)
  · have h := h4 c
    exact v_tChangeCategory_123 (by first | assumption | exact trivial) (by first | assumption | exact trivial) (by first | assumption | exact trivial) h
  · have h := h5 c
    refine zs_aload rfl rfl ?_
    refine zs_pushI (4) rfl rfl ?_
    refine z_callV (k := 0) (as0 := [.int (z_i 4)]) (r := []) rfl rfl rfl (Nat.le_of_ble_eq_true rfl) (z_oI h (fun v3 D2 h => ?_) (fun _ _ h => h))
    refine zs_pop rfl rfl ?_
    exact v_tChangeCategory_123 (by first | assumption | exact trivial) (by first | assumption | exact trivial) (by first | assumption | exact trivial) h
def w_tChangeCategory_68 (n d : Nat) (a2 : Int) (a3 : Int) (D : z_D)  (K : z_D → Prop) (T : Nat → z_D → Prop) : Prop :=
  z_c n d 61 [.ref 0, .int (z_i (z_b false))] D (z_qI (fun v2 D1 => 
    z_c n d 73 [.int (z_i v2)] D1 (z_qI (fun v4 D3 => 
      (z_r v4) ∧
      ((v4 = (-1)) →
        (z_r v2) ∧
        ((v2 = (-1)) →
          w_tChangeCategory_111 n d a2 a3 D3 K T) ∧
        ((¬ v2 = (-1)) →
          z_c n d 63 [.ref 0, .int (z_i v2)] D3 (z_qV (fun D7 => 
            w_tChangeCategory_111 n d a2 a3 D7 K T) T))) ∧
      ((¬ v4 = (-1)) →
        w_tChangeCategory_111 n d a2 ((10 * a3) + v4) D3 K T)) T)) T)
theorem v_tChangeCategory_68 {n d : Nat} {X : z_Xt} {a2 : Int} {a3 : Int} {o1 : Option Value} {D : z_D}  {K : z_D → Prop} {T : Nat → z_D → Prop} (n1 : z_nl o1) (h : w_tChangeCategory_68 n d a2 a3 D K T) : z_w n d (k_tb 72) X 68 [some (.ref 0), o1, some (.int (z_i a2)), some (.int (z_i a3)), none, none] [] D (z_qV K T) := by
  unfold w_tChangeCategory_68 at h
  refine zs_aload rfl rfl ?_
  refine zs_pushI (0) rfl rfl ?_
  refine z_callV (k := 0) (as0 := [.int (z_i (z_b false))]) (r := []) rfl rfl rfl (Nat.le_of_ble_eq_true rfl) (z_oI h (fun v2 D1 h => ?_) (fun _ _ h => h))
  refine zs_istore (ls1 := [some (.ref 0), o1, some (.int (z_i a2)), some (.int (z_i a3)), some (.int (z_i v2)), none]) rfl rfl rfl ?_
  refine zs_iload rfl rfl ?_
  refine z_callS (as0 := [.int (z_i v2)]) (r := []) rfl rfl (Nat.le_of_ble_eq_true rfl) (z_oI h (fun v4 D3 h => ?_) (fun _ _ h => h))
  refine zs_istore (ls1 := [some (.ref 0), o1, some (.int (z_i a2)), some (.int (z_i a3)), some (.int (z_i v2)), some (.int (z_i v4))]) rfl rfl rfl ?_
  refine zs_iload rfl rfl ?_
  refine zs_pushI (-1) rfl rfl ?_
  obtain ⟨g5, h⟩ := h
  obtain ⟨h10, h11⟩ := h
  refine zs_ceq rfl g5 (z_rk rfl) (fun c => ?_) (fun c => ?_)
  · have h := h10 c
    refine zs_iload rfl rfl ?_
    refine zs_pushI (-1) rfl rfl ?_
    obtain ⟨g6, h⟩ := h
    obtain ⟨h8, h9⟩ := h
    refine zs_ceq rfl g6 (z_rk rfl) (fun c => ?_) (fun c => ?_)
    · have h := h8 c
      exact v_tChangeCategory_111 (by first | assumption | exact trivial) (by first | assumption | exact trivial) (by first | assumption | exact trivial) h
    · have h := h9 c
      refine zs_aload rfl rfl ?_
      refine zs_iload rfl rfl ?_
      refine z_callV (k := 0) (as0 := [.int (z_i v2)]) (r := []) rfl rfl rfl (Nat.le_of_ble_eq_true rfl) (z_oV h (fun D7 h => ?_) (fun _ _ h => h))
      exact v_tChangeCategory_111 (by first | assumption | exact trivial) (by first | assumption | exact trivial) (by first | assumption | exact trivial) h
  · have h := h11 c
    refine zs_pushI (10) rfl rfl ?_
    refine zs_iload rfl rfl ?_
    refine zs_mul (a := 10) (b := a3) rfl ?_
    refine zs_iload rfl rfl ?_
    refine zs_add (a := (10 * a3)) (b := v4) rfl ?_
    refine zs_istore (ls1 := [some (.ref 0), o1, some (.int (z_i a2)), some (.int (z_i ((10 * a3) + v4))), some (.int (z_i v2)), some (.int (z_i v4))]) rfl rfl rfl ?_
    refine zs_goto rfl ?_
    exact v_tChangeCategory_111 (by first | assumption | exact trivial) (by first | assumption | exact trivial) (by first | assumption | exact trivial) h
def w_tChangeCategory_48 (n d : Nat) (a2 : Int) (D : z_D)  (K : z_D → Prop) (T : Nat → z_D → Prop) : Prop :=
  z_c n d 61 [.ref 0, .int (z_i (z_b true))] D (z_qI (fun v2 D1 => 
    z_c n d 73 [.int (z_i v2)] D1 (z_qI (fun v4 D3 => 
      (z_r v4) ∧
      ((¬ v4 = (-1)) →
        w_tChangeCategory_68 n d a2 v4 D3 K T) ∧
      ((v4 = (-1)) →
        z_c n d 48 [.ref 0, .int (z_i 4)] D3 (z_qI (fun v7 D6 => 
          w_tChangeCategory_68 n d a2 v4 D6 K T) T))) T)) T)
theorem v_tChangeCategory_48 {n d : Nat} {X : z_Xt} {a2 : Int} {o1 : Option Value} {D : z_D}  {K : z_D → Prop} {T : Nat → z_D → Prop} (n1 : z_nl o1) (h : w_tChangeCategory_48 n d a2 D K T) : z_w n d (k_tb 72) X 48 [some (.ref 0), o1, some (.int (z_i a2)), none, none, none] [] D (z_qV K T) := by
  unfold w_tChangeCategory_48 at h
  refine zs_aload rfl rfl ?_
  refine zs_pushI (1) rfl rfl ?_
  refine z_callV (k := 0) (as0 := [.int (z_i (z_b true))]) (r := []) rfl rfl rfl (Nat.le_of_ble_eq_true rfl) (z_oI h (fun v2 D1 h => ?_) (fun _ _ h => h))
  refine z_callS (as0 := [.int (z_i v2)]) (r := []) rfl rfl (Nat.le_of_ble_eq_true rfl) (z_oI h (fun v4 D3 h => ?_) (fun _ _ h => h))
  refine zs_istore (ls1 := [some (.ref 0), o1, some (.int (z_i a2)), some (.int (z_i v4)), none, none]) rfl rfl rfl ?_
  refine zs_iload rfl rfl ?_
  refine zs_pushI (-1) rfl rfl ?_
  obtain ⟨g5, h⟩ := h
  obtain ⟨h8, h9⟩ := h
  refine zs_cne rfl g5 (z_rk rfl) (fun c => ?_) (fun c => ?_)
  · have h := h8 c
    exact v_tChangeCategory_68 (by first | assumption | exact trivial) h
  · have h := h9 c
    refine zs_aload rfl rfl ?_
    refine zs_pushI (4) rfl rfl ?_
    refine z_callV (k := 0) (as0 := [.int (z_i 4)]) (r := []) rfl rfl rfl (Nat.le_of_ble_eq_true rfl) (z_oI h (fun v7 D6 h => ?_) (fun _ _ h => h))
    refine zs_pop rfl rfl ?_
    exact v_tChangeCategory_68 (by first | assumption | exact trivial) h
def w_tChangeCategory_36 (n d : Nat) (s0 : Int) (D : z_D)  (K : z_D → Prop) (T : Nat → z_D → Prop) : Prop :=
  (z_r s0) ∧
  ((¬ s0 = (-1)) →
    w_tChangeCategory_48 n d s0 D K T) ∧
  ((s0 = (-1)) →
    z_c n d 48 [.ref 0, .int (z_i 4)] D (z_qI (fun v3 D2 => 
      w_tChangeCategory_48 n d s0 D2 K T) T))
theorem v_tChangeCategory_36 {n d : Nat} {X : z_Xt} {s0 : Int} {o1 : Option Value} {D : z_D}  {K : z_D → Prop} {T : Nat → z_D → Prop} (n1 : z_nl o1) (h : w_tChangeCategory_36 n d s0 D K T) : z_w n d (k_tb 72) X 36 [some (.ref 0), o1, none, none, none, none] [.int (z_i s0)] D (z_qV K T) := by
  unfold w_tChangeCategory_36 at h
  refine zs_istore (ls1 := [some (.ref 0), o1, some (.int (z_i s0)), none, none, none]) rfl rfl ((z_st1 rfl n1).trans rfl) ?_
  refine zs_iload rfl rfl ?_
  refine zs_pushI (-1) rfl rfl ?_
  obtain ⟨g1, h⟩ := h
  obtain ⟨h4, h5⟩ := h
  refine zs_cne rfl g1 (z_rk rfl) (fun c => ?_) (fun c => ?_)
  · have h := h4 c
    exact v_tChangeCategory_48 (by first | assumption | exact trivial) h
  · have h := h5 c
    refine zs_aload rfl rfl ?_
    refine zs_pushI (4) rfl rfl ?_
    refine z_callV (k := 0) (as0 := [.int (z_i 4)]) (r := []) rfl rfl rfl (Nat.le_of_ble_eq_true rfl) (z_oI h (fun v3 D2 h => ?_) (fun _ _ h => h))
    refine zs_pop rfl rfl ?_
    exact v_tChangeCategory_48 (by first | assumption | exact trivial) h
def w_tChangeCategory_0 (n d : Nat)  (D : z_D)  (K : z_D → Prop) (T : Nat → z_D → Prop) : Prop :=
  z_c n d 61 [.ref 0, .int (z_i (z_b true))] D (z_qI (fun v2 D1 => 
    z_c n d 52 [.int (z_i v2)] D1 (z_qI (fun v4 D3 => 
      (z_r v4) ∧
      ((4096 ≤ v4) →
        z_c n d 14 [.ref 4, .int (z_i (v4 - 4096))] D3 (z_qI (fun v7 D6 => 
          w_tChangeCategory_36 n d v7 D6 K T) T)) ∧
      ((v4 < 4096) →
        w_tChangeCategory_36 n d (z_and v4 255) D3 K T)) T)) T)
theorem v_tChangeCategory_0 {n d : Nat} {X : z_Xt}   {D : z_D}  {K : z_D → Prop} {T : Nat → z_D → Prop}  (h : w_tChangeCategory_0 n d D K T) : z_w n d (k_tb 72) X 0 [some (.ref 0), none, none, none, none, none] [] D (z_qV K T) := by
  unfold w_tChangeCategory_0 at h
  refine zs_aload rfl rfl ?_
  refine zs_pushI (1) rfl rfl ?_
  refine z_callV (k := 0) (as0 := [.int (z_i (z_b true))]) (r := []) rfl rfl rfl (Nat.le_of_ble_eq_true rfl) (z_oI h (fun v2 D1 h => ?_) (fun _ _ h => h))
  refine z_callS (as0 := [.int (z_i v2)]) (r := []) rfl rfl (Nat.le_of_ble_eq_true rfl) (z_oI h (fun v4 D3 h => ?_) (fun _ _ h => h))
  refine zs_istore (ls1 := [some (.ref 0), some (.int (z_i v4)), none, none, none, none]) rfl rfl rfl ?_
  refine zs_iload rfl rfl ?_
  refine zs_pushI (4096) rfl rfl ?_
  obtain ⟨g5, h⟩ := h
  obtain ⟨h8, h9⟩ := h
  refine zs_cge rfl g5 (z_rk rfl) (fun c => ?_) (fun c => ?_)
  · have h := h8 c
    refine zs_aload rfl rfl ?_
    refine zs_getR (x := 4) rfl rfl rfl ?_
    refine zs_iload rfl rfl ?_
    refine zs_pushI (4096) rfl rfl ?_
    refine zs_sub (a := v4) (b := 4096) rfl ?_
    refine z_callV (k := 4) (as0 := [.int (z_i (v4 - 4096))]) (r := []) rfl rfl rfl (Nat.le_of_ble_eq_true rfl) (z_oI h (fun v7 D6 h => ?_) (fun _ _ h => h))
    exact v_tChangeCategory_36 (by first | assumption | exact trivial) h
  · have h := h9 c
    refine zs_iload rfl rfl ?_
    refine zs_pushI (255) rfl rfl ?_
    refine zs_and (a := v4) (b := 255) rfl ?_
    refine zs_goto rfl ?_
    exact v_tChangeCategory_36 (by first | assumption | exact trivial) h
theorem r_tChangeCategory {n d : Nat}  {D : z_D} {K : z_D → Prop} {T : Nat → z_D → Prop}  (h : w_tChangeCategory_0 n d D K T) : z_c n (d + 1) 72 [.ref 0] D (z_qV K T) :=
  z_enter (Nat.le_of_ble_eq_true rfl) rfl (fun X => v_tChangeCategory_0 h)
-- 73: TokenMouth.digitOf(I)I
def w_tDigitOf_0 (n d : Nat) (a0 : Int) (D : z_D)  (K : Int → z_D → Prop) (T : Nat → z_D → Prop) : Prop :=
  (z_r (a0 - 3120)) ∧
  (((a0 - 3120) < 0) →
    K (-1) D) ∧
  ((0 ≤ (a0 - 3120)) →
    ((9 < (a0 - 3120)) →
      K (-1) D) ∧
    (((a0 - 3120) ≤ 9) →
      K (a0 - 3120) D))
theorem v_tDigitOf_0 {n d : Nat} {X : z_Xt} {a0 : Int}  {D : z_D}  {K : Int → z_D → Prop} {T : Nat → z_D → Prop}  (h : w_tDigitOf_0 n d a0 D K T) : z_w n d (k_tb 73) X 0 [some (.int (z_i a0)), none] [] D (z_qI K T) := by
  unfold w_tDigitOf_0 at h
  refine zs_iload rfl rfl ?_
  refine zs_pushI (3120) rfl rfl ?_
  refine zs_sub (a := a0) (b := 3120) rfl ?_
  refine zs_istore (ls1 := [some (.int (z_i a0)), some (.int (z_i (a0 - 3120)))]) rfl rfl rfl ?_
  refine zs_iload rfl rfl ?_
  obtain ⟨g1, h⟩ := h
  obtain ⟨h4, h5⟩ := h
  refine zs_iflt rfl g1 (fun c => ?_) (fun c => ?_)
  · have h := h4 c
    refine zs_pushI (-1) rfl rfl ?_
    exact zs_iret rfl h
  · have h := h5 c
    refine zs_iload rfl rfl ?_
    refine zs_pushI (9) rfl rfl ?_
    obtain ⟨h2, h3⟩ := h
    refine zs_cgt rfl g1 (z_rk rfl) (fun c => ?_) (fun c => ?_)
    · have h := h2 c
      refine zs_pushI (-1) rfl rfl ?_
      exact zs_iret rfl h
    · have h := h3 c
      refine zs_iload rfl rfl ?_
      refine zs_goto rfl ?_
      exact zs_iret rfl h
theorem r_tDigitOf {n d : Nat} {a0 : Int} {D : z_D} {K : Int → z_D → Prop} {T : Nat → z_D → Prop}  (h : w_tDigitOf_0 n d a0 D K T) : z_c n (d + 1) 73 [.int (z_i a0)] D (z_qI K T) :=
  z_enter (Nat.le_of_ble_eq_true rfl) rfl (fun X => v_tDigitOf_0 h)
-- 74: TokenMouth.readMacroText()V
def w_tReadMacroText_0 (n d : Nat)  (D : z_D) (H9 : Int → z_D → Prop) (K : z_D → Prop) (T : Nat → z_D → Prop) : Prop :=
  (z_mc (D.2.2 60)) ∧
  z_c n d 6 [.ref (D.2.2 60)] D (z_qV (fun D2 => 
    H9 0 D2) T)
theorem v_tReadMacroText_0 {n d : Nat} {X : z_Xt}   {D : z_D} {H9 : Int → z_D → Prop} {K : z_D → Prop} {T : Nat → z_D → Prop} (hH9 : ∀ (a1 : Int) (o2 : Option Value) (o3 : Option Value) (D : z_D), z_nl o2 → z_nl o3 → H9 a1 D → z_w n d (k_tb 74) X 9 [some (.ref 0), some (.int (z_i a1)), o2, o3] [] D (z_qV K T)) (h : w_tReadMacroText_0 n d D H9 K T) : z_w n d (k_tb 74) X 0 [some (.ref 0), none, none, none] [] D (z_qV K T) := by
  unfold w_tReadMacroText_0 at h
  refine zs_aload rfl rfl ?_
  refine zs_getR (x := (D.2.2 60)) rfl rfl rfl ?_
  obtain ⟨g1, h⟩ := h
  refine z_callV (k := (D.2.2 60)) (as0 := []) (r := []) rfl rfl (z_sh_m0 g1) (Nat.le_of_ble_eq_true rfl) (z_oV h (fun D2 h => ?_) (fun _ _ h => h))
  refine zs_pushI (0) rfl rfl ?_
  refine zs_istore (ls1 := [some (.ref 0), some (.int (z_i 0)), none, none]) rfl rfl rfl ?_
  exact hH9 _ _ _ _ (by first | assumption | exact trivial) (by first | assumption | exact trivial) h
def w_tReadMacroText_57 (n d : Nat) (a1 : Int) (a2 : Int) (D : z_D) (H9 : Int → z_D → Prop) (K : z_D → Prop) (T : Nat → z_D → Prop) : Prop :=
  (z_mc (D.2.2 60)) ∧
  z_c n d 27 [.ref ((D.2.2 60) + 1), .int (z_i a2)] D (z_qZ (fun v3 D2 => 
    ((v3 = true) →
      H9 (a1 + 1) D2) ∧
    ((v3 = false) →
      z_c n d 48 [.ref 0, .int (z_i 5)] D2 (z_qI (fun v5 D4 => 
        H9 (a1 + 1) D4) T))) T)
theorem v_tReadMacroText_57 {n d : Nat} {X : z_Xt} {a1 : Int} {a2 : Int} {o3 : Option Value} {D : z_D} {H9 : Int → z_D → Prop} {K : z_D → Prop} {T : Nat → z_D → Prop} (hH9 : ∀ (a1 : Int) (o2 : Option Value) (o3 : Option Value) (D : z_D), z_nl o2 → z_nl o3 → H9 a1 D → z_w n d (k_tb 74) X 9 [some (.ref 0), some (.int (z_i a1)), o2, o3] [] D (z_qV K T)) (n3 : z_nl o3) (h : w_tReadMacroText_57 n d a1 a2 D H9 K T) : z_w n d (k_tb 74) X 57 [some (.ref 0), some (.int (z_i a1)), some (.int (z_i a2)), o3] [] D (z_qV K T) := by
  unfold w_tReadMacroText_57 at h
  refine zs_aload rfl rfl ?_
  refine zs_getR (x := (D.2.2 60)) rfl rfl rfl ?_
  obtain ⟨g1, h⟩ := h
  refine zs_getR rfl (z_sh_m0 g1) (z_R_mt g1) ?_
  refine zs_iload rfl rfl ?_
  refine z_callV (k := ((D.2.2 60) + 1)) (as0 := [.int (z_i a2)]) (r := []) rfl rfl (z_row_mt g1).1 (Nat.le_of_ble_eq_true rfl) (z_oZ h (fun v3 D2 h => ?_) (fun _ _ h => h))
  obtain ⟨h6, h7⟩ := h
  refine zs_bne rfl (fun c => ?_) (fun c => ?_)
  · have h := h6 c
    refine zs_iinc (a := a1) (1) (ls1 := [some (.ref 0), some (.int (z_i (a1 + 1))), some (.int (z_i a2)), o3]) rfl rfl rfl rfl ?_
    refine zs_goto rfl ?_
    exact hH9 _ _ _ _ (by first | assumption | exact trivial) (by first | assumption | exact trivial) h
  · have h := h7 c
    refine zs_aload rfl rfl ?_
    refine zs_pushI (5) rfl rfl ?_
    refine z_callV (k := 0) (as0 := [.int (z_i 5)]) (r := []) rfl rfl rfl (Nat.le_of_ble_eq_true rfl) (z_oI h (fun v5 D4 h => ?_) (fun _ _ h => h))
    refine zs_pop rfl rfl ?_
    refine zs_iinc (a := a1) (1) (ls1 := [some (.ref 0), some (.int (z_i (a1 + 1))), some (.int (z_i a2)), o3]) rfl rfl rfl rfl ?_
    refine zs_goto rfl ?_
    exact hH9 _ _ _ _ (by first | assumption | exact trivial) (by first | assumption | exact trivial) h
def w_tReadMacroText_46 (n d : Nat) (a1 : Int) (a2 : Int) (a3 : Int) (D : z_D) (H9 : Int → z_D → Prop) (K : z_D → Prop) (T : Nat → z_D → Prop) : Prop :=
  (z_r a3) ∧
  ((¬ a3 = 6) →
    w_tReadMacroText_57 n d a1 a2 D H9 K T) ∧
  ((a3 = 6) →
    z_c n d 75 [.ref 0] D (z_qI (fun v3 D2 => 
      w_tReadMacroText_57 n d a1 v3 D2 H9 K T) T))
theorem v_tReadMacroText_46 {n d : Nat} {X : z_Xt} {a1 : Int} {a2 : Int} {a3 : Int}  {D : z_D} {H9 : Int → z_D → Prop} {K : z_D → Prop} {T : Nat → z_D → Prop} (hH9 : ∀ (a1 : Int) (o2 : Option Value) (o3 : Option Value) (D : z_D), z_nl o2 → z_nl o3 → H9 a1 D → z_w n d (k_tb 74) X 9 [some (.ref 0), some (.int (z_i a1)), o2, o3] [] D (z_qV K T)) (h : w_tReadMacroText_46 n d a1 a2 a3 D H9 K T) : z_w n d (k_tb 74) X 46 [some (.ref 0), some (.int (z_i a1)), some (.int (z_i a2)), some (.int (z_i a3))] [] D (z_qV K T) := by
  unfold w_tReadMacroText_46 at h
  refine zs_iload rfl rfl ?_
  refine zs_pushI (6) rfl rfl ?_
  obtain ⟨g1, h⟩ := h
  obtain ⟨h4, h5⟩ := h
  refine zs_cne rfl g1 (z_rk rfl) (fun c => ?_) (fun c => ?_)
  · have h := h4 c
    exact v_tReadMacroText_57 hH9 (by first | assumption | exact trivial) h
  · have h := h5 c
    refine zs_aload rfl rfl ?_
    refine z_callV (k := 0) (as0 := []) (r := []) rfl rfl rfl (Nat.le_of_ble_eq_true rfl) (z_oI h (fun v3 D2 h => ?_) (fun _ _ h => h))
    refine zs_istore (ls1 := [some (.ref 0), some (.int (z_i a1)), some (.int (z_i v3)), some (.int (z_i a3))]) rfl rfl rfl ?_
    exact v_tReadMacroText_57 hH9 (by first | assumption | exact trivial) h
def w_tReadMacroText_9 (n d : Nat) (a1 : Int) (D : z_D) (H9 : Int → z_D → Prop) (K : z_D → Prop) (T : Nat → z_D → Prop) : Prop :=
  (z_r a1) ∧
  ((12 < a1) →
    K D) ∧
  ((a1 ≤ 12) →
    z_c n d 61 [.ref 0, .int (z_i (z_b true))] D (z_qI (fun v3 D2 => 
      z_c n d 52 [.int (z_i v3)] D2 (z_qI (fun v5 D4 => 
        z_c n d 53 [.int (z_i v5)] D4 (z_qI (fun v7 D6 => 
          (z_r v7) ∧
          ((¬ v7 = 1) →
            ((¬ v7 = 2) →
              w_tReadMacroText_46 n d a1 v5 v7 D6 H9 K T) ∧
            ((v7 = 2) →
              z_c n d 48 [.ref 0, .int (z_i 1)] D6 (z_qI (fun v10 D9 => 
                w_tReadMacroText_46 n d a1 v5 v7 D9 H9 K T) T))) ∧
          ((v7 = 1) →
            K D6)) T)) T)) T))
theorem v_tReadMacroText_9 {n d : Nat} {X : z_Xt} {a1 : Int} {o2 : Option Value} {o3 : Option Value} {D : z_D} {H9 : Int → z_D → Prop} {K : z_D → Prop} {T : Nat → z_D → Prop} (hH9 : ∀ (a1 : Int) (o2 : Option Value) (o3 : Option Value) (D : z_D), z_nl o2 → z_nl o3 → H9 a1 D → z_w n d (k_tb 74) X 9 [some (.ref 0), some (.int (z_i a1)), o2, o3] [] D (z_qV K T)) (n2 : z_nl o2) (n3 : z_nl o3) (h : w_tReadMacroText_9 n d a1 D H9 K T) : z_w n d (k_tb 74) X 9 [some (.ref 0), some (.int (z_i a1)), o2, o3] [] D (z_qV K T) := by
  unfold w_tReadMacroText_9 at h
  refine zs_iload rfl rfl ?_
  refine zs_pushI (12) rfl rfl ?_
  obtain ⟨g1, h⟩ := h
  obtain ⟨h15, h16⟩ := h
  refine zs_cgt rfl g1 (z_rk rfl) (fun c => ?_) (fun c => ?_)
  · have h := h15 c
    exact zs_ret rfl h
  · have h := h16 c
    refine zs_aload rfl rfl ?_
    refine zs_pushI (1) rfl rfl ?_
    refine z_callV (k := 0) (as0 := [.int (z_i (z_b true))]) (r := []) rfl rfl rfl (Nat.le_of_ble_eq_true rfl) (z_oI h (fun v3 D2 h => ?_) (fun _ _ h => h))
    refine z_callS (as0 := [.int (z_i v3)]) (r := []) rfl rfl (Nat.le_of_ble_eq_true rfl) (z_oI h (fun v5 D4 h => ?_) (fun _ _ h => h))
    refine zs_istore (ls1 := [some (.ref 0), some (.int (z_i a1)), some (.int (z_i v5)), o3]) rfl rfl rfl ?_
    refine zs_iload rfl rfl ?_
    refine z_callS (as0 := [.int (z_i v5)]) (r := []) rfl rfl (Nat.le_of_ble_eq_true rfl) (z_oI h (fun v7 D6 h => ?_) (fun _ _ h => h))
    refine zs_istore (ls1 := [some (.ref 0), some (.int (z_i a1)), some (.int (z_i v5)), some (.int (z_i v7))]) rfl rfl rfl ?_
    refine zs_iload rfl rfl ?_
    refine zs_pushI (1) rfl rfl ?_
    obtain ⟨g8, h⟩ := h
    obtain ⟨h13, h14⟩ := h
    refine zs_cne rfl g8 (z_rk rfl) (fun c => ?_) (fun c => ?_)
    · have h := h13 c
      refine zs_iload rfl rfl ?_
      refine zs_pushI (2) rfl rfl ?_
      obtain ⟨h11, h12⟩ := h
      refine zs_cne rfl g8 (z_rk rfl) (fun c => ?_) (fun c => ?_)
      · have h := h11 c
        exact v_tReadMacroText_46 hH9 h
      · have h := h12 c
        refine zs_aload rfl rfl ?_
        refine zs_pushI (1) rfl rfl ?_
        refine z_callV (k := 0) (as0 := [.int (z_i 1)]) (r := []) rfl rfl rfl (Nat.le_of_ble_eq_true rfl) (z_oI h (fun v10 D9 h => ?_) (fun _ _ h => h))
        refine zs_pop rfl rfl ?_
        exact v_tReadMacroText_46 hH9 h
    · have h := h14 c
      exact zs_ret rfl h
theorem r_tReadMacroText {n d : Nat}  {D : z_D} {K : z_D → Prop} {T : Nat → z_D → Prop}  (I9 : Nat → Int → z_D → Prop) (hE : w_tReadMacroText_0 n d D (fun a1 D => ∃ m, I9 m a1 D) K T) (h9 : ∀ (mm : Nat) (a1 : Int) (D : z_D), I9 mm a1 D → w_tReadMacroText_9 n d a1 D (fun a1 D => ∃ m, m < mm ∧ I9 m a1 D) K T) : z_c n (d + 1) 74 [.ref 0] D (z_qV K T) := by
  refine z_enter (Nat.le_of_ble_eq_true rfl) rfl (fun X => ?_)
  have key : ∀ m, (∀ (a1 : Int) (o2 : Option Value) (o3 : Option Value) (D : z_D), z_nl o2 → z_nl o3 → I9 m a1 D → z_w n d (k_tb 74) X 9 [some (.ref 0), some (.int (z_i a1)), o2, o3] [] D (z_qV K T)) := by
    intro m
    induction m using Nat.strongRecOn with
    | _ mm ih =>
      exact fun a1 o2 o3 D n2 n3 hI => v_tReadMacroText_9 (fun a1 o2 o3 D n2 n3 ⟨m, hm, hI⟩ => (ih m hm) _ _ _ _ n2 n3 hI) n2 n3 (h9 mm a1 D hI)
  exact v_tReadMacroText_0 (fun a1 o2 o3 D n2 n3 ⟨m, hI⟩ => (key m) _ _ _ _ n2 n3 hI) hE
-- 75: TokenMouth.newParameter()I
def w_tNewParameter_40 (n d : Nat)  (D : z_D)  (K : Int → z_D → Prop) (T : Nat → z_D → Prop) : Prop :=
  z_c n d 48 [.ref 0, .int (z_i 4)] D (z_qI (fun v2 D1 => 
    K v2 D1) T)
theorem v_tNewParameter_40 {n d : Nat} {X : z_Xt}  {o1 : Option Value} {o2 : Option Value} {D : z_D}  {K : Int → z_D → Prop} {T : Nat → z_D → Prop} (n1 : z_nl o1) (n2 : z_nl o2) (h : w_tNewParameter_40 n d D K T) : z_w n d (k_tb 75) X 40 [some (.ref 0), o1, o2] [] D (z_qI K T) := by
  unfold w_tNewParameter_40 at h
  refine zs_aload rfl rfl ?_
  refine zs_pushI (4) rfl rfl ?_
  refine z_callV (k := 0) (as0 := [.int (z_i 4)]) (r := []) rfl rfl rfl (Nat.le_of_ble_eq_true rfl) (z_oI h (fun v2 D1 h => ?_) (fun _ _ h => h))
  exact zs_iret rfl h
def w_tNewParameter_0 (n d : Nat)  (D : z_D)  (K : Int → z_D → Prop) (T : Nat → z_D → Prop) : Prop :=
  z_c n d 61 [.ref 0, .int (z_i (z_b true))] D (z_qI (fun v2 D1 => 
    (z_mc (D1.2.2 60)) ∧
    (z_r ((D1.1 (D1.2.2 60) 2) + 1)) ∧
    ((4 < ((D1.1 (D1.2.2 60) 2) + 1)) →
      w_tNewParameter_40 n d D1 K T) ∧
    ((((D1.1 (D1.2.2 60) 2) + 1) ≤ 4) →
      (z_r v2) ∧
      ((4096 ≤ v2) →
        w_tNewParameter_40 n d D1 K T) ∧
      ((v2 < 4096) →
        (z_r (48 + ((D1.1 (D1.2.2 60) 2) + 1))) ∧
        (((z_and v2 255) = (48 + ((D1.1 (D1.2.2 60) 2) + 1))) →
          ∀ D7, D7 = z_uz D1 (D1.2.2 60) 2 ((D1.1 (D1.2.2 60) 2) + 1) →
          K (8192 + ((D1.1 (D1.2.2 60) 2) + 1)) D7) ∧
        ((¬ (z_and v2 255) = (48 + ((D1.1 (D1.2.2 60) 2) + 1))) →
          w_tNewParameter_40 n d D1 K T)))) T)
theorem v_tNewParameter_0 {n d : Nat} {X : z_Xt}   {D : z_D}  {K : Int → z_D → Prop} {T : Nat → z_D → Prop}  (h : w_tNewParameter_0 n d D K T) : z_w n d (k_tb 75) X 0 [some (.ref 0), none, none] [] D (z_qI K T) := by
  unfold w_tNewParameter_0 at h
  refine zs_aload rfl rfl ?_
  refine zs_pushI (1) rfl rfl ?_
  refine z_callV (k := 0) (as0 := [.int (z_i (z_b true))]) (r := []) rfl rfl rfl (Nat.le_of_ble_eq_true rfl) (z_oI h (fun v2 D1 h => ?_) (fun _ _ h => h))
  refine zs_istore (ls1 := [some (.ref 0), some (.int (z_i v2)), none]) rfl rfl rfl ?_
  refine zs_aload rfl rfl ?_
  refine zs_getR (x := (D1.2.2 60)) rfl rfl rfl ?_
  obtain ⟨g3, h⟩ := h
  refine zs_getI rfl (z_sh_m0 g3) ?_
  refine zs_pushI (1) rfl rfl ?_
  refine zs_add (a := (D1.1 (D1.2.2 60) 2)) (b := 1) rfl ?_
  refine zs_istore (ls1 := [some (.ref 0), some (.int (z_i v2)), some (.int (z_i ((D1.1 (D1.2.2 60) 2) + 1)))]) rfl rfl rfl ?_
  refine zs_iload rfl rfl ?_
  refine zs_pushI (4) rfl rfl ?_
  obtain ⟨g4, h⟩ := h
  obtain ⟨h12, h13⟩ := h
  refine zs_cgt rfl g4 (z_rk rfl) (fun c => ?_) (fun c => ?_)
  · have h := h12 c
    exact v_tNewParameter_40 (by first | assumption | exact trivial) (by first | assumption | exact trivial) h
  · have h := h13 c
    refine zs_iload rfl rfl ?_
    refine zs_pushI (4096) rfl rfl ?_
    obtain ⟨g5, h⟩ := h
    obtain ⟨h10, h11⟩ := h
    refine zs_cge rfl g5 (z_rk rfl) (fun c => ?_) (fun c => ?_)
    · have h := h10 c
      exact v_tNewParameter_40 (by first | assumption | exact trivial) (by first | assumption | exact trivial) h
    · have h := h11 c
      refine zs_iload rfl rfl ?_
      refine zs_pushI (255) rfl rfl ?_
      refine zs_and (a := v2) (b := 255) rfl ?_
      refine zs_pushI (48) rfl rfl ?_
      refine zs_iload rfl rfl ?_
      refine zs_add (a := 48) (b := ((D1.1 (D1.2.2 60) 2) + 1)) rfl ?_
      obtain ⟨g6, h⟩ := h
      obtain ⟨h8, h9⟩ := h
      refine zs_ceq rfl (z_r_toInt _) g6 (fun c => ?_) (fun c => ?_)
      · have h := h8 c
        refine zs_aload rfl rfl ?_
        refine zs_getR (x := (D1.2.2 60)) rfl rfl rfl ?_
        refine zs_iload rfl rfl ?_
        refine zs_putI rfl (z_sh_m0 g3) (fun D7 eD7 => ?_)
        have h := h D7 eD7
        refine zs_pushI (8192) rfl rfl ?_
        refine zs_iload rfl rfl ?_
        refine zs_add (a := 8192) (b := ((D1.1 (D1.2.2 60) 2) + 1)) rfl ?_
        exact zs_iret rfl h
      · have h := h9 c
        exact v_tNewParameter_40 (by first | assumption | exact trivial) (by first | assumption | exact trivial) h
theorem r_tNewParameter {n d : Nat}  {D : z_D} {K : Int → z_D → Prop} {T : Nat → z_D → Prop}  (h : w_tNewParameter_0 n d D K T) : z_c n (d + 1) 75 [.ref 0] D (z_qI K T) :=
  z_enter (Nat.le_of_ble_eq_true rfl) rfl (fun X => v_tNewParameter_0 h)
-- 76: TokenMouth.readBody(Z)V
def w_tReadBody_0 (n d : Nat) (b1 : Bool) (D : z_D) (H4 : Bool → Int → Int → z_D → Prop) (K : z_D → Prop) (T : Nat → z_D → Prop) : Prop :=
  H4 b1 0 0 D
theorem v_tReadBody_0 {n d : Nat} {X : z_Xt} {b1 : Bool}  {D : z_D} {H4 : Bool → Int → Int → z_D → Prop} {K : z_D → Prop} {T : Nat → z_D → Prop} (hH4 : ∀ (b1 : Bool) (a2 : Int) (a3 : Int) (o4 : Option Value) (D : z_D), z_nl o4 → H4 b1 a2 a3 D → z_w n d (k_tb 76) X 4 [some (.ref 0), some (.int (z_i (z_b b1))), some (.int (z_i a2)), some (.int (z_i a3)), o4] [] D (z_qV K T)) (h : w_tReadBody_0 n d b1 D H4 K T) : z_w n d (k_tb 76) X 0 [some (.ref 0), some (.int (z_i (z_b b1))), none, none, none] [] D (z_qV K T) := by
  unfold w_tReadBody_0 at h
  refine zs_pushI (0) rfl rfl ?_
  refine zs_istore (ls1 := [some (.ref 0), some (.int (z_i (z_b b1))), some (.int (z_i 0)), none, none]) rfl rfl rfl ?_
  refine zs_pushI (0) rfl rfl ?_
  refine zs_istore (ls1 := [some (.ref 0), some (.int (z_i (z_b b1))), some (.int (z_i 0)), some (.int (z_i 0)), none]) rfl rfl rfl ?_
  exact hH4 _ _ _ _ _ (by first | assumption | exact trivial) h
def w_tReadBody_76 (n d : Nat) (b1 : Bool) (a2 : Int) (a3 : Int) (a4 : Int) (D : z_D) (H4 : Bool → Int → Int → z_D → Prop) (K : z_D → Prop) (T : Nat → z_D → Prop) : Prop :=
  (z_mc (D.2.2 60)) ∧
  z_c n d 27 [.ref ((D.2.2 60) + 3), .int (z_i a4)] D (z_qZ (fun v3 D2 => 
    ((v3 = true) →
      H4 b1 a2 (a3 + 1) D2) ∧
    ((v3 = false) →
      z_c n d 48 [.ref 0, .int (z_i 5)] D2 (z_qI (fun v5 D4 => 
        H4 b1 a2 (a3 + 1) D4) T))) T)
theorem v_tReadBody_76 {n d : Nat} {X : z_Xt} {b1 : Bool} {a2 : Int} {a3 : Int} {a4 : Int}  {D : z_D} {H4 : Bool → Int → Int → z_D → Prop} {K : z_D → Prop} {T : Nat → z_D → Prop} (hH4 : ∀ (b1 : Bool) (a2 : Int) (a3 : Int) (o4 : Option Value) (D : z_D), z_nl o4 → H4 b1 a2 a3 D → z_w n d (k_tb 76) X 4 [some (.ref 0), some (.int (z_i (z_b b1))), some (.int (z_i a2)), some (.int (z_i a3)), o4] [] D (z_qV K T)) (h : w_tReadBody_76 n d b1 a2 a3 a4 D H4 K T) : z_w n d (k_tb 76) X 76 [some (.ref 0), some (.int (z_i (z_b b1))), some (.int (z_i a2)), some (.int (z_i a3)), some (.int (z_i a4))] [] D (z_qV K T) := by
  unfold w_tReadBody_76 at h
  refine zs_aload rfl rfl ?_
  refine zs_getR (x := (D.2.2 60)) rfl rfl rfl ?_
  obtain ⟨g1, h⟩ := h
  refine zs_getR rfl (z_sh_m0 g1) (z_R_mb g1) ?_
  refine zs_iload rfl rfl ?_
  refine z_callV (k := ((D.2.2 60) + 3)) (as0 := [.int (z_i a4)]) (r := []) rfl rfl (z_row_mb g1).1 (Nat.le_of_ble_eq_true rfl) (z_oZ h (fun v3 D2 h => ?_) (fun _ _ h => h))
  obtain ⟨h6, h7⟩ := h
  refine zs_bne rfl (fun c => ?_) (fun c => ?_)
  · have h := h6 c
    refine zs_iinc (a := a3) (1) (ls1 := [some (.ref 0), some (.int (z_i (z_b b1))), some (.int (z_i a2)), some (.int (z_i (a3 + 1))), some (.int (z_i a4))]) rfl rfl rfl rfl ?_
    refine zs_goto rfl ?_
    exact hH4 _ _ _ _ _ (by first | assumption | exact trivial) h
  · have h := h7 c
    refine zs_aload rfl rfl ?_
    refine zs_pushI (5) rfl rfl ?_
    refine z_callV (k := 0) (as0 := [.int (z_i 5)]) (r := []) rfl rfl rfl (Nat.le_of_ble_eq_true rfl) (z_oI h (fun v5 D4 h => ?_) (fun _ _ h => h))
    refine zs_pop rfl rfl ?_
    refine zs_iinc (a := a3) (1) (ls1 := [some (.ref 0), some (.int (z_i (z_b b1))), some (.int (z_i a2)), some (.int (z_i (a3 + 1))), some (.int (z_i a4))]) rfl rfl rfl rfl ?_
    refine zs_goto rfl ?_
    exact hH4 _ _ _ _ _ (by first | assumption | exact trivial) h
def w_tReadBody_71 (n d : Nat) (b1 : Bool) (a2 : Int) (a3 : Int) (s1 : Int) (D : z_D) (H4 : Bool → Int → Int → z_D → Prop) (K : z_D → Prop) (T : Nat → z_D → Prop) : Prop :=
  z_c n d 77 [.ref 0, .int (z_i s1)] D (z_qI (fun v2 D1 => 
    w_tReadBody_76 n d b1 a2 a3 v2 D1 H4 K T) T)
theorem v_tReadBody_71 {n d : Nat} {X : z_Xt} {b1 : Bool} {a2 : Int} {a3 : Int} {s1 : Int} {o4 : Option Value} {D : z_D} {H4 : Bool → Int → Int → z_D → Prop} {K : z_D → Prop} {T : Nat → z_D → Prop} (hH4 : ∀ (b1 : Bool) (a2 : Int) (a3 : Int) (o4 : Option Value) (D : z_D), z_nl o4 → H4 b1 a2 a3 D → z_w n d (k_tb 76) X 4 [some (.ref 0), some (.int (z_i (z_b b1))), some (.int (z_i a2)), some (.int (z_i a3)), o4] [] D (z_qV K T)) (n4 : z_nl o4) (h : w_tReadBody_71 n d b1 a2 a3 s1 D H4 K T) : z_w n d (k_tb 76) X 71 [some (.ref 0), some (.int (z_i (z_b b1))), some (.int (z_i a2)), some (.int (z_i a3)), o4] [.int (z_i s1), .ref 0] D (z_qV K T) := by
  unfold w_tReadBody_71 at h
  refine z_callV (k := 0) (as0 := [.int (z_i s1)]) (r := []) rfl rfl rfl (Nat.le_of_ble_eq_true rfl) (z_oI h (fun v2 D1 h => ?_) (fun _ _ h => h))
  refine zs_istore (ls1 := [some (.ref 0), some (.int (z_i (z_b b1))), some (.int (z_i a2)), some (.int (z_i a3)), some (.int (z_i v2))]) rfl rfl rfl ?_
  exact v_tReadBody_76 hH4 h
def w_tReadBody_26 (n d : Nat) (b1 : Bool) (a2 : Int) (a3 : Int) (s0 : Int) (D : z_D) (H4 : Bool → Int → Int → z_D → Prop) (K : z_D → Prop) (T : Nat → z_D → Prop) : Prop :=
  z_c n d 52 [.int (z_i s0)] D (z_qI (fun v2 D1 => 
    z_c n d 54 [.int (z_i v2)] D1 (z_qI (fun v4 D3 => 
      (z_r (a2 + v4)) ∧
      ((0 ≤ (a2 + v4)) →
        z_c n d 53 [.int (z_i v2)] D3 (z_qI (fun v7 D6 => 
          (z_r v7) ∧
          ((¬ v7 = 6) →
            w_tReadBody_76 n d b1 (a2 + v4) a3 v2 D6 H4 K T) ∧
          ((v7 = 6) →
            ((b1 = false) →
              z_c n d 61 [.ref 0, .int (z_i (z_b true))] D6 (z_qI (fun v10 D9 => 
                w_tReadBody_71 n d b1 (a2 + v4) a3 v10 D9 H4 K T) T)) ∧
            ((b1 = true) →
              z_c n d 62 [.ref 0] D6 (z_qI (fun v12 D11 => 
                w_tReadBody_71 n d b1 (a2 + v4) a3 v12 D11 H4 K T) T)))) T)) ∧
      (((a2 + v4) < 0) →
        K D3)) T)) T)
theorem v_tReadBody_26 {n d : Nat} {X : z_Xt} {b1 : Bool} {a2 : Int} {a3 : Int} {s0 : Int} {o4 : Option Value} {D : z_D} {H4 : Bool → Int → Int → z_D → Prop} {K : z_D → Prop} {T : Nat → z_D → Prop} (hH4 : ∀ (b1 : Bool) (a2 : Int) (a3 : Int) (o4 : Option Value) (D : z_D), z_nl o4 → H4 b1 a2 a3 D → z_w n d (k_tb 76) X 4 [some (.ref 0), some (.int (z_i (z_b b1))), some (.int (z_i a2)), some (.int (z_i a3)), o4] [] D (z_qV K T)) (n4 : z_nl o4) (h : w_tReadBody_26 n d b1 a2 a3 s0 D H4 K T) : z_w n d (k_tb 76) X 26 [some (.ref 0), some (.int (z_i (z_b b1))), some (.int (z_i a2)), some (.int (z_i a3)), o4] [.int (z_i s0)] D (z_qV K T) := by
  unfold w_tReadBody_26 at h
  refine z_callS (as0 := [.int (z_i s0)]) (r := []) rfl rfl (Nat.le_of_ble_eq_true rfl) (z_oI h (fun v2 D1 h => ?_) (fun _ _ h => h))
  refine zs_istore (ls1 := [some (.ref 0), some (.int (z_i (z_b b1))), some (.int (z_i a2)), some (.int (z_i a3)), some (.int (z_i v2))]) rfl rfl rfl ?_
  refine zs_iload rfl rfl ?_
  refine zs_iload rfl rfl ?_
  refine z_callS (as0 := [.int (z_i v2)]) (r := [.int (z_i a2)]) rfl rfl (Nat.le_of_ble_eq_true rfl) (z_oI h (fun v4 D3 h => ?_) (fun _ _ h => h))
  refine zs_add (a := a2) (b := v4) rfl ?_
  refine zs_istore (ls1 := [some (.ref 0), some (.int (z_i (z_b b1))), some (.int (z_i (a2 + v4))), some (.int (z_i a3)), some (.int (z_i v2))]) rfl rfl rfl ?_
  refine zs_iload rfl rfl ?_
  obtain ⟨g5, h⟩ := h
  obtain ⟨h17, h18⟩ := h
  refine zs_ifge rfl g5 (fun c => ?_) (fun c => ?_)
  · have h := h17 c
    refine zs_iload rfl rfl ?_
    refine z_callS (as0 := [.int (z_i v2)]) (r := []) rfl rfl (Nat.le_of_ble_eq_true rfl) (z_oI h (fun v7 D6 h => ?_) (fun _ _ h => h))
    refine zs_pushI (6) rfl rfl ?_
    obtain ⟨g8, h⟩ := h
    obtain ⟨h15, h16⟩ := h
    refine zs_cne rfl g8 (z_rk rfl) (fun c => ?_) (fun c => ?_)
    · have h := h15 c
      exact v_tReadBody_76 hH4 h
    · have h := h16 c
      refine zs_aload rfl rfl ?_
      refine zs_iload rfl rfl ?_
      obtain ⟨h13, h14⟩ := h
      refine zs_beq rfl (fun c => ?_) (fun c => ?_)
      · have h := h13 c
        refine zs_aload rfl rfl ?_
        refine zs_pushI (1) rfl rfl ?_
        refine z_callV (k := 0) (as0 := [.int (z_i (z_b true))]) (r := [.ref 0]) rfl rfl rfl (Nat.le_of_ble_eq_true rfl) (z_oI h (fun v10 D9 h => ?_) (fun _ _ h => h))
        exact v_tReadBody_71 hH4 (by first | assumption | exact trivial) h
      · have h := h14 c
        refine zs_aload rfl rfl ?_
        refine z_callV (k := 0) (as0 := []) (r := [.ref 0]) rfl rfl rfl (Nat.le_of_ble_eq_true rfl) (z_oI h (fun v12 D11 h => ?_) (fun _ _ h => h))
        refine zs_goto rfl ?_
        exact v_tReadBody_71 hH4 (by first | assumption | exact trivial) h
  · have h := h18 c
    exact zs_ret rfl h
def w_tReadBody_4 (n d : Nat) (b1 : Bool) (a2 : Int) (a3 : Int) (D : z_D) (H4 : Bool → Int → Int → z_D → Prop) (K : z_D → Prop) (T : Nat → z_D → Prop) : Prop :=
  (z_r a3) ∧
  ((40 < a3) →
    K D) ∧
  ((a3 ≤ 40) →
    ((b1 = false) →
      z_c n d 61 [.ref 0, .int (z_i (z_b true))] D (z_qI (fun v3 D2 => 
        w_tReadBody_26 n d b1 a2 a3 v3 D2 H4 K T) T)) ∧
    ((b1 = true) →
      z_c n d 62 [.ref 0] D (z_qI (fun v5 D4 => 
        w_tReadBody_26 n d b1 a2 a3 v5 D4 H4 K T) T)))
theorem v_tReadBody_4 {n d : Nat} {X : z_Xt} {b1 : Bool} {a2 : Int} {a3 : Int} {o4 : Option Value} {D : z_D} {H4 : Bool → Int → Int → z_D → Prop} {K : z_D → Prop} {T : Nat → z_D → Prop} (hH4 : ∀ (b1 : Bool) (a2 : Int) (a3 : Int) (o4 : Option Value) (D : z_D), z_nl o4 → H4 b1 a2 a3 D → z_w n d (k_tb 76) X 4 [some (.ref 0), some (.int (z_i (z_b b1))), some (.int (z_i a2)), some (.int (z_i a3)), o4] [] D (z_qV K T)) (n4 : z_nl o4) (h : w_tReadBody_4 n d b1 a2 a3 D H4 K T) : z_w n d (k_tb 76) X 4 [some (.ref 0), some (.int (z_i (z_b b1))), some (.int (z_i a2)), some (.int (z_i a3)), o4] [] D (z_qV K T) := by
  unfold w_tReadBody_4 at h
  refine zs_iload rfl rfl ?_
  refine zs_pushI (40) rfl rfl ?_
  obtain ⟨g1, h⟩ := h
  obtain ⟨h8, h9⟩ := h
  refine zs_cgt rfl g1 (z_rk rfl) (fun c => ?_) (fun c => ?_)
  · have h := h8 c
    exact zs_ret rfl h
  · have h := h9 c
    refine zs_iload rfl rfl ?_
    obtain ⟨h6, h7⟩ := h
    refine zs_beq rfl (fun c => ?_) (fun c => ?_)
    · have h := h6 c
      refine zs_aload rfl rfl ?_
      refine zs_pushI (1) rfl rfl ?_
      refine z_callV (k := 0) (as0 := [.int (z_i (z_b true))]) (r := []) rfl rfl rfl (Nat.le_of_ble_eq_true rfl) (z_oI h (fun v3 D2 h => ?_) (fun _ _ h => h))
      exact v_tReadBody_26 hH4 (by first | assumption | exact trivial) h
    · have h := h7 c
      refine zs_aload rfl rfl ?_
      refine z_callV (k := 0) (as0 := []) (r := []) rfl rfl rfl (Nat.le_of_ble_eq_true rfl) (z_oI h (fun v5 D4 h => ?_) (fun _ _ h => h))
      refine zs_goto rfl ?_
      exact v_tReadBody_26 hH4 (by first | assumption | exact trivial) h
theorem r_tReadBody {n d : Nat} {b1 : Bool} {D : z_D} {K : z_D → Prop} {T : Nat → z_D → Prop}  (I4 : Nat → Bool → Int → Int → z_D → Prop) (hE : w_tReadBody_0 n d b1 D (fun b1 a2 a3 D => ∃ m, I4 m b1 a2 a3 D) K T) (h4 : ∀ (mm : Nat) (b1 : Bool) (a2 : Int) (a3 : Int) (D : z_D), I4 mm b1 a2 a3 D → w_tReadBody_4 n d b1 a2 a3 D (fun b1 a2 a3 D => ∃ m, m < mm ∧ I4 m b1 a2 a3 D) K T) : z_c n (d + 1) 76 [.ref 0, .int (z_i (z_b b1))] D (z_qV K T) := by
  refine z_enter (Nat.le_of_ble_eq_true rfl) rfl (fun X => ?_)
  have key : ∀ m, (∀ (b1 : Bool) (a2 : Int) (a3 : Int) (o4 : Option Value) (D : z_D), z_nl o4 → I4 m b1 a2 a3 D → z_w n d (k_tb 76) X 4 [some (.ref 0), some (.int (z_i (z_b b1))), some (.int (z_i a2)), some (.int (z_i a3)), o4] [] D (z_qV K T)) := by
    intro m
    induction m using Nat.strongRecOn with
    | _ mm ih =>
      exact fun b1 a2 a3 o4 D n4 hI => v_tReadBody_4 (fun b1 a2 a3 o4 D n4 ⟨m, hm, hI⟩ => (ih m hm) _ _ _ _ _ n4 hI) n4 (h4 mm b1 a2 a3 D hI)
  exact v_tReadBody_0 (fun b1 a2 a3 o4 D n4 ⟨m, hI⟩ => (key m) _ _ _ _ _ n4 hI) hE
-- 77: TokenMouth.behindHash(I)I
def w_tBehindHash_43 (n d : Nat)  (D : z_D)  (K : Int → z_D → Prop) (T : Nat → z_D → Prop) : Prop :=
  z_c n d 48 [.ref 0, .int (z_i 4)] D (z_qI (fun v2 D1 => 
    K v2 D1) T)
theorem v_tBehindHash_43 {n d : Nat} {X : z_Xt}  {o1 : Option Value} {o2 : Option Value} {D : z_D}  {K : Int → z_D → Prop} {T : Nat → z_D → Prop} (n1 : z_nl o1) (n2 : z_nl o2) (h : w_tBehindHash_43 n d D K T) : z_w n d (k_tb 77) X 43 [some (.ref 0), o1, o2] [] D (z_qI K T) := by
  unfold w_tBehindHash_43 at h
  refine zs_aload rfl rfl ?_
  refine zs_pushI (4) rfl rfl ?_
  refine z_callV (k := 0) (as0 := [.int (z_i 4)]) (r := []) rfl rfl rfl (Nat.le_of_ble_eq_true rfl) (z_oI h (fun v2 D1 h => ?_) (fun _ _ h => h))
  exact zs_iret rfl h
def w_tBehindHash_0 (n d : Nat) (a1 : Int) (D : z_D)  (K : Int → z_D → Prop) (T : Nat → z_D → Prop) : Prop :=
  z_c n d 53 [.int (z_i a1)] D (z_qI (fun v2 D1 => 
    (z_r v2) ∧
    ((¬ v2 = 6) →
      (z_r a1) ∧
      ((4096 ≤ a1) →
        w_tBehindHash_43 n d D1 K T) ∧
      ((a1 < 4096) →
        (z_r ((z_and a1 255) - 48)) ∧
        ((((z_and a1 255) - 48) < 1) →
          w_tBehindHash_43 n d D1 K T) ∧
        ((1 ≤ ((z_and a1 255) - 48)) →
          (z_mc (D1.2.2 60)) ∧
          (z_r (D1.1 (D1.2.2 60) 2)) ∧
          ((((z_and a1 255) - 48) ≤ (D1.1 (D1.2.2 60) 2)) →
            K (8192 + ((z_and a1 255) - 48)) D1) ∧
          (((D1.1 (D1.2.2 60) 2) < ((z_and a1 255) - 48)) →
            w_tBehindHash_43 n d D1 K T)))) ∧
    ((v2 = 6) →
      K a1 D1)) T)
theorem v_tBehindHash_0 {n d : Nat} {X : z_Xt} {a1 : Int}  {D : z_D}  {K : Int → z_D → Prop} {T : Nat → z_D → Prop}  (h : w_tBehindHash_0 n d a1 D K T) : z_w n d (k_tb 77) X 0 [some (.ref 0), some (.int (z_i a1)), none] [] D (z_qI K T) := by
  unfold w_tBehindHash_0 at h
  refine zs_iload rfl rfl ?_
  refine z_callS (as0 := [.int (z_i a1)]) (r := []) rfl rfl (Nat.le_of_ble_eq_true rfl) (z_oI h (fun v2 D1 h => ?_) (fun _ _ h => h))
  refine zs_pushI (6) rfl rfl ?_
  obtain ⟨g3, h⟩ := h
  obtain ⟨h14, h15⟩ := h
  refine zs_cne rfl g3 (z_rk rfl) (fun c => ?_) (fun c => ?_)
  · have h := h14 c
    refine zs_iload rfl rfl ?_
    refine zs_pushI (255) rfl rfl ?_
    refine zs_and (a := a1) (b := 255) rfl ?_
    refine zs_pushI (48) rfl rfl ?_
    refine zs_sub (a := (z_and a1 255)) (b := 48) rfl ?_
    refine zs_istore (ls1 := [some (.ref 0), some (.int (z_i a1)), some (.int (z_i ((z_and a1 255) - 48)))]) rfl rfl rfl ?_
    refine zs_iload rfl rfl ?_
    refine zs_pushI (4096) rfl rfl ?_
    obtain ⟨g4, h⟩ := h
    obtain ⟨h12, h13⟩ := h
    refine zs_cge rfl g4 (z_rk rfl) (fun c => ?_) (fun c => ?_)
    · have h := h12 c
      exact v_tBehindHash_43 (by first | assumption | exact trivial) (by first | assumption | exact trivial) h
    · have h := h13 c
      refine zs_iload rfl rfl ?_
      refine zs_pushI (1) rfl rfl ?_
      obtain ⟨g5, h⟩ := h
      obtain ⟨h10, h11⟩ := h
      refine zs_clt rfl g5 (z_rk rfl) (fun c => ?_) (fun c => ?_)
      · have h := h10 c
        exact v_tBehindHash_43 (by first | assumption | exact trivial) (by first | assumption | exact trivial) h
      · have h := h11 c
        refine zs_iload rfl rfl ?_
        refine zs_aload rfl rfl ?_
        refine zs_getR (x := (D1.2.2 60)) rfl rfl rfl ?_
        obtain ⟨g6, h⟩ := h
        refine zs_getI rfl (z_sh_m0 g6) ?_
        obtain ⟨g7, h⟩ := h
        obtain ⟨h8, h9⟩ := h
        refine zs_cle rfl g5 g7 (fun c => ?_) (fun c => ?_)
        · have h := h8 c
          refine zs_pushI (8192) rfl rfl ?_
          refine zs_iload rfl rfl ?_
          refine zs_add (a := 8192) (b := ((z_and a1 255) - 48)) rfl ?_
          exact zs_iret rfl h
        · have h := h9 c
          exact v_tBehindHash_43 (by first | assumption | exact trivial) (by first | assumption | exact trivial) h
  · have h := h15 c
    refine zs_iload rfl rfl ?_
    exact zs_iret rfl h
theorem r_tBehindHash {n d : Nat} {a1 : Int} {D : z_D} {K : Int → z_D → Prop} {T : Nat → z_D → Prop}  (h : w_tBehindHash_0 n d a1 D K T) : z_c n (d + 1) 77 [.ref 0, .int (z_i a1)] D (z_qI K T) :=
  z_enter (Nat.le_of_ble_eq_true rfl) rfl (fun X => v_tBehindHash_0 h)
-- 78: TokenMouth.define(IZ)V
def w_tDefine_19 (n d : Nat)  (D : z_D)  (K : z_D → Prop) (T : Nat → z_D → Prop) : Prop :=
  z_c n d 48 [.ref 0, .int (z_i 5)] D (z_qI (fun v2 D1 => 
    K D1) T)
theorem v_tDefine_19 {n d : Nat} {X : z_Xt}  {o1 : Option Value} {o2 : Option Value} {D : z_D}  {K : z_D → Prop} {T : Nat → z_D → Prop} (n1 : z_nl o1) (n2 : z_nl o2) (h : w_tDefine_19 n d D K T) : z_w n d (k_tb 78) X 19 [some (.ref 0), o1, o2, none, none] [] D (z_qV K T) := by
  unfold w_tDefine_19 at h
  refine zs_aload rfl rfl ?_
  refine zs_pushI (5) rfl rfl ?_
  refine z_callV (k := 0) (as0 := [.int (z_i 5)]) (r := []) rfl rfl rfl (Nat.le_of_ble_eq_true rfl) (z_oI h (fun v2 D1 h => ?_) (fun _ _ h => h))
  refine zs_pop rfl rfl ?_
  exact zs_ret rfl h
def w_tDefine_0 (n d : Nat) (a1 : Int) (b2 : Bool) (D : z_D)  (K : z_D → Prop) (T : Nat → z_D → Prop) : Prop :=
  (z_r (D.1 0 9)) ∧
  (((D.1 0 9) < 0) →
    w_tDefine_19 n d D K T) ∧
  ((0 ≤ (D.1 0 9)) →
    (((D.1 0 9) < 60) →
      (0 ≤ (D.1 0 9) ∧ (D.1 0 9) < 60) ∧
      (z_mc (D.2.2 60)) ∧ (0 ≤ (D.1 0 9) ∧ (D.1 0 9) < 60) ∧
      ∀ D5, D5 = z_up D (Int.toNat (D.1 0 9)) (D.2.2 60) →
      ∀ D6, D6 = z_up D5 60 (D.2.2 (Int.toNat (D.1 0 9))) →
      ∀ D7, D7 = z_uz D6 0 9 ((D6.1 0 9) + 1) →
      ((b2 = false) →
        z_c n d 69 [.ref 0, .int (z_i a1), .int (z_i (4096 + (D6.1 0 9)))] D7 (z_qV (fun D8 => 
          K D8) T)) ∧
      ((b2 = true) →
        z_c n d 4 [.ref 8, .int (z_i a1), .int (z_i (4096 + (D6.1 0 9)))] D7 (z_qV (fun D9 => 
          z_c n d 68 [.ref 0, .int (z_i a1), .int (z_i (4096 + (D6.1 0 9)))] D9 (z_qV (fun D10 => 
            K D10) T)) T))) ∧
    ((60 ≤ (D.1 0 9)) →
      w_tDefine_19 n d D K T))
theorem v_tDefine_0 {n d : Nat} {X : z_Xt} {a1 : Int} {b2 : Bool}  {D : z_D}  {K : z_D → Prop} {T : Nat → z_D → Prop}  (h : w_tDefine_0 n d a1 b2 D K T) : z_w n d (k_tb 78) X 0 [some (.ref 0), some (.int (z_i a1)), some (.int (z_i (z_b b2))), none, none] [] D (z_qV K T) := by
  unfold w_tDefine_0 at h
  refine zs_aload rfl rfl ?_
  refine zs_getI rfl rfl ?_
  obtain ⟨g1, h⟩ := h
  obtain ⟨h15, h16⟩ := h
  refine zs_iflt rfl g1 (fun c => ?_) (fun c => ?_)
  · have h := h15 c
    exact v_tDefine_19 (by first | assumption | exact trivial) (by first | assumption | exact trivial) h
  · have h := h16 c
    refine zs_aload rfl rfl ?_
    refine zs_getI rfl rfl ?_
    refine zs_aload rfl rfl ?_
    refine zs_getR (x := 30) rfl rfl rfl ?_
    refine zs_alenZ (60) rfl rfl rfl (by decide) ?_
    obtain ⟨h13, h14⟩ := h
    refine zs_clt rfl g1 (z_rk rfl) (fun c => ?_) (fun c => ?_)
    · have h := h13 c
      refine zs_aload rfl rfl ?_
      refine zs_getR (x := 30) rfl rfl rfl ?_
      refine zs_aload rfl rfl ?_
      refine zs_getI rfl rfl ?_
      obtain ⟨g2, h⟩ := h
      refine zs_aald rfl rfl (by decide) g2 (z_R_ms g2.1 g2.2) ?_
      refine zs_astore (ls1 := [some (.ref 0), some (.int (z_i a1)), some (.int (z_i (z_b b2))), some (.ref (D.2.2 (Int.toNat (D.1 0 9)))), none]) rfl rfl rfl ?_
      refine zs_aload rfl rfl ?_
      refine zs_getR (x := 30) rfl rfl rfl ?_
      refine zs_aload rfl rfl ?_
      refine zs_getI rfl rfl ?_
      refine zs_aload rfl rfl ?_
      refine zs_getR (x := (D.2.2 60)) rfl rfl rfl ?_
      obtain ⟨g3, g4, h⟩ := h
      refine zs_aast rfl g3 g4 (fun D5 eD5 => ?_)
      have h := h D5 eD5
      refine zs_aload rfl rfl ?_
      refine zs_aload rfl rfl ?_
      refine zs_putDraft rfl (fun D6 eD6 => ?_)
      have h := h D6 eD6
      refine zs_pushI (4096) rfl rfl ?_
      refine zs_aload rfl rfl ?_
      refine zs_getI rfl rfl ?_
      refine zs_add (a := 4096) (b := (D6.1 0 9)) rfl ?_
      refine zs_istore (ls1 := [some (.ref 0), some (.int (z_i a1)), some (.int (z_i (z_b b2))), some (.ref (D.2.2 (Int.toNat (D.1 0 9)))), some (.int (z_i (4096 + (D6.1 0 9))))]) rfl rfl rfl ?_
      refine zs_aload rfl rfl ?_
      refine zs_dup rfl rfl ?_
      refine zs_getI rfl rfl ?_
      refine zs_pushI (1) rfl rfl ?_
      refine zs_add (a := (D6.1 0 9)) (b := 1) rfl ?_
      refine zs_putI rfl rfl (fun D7 eD7 => ?_)
      have h := h D7 eD7
      refine zs_iload rfl rfl ?_
      obtain ⟨h11, h12⟩ := h
      refine zs_beq rfl (fun c => ?_) (fun c => ?_)
      · have h := h11 c
        refine zs_aload rfl rfl ?_
        refine zs_iload rfl rfl ?_
        refine zs_iload rfl rfl ?_
        refine z_callV (k := 0) (as0 := [.int (z_i a1), .int (z_i (4096 + (D6.1 0 9)))]) (r := []) rfl rfl rfl (Nat.le_of_ble_eq_true rfl) (z_oV h (fun D8 h => ?_) (fun _ _ h => h))
        exact zs_ret rfl h
      · have h := h12 c
        refine zs_aload rfl rfl ?_
        refine zs_getR (x := 8) rfl rfl rfl ?_
        refine zs_iload rfl rfl ?_
        refine zs_iload rfl rfl ?_
        refine z_callV (k := 8) (as0 := [.int (z_i a1), .int (z_i (4096 + (D6.1 0 9)))]) (r := []) rfl rfl rfl (Nat.le_of_ble_eq_true rfl) (z_oV h (fun D9 h => ?_) (fun _ _ h => h))
        refine zs_aload rfl rfl ?_
        refine zs_iload rfl rfl ?_
        refine zs_iload rfl rfl ?_
        refine z_callV (k := 0) (as0 := [.int (z_i a1), .int (z_i (4096 + (D6.1 0 9)))]) (r := []) rfl rfl rfl (Nat.le_of_ble_eq_true rfl) (z_oV h (fun D10 h => ?_) (fun _ _ h => h))
        refine zs_goto rfl ?_
        exact zs_ret rfl h
    · have h := h14 c
      exact v_tDefine_19 (by first | assumption | exact trivial) (by first | assumption | exact trivial) h
theorem r_tDefine {n d : Nat} {a1 : Int} {b2 : Bool} {D : z_D} {K : z_D → Prop} {T : Nat → z_D → Prop}  (h : w_tDefine_0 n d a1 b2 D K T) : z_c n (d + 1) 78 [.ref 0, .int (z_i a1), .int (z_i (z_b b2))] D (z_qV K T) :=
  z_enter (Nat.le_of_ble_eq_true rfl) rfl (fun X => v_tDefine_0 h)
