/-! what the methods mean; printed by wip/whole/dec.py -/
-- 1: TokenMouth$Groups.startAnew()V
def w_gStartAnew_0 (n d : Nat)  (D : z_D)  (K : z_D → Prop) (T : Nat → z_D → Prop) : Prop :=
  z_c n d 30 [.ref 9, .int (z_i 0)] D (z_qV (fun D1 => 
    z_c n d 30 [.ref 11, .int (z_i 0)] D1 (z_qV (fun D2 => 
      z_c n d 30 [.ref 13, .int (z_i 0)] D2 (z_qV (fun D3 => 
        K D3) T)) T)) T)
theorem v_gStartAnew_0 {n d : Nat} {X : z_Xt}   {D : z_D}  {K : z_D → Prop} {T : Nat → z_D → Prop}  (h : w_gStartAnew_0 n d D K T) : z_w n d (k_tb 1) X 0 [some (.ref 8)] [] D (z_qV K T) := by
  unfold w_gStartAnew_0 at h
  refine zs_aload rfl rfl ?_
  refine zs_getR (x := 9) rfl rfl rfl ?_
  refine zs_pushI (0) rfl rfl ?_
  refine z_callV (k := 9) (as0 := [.int (z_i 0)]) (r := []) rfl rfl rfl (Nat.le_of_ble_eq_true rfl) (z_oV h (fun D1 h => ?_) (fun _ _ h => h))
  refine zs_aload rfl rfl ?_
  refine zs_getR (x := 11) rfl rfl rfl ?_
  refine zs_pushI (0) rfl rfl ?_
  refine z_callV (k := 11) (as0 := [.int (z_i 0)]) (r := []) rfl rfl rfl (Nat.le_of_ble_eq_true rfl) (z_oV h (fun D2 h => ?_) (fun _ _ h => h))
  refine zs_aload rfl rfl ?_
  refine zs_getR (x := 13) rfl rfl rfl ?_
  refine zs_pushI (0) rfl rfl ?_
  refine z_callV (k := 13) (as0 := [.int (z_i 0)]) (r := []) rfl rfl rfl (Nat.le_of_ble_eq_true rfl) (z_oV h (fun D3 h => ?_) (fun _ _ h => h))
  exact zs_ret rfl h
theorem r_gStartAnew {n d : Nat}  {D : z_D} {K : z_D → Prop} {T : Nat → z_D → Prop}  (h : w_gStartAnew_0 n d D K T) : z_c n (d + 1) 1 [.ref 8] D (z_qV K T) :=
  z_enter (Nat.le_of_ble_eq_true rfl) rfl (fun X => v_gStartAnew_0 h)
-- 2: TokenMouth$Groups.open()Z
def w_gOpen_0 (n d : Nat)  (D : z_D)  (K : Bool → z_D → Prop) (T : Nat → z_D → Prop) : Prop :=
  z_c n d 24 [.ref 11] D (z_qI (fun v2 D1 => 
    z_c n d 27 [.ref 9, .int (z_i v2)] D1 (z_qZ (fun v4 D3 => 
      K v4 D3) T)) T)
theorem v_gOpen_0 {n d : Nat} {X : z_Xt}   {D : z_D}  {K : Bool → z_D → Prop} {T : Nat → z_D → Prop}  (h : w_gOpen_0 n d D K T) : z_w n d (k_tb 2) X 0 [some (.ref 8)] [] D (z_qZ K T) := by
  unfold w_gOpen_0 at h
  refine zs_aload rfl rfl ?_
  refine zs_getR (x := 9) rfl rfl rfl ?_
  refine zs_aload rfl rfl ?_
  refine zs_getR (x := 11) rfl rfl rfl ?_
  refine z_callV (k := 11) (as0 := []) (r := [.ref 9]) rfl rfl rfl (Nat.le_of_ble_eq_true rfl) (z_oI h (fun v2 D1 h => ?_) (fun _ _ h => h))
  refine z_callV (k := 9) (as0 := [.int (z_i v2)]) (r := []) rfl rfl rfl (Nat.le_of_ble_eq_true rfl) (z_oZ h (fun v4 D3 h => ?_) (fun _ _ h => h))
  exact zs_zret rfl h
theorem r_gOpen {n d : Nat}  {D : z_D} {K : Bool → z_D → Prop} {T : Nat → z_D → Prop}  (h : w_gOpen_0 n d D K T) : z_c n (d + 1) 2 [.ref 8] D (z_qZ K T) :=
  z_enter (Nat.le_of_ble_eq_true rfl) rfl (fun X => v_gOpen_0 h)
-- 3: TokenMouth$Groups.keep(II)Z
def w_gKeep_0 (n d : Nat) (a1 : Int) (a2 : Int) (D : z_D)  (K : Bool → z_D → Prop) (T : Nat → z_D → Prop) : Prop :=
  z_c n d 26 [.ref 9] D (z_qI (fun v2 D1 => 
    (z_r v2) ∧
    ((v2 = (-1)) →
      K true D1) ∧
    ((¬ v2 = (-1)) →
      z_c n d 24 [.ref 11] D1 (z_qI (fun v5 D4 => 
        z_c n d 32 [.ref 11, .int (z_i a1), .int (z_i v2), .int (z_i v5)] D4 (z_qZ (fun v7 D6 => 
          ((v7 = false) →
            z_c n d 27 [.ref 11, .int (z_i a1)] D6 (z_qZ (fun v9 D8 => 
              ((v9 = false) →
                K false D8) ∧
              ((v9 = true) →
                z_c n d 27 [.ref 13, .int (z_i a2)] D8 (z_qZ (fun v11 D10 => 
                  ((v11 = false) →
                    K false D10) ∧
                  ((v11 = true) →
                    K true D10)) T))) T)) ∧
          ((v7 = true) →
            K true D6)) T)) T))) T)
theorem v_gKeep_0 {n d : Nat} {X : z_Xt} {a1 : Int} {a2 : Int}  {D : z_D}  {K : Bool → z_D → Prop} {T : Nat → z_D → Prop}  (h : w_gKeep_0 n d a1 a2 D K T) : z_w n d (k_tb 3) X 0 [some (.ref 8), some (.int (z_i a1)), some (.int (z_i a2)), none] [] D (z_qZ K T) := by
  unfold w_gKeep_0 at h
  refine zs_aload rfl rfl ?_
  refine zs_getR (x := 9) rfl rfl rfl ?_
  refine z_callV (k := 9) (as0 := []) (r := []) rfl rfl rfl (Nat.le_of_ble_eq_true rfl) (z_oI h (fun v2 D1 h => ?_) (fun _ _ h => h))
  refine zs_istore (ls1 := [some (.ref 8), some (.int (z_i a1)), some (.int (z_i a2)), some (.int (z_i v2))]) rfl rfl rfl ?_
  refine zs_iload rfl rfl ?_
  refine zs_pushI (-1) rfl rfl ?_
  obtain ⟨g3, h⟩ := h
  obtain ⟨h18, h19⟩ := h
  refine zs_ceq rfl g3 (z_rk rfl) (fun c => ?_) (fun c => ?_)
  · have h := h18 c
    refine zs_pushI (1) rfl rfl ?_
    exact zs_zret (b := true) rfl h
  · have h := h19 c
    refine zs_aload rfl rfl ?_
    refine zs_getR (x := 11) rfl rfl rfl ?_
    refine zs_iload rfl rfl ?_
    refine zs_iload rfl rfl ?_
    refine zs_aload rfl rfl ?_
    refine zs_getR (x := 11) rfl rfl rfl ?_
    refine z_callV (k := 11) (as0 := []) (r := [.int (z_i v2), .int (z_i a1), .ref 11]) rfl rfl rfl (Nat.le_of_ble_eq_true rfl) (z_oI h (fun v5 D4 h => ?_) (fun _ _ h => h))
    refine z_callV (k := 11) (as0 := [.int (z_i a1), .int (z_i v2), .int (z_i v5)]) (r := []) rfl rfl rfl (Nat.le_of_ble_eq_true rfl) (z_oZ h (fun v7 D6 h => ?_) (fun _ _ h => h))
    obtain ⟨h16, h17⟩ := h
    refine zs_beq rfl (fun c => ?_) (fun c => ?_)
    · have h := h16 c
      refine zs_aload rfl rfl ?_
      refine zs_getR (x := 11) rfl rfl rfl ?_
      refine zs_iload rfl rfl ?_
      refine z_callV (k := 11) (as0 := [.int (z_i a1)]) (r := []) rfl rfl rfl (Nat.le_of_ble_eq_true rfl) (z_oZ h (fun v9 D8 h => ?_) (fun _ _ h => h))
      obtain ⟨h14, h15⟩ := h
      refine zs_beq rfl (fun c => ?_) (fun c => ?_)
      · have h := h14 c
        refine zs_pushI (0) rfl rfl ?_
        exact zs_zret (b := false) rfl h
      · have h := h15 c
        refine zs_aload rfl rfl ?_
        refine zs_getR (x := 13) rfl rfl rfl ?_
        refine zs_iload rfl rfl ?_
        refine z_callV (k := 13) (as0 := [.int (z_i a2)]) (r := []) rfl rfl rfl (Nat.le_of_ble_eq_true rfl) (z_oZ h (fun v11 D10 h => ?_) (fun _ _ h => h))
        obtain ⟨h12, h13⟩ := h
        refine zs_beq rfl (fun c => ?_) (fun c => ?_)
        · have h := h12 c
          refine zs_pushI (0) rfl rfl ?_
          exact zs_zret (b := false) rfl h
        · have h := h13 c
          refine zs_pushI (1) rfl rfl ?_
          refine zs_goto rfl ?_
          exact zs_zret (b := true) rfl h
    · have h := h17 c
      refine zs_pushI (1) rfl rfl ?_
      exact zs_zret (b := true) rfl h
theorem r_gKeep {n d : Nat} {a1 : Int} {a2 : Int} {D : z_D} {K : Bool → z_D → Prop} {T : Nat → z_D → Prop}  (h : w_gKeep_0 n d a1 a2 D K T) : z_c n (d + 1) 3 [.ref 8, .int (z_i a1), .int (z_i a2)] D (z_qZ K T) :=
  z_enter (Nat.le_of_ble_eq_true rfl) rfl (fun X => v_gKeep_0 h)
-- 4: TokenMouth$Groups.replaceKept(II)V
def w_gReplaceKept_0 (n d : Nat) (a1 : Int) (a2 : Int) (D : z_D) (H2 : Int → Int → Int → z_D → Prop) (K : z_D → Prop) (T : Nat → z_D → Prop) : Prop :=
  H2 a1 a2 0 D
theorem v_gReplaceKept_0 {n d : Nat} {X : z_Xt} {a1 : Int} {a2 : Int}  {D : z_D} {H2 : Int → Int → Int → z_D → Prop} {K : z_D → Prop} {T : Nat → z_D → Prop} (hH2 : ∀ (a1 : Int) (a2 : Int) (a3 : Int) (D : z_D), H2 a1 a2 a3 D → z_w n d (k_tb 4) X 2 [some (.ref 8), some (.int (z_i a1)), some (.int (z_i a2)), some (.int (z_i a3))] [] D (z_qV K T)) (h : w_gReplaceKept_0 n d a1 a2 D H2 K T) : z_w n d (k_tb 4) X 0 [some (.ref 8), some (.int (z_i a1)), some (.int (z_i a2)), none] [] D (z_qV K T) := by
  unfold w_gReplaceKept_0 at h
  refine zs_pushI (0) rfl rfl ?_
  refine zs_istore (ls1 := [some (.ref 8), some (.int (z_i a1)), some (.int (z_i a2)), some (.int (z_i 0))]) rfl rfl rfl ?_
  exact hH2 _ _ _  _  h
def w_gReplaceKept_2 (n d : Nat) (a1 : Int) (a2 : Int) (a3 : Int) (D : z_D) (H2 : Int → Int → Int → z_D → Prop) (K : z_D → Prop) (T : Nat → z_D → Prop) : Prop :=
  z_c n d 24 [.ref 11] D (z_qI (fun v2 D1 => 
    (z_r a3) ∧ (z_r v2) ∧
    ((v2 ≤ a3) →
      K D1) ∧
    ((a3 < v2) →
      z_c n d 25 [.ref 11, .int (z_i a3)] D1 (z_qI (fun v6 D5 => 
        (z_r v6) ∧ (z_r a1) ∧
        ((¬ v6 = a1) →
          H2 a1 a2 (a3 + 1) D5) ∧
        ((v6 = a1) →
          z_c n d 29 [.ref 13, .int (z_i a3), .int (z_i a2)] D5 (z_qV (fun D9 => 
            H2 a1 a2 (a3 + 1) D9) T))) T))) T)
theorem v_gReplaceKept_2 {n d : Nat} {X : z_Xt} {a1 : Int} {a2 : Int} {a3 : Int}  {D : z_D} {H2 : Int → Int → Int → z_D → Prop} {K : z_D → Prop} {T : Nat → z_D → Prop} (hH2 : ∀ (a1 : Int) (a2 : Int) (a3 : Int) (D : z_D), H2 a1 a2 a3 D → z_w n d (k_tb 4) X 2 [some (.ref 8), some (.int (z_i a1)), some (.int (z_i a2)), some (.int (z_i a3))] [] D (z_qV K T)) (h : w_gReplaceKept_2 n d a1 a2 a3 D H2 K T) : z_w n d (k_tb 4) X 2 [some (.ref 8), some (.int (z_i a1)), some (.int (z_i a2)), some (.int (z_i a3))] [] D (z_qV K T) := by
  unfold w_gReplaceKept_2 at h
  refine zs_iload rfl rfl ?_
  refine zs_aload rfl rfl ?_
  refine zs_getR (x := 11) rfl rfl rfl ?_
  refine z_callV (k := 11) (as0 := []) (r := [.int (z_i a3)]) rfl rfl rfl (Nat.le_of_ble_eq_true rfl) (z_oI h (fun v2 D1 h => ?_) (fun _ _ h => h))
  obtain ⟨g3, g4, h⟩ := h
  obtain ⟨h12, h13⟩ := h
  refine zs_cge rfl g3 g4 (fun c => ?_) (fun c => ?_)
  · have h := h12 c
    exact zs_ret rfl h
  · have h := h13 c
    refine zs_aload rfl rfl ?_
    refine zs_getR (x := 11) rfl rfl rfl ?_
    refine zs_iload rfl rfl ?_
    refine z_callV (k := 11) (as0 := [.int (z_i a3)]) (r := []) rfl rfl rfl (Nat.le_of_ble_eq_true rfl) (z_oI h (fun v6 D5 h => ?_) (fun _ _ h => h))
    refine zs_iload rfl rfl ?_
    obtain ⟨g7, g8, h⟩ := h
    obtain ⟨h10, h11⟩ := h
    refine zs_cne rfl g7 g8 (fun c => ?_) (fun c => ?_)
    · have h := h10 c
      refine zs_iinc (a := a3) (1) (ls1 := [some (.ref 8), some (.int (z_i a1)), some (.int (z_i a2)), some (.int (z_i (a3 + 1)))]) rfl rfl rfl rfl ?_
      refine zs_goto rfl ?_
      exact hH2 _ _ _  _  h
    · have h := h11 c
      refine zs_aload rfl rfl ?_
      refine zs_getR (x := 13) rfl rfl rfl ?_
      refine zs_iload rfl rfl ?_
      refine zs_iload rfl rfl ?_
      refine z_callV (k := 13) (as0 := [.int (z_i a3), .int (z_i a2)]) (r := []) rfl rfl rfl (Nat.le_of_ble_eq_true rfl) (z_oV h (fun D9 h => ?_) (fun _ _ h => h))
      refine zs_iinc (a := a3) (1) (ls1 := [some (.ref 8), some (.int (z_i a1)), some (.int (z_i a2)), some (.int (z_i (a3 + 1)))]) rfl rfl rfl rfl ?_
      refine zs_goto rfl ?_
      exact hH2 _ _ _  _  h
theorem r_gReplaceKept {n d : Nat} {a1 : Int} {a2 : Int} {D : z_D} {K : z_D → Prop} {T : Nat → z_D → Prop}  (I2 : Nat → Int → Int → Int → z_D → Prop) (hE : w_gReplaceKept_0 n d a1 a2 D (fun a1 a2 a3 D => ∃ m, I2 m a1 a2 a3 D) K T) (h2 : ∀ (mm : Nat) (a1 : Int) (a2 : Int) (a3 : Int) (D : z_D), I2 mm a1 a2 a3 D → w_gReplaceKept_2 n d a1 a2 a3 D (fun a1 a2 a3 D => ∃ m, m < mm ∧ I2 m a1 a2 a3 D) K T) : z_c n (d + 1) 4 [.ref 8, .int (z_i a1), .int (z_i a2)] D (z_qV K T) := by
  refine z_enter (Nat.le_of_ble_eq_true rfl) rfl (fun X => ?_)
  have key : ∀ m, (∀ (a1 : Int) (a2 : Int) (a3 : Int) (D : z_D), I2 m a1 a2 a3 D → z_w n d (k_tb 4) X 2 [some (.ref 8), some (.int (z_i a1)), some (.int (z_i a2)), some (.int (z_i a3))] [] D (z_qV K T)) := by
    intro m
    induction m using Nat.strongRecOn with
    | _ mm ih =>
      exact fun a1 a2 a3 D hI => v_gReplaceKept_2 (fun a1 a2 a3 D ⟨m, hm, hI⟩ => (ih m hm) _ _ _ _  hI) (h2 mm a1 a2 a3 D hI)
  exact v_gReplaceKept_0 (fun a1 a2 a3 D ⟨m, hI⟩ => (key m) _ _ _ _  hI) hE
-- 6: TokenMouth$Macro.startAnew()V
def w_cStartAnew_0 (n d : Nat) (m : Nat) (D : z_D)  (K : z_D → Prop) (T : Nat → z_D → Prop) : Prop :=
  z_c n d 30 [.ref (m + 1), .int (z_i 0)] D (z_qV (fun D1 => 
    z_c n d 30 [.ref (m + 3), .int (z_i 0)] D1 (z_qV (fun D2 => 
      ∀ D3, D3 = z_uz D2 m 2 0 →
      K D3) T)) T)
theorem v_cStartAnew_0 {n d : Nat} {X : z_Xt} {m : Nat}  {D : z_D}  {K : z_D → Prop} {T : Nat → z_D → Prop} (hm : z_mc m) (h : w_cStartAnew_0 n d m D K T) : z_w n d (k_tb 6) X 0 [some (.ref m)] [] D (z_qV K T) := by
  unfold w_cStartAnew_0 at h
  refine zs_aload rfl rfl ?_
  refine zs_getR rfl (z_sh_m0 hm) (z_R_mt hm) ?_
  refine zs_pushI (0) rfl rfl ?_
  refine z_callV (k := (m + 1)) (as0 := [.int (z_i 0)]) (r := []) rfl rfl (z_row_mt hm).1 (Nat.le_of_ble_eq_true rfl) (z_oV h (fun D1 h => ?_) (fun _ _ h => h))
  refine zs_aload rfl rfl ?_
  refine zs_getR rfl (z_sh_m0 hm) (z_R_mb hm) ?_
  refine zs_pushI (0) rfl rfl ?_
  refine z_callV (k := (m + 3)) (as0 := [.int (z_i 0)]) (r := []) rfl rfl (z_row_mb hm).1 (Nat.le_of_ble_eq_true rfl) (z_oV h (fun D2 h => ?_) (fun _ _ h => h))
  refine zs_aload rfl rfl ?_
  refine zs_pushI (0) rfl rfl ?_
  refine zs_putI rfl (z_sh_m0 hm) (fun D3 eD3 => ?_)
  have h := h D3 eD3
  exact zs_ret rfl h
theorem r_cStartAnew {n d : Nat} {m : Nat} {D : z_D} {K : z_D → Prop} {T : Nat → z_D → Prop} (hm : z_mc m) (h : w_cStartAnew_0 n d m D K T) : z_c n (d + 1) 6 [.ref m] D (z_qV K T) :=
  z_enter (Nat.le_of_ble_eq_true rfl) rfl (fun X => v_cStartAnew_0 hm h)
-- 24: TokenMouth$Row.size()I
def w_rSize_0 (n d : Nat) (r q w : Nat) (D : z_D)  (K : Int → z_D → Prop) (T : Nat → z_D → Prop) : Prop :=
  K (D.1 r 1) D
theorem v_rSize_0 {n d : Nat} {X : z_Xt} {r q w : Nat}  {D : z_D}  {K : Int → z_D → Prop} {T : Nat → z_D → Prop} (hr : z_row n r q w) (h : w_rSize_0 n d r q w D K T) : z_w n d (k_tb 24) X 0 [some (.ref r)] [] D (z_qI K T) := by
  unfold w_rSize_0 at h
  refine zs_aload rfl rfl ?_
  refine zs_getI rfl hr.1 ?_
  exact zs_iret rfl h
theorem r_rSize {n d : Nat} {r q w : Nat} {D : z_D} {K : Int → z_D → Prop} {T : Nat → z_D → Prop} (hr : z_row n r q w) (h : w_rSize_0 n d r q w D K T) : z_c n (d + 1) 24 [.ref r] D (z_qI K T) :=
  z_enter (Nat.le_of_ble_eq_true rfl) rfl (fun X => v_rSize_0 hr h)
-- 25: TokenMouth$Row.at(I)I
def w_rAt_0 (n d : Nat) (r q w : Nat) (a1 : Int) (D : z_D)  (K : Int → z_D → Prop) (T : Nat → z_D → Prop) : Prop :=
  (z_r a1) ∧
  ((a1 < 0) →
    K (-1) D) ∧
  ((0 ≤ a1) →
    (z_r (D.1 r 1)) ∧
    (((D.1 r 1) ≤ a1) →
      K (-1) D) ∧
    ((a1 < (D.1 r 1)) →
      (((w : Int) ≤ a1) →
        K (-1) D) ∧
      ((a1 < (w : Int)) →
        (0 ≤ a1 ∧ a1 < w) ∧
        K (D.1 q (Int.toNat a1)) D)))
theorem v_rAt_0 {n d : Nat} {X : z_Xt} {r q w : Nat} {a1 : Int}  {D : z_D}  {K : Int → z_D → Prop} {T : Nat → z_D → Prop} (hr : z_row n r q w) (h : w_rAt_0 n d r q w a1 D K T) : z_w n d (k_tb 25) X 0 [some (.ref r), some (.int (z_i a1))] [] D (z_qI K T) := by
  unfold w_rAt_0 at h
  refine zs_iload rfl rfl ?_
  obtain ⟨g1, h⟩ := h
  obtain ⟨h8, h9⟩ := h
  refine zs_iflt rfl g1 (fun c => ?_) (fun c => ?_)
  · have h := h8 c
    refine zs_pushI (-1) rfl rfl ?_
    exact zs_iret rfl h
  · have h := h9 c
    refine zs_iload rfl rfl ?_
    refine zs_aload rfl rfl ?_
    refine zs_getI rfl hr.1 ?_
    obtain ⟨g2, h⟩ := h
    obtain ⟨h6, h7⟩ := h
    refine zs_cge rfl g1 g2 (fun c => ?_) (fun c => ?_)
    · have h := h6 c
      refine zs_pushI (-1) rfl rfl ?_
      exact zs_iret rfl h
    · have h := h7 c
      refine zs_iload rfl rfl ?_
      refine zs_aload rfl rfl ?_
      refine zs_getR rfl hr.1 (hr.2.2.1 _) ?_
      refine zs_alen rfl hr.2.1 (by decide) ?_
      obtain ⟨h4, h5⟩ := h
      refine zs_cge rfl g1 (z_rw hr.2.2.2.1) (fun c => ?_) (fun c => ?_)
      · have h := h4 c
        refine zs_pushI (-1) rfl rfl ?_
        exact zs_iret rfl h
      · have h := h5 c
        refine zs_aload rfl rfl ?_
        refine zs_getR rfl hr.1 (hr.2.2.1 _) ?_
        refine zs_iload rfl rfl ?_
        obtain ⟨g3, h⟩ := h
        refine zs_iald rfl hr.2.1 hr.2.2.2.1 g3 ?_
        refine zs_goto rfl ?_
        exact zs_iret rfl h
theorem r_rAt {n d : Nat} {r q w : Nat} {a1 : Int} {D : z_D} {K : Int → z_D → Prop} {T : Nat → z_D → Prop} (hr : z_row n r q w) (h : w_rAt_0 n d r q w a1 D K T) : z_c n (d + 1) 25 [.ref r, .int (z_i a1)] D (z_qI K T) :=
  z_enter (Nat.le_of_ble_eq_true rfl) rfl (fun X => v_rAt_0 hr h)
-- 26: TokenMouth$Row.last()I
def w_rLast_0 (n d : Nat) (r q w : Nat) (D : z_D)  (K : Int → z_D → Prop) (T : Nat → z_D → Prop) : Prop :=
  (z_r (D.1 r 1)) ∧
  (((D.1 r 1) ≤ 0) →
    K (-1) D) ∧
  ((0 < (D.1 r 1)) →
    (((w : Int) < (D.1 r 1)) →
      K (-1) D) ∧
    (((D.1 r 1) ≤ (w : Int)) →
      (0 ≤ ((D.1 r 1) - 1) ∧ ((D.1 r 1) - 1) < w) ∧
      K (D.1 q (Int.toNat ((D.1 r 1) - 1))) D))
theorem v_rLast_0 {n d : Nat} {X : z_Xt} {r q w : Nat}  {D : z_D}  {K : Int → z_D → Prop} {T : Nat → z_D → Prop} (hr : z_row n r q w) (h : w_rLast_0 n d r q w D K T) : z_w n d (k_tb 26) X 0 [some (.ref r)] [] D (z_qI K T) := by
  unfold w_rLast_0 at h
  refine zs_aload rfl rfl ?_
  refine zs_getI rfl hr.1 ?_
  obtain ⟨g1, h⟩ := h
  obtain ⟨h5, h6⟩ := h
  refine zs_ifle rfl g1 (fun c => ?_) (fun c => ?_)
  · have h := h5 c
    refine zs_pushI (-1) rfl rfl ?_
    exact zs_iret rfl h
  · have h := h6 c
    refine zs_aload rfl rfl ?_
    refine zs_getI rfl hr.1 ?_
    refine zs_aload rfl rfl ?_
    refine zs_getR rfl hr.1 (hr.2.2.1 _) ?_
    refine zs_alen rfl hr.2.1 (by decide) ?_
    obtain ⟨h3, h4⟩ := h
    refine zs_cgt rfl g1 (z_rw hr.2.2.2.1) (fun c => ?_) (fun c => ?_)
    · have h := h3 c
      refine zs_pushI (-1) rfl rfl ?_
      exact zs_iret rfl h
    · have h := h4 c
      refine zs_aload rfl rfl ?_
      refine zs_getR rfl hr.1 (hr.2.2.1 _) ?_
      refine zs_aload rfl rfl ?_
      refine zs_getI rfl hr.1 ?_
      refine zs_pushI (1) rfl rfl ?_
      refine zs_sub (a := (D.1 r 1)) (b := 1) rfl ?_
      obtain ⟨g2, h⟩ := h
      refine zs_iald rfl hr.2.1 hr.2.2.2.1 g2 ?_
      refine zs_goto rfl ?_
      exact zs_iret rfl h
theorem r_rLast {n d : Nat} {r q w : Nat} {D : z_D} {K : Int → z_D → Prop} {T : Nat → z_D → Prop} (hr : z_row n r q w) (h : w_rLast_0 n d r q w D K T) : z_c n (d + 1) 26 [.ref r] D (z_qI K T) :=
  z_enter (Nat.le_of_ble_eq_true rfl) rfl (fun X => v_rLast_0 hr h)
-- 27: TokenMouth$Row.add(I)Z
def w_rAdd_0 (n d : Nat) (r q w : Nat) (a1 : Int) (D : z_D)  (K : Bool → z_D → Prop) (T : Nat → z_D → Prop) : Prop :=
  (z_r (D.1 r 1)) ∧
  (((D.1 r 1) < 0) →
    K false D) ∧
  ((0 ≤ (D.1 r 1)) →
    (((D.1 r 1) < (w : Int)) →
      (0 ≤ (D.1 r 1) ∧ (D.1 r 1) < w) ∧
      ∀ D3, D3 = z_uz D q (Int.toNat (D.1 r 1)) a1 →
      ∀ D4, D4 = z_uz D3 r 1 ((D3.1 r 1) + 1) →
      K true D4) ∧
    (((w : Int) ≤ (D.1 r 1)) →
      K false D))
theorem v_rAdd_0 {n d : Nat} {X : z_Xt} {r q w : Nat} {a1 : Int}  {D : z_D}  {K : Bool → z_D → Prop} {T : Nat → z_D → Prop} (hr : z_row n r q w) (h : w_rAdd_0 n d r q w a1 D K T) : z_w n d (k_tb 27) X 0 [some (.ref r), some (.int (z_i a1))] [] D (z_qZ K T) := by
  unfold w_rAdd_0 at h
  refine zs_aload rfl rfl ?_
  refine zs_getI rfl hr.1 ?_
  obtain ⟨g1, h⟩ := h
  obtain ⟨h7, h8⟩ := h
  refine zs_iflt rfl g1 (fun c => ?_) (fun c => ?_)
  · have h := h7 c
    refine zs_pushI (0) rfl rfl ?_
    exact zs_zret (b := false) rfl h
  · have h := h8 c
    refine zs_aload rfl rfl ?_
    refine zs_getI rfl hr.1 ?_
    refine zs_aload rfl rfl ?_
    refine zs_getR rfl hr.1 (hr.2.2.1 _) ?_
    refine zs_alen rfl hr.2.1 (by decide) ?_
    obtain ⟨h5, h6⟩ := h
    refine zs_clt rfl g1 (z_rw hr.2.2.2.1) (fun c => ?_) (fun c => ?_)
    · have h := h5 c
      refine zs_aload rfl rfl ?_
      refine zs_getR rfl hr.1 (hr.2.2.1 _) ?_
      refine zs_aload rfl rfl ?_
      refine zs_getI rfl hr.1 ?_
      refine zs_iload rfl rfl ?_
      obtain ⟨g2, h⟩ := h
      refine zs_iast rfl hr.2.1 hr.2.2.2.1 g2 (fun D3 eD3 => ?_)
      have h := h D3 eD3
      refine zs_aload rfl rfl ?_
      refine zs_dup rfl rfl ?_
      refine zs_getI rfl hr.1 ?_
      refine zs_pushI (1) rfl rfl ?_
      refine zs_add (a := (D3.1 r 1)) (b := 1) rfl ?_
      refine zs_putI rfl hr.1 (fun D4 eD4 => ?_)
      have h := h D4 eD4
      refine zs_pushI (1) rfl rfl ?_
      exact zs_zret (b := true) rfl h
    · have h := h6 c
      refine zs_pushI (0) rfl rfl ?_
      exact zs_zret (b := false) rfl h
theorem r_rAdd {n d : Nat} {r q w : Nat} {a1 : Int} {D : z_D} {K : Bool → z_D → Prop} {T : Nat → z_D → Prop} (hr : z_row n r q w) (h : w_rAdd_0 n d r q w a1 D K T) : z_c n (d + 1) 27 [.ref r, .int (z_i a1)] D (z_qZ K T) :=
  z_enter (Nat.le_of_ble_eq_true rfl) rfl (fun X => v_rAdd_0 hr h)
-- 28: TokenMouth$Row.takeLast()I
def w_rTakeLast_0 (n d : Nat) (r q w : Nat) (D : z_D)  (K : Int → z_D → Prop) (T : Nat → z_D → Prop) : Prop :=
  (z_r (D.1 r 1)) ∧
  (((D.1 r 1) ≤ 0) →
    K (-1) D) ∧
  ((0 < (D.1 r 1)) →
    (((D.1 r 1) ≤ (w : Int)) →
      ∀ D2, D2 = z_uz D r 1 ((D.1 r 1) - 1) →
      (0 ≤ (D2.1 r 1) ∧ (D2.1 r 1) < w) ∧
      K (D2.1 q (Int.toNat (D2.1 r 1))) D2) ∧
    (((w : Int) < (D.1 r 1)) →
      K (-1) D))
theorem v_rTakeLast_0 {n d : Nat} {X : z_Xt} {r q w : Nat}  {D : z_D}  {K : Int → z_D → Prop} {T : Nat → z_D → Prop} (hr : z_row n r q w) (h : w_rTakeLast_0 n d r q w D K T) : z_w n d (k_tb 28) X 0 [some (.ref r)] [] D (z_qI K T) := by
  unfold w_rTakeLast_0 at h
  refine zs_aload rfl rfl ?_
  refine zs_getI rfl hr.1 ?_
  obtain ⟨g1, h⟩ := h
  obtain ⟨h6, h7⟩ := h
  refine zs_ifle rfl g1 (fun c => ?_) (fun c => ?_)
  · have h := h6 c
    refine zs_pushI (-1) rfl rfl ?_
    exact zs_iret rfl h
  · have h := h7 c
    refine zs_aload rfl rfl ?_
    refine zs_getI rfl hr.1 ?_
    refine zs_aload rfl rfl ?_
    refine zs_getR rfl hr.1 (hr.2.2.1 _) ?_
    refine zs_alen rfl hr.2.1 (by decide) ?_
    obtain ⟨h4, h5⟩ := h
    refine zs_cle rfl g1 (z_rw hr.2.2.2.1) (fun c => ?_) (fun c => ?_)
    · have h := h4 c
      refine zs_aload rfl rfl ?_
      refine zs_dup rfl rfl ?_
      refine zs_getI rfl hr.1 ?_
      refine zs_pushI (1) rfl rfl ?_
      refine zs_sub (a := (D.1 r 1)) (b := 1) rfl ?_
      refine zs_putI rfl hr.1 (fun D2 eD2 => ?_)
      have h := h D2 eD2
      refine zs_aload rfl rfl ?_
      refine zs_getR rfl hr.1 (hr.2.2.1 _) ?_
      refine zs_aload rfl rfl ?_
      refine zs_getI rfl hr.1 ?_
      obtain ⟨g3, h⟩ := h
      refine zs_iald rfl hr.2.1 hr.2.2.2.1 g3 ?_
      exact zs_iret rfl h
    · have h := h5 c
      refine zs_pushI (-1) rfl rfl ?_
      exact zs_iret rfl h
theorem r_rTakeLast {n d : Nat} {r q w : Nat} {D : z_D} {K : Int → z_D → Prop} {T : Nat → z_D → Prop} (hr : z_row n r q w) (h : w_rTakeLast_0 n d r q w D K T) : z_c n (d + 1) 28 [.ref r] D (z_qI K T) :=
  z_enter (Nat.le_of_ble_eq_true rfl) rfl (fun X => v_rTakeLast_0 hr h)
-- 29: TokenMouth$Row.replace(II)V
def w_rReplace_0 (n d : Nat) (r q w : Nat) (a1 : Int) (a2 : Int) (D : z_D)  (K : z_D → Prop) (T : Nat → z_D → Prop) : Prop :=
  (z_r a1) ∧
  ((a1 < 0) →
    K D) ∧
  ((0 ≤ a1) →
    (z_r (D.1 r 1)) ∧
    (((D.1 r 1) ≤ a1) →
      K D) ∧
    ((a1 < (D.1 r 1)) →
      (((w : Int) ≤ a1) →
        K D) ∧
      ((a1 < (w : Int)) →
        (0 ≤ a1 ∧ a1 < w) ∧
        ∀ D4, D4 = z_uz D q (Int.toNat a1) a2 →
        K D4)))
theorem v_rReplace_0 {n d : Nat} {X : z_Xt} {r q w : Nat} {a1 : Int} {a2 : Int}  {D : z_D}  {K : z_D → Prop} {T : Nat → z_D → Prop} (hr : z_row n r q w) (h : w_rReplace_0 n d r q w a1 a2 D K T) : z_w n d (k_tb 29) X 0 [some (.ref r), some (.int (z_i a1)), some (.int (z_i a2))] [] D (z_qV K T) := by
  unfold w_rReplace_0 at h
  refine zs_iload rfl rfl ?_
  obtain ⟨g1, h⟩ := h
  obtain ⟨h9, h10⟩ := h
  refine zs_iflt rfl g1 (fun c => ?_) (fun c => ?_)
  · have h := h9 c
    exact zs_ret rfl h
  · have h := h10 c
    refine zs_iload rfl rfl ?_
    refine zs_aload rfl rfl ?_
    refine zs_getI rfl hr.1 ?_
    obtain ⟨g2, h⟩ := h
    obtain ⟨h7, h8⟩ := h
    refine zs_cge rfl g1 g2 (fun c => ?_) (fun c => ?_)
    · have h := h7 c
      exact zs_ret rfl h
    · have h := h8 c
      refine zs_iload rfl rfl ?_
      refine zs_aload rfl rfl ?_
      refine zs_getR rfl hr.1 (hr.2.2.1 _) ?_
      refine zs_alen rfl hr.2.1 (by decide) ?_
      obtain ⟨h5, h6⟩ := h
      refine zs_cge rfl g1 (z_rw hr.2.2.2.1) (fun c => ?_) (fun c => ?_)
      · have h := h5 c
        exact zs_ret rfl h
      · have h := h6 c
        refine zs_aload rfl rfl ?_
        refine zs_getR rfl hr.1 (hr.2.2.1 _) ?_
        refine zs_iload rfl rfl ?_
        refine zs_iload rfl rfl ?_
        obtain ⟨g3, h⟩ := h
        refine zs_iast rfl hr.2.1 hr.2.2.2.1 g3 (fun D4 eD4 => ?_)
        have h := h D4 eD4
        exact zs_ret rfl h
theorem r_rReplace {n d : Nat} {r q w : Nat} {a1 : Int} {a2 : Int} {D : z_D} {K : z_D → Prop} {T : Nat → z_D → Prop} (hr : z_row n r q w) (h : w_rReplace_0 n d r q w a1 a2 D K T) : z_c n (d + 1) 29 [.ref r, .int (z_i a1), .int (z_i a2)] D (z_qV K T) :=
  z_enter (Nat.le_of_ble_eq_true rfl) rfl (fun X => v_rReplace_0 hr h)
-- 30: TokenMouth$Row.cutTo(I)V
def w_rCutTo_0 (n d : Nat) (r q w : Nat) (a1 : Int) (D : z_D)  (K : z_D → Prop) (T : Nat → z_D → Prop) : Prop :=
  (z_r a1) ∧
  ((a1 < 0) →
    K D) ∧
  ((0 ≤ a1) →
    (z_r (D.1 r 1)) ∧
    (((D.1 r 1) ≤ a1) →
      K D) ∧
    ((a1 < (D.1 r 1)) →
      ∀ D3, D3 = z_uz D r 1 a1 →
      K D3))
theorem v_rCutTo_0 {n d : Nat} {X : z_Xt} {r q w : Nat} {a1 : Int}  {D : z_D}  {K : z_D → Prop} {T : Nat → z_D → Prop} (hr : z_row n r q w) (h : w_rCutTo_0 n d r q w a1 D K T) : z_w n d (k_tb 30) X 0 [some (.ref r), some (.int (z_i a1))] [] D (z_qV K T) := by
  unfold w_rCutTo_0 at h
  refine zs_iload rfl rfl ?_
  obtain ⟨g1, h⟩ := h
  obtain ⟨h6, h7⟩ := h
  refine zs_iflt rfl g1 (fun c => ?_) (fun c => ?_)
  · have h := h6 c
    exact zs_ret rfl h
  · have h := h7 c
    refine zs_iload rfl rfl ?_
    refine zs_aload rfl rfl ?_
    refine zs_getI rfl hr.1 ?_
    obtain ⟨g2, h⟩ := h
    obtain ⟨h4, h5⟩ := h
    refine zs_cge rfl g1 g2 (fun c => ?_) (fun c => ?_)
    · have h := h4 c
      exact zs_ret rfl h
    · have h := h5 c
      refine zs_aload rfl rfl ?_
      refine zs_iload rfl rfl ?_
      refine zs_putI rfl hr.1 (fun D3 eD3 => ?_)
      have h := h D3 eD3
      exact zs_ret rfl h
theorem r_rCutTo {n d : Nat} {r q w : Nat} {a1 : Int} {D : z_D} {K : z_D → Prop} {T : Nat → z_D → Prop} (hr : z_row n r q w) (h : w_rCutTo_0 n d r q w a1 D K T) : z_c n (d + 1) 30 [.ref r, .int (z_i a1)] D (z_qV K T) :=
  z_enter (Nat.le_of_ble_eq_true rfl) rfl (fun X => v_rCutTo_0 hr h)
-- 31: TokenMouth$Row.sameAs(LTokenMouth$Row;)Z
def w_rSameAs_0 (n d : Nat) (r q w r2 q2 w2 : Nat) (D : z_D) (H15 : Int → z_D → Prop) (K : Bool → z_D → Prop) (T : Nat → z_D → Prop) : Prop :=
  (z_r (D.1 r 1)) ∧ (z_r (D.1 r2 1)) ∧
  (((D.1 r 1) = (D.1 r2 1)) →
    H15 0 D) ∧
  ((¬ (D.1 r 1) = (D.1 r2 1)) →
    K false D)
theorem v_rSameAs_0 {n d : Nat} {X : z_Xt} {r q w r2 q2 w2 : Nat}  {D : z_D} {H15 : Int → z_D → Prop} {K : Bool → z_D → Prop} {T : Nat → z_D → Prop} (hH15 : ∀ (a2 : Int) (D : z_D), H15 a2 D → z_w n d (k_tb 31) X 15 [some (.ref r), some (.ref r2), some (.int (z_i a2))] [] D (z_qZ K T)) (hr : z_row n r q w) (hr2 : z_row n r2 q2 w2) (h : w_rSameAs_0 n d r q w r2 q2 w2 D H15 K T) : z_w n d (k_tb 31) X 0 [some (.ref r), some (.ref r2), none] [] D (z_qZ K T) := by
  unfold w_rSameAs_0 at h
  refine zs_aload rfl rfl ?_
  refine zs_getI rfl hr.1 ?_
  refine zs_aload rfl rfl ?_
  refine zs_getI rfl hr2.1 ?_
  obtain ⟨g1, g2, h⟩ := h
  obtain ⟨h3, h4⟩ := h
  refine zs_ceq rfl g1 g2 (fun c => ?_) (fun c => ?_)
  · have h := h3 c
    refine zs_pushI (0) rfl rfl ?_
    refine zs_istore (ls1 := [some (.ref r), some (.ref r2), some (.int (z_i 0))]) rfl rfl rfl ?_
    exact hH15 _  _  h
  · have h := h4 c
    refine zs_pushI (0) rfl rfl ?_
    exact zs_zret (b := false) rfl h
def w_rSameAs_15 (n d : Nat) (r q w r2 q2 w2 : Nat) (a2 : Int) (D : z_D) (H15 : Int → z_D → Prop) (K : Bool → z_D → Prop) (T : Nat → z_D → Prop) : Prop :=
  (z_r a2) ∧ (z_r (D.1 r 1)) ∧
  (((D.1 r 1) ≤ a2) →
    K true D) ∧
  ((a2 < (D.1 r 1)) →
    (((w : Int) ≤ a2) →
      K true D) ∧
    ((a2 < (w : Int)) →
      (((w2 : Int) ≤ a2) →
        K true D) ∧
      ((a2 < (w2 : Int)) →
        (0 ≤ a2 ∧ a2 < w) ∧
        (0 ≤ a2 ∧ a2 < w2) ∧
        (z_r (D.1 q (Int.toNat a2))) ∧ (z_r (D.1 q2 (Int.toNat a2))) ∧
        (((D.1 q (Int.toNat a2)) = (D.1 q2 (Int.toNat a2))) →
          H15 (a2 + 1) D) ∧
        ((¬ (D.1 q (Int.toNat a2)) = (D.1 q2 (Int.toNat a2))) →
          K false D))))
theorem v_rSameAs_15 {n d : Nat} {X : z_Xt} {r q w r2 q2 w2 : Nat} {a2 : Int}  {D : z_D} {H15 : Int → z_D → Prop} {K : Bool → z_D → Prop} {T : Nat → z_D → Prop} (hH15 : ∀ (a2 : Int) (D : z_D), H15 a2 D → z_w n d (k_tb 31) X 15 [some (.ref r), some (.ref r2), some (.int (z_i a2))] [] D (z_qZ K T)) (hr : z_row n r q w) (hr2 : z_row n r2 q2 w2) (h : w_rSameAs_15 n d r q w r2 q2 w2 a2 D H15 K T) : z_w n d (k_tb 31) X 15 [some (.ref r), some (.ref r2), some (.int (z_i a2))] [] D (z_qZ K T) := by
  unfold w_rSameAs_15 at h
  refine zs_iload rfl rfl ?_
  refine zs_aload rfl rfl ?_
  refine zs_getI rfl hr.1 ?_
  obtain ⟨g1, g2, h⟩ := h
  obtain ⟨h13, h14⟩ := h
  refine zs_cge rfl g1 g2 (fun c => ?_) (fun c => ?_)
  · have h := h13 c
    refine zs_pushI (1) rfl rfl ?_
    exact zs_zret (b := true) rfl h
  · have h := h14 c
    refine zs_iload rfl rfl ?_
    refine zs_aload rfl rfl ?_
    refine zs_getR rfl hr.1 (hr.2.2.1 _) ?_
    refine zs_alen rfl hr.2.1 (by decide) ?_
    obtain ⟨h11, h12⟩ := h
    refine zs_cge rfl g1 (z_rw hr.2.2.2.1) (fun c => ?_) (fun c => ?_)
    · have h := h11 c
      refine zs_pushI (1) rfl rfl ?_
      exact zs_zret (b := true) rfl h
    · have h := h12 c
      refine zs_iload rfl rfl ?_
      refine zs_aload rfl rfl ?_
      refine zs_getR rfl hr2.1 (hr2.2.2.1 _) ?_
      refine zs_alen rfl hr2.2.1 (by decide) ?_
      obtain ⟨h9, h10⟩ := h
      refine zs_cge rfl g1 (z_rw hr2.2.2.2.1) (fun c => ?_) (fun c => ?_)
      · have h := h9 c
        refine zs_pushI (1) rfl rfl ?_
        exact zs_zret (b := true) rfl h
      · have h := h10 c
        refine zs_aload rfl rfl ?_
        refine zs_getR rfl hr.1 (hr.2.2.1 _) ?_
        refine zs_iload rfl rfl ?_
        obtain ⟨g3, h⟩ := h
        refine zs_iald rfl hr.2.1 hr.2.2.2.1 g3 ?_
        refine zs_aload rfl rfl ?_
        refine zs_getR rfl hr2.1 (hr2.2.2.1 _) ?_
        refine zs_iload rfl rfl ?_
        obtain ⟨g4, h⟩ := h
        refine zs_iald rfl hr2.2.1 hr2.2.2.2.1 g4 ?_
        obtain ⟨g5, g6, h⟩ := h
        obtain ⟨h7, h8⟩ := h
        refine zs_ceq rfl g5 g6 (fun c => ?_) (fun c => ?_)
        · have h := h7 c
          refine zs_iinc (a := a2) (1) (ls1 := [some (.ref r), some (.ref r2), some (.int (z_i (a2 + 1)))]) rfl rfl rfl rfl ?_
          refine zs_goto rfl ?_
          exact hH15 _  _  h
        · have h := h8 c
          refine zs_pushI (0) rfl rfl ?_
          exact zs_zret (b := false) rfl h
theorem r_rSameAs {n d : Nat} {r q w r2 q2 w2 : Nat} {D : z_D} {K : Bool → z_D → Prop} {T : Nat → z_D → Prop} (hr : z_row n r q w) (hr2 : z_row n r2 q2 w2) (I15 : Nat → Int → z_D → Prop) (hE : w_rSameAs_0 n d r q w r2 q2 w2 D (fun a2 D => ∃ m, I15 m a2 D) K T) (h15 : ∀ (mm : Nat) (a2 : Int) (D : z_D), I15 mm a2 D → w_rSameAs_15 n d r q w r2 q2 w2 a2 D (fun a2 D => ∃ m, m < mm ∧ I15 m a2 D) K T) : z_c n (d + 1) 31 [.ref r, .ref r2] D (z_qZ K T) := by
  refine z_enter (Nat.le_of_ble_eq_true rfl) rfl (fun X => ?_)
  have key : ∀ m, (∀ (a2 : Int) (D : z_D), I15 m a2 D → z_w n d (k_tb 31) X 15 [some (.ref r), some (.ref r2), some (.int (z_i a2))] [] D (z_qZ K T)) := by
    intro m
    induction m using Nat.strongRecOn with
    | _ mm ih =>
      exact fun a2 D hI => v_rSameAs_15 (fun a2 D ⟨m, hm, hI⟩ => (ih m hm) _ _  hI) hr hr2 (h15 mm a2 D hI)
  exact v_rSameAs_0 (fun a2 D ⟨m, hI⟩ => (key m) _ _  hI) hr hr2 hE
-- 32: TokenMouth$Row.holds(III)Z
def w_rHolds_0 (n d : Nat) (r q w : Nat) (a1 : Int) (a2 : Int) (a3 : Int) (D : z_D) (H7 : Int → Int → Int → z_D → Prop) (K : Bool → z_D → Prop) (T : Nat → z_D → Prop) : Prop :=
  (z_r a2) ∧
  H7 a1 a3 (max a2 0) D
theorem v_rHolds_0 {n d : Nat} {X : z_Xt} {r q w : Nat} {a1 : Int} {a2 : Int} {a3 : Int}  {D : z_D} {H7 : Int → Int → Int → z_D → Prop} {K : Bool → z_D → Prop} {T : Nat → z_D → Prop} (hH7 : ∀ (a1 : Int) (a3 : Int) (a4 : Int) (o2 : Option Value) (D : z_D), z_nl o2 → H7 a1 a3 a4 D → z_w n d (k_tb 32) X 7 [some (.ref r), some (.int (z_i a1)), o2, some (.int (z_i a3)), some (.int (z_i a4))] [] D (z_qZ K T)) (hr : z_row n r q w) (h : w_rHolds_0 n d r q w a1 a2 a3 D H7 K T) : z_w n d (k_tb 32) X 0 [some (.ref r), some (.int (z_i a1)), some (.int (z_i a2)), some (.int (z_i a3)), none] [] D (z_qZ K T) := by
  unfold w_rHolds_0 at h
  refine zs_iload rfl rfl ?_
  refine zs_pushI (0) rfl rfl ?_
  obtain ⟨g1, h⟩ := h
  refine zs_max (a := a2) (b := 0) rfl g1 (z_rk rfl) rfl ?_
  refine zs_istore (ls1 := [some (.ref r), some (.int (z_i a1)), some (.int (z_i a2)), some (.int (z_i a3)), some (.int (z_i (max a2 0)))]) rfl rfl rfl ?_
  exact hH7 _ _ _ _ _ (by first | assumption | exact trivial) h
def w_rHolds_7 (n d : Nat) (r q w : Nat) (a1 : Int) (a3 : Int) (a4 : Int) (D : z_D) (H7 : Int → Int → Int → z_D → Prop) (K : Bool → z_D → Prop) (T : Nat → z_D → Prop) : Prop :=
  (z_r a4) ∧ (z_r a3) ∧
  ((a3 ≤ a4) →
    K false D) ∧
  ((a4 < a3) →
    (z_r (D.1 r 1)) ∧
    (((D.1 r 1) ≤ a4) →
      K false D) ∧
    ((a4 < (D.1 r 1)) →
      (((w : Int) ≤ a4) →
        K false D) ∧
      ((a4 < (w : Int)) →
        (0 ≤ a4 ∧ a4 < w) ∧
        (z_r (D.1 q (Int.toNat a4))) ∧ (z_r a1) ∧
        ((¬ (D.1 q (Int.toNat a4)) = a1) →
          H7 a1 a3 (a4 + 1) D) ∧
        (((D.1 q (Int.toNat a4)) = a1) →
          K true D))))
theorem v_rHolds_7 {n d : Nat} {X : z_Xt} {r q w : Nat} {a1 : Int} {a3 : Int} {a4 : Int} {o2 : Option Value} {D : z_D} {H7 : Int → Int → Int → z_D → Prop} {K : Bool → z_D → Prop} {T : Nat → z_D → Prop} (hH7 : ∀ (a1 : Int) (a3 : Int) (a4 : Int) (o2 : Option Value) (D : z_D), z_nl o2 → H7 a1 a3 a4 D → z_w n d (k_tb 32) X 7 [some (.ref r), some (.int (z_i a1)), o2, some (.int (z_i a3)), some (.int (z_i a4))] [] D (z_qZ K T)) (hr : z_row n r q w) (n2 : z_nl o2) (h : w_rHolds_7 n d r q w a1 a3 a4 D H7 K T) : z_w n d (k_tb 32) X 7 [some (.ref r), some (.int (z_i a1)), o2, some (.int (z_i a3)), some (.int (z_i a4))] [] D (z_qZ K T) := by
  unfold w_rHolds_7 at h
  refine zs_iload rfl rfl ?_
  refine zs_iload rfl rfl ?_
  obtain ⟨g1, g2, h⟩ := h
  obtain ⟨h13, h14⟩ := h
  refine zs_cge rfl g1 g2 (fun c => ?_) (fun c => ?_)
  · have h := h13 c
    refine zs_pushI (0) rfl rfl ?_
    exact zs_zret (b := false) rfl h
  · have h := h14 c
    refine zs_iload rfl rfl ?_
    refine zs_aload rfl rfl ?_
    refine zs_getI rfl hr.1 ?_
    obtain ⟨g3, h⟩ := h
    obtain ⟨h11, h12⟩ := h
    refine zs_cge rfl g1 g3 (fun c => ?_) (fun c => ?_)
    · have h := h11 c
      refine zs_pushI (0) rfl rfl ?_
      exact zs_zret (b := false) rfl h
    · have h := h12 c
      refine zs_iload rfl rfl ?_
      refine zs_aload rfl rfl ?_
      refine zs_getR rfl hr.1 (hr.2.2.1 _) ?_
      refine zs_alen rfl hr.2.1 (by decide) ?_
      obtain ⟨h9, h10⟩ := h
      refine zs_cge rfl g1 (z_rw hr.2.2.2.1) (fun c => ?_) (fun c => ?_)
      · have h := h9 c
        refine zs_pushI (0) rfl rfl ?_
        exact zs_zret (b := false) rfl h
      · have h := h10 c
        refine zs_aload rfl rfl ?_
        refine zs_getR rfl hr.1 (hr.2.2.1 _) ?_
        refine zs_iload rfl rfl ?_
        obtain ⟨g4, h⟩ := h
        refine zs_iald rfl hr.2.1 hr.2.2.2.1 g4 ?_
        refine zs_iload rfl rfl ?_
        obtain ⟨g5, g6, h⟩ := h
        obtain ⟨h7, h8⟩ := h
        refine zs_cne rfl g5 g6 (fun c => ?_) (fun c => ?_)
        · have h := h7 c
          refine zs_iinc (a := a4) (1) (ls1 := [some (.ref r), some (.int (z_i a1)), o2, some (.int (z_i a3)), some (.int (z_i (a4 + 1)))]) rfl rfl rfl rfl ?_
          refine zs_goto rfl ?_
          exact hH7 _ _ _ _ _ (by first | assumption | exact trivial) h
        · have h := h8 c
          refine zs_pushI (1) rfl rfl ?_
          exact zs_zret (b := true) rfl h
theorem r_rHolds {n d : Nat} {r q w : Nat} {a1 : Int} {a2 : Int} {a3 : Int} {D : z_D} {K : Bool → z_D → Prop} {T : Nat → z_D → Prop} (hr : z_row n r q w) (I7 : Nat → Int → Int → Int → z_D → Prop) (hE : w_rHolds_0 n d r q w a1 a2 a3 D (fun a1 a3 a4 D => ∃ m, I7 m a1 a3 a4 D) K T) (h7 : ∀ (mm : Nat) (a1 : Int) (a3 : Int) (a4 : Int) (D : z_D), I7 mm a1 a3 a4 D → w_rHolds_7 n d r q w a1 a3 a4 D (fun a1 a3 a4 D => ∃ m, m < mm ∧ I7 m a1 a3 a4 D) K T) : z_c n (d + 1) 32 [.ref r, .int (z_i a1), .int (z_i a2), .int (z_i a3)] D (z_qZ K T) := by
  refine z_enter (Nat.le_of_ble_eq_true rfl) rfl (fun X => ?_)
  have key : ∀ m, (∀ (a1 : Int) (a3 : Int) (a4 : Int) (o2 : Option Value) (D : z_D), z_nl o2 → I7 m a1 a3 a4 D → z_w n d (k_tb 32) X 7 [some (.ref r), some (.int (z_i a1)), o2, some (.int (z_i a3)), some (.int (z_i a4))] [] D (z_qZ K T)) := by
    intro m
    induction m using Nat.strongRecOn with
    | _ mm ih =>
      exact fun a1 a3 a4 o2 D n2 hI => v_rHolds_7 (fun a1 a3 a4 o2 D n2 ⟨m, hm, hI⟩ => (ih m hm) _ _ _ _ _ n2 hI) hr n2 (h7 mm a1 a3 a4 D hI)
  exact v_rHolds_0 (fun a1 a3 a4 o2 D n2 ⟨m, hI⟩ => (key m) _ _ _ _ _ n2 hI) hr hE
-- 33: TokenMouth$Row.endsWith(LTokenMouth$Row;II)Z
def w_rEndsWith_0 (n d : Nat) (r q w r2 q2 w2 : Nat) (a2 : Int) (a3 : Int) (D : z_D) (H20 : Int → Int → Int → z_D → Prop) (K : Bool → z_D → Prop) (T : Nat → z_D → Prop) : Prop :=
  (z_r (((D.1 r 1) - a3) + a2)) ∧
  ((0 ≤ (((D.1 r 1) - a3) + a2)) →
    H20 a3 ((D.1 r 1) - a3) a2 D) ∧
  (((((D.1 r 1) - a3) + a2) < 0) →
    K false D)
theorem v_rEndsWith_0 {n d : Nat} {X : z_Xt} {r q w r2 q2 w2 : Nat} {a2 : Int} {a3 : Int}  {D : z_D} {H20 : Int → Int → Int → z_D → Prop} {K : Bool → z_D → Prop} {T : Nat → z_D → Prop} (hH20 : ∀ (a3 : Int) (a4 : Int) (a5 : Int) (o2 : Option Value) (D : z_D), z_nl o2 → H20 a3 a4 a5 D → z_w n d (k_tb 33) X 20 [some (.ref r), some (.ref r2), o2, some (.int (z_i a3)), some (.int (z_i a4)), some (.int (z_i a5))] [] D (z_qZ K T)) (hr : z_row n r q w) (hr2 : z_row n r2 q2 w2) (h : w_rEndsWith_0 n d r q w r2 q2 w2 a2 a3 D H20 K T) : z_w n d (k_tb 33) X 0 [some (.ref r), some (.ref r2), some (.int (z_i a2)), some (.int (z_i a3)), none, none] [] D (z_qZ K T) := by
  unfold w_rEndsWith_0 at h
  refine zs_aload rfl rfl ?_
  refine zs_getI rfl hr.1 ?_
  refine zs_iload rfl rfl ?_
  refine zs_sub (a := (D.1 r 1)) (b := a3) rfl ?_
  refine zs_istore (ls1 := [some (.ref r), some (.ref r2), some (.int (z_i a2)), some (.int (z_i a3)), some (.int (z_i ((D.1 r 1) - a3))), none]) rfl rfl rfl ?_
  refine zs_iload rfl rfl ?_
  refine zs_iload rfl rfl ?_
  refine zs_add (a := ((D.1 r 1) - a3)) (b := a2) rfl ?_
  obtain ⟨g1, h⟩ := h
  obtain ⟨h2, h3⟩ := h
  refine zs_ifge rfl g1 (fun c => ?_) (fun c => ?_)
  · have h := h2 c
    refine zs_iload rfl rfl ?_
    refine zs_istore (ls1 := [some (.ref r), some (.ref r2), some (.int (z_i a2)), some (.int (z_i a3)), some (.int (z_i ((D.1 r 1) - a3))), some (.int (z_i a2))]) rfl rfl rfl ?_
    exact hH20 _ _ _ _ _ (by first | assumption | exact trivial) h
  · have h := h3 c
    refine zs_pushI (0) rfl rfl ?_
    exact zs_zret (b := false) rfl h
def w_rEndsWith_20 (n d : Nat) (r q w r2 q2 w2 : Nat) (a3 : Int) (a4 : Int) (a5 : Int) (D : z_D) (H20 : Int → Int → Int → z_D → Prop) (K : Bool → z_D → Prop) (T : Nat → z_D → Prop) : Prop :=
  (z_r a5) ∧ (z_r a3) ∧
  ((a3 ≤ a5) →
    K true D) ∧
  ((a5 < a3) →
    z_c n d 25 [.ref r, .int (z_i (a4 + a5))] D (z_qI (fun v4 D3 => 
      z_c n d 25 [.ref r2, .int (z_i a5)] D3 (z_qI (fun v6 D5 => 
        (z_r v4) ∧ (z_r v6) ∧
        ((v4 = v6) →
          H20 a3 a4 (a5 + 1) D5) ∧
        ((¬ v4 = v6) →
          K false D5)) T)) T))
theorem v_rEndsWith_20 {n d : Nat} {X : z_Xt} {r q w r2 q2 w2 : Nat} {a3 : Int} {a4 : Int} {a5 : Int} {o2 : Option Value} {D : z_D} {H20 : Int → Int → Int → z_D → Prop} {K : Bool → z_D → Prop} {T : Nat → z_D → Prop} (hH20 : ∀ (a3 : Int) (a4 : Int) (a5 : Int) (o2 : Option Value) (D : z_D), z_nl o2 → H20 a3 a4 a5 D → z_w n d (k_tb 33) X 20 [some (.ref r), some (.ref r2), o2, some (.int (z_i a3)), some (.int (z_i a4)), some (.int (z_i a5))] [] D (z_qZ K T)) (hr : z_row n r q w) (hr2 : z_row n r2 q2 w2) (n2 : z_nl o2) (h : w_rEndsWith_20 n d r q w r2 q2 w2 a3 a4 a5 D H20 K T) : z_w n d (k_tb 33) X 20 [some (.ref r), some (.ref r2), o2, some (.int (z_i a3)), some (.int (z_i a4)), some (.int (z_i a5))] [] D (z_qZ K T) := by
  unfold w_rEndsWith_20 at h
  refine zs_iload rfl rfl ?_
  refine zs_iload rfl rfl ?_
  obtain ⟨g1, g2, h⟩ := h
  obtain ⟨h11, h12⟩ := h
  refine zs_cge rfl g1 g2 (fun c => ?_) (fun c => ?_)
  · have h := h11 c
    refine zs_pushI (1) rfl rfl ?_
    exact zs_zret (b := true) rfl h
  · have h := h12 c
    refine zs_aload rfl rfl ?_
    refine zs_iload rfl rfl ?_
    refine zs_iload rfl rfl ?_
    refine zs_add (a := a4) (b := a5) rfl ?_
    refine z_callV (k := r) (as0 := [.int (z_i (a4 + a5))]) (r := []) rfl rfl hr.1 (Nat.le_of_ble_eq_true rfl) (z_oI h (fun v4 D3 h => ?_) (fun _ _ h => h))
    refine zs_aload rfl rfl ?_
    refine zs_iload rfl rfl ?_
    refine z_callV (k := r2) (as0 := [.int (z_i a5)]) (r := [.int (z_i v4)]) rfl rfl hr2.1 (Nat.le_of_ble_eq_true rfl) (z_oI h (fun v6 D5 h => ?_) (fun _ _ h => h))
    obtain ⟨g7, g8, h⟩ := h
    obtain ⟨h9, h10⟩ := h
    refine zs_ceq rfl g7 g8 (fun c => ?_) (fun c => ?_)
    · have h := h9 c
      refine zs_iinc (a := a5) (1) (ls1 := [some (.ref r), some (.ref r2), o2, some (.int (z_i a3)), some (.int (z_i a4)), some (.int (z_i (a5 + 1)))]) rfl rfl rfl rfl ?_
      refine zs_goto rfl ?_
      exact hH20 _ _ _ _ _ (by first | assumption | exact trivial) h
    · have h := h10 c
      refine zs_pushI (0) rfl rfl ?_
      exact zs_zret (b := false) rfl h
theorem r_rEndsWith {n d : Nat} {r q w r2 q2 w2 : Nat} {a2 : Int} {a3 : Int} {D : z_D} {K : Bool → z_D → Prop} {T : Nat → z_D → Prop} (hr : z_row n r q w) (hr2 : z_row n r2 q2 w2) (I20 : Nat → Int → Int → Int → z_D → Prop) (hE : w_rEndsWith_0 n d r q w r2 q2 w2 a2 a3 D (fun a3 a4 a5 D => ∃ m, I20 m a3 a4 a5 D) K T) (h20 : ∀ (mm : Nat) (a3 : Int) (a4 : Int) (a5 : Int) (D : z_D), I20 mm a3 a4 a5 D → w_rEndsWith_20 n d r q w r2 q2 w2 a3 a4 a5 D (fun a3 a4 a5 D => ∃ m, m < mm ∧ I20 m a3 a4 a5 D) K T) : z_c n (d + 1) 33 [.ref r, .ref r2, .int (z_i a2), .int (z_i a3)] D (z_qZ K T) := by
  refine z_enter (Nat.le_of_ble_eq_true rfl) rfl (fun X => ?_)
  have key : ∀ m, (∀ (a3 : Int) (a4 : Int) (a5 : Int) (o2 : Option Value) (D : z_D), z_nl o2 → I20 m a3 a4 a5 D → z_w n d (k_tb 33) X 20 [some (.ref r), some (.ref r2), o2, some (.int (z_i a3)), some (.int (z_i a4)), some (.int (z_i a5))] [] D (z_qZ K T)) := by
    intro m
    induction m using Nat.strongRecOn with
    | _ mm ih =>
      exact fun a3 a4 a5 o2 D n2 hI => v_rEndsWith_20 (fun a3 a4 a5 o2 D n2 ⟨m, hm, hI⟩ => (ih m hm) _ _ _ _ _ n2 hI) hr hr2 n2 (h20 mm a3 a4 a5 D hI)
  exact v_rEndsWith_0 (fun a3 a4 a5 o2 D n2 ⟨m, hI⟩ => (key m) _ _ _ _ _ n2 hI) hr hr2 hE
-- 34: TokenMouth$Row.nextParameter(I)I
def w_rNextParameter_0 (n d : Nat) (r q w : Nat) (a1 : Int) (D : z_D) (H2 : Int → z_D → Prop) (K : Int → z_D → Prop) (T : Nat → z_D → Prop) : Prop :=
  H2 a1 D
theorem v_rNextParameter_0 {n d : Nat} {X : z_Xt} {r q w : Nat} {a1 : Int}  {D : z_D} {H2 : Int → z_D → Prop} {K : Int → z_D → Prop} {T : Nat → z_D → Prop} (hH2 : ∀ (a2 : Int) (o1 : Option Value) (D : z_D), z_nl o1 → H2 a2 D → z_w n d (k_tb 34) X 2 [some (.ref r), o1, some (.int (z_i a2))] [] D (z_qI K T)) (hr : z_row n r q w) (h : w_rNextParameter_0 n d r q w a1 D H2 K T) : z_w n d (k_tb 34) X 0 [some (.ref r), some (.int (z_i a1)), none] [] D (z_qI K T) := by
  unfold w_rNextParameter_0 at h
  refine zs_iload rfl rfl ?_
  refine zs_istore (ls1 := [some (.ref r), some (.int (z_i a1)), some (.int (z_i a1))]) rfl rfl rfl ?_
  exact hH2 _ _ _ (by first | assumption | exact trivial) h
def w_rNextParameter_2 (n d : Nat) (r q w : Nat) (a2 : Int) (D : z_D) (H2 : Int → z_D → Prop) (K : Int → z_D → Prop) (T : Nat → z_D → Prop) : Prop :=
  (z_r a2) ∧ (z_r (D.1 r 1)) ∧
  (((D.1 r 1) ≤ a2) →
    K (D.1 r 1) D) ∧
  ((a2 < (D.1 r 1)) →
    z_c n d 25 [.ref r, .int (z_i a2)] D (z_qI (fun v4 D3 => 
      (z_r v4) ∧
      ((v4 < 8192) →
        H2 (a2 + 1) D3) ∧
      ((8192 ≤ v4) →
        K a2 D3)) T))
theorem v_rNextParameter_2 {n d : Nat} {X : z_Xt} {r q w : Nat} {a2 : Int} {o1 : Option Value} {D : z_D} {H2 : Int → z_D → Prop} {K : Int → z_D → Prop} {T : Nat → z_D → Prop} (hH2 : ∀ (a2 : Int) (o1 : Option Value) (D : z_D), z_nl o1 → H2 a2 D → z_w n d (k_tb 34) X 2 [some (.ref r), o1, some (.int (z_i a2))] [] D (z_qI K T)) (hr : z_row n r q w) (n1 : z_nl o1) (h : w_rNextParameter_2 n d r q w a2 D H2 K T) : z_w n d (k_tb 34) X 2 [some (.ref r), o1, some (.int (z_i a2))] [] D (z_qI K T) := by
  unfold w_rNextParameter_2 at h
  refine zs_iload rfl rfl ?_
  refine zs_aload rfl rfl ?_
  refine zs_getI rfl hr.1 ?_
  obtain ⟨g1, g2, h⟩ := h
  obtain ⟨h8, h9⟩ := h
  refine zs_cge rfl g1 g2 (fun c => ?_) (fun c => ?_)
  · have h := h8 c
    refine zs_aload rfl rfl ?_
    refine zs_getI rfl hr.1 ?_
    exact zs_iret rfl h
  · have h := h9 c
    refine zs_aload rfl rfl ?_
    refine zs_iload rfl rfl ?_
    refine z_callV (k := r) (as0 := [.int (z_i a2)]) (r := []) rfl rfl hr.1 (Nat.le_of_ble_eq_true rfl) (z_oI h (fun v4 D3 h => ?_) (fun _ _ h => h))
    refine zs_pushI (8192) rfl rfl ?_
    obtain ⟨g5, h⟩ := h
    obtain ⟨h6, h7⟩ := h
    refine zs_clt rfl g5 (z_rk rfl) (fun c => ?_) (fun c => ?_)
    · have h := h6 c
      refine zs_iinc (a := a2) (1) (ls1 := [some (.ref r), o1, some (.int (z_i (a2 + 1)))]) rfl rfl rfl ((z_st1 rfl n1).trans rfl) ?_
      refine zs_goto rfl ?_
      exact hH2 _ _ _ (by first | assumption | exact trivial) h
    · have h := h7 c
      refine zs_iload rfl rfl ?_
      exact zs_iret rfl h
theorem r_rNextParameter {n d : Nat} {r q w : Nat} {a1 : Int} {D : z_D} {K : Int → z_D → Prop} {T : Nat → z_D → Prop} (hr : z_row n r q w) (I2 : Nat → Int → z_D → Prop) (hE : w_rNextParameter_0 n d r q w a1 D (fun a2 D => ∃ m, I2 m a2 D) K T) (h2 : ∀ (mm : Nat) (a2 : Int) (D : z_D), I2 mm a2 D → w_rNextParameter_2 n d r q w a2 D (fun a2 D => ∃ m, m < mm ∧ I2 m a2 D) K T) : z_c n (d + 1) 34 [.ref r, .int (z_i a1)] D (z_qI K T) := by
  refine z_enter (Nat.le_of_ble_eq_true rfl) rfl (fun X => ?_)
  have key : ∀ m, (∀ (a2 : Int) (o1 : Option Value) (D : z_D), z_nl o1 → I2 m a2 D → z_w n d (k_tb 34) X 2 [some (.ref r), o1, some (.int (z_i a2))] [] D (z_qI K T)) := by
    intro m
    induction m using Nat.strongRecOn with
    | _ mm ih =>
      exact fun a2 o1 D n1 hI => v_rNextParameter_2 (fun a2 o1 D n1 ⟨m, hm, hI⟩ => (ih m hm) _ _ _ n1 hI) hr n1 (h2 mm a2 D hI)
  exact v_rNextParameter_0 (fun a2 o1 D n1 ⟨m, hI⟩ => (key m) _ _ _ n1 hI) hr hE
-- 35: TokenMouth$Row.peelGroup()V
def w_rPeelGroup_0 (n d : Nat) (r q w : Nat) (D : z_D) (H38 : Int → Int → z_D → Prop) (K : z_D → Prop) (T : Nat → z_D → Prop) : Prop :=
  (z_r (D.1 r 1)) ∧
  (((D.1 r 1) < 2) →
    K D) ∧
  ((2 ≤ (D.1 r 1)) →
    (((w : Int) < (D.1 r 1)) →
      K D) ∧
    (((D.1 r 1) ≤ (w : Int)) →
      ((0 : Int) ≤ 0 ∧ (0 : Int) < w) ∧
      z_c n d 54 [.int (z_i (D.1 q 0))] D (z_qI (fun v4 D3 => 
        (z_r v4) ∧
        ((v4 = 1) →
          H38 1 1 D3) ∧
        ((¬ v4 = 1) →
          K D3)) T)))
theorem v_rPeelGroup_0 {n d : Nat} {X : z_Xt} {r q w : Nat}  {D : z_D} {H38 : Int → Int → z_D → Prop} {K : z_D → Prop} {T : Nat → z_D → Prop} (hH38 : ∀ (a1 : Int) (a2 : Int) (D : z_D), H38 a1 a2 D → z_w n d (k_tb 35) X 38 [some (.ref r), some (.int (z_i a1)), some (.int (z_i a2))] [] D (z_qV K T)) (hr : z_row n r q w) (h : w_rPeelGroup_0 n d r q w D H38 K T) : z_w n d (k_tb 35) X 0 [some (.ref r), none, none] [] D (z_qV K T) := by
  unfold w_rPeelGroup_0 at h
  refine zs_aload rfl rfl ?_
  refine zs_getI rfl hr.1 ?_
  refine zs_pushI (2) rfl rfl ?_
  obtain ⟨g1, h⟩ := h
  obtain ⟨h10, h11⟩ := h
  refine zs_clt rfl g1 (z_rk rfl) (fun c => ?_) (fun c => ?_)
  · have h := h10 c
    exact zs_ret rfl h
  · have h := h11 c
    refine zs_aload rfl rfl ?_
    refine zs_getI rfl hr.1 ?_
    refine zs_aload rfl rfl ?_
    refine zs_getR rfl hr.1 (hr.2.2.1 _) ?_
    refine zs_alen rfl hr.2.1 (by decide) ?_
    obtain ⟨h8, h9⟩ := h
    refine zs_cgt rfl g1 (z_rw hr.2.2.2.1) (fun c => ?_) (fun c => ?_)
    · have h := h8 c
      exact zs_ret rfl h
    · have h := h9 c
      refine zs_aload rfl rfl ?_
      refine zs_getR rfl hr.1 (hr.2.2.1 _) ?_
      refine zs_pushI (0) rfl rfl ?_
      obtain ⟨g2, h⟩ := h
      refine zs_iald rfl hr.2.1 hr.2.2.2.1 g2 ?_
      refine z_callS (as0 := [.int (z_i (D.1 q 0))]) (r := []) rfl rfl (Nat.le_of_ble_eq_true rfl) (z_oI h (fun v4 D3 h => ?_) (fun _ _ h => h))
      refine zs_pushI (1) rfl rfl ?_
      obtain ⟨g5, h⟩ := h
      obtain ⟨h6, h7⟩ := h
      refine zs_ceq rfl g5 (z_rk rfl) (fun c => ?_) (fun c => ?_)
      · have h := h6 c
        refine zs_pushI (1) rfl rfl ?_
        refine zs_istore (ls1 := [some (.ref r), some (.int (z_i 1)), none]) rfl rfl rfl ?_
        refine zs_pushI (1) rfl rfl ?_
        refine zs_istore (ls1 := [some (.ref r), some (.int (z_i 1)), some (.int (z_i 1))]) rfl rfl rfl ?_
        exact hH38 _ _  _  h
      · have h := h7 c
        exact zs_ret rfl h
def w_rPeelGroup_38 (n d : Nat) (r q w : Nat) (a1 : Int) (a2 : Int) (D : z_D) (H38 : Int → Int → z_D → Prop) (K : z_D → Prop) (T : Nat → z_D → Prop) : Prop :=
  (z_r a2) ∧ (z_r ((D.1 r 1) - 1)) ∧
  ((((D.1 r 1) - 1) ≤ a2) →
    ((0 : Int) ≤ 1 ∧ (0 : Int) ≤ 0 ∧ 0 ≤ ((D.1 r 1) - 2) ∧ 1 + ((D.1 r 1) - 2) ≤ w ∧ 0 + ((D.1 r 1) - 2) ≤ w) ∧
    ∀ D4, D4 = z_cp D q q 1 0 (Int.toNat ((D.1 r 1) - 2)) →
    ∀ D5, D5 = z_uz D4 r 1 ((D4.1 r 1) - 2) →
    K D5) ∧
  ((a2 < ((D.1 r 1) - 1)) →
    (0 ≤ a2 ∧ a2 < w) ∧
    z_c n d 54 [.int (z_i (D.1 q (Int.toNat a2)))] D (z_qI (fun v8 D7 => 
      (z_r (a1 + v8)) ∧
      ((¬ (a1 + v8) = 0) →
        H38 (a1 + v8) (a2 + 1) D7) ∧
      (((a1 + v8) = 0) →
        K D7)) T))
theorem v_rPeelGroup_38 {n d : Nat} {X : z_Xt} {r q w : Nat} {a1 : Int} {a2 : Int}  {D : z_D} {H38 : Int → Int → z_D → Prop} {K : z_D → Prop} {T : Nat → z_D → Prop} (hH38 : ∀ (a1 : Int) (a2 : Int) (D : z_D), H38 a1 a2 D → z_w n d (k_tb 35) X 38 [some (.ref r), some (.int (z_i a1)), some (.int (z_i a2))] [] D (z_qV K T)) (hr : z_row n r q w) (h : w_rPeelGroup_38 n d r q w a1 a2 D H38 K T) : z_w n d (k_tb 35) X 38 [some (.ref r), some (.int (z_i a1)), some (.int (z_i a2))] [] D (z_qV K T) := by
  unfold w_rPeelGroup_38 at h
  refine zs_iload rfl rfl ?_
  refine zs_aload rfl rfl ?_
  refine zs_getI rfl hr.1 ?_
  refine zs_pushI (1) rfl rfl ?_
  refine zs_sub (a := (D.1 r 1)) (b := 1) rfl ?_
  obtain ⟨g1, g2, h⟩ := h
  obtain ⟨h12, h13⟩ := h
  refine zs_cge rfl g1 g2 (fun c => ?_) (fun c => ?_)
  · have h := h12 c
    refine zs_aload rfl rfl ?_
    refine zs_getR rfl hr.1 (hr.2.2.1 _) ?_
    refine zs_pushI (1) rfl rfl ?_
    refine zs_aload rfl rfl ?_
    refine zs_getR rfl hr.1 (hr.2.2.1 _) ?_
    refine zs_pushI (0) rfl rfl ?_
    refine zs_aload rfl rfl ?_
    refine zs_getI rfl hr.1 ?_
    refine zs_pushI (2) rfl rfl ?_
    refine zs_sub (a := (D.1 r 1)) (b := 2) rfl ?_
    obtain ⟨g3, h⟩ := h
    refine zs_copy rfl hr.2.1 hr.2.2.2.1 (Nat.le_of_ble_eq_true rfl) g3 (fun D4 eD4 => ?_)
    have h := h D4 eD4
    refine zs_aload rfl rfl ?_
    refine zs_dup rfl rfl ?_
    refine zs_getI rfl hr.1 ?_
    refine zs_pushI (2) rfl rfl ?_
    refine zs_sub (a := (D4.1 r 1)) (b := 2) rfl ?_
    refine zs_putI rfl hr.1 (fun D5 eD5 => ?_)
    have h := h D5 eD5
    exact zs_ret rfl h
  · have h := h13 c
    refine zs_iload rfl rfl ?_
    refine zs_aload rfl rfl ?_
    refine zs_getR rfl hr.1 (hr.2.2.1 _) ?_
    refine zs_iload rfl rfl ?_
    obtain ⟨g6, h⟩ := h
    refine zs_iald rfl hr.2.1 hr.2.2.2.1 g6 ?_
    refine z_callS (as0 := [.int (z_i (D.1 q (Int.toNat a2)))]) (r := [.int (z_i a1)]) rfl rfl (Nat.le_of_ble_eq_true rfl) (z_oI h (fun v8 D7 h => ?_) (fun _ _ h => h))
    refine zs_add (a := a1) (b := v8) rfl ?_
    refine zs_istore (ls1 := [some (.ref r), some (.int (z_i (a1 + v8))), some (.int (z_i a2))]) rfl rfl rfl ?_
    refine zs_iload rfl rfl ?_
    obtain ⟨g9, h⟩ := h
    obtain ⟨h10, h11⟩ := h
    refine zs_ifne rfl g9 (fun c => ?_) (fun c => ?_)
    · have h := h10 c
      refine zs_iinc (a := a2) (1) (ls1 := [some (.ref r), some (.int (z_i (a1 + v8))), some (.int (z_i (a2 + 1)))]) rfl rfl rfl rfl ?_
      refine zs_goto rfl ?_
      exact hH38 _ _  _  h
    · have h := h11 c
      exact zs_ret rfl h
theorem r_rPeelGroup {n d : Nat} {r q w : Nat} {D : z_D} {K : z_D → Prop} {T : Nat → z_D → Prop} (hr : z_row n r q w) (I38 : Nat → Int → Int → z_D → Prop) (hE : w_rPeelGroup_0 n d r q w D (fun a1 a2 D => ∃ m, I38 m a1 a2 D) K T) (h38 : ∀ (mm : Nat) (a1 : Int) (a2 : Int) (D : z_D), I38 mm a1 a2 D → w_rPeelGroup_38 n d r q w a1 a2 D (fun a1 a2 D => ∃ m, m < mm ∧ I38 m a1 a2 D) K T) : z_c n (d + 1) 35 [.ref r] D (z_qV K T) := by
  refine z_enter (Nat.le_of_ble_eq_true rfl) rfl (fun X => ?_)
  have key : ∀ m, (∀ (a1 : Int) (a2 : Int) (D : z_D), I38 m a1 a2 D → z_w n d (k_tb 35) X 38 [some (.ref r), some (.int (z_i a1)), some (.int (z_i a2))] [] D (z_qV K T)) := by
    intro m
    induction m using Nat.strongRecOn with
    | _ mm ih =>
      exact fun a1 a2 D hI => v_rPeelGroup_38 (fun a1 a2 D ⟨m, hm, hI⟩ => (ih m hm) _ _ _  hI) hr (h38 mm a1 a2 D hI)
  exact v_rPeelGroup_0 (fun a1 a2 D ⟨m, hI⟩ => (key m) _ _ _  hI) hr hE
-- 162: java/util/Arrays.fill([II)V
def w_jFill_0 (n d : Nat) (q w : Nat) (a1 : Int) (D : z_D) (H5 : Int → Int → Int → z_D → Prop) (K : z_D → Prop) (T : Nat → z_D → Prop) : Prop :=
  H5 a1 0 (w : Int) D
theorem v_jFill_0 {n d : Nat} {X : z_Xt} {q w : Nat} {a1 : Int}  {D : z_D} {H5 : Int → Int → Int → z_D → Prop} {K : z_D → Prop} {T : Nat → z_D → Prop} (hH5 : ∀ (a1 : Int) (a2 : Int) (a3 : Int) (D : z_D), H5 a1 a2 a3 D → z_w n d (k_tb 162) X 5 [some (.ref q), some (.int (z_i a1)), some (.int (z_i a2)), some (.int (z_i a3))] [] D (z_qV K T)) (hq : z_sh n q = some (.inr (0, w))) (hw : w ≤ 1000000) (h : w_jFill_0 n d q w a1 D H5 K T) : z_w n d (k_tb 162) X 0 [some (.ref q), some (.int (z_i a1)), none, none] [] D (z_qV K T) := by
  unfold w_jFill_0 at h
  refine zs_pushI (0) rfl rfl ?_
  refine zs_istore (ls1 := [some (.ref q), some (.int (z_i a1)), some (.int (z_i 0)), none]) rfl rfl rfl ?_
  refine zs_aload rfl rfl ?_
  refine zs_alen rfl hq (by decide) ?_
  refine zs_istore (ls1 := [some (.ref q), some (.int (z_i a1)), some (.int (z_i 0)), some (.int (z_i (w : Int)))]) rfl rfl rfl ?_
  exact hH5 _ _ _  _  h
def w_jFill_5 (n d : Nat) (q w : Nat) (a1 : Int) (a2 : Int) (a3 : Int) (D : z_D) (H5 : Int → Int → Int → z_D → Prop) (K : z_D → Prop) (T : Nat → z_D → Prop) : Prop :=
  (z_r a2) ∧ (z_r a3) ∧
  ((a3 ≤ a2) →
    K D) ∧
  ((a2 < a3) →
    (0 ≤ a2 ∧ a2 < w) ∧
    ∀ D4, D4 = z_uz D q (Int.toNat a2) a1 →
    H5 a1 (a2 + 1) a3 D4)
theorem v_jFill_5 {n d : Nat} {X : z_Xt} {q w : Nat} {a1 : Int} {a2 : Int} {a3 : Int}  {D : z_D} {H5 : Int → Int → Int → z_D → Prop} {K : z_D → Prop} {T : Nat → z_D → Prop} (hH5 : ∀ (a1 : Int) (a2 : Int) (a3 : Int) (D : z_D), H5 a1 a2 a3 D → z_w n d (k_tb 162) X 5 [some (.ref q), some (.int (z_i a1)), some (.int (z_i a2)), some (.int (z_i a3))] [] D (z_qV K T)) (hq : z_sh n q = some (.inr (0, w))) (hw : w ≤ 1000000) (h : w_jFill_5 n d q w a1 a2 a3 D H5 K T) : z_w n d (k_tb 162) X 5 [some (.ref q), some (.int (z_i a1)), some (.int (z_i a2)), some (.int (z_i a3))] [] D (z_qV K T) := by
  unfold w_jFill_5 at h
  refine zs_iload rfl rfl ?_
  refine zs_iload rfl rfl ?_
  obtain ⟨g1, g2, h⟩ := h
  obtain ⟨h5, h6⟩ := h
  refine zs_cge rfl g1 g2 (fun c => ?_) (fun c => ?_)
  · have h := h5 c
    exact zs_ret rfl h
  · have h := h6 c
    refine zs_aload rfl rfl ?_
    refine zs_iload rfl rfl ?_
    refine zs_iload rfl rfl ?_
    obtain ⟨g3, h⟩ := h
    refine zs_iast rfl hq hw g3 (fun D4 eD4 => ?_)
    have h := h D4 eD4
    refine zs_iinc (a := a2) (1) (ls1 := [some (.ref q), some (.int (z_i a1)), some (.int (z_i (a2 + 1))), some (.int (z_i a3))]) rfl rfl rfl rfl ?_
    refine zs_goto rfl ?_
    exact hH5 _ _ _  _  h
theorem r_jFill {n d : Nat} {q w : Nat} {a1 : Int} {D : z_D} {K : z_D → Prop} {T : Nat → z_D → Prop} (hq : z_sh n q = some (.inr (0, w))) (hw : w ≤ 1000000) (I5 : Nat → Int → Int → Int → z_D → Prop) (hE : w_jFill_0 n d q w a1 D (fun a1 a2 a3 D => ∃ m, I5 m a1 a2 a3 D) K T) (h5 : ∀ (mm : Nat) (a1 : Int) (a2 : Int) (a3 : Int) (D : z_D), I5 mm a1 a2 a3 D → w_jFill_5 n d q w a1 a2 a3 D (fun a1 a2 a3 D => ∃ m, m < mm ∧ I5 m a1 a2 a3 D) K T) : z_c n (d + 1) 162 [.ref q, .int (z_i a1)] D (z_qV K T) := by
  refine z_enter (Nat.le_of_ble_eq_true rfl) rfl (fun X => ?_)
  have key : ∀ m, (∀ (a1 : Int) (a2 : Int) (a3 : Int) (D : z_D), I5 m a1 a2 a3 D → z_w n d (k_tb 162) X 5 [some (.ref q), some (.int (z_i a1)), some (.int (z_i a2)), some (.int (z_i a3))] [] D (z_qV K T)) := by
    intro m
    induction m using Nat.strongRecOn with
    | _ mm ih =>
      exact fun a1 a2 a3 D hI => v_jFill_5 (fun a1 a2 a3 D ⟨m, hm, hI⟩ => (ih m hm) _ _ _ _  hI) hq hw (h5 mm a1 a2 a3 D hI)
  exact v_jFill_0 (fun a1 a2 a3 D ⟨m, hI⟩ => (key m) _ _ _ _  hI) hq hw hE
