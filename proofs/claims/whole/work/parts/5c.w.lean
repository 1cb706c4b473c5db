/-! what the methods mean; printed by wip/whole/dec.py -/
-- 37: TokenMouth.type(J)Z
def w_tType_0 (n d : Nat) (a1 : Int64) (D : z_D)  (K : Bool → z_D → Prop) (T : Nat → z_D → Prop) : Prop :=
  (z_r (D.1 0 10)) ∧
  ((¬ (D.1 0 10) = 0) →
    K false D) ∧
  (((D.1 0 10) = 0) →
    z_c n d 20 [.ref 1, .long a1] D (z_qZ (fun v3 D2 => 
      ((v3 = false) →
        K false D2) ∧
      ((v3 = true) →
        K true D2)) T))
theorem v_tType_0 {n d : Nat} {X : z_Xt} {a1 : Int64}  {D : z_D}  {K : Bool → z_D → Prop} {T : Nat → z_D → Prop}  (h : w_tType_0 n d a1 D K T) : z_w n d (k_tb 37) X 0 [some (.ref 0), some (.long a1), none] [] D (z_qZ K T) := by
  unfold w_tType_0 at h
  refine zs_aload rfl rfl ?_
  refine zs_getI rfl rfl ?_
  obtain ⟨g1, h⟩ := h
  obtain ⟨h6, h7⟩ := h
  refine zs_ifne rfl g1 (fun c => ?_) (fun c => ?_)
  · have h := h6 c
    refine zs_pushI (0) rfl rfl ?_
    exact zs_zret (b := false) rfl h
  · have h := h7 c
    refine zs_aload rfl rfl ?_
    refine zs_getR (x := 1) rfl rfl rfl ?_
    refine zs_lload rfl rfl ?_
    refine z_callV (k := 1) (as0 := [.long a1]) (r := []) rfl rfl rfl (Nat.le_of_ble_eq_true rfl) (z_oZ h (fun v3 D2 h => ?_) (fun _ _ h => h))
    obtain ⟨h4, h5⟩ := h
    refine zs_beq rfl (fun c => ?_) (fun c => ?_)
    · have h := h4 c
      refine zs_pushI (0) rfl rfl ?_
      exact zs_zret (b := false) rfl h
    · have h := h5 c
      refine zs_pushI (1) rfl rfl ?_
      refine zs_goto rfl ?_
      exact zs_zret (b := true) rfl h
theorem r_tType {n d : Nat} {a1 : Int64} {D : z_D} {K : Bool → z_D → Prop} {T : Nat → z_D → Prop}  (h : w_tType_0 n d a1 D K T) : z_c n (d + 1) 37 [.ref 0, .long a1] D (z_qZ K T) :=
  z_enter (Nat.le_of_ble_eq_true rfl) rfl (fun X => v_tType_0 h)
-- 38: TokenMouth.wipe()V
def w_tWipe_0 (n d : Nat)  (D : z_D)  (K : z_D → Prop) (T : Nat → z_D → Prop) : Prop :=
  z_c n d 16 [.ref 1] D (z_qV (fun D1 => 
    z_c n d 47 [.ref 0] D1 (z_qV (fun D2 => 
      K D2) T)) T)
theorem v_tWipe_0 {n d : Nat} {X : z_Xt}   {D : z_D}  {K : z_D → Prop} {T : Nat → z_D → Prop}  (h : w_tWipe_0 n d D K T) : z_w n d (k_tb 38) X 0 [some (.ref 0)] [] D (z_qV K T) := by
  unfold w_tWipe_0 at h
  refine zs_aload rfl rfl ?_
  refine zs_getR (x := 1) rfl rfl rfl ?_
  refine z_callV (k := 1) (as0 := []) (r := []) rfl rfl rfl (Nat.le_of_ble_eq_true rfl) (z_oV h (fun D1 h => ?_) (fun _ _ h => h))
  refine zs_aload rfl rfl ?_
  refine z_callV (k := 0) (as0 := []) (r := []) rfl rfl rfl (Nat.le_of_ble_eq_true rfl) (z_oV h (fun D2 h => ?_) (fun _ _ h => h))
  exact zs_ret rfl h
theorem r_tWipe {n d : Nat}  {D : z_D} {K : z_D → Prop} {T : Nat → z_D → Prop}  (h : w_tWipe_0 n d D K T) : z_c n (d + 1) 38 [.ref 0] D (z_qV K T) :=
  z_enter (Nat.le_of_ble_eq_true rfl) rfl (fun X => v_tWipe_0 h)
-- 39: TokenMouth.again()V
def w_tAgain_0 (n d : Nat)  (D : z_D)  (K : z_D → Prop) (T : Nat → z_D → Prop) : Prop :=
  z_c n d 47 [.ref 0] D (z_qV (fun D1 => 
    K D1) T)
theorem v_tAgain_0 {n d : Nat} {X : z_Xt}   {D : z_D}  {K : z_D → Prop} {T : Nat → z_D → Prop}  (h : w_tAgain_0 n d D K T) : z_w n d (k_tb 39) X 0 [some (.ref 0)] [] D (z_qV K T) := by
  unfold w_tAgain_0 at h
  refine zs_aload rfl rfl ?_
  refine z_callV (k := 0) (as0 := []) (r := []) rfl rfl rfl (Nat.le_of_ble_eq_true rfl) (z_oV h (fun D1 h => ?_) (fun _ _ h => h))
  exact zs_ret rfl h
theorem r_tAgain {n d : Nat}  {D : z_D} {K : z_D → Prop} {T : Nat → z_D → Prop}  (h : w_tAgain_0 n d D K T) : z_c n (d + 1) 39 [.ref 0] D (z_qV K T) :=
  z_enter (Nat.le_of_ble_eq_true rfl) rfl (fun X => v_tAgain_0 h)
-- 40: TokenMouth.run(I)I
def w_tRun_0 (n d : Nat) (a1 : Int) (D : z_D) (H41 : Int → Int → z_D → Prop) (K : Int → z_D → Prop) (T : Nat → z_D → Prop) : Prop :=
  (z_r a1) ∧
  ((a1 < 1) →
    T 0 D) ∧
  ((1 ≤ a1) →
    ((a1 ≤ 500) →
      (z_r (D.1 0 11)) ∧
      (((D.1 0 11) = 0) →
        H41 a1 0 D) ∧
      ((¬ (D.1 0 11) = 0) →
        T 1 D)) ∧
    ((500 < a1) →
      T 0 D))
theorem v_tRun_0 {n d : Nat} {X : z_Xt} {a1 : Int}  {D : z_D} {H41 : Int → Int → z_D → Prop} {K : Int → z_D → Prop} {T : Nat → z_D → Prop} (hH41 : ∀ (a1 : Int) (a2 : Int) (o3 : Option Value) (D : z_D), z_nl o3 → H41 a1 a2 D → z_w n d (k_tb 40) X 41 [some (.ref 0), some (.int (z_i a1)), some (.int (z_i a2)), o3] [] D (z_qI K T)) (h : w_tRun_0 n d a1 D H41 K T) : z_w n d (k_tb 40) X 0 [some (.ref 0), some (.int (z_i a1)), none, none] [] D (z_qI K T) := by
  unfold w_tRun_0 at h
  refine zs_iload rfl rfl ?_
  refine zs_pushI (1) rfl rfl ?_
  obtain ⟨g1, h⟩ := h
  obtain ⟨h7, h8⟩ := h
  refine zs_clt rfl g1 (z_rk rfl) (fun c => ?_) (fun c => ?_)
  · have h := h7 c
    exact zs_throw rfl h
  · have h := h8 c
    refine zs_iload rfl rfl ?_
    refine zs_pushI (500) rfl rfl ?_
    obtain ⟨h5, h6⟩ := h
    refine zs_cle rfl g1 (z_rk rfl) (fun c => ?_) (fun c => ?_)
    · have h := h5 c
      refine zs_aload rfl rfl ?_
      refine zs_getI rfl rfl ?_
      obtain ⟨g2, h⟩ := h
      obtain ⟨h3, h4⟩ := h
      refine zs_ifeq rfl g2 (fun c => ?_) (fun c => ?_)
      · have h := h3 c
        refine zs_pushI (0) rfl rfl ?_
        refine zs_istore (ls1 := [some (.ref 0), some (.int (z_i a1)), some (.int (z_i 0)), none]) rfl rfl rfl ?_
        exact hH41 _ _ _ _ (by first | assumption | exact trivial) h
      · have h := h4 c
        exact zs_throw rfl h
    · have h := h6 c
      exact zs_throw rfl h
def w_tRun_41 (n d : Nat) (a1 : Int) (a2 : Int) (D : z_D) (H41 : Int → Int → z_D → Prop) (K : Int → z_D → Prop) (T : Nat → z_D → Prop) : Prop :=
  (z_r a2) ∧ (z_r a1) ∧
  ((a1 ≤ a2) →
    K 0 D) ∧
  ((a2 < a1) →
    ∀ D3, D3 = z_uz D 0 10 ((D.1 0 10) + 1) →
    ∀ D4, D4 = z_uz D3 0 12 0 →
    ∀ D5, D5 = z_uz D4 0 13 0 →
    z_c n d 61 [.ref 0, .int (z_i (z_b false))] D5 (z_qI (fun v7 D6 => 
      (z_r v7) ∧
      ((¬ v7 = (-1)) →
        z_c n d 55 [.ref 0, .int (z_i v7)] D6 (z_qI (fun v10 D9 => 
          z_c n d 64 [.ref 0, .int (z_i v10)] D9 (z_qV (fun D11 => 
            H41 a1 (a2 + 1) D11) T)) T)) ∧
      ((v7 = (-1)) →
        ∀ D12, D12 = z_uz D6 0 10 ((D6.1 0 10) - 1) →
        K 1 D12)) T))
theorem v_tRun_41 {n d : Nat} {X : z_Xt} {a1 : Int} {a2 : Int} {o3 : Option Value} {D : z_D} {H41 : Int → Int → z_D → Prop} {K : Int → z_D → Prop} {T : Nat → z_D → Prop} (hH41 : ∀ (a1 : Int) (a2 : Int) (o3 : Option Value) (D : z_D), z_nl o3 → H41 a1 a2 D → z_w n d (k_tb 40) X 41 [some (.ref 0), some (.int (z_i a1)), some (.int (z_i a2)), o3] [] D (z_qI K T)) (n3 : z_nl o3) (h : w_tRun_41 n d a1 a2 D H41 K T) : z_w n d (k_tb 40) X 41 [some (.ref 0), some (.int (z_i a1)), some (.int (z_i a2)), o3] [] D (z_qI K T) := by
  unfold w_tRun_41 at h
  refine zs_iload rfl rfl ?_
  refine zs_iload rfl rfl ?_
  obtain ⟨g1, g2, h⟩ := h
  obtain ⟨h15, h16⟩ := h
  refine zs_cge rfl g1 g2 (fun c => ?_) (fun c => ?_)
  · have h := h15 c
    refine zs_pushI (0) rfl rfl ?_
    exact zs_iret rfl h
  · have h := h16 c
    refine zs_aload rfl rfl ?_
    refine zs_dup rfl rfl ?_
    refine zs_getI rfl rfl ?_
    refine zs_pushI (1) rfl rfl ?_
    refine zs_add (a := (D.1 0 10)) (b := 1) rfl ?_
    refine zs_putI rfl rfl (fun D3 eD3 => ?_)
    have h := h D3 eD3
    refine zs_aload rfl rfl ?_
    refine zs_pushI (0) rfl rfl ?_
    refine zs_putI rfl rfl (fun D4 eD4 => ?_)
    have h := h D4 eD4
    refine zs_aload rfl rfl ?_
    refine zs_pushI (0) rfl rfl ?_
    refine zs_putI rfl rfl (fun D5 eD5 => ?_)
    have h := h D5 eD5
    refine zs_aload rfl rfl ?_
    refine zs_pushI (0) rfl rfl ?_
    refine z_callV (k := 0) (as0 := [.int (z_i (z_b false))]) (r := []) rfl rfl rfl (Nat.le_of_ble_eq_true rfl) (z_oI h (fun v7 D6 h => ?_) (fun _ _ h => h))
    refine zs_istore (ls1 := [some (.ref 0), some (.int (z_i a1)), some (.int (z_i a2)), some (.int (z_i v7))]) rfl rfl rfl ?_
    refine zs_iload rfl rfl ?_
    refine zs_pushI (-1) rfl rfl ?_
    obtain ⟨g8, h⟩ := h
    obtain ⟨h13, h14⟩ := h
    refine zs_cne rfl g8 (z_rk rfl) (fun c => ?_) (fun c => ?_)
    · have h := h13 c
      refine zs_aload rfl rfl ?_
      refine zs_aload rfl rfl ?_
      refine zs_iload rfl rfl ?_
      refine z_callV (k := 0) (as0 := [.int (z_i v7)]) (r := [.ref 0]) rfl rfl rfl (Nat.le_of_ble_eq_true rfl) (z_oI h (fun v10 D9 h => ?_) (fun _ _ h => h))
      refine z_callV (k := 0) (as0 := [.int (z_i v10)]) (r := []) rfl rfl rfl (Nat.le_of_ble_eq_true rfl) (z_oV h (fun D11 h => ?_) (fun _ _ h => h))
      refine zs_iinc (a := a2) (1) (ls1 := [some (.ref 0), some (.int (z_i a1)), some (.int (z_i (a2 + 1))), some (.int (z_i v7))]) rfl rfl rfl rfl ?_
      refine zs_goto rfl ?_
      exact hH41 _ _ _ _ (by first | assumption | exact trivial) h
    · have h := h14 c
      refine zs_aload rfl rfl ?_
      refine zs_dup rfl rfl ?_
      refine zs_getI rfl rfl ?_
      refine zs_pushI (1) rfl rfl ?_
      refine zs_sub (a := (D6.1 0 10)) (b := 1) rfl ?_
      refine zs_putI rfl rfl (fun D12 eD12 => ?_)
      have h := h D12 eD12
      refine zs_pushI (1) rfl rfl ?_
      exact zs_iret rfl h
theorem r_tRun {n d : Nat} {a1 : Int} {D : z_D} {K : Int → z_D → Prop} {T : Nat → z_D → Prop}  (I41 : Nat → Int → Int → z_D → Prop) (hE : w_tRun_0 n d a1 D (fun a1 a2 D => ∃ m, I41 m a1 a2 D) K T) (h41 : ∀ (mm : Nat) (a1 : Int) (a2 : Int) (D : z_D), I41 mm a1 a2 D → w_tRun_41 n d a1 a2 D (fun a1 a2 D => ∃ m, m < mm ∧ I41 m a1 a2 D) K T) : z_c n (d + 1) 40 [.ref 0, .int (z_i a1)] D (z_qI K T) := by
  refine z_enter (Nat.le_of_ble_eq_true rfl) rfl (fun X => ?_)
  have key : ∀ m, (∀ (a1 : Int) (a2 : Int) (o3 : Option Value) (D : z_D), z_nl o3 → I41 m a1 a2 D → z_w n d (k_tb 40) X 41 [some (.ref 0), some (.int (z_i a1)), some (.int (z_i a2)), o3] [] D (z_qI K T)) := by
    intro m
    induction m using Nat.strongRecOn with
    | _ mm ih =>
      exact fun a1 a2 o3 D n3 hI => v_tRun_41 (fun a1 a2 o3 D n3 ⟨m, hm, hI⟩ => (ih m hm) _ _ _ _ n3 hI) n3 (h41 mm a1 a2 D hI)
  exact v_tRun_0 (fun a1 a2 o3 D n3 ⟨m, hI⟩ => (key m) _ _ _ _ n3 hI) hE
-- 41: TokenMouth.fault(I)I
def w_tFault_0 (n d : Nat) (a1 : Int) (D : z_D)  (K : Int → z_D → Prop) (T : Nat → z_D → Prop) : Prop :=
  (z_r a1) ∧
  ((a1 < 0) →
    T 2 D) ∧
  ((0 ≤ a1) →
    ((a1 ≤ 1) →
      ((¬ a1 = 0) →
        K (D.1 1 4) D) ∧
      ((a1 = 0) →
        K (D.1 0 11) D)) ∧
    ((1 < a1) →
      T 2 D))
theorem v_tFault_0 {n d : Nat} {X : z_Xt} {a1 : Int}  {D : z_D}  {K : Int → z_D → Prop} {T : Nat → z_D → Prop}  (h : w_tFault_0 n d a1 D K T) : z_w n d (k_tb 41) X 0 [some (.ref 0), some (.int (z_i a1))] [] D (z_qI K T) := by
  unfold w_tFault_0 at h
  refine zs_iload rfl rfl ?_
  obtain ⟨g1, h⟩ := h
  obtain ⟨h6, h7⟩ := h
  refine zs_iflt rfl g1 (fun c => ?_) (fun c => ?_)
  · have h := h6 c
    exact zs_throw rfl h
  · have h := h7 c
    refine zs_iload rfl rfl ?_
    refine zs_pushI (1) rfl rfl ?_
    obtain ⟨h4, h5⟩ := h
    refine zs_cle rfl g1 (z_rk rfl) (fun c => ?_) (fun c => ?_)
    · have h := h4 c
      refine zs_iload rfl rfl ?_
      obtain ⟨h2, h3⟩ := h
      refine zs_ifne rfl g1 (fun c => ?_) (fun c => ?_)
      · have h := h2 c
        refine zs_aload rfl rfl ?_
        refine zs_getR (x := 1) rfl rfl rfl ?_
        refine zs_getI rfl rfl ?_
        exact zs_iret rfl h
      · have h := h3 c
        refine zs_aload rfl rfl ?_
        refine zs_getI rfl rfl ?_
        refine zs_goto rfl ?_
        exact zs_iret rfl h
    · have h := h5 c
      exact zs_throw rfl h
theorem r_tFault {n d : Nat} {a1 : Int} {D : z_D} {K : Int → z_D → Prop} {T : Nat → z_D → Prop}  (h : w_tFault_0 n d a1 D K T) : z_c n (d + 1) 41 [.ref 0, .int (z_i a1)] D (z_qI K T) :=
  z_enter (Nat.le_of_ble_eq_true rfl) rfl (fun X => v_tFault_0 h)
-- 42: TokenMouth.out(I)I
def w_tOut_0 (n d : Nat) (a1 : Int) (D : z_D)  (K : Int → z_D → Prop) (T : Nat → z_D → Prop) : Prop :=
  z_c n d 25 [.ref 17, .int (z_i a1)] D (z_qI (fun v2 D1 => 
    (z_r v2) ∧
    ((¬ v2 = (-1)) →
      K v2 D1) ∧
    ((v2 = (-1)) →
      T 2 D1)) T)
theorem v_tOut_0 {n d : Nat} {X : z_Xt} {a1 : Int}  {D : z_D}  {K : Int → z_D → Prop} {T : Nat → z_D → Prop}  (h : w_tOut_0 n d a1 D K T) : z_w n d (k_tb 42) X 0 [some (.ref 0), some (.int (z_i a1)), none] [] D (z_qI K T) := by
  unfold w_tOut_0 at h
  refine zs_aload rfl rfl ?_
  refine zs_getR (x := 17) rfl rfl rfl ?_
  refine zs_iload rfl rfl ?_
  refine z_callV (k := 17) (as0 := [.int (z_i a1)]) (r := []) rfl rfl rfl (Nat.le_of_ble_eq_true rfl) (z_oI h (fun v2 D1 h => ?_) (fun _ _ h => h))
  refine zs_istore (ls1 := [some (.ref 0), some (.int (z_i a1)), some (.int (z_i v2))]) rfl rfl rfl ?_
  refine zs_iload rfl rfl ?_
  refine zs_pushI (-1) rfl rfl ?_
  obtain ⟨g3, h⟩ := h
  obtain ⟨h4, h5⟩ := h
  refine zs_cne rfl g3 (z_rk rfl) (fun c => ?_) (fun c => ?_)
  · have h := h4 c
    refine zs_iload rfl rfl ?_
    exact zs_iret rfl h
  · have h := h5 c
    exact zs_throw rfl h
theorem r_tOut {n d : Nat} {a1 : Int} {D : z_D} {K : Int → z_D → Prop} {T : Nat → z_D → Prop}  (h : w_tOut_0 n d a1 D K T) : z_c n (d + 1) 42 [.ref 0, .int (z_i a1)] D (z_qI K T) :=
  z_enter (Nat.le_of_ble_eq_true rfl) rfl (fun X => v_tOut_0 h)
-- 43: TokenMouth.count(I)I
def w_tCount_0 (n d : Nat) (a1 : Int) (D : z_D)  (K : Int → z_D → Prop) (T : Nat → z_D → Prop) : Prop :=
  (z_r a1) ∧
  (a1 = 0 →
    z_c n d 24 [.ref 17] D (z_qI (fun v3 D2 => 
      K v3 D2) T)) ∧
  (a1 = 1 →
    K (D.1 0 10) D) ∧
  (a1 = 2 →
    z_c n d 24 [.ref 9] D (z_qI (fun v7 D6 => 
      K v7 D6) T)) ∧
  (a1 = 3 →
    z_c n d 24 [.ref 19] D (z_qI (fun v10 D9 => 
      K v10 D9) T)) ∧
  (a1 = 4 →
    K (D.1 0 9) D) ∧
  (¬ a1 = 0 → ¬ a1 = 1 → ¬ a1 = 2 → ¬ a1 = 3 → ¬ a1 = 4 →
    T 2 D)
theorem v_tCount_0 {n d : Nat} {X : z_Xt} {a1 : Int}  {D : z_D}  {K : Int → z_D → Prop} {T : Nat → z_D → Prop}  (h : w_tCount_0 n d a1 D K T) : z_w n d (k_tb 43) X 0 [some (.ref 0), some (.int (z_i a1))] [] D (z_qI K T) := by
  unfold w_tCount_0 at h
  refine zs_iload rfl rfl ?_
  obtain ⟨g1, h⟩ := h
  obtain ⟨h4, h5, h8, h11, h12, h13⟩ := h
  refine zw_s rfl rfl ?_
  refine z_sw1 g1 (z_rk (z := 0) rfl) rfl (fun c => ?_) (fun e14 => ?_)
  · have h := h4 c
    refine zs_aload rfl rfl ?_
    refine zs_getR (x := 17) rfl rfl rfl ?_
    refine z_callV (k := 17) (as0 := []) (r := []) rfl rfl rfl (Nat.le_of_ble_eq_true rfl) (z_oI h (fun v3 D2 h => ?_) (fun _ _ h => h))
    exact zs_iret rfl h
  refine z_sw1 g1 (z_rk (z := 1) rfl) rfl (fun c => ?_) (fun e15 => ?_)
  · have h := h5 c
    refine zs_aload rfl rfl ?_
    refine zs_getI rfl rfl ?_
    exact zs_iret rfl h
  refine z_sw1 g1 (z_rk (z := 2) rfl) rfl (fun c => ?_) (fun e16 => ?_)
  · have h := h8 c
    refine zs_aload rfl rfl ?_
    refine zs_getR (x := 8) rfl rfl rfl ?_
    refine zs_getR (x := 9) rfl rfl rfl ?_
    refine z_callV (k := 9) (as0 := []) (r := []) rfl rfl rfl (Nat.le_of_ble_eq_true rfl) (z_oI h (fun v7 D6 h => ?_) (fun _ _ h => h))
    exact zs_iret rfl h
  refine z_sw1 g1 (z_rk (z := 3) rfl) rfl (fun c => ?_) (fun e17 => ?_)
  · have h := h11 c
    refine zs_aload rfl rfl ?_
    refine zs_getR (x := 19) rfl rfl rfl ?_
    refine z_callV (k := 19) (as0 := []) (r := []) rfl rfl rfl (Nat.le_of_ble_eq_true rfl) (z_oI h (fun v10 D9 h => ?_) (fun _ _ h => h))
    exact zs_iret rfl h
  refine z_sw1 g1 (z_rk (z := 4) rfl) rfl (fun c => ?_) (fun e18 => ?_)
  · have h := h12 c
    refine zs_aload rfl rfl ?_
    refine zs_getI rfl rfl ?_
    exact zs_iret rfl h
  refine z_sw0 ?_
  have h := h13 e14 e15 e16 e17 e18
  exact zs_throw rfl h
theorem r_tCount {n d : Nat} {a1 : Int} {D : z_D} {K : Int → z_D → Prop} {T : Nat → z_D → Prop}  (h : w_tCount_0 n d a1 D K T) : z_c n (d + 1) 43 [.ref 0, .int (z_i a1)] D (z_qI K T) :=
  z_enter (Nat.le_of_ble_eq_true rfl) rfl (fun X => v_tCount_0 h)
-- 44: TokenMouth.category(I)I
def w_tCategory_0 (n d : Nat) (a1 : Int) (D : z_D)  (K : Int → z_D → Prop) (T : Nat → z_D → Prop) : Prop :=
  z_c n d 49 [.int (z_i a1)] D (z_qZ (fun v2 D1 => 
    ((v2 = true) →
      z_c n d 18 [.ref 1, .int (z_i a1)] D1 (z_qI (fun v4 D3 => 
        K v4 D3) T)) ∧
    ((v2 = false) →
      T 2 D1)) T)
theorem v_tCategory_0 {n d : Nat} {X : z_Xt} {a1 : Int}  {D : z_D}  {K : Int → z_D → Prop} {T : Nat → z_D → Prop}  (h : w_tCategory_0 n d a1 D K T) : z_w n d (k_tb 44) X 0 [some (.ref 0), some (.int (z_i a1))] [] D (z_qI K T) := by
  unfold w_tCategory_0 at h
  refine zs_iload rfl rfl ?_
  refine z_callS (as0 := [.int (z_i a1)]) (r := []) rfl rfl (Nat.le_of_ble_eq_true rfl) (z_oZ h (fun v2 D1 h => ?_) (fun _ _ h => h))
  obtain ⟨h5, h6⟩ := h
  refine zs_bne rfl (fun c => ?_) (fun c => ?_)
  · have h := h5 c
    refine zs_aload rfl rfl ?_
    refine zs_getR (x := 1) rfl rfl rfl ?_
    refine zs_iload rfl rfl ?_
    refine z_callV (k := 1) (as0 := [.int (z_i a1)]) (r := []) rfl rfl rfl (Nat.le_of_ble_eq_true rfl) (z_oI h (fun v4 D3 h => ?_) (fun _ _ h => h))
    exact zs_iret rfl h
  · have h := h6 c
    exact zs_throw rfl h
theorem r_tCategory {n d : Nat} {a1 : Int} {D : z_D} {K : Int → z_D → Prop} {T : Nat → z_D → Prop}  (h : w_tCategory_0 n d a1 D K T) : z_c n (d + 1) 44 [.ref 0, .int (z_i a1)] D (z_qI K T) :=
  z_enter (Nat.le_of_ble_eq_true rfl) rfl (fun X => v_tCategory_0 h)
-- 45: TokenMouth.meaning(JZ)I
def w_tMeaning_0 (n d : Nat) (a1 : Int64) (b3 : Bool) (D : z_D)  (K : Int → z_D → Prop) (T : Nat → z_D → Prop) : Prop :=
  z_c n d 51 [.ref 0, .long a1, .int (z_i (z_b b3))] D (z_qI (fun v2 D1 => 
    (z_r v2) ∧
    ((¬ v2 = 0) →
      ((18 < v2) →
        ((4096 ≤ v2) →
          K 3 D1) ∧
        ((v2 < 4096) →
          K 2 D1)) ∧
      ((v2 ≤ 18) →
        K 1 D1)) ∧
    ((v2 = 0) →
      K 0 D1)) T)
theorem v_tMeaning_0 {n d : Nat} {X : z_Xt} {a1 : Int64} {b3 : Bool}  {D : z_D}  {K : Int → z_D → Prop} {T : Nat → z_D → Prop}  (h : w_tMeaning_0 n d a1 b3 D K T) : z_w n d (k_tb 45) X 0 [some (.ref 0), some (.long a1), none, some (.int (z_i (z_b b3))), none] [] D (z_qI K T) := by
  unfold w_tMeaning_0 at h
  refine zs_aload rfl rfl ?_
  refine zs_lload rfl rfl ?_
  refine zs_iload rfl rfl ?_
  refine z_callV (k := 0) (as0 := [.long a1, .int (z_i (z_b b3))]) (r := []) rfl rfl rfl (Nat.le_of_ble_eq_true rfl) (z_oI h (fun v2 D1 h => ?_) (fun _ _ h => h))
  refine zs_istore (ls1 := [some (.ref 0), some (.long a1), none, some (.int (z_i (z_b b3))), some (.int (z_i v2))]) rfl rfl rfl ?_
  refine zs_iload rfl rfl ?_
  obtain ⟨g3, h⟩ := h
  obtain ⟨h8, h9⟩ := h
  refine zs_ifne rfl g3 (fun c => ?_) (fun c => ?_)
  · have h := h8 c
    refine zs_iload rfl rfl ?_
    refine zs_pushI (18) rfl rfl ?_
    obtain ⟨h6, h7⟩ := h
    refine zs_cgt rfl g3 (z_rk rfl) (fun c => ?_) (fun c => ?_)
    · have h := h6 c
      refine zs_iload rfl rfl ?_
      refine zs_pushI (4096) rfl rfl ?_
      obtain ⟨h4, h5⟩ := h
      refine zs_cge rfl g3 (z_rk rfl) (fun c => ?_) (fun c => ?_)
      · have h := h4 c
        refine zs_pushI (3) rfl rfl ?_
        exact zs_iret rfl h
      · have h := h5 c
        refine zs_pushI (2) rfl rfl ?_
        refine zs_goto rfl ?_
        exact zs_iret rfl h
    · have h := h7 c
      refine zs_pushI (1) rfl rfl ?_
      exact zs_iret rfl h
  · have h := h9 c
    refine zs_pushI (0) rfl rfl ?_
    exact zs_iret rfl h
theorem r_tMeaning {n d : Nat} {a1 : Int64} {b3 : Bool} {D : z_D} {K : Int → z_D → Prop} {T : Nat → z_D → Prop}  (h : w_tMeaning_0 n d a1 b3 D K T) : z_c n (d + 1) 45 [.ref 0, .long a1, .int (z_i (z_b b3))] D (z_qI K T) :=
  z_enter (Nat.le_of_ble_eq_true rfl) rfl (fun X => v_tMeaning_0 h)
-- 46: TokenMouth.detail(JZI)I
def w_tDetail_56 (n d : Nat) (a1 : Int64) (a4 : Int) (a6 : Nat) (D : z_D)  (K : Int → z_D → Prop) (T : Nat → z_D → Prop) : Prop :=
  (z_r a4) ∧
  ((¬ a4 = 1) →
    (z_mc a6) ∧
    z_c n d 24 [.ref (a6 + 3)] D (z_qI (fun v4 D3 => 
      K v4 D3) T)) ∧
  ((a4 = 1) →
    (z_mc a6) ∧
    z_c n d 24 [.ref (a6 + 1)] D (z_qI (fun v7 D6 => 
      K v7 D6) T))
theorem v_tDetail_56 {n d : Nat} {X : z_Xt} {a1 : Int64} {a4 : Int} {a6 : Nat} {o3 : Option Value} {o5 : Option Value} {D : z_D}  {K : Int → z_D → Prop} {T : Nat → z_D → Prop} (n3 : z_nl o3) (n5 : z_nl o5) (h : w_tDetail_56 n d a1 a4 a6 D K T) : z_w n d (k_tb 46) X 56 [some (.ref 0), some (.long a1), none, o3, some (.int (z_i a4)), o5, some (.ref a6), none] [] D (z_qI K T) := by
  unfold w_tDetail_56 at h
  refine zs_aload rfl rfl ?_
  refine zs_nonnullR rfl ?_
  refine zs_iload rfl rfl ?_
  refine zs_pushI (1) rfl rfl ?_
  obtain ⟨g1, h⟩ := h
  obtain ⟨h8, h9⟩ := h
  refine zs_cne rfl g1 (z_rk rfl) (fun c => ?_) (fun c => ?_)
  · have h := h8 c
    refine zs_aload rfl rfl ?_
    obtain ⟨g2, h⟩ := h
    refine zs_getR rfl (z_sh_m0 g2) (z_R_mb g2) ?_
    refine z_callV (k := (a6 + 3)) (as0 := []) (r := []) rfl rfl (z_row_mb g2).1 (Nat.le_of_ble_eq_true rfl) (z_oI h (fun v4 D3 h => ?_) (fun _ _ h => h))
    exact zs_iret rfl h
  · have h := h9 c
    refine zs_aload rfl rfl ?_
    obtain ⟨g5, h⟩ := h
    refine zs_getR rfl (z_sh_m0 g5) (z_R_mt g5) ?_
    refine z_callV (k := (a6 + 1)) (as0 := []) (r := []) rfl rfl (z_row_mt g5).1 (Nat.le_of_ble_eq_true rfl) (z_oI h (fun v7 D6 h => ?_) (fun _ _ h => h))
    refine zs_goto rfl ?_
    exact zs_iret rfl h
def w_tDetail_0 (n d : Nat) (a1 : Int64) (b3 : Bool) (a4 : Int) (D : z_D)  (K : Int → z_D → Prop) (T : Nat → z_D → Prop) : Prop :=
  z_c n d 51 [.ref 0, .long a1, .int (z_i (z_b b3))] D (z_qI (fun v2 D1 => 
    z_c n d 58 [.ref 0, .int (z_i v2)] D1 (z_qR (fun D3 => 
      (z_r a4) ∧
      ((¬ a4 = 0) →
        ((a4 = 1) →
          K 0 D3) ∧
        ((¬ a4 = 1) →
          ((¬ a4 = 2) →
            K (-1) D3) ∧
          ((a4 = 2) →
            K 0 D3))) ∧
      ((a4 = 0) →
        (z_r v2) ∧
        ((¬ v2 = 0) →
          K v2 D3) ∧
        ((v2 = 0) →
          K (-1) D3))) (fun m4 D3 => 
      (z_r a4) ∧
      ((¬ a4 = 0) →
        ((a4 = 1) →
          w_tDetail_56 n d a1 a4 m4 D3 K T) ∧
        ((¬ a4 = 1) →
          ((¬ a4 = 2) →
            ((0 ≤ a4) →
              (z_mc m4) ∧
              z_c n d 25 [.ref (m4 + 3), .int (z_i (a4 - 3))] D3 (z_qI (fun v18 D17 => 
                (z_r v18) ∧
                ((v18 < 8192) →
                  ((v18 < 4096) →
                    K v18 D17) ∧
                  ((4096 ≤ v18) →
                    K 4096 D17)) ∧
                ((8192 ≤ v18) →
                  K (4096 + (v18 - 8192)) D17)) T)) ∧
            ((a4 < 0) →
              K (-1) D3)) ∧
          ((a4 = 2) →
            w_tDetail_56 n d a1 a4 m4 D3 K T))) ∧
      ((a4 = 0) →
        (z_mc m4) ∧
        K (D3.1 m4 2) D3)) T)) T)
theorem v_tDetail_0 {n d : Nat} {X : z_Xt} {a1 : Int64} {b3 : Bool} {a4 : Int}  {D : z_D}  {K : Int → z_D → Prop} {T : Nat → z_D → Prop}  (h : w_tDetail_0 n d a1 b3 a4 D K T) : z_w n d (k_tb 46) X 0 [some (.ref 0), some (.long a1), none, some (.int (z_i (z_b b3))), some (.int (z_i a4)), none, none, none] [] D (z_qI K T) := by
  unfold w_tDetail_0 at h
  refine zs_aload rfl rfl ?_
  refine zs_lload rfl rfl ?_
  refine zs_iload rfl rfl ?_
  refine z_callV (k := 0) (as0 := [.long a1, .int (z_i (z_b b3))]) (r := []) rfl rfl rfl (Nat.le_of_ble_eq_true rfl) (z_oI h (fun v2 D1 h => ?_) (fun _ _ h => h))
  refine zs_istore (ls1 := [some (.ref 0), some (.long a1), none, some (.int (z_i (z_b b3))), some (.int (z_i a4)), some (.int (z_i v2)), none, none]) rfl rfl rfl ?_
  refine zs_aload rfl rfl ?_
  refine zs_iload rfl rfl ?_
  refine z_callV (k := 0) (as0 := [.int (z_i v2)]) (r := []) rfl rfl rfl (Nat.le_of_ble_eq_true rfl) (z_oR h (fun D3 h => ?_) (fun m4 D3 h => ?_) (fun _ _ h => h))
  · refine zs_astoreN (ls1 := [some (.ref 0), some (.long a1), none, some (.int (z_i (z_b b3))), some (.int (z_i a4)), some (.int (z_i v2)), some (.null), none]) rfl rfl rfl ?_
    refine zs_iload rfl rfl ?_
    obtain ⟨g5, h⟩ := h
    obtain ⟨h13, h14⟩ := h
    refine zs_ifne rfl g5 (fun c => ?_) (fun c => ?_)
    · have h := h13 c
      refine zs_iload rfl rfl ?_
      refine zs_pushI (1) rfl rfl ?_
      obtain ⟨h8, h9⟩ := h
      refine zs_ceq rfl g5 (z_rk rfl) (fun c => ?_) (fun c => ?_)
      · have h := h8 c
        refine zs_aloadN rfl rfl ?_
        refine zs_nonnullN rfl ?_
        refine zs_pushI (0) rfl rfl ?_
        exact zs_iret rfl h
      · have h := h9 c
        refine zs_iload rfl rfl ?_
        refine zs_pushI (2) rfl rfl ?_
        obtain ⟨h6, h7⟩ := h
        refine zs_cne rfl g5 (z_rk rfl) (fun c => ?_) (fun c => ?_)
        · have h := h6 c
          refine zs_aloadN rfl rfl ?_
          refine zs_nullN rfl ?_
          refine zs_pushI (-1) rfl rfl ?_
          exact zs_iret rfl h
        · have h := h7 c
          refine zs_aloadN rfl rfl ?_
          refine zs_nonnullN rfl ?_
          refine zs_pushI (0) rfl rfl ?_
          exact zs_iret rfl h
    · have h := h14 c
      refine zs_aloadN rfl rfl ?_
      refine zs_nullN rfl ?_
      refine zs_iload rfl rfl ?_
      obtain ⟨g10, h⟩ := h
      obtain ⟨h11, h12⟩ := h
      refine zs_ifne rfl g10 (fun c => ?_) (fun c => ?_)
      · have h := h11 c
        refine zs_iload rfl rfl ?_
        exact zs_iret rfl h
      · have h := h12 c
        refine zs_pushI (-1) rfl rfl ?_
        refine zs_goto rfl ?_
        exact zs_iret rfl h
  · refine zs_astore (ls1 := [some (.ref 0), some (.long a1), none, some (.int (z_i (z_b b3))), some (.int (z_i a4)), some (.int (z_i v2)), some (.ref m4), none]) rfl rfl rfl ?_
    refine zs_iload rfl rfl ?_
    obtain ⟨g15, h⟩ := h
    obtain ⟨h31, h32⟩ := h
    refine zs_ifne rfl g15 (fun c => ?_) (fun c => ?_)
    · have h := h31 c
      refine zs_iload rfl rfl ?_
      refine zs_pushI (1) rfl rfl ?_
      obtain ⟨h28, h29⟩ := h
      refine zs_ceq rfl g15 (z_rk rfl) (fun c => ?_) (fun c => ?_)
      · have h := h28 c
        exact v_tDetail_56 (by first | assumption | exact trivial) (by first | assumption | exact trivial) h
      · have h := h29 c
        refine zs_iload rfl rfl ?_
        refine zs_pushI (2) rfl rfl ?_
        obtain ⟨h26, h27⟩ := h
        refine zs_cne rfl g15 (z_rk rfl) (fun c => ?_) (fun c => ?_)
        · have h := h26 c
          refine zs_aload rfl rfl ?_
          refine zs_nullR rfl ?_
          refine zs_iload rfl rfl ?_
          obtain ⟨h24, h25⟩ := h
          refine zs_ifge rfl g15 (fun c => ?_) (fun c => ?_)
          · have h := h24 c
            refine zs_aload rfl rfl ?_
            obtain ⟨g16, h⟩ := h
            refine zs_getR rfl (z_sh_m0 g16) (z_R_mb g16) ?_
            refine zs_iload rfl rfl ?_
            refine zs_pushI (3) rfl rfl ?_
            refine zs_sub (a := a4) (b := 3) rfl ?_
            refine z_callV (k := (m4 + 3)) (as0 := [.int (z_i (a4 - 3))]) (r := []) rfl rfl (z_row_mb g16).1 (Nat.le_of_ble_eq_true rfl) (z_oI h (fun v18 D17 h => ?_) (fun _ _ h => h))
            refine zs_istore (ls1 := [some (.ref 0), some (.long a1), none, some (.int (z_i (z_b b3))), some (.int (z_i a4)), some (.int (z_i v2)), some (.ref m4), some (.int (z_i v18))]) rfl rfl rfl ?_
            refine zs_iload rfl rfl ?_
            refine zs_pushI (8192) rfl rfl ?_
            obtain ⟨g19, h⟩ := h
            obtain ⟨h22, h23⟩ := h
            refine zs_clt rfl g19 (z_rk rfl) (fun c => ?_) (fun c => ?_)
            · have h := h22 c
              refine zs_iload rfl rfl ?_
              refine zs_pushI (4096) rfl rfl ?_
              obtain ⟨h20, h21⟩ := h
              refine zs_clt rfl g19 (z_rk rfl) (fun c => ?_) (fun c => ?_)
              · have h := h20 c
                refine zs_iload rfl rfl ?_
                exact zs_iret rfl h
              · have h := h21 c
                refine zs_pushI (4096) rfl rfl ?_
                refine zs_goto rfl ?_
                exact zs_iret rfl h
            · have h := h23 c
              refine zs_pushI (4096) rfl rfl ?_
              refine zs_iload rfl rfl ?_
              refine zs_pushI (8192) rfl rfl ?_
              refine zs_sub (a := v18) (b := 8192) rfl ?_
              refine zs_add (a := 4096) (b := (v18 - 8192)) rfl ?_
              exact zs_iret rfl h
          · have h := h25 c
            refine zs_pushI (-1) rfl rfl ?_
            exact zs_iret rfl h
        · have h := h27 c
          exact v_tDetail_56 (by first | assumption | exact trivial) (by first | assumption | exact trivial) h
    · have h := h32 c
      refine zs_aload rfl rfl ?_
      refine zs_nullR rfl ?_
      refine zs_aload rfl rfl ?_
      obtain ⟨g30, h⟩ := h
      refine zs_getI rfl (z_sh_m0 g30) ?_
      exact zs_iret rfl h
theorem r_tDetail {n d : Nat} {a1 : Int64} {b3 : Bool} {a4 : Int} {D : z_D} {K : Int → z_D → Prop} {T : Nat → z_D → Prop}  (h : w_tDetail_0 n d a1 b3 a4 D K T) : z_c n (d + 1) 46 [.ref 0, .long a1, .int (z_i (z_b b3)), .int (z_i a4)] D (z_qI K T) :=
  z_enter (Nat.le_of_ble_eq_true rfl) rfl (fun X => v_tDetail_0 h)
-- 47: TokenMouth.startAnew()V
def w_tStartAnew_0 (n d : Nat)  (D : z_D)  (K : z_D → Prop) (T : Nat → z_D → Prop) : Prop :=
  z_c n d 17 [.ref 1] D (z_qV (fun D1 => 
    z_c n d 8 [.ref 4] D1 (z_qV (fun D2 => 
      z_c n d 1 [.ref 8] D2 (z_qV (fun D3 => 
        z_c n d 30 [.ref 15, .int (z_i 0)] D3 (z_qV (fun D4 => 
          z_c n d 30 [.ref 17, .int (z_i 0)] D4 (z_qV (fun D5 => 
            z_c n d 30 [.ref 19, .int (z_i 0)] D5 (z_qV (fun D6 => 
              ∀ D7, D7 = z_uz D6 0 9 0 →
              ∀ D8, D8 = z_uz D7 0 10 0 →
              ∀ D9, D9 = z_uz D8 0 11 0 →
              K D9) T)) T)) T)) T)) T)) T)
theorem v_tStartAnew_0 {n d : Nat} {X : z_Xt}   {D : z_D}  {K : z_D → Prop} {T : Nat → z_D → Prop}  (h : w_tStartAnew_0 n d D K T) : z_w n d (k_tb 47) X 0 [some (.ref 0)] [] D (z_qV K T) := by
  unfold w_tStartAnew_0 at h
  refine zs_aload rfl rfl ?_
  refine zs_getR (x := 1) rfl rfl rfl ?_
  refine z_callV (k := 1) (as0 := []) (r := []) rfl rfl rfl (Nat.le_of_ble_eq_true rfl) (z_oV h (fun D1 h => ?_) (fun _ _ h => h))
  refine zs_aload rfl rfl ?_
  refine zs_getR (x := 4) rfl rfl rfl ?_
  refine z_callV (k := 4) (as0 := []) (r := []) rfl rfl rfl (Nat.le_of_ble_eq_true rfl) (z_oV h (fun D2 h => ?_) (fun _ _ h => h))
  refine zs_aload rfl rfl ?_
  refine zs_getR (x := 8) rfl rfl rfl ?_
  refine z_callV (k := 8) (as0 := []) (r := []) rfl rfl rfl (Nat.le_of_ble_eq_true rfl) (z_oV h (fun D3 h => ?_) (fun _ _ h => h))
  refine zs_aload rfl rfl ?_
  refine zs_getR (x := 15) rfl rfl rfl ?_
  refine zs_pushI (0) rfl rfl ?_
  refine z_callV (k := 15) (as0 := [.int (z_i 0)]) (r := []) rfl rfl rfl (Nat.le_of_ble_eq_true rfl) (z_oV h (fun D4 h => ?_) (fun _ _ h => h))
  refine zs_aload rfl rfl ?_
  refine zs_getR (x := 17) rfl rfl rfl ?_
  refine zs_pushI (0) rfl rfl ?_
  refine z_callV (k := 17) (as0 := [.int (z_i 0)]) (r := []) rfl rfl rfl (Nat.le_of_ble_eq_true rfl) (z_oV h (fun D5 h => ?_) (fun _ _ h => h))
  refine zs_aload rfl rfl ?_
  refine zs_getR (x := 19) rfl rfl rfl ?_
  refine zs_pushI (0) rfl rfl ?_
  refine z_callV (k := 19) (as0 := [.int (z_i 0)]) (r := []) rfl rfl rfl (Nat.le_of_ble_eq_true rfl) (z_oV h (fun D6 h => ?_) (fun _ _ h => h))
  refine zs_aload rfl rfl ?_
  refine zs_pushI (0) rfl rfl ?_
  refine zs_putI rfl rfl (fun D7 eD7 => ?_)
  have h := h D7 eD7
  refine zs_aload rfl rfl ?_
  refine zs_pushI (0) rfl rfl ?_
  refine zs_putI rfl rfl (fun D8 eD8 => ?_)
  have h := h D8 eD8
  refine zs_aload rfl rfl ?_
  refine zs_pushI (0) rfl rfl ?_
  refine zs_putI rfl rfl (fun D9 eD9 => ?_)
  have h := h D9 eD9
  exact zs_ret rfl h
theorem r_tStartAnew {n d : Nat}  {D : z_D} {K : z_D → Prop} {T : Nat → z_D → Prop}  (h : w_tStartAnew_0 n d D K T) : z_c n (d + 1) 47 [.ref 0] D (z_qV K T) :=
  z_enter (Nat.le_of_ble_eq_true rfl) rfl (fun X => v_tStartAnew_0 h)
-- 48: TokenMouth.fail(I)I
def w_tFail_0 (n d : Nat) (a1 : Int) (D : z_D)  (K : Int → z_D → Prop) (T : Nat → z_D → Prop) : Prop :=
  ∀ D1, D1 = z_uz D 0 11 a1 →
  T 1 D1
theorem v_tFail_0 {n d : Nat} {X : z_Xt} {a1 : Int}  {D : z_D}  {K : Int → z_D → Prop} {T : Nat → z_D → Prop}  (h : w_tFail_0 n d a1 D K T) : z_w n d (k_tb 48) X 0 [some (.ref 0), some (.int (z_i a1))] [] D (z_qI K T) := by
  unfold w_tFail_0 at h
  refine zs_aload rfl rfl ?_
  refine zs_iload rfl rfl ?_
  refine zs_putI rfl rfl (fun D1 eD1 => ?_)
  have h := h D1 eD1
  exact zs_throw rfl h
theorem r_tFail {n d : Nat} {a1 : Int} {D : z_D} {K : Int → z_D → Prop} {T : Nat → z_D → Prop}  (h : w_tFail_0 n d a1 D K T) : z_c n (d + 1) 48 [.ref 0, .int (z_i a1)] D (z_qI K T) :=
  z_enter (Nat.le_of_ble_eq_true rfl) rfl (fun X => v_tFail_0 h)
-- 49: TokenMouth.isOfText(I)Z
def w_tIsOfText_0 (n d : Nat) (a0 : Int) (D : z_D)  (K : Bool → z_D → Prop) (T : Nat → z_D → Prop) : Prop :=
  (z_r a0) ∧
  ((a0 = 10) →
    K true D) ∧
  ((¬ a0 = 10) →
    ((a0 < 32) →
      K false D) ∧
    ((32 ≤ a0) →
      ((126 < a0) →
        K false D) ∧
      ((a0 ≤ 126) →
        K true D)))
theorem v_tIsOfText_0 {n d : Nat} {X : z_Xt} {a0 : Int}  {D : z_D}  {K : Bool → z_D → Prop} {T : Nat → z_D → Prop}  (h : w_tIsOfText_0 n d a0 D K T) : z_w n d (k_tb 49) X 0 [some (.int (z_i a0))] [] D (z_qZ K T) := by
  unfold w_tIsOfText_0 at h
  refine zs_iload rfl rfl ?_
  refine zs_pushI (10) rfl rfl ?_
  obtain ⟨g1, h⟩ := h
  obtain ⟨h6, h7⟩ := h
  refine zs_ceq rfl g1 (z_rk rfl) (fun c => ?_) (fun c => ?_)
  · have h := h6 c
    refine zs_pushI (1) rfl rfl ?_
    refine zs_goto rfl ?_
    exact zs_zret (b := true) rfl h
  · have h := h7 c
    refine zs_iload rfl rfl ?_
    refine zs_pushI (32) rfl rfl ?_
    obtain ⟨h4, h5⟩ := h
    refine zs_clt rfl g1 (z_rk rfl) (fun c => ?_) (fun c => ?_)
    · have h := h4 c
      refine zs_pushI (0) rfl rfl ?_
      exact zs_zret (b := false) rfl h
    · have h := h5 c
      refine zs_iload rfl rfl ?_
      refine zs_pushI (126) rfl rfl ?_
      obtain ⟨h2, h3⟩ := h
      refine zs_cgt rfl g1 (z_rk rfl) (fun c => ?_) (fun c => ?_)
      · have h := h2 c
        refine zs_pushI (0) rfl rfl ?_
        exact zs_zret (b := false) rfl h
      · have h := h3 c
        refine zs_pushI (1) rfl rfl ?_
        refine zs_goto rfl ?_
        exact zs_zret (b := true) rfl h
theorem r_tIsOfText {n d : Nat} {a0 : Int} {D : z_D} {K : Bool → z_D → Prop} {T : Nat → z_D → Prop}  (h : w_tIsOfText_0 n d a0 D K T) : z_c n (d + 1) 49 [.int (z_i a0)] D (z_qZ K T) :=
  z_enter (Nat.le_of_ble_eq_true rfl) rfl (fun X => v_tIsOfText_0 h)
-- 50: TokenMouth.charactersOf(J)I
def w_tCharactersOf_0 (n d : Nat) (a0 : Int64) (D : z_D) (H5 : Int64 → Int → Int → z_D → Prop) (K : Int → z_D → Prop) (T : Nat → z_D → Prop) : Prop :=
  H5 a0 0 56 D
theorem v_tCharactersOf_0 {n d : Nat} {X : z_Xt} {a0 : Int64}  {D : z_D} {H5 : Int64 → Int → Int → z_D → Prop} {K : Int → z_D → Prop} {T : Nat → z_D → Prop} (hH5 : ∀ (a0 : Int64) (a2 : Int) (a3 : Int) (o4 : Option Value) (D : z_D), z_nl o4 → H5 a0 a2 a3 D → z_w n d (k_tb 50) X 5 [some (.long a0), none, some (.int (z_i a2)), some (.int (z_i a3)), o4] [] D (z_qI K T)) (h : w_tCharactersOf_0 n d a0 D H5 K T) : z_w n d (k_tb 50) X 0 [some (.long a0), none, none, none, none] [] D (z_qI K T) := by
  unfold w_tCharactersOf_0 at h
  refine zs_pushI (0) rfl rfl ?_
  refine zs_istore (ls1 := [some (.long a0), none, some (.int (z_i 0)), none, none]) rfl rfl rfl ?_
  refine zs_pushI (56) rfl rfl ?_
  refine zs_istore (ls1 := [some (.long a0), none, some (.int (z_i 0)), some (.int (z_i 56)), none]) rfl rfl rfl ?_
  exact hH5 _ _ _ _ _ (by first | assumption | exact trivial) h
def w_tCharactersOf_34 (n d : Nat) (a0 : Int64) (a2 : Int) (a3 : Int) (a4 : Int) (D : z_D) (H5 : Int64 → Int → Int → z_D → Prop) (K : Int → z_D → Prop) (T : Nat → z_D → Prop) : Prop :=
  (z_r a4) ∧
  ((a4 = 0) →
    H5 a0 a2 (a3 + (-8)) D) ∧
  ((¬ a4 = 0) →
    H5 a0 (a2 + 1) (a3 + (-8)) D)
theorem v_tCharactersOf_34 {n d : Nat} {X : z_Xt} {a0 : Int64} {a2 : Int} {a3 : Int} {a4 : Int}  {D : z_D} {H5 : Int64 → Int → Int → z_D → Prop} {K : Int → z_D → Prop} {T : Nat → z_D → Prop} (hH5 : ∀ (a0 : Int64) (a2 : Int) (a3 : Int) (o4 : Option Value) (D : z_D), z_nl o4 → H5 a0 a2 a3 D → z_w n d (k_tb 50) X 5 [some (.long a0), none, some (.int (z_i a2)), some (.int (z_i a3)), o4] [] D (z_qI K T)) (h : w_tCharactersOf_34 n d a0 a2 a3 a4 D H5 K T) : z_w n d (k_tb 50) X 34 [some (.long a0), none, some (.int (z_i a2)), some (.int (z_i a3)), some (.int (z_i a4))] [] D (z_qI K T) := by
  unfold w_tCharactersOf_34 at h
  refine zs_iload rfl rfl ?_
  obtain ⟨g1, h⟩ := h
  obtain ⟨h2, h3⟩ := h
  refine zs_ifeq rfl g1 (fun c => ?_) (fun c => ?_)
  · have h := h2 c
    refine zs_iinc (a := a3) (-8) (ls1 := [some (.long a0), none, some (.int (z_i a2)), some (.int (z_i (a3 + (-8)))), some (.int (z_i a4))]) rfl rfl rfl rfl ?_
    refine zs_goto rfl ?_
    exact hH5 _ _ _ _ _ (by first | assumption | exact trivial) h
  · have h := h3 c
    refine zs_iinc (a := a2) (1) (ls1 := [some (.long a0), none, some (.int (z_i (a2 + 1))), some (.int (z_i a3)), some (.int (z_i a4))]) rfl rfl rfl rfl ?_
    refine zs_iinc (a := a3) (-8) (ls1 := [some (.long a0), none, some (.int (z_i (a2 + 1))), some (.int (z_i (a3 + (-8)))), some (.int (z_i a4))]) rfl rfl rfl rfl ?_
    refine zs_goto rfl ?_
    exact hH5 _ _ _ _ _ (by first | assumption | exact trivial) h
def w_tCharactersOf_5 (n d : Nat) (a0 : Int64) (a2 : Int) (a3 : Int) (D : z_D) (H5 : Int64 → Int → Int → z_D → Prop) (K : Int → z_D → Prop) (T : Nat → z_D → Prop) : Prop :=
  (z_r a3) ∧
  ((a3 < 0) →
    K a2 D) ∧
  ((0 ≤ a3) →
    (((z_and (z_li (z_usr a0 a3)) 255) = 0) →
      w_tCharactersOf_34 n d a0 a2 a3 (z_and (z_li (z_usr a0 a3)) 255) D H5 K T) ∧
    ((¬ (z_and (z_li (z_usr a0 a3)) 255) = 0) →
      z_c n d 49 [.int (z_i (z_and (z_li (z_usr a0 a3)) 255))] D (z_qZ (fun v3 D2 => 
        ((v3 = true) →
          w_tCharactersOf_34 n d a0 a2 a3 (z_and (z_li (z_usr a0 a3)) 255) D2 H5 K T) ∧
        ((v3 = false) →
          K (-1) D2)) T)))
theorem v_tCharactersOf_5 {n d : Nat} {X : z_Xt} {a0 : Int64} {a2 : Int} {a3 : Int} {o4 : Option Value} {D : z_D} {H5 : Int64 → Int → Int → z_D → Prop} {K : Int → z_D → Prop} {T : Nat → z_D → Prop} (hH5 : ∀ (a0 : Int64) (a2 : Int) (a3 : Int) (o4 : Option Value) (D : z_D), z_nl o4 → H5 a0 a2 a3 D → z_w n d (k_tb 50) X 5 [some (.long a0), none, some (.int (z_i a2)), some (.int (z_i a3)), o4] [] D (z_qI K T)) (n4 : z_nl o4) (h : w_tCharactersOf_5 n d a0 a2 a3 D H5 K T) : z_w n d (k_tb 50) X 5 [some (.long a0), none, some (.int (z_i a2)), some (.int (z_i a3)), o4] [] D (z_qI K T) := by
  unfold w_tCharactersOf_5 at h
  refine zs_iload rfl rfl ?_
  obtain ⟨g1, h⟩ := h
  obtain ⟨h8, h9⟩ := h
  refine zs_iflt rfl g1 (fun c => ?_) (fun c => ?_)
  · have h := h8 c
    refine zs_iload rfl rfl ?_
    exact zs_iret rfl h
  · have h := h9 c
    refine zs_lload rfl rfl ?_
    refine zs_iload rfl rfl ?_
    refine zs_li (b := a3) rfl ?_
    refine zs_l2 rfl ?_
    refine zs_pushI (255) rfl rfl ?_
    refine zs_and (a := (z_li (z_usr a0 a3))) (b := 255) rfl ?_
    refine zs_istore (ls1 := [some (.long a0), none, some (.int (z_i a2)), some (.int (z_i a3)), some (.int (z_i (z_and (z_li (z_usr a0 a3)) 255)))]) rfl rfl rfl ?_
    refine zs_iload rfl rfl ?_
    obtain ⟨h6, h7⟩ := h
    refine zs_ifeq rfl (z_r_toInt _) (fun c => ?_) (fun c => ?_)
    · have h := h6 c
      exact v_tCharactersOf_34 hH5 h
    · have h := h7 c
      refine zs_iload rfl rfl ?_
      refine z_callS (as0 := [.int (z_i (z_and (z_li (z_usr a0 a3)) 255))]) (r := []) rfl rfl (Nat.le_of_ble_eq_true rfl) (z_oZ h (fun v3 D2 h => ?_) (fun _ _ h => h))
      obtain ⟨h4, h5⟩ := h
      refine zs_bne rfl (fun c => ?_) (fun c => ?_)
      · have h := h4 c
        exact v_tCharactersOf_34 hH5 h
      · have h := h5 c
        refine zs_pushI (-1) rfl rfl ?_
        exact zs_iret rfl h
theorem r_tCharactersOf {n d : Nat} {a0 : Int64} {D : z_D} {K : Int → z_D → Prop} {T : Nat → z_D → Prop}  (I5 : Nat → Int64 → Int → Int → z_D → Prop) (hE : w_tCharactersOf_0 n d a0 D (fun a0 a2 a3 D => ∃ m, I5 m a0 a2 a3 D) K T) (h5 : ∀ (mm : Nat) (a0 : Int64) (a2 : Int) (a3 : Int) (D : z_D), I5 mm a0 a2 a3 D → w_tCharactersOf_5 n d a0 a2 a3 D (fun a0 a2 a3 D => ∃ m, m < mm ∧ I5 m a0 a2 a3 D) K T) : z_c n (d + 1) 50 [.long a0] D (z_qI K T) := by
  refine z_enter (Nat.le_of_ble_eq_true rfl) rfl (fun X => ?_)
  have key : ∀ m, (∀ (a0 : Int64) (a2 : Int) (a3 : Int) (o4 : Option Value) (D : z_D), z_nl o4 → I5 m a0 a2 a3 D → z_w n d (k_tb 50) X 5 [some (.long a0), none, some (.int (z_i a2)), some (.int (z_i a3)), o4] [] D (z_qI K T)) := by
    intro m
    induction m using Nat.strongRecOn with
    | _ mm ih =>
      exact fun a0 a2 a3 o4 D n4 hI => v_tCharactersOf_5 (fun a0 a2 a3 o4 D n4 ⟨m, hm, hI⟩ => (ih m hm) _ _ _ _ _ n4 hI) n4 (h5 mm a0 a2 a3 D hI)
  exact v_tCharactersOf_0 (fun a0 a2 a3 o4 D n4 ⟨m, hI⟩ => (key m) _ _ _ _ _ n4 hI) hE
-- 51: TokenMouth.meaningOfTyped(JZ)I
def w_tMeaningOfTyped_0 (n d : Nat) (a1 : Int64) (b3 : Bool) (D : z_D) (H39 : Int64 → Bool → Int64 → Int → z_D → Prop) (K : Int → z_D → Prop) (T : Nat → z_D → Prop) : Prop :=
  z_c n d 50 [.long a1] D (z_qI (fun v2 D1 => 
    (z_r v2) ∧
    ((v2 < 1) →
      T 3 D1) ∧
    ((1 ≤ v2) →
      ((b3 = false) →
        H39 a1 b3 (0) 56 D1) ∧
      ((b3 = true) →
        ((v2 ≤ 1) →
          H39 a1 b3 (0) 56 D1) ∧
        ((1 < v2) →
          T 3 D1)))) T)
theorem v_tMeaningOfTyped_0 {n d : Nat} {X : z_Xt} {a1 : Int64} {b3 : Bool}  {D : z_D} {H39 : Int64 → Bool → Int64 → Int → z_D → Prop} {K : Int → z_D → Prop} {T : Nat → z_D → Prop} (hH39 : ∀ (a1 : Int64) (b3 : Bool) (a5 : Int64) (a7 : Int) (o4 : Option Value) (x8 : Option Value) (D : z_D), z_nl o4 → H39 a1 b3 a5 a7 D → z_w n d (k_tb 51) X 39 [some (.ref 0), some (.long a1), none, some (.int (z_i (z_b b3))), o4, some (.long a5), none, some (.int (z_i a7)), x8, none] [] D (z_qI K T)) (h : w_tMeaningOfTyped_0 n d a1 b3 D H39 K T) : z_w n d (k_tb 51) X 0 [some (.ref 0), some (.long a1), none, some (.int (z_i (z_b b3))), none, none, none, none, none, none] [] D (z_qI K T) := by
  unfold w_tMeaningOfTyped_0 at h
  refine zs_lload rfl rfl ?_
  refine z_callS (as0 := [.long a1]) (r := []) rfl rfl (Nat.le_of_ble_eq_true rfl) (z_oI h (fun v2 D1 h => ?_) (fun _ _ h => h))
  refine zs_istore (ls1 := [some (.ref 0), some (.long a1), none, some (.int (z_i (z_b b3))), some (.int (z_i v2)), none, none, none, none, none]) rfl rfl rfl ?_
  refine zs_iload rfl rfl ?_
  refine zs_pushI (1) rfl rfl ?_
  obtain ⟨g3, h⟩ := h
  obtain ⟨h8, h9⟩ := h
  refine zs_clt rfl g3 (z_rk rfl) (fun c => ?_) (fun c => ?_)
  · have h := h8 c
    exact zs_throw rfl h
  · have h := h9 c
    refine zs_iload rfl rfl ?_
    obtain ⟨h6, h7⟩ := h
    refine zs_beq rfl (fun c => ?_) (fun c => ?_)
    · have h := h6 c
      refine zs_push rfl ?_
      refine zs_lstore (ls1 := [some (.ref 0), some (.long a1), none, some (.int (z_i (z_b b3))), some (.int (z_i v2)), some (.long (0)), none, none, none, none]) rfl rfl rfl ?_
      refine zs_pushI (56) rfl rfl ?_
      refine zs_istore (ls1 := [some (.ref 0), some (.long a1), none, some (.int (z_i (z_b b3))), some (.int (z_i v2)), some (.long (0)), none, some (.int (z_i 56)), none, none]) rfl rfl rfl ?_
      exact hH39 _ _ _ _ _ _ _ (by first | assumption | exact trivial) h
    · have h := h7 c
      refine zs_iload rfl rfl ?_
      refine zs_pushI (1) rfl rfl ?_
      obtain ⟨h4, h5⟩ := h
      refine zs_cle rfl g3 (z_rk rfl) (fun c => ?_) (fun c => ?_)
      · have h := h4 c
        refine zs_push rfl ?_
        refine zs_lstore (ls1 := [some (.ref 0), some (.long a1), none, some (.int (z_i (z_b b3))), some (.int (z_i v2)), some (.long (0)), none, none, none, none]) rfl rfl rfl ?_
        refine zs_pushI (56) rfl rfl ?_
        refine zs_istore (ls1 := [some (.ref 0), some (.long a1), none, some (.int (z_i (z_b b3))), some (.int (z_i v2)), some (.long (0)), none, some (.int (z_i 56)), none, none]) rfl rfl rfl ?_
        exact hH39 _ _ _ _ _ _ _ (by first | assumption | exact trivial) h
      · have h := h5 c
        exact zs_throw rfl h
def w_tMeaningOfTyped_98 (n d : Nat) (a1 : Int64) (a5 : Int64) (s2 : Int64) (s3 : Int64) (D : z_D)  (K : Int → z_D → Prop) (T : Nat → z_D → Prop) : Prop :=
  z_c n d 9 [.ref 4, .long s2, .long s3, .int (z_i (z_b false))] D (z_qI (fun v2 D1 => 
    z_c n d 10 [.ref 4, .int (z_i v2)] D1 (z_qI (fun v4 D3 => 
      K v4 D3) T)) T)
theorem v_tMeaningOfTyped_98 {n d : Nat} {X : z_Xt} {a1 : Int64} {a5 : Int64} {s2 : Int64} {s3 : Int64} {o3 : Option Value} {o4 : Option Value} {o7 : Option Value} {x8 : Option Value} {D : z_D}  {K : Int → z_D → Prop} {T : Nat → z_D → Prop} (n3 : z_nl o3) (n4 : z_nl o4) (n7 : z_nl o7) (h : w_tMeaningOfTyped_98 n d a1 a5 s2 s3 D K T) : z_w n d (k_tb 51) X 98 [some (.ref 0), some (.long a1), none, o3, o4, some (.long a5), none, o7, x8, none] [.long s3, .long s2, .ref 4, .ref 4] D (z_qI K T) := by
  unfold w_tMeaningOfTyped_98 at h
  refine zs_pushI (0) rfl rfl ?_
  refine z_callV (k := 4) (as0 := [.long s2, .long s3, .int (z_i (z_b false))]) (r := [.ref 4]) rfl rfl rfl (Nat.le_of_ble_eq_true rfl) (z_oI h (fun v2 D1 h => ?_) (fun _ _ h => h))
  refine z_callV (k := 4) (as0 := [.int (z_i v2)]) (r := []) rfl rfl rfl (Nat.le_of_ble_eq_true rfl) (z_oI h (fun v4 D3 h => ?_) (fun _ _ h => h))
  exact zs_iret rfl h
def w_tMeaningOfTyped_39 (n d : Nat) (a1 : Int64) (b3 : Bool) (a5 : Int64) (a7 : Int) (D : z_D) (H39 : Int64 → Bool → Int64 → Int → z_D → Prop) (K : Int → z_D → Prop) (T : Nat → z_D → Prop) : Prop :=
  (z_r a7) ∧
  ((a7 < 0) →
    ((b3 = false) →
      w_tMeaningOfTyped_98 n d a1 a5 a5 (0) D K T) ∧
    ((b3 = true) →
      w_tMeaningOfTyped_98 n d a1 a5 a5 (-1) D K T)) ∧
  ((0 ≤ a7) →
    (((z_cmp ((z_usr a1 a7) &&& (255)) (0)) = 0) →
      H39 a1 b3 a5 (a7 + (-8)) D) ∧
    ((¬ (z_cmp ((z_usr a1 a7) &&& (255)) (0)) = 0) →
      H39 a1 b3 ((z_shl a5 8) ||| ((z_usr a1 a7) &&& (255))) (a7 + (-8)) D))
theorem v_tMeaningOfTyped_39 {n d : Nat} {X : z_Xt} {a1 : Int64} {b3 : Bool} {a5 : Int64} {a7 : Int} {o4 : Option Value} {x8 : Option Value} {D : z_D} {H39 : Int64 → Bool → Int64 → Int → z_D → Prop} {K : Int → z_D → Prop} {T : Nat → z_D → Prop} (hH39 : ∀ (a1 : Int64) (b3 : Bool) (a5 : Int64) (a7 : Int) (o4 : Option Value) (x8 : Option Value) (D : z_D), z_nl o4 → H39 a1 b3 a5 a7 D → z_w n d (k_tb 51) X 39 [some (.ref 0), some (.long a1), none, some (.int (z_i (z_b b3))), o4, some (.long a5), none, some (.int (z_i a7)), x8, none] [] D (z_qI K T)) (n4 : z_nl o4) (h : w_tMeaningOfTyped_39 n d a1 b3 a5 a7 D H39 K T) : z_w n d (k_tb 51) X 39 [some (.ref 0), some (.long a1), none, some (.int (z_i (z_b b3))), o4, some (.long a5), none, some (.int (z_i a7)), x8, none] [] D (z_qI K T) := by
  unfold w_tMeaningOfTyped_39 at h
  refine zs_iload rfl rfl ?_
  obtain ⟨g1, h⟩ := h
  obtain ⟨h6, h7⟩ := h
  refine zs_iflt rfl g1 (fun c => ?_) (fun c => ?_)
  · have h := h6 c
    refine zs_aload rfl rfl ?_
    refine zs_getR (x := 4) rfl rfl rfl ?_
    refine zs_aload rfl rfl ?_
    refine zs_getR (x := 4) rfl rfl rfl ?_
    refine zs_lload rfl rfl ?_
    refine zs_iload rfl rfl ?_
    obtain ⟨h2, h3⟩ := h
    refine zs_beq rfl (fun c => ?_) (fun c => ?_)
    · have h := h2 c
      refine zs_push rfl ?_
      exact v_tMeaningOfTyped_98 (by first | assumption | exact trivial) (by first | assumption | exact trivial) (by first | assumption | exact trivial) h
    · have h := h3 c
      refine zs_push rfl ?_
      refine zs_goto rfl ?_
      exact v_tMeaningOfTyped_98 (by first | assumption | exact trivial) (by first | assumption | exact trivial) (by first | assumption | exact trivial) h
  · have h := h7 c
    refine zs_lload rfl rfl ?_
    refine zs_iload rfl rfl ?_
    refine zs_li (b := a7) rfl ?_
    refine zs_push rfl ?_
    refine zs_ll rfl ?_
    refine zs_lstore (ls1 := [some (.ref 0), some (.long a1), none, some (.int (z_i (z_b b3))), o4, some (.long a5), none, some (.int (z_i a7)), some (.long ((z_usr a1 a7) &&& (255))), none]) rfl rfl rfl ?_
    refine zs_lload rfl rfl ?_
    refine zs_push rfl ?_
    refine zs_cmp rfl ?_
    obtain ⟨h4, h5⟩ := h
    refine zs_ifeq rfl (z_r_toInt _) (fun c => ?_) (fun c => ?_)
    · have h := h4 c
      refine zs_iinc (a := a7) (-8) (ls1 := [some (.ref 0), some (.long a1), none, some (.int (z_i (z_b b3))), o4, some (.long a5), none, some (.int (z_i (a7 + (-8)))), some (.long ((z_usr a1 a7) &&& (255))), none]) rfl rfl rfl rfl ?_
      refine zs_goto rfl ?_
      exact hH39 _ _ _ _ _ _ _ (by first | assumption | exact trivial) h
    · have h := h5 c
      refine zs_lload rfl rfl ?_
      refine zs_pushI (8) rfl rfl ?_
      refine zs_li (b := 8) rfl ?_
      refine zs_lload rfl rfl ?_
      refine zs_ll rfl ?_
      refine zs_lstore (ls1 := [some (.ref 0), some (.long a1), none, some (.int (z_i (z_b b3))), o4, some (.long ((z_shl a5 8) ||| ((z_usr a1 a7) &&& (255)))), none, some (.int (z_i a7)), some (.long ((z_usr a1 a7) &&& (255))), none]) rfl rfl (by rw [z_st1 rfl n4]; rfl) ?_
      refine zs_iinc (a := a7) (-8) (ls1 := [some (.ref 0), some (.long a1), none, some (.int (z_i (z_b b3))), o4, some (.long ((z_shl a5 8) ||| ((z_usr a1 a7) &&& (255)))), none, some (.int (z_i (a7 + (-8)))), some (.long ((z_usr a1 a7) &&& (255))), none]) rfl rfl rfl rfl ?_
      refine zs_goto rfl ?_
      exact hH39 _ _ _ _ _ _ _ (by first | assumption | exact trivial) h
theorem r_tMeaningOfTyped {n d : Nat} {a1 : Int64} {b3 : Bool} {D : z_D} {K : Int → z_D → Prop} {T : Nat → z_D → Prop}  (I39 : Nat → Int64 → Bool → Int64 → Int → z_D → Prop) (hE : w_tMeaningOfTyped_0 n d a1 b3 D (fun a1 b3 a5 a7 D => ∃ m, I39 m a1 b3 a5 a7 D) K T) (h39 : ∀ (mm : Nat) (a1 : Int64) (b3 : Bool) (a5 : Int64) (a7 : Int) (D : z_D), I39 mm a1 b3 a5 a7 D → w_tMeaningOfTyped_39 n d a1 b3 a5 a7 D (fun a1 b3 a5 a7 D => ∃ m, m < mm ∧ I39 m a1 b3 a5 a7 D) K T) : z_c n (d + 1) 51 [.ref 0, .long a1, .int (z_i (z_b b3))] D (z_qI K T) := by
  refine z_enter (Nat.le_of_ble_eq_true rfl) rfl (fun X => ?_)
  have key : ∀ m, (∀ (a1 : Int64) (b3 : Bool) (a5 : Int64) (a7 : Int) (o4 : Option Value) (x8 : Option Value) (D : z_D), z_nl o4 → I39 m a1 b3 a5 a7 D → z_w n d (k_tb 51) X 39 [some (.ref 0), some (.long a1), none, some (.int (z_i (z_b b3))), o4, some (.long a5), none, some (.int (z_i a7)), x8, none] [] D (z_qI K T)) := by
    intro m
    induction m using Nat.strongRecOn with
    | _ mm ih =>
      exact fun a1 b3 a5 a7 o4 x8 D n4 hI => v_tMeaningOfTyped_39 (fun a1 b3 a5 a7 o4 x8 D n4 ⟨m, hm, hI⟩ => (ih m hm) _ _ _ _ _ _ _ n4 hI) n4 (h39 mm a1 b3 a5 a7 D hI)
  exact v_tMeaningOfTyped_0 (fun a1 b3 a5 a7 o4 x8 D n4 ⟨m, hI⟩ => (key m) _ _ _ _ _ _ _ n4 hI) hE
-- 52: TokenMouth.unmarked(I)I
def w_tUnmarked_0 (n d : Nat) (a0 : Int) (D : z_D)  (K : Int → z_D → Prop) (T : Nat → z_D → Prop) : Prop :=
  K (z_and a0 (-16385)) D
theorem v_tUnmarked_0 {n d : Nat} {X : z_Xt} {a0 : Int}  {D : z_D}  {K : Int → z_D → Prop} {T : Nat → z_D → Prop}  (h : w_tUnmarked_0 n d a0 D K T) : z_w n d (k_tb 52) X 0 [some (.int (z_i a0))] [] D (z_qI K T) := by
  unfold w_tUnmarked_0 at h
  refine zs_iload rfl rfl ?_
  refine zs_pushI (-16385) rfl rfl ?_
  refine zs_and (a := a0) (b := (-16385)) rfl ?_
  exact zs_iret rfl h
theorem r_tUnmarked {n d : Nat} {a0 : Int} {D : z_D} {K : Int → z_D → Prop} {T : Nat → z_D → Prop}  (h : w_tUnmarked_0 n d a0 D K T) : z_c n (d + 1) 52 [.int (z_i a0)] D (z_qI K T) :=
  z_enter (Nat.le_of_ble_eq_true rfl) rfl (fun X => v_tUnmarked_0 h)
-- 53: TokenMouth.categoryOf(I)I
def w_tCategoryOf_0 (n d : Nat) (a0 : Int) (D : z_D)  (K : Int → z_D → Prop) (T : Nat → z_D → Prop) : Prop :=
  K (z_shr a0 8) D
theorem v_tCategoryOf_0 {n d : Nat} {X : z_Xt} {a0 : Int}  {D : z_D}  {K : Int → z_D → Prop} {T : Nat → z_D → Prop}  (h : w_tCategoryOf_0 n d a0 D K T) : z_w n d (k_tb 53) X 0 [some (.int (z_i a0))] [] D (z_qI K T) := by
  unfold w_tCategoryOf_0 at h
  refine zs_iload rfl rfl ?_
  refine zs_pushI (8) rfl rfl ?_
  refine zs_shr (a := a0) (b := 8) rfl ?_
  exact zs_iret rfl h
theorem r_tCategoryOf {n d : Nat} {a0 : Int} {D : z_D} {K : Int → z_D → Prop} {T : Nat → z_D → Prop}  (h : w_tCategoryOf_0 n d a0 D K T) : z_c n (d + 1) 53 [.int (z_i a0)] D (z_qI K T) :=
  z_enter (Nat.le_of_ble_eq_true rfl) rfl (fun X => v_tCategoryOf_0 h)
-- 54: TokenMouth.braceStep(I)I
def w_tBraceStep_0 (n d : Nat) (a0 : Int) (D : z_D)  (K : Int → z_D → Prop) (T : Nat → z_D → Prop) : Prop :=
  ((¬ (z_shr a0 8) = 1) →
    ((¬ (z_shr a0 8) = 2) →
      K 0 D) ∧
    (((z_shr a0 8) = 2) →
      K (-1) D)) ∧
  (((z_shr a0 8) = 1) →
    K 1 D)
theorem v_tBraceStep_0 {n d : Nat} {X : z_Xt} {a0 : Int}  {D : z_D}  {K : Int → z_D → Prop} {T : Nat → z_D → Prop}  (h : w_tBraceStep_0 n d a0 D K T) : z_w n d (k_tb 54) X 0 [some (.int (z_i a0)), none] [] D (z_qI K T) := by
  unfold w_tBraceStep_0 at h
  refine zs_iload rfl rfl ?_
  refine zs_pushI (8) rfl rfl ?_
  refine zs_shr (a := a0) (b := 8) rfl ?_
  refine zs_istore (ls1 := [some (.int (z_i a0)), some (.int (z_i (z_shr a0 8)))]) rfl rfl rfl ?_
  refine zs_iload rfl rfl ?_
  refine zs_pushI (1) rfl rfl ?_
  obtain ⟨h3, h4⟩ := h
  refine zs_cne rfl (z_r_toInt _) (z_rk rfl) (fun c => ?_) (fun c => ?_)
  · have h := h3 c
    refine zs_iload rfl rfl ?_
    refine zs_pushI (2) rfl rfl ?_
    obtain ⟨h1, h2⟩ := h
    refine zs_cne rfl (z_r_toInt _) (z_rk rfl) (fun c => ?_) (fun c => ?_)
    · have h := h1 c
      refine zs_pushI (0) rfl rfl ?_
      exact zs_iret rfl h
    · have h := h2 c
      refine zs_pushI (-1) rfl rfl ?_
      refine zs_goto rfl ?_
      exact zs_iret rfl h
  · have h := h4 c
    refine zs_pushI (1) rfl rfl ?_
    exact zs_iret rfl h
theorem r_tBraceStep {n d : Nat} {a0 : Int} {D : z_D} {K : Int → z_D → Prop} {T : Nat → z_D → Prop}  (h : w_tBraceStep_0 n d a0 D K T) : z_c n (d + 1) 54 [.int (z_i a0)] D (z_qI K T) :=
  z_enter (Nat.le_of_ble_eq_true rfl) rfl (fun X => v_tBraceStep_0 h)
-- 55: TokenMouth.meaningOf(I)I
def w_tMeaningOf_0 (n d : Nat) (a1 : Int) (D : z_D)  (K : Int → z_D → Prop) (T : Nat → z_D → Prop) : Prop :=
  (z_r a1) ∧
  ((4096 ≤ a1) →
    ((a1 < 16384) →
      z_c n d 10 [.ref 4, .int (z_i (a1 - 4096))] D (z_qI (fun v3 D2 => 
        K v3 D2) T)) ∧
    ((16384 ≤ a1) →
      K 2 D)) ∧
  ((a1 < 4096) →
    K a1 D)
theorem v_tMeaningOf_0 {n d : Nat} {X : z_Xt} {a1 : Int}  {D : z_D}  {K : Int → z_D → Prop} {T : Nat → z_D → Prop}  (h : w_tMeaningOf_0 n d a1 D K T) : z_w n d (k_tb 55) X 0 [some (.ref 0), some (.int (z_i a1))] [] D (z_qI K T) := by
  unfold w_tMeaningOf_0 at h
  refine zs_iload rfl rfl ?_
  refine zs_pushI (4096) rfl rfl ?_
  obtain ⟨g1, h⟩ := h
  obtain ⟨h6, h7⟩ := h
  refine zs_cge rfl g1 (z_rk rfl) (fun c => ?_) (fun c => ?_)
  · have h := h6 c
    refine zs_iload rfl rfl ?_
    refine zs_pushI (16384) rfl rfl ?_
    obtain ⟨h4, h5⟩ := h
    refine zs_clt rfl g1 (z_rk rfl) (fun c => ?_) (fun c => ?_)
    · have h := h4 c
      refine zs_aload rfl rfl ?_
      refine zs_getR (x := 4) rfl rfl rfl ?_
      refine zs_iload rfl rfl ?_
      refine zs_pushI (4096) rfl rfl ?_
      refine zs_sub (a := a1) (b := 4096) rfl ?_
      refine z_callV (k := 4) (as0 := [.int (z_i (a1 - 4096))]) (r := []) rfl rfl rfl (Nat.le_of_ble_eq_true rfl) (z_oI h (fun v3 D2 h => ?_) (fun _ _ h => h))
      exact zs_iret rfl h
    · have h := h5 c
      refine zs_pushI (2) rfl rfl ?_
      refine zs_goto rfl ?_
      exact zs_iret rfl h
  · have h := h7 c
    refine zs_iload rfl rfl ?_
    exact zs_iret rfl h
theorem r_tMeaningOf {n d : Nat} {a1 : Int} {D : z_D} {K : Int → z_D → Prop} {T : Nat → z_D → Prop}  (h : w_tMeaningOf_0 n d a1 D K T) : z_c n (d + 1) 55 [.ref 0, .int (z_i a1)] D (z_qI K T) :=
  z_enter (Nat.le_of_ble_eq_true rfl) rfl (fun X => v_tMeaningOf_0 h)
-- 56: TokenMouth.isCharacter(I)Z
def w_tIsCharacter_0 (n d : Nat) (a0 : Int) (D : z_D)  (K : Bool → z_D → Prop) (T : Nat → z_D → Prop) : Prop :=
  (z_r a0) ∧
  ((a0 ≤ 18) →
    K false D) ∧
  ((18 < a0) →
    ((4096 ≤ a0) →
      K false D) ∧
    ((a0 < 4096) →
      K true D))
theorem v_tIsCharacter_0 {n d : Nat} {X : z_Xt} {a0 : Int}  {D : z_D}  {K : Bool → z_D → Prop} {T : Nat → z_D → Prop}  (h : w_tIsCharacter_0 n d a0 D K T) : z_w n d (k_tb 56) X 0 [some (.int (z_i a0))] [] D (z_qZ K T) := by
  unfold w_tIsCharacter_0 at h
  refine zs_iload rfl rfl ?_
  refine zs_pushI (18) rfl rfl ?_
  obtain ⟨g1, h⟩ := h
  obtain ⟨h4, h5⟩ := h
  refine zs_cle rfl g1 (z_rk rfl) (fun c => ?_) (fun c => ?_)
  · have h := h4 c
    refine zs_pushI (0) rfl rfl ?_
    exact zs_zret (b := false) rfl h
  · have h := h5 c
    refine zs_iload rfl rfl ?_
    refine zs_pushI (4096) rfl rfl ?_
    obtain ⟨h2, h3⟩ := h
    refine zs_cge rfl g1 (z_rk rfl) (fun c => ?_) (fun c => ?_)
    · have h := h2 c
      refine zs_pushI (0) rfl rfl ?_
      exact zs_zret (b := false) rfl h
    · have h := h3 c
      refine zs_pushI (1) rfl rfl ?_
      refine zs_goto rfl ?_
      exact zs_zret (b := true) rfl h
theorem r_tIsCharacter {n d : Nat} {a0 : Int} {D : z_D} {K : Bool → z_D → Prop} {T : Nat → z_D → Prop}  (h : w_tIsCharacter_0 n d a0 D K T) : z_c n (d + 1) 56 [.int (z_i a0)] D (z_qZ K T) :=
  z_enter (Nat.le_of_ble_eq_true rfl) rfl (fun X => v_tIsCharacter_0 h)
-- 57: TokenMouth.isExpandable(I)Z
def w_tIsExpandable_0 (n d : Nat) (a0 : Int) (D : z_D)  (K : Bool → z_D → Prop) (T : Nat → z_D → Prop) : Prop :=
  (z_r a0) ∧
  ((a0 ≤ 18) →
    ((a0 < 8) →
      K false D) ∧
    ((8 ≤ a0) →
      ((a0 = 11) →
        K false D) ∧
      ((¬ a0 = 11) →
        K true D))) ∧
  ((18 < a0) →
    ((a0 < 4096) →
      K false D) ∧
    ((4096 ≤ a0) →
      K true D))
theorem v_tIsExpandable_0 {n d : Nat} {X : z_Xt} {a0 : Int}  {D : z_D}  {K : Bool → z_D → Prop} {T : Nat → z_D → Prop}  (h : w_tIsExpandable_0 n d a0 D K T) : z_w n d (k_tb 57) X 0 [some (.int (z_i a0))] [] D (z_qZ K T) := by
  unfold w_tIsExpandable_0 at h
  refine zs_iload rfl rfl ?_
  refine zs_pushI (18) rfl rfl ?_
  obtain ⟨g1, h⟩ := h
  obtain ⟨h8, h9⟩ := h
  refine zs_cle rfl g1 (z_rk rfl) (fun c => ?_) (fun c => ?_)
  · have h := h8 c
    refine zs_iload rfl rfl ?_
    refine zs_pushI (8) rfl rfl ?_
    obtain ⟨h4, h5⟩ := h
    refine zs_clt rfl g1 (z_rk rfl) (fun c => ?_) (fun c => ?_)
    · have h := h4 c
      refine zs_pushI (0) rfl rfl ?_
      exact zs_zret (b := false) rfl h
    · have h := h5 c
      refine zs_iload rfl rfl ?_
      refine zs_pushI (11) rfl rfl ?_
      obtain ⟨h2, h3⟩ := h
      refine zs_ceq rfl g1 (z_rk rfl) (fun c => ?_) (fun c => ?_)
      · have h := h2 c
        refine zs_pushI (0) rfl rfl ?_
        exact zs_zret (b := false) rfl h
      · have h := h3 c
        refine zs_pushI (1) rfl rfl ?_
        refine zs_goto rfl ?_
        exact zs_zret (b := true) rfl h
  · have h := h9 c
    refine zs_iload rfl rfl ?_
    refine zs_pushI (4096) rfl rfl ?_
    obtain ⟨h6, h7⟩ := h
    refine zs_clt rfl g1 (z_rk rfl) (fun c => ?_) (fun c => ?_)
    · have h := h6 c
      refine zs_pushI (0) rfl rfl ?_
      exact zs_zret (b := false) rfl h
    · have h := h7 c
      refine zs_pushI (1) rfl rfl ?_
      refine zs_goto rfl ?_
      exact zs_zret (b := true) rfl h
theorem r_tIsExpandable {n d : Nat} {a0 : Int} {D : z_D} {K : Bool → z_D → Prop} {T : Nat → z_D → Prop}  (h : w_tIsExpandable_0 n d a0 D K T) : z_c n (d + 1) 57 [.int (z_i a0)] D (z_qZ K T) :=
  z_enter (Nat.le_of_ble_eq_true rfl) rfl (fun X => v_tIsExpandable_0 h)
-- 58: TokenMouth.macroOf(I)LTokenMouth$Macro;
def w_tMacroOf_0 (n d : Nat) (a1 : Int) (D : z_D)  (Kn : z_D → Prop) (K : Nat → z_D → Prop) (T : Nat → z_D → Prop) : Prop :=
  (z_r (a1 - 4096)) ∧
  (((a1 - 4096) < 0) →
    Kn D) ∧
  ((0 ≤ (a1 - 4096)) →
    (z_r (D.1 0 9)) ∧
    (((D.1 0 9) ≤ (a1 - 4096)) →
      Kn D) ∧
    (((a1 - 4096) < (D.1 0 9)) →
      ((60 ≤ (a1 - 4096)) →
        Kn D) ∧
      (((a1 - 4096) < 60) →
        (0 ≤ (a1 - 4096) ∧ (a1 - 4096) < 60) ∧
        K (D.2.2 (Int.toNat (a1 - 4096))) D)))
theorem v_tMacroOf_0 {n d : Nat} {X : z_Xt} {a1 : Int}  {D : z_D}  {Kn : z_D → Prop} {K : Nat → z_D → Prop} {T : Nat → z_D → Prop}  (h : w_tMacroOf_0 n d a1 D Kn K T) : z_w n d (k_tb 58) X 0 [some (.ref 0), some (.int (z_i a1)), none] [] D (z_qR Kn K T) := by
  unfold w_tMacroOf_0 at h
  refine zs_iload rfl rfl ?_
  refine zs_pushI (4096) rfl rfl ?_
  refine zs_sub (a := a1) (b := 4096) rfl ?_
  refine zs_istore (ls1 := [some (.ref 0), some (.int (z_i a1)), some (.int (z_i (a1 - 4096)))]) rfl rfl rfl ?_
  refine zs_iload rfl rfl ?_
  obtain ⟨g1, h⟩ := h
  obtain ⟨h8, h9⟩ := h
  refine zs_iflt rfl g1 (fun c => ?_) (fun c => ?_)
  · have h := h8 c
    refine zs_push rfl ?_
    exact zs_aretN rfl h
  · have h := h9 c
    refine zs_iload rfl rfl ?_
    refine zs_aload rfl rfl ?_
    refine zs_getI rfl rfl ?_
    obtain ⟨g2, h⟩ := h
    obtain ⟨h6, h7⟩ := h
    refine zs_cge rfl g1 g2 (fun c => ?_) (fun c => ?_)
    · have h := h6 c
      refine zs_push rfl ?_
      exact zs_aretN rfl h
    · have h := h7 c
      refine zs_iload rfl rfl ?_
      refine zs_aload rfl rfl ?_
      refine zs_getR (x := 30) rfl rfl rfl ?_
      refine zs_alenZ (60) rfl rfl rfl (by decide) ?_
      obtain ⟨h4, h5⟩ := h
      refine zs_cge rfl g1 (z_rk rfl) (fun c => ?_) (fun c => ?_)
      · have h := h4 c
        refine zs_push rfl ?_
        exact zs_aretN rfl h
      · have h := h5 c
        refine zs_aload rfl rfl ?_
        refine zs_getR (x := 30) rfl rfl rfl ?_
        refine zs_iload rfl rfl ?_
        obtain ⟨g3, h⟩ := h
        refine zs_aald rfl rfl (by decide) g3 (z_R_ms g3.1 g3.2) ?_
        refine zs_goto rfl ?_
        exact zs_aret rfl h
theorem r_tMacroOf {n d : Nat} {a1 : Int} {D : z_D} {Kn : z_D → Prop} {K : Nat → z_D → Prop} {T : Nat → z_D → Prop}  (h : w_tMacroOf_0 n d a1 D Kn K T) : z_c n (d + 1) 58 [.ref 0, .int (z_i a1)] D (z_qR Kn K T) :=
  z_enter (Nat.le_of_ble_eq_true rfl) rfl (fun X => v_tMacroOf_0 h)
-- 59: TokenMouth.meanTheSame(II)Z
def w_tMeanTheSame_0 (n d : Nat) (a1 : Int) (a2 : Int) (D : z_D)  (K : Bool → z_D → Prop) (T : Nat → z_D → Prop) : Prop :=
  z_c n d 58 [.ref 0, .int (z_i a1)] D (z_qR (fun D1 => 
    z_c n d 58 [.ref 0, .int (z_i a2)] D1 (z_qR (fun D3 => 
      (z_r a1) ∧ (z_r a2) ∧
      ((¬ a1 = a2) →
        K false D3) ∧
      ((a1 = a2) →
        K true D3)) (fun m4 D3 => 
      (z_r a1) ∧ (z_r a2) ∧
      ((¬ a1 = a2) →
        K false D3) ∧
      ((a1 = a2) →
        K true D3)) T)) (fun m2 D1 => 
    z_c n d 58 [.ref 0, .int (z_i a2)] D1 (z_qR (fun D13 => 
      (z_r a1) ∧ (z_r a2) ∧
      ((¬ a1 = a2) →
        K false D13) ∧
      ((a1 = a2) →
        K true D13)) (fun m14 D13 => 
      (z_mc m2) ∧
      (z_mc m14) ∧
      z_c n d 31 [.ref (m2 + 1), .ref (m14 + 1)] D13 (z_qZ (fun v22 D21 => 
        ((v22 = false) →
          K false D21) ∧
        ((v22 = true) →
          z_c n d 31 [.ref (m2 + 3), .ref (m14 + 3)] D21 (z_qZ (fun v24 D23 => 
            ((v24 = false) →
              K false D23) ∧
            ((v24 = true) →
              K true D23)) T))) T)) T)) T)
theorem v_tMeanTheSame_0 {n d : Nat} {X : z_Xt} {a1 : Int} {a2 : Int}  {D : z_D}  {K : Bool → z_D → Prop} {T : Nat → z_D → Prop}  (h : w_tMeanTheSame_0 n d a1 a2 D K T) : z_w n d (k_tb 59) X 0 [some (.ref 0), some (.int (z_i a1)), some (.int (z_i a2)), none, none] [] D (z_qZ K T) := by
  unfold w_tMeanTheSame_0 at h
  refine zs_aload rfl rfl ?_
  refine zs_iload rfl rfl ?_
  refine z_callV (k := 0) (as0 := [.int (z_i a1)]) (r := []) rfl rfl rfl (Nat.le_of_ble_eq_true rfl) (z_oR h (fun D1 h => ?_) (fun m2 D1 h => ?_) (fun _ _ h => h))
  · refine zs_astoreN (ls1 := [some (.ref 0), some (.int (z_i a1)), some (.int (z_i a2)), some (.null), none]) rfl rfl rfl ?_
    refine zs_aload rfl rfl ?_
    refine zs_iload rfl rfl ?_
    refine z_callV (k := 0) (as0 := [.int (z_i a2)]) (r := []) rfl rfl rfl (Nat.le_of_ble_eq_true rfl) (z_oR h (fun D3 h => ?_) (fun m4 D3 h => ?_) (fun _ _ h => h))
    · refine zs_astoreN (ls1 := [some (.ref 0), some (.int (z_i a1)), some (.int (z_i a2)), some (.null), some (.null)]) rfl rfl rfl ?_
      refine zs_aloadN rfl rfl ?_
      refine zs_nullN rfl ?_
      refine zs_iload rfl rfl ?_
      refine zs_iload rfl rfl ?_
      obtain ⟨g5, g6, h⟩ := h
      obtain ⟨h7, h8⟩ := h
      refine zs_cne rfl g5 g6 (fun c => ?_) (fun c => ?_)
      · have h := h7 c
        refine zs_pushI (0) rfl rfl ?_
        exact zs_zret (b := false) rfl h
      · have h := h8 c
        refine zs_pushI (1) rfl rfl ?_
        refine zs_goto rfl ?_
        exact zs_zret (b := true) rfl h
    · refine zs_astore (ls1 := [some (.ref 0), some (.int (z_i a1)), some (.int (z_i a2)), some (.null), some (.ref m4)]) rfl rfl rfl ?_
      refine zs_aloadN rfl rfl ?_
      refine zs_nullN rfl ?_
      refine zs_iload rfl rfl ?_
      refine zs_iload rfl rfl ?_
      obtain ⟨g9, g10, h⟩ := h
      obtain ⟨h11, h12⟩ := h
      refine zs_cne rfl g9 g10 (fun c => ?_) (fun c => ?_)
      · have h := h11 c
        refine zs_pushI (0) rfl rfl ?_
        exact zs_zret (b := false) rfl h
      · have h := h12 c
        refine zs_pushI (1) rfl rfl ?_
        refine zs_goto rfl ?_
        exact zs_zret (b := true) rfl h
  · refine zs_astore (ls1 := [some (.ref 0), some (.int (z_i a1)), some (.int (z_i a2)), some (.ref m2), none]) rfl rfl rfl ?_
    refine zs_aload rfl rfl ?_
    refine zs_iload rfl rfl ?_
    refine z_callV (k := 0) (as0 := [.int (z_i a2)]) (r := []) rfl rfl rfl (Nat.le_of_ble_eq_true rfl) (z_oR h (fun D13 h => ?_) (fun m14 D13 h => ?_) (fun _ _ h => h))
    · refine zs_astoreN (ls1 := [some (.ref 0), some (.int (z_i a1)), some (.int (z_i a2)), some (.ref m2), some (.null)]) rfl rfl rfl ?_
      refine zs_aload rfl rfl ?_
      refine zs_nullR rfl ?_
      refine zs_aloadN rfl rfl ?_
      refine zs_nonnullN rfl ?_
      refine zs_iload rfl rfl ?_
      refine zs_iload rfl rfl ?_
      obtain ⟨g15, g16, h⟩ := h
      obtain ⟨h17, h18⟩ := h
      refine zs_cne rfl g15 g16 (fun c => ?_) (fun c => ?_)
      · have h := h17 c
        refine zs_pushI (0) rfl rfl ?_
        exact zs_zret (b := false) rfl h
      · have h := h18 c
        refine zs_pushI (1) rfl rfl ?_
        refine zs_goto rfl ?_
        exact zs_zret (b := true) rfl h
    · refine zs_astore (ls1 := [some (.ref 0), some (.int (z_i a1)), some (.int (z_i a2)), some (.ref m2), some (.ref m14)]) rfl rfl rfl ?_
      refine zs_aload rfl rfl ?_
      refine zs_nullR rfl ?_
      refine zs_aload rfl rfl ?_
      refine zs_nonnullR rfl ?_
      refine zs_aload rfl rfl ?_
      obtain ⟨g19, h⟩ := h
      refine zs_getR rfl (z_sh_m0 g19) (z_R_mt g19) ?_
      refine zs_aload rfl rfl ?_
      obtain ⟨g20, h⟩ := h
      refine zs_getR rfl (z_sh_m0 g20) (z_R_mt g20) ?_
      refine z_callV (k := (m2 + 1)) (as0 := [.ref (m14 + 1)]) (r := []) rfl rfl (z_row_mt g19).1 (Nat.le_of_ble_eq_true rfl) (z_oZ h (fun v22 D21 h => ?_) (fun _ _ h => h))
      obtain ⟨h27, h28⟩ := h
      refine zs_beq rfl (fun c => ?_) (fun c => ?_)
      · have h := h27 c
        refine zs_pushI (0) rfl rfl ?_
        exact zs_zret (b := false) rfl h
      · have h := h28 c
        refine zs_aload rfl rfl ?_
        refine zs_getR rfl (z_sh_m0 g19) (z_R_mb g19) ?_
        refine zs_aload rfl rfl ?_
        refine zs_getR rfl (z_sh_m0 g20) (z_R_mb g20) ?_
        refine z_callV (k := (m2 + 3)) (as0 := [.ref (m14 + 3)]) (r := []) rfl rfl (z_row_mb g19).1 (Nat.le_of_ble_eq_true rfl) (z_oZ h (fun v24 D23 h => ?_) (fun _ _ h => h))
        obtain ⟨h25, h26⟩ := h
        refine zs_beq rfl (fun c => ?_) (fun c => ?_)
        · have h := h25 c
          refine zs_pushI (0) rfl rfl ?_
          exact zs_zret (b := false) rfl h
        · have h := h26 c
          refine zs_pushI (1) rfl rfl ?_
          refine zs_goto rfl ?_
          exact zs_zret (b := true) rfl h
def w_tMeanTheSame_22 (n d : Nat) (a1 : Int) (a2 : Int) (D : z_D)  (K : Bool → z_D → Prop) (T : Nat → z_D → Prop) : Prop :=
  (z_r a1) ∧ (z_r a2) ∧
  ((¬ a1 = a2) →
    K false D) ∧
  ((a1 = a2) →
    K true D)
theorem v_tMeanTheSame_22 {n d : Nat} {X : z_Xt} {a1 : Int} {a2 : Int} {o3 : Option Value} {o4 : Option Value} {D : z_D}  {K : Bool → z_D → Prop} {T : Nat → z_D → Prop} (n3 : z_nl o3) (n4 : z_nl o4) (h : w_tMeanTheSame_22 n d a1 a2 D K T) : z_w n d (k_tb 59) X 22 [some (.ref 0), some (.int (z_i a1)), some (.int (z_i a2)), o3, o4] [] D (z_qZ K T) := by
  unfold w_tMeanTheSame_22 at h
  refine zs_iload rfl rfl ?_
  refine zs_iload rfl rfl ?_
  obtain ⟨g1, g2, h⟩ := h
  obtain ⟨h3, h4⟩ := h
  refine zs_cne rfl g1 g2 (fun c => ?_) (fun c => ?_)
  · have h := h3 c
    refine zs_pushI (0) rfl rfl ?_
    exact zs_zret (b := false) rfl h
  · have h := h4 c
    refine zs_pushI (1) rfl rfl ?_
    refine zs_goto rfl ?_
    exact zs_zret (b := true) rfl h
theorem r_tMeanTheSame {n d : Nat} {a1 : Int} {a2 : Int} {D : z_D} {K : Bool → z_D → Prop} {T : Nat → z_D → Prop}  (h : w_tMeanTheSame_0 n d a1 a2 D K T) : z_c n (d + 1) 59 [.ref 0, .int (z_i a1), .int (z_i a2)] D (z_qZ K T) :=
  z_enter (Nat.le_of_ble_eq_true rfl) rfl (fun X => v_tMeanTheSame_0 h)
-- 60: TokenMouth.codeOf(I)I
def w_tCodeOf_0 (n d : Nat) (a0 : Int) (D : z_D)  (K : Int → z_D → Prop) (T : Nat → z_D → Prop) : Prop :=
  z_c n d 56 [.int (z_i a0)] D (z_qZ (fun v2 D1 => 
    ((v2 = false) →
      K 256 D1) ∧
    ((v2 = true) →
      K (z_and a0 255) D1)) T)
theorem v_tCodeOf_0 {n d : Nat} {X : z_Xt} {a0 : Int}  {D : z_D}  {K : Int → z_D → Prop} {T : Nat → z_D → Prop}  (h : w_tCodeOf_0 n d a0 D K T) : z_w n d (k_tb 60) X 0 [some (.int (z_i a0))] [] D (z_qI K T) := by
  unfold w_tCodeOf_0 at h
  refine zs_iload rfl rfl ?_
  refine z_callS (as0 := [.int (z_i a0)]) (r := []) rfl rfl (Nat.le_of_ble_eq_true rfl) (z_oZ h (fun v2 D1 h => ?_) (fun _ _ h => h))
  obtain ⟨h3, h4⟩ := h
  refine zs_beq rfl (fun c => ?_) (fun c => ?_)
  · have h := h3 c
    refine zs_pushI (256) rfl rfl ?_
    exact zs_iret rfl h
  · have h := h4 c
    refine zs_iload rfl rfl ?_
    refine zs_pushI (255) rfl rfl ?_
    refine zs_and (a := a0) (b := 255) rfl ?_
    refine zs_goto rfl ?_
    exact zs_iret rfl h
theorem r_tCodeOf {n d : Nat} {a0 : Int} {D : z_D} {K : Int → z_D → Prop} {T : Nat → z_D → Prop}  (h : w_tCodeOf_0 n d a0 D K T) : z_c n (d + 1) 60 [.int (z_i a0)] D (z_qI K T) :=
  z_enter (Nat.le_of_ble_eq_true rfl) rfl (fun X => v_tCodeOf_0 h)
-- 61: TokenMouth.get(Z)I
def w_tGet_40 (n d : Nat) (b1 : Bool) (a2 : Int) (D : z_D)  (K : Int → z_D → Prop) (T : Nat → z_D → Prop) : Prop :=
  (z_r (D.1 1 5)) ∧
  (((D.1 1 5) = 0) →
    (z_r a2) ∧
    ((¬ a2 = (-3)) →
      ((¬ a2 = (-1)) →
        K a2 D) ∧
      ((a2 = (-1)) →
        ((b1 = false) →
          K a2 D) ∧
        ((b1 = true) →
          z_c n d 48 [.ref 0, .int (z_i 3)] D (z_qI (fun v4 D3 => 
            K v4 D3) T)))) ∧
    ((a2 = (-3)) →
      z_c n d 9 [.ref 4, .long (D.2.1 1 6), .long (D.2.1 1 7), .int (z_i (z_b true))] D (z_qI (fun v10 D9 => 
        (z_r v10) ∧
        ((¬ v10 = (-1)) →
          K (4096 + v10) D9) ∧
        ((v10 = (-1)) →
          z_c n d 48 [.ref 0, .int (z_i 5)] D9 (z_qI (fun v13 D12 => 
            K v13 D12) T))) T))) ∧
  ((¬ (D.1 1 5) = 0) →
    z_c n d 48 [.ref 0, .int (z_i (D.1 1 5))] D (z_qI (fun v19 D18 => 
      K v19 D18) T))
theorem v_tGet_40 {n d : Nat} {X : z_Xt} {b1 : Bool} {a2 : Int}  {D : z_D}  {K : Int → z_D → Prop} {T : Nat → z_D → Prop}  (h : w_tGet_40 n d b1 a2 D K T) : z_w n d (k_tb 61) X 40 [some (.ref 0), some (.int (z_i (z_b b1))), some (.int (z_i a2)), none] [] D (z_qI K T) := by
  unfold w_tGet_40 at h
  refine zs_aload rfl rfl ?_
  refine zs_getR (x := 1) rfl rfl rfl ?_
  refine zs_getI rfl rfl ?_
  obtain ⟨g1, h⟩ := h
  obtain ⟨h20, h21⟩ := h
  refine zs_ifeq rfl g1 (fun c => ?_) (fun c => ?_)
  · have h := h20 c
    refine zs_iload rfl rfl ?_
    refine zs_pushI (-3) rfl rfl ?_
    obtain ⟨g2, h⟩ := h
    obtain ⟨h16, h17⟩ := h
    refine zs_cne rfl g2 (z_rk rfl) (fun c => ?_) (fun c => ?_)
    · have h := h16 c
      refine zs_iload rfl rfl ?_
      refine zs_pushI (-1) rfl rfl ?_
      obtain ⟨h7, h8⟩ := h
      refine zs_cne rfl g2 (z_rk rfl) (fun c => ?_) (fun c => ?_)
      · have h := h7 c
        refine zs_iload rfl rfl ?_
        exact zs_iret rfl h
      · have h := h8 c
        refine zs_iload rfl rfl ?_
        obtain ⟨h5, h6⟩ := h
        refine zs_beq rfl (fun c => ?_) (fun c => ?_)
        · have h := h5 c
          refine zs_iload rfl rfl ?_
          exact zs_iret rfl h
        · have h := h6 c
          refine zs_aload rfl rfl ?_
          refine zs_pushI (3) rfl rfl ?_
          refine z_callV (k := 0) (as0 := [.int (z_i 3)]) (r := []) rfl rfl rfl (Nat.le_of_ble_eq_true rfl) (z_oI h (fun v4 D3 h => ?_) (fun _ _ h => h))
          refine zs_goto rfl ?_
          exact zs_iret rfl h
    · have h := h17 c
      refine zs_aload rfl rfl ?_
      refine zs_getR (x := 4) rfl rfl rfl ?_
      refine zs_aload rfl rfl ?_
      refine zs_getR (x := 1) rfl rfl rfl ?_
      refine zs_getL rfl rfl ?_
      refine zs_aload rfl rfl ?_
      refine zs_getR (x := 1) rfl rfl rfl ?_
      refine zs_getL rfl rfl ?_
      refine zs_pushI (1) rfl rfl ?_
      refine z_callV (k := 4) (as0 := [.long (D.2.1 1 6), .long (D.2.1 1 7), .int (z_i (z_b true))]) (r := []) rfl rfl rfl (Nat.le_of_ble_eq_true rfl) (z_oI h (fun v10 D9 h => ?_) (fun _ _ h => h))
      refine zs_istore (ls1 := [some (.ref 0), some (.int (z_i (z_b b1))), some (.int (z_i a2)), some (.int (z_i v10))]) rfl rfl rfl ?_
      refine zs_iload rfl rfl ?_
      refine zs_pushI (-1) rfl rfl ?_
      obtain ⟨g11, h⟩ := h
      obtain ⟨h14, h15⟩ := h
      refine zs_cne rfl g11 (z_rk rfl) (fun c => ?_) (fun c => ?_)
      · have h := h14 c
        refine zs_pushI (4096) rfl rfl ?_
        refine zs_iload rfl rfl ?_
        refine zs_add (a := 4096) (b := v10) rfl ?_
        exact zs_iret rfl h
      · have h := h15 c
        refine zs_aload rfl rfl ?_
        refine zs_pushI (5) rfl rfl ?_
        refine z_callV (k := 0) (as0 := [.int (z_i 5)]) (r := []) rfl rfl rfl (Nat.le_of_ble_eq_true rfl) (z_oI h (fun v13 D12 h => ?_) (fun _ _ h => h))
        refine zs_goto rfl ?_
        exact zs_iret rfl h
  · have h := h21 c
    refine zs_aload rfl rfl ?_
    refine zs_aload rfl rfl ?_
    refine zs_getR (x := 1) rfl rfl rfl ?_
    refine zs_getI rfl rfl ?_
    refine z_callV (k := 0) (as0 := [.int (z_i (D.1 1 5))]) (r := []) rfl rfl rfl (Nat.le_of_ble_eq_true rfl) (z_oI h (fun v19 D18 h => ?_) (fun _ _ h => h))
    exact zs_iret rfl h
def w_tGet_0 (n d : Nat) (b1 : Bool) (D : z_D)  (K : Int → z_D → Prop) (T : Nat → z_D → Prop) : Prop :=
  z_c n d 24 [.ref 15] D (z_qI (fun v2 D1 => 
    (z_r v2) ∧
    ((v2 ≤ 0) →
      z_c n d 21 [.ref 1] D1 (z_qI (fun v5 D4 => 
        (z_r v5) ∧
        ((¬ v5 = (-2)) →
          w_tGet_40 n d b1 v5 D4 K T) ∧
        ((v5 = (-2)) →
          z_c n d 22 [.ref 1] D4 (z_qI (fun v8 D7 => 
            w_tGet_40 n d b1 v8 D7 K T) T))) T)) ∧
    ((0 < v2) →
      z_c n d 28 [.ref 15] D1 (z_qI (fun v12 D11 => 
        K v12 D11) T))) T)
theorem v_tGet_0 {n d : Nat} {X : z_Xt} {b1 : Bool}  {D : z_D}  {K : Int → z_D → Prop} {T : Nat → z_D → Prop}  (h : w_tGet_0 n d b1 D K T) : z_w n d (k_tb 61) X 0 [some (.ref 0), some (.int (z_i (z_b b1))), none, none] [] D (z_qI K T) := by
  unfold w_tGet_0 at h
  refine zs_aload rfl rfl ?_
  refine zs_getR (x := 15) rfl rfl rfl ?_
  refine z_callV (k := 15) (as0 := []) (r := []) rfl rfl rfl (Nat.le_of_ble_eq_true rfl) (z_oI h (fun v2 D1 h => ?_) (fun _ _ h => h))
  obtain ⟨g3, h⟩ := h
  obtain ⟨h13, h14⟩ := h
  refine zs_ifle rfl g3 (fun c => ?_) (fun c => ?_)
  · have h := h13 c
    refine zs_aload rfl rfl ?_
    refine zs_getR (x := 1) rfl rfl rfl ?_
    refine z_callV (k := 1) (as0 := []) (r := []) rfl rfl rfl (Nat.le_of_ble_eq_true rfl) (z_oI h (fun v5 D4 h => ?_) (fun _ _ h => h))
    refine zs_istore (ls1 := [some (.ref 0), some (.int (z_i (z_b b1))), some (.int (z_i v5)), none]) rfl rfl rfl ?_
    refine zs_iload rfl rfl ?_
    refine zs_pushI (-2) rfl rfl ?_
    obtain ⟨g6, h⟩ := h
    obtain ⟨h9, h10⟩ := h
    refine zs_cne rfl g6 (z_rk rfl) (fun c => ?_) (fun c => ?_)
    · have h := h9 c
      exact v_tGet_40 h
    · have h := h10 c
      refine zs_aload rfl rfl ?_
      refine zs_getR (x := 1) rfl rfl rfl ?_
      refine z_callV (k := 1) (as0 := []) (r := []) rfl rfl rfl (Nat.le_of_ble_eq_true rfl) (z_oI h (fun v8 D7 h => ?_) (fun _ _ h => h))
      refine zs_istore (ls1 := [some (.ref 0), some (.int (z_i (z_b b1))), some (.int (z_i v8)), none]) rfl rfl rfl ?_
      exact v_tGet_40 h
  · have h := h14 c
    refine zs_aload rfl rfl ?_
    refine zs_getR (x := 15) rfl rfl rfl ?_
    refine z_callV (k := 15) (as0 := []) (r := []) rfl rfl rfl (Nat.le_of_ble_eq_true rfl) (z_oI h (fun v12 D11 h => ?_) (fun _ _ h => h))
    exact zs_iret rfl h
theorem r_tGet {n d : Nat} {b1 : Bool} {D : z_D} {K : Int → z_D → Prop} {T : Nat → z_D → Prop}  (h : w_tGet_0 n d b1 D K T) : z_c n (d + 1) 61 [.ref 0, .int (z_i (z_b b1))] D (z_qI K T) :=
  z_enter (Nat.le_of_ble_eq_true rfl) rfl (fun X => v_tGet_0 h)
-- 62: TokenMouth.getExpanded()I
def w_tGetExpanded_0 (n d : Nat)  (D : z_D) (H2 : Int → z_D → Prop) (K : Int → z_D → Prop) (T : Nat → z_D → Prop) : Prop :=
  H2 0 D
theorem v_tGetExpanded_0 {n d : Nat} {X : z_Xt}   {D : z_D} {H2 : Int → z_D → Prop} {K : Int → z_D → Prop} {T : Nat → z_D → Prop} (hH2 : ∀ (a1 : Int) (o2 : Option Value) (o3 : Option Value) (D : z_D), z_nl o2 → z_nl o3 → H2 a1 D → z_w n d (k_tb 62) X 2 [some (.ref 0), some (.int (z_i a1)), o2, o3] [] D (z_qI K T)) (h : w_tGetExpanded_0 n d D H2 K T) : z_w n d (k_tb 62) X 0 [some (.ref 0), none, none, none] [] D (z_qI K T) := by
  unfold w_tGetExpanded_0 at h
  refine zs_pushI (0) rfl rfl ?_
  refine zs_istore (ls1 := [some (.ref 0), some (.int (z_i 0)), none, none]) rfl rfl rfl ?_
  exact hH2 _ _ _ _ (by first | assumption | exact trivial) (by first | assumption | exact trivial) h
def w_tGetExpanded_2 (n d : Nat) (a1 : Int) (D : z_D) (H2 : Int → z_D → Prop) (K : Int → z_D → Prop) (T : Nat → z_D → Prop) : Prop :=
  (z_r a1) ∧
  ((200 < a1) →
    z_c n d 48 [.ref 0, .int (z_i 5)] D (z_qI (fun v3 D2 => 
      K v3 D2) T)) ∧
  ((a1 ≤ 200) →
    z_c n d 61 [.ref 0, .int (z_i (z_b true))] D (z_qI (fun v5 D4 => 
      z_c n d 55 [.ref 0, .int (z_i v5)] D4 (z_qI (fun v7 D6 => 
        z_c n d 57 [.int (z_i v7)] D6 (z_qZ (fun v9 D8 => 
          ((v9 = true) →
            z_c n d 79 [.ref 0, .int (z_i v7)] D8 (z_qV (fun D10 => 
              H2 (a1 + 1) D10) T)) ∧
          ((v9 = false) →
            K v5 D8)) T)) T)) T))
theorem v_tGetExpanded_2 {n d : Nat} {X : z_Xt} {a1 : Int} {o2 : Option Value} {o3 : Option Value} {D : z_D} {H2 : Int → z_D → Prop} {K : Int → z_D → Prop} {T : Nat → z_D → Prop} (hH2 : ∀ (a1 : Int) (o2 : Option Value) (o3 : Option Value) (D : z_D), z_nl o2 → z_nl o3 → H2 a1 D → z_w n d (k_tb 62) X 2 [some (.ref 0), some (.int (z_i a1)), o2, o3] [] D (z_qI K T)) (n2 : z_nl o2) (n3 : z_nl o3) (h : w_tGetExpanded_2 n d a1 D H2 K T) : z_w n d (k_tb 62) X 2 [some (.ref 0), some (.int (z_i a1)), o2, o3] [] D (z_qI K T) := by
  unfold w_tGetExpanded_2 at h
  refine zs_iload rfl rfl ?_
  refine zs_pushI (200) rfl rfl ?_
  obtain ⟨g1, h⟩ := h
  obtain ⟨h13, h14⟩ := h
  refine zs_cgt rfl g1 (z_rk rfl) (fun c => ?_) (fun c => ?_)
  · have h := h13 c
    refine zs_aload rfl rfl ?_
    refine zs_pushI (5) rfl rfl ?_
    refine z_callV (k := 0) (as0 := [.int (z_i 5)]) (r := []) rfl rfl rfl (Nat.le_of_ble_eq_true rfl) (z_oI h (fun v3 D2 h => ?_) (fun _ _ h => h))
    exact zs_iret rfl h
  · have h := h14 c
    refine zs_aload rfl rfl ?_
    refine zs_pushI (1) rfl rfl ?_
    refine z_callV (k := 0) (as0 := [.int (z_i (z_b true))]) (r := []) rfl rfl rfl (Nat.le_of_ble_eq_true rfl) (z_oI h (fun v5 D4 h => ?_) (fun _ _ h => h))
    refine zs_istore (ls1 := [some (.ref 0), some (.int (z_i a1)), some (.int (z_i v5)), o3]) rfl rfl rfl ?_
    refine zs_aload rfl rfl ?_
    refine zs_iload rfl rfl ?_
    refine z_callV (k := 0) (as0 := [.int (z_i v5)]) (r := []) rfl rfl rfl (Nat.le_of_ble_eq_true rfl) (z_oI h (fun v7 D6 h => ?_) (fun _ _ h => h))
    refine zs_istore (ls1 := [some (.ref 0), some (.int (z_i a1)), some (.int (z_i v5)), some (.int (z_i v7))]) rfl rfl rfl ?_
    refine zs_iload rfl rfl ?_
    refine z_callS (as0 := [.int (z_i v7)]) (r := []) rfl rfl (Nat.le_of_ble_eq_true rfl) (z_oZ h (fun v9 D8 h => ?_) (fun _ _ h => h))
    obtain ⟨h11, h12⟩ := h
    refine zs_bne rfl (fun c => ?_) (fun c => ?_)
    · have h := h11 c
      refine zs_aload rfl rfl ?_
      refine zs_iload rfl rfl ?_
      refine z_callV (k := 0) (as0 := [.int (z_i v7)]) (r := []) rfl rfl rfl (Nat.le_of_ble_eq_true rfl) (z_oV h (fun D10 h => ?_) (fun _ _ h => h))
      refine zs_iinc (a := a1) (1) (ls1 := [some (.ref 0), some (.int (z_i (a1 + 1))), some (.int (z_i v5)), some (.int (z_i v7))]) rfl rfl rfl rfl ?_
      refine zs_goto rfl ?_
      exact hH2 _ _ _ _ (by first | assumption | exact trivial) (by first | assumption | exact trivial) h
    · have h := h12 c
      refine zs_iload rfl rfl ?_
      exact zs_iret rfl h
theorem r_tGetExpanded {n d : Nat}  {D : z_D} {K : Int → z_D → Prop} {T : Nat → z_D → Prop}  (I2 : Nat → Int → z_D → Prop) (hE : w_tGetExpanded_0 n d D (fun a1 D => ∃ m, I2 m a1 D) K T) (h2 : ∀ (mm : Nat) (a1 : Int) (D : z_D), I2 mm a1 D → w_tGetExpanded_2 n d a1 D (fun a1 D => ∃ m, m < mm ∧ I2 m a1 D) K T) : z_c n (d + 1) 62 [.ref 0] D (z_qI K T) := by
  refine z_enter (Nat.le_of_ble_eq_true rfl) rfl (fun X => ?_)
  have key : ∀ m, (∀ (a1 : Int) (o2 : Option Value) (o3 : Option Value) (D : z_D), z_nl o2 → z_nl o3 → I2 m a1 D → z_w n d (k_tb 62) X 2 [some (.ref 0), some (.int (z_i a1)), o2, o3] [] D (z_qI K T)) := by
    intro m
    induction m using Nat.strongRecOn with
    | _ mm ih =>
      exact fun a1 o2 o3 D n2 n3 hI => v_tGetExpanded_2 (fun a1 o2 o3 D n2 n3 ⟨m, hm, hI⟩ => (ih m hm) _ _ _ _ n2 n3 hI) n2 n3 (h2 mm a1 D hI)
  exact v_tGetExpanded_0 (fun a1 o2 o3 D n2 n3 ⟨m, hI⟩ => (key m) _ _ _ _ n2 n3 hI) hE
-- 63: TokenMouth.putBack(I)V
def w_tPutBack_0 (n d : Nat) (a1 : Int) (D : z_D)  (K : z_D → Prop) (T : Nat → z_D → Prop) : Prop :=
  z_c n d 27 [.ref 15, .int (z_i a1)] D (z_qZ (fun v2 D1 => 
    ((v2 = true) →
      K D1) ∧
    ((v2 = false) →
      z_c n d 48 [.ref 0, .int (z_i 5)] D1 (z_qI (fun v4 D3 => 
        K D3) T))) T)
theorem v_tPutBack_0 {n d : Nat} {X : z_Xt} {a1 : Int}  {D : z_D}  {K : z_D → Prop} {T : Nat → z_D → Prop}  (h : w_tPutBack_0 n d a1 D K T) : z_w n d (k_tb 63) X 0 [some (.ref 0), some (.int (z_i a1))] [] D (z_qV K T) := by
  unfold w_tPutBack_0 at h
  refine zs_aload rfl rfl ?_
  refine zs_getR (x := 15) rfl rfl rfl ?_
  refine zs_iload rfl rfl ?_
  refine z_callV (k := 15) (as0 := [.int (z_i a1)]) (r := []) rfl rfl rfl (Nat.le_of_ble_eq_true rfl) (z_oZ h (fun v2 D1 h => ?_) (fun _ _ h => h))
  obtain ⟨h5, h6⟩ := h
  refine zs_bne rfl (fun c => ?_) (fun c => ?_)
  · have h := h5 c
    exact zs_ret rfl h
  · have h := h6 c
    refine zs_aload rfl rfl ?_
    refine zs_pushI (5) rfl rfl ?_
    refine z_callV (k := 0) (as0 := [.int (z_i 5)]) (r := []) rfl rfl rfl (Nat.le_of_ble_eq_true rfl) (z_oI h (fun v4 D3 h => ?_) (fun _ _ h => h))
    refine zs_pop rfl rfl ?_
    exact zs_ret rfl h
theorem r_tPutBack {n d : Nat} {a1 : Int} {D : z_D} {K : z_D → Prop} {T : Nat → z_D → Prop}  (h : w_tPutBack_0 n d a1 D K T) : z_c n (d + 1) 63 [.ref 0, .int (z_i a1)] D (z_qV K T) :=
  z_enter (Nat.le_of_ble_eq_true rfl) rfl (fun X => v_tPutBack_0 h)
