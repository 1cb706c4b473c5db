/-! what the methods mean; printed by wip/whole/dec.py -/
-- 133: TokenMouthModel.expand(I)V
def w_mExpand_0 (n d : Nat) (a1 : Int) (D : z_D) (H7 : Int → Int → z_D → Prop) (K : z_D → Prop) (T : Nat → z_D → Prop) : Prop :=
  H7 a1 (D.1 336 31) D
theorem v_mExpand_0 {n d : Nat} {X : z_Xt} {a1 : Int}  {D : z_D} {H7 : Int → Int → z_D → Prop} {K : z_D → Prop} {T : Nat → z_D → Prop} (hH7 : ∀ (a2 : Int) (a3 : Int) (o1 : Option Value) (D : z_D), z_nl o1 → H7 a2 a3 D → z_w n d (k_tb 133) X 7 [some (.ref 336), o1, some (.int (z_i a2)), some (.int (z_i a3))] [] D (z_qV K T)) (h : w_mExpand_0 n d a1 D H7 K T) : z_w n d (k_tb 133) X 0 [some (.ref 336), some (.int (z_i a1)), none, none] [] D (z_qV K T) := by
  unfold w_mExpand_0 at h
  refine zs_iload rfl rfl ?_
  refine zs_istore (ls1 := [some (.ref 336), some (.int (z_i a1)), some (.int (z_i a1)), none]) rfl rfl rfl ?_
  refine zs_aload rfl rfl ?_
  refine zs_getI rfl rfl ?_
  refine zs_istore (ls1 := [some (.ref 336), some (.int (z_i a1)), some (.int (z_i a1)), some (.int (z_i (D.1 336 31)))]) rfl rfl rfl ?_
  exact hH7 _ _ _ _ (by first | assumption | exact trivial) h
def w_mExpand_27 (n d : Nat) (a2 : Int) (a3 : Int) (D : z_D) (H7 : Int → Int → z_D → Prop) (K : z_D → Prop) (T : Nat → z_D → Prop) : Prop :=
  (z_r a2) ∧
  ((a2 = (-1)) →
    z_c n d 131 [.ref 336] D (z_qI (fun v3 D2 => 
      H7 v3 a3 D2) T)) ∧
  ((¬ a2 = (-1)) →
    z_c n d 128 [.ref 336, .int (z_i a2)] D (z_qI (fun v5 D4 => 
      H7 v5 a3 D4) T))
theorem v_mExpand_27 {n d : Nat} {X : z_Xt} {a2 : Int} {a3 : Int} {o1 : Option Value} {D : z_D} {H7 : Int → Int → z_D → Prop} {K : z_D → Prop} {T : Nat → z_D → Prop} (hH7 : ∀ (a2 : Int) (a3 : Int) (o1 : Option Value) (D : z_D), z_nl o1 → H7 a2 a3 D → z_w n d (k_tb 133) X 7 [some (.ref 336), o1, some (.int (z_i a2)), some (.int (z_i a3))] [] D (z_qV K T)) (n1 : z_nl o1) (h : w_mExpand_27 n d a2 a3 D H7 K T) : z_w n d (k_tb 133) X 27 [some (.ref 336), o1, some (.int (z_i a2)), some (.int (z_i a3))] [] D (z_qV K T) := by
  unfold w_mExpand_27 at h
  refine zs_iload rfl rfl ?_
  refine zs_pushI (-1) rfl rfl ?_
  obtain ⟨g1, h⟩ := h
  obtain ⟨h6, h7⟩ := h
  refine zs_ceq rfl g1 (z_rk rfl) (fun c => ?_) (fun c => ?_)
  · have h := h6 c
    refine zs_aload rfl rfl ?_
    refine z_callV (k := 336) (as0 := []) (r := []) rfl rfl rfl (Nat.le_of_ble_eq_true rfl) (z_oI h (fun v3 D2 h => ?_) (fun _ _ h => h))
    refine zs_istore (ls1 := [some (.ref 336), o1, some (.int (z_i v3)), some (.int (z_i a3))]) rfl rfl ((z_st1 rfl n1).trans rfl) ?_
    refine zs_goto rfl ?_
    exact hH7 _ _ _ _ (by first | assumption | exact trivial) h
  · have h := h7 c
    refine zs_aload rfl rfl ?_
    refine zs_iload rfl rfl ?_
    refine z_callV (k := 336) (as0 := [.int (z_i a2)]) (r := []) rfl rfl rfl (Nat.le_of_ble_eq_true rfl) (z_oI h (fun v5 D4 h => ?_) (fun _ _ h => h))
    refine zs_goto rfl ?_
    refine zs_istore (ls1 := [some (.ref 336), o1, some (.int (z_i v5)), some (.int (z_i a3))]) rfl rfl ((z_st1 rfl n1).trans rfl) ?_
    refine zs_goto rfl ?_
    exact hH7 _ _ _ _ (by first | assumption | exact trivial) h
def w_mExpand_7 (n d : Nat) (a2 : Int) (a3 : Int) (D : z_D) (H7 : Int → Int → z_D → Prop) (K : z_D → Prop) (T : Nat → z_D → Prop) : Prop :=
  (z_r (D.1 336 5)) ∧
  ((¬ (D.1 336 5) = 0) →
    K D) ∧
  (((D.1 336 5) = 0) →
    (z_r a2) ∧
    ((¬ a2 = (-1)) →
      w_mExpand_27 n d a2 a3 D H7 K T) ∧
    ((a2 = (-1)) →
      (z_r (D.1 336 31)) ∧ (z_r a3) ∧
      (((D.1 336 31) ≤ a3) →
        K D) ∧
      ((a3 < (D.1 336 31)) →
        w_mExpand_27 n d a2 a3 D H7 K T)))
theorem v_mExpand_7 {n d : Nat} {X : z_Xt} {a2 : Int} {a3 : Int} {o1 : Option Value} {D : z_D} {H7 : Int → Int → z_D → Prop} {K : z_D → Prop} {T : Nat → z_D → Prop} (hH7 : ∀ (a2 : Int) (a3 : Int) (o1 : Option Value) (D : z_D), z_nl o1 → H7 a2 a3 D → z_w n d (k_tb 133) X 7 [some (.ref 336), o1, some (.int (z_i a2)), some (.int (z_i a3))] [] D (z_qV K T)) (n1 : z_nl o1) (h : w_mExpand_7 n d a2 a3 D H7 K T) : z_w n d (k_tb 133) X 7 [some (.ref 336), o1, some (.int (z_i a2)), some (.int (z_i a3))] [] D (z_qV K T) := by
  unfold w_mExpand_7 at h
  refine zs_aload rfl rfl ?_
  refine zs_getI rfl rfl ?_
  obtain ⟨g1, h⟩ := h
  obtain ⟨h9, h10⟩ := h
  refine zs_ifne rfl g1 (fun c => ?_) (fun c => ?_)
  · have h := h9 c
    exact zs_ret rfl h
  · have h := h10 c
    refine zs_iload rfl rfl ?_
    refine zs_pushI (-1) rfl rfl ?_
    obtain ⟨g2, h⟩ := h
    obtain ⟨h7, h8⟩ := h
    refine zs_cne rfl g2 (z_rk rfl) (fun c => ?_) (fun c => ?_)
    · have h := h7 c
      exact v_mExpand_27 hH7 (by first | assumption | exact trivial) h
    · have h := h8 c
      refine zs_aload rfl rfl ?_
      refine zs_getI rfl rfl ?_
      refine zs_iload rfl rfl ?_
      obtain ⟨g3, g4, h⟩ := h
      obtain ⟨h5, h6⟩ := h
      refine zs_cle rfl g3 g4 (fun c => ?_) (fun c => ?_)
      · have h := h5 c
        exact zs_ret rfl h
      · have h := h6 c
        exact v_mExpand_27 hH7 (by first | assumption | exact trivial) h
theorem r_mExpand {n d : Nat} {a1 : Int} {D : z_D} {K : z_D → Prop} {T : Nat → z_D → Prop}  (I7 : Nat → Int → Int → z_D → Prop) (hE : w_mExpand_0 n d a1 D (fun a2 a3 D => ∃ m, I7 m a2 a3 D) K T) (h7 : ∀ (mm : Nat) (a2 : Int) (a3 : Int) (D : z_D), I7 mm a2 a3 D → w_mExpand_7 n d a2 a3 D (fun a2 a3 D => ∃ m, m < mm ∧ I7 m a2 a3 D) K T) : z_c n (d + 1) 133 [.ref 336, .int (z_i a1)] D (z_qV K T) := by
  refine z_enter (Nat.le_of_ble_eq_true rfl) rfl (fun X => ?_)
  have key : ∀ m, (∀ (a2 : Int) (a3 : Int) (o1 : Option Value) (D : z_D), z_nl o1 → I7 m a2 a3 D → z_w n d (k_tb 133) X 7 [some (.ref 336), o1, some (.int (z_i a2)), some (.int (z_i a3))] [] D (z_qV K T)) := by
    intro m
    induction m using Nat.strongRecOn with
    | _ mm ih =>
      exact fun a2 a3 o1 D n1 hI => v_mExpand_7 (fun a2 a3 o1 D n1 ⟨m, hm, hI⟩ => (ih m hm) _ _ _ _ n1 hI) n1 (h7 mm a2 a3 D hI)
  exact v_mExpand_0 (fun a2 a3 o1 D n1 ⟨m, hI⟩ => (key m) _ _ _ _ n1 hI) hE
-- 134: TokenMouthModel.needExpanded()I
def w_mNeedExpanded_0 (n d : Nat)  (D : z_D) (H5 : Int → z_D → Prop) (K : Int → z_D → Prop) (T : Nat → z_D → Prop) : Prop :=
  z_c n d 105 [.ref 336] D (z_qI (fun v2 D1 => 
    H5 v2 D1) T)
theorem v_mNeedExpanded_0 {n d : Nat} {X : z_Xt}   {D : z_D} {H5 : Int → z_D → Prop} {K : Int → z_D → Prop} {T : Nat → z_D → Prop} (hH5 : ∀ (a1 : Int) (D : z_D), H5 a1 D → z_w n d (k_tb 134) X 5 [some (.ref 336), some (.int (z_i a1))] [] D (z_qI K T)) (h : w_mNeedExpanded_0 n d D H5 K T) : z_w n d (k_tb 134) X 0 [some (.ref 336), none] [] D (z_qI K T) := by
  unfold w_mNeedExpanded_0 at h
  refine zs_aload rfl rfl ?_
  refine z_callV (k := 336) (as0 := []) (r := []) rfl rfl rfl (Nat.le_of_ble_eq_true rfl) (z_oI h (fun v2 D1 h => ?_) (fun _ _ h => h))
  refine zs_istore (ls1 := [some (.ref 336), some (.int (z_i v2))]) rfl rfl rfl ?_
  exact hH5 _  _  h
def w_mNeedExpanded_44 (n d : Nat) (a1 : Int) (D : z_D)  (K : Int → z_D → Prop) (T : Nat → z_D → Prop) : Prop :=
  (z_r (D.1 336 5)) ∧
  ((¬ (D.1 336 5) = 0) →
    K (-1) D) ∧
  (((D.1 336 5) = 0) →
    K a1 D)
theorem v_mNeedExpanded_44 {n d : Nat} {X : z_Xt} {a1 : Int}  {D : z_D}  {K : Int → z_D → Prop} {T : Nat → z_D → Prop}  (h : w_mNeedExpanded_44 n d a1 D K T) : z_w n d (k_tb 134) X 44 [some (.ref 336), some (.int (z_i a1))] [] D (z_qI K T) := by
  unfold w_mNeedExpanded_44 at h
  refine zs_aload rfl rfl ?_
  refine zs_getI rfl rfl ?_
  obtain ⟨g1, h⟩ := h
  obtain ⟨h2, h3⟩ := h
  refine zs_ifne rfl g1 (fun c => ?_) (fun c => ?_)
  · have h := h2 c
    refine zs_pushI (-1) rfl rfl ?_
    exact zs_iret rfl h
  · have h := h3 c
    refine zs_iload rfl rfl ?_
    refine zs_goto rfl ?_
    exact zs_iret rfl h
def w_mNeedExpanded_5 (n d : Nat) (a1 : Int) (D : z_D) (H5 : Int → z_D → Prop) (K : Int → z_D → Prop) (T : Nat → z_D → Prop) : Prop :=
  (z_r (D.1 336 5)) ∧
  ((¬ (D.1 336 5) = 0) →
    w_mNeedExpanded_44 n d a1 D K T) ∧
  (((D.1 336 5) = 0) →
    z_c n d 112 [.ref 336, .int (z_i a1)] D (z_qZ (fun v3 D2 => 
      ((v3 = false) →
        w_mNeedExpanded_44 n d a1 D2 K T) ∧
      ((v3 = true) →
        z_c n d 133 [.ref 336, .int (z_i a1)] D2 (z_qV (fun D4 => 
          (z_r (D4.1 336 5)) ∧
          ((¬ (D4.1 336 5) = 0) →
            H5 (-1) D4) ∧
          (((D4.1 336 5) = 0) →
            z_c n d 105 [.ref 336] D4 (z_qI (fun v7 D6 => 
              H5 v7 D6) T))) T))) T))
theorem v_mNeedExpanded_5 {n d : Nat} {X : z_Xt} {a1 : Int}  {D : z_D} {H5 : Int → z_D → Prop} {K : Int → z_D → Prop} {T : Nat → z_D → Prop} (hH5 : ∀ (a1 : Int) (D : z_D), H5 a1 D → z_w n d (k_tb 134) X 5 [some (.ref 336), some (.int (z_i a1))] [] D (z_qI K T)) (h : w_mNeedExpanded_5 n d a1 D H5 K T) : z_w n d (k_tb 134) X 5 [some (.ref 336), some (.int (z_i a1))] [] D (z_qI K T) := by
  unfold w_mNeedExpanded_5 at h
  refine zs_aload rfl rfl ?_
  refine zs_getI rfl rfl ?_
  obtain ⟨g1, h⟩ := h
  obtain ⟨h12, h13⟩ := h
  refine zs_ifne rfl g1 (fun c => ?_) (fun c => ?_)
  · have h := h12 c
    exact v_mNeedExpanded_44 h
  · have h := h13 c
    refine zs_aload rfl rfl ?_
    refine zs_iload rfl rfl ?_
    refine z_callV (k := 336) (as0 := [.int (z_i a1)]) (r := []) rfl rfl rfl (Nat.le_of_ble_eq_true rfl) (z_oZ h (fun v3 D2 h => ?_) (fun _ _ h => h))
    obtain ⟨h10, h11⟩ := h
    refine zs_beq rfl (fun c => ?_) (fun c => ?_)
    · have h := h10 c
      exact v_mNeedExpanded_44 h
    · have h := h11 c
      refine zs_aload rfl rfl ?_
      refine zs_iload rfl rfl ?_
      refine z_callV (k := 336) (as0 := [.int (z_i a1)]) (r := []) rfl rfl rfl (Nat.le_of_ble_eq_true rfl) (z_oV h (fun D4 h => ?_) (fun _ _ h => h))
      refine zs_aload rfl rfl ?_
      refine zs_getI rfl rfl ?_
      obtain ⟨g5, h⟩ := h
      obtain ⟨h8, h9⟩ := h
      refine zs_ifne rfl g5 (fun c => ?_) (fun c => ?_)
      · have h := h8 c
        refine zs_pushI (-1) rfl rfl ?_
        refine zs_istore (ls1 := [some (.ref 336), some (.int (z_i (-1)))]) rfl rfl rfl ?_
        refine zs_goto rfl ?_
        exact hH5 _  _  h
      · have h := h9 c
        refine zs_aload rfl rfl ?_
        refine z_callV (k := 336) (as0 := []) (r := []) rfl rfl rfl (Nat.le_of_ble_eq_true rfl) (z_oI h (fun v7 D6 h => ?_) (fun _ _ h => h))
        refine zs_goto rfl ?_
        refine zs_istore (ls1 := [some (.ref 336), some (.int (z_i v7))]) rfl rfl rfl ?_
        refine zs_goto rfl ?_
        exact hH5 _  _  h
theorem r_mNeedExpanded {n d : Nat}  {D : z_D} {K : Int → z_D → Prop} {T : Nat → z_D → Prop}  (I5 : Nat → Int → z_D → Prop) (hE : w_mNeedExpanded_0 n d D (fun a1 D => ∃ m, I5 m a1 D) K T) (h5 : ∀ (mm : Nat) (a1 : Int) (D : z_D), I5 mm a1 D → w_mNeedExpanded_5 n d a1 D (fun a1 D => ∃ m, m < mm ∧ I5 m a1 D) K T) : z_c n (d + 1) 134 [.ref 336] D (z_qI K T) := by
  refine z_enter (Nat.le_of_ble_eq_true rfl) rfl (fun X => ?_)
  have key : ∀ m, (∀ (a1 : Int) (D : z_D), I5 m a1 D → z_w n d (k_tb 134) X 5 [some (.ref 336), some (.int (z_i a1))] [] D (z_qI K T)) := by
    intro m
    induction m using Nat.strongRecOn with
    | _ mm ih =>
      exact fun a1 D hI => v_mNeedExpanded_5 (fun a1 D ⟨m, hm, hI⟩ => (ih m hm) _ _  hI) (h5 mm a1 D hI)
  exact v_mNeedExpanded_0 (fun a1 D ⟨m, hI⟩ => (key m) _ _  hI) hE
-- 135: TokenMouthModel.needName()I
def w_mNeedName_0 (n d : Nat)  (D : z_D)  (K : Int → z_D → Prop) (T : Nat → z_D → Prop) : Prop :=
  z_c n d 105 [.ref 336] D (z_qI (fun v2 D1 => 
    (z_r v2) ∧
    ((¬ v2 = (-1)) →
      z_c n d 107 [.int (z_i v2)] D1 (z_qZ (fun v5 D4 => 
        ((v5 = false) →
          z_c n d 98 [.ref 336, .int (z_i 4)] D4 (z_qI (fun v7 D6 => 
            K v7 D6) T)) ∧
        ((v5 = true) →
          z_c n d 109 [.int (z_i v2)] D4 (z_qI (fun v9 D8 => 
            K (v9 - 4096) D8) T))) T)) ∧
    ((v2 = (-1)) →
      K (-1) D1)) T)
theorem v_mNeedName_0 {n d : Nat} {X : z_Xt}   {D : z_D}  {K : Int → z_D → Prop} {T : Nat → z_D → Prop}  (h : w_mNeedName_0 n d D K T) : z_w n d (k_tb 135) X 0 [some (.ref 336), none] [] D (z_qI K T) := by
  unfold w_mNeedName_0 at h
  refine zs_aload rfl rfl ?_
  refine z_callV (k := 336) (as0 := []) (r := []) rfl rfl rfl (Nat.le_of_ble_eq_true rfl) (z_oI h (fun v2 D1 h => ?_) (fun _ _ h => h))
  refine zs_istore (ls1 := [some (.ref 336), some (.int (z_i v2))]) rfl rfl rfl ?_
  refine zs_iload rfl rfl ?_
  refine zs_pushI (-1) rfl rfl ?_
  obtain ⟨g3, h⟩ := h
  obtain ⟨h12, h13⟩ := h
  refine zs_cne rfl g3 (z_rk rfl) (fun c => ?_) (fun c => ?_)
  · have h := h12 c
    refine zs_iload rfl rfl ?_
    refine z_callS (as0 := [.int (z_i v2)]) (r := []) rfl rfl (Nat.le_of_ble_eq_true rfl) (z_oZ h (fun v5 D4 h => ?_) (fun _ _ h => h))
    obtain ⟨h10, h11⟩ := h
    refine zs_beq rfl (fun c => ?_) (fun c => ?_)
    · have h := h10 c
      refine zs_aload rfl rfl ?_
      refine zs_pushI (4) rfl rfl ?_
      refine z_callV (k := 336) (as0 := [.int (z_i 4)]) (r := []) rfl rfl rfl (Nat.le_of_ble_eq_true rfl) (z_oI h (fun v7 D6 h => ?_) (fun _ _ h => h))
      exact zs_iret rfl h
    · have h := h11 c
      refine zs_iload rfl rfl ?_
      refine z_callS (as0 := [.int (z_i v2)]) (r := []) rfl rfl (Nat.le_of_ble_eq_true rfl) (z_oI h (fun v9 D8 h => ?_) (fun _ _ h => h))
      refine zs_pushI (4096) rfl rfl ?_
      refine zs_sub (a := v9) (b := 4096) rfl ?_
      refine zs_goto rfl ?_
      exact zs_iret rfl h
  · have h := h13 c
    refine zs_pushI (-1) rfl rfl ?_
    exact zs_iret rfl h
theorem r_mNeedName {n d : Nat}  {D : z_D} {K : Int → z_D → Prop} {T : Nat → z_D → Prop}  (h : w_mNeedName_0 n d D K T) : z_c n (d + 1) 135 [.ref 336] D (z_qI K T) :=
  z_enter (Nat.le_of_ble_eq_true rfl) rfl (fun X => v_mNeedName_0 h)
-- 136: TokenMouthModel.readText()Z
def w_mReadText_0 (n d : Nat)  (D : z_D) (H19 : Int → z_D → Prop) (K : Bool → z_D → Prop) (T : Nat → z_D → Prop) : Prop :=
  (0 ≤ (D.1 336 23) ∧ (D.1 336 23) < 61) ∧
  ∀ D2, D2 = z_uz D 348 (Int.toNat (D.1 336 23)) 0 →
  (0 ≤ (D.1 336 23) ∧ (D.1 336 23) < 61) ∧
  ∀ D4, D4 = z_uz D2 352 (Int.toNat (D.1 336 23)) 0 →
  H19 (D.1 336 23) D4
theorem v_mReadText_0 {n d : Nat} {X : z_Xt}   {D : z_D} {H19 : Int → z_D → Prop} {K : Bool → z_D → Prop} {T : Nat → z_D → Prop} (hH19 : ∀ (a1 : Int) (o2 : Option Value) (o3 : Option Value) (D : z_D), z_nl o2 → z_nl o3 → H19 a1 D → z_w n d (k_tb 136) X 19 [some (.ref 336), some (.int (z_i a1)), o2, o3] [] D (z_qZ K T)) (h : w_mReadText_0 n d D H19 K T) : z_w n d (k_tb 136) X 0 [some (.ref 336), none, none, none] [] D (z_qZ K T) := by
  unfold w_mReadText_0 at h
  refine zs_aload rfl rfl ?_
  refine zs_getI rfl rfl ?_
  refine zs_istore (ls1 := [some (.ref 336), some (.int (z_i (D.1 336 23))), none, none]) rfl rfl rfl ?_
  refine zs_aload rfl rfl ?_
  refine zs_getR (x := 348) rfl rfl rfl ?_
  refine zs_iload rfl rfl ?_
  refine zs_pushI (0) rfl rfl ?_
  obtain ⟨g1, h⟩ := h
  refine zs_iast rfl rfl (by decide) g1 (fun D2 eD2 => ?_)
  have h := h D2 eD2
  refine zs_aload rfl rfl ?_
  refine zs_getR (x := 352) rfl rfl rfl ?_
  refine zs_iload rfl rfl ?_
  refine zs_pushI (0) rfl rfl ?_
  obtain ⟨g3, h⟩ := h
  refine zs_iast rfl rfl (by decide) g3 (fun D4 eD4 => ?_)
  have h := h D4 eD4
  exact hH19 _ _ _ _ (by first | assumption | exact trivial) (by first | assumption | exact trivial) h
def w_mReadText_40 (n d : Nat) (a2 : Int) (D : z_D)  (K : Bool → z_D → Prop) (T : Nat → z_D → Prop) : Prop :=
  (z_r a2) ∧
  ((a2 = (-1)) →
    K false D) ∧
  ((¬ a2 = (-1)) →
    K true D)
theorem v_mReadText_40 {n d : Nat} {X : z_Xt} {a2 : Int} {o1 : Option Value} {o3 : Option Value} {D : z_D}  {K : Bool → z_D → Prop} {T : Nat → z_D → Prop} (n1 : z_nl o1) (n3 : z_nl o3) (h : w_mReadText_40 n d a2 D K T) : z_w n d (k_tb 136) X 40 [some (.ref 336), o1, some (.int (z_i a2)), o3] [] D (z_qZ K T) := by
  unfold w_mReadText_40 at h
  refine zs_iload rfl rfl ?_
  refine zs_pushI (-1) rfl rfl ?_
  obtain ⟨g1, h⟩ := h
  obtain ⟨h2, h3⟩ := h
  refine zs_ceq rfl g1 (z_rk rfl) (fun c => ?_) (fun c => ?_)
  · have h := h2 c
    refine zs_pushI (0) rfl rfl ?_
    exact zs_zret (b := false) rfl h
  · have h := h3 c
    refine zs_pushI (1) rfl rfl ?_
    refine zs_goto rfl ?_
    exact zs_zret (b := true) rfl h
def w_mReadText_106 (n d : Nat)  (D : z_D)  (K : Bool → z_D → Prop) (T : Nat → z_D → Prop) : Prop :=
  z_c n d 98 [.ref 336, .int (z_i 4)] D (z_qI (fun v2 D1 => 
    (z_r v2) ∧
    ((v2 = (-1)) →
      K false D1) ∧
    ((¬ v2 = (-1)) →
      K true D1)) T)
theorem v_mReadText_106 {n d : Nat} {X : z_Xt}  {o1 : Option Value} {o2 : Option Value} {o3 : Option Value} {D : z_D}  {K : Bool → z_D → Prop} {T : Nat → z_D → Prop} (n1 : z_nl o1) (n2 : z_nl o2) (n3 : z_nl o3) (h : w_mReadText_106 n d D K T) : z_w n d (k_tb 136) X 106 [some (.ref 336), o1, o2, o3] [] D (z_qZ K T) := by
  unfold w_mReadText_106 at h
  refine zs_aload rfl rfl ?_
  refine zs_pushI (4) rfl rfl ?_
  refine z_callV (k := 336) (as0 := [.int (z_i 4)]) (r := []) rfl rfl rfl (Nat.le_of_ble_eq_true rfl) (z_oI h (fun v2 D1 h => ?_) (fun _ _ h => h))
  refine zs_pushI (-1) rfl rfl ?_
  obtain ⟨g3, h⟩ := h
  obtain ⟨h4, h5⟩ := h
  refine zs_ceq rfl g3 (z_rk rfl) (fun c => ?_) (fun c => ?_)
  · have h := h4 c
    refine zs_pushI (0) rfl rfl ?_
    exact zs_zret (b := false) rfl h
  · have h := h5 c
    refine zs_pushI (1) rfl rfl ?_
    refine zs_goto rfl ?_
    exact zs_zret (b := true) rfl h
def w_mReadText_168 (n d : Nat) (a1 : Int) (a2 : Int) (D : z_D) (H19 : Int → z_D → Prop) (K : Bool → z_D → Prop) (T : Nat → z_D → Prop) : Prop :=
  (0 ≤ a1 ∧ a1 < 61) ∧
  (z_r (D.1 348 (Int.toNat a1))) ∧
  ((¬ (D.1 348 (Int.toNat a1)) = 12) →
    (0 ≤ a1 ∧ a1 < 61) ∧
    (0 ≤ ((13 * a1) + (D.1 348 (Int.toNat a1))) ∧ ((13 * a1) + (D.1 348 (Int.toNat a1))) < 800) ∧
    ∀ D5, D5 = z_uz D 349 (Int.toNat ((13 * a1) + (D.1 348 (Int.toNat a1)))) a2 →
    (0 ≤ a1 ∧ a1 < 61) ∧
    (0 ≤ a1 ∧ a1 < 61) ∧
    ∀ D8, D8 = z_uz D5 348 (Int.toNat a1) ((D5.1 348 (Int.toNat a1)) + 1) →
    H19 a1 D8) ∧
  (((D.1 348 (Int.toNat a1)) = 12) →
    z_c n d 98 [.ref 336, .int (z_i 5)] D (z_qI (fun v10 D9 => 
      (z_r v10) ∧
      ((v10 = (-1)) →
        K false D9) ∧
      ((¬ v10 = (-1)) →
        K true D9)) T))
theorem v_mReadText_168 {n d : Nat} {X : z_Xt} {a1 : Int} {a2 : Int} {o3 : Option Value} {D : z_D} {H19 : Int → z_D → Prop} {K : Bool → z_D → Prop} {T : Nat → z_D → Prop} (hH19 : ∀ (a1 : Int) (o2 : Option Value) (o3 : Option Value) (D : z_D), z_nl o2 → z_nl o3 → H19 a1 D → z_w n d (k_tb 136) X 19 [some (.ref 336), some (.int (z_i a1)), o2, o3] [] D (z_qZ K T)) (n3 : z_nl o3) (h : w_mReadText_168 n d a1 a2 D H19 K T) : z_w n d (k_tb 136) X 168 [some (.ref 336), some (.int (z_i a1)), some (.int (z_i a2)), o3] [] D (z_qZ K T) := by
  unfold w_mReadText_168 at h
  refine zs_aload rfl rfl ?_
  refine zs_getR (x := 348) rfl rfl rfl ?_
  refine zs_iload rfl rfl ?_
  obtain ⟨g1, h⟩ := h
  refine zs_iald rfl rfl (by decide) g1 ?_
  refine zs_pushI (12) rfl rfl ?_
  obtain ⟨g2, h⟩ := h
  obtain ⟨h14, h15⟩ := h
  refine zs_cne rfl g2 (z_rk rfl) (fun c => ?_) (fun c => ?_)
  · have h := h14 c
    refine zs_aload rfl rfl ?_
    refine zs_getR (x := 349) rfl rfl rfl ?_
    refine zs_pushI (13) rfl rfl ?_
    refine zs_iload rfl rfl ?_
    refine zs_mul (a := 13) (b := a1) rfl ?_
    refine zs_aload rfl rfl ?_
    refine zs_getR (x := 348) rfl rfl rfl ?_
    refine zs_iload rfl rfl ?_
    obtain ⟨g3, h⟩ := h
    refine zs_iald rfl rfl (by decide) g3 ?_
    refine zs_add (a := (13 * a1)) (b := (D.1 348 (Int.toNat a1))) rfl ?_
    refine zs_iload rfl rfl ?_
    obtain ⟨g4, h⟩ := h
    refine zs_iast rfl rfl (by decide) g4 (fun D5 eD5 => ?_)
    have h := h D5 eD5
    refine zs_aload rfl rfl ?_
    refine zs_getR (x := 348) rfl rfl rfl ?_
    refine zs_iload rfl rfl ?_
    refine zs_dup2 rfl rfl rfl ?_
    obtain ⟨g6, h⟩ := h
    refine zs_iald rfl rfl (by decide) g6 ?_
    refine zs_pushI (1) rfl rfl ?_
    refine zs_add (a := (D5.1 348 (Int.toNat a1))) (b := 1) rfl ?_
    obtain ⟨g7, h⟩ := h
    refine zs_iast rfl rfl (by decide) g7 (fun D8 eD8 => ?_)
    have h := h D8 eD8
    refine zs_goto rfl ?_
    exact hH19 _ _ _ _ (by first | assumption | exact trivial) (by first | assumption | exact trivial) h
  · have h := h15 c
    refine zs_aload rfl rfl ?_
    refine zs_pushI (5) rfl rfl ?_
    refine z_callV (k := 336) (as0 := [.int (z_i 5)]) (r := []) rfl rfl rfl (Nat.le_of_ble_eq_true rfl) (z_oI h (fun v10 D9 h => ?_) (fun _ _ h => h))
    refine zs_pushI (-1) rfl rfl ?_
    obtain ⟨g11, h⟩ := h
    obtain ⟨h12, h13⟩ := h
    refine zs_ceq rfl g11 (z_rk rfl) (fun c => ?_) (fun c => ?_)
    · have h := h12 c
      refine zs_pushI (0) rfl rfl ?_
      exact zs_zret (b := false) rfl h
    · have h := h13 c
      refine zs_pushI (1) rfl rfl ?_
      refine zs_goto rfl ?_
      exact zs_zret (b := true) rfl h
def w_mReadText_19 (n d : Nat) (a1 : Int) (D : z_D) (H19 : Int → z_D → Prop) (K : Bool → z_D → Prop) (T : Nat → z_D → Prop) : Prop :=
  z_c n d 105 [.ref 336] D (z_qI (fun v2 D1 => 
    z_c n d 109 [.int (z_i v2)] D1 (z_qI (fun v4 D3 => 
      (z_r v4) ∧
      ((v4 = (-1)) →
        w_mReadText_40 n d v4 D3 K T) ∧
      ((¬ v4 = (-1)) →
        z_c n d 110 [.int (z_i v4), .int (z_i 1)] D3 (z_qZ (fun v7 D6 => 
          ((v7 = false) →
            z_c n d 110 [.int (z_i v4), .int (z_i 6)] D6 (z_qZ (fun v9 D8 => 
              ((v9 = false) →
                z_c n d 110 [.int (z_i v4), .int (z_i 2)] D8 (z_qZ (fun v11 D10 => 
                  ((v11 = false) →
                    w_mReadText_168 n d a1 v4 D10 H19 K T) ∧
                  ((v11 = true) →
                    z_c n d 98 [.ref 336, .int (z_i 1)] D10 (z_qI (fun v13 D12 => 
                      (z_r v13) ∧
                      ((v13 = (-1)) →
                        K false D12) ∧
                      ((¬ v13 = (-1)) →
                        K true D12)) T))) T)) ∧
              ((v9 = true) →
                z_c n d 105 [.ref 336] D8 (z_qI (fun v20 D19 => 
                  (z_r v20) ∧
                  ((¬ v20 = (-1)) →
                    ((4096 ≤ v20) →
                      w_mReadText_106 n d D19 K T) ∧
                    ((v20 < 4096) →
                      (0 ≤ a1 ∧ a1 < 61) ∧
                      (z_r (D19.1 352 (Int.toNat a1))) ∧
                      (((D19.1 352 (Int.toNat a1)) = 4) →
                        w_mReadText_106 n d D19 K T) ∧
                      ((¬ (D19.1 352 (Int.toNat a1)) = 4) →
                        (0 ≤ a1 ∧ a1 < 61) ∧
                        (z_r (49 + (D19.1 352 (Int.toNat a1)))) ∧
                        (((z_and v20 255) = (49 + (D19.1 352 (Int.toNat a1)))) →
                          (0 ≤ a1 ∧ a1 < 61) ∧
                          (0 ≤ a1 ∧ a1 < 61) ∧
                          ∀ D28, D28 = z_uz D19 352 (Int.toNat a1) ((D19.1 352 (Int.toNat a1)) + 1) →
                          (0 ≤ a1 ∧ a1 < 61) ∧
                          w_mReadText_168 n d a1 (16384 + (D28.1 352 (Int.toNat a1))) D28 H19 K T) ∧
                        ((¬ (z_and v20 255) = (49 + (D19.1 352 (Int.toNat a1)))) →
                          w_mReadText_106 n d D19 K T)))) ∧
                  ((v20 = (-1)) →
                    K false D19)) T))) T)) ∧
          ((v7 = true) →
            w_mReadText_40 n d v4 D6 K T)) T))) T)) T)
theorem v_mReadText_19 {n d : Nat} {X : z_Xt} {a1 : Int} {o2 : Option Value} {o3 : Option Value} {D : z_D} {H19 : Int → z_D → Prop} {K : Bool → z_D → Prop} {T : Nat → z_D → Prop} (hH19 : ∀ (a1 : Int) (o2 : Option Value) (o3 : Option Value) (D : z_D), z_nl o2 → z_nl o3 → H19 a1 D → z_w n d (k_tb 136) X 19 [some (.ref 336), some (.int (z_i a1)), o2, o3] [] D (z_qZ K T)) (n2 : z_nl o2) (n3 : z_nl o3) (h : w_mReadText_19 n d a1 D H19 K T) : z_w n d (k_tb 136) X 19 [some (.ref 336), some (.int (z_i a1)), o2, o3] [] D (z_qZ K T) := by
  unfold w_mReadText_19 at h
  refine zs_aload rfl rfl ?_
  refine z_callV (k := 336) (as0 := []) (r := []) rfl rfl rfl (Nat.le_of_ble_eq_true rfl) (z_oI h (fun v2 D1 h => ?_) (fun _ _ h => h))
  refine z_callS (as0 := [.int (z_i v2)]) (r := []) rfl rfl (Nat.le_of_ble_eq_true rfl) (z_oI h (fun v4 D3 h => ?_) (fun _ _ h => h))
  refine zs_istore (ls1 := [some (.ref 336), some (.int (z_i a1)), some (.int (z_i v4)), o3]) rfl rfl rfl ?_
  refine zs_iload rfl rfl ?_
  refine zs_pushI (-1) rfl rfl ?_
  obtain ⟨g5, h⟩ := h
  obtain ⟨h42, h43⟩ := h
  refine zs_ceq rfl g5 (z_rk rfl) (fun c => ?_) (fun c => ?_)
  · have h := h42 c
    exact v_mReadText_40 (by first | assumption | exact trivial) (by first | assumption | exact trivial) h
  · have h := h43 c
    refine zs_iload rfl rfl ?_
    refine zs_pushI (1) rfl rfl ?_
    refine z_callS (as0 := [.int (z_i v4), .int (z_i 1)]) (r := []) rfl rfl (Nat.le_of_ble_eq_true rfl) (z_oZ h (fun v7 D6 h => ?_) (fun _ _ h => h))
    obtain ⟨h40, h41⟩ := h
    refine zs_beq rfl (fun c => ?_) (fun c => ?_)
    · have h := h40 c
      refine zs_iload rfl rfl ?_
      refine zs_pushI (6) rfl rfl ?_
      refine z_callS (as0 := [.int (z_i v4), .int (z_i 6)]) (r := []) rfl rfl (Nat.le_of_ble_eq_true rfl) (z_oZ h (fun v9 D8 h => ?_) (fun _ _ h => h))
      obtain ⟨h38, h39⟩ := h
      refine zs_beq rfl (fun c => ?_) (fun c => ?_)
      · have h := h38 c
        refine zs_iload rfl rfl ?_
        refine zs_pushI (2) rfl rfl ?_
        refine z_callS (as0 := [.int (z_i v4), .int (z_i 2)]) (r := []) rfl rfl (Nat.le_of_ble_eq_true rfl) (z_oZ h (fun v11 D10 h => ?_) (fun _ _ h => h))
        obtain ⟨h17, h18⟩ := h
        refine zs_beq rfl (fun c => ?_) (fun c => ?_)
        · have h := h17 c
          exact v_mReadText_168 hH19 (by first | assumption | exact trivial) h
        · have h := h18 c
          refine zs_aload rfl rfl ?_
          refine zs_pushI (1) rfl rfl ?_
          refine z_callV (k := 336) (as0 := [.int (z_i 1)]) (r := []) rfl rfl rfl (Nat.le_of_ble_eq_true rfl) (z_oI h (fun v13 D12 h => ?_) (fun _ _ h => h))
          refine zs_pushI (-1) rfl rfl ?_
          obtain ⟨g14, h⟩ := h
          obtain ⟨h15, h16⟩ := h
          refine zs_ceq rfl g14 (z_rk rfl) (fun c => ?_) (fun c => ?_)
          · have h := h15 c
            refine zs_pushI (0) rfl rfl ?_
            exact zs_zret (b := false) rfl h
          · have h := h16 c
            refine zs_pushI (1) rfl rfl ?_
            refine zs_goto rfl ?_
            exact zs_zret (b := true) rfl h
      · have h := h39 c
        refine zs_aload rfl rfl ?_
        refine z_callV (k := 336) (as0 := []) (r := []) rfl rfl rfl (Nat.le_of_ble_eq_true rfl) (z_oI h (fun v20 D19 h => ?_) (fun _ _ h => h))
        refine zs_istore (ls1 := [some (.ref 336), some (.int (z_i a1)), some (.int (z_i v4)), some (.int (z_i v20))]) rfl rfl rfl ?_
        refine zs_iload rfl rfl ?_
        refine zs_pushI (-1) rfl rfl ?_
        obtain ⟨g21, h⟩ := h
        obtain ⟨h36, h37⟩ := h
        refine zs_cne rfl g21 (z_rk rfl) (fun c => ?_) (fun c => ?_)
        · have h := h36 c
          refine zs_iload rfl rfl ?_
          refine zs_pushI (4096) rfl rfl ?_
          obtain ⟨h34, h35⟩ := h
          refine zs_cge rfl g21 (z_rk rfl) (fun c => ?_) (fun c => ?_)
          · have h := h34 c
            exact v_mReadText_106 (by first | assumption | exact trivial) (by first | assumption | exact trivial) (by first | assumption | exact trivial) h
          · have h := h35 c
            refine zs_aload rfl rfl ?_
            refine zs_getR (x := 352) rfl rfl rfl ?_
            refine zs_iload rfl rfl ?_
            obtain ⟨g22, h⟩ := h
            refine zs_iald rfl rfl (by decide) g22 ?_
            refine zs_pushI (4) rfl rfl ?_
            obtain ⟨g23, h⟩ := h
            obtain ⟨h32, h33⟩ := h
            refine zs_ceq rfl g23 (z_rk rfl) (fun c => ?_) (fun c => ?_)
            · have h := h32 c
              exact v_mReadText_106 (by first | assumption | exact trivial) (by first | assumption | exact trivial) (by first | assumption | exact trivial) h
            · have h := h33 c
              refine zs_iload rfl rfl ?_
              refine zs_pushI (255) rfl rfl ?_
              refine zs_and (a := v20) (b := 255) rfl ?_
              refine zs_pushI (49) rfl rfl ?_
              refine zs_aload rfl rfl ?_
              refine zs_getR (x := 352) rfl rfl rfl ?_
              refine zs_iload rfl rfl ?_
              obtain ⟨g24, h⟩ := h
              refine zs_iald rfl rfl (by decide) g24 ?_
              refine zs_add (a := 49) (b := (D19.1 352 (Int.toNat a1))) rfl ?_
              obtain ⟨g25, h⟩ := h
              obtain ⟨h30, h31⟩ := h
              refine zs_ceq rfl (z_r_toInt _) g25 (fun c => ?_) (fun c => ?_)
              · have h := h30 c
                refine zs_aload rfl rfl ?_
                refine zs_getR (x := 352) rfl rfl rfl ?_
                refine zs_iload rfl rfl ?_
                refine zs_dup2 rfl rfl rfl ?_
                obtain ⟨g26, h⟩ := h
                refine zs_iald rfl rfl (by decide) g26 ?_
                refine zs_pushI (1) rfl rfl ?_
                refine zs_add (a := (D19.1 352 (Int.toNat a1))) (b := 1) rfl ?_
                obtain ⟨g27, h⟩ := h
                refine zs_iast rfl rfl (by decide) g27 (fun D28 eD28 => ?_)
                have h := h D28 eD28
                refine zs_pushI (16384) rfl rfl ?_
                refine zs_aload rfl rfl ?_
                refine zs_getR (x := 352) rfl rfl rfl ?_
                refine zs_iload rfl rfl ?_
                obtain ⟨g29, h⟩ := h
                refine zs_iald rfl rfl (by decide) g29 ?_
                refine zs_add (a := 16384) (b := (D28.1 352 (Int.toNat a1))) rfl ?_
                refine zs_istore (ls1 := [some (.ref 336), some (.int (z_i a1)), some (.int (z_i (16384 + (D28.1 352 (Int.toNat a1))))), some (.int (z_i v20))]) rfl rfl rfl ?_
                refine zs_goto rfl ?_
                exact v_mReadText_168 hH19 (by first | assumption | exact trivial) h
              · have h := h31 c
                exact v_mReadText_106 (by first | assumption | exact trivial) (by first | assumption | exact trivial) (by first | assumption | exact trivial) h
        · have h := h37 c
          refine zs_pushI (0) rfl rfl ?_
          exact zs_zret (b := false) rfl h
    · have h := h41 c
      exact v_mReadText_40 (by first | assumption | exact trivial) (by first | assumption | exact trivial) h
theorem r_mReadText {n d : Nat}  {D : z_D} {K : Bool → z_D → Prop} {T : Nat → z_D → Prop}  (I19 : Nat → Int → z_D → Prop) (hE : w_mReadText_0 n d D (fun a1 D => ∃ m, I19 m a1 D) K T) (h19 : ∀ (mm : Nat) (a1 : Int) (D : z_D), I19 mm a1 D → w_mReadText_19 n d a1 D (fun a1 D => ∃ m, m < mm ∧ I19 m a1 D) K T) : z_c n (d + 1) 136 [.ref 336] D (z_qZ K T) := by
  refine z_enter (Nat.le_of_ble_eq_true rfl) rfl (fun X => ?_)
  have key : ∀ m, (∀ (a1 : Int) (o2 : Option Value) (o3 : Option Value) (D : z_D), z_nl o2 → z_nl o3 → I19 m a1 D → z_w n d (k_tb 136) X 19 [some (.ref 336), some (.int (z_i a1)), o2, o3] [] D (z_qZ K T)) := by
    intro m
    induction m using Nat.strongRecOn with
    | _ mm ih =>
      exact fun a1 o2 o3 D n2 n3 hI => v_mReadText_19 (fun a1 o2 o3 D n2 n3 ⟨m, hm, hI⟩ => (ih m hm) _ _ _ _ n2 n3 hI) n2 n3 (h19 mm a1 D hI)
  exact v_mReadText_0 (fun a1 o2 o3 D n2 n3 ⟨m, hI⟩ => (key m) _ _ _ _ n2 n3 hI) hE
-- 137: TokenMouthModel.readBody(Z)Z
def w_mReadBody_0 (n d : Nat) (b1 : Bool) (D : z_D) (H14 : Bool → Int → Int → z_D → Prop) (K : Bool → z_D → Prop) (T : Nat → z_D → Prop) : Prop :=
  (0 ≤ (D.1 336 23) ∧ (D.1 336 23) < 61) ∧
  ∀ D2, D2 = z_uz D 350 (Int.toNat (D.1 336 23)) 0 →
  H14 b1 (D.1 336 23) 0 D2
theorem v_mReadBody_0 {n d : Nat} {X : z_Xt} {b1 : Bool}  {D : z_D} {H14 : Bool → Int → Int → z_D → Prop} {K : Bool → z_D → Prop} {T : Nat → z_D → Prop} (hH14 : ∀ (b1 : Bool) (a2 : Int) (a3 : Int) (o4 : Option Value) (o5 : Option Value) (o6 : Option Value) (D : z_D), z_nl o4 → z_nl o5 → z_nl o6 → H14 b1 a2 a3 D → z_w n d (k_tb 137) X 14 [some (.ref 336), some (.int (z_i (z_b b1))), some (.int (z_i a2)), some (.int (z_i a3)), o4, o5, o6] [] D (z_qZ K T)) (h : w_mReadBody_0 n d b1 D H14 K T) : z_w n d (k_tb 137) X 0 [some (.ref 336), some (.int (z_i (z_b b1))), none, none, none, none, none] [] D (z_qZ K T) := by
  unfold w_mReadBody_0 at h
  refine zs_aload rfl rfl ?_
  refine zs_getI rfl rfl ?_
  refine zs_istore (ls1 := [some (.ref 336), some (.int (z_i (z_b b1))), some (.int (z_i (D.1 336 23))), none, none, none, none]) rfl rfl rfl ?_
  refine zs_aload rfl rfl ?_
  refine zs_getR (x := 350) rfl rfl rfl ?_
  refine zs_iload rfl rfl ?_
  refine zs_pushI (0) rfl rfl ?_
  obtain ⟨g1, h⟩ := h
  refine zs_iast rfl rfl (by decide) g1 (fun D2 eD2 => ?_)
  have h := h D2 eD2
  refine zs_pushI (0) rfl rfl ?_
  refine zs_istore (ls1 := [some (.ref 336), some (.int (z_i (z_b b1))), some (.int (z_i (D.1 336 23))), some (.int (z_i 0)), none, none, none]) rfl rfl rfl ?_
  exact hH14 _ _ _ _ _ _ _ (by first | assumption | exact trivial) (by first | assumption | exact trivial) (by first | assumption | exact trivial) h
def w_mReadBody_53 (n d : Nat) (a4 : Int) (D : z_D)  (K : Bool → z_D → Prop) (T : Nat → z_D → Prop) : Prop :=
  (z_r a4) ∧
  ((a4 = (-1)) →
    K false D) ∧
  ((¬ a4 = (-1)) →
    K true D)
theorem v_mReadBody_53 {n d : Nat} {X : z_Xt} {a4 : Int} {o1 : Option Value} {o2 : Option Value} {o3 : Option Value} {o5 : Option Value} {o6 : Option Value} {D : z_D}  {K : Bool → z_D → Prop} {T : Nat → z_D → Prop} (n1 : z_nl o1) (n2 : z_nl o2) (n3 : z_nl o3) (n5 : z_nl o5) (n6 : z_nl o6) (h : w_mReadBody_53 n d a4 D K T) : z_w n d (k_tb 137) X 53 [some (.ref 336), o1, o2, o3, some (.int (z_i a4)), o5, o6] [] D (z_qZ K T) := by
  unfold w_mReadBody_53 at h
  refine zs_iload rfl rfl ?_
  refine zs_pushI (-1) rfl rfl ?_
  obtain ⟨g1, h⟩ := h
  obtain ⟨h2, h3⟩ := h
  refine zs_ceq rfl g1 (z_rk rfl) (fun c => ?_) (fun c => ?_)
  · have h := h2 c
    refine zs_pushI (0) rfl rfl ?_
    exact zs_zret (b := false) rfl h
  · have h := h3 c
    refine zs_pushI (1) rfl rfl ?_
    refine zs_goto rfl ?_
    exact zs_zret (b := true) rfl h
def w_mReadBody_224 (n d : Nat) (b1 : Bool) (a2 : Int) (a3 : Int) (a4 : Int) (D : z_D) (H14 : Bool → Int → Int → z_D → Prop) (K : Bool → z_D → Prop) (T : Nat → z_D → Prop) : Prop :=
  (0 ≤ a2 ∧ a2 < 61) ∧
  (z_r (D.1 350 (Int.toNat a2))) ∧
  ((¬ (D.1 350 (Int.toNat a2)) = 40) →
    (0 ≤ a2 ∧ a2 < 61) ∧
    (0 ≤ ((41 * a2) + (D.1 350 (Int.toNat a2))) ∧ ((41 * a2) + (D.1 350 (Int.toNat a2))) < 2500) ∧
    ∀ D5, D5 = z_uz D 351 (Int.toNat ((41 * a2) + (D.1 350 (Int.toNat a2)))) a4 →
    (0 ≤ a2 ∧ a2 < 61) ∧
    (0 ≤ a2 ∧ a2 < 61) ∧
    ∀ D8, D8 = z_uz D5 350 (Int.toNat a2) ((D5.1 350 (Int.toNat a2)) + 1) →
    H14 b1 a2 a3 D8) ∧
  (((D.1 350 (Int.toNat a2)) = 40) →
    z_c n d 98 [.ref 336, .int (z_i 5)] D (z_qI (fun v10 D9 => 
      (z_r v10) ∧
      ((v10 = (-1)) →
        K false D9) ∧
      ((¬ v10 = (-1)) →
        K true D9)) T))
theorem v_mReadBody_224 {n d : Nat} {X : z_Xt} {b1 : Bool} {a2 : Int} {a3 : Int} {a4 : Int} {o5 : Option Value} {o6 : Option Value} {D : z_D} {H14 : Bool → Int → Int → z_D → Prop} {K : Bool → z_D → Prop} {T : Nat → z_D → Prop} (hH14 : ∀ (b1 : Bool) (a2 : Int) (a3 : Int) (o4 : Option Value) (o5 : Option Value) (o6 : Option Value) (D : z_D), z_nl o4 → z_nl o5 → z_nl o6 → H14 b1 a2 a3 D → z_w n d (k_tb 137) X 14 [some (.ref 336), some (.int (z_i (z_b b1))), some (.int (z_i a2)), some (.int (z_i a3)), o4, o5, o6] [] D (z_qZ K T)) (n5 : z_nl o5) (n6 : z_nl o6) (h : w_mReadBody_224 n d b1 a2 a3 a4 D H14 K T) : z_w n d (k_tb 137) X 224 [some (.ref 336), some (.int (z_i (z_b b1))), some (.int (z_i a2)), some (.int (z_i a3)), some (.int (z_i a4)), o5, o6] [] D (z_qZ K T) := by
  unfold w_mReadBody_224 at h
  refine zs_aload rfl rfl ?_
  refine zs_getR (x := 350) rfl rfl rfl ?_
  refine zs_iload rfl rfl ?_
  obtain ⟨g1, h⟩ := h
  refine zs_iald rfl rfl (by decide) g1 ?_
  refine zs_pushI (40) rfl rfl ?_
  obtain ⟨g2, h⟩ := h
  obtain ⟨h14, h15⟩ := h
  refine zs_cne rfl g2 (z_rk rfl) (fun c => ?_) (fun c => ?_)
  · have h := h14 c
    refine zs_aload rfl rfl ?_
    refine zs_getR (x := 351) rfl rfl rfl ?_
    refine zs_pushI (41) rfl rfl ?_
    refine zs_iload rfl rfl ?_
    refine zs_mul (a := 41) (b := a2) rfl ?_
    refine zs_aload rfl rfl ?_
    refine zs_getR (x := 350) rfl rfl rfl ?_
    refine zs_iload rfl rfl ?_
    obtain ⟨g3, h⟩ := h
    refine zs_iald rfl rfl (by decide) g3 ?_
    refine zs_add (a := (41 * a2)) (b := (D.1 350 (Int.toNat a2))) rfl ?_
    refine zs_iload rfl rfl ?_
    obtain ⟨g4, h⟩ := h
    refine zs_iast rfl rfl (by decide) g4 (fun D5 eD5 => ?_)
    have h := h D5 eD5
    refine zs_aload rfl rfl ?_
    refine zs_getR (x := 350) rfl rfl rfl ?_
    refine zs_iload rfl rfl ?_
    refine zs_dup2 rfl rfl rfl ?_
    obtain ⟨g6, h⟩ := h
    refine zs_iald rfl rfl (by decide) g6 ?_
    refine zs_pushI (1) rfl rfl ?_
    refine zs_add (a := (D5.1 350 (Int.toNat a2))) (b := 1) rfl ?_
    obtain ⟨g7, h⟩ := h
    refine zs_iast rfl rfl (by decide) g7 (fun D8 eD8 => ?_)
    have h := h D8 eD8
    refine zs_goto rfl ?_
    exact hH14 _ _ _ _ _ _ _ (by first | assumption | exact trivial) (by first | assumption | exact trivial) (by first | assumption | exact trivial) h
  · have h := h15 c
    refine zs_aload rfl rfl ?_
    refine zs_pushI (5) rfl rfl ?_
    refine z_callV (k := 336) (as0 := [.int (z_i 5)]) (r := []) rfl rfl rfl (Nat.le_of_ble_eq_true rfl) (z_oI h (fun v10 D9 h => ?_) (fun _ _ h => h))
    refine zs_pushI (-1) rfl rfl ?_
    obtain ⟨g11, h⟩ := h
    obtain ⟨h12, h13⟩ := h
    refine zs_ceq rfl g11 (z_rk rfl) (fun c => ?_) (fun c => ?_)
    · have h := h12 c
      refine zs_pushI (0) rfl rfl ?_
      exact zs_zret (b := false) rfl h
    · have h := h13 c
      refine zs_pushI (1) rfl rfl ?_
      refine zs_goto rfl ?_
      exact zs_zret (b := true) rfl h
def w_mReadBody_222 (n d : Nat) (b1 : Bool) (a2 : Int) (a4 : Int) (s0 : Int) (s1 : Int) (D : z_D) (H14 : Bool → Int → Int → z_D → Prop) (K : Bool → z_D → Prop) (T : Nat → z_D → Prop) : Prop :=
  w_mReadBody_224 n d b1 a2 (s0 + s1) a4 D H14 K T
theorem v_mReadBody_222 {n d : Nat} {X : z_Xt} {b1 : Bool} {a2 : Int} {a4 : Int} {s0 : Int} {s1 : Int} {o3 : Option Value} {o5 : Option Value} {o6 : Option Value} {D : z_D} {H14 : Bool → Int → Int → z_D → Prop} {K : Bool → z_D → Prop} {T : Nat → z_D → Prop} (hH14 : ∀ (b1 : Bool) (a2 : Int) (a3 : Int) (o4 : Option Value) (o5 : Option Value) (o6 : Option Value) (D : z_D), z_nl o4 → z_nl o5 → z_nl o6 → H14 b1 a2 a3 D → z_w n d (k_tb 137) X 14 [some (.ref 336), some (.int (z_i (z_b b1))), some (.int (z_i a2)), some (.int (z_i a3)), o4, o5, o6] [] D (z_qZ K T)) (n3 : z_nl o3) (n5 : z_nl o5) (n6 : z_nl o6) (h : w_mReadBody_222 n d b1 a2 a4 s0 s1 D H14 K T) : z_w n d (k_tb 137) X 222 [some (.ref 336), some (.int (z_i (z_b b1))), some (.int (z_i a2)), o3, some (.int (z_i a4)), o5, o6] [.int (z_i s1), .int (z_i s0)] D (z_qZ K T) := by
  unfold w_mReadBody_222 at h
  refine zs_add (a := s0) (b := s1) rfl ?_
  refine zs_istore (ls1 := [some (.ref 336), some (.int (z_i (z_b b1))), some (.int (z_i a2)), some (.int (z_i (s0 + s1))), some (.int (z_i a4)), o5, o6]) rfl rfl rfl ?_
  exact v_mReadBody_224 hH14 (by first | assumption | exact trivial) (by first | assumption | exact trivial) h
def w_mReadBody_189 (n d : Nat) (b1 : Bool) (a2 : Int) (a3 : Int) (s0 : Int) (D : z_D) (H14 : Bool → Int → Int → z_D → Prop) (K : Bool → z_D → Prop) (T : Nat → z_D → Prop) : Prop :=
  w_mReadBody_224 n d b1 a2 a3 s0 D H14 K T
theorem v_mReadBody_189 {n d : Nat} {X : z_Xt} {b1 : Bool} {a2 : Int} {a3 : Int} {s0 : Int} {o4 : Option Value} {o5 : Option Value} {o6 : Option Value} {D : z_D} {H14 : Bool → Int → Int → z_D → Prop} {K : Bool → z_D → Prop} {T : Nat → z_D → Prop} (hH14 : ∀ (b1 : Bool) (a2 : Int) (a3 : Int) (o4 : Option Value) (o5 : Option Value) (o6 : Option Value) (D : z_D), z_nl o4 → z_nl o5 → z_nl o6 → H14 b1 a2 a3 D → z_w n d (k_tb 137) X 14 [some (.ref 336), some (.int (z_i (z_b b1))), some (.int (z_i a2)), some (.int (z_i a3)), o4, o5, o6] [] D (z_qZ K T)) (n4 : z_nl o4) (n5 : z_nl o5) (n6 : z_nl o6) (h : w_mReadBody_189 n d b1 a2 a3 s0 D H14 K T) : z_w n d (k_tb 137) X 189 [some (.ref 336), some (.int (z_i (z_b b1))), some (.int (z_i a2)), some (.int (z_i a3)), o4, o5, o6] [.int (z_i s0)] D (z_qZ K T) := by
  unfold w_mReadBody_189 at h
  refine zs_istore (ls1 := [some (.ref 336), some (.int (z_i (z_b b1))), some (.int (z_i a2)), some (.int (z_i a3)), some (.int (z_i s0)), o5, o6]) rfl rfl rfl ?_
  refine zs_goto rfl ?_
  exact v_mReadBody_224 hH14 (by first | assumption | exact trivial) (by first | assumption | exact trivial) h
def w_mReadBody_168 (n d : Nat) (b1 : Bool) (a2 : Int) (a3 : Int) (a5 : Int) (a6 : Int) (D : z_D) (H14 : Bool → Int → Int → z_D → Prop) (K : Bool → z_D → Prop) (T : Nat → z_D → Prop) : Prop :=
  z_c n d 110 [.int (z_i a5), .int (z_i 6)] D (z_qZ (fun v2 D1 => 
    ((v2 = false) →
      w_mReadBody_189 n d b1 a2 a3 (16384 + a6) D1 H14 K T) ∧
    ((v2 = true) →
      w_mReadBody_189 n d b1 a2 a3 a5 D1 H14 K T)) T)
theorem v_mReadBody_168 {n d : Nat} {X : z_Xt} {b1 : Bool} {a2 : Int} {a3 : Int} {a5 : Int} {a6 : Int} {o4 : Option Value} {D : z_D} {H14 : Bool → Int → Int → z_D → Prop} {K : Bool → z_D → Prop} {T : Nat → z_D → Prop} (hH14 : ∀ (b1 : Bool) (a2 : Int) (a3 : Int) (o4 : Option Value) (o5 : Option Value) (o6 : Option Value) (D : z_D), z_nl o4 → z_nl o5 → z_nl o6 → H14 b1 a2 a3 D → z_w n d (k_tb 137) X 14 [some (.ref 336), some (.int (z_i (z_b b1))), some (.int (z_i a2)), some (.int (z_i a3)), o4, o5, o6] [] D (z_qZ K T)) (n4 : z_nl o4) (h : w_mReadBody_168 n d b1 a2 a3 a5 a6 D H14 K T) : z_w n d (k_tb 137) X 168 [some (.ref 336), some (.int (z_i (z_b b1))), some (.int (z_i a2)), some (.int (z_i a3)), o4, some (.int (z_i a5)), some (.int (z_i a6))] [] D (z_qZ K T) := by
  unfold w_mReadBody_168 at h
  refine zs_iload rfl rfl ?_
  refine zs_pushI (6) rfl rfl ?_
  refine z_callS (as0 := [.int (z_i a5), .int (z_i 6)]) (r := []) rfl rfl (Nat.le_of_ble_eq_true rfl) (z_oZ h (fun v2 D1 h => ?_) (fun _ _ h => h))
  obtain ⟨h3, h4⟩ := h
  refine zs_beq rfl (fun c => ?_) (fun c => ?_)
  · have h := h3 c
    refine zs_pushI (16384) rfl rfl ?_
    refine zs_iload rfl rfl ?_
    refine zs_add (a := 16384) (b := a6) rfl ?_
    exact v_mReadBody_189 hH14 (by first | assumption | exact trivial) (by first | assumption | exact trivial) (by first | assumption | exact trivial) h
  · have h := h4 c
    refine zs_iload rfl rfl ?_
    refine zs_goto rfl ?_
    exact v_mReadBody_189 hH14 (by first | assumption | exact trivial) (by first | assumption | exact trivial) (by first | assumption | exact trivial) h
def w_mReadBody_153 (n d : Nat)  (D : z_D)  (K : Bool → z_D → Prop) (T : Nat → z_D → Prop) : Prop :=
  z_c n d 98 [.ref 336, .int (z_i 4)] D (z_qI (fun v2 D1 => 
    (z_r v2) ∧
    ((v2 = (-1)) →
      K false D1) ∧
    ((¬ v2 = (-1)) →
      K true D1)) T)
theorem v_mReadBody_153 {n d : Nat} {X : z_Xt}  {o1 : Option Value} {o2 : Option Value} {o3 : Option Value} {o4 : Option Value} {o5 : Option Value} {o6 : Option Value} {D : z_D}  {K : Bool → z_D → Prop} {T : Nat → z_D → Prop} (n1 : z_nl o1) (n2 : z_nl o2) (n3 : z_nl o3) (n4 : z_nl o4) (n5 : z_nl o5) (n6 : z_nl o6) (h : w_mReadBody_153 n d D K T) : z_w n d (k_tb 137) X 153 [some (.ref 336), o1, o2, o3, o4, o5, o6] [] D (z_qZ K T) := by
  unfold w_mReadBody_153 at h
  refine zs_aload rfl rfl ?_
  refine zs_pushI (4) rfl rfl ?_
  refine z_callV (k := 336) (as0 := [.int (z_i 4)]) (r := []) rfl rfl rfl (Nat.le_of_ble_eq_true rfl) (z_oI h (fun v2 D1 h => ?_) (fun _ _ h => h))
  refine zs_pushI (-1) rfl rfl ?_
  obtain ⟨g3, h⟩ := h
  obtain ⟨h4, h5⟩ := h
  refine zs_ceq rfl g3 (z_rk rfl) (fun c => ?_) (fun c => ?_)
  · have h := h4 c
    refine zs_pushI (0) rfl rfl ?_
    exact zs_zret (b := false) rfl h
  · have h := h5 c
    refine zs_pushI (1) rfl rfl ?_
    refine zs_goto rfl ?_
    exact zs_zret (b := true) rfl h
def w_mReadBody_124 (n d : Nat) (b1 : Bool) (a2 : Int) (a3 : Int) (a5 : Int) (s0 : Int) (D : z_D) (H14 : Bool → Int → Int → z_D → Prop) (K : Bool → z_D → Prop) (T : Nat → z_D → Prop) : Prop :=
  z_c n d 110 [.int (z_i a5), .int (z_i 6)] D (z_qZ (fun v2 D1 => 
    ((v2 = true) →
      w_mReadBody_168 n d b1 a2 a3 a5 s0 D1 H14 K T) ∧
    ((v2 = false) →
      (z_r s0) ∧
      ((s0 < 1) →
        w_mReadBody_153 n d D1 K T) ∧
      ((1 ≤ s0) →
        (0 ≤ a2 ∧ a2 < 61) ∧
        (z_r (D1.1 352 (Int.toNat a2))) ∧
        ((s0 ≤ (D1.1 352 (Int.toNat a2))) →
          w_mReadBody_168 n d b1 a2 a3 a5 s0 D1 H14 K T) ∧
        (((D1.1 352 (Int.toNat a2)) < s0) →
          w_mReadBody_153 n d D1 K T)))) T)
theorem v_mReadBody_124 {n d : Nat} {X : z_Xt} {b1 : Bool} {a2 : Int} {a3 : Int} {a5 : Int} {s0 : Int} {o4 : Option Value} {o6 : Option Value} {D : z_D} {H14 : Bool → Int → Int → z_D → Prop} {K : Bool → z_D → Prop} {T : Nat → z_D → Prop} (hH14 : ∀ (b1 : Bool) (a2 : Int) (a3 : Int) (o4 : Option Value) (o5 : Option Value) (o6 : Option Value) (D : z_D), z_nl o4 → z_nl o5 → z_nl o6 → H14 b1 a2 a3 D → z_w n d (k_tb 137) X 14 [some (.ref 336), some (.int (z_i (z_b b1))), some (.int (z_i a2)), some (.int (z_i a3)), o4, o5, o6] [] D (z_qZ K T)) (n4 : z_nl o4) (n6 : z_nl o6) (h : w_mReadBody_124 n d b1 a2 a3 a5 s0 D H14 K T) : z_w n d (k_tb 137) X 124 [some (.ref 336), some (.int (z_i (z_b b1))), some (.int (z_i a2)), some (.int (z_i a3)), o4, some (.int (z_i a5)), o6] [.int (z_i s0)] D (z_qZ K T) := by
  unfold w_mReadBody_124 at h
  refine zs_istore (ls1 := [some (.ref 336), some (.int (z_i (z_b b1))), some (.int (z_i a2)), some (.int (z_i a3)), o4, some (.int (z_i a5)), some (.int (z_i s0))]) rfl rfl rfl ?_
  refine zs_iload rfl rfl ?_
  refine zs_pushI (6) rfl rfl ?_
  refine z_callS (as0 := [.int (z_i a5), .int (z_i 6)]) (r := []) rfl rfl (Nat.le_of_ble_eq_true rfl) (z_oZ h (fun v2 D1 h => ?_) (fun _ _ h => h))
  obtain ⟨h10, h11⟩ := h
  refine zs_bne rfl (fun c => ?_) (fun c => ?_)
  · have h := h10 c
    exact v_mReadBody_168 hH14 (by first | assumption | exact trivial) h
  · have h := h11 c
    refine zs_iload rfl rfl ?_
    refine zs_pushI (1) rfl rfl ?_
    obtain ⟨g3, h⟩ := h
    obtain ⟨h8, h9⟩ := h
    refine zs_clt rfl g3 (z_rk rfl) (fun c => ?_) (fun c => ?_)
    · have h := h8 c
      exact v_mReadBody_153 (by first | assumption | exact trivial) (by first | assumption | exact trivial) (by first | assumption | exact trivial) (by first | assumption | exact trivial) (by first | assumption | exact trivial) (by first | assumption | exact trivial) h
    · have h := h9 c
      refine zs_iload rfl rfl ?_
      refine zs_aload rfl rfl ?_
      refine zs_getR (x := 352) rfl rfl rfl ?_
      refine zs_iload rfl rfl ?_
      obtain ⟨g4, h⟩ := h
      refine zs_iald rfl rfl (by decide) g4 ?_
      obtain ⟨g5, h⟩ := h
      obtain ⟨h6, h7⟩ := h
      refine zs_cle rfl g3 g5 (fun c => ?_) (fun c => ?_)
      · have h := h6 c
        exact v_mReadBody_168 hH14 (by first | assumption | exact trivial) h
      · have h := h7 c
        exact v_mReadBody_153 (by first | assumption | exact trivial) (by first | assumption | exact trivial) (by first | assumption | exact trivial) (by first | assumption | exact trivial) (by first | assumption | exact trivial) (by first | assumption | exact trivial) h
def w_mReadBody_90 (n d : Nat) (b1 : Bool) (a2 : Int) (a3 : Int) (s0 : Int) (D : z_D) (H14 : Bool → Int → Int → z_D → Prop) (K : Bool → z_D → Prop) (T : Nat → z_D → Prop) : Prop :=
  z_c n d 109 [.int (z_i s0)] D (z_qI (fun v2 D1 => 
    (z_r v2) ∧
    ((¬ v2 = (-1)) →
      ((4096 ≤ v2) →
        w_mReadBody_124 n d b1 a2 a3 v2 0 D1 H14 K T) ∧
      ((v2 < 4096) →
        w_mReadBody_124 n d b1 a2 a3 v2 ((z_and v2 255) - 48) D1 H14 K T)) ∧
    ((v2 = (-1)) →
      K false D1)) T)
theorem v_mReadBody_90 {n d : Nat} {X : z_Xt} {b1 : Bool} {a2 : Int} {a3 : Int} {s0 : Int} {o4 : Option Value} {o5 : Option Value} {o6 : Option Value} {D : z_D} {H14 : Bool → Int → Int → z_D → Prop} {K : Bool → z_D → Prop} {T : Nat → z_D → Prop} (hH14 : ∀ (b1 : Bool) (a2 : Int) (a3 : Int) (o4 : Option Value) (o5 : Option Value) (o6 : Option Value) (D : z_D), z_nl o4 → z_nl o5 → z_nl o6 → H14 b1 a2 a3 D → z_w n d (k_tb 137) X 14 [some (.ref 336), some (.int (z_i (z_b b1))), some (.int (z_i a2)), some (.int (z_i a3)), o4, o5, o6] [] D (z_qZ K T)) (n4 : z_nl o4) (n5 : z_nl o5) (n6 : z_nl o6) (h : w_mReadBody_90 n d b1 a2 a3 s0 D H14 K T) : z_w n d (k_tb 137) X 90 [some (.ref 336), some (.int (z_i (z_b b1))), some (.int (z_i a2)), some (.int (z_i a3)), o4, o5, o6] [.int (z_i s0)] D (z_qZ K T) := by
  unfold w_mReadBody_90 at h
  refine z_callS (as0 := [.int (z_i s0)]) (r := []) rfl rfl (Nat.le_of_ble_eq_true rfl) (z_oI h (fun v2 D1 h => ?_) (fun _ _ h => h))
  refine zs_istore (ls1 := [some (.ref 336), some (.int (z_i (z_b b1))), some (.int (z_i a2)), some (.int (z_i a3)), o4, some (.int (z_i v2)), o6]) rfl rfl ((z_st1 rfl n4).trans rfl) ?_
  refine zs_iload rfl rfl ?_
  refine zs_pushI (-1) rfl rfl ?_
  obtain ⟨g3, h⟩ := h
  obtain ⟨h6, h7⟩ := h
  refine zs_cne rfl g3 (z_rk rfl) (fun c => ?_) (fun c => ?_)
  · have h := h6 c
    refine zs_iload rfl rfl ?_
    refine zs_pushI (4096) rfl rfl ?_
    obtain ⟨h4, h5⟩ := h
    refine zs_cge rfl g3 (z_rk rfl) (fun c => ?_) (fun c => ?_)
    · have h := h4 c
      refine zs_pushI (0) rfl rfl ?_
      exact v_mReadBody_124 hH14 (by first | assumption | exact trivial) (by first | assumption | exact trivial) h
    · have h := h5 c
      refine zs_iload rfl rfl ?_
      refine zs_pushI (255) rfl rfl ?_
      refine zs_and (a := v2) (b := 255) rfl ?_
      refine zs_pushI (48) rfl rfl ?_
      refine zs_sub (a := (z_and v2 255)) (b := 48) rfl ?_
      refine zs_goto rfl ?_
      exact v_mReadBody_124 hH14 (by first | assumption | exact trivial) (by first | assumption | exact trivial) h
  · have h := h7 c
    refine zs_pushI (0) rfl rfl ?_
    exact zs_zret (b := false) rfl h
def w_mReadBody_65 (n d : Nat) (b1 : Bool) (a2 : Int) (a3 : Int) (a4 : Int) (D : z_D) (H14 : Bool → Int → Int → z_D → Prop) (K : Bool → z_D → Prop) (T : Nat → z_D → Prop) : Prop :=
  z_c n d 110 [.int (z_i a4), .int (z_i 6)] D (z_qZ (fun v2 D1 => 
    ((v2 = false) →
      z_c n d 110 [.int (z_i a4), .int (z_i 1)] D1 (z_qZ (fun v4 D3 => 
        ((v4 = false) →
          z_c n d 110 [.int (z_i a4), .int (z_i 2)] D3 (z_qZ (fun v6 D5 => 
            ((v6 = false) →
              w_mReadBody_222 n d b1 a2 a4 a3 0 D5 H14 K T) ∧
            ((v6 = true) →
              w_mReadBody_222 n d b1 a2 a4 a3 (-1) D5 H14 K T)) T)) ∧
        ((v4 = true) →
          w_mReadBody_222 n d b1 a2 a4 a3 1 D3 H14 K T)) T)) ∧
    ((v2 = true) →
      ((b1 = false) →
        z_c n d 105 [.ref 336] D1 (z_qI (fun v12 D11 => 
          w_mReadBody_90 n d b1 a2 a3 v12 D11 H14 K T) T)) ∧
      ((b1 = true) →
        z_c n d 134 [.ref 336] D1 (z_qI (fun v14 D13 => 
          w_mReadBody_90 n d b1 a2 a3 v14 D13 H14 K T) T)))) T)
theorem v_mReadBody_65 {n d : Nat} {X : z_Xt} {b1 : Bool} {a2 : Int} {a3 : Int} {a4 : Int} {o5 : Option Value} {o6 : Option Value} {D : z_D} {H14 : Bool → Int → Int → z_D → Prop} {K : Bool → z_D → Prop} {T : Nat → z_D → Prop} (hH14 : ∀ (b1 : Bool) (a2 : Int) (a3 : Int) (o4 : Option Value) (o5 : Option Value) (o6 : Option Value) (D : z_D), z_nl o4 → z_nl o5 → z_nl o6 → H14 b1 a2 a3 D → z_w n d (k_tb 137) X 14 [some (.ref 336), some (.int (z_i (z_b b1))), some (.int (z_i a2)), some (.int (z_i a3)), o4, o5, o6] [] D (z_qZ K T)) (n5 : z_nl o5) (n6 : z_nl o6) (h : w_mReadBody_65 n d b1 a2 a3 a4 D H14 K T) : z_w n d (k_tb 137) X 65 [some (.ref 336), some (.int (z_i (z_b b1))), some (.int (z_i a2)), some (.int (z_i a3)), some (.int (z_i a4)), o5, o6] [] D (z_qZ K T) := by
  unfold w_mReadBody_65 at h
  refine zs_iload rfl rfl ?_
  refine zs_pushI (6) rfl rfl ?_
  refine z_callS (as0 := [.int (z_i a4), .int (z_i 6)]) (r := []) rfl rfl (Nat.le_of_ble_eq_true rfl) (z_oZ h (fun v2 D1 h => ?_) (fun _ _ h => h))
  obtain ⟨h17, h18⟩ := h
  refine zs_beq rfl (fun c => ?_) (fun c => ?_)
  · have h := h17 c
    refine zs_iload rfl rfl ?_
    refine zs_iload rfl rfl ?_
    refine zs_pushI (1) rfl rfl ?_
    refine z_callS (as0 := [.int (z_i a4), .int (z_i 1)]) (r := [.int (z_i a3)]) rfl rfl (Nat.le_of_ble_eq_true rfl) (z_oZ h (fun v4 D3 h => ?_) (fun _ _ h => h))
    obtain ⟨h9, h10⟩ := h
    refine zs_beq rfl (fun c => ?_) (fun c => ?_)
    · have h := h9 c
      refine zs_iload rfl rfl ?_
      refine zs_pushI (2) rfl rfl ?_
      refine z_callS (as0 := [.int (z_i a4), .int (z_i 2)]) (r := [.int (z_i a3)]) rfl rfl (Nat.le_of_ble_eq_true rfl) (z_oZ h (fun v6 D5 h => ?_) (fun _ _ h => h))
      obtain ⟨h7, h8⟩ := h
      refine zs_beq rfl (fun c => ?_) (fun c => ?_)
      · have h := h7 c
        refine zs_pushI (0) rfl rfl ?_
        exact v_mReadBody_222 hH14 (by first | assumption | exact trivial) (by first | assumption | exact trivial) (by first | assumption | exact trivial) h
      · have h := h8 c
        refine zs_pushI (-1) rfl rfl ?_
        refine zs_goto rfl ?_
        exact v_mReadBody_222 hH14 (by first | assumption | exact trivial) (by first | assumption | exact trivial) (by first | assumption | exact trivial) h
    · have h := h10 c
      refine zs_pushI (1) rfl rfl ?_
      refine zs_goto rfl ?_
      exact v_mReadBody_222 hH14 (by first | assumption | exact trivial) (by first | assumption | exact trivial) (by first | assumption | exact trivial) h
  · have h := h18 c
    refine zs_iload rfl rfl ?_
    obtain ⟨h15, h16⟩ := h
    refine zs_beq rfl (fun c => ?_) (fun c => ?_)
    · have h := h15 c
      refine zs_aload rfl rfl ?_
      refine z_callV (k := 336) (as0 := []) (r := []) rfl rfl rfl (Nat.le_of_ble_eq_true rfl) (z_oI h (fun v12 D11 h => ?_) (fun _ _ h => h))
      exact v_mReadBody_90 hH14 (by first | assumption | exact trivial) (by first | assumption | exact trivial) (by first | assumption | exact trivial) h
    · have h := h16 c
      refine zs_aload rfl rfl ?_
      refine z_callV (k := 336) (as0 := []) (r := []) rfl rfl rfl (Nat.le_of_ble_eq_true rfl) (z_oI h (fun v14 D13 h => ?_) (fun _ _ h => h))
      refine zs_goto rfl ?_
      exact v_mReadBody_90 hH14 (by first | assumption | exact trivial) (by first | assumption | exact trivial) (by first | assumption | exact trivial) h
def w_mReadBody_29 (n d : Nat) (b1 : Bool) (a2 : Int) (a3 : Int) (s0 : Int) (D : z_D) (H14 : Bool → Int → Int → z_D → Prop) (K : Bool → z_D → Prop) (T : Nat → z_D → Prop) : Prop :=
  z_c n d 109 [.int (z_i s0)] D (z_qI (fun v2 D1 => 
    (z_r v2) ∧
    ((v2 = (-1)) →
      w_mReadBody_53 n d v2 D1 K T) ∧
    ((¬ v2 = (-1)) →
      z_c n d 110 [.int (z_i v2), .int (z_i 2)] D1 (z_qZ (fun v5 D4 => 
        ((v5 = false) →
          w_mReadBody_65 n d b1 a2 a3 v2 D4 H14 K T) ∧
        ((v5 = true) →
          (z_r a3) ∧
          ((¬ a3 = 0) →
            w_mReadBody_65 n d b1 a2 a3 v2 D4 H14 K T) ∧
          ((a3 = 0) →
            w_mReadBody_53 n d v2 D4 K T))) T))) T)
theorem v_mReadBody_29 {n d : Nat} {X : z_Xt} {b1 : Bool} {a2 : Int} {a3 : Int} {s0 : Int} {o4 : Option Value} {o5 : Option Value} {o6 : Option Value} {D : z_D} {H14 : Bool → Int → Int → z_D → Prop} {K : Bool → z_D → Prop} {T : Nat → z_D → Prop} (hH14 : ∀ (b1 : Bool) (a2 : Int) (a3 : Int) (o4 : Option Value) (o5 : Option Value) (o6 : Option Value) (D : z_D), z_nl o4 → z_nl o5 → z_nl o6 → H14 b1 a2 a3 D → z_w n d (k_tb 137) X 14 [some (.ref 336), some (.int (z_i (z_b b1))), some (.int (z_i a2)), some (.int (z_i a3)), o4, o5, o6] [] D (z_qZ K T)) (n4 : z_nl o4) (n5 : z_nl o5) (n6 : z_nl o6) (h : w_mReadBody_29 n d b1 a2 a3 s0 D H14 K T) : z_w n d (k_tb 137) X 29 [some (.ref 336), some (.int (z_i (z_b b1))), some (.int (z_i a2)), some (.int (z_i a3)), o4, o5, o6] [.int (z_i s0)] D (z_qZ K T) := by
  unfold w_mReadBody_29 at h
  refine z_callS (as0 := [.int (z_i s0)]) (r := []) rfl rfl (Nat.le_of_ble_eq_true rfl) (z_oI h (fun v2 D1 h => ?_) (fun _ _ h => h))
  refine zs_istore (ls1 := [some (.ref 336), some (.int (z_i (z_b b1))), some (.int (z_i a2)), some (.int (z_i a3)), some (.int (z_i v2)), o5, o6]) rfl rfl rfl ?_
  refine zs_iload rfl rfl ?_
  refine zs_pushI (-1) rfl rfl ?_
  obtain ⟨g3, h⟩ := h
  obtain ⟨h11, h12⟩ := h
  refine zs_ceq rfl g3 (z_rk rfl) (fun c => ?_) (fun c => ?_)
  · have h := h11 c
    exact v_mReadBody_53 (by first | assumption | exact trivial) (by first | assumption | exact trivial) (by first | assumption | exact trivial) (by first | assumption | exact trivial) (by first | assumption | exact trivial) h
  · have h := h12 c
    refine zs_iload rfl rfl ?_
    refine zs_pushI (2) rfl rfl ?_
    refine z_callS (as0 := [.int (z_i v2), .int (z_i 2)]) (r := []) rfl rfl (Nat.le_of_ble_eq_true rfl) (z_oZ h (fun v5 D4 h => ?_) (fun _ _ h => h))
    obtain ⟨h9, h10⟩ := h
    refine zs_beq rfl (fun c => ?_) (fun c => ?_)
    · have h := h9 c
      exact v_mReadBody_65 hH14 (by first | assumption | exact trivial) (by first | assumption | exact trivial) h
    · have h := h10 c
      refine zs_iload rfl rfl ?_
      obtain ⟨g6, h⟩ := h
      obtain ⟨h7, h8⟩ := h
      refine zs_ifne rfl g6 (fun c => ?_) (fun c => ?_)
      · have h := h7 c
        exact v_mReadBody_65 hH14 (by first | assumption | exact trivial) (by first | assumption | exact trivial) h
      · have h := h8 c
        exact v_mReadBody_53 (by first | assumption | exact trivial) (by first | assumption | exact trivial) (by first | assumption | exact trivial) (by first | assumption | exact trivial) (by first | assumption | exact trivial) h
def w_mReadBody_14 (n d : Nat) (b1 : Bool) (a2 : Int) (a3 : Int) (D : z_D) (H14 : Bool → Int → Int → z_D → Prop) (K : Bool → z_D → Prop) (T : Nat → z_D → Prop) : Prop :=
  ((b1 = false) →
    z_c n d 105 [.ref 336] D (z_qI (fun v2 D1 => 
      w_mReadBody_29 n d b1 a2 a3 v2 D1 H14 K T) T)) ∧
  ((b1 = true) →
    z_c n d 134 [.ref 336] D (z_qI (fun v4 D3 => 
      w_mReadBody_29 n d b1 a2 a3 v4 D3 H14 K T) T))
theorem v_mReadBody_14 {n d : Nat} {X : z_Xt} {b1 : Bool} {a2 : Int} {a3 : Int} {o4 : Option Value} {o5 : Option Value} {o6 : Option Value} {D : z_D} {H14 : Bool → Int → Int → z_D → Prop} {K : Bool → z_D → Prop} {T : Nat → z_D → Prop} (hH14 : ∀ (b1 : Bool) (a2 : Int) (a3 : Int) (o4 : Option Value) (o5 : Option Value) (o6 : Option Value) (D : z_D), z_nl o4 → z_nl o5 → z_nl o6 → H14 b1 a2 a3 D → z_w n d (k_tb 137) X 14 [some (.ref 336), some (.int (z_i (z_b b1))), some (.int (z_i a2)), some (.int (z_i a3)), o4, o5, o6] [] D (z_qZ K T)) (n4 : z_nl o4) (n5 : z_nl o5) (n6 : z_nl o6) (h : w_mReadBody_14 n d b1 a2 a3 D H14 K T) : z_w n d (k_tb 137) X 14 [some (.ref 336), some (.int (z_i (z_b b1))), some (.int (z_i a2)), some (.int (z_i a3)), o4, o5, o6] [] D (z_qZ K T) := by
  unfold w_mReadBody_14 at h
  refine zs_iload rfl rfl ?_
  obtain ⟨h5, h6⟩ := h
  refine zs_beq rfl (fun c => ?_) (fun c => ?_)
  · have h := h5 c
    refine zs_aload rfl rfl ?_
    refine z_callV (k := 336) (as0 := []) (r := []) rfl rfl rfl (Nat.le_of_ble_eq_true rfl) (z_oI h (fun v2 D1 h => ?_) (fun _ _ h => h))
    exact v_mReadBody_29 hH14 (by first | assumption | exact trivial) (by first | assumption | exact trivial) (by first | assumption | exact trivial) h
  · have h := h6 c
    refine zs_aload rfl rfl ?_
    refine z_callV (k := 336) (as0 := []) (r := []) rfl rfl rfl (Nat.le_of_ble_eq_true rfl) (z_oI h (fun v4 D3 h => ?_) (fun _ _ h => h))
    refine zs_goto rfl ?_
    exact v_mReadBody_29 hH14 (by first | assumption | exact trivial) (by first | assumption | exact trivial) (by first | assumption | exact trivial) h
theorem r_mReadBody {n d : Nat} {b1 : Bool} {D : z_D} {K : Bool → z_D → Prop} {T : Nat → z_D → Prop}  (I14 : Nat → Bool → Int → Int → z_D → Prop) (hE : w_mReadBody_0 n d b1 D (fun b1 a2 a3 D => ∃ m, I14 m b1 a2 a3 D) K T) (h14 : ∀ (mm : Nat) (b1 : Bool) (a2 : Int) (a3 : Int) (D : z_D), I14 mm b1 a2 a3 D → w_mReadBody_14 n d b1 a2 a3 D (fun b1 a2 a3 D => ∃ m, m < mm ∧ I14 m b1 a2 a3 D) K T) : z_c n (d + 1) 137 [.ref 336, .int (z_i (z_b b1))] D (z_qZ K T) := by
  refine z_enter (Nat.le_of_ble_eq_true rfl) rfl (fun X => ?_)
  have key : ∀ m, (∀ (b1 : Bool) (a2 : Int) (a3 : Int) (o4 : Option Value) (o5 : Option Value) (o6 : Option Value) (D : z_D), z_nl o4 → z_nl o5 → z_nl o6 → I14 m b1 a2 a3 D → z_w n d (k_tb 137) X 14 [some (.ref 336), some (.int (z_i (z_b b1))), some (.int (z_i a2)), some (.int (z_i a3)), o4, o5, o6] [] D (z_qZ K T)) := by
    intro m
    induction m using Nat.strongRecOn with
    | _ mm ih =>
      exact fun b1 a2 a3 o4 o5 o6 D n4 n5 n6 hI => v_mReadBody_14 (fun b1 a2 a3 o4 o5 o6 D n4 n5 n6 ⟨m, hm, hI⟩ => (ih m hm) _ _ _ _ _ _ _ n4 n5 n6 hI) n4 n5 n6 (h14 mm b1 a2 a3 D hI)
  exact v_mReadBody_0 (fun b1 a2 a3 o4 o5 o6 D n4 n5 n6 ⟨m, hI⟩ => (key m) _ _ _ _ _ _ _ n4 n5 n6 hI) hE
-- 138: TokenMouthModel.define(I)V
def w_mDefine_28 (n d : Nat) (a1 : Int) (a2 : Int) (s1 : Bool) (D : z_D) (H92 : Int → Int → Int → z_D → Prop) (K : z_D → Prop) (T : Nat → z_D → Prop) : Prop :=
  z_c n d 137 [.ref 336, .int (z_i (z_b s1))] D (z_qZ (fun v2 D1 => 
    ((v2 = true) →
      (z_r (D1.1 336 23)) ∧
      ((¬ (D1.1 336 23) = 60) →
        ∀ D4, D4 = z_uz D1 336 23 ((D1.1 336 23) + 1) →
        (z_r a1) ∧
        ((a1 = 4) →
          (0 ≤ a2 ∧ a2 < 120) ∧
          ∀ D7, D7 = z_uz D4 343 (Int.toNat a2) (6000 + (D1.1 336 23)) →
          H92 a2 (6000 + (D1.1 336 23)) 0 D7) ∧
        ((¬ a1 = 4) →
          z_c n d 113 [.ref 336, .int (z_i a2), .int (z_i (6000 + (D1.1 336 23)))] D4 (z_qV (fun D8 => 
            K D8) T))) ∧
      (((D1.1 336 23) = 60) →
        z_c n d 98 [.ref 336, .int (z_i 5)] D1 (z_qI (fun v12 D11 => 
          K D11) T))) ∧
    ((v2 = false) →
      K D1)) T)
theorem v_mDefine_28 {n d : Nat} {X : z_Xt} {a1 : Int} {a2 : Int} {s1 : Bool}  {D : z_D} {H92 : Int → Int → Int → z_D → Prop} {K : z_D → Prop} {T : Nat → z_D → Prop} (hH92 : ∀ (a2 : Int) (a3 : Int) (a4 : Int) (o1 : Option Value) (D : z_D), z_nl o1 → H92 a2 a3 a4 D → z_w n d (k_tb 138) X 92 [some (.ref 336), o1, some (.int (z_i a2)), some (.int (z_i a3)), some (.int (z_i a4))] [] D (z_qV K T)) (h : w_mDefine_28 n d a1 a2 s1 D H92 K T) : z_w n d (k_tb 138) X 28 [some (.ref 336), some (.int (z_i a1)), some (.int (z_i a2)), none, none] [.int (z_i (z_b s1)), .ref 336] D (z_qV K T) := by
  unfold w_mDefine_28 at h
  refine z_callV (k := 336) (as0 := [.int (z_i (z_b s1))]) (r := []) rfl rfl rfl (Nat.le_of_ble_eq_true rfl) (z_oZ h (fun v2 D1 h => ?_) (fun _ _ h => h))
  obtain ⟨h15, h16⟩ := h
  refine zs_bne rfl (fun c => ?_) (fun c => ?_)
  · have h := h15 c
    refine zs_aload rfl rfl ?_
    refine zs_getI rfl rfl ?_
    refine zs_pushI (60) rfl rfl ?_
    obtain ⟨g3, h⟩ := h
    obtain ⟨h13, h14⟩ := h
    refine zs_cne rfl g3 (z_rk rfl) (fun c => ?_) (fun c => ?_)
    · have h := h13 c
      refine zs_pushI (6000) rfl rfl ?_
      refine zs_aload rfl rfl ?_
      refine zs_getI rfl rfl ?_
      refine zs_add (a := 6000) (b := (D1.1 336 23)) rfl ?_
      refine zs_istore (ls1 := [some (.ref 336), some (.int (z_i a1)), some (.int (z_i a2)), some (.int (z_i (6000 + (D1.1 336 23)))), none]) rfl rfl rfl ?_
      refine zs_aload rfl rfl ?_
      refine zs_dup rfl rfl ?_
      refine zs_getI rfl rfl ?_
      refine zs_pushI (1) rfl rfl ?_
      refine zs_add (a := (D1.1 336 23)) (b := 1) rfl ?_
      refine zs_putI rfl rfl (fun D4 eD4 => ?_)
      have h := h D4 eD4
      refine zs_iload rfl rfl ?_
      refine zs_pushI (4) rfl rfl ?_
      obtain ⟨g5, h⟩ := h
      obtain ⟨h9, h10⟩ := h
      refine zs_ceq rfl g5 (z_rk rfl) (fun c => ?_) (fun c => ?_)
      · have h := h9 c
        refine zs_aload rfl rfl ?_
        refine zs_getR (x := 343) rfl rfl rfl ?_
        refine zs_iload rfl rfl ?_
        refine zs_iload rfl rfl ?_
        obtain ⟨g6, h⟩ := h
        refine zs_iast rfl rfl (by decide) g6 (fun D7 eD7 => ?_)
        have h := h D7 eD7
        refine zs_pushI (0) rfl rfl ?_
        refine zs_istore (ls1 := [some (.ref 336), some (.int (z_i a1)), some (.int (z_i a2)), some (.int (z_i (6000 + (D1.1 336 23)))), some (.int (z_i 0))]) rfl rfl rfl ?_
        exact hH92 _ _ _ _ _ (by first | assumption | exact trivial) h
      · have h := h10 c
        refine zs_aload rfl rfl ?_
        refine zs_iload rfl rfl ?_
        refine zs_iload rfl rfl ?_
        refine z_callV (k := 336) (as0 := [.int (z_i a2), .int (z_i (6000 + (D1.1 336 23)))]) (r := []) rfl rfl rfl (Nat.le_of_ble_eq_true rfl) (z_oV h (fun D8 h => ?_) (fun _ _ h => h))
        exact zs_ret rfl h
    · have h := h14 c
      refine zs_aload rfl rfl ?_
      refine zs_pushI (5) rfl rfl ?_
      refine z_callV (k := 336) (as0 := [.int (z_i 5)]) (r := []) rfl rfl rfl (Nat.le_of_ble_eq_true rfl) (z_oI h (fun v12 D11 h => ?_) (fun _ _ h => h))
      refine zs_istore (ls1 := [some (.ref 336), some (.int (z_i a1)), some (.int (z_i a2)), some (.int (z_i v12)), none]) rfl rfl rfl ?_
      exact zs_ret rfl h
  · have h := h16 c
    exact zs_ret rfl h
def w_mDefine_0 (n d : Nat) (a1 : Int) (D : z_D) (H92 : Int → Int → Int → z_D → Prop) (K : z_D → Prop) (T : Nat → z_D → Prop) : Prop :=
  z_c n d 135 [.ref 336] D (z_qI (fun v2 D1 => 
    (z_r v2) ∧
    ((v2 = (-1)) →
      K D1) ∧
    ((¬ v2 = (-1)) →
      z_c n d 136 [.ref 336] D1 (z_qZ (fun v5 D4 => 
        ((v5 = false) →
          K D4) ∧
        ((v5 = true) →
          (z_r a1) ∧
          ((¬ a1 = 5) →
            w_mDefine_28 n d a1 v2 false D4 H92 K T) ∧
          ((a1 = 5) →
            w_mDefine_28 n d a1 v2 true D4 H92 K T))) T))) T)
theorem v_mDefine_0 {n d : Nat} {X : z_Xt} {a1 : Int}  {D : z_D} {H92 : Int → Int → Int → z_D → Prop} {K : z_D → Prop} {T : Nat → z_D → Prop} (hH92 : ∀ (a2 : Int) (a3 : Int) (a4 : Int) (o1 : Option Value) (D : z_D), z_nl o1 → H92 a2 a3 a4 D → z_w n d (k_tb 138) X 92 [some (.ref 336), o1, some (.int (z_i a2)), some (.int (z_i a3)), some (.int (z_i a4))] [] D (z_qV K T)) (h : w_mDefine_0 n d a1 D H92 K T) : z_w n d (k_tb 138) X 0 [some (.ref 336), some (.int (z_i a1)), none, none, none] [] D (z_qV K T) := by
  unfold w_mDefine_0 at h
  refine zs_aload rfl rfl ?_
  refine z_callV (k := 336) (as0 := []) (r := []) rfl rfl rfl (Nat.le_of_ble_eq_true rfl) (z_oI h (fun v2 D1 h => ?_) (fun _ _ h => h))
  refine zs_istore (ls1 := [some (.ref 336), some (.int (z_i a1)), some (.int (z_i v2)), none, none]) rfl rfl rfl ?_
  refine zs_iload rfl rfl ?_
  refine zs_pushI (-1) rfl rfl ?_
  obtain ⟨g3, h⟩ := h
  obtain ⟨h11, h12⟩ := h
  refine zs_ceq rfl g3 (z_rk rfl) (fun c => ?_) (fun c => ?_)
  · have h := h11 c
    exact zs_ret rfl h
  · have h := h12 c
    refine zs_aload rfl rfl ?_
    refine z_callV (k := 336) (as0 := []) (r := []) rfl rfl rfl (Nat.le_of_ble_eq_true rfl) (z_oZ h (fun v5 D4 h => ?_) (fun _ _ h => h))
    obtain ⟨h9, h10⟩ := h
    refine zs_beq rfl (fun c => ?_) (fun c => ?_)
    · have h := h9 c
      exact zs_ret rfl h
    · have h := h10 c
      refine zs_aload rfl rfl ?_
      refine zs_iload rfl rfl ?_
      refine zs_pushI (5) rfl rfl ?_
      obtain ⟨g6, h⟩ := h
      obtain ⟨h7, h8⟩ := h
      refine zs_cne rfl g6 (z_rk rfl) (fun c => ?_) (fun c => ?_)
      · have h := h7 c
        refine zs_pushI (0) rfl rfl ?_
        exact v_mDefine_28 hH92 h
      · have h := h8 c
        refine zs_pushI (1) rfl rfl ?_
        refine zs_goto rfl ?_
        exact v_mDefine_28 hH92 h
def w_mDefine_92 (n d : Nat) (a2 : Int) (a3 : Int) (a4 : Int) (D : z_D) (H92 : Int → Int → Int → z_D → Prop) (K : z_D → Prop) (T : Nat → z_D → Prop) : Prop :=
  (z_r a4) ∧ (z_r (D.1 336 19)) ∧
  (((D.1 336 19) ≤ a4) →
    K D) ∧
  ((a4 < (D.1 336 19)) →
    (0 ≤ a4 ∧ a4 < 60) ∧
    (z_r (D.1 346 (Int.toNat a4))) ∧ (z_r a2) ∧
    ((¬ (D.1 346 (Int.toNat a4)) = a2) →
      (0 ≤ a4 ∧ a4 < 60) ∧
      (0 ≤ a4 ∧ a4 < 60) ∧
      ∀ D8, D8 = z_uz D 347 (Int.toNat a4) (D.1 347 (Int.toNat a4)) →
      H92 a2 a3 (a4 + 1) D8) ∧
    (((D.1 346 (Int.toNat a4)) = a2) →
      (0 ≤ a4 ∧ a4 < 60) ∧
      ∀ D10, D10 = z_uz D 347 (Int.toNat a4) a3 →
      H92 a2 a3 (a4 + 1) D10))
theorem v_mDefine_92 {n d : Nat} {X : z_Xt} {a2 : Int} {a3 : Int} {a4 : Int} {o1 : Option Value} {D : z_D} {H92 : Int → Int → Int → z_D → Prop} {K : z_D → Prop} {T : Nat → z_D → Prop} (hH92 : ∀ (a2 : Int) (a3 : Int) (a4 : Int) (o1 : Option Value) (D : z_D), z_nl o1 → H92 a2 a3 a4 D → z_w n d (k_tb 138) X 92 [some (.ref 336), o1, some (.int (z_i a2)), some (.int (z_i a3)), some (.int (z_i a4))] [] D (z_qV K T)) (n1 : z_nl o1) (h : w_mDefine_92 n d a2 a3 a4 D H92 K T) : z_w n d (k_tb 138) X 92 [some (.ref 336), o1, some (.int (z_i a2)), some (.int (z_i a3)), some (.int (z_i a4))] [] D (z_qV K T) := by
  unfold w_mDefine_92 at h
  refine zs_iload rfl rfl ?_
  refine zs_aload rfl rfl ?_
  refine zs_getI rfl rfl ?_
  obtain ⟨g1, g2, h⟩ := h
  obtain ⟨h13, h14⟩ := h
  refine zs_cge rfl g1 g2 (fun c => ?_) (fun c => ?_)
  · have h := h13 c
    exact zs_ret rfl h
  · have h := h14 c
    refine zs_aload rfl rfl ?_
    refine zs_getR (x := 347) rfl rfl rfl ?_
    refine zs_iload rfl rfl ?_
    refine zs_aload rfl rfl ?_
    refine zs_getR (x := 346) rfl rfl rfl ?_
    refine zs_iload rfl rfl ?_
    obtain ⟨g3, h⟩ := h
    refine zs_iald rfl rfl (by decide) g3 ?_
    refine zs_iload rfl rfl ?_
    obtain ⟨g4, g5, h⟩ := h
    obtain ⟨h11, h12⟩ := h
    refine zs_cne rfl g4 g5 (fun c => ?_) (fun c => ?_)
    · have h := h11 c
      refine zs_aload rfl rfl ?_
      refine zs_getR (x := 347) rfl rfl rfl ?_
      refine zs_iload rfl rfl ?_
      obtain ⟨g6, h⟩ := h
      refine zs_iald rfl rfl (by decide) g6 ?_
      obtain ⟨g7, h⟩ := h
      refine zs_iast rfl rfl (by decide) g7 (fun D8 eD8 => ?_)
      have h := h D8 eD8
      refine zs_iinc (a := a4) (1) (ls1 := [some (.ref 336), o1, some (.int (z_i a2)), some (.int (z_i a3)), some (.int (z_i (a4 + 1)))]) rfl rfl rfl rfl ?_
      refine zs_goto rfl ?_
      exact hH92 _ _ _ _ _ (by first | assumption | exact trivial) h
    · have h := h12 c
      refine zs_iload rfl rfl ?_
      refine zs_goto rfl ?_
      obtain ⟨g9, h⟩ := h
      refine zs_iast rfl rfl (by decide) g9 (fun D10 eD10 => ?_)
      have h := h D10 eD10
      refine zs_iinc (a := a4) (1) (ls1 := [some (.ref 336), o1, some (.int (z_i a2)), some (.int (z_i a3)), some (.int (z_i (a4 + 1)))]) rfl rfl rfl rfl ?_
      refine zs_goto rfl ?_
      exact hH92 _ _ _ _ _ (by first | assumption | exact trivial) h
theorem r_mDefine {n d : Nat} {a1 : Int} {D : z_D} {K : z_D → Prop} {T : Nat → z_D → Prop}  (I92 : Nat → Int → Int → Int → z_D → Prop) (hE : w_mDefine_0 n d a1 D (fun a2 a3 a4 D => ∃ m, I92 m a2 a3 a4 D) K T) (h92 : ∀ (mm : Nat) (a2 : Int) (a3 : Int) (a4 : Int) (D : z_D), I92 mm a2 a3 a4 D → w_mDefine_92 n d a2 a3 a4 D (fun a2 a3 a4 D => ∃ m, m < mm ∧ I92 m a2 a3 a4 D) K T) : z_c n (d + 1) 138 [.ref 336, .int (z_i a1)] D (z_qV K T) := by
  refine z_enter (Nat.le_of_ble_eq_true rfl) rfl (fun X => ?_)
  have key : ∀ m, (∀ (a2 : Int) (a3 : Int) (a4 : Int) (o1 : Option Value) (D : z_D), z_nl o1 → I92 m a2 a3 a4 D → z_w n d (k_tb 138) X 92 [some (.ref 336), o1, some (.int (z_i a2)), some (.int (z_i a3)), some (.int (z_i a4))] [] D (z_qV K T)) := by
    intro m
    induction m using Nat.strongRecOn with
    | _ mm ih =>
      exact fun a2 a3 a4 o1 D n1 hI => v_mDefine_92 (fun a2 a3 a4 o1 D n1 ⟨m, hm, hI⟩ => (ih m hm) _ _ _ _ _ n1 hI) n1 (h92 mm a2 a3 a4 D hI)
  exact v_mDefine_0 (fun a2 a3 a4 o1 D n1 ⟨m, hI⟩ => (key m) _ _ _ _ _ n1 hI) hE
-- 139: TokenMouthModel.let()V
def w_mLet_31 (n d : Nat) (a1 : Int) (a2 : Int) (D : z_D)  (K : z_D → Prop) (T : Nat → z_D → Prop) : Prop :=
  (z_r a2) ∧
  ((a2 = (-1)) →
    K D) ∧
  ((¬ a2 = (-1)) →
    z_c n d 111 [.ref 336, .int (z_i a2)] D (z_qI (fun v3 D2 => 
      z_c n d 113 [.ref 336, .int (z_i a1), .int (z_i v3)] D2 (z_qV (fun D4 => 
        K D4) T)) T))
theorem v_mLet_31 {n d : Nat} {X : z_Xt} {a1 : Int} {a2 : Int}  {D : z_D}  {K : z_D → Prop} {T : Nat → z_D → Prop}  (h : w_mLet_31 n d a1 a2 D K T) : z_w n d (k_tb 139) X 31 [some (.ref 336), some (.int (z_i a1)), some (.int (z_i a2))] [] D (z_qV K T) := by
  unfold w_mLet_31 at h
  refine zs_iload rfl rfl ?_
  refine zs_pushI (-1) rfl rfl ?_
  obtain ⟨g1, h⟩ := h
  obtain ⟨h5, h6⟩ := h
  refine zs_ceq rfl g1 (z_rk rfl) (fun c => ?_) (fun c => ?_)
  · have h := h5 c
    exact zs_ret rfl h
  · have h := h6 c
    refine zs_aload rfl rfl ?_
    refine zs_iload rfl rfl ?_
    refine zs_aload rfl rfl ?_
    refine zs_iload rfl rfl ?_
    refine z_callV (k := 336) (as0 := [.int (z_i a2)]) (r := [.int (z_i a1), .ref 336]) rfl rfl rfl (Nat.le_of_ble_eq_true rfl) (z_oI h (fun v3 D2 h => ?_) (fun _ _ h => h))
    refine z_callV (k := 336) (as0 := [.int (z_i a1), .int (z_i v3)]) (r := []) rfl rfl rfl (Nat.le_of_ble_eq_true rfl) (z_oV h (fun D4 h => ?_) (fun _ _ h => h))
    exact zs_ret rfl h
def w_mLet_18 (n d : Nat) (a1 : Int) (s0 : Int) (D : z_D)  (K : z_D → Prop) (T : Nat → z_D → Prop) : Prop :=
  (z_r s0) ∧
  ((¬ s0 = 3133) →
    w_mLet_31 n d a1 s0 D K T) ∧
  ((s0 = 3133) →
    z_c n d 105 [.ref 336] D (z_qI (fun v3 D2 => 
      w_mLet_31 n d a1 v3 D2 K T) T))
theorem v_mLet_18 {n d : Nat} {X : z_Xt} {a1 : Int} {s0 : Int}  {D : z_D}  {K : z_D → Prop} {T : Nat → z_D → Prop}  (h : w_mLet_18 n d a1 s0 D K T) : z_w n d (k_tb 139) X 18 [some (.ref 336), some (.int (z_i a1)), none] [.int (z_i s0)] D (z_qV K T) := by
  unfold w_mLet_18 at h
  refine zs_istore (ls1 := [some (.ref 336), some (.int (z_i a1)), some (.int (z_i s0))]) rfl rfl rfl ?_
  refine zs_iload rfl rfl ?_
  refine zs_pushI (3133) rfl rfl ?_
  obtain ⟨g1, h⟩ := h
  obtain ⟨h4, h5⟩ := h
  refine zs_cne rfl g1 (z_rk rfl) (fun c => ?_) (fun c => ?_)
  · have h := h4 c
    exact v_mLet_31 h
  · have h := h5 c
    refine zs_aload rfl rfl ?_
    refine z_callV (k := 336) (as0 := []) (r := []) rfl rfl rfl (Nat.le_of_ble_eq_true rfl) (z_oI h (fun v3 D2 h => ?_) (fun _ _ h => h))
    refine zs_istore (ls1 := [some (.ref 336), some (.int (z_i a1)), some (.int (z_i v3))]) rfl rfl rfl ?_
    exact v_mLet_31 h
def w_mLet_0 (n d : Nat)  (D : z_D)  (K : z_D → Prop) (T : Nat → z_D → Prop) : Prop :=
  z_c n d 135 [.ref 336] D (z_qI (fun v2 D1 => 
    (z_r v2) ∧
    ((¬ v2 = (-1)) →
      z_c n d 105 [.ref 336] D1 (z_qI (fun v5 D4 => 
        w_mLet_18 n d v2 v5 D4 K T) T)) ∧
    ((v2 = (-1)) →
      w_mLet_18 n d v2 (-1) D1 K T)) T)
theorem v_mLet_0 {n d : Nat} {X : z_Xt}   {D : z_D}  {K : z_D → Prop} {T : Nat → z_D → Prop}  (h : w_mLet_0 n d D K T) : z_w n d (k_tb 139) X 0 [some (.ref 336), none, none] [] D (z_qV K T) := by
  unfold w_mLet_0 at h
  refine zs_aload rfl rfl ?_
  refine z_callV (k := 336) (as0 := []) (r := []) rfl rfl rfl (Nat.le_of_ble_eq_true rfl) (z_oI h (fun v2 D1 h => ?_) (fun _ _ h => h))
  refine zs_istore (ls1 := [some (.ref 336), some (.int (z_i v2)), none]) rfl rfl rfl ?_
  refine zs_iload rfl rfl ?_
  refine zs_pushI (-1) rfl rfl ?_
  obtain ⟨g3, h⟩ := h
  obtain ⟨h6, h7⟩ := h
  refine zs_cne rfl g3 (z_rk rfl) (fun c => ?_) (fun c => ?_)
  · have h := h6 c
    refine zs_aload rfl rfl ?_
    refine z_callV (k := 336) (as0 := []) (r := []) rfl rfl rfl (Nat.le_of_ble_eq_true rfl) (z_oI h (fun v5 D4 h => ?_) (fun _ _ h => h))
    exact v_mLet_18 h
  · have h := h7 c
    refine zs_pushI (-1) rfl rfl ?_
    refine zs_goto rfl ?_
    exact v_mLet_18 h
theorem r_mLet {n d : Nat}  {D : z_D} {K : z_D → Prop} {T : Nat → z_D → Prop}  (h : w_mLet_0 n d D K T) : z_c n (d + 1) 139 [.ref 336] D (z_qV K T) :=
  z_enter (Nat.le_of_ble_eq_true rfl) rfl (fun X => v_mLet_0 h)
-- 140: TokenMouthModel.digit(I)I
def w_mDigit_0 (n d : Nat) (a0 : Int) (D : z_D)  (K : Int → z_D → Prop) (T : Nat → z_D → Prop) : Prop :=
  z_c n d 110 [.int (z_i a0), .int (z_i 12)] D (z_qZ (fun v2 D1 => 
    ((v2 = false) →
      K (-1) D1) ∧
    ((v2 = true) →
      (((z_and a0 255) ≤ 47) →
        K (-1) D1) ∧
      ((47 < (z_and a0 255)) →
        ((58 ≤ (z_and a0 255)) →
          K (-1) D1) ∧
        (((z_and a0 255) < 58) →
          K ((z_and a0 255) - 48) D1)))) T)
theorem v_mDigit_0 {n d : Nat} {X : z_Xt} {a0 : Int}  {D : z_D}  {K : Int → z_D → Prop} {T : Nat → z_D → Prop}  (h : w_mDigit_0 n d a0 D K T) : z_w n d (k_tb 140) X 0 [some (.int (z_i a0))] [] D (z_qI K T) := by
  unfold w_mDigit_0 at h
  refine zs_iload rfl rfl ?_
  refine zs_pushI (12) rfl rfl ?_
  refine z_callS (as0 := [.int (z_i a0), .int (z_i 12)]) (r := []) rfl rfl (Nat.le_of_ble_eq_true rfl) (z_oZ h (fun v2 D1 h => ?_) (fun _ _ h => h))
  obtain ⟨h7, h8⟩ := h
  refine zs_beq rfl (fun c => ?_) (fun c => ?_)
  · have h := h7 c
    refine zs_pushI (-1) rfl rfl ?_
    exact zs_iret rfl h
  · have h := h8 c
    refine zs_iload rfl rfl ?_
    refine zs_pushI (255) rfl rfl ?_
    refine zs_and (a := a0) (b := 255) rfl ?_
    refine zs_pushI (47) rfl rfl ?_
    obtain ⟨h5, h6⟩ := h
    refine zs_cle rfl (z_r_toInt _) (z_rk rfl) (fun c => ?_) (fun c => ?_)
    · have h := h5 c
      refine zs_pushI (-1) rfl rfl ?_
      exact zs_iret rfl h
    · have h := h6 c
      refine zs_iload rfl rfl ?_
      refine zs_pushI (255) rfl rfl ?_
      refine zs_and (a := a0) (b := 255) rfl ?_
      refine zs_pushI (58) rfl rfl ?_
      obtain ⟨h3, h4⟩ := h
      refine zs_cge rfl (z_r_toInt _) (z_rk rfl) (fun c => ?_) (fun c => ?_)
      · have h := h3 c
        refine zs_pushI (-1) rfl rfl ?_
        exact zs_iret rfl h
      · have h := h4 c
        refine zs_iload rfl rfl ?_
        refine zs_pushI (255) rfl rfl ?_
        refine zs_and (a := a0) (b := 255) rfl ?_
        refine zs_pushI (48) rfl rfl ?_
        refine zs_sub (a := (z_and a0 255)) (b := 48) rfl ?_
        refine zs_goto rfl ?_
        exact zs_iret rfl h
theorem r_mDigit {n d : Nat} {a0 : Int} {D : z_D} {K : Int → z_D → Prop} {T : Nat → z_D → Prop}  (h : w_mDigit_0 n d a0 D K T) : z_c n (d + 1) 140 [.int (z_i a0)] D (z_qI K T) :=
  z_enter (Nat.le_of_ble_eq_true rfl) rfl (fun X => v_mDigit_0 h)
