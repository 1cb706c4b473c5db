/-! what the methods mean; printed by wip/whole/dec.py -/
-- 106: TokenMouthModel.putBack(I)V
def w_mPutBack_0 (n d : Nat) (a1 : Int) (D : z_D)  (K : z_D → Prop) (T : Nat → z_D → Prop) : Prop :=
  (z_r (D.1 336 9)) ∧
  ((¬ (D.1 336 9) = 300) →
    (0 ≤ (D.1 336 9) ∧ (D.1 336 9) < 302) ∧
    ∀ D3, D3 = z_uz D 339 (Int.toNat (D.1 336 9)) a1 →
    ∀ D4, D4 = z_uz D3 336 9 ((D3.1 336 9) + 1) →
    K D4) ∧
  (((D.1 336 9) = 300) →
    z_c n d 98 [.ref 336, .int (z_i 5)] D (z_qI (fun v6 D5 => 
      K D5) T))
theorem v_mPutBack_0 {n d : Nat} {X : z_Xt} {a1 : Int}  {D : z_D}  {K : z_D → Prop} {T : Nat → z_D → Prop}  (h : w_mPutBack_0 n d a1 D K T) : z_w n d (k_tb 106) X 0 [some (.ref 336), some (.int (z_i a1)), none] [] D (z_qV K T) := by
  unfold w_mPutBack_0 at h
  refine zs_aload rfl rfl ?_
  refine zs_getI rfl rfl ?_
  refine zs_pushI (300) rfl rfl ?_
  obtain ⟨g1, h⟩ := h
  obtain ⟨h7, h8⟩ := h
  refine zs_cne rfl g1 (z_rk rfl) (fun c => ?_) (fun c => ?_)
  · have h := h7 c
    refine zs_aload rfl rfl ?_
    refine zs_getR (x := 339) rfl rfl rfl ?_
    refine zs_aload rfl rfl ?_
    refine zs_getI rfl rfl ?_
    refine zs_iload rfl rfl ?_
    obtain ⟨g2, h⟩ := h
    refine zs_iast rfl rfl (by decide) g2 (fun D3 eD3 => ?_)
    have h := h D3 eD3
    refine zs_aload rfl rfl ?_
    refine zs_dup rfl rfl ?_
    refine zs_getI rfl rfl ?_
    refine zs_pushI (1) rfl rfl ?_
    refine zs_add (a := (D3.1 336 9)) (b := 1) rfl ?_
    refine zs_putI rfl rfl (fun D4 eD4 => ?_)
    have h := h D4 eD4
    exact zs_ret rfl h
  · have h := h8 c
    refine zs_aload rfl rfl ?_
    refine zs_pushI (5) rfl rfl ?_
    refine z_callV (k := 336) (as0 := [.int (z_i 5)]) (r := []) rfl rfl rfl (Nat.le_of_ble_eq_true rfl) (z_oI h (fun v6 D5 h => ?_) (fun _ _ h => h))
    refine zs_istore (ls1 := [some (.ref 336), some (.int (z_i a1)), some (.int (z_i v6))]) rfl rfl rfl ?_
    exact zs_ret rfl h
theorem r_mPutBack {n d : Nat} {a1 : Int} {D : z_D} {K : z_D → Prop} {T : Nat → z_D → Prop}  (h : w_mPutBack_0 n d a1 D K T) : z_c n (d + 1) 106 [.ref 336, .int (z_i a1)] D (z_qV K T) :=
  z_enter (Nat.le_of_ble_eq_true rfl) rfl (fun X => v_mPutBack_0 h)
-- 107: TokenMouthModel.isName(I)Z
def w_mIsName_0 (n d : Nat) (a0 : Int) (D : z_D)  (K : Bool → z_D → Prop) (T : Nat → z_D → Prop) : Prop :=
  (z_r a0) ∧
  ((a0 < 4096) →
    K false D) ∧
  ((4096 ≤ a0) →
    ((16384 ≤ a0) →
      K false D) ∧
    ((a0 < 16384) →
      K true D))
theorem v_mIsName_0 {n d : Nat} {X : z_Xt} {a0 : Int}  {D : z_D}  {K : Bool → z_D → Prop} {T : Nat → z_D → Prop}  (h : w_mIsName_0 n d a0 D K T) : z_w n d (k_tb 107) X 0 [some (.int (z_i a0))] [] D (z_qZ K T) := by
  unfold w_mIsName_0 at h
  refine zs_iload rfl rfl ?_
  refine zs_pushI (4096) rfl rfl ?_
  obtain ⟨g1, h⟩ := h
  obtain ⟨h4, h5⟩ := h
  refine zs_clt rfl g1 (z_rk rfl) (fun c => ?_) (fun c => ?_)
  · have h := h4 c
    refine zs_pushI (0) rfl rfl ?_
    exact zs_zret (b := false) rfl h
  · have h := h5 c
    refine zs_iload rfl rfl ?_
    refine zs_pushI (16384) rfl rfl ?_
    obtain ⟨h2, h3⟩ := h
    refine zs_cge rfl g1 (z_rk rfl) (fun c => ?_) (fun c => ?_)
    · have h := h2 c
      refine zs_pushI (0) rfl rfl ?_
      exact zs_zret (b := false) rfl h
    · have h := h3 c
      refine zs_pushI (1) rfl rfl ?_
      refine zs_goto rfl ?_
      exact zs_zret (b := true) rfl h
theorem r_mIsName {n d : Nat} {a0 : Int} {D : z_D} {K : Bool → z_D → Prop} {T : Nat → z_D → Prop}  (h : w_mIsName_0 n d a0 D K T) : z_c n (d + 1) 107 [.int (z_i a0)] D (z_qZ K T) :=
  z_enter (Nat.le_of_ble_eq_true rfl) rfl (fun X => v_mIsName_0 h)
-- 108: TokenMouthModel.isMarked(I)Z
def w_mIsMarked_0 (n d : Nat) (a0 : Int) (D : z_D)  (K : Bool → z_D → Prop) (T : Nat → z_D → Prop) : Prop :=
  z_c n d 107 [.int (z_i a0)] D (z_qZ (fun v2 D1 => 
    ((v2 = false) →
      K false D1) ∧
    ((v2 = true) →
      (((z_and a0 8192) = 0) →
        K false D1) ∧
      ((¬ (z_and a0 8192) = 0) →
        K true D1))) T)
theorem v_mIsMarked_0 {n d : Nat} {X : z_Xt} {a0 : Int}  {D : z_D}  {K : Bool → z_D → Prop} {T : Nat → z_D → Prop}  (h : w_mIsMarked_0 n d a0 D K T) : z_w n d (k_tb 108) X 0 [some (.int (z_i a0))] [] D (z_qZ K T) := by
  unfold w_mIsMarked_0 at h
  refine zs_iload rfl rfl ?_
  refine z_callS (as0 := [.int (z_i a0)]) (r := []) rfl rfl (Nat.le_of_ble_eq_true rfl) (z_oZ h (fun v2 D1 h => ?_) (fun _ _ h => h))
  obtain ⟨h5, h6⟩ := h
  refine zs_beq rfl (fun c => ?_) (fun c => ?_)
  · have h := h5 c
    refine zs_pushI (0) rfl rfl ?_
    exact zs_zret (b := false) rfl h
  · have h := h6 c
    refine zs_iload rfl rfl ?_
    refine zs_pushI (8192) rfl rfl ?_
    refine zs_and (a := a0) (b := 8192) rfl ?_
    obtain ⟨h3, h4⟩ := h
    refine zs_ifeq rfl (z_r_toInt _) (fun c => ?_) (fun c => ?_)
    · have h := h3 c
      refine zs_pushI (0) rfl rfl ?_
      exact zs_zret (b := false) rfl h
    · have h := h4 c
      refine zs_pushI (1) rfl rfl ?_
      refine zs_goto rfl ?_
      exact zs_zret (b := true) rfl h
theorem r_mIsMarked {n d : Nat} {a0 : Int} {D : z_D} {K : Bool → z_D → Prop} {T : Nat → z_D → Prop}  (h : w_mIsMarked_0 n d a0 D K T) : z_c n (d + 1) 108 [.int (z_i a0)] D (z_qZ K T) :=
  z_enter (Nat.le_of_ble_eq_true rfl) rfl (fun X => v_mIsMarked_0 h)
-- 109: TokenMouthModel.plain(I)I
def w_mPlain_0 (n d : Nat) (a0 : Int) (D : z_D)  (K : Int → z_D → Prop) (T : Nat → z_D → Prop) : Prop :=
  z_c n d 108 [.int (z_i a0)] D (z_qZ (fun v2 D1 => 
    ((v2 = false) →
      K a0 D1) ∧
    ((v2 = true) →
      K (a0 - 8192) D1)) T)
theorem v_mPlain_0 {n d : Nat} {X : z_Xt} {a0 : Int}  {D : z_D}  {K : Int → z_D → Prop} {T : Nat → z_D → Prop}  (h : w_mPlain_0 n d a0 D K T) : z_w n d (k_tb 109) X 0 [some (.int (z_i a0))] [] D (z_qI K T) := by
  unfold w_mPlain_0 at h
  refine zs_iload rfl rfl ?_
  refine z_callS (as0 := [.int (z_i a0)]) (r := []) rfl rfl (Nat.le_of_ble_eq_true rfl) (z_oZ h (fun v2 D1 h => ?_) (fun _ _ h => h))
  obtain ⟨h3, h4⟩ := h
  refine zs_beq rfl (fun c => ?_) (fun c => ?_)
  · have h := h3 c
    refine zs_iload rfl rfl ?_
    exact zs_iret rfl h
  · have h := h4 c
    refine zs_iload rfl rfl ?_
    refine zs_pushI (8192) rfl rfl ?_
    refine zs_sub (a := a0) (b := 8192) rfl ?_
    refine zs_goto rfl ?_
    exact zs_iret rfl h
theorem r_mPlain {n d : Nat} {a0 : Int} {D : z_D} {K : Int → z_D → Prop} {T : Nat → z_D → Prop}  (h : w_mPlain_0 n d a0 D K T) : z_c n (d + 1) 109 [.int (z_i a0)] D (z_qI K T) :=
  z_enter (Nat.le_of_ble_eq_true rfl) rfl (fun X => v_mPlain_0 h)
-- 110: TokenMouthModel.isCharacter(II)Z
def w_mIsCharacter_0 (n d : Nat) (a0 : Int) (a1 : Int) (D : z_D)  (K : Bool → z_D → Prop) (T : Nat → z_D → Prop) : Prop :=
  (z_r a0) ∧
  ((a0 < 0) →
    K false D) ∧
  ((0 ≤ a0) →
    ((4096 ≤ a0) →
      K false D) ∧
    ((a0 < 4096) →
      (z_r a1) ∧
      ((¬ (z_shr a0 8) = a1) →
        K false D) ∧
      (((z_shr a0 8) = a1) →
        K true D)))
theorem v_mIsCharacter_0 {n d : Nat} {X : z_Xt} {a0 : Int} {a1 : Int}  {D : z_D}  {K : Bool → z_D → Prop} {T : Nat → z_D → Prop}  (h : w_mIsCharacter_0 n d a0 a1 D K T) : z_w n d (k_tb 110) X 0 [some (.int (z_i a0)), some (.int (z_i a1))] [] D (z_qZ K T) := by
  unfold w_mIsCharacter_0 at h
  refine zs_iload rfl rfl ?_
  obtain ⟨g1, h⟩ := h
  obtain ⟨h7, h8⟩ := h
  refine zs_iflt rfl g1 (fun c => ?_) (fun c => ?_)
  · have h := h7 c
    refine zs_pushI (0) rfl rfl ?_
    exact zs_zret (b := false) rfl h
  · have h := h8 c
    refine zs_iload rfl rfl ?_
    refine zs_pushI (4096) rfl rfl ?_
    obtain ⟨h5, h6⟩ := h
    refine zs_cge rfl g1 (z_rk rfl) (fun c => ?_) (fun c => ?_)
    · have h := h5 c
      refine zs_pushI (0) rfl rfl ?_
      exact zs_zret (b := false) rfl h
    · have h := h6 c
      refine zs_iload rfl rfl ?_
      refine zs_pushI (8) rfl rfl ?_
      refine zs_shr (a := a0) (b := 8) rfl ?_
      refine zs_iload rfl rfl ?_
      obtain ⟨g2, h⟩ := h
      obtain ⟨h3, h4⟩ := h
      refine zs_cne rfl (z_r_toInt _) g2 (fun c => ?_) (fun c => ?_)
      · have h := h3 c
        refine zs_pushI (0) rfl rfl ?_
        exact zs_zret (b := false) rfl h
      · have h := h4 c
        refine zs_pushI (1) rfl rfl ?_
        refine zs_goto rfl ?_
        exact zs_zret (b := true) rfl h
theorem r_mIsCharacter {n d : Nat} {a0 : Int} {a1 : Int} {D : z_D} {K : Bool → z_D → Prop} {T : Nat → z_D → Prop}  (h : w_mIsCharacter_0 n d a0 a1 D K T) : z_c n (d + 1) 110 [.int (z_i a0), .int (z_i a1)] D (z_qZ K T) :=
  z_enter (Nat.le_of_ble_eq_true rfl) rfl (fun X => v_mIsCharacter_0 h)
-- 111: TokenMouthModel.meaningOf(I)I
def w_mMeaningOf_0 (n d : Nat) (a1 : Int) (D : z_D)  (K : Int → z_D → Prop) (T : Nat → z_D → Prop) : Prop :=
  (z_r a1) ∧
  ((4096 ≤ a1) →
    z_c n d 108 [.int (z_i a1)] D (z_qZ (fun v3 D2 => 
      ((v3 = false) →
        (0 ≤ (a1 - 4096) ∧ (a1 - 4096) < 120) ∧
        K (D2.1 343 (Int.toNat (a1 - 4096))) D2) ∧
      ((v3 = true) →
        K 2 D2)) T)) ∧
  ((a1 < 4096) →
    K (1000 + a1) D)
theorem v_mMeaningOf_0 {n d : Nat} {X : z_Xt} {a1 : Int}  {D : z_D}  {K : Int → z_D → Prop} {T : Nat → z_D → Prop}  (h : w_mMeaningOf_0 n d a1 D K T) : z_w n d (k_tb 111) X 0 [some (.ref 336), some (.int (z_i a1))] [] D (z_qI K T) := by
  unfold w_mMeaningOf_0 at h
  refine zs_iload rfl rfl ?_
  refine zs_pushI (4096) rfl rfl ?_
  obtain ⟨g1, h⟩ := h
  obtain ⟨h7, h8⟩ := h
  refine zs_cge rfl g1 (z_rk rfl) (fun c => ?_) (fun c => ?_)
  · have h := h7 c
    refine zs_iload rfl rfl ?_
    refine z_callS (as0 := [.int (z_i a1)]) (r := []) rfl rfl (Nat.le_of_ble_eq_true rfl) (z_oZ h (fun v3 D2 h => ?_) (fun _ _ h => h))
    obtain ⟨h5, h6⟩ := h
    refine zs_beq rfl (fun c => ?_) (fun c => ?_)
    · have h := h5 c
      refine zs_aload rfl rfl ?_
      refine zs_getR (x := 343) rfl rfl rfl ?_
      refine zs_iload rfl rfl ?_
      refine zs_pushI (4096) rfl rfl ?_
      refine zs_sub (a := a1) (b := 4096) rfl ?_
      obtain ⟨g4, h⟩ := h
      refine zs_iald rfl rfl (by decide) g4 ?_
      exact zs_iret rfl h
    · have h := h6 c
      refine zs_pushI (2) rfl rfl ?_
      refine zs_goto rfl ?_
      exact zs_iret rfl h
  · have h := h8 c
    refine zs_pushI (1000) rfl rfl ?_
    refine zs_iload rfl rfl ?_
    refine zs_add (a := 1000) (b := a1) rfl ?_
    refine zs_goto rfl ?_
    exact zs_iret rfl h
theorem r_mMeaningOf {n d : Nat} {a1 : Int} {D : z_D} {K : Int → z_D → Prop} {T : Nat → z_D → Prop}  (h : w_mMeaningOf_0 n d a1 D K T) : z_c n (d + 1) 111 [.ref 336, .int (z_i a1)] D (z_qI K T) :=
  z_enter (Nat.le_of_ble_eq_true rfl) rfl (fun X => v_mMeaningOf_0 h)
-- 112: TokenMouthModel.isExpandable(I)Z
def w_mIsExpandable_0 (n d : Nat) (a1 : Int) (D : z_D)  (K : Bool → z_D → Prop) (T : Nat → z_D → Prop) : Prop :=
  z_c n d 111 [.ref 336, .int (z_i a1)] D (z_qI (fun v2 D1 => 
    (z_r v2) ∧
    ((6000 ≤ v2) →
      K true D1) ∧
    ((v2 < 6000) →
      ((v2 = 8) →
        K true D1) ∧
      ((¬ v2 = 8) →
        ((v2 = 9) →
          K true D1) ∧
        ((¬ v2 = 9) →
          ((v2 = 10) →
            K true D1) ∧
          ((¬ v2 = 10) →
            ((v2 < 12) →
              K false D1) ∧
            ((12 ≤ v2) →
              ((18 < v2) →
                K false D1) ∧
              ((v2 ≤ 18) →
                K true D1))))))) T)
theorem v_mIsExpandable_0 {n d : Nat} {X : z_Xt} {a1 : Int}  {D : z_D}  {K : Bool → z_D → Prop} {T : Nat → z_D → Prop}  (h : w_mIsExpandable_0 n d a1 D K T) : z_w n d (k_tb 112) X 0 [some (.ref 336), some (.int (z_i a1)), none] [] D (z_qZ K T) := by
  unfold w_mIsExpandable_0 at h
  refine zs_aload rfl rfl ?_
  refine zs_iload rfl rfl ?_
  refine z_callV (k := 336) (as0 := [.int (z_i a1)]) (r := []) rfl rfl rfl (Nat.le_of_ble_eq_true rfl) (z_oI h (fun v2 D1 h => ?_) (fun _ _ h => h))
  refine zs_istore (ls1 := [some (.ref 336), some (.int (z_i a1)), some (.int (z_i v2))]) rfl rfl rfl ?_
  refine zs_iload rfl rfl ?_
  refine zs_pushI (6000) rfl rfl ?_
  obtain ⟨g3, h⟩ := h
  obtain ⟨h14, h15⟩ := h
  refine zs_cge rfl g3 (z_rk rfl) (fun c => ?_) (fun c => ?_)
  · have h := h14 c
    refine zs_pushI (1) rfl rfl ?_
    refine zs_goto rfl ?_
    exact zs_zret (b := true) rfl h
  · have h := h15 c
    refine zs_iload rfl rfl ?_
    refine zs_pushI (8) rfl rfl ?_
    obtain ⟨h12, h13⟩ := h
    refine zs_ceq rfl g3 (z_rk rfl) (fun c => ?_) (fun c => ?_)
    · have h := h12 c
      refine zs_pushI (1) rfl rfl ?_
      refine zs_goto rfl ?_
      exact zs_zret (b := true) rfl h
    · have h := h13 c
      refine zs_iload rfl rfl ?_
      refine zs_pushI (9) rfl rfl ?_
      obtain ⟨h10, h11⟩ := h
      refine zs_ceq rfl g3 (z_rk rfl) (fun c => ?_) (fun c => ?_)
      · have h := h10 c
        refine zs_pushI (1) rfl rfl ?_
        refine zs_goto rfl ?_
        exact zs_zret (b := true) rfl h
      · have h := h11 c
        refine zs_iload rfl rfl ?_
        refine zs_pushI (10) rfl rfl ?_
        obtain ⟨h8, h9⟩ := h
        refine zs_ceq rfl g3 (z_rk rfl) (fun c => ?_) (fun c => ?_)
        · have h := h8 c
          refine zs_pushI (1) rfl rfl ?_
          refine zs_goto rfl ?_
          exact zs_zret (b := true) rfl h
        · have h := h9 c
          refine zs_iload rfl rfl ?_
          refine zs_pushI (12) rfl rfl ?_
          obtain ⟨h6, h7⟩ := h
          refine zs_clt rfl g3 (z_rk rfl) (fun c => ?_) (fun c => ?_)
          · have h := h6 c
            refine zs_pushI (0) rfl rfl ?_
            exact zs_zret (b := false) rfl h
          · have h := h7 c
            refine zs_iload rfl rfl ?_
            refine zs_pushI (18) rfl rfl ?_
            obtain ⟨h4, h5⟩ := h
            refine zs_cgt rfl g3 (z_rk rfl) (fun c => ?_) (fun c => ?_)
            · have h := h4 c
              refine zs_pushI (0) rfl rfl ?_
              exact zs_zret (b := false) rfl h
            · have h := h5 c
              refine zs_pushI (1) rfl rfl ?_
              refine zs_goto rfl ?_
              exact zs_zret (b := true) rfl h
theorem r_mIsExpandable {n d : Nat} {a1 : Int} {D : z_D} {K : Bool → z_D → Prop} {T : Nat → z_D → Prop}  (h : w_mIsExpandable_0 n d a1 D K T) : z_c n (d + 1) 112 [.ref 336, .int (z_i a1)] D (z_qZ K T) :=
  z_enter (Nat.le_of_ble_eq_true rfl) rfl (fun X => v_mIsExpandable_0 h)
-- 113: TokenMouthModel.change(II)V
def w_mChange_0 (n d : Nat) (a1 : Int) (a2 : Int) (D : z_D) (H16 : Int → Int → Bool → Int → z_D → Prop) (K : z_D → Prop) (T : Nat → z_D → Prop) : Prop :=
  (z_r (D.1 336 18)) ∧
  ((¬ (D.1 336 18) = 0) →
    H16 a1 a2 false 0 D) ∧
  (((D.1 336 18) = 0) →
    H16 a1 a2 true 0 D)
theorem v_mChange_0 {n d : Nat} {X : z_Xt} {a1 : Int} {a2 : Int}  {D : z_D} {H16 : Int → Int → Bool → Int → z_D → Prop} {K : z_D → Prop} {T : Nat → z_D → Prop} (hH16 : ∀ (a1 : Int) (a2 : Int) (b3 : Bool) (a4 : Int) (D : z_D), H16 a1 a2 b3 a4 D → z_w n d (k_tb 113) X 16 [some (.ref 336), some (.int (z_i a1)), some (.int (z_i a2)), some (.int (z_i (z_b b3))), some (.int (z_i a4))] [] D (z_qV K T)) (h : w_mChange_0 n d a1 a2 D H16 K T) : z_w n d (k_tb 113) X 0 [some (.ref 336), some (.int (z_i a1)), some (.int (z_i a2)), none, none] [] D (z_qV K T) := by
  unfold w_mChange_0 at h
  refine zs_aload rfl rfl ?_
  refine zs_getI rfl rfl ?_
  obtain ⟨g1, h⟩ := h
  obtain ⟨h2, h3⟩ := h
  refine zs_ifne rfl g1 (fun c => ?_) (fun c => ?_)
  · have h := h2 c
    refine zs_pushI (0) rfl rfl ?_
    refine zs_istore (ls1 := [some (.ref 336), some (.int (z_i a1)), some (.int (z_i a2)), some (.int (z_i 0)), none]) rfl rfl rfl ?_
    refine zs_pushI (0) rfl rfl ?_
    refine zs_istore (ls1 := [some (.ref 336), some (.int (z_i a1)), some (.int (z_i a2)), some (.int (z_i 0)), some (.int (z_i 0))]) rfl rfl rfl ?_
    exact hH16 _ _ _ _  _  h
  · have h := h3 c
    refine zs_pushI (1) rfl rfl ?_
    refine zs_goto rfl ?_
    refine zs_istore (ls1 := [some (.ref 336), some (.int (z_i a1)), some (.int (z_i a2)), some (.int (z_i 1)), none]) rfl rfl rfl ?_
    refine zs_pushI (0) rfl rfl ?_
    refine zs_istore (ls1 := [some (.ref 336), some (.int (z_i a1)), some (.int (z_i a2)), some (.int (z_i 1)), some (.int (z_i 0))]) rfl rfl rfl ?_
    exact hH16 _ _ _ _  _  h
def w_mChange_155 (n d : Nat) (a1 : Int) (a2 : Int) (D : z_D)  (K : z_D → Prop) (T : Nat → z_D → Prop) : Prop :=
  (z_r a1) ∧
  ((200 ≤ a1) →
    (0 ≤ (a1 - 200) ∧ (a1 - 200) < 128) ∧
    ∀ D3, D3 = z_uz D 338 (Int.toNat (a1 - 200)) a2 →
    K D3) ∧
  ((a1 < 200) →
    (0 ≤ a1 ∧ a1 < 120) ∧
    ∀ D5, D5 = z_uz D 343 (Int.toNat a1) a2 →
    K D5)
theorem v_mChange_155 {n d : Nat} {X : z_Xt} {a1 : Int} {a2 : Int} {o3 : Option Value} {o4 : Option Value} {D : z_D}  {K : z_D → Prop} {T : Nat → z_D → Prop} (n3 : z_nl o3) (n4 : z_nl o4) (h : w_mChange_155 n d a1 a2 D K T) : z_w n d (k_tb 113) X 155 [some (.ref 336), some (.int (z_i a1)), some (.int (z_i a2)), o3, o4] [] D (z_qV K T) := by
  unfold w_mChange_155 at h
  refine zs_iload rfl rfl ?_
  refine zs_pushI (200) rfl rfl ?_
  obtain ⟨g1, h⟩ := h
  obtain ⟨h6, h7⟩ := h
  refine zs_cge rfl g1 (z_rk rfl) (fun c => ?_) (fun c => ?_)
  · have h := h6 c
    refine zs_aload rfl rfl ?_
    refine zs_getR (x := 338) rfl rfl rfl ?_
    refine zs_iload rfl rfl ?_
    refine zs_pushI (200) rfl rfl ?_
    refine zs_sub (a := a1) (b := 200) rfl ?_
    refine zs_iload rfl rfl ?_
    obtain ⟨g2, h⟩ := h
    refine zs_iast rfl rfl (by decide) g2 (fun D3 eD3 => ?_)
    have h := h D3 eD3
    exact zs_ret rfl h
  · have h := h7 c
    refine zs_aload rfl rfl ?_
    refine zs_getR (x := 343) rfl rfl rfl ?_
    refine zs_iload rfl rfl ?_
    refine zs_iload rfl rfl ?_
    obtain ⟨g4, h⟩ := h
    refine zs_iast rfl rfl (by decide) g4 (fun D5 eD5 => ?_)
    have h := h D5 eD5
    refine zs_goto rfl ?_
    exact zs_ret rfl h
def w_mChange_144 (n d : Nat) (a1 : Int) (a2 : Int) (s1 : Int) (s2 : Int) (D : z_D)  (K : z_D → Prop) (T : Nat → z_D → Prop) : Prop :=
  (0 ≤ s1 ∧ s1 < 60) ∧
  ∀ D2, D2 = z_uz D 347 (Int.toNat s1) s2 →
  ∀ D3, D3 = z_uz D2 336 19 ((D2.1 336 19) + 1) →
  w_mChange_155 n d a1 a2 D3 K T
theorem v_mChange_144 {n d : Nat} {X : z_Xt} {a1 : Int} {a2 : Int} {s1 : Int} {s2 : Int} {o3 : Option Value} {o4 : Option Value} {D : z_D}  {K : z_D → Prop} {T : Nat → z_D → Prop} (n3 : z_nl o3) (n4 : z_nl o4) (h : w_mChange_144 n d a1 a2 s1 s2 D K T) : z_w n d (k_tb 113) X 144 [some (.ref 336), some (.int (z_i a1)), some (.int (z_i a2)), o3, o4] [.int (z_i s2), .int (z_i s1), .ref 347] D (z_qV K T) := by
  unfold w_mChange_144 at h
  obtain ⟨g1, h⟩ := h
  refine zs_iast rfl rfl (by decide) g1 (fun D2 eD2 => ?_)
  have h := h D2 eD2
  refine zs_aload rfl rfl ?_
  refine zs_dup rfl rfl ?_
  refine zs_getI rfl rfl ?_
  refine zs_pushI (1) rfl rfl ?_
  refine zs_add (a := (D2.1 336 19)) (b := 1) rfl ?_
  refine zs_putI rfl rfl (fun D3 eD3 => ?_)
  have h := h D3 eD3
  exact v_mChange_155 (by first | assumption | exact trivial) (by first | assumption | exact trivial) h
def w_mChange_16 (n d : Nat) (a1 : Int) (a2 : Int) (b3 : Bool) (a4 : Int) (D : z_D) (H16 : Int → Int → Bool → Int → z_D → Prop) (K : z_D → Prop) (T : Nat → z_D → Prop) : Prop :=
  (z_r a4) ∧ (z_r (D.1 336 19)) ∧
  (((D.1 336 19) ≤ a4) →
    ((b3 = true) →
      w_mChange_155 n d a1 a2 D K T) ∧
    ((b3 = false) →
      ((¬ (D.1 336 19) = 60) →
        (0 ≤ (D.1 336 19) ∧ (D.1 336 19) < 60) ∧
        ∀ D4, D4 = z_uz D 345 (Int.toNat (D.1 336 19)) (D.1 336 18) →
        (0 ≤ (D4.1 336 19) ∧ (D4.1 336 19) < 60) ∧
        ∀ D6, D6 = z_uz D4 346 (Int.toNat (D4.1 336 19)) a1 →
        (z_r a1) ∧
        ((200 ≤ a1) →
          (0 ≤ (a1 - 200) ∧ (a1 - 200) < 128) ∧
          w_mChange_144 n d a1 a2 (D6.1 336 19) (D6.1 338 (Int.toNat (a1 - 200))) D6 K T) ∧
        ((a1 < 200) →
          (0 ≤ a1 ∧ a1 < 120) ∧
          w_mChange_144 n d a1 a2 (D6.1 336 19) (D6.1 343 (Int.toNat a1)) D6 K T)) ∧
      (((D.1 336 19) = 60) →
        z_c n d 98 [.ref 336, .int (z_i 5)] D (z_qI (fun v13 D12 => 
          K D12) T)))) ∧
  ((a4 < (D.1 336 19)) →
    ((b3 = true) →
      H16 a1 a2 true (a4 + 1) D) ∧
    ((b3 = false) →
      (0 ≤ a4 ∧ a4 < 60) ∧
      (z_r (D.1 345 (Int.toNat a4))) ∧ (z_r (D.1 336 18)) ∧
      ((¬ (D.1 345 (Int.toNat a4)) = (D.1 336 18)) →
        H16 a1 a2 false (a4 + 1) D) ∧
      (((D.1 345 (Int.toNat a4)) = (D.1 336 18)) →
        (0 ≤ a4 ∧ a4 < 60) ∧
        (z_r (D.1 346 (Int.toNat a4))) ∧ (z_r a1) ∧
        ((¬ (D.1 346 (Int.toNat a4)) = a1) →
          H16 a1 a2 false (a4 + 1) D) ∧
        (((D.1 346 (Int.toNat a4)) = a1) →
          H16 a1 a2 true (a4 + 1) D))))
theorem v_mChange_16 {n d : Nat} {X : z_Xt} {a1 : Int} {a2 : Int} {b3 : Bool} {a4 : Int}  {D : z_D} {H16 : Int → Int → Bool → Int → z_D → Prop} {K : z_D → Prop} {T : Nat → z_D → Prop} (hH16 : ∀ (a1 : Int) (a2 : Int) (b3 : Bool) (a4 : Int) (D : z_D), H16 a1 a2 b3 a4 D → z_w n d (k_tb 113) X 16 [some (.ref 336), some (.int (z_i a1)), some (.int (z_i a2)), some (.int (z_i (z_b b3))), some (.int (z_i a4))] [] D (z_qV K T)) (h : w_mChange_16 n d a1 a2 b3 a4 D H16 K T) : z_w n d (k_tb 113) X 16 [some (.ref 336), some (.int (z_i a1)), some (.int (z_i a2)), some (.int (z_i (z_b b3))), some (.int (z_i a4))] [] D (z_qV K T) := by
  unfold w_mChange_16 at h
  refine zs_iload rfl rfl ?_
  refine zs_aload rfl rfl ?_
  refine zs_getI rfl rfl ?_
  obtain ⟨g1, g2, h⟩ := h
  obtain ⟨h30, h31⟩ := h
  refine zs_cge rfl g1 g2 (fun c => ?_) (fun c => ?_)
  · have h := h30 c
    refine zs_iload rfl rfl ?_
    obtain ⟨h16, h17⟩ := h
    refine zs_bne rfl (fun c => ?_) (fun c => ?_)
    · have h := h16 c
      exact v_mChange_155 (by first | assumption | exact trivial) (by first | assumption | exact trivial) h
    · have h := h17 c
      refine zs_aload rfl rfl ?_
      refine zs_getI rfl rfl ?_
      refine zs_pushI (60) rfl rfl ?_
      obtain ⟨h14, h15⟩ := h
      refine zs_cne rfl g2 (z_rk rfl) (fun c => ?_) (fun c => ?_)
      · have h := h14 c
        refine zs_aload rfl rfl ?_
        refine zs_getR (x := 345) rfl rfl rfl ?_
        refine zs_aload rfl rfl ?_
        refine zs_getI rfl rfl ?_
        refine zs_aload rfl rfl ?_
        refine zs_getI rfl rfl ?_
        obtain ⟨g3, h⟩ := h
        refine zs_iast rfl rfl (by decide) g3 (fun D4 eD4 => ?_)
        have h := h D4 eD4
        refine zs_aload rfl rfl ?_
        refine zs_getR (x := 346) rfl rfl rfl ?_
        refine zs_aload rfl rfl ?_
        refine zs_getI rfl rfl ?_
        refine zs_iload rfl rfl ?_
        obtain ⟨g5, h⟩ := h
        refine zs_iast rfl rfl (by decide) g5 (fun D6 eD6 => ?_)
        have h := h D6 eD6
        refine zs_aload rfl rfl ?_
        refine zs_getR (x := 347) rfl rfl rfl ?_
        refine zs_aload rfl rfl ?_
        refine zs_getI rfl rfl ?_
        refine zs_iload rfl rfl ?_
        refine zs_pushI (200) rfl rfl ?_
        obtain ⟨g7, h⟩ := h
        obtain ⟨h10, h11⟩ := h
        refine zs_cge rfl g7 (z_rk rfl) (fun c => ?_) (fun c => ?_)
        · have h := h10 c
          refine zs_aload rfl rfl ?_
          refine zs_getR (x := 338) rfl rfl rfl ?_
          refine zs_iload rfl rfl ?_
          refine zs_pushI (200) rfl rfl ?_
          refine zs_sub (a := a1) (b := 200) rfl ?_
          obtain ⟨g8, h⟩ := h
          refine zs_iald rfl rfl (by decide) g8 ?_
          exact v_mChange_144 (by first | assumption | exact trivial) (by first | assumption | exact trivial) h
        · have h := h11 c
          refine zs_aload rfl rfl ?_
          refine zs_getR (x := 343) rfl rfl rfl ?_
          refine zs_iload rfl rfl ?_
          obtain ⟨g9, h⟩ := h
          refine zs_iald rfl rfl (by decide) g9 ?_
          refine zs_goto rfl ?_
          exact v_mChange_144 (by first | assumption | exact trivial) (by first | assumption | exact trivial) h
      · have h := h15 c
        refine zs_aload rfl rfl ?_
        refine zs_pushI (5) rfl rfl ?_
        refine z_callV (k := 336) (as0 := [.int (z_i 5)]) (r := []) rfl rfl rfl (Nat.le_of_ble_eq_true rfl) (z_oI h (fun v13 D12 h => ?_) (fun _ _ h => h))
        refine zs_istore (ls1 := [some (.ref 336), some (.int (z_i a1)), some (.int (z_i a2)), some (.int (z_i (z_b b3))), some (.int (z_i v13))]) rfl rfl rfl ?_
        exact zs_ret rfl h
  · have h := h31 c
    refine zs_iload rfl rfl ?_
    obtain ⟨h28, h29⟩ := h
    refine zs_bne rfl (fun c => ?_) (fun c => ?_)
    · have h := h28 c
      refine zs_pushI (1) rfl rfl ?_
      refine zs_goto rfl ?_
      refine zs_istore (ls1 := [some (.ref 336), some (.int (z_i a1)), some (.int (z_i a2)), some (.int (z_i 1)), some (.int (z_i a4))]) rfl rfl rfl ?_
      refine zs_iinc (a := a4) (1) (ls1 := [some (.ref 336), some (.int (z_i a1)), some (.int (z_i a2)), some (.int (z_i 1)), some (.int (z_i (a4 + 1)))]) rfl rfl rfl rfl ?_
      refine zs_goto rfl ?_
      exact hH16 _ _ _ _  _  h
    · have h := h29 c
      refine zs_aload rfl rfl ?_
      refine zs_getR (x := 345) rfl rfl rfl ?_
      refine zs_iload rfl rfl ?_
      obtain ⟨g18, h⟩ := h
      refine zs_iald rfl rfl (by decide) g18 ?_
      refine zs_aload rfl rfl ?_
      refine zs_getI rfl rfl ?_
      obtain ⟨g19, g20, h⟩ := h
      obtain ⟨h26, h27⟩ := h
      refine zs_cne rfl g19 g20 (fun c => ?_) (fun c => ?_)
      · have h := h26 c
        refine zs_pushI (0) rfl rfl ?_
        refine zs_istore (ls1 := [some (.ref 336), some (.int (z_i a1)), some (.int (z_i a2)), some (.int (z_i 0)), some (.int (z_i a4))]) rfl rfl rfl ?_
        refine zs_iinc (a := a4) (1) (ls1 := [some (.ref 336), some (.int (z_i a1)), some (.int (z_i a2)), some (.int (z_i 0)), some (.int (z_i (a4 + 1)))]) rfl rfl rfl rfl ?_
        refine zs_goto rfl ?_
        exact hH16 _ _ _ _  _  h
      · have h := h27 c
        refine zs_aload rfl rfl ?_
        refine zs_getR (x := 346) rfl rfl rfl ?_
        refine zs_iload rfl rfl ?_
        obtain ⟨g21, h⟩ := h
        refine zs_iald rfl rfl (by decide) g21 ?_
        refine zs_iload rfl rfl ?_
        obtain ⟨g22, g23, h⟩ := h
        obtain ⟨h24, h25⟩ := h
        refine zs_cne rfl g22 g23 (fun c => ?_) (fun c => ?_)
        · have h := h24 c
          refine zs_pushI (0) rfl rfl ?_
          refine zs_istore (ls1 := [some (.ref 336), some (.int (z_i a1)), some (.int (z_i a2)), some (.int (z_i 0)), some (.int (z_i a4))]) rfl rfl rfl ?_
          refine zs_iinc (a := a4) (1) (ls1 := [some (.ref 336), some (.int (z_i a1)), some (.int (z_i a2)), some (.int (z_i 0)), some (.int (z_i (a4 + 1)))]) rfl rfl rfl rfl ?_
          refine zs_goto rfl ?_
          exact hH16 _ _ _ _  _  h
        · have h := h25 c
          refine zs_pushI (1) rfl rfl ?_
          refine zs_goto rfl ?_
          refine zs_istore (ls1 := [some (.ref 336), some (.int (z_i a1)), some (.int (z_i a2)), some (.int (z_i 1)), some (.int (z_i a4))]) rfl rfl rfl ?_
          refine zs_iinc (a := a4) (1) (ls1 := [some (.ref 336), some (.int (z_i a1)), some (.int (z_i a2)), some (.int (z_i 1)), some (.int (z_i (a4 + 1)))]) rfl rfl rfl rfl ?_
          refine zs_goto rfl ?_
          exact hH16 _ _ _ _  _  h
theorem r_mChange {n d : Nat} {a1 : Int} {a2 : Int} {D : z_D} {K : z_D → Prop} {T : Nat → z_D → Prop}  (I16 : Nat → Int → Int → Bool → Int → z_D → Prop) (hE : w_mChange_0 n d a1 a2 D (fun a1 a2 b3 a4 D => ∃ m, I16 m a1 a2 b3 a4 D) K T) (h16 : ∀ (mm : Nat) (a1 : Int) (a2 : Int) (b3 : Bool) (a4 : Int) (D : z_D), I16 mm a1 a2 b3 a4 D → w_mChange_16 n d a1 a2 b3 a4 D (fun a1 a2 b3 a4 D => ∃ m, m < mm ∧ I16 m a1 a2 b3 a4 D) K T) : z_c n (d + 1) 113 [.ref 336, .int (z_i a1), .int (z_i a2)] D (z_qV K T) := by
  refine z_enter (Nat.le_of_ble_eq_true rfl) rfl (fun X => ?_)
  have key : ∀ m, (∀ (a1 : Int) (a2 : Int) (b3 : Bool) (a4 : Int) (D : z_D), I16 m a1 a2 b3 a4 D → z_w n d (k_tb 113) X 16 [some (.ref 336), some (.int (z_i a1)), some (.int (z_i a2)), some (.int (z_i (z_b b3))), some (.int (z_i a4))] [] D (z_qV K T)) := by
    intro m
    induction m using Nat.strongRecOn with
    | _ mm ih =>
      exact fun a1 a2 b3 a4 D hI => v_mChange_16 (fun a1 a2 b3 a4 D ⟨m, hm, hI⟩ => (ih m hm) _ _ _ _ _  hI) (h16 mm a1 a2 b3 a4 D hI)
  exact v_mChange_0 (fun a1 a2 b3 a4 D ⟨m, hI⟩ => (key m) _ _ _ _ _  hI) hE
-- 114: TokenMouthModel.closeGroup()V
def w_mCloseGroup_0 (n d : Nat)  (D : z_D) (H14 : z_D → Prop) (K : z_D → Prop) (T : Nat → z_D → Prop) : Prop :=
  (z_r (D.1 336 18)) ∧
  ((¬ (D.1 336 18) = 0) →
    H14 D) ∧
  (((D.1 336 18) = 0) →
    z_c n d 98 [.ref 336, .int (z_i 1)] D (z_qI (fun v3 D2 => 
      K D2) T))
theorem v_mCloseGroup_0 {n d : Nat} {X : z_Xt}   {D : z_D} {H14 : z_D → Prop} {K : z_D → Prop} {T : Nat → z_D → Prop} (hH14 : ∀ (o1 : Option Value) (D : z_D), z_nl o1 → H14 D → z_w n d (k_tb 114) X 14 [some (.ref 336), o1] [] D (z_qV K T)) (h : w_mCloseGroup_0 n d D H14 K T) : z_w n d (k_tb 114) X 0 [some (.ref 336), none] [] D (z_qV K T) := by
  unfold w_mCloseGroup_0 at h
  refine zs_aload rfl rfl ?_
  refine zs_getI rfl rfl ?_
  obtain ⟨g1, h⟩ := h
  obtain ⟨h4, h5⟩ := h
  refine zs_ifne rfl g1 (fun c => ?_) (fun c => ?_)
  · have h := h4 c
    exact hH14  _ _ (by first | assumption | exact trivial) h
  · have h := h5 c
    refine zs_aload rfl rfl ?_
    refine zs_pushI (1) rfl rfl ?_
    refine z_callV (k := 336) (as0 := [.int (z_i 1)]) (r := []) rfl rfl rfl (Nat.le_of_ble_eq_true rfl) (z_oI h (fun v3 D2 h => ?_) (fun _ _ h => h))
    refine zs_istore (ls1 := [some (.ref 336), some (.int (z_i v3))]) rfl rfl rfl ?_
    exact zs_ret rfl h
def w_mCloseGroup_14 (n d : Nat)  (D : z_D) (H14 : z_D → Prop) (K : z_D → Prop) (T : Nat → z_D → Prop) : Prop :=
  (z_r (D.1 336 19)) ∧
  (((D.1 336 19) ≤ 0) →
    ∀ D2, D2 = z_uz D 336 18 ((D.1 336 18) - 1) →
    K D2) ∧
  ((0 < (D.1 336 19)) →
    (0 ≤ ((D.1 336 19) - 1) ∧ ((D.1 336 19) - 1) < 60) ∧
    (z_r (D.1 345 (Int.toNat ((D.1 336 19) - 1)))) ∧ (z_r (D.1 336 18)) ∧
    ((¬ (D.1 345 (Int.toNat ((D.1 336 19) - 1))) = (D.1 336 18)) →
      ∀ D6, D6 = z_uz D 336 18 ((D.1 336 18) - 1) →
      K D6) ∧
    (((D.1 345 (Int.toNat ((D.1 336 19) - 1))) = (D.1 336 18)) →
      ∀ D7, D7 = z_uz D 336 19 ((D.1 336 19) - 1) →
      (0 ≤ (D7.1 336 19) ∧ (D7.1 336 19) < 60) ∧
      (z_r (D7.1 346 (Int.toNat (D7.1 336 19)))) ∧
      ((200 ≤ (D7.1 346 (Int.toNat (D7.1 336 19)))) →
        (0 ≤ (D7.1 336 19) ∧ (D7.1 336 19) < 60) ∧
        (0 ≤ ((D7.1 346 (Int.toNat (D7.1 336 19))) - 200) ∧ ((D7.1 346 (Int.toNat (D7.1 336 19))) - 200) < 128) ∧
        ∀ D12, D12 = z_uz D7 338 (Int.toNat ((D7.1 346 (Int.toNat (D7.1 336 19))) - 200)) (D7.1 347 (Int.toNat (D7.1 336 19))) →
        H14 D12) ∧
      (((D7.1 346 (Int.toNat (D7.1 336 19))) < 200) →
        (0 ≤ (D7.1 336 19) ∧ (D7.1 336 19) < 60) ∧
        (0 ≤ (D7.1 346 (Int.toNat (D7.1 336 19))) ∧ (D7.1 346 (Int.toNat (D7.1 336 19))) < 120) ∧
        ∀ D15, D15 = z_uz D7 343 (Int.toNat (D7.1 346 (Int.toNat (D7.1 336 19)))) (D7.1 347 (Int.toNat (D7.1 336 19))) →
        H14 D15)))
theorem v_mCloseGroup_14 {n d : Nat} {X : z_Xt}  {o1 : Option Value} {D : z_D} {H14 : z_D → Prop} {K : z_D → Prop} {T : Nat → z_D → Prop} (hH14 : ∀ (o1 : Option Value) (D : z_D), z_nl o1 → H14 D → z_w n d (k_tb 114) X 14 [some (.ref 336), o1] [] D (z_qV K T)) (n1 : z_nl o1) (h : w_mCloseGroup_14 n d D H14 K T) : z_w n d (k_tb 114) X 14 [some (.ref 336), o1] [] D (z_qV K T) := by
  unfold w_mCloseGroup_14 at h
  refine zs_aload rfl rfl ?_
  refine zs_getI rfl rfl ?_
  obtain ⟨g1, h⟩ := h
  obtain ⟨h20, h21⟩ := h
  refine zs_ifle rfl g1 (fun c => ?_) (fun c => ?_)
  · have h := h20 c
    refine zs_aload rfl rfl ?_
    refine zs_dup rfl rfl ?_
    refine zs_getI rfl rfl ?_
    refine zs_pushI (1) rfl rfl ?_
    refine zs_sub (a := (D.1 336 18)) (b := 1) rfl ?_
    refine zs_putI rfl rfl (fun D2 eD2 => ?_)
    have h := h D2 eD2
    exact zs_ret rfl h
  · have h := h21 c
    refine zs_aload rfl rfl ?_
    refine zs_getR (x := 345) rfl rfl rfl ?_
    refine zs_aload rfl rfl ?_
    refine zs_getI rfl rfl ?_
    refine zs_pushI (1) rfl rfl ?_
    refine zs_sub (a := (D.1 336 19)) (b := 1) rfl ?_
    obtain ⟨g3, h⟩ := h
    refine zs_iald rfl rfl (by decide) g3 ?_
    refine zs_aload rfl rfl ?_
    refine zs_getI rfl rfl ?_
    obtain ⟨g4, g5, h⟩ := h
    obtain ⟨h18, h19⟩ := h
    refine zs_cne rfl g4 g5 (fun c => ?_) (fun c => ?_)
    · have h := h18 c
      refine zs_aload rfl rfl ?_
      refine zs_dup rfl rfl ?_
      refine zs_getI rfl rfl ?_
      refine zs_pushI (1) rfl rfl ?_
      refine zs_sub (a := (D.1 336 18)) (b := 1) rfl ?_
      refine zs_putI rfl rfl (fun D6 eD6 => ?_)
      have h := h D6 eD6
      exact zs_ret rfl h
    · have h := h19 c
      refine zs_aload rfl rfl ?_
      refine zs_dup rfl rfl ?_
      refine zs_getI rfl rfl ?_
      refine zs_pushI (1) rfl rfl ?_
      refine zs_sub (a := (D.1 336 19)) (b := 1) rfl ?_
      refine zs_putI rfl rfl (fun D7 eD7 => ?_)
      have h := h D7 eD7
      refine zs_aload rfl rfl ?_
      refine zs_getR (x := 346) rfl rfl rfl ?_
      refine zs_aload rfl rfl ?_
      refine zs_getI rfl rfl ?_
      obtain ⟨g8, h⟩ := h
      refine zs_iald rfl rfl (by decide) g8 ?_
      refine zs_istore (ls1 := [some (.ref 336), some (.int (z_i (D7.1 346 (Int.toNat (D7.1 336 19)))))]) rfl rfl rfl ?_
      refine zs_iload rfl rfl ?_
      refine zs_pushI (200) rfl rfl ?_
      obtain ⟨g9, h⟩ := h
      obtain ⟨h16, h17⟩ := h
      refine zs_cge rfl g9 (z_rk rfl) (fun c => ?_) (fun c => ?_)
      · have h := h16 c
        refine zs_aload rfl rfl ?_
        refine zs_getR (x := 338) rfl rfl rfl ?_
        refine zs_iload rfl rfl ?_
        refine zs_pushI (200) rfl rfl ?_
        refine zs_sub (a := (D7.1 346 (Int.toNat (D7.1 336 19)))) (b := 200) rfl ?_
        refine zs_aload rfl rfl ?_
        refine zs_getR (x := 347) rfl rfl rfl ?_
        refine zs_aload rfl rfl ?_
        refine zs_getI rfl rfl ?_
        obtain ⟨g10, h⟩ := h
        refine zs_iald rfl rfl (by decide) g10 ?_
        obtain ⟨g11, h⟩ := h
        refine zs_iast rfl rfl (by decide) g11 (fun D12 eD12 => ?_)
        have h := h D12 eD12
        refine zs_goto rfl ?_
        exact hH14  _ _ (by first | assumption | exact trivial) h
      · have h := h17 c
        refine zs_aload rfl rfl ?_
        refine zs_getR (x := 343) rfl rfl rfl ?_
        refine zs_iload rfl rfl ?_
        refine zs_aload rfl rfl ?_
        refine zs_getR (x := 347) rfl rfl rfl ?_
        refine zs_aload rfl rfl ?_
        refine zs_getI rfl rfl ?_
        obtain ⟨g13, h⟩ := h
        refine zs_iald rfl rfl (by decide) g13 ?_
        obtain ⟨g14, h⟩ := h
        refine zs_iast rfl rfl (by decide) g14 (fun D15 eD15 => ?_)
        have h := h D15 eD15
        refine zs_goto rfl ?_
        refine zs_goto rfl ?_
        exact hH14  _ _ (by first | assumption | exact trivial) h
theorem r_mCloseGroup {n d : Nat}  {D : z_D} {K : z_D → Prop} {T : Nat → z_D → Prop}  (I14 : Nat → z_D → Prop) (hE : w_mCloseGroup_0 n d D (fun D => ∃ m, I14 m D) K T) (h14 : ∀ (mm : Nat)  (D : z_D), I14 mm D → w_mCloseGroup_14 n d D (fun D => ∃ m, m < mm ∧ I14 m D) K T) : z_c n (d + 1) 114 [.ref 336] D (z_qV K T) := by
  refine z_enter (Nat.le_of_ble_eq_true rfl) rfl (fun X => ?_)
  have key : ∀ m, (∀ (o1 : Option Value) (D : z_D), z_nl o1 → I14 m D → z_w n d (k_tb 114) X 14 [some (.ref 336), o1] [] D (z_qV K T)) := by
    intro m
    induction m using Nat.strongRecOn with
    | _ mm ih =>
      exact fun o1 D n1 hI => v_mCloseGroup_14 (fun o1 D n1 ⟨m, hm, hI⟩ => (ih m hm) _ _ n1 hI) n1 (h14 mm D hI)
  exact v_mCloseGroup_0 (fun o1 D n1 ⟨m, hI⟩ => (key m) _ _ n1 hI) hE
-- 115: TokenMouthModel.isBehind(IIII)Z
def w_mIsBehind_0 (n d : Nat) (a1 : Int) (a2 : Int) (a3 : Int) (a4 : Int) (D : z_D) (H27 : Int → Int → Int → Int → Bool → Int → z_D → Prop) (K : Bool → z_D → Prop) (T : Nat → z_D → Prop) : Prop :=
  (0 ≤ a1 ∧ a1 < 4) ∧
  (z_r (D.1 361 (Int.toNat a1))) ∧ (z_r (a4 - a3)) ∧
  (((D.1 361 (Int.toNat a1)) < (a4 - a3)) →
    H27 a1 a2 a3 (a4 - a3) false 0 D) ∧
  (((a4 - a3) ≤ (D.1 361 (Int.toNat a1))) →
    H27 a1 a2 a3 (a4 - a3) true 0 D)
theorem v_mIsBehind_0 {n d : Nat} {X : z_Xt} {a1 : Int} {a2 : Int} {a3 : Int} {a4 : Int}  {D : z_D} {H27 : Int → Int → Int → Int → Bool → Int → z_D → Prop} {K : Bool → z_D → Prop} {T : Nat → z_D → Prop} (hH27 : ∀ (a1 : Int) (a2 : Int) (a3 : Int) (a5 : Int) (b6 : Bool) (a7 : Int) (o4 : Option Value) (D : z_D), z_nl o4 → H27 a1 a2 a3 a5 b6 a7 D → z_w n d (k_tb 115) X 27 [some (.ref 336), some (.int (z_i a1)), some (.int (z_i a2)), some (.int (z_i a3)), o4, some (.int (z_i a5)), some (.int (z_i (z_b b6))), some (.int (z_i a7))] [] D (z_qZ K T)) (h : w_mIsBehind_0 n d a1 a2 a3 a4 D H27 K T) : z_w n d (k_tb 115) X 0 [some (.ref 336), some (.int (z_i a1)), some (.int (z_i a2)), some (.int (z_i a3)), some (.int (z_i a4)), none, none, none] [] D (z_qZ K T) := by
  unfold w_mIsBehind_0 at h
  refine zs_iload rfl rfl ?_
  refine zs_iload rfl rfl ?_
  refine zs_sub (a := a4) (b := a3) rfl ?_
  refine zs_istore (ls1 := [some (.ref 336), some (.int (z_i a1)), some (.int (z_i a2)), some (.int (z_i a3)), some (.int (z_i a4)), some (.int (z_i (a4 - a3))), none, none]) rfl rfl rfl ?_
  refine zs_aload rfl rfl ?_
  refine zs_getR (x := 361) rfl rfl rfl ?_
  refine zs_iload rfl rfl ?_
  obtain ⟨g1, h⟩ := h
  refine zs_iald rfl rfl (by decide) g1 ?_
  refine zs_iload rfl rfl ?_
  obtain ⟨g2, g3, h⟩ := h
  obtain ⟨h4, h5⟩ := h
  refine zs_clt rfl g2 g3 (fun c => ?_) (fun c => ?_)
  · have h := h4 c
    refine zs_pushI (0) rfl rfl ?_
    refine zs_istore (ls1 := [some (.ref 336), some (.int (z_i a1)), some (.int (z_i a2)), some (.int (z_i a3)), some (.int (z_i a4)), some (.int (z_i (a4 - a3))), some (.int (z_i 0)), none]) rfl rfl rfl ?_
    refine zs_pushI (0) rfl rfl ?_
    refine zs_istore (ls1 := [some (.ref 336), some (.int (z_i a1)), some (.int (z_i a2)), some (.int (z_i a3)), some (.int (z_i a4)), some (.int (z_i (a4 - a3))), some (.int (z_i 0)), some (.int (z_i 0))]) rfl rfl rfl ?_
    exact hH27 _ _ _ _ _ _ _ _ (by first | assumption | exact trivial) h
  · have h := h5 c
    refine zs_pushI (1) rfl rfl ?_
    refine zs_goto rfl ?_
    refine zs_istore (ls1 := [some (.ref 336), some (.int (z_i a1)), some (.int (z_i a2)), some (.int (z_i a3)), some (.int (z_i a4)), some (.int (z_i (a4 - a3))), some (.int (z_i 1)), none]) rfl rfl rfl ?_
    refine zs_pushI (0) rfl rfl ?_
    refine zs_istore (ls1 := [some (.ref 336), some (.int (z_i a1)), some (.int (z_i a2)), some (.int (z_i a3)), some (.int (z_i a4)), some (.int (z_i (a4 - a3))), some (.int (z_i 1)), some (.int (z_i 0))]) rfl rfl rfl ?_
    exact hH27 _ _ _ _ _ _ _ _ (by first | assumption | exact trivial) h
def w_mIsBehind_27 (n d : Nat) (a1 : Int) (a2 : Int) (a3 : Int) (a5 : Int) (b6 : Bool) (a7 : Int) (D : z_D) (H27 : Int → Int → Int → Int → Bool → Int → z_D → Prop) (K : Bool → z_D → Prop) (T : Nat → z_D → Prop) : Prop :=
  (z_r a7) ∧ (z_r a5) ∧
  ((a5 ≤ a7) →
    K b6 D) ∧
  ((a7 < a5) →
    ((b6 = false) →
      K b6 D) ∧
    ((b6 = true) →
      (0 ≤ a1 ∧ a1 < 4) ∧
      (0 ≤ ((((42 * a1) + (D.1 361 (Int.toNat a1))) - a5) + a7) ∧ ((((42 * a1) + (D.1 361 (Int.toNat a1))) - a5) + a7) < 168) ∧
      (0 ≤ (((13 * a2) + a3) + a7) ∧ (((13 * a2) + a3) + a7) < 800) ∧
      (z_r (D.1 360 (Int.toNat ((((42 * a1) + (D.1 361 (Int.toNat a1))) - a5) + a7)))) ∧ (z_r (D.1 349 (Int.toNat (((13 * a2) + a3) + a7)))) ∧
      ((¬ (D.1 360 (Int.toNat ((((42 * a1) + (D.1 361 (Int.toNat a1))) - a5) + a7))) = (D.1 349 (Int.toNat (((13 * a2) + a3) + a7)))) →
        H27 a1 a2 a3 a5 false (a7 + 1) D) ∧
      (((D.1 360 (Int.toNat ((((42 * a1) + (D.1 361 (Int.toNat a1))) - a5) + a7))) = (D.1 349 (Int.toNat (((13 * a2) + a3) + a7)))) →
        H27 a1 a2 a3 a5 true (a7 + 1) D)))
theorem v_mIsBehind_27 {n d : Nat} {X : z_Xt} {a1 : Int} {a2 : Int} {a3 : Int} {a5 : Int} {b6 : Bool} {a7 : Int} {o4 : Option Value} {D : z_D} {H27 : Int → Int → Int → Int → Bool → Int → z_D → Prop} {K : Bool → z_D → Prop} {T : Nat → z_D → Prop} (hH27 : ∀ (a1 : Int) (a2 : Int) (a3 : Int) (a5 : Int) (b6 : Bool) (a7 : Int) (o4 : Option Value) (D : z_D), z_nl o4 → H27 a1 a2 a3 a5 b6 a7 D → z_w n d (k_tb 115) X 27 [some (.ref 336), some (.int (z_i a1)), some (.int (z_i a2)), some (.int (z_i a3)), o4, some (.int (z_i a5)), some (.int (z_i (z_b b6))), some (.int (z_i a7))] [] D (z_qZ K T)) (n4 : z_nl o4) (h : w_mIsBehind_27 n d a1 a2 a3 a5 b6 a7 D H27 K T) : z_w n d (k_tb 115) X 27 [some (.ref 336), some (.int (z_i a1)), some (.int (z_i a2)), some (.int (z_i a3)), o4, some (.int (z_i a5)), some (.int (z_i (z_b b6))), some (.int (z_i a7))] [] D (z_qZ K T) := by
  unfold w_mIsBehind_27 at h
  refine zs_iload rfl rfl ?_
  refine zs_iload rfl rfl ?_
  obtain ⟨g1, g2, h⟩ := h
  obtain ⟨h12, h13⟩ := h
  refine zs_cge rfl g1 g2 (fun c => ?_) (fun c => ?_)
  · have h := h12 c
    refine zs_iload rfl rfl ?_
    exact zs_zret rfl h
  · have h := h13 c
    refine zs_iload rfl rfl ?_
    obtain ⟨h10, h11⟩ := h
    refine zs_beq rfl (fun c => ?_) (fun c => ?_)
    · have h := h10 c
      refine zs_iload rfl rfl ?_
      exact zs_zret rfl h
    · have h := h11 c
      refine zs_aload rfl rfl ?_
      refine zs_getR (x := 360) rfl rfl rfl ?_
      refine zs_pushI (42) rfl rfl ?_
      refine zs_iload rfl rfl ?_
      refine zs_mul (a := 42) (b := a1) rfl ?_
      refine zs_aload rfl rfl ?_
      refine zs_getR (x := 361) rfl rfl rfl ?_
      refine zs_iload rfl rfl ?_
      obtain ⟨g3, h⟩ := h
      refine zs_iald rfl rfl (by decide) g3 ?_
      refine zs_add (a := (42 * a1)) (b := (D.1 361 (Int.toNat a1))) rfl ?_
      refine zs_iload rfl rfl ?_
      refine zs_sub (a := ((42 * a1) + (D.1 361 (Int.toNat a1)))) (b := a5) rfl ?_
      refine zs_iload rfl rfl ?_
      refine zs_add (a := (((42 * a1) + (D.1 361 (Int.toNat a1))) - a5)) (b := a7) rfl ?_
      obtain ⟨g4, h⟩ := h
      refine zs_iald rfl rfl (by decide) g4 ?_
      refine zs_aload rfl rfl ?_
      refine zs_getR (x := 349) rfl rfl rfl ?_
      refine zs_pushI (13) rfl rfl ?_
      refine zs_iload rfl rfl ?_
      refine zs_mul (a := 13) (b := a2) rfl ?_
      refine zs_iload rfl rfl ?_
      refine zs_add (a := (13 * a2)) (b := a3) rfl ?_
      refine zs_iload rfl rfl ?_
      refine zs_add (a := ((13 * a2) + a3)) (b := a7) rfl ?_
      obtain ⟨g5, h⟩ := h
      refine zs_iald rfl rfl (by decide) g5 ?_
      obtain ⟨g6, g7, h⟩ := h
      obtain ⟨h8, h9⟩ := h
      refine zs_cne rfl g6 g7 (fun c => ?_) (fun c => ?_)
      · have h := h8 c
        refine zs_pushI (0) rfl rfl ?_
        refine zs_istore (ls1 := [some (.ref 336), some (.int (z_i a1)), some (.int (z_i a2)), some (.int (z_i a3)), o4, some (.int (z_i a5)), some (.int (z_i 0)), some (.int (z_i a7))]) rfl rfl rfl ?_
        refine zs_iinc (a := a7) (1) (ls1 := [some (.ref 336), some (.int (z_i a1)), some (.int (z_i a2)), some (.int (z_i a3)), o4, some (.int (z_i a5)), some (.int (z_i 0)), some (.int (z_i (a7 + 1)))]) rfl rfl rfl rfl ?_
        refine zs_goto rfl ?_
        exact hH27 _ _ _ _ _ _ _ _ (by first | assumption | exact trivial) h
      · have h := h9 c
        refine zs_pushI (1) rfl rfl ?_
        refine zs_goto rfl ?_
        refine zs_istore (ls1 := [some (.ref 336), some (.int (z_i a1)), some (.int (z_i a2)), some (.int (z_i a3)), o4, some (.int (z_i a5)), some (.int (z_i 1)), some (.int (z_i a7))]) rfl rfl rfl ?_
        refine zs_iinc (a := a7) (1) (ls1 := [some (.ref 336), some (.int (z_i a1)), some (.int (z_i a2)), some (.int (z_i a3)), o4, some (.int (z_i a5)), some (.int (z_i 1)), some (.int (z_i (a7 + 1)))]) rfl rfl rfl rfl ?_
        refine zs_goto rfl ?_
        exact hH27 _ _ _ _ _ _ _ _ (by first | assumption | exact trivial) h
theorem r_mIsBehind {n d : Nat} {a1 : Int} {a2 : Int} {a3 : Int} {a4 : Int} {D : z_D} {K : Bool → z_D → Prop} {T : Nat → z_D → Prop}  (I27 : Nat → Int → Int → Int → Int → Bool → Int → z_D → Prop) (hE : w_mIsBehind_0 n d a1 a2 a3 a4 D (fun a1 a2 a3 a5 b6 a7 D => ∃ m, I27 m a1 a2 a3 a5 b6 a7 D) K T) (h27 : ∀ (mm : Nat) (a1 : Int) (a2 : Int) (a3 : Int) (a5 : Int) (b6 : Bool) (a7 : Int) (D : z_D), I27 mm a1 a2 a3 a5 b6 a7 D → w_mIsBehind_27 n d a1 a2 a3 a5 b6 a7 D (fun a1 a2 a3 a5 b6 a7 D => ∃ m, m < mm ∧ I27 m a1 a2 a3 a5 b6 a7 D) K T) : z_c n (d + 1) 115 [.ref 336, .int (z_i a1), .int (z_i a2), .int (z_i a3), .int (z_i a4)] D (z_qZ K T) := by
  refine z_enter (Nat.le_of_ble_eq_true rfl) rfl (fun X => ?_)
  have key : ∀ m, (∀ (a1 : Int) (a2 : Int) (a3 : Int) (a5 : Int) (b6 : Bool) (a7 : Int) (o4 : Option Value) (D : z_D), z_nl o4 → I27 m a1 a2 a3 a5 b6 a7 D → z_w n d (k_tb 115) X 27 [some (.ref 336), some (.int (z_i a1)), some (.int (z_i a2)), some (.int (z_i a3)), o4, some (.int (z_i a5)), some (.int (z_i (z_b b6))), some (.int (z_i a7))] [] D (z_qZ K T)) := by
    intro m
    induction m using Nat.strongRecOn with
    | _ mm ih =>
      exact fun a1 a2 a3 a5 b6 a7 o4 D n4 hI => v_mIsBehind_27 (fun a1 a2 a3 a5 b6 a7 o4 D n4 ⟨m, hm, hI⟩ => (ih m hm) _ _ _ _ _ _ _ _ n4 hI) n4 (h27 mm a1 a2 a3 a5 b6 a7 D hI)
  exact v_mIsBehind_0 (fun a1 a2 a3 a5 b6 a7 o4 D n4 ⟨m, hI⟩ => (key m) _ _ _ _ _ _ _ _ n4 hI) hE
-- 116: TokenMouthModel.piece(IIIIII)I
def w_mPiece_0 (n d : Nat) (a1 : Int) (a2 : Int) (a3 : Int) (a4 : Int) (a5 : Int) (a6 : Int) (D : z_D) (H44 : Int → Int → Int → Int → Bool → Int → z_D → Prop) (K : Int → z_D → Prop) (T : Nat → z_D → Prop) : Prop :=
  (z_r a1) ∧
  ((¬ a1 = (-1)) →
    (z_r a2) ∧
    ((a2 ≤ 40) →
      z_c n d 109 [.int (z_i a1)] D (z_qI (fun v4 D3 => 
        (z_r v4) ∧
        ((¬ v4 = 4096) →
          H44 a1 a3 a5 a6 false a4 D3) ∧
        ((v4 = 4096) →
          H44 a1 a3 a5 a6 true a4 D3)) T)) ∧
    ((40 < a2) →
      z_c n d 98 [.ref 336, .int (z_i 5)] D (z_qI (fun v9 D8 => 
        K v9 D8) T))) ∧
  ((a1 = (-1)) →
    z_c n d 98 [.ref 336, .int (z_i 3)] D (z_qI (fun v13 D12 => 
      K v13 D12) T))
theorem v_mPiece_0 {n d : Nat} {X : z_Xt} {a1 : Int} {a2 : Int} {a3 : Int} {a4 : Int} {a5 : Int} {a6 : Int}  {D : z_D} {H44 : Int → Int → Int → Int → Bool → Int → z_D → Prop} {K : Int → z_D → Prop} {T : Nat → z_D → Prop} (hH44 : ∀ (a1 : Int) (a3 : Int) (a5 : Int) (a6 : Int) (b7 : Bool) (a8 : Int) (o2 : Option Value) (o4 : Option Value) (D : z_D), z_nl o2 → z_nl o4 → H44 a1 a3 a5 a6 b7 a8 D → z_w n d (k_tb 116) X 44 [some (.ref 336), some (.int (z_i a1)), o2, some (.int (z_i a3)), o4, some (.int (z_i a5)), some (.int (z_i a6)), some (.int (z_i (z_b b7))), some (.int (z_i a8))] [] D (z_qI K T)) (h : w_mPiece_0 n d a1 a2 a3 a4 a5 a6 D H44 K T) : z_w n d (k_tb 116) X 0 [some (.ref 336), some (.int (z_i a1)), some (.int (z_i a2)), some (.int (z_i a3)), some (.int (z_i a4)), some (.int (z_i a5)), some (.int (z_i a6)), none, none] [] D (z_qI K T) := by
  unfold w_mPiece_0 at h
  refine zs_iload rfl rfl ?_
  refine zs_pushI (-1) rfl rfl ?_
  obtain ⟨g1, h⟩ := h
  obtain ⟨h14, h15⟩ := h
  refine zs_cne rfl g1 (z_rk rfl) (fun c => ?_) (fun c => ?_)
  · have h := h14 c
    refine zs_iload rfl rfl ?_
    refine zs_pushI (40) rfl rfl ?_
    obtain ⟨g2, h⟩ := h
    obtain ⟨h10, h11⟩ := h
    refine zs_cle rfl g2 (z_rk rfl) (fun c => ?_) (fun c => ?_)
    · have h := h10 c
      refine zs_iload rfl rfl ?_
      refine z_callS (as0 := [.int (z_i a1)]) (r := []) rfl rfl (Nat.le_of_ble_eq_true rfl) (z_oI h (fun v4 D3 h => ?_) (fun _ _ h => h))
      refine zs_pushI (4096) rfl rfl ?_
      obtain ⟨g5, h⟩ := h
      obtain ⟨h6, h7⟩ := h
      refine zs_cne rfl g5 (z_rk rfl) (fun c => ?_) (fun c => ?_)
      · have h := h6 c
        refine zs_pushI (0) rfl rfl ?_
        refine zs_istore (ls1 := [some (.ref 336), some (.int (z_i a1)), some (.int (z_i a2)), some (.int (z_i a3)), some (.int (z_i a4)), some (.int (z_i a5)), some (.int (z_i a6)), some (.int (z_i 0)), none]) rfl rfl rfl ?_
        refine zs_iload rfl rfl ?_
        refine zs_istore (ls1 := [some (.ref 336), some (.int (z_i a1)), some (.int (z_i a2)), some (.int (z_i a3)), some (.int (z_i a4)), some (.int (z_i a5)), some (.int (z_i a6)), some (.int (z_i 0)), some (.int (z_i a4))]) rfl rfl rfl ?_
        exact hH44 _ _ _ _ _ _ _ _ _ (by first | assumption | exact trivial) (by first | assumption | exact trivial) h
      · have h := h7 c
        refine zs_pushI (1) rfl rfl ?_
        refine zs_goto rfl ?_
        refine zs_istore (ls1 := [some (.ref 336), some (.int (z_i a1)), some (.int (z_i a2)), some (.int (z_i a3)), some (.int (z_i a4)), some (.int (z_i a5)), some (.int (z_i a6)), some (.int (z_i 1)), none]) rfl rfl rfl ?_
        refine zs_iload rfl rfl ?_
        refine zs_istore (ls1 := [some (.ref 336), some (.int (z_i a1)), some (.int (z_i a2)), some (.int (z_i a3)), some (.int (z_i a4)), some (.int (z_i a5)), some (.int (z_i a6)), some (.int (z_i 1)), some (.int (z_i a4))]) rfl rfl rfl ?_
        exact hH44 _ _ _ _ _ _ _ _ _ (by first | assumption | exact trivial) (by first | assumption | exact trivial) h
    · have h := h11 c
      refine zs_aload rfl rfl ?_
      refine zs_pushI (5) rfl rfl ?_
      refine z_callV (k := 336) (as0 := [.int (z_i 5)]) (r := []) rfl rfl rfl (Nat.le_of_ble_eq_true rfl) (z_oI h (fun v9 D8 h => ?_) (fun _ _ h => h))
      exact zs_iret rfl h
  · have h := h15 c
    refine zs_aload rfl rfl ?_
    refine zs_pushI (3) rfl rfl ?_
    refine z_callV (k := 336) (as0 := [.int (z_i 3)]) (r := []) rfl rfl rfl (Nat.le_of_ble_eq_true rfl) (z_oI h (fun v13 D12 h => ?_) (fun _ _ h => h))
    exact zs_iret rfl h
def w_mPiece_122 (n d : Nat) (a1 : Int) (D : z_D)  (K : Int → z_D → Prop) (T : Nat → z_D → Prop) : Prop :=
  z_c n d 109 [.int (z_i a1)] D (z_qI (fun v2 D1 => 
    K v2 D1) T)
theorem v_mPiece_122 {n d : Nat} {X : z_Xt} {a1 : Int} {o2 : Option Value} {o3 : Option Value} {o4 : Option Value} {o5 : Option Value} {o6 : Option Value} {o7 : Option Value} {o8 : Option Value} {D : z_D}  {K : Int → z_D → Prop} {T : Nat → z_D → Prop} (n2 : z_nl o2) (n3 : z_nl o3) (n4 : z_nl o4) (n5 : z_nl o5) (n6 : z_nl o6) (n7 : z_nl o7) (n8 : z_nl o8) (h : w_mPiece_122 n d a1 D K T) : z_w n d (k_tb 116) X 122 [some (.ref 336), some (.int (z_i a1)), o2, o3, o4, o5, o6, o7, o8] [] D (z_qI K T) := by
  unfold w_mPiece_122 at h
  refine zs_iload rfl rfl ?_
  refine z_callS (as0 := [.int (z_i a1)]) (r := []) rfl rfl (Nat.le_of_ble_eq_true rfl) (z_oI h (fun v2 D1 h => ?_) (fun _ _ h => h))
  exact zs_iret rfl h
def w_mPiece_44 (n d : Nat) (a1 : Int) (a3 : Int) (a5 : Int) (a6 : Int) (b7 : Bool) (a8 : Int) (D : z_D) (H44 : Int → Int → Int → Int → Bool → Int → z_D → Prop) (K : Int → z_D → Prop) (T : Nat → z_D → Prop) : Prop :=
  (z_r a8) ∧ (z_r a5) ∧
  ((a5 ≤ a8) →
    ((b7 = false) →
      z_c n d 110 [.int (z_i a1), .int (z_i 2)] D (z_qZ (fun v4 D3 => 
        ((v4 = false) →
          w_mPiece_122 n d a1 D3 K T) ∧
        ((v4 = true) →
          (z_r a6) ∧
          ((¬ a6 = 0) →
            w_mPiece_122 n d a1 D3 K T) ∧
          ((a6 = 0) →
            z_c n d 98 [.ref 336, .int (z_i 1)] D3 (z_qI (fun v7 D6 => 
              K v7 D6) T)))) T)) ∧
    ((b7 = true) →
      z_c n d 98 [.ref 336, .int (z_i 7)] D (z_qI (fun v13 D12 => 
        K v13 D12) T))) ∧
  ((a8 < a5) →
    ((b7 = false) →
      H44 a1 a3 a5 a6 false (a8 + 1) D) ∧
    ((b7 = true) →
      (0 ≤ ((13 * a3) + a8) ∧ ((13 * a3) + a8) < 800) ∧
      (z_r (D.1 349 (Int.toNat ((13 * a3) + a8)))) ∧
      (((D.1 349 (Int.toNat ((13 * a3) + a8))) = 4096) →
        H44 a1 a3 a5 a6 false (a8 + 1) D) ∧
      ((¬ (D.1 349 (Int.toNat ((13 * a3) + a8))) = 4096) →
        H44 a1 a3 a5 a6 true (a8 + 1) D)))
theorem v_mPiece_44 {n d : Nat} {X : z_Xt} {a1 : Int} {a3 : Int} {a5 : Int} {a6 : Int} {b7 : Bool} {a8 : Int} {o2 : Option Value} {o4 : Option Value} {D : z_D} {H44 : Int → Int → Int → Int → Bool → Int → z_D → Prop} {K : Int → z_D → Prop} {T : Nat → z_D → Prop} (hH44 : ∀ (a1 : Int) (a3 : Int) (a5 : Int) (a6 : Int) (b7 : Bool) (a8 : Int) (o2 : Option Value) (o4 : Option Value) (D : z_D), z_nl o2 → z_nl o4 → H44 a1 a3 a5 a6 b7 a8 D → z_w n d (k_tb 116) X 44 [some (.ref 336), some (.int (z_i a1)), o2, some (.int (z_i a3)), o4, some (.int (z_i a5)), some (.int (z_i a6)), some (.int (z_i (z_b b7))), some (.int (z_i a8))] [] D (z_qI K T)) (n2 : z_nl o2) (n4 : z_nl o4) (h : w_mPiece_44 n d a1 a3 a5 a6 b7 a8 D H44 K T) : z_w n d (k_tb 116) X 44 [some (.ref 336), some (.int (z_i a1)), o2, some (.int (z_i a3)), o4, some (.int (z_i a5)), some (.int (z_i a6)), some (.int (z_i (z_b b7))), some (.int (z_i a8))] [] D (z_qI K T) := by
  unfold w_mPiece_44 at h
  refine zs_iload rfl rfl ?_
  refine zs_iload rfl rfl ?_
  obtain ⟨g1, g2, h⟩ := h
  obtain ⟨h22, h23⟩ := h
  refine zs_cge rfl g1 g2 (fun c => ?_) (fun c => ?_)
  · have h := h22 c
    refine zs_iload rfl rfl ?_
    obtain ⟨h14, h15⟩ := h
    refine zs_beq rfl (fun c => ?_) (fun c => ?_)
    · have h := h14 c
      refine zs_iload rfl rfl ?_
      refine zs_pushI (2) rfl rfl ?_
      refine z_callS (as0 := [.int (z_i a1), .int (z_i 2)]) (r := []) rfl rfl (Nat.le_of_ble_eq_true rfl) (z_oZ h (fun v4 D3 h => ?_) (fun _ _ h => h))
      obtain ⟨h10, h11⟩ := h
      refine zs_beq rfl (fun c => ?_) (fun c => ?_)
      · have h := h10 c
        exact v_mPiece_122 (by first | assumption | exact trivial) (by first | assumption | exact trivial) (by first | assumption | exact trivial) (by first | assumption | exact trivial) (by first | assumption | exact trivial) (by first | assumption | exact trivial) (by first | assumption | exact trivial) h
      · have h := h11 c
        refine zs_iload rfl rfl ?_
        obtain ⟨g5, h⟩ := h
        obtain ⟨h8, h9⟩ := h
        refine zs_ifne rfl g5 (fun c => ?_) (fun c => ?_)
        · have h := h8 c
          exact v_mPiece_122 (by first | assumption | exact trivial) (by first | assumption | exact trivial) (by first | assumption | exact trivial) (by first | assumption | exact trivial) (by first | assumption | exact trivial) (by first | assumption | exact trivial) (by first | assumption | exact trivial) h
        · have h := h9 c
          refine zs_aload rfl rfl ?_
          refine zs_pushI (1) rfl rfl ?_
          refine z_callV (k := 336) (as0 := [.int (z_i 1)]) (r := []) rfl rfl rfl (Nat.le_of_ble_eq_true rfl) (z_oI h (fun v7 D6 h => ?_) (fun _ _ h => h))
          refine zs_goto rfl ?_
          exact zs_iret rfl h
    · have h := h15 c
      refine zs_aload rfl rfl ?_
      refine zs_pushI (7) rfl rfl ?_
      refine z_callV (k := 336) (as0 := [.int (z_i 7)]) (r := []) rfl rfl rfl (Nat.le_of_ble_eq_true rfl) (z_oI h (fun v13 D12 h => ?_) (fun _ _ h => h))
      refine zs_goto rfl ?_
      exact zs_iret rfl h
  · have h := h23 c
    refine zs_iload rfl rfl ?_
    obtain ⟨h20, h21⟩ := h
    refine zs_beq rfl (fun c => ?_) (fun c => ?_)
    · have h := h20 c
      refine zs_pushI (0) rfl rfl ?_
      refine zs_istore (ls1 := [some (.ref 336), some (.int (z_i a1)), o2, some (.int (z_i a3)), o4, some (.int (z_i a5)), some (.int (z_i a6)), some (.int (z_i 0)), some (.int (z_i a8))]) rfl rfl rfl ?_
      refine zs_iinc (a := a8) (1) (ls1 := [some (.ref 336), some (.int (z_i a1)), o2, some (.int (z_i a3)), o4, some (.int (z_i a5)), some (.int (z_i a6)), some (.int (z_i 0)), some (.int (z_i (a8 + 1)))]) rfl rfl rfl rfl ?_
      refine zs_goto rfl ?_
      exact hH44 _ _ _ _ _ _ _ _ _ (by first | assumption | exact trivial) (by first | assumption | exact trivial) h
    · have h := h21 c
      refine zs_aload rfl rfl ?_
      refine zs_getR (x := 349) rfl rfl rfl ?_
      refine zs_pushI (13) rfl rfl ?_
      refine zs_iload rfl rfl ?_
      refine zs_mul (a := 13) (b := a3) rfl ?_
      refine zs_iload rfl rfl ?_
      refine zs_add (a := (13 * a3)) (b := a8) rfl ?_
      obtain ⟨g16, h⟩ := h
      refine zs_iald rfl rfl (by decide) g16 ?_
      refine zs_pushI (4096) rfl rfl ?_
      obtain ⟨g17, h⟩ := h
      obtain ⟨h18, h19⟩ := h
      refine zs_ceq rfl g17 (z_rk rfl) (fun c => ?_) (fun c => ?_)
      · have h := h18 c
        refine zs_pushI (0) rfl rfl ?_
        refine zs_istore (ls1 := [some (.ref 336), some (.int (z_i a1)), o2, some (.int (z_i a3)), o4, some (.int (z_i a5)), some (.int (z_i a6)), some (.int (z_i 0)), some (.int (z_i a8))]) rfl rfl rfl ?_
        refine zs_iinc (a := a8) (1) (ls1 := [some (.ref 336), some (.int (z_i a1)), o2, some (.int (z_i a3)), o4, some (.int (z_i a5)), some (.int (z_i a6)), some (.int (z_i 0)), some (.int (z_i (a8 + 1)))]) rfl rfl rfl rfl ?_
        refine zs_goto rfl ?_
        exact hH44 _ _ _ _ _ _ _ _ _ (by first | assumption | exact trivial) (by first | assumption | exact trivial) h
      · have h := h19 c
        refine zs_pushI (1) rfl rfl ?_
        refine zs_goto rfl ?_
        refine zs_istore (ls1 := [some (.ref 336), some (.int (z_i a1)), o2, some (.int (z_i a3)), o4, some (.int (z_i a5)), some (.int (z_i a6)), some (.int (z_i 1)), some (.int (z_i a8))]) rfl rfl rfl ?_
        refine zs_iinc (a := a8) (1) (ls1 := [some (.ref 336), some (.int (z_i a1)), o2, some (.int (z_i a3)), o4, some (.int (z_i a5)), some (.int (z_i a6)), some (.int (z_i 1)), some (.int (z_i (a8 + 1)))]) rfl rfl rfl rfl ?_
        refine zs_goto rfl ?_
        exact hH44 _ _ _ _ _ _ _ _ _ (by first | assumption | exact trivial) (by first | assumption | exact trivial) h
theorem r_mPiece {n d : Nat} {a1 : Int} {a2 : Int} {a3 : Int} {a4 : Int} {a5 : Int} {a6 : Int} {D : z_D} {K : Int → z_D → Prop} {T : Nat → z_D → Prop}  (I44 : Nat → Int → Int → Int → Int → Bool → Int → z_D → Prop) (hE : w_mPiece_0 n d a1 a2 a3 a4 a5 a6 D (fun a1 a3 a5 a6 b7 a8 D => ∃ m, I44 m a1 a3 a5 a6 b7 a8 D) K T) (h44 : ∀ (mm : Nat) (a1 : Int) (a3 : Int) (a5 : Int) (a6 : Int) (b7 : Bool) (a8 : Int) (D : z_D), I44 mm a1 a3 a5 a6 b7 a8 D → w_mPiece_44 n d a1 a3 a5 a6 b7 a8 D (fun a1 a3 a5 a6 b7 a8 D => ∃ m, m < mm ∧ I44 m a1 a3 a5 a6 b7 a8 D) K T) : z_c n (d + 1) 116 [.ref 336, .int (z_i a1), .int (z_i a2), .int (z_i a3), .int (z_i a4), .int (z_i a5), .int (z_i a6)] D (z_qI K T) := by
  refine z_enter (Nat.le_of_ble_eq_true rfl) rfl (fun X => ?_)
  have key : ∀ m, (∀ (a1 : Int) (a3 : Int) (a5 : Int) (a6 : Int) (b7 : Bool) (a8 : Int) (o2 : Option Value) (o4 : Option Value) (D : z_D), z_nl o2 → z_nl o4 → I44 m a1 a3 a5 a6 b7 a8 D → z_w n d (k_tb 116) X 44 [some (.ref 336), some (.int (z_i a1)), o2, some (.int (z_i a3)), o4, some (.int (z_i a5)), some (.int (z_i a6)), some (.int (z_i (z_b b7))), some (.int (z_i a8))] [] D (z_qI K T)) := by
    intro m
    induction m using Nat.strongRecOn with
    | _ mm ih =>
      exact fun a1 a3 a5 a6 b7 a8 o2 o4 D n2 n4 hI => v_mPiece_44 (fun a1 a3 a5 a6 b7 a8 o2 o4 D n2 n4 ⟨m, hm, hI⟩ => (ih m hm) _ _ _ _ _ _ _ _ _ n2 n4 hI) n2 n4 (h44 mm a1 a3 a5 a6 b7 a8 D hI)
  exact v_mPiece_0 (fun a1 a3 a5 a6 b7 a8 o2 o4 D n2 n4 ⟨m, hI⟩ => (key m) _ _ _ _ _ _ _ _ _ n2 n4 hI) hE
-- 117: TokenMouthModel.add(II)V
def w_mAdd_0 (n d : Nat) (a1 : Int) (a2 : Int) (D : z_D)  (K : z_D → Prop) (T : Nat → z_D → Prop) : Prop :=
  (0 ≤ a1 ∧ a1 < 4) ∧
  (0 ≤ ((42 * a1) + (D.1 361 (Int.toNat a1))) ∧ ((42 * a1) + (D.1 361 (Int.toNat a1))) < 168) ∧
  ∀ D3, D3 = z_uz D 360 (Int.toNat ((42 * a1) + (D.1 361 (Int.toNat a1)))) a2 →
  (0 ≤ a1 ∧ a1 < 4) ∧
  (0 ≤ a1 ∧ a1 < 4) ∧
  ∀ D6, D6 = z_uz D3 361 (Int.toNat a1) ((D3.1 361 (Int.toNat a1)) + 1) →
  K D6
theorem v_mAdd_0 {n d : Nat} {X : z_Xt} {a1 : Int} {a2 : Int}  {D : z_D}  {K : z_D → Prop} {T : Nat → z_D → Prop}  (h : w_mAdd_0 n d a1 a2 D K T) : z_w n d (k_tb 117) X 0 [some (.ref 336), some (.int (z_i a1)), some (.int (z_i a2))] [] D (z_qV K T) := by
  unfold w_mAdd_0 at h
  refine zs_aload rfl rfl ?_
  refine zs_getR (x := 360) rfl rfl rfl ?_
  refine zs_pushI (42) rfl rfl ?_
  refine zs_iload rfl rfl ?_
  refine zs_mul (a := 42) (b := a1) rfl ?_
  refine zs_aload rfl rfl ?_
  refine zs_getR (x := 361) rfl rfl rfl ?_
  refine zs_iload rfl rfl ?_
  obtain ⟨g1, h⟩ := h
  refine zs_iald rfl rfl (by decide) g1 ?_
  refine zs_add (a := (42 * a1)) (b := (D.1 361 (Int.toNat a1))) rfl ?_
  refine zs_iload rfl rfl ?_
  obtain ⟨g2, h⟩ := h
  refine zs_iast rfl rfl (by decide) g2 (fun D3 eD3 => ?_)
  have h := h D3 eD3
  refine zs_aload rfl rfl ?_
  refine zs_getR (x := 361) rfl rfl rfl ?_
  refine zs_iload rfl rfl ?_
  refine zs_dup2 rfl rfl rfl ?_
  obtain ⟨g4, h⟩ := h
  refine zs_iald rfl rfl (by decide) g4 ?_
  refine zs_pushI (1) rfl rfl ?_
  refine zs_add (a := (D3.1 361 (Int.toNat a1))) (b := 1) rfl ?_
  obtain ⟨g5, h⟩ := h
  refine zs_iast rfl rfl (by decide) g5 (fun D6 eD6 => ?_)
  have h := h D6 eD6
  exact zs_ret rfl h
theorem r_mAdd {n d : Nat} {a1 : Int} {a2 : Int} {D : z_D} {K : z_D → Prop} {T : Nat → z_D → Prop}  (h : w_mAdd_0 n d a1 a2 D K T) : z_c n (d + 1) 117 [.ref 336, .int (z_i a1), .int (z_i a2)] D (z_qV K T) :=
  z_enter (Nat.le_of_ble_eq_true rfl) rfl (fun X => v_mAdd_0 h)
-- 118: TokenMouthModel.plainArgument(II)V
def w_mPlainArgument_0 (n d : Nat) (a1 : Int) (a2 : Int) (D : z_D) (H5 : Int → Int → Int → z_D → Prop) (K : z_D → Prop) (T : Nat → z_D → Prop) : Prop :=
  z_c n d 104 [.ref 336] D (z_qI (fun v2 D1 => 
    H5 a1 a2 v2 D1) T)
theorem v_mPlainArgument_0 {n d : Nat} {X : z_Xt} {a1 : Int} {a2 : Int}  {D : z_D} {H5 : Int → Int → Int → z_D → Prop} {K : z_D → Prop} {T : Nat → z_D → Prop} (hH5 : ∀ (a1 : Int) (a2 : Int) (a3 : Int) (D : z_D), H5 a1 a2 a3 D → z_w n d (k_tb 118) X 5 [some (.ref 336), some (.int (z_i a1)), some (.int (z_i a2)), some (.int (z_i a3)), none, none, none] [] D (z_qV K T)) (h : w_mPlainArgument_0 n d a1 a2 D H5 K T) : z_w n d (k_tb 118) X 0 [some (.ref 336), some (.int (z_i a1)), some (.int (z_i a2)), none, none, none, none] [] D (z_qV K T) := by
  unfold w_mPlainArgument_0 at h
  refine zs_aload rfl rfl ?_
  refine z_callV (k := 336) (as0 := []) (r := []) rfl rfl rfl (Nat.le_of_ble_eq_true rfl) (z_oI h (fun v2 D1 h => ?_) (fun _ _ h => h))
  refine zs_istore (ls1 := [some (.ref 336), some (.int (z_i a1)), some (.int (z_i a2)), some (.int (z_i v2)), none, none, none]) rfl rfl rfl ?_
  exact hH5 _ _ _  _  h
def w_mPlainArgument_125 (n d : Nat) (a1 : Int) (a2 : Int) (a4 : Int) (a6 : Int) (s0 : Int) (s1 : Int) (D : z_D) (H65 : Int → Int → Int → Int → z_D → Prop) (K : z_D → Prop) (T : Nat → z_D → Prop) : Prop :=
  (z_r (s0 + s1)) ∧
  (((s0 + s1) ≤ 0) →
    H65 a1 a2 (s0 + s1) (a6 + 1) D) ∧
  ((0 < (s0 + s1)) →
    z_c n d 117 [.ref 336, .int (z_i a1), .int (z_i a4)] D (z_qV (fun D2 => 
      H65 a1 a2 (s0 + s1) (a6 + 1) D2) T))
theorem v_mPlainArgument_125 {n d : Nat} {X : z_Xt} {a1 : Int} {a2 : Int} {a4 : Int} {a6 : Int} {s0 : Int} {s1 : Int} {o3 : Option Value} {o5 : Option Value} {D : z_D} {H65 : Int → Int → Int → Int → z_D → Prop} {K : z_D → Prop} {T : Nat → z_D → Prop} (hH65 : ∀ (a1 : Int) (a2 : Int) (a5 : Int) (a6 : Int) (o3 : Option Value) (o4 : Option Value) (D : z_D), z_nl o3 → z_nl o4 → H65 a1 a2 a5 a6 D → z_w n d (k_tb 118) X 65 [some (.ref 336), some (.int (z_i a1)), some (.int (z_i a2)), o3, o4, some (.int (z_i a5)), some (.int (z_i a6))] [] D (z_qV K T)) (n3 : z_nl o3) (n5 : z_nl o5) (h : w_mPlainArgument_125 n d a1 a2 a4 a6 s0 s1 D H65 K T) : z_w n d (k_tb 118) X 125 [some (.ref 336), some (.int (z_i a1)), some (.int (z_i a2)), o3, some (.int (z_i a4)), o5, some (.int (z_i a6))] [.int (z_i s1), .int (z_i s0)] D (z_qV K T) := by
  unfold w_mPlainArgument_125 at h
  refine zs_add (a := s0) (b := s1) rfl ?_
  refine zs_istore (ls1 := [some (.ref 336), some (.int (z_i a1)), some (.int (z_i a2)), o3, some (.int (z_i a4)), some (.int (z_i (s0 + s1))), some (.int (z_i a6))]) rfl rfl rfl ?_
  refine zs_iload rfl rfl ?_
  obtain ⟨g1, h⟩ := h
  obtain ⟨h3, h4⟩ := h
  refine zs_ifle rfl g1 (fun c => ?_) (fun c => ?_)
  · have h := h3 c
    refine zs_iinc (a := a6) (1) (ls1 := [some (.ref 336), some (.int (z_i a1)), some (.int (z_i a2)), o3, some (.int (z_i a4)), some (.int (z_i (s0 + s1))), some (.int (z_i (a6 + 1)))]) rfl rfl rfl rfl ?_
    refine zs_goto rfl ?_
    exact hH65 _ _ _ _ _ _ _ (by first | assumption | exact trivial) (by first | assumption | exact trivial) h
  · have h := h4 c
    refine zs_aload rfl rfl ?_
    refine zs_iload rfl rfl ?_
    refine zs_iload rfl rfl ?_
    refine z_callV (k := 336) (as0 := [.int (z_i a1), .int (z_i a4)]) (r := []) rfl rfl rfl (Nat.le_of_ble_eq_true rfl) (z_oV h (fun D2 h => ?_) (fun _ _ h => h))
    refine zs_iinc (a := a6) (1) (ls1 := [some (.ref 336), some (.int (z_i a1)), some (.int (z_i a2)), o3, some (.int (z_i a4)), some (.int (z_i (s0 + s1))), some (.int (z_i (a6 + 1)))]) rfl rfl rfl rfl ?_
    refine zs_goto rfl ?_
    exact hH65 _ _ _ _ _ _ _ (by first | assumption | exact trivial) (by first | assumption | exact trivial) h
def w_mPlainArgument_5 (n d : Nat) (a1 : Int) (a2 : Int) (a3 : Int) (D : z_D) (H5 : Int → Int → Int → z_D → Prop) (H65 : Int → Int → Int → Int → z_D → Prop) (K : z_D → Prop) (T : Nat → z_D → Prop) : Prop :=
  z_c n d 109 [.int (z_i a3)] D (z_qI (fun v2 D1 => 
    (z_r v2) ∧
    ((¬ v2 = 2592) →
      z_c n d 116 [.ref 336, .int (z_i a3), .int (z_i 1), .int (z_i a2), .int (z_i 0), .int (z_i 0), .int (z_i 0)] D1 (z_qI (fun v5 D4 => 
        (z_r v5) ∧
        ((¬ v5 = (-1)) →
          z_c n d 110 [.int (z_i v5), .int (z_i 1)] D4 (z_qZ (fun v8 D7 => 
            ((v8 = true) →
              H65 a1 a2 1 2 D7) ∧
            ((v8 = false) →
              z_c n d 117 [.ref 336, .int (z_i a1), .int (z_i v5)] D7 (z_qV (fun D9 => 
                K D9) T))) T)) ∧
        ((v5 = (-1)) →
          K D4)) T)) ∧
    ((v2 = 2592) →
      z_c n d 104 [.ref 336] D1 (z_qI (fun v15 D14 => 
        H5 a1 a2 v15 D14) T))) T)
theorem v_mPlainArgument_5 {n d : Nat} {X : z_Xt} {a1 : Int} {a2 : Int} {a3 : Int}  {D : z_D} {H5 : Int → Int → Int → z_D → Prop} {H65 : Int → Int → Int → Int → z_D → Prop} {K : z_D → Prop} {T : Nat → z_D → Prop} (hH5 : ∀ (a1 : Int) (a2 : Int) (a3 : Int) (D : z_D), H5 a1 a2 a3 D → z_w n d (k_tb 118) X 5 [some (.ref 336), some (.int (z_i a1)), some (.int (z_i a2)), some (.int (z_i a3)), none, none, none] [] D (z_qV K T)) (hH65 : ∀ (a1 : Int) (a2 : Int) (a5 : Int) (a6 : Int) (o3 : Option Value) (o4 : Option Value) (D : z_D), z_nl o3 → z_nl o4 → H65 a1 a2 a5 a6 D → z_w n d (k_tb 118) X 65 [some (.ref 336), some (.int (z_i a1)), some (.int (z_i a2)), o3, o4, some (.int (z_i a5)), some (.int (z_i a6))] [] D (z_qV K T)) (h : w_mPlainArgument_5 n d a1 a2 a3 D H5 H65 K T) : z_w n d (k_tb 118) X 5 [some (.ref 336), some (.int (z_i a1)), some (.int (z_i a2)), some (.int (z_i a3)), none, none, none] [] D (z_qV K T) := by
  unfold w_mPlainArgument_5 at h
  refine zs_iload rfl rfl ?_
  refine z_callS (as0 := [.int (z_i a3)]) (r := []) rfl rfl (Nat.le_of_ble_eq_true rfl) (z_oI h (fun v2 D1 h => ?_) (fun _ _ h => h))
  refine zs_pushI (2592) rfl rfl ?_
  obtain ⟨g3, h⟩ := h
  obtain ⟨h16, h17⟩ := h
  refine zs_cne rfl g3 (z_rk rfl) (fun c => ?_) (fun c => ?_)
  · have h := h16 c
    refine zs_aload rfl rfl ?_
    refine zs_iload rfl rfl ?_
    refine zs_pushI (1) rfl rfl ?_
    refine zs_iload rfl rfl ?_
    refine zs_pushI (0) rfl rfl ?_
    refine zs_pushI (0) rfl rfl ?_
    refine zs_pushI (0) rfl rfl ?_
    refine z_callV (k := 336) (as0 := [.int (z_i a3), .int (z_i 1), .int (z_i a2), .int (z_i 0), .int (z_i 0), .int (z_i 0)]) (r := []) rfl rfl rfl (Nat.le_of_ble_eq_true rfl) (z_oI h (fun v5 D4 h => ?_) (fun _ _ h => h))
    refine zs_istore (ls1 := [some (.ref 336), some (.int (z_i a1)), some (.int (z_i a2)), some (.int (z_i a3)), some (.int (z_i v5)), none, none]) rfl rfl rfl ?_
    refine zs_iload rfl rfl ?_
    refine zs_pushI (-1) rfl rfl ?_
    obtain ⟨g6, h⟩ := h
    obtain ⟨h12, h13⟩ := h
    refine zs_cne rfl g6 (z_rk rfl) (fun c => ?_) (fun c => ?_)
    · have h := h12 c
      refine zs_iload rfl rfl ?_
      refine zs_pushI (1) rfl rfl ?_
      refine z_callS (as0 := [.int (z_i v5), .int (z_i 1)]) (r := []) rfl rfl (Nat.le_of_ble_eq_true rfl) (z_oZ h (fun v8 D7 h => ?_) (fun _ _ h => h))
      obtain ⟨h10, h11⟩ := h
      refine zs_bne rfl (fun c => ?_) (fun c => ?_)
      · have h := h10 c
        refine zs_pushI (1) rfl rfl ?_
        refine zs_istore (ls1 := [some (.ref 336), some (.int (z_i a1)), some (.int (z_i a2)), some (.int (z_i a3)), some (.int (z_i v5)), some (.int (z_i 1)), none]) rfl rfl rfl ?_
        refine zs_pushI (2) rfl rfl ?_
        refine zs_istore (ls1 := [some (.ref 336), some (.int (z_i a1)), some (.int (z_i a2)), some (.int (z_i a3)), some (.int (z_i v5)), some (.int (z_i 1)), some (.int (z_i 2))]) rfl rfl rfl ?_
        exact hH65 _ _ _ _ _ _ _ (by first | assumption | exact trivial) (by first | assumption | exact trivial) h
      · have h := h11 c
        refine zs_aload rfl rfl ?_
        refine zs_iload rfl rfl ?_
        refine zs_iload rfl rfl ?_
        refine z_callV (k := 336) (as0 := [.int (z_i a1), .int (z_i v5)]) (r := []) rfl rfl rfl (Nat.le_of_ble_eq_true rfl) (z_oV h (fun D9 h => ?_) (fun _ _ h => h))
        exact zs_ret rfl h
    · have h := h13 c
      exact zs_ret rfl h
  · have h := h17 c
    refine zs_aload rfl rfl ?_
    refine z_callV (k := 336) (as0 := []) (r := []) rfl rfl rfl (Nat.le_of_ble_eq_true rfl) (z_oI h (fun v15 D14 h => ?_) (fun _ _ h => h))
    refine zs_istore (ls1 := [some (.ref 336), some (.int (z_i a1)), some (.int (z_i a2)), some (.int (z_i v15)), none, none, none]) rfl rfl rfl ?_
    refine zs_goto rfl ?_
    exact hH5 _ _ _  _  h
def w_mPlainArgument_65 (n d : Nat) (a1 : Int) (a2 : Int) (a5 : Int) (a6 : Int) (D : z_D) (H65 : Int → Int → Int → Int → z_D → Prop) (K : z_D → Prop) (T : Nat → z_D → Prop) : Prop :=
  (z_r a5) ∧
  ((a5 ≤ 0) →
    K D) ∧
  ((0 < a5) →
    z_c n d 104 [.ref 336] D (z_qI (fun v3 D2 => 
      z_c n d 116 [.ref 336, .int (z_i v3), .int (z_i a6), .int (z_i a2), .int (z_i 0), .int (z_i 0), .int (z_i a5)] D2 (z_qI (fun v5 D4 => 
        (z_r v5) ∧
        ((¬ v5 = (-1)) →
          z_c n d 110 [.int (z_i v5), .int (z_i 1)] D4 (z_qZ (fun v8 D7 => 
            ((v8 = false) →
              z_c n d 110 [.int (z_i v5), .int (z_i 2)] D7 (z_qZ (fun v10 D9 => 
                ((v10 = false) →
                  w_mPlainArgument_125 n d a1 a2 v5 a6 a5 0 D9 H65 K T) ∧
                ((v10 = true) →
                  w_mPlainArgument_125 n d a1 a2 v5 a6 a5 (-1) D9 H65 K T)) T)) ∧
            ((v8 = true) →
              w_mPlainArgument_125 n d a1 a2 v5 a6 a5 1 D7 H65 K T)) T)) ∧
        ((v5 = (-1)) →
          K D4)) T)) T))
theorem v_mPlainArgument_65 {n d : Nat} {X : z_Xt} {a1 : Int} {a2 : Int} {a5 : Int} {a6 : Int} {o3 : Option Value} {o4 : Option Value} {D : z_D} {H65 : Int → Int → Int → Int → z_D → Prop} {K : z_D → Prop} {T : Nat → z_D → Prop} (hH65 : ∀ (a1 : Int) (a2 : Int) (a5 : Int) (a6 : Int) (o3 : Option Value) (o4 : Option Value) (D : z_D), z_nl o3 → z_nl o4 → H65 a1 a2 a5 a6 D → z_w n d (k_tb 118) X 65 [some (.ref 336), some (.int (z_i a1)), some (.int (z_i a2)), o3, o4, some (.int (z_i a5)), some (.int (z_i a6))] [] D (z_qV K T)) (n3 : z_nl o3) (n4 : z_nl o4) (h : w_mPlainArgument_65 n d a1 a2 a5 a6 D H65 K T) : z_w n d (k_tb 118) X 65 [some (.ref 336), some (.int (z_i a1)), some (.int (z_i a2)), o3, o4, some (.int (z_i a5)), some (.int (z_i a6))] [] D (z_qV K T) := by
  unfold w_mPlainArgument_65 at h
  refine zs_iload rfl rfl ?_
  obtain ⟨g1, h⟩ := h
  obtain ⟨h17, h18⟩ := h
  refine zs_ifle rfl g1 (fun c => ?_) (fun c => ?_)
  · have h := h17 c
    exact zs_ret rfl h
  · have h := h18 c
    refine zs_aload rfl rfl ?_
    refine z_callV (k := 336) (as0 := []) (r := []) rfl rfl rfl (Nat.le_of_ble_eq_true rfl) (z_oI h (fun v3 D2 h => ?_) (fun _ _ h => h))
    refine zs_istore (ls1 := [some (.ref 336), some (.int (z_i a1)), some (.int (z_i a2)), some (.int (z_i v3)), o4, some (.int (z_i a5)), some (.int (z_i a6))]) rfl rfl rfl ?_
    refine zs_aload rfl rfl ?_
    refine zs_iload rfl rfl ?_
    refine zs_iload rfl rfl ?_
    refine zs_iload rfl rfl ?_
    refine zs_pushI (0) rfl rfl ?_
    refine zs_pushI (0) rfl rfl ?_
    refine zs_iload rfl rfl ?_
    refine z_callV (k := 336) (as0 := [.int (z_i v3), .int (z_i a6), .int (z_i a2), .int (z_i 0), .int (z_i 0), .int (z_i a5)]) (r := []) rfl rfl rfl (Nat.le_of_ble_eq_true rfl) (z_oI h (fun v5 D4 h => ?_) (fun _ _ h => h))
    refine zs_istore (ls1 := [some (.ref 336), some (.int (z_i a1)), some (.int (z_i a2)), some (.int (z_i v3)), some (.int (z_i v5)), some (.int (z_i a5)), some (.int (z_i a6))]) rfl rfl rfl ?_
    refine zs_iload rfl rfl ?_
    refine zs_pushI (-1) rfl rfl ?_
    obtain ⟨g6, h⟩ := h
    obtain ⟨h15, h16⟩ := h
    refine zs_cne rfl g6 (z_rk rfl) (fun c => ?_) (fun c => ?_)
    · have h := h15 c
      refine zs_iload rfl rfl ?_
      refine zs_iload rfl rfl ?_
      refine zs_pushI (1) rfl rfl ?_
      refine z_callS (as0 := [.int (z_i v5), .int (z_i 1)]) (r := [.int (z_i a5)]) rfl rfl (Nat.le_of_ble_eq_true rfl) (z_oZ h (fun v8 D7 h => ?_) (fun _ _ h => h))
      obtain ⟨h13, h14⟩ := h
      refine zs_beq rfl (fun c => ?_) (fun c => ?_)
      · have h := h13 c
        refine zs_iload rfl rfl ?_
        refine zs_pushI (2) rfl rfl ?_
        refine z_callS (as0 := [.int (z_i v5), .int (z_i 2)]) (r := [.int (z_i a5)]) rfl rfl (Nat.le_of_ble_eq_true rfl) (z_oZ h (fun v10 D9 h => ?_) (fun _ _ h => h))
        obtain ⟨h11, h12⟩ := h
        refine zs_beq rfl (fun c => ?_) (fun c => ?_)
        · have h := h11 c
          refine zs_pushI (0) rfl rfl ?_
          exact v_mPlainArgument_125 hH65 (by first | assumption | exact trivial) (by first | assumption | exact trivial) h
        · have h := h12 c
          refine zs_pushI (-1) rfl rfl ?_
          refine zs_goto rfl ?_
          exact v_mPlainArgument_125 hH65 (by first | assumption | exact trivial) (by first | assumption | exact trivial) h
      · have h := h14 c
        refine zs_pushI (1) rfl rfl ?_
        refine zs_goto rfl ?_
        exact v_mPlainArgument_125 hH65 (by first | assumption | exact trivial) (by first | assumption | exact trivial) h
    · have h := h16 c
      exact zs_ret rfl h
theorem r_mPlainArgument {n d : Nat} {a1 : Int} {a2 : Int} {D : z_D} {K : z_D → Prop} {T : Nat → z_D → Prop}  (I5 : Nat → Int → Int → Int → z_D → Prop) (I65 : Nat → Int → Int → Int → Int → z_D → Prop) (hE : w_mPlainArgument_0 n d a1 a2 D (fun a1 a2 a3 D => ∃ m, I5 m a1 a2 a3 D) K T) (h5 : ∀ (mm : Nat) (a1 : Int) (a2 : Int) (a3 : Int) (D : z_D), I5 mm a1 a2 a3 D → w_mPlainArgument_5 n d a1 a2 a3 D (fun a1 a2 a3 D => ∃ m, m < mm ∧ I5 m a1 a2 a3 D) (fun a1 a2 a5 a6 D => ∃ m, m < mm ∧ I65 m a1 a2 a5 a6 D) K T) (h65 : ∀ (mm : Nat) (a1 : Int) (a2 : Int) (a5 : Int) (a6 : Int) (D : z_D), I65 mm a1 a2 a5 a6 D → w_mPlainArgument_65 n d a1 a2 a5 a6 D (fun a1 a2 a5 a6 D => ∃ m, m < mm ∧ I65 m a1 a2 a5 a6 D) K T) : z_c n (d + 1) 118 [.ref 336, .int (z_i a1), .int (z_i a2)] D (z_qV K T) := by
  refine z_enter (Nat.le_of_ble_eq_true rfl) rfl (fun X => ?_)
  have key : ∀ m, (∀ (a1 : Int) (a2 : Int) (a3 : Int) (D : z_D), I5 m a1 a2 a3 D → z_w n d (k_tb 118) X 5 [some (.ref 336), some (.int (z_i a1)), some (.int (z_i a2)), some (.int (z_i a3)), none, none, none] [] D (z_qV K T)) ∧ (∀ (a1 : Int) (a2 : Int) (a5 : Int) (a6 : Int) (o3 : Option Value) (o4 : Option Value) (D : z_D), z_nl o3 → z_nl o4 → I65 m a1 a2 a5 a6 D → z_w n d (k_tb 118) X 65 [some (.ref 336), some (.int (z_i a1)), some (.int (z_i a2)), o3, o4, some (.int (z_i a5)), some (.int (z_i a6))] [] D (z_qV K T)) := by
    intro m
    induction m using Nat.strongRecOn with
    | _ mm ih =>
      exact ⟨fun a1 a2 a3 D hI => v_mPlainArgument_5 (fun a1 a2 a3 D ⟨m, hm, hI⟩ => (ih m hm).1 _ _ _ _  hI) (fun a1 a2 a5 a6 o3 o4 D n3 n4 ⟨m, hm, hI⟩ => (ih m hm).2 _ _ _ _ _ _ _ n3 n4 hI) (h5 mm a1 a2 a3 D hI), fun a1 a2 a5 a6 o3 o4 D n3 n4 hI => v_mPlainArgument_65 (fun a1 a2 a5 a6 o3 o4 D n3 n4 ⟨m, hm, hI⟩ => (ih m hm).2 _ _ _ _ _ _ _ n3 n4 hI) n3 n4 (h65 mm a1 a2 a5 a6 D hI)⟩
  exact v_mPlainArgument_0 (fun a1 a2 a3 D ⟨m, hI⟩ => (key m).1 _ _ _ _  hI) hE
