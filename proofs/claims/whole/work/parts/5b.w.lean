/-! what the methods mean; printed by wip/whole/dec.py -/
-- 8: TokenMouth$Names.startAnew()V
def w_nStartAnew_0 (n d : Nat)  (D : z_D) (H8 : Int → z_D → Prop) (K : z_D → Prop) (T : Nat → z_D → Prop) : Prop :=
  ∀ D1, D1 = z_uz D 4 3 18 →
  H8 0 D1
theorem v_nStartAnew_0 {n d : Nat} {X : z_Xt}   {D : z_D} {H8 : Int → z_D → Prop} {K : z_D → Prop} {T : Nat → z_D → Prop} (hH8 : ∀ (a1 : Int) (D : z_D), H8 a1 D → z_w n d (k_tb 8) X 8 [some (.ref 4), some (.int (z_i a1))] [] D (z_qV K T)) (h : w_nStartAnew_0 n d D H8 K T) : z_w n d (k_tb 8) X 0 [some (.ref 4), none] [] D (z_qV K T) := by
  unfold w_nStartAnew_0 at h
  refine zs_aload rfl rfl ?_
  refine zs_pushI (18) rfl rfl ?_
  refine zs_putI rfl rfl (fun D1 eD1 => ?_)
  have h := h D1 eD1
  refine zs_pushI (0) rfl rfl ?_
  refine zs_istore (ls1 := [some (.ref 4), some (.int (z_i 0))]) rfl rfl rfl ?_
  exact hH8 _  _  h
def w_nStartAnew_8 (n d : Nat) (a1 : Int) (D : z_D) (H8 : Int → z_D → Prop) (K : z_D → Prop) (T : Nat → z_D → Prop) : Prop :=
  (z_r a1) ∧
  ((118 ≤ a1) →
    K D) ∧
  ((a1 < 118) →
    ((18 ≤ a1) →
      (0 ≤ a1 ∧ a1 < 118) ∧
      ∀ D3, D3 = z_uz D 7 (Int.toNat a1) 0 →
      H8 (a1 + 1) D3) ∧
    ((a1 < 18) →
      (0 ≤ a1 ∧ a1 < 118) ∧
      ∀ D5, D5 = z_uz D 7 (Int.toNat a1) (a1 + 1) →
      H8 (a1 + 1) D5))
theorem v_nStartAnew_8 {n d : Nat} {X : z_Xt} {a1 : Int}  {D : z_D} {H8 : Int → z_D → Prop} {K : z_D → Prop} {T : Nat → z_D → Prop} (hH8 : ∀ (a1 : Int) (D : z_D), H8 a1 D → z_w n d (k_tb 8) X 8 [some (.ref 4), some (.int (z_i a1))] [] D (z_qV K T)) (h : w_nStartAnew_8 n d a1 D H8 K T) : z_w n d (k_tb 8) X 8 [some (.ref 4), some (.int (z_i a1))] [] D (z_qV K T) := by
  unfold w_nStartAnew_8 at h
  refine zs_iload rfl rfl ?_
  refine zs_aload rfl rfl ?_
  refine zs_getR (x := 7) rfl rfl rfl ?_
  refine zs_alenZ (118) rfl rfl rfl (by decide) ?_
  obtain ⟨g1, h⟩ := h
  obtain ⟨h8, h9⟩ := h
  refine zs_cge rfl g1 (z_rk rfl) (fun c => ?_) (fun c => ?_)
  · have h := h8 c
    exact zs_ret rfl h
  · have h := h9 c
    refine zs_aload rfl rfl ?_
    refine zs_getR (x := 7) rfl rfl rfl ?_
    refine zs_iload rfl rfl ?_
    refine zs_iload rfl rfl ?_
    refine zs_pushI (18) rfl rfl ?_
    obtain ⟨h6, h7⟩ := h
    refine zs_cge rfl g1 (z_rk rfl) (fun c => ?_) (fun c => ?_)
    · have h := h6 c
      refine zs_pushI (0) rfl rfl ?_
      obtain ⟨g2, h⟩ := h
      refine zs_iast rfl rfl (by decide) g2 (fun D3 eD3 => ?_)
      have h := h D3 eD3
      refine zs_iinc (a := a1) (1) (ls1 := [some (.ref 4), some (.int (z_i (a1 + 1)))]) rfl rfl rfl rfl ?_
      refine zs_goto rfl ?_
      exact hH8 _  _  h
    · have h := h7 c
      refine zs_iload rfl rfl ?_
      refine zs_pushI (1) rfl rfl ?_
      refine zs_add (a := a1) (b := 1) rfl ?_
      refine zs_goto rfl ?_
      obtain ⟨g4, h⟩ := h
      refine zs_iast rfl rfl (by decide) g4 (fun D5 eD5 => ?_)
      have h := h D5 eD5
      refine zs_iinc (a := a1) (1) (ls1 := [some (.ref 4), some (.int (z_i (a1 + 1)))]) rfl rfl rfl rfl ?_
      refine zs_goto rfl ?_
      exact hH8 _  _  h
theorem r_nStartAnew {n d : Nat}  {D : z_D} {K : z_D → Prop} {T : Nat → z_D → Prop}  (I8 : Nat → Int → z_D → Prop) (hE : w_nStartAnew_0 n d D (fun a1 D => ∃ m, I8 m a1 D) K T) (h8 : ∀ (mm : Nat) (a1 : Int) (D : z_D), I8 mm a1 D → w_nStartAnew_8 n d a1 D (fun a1 D => ∃ m, m < mm ∧ I8 m a1 D) K T) : z_c n (d + 1) 8 [.ref 4] D (z_qV K T) := by
  refine z_enter (Nat.le_of_ble_eq_true rfl) rfl (fun X => ?_)
  have key : ∀ m, (∀ (a1 : Int) (D : z_D), I8 m a1 D → z_w n d (k_tb 8) X 8 [some (.ref 4), some (.int (z_i a1))] [] D (z_qV K T)) := by
    intro m
    induction m using Nat.strongRecOn with
    | _ mm ih =>
      exact fun a1 D hI => v_nStartAnew_8 (fun a1 D ⟨m, hm, hI⟩ => (ih m hm) _ _  hI) (h8 mm a1 D hI)
  exact v_nStartAnew_0 (fun a1 D ⟨m, hI⟩ => (key m) _ _  hI) hE
-- 9: TokenMouth$Names.find(JJZ)I
def w_nFind_0 (n d : Nat) (a1 : Int64) (a3 : Int64) (b5 : Bool) (D : z_D) (H3 : Int64 → Int64 → Bool → Int → z_D → Prop) (K : Int → z_D → Prop) (T : Nat → z_D → Prop) : Prop :=
  H3 a1 a3 b5 0 D
theorem v_nFind_0 {n d : Nat} {X : z_Xt} {a1 : Int64} {a3 : Int64} {b5 : Bool}  {D : z_D} {H3 : Int64 → Int64 → Bool → Int → z_D → Prop} {K : Int → z_D → Prop} {T : Nat → z_D → Prop} (hH3 : ∀ (a1 : Int64) (a3 : Int64) (b5 : Bool) (a6 : Int) (D : z_D), H3 a1 a3 b5 a6 D → z_w n d (k_tb 9) X 3 [some (.ref 4), some (.long a1), none, some (.long a3), none, some (.int (z_i (z_b b5))), some (.int (z_i a6))] [] D (z_qI K T)) (h : w_nFind_0 n d a1 a3 b5 D H3 K T) : z_w n d (k_tb 9) X 0 [some (.ref 4), some (.long a1), none, some (.long a3), none, some (.int (z_i (z_b b5))), none] [] D (z_qI K T) := by
  unfold w_nFind_0 at h
  refine zs_pushI (0) rfl rfl ?_
  refine zs_istore (ls1 := [some (.ref 4), some (.long a1), none, some (.long a3), none, some (.int (z_i (z_b b5))), some (.int (z_i 0))]) rfl rfl rfl ?_
  exact hH3 _ _ _ _  _  h
def w_nFind_55 (n d : Nat) (a1 : Int64) (a3 : Int64) (b5 : Bool) (D : z_D)  (K : Int → z_D → Prop) (T : Nat → z_D → Prop) : Prop :=
  ((b5 = false) →
    K (-1) D) ∧
  ((b5 = true) →
    (z_r (D.1 4 3)) ∧
    (((D.1 4 3) < 0) →
      K (-1) D) ∧
    ((0 ≤ (D.1 4 3)) →
      (((D.1 4 3) < 118) →
        (0 ≤ (D.1 4 3) ∧ (D.1 4 3) < 118) ∧
        ∀ D3, D3 = z_ul D 5 (Int.toNat (D.1 4 3)) a1 →
        (0 ≤ (D3.1 4 3) ∧ (D3.1 4 3) < 118) ∧
        ∀ D5, D5 = z_ul D3 6 (Int.toNat (D3.1 4 3)) a3 →
        ∀ D6, D6 = z_uz D5 4 3 ((D5.1 4 3) + 1) →
        K ((D6.1 4 3) - 1) D6) ∧
      ((118 ≤ (D.1 4 3)) →
        K (-1) D)))
theorem v_nFind_55 {n d : Nat} {X : z_Xt} {a1 : Int64} {a3 : Int64} {b5 : Bool} {o6 : Option Value} {D : z_D}  {K : Int → z_D → Prop} {T : Nat → z_D → Prop} (n6 : z_nl o6) (h : w_nFind_55 n d a1 a3 b5 D K T) : z_w n d (k_tb 9) X 55 [some (.ref 4), some (.long a1), none, some (.long a3), none, some (.int (z_i (z_b b5))), o6] [] D (z_qI K T) := by
  unfold w_nFind_55 at h
  refine zs_iload rfl rfl ?_
  obtain ⟨h11, h12⟩ := h
  refine zs_beq rfl (fun c => ?_) (fun c => ?_)
  · have h := h11 c
    refine zs_pushI (-1) rfl rfl ?_
    exact zs_iret rfl h
  · have h := h12 c
    refine zs_aload rfl rfl ?_
    refine zs_getI rfl rfl ?_
    obtain ⟨g1, h⟩ := h
    obtain ⟨h9, h10⟩ := h
    refine zs_iflt rfl g1 (fun c => ?_) (fun c => ?_)
    · have h := h9 c
      refine zs_pushI (-1) rfl rfl ?_
      exact zs_iret rfl h
    · have h := h10 c
      refine zs_aload rfl rfl ?_
      refine zs_getI rfl rfl ?_
      refine zs_aload rfl rfl ?_
      refine zs_getR (x := 5) rfl rfl rfl ?_
      refine zs_alenZ (118) rfl rfl rfl (by decide) ?_
      obtain ⟨h7, h8⟩ := h
      refine zs_clt rfl g1 (z_rk rfl) (fun c => ?_) (fun c => ?_)
      · have h := h7 c
        refine zs_aload rfl rfl ?_
        refine zs_getR (x := 5) rfl rfl rfl ?_
        refine zs_aload rfl rfl ?_
        refine zs_getI rfl rfl ?_
        refine zs_lload rfl rfl ?_
        obtain ⟨g2, h⟩ := h
        refine zs_last rfl rfl (by decide) g2 (fun D3 eD3 => ?_)
        have h := h D3 eD3
        refine zs_aload rfl rfl ?_
        refine zs_getR (x := 6) rfl rfl rfl ?_
        refine zs_aload rfl rfl ?_
        refine zs_getI rfl rfl ?_
        refine zs_lload rfl rfl ?_
        obtain ⟨g4, h⟩ := h
        refine zs_last rfl rfl (by decide) g4 (fun D5 eD5 => ?_)
        have h := h D5 eD5
        refine zs_aload rfl rfl ?_
        refine zs_dup rfl rfl ?_
        refine zs_getI rfl rfl ?_
        refine zs_pushI (1) rfl rfl ?_
        refine zs_add (a := (D5.1 4 3)) (b := 1) rfl ?_
        refine zs_putI rfl rfl (fun D6 eD6 => ?_)
        have h := h D6 eD6
        refine zs_aload rfl rfl ?_
        refine zs_getI rfl rfl ?_
        refine zs_pushI (1) rfl rfl ?_
        refine zs_sub (a := (D6.1 4 3)) (b := 1) rfl ?_
        exact zs_iret rfl h
      · have h := h8 c
        refine zs_pushI (-1) rfl rfl ?_
        exact zs_iret rfl h
def w_nFind_3 (n d : Nat) (a1 : Int64) (a3 : Int64) (b5 : Bool) (a6 : Int) (D : z_D) (H3 : Int64 → Int64 → Bool → Int → z_D → Prop) (K : Int → z_D → Prop) (T : Nat → z_D → Prop) : Prop :=
  (z_r a6) ∧ (z_r (D.1 4 3)) ∧
  (((D.1 4 3) ≤ a6) →
    w_nFind_55 n d a1 a3 b5 D K T) ∧
  ((a6 < (D.1 4 3)) →
    ((118 ≤ a6) →
      w_nFind_55 n d a1 a3 b5 D K T) ∧
    ((a6 < 118) →
      (0 ≤ a6 ∧ a6 < 118) ∧
      ((¬ (z_cmp (D.2.1 5 (Int.toNat a6)) a1) = 0) →
        H3 a1 a3 b5 (a6 + 1) D) ∧
      (((z_cmp (D.2.1 5 (Int.toNat a6)) a1) = 0) →
        (0 ≤ a6 ∧ a6 < 118) ∧
        ((¬ (z_cmp (D.2.1 6 (Int.toNat a6)) a3) = 0) →
          H3 a1 a3 b5 (a6 + 1) D) ∧
        (((z_cmp (D.2.1 6 (Int.toNat a6)) a3) = 0) →
          K a6 D))))
theorem v_nFind_3 {n d : Nat} {X : z_Xt} {a1 : Int64} {a3 : Int64} {b5 : Bool} {a6 : Int}  {D : z_D} {H3 : Int64 → Int64 → Bool → Int → z_D → Prop} {K : Int → z_D → Prop} {T : Nat → z_D → Prop} (hH3 : ∀ (a1 : Int64) (a3 : Int64) (b5 : Bool) (a6 : Int) (D : z_D), H3 a1 a3 b5 a6 D → z_w n d (k_tb 9) X 3 [some (.ref 4), some (.long a1), none, some (.long a3), none, some (.int (z_i (z_b b5))), some (.int (z_i a6))] [] D (z_qI K T)) (h : w_nFind_3 n d a1 a3 b5 a6 D H3 K T) : z_w n d (k_tb 9) X 3 [some (.ref 4), some (.long a1), none, some (.long a3), none, some (.int (z_i (z_b b5))), some (.int (z_i a6))] [] D (z_qI K T) := by
  unfold w_nFind_3 at h
  refine zs_iload rfl rfl ?_
  refine zs_aload rfl rfl ?_
  refine zs_getI rfl rfl ?_
  obtain ⟨g1, g2, h⟩ := h
  obtain ⟨h11, h12⟩ := h
  refine zs_cge rfl g1 g2 (fun c => ?_) (fun c => ?_)
  · have h := h11 c
    exact v_nFind_55 (by first | assumption | exact trivial) h
  · have h := h12 c
    refine zs_iload rfl rfl ?_
    refine zs_aload rfl rfl ?_
    refine zs_getR (x := 5) rfl rfl rfl ?_
    refine zs_alenZ (118) rfl rfl rfl (by decide) ?_
    obtain ⟨h9, h10⟩ := h
    refine zs_cge rfl g1 (z_rk rfl) (fun c => ?_) (fun c => ?_)
    · have h := h9 c
      exact v_nFind_55 (by first | assumption | exact trivial) h
    · have h := h10 c
      refine zs_aload rfl rfl ?_
      refine zs_getR (x := 5) rfl rfl rfl ?_
      refine zs_iload rfl rfl ?_
      obtain ⟨g3, h⟩ := h
      refine zs_lald rfl rfl (by decide) g3 ?_
      refine zs_lload rfl rfl ?_
      refine zs_cmp rfl ?_
      obtain ⟨h7, h8⟩ := h
      refine zs_ifne rfl (z_r_toInt _) (fun c => ?_) (fun c => ?_)
      · have h := h7 c
        refine zs_iinc (a := a6) (1) (ls1 := [some (.ref 4), some (.long a1), none, some (.long a3), none, some (.int (z_i (z_b b5))), some (.int (z_i (a6 + 1)))]) rfl rfl rfl rfl ?_
        refine zs_goto rfl ?_
        exact hH3 _ _ _ _  _  h
      · have h := h8 c
        refine zs_aload rfl rfl ?_
        refine zs_getR (x := 6) rfl rfl rfl ?_
        refine zs_iload rfl rfl ?_
        obtain ⟨g4, h⟩ := h
        refine zs_lald rfl rfl (by decide) g4 ?_
        refine zs_lload rfl rfl ?_
        refine zs_cmp rfl ?_
        obtain ⟨h5, h6⟩ := h
        refine zs_ifne rfl (z_r_toInt _) (fun c => ?_) (fun c => ?_)
        · have h := h5 c
          refine zs_iinc (a := a6) (1) (ls1 := [some (.ref 4), some (.long a1), none, some (.long a3), none, some (.int (z_i (z_b b5))), some (.int (z_i (a6 + 1)))]) rfl rfl rfl rfl ?_
          refine zs_goto rfl ?_
          exact hH3 _ _ _ _  _  h
        · have h := h6 c
          refine zs_iload rfl rfl ?_
          exact zs_iret rfl h
theorem r_nFind {n d : Nat} {a1 : Int64} {a3 : Int64} {b5 : Bool} {D : z_D} {K : Int → z_D → Prop} {T : Nat → z_D → Prop}  (I3 : Nat → Int64 → Int64 → Bool → Int → z_D → Prop) (hE : w_nFind_0 n d a1 a3 b5 D (fun a1 a3 b5 a6 D => ∃ m, I3 m a1 a3 b5 a6 D) K T) (h3 : ∀ (mm : Nat) (a1 : Int64) (a3 : Int64) (b5 : Bool) (a6 : Int) (D : z_D), I3 mm a1 a3 b5 a6 D → w_nFind_3 n d a1 a3 b5 a6 D (fun a1 a3 b5 a6 D => ∃ m, m < mm ∧ I3 m a1 a3 b5 a6 D) K T) : z_c n (d + 1) 9 [.ref 4, .long a1, .long a3, .int (z_i (z_b b5))] D (z_qI K T) := by
  refine z_enter (Nat.le_of_ble_eq_true rfl) rfl (fun X => ?_)
  have key : ∀ m, (∀ (a1 : Int64) (a3 : Int64) (b5 : Bool) (a6 : Int) (D : z_D), I3 m a1 a3 b5 a6 D → z_w n d (k_tb 9) X 3 [some (.ref 4), some (.long a1), none, some (.long a3), none, some (.int (z_i (z_b b5))), some (.int (z_i a6))] [] D (z_qI K T)) := by
    intro m
    induction m using Nat.strongRecOn with
    | _ mm ih =>
      exact fun a1 a3 b5 a6 D hI => v_nFind_3 (fun a1 a3 b5 a6 D ⟨m, hm, hI⟩ => (ih m hm) _ _ _ _ _  hI) (h3 mm a1 a3 b5 a6 D hI)
  exact v_nFind_0 (fun a1 a3 b5 a6 D ⟨m, hI⟩ => (key m) _ _ _ _ _  hI) hE
-- 10: TokenMouth$Names.meaningAt(I)I
def w_nMeaningAt_0 (n d : Nat) (a1 : Int) (D : z_D)  (K : Int → z_D → Prop) (T : Nat → z_D → Prop) : Prop :=
  (z_r a1) ∧
  ((a1 < 0) →
    K 0 D) ∧
  ((0 ≤ a1) →
    (z_r (D.1 4 3)) ∧
    (((D.1 4 3) ≤ a1) →
      K 0 D) ∧
    ((a1 < (D.1 4 3)) →
      ((118 ≤ a1) →
        K 0 D) ∧
      ((a1 < 118) →
        (0 ≤ a1 ∧ a1 < 118) ∧
        K (D.1 7 (Int.toNat a1)) D)))
theorem v_nMeaningAt_0 {n d : Nat} {X : z_Xt} {a1 : Int}  {D : z_D}  {K : Int → z_D → Prop} {T : Nat → z_D → Prop}  (h : w_nMeaningAt_0 n d a1 D K T) : z_w n d (k_tb 10) X 0 [some (.ref 4), some (.int (z_i a1))] [] D (z_qI K T) := by
  unfold w_nMeaningAt_0 at h
  refine zs_iload rfl rfl ?_
  obtain ⟨g1, h⟩ := h
  obtain ⟨h8, h9⟩ := h
  refine zs_iflt rfl g1 (fun c => ?_) (fun c => ?_)
  · have h := h8 c
    refine zs_pushI (0) rfl rfl ?_
    exact zs_iret rfl h
  · have h := h9 c
    refine zs_iload rfl rfl ?_
    refine zs_aload rfl rfl ?_
    refine zs_getI rfl rfl ?_
    obtain ⟨g2, h⟩ := h
    obtain ⟨h6, h7⟩ := h
    refine zs_cge rfl g1 g2 (fun c => ?_) (fun c => ?_)
    · have h := h6 c
      refine zs_pushI (0) rfl rfl ?_
      exact zs_iret rfl h
    · have h := h7 c
      refine zs_iload rfl rfl ?_
      refine zs_aload rfl rfl ?_
      refine zs_getR (x := 7) rfl rfl rfl ?_
      refine zs_alenZ (118) rfl rfl rfl (by decide) ?_
      obtain ⟨h4, h5⟩ := h
      refine zs_cge rfl g1 (z_rk rfl) (fun c => ?_) (fun c => ?_)
      · have h := h4 c
        refine zs_pushI (0) rfl rfl ?_
        exact zs_iret rfl h
      · have h := h5 c
        refine zs_aload rfl rfl ?_
        refine zs_getR (x := 7) rfl rfl rfl ?_
        refine zs_iload rfl rfl ?_
        obtain ⟨g3, h⟩ := h
        refine zs_iald rfl rfl (by decide) g3 ?_
        refine zs_goto rfl ?_
        exact zs_iret rfl h
theorem r_nMeaningAt {n d : Nat} {a1 : Int} {D : z_D} {K : Int → z_D → Prop} {T : Nat → z_D → Prop}  (h : w_nMeaningAt_0 n d a1 D K T) : z_c n (d + 1) 10 [.ref 4, .int (z_i a1)] D (z_qI K T) :=
  z_enter (Nat.le_of_ble_eq_true rfl) rfl (fun X => v_nMeaningAt_0 h)
-- 11: TokenMouth$Names.setMeaning(II)V
def w_nSetMeaning_0 (n d : Nat) (a1 : Int) (a2 : Int) (D : z_D)  (K : z_D → Prop) (T : Nat → z_D → Prop) : Prop :=
  (z_r a1) ∧
  ((a1 < 0) →
    K D) ∧
  ((0 ≤ a1) →
    (z_r (D.1 4 3)) ∧
    (((D.1 4 3) ≤ a1) →
      K D) ∧
    ((a1 < (D.1 4 3)) →
      ((118 ≤ a1) →
        K D) ∧
      ((a1 < 118) →
        (0 ≤ a1 ∧ a1 < 118) ∧
        ∀ D4, D4 = z_uz D 7 (Int.toNat a1) a2 →
        K D4)))
theorem v_nSetMeaning_0 {n d : Nat} {X : z_Xt} {a1 : Int} {a2 : Int}  {D : z_D}  {K : z_D → Prop} {T : Nat → z_D → Prop}  (h : w_nSetMeaning_0 n d a1 a2 D K T) : z_w n d (k_tb 11) X 0 [some (.ref 4), some (.int (z_i a1)), some (.int (z_i a2))] [] D (z_qV K T) := by
  unfold w_nSetMeaning_0 at h
  refine zs_iload rfl rfl ?_
  obtain ⟨g1, h⟩ := h
  obtain ⟨h9, h10⟩ := h
  refine zs_iflt rfl g1 (fun c => ?_) (fun c => ?_)
  · have h := h9 c
    exact zs_ret rfl h
  · have h := h10 c
    refine zs_iload rfl rfl ?_
    refine zs_aload rfl rfl ?_
    refine zs_getI rfl rfl ?_
    obtain ⟨g2, h⟩ := h
    obtain ⟨h7, h8⟩ := h
    refine zs_cge rfl g1 g2 (fun c => ?_) (fun c => ?_)
    · have h := h7 c
      exact zs_ret rfl h
    · have h := h8 c
      refine zs_iload rfl rfl ?_
      refine zs_aload rfl rfl ?_
      refine zs_getR (x := 7) rfl rfl rfl ?_
      refine zs_alenZ (118) rfl rfl rfl (by decide) ?_
      obtain ⟨h5, h6⟩ := h
      refine zs_cge rfl g1 (z_rk rfl) (fun c => ?_) (fun c => ?_)
      · have h := h5 c
        exact zs_ret rfl h
      · have h := h6 c
        refine zs_aload rfl rfl ?_
        refine zs_getR (x := 7) rfl rfl rfl ?_
        refine zs_iload rfl rfl ?_
        refine zs_iload rfl rfl ?_
        obtain ⟨g3, h⟩ := h
        refine zs_iast rfl rfl (by decide) g3 (fun D4 eD4 => ?_)
        have h := h D4 eD4
        exact zs_ret rfl h
theorem r_nSetMeaning {n d : Nat} {a1 : Int} {a2 : Int} {D : z_D} {K : z_D → Prop} {T : Nat → z_D → Prop}  (h : w_nSetMeaning_0 n d a1 a2 D K T) : z_c n (d + 1) 11 [.ref 4, .int (z_i a1), .int (z_i a2)] D (z_qV K T) :=
  z_enter (Nat.le_of_ble_eq_true rfl) rfl (fun X => v_nSetMeaning_0 h)
-- 12: TokenMouth$Names.headAt(I)J
def w_nHeadAt_0 (n d : Nat) (a1 : Int) (D : z_D)  (K : Int64 → z_D → Prop) (T : Nat → z_D → Prop) : Prop :=
  (z_r a1) ∧
  ((a1 < 0) →
    K (0) D) ∧
  ((0 ≤ a1) →
    (z_r (D.1 4 3)) ∧
    (((D.1 4 3) ≤ a1) →
      K (0) D) ∧
    ((a1 < (D.1 4 3)) →
      ((118 ≤ a1) →
        K (0) D) ∧
      ((a1 < 118) →
        (0 ≤ a1 ∧ a1 < 118) ∧
        K (D.2.1 5 (Int.toNat a1)) D)))
theorem v_nHeadAt_0 {n d : Nat} {X : z_Xt} {a1 : Int}  {D : z_D}  {K : Int64 → z_D → Prop} {T : Nat → z_D → Prop}  (h : w_nHeadAt_0 n d a1 D K T) : z_w n d (k_tb 12) X 0 [some (.ref 4), some (.int (z_i a1))] [] D (z_qL K T) := by
  unfold w_nHeadAt_0 at h
  refine zs_iload rfl rfl ?_
  obtain ⟨g1, h⟩ := h
  obtain ⟨h8, h9⟩ := h
  refine zs_iflt rfl g1 (fun c => ?_) (fun c => ?_)
  · have h := h8 c
    refine zs_push rfl ?_
    exact zs_lret rfl h
  · have h := h9 c
    refine zs_iload rfl rfl ?_
    refine zs_aload rfl rfl ?_
    refine zs_getI rfl rfl ?_
    obtain ⟨g2, h⟩ := h
    obtain ⟨h6, h7⟩ := h
    refine zs_cge rfl g1 g2 (fun c => ?_) (fun c => ?_)
    · have h := h6 c
      refine zs_push rfl ?_
      exact zs_lret rfl h
    · have h := h7 c
      refine zs_iload rfl rfl ?_
      refine zs_aload rfl rfl ?_
      refine zs_getR (x := 5) rfl rfl rfl ?_
      refine zs_alenZ (118) rfl rfl rfl (by decide) ?_
      obtain ⟨h4, h5⟩ := h
      refine zs_cge rfl g1 (z_rk rfl) (fun c => ?_) (fun c => ?_)
      · have h := h4 c
        refine zs_push rfl ?_
        exact zs_lret rfl h
      · have h := h5 c
        refine zs_aload rfl rfl ?_
        refine zs_getR (x := 5) rfl rfl rfl ?_
        refine zs_iload rfl rfl ?_
        obtain ⟨g3, h⟩ := h
        refine zs_lald rfl rfl (by decide) g3 ?_
        refine zs_goto rfl ?_
        exact zs_lret rfl h
theorem r_nHeadAt {n d : Nat} {a1 : Int} {D : z_D} {K : Int64 → z_D → Prop} {T : Nat → z_D → Prop}  (h : w_nHeadAt_0 n d a1 D K T) : z_c n (d + 1) 12 [.ref 4, .int (z_i a1)] D (z_qL K T) :=
  z_enter (Nat.le_of_ble_eq_true rfl) rfl (fun X => v_nHeadAt_0 h)
-- 13: TokenMouth$Names.tailAt(I)J
def w_nTailAt_0 (n d : Nat) (a1 : Int) (D : z_D)  (K : Int64 → z_D → Prop) (T : Nat → z_D → Prop) : Prop :=
  (z_r a1) ∧
  ((a1 < 0) →
    K (0) D) ∧
  ((0 ≤ a1) →
    (z_r (D.1 4 3)) ∧
    (((D.1 4 3) ≤ a1) →
      K (0) D) ∧
    ((a1 < (D.1 4 3)) →
      ((118 ≤ a1) →
        K (0) D) ∧
      ((a1 < 118) →
        (0 ≤ a1 ∧ a1 < 118) ∧
        K (D.2.1 6 (Int.toNat a1)) D)))
theorem v_nTailAt_0 {n d : Nat} {X : z_Xt} {a1 : Int}  {D : z_D}  {K : Int64 → z_D → Prop} {T : Nat → z_D → Prop}  (h : w_nTailAt_0 n d a1 D K T) : z_w n d (k_tb 13) X 0 [some (.ref 4), some (.int (z_i a1))] [] D (z_qL K T) := by
  unfold w_nTailAt_0 at h
  refine zs_iload rfl rfl ?_
  obtain ⟨g1, h⟩ := h
  obtain ⟨h8, h9⟩ := h
  refine zs_iflt rfl g1 (fun c => ?_) (fun c => ?_)
  · have h := h8 c
    refine zs_push rfl ?_
    exact zs_lret rfl h
  · have h := h9 c
    refine zs_iload rfl rfl ?_
    refine zs_aload rfl rfl ?_
    refine zs_getI rfl rfl ?_
    obtain ⟨g2, h⟩ := h
    obtain ⟨h6, h7⟩ := h
    refine zs_cge rfl g1 g2 (fun c => ?_) (fun c => ?_)
    · have h := h6 c
      refine zs_push rfl ?_
      exact zs_lret rfl h
    · have h := h7 c
      refine zs_iload rfl rfl ?_
      refine zs_aload rfl rfl ?_
      refine zs_getR (x := 6) rfl rfl rfl ?_
      refine zs_alenZ (118) rfl rfl rfl (by decide) ?_
      obtain ⟨h4, h5⟩ := h
      refine zs_cge rfl g1 (z_rk rfl) (fun c => ?_) (fun c => ?_)
      · have h := h4 c
        refine zs_push rfl ?_
        exact zs_lret rfl h
      · have h := h5 c
        refine zs_aload rfl rfl ?_
        refine zs_getR (x := 6) rfl rfl rfl ?_
        refine zs_iload rfl rfl ?_
        obtain ⟨g3, h⟩ := h
        refine zs_lald rfl rfl (by decide) g3 ?_
        refine zs_goto rfl ?_
        exact zs_lret rfl h
theorem r_nTailAt {n d : Nat} {a1 : Int} {D : z_D} {K : Int64 → z_D → Prop} {T : Nat → z_D → Prop}  (h : w_nTailAt_0 n d a1 D K T) : z_c n (d + 1) 13 [.ref 4, .int (z_i a1)] D (z_qL K T) :=
  z_enter (Nat.le_of_ble_eq_true rfl) rfl (fun X => v_nTailAt_0 h)
-- 14: TokenMouth$Names.onlyCharacterOf(I)I
def w_nOnlyCharacterOf_0 (n d : Nat) (a1 : Int) (D : z_D)  (K : Int → z_D → Prop) (T : Nat → z_D → Prop) : Prop :=
  z_c n d 12 [.ref 4, .int (z_i a1)] D (z_qL (fun v2 D1 => 
    (((z_cmp v2 (0)) ≤ 0) →
      K (-1) D1) ∧
    ((0 < (z_cmp v2 (0))) →
      ((0 ≤ (z_cmp v2 (256))) →
        K (-1) D1) ∧
      (((z_cmp v2 (256)) < 0) →
        K (z_li v2) D1))) T)
theorem v_nOnlyCharacterOf_0 {n d : Nat} {X : z_Xt} {a1 : Int}  {D : z_D}  {K : Int → z_D → Prop} {T : Nat → z_D → Prop}  (h : w_nOnlyCharacterOf_0 n d a1 D K T) : z_w n d (k_tb 14) X 0 [some (.ref 4), some (.int (z_i a1)), none, none] [] D (z_qI K T) := by
  unfold w_nOnlyCharacterOf_0 at h
  refine zs_aload rfl rfl ?_
  refine zs_iload rfl rfl ?_
  refine z_callV (k := 4) (as0 := [.int (z_i a1)]) (r := []) rfl rfl rfl (Nat.le_of_ble_eq_true rfl) (z_oL h (fun v2 D1 h => ?_) (fun _ _ h => h))
  refine zs_lstore (ls1 := [some (.ref 4), some (.int (z_i a1)), some (.long v2), none]) rfl rfl rfl ?_
  refine zs_lload rfl rfl ?_
  refine zs_push rfl ?_
  refine zs_cmp rfl ?_
  obtain ⟨h5, h6⟩ := h
  refine zs_ifle rfl (z_r_toInt _) (fun c => ?_) (fun c => ?_)
  · have h := h5 c
    refine zs_pushI (-1) rfl rfl ?_
    exact zs_iret rfl h
  · have h := h6 c
    refine zs_lload rfl rfl ?_
    refine zs_push rfl ?_
    refine zs_cmp rfl ?_
    obtain ⟨h3, h4⟩ := h
    refine zs_ifge rfl (z_r_toInt _) (fun c => ?_) (fun c => ?_)
    · have h := h3 c
      refine zs_pushI (-1) rfl rfl ?_
      exact zs_iret rfl h
    · have h := h4 c
      refine zs_lload rfl rfl ?_
      refine zs_l2 rfl ?_
      refine zs_goto rfl ?_
      exact zs_iret rfl h
theorem r_nOnlyCharacterOf {n d : Nat} {a1 : Int} {D : z_D} {K : Int → z_D → Prop} {T : Nat → z_D → Prop}  (h : w_nOnlyCharacterOf_0 n d a1 D K T) : z_c n (d + 1) 14 [.ref 4, .int (z_i a1)] D (z_qI K T) :=
  z_enter (Nat.le_of_ble_eq_true rfl) rfl (fun X => v_nOnlyCharacterOf_0 h)
-- 16: TokenMouth$Reader.forgetText()V
def w_dForgetText_0 (n d : Nat)  (D : z_D)  (K : z_D → Prop) (T : Nat → z_D → Prop) : Prop :=
  ∀ D1, D1 = z_uz D 1 2 0 →
  K D1
theorem v_dForgetText_0 {n d : Nat} {X : z_Xt}   {D : z_D}  {K : z_D → Prop} {T : Nat → z_D → Prop}  (h : w_dForgetText_0 n d D K T) : z_w n d (k_tb 16) X 0 [some (.ref 1)] [] D (z_qV K T) := by
  unfold w_dForgetText_0 at h
  refine zs_aload rfl rfl ?_
  refine zs_pushI (0) rfl rfl ?_
  refine zs_putI rfl rfl (fun D1 eD1 => ?_)
  have h := h D1 eD1
  exact zs_ret rfl h
theorem r_dForgetText {n d : Nat}  {D : z_D} {K : z_D → Prop} {T : Nat → z_D → Prop}  (h : w_dForgetText_0 n d D K T) : z_c n (d + 1) 16 [.ref 1] D (z_qV K T) :=
  z_enter (Nat.le_of_ble_eq_true rfl) rfl (fun X => v_dForgetText_0 h)
-- 17: TokenMouth$Reader.startAnew()V
def w_dStartAnew_0 (n d : Nat)  (D : z_D) (H26 : Int → z_D → Prop) (K : z_D → Prop) (T : Nat → z_D → Prop) : Prop :=
  ∀ D1, D1 = z_uz D 1 4 0 →
  ∀ D2, D2 = z_uz D1 1 3 0 →
  ∀ D3, D3 = z_uz D2 1 5 0 →
  z_c n d 162 [.ref 3, .int (z_i 12)] D3 (z_qV (fun D4 => 
    H26 0 D4) T)
theorem v_dStartAnew_0 {n d : Nat} {X : z_Xt}   {D : z_D} {H26 : Int → z_D → Prop} {K : z_D → Prop} {T : Nat → z_D → Prop} (hH26 : ∀ (a1 : Int) (D : z_D), H26 a1 D → z_w n d (k_tb 17) X 26 [some (.ref 1), some (.int (z_i a1))] [] D (z_qV K T)) (h : w_dStartAnew_0 n d D H26 K T) : z_w n d (k_tb 17) X 0 [some (.ref 1), none] [] D (z_qV K T) := by
  unfold w_dStartAnew_0 at h
  refine zs_aload rfl rfl ?_
  refine zs_pushI (0) rfl rfl ?_
  refine zs_putI rfl rfl (fun D1 eD1 => ?_)
  have h := h D1 eD1
  refine zs_aload rfl rfl ?_
  refine zs_pushI (0) rfl rfl ?_
  refine zs_putI rfl rfl (fun D2 eD2 => ?_)
  have h := h D2 eD2
  refine zs_aload rfl rfl ?_
  refine zs_pushI (0) rfl rfl ?_
  refine zs_putI rfl rfl (fun D3 eD3 => ?_)
  have h := h D3 eD3
  refine zs_aload rfl rfl ?_
  refine zs_getR (x := 3) rfl rfl rfl ?_
  refine zs_pushI (12) rfl rfl ?_
  refine z_callS (as0 := [.ref 3, .int (z_i 12)]) (r := []) rfl rfl (Nat.le_of_ble_eq_true rfl) (z_oV h (fun D4 h => ?_) (fun _ _ h => h))
  refine zs_pushI (0) rfl rfl ?_
  refine zs_istore (ls1 := [some (.ref 1), some (.int (z_i 0))]) rfl rfl rfl ?_
  exact hH26 _  _  h
def w_dStartAnew_26 (n d : Nat) (a1 : Int) (D : z_D) (H26 : Int → z_D → Prop) (K : z_D → Prop) (T : Nat → z_D → Prop) : Prop :=
  (z_r a1) ∧
  ((26 ≤ a1) →
    ∀ D2, D2 = z_uz D 3 92 0 →
    ∀ D3, D3 = z_uz D2 3 123 1 →
    ∀ D4, D4 = z_uz D3 3 125 2 →
    ∀ D5, D5 = z_uz D4 3 36 3 →
    ∀ D6, D6 = z_uz D5 3 38 4 →
    ∀ D7, D7 = z_uz D6 3 10 5 →
    ∀ D8, D8 = z_uz D7 3 35 6 →
    ∀ D9, D9 = z_uz D8 3 94 7 →
    ∀ D10, D10 = z_uz D9 3 95 8 →
    ∀ D11, D11 = z_uz D10 3 32 10 →
    ∀ D12, D12 = z_uz D11 3 126 13 →
    ∀ D13, D13 = z_uz D12 3 37 14 →
    K D13) ∧
  ((a1 < 26) →
    (0 ≤ (97 + a1) ∧ (97 + a1) < 128) ∧
    ∀ D15, D15 = z_uz D 3 (Int.toNat (97 + a1)) 11 →
    (0 ≤ (65 + a1) ∧ (65 + a1) < 128) ∧
    ∀ D17, D17 = z_uz D15 3 (Int.toNat (65 + a1)) 11 →
    H26 (a1 + 1) D17)
theorem v_dStartAnew_26 {n d : Nat} {X : z_Xt} {a1 : Int}  {D : z_D} {H26 : Int → z_D → Prop} {K : z_D → Prop} {T : Nat → z_D → Prop} (hH26 : ∀ (a1 : Int) (D : z_D), H26 a1 D → z_w n d (k_tb 17) X 26 [some (.ref 1), some (.int (z_i a1))] [] D (z_qV K T)) (h : w_dStartAnew_26 n d a1 D H26 K T) : z_w n d (k_tb 17) X 26 [some (.ref 1), some (.int (z_i a1))] [] D (z_qV K T) := by
  unfold w_dStartAnew_26 at h
  refine zs_iload rfl rfl ?_
  refine zs_pushI (26) rfl rfl ?_
  obtain ⟨g1, h⟩ := h
  obtain ⟨h18, h19⟩ := h
  refine zs_cge rfl g1 (z_rk rfl) (fun c => ?_) (fun c => ?_)
  · have h := h18 c
    refine zs_aload rfl rfl ?_
    refine zs_getR (x := 3) rfl rfl rfl ?_
    refine zs_pushI (92) rfl rfl ?_
    refine zs_pushI (0) rfl rfl ?_
    refine zs_iast rfl rfl (by decide) (by decide) (fun D2 eD2 => ?_)
    have h := h D2 eD2
    refine zs_aload rfl rfl ?_
    refine zs_getR (x := 3) rfl rfl rfl ?_
    refine zs_pushI (123) rfl rfl ?_
    refine zs_pushI (1) rfl rfl ?_
    refine zs_iast rfl rfl (by decide) (by decide) (fun D3 eD3 => ?_)
    have h := h D3 eD3
    refine zs_aload rfl rfl ?_
    refine zs_getR (x := 3) rfl rfl rfl ?_
    refine zs_pushI (125) rfl rfl ?_
    refine zs_pushI (2) rfl rfl ?_
    refine zs_iast rfl rfl (by decide) (by decide) (fun D4 eD4 => ?_)
    have h := h D4 eD4
    refine zs_aload rfl rfl ?_
    refine zs_getR (x := 3) rfl rfl rfl ?_
    refine zs_pushI (36) rfl rfl ?_
    refine zs_pushI (3) rfl rfl ?_
    refine zs_iast rfl rfl (by decide) (by decide) (fun D5 eD5 => ?_)
    have h := h D5 eD5
    refine zs_aload rfl rfl ?_
    refine zs_getR (x := 3) rfl rfl rfl ?_
    refine zs_pushI (38) rfl rfl ?_
    refine zs_pushI (4) rfl rfl ?_
    refine zs_iast rfl rfl (by decide) (by decide) (fun D6 eD6 => ?_)
    have h := h D6 eD6
    refine zs_aload rfl rfl ?_
    refine zs_getR (x := 3) rfl rfl rfl ?_
    refine zs_pushI (10) rfl rfl ?_
    refine zs_pushI (5) rfl rfl ?_
    refine zs_iast rfl rfl (by decide) (by decide) (fun D7 eD7 => ?_)
    have h := h D7 eD7
    refine zs_aload rfl rfl ?_
    refine zs_getR (x := 3) rfl rfl rfl ?_
    refine zs_pushI (35) rfl rfl ?_
    refine zs_pushI (6) rfl rfl ?_
    refine zs_iast rfl rfl (by decide) (by decide) (fun D8 eD8 => ?_)
    have h := h D8 eD8
    refine zs_aload rfl rfl ?_
    refine zs_getR (x := 3) rfl rfl rfl ?_
    refine zs_pushI (94) rfl rfl ?_
    refine zs_pushI (7) rfl rfl ?_
    refine zs_iast rfl rfl (by decide) (by decide) (fun D9 eD9 => ?_)
    have h := h D9 eD9
    refine zs_aload rfl rfl ?_
    refine zs_getR (x := 3) rfl rfl rfl ?_
    refine zs_pushI (95) rfl rfl ?_
    refine zs_pushI (8) rfl rfl ?_
    refine zs_iast rfl rfl (by decide) (by decide) (fun D10 eD10 => ?_)
    have h := h D10 eD10
    refine zs_aload rfl rfl ?_
    refine zs_getR (x := 3) rfl rfl rfl ?_
    refine zs_pushI (32) rfl rfl ?_
    refine zs_pushI (10) rfl rfl ?_
    refine zs_iast rfl rfl (by decide) (by decide) (fun D11 eD11 => ?_)
    have h := h D11 eD11
    refine zs_aload rfl rfl ?_
    refine zs_getR (x := 3) rfl rfl rfl ?_
    refine zs_pushI (126) rfl rfl ?_
    refine zs_pushI (13) rfl rfl ?_
    refine zs_iast rfl rfl (by decide) (by decide) (fun D12 eD12 => ?_)
    have h := h D12 eD12
    refine zs_aload rfl rfl ?_
    refine zs_getR (x := 3) rfl rfl rfl ?_
    refine zs_pushI (37) rfl rfl ?_
    refine zs_pushI (14) rfl rfl ?_
    refine zs_iast rfl rfl (by decide) (by decide) (fun D13 eD13 => ?_)
    have h := h D13 eD13
    exact zs_ret rfl h
  · have h := h19 c
    refine zs_aload rfl rfl ?_
    refine zs_getR (x := 3) rfl rfl rfl ?_
    refine zs_pushI (97) rfl rfl ?_
    refine zs_iload rfl rfl ?_
    refine zs_add (a := 97) (b := a1) rfl ?_
    refine zs_pushI (11) rfl rfl ?_
    obtain ⟨g14, h⟩ := h
    refine zs_iast rfl rfl (by decide) g14 (fun D15 eD15 => ?_)
    have h := h D15 eD15
    refine zs_aload rfl rfl ?_
    refine zs_getR (x := 3) rfl rfl rfl ?_
    refine zs_pushI (65) rfl rfl ?_
    refine zs_iload rfl rfl ?_
    refine zs_add (a := 65) (b := a1) rfl ?_
    refine zs_pushI (11) rfl rfl ?_
    obtain ⟨g16, h⟩ := h
    refine zs_iast rfl rfl (by decide) g16 (fun D17 eD17 => ?_)
    have h := h D17 eD17
    refine zs_iinc (a := a1) (1) (ls1 := [some (.ref 1), some (.int (z_i (a1 + 1)))]) rfl rfl rfl rfl ?_
    refine zs_goto rfl ?_
    exact hH26 _  _  h
theorem r_dStartAnew {n d : Nat}  {D : z_D} {K : z_D → Prop} {T : Nat → z_D → Prop}  (I26 : Nat → Int → z_D → Prop) (hE : w_dStartAnew_0 n d D (fun a1 D => ∃ m, I26 m a1 D) K T) (h26 : ∀ (mm : Nat) (a1 : Int) (D : z_D), I26 mm a1 D → w_dStartAnew_26 n d a1 D (fun a1 D => ∃ m, m < mm ∧ I26 m a1 D) K T) : z_c n (d + 1) 17 [.ref 1] D (z_qV K T) := by
  refine z_enter (Nat.le_of_ble_eq_true rfl) rfl (fun X => ?_)
  have key : ∀ m, (∀ (a1 : Int) (D : z_D), I26 m a1 D → z_w n d (k_tb 17) X 26 [some (.ref 1), some (.int (z_i a1))] [] D (z_qV K T)) := by
    intro m
    induction m using Nat.strongRecOn with
    | _ mm ih =>
      exact fun a1 D hI => v_dStartAnew_26 (fun a1 D ⟨m, hm, hI⟩ => (ih m hm) _ _  hI) (h26 mm a1 D hI)
  exact v_dStartAnew_0 (fun a1 D ⟨m, hI⟩ => (key m) _ _  hI) hE
-- 18: TokenMouth$Reader.categoryOf(I)I
def w_dCategoryOf_0 (n d : Nat) (a1 : Int) (D : z_D)  (K : Int → z_D → Prop) (T : Nat → z_D → Prop) : Prop :=
  (0 ≤ (z_and a1 127) ∧ (z_and a1 127) < 128) ∧
  K (D.1 3 (Int.toNat (z_and a1 127))) D
theorem v_dCategoryOf_0 {n d : Nat} {X : z_Xt} {a1 : Int}  {D : z_D}  {K : Int → z_D → Prop} {T : Nat → z_D → Prop}  (h : w_dCategoryOf_0 n d a1 D K T) : z_w n d (k_tb 18) X 0 [some (.ref 1), some (.int (z_i a1))] [] D (z_qI K T) := by
  unfold w_dCategoryOf_0 at h
  refine zs_aload rfl rfl ?_
  refine zs_getR (x := 3) rfl rfl rfl ?_
  refine zs_iload rfl rfl ?_
  refine zs_pushI (127) rfl rfl ?_
  refine zs_and (a := a1) (b := 127) rfl ?_
  obtain ⟨g1, h⟩ := h
  refine zs_iald rfl rfl (by decide) g1 ?_
  exact zs_iret rfl h
theorem r_dCategoryOf {n d : Nat} {a1 : Int} {D : z_D} {K : Int → z_D → Prop} {T : Nat → z_D → Prop}  (h : w_dCategoryOf_0 n d a1 D K T) : z_c n (d + 1) 18 [.ref 1, .int (z_i a1)] D (z_qI K T) :=
  z_enter (Nat.le_of_ble_eq_true rfl) rfl (fun X => v_dCategoryOf_0 h)
-- 19: TokenMouth$Reader.setCategory(II)V
def w_dSetCategory_0 (n d : Nat) (a1 : Int) (a2 : Int) (D : z_D)  (K : z_D → Prop) (T : Nat → z_D → Prop) : Prop :=
  (0 ≤ (z_and a1 127) ∧ (z_and a1 127) < 128) ∧
  ∀ D2, D2 = z_uz D 3 (Int.toNat (z_and a1 127)) a2 →
  K D2
theorem v_dSetCategory_0 {n d : Nat} {X : z_Xt} {a1 : Int} {a2 : Int}  {D : z_D}  {K : z_D → Prop} {T : Nat → z_D → Prop}  (h : w_dSetCategory_0 n d a1 a2 D K T) : z_w n d (k_tb 19) X 0 [some (.ref 1), some (.int (z_i a1)), some (.int (z_i a2))] [] D (z_qV K T) := by
  unfold w_dSetCategory_0 at h
  refine zs_aload rfl rfl ?_
  refine zs_getR (x := 3) rfl rfl rfl ?_
  refine zs_iload rfl rfl ?_
  refine zs_pushI (127) rfl rfl ?_
  refine zs_and (a := a1) (b := 127) rfl ?_
  refine zs_iload rfl rfl ?_
  obtain ⟨g1, h⟩ := h
  refine zs_iast rfl rfl (by decide) g1 (fun D2 eD2 => ?_)
  have h := h D2 eD2
  exact zs_ret rfl h
theorem r_dSetCategory {n d : Nat} {a1 : Int} {a2 : Int} {D : z_D} {K : z_D → Prop} {T : Nat → z_D → Prop}  (h : w_dSetCategory_0 n d a1 a2 D K T) : z_c n (d + 1) 19 [.ref 1, .int (z_i a1), .int (z_i a2)] D (z_qV K T) :=
  z_enter (Nat.le_of_ble_eq_true rfl) rfl (fun X => v_dSetCategory_0 h)
-- 20: TokenMouth$Reader.append(J)Z
def w_dAppend_0 (n d : Nat) (a1 : Int64) (D : z_D) (H28 : Int64 → Int → z_D → Prop) (K : Bool → z_D → Prop) (T : Nat → z_D → Prop) : Prop :=
  z_c n d 50 [.long a1] D (z_qI (fun v2 D1 => 
    (z_r v2) ∧
    ((v2 = (-1)) →
      K false D1) ∧
    ((¬ v2 = (-1)) →
      (z_r ((D1.1 1 2) + v2)) ∧
      ((((D1.1 1 2) + v2) ≤ 160) →
        H28 a1 56 D1) ∧
      ((160 < ((D1.1 1 2) + v2)) →
        K false D1))) T)
theorem v_dAppend_0 {n d : Nat} {X : z_Xt} {a1 : Int64}  {D : z_D} {H28 : Int64 → Int → z_D → Prop} {K : Bool → z_D → Prop} {T : Nat → z_D → Prop} (hH28 : ∀ (a1 : Int64) (a4 : Int) (o3 : Option Value) (o5 : Option Value) (D : z_D), z_nl o3 → z_nl o5 → H28 a1 a4 D → z_w n d (k_tb 20) X 28 [some (.ref 1), some (.long a1), none, o3, some (.int (z_i a4)), o5] [] D (z_qZ K T)) (h : w_dAppend_0 n d a1 D H28 K T) : z_w n d (k_tb 20) X 0 [some (.ref 1), some (.long a1), none, none, none, none] [] D (z_qZ K T) := by
  unfold w_dAppend_0 at h
  refine zs_lload rfl rfl ?_
  refine z_callS (as0 := [.long a1]) (r := []) rfl rfl (Nat.le_of_ble_eq_true rfl) (z_oI h (fun v2 D1 h => ?_) (fun _ _ h => h))
  refine zs_istore (ls1 := [some (.ref 1), some (.long a1), none, some (.int (z_i v2)), none, none]) rfl rfl rfl ?_
  refine zs_iload rfl rfl ?_
  refine zs_pushI (-1) rfl rfl ?_
  obtain ⟨g3, h⟩ := h
  obtain ⟨h7, h8⟩ := h
  refine zs_ceq rfl g3 (z_rk rfl) (fun c => ?_) (fun c => ?_)
  · have h := h7 c
    refine zs_pushI (0) rfl rfl ?_
    exact zs_zret (b := false) rfl h
  · have h := h8 c
    refine zs_aload rfl rfl ?_
    refine zs_getI rfl rfl ?_
    refine zs_iload rfl rfl ?_
    refine zs_add (a := (D1.1 1 2)) (b := v2) rfl ?_
    refine zs_pushI (160) rfl rfl ?_
    obtain ⟨g4, h⟩ := h
    obtain ⟨h5, h6⟩ := h
    refine zs_cle rfl g4 (z_rk rfl) (fun c => ?_) (fun c => ?_)
    · have h := h5 c
      refine zs_pushI (56) rfl rfl ?_
      refine zs_istore (ls1 := [some (.ref 1), some (.long a1), none, some (.int (z_i v2)), some (.int (z_i 56)), none]) rfl rfl rfl ?_
      exact hH28 _ _ _ _ _ (by first | assumption | exact trivial) (by first | assumption | exact trivial) h
    · have h := h6 c
      refine zs_pushI (0) rfl rfl ?_
      exact zs_zret (b := false) rfl h
def w_dAppend_28 (n d : Nat) (a1 : Int64) (a4 : Int) (D : z_D) (H28 : Int64 → Int → z_D → Prop) (K : Bool → z_D → Prop) (T : Nat → z_D → Prop) : Prop :=
  (z_r a4) ∧
  ((a4 < 0) →
    K true D) ∧
  ((0 ≤ a4) →
    (((z_and (z_li (z_usr a1 a4)) 255) = 0) →
      H28 a1 (a4 + (-8)) D) ∧
    ((¬ (z_and (z_li (z_usr a1 a4)) 255) = 0) →
      (z_r (D.1 1 2)) ∧
      (((D.1 1 2) < 0) →
        H28 a1 (a4 + (-8)) D) ∧
      ((0 ≤ (D.1 1 2)) →
        ((160 ≤ (D.1 1 2)) →
          H28 a1 (a4 + (-8)) D) ∧
        (((D.1 1 2) < 160) →
          (0 ≤ (D.1 1 2) ∧ (D.1 1 2) < 160) ∧
          ∀ D4, D4 = z_uz D 2 (Int.toNat (D.1 1 2)) (z_and (z_li (z_usr a1 a4)) 255) →
          ∀ D5, D5 = z_uz D4 1 2 ((D4.1 1 2) + 1) →
          H28 a1 (a4 + (-8)) D5))))
theorem v_dAppend_28 {n d : Nat} {X : z_Xt} {a1 : Int64} {a4 : Int} {o3 : Option Value} {o5 : Option Value} {D : z_D} {H28 : Int64 → Int → z_D → Prop} {K : Bool → z_D → Prop} {T : Nat → z_D → Prop} (hH28 : ∀ (a1 : Int64) (a4 : Int) (o3 : Option Value) (o5 : Option Value) (D : z_D), z_nl o3 → z_nl o5 → H28 a1 a4 D → z_w n d (k_tb 20) X 28 [some (.ref 1), some (.long a1), none, o3, some (.int (z_i a4)), o5] [] D (z_qZ K T)) (n3 : z_nl o3) (n5 : z_nl o5) (h : w_dAppend_28 n d a1 a4 D H28 K T) : z_w n d (k_tb 20) X 28 [some (.ref 1), some (.long a1), none, o3, some (.int (z_i a4)), o5] [] D (z_qZ K T) := by
  unfold w_dAppend_28 at h
  refine zs_iload rfl rfl ?_
  obtain ⟨g1, h⟩ := h
  obtain ⟨h12, h13⟩ := h
  refine zs_iflt rfl g1 (fun c => ?_) (fun c => ?_)
  · have h := h12 c
    refine zs_pushI (1) rfl rfl ?_
    exact zs_zret (b := true) rfl h
  · have h := h13 c
    refine zs_lload rfl rfl ?_
    refine zs_iload rfl rfl ?_
    refine zs_li (b := a4) rfl ?_
    refine zs_l2 rfl ?_
    refine zs_pushI (255) rfl rfl ?_
    refine zs_and (a := (z_li (z_usr a1 a4))) (b := 255) rfl ?_
    refine zs_istore (ls1 := [some (.ref 1), some (.long a1), none, o3, some (.int (z_i a4)), some (.int (z_i (z_and (z_li (z_usr a1 a4)) 255)))]) rfl rfl rfl ?_
    refine zs_iload rfl rfl ?_
    obtain ⟨h10, h11⟩ := h
    refine zs_ifeq rfl (z_r_toInt _) (fun c => ?_) (fun c => ?_)
    · have h := h10 c
      refine zs_iinc (a := a4) (-8) (ls1 := [some (.ref 1), some (.long a1), none, o3, some (.int (z_i (a4 + (-8)))), some (.int (z_i (z_and (z_li (z_usr a1 a4)) 255)))]) rfl rfl rfl ((z_st1 rfl n3).trans rfl) ?_
      refine zs_goto rfl ?_
      exact hH28 _ _ _ _ _ (by first | assumption | exact trivial) (by first | assumption | exact trivial) h
    · have h := h11 c
      refine zs_aload rfl rfl ?_
      refine zs_getI rfl rfl ?_
      obtain ⟨g2, h⟩ := h
      obtain ⟨h8, h9⟩ := h
      refine zs_iflt rfl g2 (fun c => ?_) (fun c => ?_)
      · have h := h8 c
        refine zs_iinc (a := a4) (-8) (ls1 := [some (.ref 1), some (.long a1), none, o3, some (.int (z_i (a4 + (-8)))), some (.int (z_i (z_and (z_li (z_usr a1 a4)) 255)))]) rfl rfl rfl ((z_st1 rfl n3).trans rfl) ?_
        refine zs_goto rfl ?_
        exact hH28 _ _ _ _ _ (by first | assumption | exact trivial) (by first | assumption | exact trivial) h
      · have h := h9 c
        refine zs_aload rfl rfl ?_
        refine zs_getI rfl rfl ?_
        refine zs_aload rfl rfl ?_
        refine zs_getR (x := 2) rfl rfl rfl ?_
        refine zs_alenZ (160) rfl rfl rfl (by decide) ?_
        obtain ⟨h6, h7⟩ := h
        refine zs_cge rfl g2 (z_rk rfl) (fun c => ?_) (fun c => ?_)
        · have h := h6 c
          refine zs_iinc (a := a4) (-8) (ls1 := [some (.ref 1), some (.long a1), none, o3, some (.int (z_i (a4 + (-8)))), some (.int (z_i (z_and (z_li (z_usr a1 a4)) 255)))]) rfl rfl rfl ((z_st1 rfl n3).trans rfl) ?_
          refine zs_goto rfl ?_
          exact hH28 _ _ _ _ _ (by first | assumption | exact trivial) (by first | assumption | exact trivial) h
        · have h := h7 c
          refine zs_aload rfl rfl ?_
          refine zs_getR (x := 2) rfl rfl rfl ?_
          refine zs_aload rfl rfl ?_
          refine zs_getI rfl rfl ?_
          refine zs_iload rfl rfl ?_
          obtain ⟨g3, h⟩ := h
          refine zs_iast rfl rfl (by decide) g3 (fun D4 eD4 => ?_)
          have h := h D4 eD4
          refine zs_aload rfl rfl ?_
          refine zs_dup rfl rfl ?_
          refine zs_getI rfl rfl ?_
          refine zs_pushI (1) rfl rfl ?_
          refine zs_add (a := (D4.1 1 2)) (b := 1) rfl ?_
          refine zs_putI rfl rfl (fun D5 eD5 => ?_)
          have h := h D5 eD5
          refine zs_iinc (a := a4) (-8) (ls1 := [some (.ref 1), some (.long a1), none, o3, some (.int (z_i (a4 + (-8)))), some (.int (z_i (z_and (z_li (z_usr a1 a4)) 255)))]) rfl rfl rfl ((z_st1 rfl n3).trans rfl) ?_
          refine zs_goto rfl ?_
          exact hH28 _ _ _ _ _ (by first | assumption | exact trivial) (by first | assumption | exact trivial) h
theorem r_dAppend {n d : Nat} {a1 : Int64} {D : z_D} {K : Bool → z_D → Prop} {T : Nat → z_D → Prop}  (I28 : Nat → Int64 → Int → z_D → Prop) (hE : w_dAppend_0 n d a1 D (fun a1 a4 D => ∃ m, I28 m a1 a4 D) K T) (h28 : ∀ (mm : Nat) (a1 : Int64) (a4 : Int) (D : z_D), I28 mm a1 a4 D → w_dAppend_28 n d a1 a4 D (fun a1 a4 D => ∃ m, m < mm ∧ I28 m a1 a4 D) K T) : z_c n (d + 1) 20 [.ref 1, .long a1] D (z_qZ K T) := by
  refine z_enter (Nat.le_of_ble_eq_true rfl) rfl (fun X => ?_)
  have key : ∀ m, (∀ (a1 : Int64) (a4 : Int) (o3 : Option Value) (o5 : Option Value) (D : z_D), z_nl o3 → z_nl o5 → I28 m a1 a4 D → z_w n d (k_tb 20) X 28 [some (.ref 1), some (.long a1), none, o3, some (.int (z_i a4)), o5] [] D (z_qZ K T)) := by
    intro m
    induction m using Nat.strongRecOn with
    | _ mm ih =>
      exact fun a1 a4 o3 o5 D n3 n5 hI => v_dAppend_28 (fun a1 a4 o3 o5 D n3 n5 ⟨m, hm, hI⟩ => (ih m hm) _ _ _ _ _ n3 n5 hI) n3 n5 (h28 mm a1 a4 D hI)
  exact v_dAppend_0 (fun a1 a4 o3 o5 D n3 n5 ⟨m, hI⟩ => (key m) _ _ _ _ _ n3 n5 hI) hE
-- 21: TokenMouth$Reader.read()I
def w_dRead_0 (n d : Nat)  (D : z_D) (H2 : Int → z_D → Prop) (K : Int → z_D → Prop) (T : Nat → z_D → Prop) : Prop :=
  H2 0 D
theorem v_dRead_0 {n d : Nat} {X : z_Xt}   {D : z_D} {H2 : Int → z_D → Prop} {K : Int → z_D → Prop} {T : Nat → z_D → Prop} (hH2 : ∀ (a1 : Int) (o2 : Option Value) (o3 : Option Value) (o4 : Option Value) (o5 : Option Value) (D : z_D), z_nl o2 → z_nl o3 → z_nl o4 → z_nl o5 → H2 a1 D → z_w n d (k_tb 21) X 2 [some (.ref 1), some (.int (z_i a1)), o2, o3, o4, o5] [] D (z_qI K T)) (h : w_dRead_0 n d D H2 K T) : z_w n d (k_tb 21) X 0 [some (.ref 1), none, none, none, none, none] [] D (z_qI K T) := by
  unfold w_dRead_0 at h
  refine zs_pushI (0) rfl rfl ?_
  refine zs_istore (ls1 := [some (.ref 1), some (.int (z_i 0)), none, none, none, none]) rfl rfl rfl ?_
  exact hH2 _ _ _ _ _ _ (by first | assumption | exact trivial) (by first | assumption | exact trivial) (by first | assumption | exact trivial) (by first | assumption | exact trivial) h
def w_dRead_216 (n d : Nat) (a1 : Int) (a3 : Int) (a4 : Int) (D : z_D) (H2 : Int → z_D → Prop) (K : Int → z_D → Prop) (T : Nat → z_D → Prop) : Prop :=
  ∀ D1, D1 = z_uz D 1 3 0 →
  (z_r a3) ∧
  ((¬ a3 = 5) →
    H2 (a1 + 1) D1) ∧
  ((a3 = 5) →
    (z_r a4) ∧
    ((a4 = 2) →
      H2 (a1 + 1) D1) ∧
    ((¬ a4 = 2) →
      ((¬ a4 = 0) →
        K 2592 D1) ∧
      ((a4 = 0) →
        K 4096 D1)))
theorem v_dRead_216 {n d : Nat} {X : z_Xt} {a1 : Int} {a3 : Int} {a4 : Int} {o2 : Option Value} {o5 : Option Value} {D : z_D} {H2 : Int → z_D → Prop} {K : Int → z_D → Prop} {T : Nat → z_D → Prop} (hH2 : ∀ (a1 : Int) (o2 : Option Value) (o3 : Option Value) (o4 : Option Value) (o5 : Option Value) (D : z_D), z_nl o2 → z_nl o3 → z_nl o4 → z_nl o5 → H2 a1 D → z_w n d (k_tb 21) X 2 [some (.ref 1), some (.int (z_i a1)), o2, o3, o4, o5] [] D (z_qI K T)) (n2 : z_nl o2) (n5 : z_nl o5) (h : w_dRead_216 n d a1 a3 a4 D H2 K T) : z_w n d (k_tb 21) X 216 [some (.ref 1), some (.int (z_i a1)), o2, some (.int (z_i a3)), some (.int (z_i a4)), o5] [] D (z_qI K T) := by
  unfold w_dRead_216 at h
  refine zs_aload rfl rfl ?_
  refine zs_pushI (0) rfl rfl ?_
  refine zs_putI rfl rfl (fun D1 eD1 => ?_)
  have h := h D1 eD1
  refine zs_iload rfl rfl ?_
  refine zs_pushI (5) rfl rfl ?_
  obtain ⟨g2, h⟩ := h
  obtain ⟨h8, h9⟩ := h
  refine zs_cne rfl g2 (z_rk rfl) (fun c => ?_) (fun c => ?_)
  · have h := h8 c
    refine zs_iinc (a := a1) (1) (ls1 := [some (.ref 1), some (.int (z_i (a1 + 1))), o2, some (.int (z_i a3)), some (.int (z_i a4)), o5]) rfl rfl rfl rfl ?_
    refine zs_goto rfl ?_
    exact hH2 _ _ _ _ _ _ (by first | assumption | exact trivial) (by first | assumption | exact trivial) (by first | assumption | exact trivial) (by first | assumption | exact trivial) h
  · have h := h9 c
    refine zs_iload rfl rfl ?_
    refine zs_pushI (2) rfl rfl ?_
    obtain ⟨g3, h⟩ := h
    obtain ⟨h6, h7⟩ := h
    refine zs_ceq rfl g3 (z_rk rfl) (fun c => ?_) (fun c => ?_)
    · have h := h6 c
      refine zs_iinc (a := a1) (1) (ls1 := [some (.ref 1), some (.int (z_i (a1 + 1))), o2, some (.int (z_i a3)), some (.int (z_i a4)), o5]) rfl rfl rfl rfl ?_
      refine zs_goto rfl ?_
      exact hH2 _ _ _ _ _ _ (by first | assumption | exact trivial) (by first | assumption | exact trivial) (by first | assumption | exact trivial) (by first | assumption | exact trivial) h
    · have h := h7 c
      refine zs_iload rfl rfl ?_
      obtain ⟨h4, h5⟩ := h
      refine zs_ifne rfl g3 (fun c => ?_) (fun c => ?_)
      · have h := h4 c
        refine zs_pushI (2592) rfl rfl ?_
        exact zs_iret rfl h
      · have h := h5 c
        refine zs_pushI (4096) rfl rfl ?_
        refine zs_goto rfl ?_
        exact zs_iret rfl h
def w_dRead_2 (n d : Nat) (a1 : Int) (D : z_D) (H2 : Int → z_D → Prop) (H162 : Int → Int → Int → Int → z_D → Prop) (K : Int → z_D → Prop) (T : Nat → z_D → Prop) : Prop :=
  (z_r a1) ∧
  ((160 ≤ a1) →
    K (-1) D) ∧
  ((a1 < 160) →
    (z_r (D.1 1 4)) ∧
    (((D.1 1 4) < 0) →
      K (-1) D) ∧
    ((0 ≤ (D.1 1 4)) →
      (z_r (D.1 1 2)) ∧
      (((D.1 1 2) ≤ (D.1 1 4)) →
        K (-1) D) ∧
      (((D.1 1 4) < (D.1 1 2)) →
        ((160 ≤ (D.1 1 4)) →
          K (-1) D) ∧
        (((D.1 1 4) < 160) →
          (0 ≤ (D.1 1 4) ∧ (D.1 1 4) < 160) ∧
          ∀ D5, D5 = z_uz D 1 4 ((D.1 1 4) + 1) →
          (0 ≤ (z_and (D.1 2 (Int.toNat (D.1 1 4))) 127) ∧ (z_and (D.1 2 (Int.toNat (D.1 1 4))) 127) < 128) ∧
          (z_r (D5.1 3 (Int.toNat (z_and (D.1 2 (Int.toNat (D.1 1 4))) 127)))) ∧
          ((D5.1 3 (Int.toNat (z_and (D.1 2 (Int.toNat (D.1 1 4))) 127))) = 0 →
            K (-2) D5) ∧
          ((D5.1 3 (Int.toNat (z_and (D.1 2 (Int.toNat (D.1 1 4))) 127))) = 1 →
            ∀ D9, D9 = z_uz D5 1 3 1 →
            K ((D.1 2 (Int.toNat (D.1 1 4))) + (256 * (D5.1 3 (Int.toNat (z_and (D.1 2 (Int.toNat (D.1 1 4))) 127))))) D9) ∧
          ((D5.1 3 (Int.toNat (z_and (D.1 2 (Int.toNat (D.1 1 4))) 127))) = 2 →
            ∀ D11, D11 = z_uz D5 1 3 1 →
            K ((D.1 2 (Int.toNat (D.1 1 4))) + (256 * (D5.1 3 (Int.toNat (z_and (D.1 2 (Int.toNat (D.1 1 4))) 127))))) D11) ∧
          ((D5.1 3 (Int.toNat (z_and (D.1 2 (Int.toNat (D.1 1 4))) 127))) = 3 →
            ∀ D13, D13 = z_uz D5 1 3 1 →
            K ((D.1 2 (Int.toNat (D.1 1 4))) + (256 * (D5.1 3 (Int.toNat (z_and (D.1 2 (Int.toNat (D.1 1 4))) 127))))) D13) ∧
          ((D5.1 3 (Int.toNat (z_and (D.1 2 (Int.toNat (D.1 1 4))) 127))) = 4 →
            ∀ D15, D15 = z_uz D5 1 3 1 →
            K ((D.1 2 (Int.toNat (D.1 1 4))) + (256 * (D5.1 3 (Int.toNat (z_and (D.1 2 (Int.toNat (D.1 1 4))) 127))))) D15) ∧
          ((D5.1 3 (Int.toNat (z_and (D.1 2 (Int.toNat (D.1 1 4))) 127))) = 5 →
            H162 a1 (D5.1 3 (Int.toNat (z_and (D.1 2 (Int.toNat (D.1 1 4))) 127))) (D5.1 1 3) (D.1 2 (Int.toNat (D.1 1 4))) D5) ∧
          ((D5.1 3 (Int.toNat (z_and (D.1 2 (Int.toNat (D.1 1 4))) 127))) = 6 →
            ∀ D18, D18 = z_uz D5 1 3 1 →
            K ((D.1 2 (Int.toNat (D.1 1 4))) + (256 * (D5.1 3 (Int.toNat (z_and (D.1 2 (Int.toNat (D.1 1 4))) 127))))) D18) ∧
          ((D5.1 3 (Int.toNat (z_and (D.1 2 (Int.toNat (D.1 1 4))) 127))) = 7 →
            ∀ D20, D20 = z_uz D5 1 3 1 →
            K ((D.1 2 (Int.toNat (D.1 1 4))) + (256 * (D5.1 3 (Int.toNat (z_and (D.1 2 (Int.toNat (D.1 1 4))) 127))))) D20) ∧
          ((D5.1 3 (Int.toNat (z_and (D.1 2 (Int.toNat (D.1 1 4))) 127))) = 8 →
            ∀ D22, D22 = z_uz D5 1 3 1 →
            K ((D.1 2 (Int.toNat (D.1 1 4))) + (256 * (D5.1 3 (Int.toNat (z_and (D.1 2 (Int.toNat (D.1 1 4))) 127))))) D22) ∧
          ((D5.1 3 (Int.toNat (z_and (D.1 2 (Int.toNat (D.1 1 4))) 127))) = 9 →
            H2 (a1 + 1) D5) ∧
          ((D5.1 3 (Int.toNat (z_and (D.1 2 (Int.toNat (D.1 1 4))) 127))) = 10 →
            (z_r (D5.1 1 3)) ∧
            ((¬ (D5.1 1 3) = 1) →
              H2 (a1 + 1) D5) ∧
            (((D5.1 1 3) = 1) →
              ∀ D26, D26 = z_uz D5 1 3 2 →
              K 2592 D26)) ∧
          ((D5.1 3 (Int.toNat (z_and (D.1 2 (Int.toNat (D.1 1 4))) 127))) = 11 →
            ∀ D30, D30 = z_uz D5 1 3 1 →
            K ((D.1 2 (Int.toNat (D.1 1 4))) + (256 * (D5.1 3 (Int.toNat (z_and (D.1 2 (Int.toNat (D.1 1 4))) 127))))) D30) ∧
          ((D5.1 3 (Int.toNat (z_and (D.1 2 (Int.toNat (D.1 1 4))) 127))) = 12 →
            ∀ D32, D32 = z_uz D5 1 3 1 →
            K ((D.1 2 (Int.toNat (D.1 1 4))) + (256 * (D5.1 3 (Int.toNat (z_and (D.1 2 (Int.toNat (D.1 1 4))) 127))))) D32) ∧
          ((D5.1 3 (Int.toNat (z_and (D.1 2 (Int.toNat (D.1 1 4))) 127))) = 13 →
            ∀ D34, D34 = z_uz D5 1 3 1 →
            ∀ D35, D35 = z_ul D34 1 6 (z_il (D.1 2 (Int.toNat (D.1 1 4)))) →
            ∀ D36, D36 = z_ul D35 1 7 (-1) →
            K (-3) D36) ∧
          ((D5.1 3 (Int.toNat (z_and (D.1 2 (Int.toNat (D.1 1 4))) 127))) = 14 →
            H162 a1 (D5.1 3 (Int.toNat (z_and (D.1 2 (Int.toNat (D.1 1 4))) 127))) (D5.1 1 3) (D.1 2 (Int.toNat (D.1 1 4))) D5) ∧
          ((D5.1 3 (Int.toNat (z_and (D.1 2 (Int.toNat (D.1 1 4))) 127))) = 15 →
            ∀ D39, D39 = z_uz D5 1 5 8 →
            K (-1) D39) ∧
          (¬ (D5.1 3 (Int.toNat (z_and (D.1 2 (Int.toNat (D.1 1 4))) 127))) = 0 → ¬ (D5.1 3 (Int.toNat (z_and (D.1 2 (Int.toNat (D.1 1 4))) 127))) = 1 → ¬ (D5.1 3 (Int.toNat (z_and (D.1 2 (Int.toNat (D.1 1 4))) 127))) = 2 → ¬ (D5.1 3 (Int.toNat (z_and (D.1 2 (Int.toNat (D.1 1 4))) 127))) = 3 → ¬ (D5.1 3 (Int.toNat (z_and (D.1 2 (Int.toNat (D.1 1 4))) 127))) = 4 → ¬ (D5.1 3 (Int.toNat (z_and (D.1 2 (Int.toNat (D.1 1 4))) 127))) = 5 → ¬ (D5.1 3 (Int.toNat (z_and (D.1 2 (Int.toNat (D.1 1 4))) 127))) = 6 → ¬ (D5.1 3 (Int.toNat (z_and (D.1 2 (Int.toNat (D.1 1 4))) 127))) = 7 → ¬ (D5.1 3 (Int.toNat (z_and (D.1 2 (Int.toNat (D.1 1 4))) 127))) = 8 → ¬ (D5.1 3 (Int.toNat (z_and (D.1 2 (Int.toNat (D.1 1 4))) 127))) = 9 → ¬ (D5.1 3 (Int.toNat (z_and (D.1 2 (Int.toNat (D.1 1 4))) 127))) = 10 → ¬ (D5.1 3 (Int.toNat (z_and (D.1 2 (Int.toNat (D.1 1 4))) 127))) = 11 → ¬ (D5.1 3 (Int.toNat (z_and (D.1 2 (Int.toNat (D.1 1 4))) 127))) = 12 → ¬ (D5.1 3 (Int.toNat (z_and (D.1 2 (Int.toNat (D.1 1 4))) 127))) = 13 → ¬ (D5.1 3 (Int.toNat (z_and (D.1 2 (Int.toNat (D.1 1 4))) 127))) = 14 → ¬ (D5.1 3 (Int.toNat (z_and (D.1 2 (Int.toNat (D.1 1 4))) 127))) = 15 →
            ∀ D41, D41 = z_uz D5 1 3 1 →
            K ((D.1 2 (Int.toNat (D.1 1 4))) + (256 * (D5.1 3 (Int.toNat (z_and (D.1 2 (Int.toNat (D.1 1 4))) 127))))) D41)))))
theorem v_dRead_2 {n d : Nat} {X : z_Xt} {a1 : Int} {o2 : Option Value} {o3 : Option Value} {o4 : Option Value} {o5 : Option Value} {D : z_D} {H2 : Int → z_D → Prop} {H162 : Int → Int → Int → Int → z_D → Prop} {K : Int → z_D → Prop} {T : Nat → z_D → Prop} (hH2 : ∀ (a1 : Int) (o2 : Option Value) (o3 : Option Value) (o4 : Option Value) (o5 : Option Value) (D : z_D), z_nl o2 → z_nl o3 → z_nl o4 → z_nl o5 → H2 a1 D → z_w n d (k_tb 21) X 2 [some (.ref 1), some (.int (z_i a1)), o2, o3, o4, o5] [] D (z_qI K T)) (hH162 : ∀ (a1 : Int) (a3 : Int) (a4 : Int) (a5 : Int) (o2 : Option Value) (D : z_D), z_nl o2 → H162 a1 a3 a4 a5 D → z_w n d (k_tb 21) X 162 [some (.ref 1), some (.int (z_i a1)), o2, some (.int (z_i a3)), some (.int (z_i a4)), some (.int (z_i a5))] [] D (z_qI K T)) (n2 : z_nl o2) (n3 : z_nl o3) (n4 : z_nl o4) (n5 : z_nl o5) (h : w_dRead_2 n d a1 D H2 H162 K T) : z_w n d (k_tb 21) X 2 [some (.ref 1), some (.int (z_i a1)), o2, o3, o4, o5] [] D (z_qI K T) := by
  unfold w_dRead_2 at h
  refine zs_iload rfl rfl ?_
  refine zs_pushI (160) rfl rfl ?_
  obtain ⟨g1, h⟩ := h
  obtain ⟨h65, h66⟩ := h
  refine zs_cge rfl g1 (z_rk rfl) (fun c => ?_) (fun c => ?_)
  · have h := h65 c
    refine zs_pushI (-1) rfl rfl ?_
    exact zs_iret rfl h
  · have h := h66 c
    refine zs_aload rfl rfl ?_
    refine zs_getI rfl rfl ?_
    obtain ⟨g2, h⟩ := h
    obtain ⟨h63, h64⟩ := h
    refine zs_iflt rfl g2 (fun c => ?_) (fun c => ?_)
    · have h := h63 c
      refine zs_pushI (-1) rfl rfl ?_
      exact zs_iret rfl h
    · have h := h64 c
      refine zs_aload rfl rfl ?_
      refine zs_getI rfl rfl ?_
      refine zs_aload rfl rfl ?_
      refine zs_getI rfl rfl ?_
      obtain ⟨g3, h⟩ := h
      obtain ⟨h61, h62⟩ := h
      refine zs_cge rfl g2 g3 (fun c => ?_) (fun c => ?_)
      · have h := h61 c
        refine zs_pushI (-1) rfl rfl ?_
        exact zs_iret rfl h
      · have h := h62 c
        refine zs_aload rfl rfl ?_
        refine zs_getI rfl rfl ?_
        refine zs_aload rfl rfl ?_
        refine zs_getR (x := 2) rfl rfl rfl ?_
        refine zs_alenZ (160) rfl rfl rfl (by decide) ?_
        obtain ⟨h59, h60⟩ := h
        refine zs_cge rfl g2 (z_rk rfl) (fun c => ?_) (fun c => ?_)
        · have h := h59 c
          refine zs_pushI (-1) rfl rfl ?_
          exact zs_iret rfl h
        · have h := h60 c
          refine zs_aload rfl rfl ?_
          refine zs_getR (x := 2) rfl rfl rfl ?_
          refine zs_aload rfl rfl ?_
          refine zs_getI rfl rfl ?_
          obtain ⟨g4, h⟩ := h
          refine zs_iald rfl rfl (by decide) g4 ?_
          refine zs_istore (ls1 := [some (.ref 1), some (.int (z_i a1)), some (.int (z_i (D.1 2 (Int.toNat (D.1 1 4))))), o3, o4, o5]) rfl rfl rfl ?_
          refine zs_aload rfl rfl ?_
          refine zs_dup rfl rfl ?_
          refine zs_getI rfl rfl ?_
          refine zs_pushI (1) rfl rfl ?_
          refine zs_add (a := (D.1 1 4)) (b := 1) rfl ?_
          refine zs_putI rfl rfl (fun D5 eD5 => ?_)
          have h := h D5 eD5
          refine zs_aload rfl rfl ?_
          refine zs_getR (x := 3) rfl rfl rfl ?_
          refine zs_iload rfl rfl ?_
          refine zs_pushI (127) rfl rfl ?_
          refine zs_and (a := (D.1 2 (Int.toNat (D.1 1 4)))) (b := 127) rfl ?_
          obtain ⟨g6, h⟩ := h
          refine zs_iald rfl rfl (by decide) g6 ?_
          refine zs_istore (ls1 := [some (.ref 1), some (.int (z_i a1)), some (.int (z_i (D.1 2 (Int.toNat (D.1 1 4))))), some (.int (z_i (D5.1 3 (Int.toNat (z_and (D.1 2 (Int.toNat (D.1 1 4))) 127))))), o4, o5]) rfl rfl rfl ?_
          refine zs_aload rfl rfl ?_
          refine zs_getI rfl rfl ?_
          refine zs_istore (ls1 := [some (.ref 1), some (.int (z_i a1)), some (.int (z_i (D.1 2 (Int.toNat (D.1 1 4))))), some (.int (z_i (D5.1 3 (Int.toNat (z_and (D.1 2 (Int.toNat (D.1 1 4))) 127))))), some (.int (z_i (D5.1 1 3))), o5]) rfl rfl rfl ?_
          refine zs_iload rfl rfl ?_
          obtain ⟨g7, h⟩ := h
          obtain ⟨h8, h10, h12, h14, h16, h17, h19, h21, h23, h24, h29, h31, h33, h37, h38, h40, h42⟩ := h
          refine zw_s rfl rfl ?_
          refine z_sw1 g7 (z_rk (z := 0) rfl) rfl (fun c => ?_) (fun e43 => ?_)
          · have h := h8 c
            refine zs_pushI (-2) rfl rfl ?_
            exact zs_iret rfl h
          refine z_sw1 g7 (z_rk (z := 1) rfl) rfl (fun c => ?_) (fun e44 => ?_)
          · have h := h10 c
            refine zs_aload rfl rfl ?_
            refine zs_pushI (1) rfl rfl ?_
            refine zs_putI rfl rfl (fun D9 eD9 => ?_)
            have h := h D9 eD9
            refine zs_iload rfl rfl ?_
            refine zs_pushI (256) rfl rfl ?_
            refine zs_iload rfl rfl ?_
            refine zs_mul (a := 256) (b := (D5.1 3 (Int.toNat (z_and (D.1 2 (Int.toNat (D.1 1 4))) 127)))) rfl ?_
            refine zs_add (a := (D.1 2 (Int.toNat (D.1 1 4)))) (b := (256 * (D5.1 3 (Int.toNat (z_and (D.1 2 (Int.toNat (D.1 1 4))) 127))))) rfl ?_
            exact zs_iret rfl h
          refine z_sw1 g7 (z_rk (z := 2) rfl) rfl (fun c => ?_) (fun e45 => ?_)
          · have h := h12 c
            refine zs_aload rfl rfl ?_
            refine zs_pushI (1) rfl rfl ?_
            refine zs_putI rfl rfl (fun D11 eD11 => ?_)
            have h := h D11 eD11
            refine zs_iload rfl rfl ?_
            refine zs_pushI (256) rfl rfl ?_
            refine zs_iload rfl rfl ?_
            refine zs_mul (a := 256) (b := (D5.1 3 (Int.toNat (z_and (D.1 2 (Int.toNat (D.1 1 4))) 127)))) rfl ?_
            refine zs_add (a := (D.1 2 (Int.toNat (D.1 1 4)))) (b := (256 * (D5.1 3 (Int.toNat (z_and (D.1 2 (Int.toNat (D.1 1 4))) 127))))) rfl ?_
            exact zs_iret rfl h
          refine z_sw1 g7 (z_rk (z := 3) rfl) rfl (fun c => ?_) (fun e46 => ?_)
          · have h := h14 c
            refine zs_aload rfl rfl ?_
            refine zs_pushI (1) rfl rfl ?_
            refine zs_putI rfl rfl (fun D13 eD13 => ?_)
            have h := h D13 eD13
            refine zs_iload rfl rfl ?_
            refine zs_pushI (256) rfl rfl ?_
            refine zs_iload rfl rfl ?_
            refine zs_mul (a := 256) (b := (D5.1 3 (Int.toNat (z_and (D.1 2 (Int.toNat (D.1 1 4))) 127)))) rfl ?_
            refine zs_add (a := (D.1 2 (Int.toNat (D.1 1 4)))) (b := (256 * (D5.1 3 (Int.toNat (z_and (D.1 2 (Int.toNat (D.1 1 4))) 127))))) rfl ?_
            exact zs_iret rfl h
          refine z_sw1 g7 (z_rk (z := 4) rfl) rfl (fun c => ?_) (fun e47 => ?_)
          · have h := h16 c
            refine zs_aload rfl rfl ?_
            refine zs_pushI (1) rfl rfl ?_
            refine zs_putI rfl rfl (fun D15 eD15 => ?_)
            have h := h D15 eD15
            refine zs_iload rfl rfl ?_
            refine zs_pushI (256) rfl rfl ?_
            refine zs_iload rfl rfl ?_
            refine zs_mul (a := 256) (b := (D5.1 3 (Int.toNat (z_and (D.1 2 (Int.toNat (D.1 1 4))) 127)))) rfl ?_
            refine zs_add (a := (D.1 2 (Int.toNat (D.1 1 4)))) (b := (256 * (D5.1 3 (Int.toNat (z_and (D.1 2 (Int.toNat (D.1 1 4))) 127))))) rfl ?_
            exact zs_iret rfl h
          refine z_sw1 g7 (z_rk (z := 5) rfl) rfl (fun c => ?_) (fun e48 => ?_)
          · have h := h17 c
            refine zs_iload rfl rfl ?_
            refine zs_istore (ls1 := [some (.ref 1), some (.int (z_i a1)), some (.int (z_i (D.1 2 (Int.toNat (D.1 1 4))))), some (.int (z_i (D5.1 3 (Int.toNat (z_and (D.1 2 (Int.toNat (D.1 1 4))) 127))))), some (.int (z_i (D5.1 1 3))), some (.int (z_i (D.1 2 (Int.toNat (D.1 1 4)))))]) rfl rfl rfl ?_
            exact hH162 _ _ _ _ _ _ (by first | assumption | exact trivial) h
          refine z_sw1 g7 (z_rk (z := 6) rfl) rfl (fun c => ?_) (fun e49 => ?_)
          · have h := h19 c
            refine zs_aload rfl rfl ?_
            refine zs_pushI (1) rfl rfl ?_
            refine zs_putI rfl rfl (fun D18 eD18 => ?_)
            have h := h D18 eD18
            refine zs_iload rfl rfl ?_
            refine zs_pushI (256) rfl rfl ?_
            refine zs_iload rfl rfl ?_
            refine zs_mul (a := 256) (b := (D5.1 3 (Int.toNat (z_and (D.1 2 (Int.toNat (D.1 1 4))) 127)))) rfl ?_
            refine zs_add (a := (D.1 2 (Int.toNat (D.1 1 4)))) (b := (256 * (D5.1 3 (Int.toNat (z_and (D.1 2 (Int.toNat (D.1 1 4))) 127))))) rfl ?_
            exact zs_iret rfl h
          refine z_sw1 g7 (z_rk (z := 7) rfl) rfl (fun c => ?_) (fun e50 => ?_)
          · have h := h21 c
            refine zs_aload rfl rfl ?_
            refine zs_pushI (1) rfl rfl ?_
            refine zs_putI rfl rfl (fun D20 eD20 => ?_)
            have h := h D20 eD20
            refine zs_iload rfl rfl ?_
            refine zs_pushI (256) rfl rfl ?_
            refine zs_iload rfl rfl ?_
            refine zs_mul (a := 256) (b := (D5.1 3 (Int.toNat (z_and (D.1 2 (Int.toNat (D.1 1 4))) 127)))) rfl ?_
            refine zs_add (a := (D.1 2 (Int.toNat (D.1 1 4)))) (b := (256 * (D5.1 3 (Int.toNat (z_and (D.1 2 (Int.toNat (D.1 1 4))) 127))))) rfl ?_
            exact zs_iret rfl h
          refine z_sw1 g7 (z_rk (z := 8) rfl) rfl (fun c => ?_) (fun e51 => ?_)
          · have h := h23 c
            refine zs_aload rfl rfl ?_
            refine zs_pushI (1) rfl rfl ?_
            refine zs_putI rfl rfl (fun D22 eD22 => ?_)
            have h := h D22 eD22
            refine zs_iload rfl rfl ?_
            refine zs_pushI (256) rfl rfl ?_
            refine zs_iload rfl rfl ?_
            refine zs_mul (a := 256) (b := (D5.1 3 (Int.toNat (z_and (D.1 2 (Int.toNat (D.1 1 4))) 127)))) rfl ?_
            refine zs_add (a := (D.1 2 (Int.toNat (D.1 1 4)))) (b := (256 * (D5.1 3 (Int.toNat (z_and (D.1 2 (Int.toNat (D.1 1 4))) 127))))) rfl ?_
            exact zs_iret rfl h
          refine z_sw1 g7 (z_rk (z := 9) rfl) rfl (fun c => ?_) (fun e52 => ?_)
          · have h := h24 c
            refine zs_goto rfl ?_
            refine zs_iinc (a := a1) (1) (ls1 := [some (.ref 1), some (.int (z_i (a1 + 1))), some (.int (z_i (D.1 2 (Int.toNat (D.1 1 4))))), some (.int (z_i (D5.1 3 (Int.toNat (z_and (D.1 2 (Int.toNat (D.1 1 4))) 127))))), some (.int (z_i (D5.1 1 3))), o5]) rfl rfl rfl rfl ?_
            refine zs_goto rfl ?_
            exact hH2 _ _ _ _ _ _ (by first | assumption | exact trivial) (by first | assumption | exact trivial) (by first | assumption | exact trivial) (by first | assumption | exact trivial) h
          refine z_sw1 g7 (z_rk (z := 10) rfl) rfl (fun c => ?_) (fun e53 => ?_)
          · have h := h29 c
            refine zs_iload rfl rfl ?_
            refine zs_pushI (1) rfl rfl ?_
            obtain ⟨g25, h⟩ := h
            obtain ⟨h27, h28⟩ := h
            refine zs_cne rfl g25 (z_rk rfl) (fun c => ?_) (fun c => ?_)
            · have h := h27 c
              refine zs_iinc (a := a1) (1) (ls1 := [some (.ref 1), some (.int (z_i (a1 + 1))), some (.int (z_i (D.1 2 (Int.toNat (D.1 1 4))))), some (.int (z_i (D5.1 3 (Int.toNat (z_and (D.1 2 (Int.toNat (D.1 1 4))) 127))))), some (.int (z_i (D5.1 1 3))), o5]) rfl rfl rfl rfl ?_
              refine zs_goto rfl ?_
              exact hH2 _ _ _ _ _ _ (by first | assumption | exact trivial) (by first | assumption | exact trivial) (by first | assumption | exact trivial) (by first | assumption | exact trivial) h
            · have h := h28 c
              refine zs_aload rfl rfl ?_
              refine zs_pushI (2) rfl rfl ?_
              refine zs_putI rfl rfl (fun D26 eD26 => ?_)
              have h := h D26 eD26
              refine zs_pushI (2592) rfl rfl ?_
              exact zs_iret rfl h
          refine z_sw1 g7 (z_rk (z := 11) rfl) rfl (fun c => ?_) (fun e54 => ?_)
          · have h := h31 c
            refine zs_aload rfl rfl ?_
            refine zs_pushI (1) rfl rfl ?_
            refine zs_putI rfl rfl (fun D30 eD30 => ?_)
            have h := h D30 eD30
            refine zs_iload rfl rfl ?_
            refine zs_pushI (256) rfl rfl ?_
            refine zs_iload rfl rfl ?_
            refine zs_mul (a := 256) (b := (D5.1 3 (Int.toNat (z_and (D.1 2 (Int.toNat (D.1 1 4))) 127)))) rfl ?_
            refine zs_add (a := (D.1 2 (Int.toNat (D.1 1 4)))) (b := (256 * (D5.1 3 (Int.toNat (z_and (D.1 2 (Int.toNat (D.1 1 4))) 127))))) rfl ?_
            exact zs_iret rfl h
          refine z_sw1 g7 (z_rk (z := 12) rfl) rfl (fun c => ?_) (fun e55 => ?_)
          · have h := h33 c
            refine zs_aload rfl rfl ?_
            refine zs_pushI (1) rfl rfl ?_
            refine zs_putI rfl rfl (fun D32 eD32 => ?_)
            have h := h D32 eD32
            refine zs_iload rfl rfl ?_
            refine zs_pushI (256) rfl rfl ?_
            refine zs_iload rfl rfl ?_
            refine zs_mul (a := 256) (b := (D5.1 3 (Int.toNat (z_and (D.1 2 (Int.toNat (D.1 1 4))) 127)))) rfl ?_
            refine zs_add (a := (D.1 2 (Int.toNat (D.1 1 4)))) (b := (256 * (D5.1 3 (Int.toNat (z_and (D.1 2 (Int.toNat (D.1 1 4))) 127))))) rfl ?_
            exact zs_iret rfl h
          refine z_sw1 g7 (z_rk (z := 13) rfl) rfl (fun c => ?_) (fun e56 => ?_)
          · have h := h37 c
            refine zs_aload rfl rfl ?_
            refine zs_pushI (1) rfl rfl ?_
            refine zs_putI rfl rfl (fun D34 eD34 => ?_)
            have h := h D34 eD34
            refine zs_aload rfl rfl ?_
            refine zs_iload rfl rfl ?_
            refine zs_il (a := (D.1 2 (Int.toNat (D.1 1 4)))) rfl ?_
            refine zs_putL rfl rfl (fun D35 eD35 => ?_)
            have h := h D35 eD35
            refine zs_aload rfl rfl ?_
            refine zs_push rfl ?_
            refine zs_putL rfl rfl (fun D36 eD36 => ?_)
            have h := h D36 eD36
            refine zs_pushI (-3) rfl rfl ?_
            exact zs_iret rfl h
          refine z_sw1 g7 (z_rk (z := 14) rfl) rfl (fun c => ?_) (fun e57 => ?_)
          · have h := h38 c
            refine zs_iload rfl rfl ?_
            refine zs_istore (ls1 := [some (.ref 1), some (.int (z_i a1)), some (.int (z_i (D.1 2 (Int.toNat (D.1 1 4))))), some (.int (z_i (D5.1 3 (Int.toNat (z_and (D.1 2 (Int.toNat (D.1 1 4))) 127))))), some (.int (z_i (D5.1 1 3))), some (.int (z_i (D.1 2 (Int.toNat (D.1 1 4)))))]) rfl rfl rfl ?_
            exact hH162 _ _ _ _ _ _ (by first | assumption | exact trivial) h
          refine z_sw1 g7 (z_rk (z := 15) rfl) rfl (fun c => ?_) (fun e58 => ?_)
          · have h := h40 c
            refine zs_aload rfl rfl ?_
            refine zs_pushI (8) rfl rfl ?_
            refine zs_putI rfl rfl (fun D39 eD39 => ?_)
            have h := h D39 eD39
            refine zs_pushI (-1) rfl rfl ?_
            exact zs_iret rfl h
          refine z_sw0 ?_
          have h := h42 e43 e44 e45 e46 e47 e48 e49 e50 e51 e52 e53 e54 e55 e56 e57 e58
          refine zs_aload rfl rfl ?_
          refine zs_pushI (1) rfl rfl ?_
          refine zs_putI rfl rfl (fun D41 eD41 => ?_)
          have h := h D41 eD41
          refine zs_iload rfl rfl ?_
          refine zs_pushI (256) rfl rfl ?_
          refine zs_iload rfl rfl ?_
          refine zs_mul (a := 256) (b := (D5.1 3 (Int.toNat (z_and (D.1 2 (Int.toNat (D.1 1 4))) 127)))) rfl ?_
          refine zs_add (a := (D.1 2 (Int.toNat (D.1 1 4)))) (b := (256 * (D5.1 3 (Int.toNat (z_and (D.1 2 (Int.toNat (D.1 1 4))) 127))))) rfl ?_
          exact zs_iret rfl h
def w_dRead_162 (n d : Nat) (a1 : Int) (a3 : Int) (a4 : Int) (a5 : Int) (D : z_D) (H2 : Int → z_D → Prop) (H162 : Int → Int → Int → Int → z_D → Prop) (K : Int → z_D → Prop) (T : Nat → z_D → Prop) : Prop :=
  (z_r a5) ∧
  ((a5 = 10) →
    w_dRead_216 n d a1 a3 a4 D H2 K T) ∧
  ((¬ a5 = 10) →
    (z_r (D.1 1 4)) ∧ (z_r (D.1 1 2)) ∧
    (((D.1 1 2) ≤ (D.1 1 4)) →
      w_dRead_216 n d a1 a3 a4 D H2 K T) ∧
    (((D.1 1 4) < (D.1 1 2)) →
      ((160 ≤ (D.1 1 4)) →
        w_dRead_216 n d a1 a3 a4 D H2 K T) ∧
      (((D.1 1 4) < 160) →
        (0 ≤ (D.1 1 4) ∧ (D.1 1 4) < 160) ∧
        ∀ D5, D5 = z_uz D 1 4 ((D.1 1 4) + 1) →
        H162 a1 a3 a4 (D.1 2 (Int.toNat (D.1 1 4))) D5)))
theorem v_dRead_162 {n d : Nat} {X : z_Xt} {a1 : Int} {a3 : Int} {a4 : Int} {a5 : Int} {o2 : Option Value} {D : z_D} {H2 : Int → z_D → Prop} {H162 : Int → Int → Int → Int → z_D → Prop} {K : Int → z_D → Prop} {T : Nat → z_D → Prop} (hH2 : ∀ (a1 : Int) (o2 : Option Value) (o3 : Option Value) (o4 : Option Value) (o5 : Option Value) (D : z_D), z_nl o2 → z_nl o3 → z_nl o4 → z_nl o5 → H2 a1 D → z_w n d (k_tb 21) X 2 [some (.ref 1), some (.int (z_i a1)), o2, o3, o4, o5] [] D (z_qI K T)) (hH162 : ∀ (a1 : Int) (a3 : Int) (a4 : Int) (a5 : Int) (o2 : Option Value) (D : z_D), z_nl o2 → H162 a1 a3 a4 a5 D → z_w n d (k_tb 21) X 162 [some (.ref 1), some (.int (z_i a1)), o2, some (.int (z_i a3)), some (.int (z_i a4)), some (.int (z_i a5))] [] D (z_qI K T)) (n2 : z_nl o2) (h : w_dRead_162 n d a1 a3 a4 a5 D H2 H162 K T) : z_w n d (k_tb 21) X 162 [some (.ref 1), some (.int (z_i a1)), o2, some (.int (z_i a3)), some (.int (z_i a4)), some (.int (z_i a5))] [] D (z_qI K T) := by
  unfold w_dRead_162 at h
  refine zs_iload rfl rfl ?_
  refine zs_pushI (10) rfl rfl ?_
  obtain ⟨g1, h⟩ := h
  obtain ⟨h10, h11⟩ := h
  refine zs_ceq rfl g1 (z_rk rfl) (fun c => ?_) (fun c => ?_)
  · have h := h10 c
    exact v_dRead_216 hH2 (by first | assumption | exact trivial) (by first | assumption | exact trivial) h
  · have h := h11 c
    refine zs_aload rfl rfl ?_
    refine zs_getI rfl rfl ?_
    refine zs_aload rfl rfl ?_
    refine zs_getI rfl rfl ?_
    obtain ⟨g2, g3, h⟩ := h
    obtain ⟨h8, h9⟩ := h
    refine zs_cge rfl g2 g3 (fun c => ?_) (fun c => ?_)
    · have h := h8 c
      exact v_dRead_216 hH2 (by first | assumption | exact trivial) (by first | assumption | exact trivial) h
    · have h := h9 c
      refine zs_aload rfl rfl ?_
      refine zs_getI rfl rfl ?_
      refine zs_aload rfl rfl ?_
      refine zs_getR (x := 2) rfl rfl rfl ?_
      refine zs_alenZ (160) rfl rfl rfl (by decide) ?_
      obtain ⟨h6, h7⟩ := h
      refine zs_cge rfl g2 (z_rk rfl) (fun c => ?_) (fun c => ?_)
      · have h := h6 c
        exact v_dRead_216 hH2 (by first | assumption | exact trivial) (by first | assumption | exact trivial) h
      · have h := h7 c
        refine zs_aload rfl rfl ?_
        refine zs_getR (x := 2) rfl rfl rfl ?_
        refine zs_aload rfl rfl ?_
        refine zs_getI rfl rfl ?_
        obtain ⟨g4, h⟩ := h
        refine zs_iald rfl rfl (by decide) g4 ?_
        refine zs_istore (ls1 := [some (.ref 1), some (.int (z_i a1)), o2, some (.int (z_i a3)), some (.int (z_i a4)), some (.int (z_i (D.1 2 (Int.toNat (D.1 1 4)))))]) rfl rfl rfl ?_
        refine zs_aload rfl rfl ?_
        refine zs_dup rfl rfl ?_
        refine zs_getI rfl rfl ?_
        refine zs_pushI (1) rfl rfl ?_
        refine zs_add (a := (D.1 1 4)) (b := 1) rfl ?_
        refine zs_putI rfl rfl (fun D5 eD5 => ?_)
        have h := h D5 eD5
        refine zs_goto rfl ?_
        exact hH162 _ _ _ _ _ _ (by first | assumption | exact trivial) h
theorem r_dRead {n d : Nat}  {D : z_D} {K : Int → z_D → Prop} {T : Nat → z_D → Prop}  (I2 : Nat → Int → z_D → Prop) (I162 : Nat → Int → Int → Int → Int → z_D → Prop) (hE : w_dRead_0 n d D (fun a1 D => ∃ m, I2 m a1 D) K T) (h2 : ∀ (mm : Nat) (a1 : Int) (D : z_D), I2 mm a1 D → w_dRead_2 n d a1 D (fun a1 D => ∃ m, m < mm ∧ I2 m a1 D) (fun a1 a3 a4 a5 D => ∃ m, m < mm ∧ I162 m a1 a3 a4 a5 D) K T) (h162 : ∀ (mm : Nat) (a1 : Int) (a3 : Int) (a4 : Int) (a5 : Int) (D : z_D), I162 mm a1 a3 a4 a5 D → w_dRead_162 n d a1 a3 a4 a5 D (fun a1 D => ∃ m, m < mm ∧ I2 m a1 D) (fun a1 a3 a4 a5 D => ∃ m, m < mm ∧ I162 m a1 a3 a4 a5 D) K T) : z_c n (d + 1) 21 [.ref 1] D (z_qI K T) := by
  refine z_enter (Nat.le_of_ble_eq_true rfl) rfl (fun X => ?_)
  have key : ∀ m, (∀ (a1 : Int) (o2 : Option Value) (o3 : Option Value) (o4 : Option Value) (o5 : Option Value) (D : z_D), z_nl o2 → z_nl o3 → z_nl o4 → z_nl o5 → I2 m a1 D → z_w n d (k_tb 21) X 2 [some (.ref 1), some (.int (z_i a1)), o2, o3, o4, o5] [] D (z_qI K T)) ∧ (∀ (a1 : Int) (a3 : Int) (a4 : Int) (a5 : Int) (o2 : Option Value) (D : z_D), z_nl o2 → I162 m a1 a3 a4 a5 D → z_w n d (k_tb 21) X 162 [some (.ref 1), some (.int (z_i a1)), o2, some (.int (z_i a3)), some (.int (z_i a4)), some (.int (z_i a5))] [] D (z_qI K T)) := by
    intro m
    induction m using Nat.strongRecOn with
    | _ mm ih =>
      exact ⟨fun a1 o2 o3 o4 o5 D n2 n3 n4 n5 hI => v_dRead_2 (fun a1 o2 o3 o4 o5 D n2 n3 n4 n5 ⟨m, hm, hI⟩ => (ih m hm).1 _ _ _ _ _ _ n2 n3 n4 n5 hI) (fun a1 a3 a4 a5 o2 D n2 ⟨m, hm, hI⟩ => (ih m hm).2 _ _ _ _ _ _ n2 hI) n2 n3 n4 n5 (h2 mm a1 D hI), fun a1 a3 a4 a5 o2 D n2 hI => v_dRead_162 (fun a1 o2 o3 o4 o5 D n2 n3 n4 n5 ⟨m, hm, hI⟩ => (ih m hm).1 _ _ _ _ _ _ n2 n3 n4 n5 hI) (fun a1 a3 a4 a5 o2 D n2 ⟨m, hm, hI⟩ => (ih m hm).2 _ _ _ _ _ _ n2 hI) n2 (h162 mm a1 a3 a4 a5 D hI)⟩
  exact v_dRead_0 (fun a1 o2 o3 o4 o5 D n2 n3 n4 n5 ⟨m, hI⟩ => (key m).1 _ _ _ _ _ _ n2 n3 n4 n5 hI) hE
-- 22: TokenMouth$Reader.readName()I
def w_dReadName_102 (n d : Nat) (a1 : Int) (s1 : Int) (D : z_D) (H116 : Int → z_D → Prop) (K : Int → z_D → Prop) (T : Nat → z_D → Prop) : Prop :=
  ∀ D1, D1 = z_uz D 1 3 s1 →
  (z_r a1) ∧
  ((a1 = 11) →
    H116 1 D1) ∧
  ((¬ a1 = 11) →
    K (-3) D1)
theorem v_dReadName_102 {n d : Nat} {X : z_Xt} {a1 : Int} {s1 : Int}  {D : z_D} {H116 : Int → z_D → Prop} {K : Int → z_D → Prop} {T : Nat → z_D → Prop} (hH116 : ∀ (a2 : Int) (o1 : Option Value) (o3 : Option Value) (D : z_D), z_nl o1 → z_nl o3 → H116 a2 D → z_w n d (k_tb 22) X 116 [some (.ref 1), o1, some (.int (z_i a2)), o3] [] D (z_qI K T)) (h : w_dReadName_102 n d a1 s1 D H116 K T) : z_w n d (k_tb 22) X 102 [some (.ref 1), some (.int (z_i a1)), none, none] [.int (z_i s1), .ref 1] D (z_qI K T) := by
  unfold w_dReadName_102 at h
  refine zs_putI rfl rfl (fun D1 eD1 => ?_)
  have h := h D1 eD1
  refine zs_iload rfl rfl ?_
  refine zs_pushI (11) rfl rfl ?_
  obtain ⟨g2, h⟩ := h
  obtain ⟨h3, h4⟩ := h
  refine zs_ceq rfl g2 (z_rk rfl) (fun c => ?_) (fun c => ?_)
  · have h := h3 c
    refine zs_pushI (1) rfl rfl ?_
    refine zs_istore (ls1 := [some (.ref 1), some (.int (z_i a1)), some (.int (z_i 1)), none]) rfl rfl rfl ?_
    exact hH116 _ _ _ _ (by first | assumption | exact trivial) (by first | assumption | exact trivial) h
  · have h := h4 c
    refine zs_pushI (-3) rfl rfl ?_
    exact zs_iret rfl h
def w_dReadName_97 (n d : Nat) (a1 : Int) (D : z_D) (H116 : Int → z_D → Prop) (K : Int → z_D → Prop) (T : Nat → z_D → Prop) : Prop :=
  w_dReadName_102 n d a1 2 D H116 K T
theorem v_dReadName_97 {n d : Nat} {X : z_Xt} {a1 : Int}  {D : z_D} {H116 : Int → z_D → Prop} {K : Int → z_D → Prop} {T : Nat → z_D → Prop} (hH116 : ∀ (a2 : Int) (o1 : Option Value) (o3 : Option Value) (D : z_D), z_nl o1 → z_nl o3 → H116 a2 D → z_w n d (k_tb 22) X 116 [some (.ref 1), o1, some (.int (z_i a2)), o3] [] D (z_qI K T)) (h : w_dReadName_97 n d a1 D H116 K T) : z_w n d (k_tb 22) X 97 [some (.ref 1), some (.int (z_i a1)), none, none] [.ref 1] D (z_qI K T) := by
  unfold w_dReadName_97 at h
  refine zs_pushI (2) rfl rfl ?_
  refine zs_goto rfl ?_
  exact v_dReadName_102 hH116 h
def w_dReadName_0 (n d : Nat)  (D : z_D) (H116 : Int → z_D → Prop) (K : Int → z_D → Prop) (T : Nat → z_D → Prop) : Prop :=
  (z_r (D.1 1 4)) ∧
  (((D.1 1 4) < 0) →
    ∀ D2, D2 = z_uz D 1 5 3 →
    K (-1) D2) ∧
  ((0 ≤ (D.1 1 4)) →
    (z_r (D.1 1 2)) ∧
    (((D.1 1 2) ≤ (D.1 1 4)) →
      ∀ D4, D4 = z_uz D 1 5 3 →
      K (-1) D4) ∧
    (((D.1 1 4) < (D.1 1 2)) →
      (((D.1 1 4) < 160) →
        (0 ≤ (D.1 1 4) ∧ (D.1 1 4) < 160) ∧
        ∀ D6, D6 = z_ul D 1 6 (z_il (D.1 2 (Int.toNat (D.1 1 4)))) →
        ∀ D7, D7 = z_ul D6 1 7 (0) →
        (0 ≤ (D7.1 1 4) ∧ (D7.1 1 4) < 160) ∧
        (0 ≤ (z_and (D7.1 2 (Int.toNat (D7.1 1 4))) 127) ∧ (z_and (D7.1 2 (Int.toNat (D7.1 1 4))) 127) < 128) ∧
        ∀ D10, D10 = z_uz D7 1 4 ((D7.1 1 4) + 1) →
        (z_r (D7.1 3 (Int.toNat (z_and (D7.1 2 (Int.toNat (D7.1 1 4))) 127)))) ∧
        (((D7.1 3 (Int.toNat (z_and (D7.1 2 (Int.toNat (D7.1 1 4))) 127))) = 11) →
          w_dReadName_97 n d (D7.1 3 (Int.toNat (z_and (D7.1 2 (Int.toNat (D7.1 1 4))) 127))) D10 H116 K T) ∧
        ((¬ (D7.1 3 (Int.toNat (z_and (D7.1 2 (Int.toNat (D7.1 1 4))) 127))) = 11) →
          ((¬ (D7.1 3 (Int.toNat (z_and (D7.1 2 (Int.toNat (D7.1 1 4))) 127))) = 10) →
            w_dReadName_102 n d (D7.1 3 (Int.toNat (z_and (D7.1 2 (Int.toNat (D7.1 1 4))) 127))) 1 D10 H116 K T) ∧
          (((D7.1 3 (Int.toNat (z_and (D7.1 2 (Int.toNat (D7.1 1 4))) 127))) = 10) →
            w_dReadName_97 n d (D7.1 3 (Int.toNat (z_and (D7.1 2 (Int.toNat (D7.1 1 4))) 127))) D10 H116 K T))) ∧
      ((160 ≤ (D.1 1 4)) →
        ∀ D16, D16 = z_uz D 1 5 3 →
        K (-1) D16)))
theorem v_dReadName_0 {n d : Nat} {X : z_Xt}   {D : z_D} {H116 : Int → z_D → Prop} {K : Int → z_D → Prop} {T : Nat → z_D → Prop} (hH116 : ∀ (a2 : Int) (o1 : Option Value) (o3 : Option Value) (D : z_D), z_nl o1 → z_nl o3 → H116 a2 D → z_w n d (k_tb 22) X 116 [some (.ref 1), o1, some (.int (z_i a2)), o3] [] D (z_qI K T)) (h : w_dReadName_0 n d D H116 K T) : z_w n d (k_tb 22) X 0 [some (.ref 1), none, none, none] [] D (z_qI K T) := by
  unfold w_dReadName_0 at h
  refine zs_aload rfl rfl ?_
  refine zs_getI rfl rfl ?_
  obtain ⟨g1, h⟩ := h
  obtain ⟨h21, h22⟩ := h
  refine zs_iflt rfl g1 (fun c => ?_) (fun c => ?_)
  · have h := h21 c
    refine zs_aload rfl rfl ?_
    refine zs_pushI (3) rfl rfl ?_
    refine zs_putI rfl rfl (fun D2 eD2 => ?_)
    have h := h D2 eD2
    refine zs_pushI (-1) rfl rfl ?_
    exact zs_iret rfl h
  · have h := h22 c
    refine zs_aload rfl rfl ?_
    refine zs_getI rfl rfl ?_
    refine zs_aload rfl rfl ?_
    refine zs_getI rfl rfl ?_
    obtain ⟨g3, h⟩ := h
    obtain ⟨h19, h20⟩ := h
    refine zs_cge rfl g1 g3 (fun c => ?_) (fun c => ?_)
    · have h := h19 c
      refine zs_aload rfl rfl ?_
      refine zs_pushI (3) rfl rfl ?_
      refine zs_putI rfl rfl (fun D4 eD4 => ?_)
      have h := h D4 eD4
      refine zs_pushI (-1) rfl rfl ?_
      exact zs_iret rfl h
    · have h := h20 c
      refine zs_aload rfl rfl ?_
      refine zs_getI rfl rfl ?_
      refine zs_aload rfl rfl ?_
      refine zs_getR (x := 2) rfl rfl rfl ?_
      refine zs_alenZ (160) rfl rfl rfl (by decide) ?_
      obtain ⟨h17, h18⟩ := h
      refine zs_clt rfl g1 (z_rk rfl) (fun c => ?_) (fun c => ?_)
      · have h := h17 c
        refine zs_aload rfl rfl ?_
        refine zs_aload rfl rfl ?_
        refine zs_getR (x := 2) rfl rfl rfl ?_
        refine zs_aload rfl rfl ?_
        refine zs_getI rfl rfl ?_
        obtain ⟨g5, h⟩ := h
        refine zs_iald rfl rfl (by decide) g5 ?_
        refine zs_il (a := (D.1 2 (Int.toNat (D.1 1 4)))) rfl ?_
        refine zs_putL rfl rfl (fun D6 eD6 => ?_)
        have h := h D6 eD6
        refine zs_aload rfl rfl ?_
        refine zs_push rfl ?_
        refine zs_putL rfl rfl (fun D7 eD7 => ?_)
        have h := h D7 eD7
        refine zs_aload rfl rfl ?_
        refine zs_getR (x := 3) rfl rfl rfl ?_
        refine zs_aload rfl rfl ?_
        refine zs_getR (x := 2) rfl rfl rfl ?_
        refine zs_aload rfl rfl ?_
        refine zs_getI rfl rfl ?_
        obtain ⟨g8, h⟩ := h
        refine zs_iald rfl rfl (by decide) g8 ?_
        refine zs_pushI (127) rfl rfl ?_
        refine zs_and (a := (D7.1 2 (Int.toNat (D7.1 1 4)))) (b := 127) rfl ?_
        obtain ⟨g9, h⟩ := h
        refine zs_iald rfl rfl (by decide) g9 ?_
        refine zs_istore (ls1 := [some (.ref 1), some (.int (z_i (D7.1 3 (Int.toNat (z_and (D7.1 2 (Int.toNat (D7.1 1 4))) 127))))), none, none]) rfl rfl rfl ?_
        refine zs_aload rfl rfl ?_
        refine zs_dup rfl rfl ?_
        refine zs_getI rfl rfl ?_
        refine zs_pushI (1) rfl rfl ?_
        refine zs_add (a := (D7.1 1 4)) (b := 1) rfl ?_
        refine zs_putI rfl rfl (fun D10 eD10 => ?_)
        have h := h D10 eD10
        refine zs_aload rfl rfl ?_
        refine zs_iload rfl rfl ?_
        refine zs_pushI (11) rfl rfl ?_
        obtain ⟨g11, h⟩ := h
        obtain ⟨h14, h15⟩ := h
        refine zs_ceq rfl g11 (z_rk rfl) (fun c => ?_) (fun c => ?_)
        · have h := h14 c
          exact v_dReadName_97 hH116 h
        · have h := h15 c
          refine zs_iload rfl rfl ?_
          refine zs_pushI (10) rfl rfl ?_
          obtain ⟨h12, h13⟩ := h
          refine zs_cne rfl g11 (z_rk rfl) (fun c => ?_) (fun c => ?_)
          · have h := h12 c
            refine zs_pushI (1) rfl rfl ?_
            exact v_dReadName_102 hH116 h
          · have h := h13 c
            exact v_dReadName_97 hH116 h
      · have h := h18 c
        refine zs_aload rfl rfl ?_
        refine zs_pushI (3) rfl rfl ?_
        refine zs_putI rfl rfl (fun D16 eD16 => ?_)
        have h := h D16 eD16
        refine zs_pushI (-1) rfl rfl ?_
        exact zs_iret rfl h
def w_dReadName_116 (n d : Nat) (a2 : Int) (D : z_D) (H116 : Int → z_D → Prop) (K : Int → z_D → Prop) (T : Nat → z_D → Prop) : Prop :=
  (z_r (D.1 1 4)) ∧ (z_r (D.1 1 2)) ∧
  (((D.1 1 2) ≤ (D.1 1 4)) →
    K (-3) D) ∧
  (((D.1 1 4) < (D.1 1 2)) →
    ((160 ≤ (D.1 1 4)) →
      K (-3) D) ∧
    (((D.1 1 4) < 160) →
      (0 ≤ (D.1 1 4) ∧ (D.1 1 4) < 160) ∧
      (0 ≤ (z_and (D.1 2 (Int.toNat (D.1 1 4))) 127) ∧ (z_and (D.1 2 (Int.toNat (D.1 1 4))) 127) < 128) ∧
      (z_r (D.1 3 (Int.toNat (z_and (D.1 2 (Int.toNat (D.1 1 4))) 127)))) ∧
      (((D.1 3 (Int.toNat (z_and (D.1 2 (Int.toNat (D.1 1 4))) 127))) = 11) →
        ∀ D6, D6 = z_uz D 1 4 ((D.1 1 4) + 1) →
        (z_r a2) ∧
        ((¬ a2 = 11) →
          ∀ D8, D8 = z_ul D6 1 7 ((z_shl (D6.2.1 1 7) 8) ||| (z_usr (D6.2.1 1 6) 56)) →
          ∀ D9, D9 = z_ul D8 1 6 ((z_shl (D8.2.1 1 6) 8) ||| (z_il (D.1 2 (Int.toNat (D.1 1 4))))) →
          H116 (a2 + 1) D9) ∧
        ((a2 = 11) →
          ∀ D10, D10 = z_uz D6 1 5 5 →
          K (-1) D10)) ∧
      ((¬ (D.1 3 (Int.toNat (z_and (D.1 2 (Int.toNat (D.1 1 4))) 127))) = 11) →
        K (-3) D)))
theorem v_dReadName_116 {n d : Nat} {X : z_Xt} {a2 : Int} {o1 : Option Value} {o3 : Option Value} {D : z_D} {H116 : Int → z_D → Prop} {K : Int → z_D → Prop} {T : Nat → z_D → Prop} (hH116 : ∀ (a2 : Int) (o1 : Option Value) (o3 : Option Value) (D : z_D), z_nl o1 → z_nl o3 → H116 a2 D → z_w n d (k_tb 22) X 116 [some (.ref 1), o1, some (.int (z_i a2)), o3] [] D (z_qI K T)) (n1 : z_nl o1) (n3 : z_nl o3) (h : w_dReadName_116 n d a2 D H116 K T) : z_w n d (k_tb 22) X 116 [some (.ref 1), o1, some (.int (z_i a2)), o3] [] D (z_qI K T) := by
  unfold w_dReadName_116 at h
  refine zs_aload rfl rfl ?_
  refine zs_getI rfl rfl ?_
  refine zs_aload rfl rfl ?_
  refine zs_getI rfl rfl ?_
  obtain ⟨g1, g2, h⟩ := h
  obtain ⟨h17, h18⟩ := h
  refine zs_cge rfl g1 g2 (fun c => ?_) (fun c => ?_)
  · have h := h17 c
    refine zs_pushI (-3) rfl rfl ?_
    exact zs_iret rfl h
  · have h := h18 c
    refine zs_aload rfl rfl ?_
    refine zs_getI rfl rfl ?_
    refine zs_aload rfl rfl ?_
    refine zs_getR (x := 2) rfl rfl rfl ?_
    refine zs_alenZ (160) rfl rfl rfl (by decide) ?_
    obtain ⟨h15, h16⟩ := h
    refine zs_cge rfl g1 (z_rk rfl) (fun c => ?_) (fun c => ?_)
    · have h := h15 c
      refine zs_pushI (-3) rfl rfl ?_
      exact zs_iret rfl h
    · have h := h16 c
      refine zs_aload rfl rfl ?_
      refine zs_getR (x := 2) rfl rfl rfl ?_
      refine zs_aload rfl rfl ?_
      refine zs_getI rfl rfl ?_
      obtain ⟨g3, h⟩ := h
      refine zs_iald rfl rfl (by decide) g3 ?_
      refine zs_istore (ls1 := [some (.ref 1), o1, some (.int (z_i a2)), some (.int (z_i (D.1 2 (Int.toNat (D.1 1 4)))))]) rfl rfl rfl ?_
      refine zs_aload rfl rfl ?_
      refine zs_getR (x := 3) rfl rfl rfl ?_
      refine zs_iload rfl rfl ?_
      refine zs_pushI (127) rfl rfl ?_
      refine zs_and (a := (D.1 2 (Int.toNat (D.1 1 4)))) (b := 127) rfl ?_
      obtain ⟨g4, h⟩ := h
      refine zs_iald rfl rfl (by decide) g4 ?_
      refine zs_pushI (11) rfl rfl ?_
      obtain ⟨g5, h⟩ := h
      obtain ⟨h13, h14⟩ := h
      refine zs_ceq rfl g5 (z_rk rfl) (fun c => ?_) (fun c => ?_)
      · have h := h13 c
        refine zs_aload rfl rfl ?_
        refine zs_dup rfl rfl ?_
        refine zs_getI rfl rfl ?_
        refine zs_pushI (1) rfl rfl ?_
        refine zs_add (a := (D.1 1 4)) (b := 1) rfl ?_
        refine zs_putI rfl rfl (fun D6 eD6 => ?_)
        have h := h D6 eD6
        refine zs_iload rfl rfl ?_
        refine zs_pushI (11) rfl rfl ?_
        obtain ⟨g7, h⟩ := h
        obtain ⟨h11, h12⟩ := h
        refine zs_cne rfl g7 (z_rk rfl) (fun c => ?_) (fun c => ?_)
        · have h := h11 c
          refine zs_aload rfl rfl ?_
          refine zs_aload rfl rfl ?_
          refine zs_getL rfl rfl ?_
          refine zs_pushI (8) rfl rfl ?_
          refine zs_li (b := 8) rfl ?_
          refine zs_aload rfl rfl ?_
          refine zs_getL rfl rfl ?_
          refine zs_pushI (56) rfl rfl ?_
          refine zs_li (b := 56) rfl ?_
          refine zs_ll rfl ?_
          refine zs_putL rfl rfl (fun D8 eD8 => ?_)
          have h := h D8 eD8
          refine zs_aload rfl rfl ?_
          refine zs_aload rfl rfl ?_
          refine zs_getL rfl rfl ?_
          refine zs_pushI (8) rfl rfl ?_
          refine zs_li (b := 8) rfl ?_
          refine zs_iload rfl rfl ?_
          refine zs_il (a := (D.1 2 (Int.toNat (D.1 1 4)))) rfl ?_
          refine zs_ll rfl ?_
          refine zs_putL rfl rfl (fun D9 eD9 => ?_)
          have h := h D9 eD9
          refine zs_iinc (a := a2) (1) (ls1 := [some (.ref 1), o1, some (.int (z_i (a2 + 1))), some (.int (z_i (D.1 2 (Int.toNat (D.1 1 4)))))]) rfl rfl rfl ((z_st1 rfl n1).trans rfl) ?_
          refine zs_goto rfl ?_
          exact hH116 _ _ _ _ (by first | assumption | exact trivial) (by first | assumption | exact trivial) h
        · have h := h12 c
          refine zs_aload rfl rfl ?_
          refine zs_pushI (5) rfl rfl ?_
          refine zs_putI rfl rfl (fun D10 eD10 => ?_)
          have h := h D10 eD10
          refine zs_pushI (-1) rfl rfl ?_
          exact zs_iret rfl h
      · have h := h14 c
        refine zs_pushI (-3) rfl rfl ?_
        exact zs_iret rfl h
theorem r_dReadName {n d : Nat}  {D : z_D} {K : Int → z_D → Prop} {T : Nat → z_D → Prop}  (I116 : Nat → Int → z_D → Prop) (hE : w_dReadName_0 n d D (fun a2 D => ∃ m, I116 m a2 D) K T) (h116 : ∀ (mm : Nat) (a2 : Int) (D : z_D), I116 mm a2 D → w_dReadName_116 n d a2 D (fun a2 D => ∃ m, m < mm ∧ I116 m a2 D) K T) : z_c n (d + 1) 22 [.ref 1] D (z_qI K T) := by
  refine z_enter (Nat.le_of_ble_eq_true rfl) rfl (fun X => ?_)
  have key : ∀ m, (∀ (a2 : Int) (o1 : Option Value) (o3 : Option Value) (D : z_D), z_nl o1 → z_nl o3 → I116 m a2 D → z_w n d (k_tb 22) X 116 [some (.ref 1), o1, some (.int (z_i a2)), o3] [] D (z_qI K T)) := by
    intro m
    induction m using Nat.strongRecOn with
    | _ mm ih =>
      exact fun a2 o1 o3 D n1 n3 hI => v_dReadName_116 (fun a2 o1 o3 D n1 n3 ⟨m, hm, hI⟩ => (ih m hm) _ _ _ _ n1 n3 hI) n1 n3 (h116 mm a2 D hI)
  exact v_dReadName_0 (fun a2 o1 o3 D n1 n3 ⟨m, hI⟩ => (key m) _ _ _ _ n1 n3 hI) hE
