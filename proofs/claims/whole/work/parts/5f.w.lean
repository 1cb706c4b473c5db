/-! what the methods mean; printed by wip/whole/dec.py -/
-- 86: TokenMouth.spell()V
def w_tSpell_0 (n d : Nat)  (D : z_D) (H41 : Int → Int64 → Int → z_D → Prop) (K : z_D → Prop) (T : Nat → z_D → Prop) : Prop :=
  z_c n d 61 [.ref 0, .int (z_i (z_b true))] D (z_qI (fun v2 D1 => 
    z_c n d 52 [.int (z_i v2)] D1 (z_qI (fun v4 D3 => 
      (z_r v4) ∧
      ((4096 ≤ v4) →
        z_c n d 12 [.ref 4, .int (z_i (v4 - 4096))] D3 (z_qL (fun v7 D6 => 
          H41 v4 v7 0 D6) T)) ∧
      ((v4 < 4096) →
        z_c n d 87 [.int (z_i v4)] D3 (z_qI (fun v9 D8 => 
          z_c n d 63 [.ref 0, .int (z_i v9)] D8 (z_qV (fun D10 => 
            K D10) T)) T))) T)) T)
theorem v_tSpell_0 {n d : Nat} {X : z_Xt}   {D : z_D} {H41 : Int → Int64 → Int → z_D → Prop} {K : z_D → Prop} {T : Nat → z_D → Prop} (hH41 : ∀ (a1 : Int) (a2 : Int64) (a4 : Int) (D : z_D), H41 a1 a2 a4 D → z_w n d (k_tb 86) X 41 [some (.ref 0), some (.int (z_i a1)), some (.long a2), none, some (.int (z_i a4)), none, none] [] D (z_qV K T)) (h : w_tSpell_0 n d D H41 K T) : z_w n d (k_tb 86) X 0 [some (.ref 0), none, none, none, none, none, none] [] D (z_qV K T) := by
  unfold w_tSpell_0 at h
  refine zs_aload rfl rfl ?_
  refine zs_pushI (1) rfl rfl ?_
  refine z_callV (k := 0) (as0 := [.int (z_i (z_b true))]) (r := []) rfl rfl rfl (Nat.le_of_ble_eq_true rfl) (z_oI h (fun v2 D1 h => ?_) (fun _ _ h => h))
  refine z_callS (as0 := [.int (z_i v2)]) (r := []) rfl rfl (Nat.le_of_ble_eq_true rfl) (z_oI h (fun v4 D3 h => ?_) (fun _ _ h => h))
  refine zs_istore (ls1 := [some (.ref 0), some (.int (z_i v4)), none, none, none, none, none]) rfl rfl rfl ?_
  refine zs_iload rfl rfl ?_
  refine zs_pushI (4096) rfl rfl ?_
  obtain ⟨g5, h⟩ := h
  obtain ⟨h11, h12⟩ := h
  refine zs_cge rfl g5 (z_rk rfl) (fun c => ?_) (fun c => ?_)
  · have h := h11 c
    refine zs_aload rfl rfl ?_
    refine zs_getR (x := 4) rfl rfl rfl ?_
    refine zs_iload rfl rfl ?_
    refine zs_pushI (4096) rfl rfl ?_
    refine zs_sub (a := v4) (b := 4096) rfl ?_
    refine z_callV (k := 4) (as0 := [.int (z_i (v4 - 4096))]) (r := []) rfl rfl rfl (Nat.le_of_ble_eq_true rfl) (z_oL h (fun v7 D6 h => ?_) (fun _ _ h => h))
    refine zs_lstore (ls1 := [some (.ref 0), some (.int (z_i v4)), some (.long v7), none, none, none, none]) rfl rfl rfl ?_
    refine zs_pushI (0) rfl rfl ?_
    refine zs_istore (ls1 := [some (.ref 0), some (.int (z_i v4)), some (.long v7), none, some (.int (z_i 0)), none, none]) rfl rfl rfl ?_
    exact hH41 _ _ _  _  h
  · have h := h12 c
    refine zs_aload rfl rfl ?_
    refine zs_iload rfl rfl ?_
    refine z_callS (as0 := [.int (z_i v4)]) (r := [.ref 0]) rfl rfl (Nat.le_of_ble_eq_true rfl) (z_oI h (fun v9 D8 h => ?_) (fun _ _ h => h))
    refine z_callV (k := 0) (as0 := [.int (z_i v9)]) (r := []) rfl rfl rfl (Nat.le_of_ble_eq_true rfl) (z_oV h (fun D10 h => ?_) (fun _ _ h => h))
    exact zs_ret rfl h
def w_tSpell_74 (n d : Nat) (a1 : Int) (a2 : Int64) (D : z_D) (H101 : Int64 → Int64 → Int → z_D → Prop) (K : z_D → Prop) (T : Nat → z_D → Prop) : Prop :=
  z_c n d 13 [.ref 4, .int (z_i (a1 - 4096))] D (z_qL (fun v2 D1 => 
    ((¬ (z_cmp v2 (-1)) = 0) →
      H101 a2 v2 0 D1) ∧
    (((z_cmp v2 (-1)) = 0) →
      K D1)) T)
theorem v_tSpell_74 {n d : Nat} {X : z_Xt} {a1 : Int} {a2 : Int64} {o4 : Option Value} {D : z_D} {H101 : Int64 → Int64 → Int → z_D → Prop} {K : z_D → Prop} {T : Nat → z_D → Prop} (hH101 : ∀ (a2 : Int64) (a4 : Int64) (a6 : Int) (o1 : Option Value) (D : z_D), z_nl o1 → H101 a2 a4 a6 D → z_w n d (k_tb 86) X 101 [some (.ref 0), o1, some (.long a2), none, some (.long a4), none, some (.int (z_i a6))] [] D (z_qV K T)) (n4 : z_nl o4) (h : w_tSpell_74 n d a1 a2 D H101 K T) : z_w n d (k_tb 86) X 74 [some (.ref 0), some (.int (z_i a1)), some (.long a2), none, o4, none, none] [] D (z_qV K T) := by
  unfold w_tSpell_74 at h
  refine zs_aload rfl rfl ?_
  refine zs_getR (x := 4) rfl rfl rfl ?_
  refine zs_iload rfl rfl ?_
  refine zs_pushI (4096) rfl rfl ?_
  refine zs_sub (a := a1) (b := 4096) rfl ?_
  refine z_callV (k := 4) (as0 := [.int (z_i (a1 - 4096))]) (r := []) rfl rfl rfl (Nat.le_of_ble_eq_true rfl) (z_oL h (fun v2 D1 h => ?_) (fun _ _ h => h))
  refine zs_lstore (ls1 := [some (.ref 0), some (.int (z_i a1)), some (.long a2), none, some (.long v2), none, none]) rfl rfl rfl ?_
  refine zs_lload rfl rfl ?_
  refine zs_push rfl ?_
  refine zs_cmp rfl ?_
  obtain ⟨h3, h4⟩ := h
  refine zs_ifne rfl (z_r_toInt _) (fun c => ?_) (fun c => ?_)
  · have h := h3 c
    refine zs_pushI (0) rfl rfl ?_
    refine zs_istore (ls1 := [some (.ref 0), some (.int (z_i a1)), some (.long a2), none, some (.long v2), none, some (.int (z_i 0))]) rfl rfl rfl ?_
    exact hH101 _ _ _ _ _ (by first | assumption | exact trivial) h
  · have h := h4 c
    exact zs_ret rfl h
def w_tSpell_138 (n d : Nat) (a2 : Int64) (a4 : Int64) (D : z_D)  (K : z_D → Prop) (T : Nat → z_D → Prop) : Prop :=
  z_c n d 87 [.int (z_i 92)] D (z_qI (fun v2 D1 => 
    z_c n d 63 [.ref 0, .int (z_i v2)] D1 (z_qV (fun D3 => 
      K D3) T)) T)
theorem v_tSpell_138 {n d : Nat} {X : z_Xt} {a2 : Int64} {a4 : Int64} {o1 : Option Value} {o6 : Option Value} {D : z_D}  {K : z_D → Prop} {T : Nat → z_D → Prop} (n1 : z_nl o1) (n6 : z_nl o6) (h : w_tSpell_138 n d a2 a4 D K T) : z_w n d (k_tb 86) X 138 [some (.ref 0), o1, some (.long a2), none, some (.long a4), none, o6] [] D (z_qV K T) := by
  unfold w_tSpell_138 at h
  refine zs_aload rfl rfl ?_
  refine zs_pushI (92) rfl rfl ?_
  refine z_callS (as0 := [.int (z_i 92)]) (r := [.ref 0]) rfl rfl (Nat.le_of_ble_eq_true rfl) (z_oI h (fun v2 D1 h => ?_) (fun _ _ h => h))
  refine z_callV (k := 0) (as0 := [.int (z_i v2)]) (r := []) rfl rfl rfl (Nat.le_of_ble_eq_true rfl) (z_oV h (fun D3 h => ?_) (fun _ _ h => h))
  exact zs_ret rfl h
def w_tSpell_41 (n d : Nat) (a1 : Int) (a2 : Int64) (a4 : Int) (D : z_D) (H41 : Int → Int64 → Int → z_D → Prop) (H101 : Int64 → Int64 → Int → z_D → Prop) (K : z_D → Prop) (T : Nat → z_D → Prop) : Prop :=
  (z_r a4) ∧
  ((8 ≤ a4) →
    w_tSpell_74 n d a1 a2 D H101 K T) ∧
  ((a4 < 8) →
    (((z_cmp a2 (0)) = 0) →
      w_tSpell_74 n d a1 a2 D H101 K T) ∧
    ((¬ (z_cmp a2 (0)) = 0) →
      z_c n d 87 [.int (z_i (z_li a2))] D (z_qI (fun v3 D2 => 
        z_c n d 63 [.ref 0, .int (z_i v3)] D2 (z_qV (fun D4 => 
          H41 a1 (z_usr a2 8) (a4 + 1) D4) T)) T)))
theorem v_tSpell_41 {n d : Nat} {X : z_Xt} {a1 : Int} {a2 : Int64} {a4 : Int}  {D : z_D} {H41 : Int → Int64 → Int → z_D → Prop} {H101 : Int64 → Int64 → Int → z_D → Prop} {K : z_D → Prop} {T : Nat → z_D → Prop} (hH41 : ∀ (a1 : Int) (a2 : Int64) (a4 : Int) (D : z_D), H41 a1 a2 a4 D → z_w n d (k_tb 86) X 41 [some (.ref 0), some (.int (z_i a1)), some (.long a2), none, some (.int (z_i a4)), none, none] [] D (z_qV K T)) (hH101 : ∀ (a2 : Int64) (a4 : Int64) (a6 : Int) (o1 : Option Value) (D : z_D), z_nl o1 → H101 a2 a4 a6 D → z_w n d (k_tb 86) X 101 [some (.ref 0), o1, some (.long a2), none, some (.long a4), none, some (.int (z_i a6))] [] D (z_qV K T)) (h : w_tSpell_41 n d a1 a2 a4 D H41 H101 K T) : z_w n d (k_tb 86) X 41 [some (.ref 0), some (.int (z_i a1)), some (.long a2), none, some (.int (z_i a4)), none, none] [] D (z_qV K T) := by
  unfold w_tSpell_41 at h
  refine zs_iload rfl rfl ?_
  refine zs_pushI (8) rfl rfl ?_
  obtain ⟨g1, h⟩ := h
  obtain ⟨h7, h8⟩ := h
  refine zs_cge rfl g1 (z_rk rfl) (fun c => ?_) (fun c => ?_)
  · have h := h7 c
    exact v_tSpell_74 hH101 (by first | assumption | exact trivial) h
  · have h := h8 c
    refine zs_lload rfl rfl ?_
    refine zs_push rfl ?_
    refine zs_cmp rfl ?_
    obtain ⟨h5, h6⟩ := h
    refine zs_ifeq rfl (z_r_toInt _) (fun c => ?_) (fun c => ?_)
    · have h := h5 c
      exact v_tSpell_74 hH101 (by first | assumption | exact trivial) h
    · have h := h6 c
      refine zs_aload rfl rfl ?_
      refine zs_lload rfl rfl ?_
      refine zs_l2 rfl ?_
      refine z_callS (as0 := [.int (z_i (z_li a2))]) (r := [.ref 0]) rfl rfl (Nat.le_of_ble_eq_true rfl) (z_oI h (fun v3 D2 h => ?_) (fun _ _ h => h))
      refine z_callV (k := 0) (as0 := [.int (z_i v3)]) (r := []) rfl rfl rfl (Nat.le_of_ble_eq_true rfl) (z_oV h (fun D4 h => ?_) (fun _ _ h => h))
      refine zs_lload rfl rfl ?_
      refine zs_pushI (8) rfl rfl ?_
      refine zs_li (b := 8) rfl ?_
      refine zs_lstore (ls1 := [some (.ref 0), some (.int (z_i a1)), some (.long (z_usr a2 8)), none, some (.int (z_i a4)), none, none]) rfl rfl rfl ?_
      refine zs_iinc (a := a4) (1) (ls1 := [some (.ref 0), some (.int (z_i a1)), some (.long (z_usr a2 8)), none, some (.int (z_i (a4 + 1))), none, none]) rfl rfl rfl rfl ?_
      refine zs_goto rfl ?_
      exact hH41 _ _ _  _  h
def w_tSpell_101 (n d : Nat) (a2 : Int64) (a4 : Int64) (a6 : Int) (D : z_D) (H101 : Int64 → Int64 → Int → z_D → Prop) (K : z_D → Prop) (T : Nat → z_D → Prop) : Prop :=
  (z_r a6) ∧
  ((8 ≤ a6) →
    w_tSpell_138 n d a2 a4 D K T) ∧
  ((a6 < 8) →
    (((z_cmp a4 (0)) = 0) →
      w_tSpell_138 n d a2 a4 D K T) ∧
    ((¬ (z_cmp a4 (0)) = 0) →
      z_c n d 87 [.int (z_i (z_li a4))] D (z_qI (fun v3 D2 => 
        z_c n d 63 [.ref 0, .int (z_i v3)] D2 (z_qV (fun D4 => 
          H101 a2 (z_usr a4 8) (a6 + 1) D4) T)) T)))
theorem v_tSpell_101 {n d : Nat} {X : z_Xt} {a2 : Int64} {a4 : Int64} {a6 : Int} {o1 : Option Value} {D : z_D} {H101 : Int64 → Int64 → Int → z_D → Prop} {K : z_D → Prop} {T : Nat → z_D → Prop} (hH101 : ∀ (a2 : Int64) (a4 : Int64) (a6 : Int) (o1 : Option Value) (D : z_D), z_nl o1 → H101 a2 a4 a6 D → z_w n d (k_tb 86) X 101 [some (.ref 0), o1, some (.long a2), none, some (.long a4), none, some (.int (z_i a6))] [] D (z_qV K T)) (n1 : z_nl o1) (h : w_tSpell_101 n d a2 a4 a6 D H101 K T) : z_w n d (k_tb 86) X 101 [some (.ref 0), o1, some (.long a2), none, some (.long a4), none, some (.int (z_i a6))] [] D (z_qV K T) := by
  unfold w_tSpell_101 at h
  refine zs_iload rfl rfl ?_
  refine zs_pushI (8) rfl rfl ?_
  obtain ⟨g1, h⟩ := h
  obtain ⟨h7, h8⟩ := h
  refine zs_cge rfl g1 (z_rk rfl) (fun c => ?_) (fun c => ?_)
  · have h := h7 c
    exact v_tSpell_138 (by first | assumption | exact trivial) (by first | assumption | exact trivial) h
  · have h := h8 c
    refine zs_lload rfl rfl ?_
    refine zs_push rfl ?_
    refine zs_cmp rfl ?_
    obtain ⟨h5, h6⟩ := h
    refine zs_ifeq rfl (z_r_toInt _) (fun c => ?_) (fun c => ?_)
    · have h := h5 c
      exact v_tSpell_138 (by first | assumption | exact trivial) (by first | assumption | exact trivial) h
    · have h := h6 c
      refine zs_aload rfl rfl ?_
      refine zs_lload rfl rfl ?_
      refine zs_l2 rfl ?_
      refine z_callS (as0 := [.int (z_i (z_li a4))]) (r := [.ref 0]) rfl rfl (Nat.le_of_ble_eq_true rfl) (z_oI h (fun v3 D2 h => ?_) (fun _ _ h => h))
      refine z_callV (k := 0) (as0 := [.int (z_i v3)]) (r := []) rfl rfl rfl (Nat.le_of_ble_eq_true rfl) (z_oV h (fun D4 h => ?_) (fun _ _ h => h))
      refine zs_lload rfl rfl ?_
      refine zs_pushI (8) rfl rfl ?_
      refine zs_li (b := 8) rfl ?_
      refine zs_lstore (ls1 := [some (.ref 0), o1, some (.long a2), none, some (.long (z_usr a4 8)), none, some (.int (z_i a6))]) rfl rfl rfl ?_
      refine zs_iinc (a := a6) (1) (ls1 := [some (.ref 0), o1, some (.long a2), none, some (.long (z_usr a4 8)), none, some (.int (z_i (a6 + 1)))]) rfl rfl rfl rfl ?_
      refine zs_goto rfl ?_
      exact hH101 _ _ _ _ _ (by first | assumption | exact trivial) h
theorem r_tSpell {n d : Nat}  {D : z_D} {K : z_D → Prop} {T : Nat → z_D → Prop}  (I41 : Nat → Int → Int64 → Int → z_D → Prop) (I101 : Nat → Int64 → Int64 → Int → z_D → Prop) (hE : w_tSpell_0 n d D (fun a1 a2 a4 D => ∃ m, I41 m a1 a2 a4 D) K T) (h41 : ∀ (mm : Nat) (a1 : Int) (a2 : Int64) (a4 : Int) (D : z_D), I41 mm a1 a2 a4 D → w_tSpell_41 n d a1 a2 a4 D (fun a1 a2 a4 D => ∃ m, m < mm ∧ I41 m a1 a2 a4 D) (fun a2 a4 a6 D => ∃ m, m < mm ∧ I101 m a2 a4 a6 D) K T) (h101 : ∀ (mm : Nat) (a2 : Int64) (a4 : Int64) (a6 : Int) (D : z_D), I101 mm a2 a4 a6 D → w_tSpell_101 n d a2 a4 a6 D (fun a2 a4 a6 D => ∃ m, m < mm ∧ I101 m a2 a4 a6 D) K T) : z_c n (d + 1) 86 [.ref 0] D (z_qV K T) := by
  refine z_enter (Nat.le_of_ble_eq_true rfl) rfl (fun X => ?_)
  have key : ∀ m, (∀ (a1 : Int) (a2 : Int64) (a4 : Int) (D : z_D), I41 m a1 a2 a4 D → z_w n d (k_tb 86) X 41 [some (.ref 0), some (.int (z_i a1)), some (.long a2), none, some (.int (z_i a4)), none, none] [] D (z_qV K T)) ∧ (∀ (a2 : Int64) (a4 : Int64) (a6 : Int) (o1 : Option Value) (D : z_D), z_nl o1 → I101 m a2 a4 a6 D → z_w n d (k_tb 86) X 101 [some (.ref 0), o1, some (.long a2), none, some (.long a4), none, some (.int (z_i a6))] [] D (z_qV K T)) := by
    intro m
    induction m using Nat.strongRecOn with
    | _ mm ih =>
      exact ⟨fun a1 a2 a4 D hI => v_tSpell_41 (fun a1 a2 a4 D ⟨m, hm, hI⟩ => (ih m hm).1 _ _ _ _  hI) (fun a2 a4 a6 o1 D n1 ⟨m, hm, hI⟩ => (ih m hm).2 _ _ _ _ _ n1 hI) (h41 mm a1 a2 a4 D hI), fun a2 a4 a6 o1 D n1 hI => v_tSpell_101 (fun a2 a4 a6 o1 D n1 ⟨m, hm, hI⟩ => (ih m hm).2 _ _ _ _ _ n1 hI) n1 (h101 mm a2 a4 a6 D hI)⟩
  exact v_tSpell_0 (fun a1 a2 a4 D ⟨m, hI⟩ => (key m).1 _ _ _ _  hI) hE
-- 87: TokenMouth.spelled(I)I
def w_tSpelled_0 (n d : Nat) (a0 : Int) (D : z_D)  (K : Int → z_D → Prop) (T : Nat → z_D → Prop) : Prop :=
  ((¬ (z_and a0 255) = 32) →
    K ((z_and a0 255) + 3072) D) ∧
  (((z_and a0 255) = 32) →
    K 2592 D)
theorem v_tSpelled_0 {n d : Nat} {X : z_Xt} {a0 : Int}  {D : z_D}  {K : Int → z_D → Prop} {T : Nat → z_D → Prop}  (h : w_tSpelled_0 n d a0 D K T) : z_w n d (k_tb 87) X 0 [some (.int (z_i a0)), none] [] D (z_qI K T) := by
  unfold w_tSpelled_0 at h
  refine zs_iload rfl rfl ?_
  refine zs_pushI (255) rfl rfl ?_
  refine zs_and (a := a0) (b := 255) rfl ?_
  refine zs_istore (ls1 := [some (.int (z_i a0)), some (.int (z_i (z_and a0 255)))]) rfl rfl rfl ?_
  refine zs_iload rfl rfl ?_
  refine zs_pushI (32) rfl rfl ?_
  obtain ⟨h1, h2⟩ := h
  refine zs_cne rfl (z_r_toInt _) (z_rk rfl) (fun c => ?_) (fun c => ?_)
  · have h := h1 c
    refine zs_iload rfl rfl ?_
    refine zs_pushI (3072) rfl rfl ?_
    refine zs_add (a := (z_and a0 255)) (b := 3072) rfl ?_
    exact zs_iret rfl h
  · have h := h2 c
    refine zs_pushI (2592) rfl rfl ?_
    refine zs_goto rfl ?_
    exact zs_iret rfl h
theorem r_tSpelled {n d : Nat} {a0 : Int} {D : z_D} {K : Int → z_D → Prop} {T : Nat → z_D → Prop}  (h : w_tSpelled_0 n d a0 D K T) : z_c n (d + 1) 87 [.int (z_i a0)] D (z_qI K T) :=
  z_enter (Nat.le_of_ble_eq_true rfl) rfl (fun X => v_tSpelled_0 h)
-- 88: TokenMouth.openConditional(I)Z
def w_tOpenConditional_114 (n d : Nat) (a2 : Int) (b3 : Bool) (D : z_D)  (K : Bool → z_D → Prop) (T : Nat → z_D → Prop) : Prop :=
  z_c n d 30 [.ref 19, .int (z_i a2)] D (z_qV (fun D1 => 
    ((b3 = false) →
      K b3 D1) ∧
    ((b3 = true) →
      z_c n d 29 [.ref 19, .int (z_i (a2 - 1)), .int (z_i 1)] D1 (z_qV (fun D2 => 
        K b3 D2) T))) T)
theorem v_tOpenConditional_114 {n d : Nat} {X : z_Xt} {a2 : Int} {b3 : Bool} {o1 : Option Value} {o4 : Option Value} {D : z_D}  {K : Bool → z_D → Prop} {T : Nat → z_D → Prop} (n1 : z_nl o1) (n4 : z_nl o4) (h : w_tOpenConditional_114 n d a2 b3 D K T) : z_w n d (k_tb 88) X 114 [some (.ref 0), o1, some (.int (z_i a2)), some (.int (z_i (z_b b3))), o4] [] D (z_qZ K T) := by
  unfold w_tOpenConditional_114 at h
  refine zs_aload rfl rfl ?_
  refine zs_getR (x := 19) rfl rfl rfl ?_
  refine zs_iload rfl rfl ?_
  refine z_callV (k := 19) (as0 := [.int (z_i a2)]) (r := []) rfl rfl rfl (Nat.le_of_ble_eq_true rfl) (z_oV h (fun D1 h => ?_) (fun _ _ h => h))
  refine zs_iload rfl rfl ?_
  obtain ⟨h3, h4⟩ := h
  refine zs_beq rfl (fun c => ?_) (fun c => ?_)
  · have h := h3 c
    refine zs_iload rfl rfl ?_
    exact zs_zret rfl h
  · have h := h4 c
    refine zs_aload rfl rfl ?_
    refine zs_getR (x := 19) rfl rfl rfl ?_
    refine zs_iload rfl rfl ?_
    refine zs_pushI (1) rfl rfl ?_
    refine zs_sub (a := a2) (b := 1) rfl ?_
    refine zs_pushI (1) rfl rfl ?_
    refine z_callV (k := 19) (as0 := [.int (z_i (a2 - 1)), .int (z_i 1)]) (r := []) rfl rfl rfl (Nat.le_of_ble_eq_true rfl) (z_oV h (fun D2 h => ?_) (fun _ _ h => h))
    refine zs_iload rfl rfl ?_
    exact zs_zret rfl h
def w_tOpenConditional_77 (n d : Nat) (a2 : Int) (s0 : Bool) (D : z_D)  (K : Bool → z_D → Prop) (T : Nat → z_D → Prop) : Prop :=
  w_tOpenConditional_114 n d a2 s0 D K T
theorem v_tOpenConditional_77 {n d : Nat} {X : z_Xt} {a2 : Int} {s0 : Bool} {o1 : Option Value} {o3 : Option Value} {o4 : Option Value} {D : z_D}  {K : Bool → z_D → Prop} {T : Nat → z_D → Prop} (n1 : z_nl o1) (n3 : z_nl o3) (n4 : z_nl o4) (h : w_tOpenConditional_77 n d a2 s0 D K T) : z_w n d (k_tb 88) X 77 [some (.ref 0), o1, some (.int (z_i a2)), o3, o4] [.int (z_i (z_b s0))] D (z_qZ K T) := by
  unfold w_tOpenConditional_77 at h
  refine zs_istore (ls1 := [some (.ref 0), o1, some (.int (z_i a2)), some (.int (z_i (z_b s0))), o4]) rfl rfl rfl ?_
  refine zs_goto rfl ?_
  exact v_tOpenConditional_114 (by first | assumption | exact trivial) (by first | assumption | exact trivial) h
def w_tOpenConditional_36 (n d : Nat) (a1 : Int) (a2 : Int) (s0 : Bool) (D : z_D)  (K : Bool → z_D → Prop) (T : Nat → z_D → Prop) : Prop :=
  (z_r a1) ∧
  ((¬ a1 = 13) →
    ((¬ a1 = 14) →
      w_tOpenConditional_114 n d a2 s0 D K T) ∧
    ((a1 = 14) →
      z_c n d 61 [.ref 0, .int (z_i (z_b true))] D (z_qI (fun v3 D2 => 
        z_c n d 55 [.ref 0, .int (z_i v3)] D2 (z_qI (fun v5 D4 => 
          z_c n d 61 [.ref 0, .int (z_i (z_b true))] D4 (z_qI (fun v7 D6 => 
            z_c n d 55 [.ref 0, .int (z_i v7)] D6 (z_qI (fun v9 D8 => 
              z_c n d 59 [.ref 0, .int (z_i v5), .int (z_i v9)] D8 (z_qZ (fun v11 D10 => 
                w_tOpenConditional_114 n d a2 v11 D10 K T) T)) T)) T)) T)) T))) ∧
  ((a1 = 13) →
    z_c n d 62 [.ref 0] D (z_qI (fun v15 D14 => 
      z_c n d 55 [.ref 0, .int (z_i v15)] D14 (z_qI (fun v17 D16 => 
        z_c n d 60 [.int (z_i v17)] D16 (z_qI (fun v19 D18 => 
          z_c n d 62 [.ref 0] D18 (z_qI (fun v21 D20 => 
            z_c n d 55 [.ref 0, .int (z_i v21)] D20 (z_qI (fun v23 D22 => 
              z_c n d 60 [.int (z_i v23)] D22 (z_qI (fun v25 D24 => 
                (z_r v19) ∧ (z_r v25) ∧
                ((¬ v19 = v25) →
                  w_tOpenConditional_77 n d a2 false D24 K T) ∧
                ((v19 = v25) →
                  w_tOpenConditional_77 n d a2 true D24 K T)) T)) T)) T)) T)) T)) T))
theorem v_tOpenConditional_36 {n d : Nat} {X : z_Xt} {a1 : Int} {a2 : Int} {s0 : Bool}  {D : z_D}  {K : Bool → z_D → Prop} {T : Nat → z_D → Prop}  (h : w_tOpenConditional_36 n d a1 a2 s0 D K T) : z_w n d (k_tb 88) X 36 [some (.ref 0), some (.int (z_i a1)), some (.int (z_i a2)), none, none] [.int (z_i (z_b s0))] D (z_qZ K T) := by
  unfold w_tOpenConditional_36 at h
  refine zs_istore (ls1 := [some (.ref 0), some (.int (z_i a1)), some (.int (z_i a2)), some (.int (z_i (z_b s0))), none]) rfl rfl rfl ?_
  refine zs_iload rfl rfl ?_
  refine zs_pushI (13) rfl rfl ?_
  obtain ⟨g1, h⟩ := h
  obtain ⟨h30, h31⟩ := h
  refine zs_cne rfl g1 (z_rk rfl) (fun c => ?_) (fun c => ?_)
  · have h := h30 c
    refine zs_iload rfl rfl ?_
    refine zs_pushI (14) rfl rfl ?_
    obtain ⟨h12, h13⟩ := h
    refine zs_cne rfl g1 (z_rk rfl) (fun c => ?_) (fun c => ?_)
    · have h := h12 c
      exact v_tOpenConditional_114 (by first | assumption | exact trivial) (by first | assumption | exact trivial) h
    · have h := h13 c
      refine zs_aload rfl rfl ?_
      refine zs_aload rfl rfl ?_
      refine zs_pushI (1) rfl rfl ?_
      refine z_callV (k := 0) (as0 := [.int (z_i (z_b true))]) (r := [.ref 0]) rfl rfl rfl (Nat.le_of_ble_eq_true rfl) (z_oI h (fun v3 D2 h => ?_) (fun _ _ h => h))
      refine z_callV (k := 0) (as0 := [.int (z_i v3)]) (r := []) rfl rfl rfl (Nat.le_of_ble_eq_true rfl) (z_oI h (fun v5 D4 h => ?_) (fun _ _ h => h))
      refine zs_istore (ls1 := [some (.ref 0), some (.int (z_i a1)), some (.int (z_i a2)), some (.int (z_i (z_b s0))), some (.int (z_i v5))]) rfl rfl rfl ?_
      refine zs_aload rfl rfl ?_
      refine zs_iload rfl rfl ?_
      refine zs_aload rfl rfl ?_
      refine zs_aload rfl rfl ?_
      refine zs_pushI (1) rfl rfl ?_
      refine z_callV (k := 0) (as0 := [.int (z_i (z_b true))]) (r := [.ref 0, .int (z_i v5), .ref 0]) rfl rfl rfl (Nat.le_of_ble_eq_true rfl) (z_oI h (fun v7 D6 h => ?_) (fun _ _ h => h))
      refine z_callV (k := 0) (as0 := [.int (z_i v7)]) (r := [.int (z_i v5), .ref 0]) rfl rfl rfl (Nat.le_of_ble_eq_true rfl) (z_oI h (fun v9 D8 h => ?_) (fun _ _ h => h))
      refine z_callV (k := 0) (as0 := [.int (z_i v5), .int (z_i v9)]) (r := []) rfl rfl rfl (Nat.le_of_ble_eq_true rfl) (z_oZ h (fun v11 D10 h => ?_) (fun _ _ h => h))
      refine zs_istore (ls1 := [some (.ref 0), some (.int (z_i a1)), some (.int (z_i a2)), some (.int (z_i (z_b v11))), some (.int (z_i v5))]) rfl rfl rfl ?_
      exact v_tOpenConditional_114 (by first | assumption | exact trivial) (by first | assumption | exact trivial) h
  · have h := h31 c
    refine zs_aload rfl rfl ?_
    refine zs_aload rfl rfl ?_
    refine z_callV (k := 0) (as0 := []) (r := [.ref 0]) rfl rfl rfl (Nat.le_of_ble_eq_true rfl) (z_oI h (fun v15 D14 h => ?_) (fun _ _ h => h))
    refine z_callV (k := 0) (as0 := [.int (z_i v15)]) (r := []) rfl rfl rfl (Nat.le_of_ble_eq_true rfl) (z_oI h (fun v17 D16 h => ?_) (fun _ _ h => h))
    refine z_callS (as0 := [.int (z_i v17)]) (r := []) rfl rfl (Nat.le_of_ble_eq_true rfl) (z_oI h (fun v19 D18 h => ?_) (fun _ _ h => h))
    refine zs_istore (ls1 := [some (.ref 0), some (.int (z_i a1)), some (.int (z_i a2)), some (.int (z_i (z_b s0))), some (.int (z_i v19))]) rfl rfl rfl ?_
    refine zs_iload rfl rfl ?_
    refine zs_aload rfl rfl ?_
    refine zs_aload rfl rfl ?_
    refine z_callV (k := 0) (as0 := []) (r := [.ref 0, .int (z_i v19)]) rfl rfl rfl (Nat.le_of_ble_eq_true rfl) (z_oI h (fun v21 D20 h => ?_) (fun _ _ h => h))
    refine z_callV (k := 0) (as0 := [.int (z_i v21)]) (r := [.int (z_i v19)]) rfl rfl rfl (Nat.le_of_ble_eq_true rfl) (z_oI h (fun v23 D22 h => ?_) (fun _ _ h => h))
    refine z_callS (as0 := [.int (z_i v23)]) (r := [.int (z_i v19)]) rfl rfl (Nat.le_of_ble_eq_true rfl) (z_oI h (fun v25 D24 h => ?_) (fun _ _ h => h))
    obtain ⟨g26, g27, h⟩ := h
    obtain ⟨h28, h29⟩ := h
    refine zs_cne rfl g26 g27 (fun c => ?_) (fun c => ?_)
    · have h := h28 c
      refine zs_pushI (0) rfl rfl ?_
      exact v_tOpenConditional_77 (by first | assumption | exact trivial) (by first | assumption | exact trivial) (by first | assumption | exact trivial) h
    · have h := h29 c
      refine zs_pushI (1) rfl rfl ?_
      refine zs_goto rfl ?_
      exact v_tOpenConditional_77 (by first | assumption | exact trivial) (by first | assumption | exact trivial) (by first | assumption | exact trivial) h
def w_tOpenConditional_17 (n d : Nat) (a1 : Int) (D : z_D)  (K : Bool → z_D → Prop) (T : Nat → z_D → Prop) : Prop :=
  z_c n d 24 [.ref 19] D (z_qI (fun v2 D1 => 
    (z_r a1) ∧
    ((¬ a1 = 15) →
      w_tOpenConditional_36 n d a1 v2 false D1 K T) ∧
    ((a1 = 15) →
      w_tOpenConditional_36 n d a1 v2 true D1 K T)) T)
theorem v_tOpenConditional_17 {n d : Nat} {X : z_Xt} {a1 : Int}  {D : z_D}  {K : Bool → z_D → Prop} {T : Nat → z_D → Prop}  (h : w_tOpenConditional_17 n d a1 D K T) : z_w n d (k_tb 88) X 17 [some (.ref 0), some (.int (z_i a1)), none, none, none] [] D (z_qZ K T) := by
  unfold w_tOpenConditional_17 at h
  refine zs_aload rfl rfl ?_
  refine zs_getR (x := 19) rfl rfl rfl ?_
  refine z_callV (k := 19) (as0 := []) (r := []) rfl rfl rfl (Nat.le_of_ble_eq_true rfl) (z_oI h (fun v2 D1 h => ?_) (fun _ _ h => h))
  refine zs_istore (ls1 := [some (.ref 0), some (.int (z_i a1)), some (.int (z_i v2)), none, none]) rfl rfl rfl ?_
  refine zs_iload rfl rfl ?_
  refine zs_pushI (15) rfl rfl ?_
  obtain ⟨g3, h⟩ := h
  obtain ⟨h4, h5⟩ := h
  refine zs_cne rfl g3 (z_rk rfl) (fun c => ?_) (fun c => ?_)
  · have h := h4 c
    refine zs_pushI (0) rfl rfl ?_
    exact v_tOpenConditional_36 h
  · have h := h5 c
    refine zs_pushI (1) rfl rfl ?_
    refine zs_goto rfl ?_
    exact v_tOpenConditional_36 h
def w_tOpenConditional_0 (n d : Nat) (a1 : Int) (D : z_D)  (K : Bool → z_D → Prop) (T : Nat → z_D → Prop) : Prop :=
  z_c n d 27 [.ref 19, .int (z_i 0)] D (z_qZ (fun v2 D1 => 
    ((v2 = true) →
      w_tOpenConditional_17 n d a1 D1 K T) ∧
    ((v2 = false) →
      z_c n d 48 [.ref 0, .int (z_i 5)] D1 (z_qI (fun v4 D3 => 
        w_tOpenConditional_17 n d a1 D3 K T) T))) T)
theorem v_tOpenConditional_0 {n d : Nat} {X : z_Xt} {a1 : Int}  {D : z_D}  {K : Bool → z_D → Prop} {T : Nat → z_D → Prop}  (h : w_tOpenConditional_0 n d a1 D K T) : z_w n d (k_tb 88) X 0 [some (.ref 0), some (.int (z_i a1)), none, none, none] [] D (z_qZ K T) := by
  unfold w_tOpenConditional_0 at h
  refine zs_aload rfl rfl ?_
  refine zs_getR (x := 19) rfl rfl rfl ?_
  refine zs_pushI (0) rfl rfl ?_
  refine z_callV (k := 19) (as0 := [.int (z_i 0)]) (r := []) rfl rfl rfl (Nat.le_of_ble_eq_true rfl) (z_oZ h (fun v2 D1 h => ?_) (fun _ _ h => h))
  obtain ⟨h5, h6⟩ := h
  refine zs_bne rfl (fun c => ?_) (fun c => ?_)
  · have h := h5 c
    exact v_tOpenConditional_17 h
  · have h := h6 c
    refine zs_aload rfl rfl ?_
    refine zs_pushI (5) rfl rfl ?_
    refine z_callV (k := 0) (as0 := [.int (z_i 5)]) (r := []) rfl rfl rfl (Nat.le_of_ble_eq_true rfl) (z_oI h (fun v4 D3 h => ?_) (fun _ _ h => h))
    refine zs_pop rfl rfl ?_
    exact v_tOpenConditional_17 h
theorem r_tOpenConditional {n d : Nat} {a1 : Int} {D : z_D} {K : Bool → z_D → Prop} {T : Nat → z_D → Prop}  (h : w_tOpenConditional_0 n d a1 D K T) : z_c n (d + 1) 88 [.ref 0, .int (z_i a1)] D (z_qZ K T) :=
  z_enter (Nat.le_of_ble_eq_true rfl) rfl (fun X => v_tOpenConditional_0 h)
-- 89: TokenMouth.pass(Z)V
def w_tPass_0 (n d : Nat) (b1 : Bool) (D : z_D) (H4 : Bool → Int → Int → z_D → Prop) (K : z_D → Prop) (T : Nat → z_D → Prop) : Prop :=
  H4 b1 0 0 D
theorem v_tPass_0 {n d : Nat} {X : z_Xt} {b1 : Bool}  {D : z_D} {H4 : Bool → Int → Int → z_D → Prop} {K : z_D → Prop} {T : Nat → z_D → Prop} (hH4 : ∀ (b1 : Bool) (a2 : Int) (a3 : Int) (o4 : Option Value) (D : z_D), z_nl o4 → H4 b1 a2 a3 D → z_w n d (k_tb 89) X 4 [some (.ref 0), some (.int (z_i (z_b b1))), some (.int (z_i a2)), some (.int (z_i a3)), o4] [] D (z_qV K T)) (h : w_tPass_0 n d b1 D H4 K T) : z_w n d (k_tb 89) X 0 [some (.ref 0), some (.int (z_i (z_b b1))), none, none, none] [] D (z_qV K T) := by
  unfold w_tPass_0 at h
  refine zs_pushI (0) rfl rfl ?_
  refine zs_istore (ls1 := [some (.ref 0), some (.int (z_i (z_b b1))), some (.int (z_i 0)), none, none]) rfl rfl rfl ?_
  refine zs_pushI (0) rfl rfl ?_
  refine zs_istore (ls1 := [some (.ref 0), some (.int (z_i (z_b b1))), some (.int (z_i 0)), some (.int (z_i 0)), none]) rfl rfl rfl ?_
  exact hH4 _ _ _ _ _ (by first | assumption | exact trivial) h
def w_tPass_52 (n d : Nat) (b1 : Bool) (a2 : Int) (a3 : Int) (a4 : Int) (D : z_D) (H4 : Bool → Int → Int → z_D → Prop) (K : z_D → Prop) (T : Nat → z_D → Prop) : Prop :=
  (z_r a2) ∧
  ((0 ≤ a2) →
    (z_r a4) ∧
    ((¬ a4 = 17) →
      H4 b1 a2 (a3 + 1) D) ∧
    ((a4 = 17) →
      ((¬ a2 = 0) →
        H4 b1 a2 (a3 + 1) D) ∧
      ((a2 = 0) →
        ((b1 = false) →
          H4 b1 a2 (a3 + 1) D) ∧
        ((b1 = true) →
          z_c n d 24 [.ref 19] D (z_qI (fun v4 D3 => 
            z_c n d 29 [.ref 19, .int (z_i (v4 - 1)), .int (z_i 2)] D3 (z_qV (fun D5 => 
              K D5) T)) T))))) ∧
  ((a2 < 0) →
    z_c n d 28 [.ref 19] D (z_qI (fun v13 D12 => 
      K D12) T))
theorem v_tPass_52 {n d : Nat} {X : z_Xt} {b1 : Bool} {a2 : Int} {a3 : Int} {a4 : Int}  {D : z_D} {H4 : Bool → Int → Int → z_D → Prop} {K : z_D → Prop} {T : Nat → z_D → Prop} (hH4 : ∀ (b1 : Bool) (a2 : Int) (a3 : Int) (o4 : Option Value) (D : z_D), z_nl o4 → H4 b1 a2 a3 D → z_w n d (k_tb 89) X 4 [some (.ref 0), some (.int (z_i (z_b b1))), some (.int (z_i a2)), some (.int (z_i a3)), o4] [] D (z_qV K T)) (h : w_tPass_52 n d b1 a2 a3 a4 D H4 K T) : z_w n d (k_tb 89) X 52 [some (.ref 0), some (.int (z_i (z_b b1))), some (.int (z_i a2)), some (.int (z_i a3)), some (.int (z_i a4))] [] D (z_qV K T) := by
  unfold w_tPass_52 at h
  refine zs_iload rfl rfl ?_
  obtain ⟨g1, h⟩ := h
  obtain ⟨h14, h15⟩ := h
  refine zs_ifge rfl g1 (fun c => ?_) (fun c => ?_)
  · have h := h14 c
    refine zs_iload rfl rfl ?_
    refine zs_pushI (17) rfl rfl ?_
    obtain ⟨g2, h⟩ := h
    obtain ⟨h10, h11⟩ := h
    refine zs_cne rfl g2 (z_rk rfl) (fun c => ?_) (fun c => ?_)
    · have h := h10 c
      refine zs_iinc (a := a3) (1) (ls1 := [some (.ref 0), some (.int (z_i (z_b b1))), some (.int (z_i a2)), some (.int (z_i (a3 + 1))), some (.int (z_i a4))]) rfl rfl rfl rfl ?_
      refine zs_goto rfl ?_
      exact hH4 _ _ _ _ _ (by first | assumption | exact trivial) h
    · have h := h11 c
      refine zs_iload rfl rfl ?_
      obtain ⟨h8, h9⟩ := h
      refine zs_ifne rfl g1 (fun c => ?_) (fun c => ?_)
      · have h := h8 c
        refine zs_iinc (a := a3) (1) (ls1 := [some (.ref 0), some (.int (z_i (z_b b1))), some (.int (z_i a2)), some (.int (z_i (a3 + 1))), some (.int (z_i a4))]) rfl rfl rfl rfl ?_
        refine zs_goto rfl ?_
        exact hH4 _ _ _ _ _ (by first | assumption | exact trivial) h
      · have h := h9 c
        refine zs_iload rfl rfl ?_
        obtain ⟨h6, h7⟩ := h
        refine zs_beq rfl (fun c => ?_) (fun c => ?_)
        · have h := h6 c
          refine zs_iinc (a := a3) (1) (ls1 := [some (.ref 0), some (.int (z_i (z_b b1))), some (.int (z_i a2)), some (.int (z_i (a3 + 1))), some (.int (z_i a4))]) rfl rfl rfl rfl ?_
          refine zs_goto rfl ?_
          exact hH4 _ _ _ _ _ (by first | assumption | exact trivial) h
        · have h := h7 c
          refine zs_aload rfl rfl ?_
          refine zs_getR (x := 19) rfl rfl rfl ?_
          refine zs_aload rfl rfl ?_
          refine zs_getR (x := 19) rfl rfl rfl ?_
          refine z_callV (k := 19) (as0 := []) (r := [.ref 19]) rfl rfl rfl (Nat.le_of_ble_eq_true rfl) (z_oI h (fun v4 D3 h => ?_) (fun _ _ h => h))
          refine zs_pushI (1) rfl rfl ?_
          refine zs_sub (a := v4) (b := 1) rfl ?_
          refine zs_pushI (2) rfl rfl ?_
          refine z_callV (k := 19) (as0 := [.int (z_i (v4 - 1)), .int (z_i 2)]) (r := []) rfl rfl rfl (Nat.le_of_ble_eq_true rfl) (z_oV h (fun D5 h => ?_) (fun _ _ h => h))
          exact zs_ret rfl h
  · have h := h15 c
    refine zs_aload rfl rfl ?_
    refine zs_getR (x := 19) rfl rfl rfl ?_
    refine z_callV (k := 19) (as0 := []) (r := []) rfl rfl rfl (Nat.le_of_ble_eq_true rfl) (z_oI h (fun v13 D12 h => ?_) (fun _ _ h => h))
    refine zs_pop rfl rfl ?_
    exact zs_ret rfl h
def w_tPass_42 (n d : Nat) (b1 : Bool) (a2 : Int) (a3 : Int) (a4 : Int) (D : z_D) (H4 : Bool → Int → Int → z_D → Prop) (K : z_D → Prop) (T : Nat → z_D → Prop) : Prop :=
  (z_r a4) ∧
  ((¬ a4 = 18) →
    w_tPass_52 n d b1 a2 a3 a4 D H4 K T) ∧
  ((a4 = 18) →
    w_tPass_52 n d b1 (a2 + (-1)) a3 a4 D H4 K T)
theorem v_tPass_42 {n d : Nat} {X : z_Xt} {b1 : Bool} {a2 : Int} {a3 : Int} {a4 : Int}  {D : z_D} {H4 : Bool → Int → Int → z_D → Prop} {K : z_D → Prop} {T : Nat → z_D → Prop} (hH4 : ∀ (b1 : Bool) (a2 : Int) (a3 : Int) (o4 : Option Value) (D : z_D), z_nl o4 → H4 b1 a2 a3 D → z_w n d (k_tb 89) X 4 [some (.ref 0), some (.int (z_i (z_b b1))), some (.int (z_i a2)), some (.int (z_i a3)), o4] [] D (z_qV K T)) (h : w_tPass_42 n d b1 a2 a3 a4 D H4 K T) : z_w n d (k_tb 89) X 42 [some (.ref 0), some (.int (z_i (z_b b1))), some (.int (z_i a2)), some (.int (z_i a3)), some (.int (z_i a4))] [] D (z_qV K T) := by
  unfold w_tPass_42 at h
  refine zs_iload rfl rfl ?_
  refine zs_pushI (18) rfl rfl ?_
  obtain ⟨g1, h⟩ := h
  obtain ⟨h2, h3⟩ := h
  refine zs_cne rfl g1 (z_rk rfl) (fun c => ?_) (fun c => ?_)
  · have h := h2 c
    exact v_tPass_52 hH4 h
  · have h := h3 c
    refine zs_iinc (a := a2) (-1) (ls1 := [some (.ref 0), some (.int (z_i (z_b b1))), some (.int (z_i (a2 + (-1)))), some (.int (z_i a3)), some (.int (z_i a4))]) rfl rfl rfl rfl ?_
    exact v_tPass_52 hH4 h
def w_tPass_4 (n d : Nat) (b1 : Bool) (a2 : Int) (a3 : Int) (D : z_D) (H4 : Bool → Int → Int → z_D → Prop) (K : z_D → Prop) (T : Nat → z_D → Prop) : Prop :=
  (z_r a3) ∧
  ((1000 ≤ a3) →
    K D) ∧
  ((a3 < 1000) →
    z_c n d 61 [.ref 0, .int (z_i (z_b true))] D (z_qI (fun v3 D2 => 
      z_c n d 55 [.ref 0, .int (z_i v3)] D2 (z_qI (fun v5 D4 => 
        (z_r v5) ∧
        ((v5 < 13) →
          w_tPass_42 n d b1 a2 a3 v5 D4 H4 K T) ∧
        ((13 ≤ v5) →
          ((16 < v5) →
            w_tPass_42 n d b1 a2 a3 v5 D4 H4 K T) ∧
          ((v5 ≤ 16) →
            w_tPass_52 n d b1 (a2 + 1) a3 v5 D4 H4 K T))) T)) T))
theorem v_tPass_4 {n d : Nat} {X : z_Xt} {b1 : Bool} {a2 : Int} {a3 : Int} {o4 : Option Value} {D : z_D} {H4 : Bool → Int → Int → z_D → Prop} {K : z_D → Prop} {T : Nat → z_D → Prop} (hH4 : ∀ (b1 : Bool) (a2 : Int) (a3 : Int) (o4 : Option Value) (D : z_D), z_nl o4 → H4 b1 a2 a3 D → z_w n d (k_tb 89) X 4 [some (.ref 0), some (.int (z_i (z_b b1))), some (.int (z_i a2)), some (.int (z_i a3)), o4] [] D (z_qV K T)) (n4 : z_nl o4) (h : w_tPass_4 n d b1 a2 a3 D H4 K T) : z_w n d (k_tb 89) X 4 [some (.ref 0), some (.int (z_i (z_b b1))), some (.int (z_i a2)), some (.int (z_i a3)), o4] [] D (z_qV K T) := by
  unfold w_tPass_4 at h
  refine zs_iload rfl rfl ?_
  refine zs_pushI (1000) rfl rfl ?_
  obtain ⟨g1, h⟩ := h
  obtain ⟨h11, h12⟩ := h
  refine zs_cge rfl g1 (z_rk rfl) (fun c => ?_) (fun c => ?_)
  · have h := h11 c
    exact zs_ret rfl h
  · have h := h12 c
    refine zs_aload rfl rfl ?_
    refine zs_aload rfl rfl ?_
    refine zs_pushI (1) rfl rfl ?_
    refine z_callV (k := 0) (as0 := [.int (z_i (z_b true))]) (r := [.ref 0]) rfl rfl rfl (Nat.le_of_ble_eq_true rfl) (z_oI h (fun v3 D2 h => ?_) (fun _ _ h => h))
    refine z_callV (k := 0) (as0 := [.int (z_i v3)]) (r := []) rfl rfl rfl (Nat.le_of_ble_eq_true rfl) (z_oI h (fun v5 D4 h => ?_) (fun _ _ h => h))
    refine zs_istore (ls1 := [some (.ref 0), some (.int (z_i (z_b b1))), some (.int (z_i a2)), some (.int (z_i a3)), some (.int (z_i v5))]) rfl rfl rfl ?_
    refine zs_iload rfl rfl ?_
    refine zs_pushI (13) rfl rfl ?_
    obtain ⟨g6, h⟩ := h
    obtain ⟨h9, h10⟩ := h
    refine zs_clt rfl g6 (z_rk rfl) (fun c => ?_) (fun c => ?_)
    · have h := h9 c
      exact v_tPass_42 hH4 h
    · have h := h10 c
      refine zs_iload rfl rfl ?_
      refine zs_pushI (16) rfl rfl ?_
      obtain ⟨h7, h8⟩ := h
      refine zs_cgt rfl g6 (z_rk rfl) (fun c => ?_) (fun c => ?_)
      · have h := h7 c
        exact v_tPass_42 hH4 h
      · have h := h8 c
        refine zs_iinc (a := a2) (1) (ls1 := [some (.ref 0), some (.int (z_i (z_b b1))), some (.int (z_i (a2 + 1))), some (.int (z_i a3)), some (.int (z_i v5))]) rfl rfl rfl rfl ?_
        refine zs_goto rfl ?_
        exact v_tPass_52 hH4 h
theorem r_tPass {n d : Nat} {b1 : Bool} {D : z_D} {K : z_D → Prop} {T : Nat → z_D → Prop}  (I4 : Nat → Bool → Int → Int → z_D → Prop) (hE : w_tPass_0 n d b1 D (fun b1 a2 a3 D => ∃ m, I4 m b1 a2 a3 D) K T) (h4 : ∀ (mm : Nat) (b1 : Bool) (a2 : Int) (a3 : Int) (D : z_D), I4 mm b1 a2 a3 D → w_tPass_4 n d b1 a2 a3 D (fun b1 a2 a3 D => ∃ m, m < mm ∧ I4 m b1 a2 a3 D) K T) : z_c n (d + 1) 89 [.ref 0, .int (z_i (z_b b1))] D (z_qV K T) := by
  refine z_enter (Nat.le_of_ble_eq_true rfl) rfl (fun X => ?_)
  have key : ∀ m, (∀ (b1 : Bool) (a2 : Int) (a3 : Int) (o4 : Option Value) (D : z_D), z_nl o4 → I4 m b1 a2 a3 D → z_w n d (k_tb 89) X 4 [some (.ref 0), some (.int (z_i (z_b b1))), some (.int (z_i a2)), some (.int (z_i a3)), o4] [] D (z_qV K T)) := by
    intro m
    induction m using Nat.strongRecOn with
    | _ mm ih =>
      exact fun b1 a2 a3 o4 D n4 hI => v_tPass_4 (fun b1 a2 a3 o4 D n4 ⟨m, hm, hI⟩ => (ih m hm) _ _ _ _ _ n4 hI) n4 (h4 mm b1 a2 a3 D hI)
  exact v_tPass_0 (fun b1 a2 a3 o4 D n4 ⟨m, hI⟩ => (key m) _ _ _ _ _ n4 hI) hE
