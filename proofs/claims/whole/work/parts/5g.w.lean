/-! what the methods mean; printed by wip/whole/dec.py -/
-- 92: TokenMouthModel.start()V
def w_mStart_0 (n d : Nat)  (D : z_D) (H63 : Int → z_D → Prop) (K : z_D → Prop) (T : Nat → z_D → Prop) : Prop :=
  ∀ D1, D1 = z_uz D 336 3 0 →
  ∀ D2, D2 = z_uz D1 336 4 0 →
  ∀ D3, D3 = z_uz D2 336 5 0 →
  ∀ D4, D4 = z_uz D3 336 6 0 →
  ∀ D5, D5 = z_uz D4 336 9 0 →
  ∀ D6, D6 = z_uz D5 336 18 0 →
  ∀ D7, D7 = z_uz D6 336 19 0 →
  ∀ D8, D8 = z_uz D7 336 23 0 →
  ∀ D9, D9 = z_uz D8 336 29 0 →
  ∀ D10, D10 = z_uz D9 336 31 0 →
  ∀ D11, D11 = z_uz D10 336 37 0 →
  ∀ D12, D12 = z_uz D11 336 11 18 →
  H63 0 D12
theorem v_mStart_0 {n d : Nat} {X : z_Xt}   {D : z_D} {H63 : Int → z_D → Prop} {K : z_D → Prop} {T : Nat → z_D → Prop} (hH63 : ∀ (a1 : Int) (D : z_D), H63 a1 D → z_w n d (k_tb 92) X 63 [some (.ref 336), some (.int (z_i a1))] [] D (z_qV K T)) (h : w_mStart_0 n d D H63 K T) : z_w n d (k_tb 92) X 0 [some (.ref 336), none] [] D (z_qV K T) := by
  unfold w_mStart_0 at h
  refine zs_aload rfl rfl ?_
  refine zs_pushI (0) rfl rfl ?_
  refine zs_putI rfl rfl (fun D1 eD1 => ?_)
  have h := h D1 eD1
  refine zs_aload rfl rfl ?_
  refine zs_pushI (0) rfl rfl ?_
  refine zs_putI rfl rfl (fun D2 eD2 => ?_)
  have h := h D2 eD2
  refine zs_aload rfl rfl ?_
  refine zs_pushI (0) rfl rfl ?_
  refine zs_putI rfl rfl (fun D3 eD3 => ?_)
  have h := h D3 eD3
  refine zs_aload rfl rfl ?_
  refine zs_pushI (0) rfl rfl ?_
  refine zs_putI rfl rfl (fun D4 eD4 => ?_)
  have h := h D4 eD4
  refine zs_aload rfl rfl ?_
  refine zs_pushI (0) rfl rfl ?_
  refine zs_putI rfl rfl (fun D5 eD5 => ?_)
  have h := h D5 eD5
  refine zs_aload rfl rfl ?_
  refine zs_pushI (0) rfl rfl ?_
  refine zs_putI rfl rfl (fun D6 eD6 => ?_)
  have h := h D6 eD6
  refine zs_aload rfl rfl ?_
  refine zs_pushI (0) rfl rfl ?_
  refine zs_putI rfl rfl (fun D7 eD7 => ?_)
  have h := h D7 eD7
  refine zs_aload rfl rfl ?_
  refine zs_pushI (0) rfl rfl ?_
  refine zs_putI rfl rfl (fun D8 eD8 => ?_)
  have h := h D8 eD8
  refine zs_aload rfl rfl ?_
  refine zs_pushI (0) rfl rfl ?_
  refine zs_putI rfl rfl (fun D9 eD9 => ?_)
  have h := h D9 eD9
  refine zs_aload rfl rfl ?_
  refine zs_pushI (0) rfl rfl ?_
  refine zs_putI rfl rfl (fun D10 eD10 => ?_)
  have h := h D10 eD10
  refine zs_aload rfl rfl ?_
  refine zs_pushI (0) rfl rfl ?_
  refine zs_putI rfl rfl (fun D11 eD11 => ?_)
  have h := h D11 eD11
  refine zs_aload rfl rfl ?_
  refine zs_pushI (18) rfl rfl ?_
  refine zs_putI rfl rfl (fun D12 eD12 => ?_)
  have h := h D12 eD12
  refine zs_pushI (0) rfl rfl ?_
  refine zs_istore (ls1 := [some (.ref 336), some (.int (z_i 0))]) rfl rfl rfl ?_
  exact hH63 _  _  h
def w_mStart_120 (n d : Nat) (a1 : Int) (s1 : Int) (D : z_D) (H96 : Int → z_D → Prop) (K : z_D → Prop) (T : Nat → z_D → Prop) : Prop :=
  (z_r a1) ∧
  ((a1 < 65) →
    (0 ≤ s1 ∧ s1 < 128) ∧
    ∀ D3, D3 = z_uz D 338 (Int.toNat s1) 12 →
    H96 (a1 + 1) D3) ∧
  ((65 ≤ a1) →
    ((90 < a1) →
      (0 ≤ s1 ∧ s1 < 128) ∧
      ∀ D5, D5 = z_uz D 338 (Int.toNat s1) 12 →
      H96 (a1 + 1) D5) ∧
    ((a1 ≤ 90) →
      (0 ≤ s1 ∧ s1 < 128) ∧
      ∀ D7, D7 = z_uz D 338 (Int.toNat s1) 11 →
      H96 (a1 + 1) D7))
theorem v_mStart_120 {n d : Nat} {X : z_Xt} {a1 : Int} {s1 : Int}  {D : z_D} {H96 : Int → z_D → Prop} {K : z_D → Prop} {T : Nat → z_D → Prop} (hH96 : ∀ (a1 : Int) (D : z_D), H96 a1 D → z_w n d (k_tb 92) X 96 [some (.ref 336), some (.int (z_i a1))] [] D (z_qV K T)) (h : w_mStart_120 n d a1 s1 D H96 K T) : z_w n d (k_tb 92) X 120 [some (.ref 336), some (.int (z_i a1))] [.int (z_i s1), .ref 338] D (z_qV K T) := by
  unfold w_mStart_120 at h
  refine zs_iload rfl rfl ?_
  refine zs_pushI (65) rfl rfl ?_
  obtain ⟨g1, h⟩ := h
  obtain ⟨h10, h11⟩ := h
  refine zs_clt rfl g1 (z_rk rfl) (fun c => ?_) (fun c => ?_)
  · have h := h10 c
    refine zs_pushI (12) rfl rfl ?_
    obtain ⟨g2, h⟩ := h
    refine zs_iast rfl rfl (by decide) g2 (fun D3 eD3 => ?_)
    have h := h D3 eD3
    refine zs_iinc (a := a1) (1) (ls1 := [some (.ref 336), some (.int (z_i (a1 + 1)))]) rfl rfl rfl rfl ?_
    refine zs_goto rfl ?_
    exact hH96 _  _  h
  · have h := h11 c
    refine zs_iload rfl rfl ?_
    refine zs_pushI (90) rfl rfl ?_
    obtain ⟨h8, h9⟩ := h
    refine zs_cgt rfl g1 (z_rk rfl) (fun c => ?_) (fun c => ?_)
    · have h := h8 c
      refine zs_pushI (12) rfl rfl ?_
      obtain ⟨g4, h⟩ := h
      refine zs_iast rfl rfl (by decide) g4 (fun D5 eD5 => ?_)
      have h := h D5 eD5
      refine zs_iinc (a := a1) (1) (ls1 := [some (.ref 336), some (.int (z_i (a1 + 1)))]) rfl rfl rfl rfl ?_
      refine zs_goto rfl ?_
      exact hH96 _  _  h
    · have h := h9 c
      refine zs_pushI (11) rfl rfl ?_
      refine zs_goto rfl ?_
      obtain ⟨g6, h⟩ := h
      refine zs_iast rfl rfl (by decide) g6 (fun D7 eD7 => ?_)
      have h := h D7 eD7
      refine zs_iinc (a := a1) (1) (ls1 := [some (.ref 336), some (.int (z_i (a1 + 1)))]) rfl rfl rfl rfl ?_
      refine zs_goto rfl ?_
      exact hH96 _  _  h
def w_mStart_63 (n d : Nat) (a1 : Int) (D : z_D) (H63 : Int → z_D → Prop) (H96 : Int → z_D → Prop) (K : z_D → Prop) (T : Nat → z_D → Prop) : Prop :=
  (z_r a1) ∧
  ((120 ≤ a1) →
    H96 0 D) ∧
  ((a1 < 120) →
    ((18 ≤ a1) →
      (0 ≤ a1 ∧ a1 < 120) ∧
      ∀ D3, D3 = z_uz D 343 (Int.toNat a1) 0 →
      H63 (a1 + 1) D3) ∧
    ((a1 < 18) →
      (0 ≤ a1 ∧ a1 < 120) ∧
      ∀ D5, D5 = z_uz D 343 (Int.toNat a1) (a1 + 1) →
      H63 (a1 + 1) D5))
theorem v_mStart_63 {n d : Nat} {X : z_Xt} {a1 : Int}  {D : z_D} {H63 : Int → z_D → Prop} {H96 : Int → z_D → Prop} {K : z_D → Prop} {T : Nat → z_D → Prop} (hH63 : ∀ (a1 : Int) (D : z_D), H63 a1 D → z_w n d (k_tb 92) X 63 [some (.ref 336), some (.int (z_i a1))] [] D (z_qV K T)) (hH96 : ∀ (a1 : Int) (D : z_D), H96 a1 D → z_w n d (k_tb 92) X 96 [some (.ref 336), some (.int (z_i a1))] [] D (z_qV K T)) (h : w_mStart_63 n d a1 D H63 H96 K T) : z_w n d (k_tb 92) X 63 [some (.ref 336), some (.int (z_i a1))] [] D (z_qV K T) := by
  unfold w_mStart_63 at h
  refine zs_iload rfl rfl ?_
  refine zs_pushI (120) rfl rfl ?_
  obtain ⟨g1, h⟩ := h
  obtain ⟨h8, h9⟩ := h
  refine zs_cge rfl g1 (z_rk rfl) (fun c => ?_) (fun c => ?_)
  · have h := h8 c
    refine zs_pushI (0) rfl rfl ?_
    refine zs_istore (ls1 := [some (.ref 336), some (.int (z_i 0))]) rfl rfl rfl ?_
    exact hH96 _  _  h
  · have h := h9 c
    refine zs_aload rfl rfl ?_
    refine zs_getR (x := 343) rfl rfl rfl ?_
    refine zs_iload rfl rfl ?_
    refine zs_iload rfl rfl ?_
    refine zs_pushI (18) rfl rfl ?_
    obtain ⟨h6, h7⟩ := h
    refine zs_cge rfl g1 (z_rk rfl) (fun c => ?_) (fun c => ?_)
    · have h := h6 c
      refine zs_pushI (0) rfl rfl ?_
      obtain ⟨g2, h⟩ := h
      refine zs_iast rfl rfl (by decide) g2 (fun D3 eD3 => ?_)
      have h := h D3 eD3
      refine zs_iinc (a := a1) (1) (ls1 := [some (.ref 336), some (.int (z_i (a1 + 1)))]) rfl rfl rfl rfl ?_
      refine zs_goto rfl ?_
      exact hH63 _  _  h
    · have h := h7 c
      refine zs_iload rfl rfl ?_
      refine zs_pushI (1) rfl rfl ?_
      refine zs_add (a := a1) (b := 1) rfl ?_
      refine zs_goto rfl ?_
      obtain ⟨g4, h⟩ := h
      refine zs_iast rfl rfl (by decide) g4 (fun D5 eD5 => ?_)
      have h := h D5 eD5
      refine zs_iinc (a := a1) (1) (ls1 := [some (.ref 336), some (.int (z_i (a1 + 1)))]) rfl rfl rfl rfl ?_
      refine zs_goto rfl ?_
      exact hH63 _  _  h
def w_mStart_96 (n d : Nat) (a1 : Int) (D : z_D) (H96 : Int → z_D → Prop) (K : z_D → Prop) (T : Nat → z_D → Prop) : Prop :=
  (z_r a1) ∧
  ((128 ≤ a1) →
    ∀ D2, D2 = z_uz D 338 92 0 →
    ∀ D3, D3 = z_uz D2 338 123 1 →
    ∀ D4, D4 = z_uz D3 338 125 2 →
    ∀ D5, D5 = z_uz D4 338 36 3 →
    ∀ D6, D6 = z_uz D5 338 38 4 →
    ∀ D7, D7 = z_uz D6 338 10 5 →
    ∀ D8, D8 = z_uz D7 338 35 6 →
    ∀ D9, D9 = z_uz D8 338 94 7 →
    ∀ D10, D10 = z_uz D9 338 95 8 →
    ∀ D11, D11 = z_uz D10 338 32 10 →
    ∀ D12, D12 = z_uz D11 338 126 13 →
    ∀ D13, D13 = z_uz D12 338 37 14 →
    K D13) ∧
  ((a1 < 128) →
    ((a1 < 97) →
      w_mStart_120 n d a1 a1 D H96 K T) ∧
    ((97 ≤ a1) →
      ((a1 ≤ 122) →
        (0 ≤ a1 ∧ a1 < 128) ∧
        ∀ D15, D15 = z_uz D 338 (Int.toNat a1) 11 →
        H96 (a1 + 1) D15) ∧
      ((122 < a1) →
        w_mStart_120 n d a1 a1 D H96 K T)))
theorem v_mStart_96 {n d : Nat} {X : z_Xt} {a1 : Int}  {D : z_D} {H96 : Int → z_D → Prop} {K : z_D → Prop} {T : Nat → z_D → Prop} (hH96 : ∀ (a1 : Int) (D : z_D), H96 a1 D → z_w n d (k_tb 92) X 96 [some (.ref 336), some (.int (z_i a1))] [] D (z_qV K T)) (h : w_mStart_96 n d a1 D H96 K T) : z_w n d (k_tb 92) X 96 [some (.ref 336), some (.int (z_i a1))] [] D (z_qV K T) := by
  unfold w_mStart_96 at h
  refine zs_iload rfl rfl ?_
  refine zs_pushI (128) rfl rfl ?_
  obtain ⟨g1, h⟩ := h
  obtain ⟨h20, h21⟩ := h
  refine zs_cge rfl g1 (z_rk rfl) (fun c => ?_) (fun c => ?_)
  · have h := h20 c
    refine zs_aload rfl rfl ?_
    refine zs_getR (x := 338) rfl rfl rfl ?_
    refine zs_pushI (92) rfl rfl ?_
    refine zs_pushI (0) rfl rfl ?_
    refine zs_iast rfl rfl (by decide) (by decide) (fun D2 eD2 => ?_)
    have h := h D2 eD2
    refine zs_aload rfl rfl ?_
    refine zs_getR (x := 338) rfl rfl rfl ?_
    refine zs_pushI (123) rfl rfl ?_
    refine zs_pushI (1) rfl rfl ?_
    refine zs_iast rfl rfl (by decide) (by decide) (fun D3 eD3 => ?_)
    have h := h D3 eD3
    refine zs_aload rfl rfl ?_
    refine zs_getR (x := 338) rfl rfl rfl ?_
    refine zs_pushI (125) rfl rfl ?_
    refine zs_pushI (2) rfl rfl ?_
    refine zs_iast rfl rfl (by decide) (by decide) (fun D4 eD4 => ?_)
    have h := h D4 eD4
    refine zs_aload rfl rfl ?_
    refine zs_getR (x := 338) rfl rfl rfl ?_
    refine zs_pushI (36) rfl rfl ?_
    refine zs_pushI (3) rfl rfl ?_
    refine zs_iast rfl rfl (by decide) (by decide) (fun D5 eD5 => ?_)
    have h := h D5 eD5
    refine zs_aload rfl rfl ?_
    refine zs_getR (x := 338) rfl rfl rfl ?_
    refine zs_pushI (38) rfl rfl ?_
    refine zs_pushI (4) rfl rfl ?_
    refine zs_iast rfl rfl (by decide) (by decide) (fun D6 eD6 => ?_)
    have h := h D6 eD6
    refine zs_aload rfl rfl ?_
    refine zs_getR (x := 338) rfl rfl rfl ?_
    refine zs_pushI (10) rfl rfl ?_
    refine zs_pushI (5) rfl rfl ?_
    refine zs_iast rfl rfl (by decide) (by decide) (fun D7 eD7 => ?_)
    have h := h D7 eD7
    refine zs_aload rfl rfl ?_
    refine zs_getR (x := 338) rfl rfl rfl ?_
    refine zs_pushI (35) rfl rfl ?_
    refine zs_pushI (6) rfl rfl ?_
    refine zs_iast rfl rfl (by decide) (by decide) (fun D8 eD8 => ?_)
    have h := h D8 eD8
    refine zs_aload rfl rfl ?_
    refine zs_getR (x := 338) rfl rfl rfl ?_
    refine zs_pushI (94) rfl rfl ?_
    refine zs_pushI (7) rfl rfl ?_
    refine zs_iast rfl rfl (by decide) (by decide) (fun D9 eD9 => ?_)
    have h := h D9 eD9
    refine zs_aload rfl rfl ?_
    refine zs_getR (x := 338) rfl rfl rfl ?_
    refine zs_pushI (95) rfl rfl ?_
    refine zs_pushI (8) rfl rfl ?_
    refine zs_iast rfl rfl (by decide) (by decide) (fun D10 eD10 => ?_)
    have h := h D10 eD10
    refine zs_aload rfl rfl ?_
    refine zs_getR (x := 338) rfl rfl rfl ?_
    refine zs_pushI (32) rfl rfl ?_
    refine zs_pushI (10) rfl rfl ?_
    refine zs_iast rfl rfl (by decide) (by decide) (fun D11 eD11 => ?_)
    have h := h D11 eD11
    refine zs_aload rfl rfl ?_
    refine zs_getR (x := 338) rfl rfl rfl ?_
    refine zs_pushI (126) rfl rfl ?_
    refine zs_pushI (13) rfl rfl ?_
    refine zs_iast rfl rfl (by decide) (by decide) (fun D12 eD12 => ?_)
    have h := h D12 eD12
    refine zs_aload rfl rfl ?_
    refine zs_getR (x := 338) rfl rfl rfl ?_
    refine zs_pushI (37) rfl rfl ?_
    refine zs_pushI (14) rfl rfl ?_
    refine zs_iast rfl rfl (by decide) (by decide) (fun D13 eD13 => ?_)
    have h := h D13 eD13
    exact zs_ret rfl h
  · have h := h21 c
    refine zs_aload rfl rfl ?_
    refine zs_getR (x := 338) rfl rfl rfl ?_
    refine zs_iload rfl rfl ?_
    refine zs_iload rfl rfl ?_
    refine zs_pushI (97) rfl rfl ?_
    obtain ⟨h18, h19⟩ := h
    refine zs_clt rfl g1 (z_rk rfl) (fun c => ?_) (fun c => ?_)
    · have h := h18 c
      exact v_mStart_120 hH96 h
    · have h := h19 c
      refine zs_iload rfl rfl ?_
      refine zs_pushI (122) rfl rfl ?_
      obtain ⟨h16, h17⟩ := h
      refine zs_cle rfl g1 (z_rk rfl) (fun c => ?_) (fun c => ?_)
      · have h := h16 c
        refine zs_pushI (11) rfl rfl ?_
        refine zs_goto rfl ?_
        obtain ⟨g14, h⟩ := h
        refine zs_iast rfl rfl (by decide) g14 (fun D15 eD15 => ?_)
        have h := h D15 eD15
        refine zs_iinc (a := a1) (1) (ls1 := [some (.ref 336), some (.int (z_i (a1 + 1)))]) rfl rfl rfl rfl ?_
        refine zs_goto rfl ?_
        exact hH96 _  _  h
      · have h := h17 c
        exact v_mStart_120 hH96 h
theorem r_mStart {n d : Nat}  {D : z_D} {K : z_D → Prop} {T : Nat → z_D → Prop}  (I63 : Nat → Int → z_D → Prop) (I96 : Nat → Int → z_D → Prop) (hE : w_mStart_0 n d D (fun a1 D => ∃ m, I63 m a1 D) K T) (h63 : ∀ (mm : Nat) (a1 : Int) (D : z_D), I63 mm a1 D → w_mStart_63 n d a1 D (fun a1 D => ∃ m, m < mm ∧ I63 m a1 D) (fun a1 D => ∃ m, m < mm ∧ I96 m a1 D) K T) (h96 : ∀ (mm : Nat) (a1 : Int) (D : z_D), I96 mm a1 D → w_mStart_96 n d a1 D (fun a1 D => ∃ m, m < mm ∧ I96 m a1 D) K T) : z_c n (d + 1) 92 [.ref 336] D (z_qV K T) := by
  refine z_enter (Nat.le_of_ble_eq_true rfl) rfl (fun X => ?_)
  have key : ∀ m, (∀ (a1 : Int) (D : z_D), I63 m a1 D → z_w n d (k_tb 92) X 63 [some (.ref 336), some (.int (z_i a1))] [] D (z_qV K T)) ∧ (∀ (a1 : Int) (D : z_D), I96 m a1 D → z_w n d (k_tb 92) X 96 [some (.ref 336), some (.int (z_i a1))] [] D (z_qV K T)) := by
    intro m
    induction m using Nat.strongRecOn with
    | _ mm ih =>
      exact ⟨fun a1 D hI => v_mStart_63 (fun a1 D ⟨m, hm, hI⟩ => (ih m hm).1 _ _  hI) (fun a1 D ⟨m, hm, hI⟩ => (ih m hm).2 _ _  hI) (h63 mm a1 D hI), fun a1 D hI => v_mStart_96 (fun a1 D ⟨m, hm, hI⟩ => (ih m hm).2 _ _  hI) (h96 mm a1 D hI)⟩
  exact v_mStart_0 (fun a1 D ⟨m, hI⟩ => (key m).1 _ _  hI) hE
-- 93: TokenMouthModel.thrown()I
def w_mThrown_0 (n d : Nat)  (D : z_D)  (K : Int → z_D → Prop) (T : Nat → z_D → Prop) : Prop :=
  K (D.1 336 0) D
theorem v_mThrown_0 {n d : Nat} {X : z_Xt}   {D : z_D}  {K : Int → z_D → Prop} {T : Nat → z_D → Prop}  (h : w_mThrown_0 n d D K T) : z_w n d (k_tb 93) X 0 [some (.ref 336)] [] D (z_qI K T) := by
  unfold w_mThrown_0 at h
  refine zs_aload rfl rfl ?_
  refine zs_getI rfl rfl ?_
  exact zs_iret rfl h
theorem r_mThrown {n d : Nat}  {D : z_D} {K : Int → z_D → Prop} {T : Nat → z_D → Prop}  (h : w_mThrown_0 n d D K T) : z_c n (d + 1) 93 [.ref 336] D (z_qI K T) :=
  z_enter (Nat.le_of_ble_eq_true rfl) rfl (fun X => v_mThrown_0 h)
-- 94: TokenMouthModel.isCode(I)Z
def w_mIsCode_0 (n d : Nat) (a0 : Int) (D : z_D)  (K : Bool → z_D → Prop) (T : Nat → z_D → Prop) : Prop :=
  (z_r a0) ∧
  ((a0 = 10) →
    K true D) ∧
  ((¬ a0 = 10) →
    ((a0 ≤ 31) →
      K false D) ∧
    ((31 < a0) →
      ((127 ≤ a0) →
        K false D) ∧
      ((a0 < 127) →
        K true D)))
theorem v_mIsCode_0 {n d : Nat} {X : z_Xt} {a0 : Int}  {D : z_D}  {K : Bool → z_D → Prop} {T : Nat → z_D → Prop}  (h : w_mIsCode_0 n d a0 D K T) : z_w n d (k_tb 94) X 0 [some (.int (z_i a0))] [] D (z_qZ K T) := by
  unfold w_mIsCode_0 at h
  refine zs_iload rfl rfl ?_
  refine zs_pushI (10) rfl rfl ?_
  obtain ⟨g1, h⟩ := h
  obtain ⟨h6, h7⟩ := h
  refine zs_ceq rfl g1 (z_rk rfl) (fun c => ?_) (fun c => ?_)
  · have h := h6 c
    refine zs_pushI (1) rfl rfl ?_
    refine zs_goto rfl ?_
    exact zs_zret (b := true) rfl h
  · have h := h7 c
    refine zs_iload rfl rfl ?_
    refine zs_pushI (31) rfl rfl ?_
    obtain ⟨h4, h5⟩ := h
    refine zs_cle rfl g1 (z_rk rfl) (fun c => ?_) (fun c => ?_)
    · have h := h4 c
      refine zs_pushI (0) rfl rfl ?_
      exact zs_zret (b := false) rfl h
    · have h := h5 c
      refine zs_iload rfl rfl ?_
      refine zs_pushI (127) rfl rfl ?_
      obtain ⟨h2, h3⟩ := h
      refine zs_cge rfl g1 (z_rk rfl) (fun c => ?_) (fun c => ?_)
      · have h := h2 c
        refine zs_pushI (0) rfl rfl ?_
        exact zs_zret (b := false) rfl h
      · have h := h3 c
        refine zs_pushI (1) rfl rfl ?_
        refine zs_goto rfl ?_
        exact zs_zret (b := true) rfl h
theorem r_mIsCode {n d : Nat} {a0 : Int} {D : z_D} {K : Bool → z_D → Prop} {T : Nat → z_D → Prop}  (h : w_mIsCode_0 n d a0 D K T) : z_c n (d + 1) 94 [.int (z_i a0)] D (z_qZ K T) :=
  z_enter (Nat.le_of_ble_eq_true rfl) rfl (fun X => v_mIsCode_0 h)
-- 95: TokenMouthModel.type(J)Z
def w_mType_0 (n d : Nat) (a1 : Int64) (D : z_D) (H24 : Int64 → Int → Bool → Int → z_D → Prop) (K : Bool → z_D → Prop) (T : Nat → z_D → Prop) : Prop :=
  ∀ D1, D1 = z_uz D 336 0 0 →
  (z_r (D1.1 336 6)) ∧
  ((¬ (D1.1 336 6) = 0) →
    H24 a1 0 false 0 D1) ∧
  (((D1.1 336 6) = 0) →
    H24 a1 0 true 0 D1)
theorem v_mType_0 {n d : Nat} {X : z_Xt} {a1 : Int64}  {D : z_D} {H24 : Int64 → Int → Bool → Int → z_D → Prop} {K : Bool → z_D → Prop} {T : Nat → z_D → Prop} (hH24 : ∀ (a1 : Int64) (a3 : Int) (b4 : Bool) (a5 : Int) (o6 : Option Value) (D : z_D), z_nl o6 → H24 a1 a3 b4 a5 D → z_w n d (k_tb 95) X 24 [some (.ref 336), some (.long a1), none, some (.int (z_i a3)), some (.int (z_i (z_b b4))), some (.int (z_i a5)), o6] [] D (z_qZ K T)) (h : w_mType_0 n d a1 D H24 K T) : z_w n d (k_tb 95) X 0 [some (.ref 336), some (.long a1), none, none, none, none, none] [] D (z_qZ K T) := by
  unfold w_mType_0 at h
  refine zs_aload rfl rfl ?_
  refine zs_pushI (0) rfl rfl ?_
  refine zs_putI rfl rfl (fun D1 eD1 => ?_)
  have h := h D1 eD1
  refine zs_pushI (0) rfl rfl ?_
  refine zs_istore (ls1 := [some (.ref 336), some (.long a1), none, some (.int (z_i 0)), none, none, none]) rfl rfl rfl ?_
  refine zs_aload rfl rfl ?_
  refine zs_getI rfl rfl ?_
  obtain ⟨g2, h⟩ := h
  obtain ⟨h3, h4⟩ := h
  refine zs_ifne rfl g2 (fun c => ?_) (fun c => ?_)
  · have h := h3 c
    refine zs_pushI (0) rfl rfl ?_
    refine zs_istore (ls1 := [some (.ref 336), some (.long a1), none, some (.int (z_i 0)), some (.int (z_i 0)), none, none]) rfl rfl rfl ?_
    refine zs_pushI (0) rfl rfl ?_
    refine zs_istore (ls1 := [some (.ref 336), some (.long a1), none, some (.int (z_i 0)), some (.int (z_i 0)), some (.int (z_i 0)), none]) rfl rfl rfl ?_
    exact hH24 _ _ _ _ _ _ (by first | assumption | exact trivial) h
  · have h := h4 c
    refine zs_pushI (1) rfl rfl ?_
    refine zs_goto rfl ?_
    refine zs_istore (ls1 := [some (.ref 336), some (.long a1), none, some (.int (z_i 0)), some (.int (z_i 1)), none, none]) rfl rfl rfl ?_
    refine zs_pushI (0) rfl rfl ?_
    refine zs_istore (ls1 := [some (.ref 336), some (.long a1), none, some (.int (z_i 0)), some (.int (z_i 1)), some (.int (z_i 0)), none]) rfl rfl rfl ?_
    exact hH24 _ _ _ _ _ _ (by first | assumption | exact trivial) h
def w_mType_68 (n d : Nat) (a1 : Int64) (a3 : Int) (a5 : Int) (a6 : Int) (s0 : Bool) (D : z_D) (H24 : Int64 → Int → Bool → Int → z_D → Prop) (K : Bool → z_D → Prop) (T : Nat → z_D → Prop) : Prop :=
  (z_r a6) ∧
  ((¬ a6 = 0) →
    H24 a1 (a3 + 1) s0 (a5 + 1) D) ∧
  ((a6 = 0) →
    H24 a1 (a3 + 0) s0 (a5 + 1) D)
theorem v_mType_68 {n d : Nat} {X : z_Xt} {a1 : Int64} {a3 : Int} {a5 : Int} {a6 : Int} {s0 : Bool} {o4 : Option Value} {D : z_D} {H24 : Int64 → Int → Bool → Int → z_D → Prop} {K : Bool → z_D → Prop} {T : Nat → z_D → Prop} (hH24 : ∀ (a1 : Int64) (a3 : Int) (b4 : Bool) (a5 : Int) (o6 : Option Value) (D : z_D), z_nl o6 → H24 a1 a3 b4 a5 D → z_w n d (k_tb 95) X 24 [some (.ref 336), some (.long a1), none, some (.int (z_i a3)), some (.int (z_i (z_b b4))), some (.int (z_i a5)), o6] [] D (z_qZ K T)) (n4 : z_nl o4) (h : w_mType_68 n d a1 a3 a5 a6 s0 D H24 K T) : z_w n d (k_tb 95) X 68 [some (.ref 336), some (.long a1), none, some (.int (z_i a3)), o4, some (.int (z_i a5)), some (.int (z_i a6))] [.int (z_i (z_b s0))] D (z_qZ K T) := by
  unfold w_mType_68 at h
  refine zs_istore (ls1 := [some (.ref 336), some (.long a1), none, some (.int (z_i a3)), some (.int (z_i (z_b s0))), some (.int (z_i a5)), some (.int (z_i a6))]) rfl rfl rfl ?_
  refine zs_iload rfl rfl ?_
  refine zs_iload rfl rfl ?_
  obtain ⟨g1, h⟩ := h
  obtain ⟨h2, h3⟩ := h
  refine zs_ifne rfl g1 (fun c => ?_) (fun c => ?_)
  · have h := h2 c
    refine zs_pushI (1) rfl rfl ?_
    refine zs_add (a := a3) (b := 1) rfl ?_
    refine zs_istore (ls1 := [some (.ref 336), some (.long a1), none, some (.int (z_i (a3 + 1))), some (.int (z_i (z_b s0))), some (.int (z_i a5)), some (.int (z_i a6))]) rfl rfl rfl ?_
    refine zs_iinc (a := a5) (1) (ls1 := [some (.ref 336), some (.long a1), none, some (.int (z_i (a3 + 1))), some (.int (z_i (z_b s0))), some (.int (z_i (a5 + 1))), some (.int (z_i a6))]) rfl rfl rfl rfl ?_
    refine zs_goto rfl ?_
    exact hH24 _ _ _ _ _ _ (by first | assumption | exact trivial) h
  · have h := h3 c
    refine zs_pushI (0) rfl rfl ?_
    refine zs_goto rfl ?_
    refine zs_add (a := a3) (b := 0) rfl ?_
    refine zs_istore (ls1 := [some (.ref 336), some (.long a1), none, some (.int (z_i (a3 + 0))), some (.int (z_i (z_b s0))), some (.int (z_i a5)), some (.int (z_i a6))]) rfl rfl rfl ?_
    refine zs_iinc (a := a5) (1) (ls1 := [some (.ref 336), some (.long a1), none, some (.int (z_i (a3 + 0))), some (.int (z_i (z_b s0))), some (.int (z_i (a5 + 1))), some (.int (z_i a6))]) rfl rfl rfl rfl ?_
    refine zs_goto rfl ?_
    exact hH24 _ _ _ _ _ _ (by first | assumption | exact trivial) h
def w_mType_63 (n d : Nat) (a1 : Int64) (a3 : Int) (a5 : Int) (a6 : Int) (D : z_D) (H24 : Int64 → Int → Bool → Int → z_D → Prop) (K : Bool → z_D → Prop) (T : Nat → z_D → Prop) : Prop :=
  w_mType_68 n d a1 a3 a5 a6 true D H24 K T
theorem v_mType_63 {n d : Nat} {X : z_Xt} {a1 : Int64} {a3 : Int} {a5 : Int} {a6 : Int} {o4 : Option Value} {D : z_D} {H24 : Int64 → Int → Bool → Int → z_D → Prop} {K : Bool → z_D → Prop} {T : Nat → z_D → Prop} (hH24 : ∀ (a1 : Int64) (a3 : Int) (b4 : Bool) (a5 : Int) (o6 : Option Value) (D : z_D), z_nl o6 → H24 a1 a3 b4 a5 D → z_w n d (k_tb 95) X 24 [some (.ref 336), some (.long a1), none, some (.int (z_i a3)), some (.int (z_i (z_b b4))), some (.int (z_i a5)), o6] [] D (z_qZ K T)) (n4 : z_nl o4) (h : w_mType_63 n d a1 a3 a5 a6 D H24 K T) : z_w n d (k_tb 95) X 63 [some (.ref 336), some (.long a1), none, some (.int (z_i a3)), o4, some (.int (z_i a5)), some (.int (z_i a6))] [] D (z_qZ K T) := by
  unfold w_mType_63 at h
  refine zs_pushI (1) rfl rfl ?_
  refine zs_goto rfl ?_
  exact v_mType_68 hH24 (by first | assumption | exact trivial) h
def w_mType_67 (n d : Nat) (a1 : Int64) (a3 : Int) (a5 : Int) (a6 : Int) (D : z_D) (H24 : Int64 → Int → Bool → Int → z_D → Prop) (K : Bool → z_D → Prop) (T : Nat → z_D → Prop) : Prop :=
  w_mType_68 n d a1 a3 a5 a6 false D H24 K T
theorem v_mType_67 {n d : Nat} {X : z_Xt} {a1 : Int64} {a3 : Int} {a5 : Int} {a6 : Int} {o4 : Option Value} {D : z_D} {H24 : Int64 → Int → Bool → Int → z_D → Prop} {K : Bool → z_D → Prop} {T : Nat → z_D → Prop} (hH24 : ∀ (a1 : Int64) (a3 : Int) (b4 : Bool) (a5 : Int) (o6 : Option Value) (D : z_D), z_nl o6 → H24 a1 a3 b4 a5 D → z_w n d (k_tb 95) X 24 [some (.ref 336), some (.long a1), none, some (.int (z_i a3)), some (.int (z_i (z_b b4))), some (.int (z_i a5)), o6] [] D (z_qZ K T)) (n4 : z_nl o4) (h : w_mType_67 n d a1 a3 a5 a6 D H24 K T) : z_w n d (k_tb 95) X 67 [some (.ref 336), some (.long a1), none, some (.int (z_i a3)), o4, some (.int (z_i a5)), some (.int (z_i a6))] [] D (z_qZ K T) := by
  unfold w_mType_67 at h
  refine zs_pushI (0) rfl rfl ?_
  exact v_mType_68 hH24 (by first | assumption | exact trivial) h
def w_mType_24 (n d : Nat) (a1 : Int64) (a3 : Int) (b4 : Bool) (a5 : Int) (D : z_D) (H24 : Int64 → Int → Bool → Int → z_D → Prop) (H112 : Int64 → Int → z_D → Prop) (K : Bool → z_D → Prop) (T : Nat → z_D → Prop) : Prop :=
  (z_r a5) ∧
  ((8 ≤ a5) →
    ((b4 = false) →
      K false D) ∧
    ((b4 = true) →
      (z_r ((D.1 336 1) + a3)) ∧
      ((((D.1 336 1) + a3) ≤ 160) →
        H112 a1 7 D) ∧
      ((160 < ((D.1 336 1) + a3)) →
        K false D))) ∧
  ((a5 < 8) →
    ((b4 = false) →
      w_mType_67 n d a1 a3 a5 (z_li ((z_sar a1 (8 * a5)) &&& (255))) D H24 K T) ∧
    ((b4 = true) →
      (((z_li ((z_sar a1 (8 * a5)) &&& (255))) = 0) →
        w_mType_63 n d a1 a3 a5 (z_li ((z_sar a1 (8 * a5)) &&& (255))) D H24 K T) ∧
      ((¬ (z_li ((z_sar a1 (8 * a5)) &&& (255))) = 0) →
        z_c n d 94 [.int (z_i (z_li ((z_sar a1 (8 * a5)) &&& (255))))] D (z_qZ (fun v8 D7 => 
          ((v8 = false) →
            w_mType_67 n d a1 a3 a5 (z_li ((z_sar a1 (8 * a5)) &&& (255))) D7 H24 K T) ∧
          ((v8 = true) →
            w_mType_63 n d a1 a3 a5 (z_li ((z_sar a1 (8 * a5)) &&& (255))) D7 H24 K T)) T))))
theorem v_mType_24 {n d : Nat} {X : z_Xt} {a1 : Int64} {a3 : Int} {b4 : Bool} {a5 : Int} {o6 : Option Value} {D : z_D} {H24 : Int64 → Int → Bool → Int → z_D → Prop} {H112 : Int64 → Int → z_D → Prop} {K : Bool → z_D → Prop} {T : Nat → z_D → Prop} (hH24 : ∀ (a1 : Int64) (a3 : Int) (b4 : Bool) (a5 : Int) (o6 : Option Value) (D : z_D), z_nl o6 → H24 a1 a3 b4 a5 D → z_w n d (k_tb 95) X 24 [some (.ref 336), some (.long a1), none, some (.int (z_i a3)), some (.int (z_i (z_b b4))), some (.int (z_i a5)), o6] [] D (z_qZ K T)) (hH112 : ∀ (a1 : Int64) (a5 : Int) (o3 : Option Value) (o4 : Option Value) (o6 : Option Value) (D : z_D), z_nl o3 → z_nl o4 → z_nl o6 → H112 a1 a5 D → z_w n d (k_tb 95) X 112 [some (.ref 336), some (.long a1), none, o3, o4, some (.int (z_i a5)), o6] [] D (z_qZ K T)) (n6 : z_nl o6) (h : w_mType_24 n d a1 a3 b4 a5 D H24 H112 K T) : z_w n d (k_tb 95) X 24 [some (.ref 336), some (.long a1), none, some (.int (z_i a3)), some (.int (z_i (z_b b4))), some (.int (z_i a5)), o6] [] D (z_qZ K T) := by
  unfold w_mType_24 at h
  refine zs_iload rfl rfl ?_
  refine zs_pushI (8) rfl rfl ?_
  obtain ⟨g1, h⟩ := h
  obtain ⟨h15, h16⟩ := h
  refine zs_cge rfl g1 (z_rk rfl) (fun c => ?_) (fun c => ?_)
  · have h := h15 c
    refine zs_iload rfl rfl ?_
    obtain ⟨h5, h6⟩ := h
    refine zs_beq rfl (fun c => ?_) (fun c => ?_)
    · have h := h5 c
      refine zs_pushI (0) rfl rfl ?_
      exact zs_zret (b := false) rfl h
    · have h := h6 c
      refine zs_aload rfl rfl ?_
      refine zs_getI rfl rfl ?_
      refine zs_iload rfl rfl ?_
      refine zs_add (a := (D.1 336 1)) (b := a3) rfl ?_
      refine zs_pushI (160) rfl rfl ?_
      obtain ⟨g2, h⟩ := h
      obtain ⟨h3, h4⟩ := h
      refine zs_cle rfl g2 (z_rk rfl) (fun c => ?_) (fun c => ?_)
      · have h := h3 c
        refine zs_pushI (7) rfl rfl ?_
        refine zs_istore (ls1 := [some (.ref 336), some (.long a1), none, some (.int (z_i a3)), some (.int (z_i (z_b b4))), some (.int (z_i 7)), o6]) rfl rfl rfl ?_
        exact hH112 _ _ _ _ _ _ (by first | assumption | exact trivial) (by first | assumption | exact trivial) (by first | assumption | exact trivial) h
      · have h := h4 c
        refine zs_pushI (0) rfl rfl ?_
        exact zs_zret (b := false) rfl h
  · have h := h16 c
    refine zs_lload rfl rfl ?_
    refine zs_pushI (8) rfl rfl ?_
    refine zs_iload rfl rfl ?_
    refine zs_mul (a := 8) (b := a5) rfl ?_
    refine zs_li (b := (8 * a5)) rfl ?_
    refine zs_push rfl ?_
    refine zs_ll rfl ?_
    refine zs_l2 rfl ?_
    refine zs_istore (ls1 := [some (.ref 336), some (.long a1), none, some (.int (z_i a3)), some (.int (z_i (z_b b4))), some (.int (z_i a5)), some (.int (z_i (z_li ((z_sar a1 (8 * a5)) &&& (255)))))]) rfl rfl rfl ?_
    refine zs_iload rfl rfl ?_
    obtain ⟨h13, h14⟩ := h
    refine zs_beq rfl (fun c => ?_) (fun c => ?_)
    · have h := h13 c
      exact v_mType_67 hH24 (by first | assumption | exact trivial) h
    · have h := h14 c
      refine zs_iload rfl rfl ?_
      obtain ⟨h11, h12⟩ := h
      refine zs_ifeq rfl (z_r_toInt _) (fun c => ?_) (fun c => ?_)
      · have h := h11 c
        exact v_mType_63 hH24 (by first | assumption | exact trivial) h
      · have h := h12 c
        refine zs_iload rfl rfl ?_
        refine z_callS (as0 := [.int (z_i (z_li ((z_sar a1 (8 * a5)) &&& (255))))]) (r := []) rfl rfl (Nat.le_of_ble_eq_true rfl) (z_oZ h (fun v8 D7 h => ?_) (fun _ _ h => h))
        obtain ⟨h9, h10⟩ := h
        refine zs_beq rfl (fun c => ?_) (fun c => ?_)
        · have h := h9 c
          exact v_mType_67 hH24 (by first | assumption | exact trivial) h
        · have h := h10 c
          exact v_mType_63 hH24 (by first | assumption | exact trivial) h
def w_mType_112 (n d : Nat) (a1 : Int64) (a5 : Int) (D : z_D) (H112 : Int64 → Int → z_D → Prop) (K : Bool → z_D → Prop) (T : Nat → z_D → Prop) : Prop :=
  (z_r a5) ∧
  ((a5 < 0) →
    K true D) ∧
  ((0 ≤ a5) →
    (((z_li ((z_sar a1 (8 * a5)) &&& (255))) ≤ 0) →
      H112 a1 (a5 + (-1)) D) ∧
    ((0 < (z_li ((z_sar a1 (8 * a5)) &&& (255)))) →
      (0 ≤ (D.1 336 1) ∧ (D.1 336 1) < 160) ∧
      ∀ D3, D3 = z_uz D 337 (Int.toNat (D.1 336 1)) (z_li ((z_sar a1 (8 * a5)) &&& (255))) →
      ∀ D4, D4 = z_uz D3 336 1 ((D3.1 336 1) + 1) →
      H112 a1 (a5 + (-1)) D4))
theorem v_mType_112 {n d : Nat} {X : z_Xt} {a1 : Int64} {a5 : Int} {o3 : Option Value} {o4 : Option Value} {o6 : Option Value} {D : z_D} {H112 : Int64 → Int → z_D → Prop} {K : Bool → z_D → Prop} {T : Nat → z_D → Prop} (hH112 : ∀ (a1 : Int64) (a5 : Int) (o3 : Option Value) (o4 : Option Value) (o6 : Option Value) (D : z_D), z_nl o3 → z_nl o4 → z_nl o6 → H112 a1 a5 D → z_w n d (k_tb 95) X 112 [some (.ref 336), some (.long a1), none, o3, o4, some (.int (z_i a5)), o6] [] D (z_qZ K T)) (n3 : z_nl o3) (n4 : z_nl o4) (n6 : z_nl o6) (h : w_mType_112 n d a1 a5 D H112 K T) : z_w n d (k_tb 95) X 112 [some (.ref 336), some (.long a1), none, o3, o4, some (.int (z_i a5)), o6] [] D (z_qZ K T) := by
  unfold w_mType_112 at h
  refine zs_iload rfl rfl ?_
  obtain ⟨g1, h⟩ := h
  obtain ⟨h7, h8⟩ := h
  refine zs_iflt rfl g1 (fun c => ?_) (fun c => ?_)
  · have h := h7 c
    refine zs_pushI (1) rfl rfl ?_
    exact zs_zret (b := true) rfl h
  · have h := h8 c
    refine zs_lload rfl rfl ?_
    refine zs_pushI (8) rfl rfl ?_
    refine zs_iload rfl rfl ?_
    refine zs_mul (a := 8) (b := a5) rfl ?_
    refine zs_li (b := (8 * a5)) rfl ?_
    refine zs_push rfl ?_
    refine zs_ll rfl ?_
    refine zs_l2 rfl ?_
    refine zs_istore (ls1 := [some (.ref 336), some (.long a1), none, o3, o4, some (.int (z_i a5)), some (.int (z_i (z_li ((z_sar a1 (8 * a5)) &&& (255)))))]) rfl rfl rfl ?_
    refine zs_iload rfl rfl ?_
    obtain ⟨h5, h6⟩ := h
    refine zs_ifle rfl (z_r_toInt _) (fun c => ?_) (fun c => ?_)
    · have h := h5 c
      refine zs_iinc (a := a5) (-1) (ls1 := [some (.ref 336), some (.long a1), none, o3, o4, some (.int (z_i (a5 + (-1)))), some (.int (z_i (z_li ((z_sar a1 (8 * a5)) &&& (255)))))]) rfl rfl rfl ((z_st1 rfl n4).trans rfl) ?_
      refine zs_goto rfl ?_
      exact hH112 _ _ _ _ _ _ (by first | assumption | exact trivial) (by first | assumption | exact trivial) (by first | assumption | exact trivial) h
    · have h := h6 c
      refine zs_aload rfl rfl ?_
      refine zs_getR (x := 337) rfl rfl rfl ?_
      refine zs_aload rfl rfl ?_
      refine zs_getI rfl rfl ?_
      refine zs_iload rfl rfl ?_
      obtain ⟨g2, h⟩ := h
      refine zs_iast rfl rfl (by decide) g2 (fun D3 eD3 => ?_)
      have h := h D3 eD3
      refine zs_aload rfl rfl ?_
      refine zs_dup rfl rfl ?_
      refine zs_getI rfl rfl ?_
      refine zs_pushI (1) rfl rfl ?_
      refine zs_add (a := (D3.1 336 1)) (b := 1) rfl ?_
      refine zs_putI rfl rfl (fun D4 eD4 => ?_)
      have h := h D4 eD4
      refine zs_iinc (a := a5) (-1) (ls1 := [some (.ref 336), some (.long a1), none, o3, o4, some (.int (z_i (a5 + (-1)))), some (.int (z_i (z_li ((z_sar a1 (8 * a5)) &&& (255)))))]) rfl rfl rfl ((z_st1 rfl n4).trans rfl) ?_
      refine zs_goto rfl ?_
      exact hH112 _ _ _ _ _ _ (by first | assumption | exact trivial) (by first | assumption | exact trivial) (by first | assumption | exact trivial) h
theorem r_mType {n d : Nat} {a1 : Int64} {D : z_D} {K : Bool → z_D → Prop} {T : Nat → z_D → Prop}  (I24 : Nat → Int64 → Int → Bool → Int → z_D → Prop) (I112 : Nat → Int64 → Int → z_D → Prop) (hE : w_mType_0 n d a1 D (fun a1 a3 b4 a5 D => ∃ m, I24 m a1 a3 b4 a5 D) K T) (h24 : ∀ (mm : Nat) (a1 : Int64) (a3 : Int) (b4 : Bool) (a5 : Int) (D : z_D), I24 mm a1 a3 b4 a5 D → w_mType_24 n d a1 a3 b4 a5 D (fun a1 a3 b4 a5 D => ∃ m, m < mm ∧ I24 m a1 a3 b4 a5 D) (fun a1 a5 D => ∃ m, m < mm ∧ I112 m a1 a5 D) K T) (h112 : ∀ (mm : Nat) (a1 : Int64) (a5 : Int) (D : z_D), I112 mm a1 a5 D → w_mType_112 n d a1 a5 D (fun a1 a5 D => ∃ m, m < mm ∧ I112 m a1 a5 D) K T) : z_c n (d + 1) 95 [.ref 336, .long a1] D (z_qZ K T) := by
  refine z_enter (Nat.le_of_ble_eq_true rfl) rfl (fun X => ?_)
  have key : ∀ m, (∀ (a1 : Int64) (a3 : Int) (b4 : Bool) (a5 : Int) (o6 : Option Value) (D : z_D), z_nl o6 → I24 m a1 a3 b4 a5 D → z_w n d (k_tb 95) X 24 [some (.ref 336), some (.long a1), none, some (.int (z_i a3)), some (.int (z_i (z_b b4))), some (.int (z_i a5)), o6] [] D (z_qZ K T)) ∧ (∀ (a1 : Int64) (a5 : Int) (o3 : Option Value) (o4 : Option Value) (o6 : Option Value) (D : z_D), z_nl o3 → z_nl o4 → z_nl o6 → I112 m a1 a5 D → z_w n d (k_tb 95) X 112 [some (.ref 336), some (.long a1), none, o3, o4, some (.int (z_i a5)), o6] [] D (z_qZ K T)) := by
    intro m
    induction m using Nat.strongRecOn with
    | _ mm ih =>
      exact ⟨fun a1 a3 b4 a5 o6 D n6 hI => v_mType_24 (fun a1 a3 b4 a5 o6 D n6 ⟨m, hm, hI⟩ => (ih m hm).1 _ _ _ _ _ _ n6 hI) (fun a1 a5 o3 o4 o6 D n3 n4 n6 ⟨m, hm, hI⟩ => (ih m hm).2 _ _ _ _ _ _ n3 n4 n6 hI) n6 (h24 mm a1 a3 b4 a5 D hI), fun a1 a5 o3 o4 o6 D n3 n4 n6 hI => v_mType_112 (fun a1 a5 o3 o4 o6 D n3 n4 n6 ⟨m, hm, hI⟩ => (ih m hm).2 _ _ _ _ _ _ n3 n4 n6 hI) n3 n4 n6 (h112 mm a1 a5 D hI)⟩
  exact v_mType_0 (fun a1 a3 b4 a5 o6 D n6 ⟨m, hI⟩ => (key m).1 _ _ _ _ _ _ n6 hI) hE
-- 96: TokenMouthModel.wipe()V
def w_mWipe_0 (n d : Nat)  (D : z_D)  (K : z_D → Prop) (T : Nat → z_D → Prop) : Prop :=
  ∀ D1, D1 = z_uz D 336 0 0 →
  ∀ D2, D2 = z_uz D1 336 1 0 →
  z_c n d 92 [.ref 336] D2 (z_qV (fun D3 => 
    K D3) T)
theorem v_mWipe_0 {n d : Nat} {X : z_Xt}   {D : z_D}  {K : z_D → Prop} {T : Nat → z_D → Prop}  (h : w_mWipe_0 n d D K T) : z_w n d (k_tb 96) X 0 [some (.ref 336)] [] D (z_qV K T) := by
  unfold w_mWipe_0 at h
  refine zs_aload rfl rfl ?_
  refine zs_pushI (0) rfl rfl ?_
  refine zs_putI rfl rfl (fun D1 eD1 => ?_)
  have h := h D1 eD1
  refine zs_aload rfl rfl ?_
  refine zs_pushI (0) rfl rfl ?_
  refine zs_putI rfl rfl (fun D2 eD2 => ?_)
  have h := h D2 eD2
  refine zs_aload rfl rfl ?_
  refine z_callV (k := 336) (as0 := []) (r := []) rfl rfl rfl (Nat.le_of_ble_eq_true rfl) (z_oV h (fun D3 h => ?_) (fun _ _ h => h))
  exact zs_ret rfl h
theorem r_mWipe {n d : Nat}  {D : z_D} {K : z_D → Prop} {T : Nat → z_D → Prop}  (h : w_mWipe_0 n d D K T) : z_c n (d + 1) 96 [.ref 336] D (z_qV K T) :=
  z_enter (Nat.le_of_ble_eq_true rfl) rfl (fun X => v_mWipe_0 h)
-- 97: TokenMouthModel.again()V
def w_mAgain_0 (n d : Nat)  (D : z_D)  (K : z_D → Prop) (T : Nat → z_D → Prop) : Prop :=
  ∀ D1, D1 = z_uz D 336 0 0 →
  z_c n d 92 [.ref 336] D1 (z_qV (fun D2 => 
    K D2) T)
theorem v_mAgain_0 {n d : Nat} {X : z_Xt}   {D : z_D}  {K : z_D → Prop} {T : Nat → z_D → Prop}  (h : w_mAgain_0 n d D K T) : z_w n d (k_tb 97) X 0 [some (.ref 336)] [] D (z_qV K T) := by
  unfold w_mAgain_0 at h
  refine zs_aload rfl rfl ?_
  refine zs_pushI (0) rfl rfl ?_
  refine zs_putI rfl rfl (fun D1 eD1 => ?_)
  have h := h D1 eD1
  refine zs_aload rfl rfl ?_
  refine z_callV (k := 336) (as0 := []) (r := []) rfl rfl rfl (Nat.le_of_ble_eq_true rfl) (z_oV h (fun D2 h => ?_) (fun _ _ h => h))
  exact zs_ret rfl h
theorem r_mAgain {n d : Nat}  {D : z_D} {K : z_D → Prop} {T : Nat → z_D → Prop}  (h : w_mAgain_0 n d D K T) : z_c n (d + 1) 97 [.ref 336] D (z_qV K T) :=
  z_enter (Nat.le_of_ble_eq_true rfl) rfl (fun X => v_mAgain_0 h)
-- 98: TokenMouthModel.stop(I)I
def w_mStop_0 (n d : Nat) (a1 : Int) (D : z_D)  (K : Int → z_D → Prop) (T : Nat → z_D → Prop) : Prop :=
  (z_r (D.1 336 5)) ∧
  ((¬ (D.1 336 5) = 0) →
    ∀ D2, D2 = z_uz D 336 5 (D.1 336 5) →
    K (-1) D2) ∧
  (((D.1 336 5) = 0) →
    ∀ D3, D3 = z_uz D 336 5 a1 →
    K (-1) D3)
theorem v_mStop_0 {n d : Nat} {X : z_Xt} {a1 : Int}  {D : z_D}  {K : Int → z_D → Prop} {T : Nat → z_D → Prop}  (h : w_mStop_0 n d a1 D K T) : z_w n d (k_tb 98) X 0 [some (.ref 336), some (.int (z_i a1))] [] D (z_qI K T) := by
  unfold w_mStop_0 at h
  refine zs_aload rfl rfl ?_
  refine zs_aload rfl rfl ?_
  refine zs_getI rfl rfl ?_
  obtain ⟨g1, h⟩ := h
  obtain ⟨h4, h5⟩ := h
  refine zs_ifne rfl g1 (fun c => ?_) (fun c => ?_)
  · have h := h4 c
    refine zs_aload rfl rfl ?_
    refine zs_getI rfl rfl ?_
    refine zs_putI rfl rfl (fun D2 eD2 => ?_)
    have h := h D2 eD2
    refine zs_pushI (-1) rfl rfl ?_
    exact zs_iret rfl h
  · have h := h5 c
    refine zs_iload rfl rfl ?_
    refine zs_goto rfl ?_
    refine zs_putI rfl rfl (fun D3 eD3 => ?_)
    have h := h D3 eD3
    refine zs_pushI (-1) rfl rfl ?_
    exact zs_iret rfl h
theorem r_mStop {n d : Nat} {a1 : Int} {D : z_D} {K : Int → z_D → Prop} {T : Nat → z_D → Prop}  (h : w_mStop_0 n d a1 D K T) : z_c n (d + 1) 98 [.ref 336, .int (z_i a1)] D (z_qI K T) :=
  z_enter (Nat.le_of_ble_eq_true rfl) rfl (fun X => v_mStop_0 h)
-- 99: TokenMouthModel.say(I)V
def w_mSay_0 (n d : Nat) (a1 : Int) (D : z_D)  (K : z_D → Prop) (T : Nat → z_D → Prop) : Prop :=
  (z_r (D.1 336 16)) ∧
  ((12 ≤ (D.1 336 16)) →
    ∀ D2, D2 = z_uz D 336 16 ((D.1 336 16) + 1) →
    K D2) ∧
  (((D.1 336 16) < 12) →
    (0 ≤ (D.1 336 16) ∧ (D.1 336 16) < 12) ∧
    ∀ D4, D4 = z_uz D 344 (Int.toNat (D.1 336 16)) a1 →
    ∀ D5, D5 = z_uz D4 336 16 ((D4.1 336 16) + 1) →
    K D5)
theorem v_mSay_0 {n d : Nat} {X : z_Xt} {a1 : Int}  {D : z_D}  {K : z_D → Prop} {T : Nat → z_D → Prop}  (h : w_mSay_0 n d a1 D K T) : z_w n d (k_tb 99) X 0 [some (.ref 336), some (.int (z_i a1))] [] D (z_qV K T) := by
  unfold w_mSay_0 at h
  refine zs_aload rfl rfl ?_
  refine zs_getI rfl rfl ?_
  refine zs_pushI (12) rfl rfl ?_
  obtain ⟨g1, h⟩ := h
  obtain ⟨h6, h7⟩ := h
  refine zs_cge rfl g1 (z_rk rfl) (fun c => ?_) (fun c => ?_)
  · have h := h6 c
    refine zs_aload rfl rfl ?_
    refine zs_dup rfl rfl ?_
    refine zs_getI rfl rfl ?_
    refine zs_pushI (1) rfl rfl ?_
    refine zs_add (a := (D.1 336 16)) (b := 1) rfl ?_
    refine zs_putI rfl rfl (fun D2 eD2 => ?_)
    have h := h D2 eD2
    exact zs_ret rfl h
  · have h := h7 c
    refine zs_aload rfl rfl ?_
    refine zs_getR (x := 344) rfl rfl rfl ?_
    refine zs_aload rfl rfl ?_
    refine zs_getI rfl rfl ?_
    refine zs_iload rfl rfl ?_
    obtain ⟨g3, h⟩ := h
    refine zs_iast rfl rfl (by decide) g3 (fun D4 eD4 => ?_)
    have h := h D4 eD4
    refine zs_aload rfl rfl ?_
    refine zs_dup rfl rfl ?_
    refine zs_getI rfl rfl ?_
    refine zs_pushI (1) rfl rfl ?_
    refine zs_add (a := (D4.1 336 16)) (b := 1) rfl ?_
    refine zs_putI rfl rfl (fun D5 eD5 => ?_)
    have h := h D5 eD5
    exact zs_ret rfl h
theorem r_mSay {n d : Nat} {a1 : Int} {D : z_D} {K : z_D → Prop} {T : Nat → z_D → Prop}  (h : w_mSay_0 n d a1 D K T) : z_c n (d + 1) 99 [.ref 336, .int (z_i a1)] D (z_qV K T) :=
  z_enter (Nat.le_of_ble_eq_true rfl) rfl (fun X => v_mSay_0 h)
-- 100: TokenMouthModel.known(Z)I
def w_mKnown_0 (n d : Nat) (b1 : Bool) (D : z_D) (H2 : Bool → Int → z_D → Prop) (K : Int → z_D → Prop) (T : Nat → z_D → Prop) : Prop :=
  H2 b1 0 D
theorem v_mKnown_0 {n d : Nat} {X : z_Xt} {b1 : Bool}  {D : z_D} {H2 : Bool → Int → z_D → Prop} {K : Int → z_D → Prop} {T : Nat → z_D → Prop} (hH2 : ∀ (b1 : Bool) (a2 : Int) (o3 : Option Value) (o4 : Option Value) (D : z_D), z_nl o3 → z_nl o4 → H2 b1 a2 D → z_w n d (k_tb 100) X 2 [some (.ref 336), some (.int (z_i (z_b b1))), some (.int (z_i a2)), o3, o4] [] D (z_qI K T)) (h : w_mKnown_0 n d b1 D H2 K T) : z_w n d (k_tb 100) X 0 [some (.ref 336), some (.int (z_i (z_b b1))), none, none, none] [] D (z_qI K T) := by
  unfold w_mKnown_0 at h
  refine zs_pushI (0) rfl rfl ?_
  refine zs_istore (ls1 := [some (.ref 336), some (.int (z_i (z_b b1))), some (.int (z_i 0)), none, none]) rfl rfl rfl ?_
  exact hH2 _ _ _ _ _ (by first | assumption | exact trivial) (by first | assumption | exact trivial) h
def w_mKnown_89 (n d : Nat) (b1 : Bool) (a2 : Int) (b3 : Bool) (D : z_D) (H2 : Bool → Int → z_D → Prop) (K : Int → z_D → Prop) (T : Nat → z_D → Prop) : Prop :=
  ((b3 = false) →
    H2 b1 (a2 + 1) D) ∧
  ((b3 = true) →
    K a2 D)
theorem v_mKnown_89 {n d : Nat} {X : z_Xt} {b1 : Bool} {a2 : Int} {b3 : Bool} {o4 : Option Value} {D : z_D} {H2 : Bool → Int → z_D → Prop} {K : Int → z_D → Prop} {T : Nat → z_D → Prop} (hH2 : ∀ (b1 : Bool) (a2 : Int) (o3 : Option Value) (o4 : Option Value) (D : z_D), z_nl o3 → z_nl o4 → H2 b1 a2 D → z_w n d (k_tb 100) X 2 [some (.ref 336), some (.int (z_i (z_b b1))), some (.int (z_i a2)), o3, o4] [] D (z_qI K T)) (n4 : z_nl o4) (h : w_mKnown_89 n d b1 a2 b3 D H2 K T) : z_w n d (k_tb 100) X 89 [some (.ref 336), some (.int (z_i (z_b b1))), some (.int (z_i a2)), some (.int (z_i (z_b b3))), o4] [] D (z_qI K T) := by
  unfold w_mKnown_89 at h
  refine zs_iload rfl rfl ?_
  obtain ⟨h1, h2⟩ := h
  refine zs_beq rfl (fun c => ?_) (fun c => ?_)
  · have h := h1 c
    refine zs_iinc (a := a2) (1) (ls1 := [some (.ref 336), some (.int (z_i (z_b b1))), some (.int (z_i (a2 + 1))), some (.int (z_i (z_b b3))), o4]) rfl rfl rfl rfl ?_
    refine zs_goto rfl ?_
    exact hH2 _ _ _ _ _ (by first | assumption | exact trivial) (by first | assumption | exact trivial) h
  · have h := h2 c
    refine zs_iload rfl rfl ?_
    exact zs_iret rfl h
def w_mKnown_2 (n d : Nat) (b1 : Bool) (a2 : Int) (D : z_D) (H42 : Bool → Int → Bool → Int → z_D → Prop) (K : Int → z_D → Prop) (T : Nat → z_D → Prop) : Prop :=
  (z_r a2) ∧ (z_r (D.1 336 11)) ∧
  (((D.1 336 11) ≤ a2) →
    K (-1) D) ∧
  ((a2 < (D.1 336 11)) →
    (0 ≤ a2 ∧ a2 < 120) ∧
    (z_r (D.1 341 (Int.toNat a2))) ∧ (z_r (D.1 336 16)) ∧
    ((¬ (D.1 341 (Int.toNat a2)) = (D.1 336 16)) →
      H42 b1 a2 false 0 D) ∧
    (((D.1 341 (Int.toNat a2)) = (D.1 336 16)) →
      (0 ≤ a2 ∧ a2 < 120) ∧
      (z_r (D.1 342 (Int.toNat a2))) ∧
      ((¬ (D.1 342 (Int.toNat a2)) = (z_b b1)) →
        H42 b1 a2 false 0 D) ∧
      (((D.1 342 (Int.toNat a2)) = (z_b b1)) →
        H42 b1 a2 true 0 D)))
theorem v_mKnown_2 {n d : Nat} {X : z_Xt} {b1 : Bool} {a2 : Int} {o3 : Option Value} {o4 : Option Value} {D : z_D} {H42 : Bool → Int → Bool → Int → z_D → Prop} {K : Int → z_D → Prop} {T : Nat → z_D → Prop} (hH42 : ∀ (b1 : Bool) (a2 : Int) (b3 : Bool) (a4 : Int) (D : z_D), H42 b1 a2 b3 a4 D → z_w n d (k_tb 100) X 42 [some (.ref 336), some (.int (z_i (z_b b1))), some (.int (z_i a2)), some (.int (z_i (z_b b3))), some (.int (z_i a4))] [] D (z_qI K T)) (n3 : z_nl o3) (n4 : z_nl o4) (h : w_mKnown_2 n d b1 a2 D H42 K T) : z_w n d (k_tb 100) X 2 [some (.ref 336), some (.int (z_i (z_b b1))), some (.int (z_i a2)), o3, o4] [] D (z_qI K T) := by
  unfold w_mKnown_2 at h
  refine zs_iload rfl rfl ?_
  refine zs_aload rfl rfl ?_
  refine zs_getI rfl rfl ?_
  obtain ⟨g1, g2, h⟩ := h
  obtain ⟨h12, h13⟩ := h
  refine zs_cge rfl g1 g2 (fun c => ?_) (fun c => ?_)
  · have h := h12 c
    refine zs_pushI (-1) rfl rfl ?_
    exact zs_iret rfl h
  · have h := h13 c
    refine zs_aload rfl rfl ?_
    refine zs_getR (x := 341) rfl rfl rfl ?_
    refine zs_iload rfl rfl ?_
    obtain ⟨g3, h⟩ := h
    refine zs_iald rfl rfl (by decide) g3 ?_
    refine zs_aload rfl rfl ?_
    refine zs_getI rfl rfl ?_
    obtain ⟨g4, g5, h⟩ := h
    obtain ⟨h10, h11⟩ := h
    refine zs_cne rfl g4 g5 (fun c => ?_) (fun c => ?_)
    · have h := h10 c
      refine zs_pushI (0) rfl rfl ?_
      refine zs_istore (ls1 := [some (.ref 336), some (.int (z_i (z_b b1))), some (.int (z_i a2)), some (.int (z_i 0)), o4]) rfl rfl rfl ?_
      refine zs_pushI (0) rfl rfl ?_
      refine zs_istore (ls1 := [some (.ref 336), some (.int (z_i (z_b b1))), some (.int (z_i a2)), some (.int (z_i 0)), some (.int (z_i 0))]) rfl rfl rfl ?_
      exact hH42 _ _ _ _  _  h
    · have h := h11 c
      refine zs_aload rfl rfl ?_
      refine zs_getR (x := 342) rfl rfl rfl ?_
      refine zs_iload rfl rfl ?_
      obtain ⟨g6, h⟩ := h
      refine zs_iald rfl rfl (by decide) g6 ?_
      refine zs_iload rfl rfl ?_
      obtain ⟨g7, h⟩ := h
      obtain ⟨h8, h9⟩ := h
      refine zs_cne rfl g7 (z_rb _) (fun c => ?_) (fun c => ?_)
      · have h := h8 c
        refine zs_pushI (0) rfl rfl ?_
        refine zs_istore (ls1 := [some (.ref 336), some (.int (z_i (z_b b1))), some (.int (z_i a2)), some (.int (z_i 0)), o4]) rfl rfl rfl ?_
        refine zs_pushI (0) rfl rfl ?_
        refine zs_istore (ls1 := [some (.ref 336), some (.int (z_i (z_b b1))), some (.int (z_i a2)), some (.int (z_i 0)), some (.int (z_i 0))]) rfl rfl rfl ?_
        exact hH42 _ _ _ _  _  h
      · have h := h9 c
        refine zs_pushI (1) rfl rfl ?_
        refine zs_goto rfl ?_
        refine zs_istore (ls1 := [some (.ref 336), some (.int (z_i (z_b b1))), some (.int (z_i a2)), some (.int (z_i 1)), o4]) rfl rfl rfl ?_
        refine zs_pushI (0) rfl rfl ?_
        refine zs_istore (ls1 := [some (.ref 336), some (.int (z_i (z_b b1))), some (.int (z_i a2)), some (.int (z_i 1)), some (.int (z_i 0))]) rfl rfl rfl ?_
        exact hH42 _ _ _ _  _  h
def w_mKnown_42 (n d : Nat) (b1 : Bool) (a2 : Int) (b3 : Bool) (a4 : Int) (D : z_D) (H2 : Bool → Int → z_D → Prop) (H42 : Bool → Int → Bool → Int → z_D → Prop) (K : Int → z_D → Prop) (T : Nat → z_D → Prop) : Prop :=
  (z_r a4) ∧ (z_r (D.1 336 16)) ∧
  (((D.1 336 16) ≤ a4) →
    w_mKnown_89 n d b1 a2 b3 D H2 K T) ∧
  ((a4 < (D.1 336 16)) →
    ((b3 = false) →
      w_mKnown_89 n d b1 a2 b3 D H2 K T) ∧
    ((b3 = true) →
      (0 ≤ ((11 * a2) + a4) ∧ ((11 * a2) + a4) < 1320) ∧
      (0 ≤ a4 ∧ a4 < 12) ∧
      (z_r (D.1 340 (Int.toNat ((11 * a2) + a4)))) ∧ (z_r (D.1 344 (Int.toNat a4))) ∧
      ((¬ (D.1 340 (Int.toNat ((11 * a2) + a4))) = (D.1 344 (Int.toNat a4))) →
        H42 b1 a2 false (a4 + 1) D) ∧
      (((D.1 340 (Int.toNat ((11 * a2) + a4))) = (D.1 344 (Int.toNat a4))) →
        H42 b1 a2 true (a4 + 1) D)))
theorem v_mKnown_42 {n d : Nat} {X : z_Xt} {b1 : Bool} {a2 : Int} {b3 : Bool} {a4 : Int}  {D : z_D} {H2 : Bool → Int → z_D → Prop} {H42 : Bool → Int → Bool → Int → z_D → Prop} {K : Int → z_D → Prop} {T : Nat → z_D → Prop} (hH2 : ∀ (b1 : Bool) (a2 : Int) (o3 : Option Value) (o4 : Option Value) (D : z_D), z_nl o3 → z_nl o4 → H2 b1 a2 D → z_w n d (k_tb 100) X 2 [some (.ref 336), some (.int (z_i (z_b b1))), some (.int (z_i a2)), o3, o4] [] D (z_qI K T)) (hH42 : ∀ (b1 : Bool) (a2 : Int) (b3 : Bool) (a4 : Int) (D : z_D), H42 b1 a2 b3 a4 D → z_w n d (k_tb 100) X 42 [some (.ref 336), some (.int (z_i (z_b b1))), some (.int (z_i a2)), some (.int (z_i (z_b b3))), some (.int (z_i a4))] [] D (z_qI K T)) (h : w_mKnown_42 n d b1 a2 b3 a4 D H2 H42 K T) : z_w n d (k_tb 100) X 42 [some (.ref 336), some (.int (z_i (z_b b1))), some (.int (z_i a2)), some (.int (z_i (z_b b3))), some (.int (z_i a4))] [] D (z_qI K T) := by
  unfold w_mKnown_42 at h
  refine zs_iload rfl rfl ?_
  refine zs_aload rfl rfl ?_
  refine zs_getI rfl rfl ?_
  obtain ⟨g1, g2, h⟩ := h
  obtain ⟨h11, h12⟩ := h
  refine zs_cge rfl g1 g2 (fun c => ?_) (fun c => ?_)
  · have h := h11 c
    exact v_mKnown_89 hH2 (by first | assumption | exact trivial) h
  · have h := h12 c
    refine zs_iload rfl rfl ?_
    obtain ⟨h9, h10⟩ := h
    refine zs_beq rfl (fun c => ?_) (fun c => ?_)
    · have h := h9 c
      exact v_mKnown_89 hH2 (by first | assumption | exact trivial) h
    · have h := h10 c
      refine zs_aload rfl rfl ?_
      refine zs_getR (x := 340) rfl rfl rfl ?_
      refine zs_pushI (11) rfl rfl ?_
      refine zs_iload rfl rfl ?_
      refine zs_mul (a := 11) (b := a2) rfl ?_
      refine zs_iload rfl rfl ?_
      refine zs_add (a := (11 * a2)) (b := a4) rfl ?_
      obtain ⟨g3, h⟩ := h
      refine zs_iald rfl rfl (by decide) g3 ?_
      refine zs_aload rfl rfl ?_
      refine zs_getR (x := 344) rfl rfl rfl ?_
      refine zs_iload rfl rfl ?_
      obtain ⟨g4, h⟩ := h
      refine zs_iald rfl rfl (by decide) g4 ?_
      obtain ⟨g5, g6, h⟩ := h
      obtain ⟨h7, h8⟩ := h
      refine zs_cne rfl g5 g6 (fun c => ?_) (fun c => ?_)
      · have h := h7 c
        refine zs_pushI (0) rfl rfl ?_
        refine zs_istore (ls1 := [some (.ref 336), some (.int (z_i (z_b b1))), some (.int (z_i a2)), some (.int (z_i 0)), some (.int (z_i a4))]) rfl rfl rfl ?_
        refine zs_iinc (a := a4) (1) (ls1 := [some (.ref 336), some (.int (z_i (z_b b1))), some (.int (z_i a2)), some (.int (z_i 0)), some (.int (z_i (a4 + 1)))]) rfl rfl rfl rfl ?_
        refine zs_goto rfl ?_
        exact hH42 _ _ _ _  _  h
      · have h := h8 c
        refine zs_pushI (1) rfl rfl ?_
        refine zs_goto rfl ?_
        refine zs_istore (ls1 := [some (.ref 336), some (.int (z_i (z_b b1))), some (.int (z_i a2)), some (.int (z_i 1)), some (.int (z_i a4))]) rfl rfl rfl ?_
        refine zs_iinc (a := a4) (1) (ls1 := [some (.ref 336), some (.int (z_i (z_b b1))), some (.int (z_i a2)), some (.int (z_i 1)), some (.int (z_i (a4 + 1)))]) rfl rfl rfl rfl ?_
        refine zs_goto rfl ?_
        exact hH42 _ _ _ _  _  h
theorem r_mKnown {n d : Nat} {b1 : Bool} {D : z_D} {K : Int → z_D → Prop} {T : Nat → z_D → Prop}  (I2 : Nat → Bool → Int → z_D → Prop) (I42 : Nat → Bool → Int → Bool → Int → z_D → Prop) (hE : w_mKnown_0 n d b1 D (fun b1 a2 D => ∃ m, I2 m b1 a2 D) K T) (h2 : ∀ (mm : Nat) (b1 : Bool) (a2 : Int) (D : z_D), I2 mm b1 a2 D → w_mKnown_2 n d b1 a2 D (fun b1 a2 b3 a4 D => ∃ m, m < mm ∧ I42 m b1 a2 b3 a4 D) K T) (h42 : ∀ (mm : Nat) (b1 : Bool) (a2 : Int) (b3 : Bool) (a4 : Int) (D : z_D), I42 mm b1 a2 b3 a4 D → w_mKnown_42 n d b1 a2 b3 a4 D (fun b1 a2 D => ∃ m, m < mm ∧ I2 m b1 a2 D) (fun b1 a2 b3 a4 D => ∃ m, m < mm ∧ I42 m b1 a2 b3 a4 D) K T) : z_c n (d + 1) 100 [.ref 336, .int (z_i (z_b b1))] D (z_qI K T) := by
  refine z_enter (Nat.le_of_ble_eq_true rfl) rfl (fun X => ?_)
  have key : ∀ m, (∀ (b1 : Bool) (a2 : Int) (o3 : Option Value) (o4 : Option Value) (D : z_D), z_nl o3 → z_nl o4 → I2 m b1 a2 D → z_w n d (k_tb 100) X 2 [some (.ref 336), some (.int (z_i (z_b b1))), some (.int (z_i a2)), o3, o4] [] D (z_qI K T)) ∧ (∀ (b1 : Bool) (a2 : Int) (b3 : Bool) (a4 : Int) (D : z_D), I42 m b1 a2 b3 a4 D → z_w n d (k_tb 100) X 42 [some (.ref 336), some (.int (z_i (z_b b1))), some (.int (z_i a2)), some (.int (z_i (z_b b3))), some (.int (z_i a4))] [] D (z_qI K T)) := by
    intro m
    induction m using Nat.strongRecOn with
    | _ mm ih =>
      exact ⟨fun b1 a2 o3 o4 D n3 n4 hI => v_mKnown_2 (fun b1 a2 b3 a4 D ⟨m, hm, hI⟩ => (ih m hm).2 _ _ _ _ _  hI) n3 n4 (h2 mm b1 a2 D hI), fun b1 a2 b3 a4 D hI => v_mKnown_42 (fun b1 a2 o3 o4 D n3 n4 ⟨m, hm, hI⟩ => (ih m hm).1 _ _ _ _ _ n3 n4 hI) (fun b1 a2 b3 a4 D ⟨m, hm, hI⟩ => (ih m hm).2 _ _ _ _ _  hI) (h42 mm b1 a2 b3 a4 D hI)⟩
  exact v_mKnown_0 (fun b1 a2 o3 o4 D n3 n4 ⟨m, hI⟩ => (key m).1 _ _ _ _ _ n3 n4 hI) hE
-- 101: TokenMouthModel.named(Z)I
def w_mNamed_0 (n d : Nat) (b1 : Bool) (D : z_D) (H66 : Int → z_D → Prop) (K : Int → z_D → Prop) (T : Nat → z_D → Prop) : Prop :=
  z_c n d 100 [.ref 336, .int (z_i (z_b b1))] D (z_qI (fun v2 D1 => 
    (z_r v2) ∧
    ((v2 < 0) →
      (z_r (D1.1 336 11)) ∧
      ((¬ (D1.1 336 11) = 118) →
        (0 ≤ (D1.1 336 11) ∧ (D1.1 336 11) < 120) ∧
        ∀ D6, D6 = z_uz D1 341 (Int.toNat (D1.1 336 11)) (D1.1 336 16) →
        (0 ≤ (D6.1 336 11) ∧ (D6.1 336 11) < 120) ∧
        ∀ D8, D8 = z_uz D6 342 (Int.toNat (D6.1 336 11)) (z_b b1) →
        (0 ≤ (D8.1 336 11) ∧ (D8.1 336 11) < 120) ∧
        ∀ D10, D10 = z_uz D8 343 (Int.toNat (D8.1 336 11)) 0 →
        H66 0 D10) ∧
      (((D1.1 336 11) = 118) →
        z_c n d 98 [.ref 336, .int (z_i 5)] D1 (z_qI (fun v12 D11 => 
          K v12 D11) T))) ∧
    ((0 ≤ v2) →
      K (4096 + v2) D1)) T)
theorem v_mNamed_0 {n d : Nat} {X : z_Xt} {b1 : Bool}  {D : z_D} {H66 : Int → z_D → Prop} {K : Int → z_D → Prop} {T : Nat → z_D → Prop} (hH66 : ∀ (a3 : Int) (o1 : Option Value) (o2 : Option Value) (D : z_D), z_nl o1 → z_nl o2 → H66 a3 D → z_w n d (k_tb 101) X 66 [some (.ref 336), o1, o2, some (.int (z_i a3))] [] D (z_qI K T)) (h : w_mNamed_0 n d b1 D H66 K T) : z_w n d (k_tb 101) X 0 [some (.ref 336), some (.int (z_i (z_b b1))), none, none] [] D (z_qI K T) := by
  unfold w_mNamed_0 at h
  refine zs_aload rfl rfl ?_
  refine zs_iload rfl rfl ?_
  refine z_callV (k := 336) (as0 := [.int (z_i (z_b b1))]) (r := []) rfl rfl rfl (Nat.le_of_ble_eq_true rfl) (z_oI h (fun v2 D1 h => ?_) (fun _ _ h => h))
  refine zs_istore (ls1 := [some (.ref 336), some (.int (z_i (z_b b1))), some (.int (z_i v2)), none]) rfl rfl rfl ?_
  refine zs_iload rfl rfl ?_
  obtain ⟨g3, h⟩ := h
  obtain ⟨h15, h16⟩ := h
  refine zs_iflt rfl g3 (fun c => ?_) (fun c => ?_)
  · have h := h15 c
    refine zs_aload rfl rfl ?_
    refine zs_getI rfl rfl ?_
    refine zs_pushI (118) rfl rfl ?_
    obtain ⟨g4, h⟩ := h
    obtain ⟨h13, h14⟩ := h
    refine zs_cne rfl g4 (z_rk rfl) (fun c => ?_) (fun c => ?_)
    · have h := h13 c
      refine zs_aload rfl rfl ?_
      refine zs_getR (x := 341) rfl rfl rfl ?_
      refine zs_aload rfl rfl ?_
      refine zs_getI rfl rfl ?_
      refine zs_aload rfl rfl ?_
      refine zs_getI rfl rfl ?_
      obtain ⟨g5, h⟩ := h
      refine zs_iast rfl rfl (by decide) g5 (fun D6 eD6 => ?_)
      have h := h D6 eD6
      refine zs_aload rfl rfl ?_
      refine zs_getR (x := 342) rfl rfl rfl ?_
      refine zs_aload rfl rfl ?_
      refine zs_getI rfl rfl ?_
      refine zs_iload rfl rfl ?_
      obtain ⟨g7, h⟩ := h
      refine zs_zast rfl rfl (by decide) g7 (fun D8 eD8 => ?_)
      have h := h D8 eD8
      refine zs_aload rfl rfl ?_
      refine zs_getR (x := 343) rfl rfl rfl ?_
      refine zs_aload rfl rfl ?_
      refine zs_getI rfl rfl ?_
      refine zs_pushI (0) rfl rfl ?_
      obtain ⟨g9, h⟩ := h
      refine zs_iast rfl rfl (by decide) g9 (fun D10 eD10 => ?_)
      have h := h D10 eD10
      refine zs_pushI (0) rfl rfl ?_
      refine zs_istore (ls1 := [some (.ref 336), some (.int (z_i (z_b b1))), some (.int (z_i v2)), some (.int (z_i 0))]) rfl rfl rfl ?_
      exact hH66 _ _ _ _ (by first | assumption | exact trivial) (by first | assumption | exact trivial) h
    · have h := h14 c
      refine zs_aload rfl rfl ?_
      refine zs_pushI (5) rfl rfl ?_
      refine z_callV (k := 336) (as0 := [.int (z_i 5)]) (r := []) rfl rfl rfl (Nat.le_of_ble_eq_true rfl) (z_oI h (fun v12 D11 h => ?_) (fun _ _ h => h))
      exact zs_iret rfl h
  · have h := h16 c
    refine zs_pushI (4096) rfl rfl ?_
    refine zs_iload rfl rfl ?_
    refine zs_add (a := 4096) (b := v2) rfl ?_
    exact zs_iret rfl h
def w_mNamed_66 (n d : Nat) (a3 : Int) (D : z_D) (H66 : Int → z_D → Prop) (K : Int → z_D → Prop) (T : Nat → z_D → Prop) : Prop :=
  (z_r a3) ∧ (z_r (D.1 336 16)) ∧
  (((D.1 336 16) ≤ a3) →
    ∀ D3, D3 = z_uz D 336 11 ((D.1 336 11) + 1) →
    K ((4096 + (D3.1 336 11)) - 1) D3) ∧
  ((a3 < (D.1 336 16)) →
    (0 ≤ a3 ∧ a3 < 12) ∧
    (0 ≤ ((11 * (D.1 336 11)) + a3) ∧ ((11 * (D.1 336 11)) + a3) < 1320) ∧
    ∀ D6, D6 = z_uz D 340 (Int.toNat ((11 * (D.1 336 11)) + a3)) (D.1 344 (Int.toNat a3)) →
    H66 (a3 + 1) D6)
theorem v_mNamed_66 {n d : Nat} {X : z_Xt} {a3 : Int} {o1 : Option Value} {o2 : Option Value} {D : z_D} {H66 : Int → z_D → Prop} {K : Int → z_D → Prop} {T : Nat → z_D → Prop} (hH66 : ∀ (a3 : Int) (o1 : Option Value) (o2 : Option Value) (D : z_D), z_nl o1 → z_nl o2 → H66 a3 D → z_w n d (k_tb 101) X 66 [some (.ref 336), o1, o2, some (.int (z_i a3))] [] D (z_qI K T)) (n1 : z_nl o1) (n2 : z_nl o2) (h : w_mNamed_66 n d a3 D H66 K T) : z_w n d (k_tb 101) X 66 [some (.ref 336), o1, o2, some (.int (z_i a3))] [] D (z_qI K T) := by
  unfold w_mNamed_66 at h
  refine zs_iload rfl rfl ?_
  refine zs_aload rfl rfl ?_
  refine zs_getI rfl rfl ?_
  obtain ⟨g1, g2, h⟩ := h
  obtain ⟨h7, h8⟩ := h
  refine zs_cge rfl g1 g2 (fun c => ?_) (fun c => ?_)
  · have h := h7 c
    refine zs_aload rfl rfl ?_
    refine zs_dup rfl rfl ?_
    refine zs_getI rfl rfl ?_
    refine zs_pushI (1) rfl rfl ?_
    refine zs_add (a := (D.1 336 11)) (b := 1) rfl ?_
    refine zs_putI rfl rfl (fun D3 eD3 => ?_)
    have h := h D3 eD3
    refine zs_pushI (4096) rfl rfl ?_
    refine zs_aload rfl rfl ?_
    refine zs_getI rfl rfl ?_
    refine zs_add (a := 4096) (b := (D3.1 336 11)) rfl ?_
    refine zs_pushI (1) rfl rfl ?_
    refine zs_sub (a := (4096 + (D3.1 336 11))) (b := 1) rfl ?_
    exact zs_iret rfl h
  · have h := h8 c
    refine zs_aload rfl rfl ?_
    refine zs_getR (x := 340) rfl rfl rfl ?_
    refine zs_pushI (11) rfl rfl ?_
    refine zs_aload rfl rfl ?_
    refine zs_getI rfl rfl ?_
    refine zs_mul (a := 11) (b := (D.1 336 11)) rfl ?_
    refine zs_iload rfl rfl ?_
    refine zs_add (a := (11 * (D.1 336 11))) (b := a3) rfl ?_
    refine zs_aload rfl rfl ?_
    refine zs_getR (x := 344) rfl rfl rfl ?_
    refine zs_iload rfl rfl ?_
    obtain ⟨g4, h⟩ := h
    refine zs_iald rfl rfl (by decide) g4 ?_
    obtain ⟨g5, h⟩ := h
    refine zs_iast rfl rfl (by decide) g5 (fun D6 eD6 => ?_)
    have h := h D6 eD6
    refine zs_iinc (a := a3) (1) (ls1 := [some (.ref 336), o1, o2, some (.int (z_i (a3 + 1)))]) rfl rfl rfl ((z_st1 rfl n2).trans rfl) ?_
    refine zs_goto rfl ?_
    exact hH66 _ _ _ _ (by first | assumption | exact trivial) (by first | assumption | exact trivial) h
theorem r_mNamed {n d : Nat} {b1 : Bool} {D : z_D} {K : Int → z_D → Prop} {T : Nat → z_D → Prop}  (I66 : Nat → Int → z_D → Prop) (hE : w_mNamed_0 n d b1 D (fun a3 D => ∃ m, I66 m a3 D) K T) (h66 : ∀ (mm : Nat) (a3 : Int) (D : z_D), I66 mm a3 D → w_mNamed_66 n d a3 D (fun a3 D => ∃ m, m < mm ∧ I66 m a3 D) K T) : z_c n (d + 1) 101 [.ref 336, .int (z_i (z_b b1))] D (z_qI K T) := by
  refine z_enter (Nat.le_of_ble_eq_true rfl) rfl (fun X => ?_)
  have key : ∀ m, (∀ (a3 : Int) (o1 : Option Value) (o2 : Option Value) (D : z_D), z_nl o1 → z_nl o2 → I66 m a3 D → z_w n d (k_tb 101) X 66 [some (.ref 336), o1, o2, some (.int (z_i a3))] [] D (z_qI K T)) := by
    intro m
    induction m using Nat.strongRecOn with
    | _ mm ih =>
      exact fun a3 o1 o2 D n1 n2 hI => v_mNamed_66 (fun a3 o1 o2 D n1 n2 ⟨m, hm, hI⟩ => (ih m hm) _ _ _ _ n1 n2 hI) n1 n2 (h66 mm a3 D hI)
  exact v_mNamed_0 (fun a3 o1 o2 D n1 n2 ⟨m, hI⟩ => (key m) _ _ _ _ n1 n2 hI) hE
-- 102: TokenMouthModel.readName()I
def w_mReadName_0 (n d : Nat)  (D : z_D) (H60 : Int → z_D → Prop) (K : Int → z_D → Prop) (T : Nat → z_D → Prop) : Prop :=
  (z_r (D.1 336 3)) ∧ (z_r (D.1 336 1)) ∧
  ((¬ (D.1 336 3) = (D.1 336 1)) →
    ∀ D3, D3 = z_uz D 336 16 0 →
    (0 ≤ (D3.1 336 3) ∧ (D3.1 336 3) < 160) ∧
    z_c n d 99 [.ref 336, .int (z_i (D3.1 337 (Int.toNat (D3.1 336 3))))] D3 (z_qV (fun D5 => 
      (0 ≤ (D5.1 336 3) ∧ (D5.1 336 3) < 160) ∧
      (0 ≤ (D5.1 337 (Int.toNat (D5.1 336 3))) ∧ (D5.1 337 (Int.toNat (D5.1 336 3))) < 128) ∧
      ∀ D8, D8 = z_uz D5 336 3 ((D5.1 336 3) + 1) →
      H60 (D5.1 338 (Int.toNat (D5.1 337 (Int.toNat (D5.1 336 3))))) D8) T)) ∧
  (((D.1 336 3) = (D.1 336 1)) →
    z_c n d 98 [.ref 336, .int (z_i 3)] D (z_qI (fun v10 D9 => 
      K v10 D9) T))
theorem v_mReadName_0 {n d : Nat} {X : z_Xt}   {D : z_D} {H60 : Int → z_D → Prop} {K : Int → z_D → Prop} {T : Nat → z_D → Prop} (hH60 : ∀ (a1 : Int) (D : z_D), H60 a1 D → z_w n d (k_tb 102) X 60 [some (.ref 336), some (.int (z_i a1))] [] D (z_qI K T)) (h : w_mReadName_0 n d D H60 K T) : z_w n d (k_tb 102) X 0 [some (.ref 336), none] [] D (z_qI K T) := by
  unfold w_mReadName_0 at h
  refine zs_aload rfl rfl ?_
  refine zs_getI rfl rfl ?_
  refine zs_aload rfl rfl ?_
  refine zs_getI rfl rfl ?_
  obtain ⟨g1, g2, h⟩ := h
  obtain ⟨h11, h12⟩ := h
  refine zs_cne rfl g1 g2 (fun c => ?_) (fun c => ?_)
  · have h := h11 c
    refine zs_aload rfl rfl ?_
    refine zs_pushI (0) rfl rfl ?_
    refine zs_putI rfl rfl (fun D3 eD3 => ?_)
    have h := h D3 eD3
    refine zs_aload rfl rfl ?_
    refine zs_aload rfl rfl ?_
    refine zs_getR (x := 337) rfl rfl rfl ?_
    refine zs_aload rfl rfl ?_
    refine zs_getI rfl rfl ?_
    obtain ⟨g4, h⟩ := h
    refine zs_iald rfl rfl (by decide) g4 ?_
    refine z_callV (k := 336) (as0 := [.int (z_i (D3.1 337 (Int.toNat (D3.1 336 3))))]) (r := []) rfl rfl rfl (Nat.le_of_ble_eq_true rfl) (z_oV h (fun D5 h => ?_) (fun _ _ h => h))
    refine zs_aload rfl rfl ?_
    refine zs_getR (x := 338) rfl rfl rfl ?_
    refine zs_aload rfl rfl ?_
    refine zs_getR (x := 337) rfl rfl rfl ?_
    refine zs_aload rfl rfl ?_
    refine zs_getI rfl rfl ?_
    obtain ⟨g6, h⟩ := h
    refine zs_iald rfl rfl (by decide) g6 ?_
    obtain ⟨g7, h⟩ := h
    refine zs_iald rfl rfl (by decide) g7 ?_
    refine zs_istore (ls1 := [some (.ref 336), some (.int (z_i (D5.1 338 (Int.toNat (D5.1 337 (Int.toNat (D5.1 336 3)))))))]) rfl rfl rfl ?_
    refine zs_aload rfl rfl ?_
    refine zs_dup rfl rfl ?_
    refine zs_getI rfl rfl ?_
    refine zs_pushI (1) rfl rfl ?_
    refine zs_add (a := (D5.1 336 3)) (b := 1) rfl ?_
    refine zs_putI rfl rfl (fun D8 eD8 => ?_)
    have h := h D8 eD8
    exact hH60 _  _  h
  · have h := h12 c
    refine zs_aload rfl rfl ?_
    refine zs_pushI (3) rfl rfl ?_
    refine z_callV (k := 336) (as0 := [.int (z_i 3)]) (r := []) rfl rfl rfl (Nat.le_of_ble_eq_true rfl) (z_oI h (fun v10 D9 h => ?_) (fun _ _ h => h))
    exact zs_iret rfl h
def w_mReadName_152 (n d : Nat) (s1 : Int) (D : z_D)  (K : Int → z_D → Prop) (T : Nat → z_D → Prop) : Prop :=
  ∀ D1, D1 = z_uz D 336 4 s1 →
  z_c n d 101 [.ref 336, .int (z_i (z_b false))] D1 (z_qI (fun v3 D2 => 
    K v3 D2) T)
theorem v_mReadName_152 {n d : Nat} {X : z_Xt} {s1 : Int} {o1 : Option Value} {D : z_D}  {K : Int → z_D → Prop} {T : Nat → z_D → Prop} (n1 : z_nl o1) (h : w_mReadName_152 n d s1 D K T) : z_w n d (k_tb 102) X 152 [some (.ref 336), o1] [.int (z_i s1), .ref 336] D (z_qI K T) := by
  unfold w_mReadName_152 at h
  refine zs_putI rfl rfl (fun D1 eD1 => ?_)
  have h := h D1 eD1
  refine zs_aload rfl rfl ?_
  refine zs_pushI (0) rfl rfl ?_
  refine z_callV (k := 336) (as0 := [.int (z_i (z_b false))]) (r := []) rfl rfl rfl (Nat.le_of_ble_eq_true rfl) (z_oI h (fun v3 D2 h => ?_) (fun _ _ h => h))
  exact zs_iret rfl h
def w_mReadName_147 (n d : Nat)  (D : z_D)  (K : Int → z_D → Prop) (T : Nat → z_D → Prop) : Prop :=
  w_mReadName_152 n d 2 D K T
theorem v_mReadName_147 {n d : Nat} {X : z_Xt}  {o1 : Option Value} {D : z_D}  {K : Int → z_D → Prop} {T : Nat → z_D → Prop} (n1 : z_nl o1) (h : w_mReadName_147 n d D K T) : z_w n d (k_tb 102) X 147 [some (.ref 336), o1] [.ref 336] D (z_qI K T) := by
  unfold w_mReadName_147 at h
  refine zs_pushI (2) rfl rfl ?_
  refine zs_goto rfl ?_
  exact v_mReadName_152 (by first | assumption | exact trivial) h
def w_mReadName_134 (n d : Nat) (a1 : Int) (D : z_D)  (K : Int → z_D → Prop) (T : Nat → z_D → Prop) : Prop :=
  (z_r a1) ∧
  ((a1 = 11) →
    w_mReadName_147 n d D K T) ∧
  ((¬ a1 = 11) →
    ((¬ a1 = 10) →
      w_mReadName_152 n d 1 D K T) ∧
    ((a1 = 10) →
      w_mReadName_147 n d D K T))
theorem v_mReadName_134 {n d : Nat} {X : z_Xt} {a1 : Int}  {D : z_D}  {K : Int → z_D → Prop} {T : Nat → z_D → Prop}  (h : w_mReadName_134 n d a1 D K T) : z_w n d (k_tb 102) X 134 [some (.ref 336), some (.int (z_i a1))] [] D (z_qI K T) := by
  unfold w_mReadName_134 at h
  refine zs_aload rfl rfl ?_
  refine zs_iload rfl rfl ?_
  refine zs_pushI (11) rfl rfl ?_
  obtain ⟨g1, h⟩ := h
  obtain ⟨h4, h5⟩ := h
  refine zs_ceq rfl g1 (z_rk rfl) (fun c => ?_) (fun c => ?_)
  · have h := h4 c
    exact v_mReadName_147 (by first | assumption | exact trivial) h
  · have h := h5 c
    refine zs_iload rfl rfl ?_
    refine zs_pushI (10) rfl rfl ?_
    obtain ⟨h2, h3⟩ := h
    refine zs_cne rfl g1 (z_rk rfl) (fun c => ?_) (fun c => ?_)
    · have h := h2 c
      refine zs_pushI (1) rfl rfl ?_
      exact v_mReadName_152 (by first | assumption | exact trivial) h
    · have h := h3 c
      exact v_mReadName_147 (by first | assumption | exact trivial) h
def w_mReadName_60 (n d : Nat) (a1 : Int) (D : z_D) (H60 : Int → z_D → Prop) (K : Int → z_D → Prop) (T : Nat → z_D → Prop) : Prop :=
  (z_r a1) ∧
  ((¬ a1 = 11) →
    w_mReadName_134 n d a1 D K T) ∧
  ((a1 = 11) →
    (z_r (D.1 336 3)) ∧ (z_r (D.1 336 1)) ∧
    (((D.1 336 1) ≤ (D.1 336 3)) →
      w_mReadName_134 n d a1 D K T) ∧
    (((D.1 336 3) < (D.1 336 1)) →
      (0 ≤ (D.1 336 3) ∧ (D.1 336 3) < 160) ∧
      (0 ≤ (D.1 337 (Int.toNat (D.1 336 3))) ∧ (D.1 337 (Int.toNat (D.1 336 3))) < 128) ∧
      (z_r (D.1 338 (Int.toNat (D.1 337 (Int.toNat (D.1 336 3)))))) ∧
      ((¬ (D.1 338 (Int.toNat (D.1 337 (Int.toNat (D.1 336 3))))) = 11) →
        w_mReadName_134 n d a1 D K T) ∧
      (((D.1 338 (Int.toNat (D.1 337 (Int.toNat (D.1 336 3))))) = 11) →
        (0 ≤ (D.1 336 3) ∧ (D.1 336 3) < 160) ∧
        z_c n d 99 [.ref 336, .int (z_i (D.1 337 (Int.toNat (D.1 336 3))))] D (z_qV (fun D8 => 
          ∀ D9, D9 = z_uz D8 336 3 ((D8.1 336 3) + 1) →
          (z_r (D9.1 336 16)) ∧
          ((¬ (D9.1 336 16) = 12) →
            H60 a1 D9) ∧
          (((D9.1 336 16) = 12) →
            z_c n d 98 [.ref 336, .int (z_i 5)] D9 (z_qI (fun v12 D11 => 
              K v12 D11) T))) T))))
theorem v_mReadName_60 {n d : Nat} {X : z_Xt} {a1 : Int}  {D : z_D} {H60 : Int → z_D → Prop} {K : Int → z_D → Prop} {T : Nat → z_D → Prop} (hH60 : ∀ (a1 : Int) (D : z_D), H60 a1 D → z_w n d (k_tb 102) X 60 [some (.ref 336), some (.int (z_i a1))] [] D (z_qI K T)) (h : w_mReadName_60 n d a1 D H60 K T) : z_w n d (k_tb 102) X 60 [some (.ref 336), some (.int (z_i a1))] [] D (z_qI K T) := by
  unfold w_mReadName_60 at h
  refine zs_iload rfl rfl ?_
  refine zs_pushI (11) rfl rfl ?_
  obtain ⟨g1, h⟩ := h
  obtain ⟨h19, h20⟩ := h
  refine zs_cne rfl g1 (z_rk rfl) (fun c => ?_) (fun c => ?_)
  · have h := h19 c
    exact v_mReadName_134 h
  · have h := h20 c
    refine zs_aload rfl rfl ?_
    refine zs_getI rfl rfl ?_
    refine zs_aload rfl rfl ?_
    refine zs_getI rfl rfl ?_
    obtain ⟨g2, g3, h⟩ := h
    obtain ⟨h17, h18⟩ := h
    refine zs_cge rfl g2 g3 (fun c => ?_) (fun c => ?_)
    · have h := h17 c
      exact v_mReadName_134 h
    · have h := h18 c
      refine zs_aload rfl rfl ?_
      refine zs_getR (x := 338) rfl rfl rfl ?_
      refine zs_aload rfl rfl ?_
      refine zs_getR (x := 337) rfl rfl rfl ?_
      refine zs_aload rfl rfl ?_
      refine zs_getI rfl rfl ?_
      obtain ⟨g4, h⟩ := h
      refine zs_iald rfl rfl (by decide) g4 ?_
      obtain ⟨g5, h⟩ := h
      refine zs_iald rfl rfl (by decide) g5 ?_
      refine zs_pushI (11) rfl rfl ?_
      obtain ⟨g6, h⟩ := h
      obtain ⟨h15, h16⟩ := h
      refine zs_cne rfl g6 (z_rk rfl) (fun c => ?_) (fun c => ?_)
      · have h := h15 c
        exact v_mReadName_134 h
      · have h := h16 c
        refine zs_aload rfl rfl ?_
        refine zs_aload rfl rfl ?_
        refine zs_getR (x := 337) rfl rfl rfl ?_
        refine zs_aload rfl rfl ?_
        refine zs_getI rfl rfl ?_
        obtain ⟨g7, h⟩ := h
        refine zs_iald rfl rfl (by decide) g7 ?_
        refine z_callV (k := 336) (as0 := [.int (z_i (D.1 337 (Int.toNat (D.1 336 3))))]) (r := []) rfl rfl rfl (Nat.le_of_ble_eq_true rfl) (z_oV h (fun D8 h => ?_) (fun _ _ h => h))
        refine zs_aload rfl rfl ?_
        refine zs_dup rfl rfl ?_
        refine zs_getI rfl rfl ?_
        refine zs_pushI (1) rfl rfl ?_
        refine zs_add (a := (D8.1 336 3)) (b := 1) rfl ?_
        refine zs_putI rfl rfl (fun D9 eD9 => ?_)
        have h := h D9 eD9
        refine zs_aload rfl rfl ?_
        refine zs_getI rfl rfl ?_
        refine zs_pushI (12) rfl rfl ?_
        obtain ⟨g10, h⟩ := h
        obtain ⟨h13, h14⟩ := h
        refine zs_cne rfl g10 (z_rk rfl) (fun c => ?_) (fun c => ?_)
        · have h := h13 c
          exact hH60 _  _  h
        · have h := h14 c
          refine zs_aload rfl rfl ?_
          refine zs_pushI (5) rfl rfl ?_
          refine z_callV (k := 336) (as0 := [.int (z_i 5)]) (r := []) rfl rfl rfl (Nat.le_of_ble_eq_true rfl) (z_oI h (fun v12 D11 h => ?_) (fun _ _ h => h))
          exact zs_iret rfl h
theorem r_mReadName {n d : Nat}  {D : z_D} {K : Int → z_D → Prop} {T : Nat → z_D → Prop}  (I60 : Nat → Int → z_D → Prop) (hE : w_mReadName_0 n d D (fun a1 D => ∃ m, I60 m a1 D) K T) (h60 : ∀ (mm : Nat) (a1 : Int) (D : z_D), I60 mm a1 D → w_mReadName_60 n d a1 D (fun a1 D => ∃ m, m < mm ∧ I60 m a1 D) K T) : z_c n (d + 1) 102 [.ref 336] D (z_qI K T) := by
  refine z_enter (Nat.le_of_ble_eq_true rfl) rfl (fun X => ?_)
  have key : ∀ m, (∀ (a1 : Int) (D : z_D), I60 m a1 D → z_w n d (k_tb 102) X 60 [some (.ref 336), some (.int (z_i a1))] [] D (z_qI K T)) := by
    intro m
    induction m using Nat.strongRecOn with
    | _ mm ih =>
      exact fun a1 D hI => v_mReadName_60 (fun a1 D ⟨m, hm, hI⟩ => (ih m hm) _ _  hI) (h60 mm a1 D hI)
  exact v_mReadName_0 (fun a1 D ⟨m, hI⟩ => (key m) _ _  hI) hE
-- 103: TokenMouthModel.read()I
def w_mRead_108 (n d : Nat) (a2 : Int) (a3 : Int) (D : z_D) (H0 : z_D → Prop) (K : Int → z_D → Prop) (T : Nat → z_D → Prop) : Prop :=
  ∀ D1, D1 = z_uz D 336 4 0 →
  (z_r a2) ∧
  ((¬ a2 = 5) →
    H0 D1) ∧
  ((a2 = 5) →
    (z_r a3) ∧
    ((2 ≤ a3) →
      H0 D1) ∧
    ((a3 < 2) →
      ((¬ a3 = 1) →
        K 4096 D1) ∧
      ((a3 = 1) →
        K 2592 D1)))
theorem v_mRead_108 {n d : Nat} {X : z_Xt} {a2 : Int} {a3 : Int} {o1 : Option Value} {o4 : Option Value} {D : z_D} {H0 : z_D → Prop} {K : Int → z_D → Prop} {T : Nat → z_D → Prop} (hH0 : ∀ (o1 : Option Value) (o2 : Option Value) (o3 : Option Value) (o4 : Option Value) (D : z_D), z_nl o1 → z_nl o2 → z_nl o3 → z_nl o4 → H0 D → z_w n d (k_tb 103) X 0 [some (.ref 336), o1, o2, o3, o4] [] D (z_qI K T)) (n1 : z_nl o1) (n4 : z_nl o4) (h : w_mRead_108 n d a2 a3 D H0 K T) : z_w n d (k_tb 103) X 108 [some (.ref 336), o1, some (.int (z_i a2)), some (.int (z_i a3)), o4] [] D (z_qI K T) := by
  unfold w_mRead_108 at h
  refine zs_aload rfl rfl ?_
  refine zs_pushI (0) rfl rfl ?_
  refine zs_putI rfl rfl (fun D1 eD1 => ?_)
  have h := h D1 eD1
  refine zs_iload rfl rfl ?_
  refine zs_pushI (5) rfl rfl ?_
  obtain ⟨g2, h⟩ := h
  obtain ⟨h8, h9⟩ := h
  refine zs_cne rfl g2 (z_rk rfl) (fun c => ?_) (fun c => ?_)
  · have h := h8 c
    refine zs_goto rfl ?_
    refine zs_goto rfl ?_
    exact hH0  _ _ _ _ _ (by first | assumption | exact trivial) (by first | assumption | exact trivial) (by first | assumption | exact trivial) (by first | assumption | exact trivial) h
  · have h := h9 c
    refine zs_iload rfl rfl ?_
    refine zs_pushI (2) rfl rfl ?_
    obtain ⟨g3, h⟩ := h
    obtain ⟨h6, h7⟩ := h
    refine zs_cge rfl g3 (z_rk rfl) (fun c => ?_) (fun c => ?_)
    · have h := h6 c
      refine zs_goto rfl ?_
      refine zs_goto rfl ?_
      exact hH0  _ _ _ _ _ (by first | assumption | exact trivial) (by first | assumption | exact trivial) (by first | assumption | exact trivial) (by first | assumption | exact trivial) h
    · have h := h7 c
      refine zs_iload rfl rfl ?_
      refine zs_pushI (1) rfl rfl ?_
      obtain ⟨h4, h5⟩ := h
      refine zs_cne rfl g3 (z_rk rfl) (fun c => ?_) (fun c => ?_)
      · have h := h4 c
        refine zs_pushI (4096) rfl rfl ?_
        exact zs_iret rfl h
      · have h := h5 c
        refine zs_pushI (2592) rfl rfl ?_
        refine zs_goto rfl ?_
        exact zs_iret rfl h
def w_mRead_0 (n d : Nat)  (D : z_D) (H0 : z_D → Prop) (H66 : Int → Int → Int → z_D → Prop) (K : Int → z_D → Prop) (T : Nat → z_D → Prop) : Prop :=
  (z_r (D.1 336 3)) ∧ (z_r (D.1 336 1)) ∧
  (((D.1 336 1) ≤ (D.1 336 3)) →
    K (-1) D) ∧
  (((D.1 336 3) < (D.1 336 1)) →
    (0 ≤ (D.1 336 3) ∧ (D.1 336 3) < 160) ∧
    (0 ≤ (D.1 337 (Int.toNat (D.1 336 3))) ∧ (D.1 337 (Int.toNat (D.1 336 3))) < 128) ∧
    ∀ D5, D5 = z_uz D 336 3 ((D.1 336 3) + 1) →
    (z_r (D.1 338 (Int.toNat (D.1 337 (Int.toNat (D.1 336 3)))))) ∧
    ((¬ (D.1 338 (Int.toNat (D.1 337 (Int.toNat (D.1 336 3))))) = 0) →
      (((D.1 338 (Int.toNat (D.1 337 (Int.toNat (D.1 336 3))))) = 5) →
        H66 (D.1 338 (Int.toNat (D.1 337 (Int.toNat (D.1 336 3))))) (D5.1 336 4) (D.1 337 (Int.toNat (D.1 336 3))) D5) ∧
      ((¬ (D.1 338 (Int.toNat (D.1 337 (Int.toNat (D.1 336 3))))) = 5) →
        ((¬ (D.1 338 (Int.toNat (D.1 337 (Int.toNat (D.1 336 3))))) = 14) →
          ((¬ (D.1 338 (Int.toNat (D.1 337 (Int.toNat (D.1 336 3))))) = 10) →
            ((¬ (D.1 338 (Int.toNat (D.1 337 (Int.toNat (D.1 336 3))))) = 13) →
              ((¬ (D.1 338 (Int.toNat (D.1 337 (Int.toNat (D.1 336 3))))) = 15) →
                (((D.1 338 (Int.toNat (D.1 337 (Int.toNat (D.1 336 3))))) = 9) →
                  H0 D5) ∧
                ((¬ (D.1 338 (Int.toNat (D.1 337 (Int.toNat (D.1 336 3))))) = 9) →
                  ∀ D7, D7 = z_uz D5 336 4 1 →
                  K ((D.1 337 (Int.toNat (D.1 336 3))) + (256 * (D.1 338 (Int.toNat (D.1 337 (Int.toNat (D.1 336 3))))))) D7)) ∧
              (((D.1 338 (Int.toNat (D.1 337 (Int.toNat (D.1 336 3))))) = 15) →
                z_c n d 98 [.ref 336, .int (z_i 8)] D5 (z_qI (fun v11 D10 => 
                  K v11 D10) T))) ∧
            (((D.1 338 (Int.toNat (D.1 337 (Int.toNat (D.1 336 3))))) = 13) →
              ∀ D14, D14 = z_uz D5 336 4 1 →
              ∀ D15, D15 = z_uz D14 336 16 0 →
              z_c n d 99 [.ref 336, .int (z_i (D.1 337 (Int.toNat (D.1 336 3))))] D15 (z_qV (fun D16 => 
                z_c n d 101 [.ref 336, .int (z_i (z_b true))] D16 (z_qI (fun v18 D17 => 
                  K v18 D17) T)) T))) ∧
          (((D.1 338 (Int.toNat (D.1 337 (Int.toNat (D.1 336 3))))) = 10) →
            (z_r (D5.1 336 4)) ∧
            ((¬ (D5.1 336 4) = 1) →
              H0 D5) ∧
            (((D5.1 336 4) = 1) →
              ∀ D22, D22 = z_uz D5 336 4 2 →
              K 2592 D22))) ∧
        (((D.1 338 (Int.toNat (D.1 337 (Int.toNat (D.1 336 3))))) = 14) →
          H66 (D.1 338 (Int.toNat (D.1 337 (Int.toNat (D.1 336 3))))) (D5.1 336 4) (D.1 337 (Int.toNat (D.1 336 3))) D5))) ∧
    (((D.1 338 (Int.toNat (D.1 337 (Int.toNat (D.1 336 3))))) = 0) →
      z_c n d 102 [.ref 336] D5 (z_qI (fun v32 D31 => 
        K v32 D31) T)))
theorem v_mRead_0 {n d : Nat} {X : z_Xt}  {o1 : Option Value} {o2 : Option Value} {o3 : Option Value} {o4 : Option Value} {D : z_D} {H0 : z_D → Prop} {H66 : Int → Int → Int → z_D → Prop} {K : Int → z_D → Prop} {T : Nat → z_D → Prop} (hH0 : ∀ (o1 : Option Value) (o2 : Option Value) (o3 : Option Value) (o4 : Option Value) (D : z_D), z_nl o1 → z_nl o2 → z_nl o3 → z_nl o4 → H0 D → z_w n d (k_tb 103) X 0 [some (.ref 336), o1, o2, o3, o4] [] D (z_qI K T)) (hH66 : ∀ (a2 : Int) (a3 : Int) (a4 : Int) (o1 : Option Value) (D : z_D), z_nl o1 → H66 a2 a3 a4 D → z_w n d (k_tb 103) X 66 [some (.ref 336), o1, some (.int (z_i a2)), some (.int (z_i a3)), some (.int (z_i a4))] [] D (z_qI K T)) (n1 : z_nl o1) (n2 : z_nl o2) (n3 : z_nl o3) (n4 : z_nl o4) (h : w_mRead_0 n d D H0 H66 K T) : z_w n d (k_tb 103) X 0 [some (.ref 336), o1, o2, o3, o4] [] D (z_qI K T) := by
  unfold w_mRead_0 at h
  refine zs_aload rfl rfl ?_
  refine zs_getI rfl rfl ?_
  refine zs_aload rfl rfl ?_
  refine zs_getI rfl rfl ?_
  obtain ⟨g1, g2, h⟩ := h
  obtain ⟨h35, h36⟩ := h
  refine zs_cge rfl g1 g2 (fun c => ?_) (fun c => ?_)
  · have h := h35 c
    refine zs_pushI (-1) rfl rfl ?_
    exact zs_iret rfl h
  · have h := h36 c
    refine zs_aload rfl rfl ?_
    refine zs_getR (x := 337) rfl rfl rfl ?_
    refine zs_aload rfl rfl ?_
    refine zs_getI rfl rfl ?_
    obtain ⟨g3, h⟩ := h
    refine zs_iald rfl rfl (by decide) g3 ?_
    refine zs_istore (ls1 := [some (.ref 336), some (.int (z_i (D.1 337 (Int.toNat (D.1 336 3))))), o2, o3, o4]) rfl rfl rfl ?_
    refine zs_aload rfl rfl ?_
    refine zs_getR (x := 338) rfl rfl rfl ?_
    refine zs_iload rfl rfl ?_
    obtain ⟨g4, h⟩ := h
    refine zs_iald rfl rfl (by decide) g4 ?_
    refine zs_istore (ls1 := [some (.ref 336), some (.int (z_i (D.1 337 (Int.toNat (D.1 336 3))))), some (.int (z_i (D.1 338 (Int.toNat (D.1 337 (Int.toNat (D.1 336 3))))))), o3, o4]) rfl rfl rfl ?_
    refine zs_aload rfl rfl ?_
    refine zs_dup rfl rfl ?_
    refine zs_getI rfl rfl ?_
    refine zs_pushI (1) rfl rfl ?_
    refine zs_add (a := (D.1 336 3)) (b := 1) rfl ?_
    refine zs_putI rfl rfl (fun D5 eD5 => ?_)
    have h := h D5 eD5
    refine zs_iload rfl rfl ?_
    obtain ⟨g6, h⟩ := h
    obtain ⟨h33, h34⟩ := h
    refine zs_ifne rfl g6 (fun c => ?_) (fun c => ?_)
    · have h := h33 c
      refine zs_iload rfl rfl ?_
      refine zs_pushI (5) rfl rfl ?_
      obtain ⟨h29, h30⟩ := h
      refine zs_ceq rfl g6 (z_rk rfl) (fun c => ?_) (fun c => ?_)
      · have h := h29 c
        refine zs_aload rfl rfl ?_
        refine zs_getI rfl rfl ?_
        refine zs_istore (ls1 := [some (.ref 336), some (.int (z_i (D.1 337 (Int.toNat (D.1 336 3))))), some (.int (z_i (D.1 338 (Int.toNat (D.1 337 (Int.toNat (D.1 336 3))))))), some (.int (z_i (D5.1 336 4))), o4]) rfl rfl rfl ?_
        refine zs_iload rfl rfl ?_
        refine zs_istore (ls1 := [some (.ref 336), some (.int (z_i (D.1 337 (Int.toNat (D.1 336 3))))), some (.int (z_i (D.1 338 (Int.toNat (D.1 337 (Int.toNat (D.1 336 3))))))), some (.int (z_i (D5.1 336 4))), some (.int (z_i (D.1 337 (Int.toNat (D.1 336 3)))))]) rfl rfl rfl ?_
        exact hH66 _ _ _ _ _ (by first | assumption | exact trivial) h
      · have h := h30 c
        refine zs_iload rfl rfl ?_
        refine zs_pushI (14) rfl rfl ?_
        obtain ⟨h27, h28⟩ := h
        refine zs_cne rfl g6 (z_rk rfl) (fun c => ?_) (fun c => ?_)
        · have h := h27 c
          refine zs_iload rfl rfl ?_
          refine zs_pushI (10) rfl rfl ?_
          obtain ⟨h25, h26⟩ := h
          refine zs_cne rfl g6 (z_rk rfl) (fun c => ?_) (fun c => ?_)
          · have h := h25 c
            refine zs_iload rfl rfl ?_
            refine zs_pushI (13) rfl rfl ?_
            obtain ⟨h19, h20⟩ := h
            refine zs_cne rfl g6 (z_rk rfl) (fun c => ?_) (fun c => ?_)
            · have h := h19 c
              refine zs_iload rfl rfl ?_
              refine zs_pushI (15) rfl rfl ?_
              obtain ⟨h12, h13⟩ := h
              refine zs_cne rfl g6 (z_rk rfl) (fun c => ?_) (fun c => ?_)
              · have h := h12 c
                refine zs_iload rfl rfl ?_
                refine zs_pushI (9) rfl rfl ?_
                obtain ⟨h8, h9⟩ := h
                refine zs_ceq rfl g6 (z_rk rfl) (fun c => ?_) (fun c => ?_)
                · have h := h8 c
                  refine zs_goto rfl ?_
                  exact hH0  _ _ _ _ _ (by first | assumption | exact trivial) (by first | assumption | exact trivial) (by first | assumption | exact trivial) (by first | assumption | exact trivial) h
                · have h := h9 c
                  refine zs_aload rfl rfl ?_
                  refine zs_pushI (1) rfl rfl ?_
                  refine zs_putI rfl rfl (fun D7 eD7 => ?_)
                  have h := h D7 eD7
                  refine zs_iload rfl rfl ?_
                  refine zs_pushI (256) rfl rfl ?_
                  refine zs_iload rfl rfl ?_
                  refine zs_mul (a := 256) (b := (D.1 338 (Int.toNat (D.1 337 (Int.toNat (D.1 336 3)))))) rfl ?_
                  refine zs_add (a := (D.1 337 (Int.toNat (D.1 336 3)))) (b := (256 * (D.1 338 (Int.toNat (D.1 337 (Int.toNat (D.1 336 3))))))) rfl ?_
                  exact zs_iret rfl h
              · have h := h13 c
                refine zs_aload rfl rfl ?_
                refine zs_pushI (8) rfl rfl ?_
                refine z_callV (k := 336) (as0 := [.int (z_i 8)]) (r := []) rfl rfl rfl (Nat.le_of_ble_eq_true rfl) (z_oI h (fun v11 D10 h => ?_) (fun _ _ h => h))
                exact zs_iret rfl h
            · have h := h20 c
              refine zs_aload rfl rfl ?_
              refine zs_pushI (1) rfl rfl ?_
              refine zs_putI rfl rfl (fun D14 eD14 => ?_)
              have h := h D14 eD14
              refine zs_aload rfl rfl ?_
              refine zs_pushI (0) rfl rfl ?_
              refine zs_putI rfl rfl (fun D15 eD15 => ?_)
              have h := h D15 eD15
              refine zs_aload rfl rfl ?_
              refine zs_iload rfl rfl ?_
              refine z_callV (k := 336) (as0 := [.int (z_i (D.1 337 (Int.toNat (D.1 336 3))))]) (r := []) rfl rfl rfl (Nat.le_of_ble_eq_true rfl) (z_oV h (fun D16 h => ?_) (fun _ _ h => h))
              refine zs_aload rfl rfl ?_
              refine zs_pushI (1) rfl rfl ?_
              refine z_callV (k := 336) (as0 := [.int (z_i (z_b true))]) (r := []) rfl rfl rfl (Nat.le_of_ble_eq_true rfl) (z_oI h (fun v18 D17 h => ?_) (fun _ _ h => h))
              exact zs_iret rfl h
          · have h := h26 c
            refine zs_aload rfl rfl ?_
            refine zs_getI rfl rfl ?_
            refine zs_pushI (1) rfl rfl ?_
            obtain ⟨g21, h⟩ := h
            obtain ⟨h23, h24⟩ := h
            refine zs_cne rfl g21 (z_rk rfl) (fun c => ?_) (fun c => ?_)
            · have h := h23 c
              refine zs_goto rfl ?_
              exact hH0  _ _ _ _ _ (by first | assumption | exact trivial) (by first | assumption | exact trivial) (by first | assumption | exact trivial) (by first | assumption | exact trivial) h
            · have h := h24 c
              refine zs_aload rfl rfl ?_
              refine zs_pushI (2) rfl rfl ?_
              refine zs_putI rfl rfl (fun D22 eD22 => ?_)
              have h := h D22 eD22
              refine zs_pushI (2592) rfl rfl ?_
              exact zs_iret rfl h
        · have h := h28 c
          refine zs_aload rfl rfl ?_
          refine zs_getI rfl rfl ?_
          refine zs_istore (ls1 := [some (.ref 336), some (.int (z_i (D.1 337 (Int.toNat (D.1 336 3))))), some (.int (z_i (D.1 338 (Int.toNat (D.1 337 (Int.toNat (D.1 336 3))))))), some (.int (z_i (D5.1 336 4))), o4]) rfl rfl rfl ?_
          refine zs_iload rfl rfl ?_
          refine zs_istore (ls1 := [some (.ref 336), some (.int (z_i (D.1 337 (Int.toNat (D.1 336 3))))), some (.int (z_i (D.1 338 (Int.toNat (D.1 337 (Int.toNat (D.1 336 3))))))), some (.int (z_i (D5.1 336 4))), some (.int (z_i (D.1 337 (Int.toNat (D.1 336 3)))))]) rfl rfl rfl ?_
          exact hH66 _ _ _ _ _ (by first | assumption | exact trivial) h
    · have h := h34 c
      refine zs_aload rfl rfl ?_
      refine z_callV (k := 336) (as0 := []) (r := []) rfl rfl rfl (Nat.le_of_ble_eq_true rfl) (z_oI h (fun v32 D31 h => ?_) (fun _ _ h => h))
      exact zs_iret rfl h
def w_mRead_66 (n d : Nat) (a2 : Int) (a3 : Int) (a4 : Int) (D : z_D) (H0 : z_D → Prop) (H66 : Int → Int → Int → z_D → Prop) (K : Int → z_D → Prop) (T : Nat → z_D → Prop) : Prop :=
  (z_r a4) ∧
  ((a4 = 10) →
    w_mRead_108 n d a2 a3 D H0 K T) ∧
  ((¬ a4 = 10) →
    (z_r (D.1 336 3)) ∧ (z_r (D.1 336 1)) ∧
    (((D.1 336 1) ≤ (D.1 336 3)) →
      w_mRead_108 n d a2 a3 D H0 K T) ∧
    (((D.1 336 3) < (D.1 336 1)) →
      (0 ≤ (D.1 336 3) ∧ (D.1 336 3) < 160) ∧
      ∀ D5, D5 = z_uz D 336 3 ((D.1 336 3) + 1) →
      H66 a2 a3 (D.1 337 (Int.toNat (D.1 336 3))) D5))
theorem v_mRead_66 {n d : Nat} {X : z_Xt} {a2 : Int} {a3 : Int} {a4 : Int} {o1 : Option Value} {D : z_D} {H0 : z_D → Prop} {H66 : Int → Int → Int → z_D → Prop} {K : Int → z_D → Prop} {T : Nat → z_D → Prop} (hH0 : ∀ (o1 : Option Value) (o2 : Option Value) (o3 : Option Value) (o4 : Option Value) (D : z_D), z_nl o1 → z_nl o2 → z_nl o3 → z_nl o4 → H0 D → z_w n d (k_tb 103) X 0 [some (.ref 336), o1, o2, o3, o4] [] D (z_qI K T)) (hH66 : ∀ (a2 : Int) (a3 : Int) (a4 : Int) (o1 : Option Value) (D : z_D), z_nl o1 → H66 a2 a3 a4 D → z_w n d (k_tb 103) X 66 [some (.ref 336), o1, some (.int (z_i a2)), some (.int (z_i a3)), some (.int (z_i a4))] [] D (z_qI K T)) (n1 : z_nl o1) (h : w_mRead_66 n d a2 a3 a4 D H0 H66 K T) : z_w n d (k_tb 103) X 66 [some (.ref 336), o1, some (.int (z_i a2)), some (.int (z_i a3)), some (.int (z_i a4))] [] D (z_qI K T) := by
  unfold w_mRead_66 at h
  refine zs_iload rfl rfl ?_
  refine zs_pushI (10) rfl rfl ?_
  obtain ⟨g1, h⟩ := h
  obtain ⟨h8, h9⟩ := h
  refine zs_ceq rfl g1 (z_rk rfl) (fun c => ?_) (fun c => ?_)
  · have h := h8 c
    exact v_mRead_108 hH0 (by first | assumption | exact trivial) (by first | assumption | exact trivial) h
  · have h := h9 c
    refine zs_aload rfl rfl ?_
    refine zs_getI rfl rfl ?_
    refine zs_aload rfl rfl ?_
    refine zs_getI rfl rfl ?_
    obtain ⟨g2, g3, h⟩ := h
    obtain ⟨h6, h7⟩ := h
    refine zs_cge rfl g2 g3 (fun c => ?_) (fun c => ?_)
    · have h := h6 c
      exact v_mRead_108 hH0 (by first | assumption | exact trivial) (by first | assumption | exact trivial) h
    · have h := h7 c
      refine zs_aload rfl rfl ?_
      refine zs_getR (x := 337) rfl rfl rfl ?_
      refine zs_aload rfl rfl ?_
      refine zs_getI rfl rfl ?_
      obtain ⟨g4, h⟩ := h
      refine zs_iald rfl rfl (by decide) g4 ?_
      refine zs_istore (ls1 := [some (.ref 336), o1, some (.int (z_i a2)), some (.int (z_i a3)), some (.int (z_i (D.1 337 (Int.toNat (D.1 336 3)))))]) rfl rfl rfl ?_
      refine zs_aload rfl rfl ?_
      refine zs_dup rfl rfl ?_
      refine zs_getI rfl rfl ?_
      refine zs_pushI (1) rfl rfl ?_
      refine zs_add (a := (D.1 336 3)) (b := 1) rfl ?_
      refine zs_putI rfl rfl (fun D5 eD5 => ?_)
      have h := h D5 eD5
      refine zs_goto rfl ?_
      exact hH66 _ _ _ _ _ (by first | assumption | exact trivial) h
theorem r_mRead {n d : Nat}  {D : z_D} {K : Int → z_D → Prop} {T : Nat → z_D → Prop}  (I0 : Nat → z_D → Prop) (I66 : Nat → Int → Int → Int → z_D → Prop) (hE : ∃ m, I0 m D) (h0 : ∀ (mm : Nat)  (D : z_D), I0 mm D → w_mRead_0 n d D (fun D => ∃ m, m < mm ∧ I0 m D) (fun a2 a3 a4 D => ∃ m, m < mm ∧ I66 m a2 a3 a4 D) K T) (h66 : ∀ (mm : Nat) (a2 : Int) (a3 : Int) (a4 : Int) (D : z_D), I66 mm a2 a3 a4 D → w_mRead_66 n d a2 a3 a4 D (fun D => ∃ m, m < mm ∧ I0 m D) (fun a2 a3 a4 D => ∃ m, m < mm ∧ I66 m a2 a3 a4 D) K T) : z_c n (d + 1) 103 [.ref 336] D (z_qI K T) := by
  refine z_enter (Nat.le_of_ble_eq_true rfl) rfl (fun X => ?_)
  have key : ∀ m, (∀ (o1 : Option Value) (o2 : Option Value) (o3 : Option Value) (o4 : Option Value) (D : z_D), z_nl o1 → z_nl o2 → z_nl o3 → z_nl o4 → I0 m D → z_w n d (k_tb 103) X 0 [some (.ref 336), o1, o2, o3, o4] [] D (z_qI K T)) ∧ (∀ (a2 : Int) (a3 : Int) (a4 : Int) (o1 : Option Value) (D : z_D), z_nl o1 → I66 m a2 a3 a4 D → z_w n d (k_tb 103) X 66 [some (.ref 336), o1, some (.int (z_i a2)), some (.int (z_i a3)), some (.int (z_i a4))] [] D (z_qI K T)) := by
    intro m
    induction m using Nat.strongRecOn with
    | _ mm ih =>
      exact ⟨fun o1 o2 o3 o4 D n1 n2 n3 n4 hI => v_mRead_0 (fun o1 o2 o3 o4 D n1 n2 n3 n4 ⟨m, hm, hI⟩ => (ih m hm).1 _ _ _ _ _ n1 n2 n3 n4 hI) (fun a2 a3 a4 o1 D n1 ⟨m, hm, hI⟩ => (ih m hm).2 _ _ _ _ _ n1 hI) n1 n2 n3 n4 (h0 mm D hI), fun a2 a3 a4 o1 D n1 hI => v_mRead_66 (fun o1 o2 o3 o4 D n1 n2 n3 n4 ⟨m, hm, hI⟩ => (ih m hm).1 _ _ _ _ _ n1 n2 n3 n4 hI) (fun a2 a3 a4 o1 D n1 ⟨m, hm, hI⟩ => (ih m hm).2 _ _ _ _ _ n1 hI) n1 (h66 mm a2 a3 a4 D hI)⟩
  obtain ⟨m, hI⟩ := hE
  exact (key m).1 _ _ _ _ _ trivial trivial trivial trivial hI
-- 104: TokenMouthModel.get()I
def w_mGet_0 (n d : Nat)  (D : z_D)  (K : Int → z_D → Prop) (T : Nat → z_D → Prop) : Prop :=
  (z_r (D.1 336 5)) ∧
  (((D.1 336 5) ≤ 0) →
    (z_r (D.1 336 9)) ∧
    (((D.1 336 9) ≤ 0) →
      z_c n d 103 [.ref 336] D (z_qI (fun v4 D3 => 
        K v4 D3) T)) ∧
    ((0 < (D.1 336 9)) →
      ∀ D5, D5 = z_uz D 336 9 ((D.1 336 9) - 1) →
      (0 ≤ (D5.1 336 9) ∧ (D5.1 336 9) < 302) ∧
      K (D5.1 339 (Int.toNat (D5.1 336 9))) D5)) ∧
  ((0 < (D.1 336 5)) →
    K (-1) D)
theorem v_mGet_0 {n d : Nat} {X : z_Xt}   {D : z_D}  {K : Int → z_D → Prop} {T : Nat → z_D → Prop}  (h : w_mGet_0 n d D K T) : z_w n d (k_tb 104) X 0 [some (.ref 336)] [] D (z_qI K T) := by
  unfold w_mGet_0 at h
  refine zs_aload rfl rfl ?_
  refine zs_getI rfl rfl ?_
  obtain ⟨g1, h⟩ := h
  obtain ⟨h9, h10⟩ := h
  refine zs_ifle rfl g1 (fun c => ?_) (fun c => ?_)
  · have h := h9 c
    refine zs_aload rfl rfl ?_
    refine zs_getI rfl rfl ?_
    obtain ⟨g2, h⟩ := h
    obtain ⟨h7, h8⟩ := h
    refine zs_ifle rfl g2 (fun c => ?_) (fun c => ?_)
    · have h := h7 c
      refine zs_aload rfl rfl ?_
      refine z_callV (k := 336) (as0 := []) (r := []) rfl rfl rfl (Nat.le_of_ble_eq_true rfl) (z_oI h (fun v4 D3 h => ?_) (fun _ _ h => h))
      exact zs_iret rfl h
    · have h := h8 c
      refine zs_aload rfl rfl ?_
      refine zs_dup rfl rfl ?_
      refine zs_getI rfl rfl ?_
      refine zs_pushI (1) rfl rfl ?_
      refine zs_sub (a := (D.1 336 9)) (b := 1) rfl ?_
      refine zs_putI rfl rfl (fun D5 eD5 => ?_)
      have h := h D5 eD5
      refine zs_aload rfl rfl ?_
      refine zs_getR (x := 339) rfl rfl rfl ?_
      refine zs_aload rfl rfl ?_
      refine zs_getI rfl rfl ?_
      obtain ⟨g6, h⟩ := h
      refine zs_iald rfl rfl (by decide) g6 ?_
      exact zs_iret rfl h
  · have h := h10 c
    refine zs_pushI (-1) rfl rfl ?_
    exact zs_iret rfl h
theorem r_mGet {n d : Nat}  {D : z_D} {K : Int → z_D → Prop} {T : Nat → z_D → Prop}  (h : w_mGet_0 n d D K T) : z_c n (d + 1) 104 [.ref 336] D (z_qI K T) :=
  z_enter (Nat.le_of_ble_eq_true rfl) rfl (fun X => v_mGet_0 h)
-- 105: TokenMouthModel.need()I
def w_mNeed_0 (n d : Nat)  (D : z_D)  (K : Int → z_D → Prop) (T : Nat → z_D → Prop) : Prop :=
  z_c n d 104 [.ref 336] D (z_qI (fun v2 D1 => 
    (z_r v2) ∧
    ((¬ v2 = (-1)) →
      K v2 D1) ∧
    ((v2 = (-1)) →
      z_c n d 98 [.ref 336, .int (z_i 3)] D1 (z_qI (fun v5 D4 => 
        K v5 D4) T))) T)
theorem v_mNeed_0 {n d : Nat} {X : z_Xt}   {D : z_D}  {K : Int → z_D → Prop} {T : Nat → z_D → Prop}  (h : w_mNeed_0 n d D K T) : z_w n d (k_tb 105) X 0 [some (.ref 336), none] [] D (z_qI K T) := by
  unfold w_mNeed_0 at h
  refine zs_aload rfl rfl ?_
  refine z_callV (k := 336) (as0 := []) (r := []) rfl rfl rfl (Nat.le_of_ble_eq_true rfl) (z_oI h (fun v2 D1 h => ?_) (fun _ _ h => h))
  refine zs_istore (ls1 := [some (.ref 336), some (.int (z_i v2))]) rfl rfl rfl ?_
  refine zs_iload rfl rfl ?_
  refine zs_pushI (-1) rfl rfl ?_
  obtain ⟨g3, h⟩ := h
  obtain ⟨h6, h7⟩ := h
  refine zs_cne rfl g3 (z_rk rfl) (fun c => ?_) (fun c => ?_)
  · have h := h6 c
    refine zs_iload rfl rfl ?_
    exact zs_iret rfl h
  · have h := h7 c
    refine zs_aload rfl rfl ?_
    refine zs_pushI (3) rfl rfl ?_
    refine z_callV (k := 336) (as0 := [.int (z_i 3)]) (r := []) rfl rfl rfl (Nat.le_of_ble_eq_true rfl) (z_oI h (fun v5 D4 h => ?_) (fun _ _ h => h))
    refine zs_goto rfl ?_
    exact zs_iret rfl h
theorem r_mNeed {n d : Nat}  {D : z_D} {K : Int → z_D → Prop} {T : Nat → z_D → Prop}  (h : w_mNeed_0 n d D K T) : z_c n (d + 1) 105 [.ref 336] D (z_qI K T) :=
  z_enter (Nat.le_of_ble_eq_true rfl) rfl (fun X => v_mNeed_0 h)
