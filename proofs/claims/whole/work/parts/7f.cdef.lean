/-! contracts of the class: categories, definitions -/
theorem y_cmp_le (x y : Int64) : z_cmp x y ≤ 0 ↔ x ≤ y := by
  unfold z_cmp
  rw [← lg_cmp_le, Int32.le_iff_toInt_le]
  exact Iff.rfl
theorem y_cmp_lt (x y : Int64) : z_cmp x y < 0 ↔ x < y := by
  unfold z_cmp
  rw [← lg_cmp_lt, Int32.lt_iff_toInt_lt]
  exact Iff.rfl
theorem y_N_63 {x : List Int} (hx : x.length ≤ 8) (hd : y_dig x) : y_N x < 9223372036854775808 := by
  cases x with
  | nil => decide
  | cons c r =>
    have hl : r.length ≤ 7 := by simp at hx; omega
    have h1 : y_N (c :: r) = c.toNat * 256 ^ r.length + y_N r := by
      have := y_N_app [c] r
      have e : y_N [c] = c.toNat := by show 0 * 256 + c.toNat = c.toNat; omega
      rw [e] at this
      exact this
    have h2 := y_N_lt r (fun z hz => hd z (by simp [hz]))
    have h3 : 256 ^ r.length ≤ 256 ^ 7 := Nat.pow_le_pow_right (by decide) hl
    have hc := hd c (by simp)
    have h4 : c.toNat * 256 ^ r.length ≤ 127 * 256 ^ 7 := Nat.mul_le_mul (by omega) h3
    omega
section CF
variable {n d : Nat} {B : y_B} {D : z_D} {tr st : Int} {S : y_S} {T : Nat → z_D → Prop}
theorem c_only {k : Nat} {K : Int → z_D → Prop} (hc : y_cls B tr S D) (ho : y_ok st S) (hk : k < (y_nm S).length) (h : K (y_only S (k : Int)) D) : z_c n (d + 2) 14 [.ref 4, .int (z_i (k : Int))] D (z_qI K T) := by
  have e : (y_nm S)[k]? = some (y_nm S)[k] := List.getElem?_eq_getElem hk
  have hno := ho.2.2.2.2.2.2.2.2.2.2.2.2.2.2.2.2.2.2.2.2.1 _ (List.getElem_mem hk)
  refine r_nOnlyCharacterOf (cl_hdAt hc ho e ?_)
  unfold y_only at h
  rw [show ((k : Int)).toNat = k by omega, e] at h
  generalize (y_nm S)[k] = q at *
  obtain ⟨ls, b⟩ := q
  have hdg := y_dig_code hno.2.2.1
  obtain ⟨x, y, s1, s2, s3, s4, s5, s6⟩ := y_split hno.2.1 hdg
  have s1 : ls = x ++ y := s1
  have hy : y_dig y := fun c hc' => hdg c (by show c ∈ ls; rw [s1]; simp [hc'])
  have h63 := y_N_63 s2 hy
  have ei : (lN (y_N y)).toInt = (y_N y : Int) := lg_ofNat_toInt h63
  show ((z_cmp (y_hd ls) 0 ≤ 0) → K (-1) D) ∧ ((0 < z_cmp (y_hd ls) 0) → ((0 ≤ z_cmp (y_hd ls) 256) → K (-1) D) ∧ ((z_cmp (y_hd ls) 256 < 0) → K (z_li (y_hd ls)) D))
  have s4 : y_hd ls = lN (y_N y) := s4
  rw [s4]
  have n0 : (0 : Int64).toInt = 0 := rfl
  have n256 : (256 : Int64).toInt = 256 := rfl
  have hle0 : (z_cmp (lN (y_N y)) 0 ≤ 0) ↔ (y_N y : Int) ≤ 0 := by rw [y_cmp_le, Int64.le_iff_toInt_le, ei, n0]
  have hlt : (z_cmp (lN (y_N y)) 256 < 0) ↔ (y_N y : Int) < 256 := by rw [y_cmp_lt, Int64.lt_iff_toInt_lt, ei, n256]
  have hne : y ≠ [] := by
    intro z
    have := hno.1
    have hl : 1 ≤ ls.length := this
    rw [s1, z] at hl
    simp at hl
    cases x with
    | nil => simp at hl
    | cons a b => have := s6 (by simp); rw [z] at this; simp at this
  obtain ⟨u, c, ec⟩ : ∃ u c, y = u ++ [c] := by
    rcases y_snoc y with z | ⟨u, c, z⟩
    · exact absurd z hne
    · exact ⟨u, c, z⟩
  have hcd := hy c (by rw [ec]; simp)
  have hN : y_N y = y_N u * 256 + c.toNat := by rw [ec, y_N_snoc]
  by_cases hu : u = []
  · -- one character
    have hx : x = [] := by
      cases x with
      | nil => rfl
      | cons a b =>
        have := s6 (by simp)
        rw [ec, hu] at this
        simp at this
    have els : ls = [c] := by rw [s1, hx, ec, hu]; rfl
    rw [els] at h
    have eN : y_N y = c.toNat := by
      rw [hN, hu]
      show 0 * 256 + c.toNat = _
      omega
    refine ⟨fun z => by have := hle0.mp z; omega, fun _ => ⟨fun z => by have := fun w => hlt.mpr w; omega, fun _ => ?_⟩⟩
    have : z_li (lN (y_N y)) = c := by
      unfold z_li
      rw [lN_i, z_nI (by omega)]
      omega
    rw [this]
    exact h
  · have h1 : y_only S k = y_only S k := rfl
    have hge : 256 ≤ y_N y := by
      obtain ⟨w, a, ew⟩ : ∃ w a, u = w ++ [a] := by
        rcases y_snoc u with z | ⟨w, a, z⟩
        · exact absurd z hu
        · exact ⟨w, a, z⟩
      have had := hy a (by rw [ec, ew]; simp)
      have := y_N_snoc w a
      rw [← ew] at this
      omega
    have hK : K (-1) D := by
      have hls : 2 ≤ ls.length := by
        rw [s1, ec]
        have : 1 ≤ u.length := by
          cases u with
          | nil => exact absurd rfl hu
          | cons => simp
        simp
        omega
      cases ls with
      | nil => simp at hls
      | cons a r =>
        cases r with
        | nil => simp at hls
        | cons b r => exact h
    exact ⟨fun _ => hK, fun _ => ⟨fun _ => hK, fun z => by have := hlt.mp z; omega⟩⟩
theorem c_catc {K : z_D → Prop} (hc : y_cls B 0 S D) (ho : y_ok st S) (h : y_fin (y_catc S) (fun _ S' => ∀ D', y_cls B 0 S' D' → K D') (y_cT B.1 T)) : z_c n (d + 5) 72 [.ref 0] D (z_qV K T) := by
  refine r_tChangeCategory (c_get hc ho (y_gk (yo_getT ho) h (fun t0 S1 ⟨k1, k2, k3, _⟩ h D1 hc1 => ?_)))
  have hr := y_tk_r k3 k1.2.2.2.2.2.2.2.2.2.2.2.2.2.2.2.2.2.2.2.1.2
  have ht := y_un_tp k3 k1.2.2.2.2.2.2.2.2.2.2.2.2.2.2.2.2.2.2.2.1.2
  have hu := y_tp_r ht k1.2.2.2.2.2.2.2.2.2.2.2.2.2.2.2.2.2.2.2.1.2
  dsimp only at h
  have hcr := y_cc_r k1 ht
  have ecc : (if y_un t0 < 4096 then y_un t0 % 256 else y_only S1 (y_un t0 - 4096)) = y_cc S1 (y_un t0) := rfl
  rw [ecc] at h
  have last : ∀ (v : Int) (S4 : y_S) (D4 : z_D), y_cls B 0 S4 D4 → y_ok st S4 → 0 ≤ v → v ≤ 99 → y_cc S1 (y_un t0) ≠ -1 → y_fin (if 15 < v then y_ft S4 4 else y_chg (y_cc S1 (y_un t0)) v S4) (fun _ S' => ∀ D', y_cls B 0 S' D' → K D') (y_cT B.1 T) → w_tChangeCategory_111 n (d + 4) (y_cc S1 (y_un t0)) v D4 K T := by
    intro v S4 D4 hc4 ho4 v0 v9 hne h4
    refine ⟨y_rs (by omega) (by omega), fun c => ?_, fun c => ?_⟩
    · rw [if_neg (by omega)] at h4
      exact c_change hc4 ho4 (Or.inl (by omega)) h4
    · rw [if_pos c] at h4
      exact c_fault hc4 h4
  have body : w_tChangeCategory_36 n (d + 4) (y_cc S1 (y_un t0)) D1 K T := by
    refine ⟨y_rs (by omega) (by omega), fun c => ?_, fun c => ?_⟩
    · rw [if_neg c] at h
      refine c_get hc1 k1 (y_gk (yo_getT k1) h (fun u S2 ⟨a1, a2, a3, _⟩ h D2 hc2 => ?_))
      have hru := y_tk_r a3 a1.2.2.2.2.2.2.2.2.2.2.2.2.2.2.2.2.2.2.2.1.2
      have hdu := y_dg_r u
      refine c_tDigitOf (by omega) (by omega) ⟨y_rs (by omega) (by omega), fun c1 => ?_, fun c1 => ?_⟩
      · rw [if_neg c1] at h
        refine c_get hc2 a1 (y_gk (yo_get a1) h (fun e S3 ⟨b1, b2, b3⟩ h D3 hc3 => ?_))
        have hre : -1 ≤ e ∧ e < 32768 := by
          rcases b3 with b3 | b3
          · omega
          · have := y_tk_r b3.1 b1.2.2.2.2.2.2.2.2.2.2.2.2.2.2.2.2.2.2.2.1.2; omega
        have hde := y_dg_r e
        refine c_tDigitOf hre.1 hre.2 ⟨y_rs (by omega) (by omega), fun c2 => ⟨y_rs (by omega) (by omega), fun c3 => ?_, fun c3 => ?_⟩, fun c2 => ?_⟩
        · rw [if_neg (by omega), if_neg (by omega)] at h
          exact last _ S3 D3 hc3 b1 (by omega) (by omega) c (by rw [if_neg (by omega)]; exact h)
        · rw [if_neg (by omega), if_pos c3] at h
          refine c_put hc3 b1 (y_gk (yo_put b1 (b3.resolve_left (fun q => c3 q.1)).1) h (fun _ S4 ⟨e1, e2⟩ h D4 hc4 => ?_))
          exact last _ S4 D4 hc4 e1 (by omega) (by omega) c (by rw [if_neg (by omega)]; exact h)
        · rw [if_pos c2] at h
          exact last _ S3 D3 hc3 b1 (by omega) (by omega) c h
      · rw [if_pos c1] at h
        exact c_fault hc2 h
    · rw [if_pos c] at h
      exact c_fault hc1 h
  refine c_tUnmarked (by omega) (by omega) ⟨y_rs (by omega) (by omega), fun c => ?_, fun c => ?_⟩
  · have hnt := y_tp_nt ht c
    have hnt : 4096 ≤ y_un t0 ∧ y_un t0 < 4096 + ((y_nm S1).length : Int) := hnt
    rw [show y_un t0 - 4096 = (((y_un t0 - 4096).toNat : Nat) : Int) by omega]
    refine c_only hc1 k1 (by omega) ?_
    have : y_only S1 (((y_un t0 - 4096).toNat : Nat) : Int) = y_cc S1 (y_un t0) := by
      unfold y_cc
      rw [if_neg (by omega)]
      congr 1
      omega
    rw [this]
    exact body
  · have : z_and (y_un t0) 255 = y_cc S1 (y_un t0) := by
      rw [z_and255 (by omega) (by omega)]
      unfold y_cc
      rw [if_pos c]
    rw [this]
    exact body
/-- the draft changes -/
theorem cl_dr {S' : y_S} {Z : Nat → Nat → Int} (hc : y_cls B tr S D) (hf : ∀ c, (c < D.2.2 60 ∨ D.2.2 60 + 5 ≤ c) → Z c = D.1 c) (hs : y_l S' = y_l S ∧ y_s S' = y_s S ∧ y_cat S' = y_cat S ∧ y_mean S' = y_mean S ∧ y_nm S' = y_nm S ∧ y_mac S' = y_mac S)
    (h1 : ∃ l, y_row (Z, D.2) (D.2.2 60 + 1) l ∧ l.length ≤ 12 ∧ ∀ x, y_a S' 4 = some x → l = x) (h2 : ∃ l, y_row (Z, D.2) (D.2.2 60 + 3) l ∧ l.length ≤ 40 ∧ ∀ x, y_a S' 5 = some x → l = x) (h3 : ∀ v, y_dp S' = some v → Z (D.2.2 60) 2 = v) : y_cls B tr S' (Z, D.2) := by
  obtain ⟨a1, a2, a3, a4, a5, a6, a7, a8, a9⟩ := hc.2.2.2.2.2.2.2.2.2.2.2.2.2.2.2.2.2.2.2.1
  obtain ⟨l1, r1, r2, r3⟩ := h1
  obtain ⟨l2, w1, w2, w3⟩ := h2
  have hm := a1 60 (Nat.le_refl _)
  obtain ⟨z1, z2, z3⟩ := hm
  have hrow : ∀ r x, (r + 1 < D.2.2 60 ∨ D.2.2 60 + 5 ≤ r) → y_row D r x → y_row (Z, D.2) r x := fun r x c z => y_row_cell z (hf r (by omega)) (hf (r + 1) (by omega))
  have far : ∀ j, j < 60 → D.2.2 j + 5 ≤ D.2.2 60 ∨ D.2.2 60 + 5 ≤ D.2.2 j := by
    intro j hj
    obtain ⟨y1, y2, y3⟩ := a1 j (by omega)
    have : D.2.2 j ≠ D.2.2 60 := fun e => by have := a2 j 60 (by omega) (Nat.le_refl _) e; omega
    omega
  have hres := cl_ma (A := B.2) hc (S' := S') (Z := Z) (fun c h => hf c (by omega)) hs ⟨a1, a2, fun j hj => ?_, fun j hj => ?_, fun i q hi e => ?_, fun x e => ?_, fun x e => ?_, fun v e => h3 v e, fun i hi => ?_⟩
  · exact hres
  · by_cases e : j = 60
    · subst e; exact ⟨l1, r1, r2⟩
    · obtain ⟨x, b1, b2⟩ := a3 j hj
      have := far j (by omega)
      exact ⟨x, hrow _ x (by dsimp only; omega) b1, b2⟩
  · by_cases e : j = 60
    · subst e; exact ⟨l2, w1, w2⟩
    · obtain ⟨x, b1, b2⟩ := a4 j hj
      have := far j (by omega)
      exact ⟨x, hrow _ x (by dsimp only; omega) b1, b2⟩
  · rw [hs.2.2.2.2.2] at e
    obtain ⟨b1, b2, b3⟩ := a5 i q hi e
    have := far i hi
    refine ⟨hrow _ _ (by dsimp only; omega) b1, hrow _ _ (by dsimp only; omega) b2, ?_⟩
    show Z (D.2.2 i) 2 = _
    rw [hf _ (by omega)]
    exact b3
  · have := r3 x e
    subst this
    exact r1
  · have := w3 x e
    subst this
    exact w1
  · obtain ⟨x, b1, b2, b3⟩ := a9 i hi
    exact ⟨x, hrow _ _ (by omega) b1, b2, b3⟩
/-- the rows of the draft -/
theorem cl_drAt (hc : y_cls B tr S D) : z_mc (D.2.2 60) ∧ (∃ l, y_row D (D.2.2 60 + 1) l ∧ l.length ≤ 12 ∧ ∀ x, y_a S 4 = some x → l = x) ∧ (∃ l, y_row D (D.2.2 60 + 3) l ∧ l.length ≤ 40 ∧ ∀ x, y_a S 5 = some x → l = x) ∧ ∀ v, y_dp S = some v → D.1 (D.2.2 60) 2 = v := by
  obtain ⟨a1, a2, a3, a4, a5, a6, a7, a8, a9⟩ := hc.2.2.2.2.2.2.2.2.2.2.2.2.2.2.2.2.2.2.2.1
  obtain ⟨x, b1, b2⟩ := a3 60 (Nat.le_refl _)
  obtain ⟨y, c1, c2⟩ := a4 60 (Nat.le_refl _)
  have rowu : ∀ (r : Nat) (x y : List Int), y_row D r x → y_row D r y → x = y := by
    intro r x y h1 h2
    have hl : x.length = y.length := by have := h1.1; have := h2.1; omega
    apply List.ext_getElem? 
    intro i
    by_cases c : i < x.length
    · have e1 := h1.2 i c
      have e2 := h2.2 i (by omega)
      rw [List.getElem?_eq_getElem c] at e1 ⊢
      rw [List.getElem?_eq_getElem (by omega : i < y.length)] at e2 ⊢
      have e1 : D.1 (r + 1) i = x[i] := e1
      have e2 : D.1 (r + 1) i = y[i] := e2
      rw [← e1, ← e2]
    · rw [List.getElem?_eq_none (by omega), List.getElem?_eq_none (by omega)]
  exact ⟨a1 60 (Nat.le_refl _), ⟨x, b1, b2, fun z e => rowu _ _ _ b1 (a6 z e)⟩, ⟨y, c1, c2, fun z e => rowu _ _ _ c1 (a7 z e)⟩, a8⟩
end CF
