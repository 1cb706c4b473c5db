/-! contracts of the class: meanings of typed names; a new start -/
def y_mng (v : Int) : Int := if v = 0 then 0 else if v ≤ 18 then 1 else if v < 4096 then 2 else 3
/-- a detail of a meaning -/
def y_det (S : y_S) (v k : Int) : Int := match y_mcr S v with
  | some q => if k = 0 then q.2.2 else if k = 1 then q.1.length else if k = 2 then q.2.1.length else if k < 0 then -1 else
      (if 8192 ≤ y_at q.2.1 (k - 3) then 4096 + (y_at q.2.1 (k - 3) - 8192) else if 4096 ≤ y_at q.2.1 (k - 3) then 4096 else y_at q.2.1 (k - 3))
  | none => if k = 0 then (if v = 0 then -1 else v) else if k = 1 ∨ k = 2 then 0 else -1
theorem y_rs' {z : Int} (h0 : -1 ≤ z) (h : z ≤ 1000000) : z_r z := ⟨by omega, by omega⟩
section CK
variable {n d : Nat} {B : y_B} {D : z_D} {tr st : Int} {S : y_S} {T : Nat → z_D → Prop}
theorem y_look_mn (ho : y_ok st S) {w : Int64} {b : Bool} {v : Int} (h : y_look S w b = some v) : y_mn (y_mm S) v := by
  unfold y_look at h
  split at h
  · split at h
    · cases h; exact ho.2.2.2.2.2.2.2.2.2.2.2.2.2.2.2.2.2.1 _
    · cases h; exact Or.inl (by decide)
  · cases h
theorem c_look {w : Int64} {b : Bool} {K : Int → z_D → Prop} (hc : y_cls B tr S D) (ho : y_ok st S) (h0 : y_look S w b = none → T 3 D) (h1 : ∀ v, y_look S w b = some v → K v D) : z_c n (d + 3) 51 [.ref 0, .long w, .int (z_i (z_b b))] D (z_qI K T) := by
  have hlen := y_chs_len w
  unfold y_look at h0 h1
  refine r_tMeaningOfTyped (fun m w' b' hh s D' => w' = w ∧ b' = b ∧ D' = D ∧ ∃ (j : Nat) (pre : List Int), j ≤ 8 ∧ s = 8 * (j : Int) - 8 ∧ (y_good w = true ∧ 1 ≤ (y_chs w).length ∧ (b = true → (y_chs w).length = 1)) ∧ pre ++ y_nz (y_bys w j) = y_chs w ∧ hh = y_hd pre ∧ m = j) (c_chars ?_) ?_
  · unfold y_cn
    have start : (y_good w = true ∧ 1 ≤ (y_chs w).length ∧ (b = true → (y_chs w).length = 1)) → ∃ m, w = w ∧ b = b ∧ D = D ∧ ∃ (j : Nat) (pre : List Int), j ≤ 8 ∧ (56 : Int) = 8 * (j : Int) - 8 ∧ (y_good w = true ∧ 1 ≤ (y_chs w).length ∧ (b = true → (y_chs w).length = 1)) ∧ pre ++ y_nz (y_bys w j) = y_chs w ∧ (0 : Int64) = y_hd pre ∧ m = j := fun q => ⟨8, rfl, rfl, rfl, 8, [], by decide, by decide, q, rfl, y_hd0, rfl⟩
    have bad : ¬ (y_good w = true ∧ 1 ≤ (y_chs w).length ∧ (b = true → (y_chs w).length = 1)) → T 3 D := fun q => h0 (if_neg q)
    by_cases hg : y_good w = true
    · rw [if_pos hg]
      refine ⟨y_rs (by omega) (by omega), fun c => bad (fun q => by omega), fun c => ⟨fun z => start ⟨hg, by omega, fun q => by rw [z] at q; cases q⟩, fun z => ⟨fun q => start ⟨hg, by omega, fun _ => by omega⟩, fun q => bad (fun p => by have := p.2.2 z; omega)⟩⟩⟩
    · rw [if_neg hg]
      exact ⟨z_rk rfl, fun _ => bad (fun q => hg q.1), fun c => by omega⟩
  · rintro mm w' b' hh s D' ⟨rfl, rfl, rfl, j, pre, hj, rfl, hv, hpre, rfl, rfl⟩
    cases mm with
    | zero =>
      have ep : pre = y_chs w' := by rw [← hpre]; simp [y_bys, y_nz]
      subst ep
      rw [if_pos hv] at h1
      have hcode : ∀ c ∈ y_chs w', y_code c = true := fun c hc' => List.all_eq_true.mp hv.1 c hc'
      have hno : y_no (y_chs w', b') := ⟨hv.2.1, by show (y_chs w').length ≤ 11; omega, hcode, hv.2.2⟩
      have fnd : ∀ t, t = y_tl (y_chs w', b') → w_tMeaningOfTyped_98 n (d + 2) w' (y_hd (y_chs w')) (y_hd (y_chs w')) t D' K T := by
        intro t et
        have nf : y_idx (y_chs w', b') (y_nm S) 0 = none → z_c n (d + 2) 10 [.ref 4, .int (z_i (-1))] D' (z_qI (fun v4 D3 => K v4 D3) T) := by
          intro e
          rw [e] at h1
          exact r_nMeaningAt ⟨z_rk rfl, fun _ => h1 0 rfl, fun z => by omega⟩
        refine c_nFind hc ho hno rfl et (fun k e => ?_) (fun e _ => nf e) (fun e z => by cases z) (fun e _ _ => nf e)
        rw [e] at h1
        have hk := y_idx_some e
        have on : (y_nm S).length ≤ 118 := ho.2.2.2.2.2.2.2.2.2.2.2.2.2.2.2.2.2.2.2.1.2
        exact c_nMeaningAt hc ho (by omega) (by omega) (h1 _ rfl)
      refine ⟨y_rs (by omega) (by omega), fun _ => ⟨fun z => fnd _ ?_, fun z => fnd _ ?_⟩, fun z => by omega⟩
      · rw [z]
        have h := y_N_lt (y_chs w') (y_dig_code hcode)
        have : 256 ^ (y_chs w').length ≤ 256 ^ 8 := Nat.pow_le_pow_right (by decide) hlen
        show (0 : Int64) = lN (y_N (y_chs w') / 18446744073709551616)
        rw [show y_N (y_chs w') / 18446744073709551616 = 0 by omega]
        rfl
      · rw [z]; rfl
    | succ j =>
      have hb := y_byteL w' (j := j) (by omega)
      have hr := y_byte_r w' j
      unfold y_bys at hpre
      rw [y_nz_cons] at hpre
      have hz : lN (y_byte w' j).toNat = 0 ↔ y_byte w' j = 0 := by
        constructor
        · intro e
          have := y_lNi (b := 0) e
          omega
        · intro e; rw [e]; rfl
      unfold w_tMeaningOfTyped_39
      rw [show 8 * ((j + 1 : Nat) : Int) - 8 = 8 * (j : Int) by omega, hb]
      refine ⟨y_rs (by omega) (by omega), fun z => by omega, fun _ => ⟨fun z => ?_, fun z => ?_⟩⟩
      · rw [if_pos (hz.mp ((y_cmp0 _ _).mp z))] at hpre
        exact ⟨j, by omega, rfl, rfl, rfl, j, pre, by omega, by omega, hv, hpre, rfl, rfl⟩
      · rw [if_neg (fun q => z ((y_cmp0 _ _).mpr (hz.mpr q)))] at hpre
        refine ⟨j, by omega, rfl, rfl, rfl, j, pre ++ [y_byte w' j], by omega, by omega, hv, by rw [← hpre]; simp, ?_, rfl⟩
        rw [← y_ilN hr.1 (by omega)]
        exact y_hd_snoc pre hr.1 (by omega)
theorem c_meaning {w : Int64} {b : Bool} {K : Int → z_D → Prop} (hc : y_cls B tr S D) (ho : y_ok st S) (h0 : y_look S w b = none → T 3 D) (h1 : ∀ v, y_look S w b = some v → K (y_mng v) D) : z_c n (d + 4) 45 [.ref 0, .long w, .int (z_i (z_b b))] D (z_qI K T) := by
  refine r_tMeaning (c_look hc ho h0 (fun v e => ?_))
  have hr := y_mn_r (y_look_mn ho e) ho.2.2.2.2.2.2.2.2.2.2.2.2.2.2.2.2.2.2.2.2.2.1
  have h := h1 v e
  unfold y_mng at h
  refine ⟨y_rs (by omega) (by omega), fun c => ⟨fun c1 => ⟨fun c2 => ?_, fun c2 => ?_⟩, fun c1 => ?_⟩, fun c => ?_⟩
  · rw [if_neg c, if_neg (by omega), if_neg (by omega)] at h; exact h
  · rw [if_neg c, if_neg (by omega), if_pos c2] at h; exact h
  · rw [if_neg c, if_pos c1] at h; exact h
  · rw [if_pos c] at h; exact h
theorem c_detail {w : Int64} {b : Bool} {k : Int} {K : Int → z_D → Prop} (hc : y_cls B tr S D) (ho : y_ok st S) (hk : z_r k) (h0 : y_look S w b = none → T 3 D) (h1 : ∀ v, y_look S w b = some v → K (y_det S v k) D) : z_c n (d + 4) 46 [.ref 0, .long w, .int (z_i (z_b b)), .int (z_i k)] D (z_qI K T) := by
  refine r_tDetail (c_look hc ho h0 (fun v e => ?_))
  have hmn := y_look_mn ho e
  have hr := y_mn_r hmn ho.2.2.2.2.2.2.2.2.2.2.2.2.2.2.2.2.2.2.2.2.2.1
  have h := h1 v e
  unfold y_det at h
  refine c_macroOf hc ho hmn (fun em => ?_) (fun q em m0 m1 m2 => ?_)
  · rw [em] at h
    refine ⟨hk, fun c => ⟨fun c1 => ?_, fun c1 => ⟨fun c2 => ?_, fun c2 => ?_⟩⟩, fun c => ⟨y_rs (by omega) (by omega), fun c1 => ?_, fun c1 => ?_⟩⟩
    · dsimp only at h; rw [if_neg c, if_pos (Or.inl c1)] at h; exact h
    · dsimp only at h; rw [if_neg c, if_neg (by omega)] at h; exact h
    · dsimp only at h; rw [if_neg c, if_pos (Or.inr c2)] at h; exact h
    · dsimp only at h; rw [if_pos c, if_neg c1] at h; exact h
    · dsimp only at h; rw [if_pos c, if_pos c1] at h; exact h
  · rw [em] at h
    dsimp only at h
    obtain ⟨z1, z2, z3, z4⟩ := cl_mac hc m1 m2
    have hkm := y_mcr_ok ho em
    have hrl := y_rl_tx hkm.2.1.2 hkm.2.2.2 ho.2.2.2.2.2.2.2.2.2.2.2.2.2.2.2.2.2.2.2.1.2
    have hat : y_at q.2.1 (k - 3) = -1 ∨ (0 ≤ y_at q.2.1 (k - 3) ∧ y_at q.2.1 (k - 3) < 8300) := by
      unfold y_at
      split
      · cases e2 : q.2.1[(k - 3).toNat]? with
        | none => exact Or.inl rfl
        | some t =>
          refine Or.inr ?_
          show 0 ≤ t ∧ t < 8300
          rcases hkm.2.1.2 t (List.mem_of_getElem? e2) with w | w
          · have := hkm.2.2.2; omega
          · have := y_tp_r w ho.2.2.2.2.2.2.2.2.2.2.2.2.2.2.2.2.2.2.2.1.2; omega
      · exact Or.inl rfl
    refine ⟨hk, fun c => ⟨fun c1 => ⟨hk, fun c2 => absurd c1 c2, fun _ => ⟨z1, c_rSize (z_row_mt z1) z2 ?_⟩⟩, fun c1 => ⟨fun c2 => ⟨fun c3 => ⟨z1, c_rAt (z_row_mb z1) z3 hkm.2.1.1 ⟨by have := hk.1; omega, by have := hk.2; omega⟩ ⟨y_rs (by omega) (by omega), fun c4 => ⟨fun c5 => ?_, fun c5 => ?_⟩, fun c4 => ?_⟩⟩, fun c3 => ?_⟩, fun c2 => ⟨hk, fun _ => ⟨z1, c_rSize (z_row_mb z1) z3 ?_⟩, fun c3 => absurd c3 c1⟩⟩⟩, fun c => ⟨z1, ?_⟩⟩
    · rw [if_neg c, if_pos c1] at h; exact h
    · rw [if_neg c, if_neg c1, if_neg c2, if_neg (by omega), if_neg (by omega), if_neg (by omega)] at h; exact h
    · rw [if_neg c, if_neg c1, if_neg c2, if_neg (by omega), if_neg (by omega), if_pos c5] at h; exact h
    · rw [if_neg c, if_neg c1, if_neg c2, if_neg (by omega), if_pos c4] at h; exact h
    · rw [if_neg c, if_neg c1, if_neg c2, if_pos c3] at h; exact h
    · rw [if_neg c, if_neg c1, if_pos c2] at h; exact h
    · rw [if_pos c] at h
      have z4 : D.1 (B.1.2.2 (v - 4096).toNat) 2 = q.2.2 := z4
      rw [z4]; exact h
-- a new start
def y_scats (S : y_S) (f : Nat → Int) : y_S := (S.1, S.2.1, f, S.2.2.2)
def y_smeans (S : y_S) (f : Nat → Int) : y_S := (S.1, S.2.1, S.2.2.1, f, S.2.2.2.2)
theorem cl_cats {Z : Nat → Nat → Int} {f : Nat → Int} (hc : y_cls B tr S D) (hf : ∀ c, c ≠ 3 → Z c = D.1 c) (h : ∀ c, c < 128 → Z 3 c = f c) : y_cls B tr (y_scats S f) (Z, D.2) := by
  have hr : ∀ r l, 4 ≤ r → y_row D r l → y_row (Z, D.2) r l := fun r l a q => y_row_cell q (hf r (by omega)) (hf (r + 1) (by omega))
  refine ⟨fun c hc' => ⟨(hf c (by omega)).trans (hc.1 c hc').1, (hc.1 c hc').2⟩, hr _ _ (by decide) hc.2.1, hr _ _ (by decide) hc.2.2.1, hr _ _ (by decide) hc.2.2.2.1, hr _ _ (by decide) hc.2.2.2.2.1, hr _ _ (by decide) hc.2.2.2.2.2.1, hr _ _ (by decide) hc.2.2.2.2.2.2.1, ?_, h, ?_, hc.2.2.2.2.2.2.2.2.2.2.1, ?_, ?_, ?_, ?_, ?_, ?_, ?_, ?_, y_MA_f (Z := D.1) (L := D.2.1) (p := D.2.2) hc.2.2.2.2.2.2.2.2.2.2.2.2.2.2.2.2.2.2.2.1 (fun c h1 h2 => hf c (by omega)) rfl rfl rfl, hc.2.2.2.2.2.2.2.2.2.2.2.2.2.2.2.2.2.2.2.2⟩ <;> dsimp only
  · rw [hf 1 (by decide), hf 2 (by decide)]; exact hc.2.2.2.2.2.2.2.1
  · rw [hf 4 (by decide), hf 7 (by decide)]; exact hc.2.2.2.2.2.2.2.2.2.1
  · rw [hf 0 (by decide)]; exact hc.2.2.2.2.2.2.2.2.2.2.2.1
  · rw [hf 1 (by decide)]; exact hc.2.2.2.2.2.2.2.2.2.2.2.2.1
  · rw [hf 1 (by decide)]; exact hc.2.2.2.2.2.2.2.2.2.2.2.2.2.1
  · rw [hf 0 (by decide)]; exact hc.2.2.2.2.2.2.2.2.2.2.2.2.2.2.1
  · rw [hf 0 (by decide)]; exact hc.2.2.2.2.2.2.2.2.2.2.2.2.2.2.2.1
  · rw [hf 0 (by decide)]; exact hc.2.2.2.2.2.2.2.2.2.2.2.2.2.2.2.2.1
  · rw [hf 0 (by decide)]; exact hc.2.2.2.2.2.2.2.2.2.2.2.2.2.2.2.2.2.1
  · rw [hf 1 (by decide)]; exact hc.2.2.2.2.2.2.2.2.2.2.2.2.2.2.2.2.2.2.1
theorem cl_names0 {Z : Nat → Nat → Int} {f : Nat → Int} (hc : y_cls B tr S D) (ht : (y_nm S).take 18 = y_cmds) (hf : ∀ c, c ≠ 4 → c ≠ 7 → Z c = D.1 c) (h4 : Z 4 3 = 18) (h : ∀ c, c < 118 → Z 7 c = f c) : y_cls B tr (y_snm (y_smeans S f) y_cmds) (Z, D.2) := by
  have hr : ∀ r l, 8 ≤ r → y_row D r l → y_row (Z, D.2) r l := fun r l a q => y_row_cell q (hf r (by omega) (by omega)) (hf (r + 1) (by omega) (by omega))
  refine ⟨fun c hc' => ⟨(hf c (by omega) (by omega)).trans (hc.1 c hc').1, (hc.1 c hc').2⟩, hr _ _ (by decide) hc.2.1, hr _ _ (by decide) hc.2.2.1, hr _ _ (by decide) hc.2.2.2.1, hr _ _ (by decide) hc.2.2.2.2.1, hr _ _ (by decide) hc.2.2.2.2.2.1, hr _ _ (by decide) hc.2.2.2.2.2.2.1, ?_, ?_, ⟨h4, h⟩, ?_, ?_, ?_, ?_, ?_, ?_, ?_, ?_, ?_, y_MA_f (Z := D.1) (L := D.2.1) (p := D.2.2) hc.2.2.2.2.2.2.2.2.2.2.2.2.2.2.2.2.2.2.2.1 (fun c h1 h2 => hf c (by omega) (by omega)) rfl rfl rfl, hc.2.2.2.2.2.2.2.2.2.2.2.2.2.2.2.2.2.2.2.2⟩ <;> dsimp only
  · rw [hf 1 (by decide) (by decide), hf 2 (by decide) (by decide)]; exact hc.2.2.2.2.2.2.2.1
  · rw [hf 3 (by decide) (by decide)]; exact hc.2.2.2.2.2.2.2.2.1
  · intro k q e
    have e : y_cmds[k]? = some q := e
    rw [← ht] at e
    refine hc.2.2.2.2.2.2.2.2.2.2.1 k q ?_
    have hk := (List.getElem?_eq_some_iff.mp e).1
    rw [List.length_take] at hk
    rw [List.getElem?_take_of_lt (by omega)] at e
    exact e
  · rw [hf 0 (by decide) (by decide)]; exact hc.2.2.2.2.2.2.2.2.2.2.2.1
  · rw [hf 1 (by decide) (by decide)]; exact hc.2.2.2.2.2.2.2.2.2.2.2.2.1
  · rw [hf 1 (by decide) (by decide)]; exact hc.2.2.2.2.2.2.2.2.2.2.2.2.2.1
  · rw [hf 0 (by decide) (by decide)]; exact hc.2.2.2.2.2.2.2.2.2.2.2.2.2.2.1
  · rw [hf 0 (by decide) (by decide)]; exact hc.2.2.2.2.2.2.2.2.2.2.2.2.2.2.2.1
  · rw [hf 0 (by decide) (by decide)]; exact hc.2.2.2.2.2.2.2.2.2.2.2.2.2.2.2.2.1
  · rw [hf 0 (by decide) (by decide)]; exact hc.2.2.2.2.2.2.2.2.2.2.2.2.2.2.2.2.2.1
  · rw [hf 1 (by decide) (by decide)]; exact hc.2.2.2.2.2.2.2.2.2.2.2.2.2.2.2.2.2.2.1
/-- a fill -/
theorem c_fill {q w : Nat} {v : Int} {K : z_D → Prop} (hq : z_sh n q = some (.inr (0, w))) (hw : w ≤ 1000000) (h : ∀ Z, (∀ c, c ≠ q → Z c = D.1 c) → (∀ i, i < w → Z q i = v) → K (Z, D.2)) : z_c n (d + 1) 162 [.ref q, .int (z_i v)] D (z_qV K T) := by
  refine r_jFill hq hw (fun m a k l D' => a = v ∧ l = (w : Int) ∧ 0 ≤ k ∧ k ≤ w ∧ m = (w - k).toNat ∧ D'.2 = D.2 ∧ (∀ c, c ≠ q → D'.1 c = D.1 c) ∧ ∀ i : Nat, (i : Int) < k → D'.1 q i = v) ⟨_, rfl, rfl, Int.le_refl _, by omega, rfl, rfl, fun _ _ => rfl, fun i hi => by omega⟩ ?_
  rintro mm a k l D' ⟨rfl, rfl, k0, k1, rfl, e2, hf, hv⟩
  refine ⟨y_rs' (by omega) (by omega), y_rs' (by omega) (by omega), fun c => ?_, fun c => ⟨by omega, fun D4 e4 => ⟨_, ?_, rfl, rfl, by omega, by omega, rfl, by rw [e4]; exact e2, fun c hc => by rw [e4, y_uz_cell hc]; exact hf c hc, fun i hi => ?_⟩⟩⟩
  · have e : D' = (D'.1, D.2) := Prod.ext rfl e2
    rw [e]
    exact h D'.1 hf (fun i hi => hv i (by omega))
  · omega
  · rw [e4]
    by_cases z : i = k.toNat
    · rw [z]; exact y_uz_same _ _ _ _
    · rw [y_uz_slot z]; exact hv i (by omega)
end CK
