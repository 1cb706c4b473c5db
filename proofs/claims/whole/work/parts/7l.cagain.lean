/-! contracts of the class: a new start -/
section CL
variable {n d : Nat} {B : y_B} {D : z_D} {tr st : Int} {S : y_S} {T : Nat → z_D → Prop}
/-- the letters up to a number -/
def y_c11 (a : Int) (i : Nat) : Int := if (97 ≤ (i : Int) ∧ (i : Int) < 97 + a) ∨ (65 ≤ (i : Int) ∧ (i : Int) < 65 + a) then 11 else 12
theorem y_cat0_eq : ∀ c, c < 128 → (if c = 37 then (14 : Int) else if c = 126 then 13 else if c = 32 then 10 else if c = 95 then 8 else if c = 94 then 7 else if c = 35 then 6 else if c = 10 then 5 else if c = 38 then 4 else if c = 36 then 3 else if c = 125 then 2 else if c = 123 then 1 else if c = 92 then 0 else y_c11 26 c) = y_cat0 c := by decide
theorem c_dStart {K : z_D → Prop} (hc : y_cls B tr S D) (h : ∀ D', y_cls B 0 (y_scats (y_ss (y_ss S 0 0) 1 0) y_cat0) D' → K D') : z_c n (d + 2) 17 [.ref 1] D (z_qV K T) := by
  have hc3 : y_cls B 0 (y_ss (y_ss S 0 0) 1 0) (z_uz (z_uz (z_uz D 1 4 0) 1 3 0) 1 5 0) := cl_tr (cl_s1 (cl_s0 hc 0) 0) 0
  generalize z_uz (z_uz (z_uz D 1 4 0) 1 3 0) 1 5 0 = D3 at hc3
  refine r_dStartAnew (fun m a D' => 0 ≤ a ∧ a ≤ 26 ∧ m = (26 - a).toNat ∧ ∃ D3, y_cls B 0 (y_ss (y_ss S 0 0) 1 0) D3 ∧ D'.2 = D3.2 ∧ (∀ c, c ≠ 3 → D'.1 c = D3.1 c) ∧ ∀ i : Nat, i < 128 → D'.1 3 i = y_c11 a i) ?_ ?_
  · intro D1 e1 D2 e2 D3 e3
    have hc3 : y_cls B 0 (y_ss (y_ss S 0 0) 1 0) D3 := by rw [e3, e2, e1]; exact cl_tr (cl_s1 (cl_s0 hc 0) 0) 0
    refine c_fill rfl (by decide) (fun Z hf hv => ⟨_, by decide, by decide, rfl, D3, hc3, rfl, hf, fun i hi => ?_⟩)
    show Z 3 i = _
    rw [hv i hi]
    unfold y_c11
    rw [if_neg (by omega)]
  · rintro mm a D' ⟨a0, a1, rfl, D3, hc3, e2, hf, hv⟩
    refine ⟨y_rs (by omega) (by omega), fun c => ?_, fun c => ?_⟩
    · intro D2 f2 D3' f3 D4 f4 D5 f5 D6 f6 D7 f7 D8 f8 D9 f9 D10 f10 D11 f11 D12 f12 D13 f13
      refine h D13 ?_
      have ea : a = 26 := by omega
      subst ea
      have e : D13 = (D13.1, D3.2) := Prod.ext rfl (by rw [f13, f12, f11, f10, f9, f8, f7, f6, f5, f4, f3, f2]; exact e2)
      rw [e]
      refine cl_cats hc3 (fun c hc => ?_) (fun i hi => ?_)
      · rw [f13, f12, f11, f10, f9, f8, f7, f6, f5, f4, f3, f2, y_uz_cell hc, y_uz_cell hc, y_uz_cell hc, y_uz_cell hc, y_uz_cell hc, y_uz_cell hc, y_uz_cell hc, y_uz_cell hc, y_uz_cell hc, y_uz_cell hc, y_uz_cell hc, y_uz_cell hc]
        exact hf c hc
      · rw [← y_cat0_eq i hi, ← hv i hi, f13, f12, f11, f10, f9, f8, f7, f6, f5, f4, f3, f2]
        rfl
    · refine ⟨by omega, fun D15 f15 => ⟨by omega, fun D17 f17 => ⟨_, ?_, by omega, by omega, rfl, D3, hc3, by rw [f17, f15]; exact e2, fun c hc => by rw [f17, f15, y_uz_cell hc, y_uz_cell hc]; exact hf c hc, fun i hi => ?_⟩⟩⟩
      · omega
      · rw [f17, f15]
        show (if i = Int.toNat (65 + a) then (11 : Int) else if i = Int.toNat (97 + a) then 11 else D'.1 3 i) = _
        rw [hv i hi]
        unfold y_c11
        by_cases c1 : i = Int.toNat (65 + a)
        · rw [if_pos c1, if_pos (by omega)]
        · rw [if_neg c1]
          by_cases c2 : i = Int.toNat (97 + a)
          · rw [if_pos c2, if_pos (by omega)]
          · rw [if_neg c2]
            by_cases c3 : (97 ≤ (i : Int) ∧ (i : Int) < 97 + a) ∨ (65 ≤ (i : Int) ∧ (i : Int) < 65 + a)
            · rw [if_pos c3, if_pos (by omega)]
            · rw [if_neg c3, if_neg (by omega)]
theorem c_nStart {K : z_D → Prop} (hc : y_cls B tr S D) (ht : (y_nm S).take 18 = y_cmds) (h : ∀ D', y_cls B tr (y_snm (y_smeans S (fun k => if k < 18 then (k : Int) + 1 else 0)) y_cmds) D' → K D') : z_c n (d + 1) 8 [.ref 4] D (z_qV K T) := by
  refine r_nStartAnew (fun m a D' => 0 ≤ a ∧ a ≤ 118 ∧ m = (118 - a).toNat ∧ D'.2 = D.2 ∧ (∀ c, c ≠ 4 → c ≠ 7 → D'.1 c = D.1 c) ∧ D'.1 4 3 = 18 ∧ ∀ i : Nat, (i : Int) < a → D'.1 7 i = if i < 18 then (i : Int) + 1 else 0) ?_ ?_
  · intro D1 e1
    subst e1
    exact ⟨_, by decide, by decide, rfl, rfl, fun c h4 _ => y_uz_cell h4, y_uz_same _ _ _ _, fun i hi => by omega⟩
  · rintro mm a D' ⟨a0, a1, rfl, e2, hf, h4, hv⟩
    refine ⟨y_rs (by omega) (by omega), fun c => ?_, fun c => ⟨fun c1 => ⟨by omega, fun D3 e3 => ?_⟩, fun c1 => ⟨by omega, fun D3 e3 => ?_⟩⟩⟩
    · have e : D' = (D'.1, D.2) := Prod.ext rfl e2
      rw [e]
      exact h _ (cl_names0 hc ht hf h4 (fun i hi => hv i (by omega)))
    · refine ⟨_, ?_, by omega, by omega, rfl, by rw [e3]; exact e2, fun c h4 h7 => by rw [e3, y_uz_cell h7]; exact hf c h4 h7, by rw [e3, y_uz_cell (by decide)]; exact h4, fun i hi => ?_⟩
      · omega
      · rw [e3]
        by_cases z : i = a.toNat
        · rw [z, y_uz_same, if_neg (by omega)]
        · rw [y_uz_slot z]; exact hv i (by omega)
    · refine ⟨_, ?_, by omega, by omega, rfl, by rw [e3]; exact e2, fun c h4 h7 => by rw [e3, y_uz_cell h7]; exact hf c h4 h7, by rw [e3, y_uz_cell (by decide)]; exact h4, fun i hi => ?_⟩
      · omega
      · rw [e3]
        by_cases z : i = a.toNat
        · rw [z, y_uz_same, if_pos (by omega)]; omega
        · rw [y_uz_slot z]; exact hv i (by omega)
/-- a row's list is forgotten -/
theorem cl_nil (h : y_cls B tr S D) {i : Nat} (hi : 1 ≤ i ∧ i ≤ 6) (e : y_l S i = []) : y_cls B tr (y_sl S i []) D := by
  have hy : y_sl S i [] = S := by
    unfold y_sl
    refine Prod.ext ?_ rfl
    funext j
    show am_u1 (y_l S) i [] j = y_l S j
    unfold am_u1
    split
    · next z => subst z; exact e.symm
    · rfl
  rw [hy]
  exact h
theorem c_startAnew {K : z_D → Prop} (hc : y_cls B tr S D) (o5 : (y_l S 1).length ≤ 300) (o7 : (y_l S 2).length ≤ 200) (o9 : (y_l S 3).length ≤ 12) (o11 : (y_l S 4).length ≤ 30) (o12 : (y_l S 5).length ≤ 60) (o13 : (y_l S 6).length = (y_l S 5).length) (o29 : (y_nm S).take 18 = y_cmds) (h : ∀ D', y_cls B 0 (y_again S) D' → K D') : z_c n (d + 3) 47 [.ref 0] D (z_qV K T) := by
  refine r_tStartAnew (c_dStart hc (fun D1 hc1 => c_nStart hc1 o29 (fun D2 hc2 => r_gStartAnew ?_)))
  have hc2 : y_cls B 0 (y_snm (y_smeans (y_scats (y_ss (y_ss S 0 0) 1 0) y_cat0) (fun k => if k < 18 then (k : Int) + 1 else 0)) y_cmds) D2 := hc2
  have l2 : y_l (y_snm (y_smeans (y_scats (y_ss (y_ss S 0 0) 1 0) y_cat0) (fun k => if k < 18 then (k : Int) + 1 else 0)) y_cmds) = y_l S := rfl
  generalize hS2 : y_snm (y_smeans (y_scats (y_ss (y_ss S 0 0) 1 0) y_cat0) (fun k => if k < 18 then (k : Int) + 1 else 0)) y_cmds = S2 at *
  -- the rest, from the sixth row on
  have fin : ∀ D8, y_cls B 0 (y_sl (y_sl (y_sl (y_sl (y_sl (y_sl S2 4 []) 5 []) 6 []) 1 []) 2 []) 3 []) D8 → ∀ D7, D7 = z_uz D8 0 9 0 → ∀ D9, D9 = z_uz D7 0 10 0 → ∀ D10, D10 = z_uz D9 0 11 0 → K D10 := by
    intro D8 hc8 D7 e7 D9 e9 D10 e10
    refine h D10 ?_
    obtain ⟨a1, a2, a3, a4, a5, a6, a7, a8, a9⟩ := hc8.2.2.2.2.2.2.2.2.2.2.2.2.2.2.2.2.2.2.2.1
    have hc7 : y_cls B 0 (y_sdp (y_sa (y_sa (y_smac (y_sl (y_sl (y_sl (y_sl (y_sl (y_sl S2 4 []) 5 []) 6 []) 1 []) 2 []) 3 []) []) 4 none) 5 none) none) D7 := by
      rw [e7]
      have hm : y_MA B.2 (y_sdp (y_sa (y_sa (y_smac (y_sl (y_sl (y_sl (y_sl (y_sl (y_sl S2 4 []) 5 []) 6 []) 1 []) 2 []) 3 []) []) 4 none) 5 none) none) D8 := ⟨a1, a2, a3, a4, fun i q _ e => (by cases e), fun l e => (by cases e), fun l e => (by cases e), fun v e => (by cases e), a9⟩
      exact ⟨y_f1 hc8.1 (by decide), hc8.2.1, hc8.2.2.1, hc8.2.2.2.1, hc8.2.2.2.2.1, hc8.2.2.2.2.2.1, hc8.2.2.2.2.2.2.1, hc8.2.2.2.2.2.2.2.1, hc8.2.2.2.2.2.2.2.2.1, hc8.2.2.2.2.2.2.2.2.2.1, hc8.2.2.2.2.2.2.2.2.2.2.1, rfl, hc8.2.2.2.2.2.2.2.2.2.2.2.2.1, hc8.2.2.2.2.2.2.2.2.2.2.2.2.2.1, hc8.2.2.2.2.2.2.2.2.2.2.2.2.2.2.1, hc8.2.2.2.2.2.2.2.2.2.2.2.2.2.2.2.1, hc8.2.2.2.2.2.2.2.2.2.2.2.2.2.2.2.2.1, hc8.2.2.2.2.2.2.2.2.2.2.2.2.2.2.2.2.2.1, hc8.2.2.2.2.2.2.2.2.2.2.2.2.2.2.2.2.2.2.1, y_MA1 hm (by decide) rfl rfl rfl, hc8.2.2.2.2.2.2.2.2.2.2.2.2.2.2.2.2.2.2.2.2⟩
    have hc9 := cl_s3 (cl_s2 hc7 0) 0
    rw [← e9, ← e10] at hc9
    obtain ⟨b1, b2, b3, b4, b5, b6, b7, b8, b9⟩ := hc9.2.2.2.2.2.2.2.2.2.2.2.2.2.2.2.2.2.2.2.1
    have hm : y_MA B.2 (y_again S) D10 := ⟨b1, b2, b3, b4, fun i q _ e => (by cases e), fun l e => (by cases e), fun l e => (by cases e), fun v e => (by cases e), b9⟩
    subst hS2
    exact ⟨hc9.1, hc9.2.1, hc9.2.2.1, hc9.2.2.2.1, hc9.2.2.2.2.1, hc9.2.2.2.2.2.1, hc9.2.2.2.2.2.2.1, hc9.2.2.2.2.2.2.2.1, hc9.2.2.2.2.2.2.2.2.1, hc9.2.2.2.2.2.2.2.2.2.1, hc9.2.2.2.2.2.2.2.2.2.2.1, hc9.2.2.2.2.2.2.2.2.2.2.2.1, hc9.2.2.2.2.2.2.2.2.2.2.2.2.1, hc9.2.2.2.2.2.2.2.2.2.2.2.2.2.1, hc9.2.2.2.2.2.2.2.2.2.2.2.2.2.2.1, hc9.2.2.2.2.2.2.2.2.2.2.2.2.2.2.2.1, hc9.2.2.2.2.2.2.2.2.2.2.2.2.2.2.2.2.1, hc9.2.2.2.2.2.2.2.2.2.2.2.2.2.2.2.2.2.1, hc9.2.2.2.2.2.2.2.2.2.2.2.2.2.2.2.2.2.2.1, hm, hc9.2.2.2.2.2.2.2.2.2.2.2.2.2.2.2.2.2.2.2.2⟩
  have r3 : ∀ D8, y_cls B 0 (y_sl (y_sl (y_sl (y_sl (y_sl S2 4 []) 5 []) 6 []) 1 []) 2 []) D8 → z_c n (d + 2) 30 [.ref 19, .int (z_i 0)] D8 (z_qV (fun D6 => ∀ D7, D7 = z_uz D6 0 9 0 → ∀ D9, D9 = z_uz D7 0 10 0 → ∀ D10, D10 = z_uz D9 0 11 0 → K D10) T) := by
    intro D8 hc8
    have el : y_l (y_sl (y_sl (y_sl (y_sl (y_sl S2 4 []) 5 []) 6 []) 1 []) 2 []) 3 = y_l S 3 := by rw [← l2]; rfl
    exact c_rCut0 zr19 hc8.2.2.2.1 (by rw [el]; exact o9) (fun e => fin D8 (cl_nil hc8 (by decide) e)) (fun e => fin _ (cl_cut3 hc8 (m := 0) (Nat.zero_le _)))
  have r2 : ∀ D8, y_cls B 0 (y_sl (y_sl (y_sl (y_sl S2 4 []) 5 []) 6 []) 1 []) D8 → z_c n (d + 2) 30 [.ref 17, .int (z_i 0)] D8 (z_qV (fun D5 => z_c n (d + 2) 30 [.ref 19, .int (z_i 0)] D5 (z_qV (fun D6 => ∀ D7, D7 = z_uz D6 0 9 0 → ∀ D9, D9 = z_uz D7 0 10 0 → ∀ D10, D10 = z_uz D9 0 11 0 → K D10) T)) T) := by
    intro D8 hc8
    have el : y_l (y_sl (y_sl (y_sl (y_sl S2 4 []) 5 []) 6 []) 1 []) 2 = y_l S 2 := by rw [← l2]; rfl
    exact c_rCut0 zr17 hc8.2.2.1 (by rw [el]; exact o7) (fun e => r3 D8 (cl_nil hc8 (by decide) e)) (fun e => r3 _ (cl_cut2 hc8 (m := 0) (Nat.zero_le _)))
  have r1 : ∀ D8, y_cls B 0 (y_sl (y_sl (y_sl S2 4 []) 5 []) 6 []) D8 → z_c n (d + 2) 30 [.ref 15, .int (z_i 0)] D8 (z_qV (fun D4 => z_c n (d + 2) 30 [.ref 17, .int (z_i 0)] D4 (z_qV (fun D5 => z_c n (d + 2) 30 [.ref 19, .int (z_i 0)] D5 (z_qV (fun D6 => ∀ D7, D7 = z_uz D6 0 9 0 → ∀ D9, D9 = z_uz D7 0 10 0 → ∀ D10, D10 = z_uz D9 0 11 0 → K D10) T)) T)) T) := by
    intro D8 hc8
    have el : y_l (y_sl (y_sl (y_sl S2 4 []) 5 []) 6 []) 1 = y_l S 1 := by rw [← l2]; rfl
    exact c_rCut0 zr15 hc8.2.1 (by rw [el]; exact o5) (fun e => r2 D8 (cl_nil hc8 (by decide) e)) (fun e => r2 _ (cl_cut1 hc8 (m := 0) (Nat.zero_le _)))
  have g3 : ∀ D8, y_cls B 0 (y_sl (y_sl S2 4 []) 5 []) D8 → z_c n (d + 1) 30 [.ref 13, .int (z_i 0)] D8 (z_qV (fun D3 => z_c n (d + 2) 30 [.ref 15, .int (z_i 0)] D3 (z_qV (fun D4 => z_c n (d + 2) 30 [.ref 17, .int (z_i 0)] D4 (z_qV (fun D5 => z_c n (d + 2) 30 [.ref 19, .int (z_i 0)] D5 (z_qV (fun D6 => ∀ D7, D7 = z_uz D6 0 9 0 → ∀ D9, D9 = z_uz D7 0 10 0 → ∀ D10, D10 = z_uz D9 0 11 0 → K D10) T)) T)) T)) T) := by
    intro D8 hc8
    have el : y_l (y_sl (y_sl S2 4 []) 5 []) 6 = y_l S 6 := by rw [← l2]; rfl
    exact c_rCut0 zr13 hc8.2.2.2.2.2.2.1 (by rw [el]; omega) (fun e => r1 D8 (cl_nil hc8 (by decide) e)) (fun e => r1 _ (cl_cut6 hc8 (m := 0) (Nat.zero_le _)))
  have g2 : ∀ D8, y_cls B 0 (y_sl S2 4 []) D8 → z_c n (d + 1) 30 [.ref 11, .int (z_i 0)] D8 (z_qV (fun D2 => z_c n (d + 1) 30 [.ref 13, .int (z_i 0)] D2 (z_qV (fun D3 => z_c n (d + 2) 30 [.ref 15, .int (z_i 0)] D3 (z_qV (fun D4 => z_c n (d + 2) 30 [.ref 17, .int (z_i 0)] D4 (z_qV (fun D5 => z_c n (d + 2) 30 [.ref 19, .int (z_i 0)] D5 (z_qV (fun D6 => ∀ D7, D7 = z_uz D6 0 9 0 → ∀ D9, D9 = z_uz D7 0 10 0 → ∀ D10, D10 = z_uz D9 0 11 0 → K D10) T)) T)) T)) T)) T) := by
    intro D8 hc8
    have el : y_l (y_sl S2 4 []) 5 = y_l S 5 := by rw [← l2]; rfl
    exact c_rCut0 zr11 hc8.2.2.2.2.2.1 (by rw [el]; exact o12) (fun e => g3 D8 (cl_nil hc8 (by decide) e)) (fun e => g3 _ (cl_cut5 hc8 (m := 0) (Nat.zero_le _)))
  exact c_rCut0 zr9 hc2.2.2.2.2.1 (by rw [l2]; exact o11) (fun e => g2 D2 (cl_nil hc2 (by decide) e)) (fun e => g2 _ (cl_cut4 hc2 (m := 0) (Nat.zero_le _)))
theorem c_againM {K : z_D → Prop} (hc : y_cls B tr S D) (ho : y_ok st S) (h : ∀ D', y_cls B 0 (y_again S) D' → K D') : z_c n (d + 4) 39 [.ref 0] D (z_qV K T) := r_tAgain (c_startAnew hc ho.2.2.2.2.1 ho.2.2.2.2.2.2.1 ho.2.2.2.2.2.2.2.2.1 ho.2.2.2.2.2.2.2.2.2.2.1 ho.2.2.2.2.2.2.2.2.2.2.2.1 ho.2.2.2.2.2.2.2.2.2.2.2.2.1 ho.2.2.2.2.2.2.2.2.2.2.2.2.2.2.2.2.2.2.2.2.2.2.2.2.2.2.2.2 h)
theorem c_wipeM {K : z_D → Prop} (hc : y_cls B tr S D) (ho : y_ok st S) (h : ∀ D', y_cls B 0 (y_again (y_sl S 0 [])) D' → K D') : z_c n (d + 4) 38 [.ref 0] D (z_qV K T) := by
  refine r_tWipe (r_dForgetText (fun D1 e1 => ?_))
  have hc1 : y_cls B tr (y_sl S 0 []) D1 := by rw [e1]; exact cl_txt0 hc
  exact c_startAnew hc1 ho.2.2.2.2.1 ho.2.2.2.2.2.2.1 ho.2.2.2.2.2.2.2.2.1 ho.2.2.2.2.2.2.2.2.2.2.1 ho.2.2.2.2.2.2.2.2.2.2.2.1 ho.2.2.2.2.2.2.2.2.2.2.2.2.1 ho.2.2.2.2.2.2.2.2.2.2.2.2.2.2.2.2.2.2.2.2.2.2.2.2.2.2.2.2 h
end CL
