/-! contracts of the reference: tokens -/
section RR
variable {n d : Nat} {Q : y_Q} {D : z_D} {st : Int} {S : y_S} {T : Nat → z_D → Prop}
theorem rf_text (hr : y_ref Q S D) (ho : y_ok st S) (hp : y_s S 0 < (y_l S 0).length) : D.1 337 (y_s S 0).toNat = y_txt S (y_s S 0) := by
  have := ho.2.2.1.1
  rw [hr.2.1.2 _ (by omega)]
  rfl
theorem rf_ct (hr : y_ref Q S D) {c : Int} (h : y_code c = true) : D.1 338 c.toNat = y_ct S c := by
  have := y_code_r h
  rw [hr.2.2.2.2.2.2.2.1 _ (by omega)]
  rfl
/-- the state is what it was -/
theorem rf_v {v : Int} (hr : y_ref Q (y_ss S 1 v) D) (w : Int) (hw : y_s S 1 = w) : y_ref Q S (z_uz D 336 4 w) := by
  have := rf_s1 hr w
  exact ⟨this.1, this.2.1, this.2.2.1, this.2.2.2.1, this.2.2.2.2.1, this.2.2.2.2.2.1, this.2.2.2.2.2.2.1, this.2.2.2.2.2.2.2.1, this.2.2.2.2.2.2.2.2.1, this.2.2.2.2.2.2.2.2.2.1, this.2.2.2.2.2.2.2.2.2.2.1, this.2.2.2.2.2.2.2.2.2.2.2.1, this.2.2.2.2.2.2.2.2.2.2.2.2.1, this.2.2.2.2.2.2.2.2.2.2.2.2.2.1, this.2.2.2.2.2.2.2.2.2.2.2.2.2.2.1, this.2.2.2.2.2.2.2.2.2.2.2.2.2.2.2.1, this.2.2.2.2.2.2.2.2.2.2.2.2.2.2.2.2.1, hw.symm, this.2.2.2.2.2.2.2.2.2.2.2.2.2.2.2.2.2.2.1, this.2.2.2.2.2.2.2.2.2.2.2.2.2.2.2.2.2.2.2.1, this.2.2.2.2.2.2.2.2.2.2.2.2.2.2.2.2.2.2.2.2.1, this.2.2.2.2.2.2.2.2.2.2.2.2.2.2.2.2.2.2.2.2.2.1, this.2.2.2.2.2.2.2.2.2.2.2.2.2.2.2.2.2.2.2.2.2.2⟩
theorem c_mReadName {K : Int → z_D → Prop} (hr : y_rf Q S D) (ho : y_ok st S) (h : y_fin (y_rdn S) (fun t S' => ∀ D', y_rf Q S' D' → K t D') (y_rT Q.1 (K (-1)))) : z_c n (d + 3) 102 [.ref 336] D (z_qI K T) := by
  have e3 : D.1 336 3 = y_s S 0 := hr.1.2.2.2.2.2.2.2.2.2.2.2.2.2.2.2.2.1
  have e1 : D.1 336 1 = ((y_l S 0).length : Int) := hr.1.2.1.1
  have o1 := ho.1
  have o3 := ho.2.2.1
  refine r_mReadName (fun m a D' => ∃ S1 f ls v, 0 ≤ a ∧ a ≤ 15 ∧ y_ref Q (y_ss S1 1 v) D' ∧ y_s S1 3 = 0 ∧ y_ok st S1 ∧ y_no (ls, false) ∧ y_spl D' ls ∧ y_s S1 1 = (if a = 11 ∨ a = 10 then 2 else 1) ∧ ((y_l S1 0).length - y_s S1 0).toNat ≤ f ∧ m = ((y_l S1 0).length - y_s S1 0).toNat ∧ y_fin (if a = 11 then y_let f ls S1 else y_find ls false S1) (fun t S' => ∀ D', y_rf Q S' D' → K t D') (y_rT Q.1 (K (-1)))) ?_ ?_
  · unfold w_mReadName_0
    unfold y_rdn at h
    rw [e3, e1]
    refine ⟨y_rs (by omega) (by omega), y_rs (by omega) (by omega), fun c D3 f3 => ?_, fun c => ?_⟩
    · have hp : y_s S 0 < (y_l S 0).length := by omega
      rw [if_pos hp] at h
      dsimp only at h
      have hr3 : y_ref Q S D3 := by rw [f3]; exact rf_sp hr.1 0
      have hs3 : y_spl D3 [] := ⟨by rw [f3]; rfl, fun i hi => (by cases hi)⟩
      have e33 : D3.1 336 3 = y_s S 0 := hr3.2.2.2.2.2.2.2.2.2.2.2.2.2.2.2.2.1
      rw [e33, rf_text hr3 ho hp]
      have hcode := y_txt_code ho hp
      have hcr := y_code_r hcode
      refine ⟨by omega, c_say hr3 hs3 (by simp) (fun D5 hr5 hs5 => ?_)⟩
      have e53 : D5.1 336 3 = y_s S 0 := hr5.2.2.2.2.2.2.2.2.2.2.2.2.2.2.2.2.1
      rw [e53, rf_text hr5 ho hp, rf_ct hr5 hcode]
      refine ⟨by omega, by omega, fun D8 f8 => ?_⟩
      have hk : 0 ≤ y_ct S (y_txt S (y_s S 0)) ∧ y_ct S (y_txt S (y_s S 0)) ≤ 15 := ho.2.2.2.2.2.2.2.2.2.2.2.2.2.2.2.2.1 _
      refine ⟨_, y_ss (y_ss S 0 (y_s S 0 + 1)) 1 (if y_ct S (y_txt S (y_s S 0)) = 11 ∨ y_ct S (y_txt S (y_s S 0)) = 10 then 2 else 1), 160, [y_txt S (y_s S 0)], y_s S 1, hk.1, hk.2, ?_, hr.2, ?_, y_no1 hcode, by rw [f8]; exact hs5, rfl, ?_, rfl, h⟩
      · have := rf_s0 hr5 (y_s S 0 + 1)
        rw [← f8] at this
        exact ⟨this.1, this.2.1, this.2.2.1, this.2.2.2.1, this.2.2.2.2.1, this.2.2.2.2.2.1, this.2.2.2.2.2.2.1, this.2.2.2.2.2.2.2.1, this.2.2.2.2.2.2.2.2.1, this.2.2.2.2.2.2.2.2.2.1, this.2.2.2.2.2.2.2.2.2.2.1, this.2.2.2.2.2.2.2.2.2.2.2.1, this.2.2.2.2.2.2.2.2.2.2.2.2.1, this.2.2.2.2.2.2.2.2.2.2.2.2.2.1, this.2.2.2.2.2.2.2.2.2.2.2.2.2.2.1, this.2.2.2.2.2.2.2.2.2.2.2.2.2.2.2.1, this.2.2.2.2.2.2.2.2.2.2.2.2.2.2.2.2.1, this.2.2.2.2.2.2.2.2.2.2.2.2.2.2.2.2.2.1, this.2.2.2.2.2.2.2.2.2.2.2.2.2.2.2.2.2.2.1, this.2.2.2.2.2.2.2.2.2.2.2.2.2.2.2.2.2.2.2.1, this.2.2.2.2.2.2.2.2.2.2.2.2.2.2.2.2.2.2.2.2.1, this.2.2.2.2.2.2.2.2.2.2.2.2.2.2.2.2.2.2.2.2.2.1, this.2.2.2.2.2.2.2.2.2.2.2.2.2.2.2.2.2.2.2.2.2.2⟩
      · exact y_ok_s1 (yo_on ho hp) (by split <;> decide) (by split <;> decide)
      · show (((y_l S 0).length : Int) - (y_s S 0 + 1)).toNat ≤ 160
        omega
    · rw [if_neg (by omega)] at h
      exact c_stop hr (by decide) (by decide) h
  · rintro mm a D' ⟨S1, f, ls, v, a0, a15, hr1, hf1, ho1, hno, hs1, hst, hfl, rfl, h⟩
    have e3 : D'.1 336 3 = y_s S1 0 := hr1.2.2.2.2.2.2.2.2.2.2.2.2.2.2.2.2.1
    have e1 : D'.1 336 1 = ((y_l S1 0).length : Int) := hr1.2.1.1
    have o1 := ho1.1
    have o3 := ho1.2.2.1
    have hl : ls.length ≤ 11 := hno.2.1
    -- the end of the name
    have fin : y_fin (y_find ls false S1) (fun t S' => ∀ D', y_rf Q S' D' → K t D') (y_rT Q.1 (K (-1))) → w_mReadName_134 n (d + 2) a D' K T := by
      intro hh
      have nm : ∀ s1 : Int, s1 = (if a = 11 ∨ a = 10 then 2 else 1) → w_mReadName_152 n (d + 2) s1 D' K T := by
        intro s1 es D1 f1
        have hr2 : y_ref Q S1 D1 := by rw [f1]; exact rf_v hr1 s1 (hst.trans es.symm)
        exact c_named (q := (ls, false)) ⟨hr2, hf1⟩ ho1 (by rw [f1]; exact hs1) hno hh
      refine ⟨y_rs (by omega) (by omega), fun c => nm 2 (by rw [if_pos (Or.inl c)]), fun c => ⟨fun c1 => nm 1 (by rw [if_neg (fun z => z.elim c c1)]), fun c1 => nm 2 (by rw [if_pos (Or.inr c1)])⟩⟩
    unfold w_mReadName_60
    rw [e3, e1]
    refine ⟨y_rs (by omega) (by omega), fun c => fin (by rw [if_neg c] at h; exact h), fun c => ⟨y_rs (by omega) (by omega), y_rs (by omega) (by omega), fun c1 => fin ?_, fun c1 => ?_⟩⟩
    · rw [if_pos c] at h
      cases f with
      | zero => exact h
      | succ f => unfold y_let at h; rw [if_neg (by omega)] at h; exact h
    · rw [if_pos c] at h
      obtain ⟨f, rfl⟩ : ∃ g, f = g + 1 := ⟨f - 1, by omega⟩
      unfold y_let at h
      rw [if_pos c1] at h
      have hcode := y_txt_code ho1 c1
      have hcr := y_code_r hcode
      have et : D'.1 337 (y_s S1 0).toNat = y_txt S1 (y_s S1 0) := by rw [hr1.2.1.2 _ (by show (y_s S1 0).toNat < (y_l S1 0).length; omega)]; rfl
      have ec : D'.1 338 (y_txt S1 (y_s S1 0)).toNat = y_ct S1 (y_txt S1 (y_s S1 0)) := by rw [hr1.2.2.2.2.2.2.2.1 _ (by omega)]; rfl
      rw [et, ec]
      have hk : 0 ≤ y_ct S1 (y_txt S1 (y_s S1 0)) ∧ y_ct S1 (y_txt S1 (y_s S1 0)) ≤ 15 := ho1.2.2.2.2.2.2.2.2.2.2.2.2.2.2.2.2.1 _
      refine ⟨by omega, by omega, y_rs (by omega) (by omega), fun c2 => fin (by rw [if_neg c2] at h; exact h), fun c2 => ⟨by omega, ?_⟩⟩
      rw [if_pos c2] at h
      refine c_say hr1 hs1 hl (fun D8 hr8 hs8 D9 f9 => ?_)
      have e83 : D8.1 336 3 = y_s S1 0 := hr8.2.2.2.2.2.2.2.2.2.2.2.2.2.2.2.2.1
      rw [e83] at f9
      have hr9 : y_ref Q (y_ss (y_ss S1 0 (y_s S1 0 + 1)) 1 v) D9 := by
        have := rf_s0 hr8 (y_s S1 0 + 1)
        rw [← f9] at this
        exact ⟨this.1, this.2.1, this.2.2.1, this.2.2.2.1, this.2.2.2.2.1, this.2.2.2.2.2.1, this.2.2.2.2.2.2.1, this.2.2.2.2.2.2.2.1, this.2.2.2.2.2.2.2.2.1, this.2.2.2.2.2.2.2.2.2.1, this.2.2.2.2.2.2.2.2.2.2.1, this.2.2.2.2.2.2.2.2.2.2.2.1, this.2.2.2.2.2.2.2.2.2.2.2.2.1, this.2.2.2.2.2.2.2.2.2.2.2.2.2.1, this.2.2.2.2.2.2.2.2.2.2.2.2.2.2.1, this.2.2.2.2.2.2.2.2.2.2.2.2.2.2.2.1, this.2.2.2.2.2.2.2.2.2.2.2.2.2.2.2.2.1, this.2.2.2.2.2.2.2.2.2.2.2.2.2.2.2.2.2.1, this.2.2.2.2.2.2.2.2.2.2.2.2.2.2.2.2.2.2.1, this.2.2.2.2.2.2.2.2.2.2.2.2.2.2.2.2.2.2.2.1, this.2.2.2.2.2.2.2.2.2.2.2.2.2.2.2.2.2.2.2.2.1, this.2.2.2.2.2.2.2.2.2.2.2.2.2.2.2.2.2.2.2.2.2.1, this.2.2.2.2.2.2.2.2.2.2.2.2.2.2.2.2.2.2.2.2.2.2⟩
      have hs9 : y_spl D9 (ls ++ [y_txt S1 (y_s S1 0)]) := by rw [f9]; exact hs8
      have e916 : D9.1 336 16 = ((ls ++ [y_txt S1 (y_s S1 0)]).length : Int) := hs9.1
      have hlen : (ls ++ [y_txt S1 (y_s S1 0)]).length = ls.length + 1 := by simp
      rw [e916, hlen]
      refine ⟨y_rs (by omega) (by omega), fun c3 => ?_, fun c3 => ?_⟩
      · rw [if_neg (by omega)] at h
        refine ⟨_, ?_, y_ss S1 0 (y_s S1 0 + 1), f, ls ++ [y_txt S1 (y_s S1 0)], v, a0, a15, hr9, hf1, yo_on ho1 c1, ⟨by simp, by show (ls ++ [y_txt S1 (y_s S1 0)]).length ≤ 11; omega, y_all_code hno.2.2.1 hcode, fun z => (by cases z)⟩, hs9, hst, ?_, rfl, by rw [if_pos c]; exact h⟩
        · show (((y_l S1 0).length : Int) - (y_s S1 0 + 1)).toNat < _
          omega
        · show (((y_l S1 0).length : Int) - (y_s S1 0 + 1)).toNat ≤ f
          omega
      · rw [if_pos (by omega)] at h
        exact c_stopV (S := y_ss S1 0 (y_s S1 0 + 1)) hr9 hf1 (by decide) (by decide) h
theorem c_mRead {K : Int → z_D → Prop} (hr : y_rf Q S D) (ho : y_ok st S) (h : y_fin (y_read 161 S) (fun t S' => ∀ D', y_rf Q S' D' → K t D') (y_rT Q.1 (K (-1)))) : z_c n (d + 4) 103 [.ref 336] D (z_qI K T) := by
  have ho3 := ho.2.2.1
  have ho1 := ho.1
  refine r_mRead (fun m D' => ∃ S f, y_rf Q S D' ∧ y_ok st S ∧ y_fin (y_read f S) (fun t S' => ∀ D', y_rf Q S' D' → K t D') (y_rT Q.1 (K (-1))) ∧ (y_l S 0).length - y_s S 0 < f ∧ m = 2 * ((y_l S 0).length - y_s S 0).toNat)
    (fun m k b c D' => ∃ S f g, y_rf Q S D' ∧ y_ok st S ∧ y_fin (y_rest f k b (y_line g c S)) (fun t S' => ∀ D', y_rf Q S' D' → K t D') (y_rT Q.1 (K (-1))) ∧ (y_l S 0).length - y_s S 0 < f ∧ ((y_l S 0).length - y_s S 0).toNat ≤ g ∧ (k = 5 ∨ k = 14) ∧ (0 ≤ b ∧ b ≤ 2) ∧ y_code c = true ∧ m = 2 * ((y_l S 0).length - y_s S 0).toNat + 1) ⟨_, S, 161, hr, ho, h, by omega, rfl⟩ ?_ ?_
  · rintro mm D' ⟨S, f, hr, ho, h, hf, rfl⟩
    have e4 : D'.1 336 3 = y_s S 0 := hr.1.2.2.2.2.2.2.2.2.2.2.2.2.2.2.2.2.1
    have e2 : D'.1 336 1 = ((y_l S 0).length : Int) := hr.1.2.1.1
    have o1 := ho.1
    have o3 := ho.2.2.1
    have o4 := ho.2.2.2.1
    obtain ⟨f, rfl⟩ : ∃ g, f = g + 1 := ⟨f - 1, by omega⟩
    unfold y_read at h
    unfold w_mRead_0
    rw [e4, e2]
    refine ⟨y_rs (by omega) (by omega), y_rs (by omega) (by omega), fun c => ?_, fun c => ?_⟩
    · rw [if_neg (by omega)] at h
      exact h D' hr
    · rw [if_pos c] at h
      dsimp only at h
      have hcode := y_txt_code ho c
      have hcr := y_code_r hcode
      have hk : 0 ≤ y_ct S (y_txt S (y_s S 0)) ∧ y_ct S (y_txt S (y_s S 0)) ≤ 15 := ho.2.2.2.2.2.2.2.2.2.2.2.2.2.2.2.2.1 _
      rw [rf_text hr.1 ho c, rf_ct hr.1 hcode]
      refine ⟨by omega, by omega, fun D5 e5 => ?_⟩
      have hr1 : y_rf Q (y_ss S 0 (y_s S 0 + 1)) D5 := ⟨by rw [e5]; exact rf_s0 hr.1 _, hr.2⟩
      have ho1 := yo_on ho c
      have e54 : D5.1 336 4 = y_s S 1 := hr1.1.2.2.2.2.2.2.2.2.2.2.2.2.2.2.2.2.2.1
      rw [e54]
      generalize y_txt S (y_s S 0) = x at *
      generalize y_ct S x = k at *
      have again : y_fin (y_read f (y_ss S 0 (y_s S 0 + 1))) (fun t S' => ∀ D', y_rf Q S' D' → K t D') (y_rT Q.1 (K (-1))) → ∃ m, m < 2 * ((y_l S 0).length - y_s S 0).toNat ∧ ∃ S f, y_rf Q S D5 ∧ y_ok st S ∧ y_fin (y_read f S) (fun t S' => ∀ D', y_rf Q S' D' → K t D') (y_rT Q.1 (K (-1))) ∧ (y_l S 0).length - y_s S 0 < f ∧ m = 2 * ((y_l S 0).length - y_s S 0).toNat := by
        intro q
        refine ⟨_, ?_, y_ss S 0 (y_s S 0 + 1), f, hr1, ho1, q, ?_, rfl⟩
        · show 2 * (((y_l S 0).length : Int) - (y_s S 0 + 1)).toNat < _
          omega
        · show ((y_l S 0).length : Int) - (y_s S 0 + 1) < f
          omega
      have line : (k = 5 ∨ k = 14) → ∃ m, m < 2 * ((y_l S 0).length - y_s S 0).toNat ∧ ∃ S1 f g, y_rf Q S1 D5 ∧ y_ok st S1 ∧ y_fin (y_rest f k (y_s S 1) (y_line g x S1)) (fun t S' => ∀ D', y_rf Q S' D' → K t D') (y_rT Q.1 (K (-1))) ∧ (y_l S1 0).length - y_s S1 0 < f ∧ ((y_l S1 0).length - y_s S1 0).toNat ≤ g ∧ (k = 5 ∨ k = 14) ∧ (0 ≤ y_s S 1 ∧ y_s S 1 ≤ 2) ∧ y_code x = true ∧ m = 2 * ((y_l S1 0).length - y_s S1 0).toNat + 1 := by
        intro q
        rw [if_neg (by omega), if_pos q] at h
        refine ⟨_, ?_, y_ss S 0 (y_s S 0 + 1), f, 160, hr1, ho1, h, ?_, ?_, q, o4, hcode, rfl⟩
        · show 2 * (((y_l S 0).length : Int) - (y_s S 0 + 1)).toNat + 1 < _
          omega
        · show ((y_l S 0).length : Int) - (y_s S 0 + 1) < f
          omega
        · show (((y_l S 0).length : Int) - (y_s S 0 + 1)).toNat ≤ 160
          omega
      refine ⟨y_rs (by omega) (by omega), fun q => ⟨fun q5 => line (Or.inl q5), fun q5 => ⟨fun q14 => ⟨fun q10 => ⟨fun q13 => ⟨fun q15 => ⟨fun q9 => ?_, fun q9 D7 e7 => ?_⟩, fun q15 => ?_⟩, fun q13 D14 e14 D15 e15 => ?_⟩, fun q10 => ⟨y_rs (by omega) (by omega), fun q1 => ?_, fun q1 D22 e22 => ?_⟩⟩, fun q14 => line (Or.inr q14)⟩⟩, fun q => ?_⟩
      · rw [if_neg q, if_neg (by omega), if_pos q9] at h
        exact again h
      · rw [if_neg q, if_neg (by omega), if_neg q9, if_neg q10, if_neg q13, if_neg q15] at h
        exact h D7 ⟨by rw [e7]; exact rf_s1 hr1.1 1, hr.2⟩
      · rw [if_neg q, if_neg (by omega), if_neg (by omega), if_neg q10, if_neg q13, if_pos q15] at h
        exact c_stop hr1 (by decide) (by decide) h
      · rw [if_neg q, if_neg (by omega), if_neg (by omega), if_neg q10, if_pos q13] at h
        have h14 : y_ref Q (y_ss (y_ss S 0 (y_s S 0 + 1)) 1 1) D14 := by rw [e14]; exact rf_s1 hr1.1 1
        have h15 : y_ref Q (y_ss (y_ss S 0 (y_s S 0 + 1)) 1 1) D15 := by rw [e15]; exact rf_sp h14 0
        have s15 : y_spl D15 [] := ⟨by rw [e15]; rfl, fun i hi => (by cases hi)⟩
        exact c_say h15 s15 (by simp) (fun D16 h16 s16 => c_named (q := ([x], true)) ⟨h16, hr.2⟩ (y_ok_s1 ho1 (by decide) (by decide)) s16 (y_no1 hcode) h)
      · rw [if_neg q, if_neg (by omega), if_neg (by omega), if_pos q10, if_neg q1] at h
        exact again h
      · rw [if_neg q, if_neg (by omega), if_neg (by omega), if_pos q10, if_pos q1] at h
        exact h D22 ⟨by rw [e22]; exact rf_s1 hr1.1 2, hr.2⟩
      · rw [if_pos q] at h
        exact c_mReadName hr1 ho1 h
  · rintro mm k b c D' ⟨S, f, g, hr, ho, h, hf, hg, hk, hb, hcode, rfl⟩
    have e4 : D'.1 336 3 = y_s S 0 := hr.1.2.2.2.2.2.2.2.2.2.2.2.2.2.2.2.2.1
    have e2 : D'.1 336 1 = ((y_l S 0).length : Int) := hr.1.2.1.1
    have o1 := ho.1
    have o3 := ho.2.2.1
    have hcr := y_code_r hcode
    have fin : y_line g c S = S → w_mRead_108 n (d + 3) k b D' (fun D => ∃ m, m < 2 * ((y_l S 0).length - y_s S 0).toNat + 1 ∧ ∃ S f, y_rf Q S D ∧ y_ok st S ∧ y_fin (y_read f S) (fun t S' => ∀ D', y_rf Q S' D' → K t D') (y_rT Q.1 (K (-1))) ∧ (y_l S 0).length - y_s S 0 < f ∧ m = 2 * ((y_l S 0).length - y_s S 0).toNat) K T := by
      intro el D1 e1
      rw [el] at h
      unfold y_rest at h
      have hr1 : y_rf Q (y_ss S 1 0) D1 := ⟨by rw [e1]; exact rf_s1 hr.1 0, hr.2⟩
      have ho1 := y_ok_s1 ho (v := 0) (by decide) (by decide)
      have again : y_fin (y_read f (y_ss S 1 0)) (fun t S' => ∀ D', y_rf Q S' D' → K t D') (y_rT Q.1 (K (-1))) → ∃ m, m < 2 * ((y_l S 0).length - y_s S 0).toNat + 1 ∧ ∃ S f, y_rf Q S D1 ∧ y_ok st S ∧ y_fin (y_read f S) (fun t S' => ∀ D', y_rf Q S' D' → K t D') (y_rT Q.1 (K (-1))) ∧ (y_l S 0).length - y_s S 0 < f ∧ m = 2 * ((y_l S 0).length - y_s S 0).toNat := fun q => ⟨_, Nat.lt_succ_self _, _, f, hr1, ho1, q, hf, rfl⟩
      refine ⟨y_rs (by omega) (by omega), fun q => ?_, fun q => ⟨y_rs (by omega) (by omega), fun q1 => ?_, fun q1 => ⟨fun q2 => ?_, fun q2 => ?_⟩⟩⟩
      · rw [if_neg (by omega)] at h; exact again h
      · rw [if_neg (by omega)] at h; exact again h
      · rw [if_pos ⟨q, by omega⟩, if_pos (by omega)] at h; exact h D1 hr1
      · rw [if_pos ⟨q, by omega⟩, if_neg (by omega)] at h; exact h D1 hr1
    unfold w_mRead_66
    rw [e4, e2]
    refine ⟨y_rs (by omega) (by omega), fun q => fin (by rw [q]; exact y_line_10 g S), fun q => ⟨y_rs (by omega) (by omega), y_rs (by omega) (by omega), fun q1 => fin (y_line_end (by omega)), fun q1 => ⟨by omega, fun D5 e5 => ?_⟩⟩⟩
    rw [rf_text hr.1 ho q1]
    obtain ⟨g, rfl⟩ : ∃ g', g = g' + 1 := ⟨g - 1, by omega⟩
    unfold y_line at h
    rw [if_neg q, if_pos q1] at h
    refine ⟨_, ?_, y_ss S 0 (y_s S 0 + 1), f, g, ⟨by rw [e5]; exact rf_s0 hr.1 _, hr.2⟩, yo_on ho q1, h, ?_, ?_, hk, hb, y_txt_code ho q1, rfl⟩
    · show 2 * (((y_l S 0).length : Int) - (y_s S 0 + 1)).toNat + 1 < _
      omega
    · show ((y_l S 0).length : Int) - (y_s S 0 + 1) < f
      omega
    · show (((y_l S 0).length : Int) - (y_s S 0 + 1)).toNat ≤ g
      omega
theorem y_tr_lt {t : Int} (h : t < 8192) : y_tr t = t := if_pos h
/-- a token, if there is one -/
theorem c_mGet {K : Int → z_D → Prop} (hr : y_rf Q S D) (ho : y_ok st S) (h : y_fin (y_get false S) (fun t S' => ∀ D', y_rf Q S' D' → K (y_tr t) D') (y_rT Q.1 (K (-1)))) : z_c n (d + 5) 104 [.ref 336] D (z_qI K T) := by
  have e5 : D.1 336 5 = 0 := hr.1.2.2.2.2.2.2.2.2.2.2.2.2.2.2.2.2.2.2.1.trans hr.2
  have e9 := hr.1.2.2.1.1
  have o5 := ho.2.2.2.2.1
  rw [List.length_map] at e9
  refine r_mGet ?_
  unfold w_mGet_0
  rw [e5, e9]
  refine ⟨z_rk rfl, fun _ => ⟨y_rs (by omega) (by omega), fun c => ?_, fun c D5 f5 => ?_⟩, fun c => by omega⟩
  · have en : y_l S 1 = [] := List.eq_nil_of_length_eq_zero (by omega)
    unfold y_get at h
    rw [en] at h
    dsimp only [List.getLast?_nil] at h
    have h := y_fbi h
    have hok := yo_read 161 S ho
    refine c_mRead hr ho ?_
    cases hx : y_read 161 S with
    | inl q =>
      rw [hx] at h hok
      have h : y_fin (if q.1 = -1 ∧ false = true then y_ft q.2 3 else .inl (q.1, q.2)) (fun t S' => ∀ D', y_rf Q S' D' → K (y_tr t) D') (y_rT Q.1 (K (-1))) := h
      rw [if_neg (fun z => by cases z.2)] at h
      have ht : q.1 < 8192 := by
        obtain ⟨k1, k2, k3, k4, k5⟩ := hok
        rcases k5 with z | z
        · have z : q.1 = -1 := z; omega
        · have := y_tp_r z.1 k1.2.2.2.2.2.2.2.2.2.2.2.2.2.2.2.2.2.2.2.1.2; omega
      intro D' hr'
      have := h D' hr'
      have e : y_tr (q.1, q.2).1 = q.1 := y_tr_lt ht
      rw [e] at this
      exact this
    | inr q => rw [hx] at h; exact h
  · obtain ⟨l, t, e⟩ : ∃ l t, y_l S 1 = l ++ [t] := by
      rcases y_snoc (y_l S 1) with z | ⟨l, t, z⟩
      · rw [z] at c; simp at c
      · exact ⟨l, t, z⟩
    have el : ((y_l S 1).length : Int) - 1 = (l.length : Int) := by rw [e]; simp
    rw [el] at f5
    have h5 : y_ref Q (y_sl S 1 l) D5 := by rw [f5]; exact rf_pop hr.1 e
    have e59 : D5.1 336 9 = (l.length : Int) := by rw [f5]; exact y_uz_same _ _ _ _
    have e539 : D5.1 339 l.length = y_tr t := by
      rw [f5, y_uz_cell (by decide), hr.1.2.2.1.2 _ (by rw [e]; simp), e]
      simp
    rw [e59]
    refine ⟨by rw [e] at o5; simp at o5; omega, ?_⟩
    rw [show ((l.length : Nat) : Int).toNat = l.length by omega, e539]
    unfold y_get at h
    rw [e] at h
    simp only [List.getLast?_append, List.getLast?_singleton, Option.some_or, List.dropLast_concat] at h
    exact h D5 ⟨h5, hr.2⟩
end RR
