/-! contracts of the class: what can be called -/
def y_byte (w : Int64) (k : Nat) : Int := ((w.toBitVec.toNat / 2 ^ (8 * k) % 256 : Nat) : Int)
/-- the bytes in front of the j-th, the highest first -/
def y_bys (w : Int64) : Nat → List Int
  | 0 => []
  | j + 1 => y_byte w j :: y_bys w j
def y_nz (l : List Int) : List Int := l.filter (fun c => decide (c ≠ 0))
def y_chs (w : Int64) : List Int := y_nz (y_bys w 8)
def y_good (w : Int64) : Bool := (y_chs w).all y_code
def y_type (w : Int64) (S : y_S) : Bool × y_S := if y_s S 2 = 0 ∧ y_good w = true ∧ (y_l S 0).length + (y_chs w).length ≤ 160 then (true, y_sl S 0 (y_l S 0 ++ y_chs w)) else (false, S)
/-- the meaning of a name that is typed; none: no such name -/
def y_look (S : y_S) (w : Int64) (b : Bool) : Option Int := if y_good w = true ∧ 1 ≤ (y_chs w).length ∧ (b = true → (y_chs w).length = 1) then
    (match y_idx (y_chs w, b) (y_nm S) 0 with
    | some k => some (y_mean S k)
    | none => some 0)
  else none
def y_again (S : y_S) : y_S := (fun i => if i = 0 then y_l S 0 else [], fun i => if i = 4 then y_s S 4 else if i = 5 then y_s S 5 else 0, y_cat0, fun k => if k < 18 then (k : Int) + 1 else 0, y_cmds, [], fun _ => none, none)
theorem y_byte_r (w : Int64) (k : Nat) : 0 ≤ y_byte w k ∧ y_byte w k ≤ 255 := by unfold y_byte; omega
theorem y_usrB (w : Int64) {j : Nat} (hj : j < 8) : z_usr w (8 * (j : Int)) = lN (w.toBitVec.toNat / 2 ^ (8 * j)) := by
  obtain ⟨m, hm, rfl⟩ := wb_of w
  rw [wb_tn hm]
  have hz : z_i (8 * (j : Int)) = nI (8 * j) := by rw [← z_i_nat]; rfl
  rw [y_usr m hz (by omega), Nat.mod_eq_of_lt hm]
theorem y_byteI (w : Int64) {j : Nat} (hj : j < 8) : z_and (z_li (z_usr w (8 * (j : Int)))) 255 = y_byte w j := by
  rw [y_usrB w hj, y_and_li]
  rfl
theorem y_byteL (w : Int64) {j : Nat} (hj : j < 8) : z_usr w (8 * (j : Int)) &&& 255 = lN (y_byte w j).toNat := by
  rw [y_usrB w hj]
  have e : (255 : Int64) = lN (2 ^ 8 - 1) := rfl
  have h := w.toBitVec.isLt
  rw [e, wb_mask (Nat.lt_of_le_of_lt (Nat.div_le_self _ _) h) (by decide)]
  rfl
theorem y_nz_cons (c : Int) (l : List Int) : y_nz (c :: l) = if c = 0 then y_nz l else c :: y_nz l := by
  unfold y_nz
  split
  · next e => subst e; rfl
  · next e => rw [List.filter_cons_of_pos (by simpa using e)]
theorem y_nz_len (w : Int64) : ∀ j, (y_nz (y_bys w j)).length ≤ j
  | 0 => Nat.le_refl _
  | j + 1 => by
    have := y_nz_len w j
    unfold y_bys
    rw [y_nz_cons]
    split
    · omega
    · simp; omega
theorem y_chs_len (w : Int64) : (y_chs w).length ≤ 8 := y_nz_len w 8
/-- the number of characters, or -1 -/
def y_cn (w : Int64) : Int := if y_good w then (y_chs w).length else -1
section CJ
variable {n d : Nat} {B : y_B} {D : z_D} {tr st : Int} {S : y_S} {T : Nat → z_D → Prop}
theorem c_chars {w : Int64} {K : Int → z_D → Prop} (h : K (y_cn w) D) : z_c n (d + 2) 50 [.long w] D (z_qI K T) := by
  refine r_tCharactersOf (fun m w' a s D' => w' = w ∧ D' = D ∧ ∃ j : Nat, j ≤ 8 ∧ s = 8 * (j : Int) - 8 ∧ 0 ≤ a ∧ a ≤ 8 - (j : Int) ∧ y_cn w = (if (y_nz (y_bys w j)).all y_code then a + (y_nz (y_bys w j)).length else -1) ∧ m = j) ⟨_, rfl, rfl, 8, by decide, by decide, by decide, by decide, ?_, rfl⟩ ?_
  · unfold y_cn y_good y_chs
    simp
  · rintro mm w' a s D' ⟨rfl, rfl, j, hj, rfl, a0, a1, hcn, rfl⟩
    cases mm with
    | zero =>
      refine ⟨y_rs (by omega) (by omega), fun _ => ?_, fun c => by omega⟩
      have : y_cn w' = a := by rw [hcn]; simp [y_bys, y_nz]
      rw [← this]
      exact h
    | succ j =>
      have hb := y_byteI w' (j := j) (by omega)
      have hr := y_byte_r w' j
      unfold y_bys at hcn
      rw [y_nz_cons] at hcn
      unfold w_tCharactersOf_5
      rw [show 8 * ((j + 1 : Nat) : Int) - 8 = 8 * (j : Int) by omega, hb]
      have step : ∀ a', 0 ≤ a' → a' ≤ 8 - (j : Int) → y_cn w' = (if (y_nz (y_bys w' j)).all y_code then a' + (y_nz (y_bys w' j)).length else -1) → ∃ m, m < j + 1 ∧ w' = w' ∧ D' = D' ∧ ∃ j' : Nat, j' ≤ 8 ∧ 8 * (j : Int) + (-8) = 8 * (j' : Int) - 8 ∧ 0 ≤ a' ∧ a' ≤ 8 - (j' : Int) ∧ y_cn w' = (if (y_nz (y_bys w' j')).all y_code then a' + (y_nz (y_bys w' j')).length else -1) ∧ m = j' :=
        fun a' q0 q1 q2 => ⟨j, by omega, rfl, rfl, j, by omega, by omega, q0, q1, q2, rfl⟩
      refine ⟨y_rs (by omega) (by omega), fun c => by omega, fun _ => ⟨fun c => ⟨y_rs (by omega) (by omega), fun _ => step a a0 (by omega) (by rw [if_pos c] at hcn; exact hcn), fun z => absurd c z⟩, fun c => c_tIsOfText (y_rs (by omega) (by omega)) ⟨fun z => ⟨y_rs (by omega) (by omega), fun q => absurd q c, fun _ => step (a + 1) (by omega) (by omega) ?_⟩, fun z => ?_⟩⟩⟩
      · rw [if_neg c] at hcn
        rw [hcn, List.all_cons, z, Bool.true_and, List.length_cons]
        split
        · omega
        · rfl
      · rw [if_neg c, List.all_cons, z, Bool.false_and] at hcn
        have : y_cn w' = -1 := hcn
        rw [← this]
        exact h
theorem c_type {w : Int64} {K : Bool → z_D → Prop} (hc : y_cls B tr S D) (hl : (y_l S 0).length ≤ 160) (hs : z_r (y_s S 2)) (h : ∀ D', y_cls B tr (y_type w S).2 D' → K (y_type w S).1 D') : z_c n (d + 4) 37 [.ref 0, .long w] D (z_qZ K T) := by
  have e10 : D.1 0 10 = y_s S 2 := hc.2.2.2.2.2.2.2.2.2.2.2.2.2.2.1
  have hcl := y_chs_len w
  refine r_tType ?_
  unfold w_tType_0
  rw [e10]
  have no : (y_type w S).1 = false → (y_type w S).2 = S → K false D := by
    intro q1 q2
    have := h D (by rw [q2]; exact hc)
    rw [q1] at this
    exact this
  refine ⟨hs, fun c => no (by unfold y_type; rw [if_neg (fun z => c z.1)]) (by unfold y_type; rw [if_neg (fun z => c z.1)]), fun c => ?_⟩
  refine r_dAppend (fun m w' s D' => w' = w ∧ ∃ (j : Nat) (pre : List Int), j ≤ 8 ∧ s = 8 * (j : Int) - 8 ∧ y_good w = true ∧ (y_l S 0).length + (y_chs w).length ≤ 160 ∧ pre ++ y_nz (y_bys w j) = y_chs w ∧ m = j ∧ y_cls B tr (y_sl S 0 (y_l S 0 ++ pre)) D') ?_ ?_
  · refine c_chars ?_
    have e2 : D.1 1 2 = ((y_l S 0).length : Int) := hc.2.2.2.2.2.2.2.1.1
    unfold y_cn
    rw [e2]
    cases hg : y_good w with
    | false =>
      refine ⟨z_rk rfl, fun _ => ⟨fun _ => ?_, fun z => (by cases z)⟩, fun z => absurd rfl z⟩
      have : ¬ (y_s S 2 = 0 ∧ y_good w = true ∧ (y_l S 0).length + (y_chs w).length ≤ 160) := fun z => by rw [hg] at z; cases z.2.1
      exact no (by unfold y_type; rw [if_neg this]) (by unfold y_type; rw [if_neg this])
    | true =>
      rw [if_pos rfl]
      refine ⟨y_rs (by omega) (by omega), fun z => by omega, fun _ => ⟨y_rs (by omega) (by omega), fun z => ⟨_, rfl, 8, [], by decide, by decide, rfl, by omega, rfl, rfl, ?_⟩, fun z => ⟨fun _ => ?_, fun q => (by cases q)⟩⟩⟩
      · rw [List.append_nil]
        exact ⟨hc.1, hc.2.1, hc.2.2.1, hc.2.2.2.1, hc.2.2.2.2.1, hc.2.2.2.2.2.1, hc.2.2.2.2.2.2.1, hc.2.2.2.2.2.2.2.1, hc.2.2.2.2.2.2.2.2.1, hc.2.2.2.2.2.2.2.2.2.1, hc.2.2.2.2.2.2.2.2.2.2.1, hc.2.2.2.2.2.2.2.2.2.2.2.1, hc.2.2.2.2.2.2.2.2.2.2.2.2.1, hc.2.2.2.2.2.2.2.2.2.2.2.2.2.1, hc.2.2.2.2.2.2.2.2.2.2.2.2.2.2.1, hc.2.2.2.2.2.2.2.2.2.2.2.2.2.2.2.1, hc.2.2.2.2.2.2.2.2.2.2.2.2.2.2.2.2.1, hc.2.2.2.2.2.2.2.2.2.2.2.2.2.2.2.2.2.1, hc.2.2.2.2.2.2.2.2.2.2.2.2.2.2.2.2.2.2.1, y_MA_f (Z := D.1) (L := D.2.1) (p := D.2.2) hc.2.2.2.2.2.2.2.2.2.2.2.2.2.2.2.2.2.2.2.1 (fun _ _ _ => rfl) rfl rfl rfl, hc.2.2.2.2.2.2.2.2.2.2.2.2.2.2.2.2.2.2.2.2⟩
      · have : ¬ (y_s S 2 = 0 ∧ y_good w = true ∧ (y_l S 0).length + (y_chs w).length ≤ 160) := fun q => by have := q.2.2; omega
        exact no (by unfold y_type; rw [if_neg this]) (by unfold y_type; rw [if_neg this])
  · rintro mm w' s D' ⟨rfl, j, pre, hj, rfl, hg, h160, hpre, rfl, hc1⟩
    cases mm with
    | zero =>
      refine ⟨y_rs (by omega) (by omega), fun _ => ⟨fun z => (by cases z), fun _ => ?_⟩, fun z => by omega⟩
      have hy : y_type w' S = (true, y_sl S 0 (y_l S 0 ++ y_chs w')) := by unfold y_type; rw [if_pos ⟨c, hg, h160⟩]
      have ep : pre = y_chs w' := by rw [← hpre]; simp [y_bys, y_nz]
      have := h D' (by rw [hy, ← ep]; exact hc1)
      rw [hy] at this
      exact this
    | succ j =>
      have hb := y_byteI w' (j := j) (by omega)
      have hr := y_byte_r w' j
      unfold y_bys at hpre
      rw [y_nz_cons] at hpre
      have e2 : D'.1 1 2 = ((y_l S 0 ++ pre).length : Int) := hc1.2.2.2.2.2.2.2.1.1
      unfold w_dAppend_28
      rw [show 8 * ((j + 1 : Nat) : Int) - 8 = 8 * (j : Int) by omega, hb, e2]
      refine ⟨y_rs (by omega) (by omega), fun z => by omega, fun _ => ⟨fun z => ?_, fun z => ?_⟩⟩
      · rw [if_pos z] at hpre
        exact ⟨j, by omega, rfl, j, pre, by omega, by omega, hg, h160, hpre, rfl, hc1⟩
      · rw [if_neg z] at hpre
        have hlen : (y_l S 0 ++ pre).length < 160 := by
          have := congrArg List.length hpre
          simp at this ⊢
          omega
        refine ⟨y_rs (by omega) (by omega), fun q => by omega, fun _ => ⟨fun q => by omega, fun q => ⟨by omega, fun D4 e4 D5 e5 => ?_⟩⟩⟩
        have e42 : D4.1 1 2 = ((y_l S 0 ++ pre).length : Int) := by rw [e4]; exact e2
        rw [e42] at e5
        have hct := cl_txt hc1 (y_byte w' j)
        refine ⟨j, by omega, rfl, j, pre ++ [y_byte w' j], by omega, by omega, hg, h160, by rw [← hpre]; simp, rfl, ?_⟩
        rw [e5, e4, ← List.append_assoc]
        rw [show (((y_l S 0 ++ pre).length : Nat) : Int).toNat = (y_l S 0 ++ pre).length by omega]
        exact ⟨hct.1, hct.2.1, hct.2.2.1, hct.2.2.2.1, hct.2.2.2.2.1, hct.2.2.2.2.2.1, hct.2.2.2.2.2.2.1, hct.2.2.2.2.2.2.2.1, hct.2.2.2.2.2.2.2.2.1, hct.2.2.2.2.2.2.2.2.2.1, hct.2.2.2.2.2.2.2.2.2.2.1, hct.2.2.2.2.2.2.2.2.2.2.2.1, hct.2.2.2.2.2.2.2.2.2.2.2.2.1, hct.2.2.2.2.2.2.2.2.2.2.2.2.2.1, hct.2.2.2.2.2.2.2.2.2.2.2.2.2.2.1, hct.2.2.2.2.2.2.2.2.2.2.2.2.2.2.2.1, hct.2.2.2.2.2.2.2.2.2.2.2.2.2.2.2.2.1, hct.2.2.2.2.2.2.2.2.2.2.2.2.2.2.2.2.2.1, hct.2.2.2.2.2.2.2.2.2.2.2.2.2.2.2.2.2.2.1, y_MA_f (Z := (z_uz (z_uz D' 2 (y_l S 0 ++ pre).length (y_byte w' j)) 1 2 (((y_l S 0 ++ pre).length : Int) + 1)).1) (L := D'.2.1) (p := D'.2.2) hct.2.2.2.2.2.2.2.2.2.2.2.2.2.2.2.2.2.2.2.1 (fun _ _ _ => rfl) rfl rfl rfl, hct.2.2.2.2.2.2.2.2.2.2.2.2.2.2.2.2.2.2.2.2⟩
theorem c_fault2 {k : Int} {K : Int → z_D → Prop} (hc : y_cls B tr S D) (hk : z_r k) (h0 : k = 0 → K (y_s S 3) D) (h1 : k = 1 → K (y_s S 0) D) (h2 : k ≠ 0 → k ≠ 1 → T 2 D) : z_c n (d + 1) 41 [.ref 0, .int (z_i k)] D (z_qI K T) := by
  have e1 : D.1 0 11 = y_s S 3 := hc.2.2.2.2.2.2.2.2.2.2.2.2.2.2.2.1
  have e2 : D.1 1 4 = y_s S 0 := hc.2.2.2.2.2.2.2.2.2.2.2.2.1
  refine r_tFault ?_
  unfold w_tFault_0
  rw [e1, e2]
  exact ⟨hk, fun c => h2 (by omega) (by omega), fun c => ⟨fun c1 => ⟨fun c2 => h1 (by omega), fun c2 => h0 c2⟩, fun c1 => h2 (by omega) (by omega)⟩⟩
theorem c_out {k : Int} {K : Int → z_D → Prop} (hc : y_cls B tr S D) (ho : y_ok st S) (hk : z_r k) (h0 : (0 ≤ k ∧ k < (y_l S 2).length) → K (y_at (y_l S 2) k) D) (h1 : ¬ (0 ≤ k ∧ k < (y_l S 2).length) → T 2 D) : z_c n (d + 2) 42 [.ref 0, .int (z_i k)] D (z_qI K T) := by
  have hrl : y_rl (y_l S 2) := y_rl_of (fun x hx => by have := ho.2.2.2.2.2.2.2.1 x hx; omega)
  refine r_tOut (c_rAt zr17 hc.2.2.1 ho.2.2.2.2.2.2.1 hk ⟨y_at_r hrl k, fun c => h0 ?_, fun c => h1 (fun z => ?_)⟩)
  · by_cases z : 0 ≤ k ∧ k < (y_l S 2).length
    · exact z
    · exact absurd (y_at_ge (by omega)) c
  · unfold y_at at c
    rw [if_pos z.1, List.getElem?_eq_getElem (by omega)] at c
    have := ho.2.2.2.2.2.2.2.1 _ (List.getElem_mem (by omega : k.toNat < (y_l S 2).length))
    have c : (y_l S 2)[k.toNat] = -1 := c
    omega
/-- what can be counted -/
def y_num (S : y_S) (k : Int) : Option Int := if k = 0 then some (y_l S 2).length else if k = 1 then some (y_s S 2) else if k = 2 then some (y_l S 4).length else if k = 3 then some (y_l S 3).length else if k = 4 then some (y_mac S).length else none
theorem c_count {k : Int} {K : Int → z_D → Prop} (hc : y_cls B tr S D) (hk : z_r k) (h0 : ∀ v, y_num S k = some v → K v D) (h1 : y_num S k = none → T 2 D) : z_c n (d + 2) 43 [.ref 0, .int (z_i k)] D (z_qI K T) := by
  have e1 : D.1 0 10 = y_s S 2 := hc.2.2.2.2.2.2.2.2.2.2.2.2.2.2.1
  have e2 : D.1 0 9 = ((y_mac S).length : Int) := hc.2.2.2.2.2.2.2.2.2.2.2.1
  unfold y_num at h0 h1
  refine r_tCount ?_
  unfold w_tCount_0
  rw [e1, e2]
  refine ⟨hk, fun c => c_rSize zr17 hc.2.2.1 (h0 _ ?_), fun c => h0 _ ?_, fun c => c_rSize zr9 hc.2.2.2.2.1 (h0 _ ?_), fun c => c_rSize zr19 hc.2.2.2.1 (h0 _ ?_), fun c => h0 _ ?_, fun c0 c1 c2 c3 c4 => h1 ?_⟩
  · rw [if_pos c]
  · rw [if_neg (by omega), if_pos c]
  · rw [if_neg (by omega), if_neg (by omega), if_pos c]
  · rw [if_neg (by omega), if_neg (by omega), if_neg (by omega), if_pos c]
  · rw [if_neg (by omega), if_neg (by omega), if_neg (by omega), if_neg (by omega), if_pos c]
  · rw [if_neg c0, if_neg c1, if_neg c2, if_neg c3, if_neg c4]
theorem c_category {k : Int} {K : Int → z_D → Prop} (hc : y_cls B tr S D) (hk : z_r k) (h0 : y_code k = true → K (y_ct S k) D) (h1 : y_code k = false → T 2 D) : z_c n (d + 2) 44 [.ref 0, .int (z_i k)] D (z_qI K T) := by
  refine r_tCategory (c_tIsOfText hk ⟨fun c => r_dCategoryOf ?_, fun c => h1 c⟩)
  have := cl_catAt hc c
  unfold w_dCategoryOf_0
  rw [this.2]
  exact ⟨this.1, h0 c⟩
end CJ
