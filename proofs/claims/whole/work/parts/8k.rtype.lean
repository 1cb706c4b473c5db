/-! contracts of the reference: what can be called -/
theorem y_bv255 : ∀ i, i < 64 → 8 ≤ i → (255#64).getLsbD i = false := by decide
theorem y_sarB (x : BitVec 64) {k : Nat} (hk : k ≤ 56) : x.sshiftRight k &&& 255#64 = x >>> k &&& 255#64 := by
  apply BitVec.eq_of_getLsbD_eq
  intro i hi
  rw [BitVec.getLsbD_and, BitVec.getLsbD_and, BitVec.getLsbD_sshiftRight, BitVec.getLsbD_ushiftRight]
  by_cases c : i < 8
  · rw [if_pos (by omega : k + i < 64)]
    simp [show ¬ 64 ≤ i by omega]
  · rw [y_bv255 i hi (by omega)]
    simp
theorem y_sarL (w : Int64) {j : Nat} (hj : j < 8) : z_sar w (8 * (j : Int)) &&& 255 = z_usr w (8 * (j : Int)) &&& 255 := by
  have hz : z_i (8 * (j : Int)) = nI (8 * j) := by rw [← z_i_nat]; rfl
  unfold z_sar z_usr
  rw [hz, wb_c _ (by omega), wb_cu _ (by omega)]
  apply wb_inj
  rw [Int64.toBitVec_and, Int64.toBitVec_and, Int64.toBitVec_shiftRight, wb_tb, wb_sm _ (by omega)]
  have e1 : w.toBitVec.sshiftRight' (BitVec.ofNat 64 (8 * j)) = w.toBitVec.sshiftRight (8 * j) := by
    rw [BitVec.sshiftRight_eq', BitVec.toNat_ofNat, Nat.mod_eq_of_lt (by omega)]
  have e2 : (w.toUInt64 >>> UInt64.ofNat (8 * j)).toInt64.toBitVec = w.toBitVec >>> (8 * j) := by
    apply BitVec.eq_of_toNat_eq
    show (w.toUInt64 >>> UInt64.ofNat (8 * j)).toNat = _
    have h1 : (UInt64.ofNat (8 * j)).toNat = 8 * j := by
      show (BitVec.ofNat 64 (8 * j)).toNat = 8 * j
      rw [BitVec.toNat_ofNat, Nat.mod_eq_of_lt (by omega)]
    rw [UInt64.toNat_shiftRight, h1, Nat.mod_eq_of_lt (by omega), BitVec.toNat_ushiftRight]
    rfl
  rw [e1, e2]
  exact y_sarB _ (by omega)
theorem y_liN {m : Nat} (h : m < 256) : z_li (lN m) = (m : Int) := by
  have key : ∀ m, m < 256 → z_li (lN m) = (m : Int) := by decide +kernel
  exact key m h
theorem y_byteS (w : Int64) {j : Nat} (hj : j < 8) : z_li (z_sar w (8 * (j : Int)) &&& 255) = y_byte w j := by
  have hr := y_byte_r w j
  rw [y_sarL w hj, y_byteL w hj, y_liN (by omega)]
  omega
/-- what is thrown -/
abbrev y_Qt (Q : y_Q) (v : Int) : y_Q := (z_uz Q.1 336 0 v, Q.2)
theorem y_th2 (X : z_D) (a b : Int) : z_uz (z_uz X 336 0 a) 336 0 b = z_uz X 336 0 b := by
  have : am_u2 (am_u2 X.1 336 0 a) 336 0 b = am_u2 X.1 336 0 b := by
    funext x y
    unfold am_u2
    by_cases h : x = 336
    · by_cases h2 : y = 0
      · rw [if_pos h, if_pos h2, if_pos h, if_pos h2]
      · rw [if_pos h, if_neg h2, if_pos h, if_neg h2, if_pos h, if_neg h2]
    · rw [if_neg h, if_neg h, if_neg h]
  show (am_u2 (am_u2 X.1 336 0 a) 336 0 b, X.2) = (am_u2 X.1 336 0 b, X.2)
  rw [this]
section RK
variable {n d : Nat} {Q : y_Q} {D : z_D} {st : Int} {S : y_S} {T : Nat → z_D → Prop}
theorem rf_tt {a b : Int} (hr : y_ref (y_Qt Q a) S D) : y_ref (y_Qt Q b) S (z_uz D 336 0 b) := by
  have := rf_th hr b
  have e := y_th2 Q.1 a b
  show y_ref (z_uz Q.1 336 0 b, Q.2) S _
  rw [← e]
  exact this
theorem rf_txt (hr : y_ref Q S D) (c : Int) : y_ref Q (y_sl S 0 (y_l S 0 ++ [c])) (z_uz (z_uz D 337 (y_l S 0).length c) 336 1 (((y_l S 0).length : Int) + 1)) := by
  have h2 : y_ar ((z_uz (z_uz D 337 (y_l S 0).length c) 336 1 (((y_l S 0).length : Int) + 1)).1 337) (((y_l S 0).length : Int) + 1) (y_l S 0 ++ [c]) := by
    rw [← hr.2.1.1]
    refine y_ar_add hr.2.1 (fun i => ?_)
    rw [y_uz_cell (by decide)]
    show am_u2 D.1 337 (y_l S 0).length c 337 i = _
    unfold am_u2
    rw [if_pos rfl]
  exact ⟨y_g1 (y_g1 hr.1 (by decide)) (by decide), h2, hr.2.2.1, hr.2.2.2.1, hr.2.2.2.2.1, hr.2.2.2.2.2.1, hr.2.2.2.2.2.2.1, hr.2.2.2.2.2.2.2.1, hr.2.2.2.2.2.2.2.2.1, hr.2.2.2.2.2.2.2.2.2.1, hr.2.2.2.2.2.2.2.2.2.2.1, hr.2.2.2.2.2.2.2.2.2.2.2.1, hr.2.2.2.2.2.2.2.2.2.2.2.2.1, hr.2.2.2.2.2.2.2.2.2.2.2.2.2.1, hr.2.2.2.2.2.2.2.2.2.2.2.2.2.2.1, hr.2.2.2.2.2.2.2.2.2.2.2.2.2.2.2.1, hr.2.2.2.2.2.2.2.2.2.2.2.2.2.2.2.2.1, hr.2.2.2.2.2.2.2.2.2.2.2.2.2.2.2.2.2.1, hr.2.2.2.2.2.2.2.2.2.2.2.2.2.2.2.2.2.2.1, hr.2.2.2.2.2.2.2.2.2.2.2.2.2.2.2.2.2.2.2.1, hr.2.2.2.2.2.2.2.2.2.2.2.2.2.2.2.2.2.2.2.2.1, hr.2.2.2.2.2.2.2.2.2.2.2.2.2.2.2.2.2.2.2.2.2.1, hr.2.2.2.2.2.2.2.2.2.2.2.2.2.2.2.2.2.2.2.2.2.2⟩
theorem c_mType {w : Int64} {K : Bool → z_D → Prop} (hr : y_ref Q S D) (hl : (y_l S 0).length ≤ 160) (hs : z_r (y_s S 2)) (hB : Q.1.1 336 6 = 0) (h : ∀ D', y_ref (y_Qt Q 0) (y_type w S).2 D' → K (y_type w S).1 D') : z_c n (d + 4) 95 [.ref 336, .long w] D (z_qZ K T) := by
  have hcl := y_chs_len w
  have no : ∀ D1, y_ref (y_Qt Q 0) S D1 → ¬ (y_s S 2 = 0 ∧ y_good w = true ∧ (y_l S 0).length + (y_chs w).length ≤ 160) → K false D1 := by
    intro D1 hr1 q
    have hy : y_type w S = (false, S) := by unfold y_type; rw [if_neg q]
    have := h D1 (by rw [hy]; exact hr1)
    rw [hy] at this
    exact this
  refine r_mType (fun m w' a b k D' => w' = w ∧ y_ref (y_Qt Q 0) S D' ∧ ∃ j : Nat, j ≤ 8 ∧ k = (j : Int) ∧ a = (((y_nz (y_bys w j)).length : Nat) : Int) ∧ (b = true ↔ y_s S 2 = 0 ∧ (y_nz (y_bys w j)).all y_code = true) ∧ m = 108 - j) (fun m w' s D' => w' = w ∧ ∃ (j : Nat) (pre : List Int), j ≤ 8 ∧ s = (j : Int) - 1 ∧ y_s S 2 = 0 ∧ y_good w = true ∧ (y_l S 0).length + (y_chs w).length ≤ 160 ∧ pre ++ y_nz (y_bys w j) = y_chs w ∧ m = j ∧ y_ref (y_Qt Q 0) (y_sl S 0 (y_l S 0 ++ pre)) D') ?_ ?_ ?_
  · intro D1 e1
    have hr1 : y_ref (y_Qt Q 0) S D1 := by rw [e1]; exact rf_th hr 0
    have e6 : D1.1 336 6 = y_s S 2 := by
      have : D1.1 336 6 = y_s S 2 + Q.1.1 336 6 := hr1.2.2.2.2.2.2.2.2.2.2.2.2.2.2.2.2.2.2.2.1.1
      omega
    rw [e6]
    exact ⟨hs, fun c => ⟨_, rfl, hr1, 0, by decide, rfl, rfl, ⟨fun z => (by cases z), fun z => absurd z.1 c⟩, rfl⟩, fun c => ⟨_, rfl, hr1, 0, by decide, rfl, rfl, ⟨fun _ => ⟨c, rfl⟩, fun _ => rfl⟩, rfl⟩⟩
  · rintro mm w' a b k D' ⟨rfl, hr1, j, hj, rfl, rfl, hb, rfl⟩
    have hlen := y_nz_len w' j
    have e1 : D'.1 336 1 = ((y_l S 0).length : Int) := hr1.2.1.1
    refine ⟨y_rs (by omega) (by omega), fun c => ?_, fun c => ?_⟩
    · have ej : j = 8 := by omega
      subst ej
      refine ⟨fun z => no D' hr1 (fun q => ?_), fun z => ?_⟩
      · have := hb.mpr ⟨q.1, q.2.1⟩
        rw [z] at this; cases this
      · obtain ⟨z1, z2⟩ := hb.mp z
        rw [e1]
        refine ⟨y_rs (by omega) (by omega), fun q => ⟨8, by omega, rfl, 8, [], by decide, rfl, z1, z2, ?_, rfl, rfl, ?_⟩, fun q => no D' hr1 (fun p => ?_)⟩
        · have : (y_nz (y_bys w' 8)).length = (y_chs w').length := rfl
          omega
        · rw [List.append_nil]
          exact ⟨hr1.1, hr1.2.1, hr1.2.2.1, hr1.2.2.2.1, hr1.2.2.2.2.1, hr1.2.2.2.2.2.1, hr1.2.2.2.2.2.2.1, hr1.2.2.2.2.2.2.2.1, hr1.2.2.2.2.2.2.2.2.1, hr1.2.2.2.2.2.2.2.2.2.1, hr1.2.2.2.2.2.2.2.2.2.2.1, hr1.2.2.2.2.2.2.2.2.2.2.2.1, hr1.2.2.2.2.2.2.2.2.2.2.2.2.1, hr1.2.2.2.2.2.2.2.2.2.2.2.2.2.1, hr1.2.2.2.2.2.2.2.2.2.2.2.2.2.2.1, hr1.2.2.2.2.2.2.2.2.2.2.2.2.2.2.2.1, hr1.2.2.2.2.2.2.2.2.2.2.2.2.2.2.2.2.1, hr1.2.2.2.2.2.2.2.2.2.2.2.2.2.2.2.2.2.1, hr1.2.2.2.2.2.2.2.2.2.2.2.2.2.2.2.2.2.2.1, hr1.2.2.2.2.2.2.2.2.2.2.2.2.2.2.2.2.2.2.2.1, hr1.2.2.2.2.2.2.2.2.2.2.2.2.2.2.2.2.2.2.2.2.1, hr1.2.2.2.2.2.2.2.2.2.2.2.2.2.2.2.2.2.2.2.2.2.1, hr1.2.2.2.2.2.2.2.2.2.2.2.2.2.2.2.2.2.2.2.2.2.2⟩
        · have := p.2.2
          have e : (y_nz (y_bys w' 8)).length = (y_chs w').length := rfl
          omega
    · have hbt := y_byteS w' (j := j) (by omega)
      have hbr := y_byte_r w' j
      rw [hbt]
      have e : y_bys w' (j + 1) = y_byte w' j :: y_bys w' j := rfl
      have step : ∀ (a' : Int) (b' : Bool), a' = (((y_nz (y_bys w' (j + 1))).length : Nat) : Int) → (b' = true ↔ y_s S 2 = 0 ∧ (y_nz (y_bys w' (j + 1))).all y_code = true) → ∃ m, m < 108 - j ∧ w' = w' ∧ y_ref (y_Qt Q 0) S D' ∧ ∃ j' : Nat, j' ≤ 8 ∧ (j : Int) + 1 = (j' : Int) ∧ a' = (((y_nz (y_bys w' j')).length : Nat) : Int) ∧ (b' = true ↔ y_s S 2 = 0 ∧ (y_nz (y_bys w' j')).all y_code = true) ∧ m = 108 - j' :=
        fun a' b' q1 q2 => ⟨108 - (j + 1), by omega, rfl, hr1, j + 1, by omega, by omega, q1, q2, rfl⟩
      have both : ∀ b' : Bool, (b' = true ↔ y_s S 2 = 0 ∧ (y_nz (y_bys w' (j + 1))).all y_code = true) → w_mType_68 n (d + 3) w' (((y_nz (y_bys w' j)).length : Nat) : Int) (j : Int) (y_byte w' j) b' D' (fun w'' a b k D' => ∃ m, m < 108 - j ∧ w'' = w' ∧ y_ref (y_Qt Q 0) S D' ∧ ∃ j : Nat, j ≤ 8 ∧ k = (j : Int) ∧ a = (((y_nz (y_bys w' j)).length : Nat) : Int) ∧ (b = true ↔ y_s S 2 = 0 ∧ (y_nz (y_bys w' j)).all y_code = true) ∧ m = 108 - j) K T := by
        intro b' q
        refine ⟨y_rs (by omega) (by omega), fun z => step _ b' ?_ q, fun z => step _ b' ?_ q⟩
        · rw [e, y_nz_cons, if_neg z, List.length_cons]; omega
        · rw [e, y_nz_cons, if_pos z]; omega
      refine ⟨fun z => both false ⟨fun q => (by cases q), fun q => ?_⟩, fun z => ⟨fun q => both true ⟨fun _ => ?_, fun _ => rfl⟩, fun q => c_mIsCode (y_rs (by omega) (by omega)) ⟨fun p => both false ⟨fun q => (by cases q), fun r => ?_⟩, fun p => both true ⟨fun _ => ?_, fun _ => rfl⟩⟩⟩⟩
      · have q2 := q.2
        rw [e, y_nz_cons] at q2
        have : b = true := hb.mpr ⟨q.1, by
          split at q2
          · exact q2
          · rw [List.all_cons, Bool.and_eq_true] at q2; exact q2.2⟩
        rw [z] at this; cases this
      · rw [e, y_nz_cons, if_pos q]; exact hb.mp z
      · have q2 := r.2
        rw [e, y_nz_cons, if_neg q, List.all_cons, p] at q2
        cases q2
      · rw [e, y_nz_cons, if_neg q, List.all_cons, p, Bool.true_and]; exact hb.mp z
  · rintro mm w' s D' ⟨rfl, j, pre, hj, rfl, h2, hg, h160, hpre, rfl, hr1⟩
    cases mm with
    | zero =>
      refine ⟨y_rs (by omega) (by omega), fun _ => ?_, fun z => by omega⟩
      have hy : y_type w' S = (true, y_sl S 0 (y_l S 0 ++ y_chs w')) := by unfold y_type; rw [if_pos ⟨h2, hg, h160⟩]
      have ep : pre = y_chs w' := by rw [← hpre]; simp [y_bys, y_nz]
      have := h D' (by rw [hy, ← ep]; exact hr1)
      rw [hy] at this
      exact this
    | succ j =>
      have hbt := y_byteS w' (j := j) (by omega)
      have hbr := y_byte_r w' j
      unfold y_bys at hpre
      rw [y_nz_cons] at hpre
      have e1 : D'.1 336 1 = ((y_l S 0 ++ pre).length : Int) := hr1.2.1.1
      unfold w_mType_112
      rw [show ((j + 1 : Nat) : Int) - 1 = (j : Int) by omega, hbt, e1]
      refine ⟨y_rs (by omega) (by omega), fun z => by omega, fun _ => ⟨fun z => ?_, fun z => ?_⟩⟩
      · rw [if_pos (by omega)] at hpre
        exact ⟨j, by omega, rfl, j, pre, by omega, by omega, h2, hg, h160, hpre, rfl, hr1⟩
      · rw [if_neg (by omega)] at hpre
        have hlen : (y_l S 0 ++ pre).length < 160 := by
          have := congrArg List.length hpre
          simp at this ⊢
          omega
        refine ⟨by omega, fun D3 e3 D4 e4 => ?_⟩
        have e31 : D3.1 336 1 = ((y_l S 0 ++ pre).length : Int) := by rw [e3, y_uz_cell (by decide)]; exact e1
        rw [e31] at e4
        have hct := rf_txt hr1 (y_byte w' j)
        refine ⟨j, by omega, rfl, j, pre ++ [y_byte w' j], by omega, by omega, h2, hg, h160, by rw [← hpre]; simp, rfl, ?_⟩
        rw [e4, e3, ← List.append_assoc]
        rw [show (((y_l S 0 ++ pre).length : Nat) : Int).toNat = (y_l S 0 ++ pre).length by omega]
        exact ⟨hct.1, hct.2.1, hct.2.2.1, hct.2.2.2.1, hct.2.2.2.2.1, hct.2.2.2.2.2.1, hct.2.2.2.2.2.2.1, hct.2.2.2.2.2.2.2.1, hct.2.2.2.2.2.2.2.2.1, hct.2.2.2.2.2.2.2.2.2.1, hct.2.2.2.2.2.2.2.2.2.2.1, hct.2.2.2.2.2.2.2.2.2.2.2.1, hct.2.2.2.2.2.2.2.2.2.2.2.2.1, hct.2.2.2.2.2.2.2.2.2.2.2.2.2.1, hct.2.2.2.2.2.2.2.2.2.2.2.2.2.2.1, hct.2.2.2.2.2.2.2.2.2.2.2.2.2.2.2.1, hct.2.2.2.2.2.2.2.2.2.2.2.2.2.2.2.2.1, hct.2.2.2.2.2.2.2.2.2.2.2.2.2.2.2.2.2.1, hct.2.2.2.2.2.2.2.2.2.2.2.2.2.2.2.2.2.2.1, hct.2.2.2.2.2.2.2.2.2.2.2.2.2.2.2.2.2.2.2.1, hct.2.2.2.2.2.2.2.2.2.2.2.2.2.2.2.2.2.2.2.2.1, hct.2.2.2.2.2.2.2.2.2.2.2.2.2.2.2.2.2.2.2.2.2.1, hct.2.2.2.2.2.2.2.2.2.2.2.2.2.2.2.2.2.2.2.2.2.2⟩
end RK
