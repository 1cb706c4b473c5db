/-! contracts of the reference: what is asked -/
/-- fault's answers -/
def y_flt (S : y_S) (k : Int) : Option Int := if k = 0 then some (y_s S 3) else if k = 1 then some (y_s S 0) else none
def y_outk (S : y_S) (k : Int) : Option Int := if 0 ≤ k ∧ k < (y_l S 2).length then some (y_at (y_l S 2) k) else none
def y_catk (S : y_S) (k : Int) : Option Int := if y_code k = true then some (y_ct S k) else none
section RM
variable {n d : Nat} {Q : y_Q} {D : z_D} {st v1 : Int} {S : y_S} {T : Nat → z_D → Prop}
theorem c_fails {a : Int} {K : Int → z_D → Prop} (hr : y_ref (y_Qt Q a) S D) (h : ∀ D', y_ref (y_Qt Q 1) S D' → K 0 D') : z_c n (d + 1) 146 [.ref 336] D (z_qI K T) := r_mFails (fun D1 e1 => h D1 (by rw [e1]; exact rf_tt hr))
theorem c_mThrown {a : Int} {K : Int → z_D → Prop} (hr : y_ref (y_Qt Q a) S D) (h : K a D) : z_c n (d + 1) 93 [.ref 336] D (z_qI K T) := by
  refine r_mThrown ?_
  unfold w_mThrown_0
  have : D.1 336 0 = a := hr.2.2.2.2.2.2.2.2.2.2.2.2.2.2.2.2.2.2.2.1.2
  rw [this]
  exact h
theorem c_mFault {k : Int} {K : Int → z_D → Prop} (hr : y_ref Q S D) (hk : z_r k) (h0 : ∀ v, y_flt S k = some v → ∀ D', y_ref (y_Qt Q 0) S D' → K v D') (h1 : y_flt S k = none → ∀ D', y_ref (y_Qt Q 1) S D' → K 0 D') : z_c n (d + 3) 147 [.ref 336, .int (z_i k)] D (z_qI K T) := by
  refine r_mFault (fun D1 e1 => ?_)
  have hr1 : y_ref (y_Qt Q 0) S D1 := by rw [e1]; exact rf_th hr 0
  have e3 : D1.1 336 3 = y_s S 0 := hr1.2.2.2.2.2.2.2.2.2.2.2.2.2.2.2.2.1
  have e5 : D1.1 336 5 = y_s S 3 := hr1.2.2.2.2.2.2.2.2.2.2.2.2.2.2.2.2.2.2.1
  rw [e3, e5]
  unfold y_flt at h0 h1
  exact ⟨hk, fun c => ⟨fun c1 => c_fails hr1 (h1 (by rw [if_neg c, if_neg c1])), fun c1 => h0 _ (by rw [if_neg c, if_pos c1]) D1 hr1⟩, fun c => h0 _ (if_pos c) D1 hr1⟩
theorem c_mOut {k : Int} {K : Int → z_D → Prop} (hr : y_ref Q S D) (ho : y_ok st (y_ss S 1 v1)) (hk : z_r k) (h0 : ∀ v, y_outk S k = some v → ∀ D', y_ref (y_Qt Q 0) S D' → K v D') (h1 : y_outk S k = none → ∀ D', y_ref (y_Qt Q 1) S D' → K 0 D') : z_c n (d + 3) 148 [.ref 336, .int (z_i k)] D (z_qI K T) := by
  have o7 : (y_l S 2).length ≤ 200 := ho.2.2.2.2.2.2.1
  refine r_mOut (fun D1 e1 => ?_)
  have hr1 : y_ref (y_Qt Q 0) S D1 := by rw [e1]; exact rf_th hr 0
  have e37 : D1.1 336 37 = ((y_l S 2).length : Int) := hr1.2.2.2.1.1
  unfold y_outk at h0 h1
  rw [e37]
  refine ⟨hk, fun c => c_fails hr1 (h1 (if_neg (by omega))), fun c => ⟨y_rs (by omega) (by omega), fun c1 => ⟨by omega, ?_⟩, fun c1 => c_fails hr1 (h1 (if_neg (by omega)))⟩⟩
  have hl : k.toNat < (y_l S 2).length := by omega
  rw [y_ar_at hr1.2.2.2.1 hl]
  refine h0 _ ?_ D1 hr1
  rw [if_pos (by omega)]
  unfold y_at
  rw [if_pos c, List.getElem?_eq_getElem hl]
  rfl
theorem c_mCount {k : Int} {K : Int → z_D → Prop} (hr : y_ref Q S D) (hB : Q.1.1 336 6 = 0) (hk : z_r k) (h0 : ∀ v, y_num S k = some v → ∀ D', y_ref (y_Qt Q 0) S D' → K v D') (h1 : y_num S k = none → ∀ D', y_ref (y_Qt Q 1) S D' → K 0 D') : z_c n (d + 3) 149 [.ref 336, .int (z_i k)] D (z_qI K T) := by
  refine r_mCount (fun D1 e1 => ?_)
  have hr1 : y_ref (y_Qt Q 0) S D1 := by rw [e1]; exact rf_th hr 0
  have e37 : D1.1 336 37 = ((y_l S 2).length : Int) := hr1.2.2.2.1.1
  have e6 : D1.1 336 6 = y_s S 2 := by
    have : D1.1 336 6 = y_s S 2 + Q.1.1 336 6 := hr1.2.2.2.2.2.2.2.2.2.2.2.2.2.2.2.2.2.2.2.1.1
    omega
  have e18 : D1.1 336 18 = ((y_l S 4).length : Int) := hr1.2.2.2.2.2.1
  have e29 : D1.1 336 29 = ((y_l S 3).length : Int) := hr1.2.2.2.2.1.1
  have e23 : D1.1 336 23 = ((y_mac S).length : Int) := hr1.2.2.2.2.2.2.2.2.2.2.1
  unfold y_num at h0 h1
  rw [e37, e6, e18, e29, e23]
  refine ⟨hk, fun c0 => ⟨fun c1 => ⟨fun c2 => ⟨fun c3 => ⟨fun c4 => c_fails hr1 (h1 ?_), fun c4 => h0 _ ?_ D1 hr1⟩, fun c3 => h0 _ ?_ D1 hr1⟩, fun c2 => h0 _ ?_ D1 hr1⟩, fun c1 => h0 _ ?_ D1 hr1⟩, fun c0 => h0 _ (if_pos c0) D1 hr1⟩
  · rw [if_neg c0, if_neg c1, if_neg c2, if_neg c3, if_neg c4]
  · rw [if_neg c0, if_neg c1, if_neg c2, if_neg c3, if_pos c4]
  · rw [if_neg c0, if_neg c1, if_neg c2, if_pos c3]
  · rw [if_neg c0, if_neg c1, if_pos c2]
  · rw [if_neg c0, if_pos c1]
theorem c_mCategory {k : Int} {K : Int → z_D → Prop} (hr : y_ref Q S D) (hk : z_r k) (h0 : ∀ v, y_catk S k = some v → ∀ D', y_ref (y_Qt Q 0) S D' → K v D') (h1 : y_catk S k = none → ∀ D', y_ref (y_Qt Q 1) S D' → K 0 D') : z_c n (d + 3) 150 [.ref 336, .int (z_i k)] D (z_qI K T) := by
  refine r_mCategory (fun D1 e1 => ?_)
  have hr1 : y_ref (y_Qt Q 0) S D1 := by rw [e1]; exact rf_th hr 0
  unfold y_catk at h0 h1
  have yes : (k = 10 ∨ (32 ≤ k ∧ k ≤ 126)) → K (D1.1 338 k.toNat) D1 := by
    intro c
    rw [hr1.2.2.2.2.2.2.2.1 k.toNat (by omega)]
    exact h0 _ (if_pos (decide_eq_true c)) D1 hr1
  have nay : ¬ (k = 10 ∨ (32 ≤ k ∧ k ≤ 126)) → z_c n (d + 2) 146 [.ref 336] D1 (z_qI (fun v2 D1 => K v2 D1) T) := fun c => c_fails hr1 (h1 (if_neg (fun w => c (of_decide_eq_true w))))
  exact ⟨hk, fun c => ⟨by omega, yes (Or.inl c)⟩, fun c => ⟨fun c1 => nay (by omega), fun c1 => ⟨fun c2 => nay (by omega), fun c2 => ⟨by omega, yes (by omega)⟩⟩⟩⟩
theorem y_idx_lt {q : List Int × Bool} : ∀ (l : List (List Int × Bool)) (k r : Nat), y_idx q l k = some r → r < k + l.length
  | [], k, r, h => by cases h
  | x :: t, k, r, h => by
    unfold y_idx at h
    split at h
    · cases h; simp
    · have := y_idx_lt t (k + 1) r h
      simp
      omega
/-- a name is looked up -/
theorem c_mLook {w : Int64} {b : Bool} {K : Int → z_D → Prop} (hr : y_ref Q S D) (ho : y_ok st (y_ss S 1 v1)) (h0 : y_look S w b = none → ∀ D', y_ref Q S D' → K (-1) D') (h1 : ∀ v, y_look S w b = some v → ∀ D', y_ref Q S D' → K (y_mr v) D') : z_c n (d + 2) 151 [.ref 336, .long w, .int (z_i (z_b b))] D (z_qI K T) := by
  have hlen := y_chs_len w
  unfold y_look at h0 h1
  refine r_mLookUp (fun m w' b' g k D' => w' = w ∧ b' = b ∧ ∃ (j : Nat) (pre : List Int), j ≤ 8 ∧ k = (j : Int) - 1 ∧ pre ++ y_nz (y_bys w j) = y_chs w ∧ (∀ c ∈ pre, 0 ≤ c ∧ c ≤ 255) ∧ g = pre.all y_code ∧ y_spl D' pre ∧ y_ref Q S D' ∧ m = j) ?_ ?_
  · intro D1 e1
    refine ⟨_, rfl, rfl, 8, [], by decide, rfl, rfl, fun c hc => (by cases hc), rfl, ?_, by rw [e1]; exact rf_sp hr 0, rfl⟩
    rw [e1]
    exact ⟨y_uz_same _ _ _ _, fun i hi => (by cases hi)⟩
  · rintro mm w' b' g k D' ⟨rfl, rfl, j, pre, hj, rfl, hpre, hc8, rfl, hs, hr1, rfl⟩
    have hpl : pre.length ≤ 8 := by have := congrArg List.length hpre; rw [List.length_append] at this; omega
    cases mm with
    | zero =>
      have ep : pre = y_chs w' := by rw [← hpre]; simp [y_bys, y_nz]
      have e16 : D'.1 336 16 = (pre.length : Int) := hs.1
      unfold w_mLookUp_12
      rw [e16]
      have eg : pre.all y_code = y_good w' := by rw [ep]; rfl
      have lk : (y_good w' = true ∧ 1 ≤ (y_chs w').length ∧ (b' = true → (y_chs w').length = 1)) → w_mLookUp_99 n (d + 1) w' b' D' K T := by
        intro hv
        rw [if_pos hv] at h1
        refine c_knownX (q := (pre, b')) hr1 ho.2.2.2.2.2.2.2.2.2.2.2.2.2.2.2.2.2.2.2.1.2 ho.2.2.2.2.2.2.2.2.2.2.2.2.2.2.2.2.2.2.2.2.1 hs (by show pre.length ≤ 12; omega) hc8 (fun k e => ?_) (fun e => ?_)
        · rw [ep] at e
          have hk := y_idx_lt _ _ _ e
          have on : (y_nm S).length ≤ 118 := ho.2.2.2.2.2.2.2.2.2.2.2.2.2.2.2.2.2.2.2.1.2
          rw [e] at h1
          refine ⟨y_rs (by omega) (by omega), fun _ => ⟨by omega, ?_⟩, fun z => by omega⟩
          rw [show ((k : Nat) : Int).toNat = k by omega, hr1.2.2.2.2.2.2.2.2.2.1 k (by omega)]
          exact h1 _ rfl D' hr1
        · rw [ep] at e
          rw [e] at h1
          exact ⟨z_rk rfl, fun z => by omega, fun _ => h1 0 rfl D' hr1⟩
      have bad : ¬ (y_good w' = true ∧ 1 ≤ (y_chs w').length ∧ (b' = true → (y_chs w').length = 1)) → K (-1) D' := fun q => h0 (if_neg q) D' hr1
      rw [eg]
      have el : pre.length = (y_chs w').length := by rw [ep]
      refine ⟨z_rk rfl, fun _ => ⟨fun z => bad (fun q => by rw [q.1] at z; cases z), fun z => ⟨y_rs (by omega) (by omega), fun c => bad (fun q => by omega), fun c => ⟨fun z2 => lk ⟨z, by omega, fun q => by rw [z2] at q; cases q⟩, fun z2 => ⟨fun c2 => lk ⟨z, by omega, fun _ => by omega⟩, fun c2 => bad (fun q => by have := q.2.2 z2; omega)⟩⟩⟩⟩, fun c => by omega⟩
    | succ j =>
      have hbt := y_byteS w' (j := j) (by omega)
      have hbr := y_byte_r w' j
      unfold y_bys at hpre
      rw [y_nz_cons] at hpre
      unfold w_mLookUp_12
      rw [show ((j + 1 : Nat) : Int) - 1 = (j : Int) by omega, hbt]
      have step : ∀ (g : Bool) (pre2 : List Int) (D2 : z_D), y_ref Q S D2 → y_spl D2 pre2 → pre2 ++ y_nz (y_bys w' j) = y_chs w' → (∀ c ∈ pre2, 0 ≤ c ∧ c ≤ 255) → g = pre2.all y_code → ∃ m, m < j + 1 ∧ w' = w' ∧ b' = b' ∧ ∃ (j' : Nat) (pre : List Int), j' ≤ 8 ∧ (j : Int) + (-1) = (j' : Int) - 1 ∧ pre ++ y_nz (y_bys w' j') = y_chs w' ∧ (∀ c ∈ pre, 0 ≤ c ∧ c ≤ 255) ∧ g = pre.all y_code ∧ y_spl D2 pre ∧ y_ref Q S D2 ∧ m = j' := fun g pre2 D2 q1 q2 q3 q4 q5 => ⟨j, by omega, rfl, rfl, j, pre2, by omega, by omega, q3, q4, q5, q2, q1, rfl⟩
      have both : ∀ g : Bool, (y_byte w' j = 0 → g = pre.all y_code) → (¬ y_byte w' j = 0 → g = (pre ++ [y_byte w' j]).all y_code) → w_mLookUp_54 n (d + 1) w' b' (j : Int) (y_byte w' j) g D' (fun w'' b'' g k D' => ∃ m, m < j + 1 ∧ w'' = w' ∧ b'' = b' ∧ ∃ (j : Nat) (pre : List Int), j ≤ 8 ∧ k = (j : Int) - 1 ∧ pre ++ y_nz (y_bys w' j) = y_chs w' ∧ (∀ c ∈ pre, 0 ≤ c ∧ c ≤ 255) ∧ g = pre.all y_code ∧ y_spl D' pre ∧ y_ref Q S D' ∧ m = j) K T := by
        intro g q1 q2
        refine ⟨y_rs (by omega) (by omega), fun c => ?_, fun c => c_say hr1 hs (by omega) (fun D2 hr2 hs2 => ?_)⟩
        · rw [if_pos (by omega)] at hpre
          exact step g pre D' hr1 hs hpre hc8 (q1 (by omega))
        · rw [if_neg (by omega)] at hpre
          refine step g (pre ++ [y_byte w' j]) D2 hr2 hs2 (by rw [← hpre]; simp) (fun c hc => ?_) (q2 (by omega))
          rcases List.mem_append.mp hc with z | z
          · exact hc8 c z
          · rw [List.mem_singleton.mp z]; omega
      have ea : (pre ++ [y_byte w' j]).all y_code = (pre.all y_code && y_code (y_byte w' j)) := by rw [List.all_append]; simp
      refine ⟨y_rs (by omega) (by omega), fun c => by omega, fun _ => ⟨fun z => both false (fun _ => z.symm) (fun _ => by rw [ea, z]; rfl), fun z => ⟨fun c => both true (fun _ => z.symm) (fun q => absurd c q), fun c => c_mIsCode (y_rs (by omega) (by omega)) ⟨fun p => both false (fun q => absurd q c) (fun _ => by rw [ea, z, p]; rfl), fun p => both true (fun q => absurd q c) (fun _ => by rw [ea, z, p]; rfl)⟩⟩⟩⟩
theorem y_mrx {m : Nat} {v : Int} (h : y_mn m v) (hm : m ≤ 60) : (v ≤ 18 ∧ y_mr v = v ∧ 0 ≤ v) ∨ (18 < v ∧ v < 4096 ∧ y_mr v = v + 1000) ∨ (4096 ≤ v ∧ v < 4156 ∧ v < 4096 + m ∧ y_mr v = v + 1904) := by
  unfold y_mr
  rcases h with z | z | z
  · left; rw [if_pos (by omega)]; omega
  · have := y_ch_r z; right; left; rw [if_neg (by omega), if_pos (by omega)]; omega
  · right; right; rw [if_neg (by omega), if_neg (by omega)]; omega
theorem c_mMeaning {w : Int64} {b : Bool} {K : Int → z_D → Prop} (hr : y_ref Q S D) (ho : y_ok st (y_ss S 1 v1)) (h0 : ∀ v, y_look S w b = some v → ∀ D', y_ref (y_Qt Q 0) S D' → K (y_mng v) D') (h1 : y_look S w b = none → ∀ D', y_ref (y_Qt Q 1) S D' → K 0 D') : z_c n (d + 3) 152 [.ref 336, .long w, .int (z_i (z_b b))] D (z_qI K T) := by
  have o22 : y_mm S ≤ 60 := ho.2.2.2.2.2.2.2.2.2.2.2.2.2.2.2.2.2.2.2.2.2.1
  refine r_mMeaning (fun D1 e1 => ?_)
  have hr1 : y_ref (y_Qt Q 0) S D1 := by rw [e1]; exact rf_th hr 0
  refine c_mLook hr1 ho (fun e D2 hr2 => ⟨z_rk rfl, fun z => by omega, fun _ => c_fails hr2 (h1 e)⟩) (fun v e D2 hr2 => ?_)
  have hv := y_mrx (m := y_mm S) (y_look_mn ho e) o22
  have hK := h0 v e D2 hr2
  unfold y_mng at hK
  refine ⟨y_rs (by omega) (by omega), fun _ => ⟨fun c => ⟨fun c1 => ⟨fun c2 => ?_, fun c2 => ?_⟩, fun c1 => ?_⟩, fun c => ?_⟩, fun z => by omega⟩
  · rw [if_neg (by omega), if_neg (by omega), if_neg (by omega)] at hK; exact hK
  · rw [if_neg (by omega), if_neg (by omega), if_pos (by omega)] at hK; exact hK
  · rw [if_neg (by omega), if_pos (by omega)] at hK; exact hK
  · rw [if_pos (by omega)] at hK; exact hK
theorem c_mDetail {w : Int64} {b : Bool} {k : Int} {K : Int → z_D → Prop} (hr : y_ref Q S D) (ho : y_ok st (y_ss S 1 v1)) (hk : z_r k) (h0 : ∀ v, y_look S w b = some v → ∀ D', y_ref (y_Qt Q 0) S D' → K (y_det S v k) D') (h1 : y_look S w b = none → ∀ D', y_ref (y_Qt Q 1) S D' → K 0 D') : z_c n (d + 3) 153 [.ref 336, .long w, .int (z_i (z_b b)), .int (z_i k)] D (z_qI K T) := by
  have o22 : (y_mac S).length ≤ 60 := ho.2.2.2.2.2.2.2.2.2.2.2.2.2.2.2.2.2.2.2.2.2.1
  refine r_mDetail (fun D1 e1 => ?_)
  have hr1 : y_ref (y_Qt Q 0) S D1 := by rw [e1]; exact rf_th hr 0
  refine c_mLook hr1 ho (fun e D2 hr2 => ⟨z_rk rfl, fun z => by omega, fun _ => c_fails hr2 (h1 e)⟩) (fun v e D2 hr2 => ?_)
  have hv := y_mrx (m := y_mm S) (y_look_mn ho e) o22
  have hK := h0 v e D2 hr2
  unfold y_det at hK
  refine ⟨y_rs (by omega) (by omega), fun _ => ⟨fun c => ⟨fun _ => ?_, fun z => (by cases z)⟩, fun c => ⟨fun z => (by cases z), fun _ => ?_⟩⟩, fun z => by omega⟩
  · have en : y_mcr S v = none := if_neg (by omega)
    rw [en] at hK
    dsimp only at hK
    refine ⟨hk, fun c0 => ⟨fun c1 => ⟨fun z => (by cases z), fun _ => ?_⟩, fun c1 => ⟨fun c2 => ⟨fun _ => ?_, fun z => (by cases z)⟩, fun c2 => ⟨fun z => (by cases z), fun _ => ?_⟩⟩⟩, fun c0 => ⟨y_rs (by omega) (by omega), fun c1 => ⟨fun _ => ⟨fun c2 => ?_, fun c2 => ?_⟩, fun z => (by cases z)⟩, fun c1 => ?_⟩⟩
    · rw [if_neg c0, if_pos (by omega)] at hK; exact hK
    · rw [if_neg c0, if_neg (by omega)] at hK; exact hK
    · rw [if_neg c0, if_pos (by omega)] at hK; exact hK
    · rw [if_pos c0, if_neg (by omega)] at hK; rw [show y_mr v - 1000 = v by omega]; exact hK
    · rw [if_pos c0, if_neg (by omega)] at hK; rw [show y_mr v = v by omega]; exact hK
    · rw [if_pos c0, if_pos (by omega)] at hK; exact hK
  · have hi : (v - 4096).toNat < (y_mac S).length := by
      have h3 : y_mm S = (y_mac S).length := rfl
      omega
    have es : y_mcr S v = some (y_mac S)[(v - 4096).toNat] := by unfold y_mcr; rw [if_pos (by omega), List.getElem?_eq_getElem hi]
    rw [es] at hK
    have eq : (y_mac S)[(v - 4096).toNat]? = some (y_mac S)[(v - 4096).toNat] := List.getElem?_eq_getElem hi
    have hmk : y_mk (y_nn S) (y_mac S)[(v - 4096).toNat] := ho.2.2.2.2.2.2.2.2.2.2.2.2.2.2.2.2.2.2.2.2.2.2.1 _ (List.getElem_mem hi)
    obtain ⟨⟨m1, m2⟩, ⟨m3, m4⟩, m5⟩ := hr2.2.2.2.2.2.2.2.2.2.2.2.1 _ _ eq
    generalize (y_mac S)[(v - 4096).toNat] = q at *
    rw [show y_mr v - 6000 = v - 4096 by omega]
    have hi0 : 0 ≤ v - 4096 ∧ v - 4096 < 60 := by omega
    generalize v - 4096 = i at *
    rw [List.length_map] at m1 m3 m4
    dsimp only at hK
    have hb40 : q.2.1.length ≤ 40 := hmk.2.1.1
    have ht12 : q.1.length ≤ 12 := hmk.1.1
    have hp4 : 0 ≤ q.2.2 ∧ q.2.2 ≤ 4 := hmk.2.2
    refine ⟨hk, fun c0 => ⟨fun c1 => ⟨fun _ => ⟨hk, fun z => absurd c1 z, fun _ => ⟨by omega, ?_⟩⟩, fun z => (by cases z)⟩, fun c1 => ⟨fun c2 => ⟨fun z => (by cases z), fun _ => ⟨fun c3 => ?_, fun c3 => ⟨by omega, ?_⟩⟩⟩, fun c2 => ⟨fun _ => ⟨hk, fun _ => ⟨by omega, ?_⟩, fun z => absurd z c1⟩, fun z => (by cases z)⟩⟩⟩, fun c0 => ⟨y_rs (by omega) (by omega), fun c1 => ⟨fun z => (by cases z), fun _ => ⟨by omega, ?_⟩⟩, fun c1 => by omega⟩⟩
    · rw [if_neg c0, if_pos c1] at hK; rw [m1]; exact hK
    · rw [if_neg c0, if_neg c1, if_neg c2, if_pos (by omega)] at hK; exact hK
    · rw [if_neg c0, if_neg c1, if_neg c2, if_neg (by omega)] at hK
      rw [m3]
      have hk2 := hk
      refine ⟨⟨by have := hk2.1; omega, by have := hk2.2; omega⟩, y_rs (by omega) (by omega), fun c4 => ?_, fun c4 => ?_⟩
      · have hl : (k - 3).toNat < q.2.1.length := by omega
        have ev : D2.1 351 (Int.toNat (41 * i + k - 3)) = y_tr q.2.1[(k - 3).toNat] := by
          have := m4 (k - 3).toNat hl
          rw [show Int.toNat (41 * i + k - 3) = 41 * i.toNat + (k - 3).toNat by omega, this, List.getElem?_map, List.getElem?_eq_getElem hl]
          rfl
        have ea : y_at q.2.1 (k - 3) = q.2.1[(k - 3).toNat] := by
          unfold y_at
          rw [if_pos (by omega), List.getElem?_eq_getElem hl]
          rfl
        rw [ev]
        rw [ea] at hK
        have htk := hmk.2.1.2 _ (List.getElem_mem hl)
        generalize q.2.1[(k - 3).toNat] = t at *
        have hn : y_nn S ≤ 118 := ho.2.2.2.2.2.2.2.2.2.2.2.2.2.2.2.2.2.2.2.1.2
        have htr : (t < 4214 ∧ y_tr t = t ∧ 256 ≤ t) ∨ (8193 ≤ t ∧ t < 8200 ∧ y_tr t = t + 8192) := by
          rcases htk with z | z
          · right; unfold y_tr; rw [if_neg (by omega), if_pos (by omega)]; omega
          · have := y_tp_r z hn
            left; unfold y_tr; rw [if_pos (by omega)]; omega
        refine ⟨by omega, y_rs (by omega) (by omega), fun c5 => ⟨fun c6 => ?_, fun c6 => ?_⟩, fun c5 => ?_⟩
        · rw [if_pos (by omega)] at hK; rw [show 4096 + y_tr t - 16384 = 4096 + (t - 8192) by omega]; exact hK
        · rw [if_neg (by omega), if_pos (by omega)] at hK; exact hK
        · rw [if_neg (by omega), if_neg (by omega)] at hK; rw [show y_tr t = t by omega]; exact hK
      · rw [y_at_ge (by omega), if_neg (by decide), if_neg (by decide)] at hK
        exact hK
    · rw [if_neg c0, if_neg c1, if_pos c2] at hK; rw [m3]; exact hK
    · rw [if_pos c0] at hK; rw [m5]; exact hK
end RM
