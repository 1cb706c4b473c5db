/-! contracts of the class: what is put back, kept, changed, sent -/
section CD
variable {n d : Nat} {B : y_B} {D : z_D} {tr st : Int} {S : y_S} {T : Nat → z_D → Prop}
theorem c_put {t : Int} {K : z_D → Prop} (hc : y_cls B 0 S D) (ho : y_ok st S) (h : y_fin (y_put t S) (fun _ S' => ∀ D', y_cls B 0 S' D' → K D') (y_cT B.1 T)) : z_c n (d + 2) 63 [.ref 0, .int (z_i t)] D (z_qV K T) := by
  have o5 := ho.2.2.2.2.1
  unfold y_put at h
  refine r_tPutBack (c_rAdd zr15 hc.2.1 o5 (fun q => ⟨fun _ => ?_, fun z => (by cases z)⟩) (fun q => ⟨fun z => (by cases z), fun _ => ?_⟩))
  · rw [if_neg (by omega)] at h
    exact h _ (cl_add1 hc t)
  · rw [if_pos (by omega)] at h
    exact c_fault hc h
theorem c_send {t : Int} {K : z_D → Prop} (hc : y_cls B 0 S D) (ho : y_ok st S) (h : y_fin (y_send t S) (fun _ S' => ∀ D', y_cls B 0 S' D' → K D') (y_cT B.1 T)) : z_c n (d + 2) 66 [.ref 0, .int (z_i t)] D (z_qV K T) := by
  have o5 := ho.2.2.2.2.2.2.1
  unfold y_send at h
  refine r_tPutOut (c_rAdd zr17 hc.2.2.1 o5 (fun q => ⟨fun _ => ?_, fun z => (by cases z)⟩) (fun q => ⟨fun z => (by cases z), fun _ => ?_⟩))
  · rw [if_neg (by omega)] at h
    exact h _ (cl_add2 hc t)
  · rw [if_pos (by omega)] at h
    exact c_fault hc h
theorem c_nMeaningAt {k : Int} {K : Int → z_D → Prop} (hc : y_cls B tr S D) (ho : y_ok st S) (h0 : 0 ≤ k) (h1 : k < 118) (h : K (y_mean S k.toNat) D) : z_c n (d + 1) 10 [.ref 4, .int (z_i k)] D (z_qI K T) := by
  have e : D.1 4 3 = (y_nn S : Int) := hc.2.2.2.2.2.2.2.2.2.1.1
  have on := ho.2.2.2.2.2.2.2.2.2.2.2.2.2.2.2.2.2.2.2.1
  refine r_nMeaningAt ?_
  unfold w_nMeaningAt_0
  rw [e]
  refine ⟨y_rs (by omega) (by omega), fun c => by omega, fun _ => ⟨y_rs (by omega) (by omega), fun c => ?_, fun c => ⟨fun c1 => by omega, fun c1 => ⟨⟨h0, h1⟩, ?_⟩⟩⟩⟩
  · rw [ho.2.2.2.2.2.2.2.2.2.2.2.2.2.2.2.2.2.2.1 k.toNat (by omega)] at h; exact h
  · rw [hc.2.2.2.2.2.2.2.2.2.1.2 _ (by omega)]; exact h
theorem c_mo {t : Int} {K : Int → z_D → Prop} (hc : y_cls B tr S D) (ho : y_ok st S) (ht : y_tk (y_nn S) t) (h : K (y_mo S t) D) : z_c n (d + 2) 55 [.ref 0, .int (z_i t)] D (z_qI K T) := by
  have hr := y_tk_r ht ho.2.2.2.2.2.2.2.2.2.2.2.2.2.2.2.2.2.2.2.1.2
  unfold y_mo at h
  refine r_tMeaningOf ⟨y_rs (by omega) (by omega), fun c => ⟨fun c1 => ?_, fun c1 => ?_⟩, fun c => ?_⟩
  · rw [if_neg (by omega), if_neg (by omega)] at h
    have on := ho.2.2.2.2.2.2.2.2.2.2.2.2.2.2.2.2.2.2.2.1.2
    refine c_nMeaningAt hc ho (by omega) ?_ h
    rcases ht with ht | ht | ht
    · have := y_ch_r ht; omega
    · omega
    · omega
  · rw [if_neg (by omega), if_pos c1] at h; exact h
  · rw [if_pos c] at h; exact h
theorem c_set {k v : Int} {K : z_D → Prop} (hc : y_cls B tr S D) (ho : y_ok st S) (hk : y_ky (y_nn S) k) (h : ∀ D', y_cls B tr (y_set k v S) D' → K D') : z_c n (d + 2) 68 [.ref 0, .int (z_i k), .int (z_i v)] D (z_qV K T) := by
  have e : D.1 4 3 = (y_nn S : Int) := hc.2.2.2.2.2.2.2.2.2.1.1
  have on := ho.2.2.2.2.2.2.2.2.2.2.2.2.2.2.2.2.2.2.2.1
  unfold y_set at h
  have hr : 0 ≤ k ∧ k < 5000 := by rcases hk with hk | hk <;> omega
  refine r_tSet ⟨y_rs (by omega) (by omega), fun c => r_dSetCategory ?_, fun c => r_nSetMeaning ?_⟩
  · have hk' : k < 128 := by rcases hk with hk | hk <;> omega
    unfold w_dSetCategory_0
    rw [if_neg (by omega)] at h
    rw [z_and127 (by omega) (by omega), show k % 128 = k by omega]
    refine ⟨by omega, fun D2 e2 => h D2 ?_⟩
    rw [e2]; exact cl_cat hc _ v
  · have hk' : k < 4096 + y_nn S := by rcases hk with hk | hk <;> omega
    unfold w_nSetMeaning_0
    rw [if_pos c] at h
    rw [e]
    refine ⟨y_rs (by omega) (by omega), fun c1 => by omega, fun _ => ⟨y_rs (by omega) (by omega), fun c1 => by omega, fun c1 => ⟨fun c2 => by omega, fun c2 => ⟨by omega, fun D4 e4 => h D4 ?_⟩⟩⟩⟩
    rw [e4]; exact cl_mean hc _ v
theorem y_rl_of {l : List Int} (h : ∀ x ∈ l, -1000000 ≤ x ∧ x ≤ 1000000) : y_rl l := fun x hx => y_rs (h x hx).1 (h x hx).2
theorem y_keys_rl (ho : y_ok st S) : ∀ x ∈ y_l S 5, y_ky (y_nn S) x := by
  intro x hx
  obtain ⟨i, hi, e⟩ := List.mem_iff_getElem.mp hx
  have h13 := ho.2.2.2.2.2.2.2.2.2.2.2.2.1
  exact (ho.2.2.2.2.2.2.2.2.2.2.2.2.2.2.2.1 i x _ (by rw [List.getElem?_eq_getElem hi, e]) (List.getElem?_eq_getElem (by omega))).1
theorem y_ky_r {m : Nat} {k : Int} (h : y_ky m k) (hm : m ≤ 118) : 0 ≤ k ∧ k < 4214 := by rcases h with h | h <;> omega
theorem y_at_mem {l : List Int} {s : Nat} {x : Int} (hx : x ≠ -1) : (∃ k : Int, (s : Int) ≤ k ∧ k < l.length ∧ y_at l k = x) ↔ x ∈ l.drop s := by
  constructor
  · rintro ⟨k, h1, h2, h3⟩
    unfold y_at at h3
    rw [if_pos (by omega), List.getElem?_eq_getElem (by omega)] at h3
    have h3 : l[k.toNat] = x := h3
    rw [← h3]
    have : k.toNat = s + (k.toNat - s) := by omega
    rw [List.mem_iff_getElem]
    refine ⟨k.toNat - s, by rw [List.length_drop]; omega, ?_⟩
    rw [List.getElem_drop]
    congr 1
    omega
  · intro h
    obtain ⟨i, hi, e⟩ := List.mem_iff_getElem.mp h
    rw [List.length_drop] at hi
    refine ⟨((s + i : Nat) : Int), by omega, by omega, ?_⟩
    unfold y_at
    rw [if_pos (by omega), List.getElem?_eq_getElem (by omega)]
    rw [List.getElem_drop] at e
    exact e
theorem c_gKeep {k v : Int} {K : Bool → z_D → Prop} (hc : y_cls B tr S D) (ho : y_ok st S) (hk : y_ky (y_nn S) k) (h1 : y_kp k S = true → K true D) (h2 : y_kp k S = false → 60 ≤ (y_l S 5).length → K false D) (h3 : y_kp k S = false → ¬ 60 ≤ (y_l S 5).length → ∀ D', y_cls B tr (y_sl (y_sl S 5 (y_l S 5 ++ [k])) 6 (y_l S 6 ++ [v])) D' → K true D') : z_c n (d + 3) 3 [.ref 8, .int (z_i k), .int (z_i v)] D (z_qZ K T) := by
  have o11 := ho.2.2.2.2.2.2.2.2.2.2.1
  have o12 := ho.2.2.2.2.2.2.2.2.2.2.2.1
  have o13 := ho.2.2.2.2.2.2.2.2.2.2.2.2.1
  have hkr := y_ky_r hk ho.2.2.2.2.2.2.2.2.2.2.2.2.2.2.2.2.2.2.2.1.2
  unfold y_kp at h1 h2 h3
  refine r_gKeep (c_rLast zr9 hc.2.2.2.2.1 o11 ?_)
  rcases y_snoc (y_l S 4) with e | ⟨t, s, e⟩
  · rw [e] at h1 ⊢
    exact ⟨z_rk rfl, fun _ => h1 rfl, fun z => absurd rfl z⟩
  · have hs := ho.2.2.2.2.2.2.2.2.2.2.2.2.2.1 s (by rw [e]; simp)
    rw [e] at h1 h2 h3 ⊢
    simp only [List.getLast?_append, List.getLast?_singleton, Option.some_or, Option.getD_some] at h1 h2 h3 ⊢
    refine ⟨y_rs (by omega) (by omega), fun z => by omega, fun _ => c_rSize zr11 hc.2.2.2.2.2.1 (c_rHolds zr11 hc.2.2.2.2.2.1 o12 (y_rl_of (fun x hx => by have := y_ky_r (y_keys_rl ho x hx) ho.2.2.2.2.2.2.2.2.2.2.2.2.2.2.2.2.2.2.2.1.2; omega)) (y_rs (by omega) (by omega)) (by omega) (y_rs (by omega) (by omega)) (y_rs (by omega) (by omega)) (fun b hb => ?_))⟩
    have hb2 : b = true ↔ k ∈ (y_l S 5).drop s.toNat := by
      rw [hb, ← y_at_mem (by omega), show ((s.toNat : Nat) : Int) = s by omega]
    refine ⟨fun z => ?_, fun z => h1 (decide_eq_true (hb2.mp z))⟩
    have hf : decide (k ∈ (y_l S 5).drop s.toNat) = false := decide_eq_false (fun q => by rw [hb2.mpr q] at z; cases z)
    refine c_rAdd zr11 hc.2.2.2.2.2.1 o12 (fun q => ⟨fun z => (by cases z), fun _ => ?_⟩) (fun q => ⟨fun _ => h2 hf (by omega), fun z => (by cases z)⟩)
    have hc2 := cl_add5 hc k
    refine c_rAdd zr13 hc2.2.2.2.2.2.2.1 (by show (y_l S 6).length ≤ 60; omega) (fun q1 => ⟨fun z => (by cases z), fun _ => h3 hf (by omega) _ (cl_add6 hc2 v)⟩) (fun q1 => ?_)
    have q1' : (y_l S 6).length = 60 := q1
    omega
theorem c_change {k v : Int} {K : z_D → Prop} (hc : y_cls B 0 S D) (ho : y_ok st S) (hk : y_ky (y_nn S) k) (h : y_fin (y_chg k v S) (fun _ S' => ∀ D', y_cls B 0 S' D' → K D') (y_cT B.1 T)) : z_c n (d + 4) 69 [.ref 0, .int (z_i k), .int (z_i v)] D (z_qV K T) := by
  have hkr := y_ky_r hk ho.2.2.2.2.2.2.2.2.2.2.2.2.2.2.2.2.2.2.2.1.2
  unfold y_chg at h
  have go : ∀ w, w = y_old k S → w_tChange_30 n (d + 3) k v w D K T := by
    intro w ew
    subst ew
    refine c_gKeep hc ho hk (fun q => ⟨fun _ => ?_, fun z => (by cases z)⟩) (fun q c => ⟨fun z => (by cases z), fun _ => ?_⟩) (fun q c D' hc' => ⟨fun _ => ?_, fun z => (by cases z)⟩)
    · rw [if_pos q] at h
      exact c_set hc ho hk h
    · rw [if_neg (by rw [q]; exact Bool.false_ne_true), if_pos c] at h
      exact c_fault hc h
    · rw [if_neg (by rw [q]; exact Bool.false_ne_true), if_neg c] at h
      exact c_set hc' (y_ok_keep ho (by omega) hk (y_kv_old ho)) hk h
  refine r_tChange ⟨y_rs (by omega) (by omega), fun c => r_dCategoryOf ?_, fun c => c_nMeaningAt hc ho (by omega) ?_ (go _ ?_)⟩
  · have hk' : k < 128 := by rcases hk with hk | hk <;> omega
    unfold w_dCategoryOf_0
    rw [z_and127 (by omega) (by omega), show k % 128 = k by omega]
    refine ⟨by omega, go _ ?_⟩
    rw [hc.2.2.2.2.2.2.2.2.1 _ (by omega)]
    unfold y_old
    rw [if_neg (by omega)]
  · omega
  · unfold y_old
    rw [if_pos c]
/-- a value comes back -/
theorem y_und (ho : y_ok st S) (hl : 0 < (y_l S 5).length) (hs : ∀ s ∈ y_l S 4, s < (y_l S 5).length) : ∃ a k b v, y_l S 5 = a ++ [k] ∧ y_l S 6 = b ++ [v] ∧ y_ky (y_nn S) k ∧ (∀ j, y_undo (j + 1) S = y_undo j (y_set k v (y_sl (y_sl S 5 a) 6 b))) ∧ y_ok st (y_sl (y_sl S 5 a) 6 b) ∧ y_ok st (y_set k v (y_sl (y_sl S 5 a) 6 b)) := by
  have h13 := ho.2.2.2.2.2.2.2.2.2.2.2.2.1
  obtain ⟨a, k, ha⟩ : ∃ a k, y_l S 5 = a ++ [k] := by
    rcases y_snoc (y_l S 5) with q | ⟨l, a, q⟩
    · rw [q] at hl; simp at hl
    · exact ⟨l, a, q⟩
  obtain ⟨b, v, hb⟩ : ∃ a k, y_l S 6 = a ++ [k] := by
    rcases y_snoc (y_l S 6) with q | ⟨l, a, q⟩
    · rw [q, ha] at h13; simp at h13
    · exact ⟨l, a, q⟩
  have hab : a.length = b.length := by rw [ha, hb] at h13; simp at h13; omega
  have hkv := ho.2.2.2.2.2.2.2.2.2.2.2.2.2.2.2.1 a.length k v (by rw [ha]; simp) (by rw [hb, hab]; simp)
  have h1 := y_ok_drop ho hs
  have e5 : (y_l S 5).dropLast = a := by rw [ha]; simp
  have e6 : (y_l S 6).dropLast = b := by rw [hb]; simp
  rw [e5, e6] at h1
  refine ⟨a, k, b, v, ha, hb, hkv.1, fun j => ?_, h1, y_ok_set h1 hkv.1 hkv.2⟩
  show y_undo j (y_set ((y_l S 5).getLast?.getD 0) ((y_l S 6).getLast?.getD 0) (y_sl (y_sl S 5 (y_l S 5).dropLast) 6 (y_l S 6).dropLast)) = _
  rw [e5, e6, ha, hb]
  simp
theorem c_close {K : z_D → Prop} (hc : y_cls B 0 S D) (ho : y_ok st S) (h : y_fin (y_close S) (fun _ S' => ∀ D', y_cls B 0 S' D' → K D') (y_cT B.1 T)) : z_c n (d + 3) 67 [.ref 0] D (z_qV K T) := by
  have o11 := ho.2.2.2.2.2.2.2.2.2.2.1
  have o12 := ho.2.2.2.2.2.2.2.2.2.2.2.1
  refine r_tCloseGroup (fun m s a D' => ∃ S1, y_cls B 0 S1 D' ∧ y_ok st S1 ∧ 0 ≤ s ∧ s ≤ (y_l S1 5).length ∧ a = (y_l S1 5).length ∧ (∀ x ∈ y_l S1 4, x ≤ s) ∧ (∀ D', y_cls B 0 (y_undo ((y_l S1 5).length - s.toNat) S1) D' → K D') ∧ m = ((y_l S1 5).length - s).toNat) (c_rTakeLast zr9 hc.2.2.2.2.1 o11 (fun e => ⟨z_rk rfl, fun z => absurd rfl z, fun _ => ?_⟩) (fun t s e hr => ?_)) ?_
  · unfold y_close at h
    rw [e] at h
    exact c_fault hc h
  · have hs := ho.2.2.2.2.2.2.2.2.2.2.2.2.2.1 s (by rw [e]; simp)
    unfold y_close at h
    rw [e] at h
    simp only [List.getLast?_append, List.getLast?_singleton, Option.some_or, List.dropLast_concat] at h
    have o15 := ho.2.2.2.2.2.2.2.2.2.2.2.2.2.2.1
    rw [e] at o15
    have hp := List.pairwise_append.mp o15
    have ho2 : y_ok st (y_sl S 4 t) := y_ok_l4 ho (by rw [e] at o11; simp at o11; omega) (fun x hx => ho.2.2.2.2.2.2.2.2.2.2.2.2.2.1 x (by rw [e]; simp [hx])) hp.1
    have hc2 : y_cls B 0 (y_sl S 4 t) (z_uz D 9 1 (t.length : Int)) := by
      have := cl_cut4 hc (m := t.length) (by rw [e]; simp)
      rw [e, List.take_left'] at this
      · exact this
      · rfl
    refine ⟨y_rs (by omega) (by omega), fun _ => c_rSize zr11 hc2.2.2.2.2.2.1 ⟨_, y_sl S 4 t, hc2, ho2, hs.1, hs.2, rfl, fun x hx => hp.2.2 x hx s (by simp), h, rfl⟩, fun z => by omega⟩
  · rintro mm s a D' ⟨S1, hc1, ho1, hs0, hs1, rfl, hst, hK, rfl⟩
    have o12 := ho1.2.2.2.2.2.2.2.2.2.2.2.1
    refine ⟨y_rs (by omega) (by omega), y_rs (by omega) (by omega), fun c => hK D' ?_, fun c => ?_⟩
    · rw [show (y_l S1 5).length - s.toNat = 0 by omega]; exact hc1
    · obtain ⟨a, k, b, v, ea, eb, hk, hu, ho2, ho3⟩ := y_und ho1 (by omega) (fun x hx => by have := hst x hx; omega)
      have o13 := ho1.2.2.2.2.2.2.2.2.2.2.2.2.1
      refine c_rTakeLast zr11 hc1.2.2.2.2.2.1 o12 (fun e => by rw [e] at ea; simp at ea) (fun t x e hr => ?_)
      have e2 : t = a ∧ x = k := by
        rw [ea] at e
        have := List.append_inj' e rfl
        exact ⟨this.1.symm, by simpa using this.2.symm⟩
      obtain ⟨rfl, rfl⟩ := e2
      have hc2 : y_cls B 0 (y_sl S1 5 t) (z_uz D' 11 1 (t.length : Int)) := by
        have := cl_cut5 hc1 (m := t.length) (by rw [e]; simp)
        rw [e, List.take_left'] at this
        · exact this
        · rfl
      refine c_rTakeLast zr13 hc2.2.2.2.2.2.2.1 (by show (y_l S1 6).length ≤ 60; omega) (fun e => by
        have e' : y_l S1 6 = [] := e
        rw [e'] at eb; simp at eb) (fun u y e' hr' => ?_)
      have e' : y_l S1 6 = u ++ [y] := e'
      have e3 : u = b ∧ y = v := by
        rw [eb] at e'
        have := List.append_inj' e' rfl
        exact ⟨this.1.symm, by simpa using this.2.symm⟩
      obtain ⟨rfl, rfl⟩ := e3
      have hc3 : y_cls B 0 (y_sl (y_sl S1 5 t) 6 u) (z_uz (z_uz D' 11 1 (t.length : Int)) 13 1 (u.length : Int)) := by
        have := cl_cut6 hc2 (m := u.length) (by show u.length ≤ (y_l S1 6).length; rw [e']; simp)
        have e6 : y_l (y_sl S1 5 t) 6 = u ++ [y] := e'
        rw [e6, List.take_left'] at this
        · exact this
        · rfl
      have el : (y_l S1 5).length = t.length + 1 := by rw [ea]; simp
      have e5 : y_l (y_set x y (y_sl (y_sl S1 5 t) 6 u)) 5 = t := by rw [set_l]; rfl
      have e4 : y_l (y_set x y (y_sl (y_sl S1 5 t) 6 u)) 4 = y_l S1 4 := by rw [set_l]; rfl
      refine c_set hc3 ho2 hk (fun D7 hc7 => ⟨_, ?_, _, hc7, ho3, hs0, ?_, ?_, ?_, ?_, rfl⟩)
      · rw [e5]; omega
      · rw [e5]; omega
      · rw [e5]; omega
      · rw [e4]; exact hst
      · intro D8 hc8
        refine hK D8 ?_
        rw [e5] at hc8
        rw [show (y_l S1 5).length - s.toNat = (t.length - s.toNat) + 1 by omega, hu]
        exact hc8
theorem c_execChar {t : Int} {K : z_D → Prop} (hc : y_cls B 0 S D) (ho : y_ok st S) (ht : 18 < t ∧ t < 4096) (h : y_fin (if t / 256 = 1 then y_group S else if t / 256 = 2 then y_close S else y_send t S) (fun _ S' => ∀ D', y_cls B 0 S' D' → K D') (y_cT B.1 T)) : z_c n (d + 4) 65 [.ref 0, .int (z_i t)] D (z_qV K T) := by
  have o11 := ho.2.2.2.2.2.2.2.2.2.2.1
  refine r_tExecuteCharacter (c_tCategoryOf (y_rs (by omega) (by omega)) ⟨y_rs (by omega) (by omega), fun c => ⟨fun c1 => ?_, fun c1 => ?_⟩, fun c => ?_⟩)
  · rw [if_neg c, if_neg c1] at h
    exact c_send hc ho h
  · rw [if_neg c, if_pos c1] at h
    exact c_close hc ho h
  · rw [if_pos c] at h
    unfold y_group at h
    refine r_gOpen (c_rSize zr11 hc.2.2.2.2.2.1 (c_rAdd zr9 hc.2.2.2.2.1 o11 (fun q => ⟨fun _ => ?_, fun z => (by cases z)⟩) (fun q => ⟨fun z => (by cases z), fun _ => ?_⟩)))
    · rw [if_neg (by omega)] at h
      exact h _ (cl_add4 hc _)
    · rw [if_pos (by omega)] at h
      exact c_fault hc h
theorem c_name {K : Int → z_D → Prop} (hc : y_cls B 0 S D) (ho : y_ok st S) (h : y_fin (y_name S) (fun t S' => ∀ D', y_cls B 0 S' D' → K t D') (y_cT B.1 T)) : z_c n (d + 3) 70 [.ref 0] D (z_qI K T) := by
  refine r_tGetName (c_get hc ho (y_gk (yo_getT ho) h (fun t S1 ⟨k1, k2, k3, _⟩ h D1 hc1 => ?_)))
  have hr := y_tk_r k3 k1.2.2.2.2.2.2.2.2.2.2.2.2.2.2.2.2.2.2.2.1.2
  have hu := y_tp_r (y_un_tp k3 k1.2.2.2.2.2.2.2.2.2.2.2.2.2.2.2.2.2.2.2.1.2) k1.2.2.2.2.2.2.2.2.2.2.2.2.2.2.2.2.2.2.2.1.2
  refine c_tUnmarked (by omega) (by omega) ⟨y_rs (by omega) (by omega), fun c => ?_, fun c => ?_⟩
  · rw [if_neg (by omega)] at h
    exact h D1 hc1
  · rw [if_pos c] at h
    exact c_fault hc1 h
theorem c_let {K : z_D → Prop} (hc : y_cls B 0 S D) (ho : y_ok st S) (h : y_fin (y_letc S) (fun _ S' => ∀ D', y_cls B 0 S' D' → K D') (y_cT B.1 T)) : z_c n (d + 5) 71 [.ref 0] D (z_qV K T) := by
  refine r_tLet (c_name hc ho (y_gk (yo_name ho) h (fun nm S1 ⟨k1, k2, k3⟩ h D1 hc1 => c_get hc1 k1 (y_gk (yo_getT k1) h (fun t S2 ⟨a1, a2, a3, _⟩ h D2 hc2 => ?_)))))
  have hr := y_tk_r a3 a1.2.2.2.2.2.2.2.2.2.2.2.2.2.2.2.2.2.2.2.1.2
  refine ⟨y_rs (by omega) (by omega), fun c => ?_, fun c => ?_⟩
  · rw [if_neg c] at h
    exact c_mo hc2 a1 a3 (c_change hc2 a1 (y_nt_ky (y_nt_le k3 a2.1)) h)
  · rw [if_pos c] at h
    exact c_get hc2 a1 (y_gk (yo_getT a1) h (fun u S3 ⟨b1, b2, b3, _⟩ h D3 hc3 => c_mo hc3 b1 b3 (c_change hc3 b1 (y_nt_ky (y_nt_le k3 (Nat.le_trans a2.1 b2.1))) h)))
end CD
