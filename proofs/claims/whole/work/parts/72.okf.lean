/-! the model's functions keep the validity -/
theorem y_idx_some {q : List Int × Bool} : ∀ {l : List (List Int × Bool)} {k0 k : Nat}, y_idx q l k0 = some k → k0 ≤ k ∧ k < k0 + l.length ∧ l[k - k0]? = some q
  | [], _, _, h => by cases h
  | x :: t, k0, k, h => by
    unfold y_idx at h
    split at h
    · next e =>
      cases h
      refine ⟨Nat.le_refl _, by simp, ?_⟩
      rw [Nat.sub_self]
      simp [e]
    · next e =>
      obtain ⟨h1, h2, h3⟩ := y_idx_some h
      refine ⟨by omega, by simp; omega, ?_⟩
      rw [show k - k0 = (k - (k0 + 1)) + 1 by omega]
      exact h3
section OKF
variable {S : y_S} {st : Int}
theorem yo_ft {α : Type} {P : α → y_S → Prop} (h : y_ok st S) {k : Int} (h0 : 0 ≤ k) (h1 : k ≤ 8) : y_fin (y_ft S k) P (y_ok st) := y_ok_s3 h h0 h1
/-- a name's token -/
def y_nt (n : Nat) (t : Int) : Prop := 4096 ≤ t ∧ t < 4096 + n
theorem yo_find (h : y_ok st S) {ls : List Int} {b : Bool} (hq : y_no (ls, b)) : y_fin (y_find ls b S) (fun t S' => y_ok st S' ∧ y_lg S S' ∧ y_l S' = y_l S ∧ y_s S' = y_s S ∧ y_nt (y_nn S') t) (y_ok st) := by
  unfold y_find
  split
  · next k e =>
    have := y_idx_some e
    refine ⟨h, y_lg_rf S, rfl, rfl, ?_⟩
    show 4096 ≤ 4096 + (k : Int) ∧ 4096 + (k : Int) < 4096 + ((y_nm S).length : Int)
    omega
  · split
    · exact yo_ft h (by decide) (by decide)
    · next c =>
      refine ⟨y_ok_nm h (Nat.lt_of_not_le c) hq, ⟨?_, rfl, rfl, rfl, rfl, rfl, rfl, rfl, rfl, rfl⟩, rfl, rfl, ?_⟩
      · show _ ≤ (y_nm S ++ [(ls, b)]).length
        simp
      · show y_nt (y_nm S ++ [(ls, b)]).length _
        unfold y_nt
        simp
        omega
theorem y_txt_code (h : y_ok st S) (hp : y_s S 0 < (y_l S 0).length) : y_code (y_txt S (y_s S 0)) = true := by
  have h0 := h.2.2.1.1
  unfold y_txt
  have hl : (y_s S 0).toNat < (y_l S 0).length := by omega
  rw [List.getElem?_eq_getElem hl]
  exact h.2.1 _ (List.getElem_mem hl)
/-- the place goes on -/
theorem yo_on (h : y_ok st S) (hp : y_s S 0 < (y_l S 0).length) : y_ok st (y_ss S 0 (y_s S 0 + 1)) := y_ok_s0 h (by have := h.2.2.1.1; omega) (by omega)
theorem lg_s0 (S : y_S) (v : Int) : y_lg S (y_ss S 0 v) := ⟨Nat.le_refl _, rfl, rfl, rfl, rfl, rfl, rfl, rfl, rfl, rfl⟩
theorem lg_s1 (S : y_S) (v : Int) : y_lg S (y_ss S 1 v) := ⟨Nat.le_refl _, rfl, rfl, rfl, rfl, rfl, rfl, rfl, rfl, rfl⟩
theorem lg_l1 (S : y_S) (v : List Int) : y_lg S (y_sl S 1 v) := ⟨Nat.le_refl _, rfl, rfl, rfl, rfl, rfl, rfl, rfl, rfl, rfl⟩
theorem yo_let : ∀ (f : Nat) (ls : List Int) (S : y_S), y_ok st S → y_no (ls, false) → y_fin (y_let f ls S) (fun t S' => y_ok st S' ∧ y_lg S S' ∧ y_l S' 1 = y_l S 1 ∧ y_s S 0 ≤ y_s S' 0 ∧ y_nt (y_nn S') t) (y_ok st)
  | 0, ls, S, h, hq => y_om (yo_find h hq) (fun t S' ⟨k1, k2, k3, k4, k5⟩ => ⟨k1, k2, by rw [k3], by rw [k4]; exact Int.le_refl _, k5⟩)
  | f + 1, ls, S, h, hq => by
    have hf : y_fin (y_find ls false S) (fun t S' => y_ok st S' ∧ y_lg S S' ∧ y_l S' 1 = y_l S 1 ∧ y_s S 0 ≤ y_s S' 0 ∧ y_nt (y_nn S') t) (y_ok st) := y_om (yo_find h hq) (fun t S' ⟨k1, k2, k3, k4, k5⟩ => ⟨k1, k2, by rw [k3], by rw [k4]; exact Int.le_refl _, k5⟩)
    unfold y_let
    split
    · next c =>
      split
      · split
        · exact yo_ft (yo_on h c) (by decide) (by decide)
        · next c2 =>
          refine y_om (yo_let f _ _ (yo_on h c) ⟨by simp, by have := hq.2.1; simp at this ⊢; omega, ?_, fun q => (by cases q)⟩) (fun t S' ⟨k1, k2, k3, k4, k5⟩ => ⟨k1, y_lg_t (lg_s0 S _) k2, k3, ?_, k5⟩)
          · intro x hx
            rcases List.mem_append.mp hx with hx | hx
            · exact hq.2.2.1 x hx
            · rw [List.mem_singleton.mp hx]; exact y_txt_code h c
          · have : y_s S 0 + 1 ≤ y_s S' 0 := k4
            omega
      · exact hf
    · exact hf
theorem y_no1 {c : Int} {b : Bool} (h : y_code c = true) : y_no ([c], b) := ⟨by simp, by simp, fun x hx => by rw [List.mem_singleton.mp hx]; exact h, fun _ => rfl⟩
theorem yo_rdn (h : y_ok st S) : y_fin (y_rdn S) (fun t S' => y_ok st S' ∧ y_lg S S' ∧ y_l S' 1 = y_l S 1 ∧ y_s S 0 ≤ y_s S' 0 ∧ y_nt (y_nn S') t) (y_ok st) := by
  unfold y_rdn
  split
  · next c =>
    dsimp only
    have hc := y_txt_code h c
    have h1 : y_ok st (y_ss (y_ss S 0 (y_s S 0 + 1)) 1 (if y_ct S (y_txt S (y_s S 0)) = 11 ∨ y_ct S (y_txt S (y_s S 0)) = 10 then 2 else 1)) := y_ok_s1 (yo_on h c) (by split <;> decide) (by split <;> decide)
    have hl : y_lg S (y_ss (y_ss S 0 (y_s S 0 + 1)) 1 (if y_ct S (y_txt S (y_s S 0)) = 11 ∨ y_ct S (y_txt S (y_s S 0)) = 10 then 2 else 1)) := y_lg_t (lg_s0 S _) (lg_s1 _ _)
    split
    · refine y_om (yo_let 160 _ _ h1 (y_no1 hc)) (fun t S' ⟨k1, k2, k3, k4, k5⟩ => ⟨k1, y_lg_t hl k2, k3, ?_, k5⟩)
      have : y_s S 0 + 1 ≤ y_s S' 0 := k4
      omega
    · refine y_om (yo_find h1 (y_no1 hc)) (fun t S' ⟨k1, k2, k3, k4, k5⟩ => ⟨k1, y_lg_t hl k2, by rw [k3]; rfl, ?_, k5⟩)
      rw [k4]
      show y_s S 0 ≤ y_s S 0 + 1
      omega
  · exact yo_ft h (by decide) (by decide)
theorem yo_line : ∀ (f : Nat) (c : Int) (S : y_S), y_ok st S → y_ok st (y_line f c S) ∧ y_lg S (y_line f c S) ∧ y_l (y_line f c S) 1 = y_l S 1 ∧ y_s S 0 ≤ y_s (y_line f c S) 0
  | 0, c, S, h => ⟨h, y_lg_rf S, rfl, Int.le_refl _⟩
  | f + 1, c, S, h => by
    unfold y_line
    split
    · exact ⟨h, y_lg_rf S, rfl, Int.le_refl _⟩
    · split
      · next c1 =>
        obtain ⟨k1, k2, k3, k4⟩ := yo_line f (y_txt S (y_s S 0)) _ (yo_on h c1)
        refine ⟨k1, y_lg_t (lg_s0 S _) k2, k3, ?_⟩
        have : y_s S 0 + 1 ≤ y_s (y_line f (y_txt S (y_s S 0)) (y_ss S 0 (y_s S 0 + 1))) 0 := k4
        omega
      · exact ⟨h, y_lg_rf S, rfl, Int.le_refl _⟩
theorem y_nt_tk {n : Nat} {t : Int} (h : y_nt n t) : y_tk n t := Or.inr (Or.inl h)
theorem y_bl (n : Nat) : y_tk n 2592 := Or.inl ⟨by decide, by decide, by decide⟩
theorem y_blp (n : Nat) : y_tp n 2592 := Or.inl ⟨by decide, by decide, by decide⟩
theorem yo_read : ∀ (f : Nat) (S : y_S), y_ok st S → y_fin (y_read f S) (fun t S' => y_ok st S' ∧ y_lg S S' ∧ y_l S' 1 = y_l S 1 ∧ y_s S 0 ≤ y_s S' 0 ∧ (t = -1 ∨ (y_tp (y_nn S') t ∧ y_s S 0 < y_s S' 0))) (y_ok st)
  | 0, S, h => ⟨h, y_lg_rf S, rfl, Int.le_refl _, Or.inl rfl⟩
  | f + 1, S, h => by
    unfold y_read
    split
    · next c =>
      dsimp only
      have hc := y_txt_code h c
      have h1 := yo_on h c
      have hl := lg_s0 S (y_s S 0 + 1)
      have hk := h.2.2.2.2.2.2.2.2.2.2.2.2.2.2.2.2.1 (y_txt S (y_s S 0)).toNat
      have rec1 : ∀ S1 : y_S, y_ok st S1 → y_lg S S1 → y_l S1 1 = y_l S 1 → y_s S 0 + 1 ≤ y_s S1 0 → y_fin (y_read f S1) (fun t S' => y_ok st S' ∧ y_lg S S' ∧ y_l S' 1 = y_l S 1 ∧ y_s S 0 ≤ y_s S' 0 ∧ (t = -1 ∨ (y_tp (y_nn S') t ∧ y_s S 0 < y_s S' 0))) (y_ok st) := fun S1 a b e g =>
        y_om (yo_read f S1 a) (fun t S' ⟨k1, k2, k3, k4, k5⟩ => ⟨k1, y_lg_t b k2, k3.trans e, by omega, k5.imp id (fun z => ⟨z.1, by omega⟩)⟩)
      split
      · refine y_om (yo_rdn h1) (fun t S' ⟨k1, k2, k3, k4, k5⟩ => ⟨k1, y_lg_t hl k2, k3, ?_, Or.inr ⟨Or.inr k5, ?_⟩⟩)
        · have : y_s S 0 + 1 ≤ y_s S' 0 := k4
          omega
        · have : y_s S 0 + 1 ≤ y_s S' 0 := k4
          omega
      · next c0 =>
        split
        · obtain ⟨k1, k2, k3, k4⟩ := yo_line 160 (y_txt S (y_s S 0)) _ h1
          have k4' : y_s S 0 + 1 ≤ y_s (y_line 160 (y_txt S (y_s S 0)) (y_ss S 0 (y_s S 0 + 1))) 0 := k4
          have k5 := y_ok_s1 k1 (v := 0) (by decide) (by decide)
          have k6 : y_lg S (y_ss (y_line 160 (y_txt S (y_s S 0)) (y_ss S 0 (y_s S 0 + 1))) 1 0) := y_lg_t (y_lg_t hl k2) (lg_s1 _ _)
          split
          · refine ⟨k5, k6, k3, ?_, Or.inr ⟨?_, ?_⟩⟩
            · show y_s S 0 ≤ y_s (y_line 160 (y_txt S (y_s S 0)) (y_ss S 0 (y_s S 0 + 1))) 0
              omega
            · show y_tp (y_nn (y_line 160 (y_txt S (y_s S 0)) (y_ss S 0 (y_s S 0 + 1)))) (if y_s S 1 = 0 then 4096 else 2592)
              have := k1.2.2.2.2.2.2.2.2.2.2.2.2.2.2.2.2.2.2.2.1
              split
              · exact Or.inr ⟨by decide, by omega⟩
              · exact y_blp _
            · show y_s S 0 < y_s (y_line 160 (y_txt S (y_s S 0)) (y_ss S 0 (y_s S 0 + 1))) 0
              omega
          · exact rec1 _ k5 k6 k3 k4'
        · next c1 =>
          split
          · exact rec1 _ h1 hl rfl (Int.le_refl _)
          · next c2 =>
            split
            · split
              · refine ⟨y_ok_s1 h1 (by decide) (by decide), y_lg_t hl (lg_s1 _ _), rfl, ?_, Or.inr ⟨y_blp _, ?_⟩⟩
                · show y_s S 0 ≤ y_s S 0 + 1
                  omega
                · show y_s S 0 < y_s S 0 + 1
                  omega
              · exact rec1 _ h1 hl rfl (Int.le_refl _)
            · next c3 =>
              split
              · refine y_om (yo_find (y_ok_s1 h1 (v := 1) (by decide) (by decide)) (y_no1 hc)) (fun t S' ⟨k1, k2, k3, k4, k5⟩ => ⟨k1, y_lg_t (y_lg_t hl (lg_s1 _ _)) k2, by rw [k3]; rfl, ?_, Or.inr ⟨Or.inr k5, ?_⟩⟩)
                · rw [k4]
                  show y_s S 0 ≤ y_s S 0 + 1
                  omega
                · rw [k4]
                  show y_s S 0 < y_s S 0 + 1
                  omega
              · next c4 =>
                split
                · exact yo_ft h1 (by decide) (by decide)
                · next c5 =>
                  refine ⟨y_ok_s1 h1 (by decide) (by decide), y_lg_t hl (lg_s1 _ _), rfl, ?_, Or.inr ⟨Or.inl ?_, ?_⟩⟩
                  · show y_s S 0 ≤ y_s S 0 + 1
                    omega
                  · have hr := y_code_r hc
                    have hk0 : 0 ≤ y_ct S (y_txt S (y_s S 0)) ∧ y_ct S (y_txt S (y_s S 0)) ≤ 15 := hk
                    refine ⟨by omega, by omega, ?_⟩
                    rw [show (y_txt S (y_s S 0) + 256 * y_ct S (y_txt S (y_s S 0))) % 256 = y_txt S (y_s S 0) by omega]
                    exact hc
                  · show y_s S 0 < y_s S 0 + 1
                    omega
    · exact ⟨h, y_lg_rf S, rfl, Int.le_refl _, Or.inl rfl⟩
/-- how many tokens may be got -/
def y_mu (S : y_S) : Int := ((y_l S 1).length : Int) + ((y_l S 0).length - y_s S 0)
theorem yo_get (h : y_ok st S) {b : Bool} : y_fin (y_get b S) (fun t S' => y_ok st S' ∧ y_lg S S' ∧ ((t = -1 ∧ b = false) ∨ (y_tk (y_nn S') t ∧ y_mu S' < y_mu S))) (y_ok st) := by
  unfold y_get
  split
  · next t e =>
    obtain ⟨l, hl⟩ : ∃ l, y_l S 1 = l ++ [t] := by
      rcases y_snoc (y_l S 1) with q | ⟨l, a, q⟩
      · rw [q] at e; cases e
      · rw [q] at e; simp at e; subst e; exact ⟨l, q⟩
    have h5 := h.2.2.2.2.1
    have h6 := h.2.2.2.2.2.1
    refine ⟨y_ok_l1 h (by rw [List.length_dropLast]; omega) (fun x hx => h6 x (List.dropLast_subset _ hx)), lg_l1 S _, Or.inr ⟨h6 t (by rw [hl]; simp), ?_⟩⟩
    show ((y_l S 1).dropLast.length : Int) + ((y_l S 0).length - y_s S 0) < y_mu S
    unfold y_mu
    rw [hl]
    simp
    omega
  · refine y_ob (yo_read 161 S h) (fun t S1 ⟨k1, k2, k3, k4, k5⟩ => ?_)
    split
    · exact yo_ft k1 (by decide) (by decide)
    · next c =>
      refine ⟨k1, k2, ?_⟩
      rcases k5 with k5 | k5
      · refine Or.inl ⟨k5, ?_⟩
        cases b with
        | false => rfl
        | true => exact absurd ⟨k5, rfl⟩ c
      · refine Or.inr ⟨k5.1.imp id Or.inl, ?_⟩
        show y_mu S1 < y_mu S
        unfold y_mu
        rw [k3, k2.2.2.2.2.2.2.2.2.1]
        omega
theorem yo_getT (h : y_ok st S) : y_fin (y_get true S) (fun t S' => y_ok st S' ∧ y_lg S S' ∧ y_tk (y_nn S') t ∧ y_mu S' < y_mu S) (y_ok st) := y_om (yo_get h) (fun t S' ⟨k1, k2, k3⟩ => ⟨k1, k2, by
  rcases k3 with k3 | k3
  · cases k3.2
  · exact k3⟩)
theorem yo_put (h : y_ok st S) {t : Int} (ht : y_tk (y_nn S) t) : y_fin (y_put t S) (fun _ S' => y_ok st S' ∧ y_lg S S') (y_ok st) := by
  unfold y_put
  split
  · exact yo_ft h (by decide) (by decide)
  · next c =>
    refine ⟨y_ok_l1 h (by simp; omega) (fun x hx => ?_), lg_l1 S _⟩
    rcases List.mem_append.mp hx with hx | hx
    · exact h.2.2.2.2.2.1 x hx
    · rw [List.mem_singleton.mp hx]; exact ht
theorem y_mo_ok (h : y_ok st S) {t : Int} (ht : y_tk (y_nn S) t) : y_mn (y_mm S) (y_mo S t) := by
  unfold y_mo
  split
  · rcases ht with ht | ht | ht
    · exact Or.inr (Or.inl ht)
    · omega
    · omega
  · split
    · exact Or.inl (by decide)
    · exact h.2.2.2.2.2.2.2.2.2.2.2.2.2.2.2.2.2.1 _
theorem lg_set (S : y_S) (k v : Int) : y_lg S (y_set k v S) := by
  unfold y_set
  split <;> exact ⟨Nat.le_refl _, rfl, rfl, rfl, rfl, rfl, rfl, rfl, rfl, rfl⟩
theorem set_l (S : y_S) (k v : Int) : y_l (y_set k v S) = y_l S := by
  unfold y_set
  split <;> rfl
theorem set_mm (S : y_S) (k v : Int) : y_mac (y_set k v S) = y_mac S := by
  unfold y_set
  split <;> rfl
theorem set_nm (S : y_S) (k v : Int) : y_nm (y_set k v S) = y_nm S := by
  unfold y_set
  split <;> rfl
theorem yo_chg (h : y_ok st S) {k v : Int} (hk : y_ky (y_nn S) k) (hv : y_kv (y_mm S) k v) : y_fin (y_chg k v S) (fun _ S' => y_ok st S' ∧ y_lg S S') (y_ok st) := by
  unfold y_chg
  split
  · exact ⟨y_ok_set h hk hv, lg_set S k v⟩
  · split
    · exact yo_ft h (by decide) (by decide)
    · next c => exact ⟨y_ok_set (y_ok_keep h (by omega) hk (y_kv_old h)) hk hv, y_lg_t (B := y_sl (y_sl S 5 (y_l S 5 ++ [k])) 6 (y_l S 6 ++ [y_old k S])) ⟨Nat.le_refl _, rfl, rfl, rfl, rfl, rfl, rfl, rfl, rfl, rfl⟩ (lg_set _ k v)⟩
theorem yo_undo : ∀ (j : Nat) (S : y_S), y_ok st S → j ≤ (y_l S 5).length → (∀ s ∈ y_l S 4, s ≤ ((y_l S 5).length - j : Nat)) → y_ok st (y_undo j S) ∧ y_lg S (y_undo j S)
  | 0, S, h, _, _ => ⟨h, y_lg_rf S⟩
  | j + 1, S, h, hj, hs => by
    have h13 := h.2.2.2.2.2.2.2.2.2.2.2.2.1
    obtain ⟨a, k, ha⟩ : ∃ a k, y_l S 5 = a ++ [k] := by
      rcases y_snoc (y_l S 5) with q | ⟨l, a, q⟩
      · rw [q] at hj; simp at hj
      · exact ⟨l, a, q⟩
    obtain ⟨b, v, hb⟩ : ∃ a k, y_l S 6 = a ++ [k] := by
      rcases y_snoc (y_l S 6) with q | ⟨l, a, q⟩
      · rw [q, ha] at h13; simp at h13
      · exact ⟨l, a, q⟩
    have hab : a.length = b.length := by rw [ha, hb] at h13; simp at h13; omega
    have hkv := h.2.2.2.2.2.2.2.2.2.2.2.2.2.2.2.1 a.length k v (by rw [ha]; simp) (by rw [hb, hab]; simp)
    have e1 : (y_l S 5).getLast?.getD 0 = k := by rw [ha]; simp
    have e2 : (y_l S 6).getLast?.getD 0 = v := by rw [hb]; simp
    unfold y_undo
    rw [e1, e2]
    have h1 := y_ok_drop h (fun s q => by have := hs s q; omega)
    have h2 := y_ok_set h1 hkv.1 hkv.2
    have el : y_l (y_set k v (y_sl (y_sl S 5 (y_l S 5).dropLast) 6 (y_l S 6).dropLast)) 5 = (y_l S 5).dropLast := by rw [set_l]; rfl
    have e4 : y_l (y_set k v (y_sl (y_sl S 5 (y_l S 5).dropLast) 6 (y_l S 6).dropLast)) 4 = y_l S 4 := by rw [set_l]; rfl
    obtain ⟨k1, k2⟩ := yo_undo j _ h2 (by rw [el, List.length_dropLast]; omega) (fun s q => by
      rw [e4] at q
      have := hs s q
      rw [el, List.length_dropLast]
      omega)
    refine ⟨k1, y_lg_t (y_lg_t (B := y_sl (y_sl S 5 (y_l S 5).dropLast) 6 (y_l S 6).dropLast) ⟨Nat.le_refl _, rfl, rfl, rfl, rfl, rfl, rfl, rfl, rfl, rfl⟩ (lg_set _ k v)) k2⟩
theorem yo_close (h : y_ok st S) : y_fin (y_close S) (fun _ S' => y_ok st S' ∧ y_lg S S') (y_ok st) := by
  unfold y_close
  split
  · exact yo_ft h (by decide) (by decide)
  · next s e =>
    obtain ⟨l, hl⟩ : ∃ l, y_l S 4 = l ++ [s] := by
      rcases y_snoc (y_l S 4) with q | ⟨l, a, q⟩
      · rw [q] at e; cases e
      · rw [q] at e; simp at e; subst e; exact ⟨l, q⟩
    have h15 := h.2.2.2.2.2.2.2.2.2.2.2.2.2.2.1
    rw [hl] at h15
    have hp := List.pairwise_append.mp h15
    have hs := h.2.2.2.2.2.2.2.2.2.2.2.2.2.1 s (by rw [hl]; simp)
    have ed : (y_l S 4).dropLast = l := by rw [hl]; simp
    rw [ed]
    have h1 : y_ok st (y_sl S 4 l) := y_ok_l4 h (by have := h.2.2.2.2.2.2.2.2.2.2.1; rw [hl] at this; simp at this; omega) (fun x hx => h.2.2.2.2.2.2.2.2.2.2.2.2.2.1 x (by rw [hl]; simp [hx])) hp.1
    obtain ⟨k1, k2⟩ := yo_undo ((y_l S 5).length - s.toNat) _ h1 (Nat.sub_le _ _) (fun x hx => by
      have h9 : x ≤ s := hp.2.2 x hx s (by simp)
      show x ≤ (((y_l S 5).length - ((y_l S 5).length - s.toNat) : Nat) : Int)
      omega)
    exact ⟨k1, y_lg_t (B := y_sl S 4 l) ⟨Nat.le_refl _, rfl, rfl, rfl, rfl, rfl, rfl, rfl, rfl, rfl⟩ k2⟩
theorem yo_group (h : y_ok st S) : y_fin (y_group S) (fun _ S' => y_ok st S' ∧ y_lg S S') (y_ok st) := by
  unfold y_group
  split
  · exact yo_ft h (by decide) (by decide)
  · next c =>
    refine ⟨y_ok_l4 h (by simp; omega) (fun x hx => ?_) (List.pairwise_append.mpr ⟨h.2.2.2.2.2.2.2.2.2.2.2.2.2.2.1, List.pairwise_singleton _ _, fun a ha b hb => ?_⟩), ⟨Nat.le_refl _, rfl, rfl, rfl, rfl, rfl, rfl, rfl, rfl, rfl⟩⟩
    · rcases List.mem_append.mp hx with hx | hx
      · exact h.2.2.2.2.2.2.2.2.2.2.2.2.2.1 x hx
      · rw [List.mem_singleton.mp hx]; omega
    · rw [List.mem_singleton.mp hb]; exact (h.2.2.2.2.2.2.2.2.2.2.2.2.2.1 a ha).2
theorem yo_send (h : y_ok st S) {t : Int} (h0 : 0 ≤ t) (h1 : t ≤ 4096) : y_fin (y_send t S) (fun _ S' => y_ok st S' ∧ y_lg S S') (y_ok st) := by
  unfold y_send
  split
  · exact yo_ft h (by decide) (by decide)
  · next c =>
    refine ⟨y_ok_l2 h (by simp; omega) (fun x hx => ?_), ⟨Nat.le_refl _, rfl, rfl, rfl, rfl, rfl, rfl, rfl, rfl, rfl⟩⟩
    rcases List.mem_append.mp hx with hx | hx
    · exact h.2.2.2.2.2.2.2.1 x hx
    · rw [List.mem_singleton.mp hx]; exact ⟨h0, h1⟩
end OKF
