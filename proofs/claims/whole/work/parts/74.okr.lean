/-! validity: conditionals, calls of macros, steps -/
theorem y_pre_drop {C L : List Int} (h : (C ++ [0]) <+: L) (hl : L.getLast? ≠ some 0) : (C ++ [0]) <+: L.dropLast := by
  obtain ⟨X, rfl⟩ := h
  rcases y_snoc X with rfl | ⟨Y, a, rfl⟩
  · simp at hl
  · refine ⟨Y, ?_⟩
    rw [← List.append_assoc (C ++ [0]) Y [a], List.dropLast_concat]
theorem y_pre_dl {C L : List Int} (h : C <+: L.dropLast) : C <+: L := h.trans (List.dropLast_prefix L)
theorem y_pre_set {C L : List Int} {v : Int} (h : C <+: L.dropLast) : C <+: L.set (L.length - 1) v := by
  rcases y_snoc L with rfl | ⟨Y, a, rfl⟩
  · exact h
  · rw [List.dropLast_concat] at h
    refine h.trans ⟨[v], ?_⟩
    simp
theorem y_take_pre {L X : List Int} {a : Int} (h : (L ++ [a]) <+: X) : X.take (L.length + 1) = L ++ [a] := by
  obtain ⟨Y, rfl⟩ := h
  have : L.length + 1 = (L ++ [a]).length := by simp
  rw [this, List.take_left']
  rfl
theorem y_set_last (L : List Int) (a b : Int) : (L ++ [a]).set L.length b = L ++ [b] := by simp
section OKR
variable {S : y_S} {st : Int}
/-- what a pass keeps -/
def y_lp (S S' : y_S) : Prop := y_lg (y_sl S 3 (y_l S' 3)) S' ∧ ∀ C, C <+: (y_l S 3).dropLast → C <+: y_l S' 3
theorem yo_pass {b : Bool} : ∀ (f : Nat) (dp : Int) (S : y_S), y_ok st S → y_fin (y_pass b f dp S) (fun _ S' => y_ok st S' ∧ y_lp S S') (y_ok st)
  | 0, dp, S, h => ⟨h, ⟨Nat.le_refl _, rfl, rfl, rfl, rfl, rfl, rfl, rfl, rfl, rfl⟩, fun _ hc => y_pre_dl hc⟩
  | f + 1, dp, S, h => by
    unfold y_pass
    refine y_ob (yo_getT h) (fun t S1 ⟨k1, k2, k3, _⟩ => ?_)
    obtain ⟨a1, a2, a3, a4, a5, a6, a7, a8, a9, a0⟩ := k2
    dsimp only
    generalize (if 13 ≤ y_mo S1 t ∧ y_mo S1 t ≤ 16 then dp + 1 else if y_mo S1 t = 18 then dp - 1 else dp) = dq
    split
    · refine ⟨y_ok_l3 k1 (by rw [List.length_dropLast]; have := k1.2.2.2.2.2.2.2.2.1; omega) (fun x hx => k1.2.2.2.2.2.2.2.2.2.1 x (List.dropLast_subset _ hx)), ⟨a1, a2, a3, a4, a5, a6, a7, a8, a9, rfl⟩, fun C hc => ?_⟩
      show C <+: (y_l S1 3).dropLast
      rw [a0]; exact hc
    · split
      · refine ⟨y_ok_l3 k1 (by rw [List.length_set]; exact k1.2.2.2.2.2.2.2.2.1) (fun x hx => ?_), ⟨a1, a2, a3, a4, a5, a6, a7, a8, a9, rfl⟩, fun C hc => ?_⟩
        · rcases List.mem_or_eq_of_mem_set hx with hx | hx
          · exact k1.2.2.2.2.2.2.2.2.2.1 x hx
          · rw [hx]; decide
        · show C <+: (y_l S1 3).set ((y_l S1 3).length - 1) 2
          rw [a0]; exact y_pre_set hc
      · refine y_om (yo_pass f _ S1 k1) (fun _ S2 ⟨b1, b2, b3⟩ => ⟨b1, ?_, fun C hc => b3 C (by rw [a0]; exact hc)⟩)
        obtain ⟨c1, c2, c3, c4, c5, c6, c7, c8, c9, c0⟩ := b2
        exact ⟨Nat.le_trans a1 c1, c2.trans a2, c3.trans a3, c4.trans a4, c5.trans a5, c6.trans a6, c7.trans a7, c8.trans a8, c9.trans a9, rfl⟩
theorem y_lp_le {A B : y_S} (h : y_lp A B) (hp : ∀ C, (C ++ [0]) <+: y_l A 3 → (C ++ [0]) <+: (y_l A 3).dropLast) : y_le A B := by
  obtain ⟨⟨h1, h2, h3, h4, h5, h6, h7, h8, h9, h0⟩, hq⟩ := h
  exact ⟨h1, h2, congrFun h3 4, congrFun h3 5, h4, h5, h6, Int.le_of_eq h7.symm, h8, h9, fun C hc => hq _ (hp C hc)⟩
theorem le_l3 {S : y_S} {L : List Int} (hp : ∀ C, (C ++ [0]) <+: y_l S 3 → (C ++ [0]) <+: L) : y_le S (y_sl S 3 L) := ⟨Nat.le_refl _, rfl, rfl, rfl, rfl, rfl, rfl, Int.le_refl _, rfl, rfl, hp⟩
theorem y_all_snoc {P : Int → Prop} {l : List Int} {a : Int} (h : ∀ x ∈ l, P x) (ha : P a) : ∀ x ∈ l ++ [a], P x := by
  intro x hx
  rcases List.mem_append.mp hx with hx | hx
  · exact h x hx
  · rw [List.mem_singleton.mp hx]; exact ha
theorem yo_cond {ex : Int → y_S → y_Re Unit} (hx : y_hx st ex) (h : y_ok st S) {m : Int} : y_fin (y_cond ex m S) (fun _ S' => y_ok st S' ∧ y_le S S') (y_ok st) := by
  unfold y_cond
  split
  · exact yo_ft h (by decide) (by decide)
  · next c =>
    dsimp only
    have h0 : y_ok st (y_sl S 3 (y_l S 3 ++ [0])) := y_ok_l3 h (by simp; omega) (y_all_snoc h.2.2.2.2.2.2.2.2.2.1 (by decide))
    refine y_ob (P := fun _ S3 => y_ok st S3 ∧ y_le (y_sl S 3 (y_l S 3 ++ [0])) S3) ?_ ?_
    · split
      · exact y_ob (yo_getx hx 201 _ h0) (fun a S1 ⟨k1, k2, _⟩ => y_ob (yo_getx hx 201 _ k1) (fun b S2 ⟨a1, a2, _⟩ => ⟨a1, y_le_t k2 a2⟩))
      · split
        · exact y_ob (yo_getT h0) (fun a S1 ⟨k1, k2, _⟩ => y_ob (yo_getT k1) (fun b S2 ⟨a1, a2, _⟩ => ⟨a1, y_lg_le (y_lg_t k2 a2)⟩))
        · exact ⟨h0, y_le_rf _⟩
    · rintro hb S3 ⟨k1, k2⟩
      obtain ⟨a1, a2, a3, a4, a5, a6, a7, a8, a9, a0, ax⟩ := k2
      have hp : (y_l S 3 ++ [0]) <+: y_l S3 3 := ax (y_l S 3) (List.prefix_refl _)
      have ht := y_take_pre hp
      rw [ht]
      have h4 : y_ok st (y_sl S3 3 (y_l S 3 ++ [0])) := y_ok_l3 k1 (by simp; omega) (y_all_snoc h.2.2.2.2.2.2.2.2.2.1 (by decide))
      split
      · refine ⟨?_, a1, a2, a3, a4, a5, a6, a7, a8, a9, a0, fun C hc => ?_⟩
        · show y_ok st (y_sl (y_sl S3 3 (y_l S 3 ++ [0])) 3 ((y_l S 3 ++ [0]).set (y_l S 3).length 1))
          rw [y_set_last]
          exact y_ok_l3 h4 (by simp; omega) (y_all_snoc h.2.2.2.2.2.2.2.2.2.1 (by decide))
        · show (C ++ [0]) <+: (y_l S 3 ++ [0]).set (y_l S 3).length 1
          rw [y_set_last]
          exact hc.trans (List.prefix_append _ _)
      · refine y_om (yo_pass 1000 0 _ h4) (fun _ S5 ⟨b1, b2, b3⟩ => ⟨b1, ?_⟩)
        obtain ⟨c1, c2, c3, c4, c5, c6, c7, c8, c9, c0⟩ := b2
        refine ⟨Nat.le_trans a1 c1, c2.trans a2, (congrFun c3 4).trans a3, (congrFun c3 5).trans a4, c4.trans a5, c5.trans a6, c6.trans a7, Int.le_trans a8 (Int.le_of_eq c7.symm), c8.trans a9, c9.trans a0, fun C hc => b3 _ ?_⟩
        show (C ++ [0]) <+: (y_l S 3 ++ [0]).dropLast
        rw [List.dropLast_concat]; exact hc
-- a macro's call
theorem yo_match : ∀ (l : List Int) (S : y_S), y_ok st S → y_fin (y_match l S) (fun _ S' => y_ok st S' ∧ y_lg S S') (y_ok st)
  | [], S, h => ⟨h, y_lg_rf S⟩
  | x :: r, S, h => by
    refine y_ob (yo_getT h) (fun t S1 ⟨k1, k2, k3, _⟩ => ?_)
    split
    · exact y_om (yo_match r S1 k1) (fun _ S2 ⟨a1, a2⟩ => ⟨a1, y_lg_t k2 a2⟩)
    · exact yo_ft k1 (by decide) (by decide)
theorem yo_blank : ∀ (f : Nat) (t : Int) (S : y_S), y_ok st S → y_tk (y_nn S) t → y_fin (y_blank f t S) (fun u S' => y_ok st S' ∧ y_lg S S' ∧ y_tk (y_nn S') u) (y_ok st)
  | 0, t, S, h, ht => ⟨h, y_lg_rf S, ht⟩
  | f + 1, t, S, h, ht => by
    unfold y_blank
    split
    · refine y_ob (yo_getT h) (fun u S1 ⟨k1, k2, k3, _⟩ => y_om (yo_blank f u S1 k1 k3) (fun _ S2 ⟨a1, a2, a3⟩ => ⟨a1, y_lg_t k2 a2, a3⟩))
    · exact ⟨h, y_lg_rf S, ht⟩
theorem y_peel_sub (l : List Int) : ∀ x ∈ y_peel l, x ∈ l := by
  intro x hx
  unfold y_peel at hx
  split at hx
  · next t r =>
    split at hx
    · exact List.mem_cons_of_mem _ (List.dropLast_subset _ hx)
    · exact hx
  · exact hx
theorem y_peel_len (l : List Int) : (y_peel l).length ≤ l.length := by
  unfold y_peel
  split
  · split
    · rw [List.length_dropLast]; simp; omega
    · exact Nat.le_refl _
  · exact Nat.le_refl _
theorem yo_arg {dl : List Int} {par : Bool} : ∀ (f : Nat) (acc : List Int) (dp t0 : Int) (S : y_S), y_ok st S → y_tk (y_nn S) t0 → acc.length + f ≤ 40 → (∀ x ∈ acc, y_tp (y_nn S) x) → y_fin (y_arg dl par f acc dp t0 S) (fun l S' => y_ok st S' ∧ y_lg S S' ∧ l.length ≤ 40 ∧ ∀ x ∈ l, y_tp (y_nn S') x) (y_ok st)
  | 0, acc, dp, t0, S, h, _, _, _ => yo_ft h (by decide) (by decide)
  | f + 1, acc, dp, t0, S, h, ht, hl, ha => by
    unfold y_arg
    dsimp only
    have hu := y_un_tp ht h.2.2.2.2.2.2.2.2.2.2.2.2.2.2.2.2.2.2.2.1.2
    have hall : ∀ x ∈ acc ++ [y_un t0], y_tp (y_nn S) x := y_all_snoc ha hu
    split
    · exact yo_ft h (by decide) (by decide)
    · split
      · exact yo_ft h (by decide) (by decide)
      · split
        · refine ⟨h, y_lg_rf S, Nat.le_trans (y_peel_len _) ?_, fun x hx => hall x (List.mem_of_mem_take (y_peel_sub _ x hx))⟩
          rw [List.length_take]; simp; omega
        · refine y_ob (yo_getT h) (fun u S1 ⟨k1, k2, k3, _⟩ => y_om (yo_arg f _ _ u S1 k1 k3 (by simp; omega) (fun x hx => y_tp_le (hall x hx) k2.1)) (fun l S2 ⟨a1, a2, a3⟩ => ⟨a1, y_lg_t k2 a2, a3⟩))
theorem yo_take {dl : List Int} (h : y_ok st S) : y_fin (y_take dl S) (fun l S' => y_ok st S' ∧ y_lg S S' ∧ l.length ≤ 40 ∧ ∀ x ∈ l, y_tp (y_nn S') x) (y_ok st) := by
  refine y_ob (yo_getT h) (fun t S1 ⟨k1, k2, k3, _⟩ => ?_)
  refine y_ob (P := fun u S2 => y_ok st S2 ∧ y_lg S1 S2 ∧ y_tk (y_nn S2) u) ?_ (fun u S2 ⟨a1, a2, a3⟩ => y_om (yo_arg 40 [] 0 u S2 a1 a3 (by simp) (fun x hx => by cases hx)) (fun l S3 ⟨b1, b2, b3⟩ => ⟨b1, y_lg_t (y_lg_t k2 a2) b2, b3⟩))
  split
  · exact yo_blank 1000 t S1 k1 k3
  · exact ⟨k1, y_lg_rf S1, k3⟩
theorem le_a {S : y_S} {p : Nat} (hp : p < 4) (l : List Int) : y_le S (y_sa S p (some l)) := by
  refine ⟨Nat.le_refl _, rfl, ?_, ?_, rfl, rfl, rfl, Int.le_refl _, rfl, rfl, fun _ h => h⟩
  · show am_u1 (y_a S) p (some l) 4 = y_a S 4
    unfold am_u1; rw [if_neg (by omega)]
  · show am_u1 (y_a S) p (some l) 5 = y_a S 5
    unfold am_u1; rw [if_neg (by omega)]
theorem yo_args {tx : List Int} : ∀ (f p k : Nat) (S : y_S), y_ok st S → p + f ≤ 4 → y_fin (y_args tx f p k S) (fun _ S' => y_ok st S' ∧ y_le S S' ∧ (∀ i, i < p → y_a S' i = y_a S i) ∧ ∀ i, p ≤ i → i < p + f → (y_a S' i).isSome = true) (y_ok st)
  | 0, p, k, S, h, hp => ⟨h, y_le_rf S, fun _ _ => rfl, fun i h1 h2 => by omega⟩
  | f + 1, p, k, S, h, hp => by
    unfold y_args
    refine y_ob (yo_take h) (fun l S1 ⟨k1, k2, k3, k4⟩ => ?_)
    refine y_om (yo_args f (p + 1) _ _ (y_ok_a k1 (i := p) k3 k4) (by omega)) (fun _ S2 ⟨a1, a2, a3, a4⟩ => ⟨a1, y_le_t (y_le_t (y_lg_le k2) (le_a (by omega) l)) a2, fun i hi => ?_, fun i h1 h2 => ?_⟩)
    · rw [a3 i (by omega)]
      show am_u1 (y_a S1) p (some l) i = _
      unfold am_u1
      rw [if_neg (by omega), k2.2.2.1]
    · by_cases e : i = p
      · subst e
        rw [a3 i (by omega)]
        show (am_u1 (y_a S1) i (some l) i).isSome = true
        unfold am_u1
        rw [if_pos rfl]
        rfl
      · exact a4 i (by omega) (by omega)
theorem y_body_tp (h : y_ok st S) {p : Int} (hp : p ≤ 4) : ∀ (l : List Int), (∀ t ∈ l, (8193 ≤ t ∧ t < 8193 + p) ∨ y_tp (y_nn S) t) → ∀ x ∈ y_body S l, y_tp (y_nn S) x
  | [], _, x, hx => by cases hx
  | t :: r, hl, x, hx => by
    unfold y_body at hx
    rcases List.mem_append.mp hx with hx | hx
    · split at hx
      · next c =>
        cases e : y_a S (t - 8193).toNat with
        | none => rw [e] at hx; cases hx
        | some l => rw [e] at hx; exact (h.2.2.2.2.2.2.2.2.2.2.2.2.2.2.2.2.2.2.2.2.2.2.2.2.2.1 _ l (by omega) e).2 x hx
      · next c =>
        rw [List.mem_singleton.mp hx]
        rcases hl t (by simp) with q | q
        · omega
        · exact q
    · exact y_body_tp h hp r (fun t ht => hl t (by simp [ht])) x hx
theorem yo_call (h : y_ok st S) {q : List Int × List Int × Int} (hq : y_mk (y_nn S) q) : y_fin (y_call q S) (fun _ S' => y_ok st S' ∧ y_le S S') (y_ok st) := by
  refine y_ob (yo_match _ S h) (fun _ S1 ⟨k1, k2⟩ => y_ob (yo_args q.2.2.toNat 0 _ S1 k1 (by have := hq.2.2; omega)) (fun _ S2 ⟨a1, a2, a3, a4⟩ => ?_))
  have hn : y_nn S ≤ y_nn S2 := Nat.le_trans k2.1 a2.1
  exact y_om (yo_puts _ S2 a1 (fun x hx => y_tp_tk (y_body_tp a1 hq.2.2.2 _ (fun t ht => (hq.2.1.2 t ht).imp id (fun z => y_tp_le z hn)) x (List.mem_reverse.mp hx)))) (fun _ S3 ⟨b1, b2⟩ => ⟨b1, y_le_t (y_lg_le k2) (y_le_t a2 (y_lg_le b2))⟩)
theorem y_mcr_ok (h : y_ok st S) {m : Int} {q : List Int × List Int × Int} (e : y_mcr S m = some q) : y_mk (y_nn S) q := by
  unfold y_mcr at e
  split at e
  · exact h.2.2.2.2.2.2.2.2.2.2.2.2.2.2.2.2.2.2.2.2.2.2.1 q (List.mem_of_getElem? e)
  · cases e
theorem yo_exb {ex : Int → y_S → y_Re Unit} (hx : y_hx st ex) (h : y_ok st S) {m : Int} : y_fin (y_exb ex m S) (fun _ S' => y_ok st S' ∧ y_le S S') (y_ok st) := by
  unfold y_exb
  split
  · exact yo_after hx h
  split
  · exact y_om (yo_mark h) (fun _ S' ⟨a, b⟩ => ⟨a, y_lg_le b⟩)
  split
  · exact yo_cs hx h
  split
  · exact y_om (yo_str h) (fun _ S' ⟨a, b⟩ => ⟨a, y_lg_le b⟩)
  split
  · exact yo_cond hx h
  split
  · split
    · next e => exact y_om (yo_pass 1000 0 S h) (fun _ S' ⟨a, b⟩ => ⟨a, y_lp_le b (fun C hc => y_pre_drop hc (by rw [e]; simp))⟩)
    · exact yo_ft h (by decide) (by decide)
  split
  · split
    · exact yo_ft h (by decide) (by decide)
    · next e =>
      refine ⟨y_ok_l3 h (by rw [List.length_dropLast]; have := h.2.2.2.2.2.2.2.2.1; omega) (fun x hx' => h.2.2.2.2.2.2.2.2.2.1 x (List.dropLast_subset _ hx')), le_l3 (fun C hc => y_pre_drop hc (fun q => ?_))⟩
      rw [q] at e
      exact e (by simp)
  split
  · next q e => exact yo_call h (y_mcr_ok h e)
  · exact ⟨h, y_le_rf S⟩
theorem yo_ex : ∀ f : Nat, y_hx st (y_ex f)
  | 0 => fun m S h _ => yo_ft h (by decide) (by decide)
  | f + 1 => fun m S h _ => by
    unfold y_ex
    split
    · exact yo_ft h (by decide) (by decide)
    · next c =>
      have h4 := h.2.2.2.2.2.2.2.2.2.2.2.2.2.2.2.2.2.2.2.2.2.2.2.1
      have h5 := h.2.2.2.2.2.2.2.2.2.2.2.2.2.2.2.2.2.2.2.2.2.2.2.2.1
      refine y_ob (yo_exb (yo_ex f) (y_ok_s5 (y_ok_s4 h (v := y_s S 4 + 1) (by omega) (by omega)) (v := y_s S 5 + 1) (by omega) (by omega))) (fun _ S1 ⟨k1, k2⟩ => ?_)
      obtain ⟨a1, a2, a3, a4, a5, a6, a7, a8, a9, a0, ax⟩ := k2
      have a9' : y_s S1 5 = y_s S 5 + 1 := a9
      have a8' : y_s S 4 + 1 ≤ y_s S1 4 := a8
      have e9 : y_s S1 5 - 1 = y_s S 5 := by omega
      rw [e9]
      exact ⟨y_ok_s5 k1 h5.1 h5.2, ⟨a1, a2, a3, a4, a5, a6, a7, by show y_s S 4 ≤ y_s S1 4; omega, rfl, a0, ax⟩, by show y_s S 4 < y_s S1 4; omega⟩
theorem yo_exc (h : y_ok st S) {m : Int} (hm : y_mn (y_mm S) m) : y_fin (y_exc m S) (fun _ S' => y_ok st S' ∧ y_s S' 3 = y_s S 3 ∧ y_l S' 0 = y_l S 0) (y_ok st) := by
  have hg : ∀ {α : Type} {x : y_Re α}, y_fin x (fun _ S' => y_ok st S' ∧ y_lg S S') (y_ok st) → y_fin x (fun _ S' => y_ok st S' ∧ y_s S' 3 = y_s S 3 ∧ y_l S' 0 = y_l S 0) (y_ok st) := fun q => y_om q (fun _ S' ⟨a, b⟩ => ⟨a, b.2.2.2.2.2.1, b.2.2.2.2.2.2.2.2.1⟩)
  unfold y_exc
  split
  · exact y_om (yo_ex 31 m S h hm) (fun _ S' ⟨a, b, _⟩ => ⟨a, b.2.2.2.2.2.2.1, b.2.2.2.2.2.2.2.2.2.1⟩)
  split
  · next c =>
    have c' := of_decide_eq_true c
    split
    · exact hg (yo_group h)
    split
    · exact hg (yo_close h)
    · exact hg (yo_send h (by omega) (by omega))
  split
  · exact hg (yo_send h (by decide) (by decide))
  split
  · exact ⟨h, rfl, rfl⟩
  split
  · exact yo_def (fun S hS => yo_getx (yo_ex 31) 201 S hS) h
  split
  · exact hg (yo_letc h)
  split
  · exact hg (yo_catc h)
  split
  · exact yo_ft h (by decide) (by decide)
  · exact yo_ft h (by decide) (by decide)
theorem yo_run : ∀ (k : Nat) (st : Int) (S : y_S), y_ok st S → y_fin (y_run k S) (fun _ S' => (∃ s, y_ok s S' ∧ s ≤ st + k) ∧ y_s S' 3 = y_s S 3) (fun S' => ∃ s, y_ok s S' ∧ s ≤ st + k)
  | 0, st, S, h => ⟨⟨st, h, by omega⟩, rfl⟩
  | k + 1, st, S, h => by
    have h27 := h.2.2.2.2.2.2.2.2.2.2.2.2.2.2.2.2.2.2.2.2.2.2.2.2.2.2.1
    unfold y_run
    have h0 : y_ok (st + 1) (y_ss (y_ss (y_ss S 2 (y_s S 2 + 1)) 4 0) 5 0) := by
      rw [h27.1]
      exact y_ok_s5 (y_ok_s4 (y_ok_s2 h (by omega)) (by decide) (by decide)) (by decide) (by decide)
    have hT : ∀ {α : Type} {x : y_Re α} {P : α → y_S → Prop}, y_fin x P (y_ok (st + 1)) → y_fin x P (fun S' => ∃ s, y_ok s S' ∧ s ≤ st + ((k + 1 : Nat) : Int)) := by
      intro α x P hh
      cases x with
      | inl q => exact hh
      | inr S' => exact ⟨st + 1, hh, by omega⟩
    refine y_ob (hT (yo_get h0)) (fun t S1 ⟨k1, k2, k3⟩ => ?_)
    have e3 : y_s S1 3 = y_s S 3 := k2.2.2.2.2.2.1
    split
    · have e2 := k1.2.2.2.2.2.2.2.2.2.2.2.2.2.2.2.2.2.2.2.2.2.2.2.2.2.2.1
      rw [show y_s S1 2 - 1 = st by omega]
      exact ⟨⟨st, y_ok_s2 k1 h27.2, by omega⟩, e3⟩
    · next c =>
      refine y_ob (hT (yo_exc k1 (y_mo_ok k1 (k3.resolve_left (fun q => c q.1)).1))) (fun _ S2 ⟨a1, a2, _⟩ => ?_)
      have hr := yo_run k (st + 1) S2 a1
      cases hq : y_run k S2 with
      | inl q =>
        rw [hq] at hr
        obtain ⟨⟨s, hs, hs2⟩, h3⟩ := hr
        exact ⟨⟨s, hs, by omega⟩, by rw [h3, a2, e3]⟩
      | inr q =>
        rw [hq] at hr
        obtain ⟨s, hs, hs2⟩ := hr
        exact ⟨s, hs, by omega⟩
end OKR
