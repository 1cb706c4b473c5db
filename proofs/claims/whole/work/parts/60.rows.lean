/-! rows as lists; the contracts of Row -/
def y_row (D : z_D) (r : Nat) (l : List Int) : Prop := D.1 r 1 = (l.length : Int) ∧ ∀ i, i < l.length → D.1 (r + 1) i = l[i]?.getD 0
def y_at (l : List Int) (k : Int) : Int := if 0 ≤ k then l[k.toNat]?.getD (-1) else -1
/-- all ints of a list are ints of the machine -/
def y_rl (l : List Int) : Prop := ∀ x ∈ l, z_r x
theorem y_at_r {l : List Int} (h : y_rl l) (k : Int) : z_r (y_at l k) := by
  unfold y_at
  split
  · cases e : l[k.toNat]? with
    | none => exact z_rk rfl
    | some x => exact h x (List.mem_of_getElem? e)
  · exact z_rk rfl
theorem y_at_lt {l : List Int} {k : Int} (h0 : 0 ≤ k) (h : k < l.length) (D : z_D) (r : Nat) (hr : y_row D r l) : D.1 (r + 1) k.toNat = y_at l k := by
  have h1 : k.toNat < l.length := by omega
  rw [hr.2 _ h1]
  unfold y_at
  rw [if_pos h0, List.getElem?_eq_getElem h1]
  rfl
theorem y_at_ge {l : List Int} {k : Int} (h : k < 0 ∨ (l.length : Int) ≤ k) : y_at l k = -1 := by
  unfold y_at
  split
  · rw [List.getElem?_eq_none (by omega)]; rfl
  · rfl
theorem y_uz_same (D : z_D) (k j : Nat) (v : Int) : (z_uz D k j v).1 k j = v := by simp [z_uz, am_u2]
theorem y_uz_cell {D : z_D} {k j c : Nat} {v : Int} (h : c ≠ k) : (z_uz D k j v).1 c = D.1 c := by funext i; simp [z_uz, am_u2, h]
theorem y_uz_slot {D : z_D} {k j c i : Nat} {v : Int} (h : i ≠ j) : (z_uz D k j v).1 c i = D.1 c i := by simp [z_uz, am_u2, h]
theorem y_row_cell {D D' : z_D} {r : Nat} {l : List Int} (h : y_row D r l) (h1 : D'.1 r = D.1 r) (h2 : D'.1 (r + 1) = D.1 (r + 1)) : y_row D' r l := by
  unfold y_row
  rw [h1, h2]
  exact h
/-- a row's new length, shorter -/
theorem y_row_cut {D : z_D} {r : Nat} {l : List Int} (h : y_row D r l) {m : Nat} (hm : m ≤ l.length) : y_row (z_uz D r 1 (m : Int)) r (l.take m) := by
  refine ⟨by rw [y_uz_same, List.length_take, Nat.min_eq_left hm], fun i hi => ?_⟩
  rw [List.length_take, Nat.min_eq_left hm] at hi
  rw [y_uz_cell (by omega), h.2 i (by omega), List.getElem?_take_of_lt hi]
theorem y_row_add {D : z_D} {r : Nat} {l : List Int} (h : y_row D r l) (a : Int) : y_row (z_uz (z_uz D (r + 1) l.length a) r 1 ((l.length : Int) + 1)) r (l ++ [a]) := by
  refine ⟨by rw [y_uz_same, List.length_append]; rfl, fun i hi => ?_⟩
  rw [y_uz_cell (by omega)]
  rw [List.length_append] at hi
  by_cases e : i = l.length
  · subst e
    rw [y_uz_same]
    simp
  · rw [y_uz_slot e, h.2 i (by simp at hi; omega), List.getElem?_append_left (by simp at hi; omega)]
theorem y_row_set {D : z_D} {r : Nat} {l : List Int} (h : y_row D r l) {k : Nat} (hk : k < l.length) (a : Int) : y_row (z_uz D (r + 1) k a) r (l.set k a) := by
  refine ⟨by rw [y_uz_cell (by omega), List.length_set]; exact h.1, fun i hi => ?_⟩
  rw [List.length_set] at hi
  by_cases e : i = k
  · subst e
    rw [y_uz_same]
    simp [hi]
  · rw [y_uz_slot e, h.2 i hi, List.getElem?_set_ne (by omega)]
theorem y_snoc (l : List Int) : l = [] ∨ ∃ t a, l = t ++ [a] := by
  rcases l.eq_nil_or_concat with h | ⟨t, a, h⟩
  · exact Or.inl h
  · exact Or.inr ⟨t, a, by rw [h, List.concat_eq_append]⟩
section RW
variable {n d r w r2 w2 : Nat} {D : z_D} {l l2 : List Int} {T : Nat → z_D → Prop}
theorem c_rSize {K : Int → z_D → Prop} (hr : z_row n r (r + 1) w) (h : y_row D r l) (hK : K l.length D) : z_c n (d + 1) 24 [.ref r] D (z_qI K T) := r_rSize hr (by unfold w_rSize_0; rw [h.1]; exact hK)
theorem c_rAt {K : Int → z_D → Prop} {k : Int} (hr : z_row n r (r + 1) w) (h : y_row D r l) (hl : l.length ≤ w) (hk : z_r k) (hK : K (y_at l k) D) : z_c n (d + 1) 25 [.ref r, .int (z_i k)] D (z_qI K T) := by
  have hw := hr.2.2.2.1
  refine r_rAt hr ⟨hk, fun c => ?_, fun c => ⟨?_, fun c1 => ?_, fun c1 => ⟨fun c2 => ?_, fun c2 => ⟨⟨c, c2⟩, ?_⟩⟩⟩⟩
  · rw [← y_at_ge (l := l) (Or.inl c)]; exact hK
  · rw [h.1]; exact z_rw (by omega)
  · rw [h.1] at c1; rw [← y_at_ge (l := l) (Or.inr c1)]; exact hK
  · rw [h.1] at c1; omega
  · rw [h.1] at c1; rw [y_at_lt c c1 D r h]; exact hK
theorem y_at_last (l : List Int) : y_at l ((l.length : Int) - 1) = l.getLast?.getD (-1) := by
  unfold y_at
  rcases y_snoc l with rfl | ⟨t, a, rfl⟩
  · rfl
  · rw [if_pos (by simp)]
    simp
theorem c_rLast {K : Int → z_D → Prop} (hr : z_row n r (r + 1) w) (h : y_row D r l) (hl : l.length ≤ w) (hK : K (l.getLast?.getD (-1)) D) : z_c n (d + 1) 26 [.ref r] D (z_qI K T) := by
  have hw := hr.2.2.2.1
  have e := y_at_last l
  refine r_rLast hr ⟨by rw [h.1]; exact z_rw (by omega), fun c => ?_, fun c => ⟨fun c1 => ?_, fun c1 => ⟨?_, ?_⟩⟩⟩ <;> rw [h.1] at *
  · rw [← e, y_at_ge (Or.inl (by omega))] at hK; exact hK
  · omega
  · omega
  · rw [y_at_lt (l := l) (by omega) (by omega) D r h, e]; exact hK
theorem c_rAdd {K : Bool → z_D → Prop} {a : Int} (hr : z_row n r (r + 1) w) (h : y_row D r l) (hl : l.length ≤ w) (h1 : l.length < w → K true (z_uz (z_uz D (r + 1) l.length a) r 1 ((l.length : Int) + 1))) (h2 : l.length = w → K false D) : z_c n (d + 1) 27 [.ref r, .int (z_i a)] D (z_qZ K T) := by
  have hw := hr.2.2.2.1
  refine r_rAdd hr ⟨by rw [h.1]; exact z_rw (by omega), fun c => ?_, fun c => ⟨fun c1 => ⟨⟨c, c1⟩, fun D3 e3 D4 e4 => ?_⟩, fun c1 => ?_⟩⟩
  · rw [h.1] at c; omega
  · rw [h.1] at c1 e3
    subst e3 e4
    have e5 : (z_uz D (r + 1) (Int.toNat (l.length : Int)) a).1 r 1 = (l.length : Int) := by rw [y_uz_cell (by omega)]; exact h.1
    rw [e5]
    exact h1 (by omega)
  · rw [h.1] at c1; exact h2 (by omega)
theorem c_rTakeLast {K : Int → z_D → Prop} (hr : z_row n r (r + 1) w) (h : y_row D r l) (hl : l.length ≤ w) (h0 : l = [] → K (-1) D) (h1 : ∀ t a, l = t ++ [a] → y_row (z_uz D r 1 (t.length : Int)) r t → K a (z_uz D r 1 (t.length : Int))) : z_c n (d + 1) 28 [.ref r] D (z_qI K T) := by
  have hw := hr.2.2.2.1
  refine r_rTakeLast hr ⟨by rw [h.1]; exact z_rw (by omega), fun c => ?_, fun c => ⟨fun c1 D2 e2 => ?_, fun c1 => ?_⟩⟩
  · rw [h.1] at c
    exact h0 (List.eq_nil_of_length_eq_zero (by omega))
  · rcases y_snoc l with rfl | ⟨t, a, rfl⟩
    · rw [h.1] at c; simp at c
    · have el : (t ++ [a]).length = t.length + 1 := by simp
      rw [h.1, el] at e2
      have e3 : ((t.length + 1 : Nat) : Int) - 1 = (t.length : Int) := by omega
      rw [e3] at e2
      have hrow := y_row_cut h (m := t.length) (by omega)
      rw [List.take_left' rfl] at hrow
      have e5 : D2.1 r 1 = (t.length : Int) := by rw [e2, y_uz_same]
      have e6 : D2.1 (r + 1) t.length = a := by
        rw [e2, y_uz_cell (by omega), h.2 _ (by omega)]
        simp
      rw [e5]
      refine ⟨⟨by omega, by omega⟩, ?_⟩
      show K (D2.1 (r + 1) t.length) D2
      rw [e6, e2]
      exact h1 t a rfl hrow
  · rw [h.1] at c1; omega
theorem c_rReplace {K : z_D → Prop} {k a : Int} (hr : z_row n r (r + 1) w) (h : y_row D r l) (hl : l.length ≤ w) (hk : z_r k) (h0 : k < 0 ∨ (l.length : Int) ≤ k → K D) (h1 : 0 ≤ k → k < l.length → K (z_uz D (r + 1) k.toNat a)) : z_c n (d + 1) 29 [.ref r, .int (z_i k), .int (z_i a)] D (z_qV K T) := by
  have hw := hr.2.2.2.1
  refine r_rReplace hr ⟨hk, fun c => h0 (Or.inl c), fun c => ⟨by rw [h.1]; exact z_rw (by omega), fun c1 => h0 (Or.inr (by rw [h.1] at c1; exact c1)), fun c1 => ⟨fun c2 => ?_, fun c2 => ⟨⟨c, c2⟩, fun D4 e4 => ?_⟩⟩⟩⟩
  · rw [h.1] at c1; omega
  · subst e4; rw [h.1] at c1; exact h1 c c1
theorem c_rCutTo {K : z_D → Prop} {k : Int} (hr : z_row n r (r + 1) w) (h : y_row D r l) (hl : l.length ≤ w) (hk : z_r k) (h0 : k < 0 ∨ (l.length : Int) ≤ k → K D) (h1 : 0 ≤ k → k < l.length → K (z_uz D r 1 k)) : z_c n (d + 1) 30 [.ref r, .int (z_i k)] D (z_qV K T) := by
  have hw := hr.2.2.2.1
  refine r_rCutTo hr ⟨hk, fun c => h0 (Or.inl c), fun c => ⟨by rw [h.1]; exact z_rw (by omega), fun c1 => h0 (Or.inr (by rw [h.1] at c1; exact c1)), fun c1 D3 e3 => ?_⟩⟩
  subst e3; rw [h.1] at c1; exact h1 c c1
theorem c_rCut0 {K : z_D → Prop} (hr : z_row n r (r + 1) w) (h : y_row D r l) (hl : l.length ≤ w) (h0 : l = [] → K D) (h1 : l ≠ [] → K (z_uz D r 1 0)) : z_c n (d + 1) 30 [.ref r, .int (z_i 0)] D (z_qV K T) :=
  c_rCutTo hr h hl (z_rk rfl) (fun c => h0 (List.eq_nil_of_length_eq_zero (by omega))) (fun _ c => h1 (fun q => by rw [q] at c; simp at c))
theorem c_rSameAs {K : Bool → z_D → Prop} (hr : z_row n r (r + 1) w) (hr2 : z_row n r2 (r2 + 1) w2) (h : y_row D r l) (h2 : y_row D r2 l2) (hl : l.length ≤ w) (hl2 : l2.length ≤ w2) (hi : y_rl l) (hi2 : y_rl l2) (hK : K (decide (l = l2)) D) : z_c n (d + 1) 31 [.ref r, .ref r2] D (z_qZ K T) := by
  have hw := hr.2.2.2.1
  have hw2 := hr2.2.2.2.1
  refine r_rSameAs hr hr2 (fun m a D' => D' = D ∧ l.length = l2.length ∧ 0 ≤ a ∧ a ≤ l.length ∧ m = (l.length - a).toNat ∧ ∀ i : Nat, (i : Int) < a → l[i]? = l2[i]?) ?_ ?_
  · refine ⟨by rw [h.1]; exact z_rw (by omega), by rw [h2.1]; exact z_rw (by omega), fun c => ⟨_, rfl, by rw [h.1, h2.1] at c; omega, by omega, by omega, rfl, fun i hi => by omega⟩, fun c => ?_⟩
    rw [h.1, h2.1] at c
    rw [decide_eq_false (fun q => c (by rw [q]))] at hK
    exact hK
  · rintro mm a D' ⟨rfl, e1, ha0, ha1, rfl, hall⟩
    refine ⟨⟨by omega, by omega⟩, by rw [h.1]; exact z_rw (by omega), fun c => ?_, fun c => ⟨fun c1 => ?_, fun c1 => ⟨fun c2 => ?_, fun c2 => ?_⟩⟩⟩
    · rw [h.1] at c
      have : l = l2 := by
        apply List.ext_getElem?
        intro i
        by_cases hi : (i : Int) < a
        · exact hall i hi
        · rw [List.getElem?_eq_none (by omega), List.getElem?_eq_none (by omega)]
      rw [decide_eq_true this] at hK
      exact hK
    · rw [h.1] at c; omega
    · rw [h.1] at c; omega
    · rw [h.1] at c
      have e3 := y_at_lt ha0 c D' r h
      have e4 := y_at_lt (l := l2) ha0 (by omega) D' r2 h2
      rw [e3, e4]
      refine ⟨⟨ha0, c1⟩, ⟨ha0, c2⟩, y_at_r hi a, y_at_r hi2 a, fun c3 => ?_, fun c3 => ?_⟩
      · refine ⟨_, ?_, rfl, e1, by omega, by omega, rfl, fun i hlt => ?_⟩
        · omega
        · by_cases hia : (i : Int) < a
          · exact hall i hia
          · have : i = a.toNat := by omega
            subst this
            unfold y_at at c3
            rw [if_pos ha0, if_pos ha0, List.getElem?_eq_getElem (by omega), List.getElem?_eq_getElem (by omega)] at c3
            rw [List.getElem?_eq_getElem (by omega), List.getElem?_eq_getElem (by omega)]
            exact congrArg some c3
      · rw [decide_eq_false (fun q => c3 (by rw [q]))] at hK
        exact hK
theorem c_rHolds {K : Bool → z_D → Prop} {a x y : Int} (hr : z_row n r (r + 1) w) (h : y_row D r l) (hl : l.length ≤ w) (hi : y_rl l) (ha : z_r a) (h0 : 0 ≤ a) (hx : z_r x) (hy : z_r y) (hK : ∀ b : Bool, (b = true ↔ ∃ k, x ≤ k ∧ k < y ∧ y_at l k = a) → K b D) : z_c n (d + 2) 32 [.ref r, .int (z_i a), .int (z_i x), .int (z_i y)] D (z_qZ K T) := by
  have hw := hr.2.2.2.1
  have no : ∀ i, (i < 0 ∨ (l.length : Int) ≤ i) → ¬ y_at l i = a := fun i q e => by
    rw [y_at_ge q] at e
    omega
  have hx1 := hx.1
  have hx2 := hx.2
  refine r_rHolds hr (fun m a1 y1 k D' => D' = D ∧ a1 = a ∧ y1 = y ∧ x ≤ k ∧ 0 ≤ k ∧ z_r k ∧ m = (y - k).toNat ∧ ∀ i, x ≤ i → i < k → ¬ y_at l i = a) ⟨hx, _, rfl, rfl, rfl, Int.le_max_left _ _, Int.le_max_right _ _, ⟨by omega, by omega⟩, rfl, fun i h1 h2 => no i (Or.inl (by omega))⟩ ?_
  rintro mm a1 y1 k D' ⟨rfl, rfl, rfl, hk, hk0, hkr, rfl, hall⟩
  unfold w_rHolds_7
  rw [h.1]
  refine ⟨hkr, hy, fun c => hK false ⟨fun q => (by cases q), fun ⟨j, h1, h2, h3⟩ => absurd h3 (hall j h1 (by omega))⟩, fun c => ⟨z_rw (by omega), fun c1 => hK false ⟨fun q => (by cases q), fun ⟨j, h1, h2, h3⟩ => ?_⟩, fun c1 => ⟨fun c2 => by omega, fun c2 => ⟨⟨hk0, c2⟩, ?_⟩⟩⟩⟩
  · by_cases e : j < k
    · exact absurd h3 (hall j h1 e)
    · exact absurd h3 (no j (Or.inr (by omega)))
  · rw [y_at_lt hk0 c1 D' r h]
    refine ⟨y_at_r hi k, ha, fun c3 => ⟨_, ?_, rfl, rfl, rfl, by omega, by omega, ⟨by have := hkr.1; omega, by have := hy.2; omega⟩, rfl, fun i h1 h2 => ?_⟩, fun c3 => hK true ⟨fun _ => ⟨k, hk, c, c3⟩, fun _ => rfl⟩⟩
    · omega
    · by_cases e : i = k
      · subst e; exact c3
      · exact hall i h1 (by omega)
theorem c_rEndsWith {K : Bool → z_D → Prop} {x y : Int} (hr : z_row n r (r + 1) w) (hr2 : z_row n r2 (r2 + 1) w2) (h : y_row D r l) (h2 : y_row D r2 l2) (hl : l.length ≤ w) (hl2 : l2.length ≤ w2) (hi : y_rl l) (hi2 : y_rl l2) (hx : 0 ≤ x ∧ x ≤ 1000000) (hy : 0 ≤ y ∧ y ≤ 1000000) (hK : ∀ b : Bool, (b = true ↔ 0 ≤ (l.length : Int) - y + x ∧ ∀ k, x ≤ k → k < y → y_at l ((l.length : Int) - y + k) = y_at l2 k) → K b D) : z_c n (d + 2) 33 [.ref r, .ref r2, .int (z_i x), .int (z_i y)] D (z_qZ K T) := by
  have hw := hr.2.2.2.1
  refine r_rEndsWith hr hr2 (fun m y1 s k D' => D' = D ∧ y1 = y ∧ s = (l.length : Int) - y ∧ 0 ≤ s + x ∧ x ≤ k ∧ k ≤ 1000000 ∧ m = (y - k).toNat ∧ ∀ i, x ≤ i → i < k → y_at l (s + i) = y_at l2 i) ?_ ?_
  · unfold w_rEndsWith_0
    rw [h.1]
    exact ⟨⟨by omega, by omega⟩, fun c => ⟨_, rfl, rfl, rfl, c, Int.le_refl _, hx.2, rfl, fun i h1 h2 => by omega⟩, fun c => hK false ⟨fun q => (by cases q), fun q => by omega⟩⟩
  · rintro mm y1 s k D' ⟨rfl, rfl, rfl, hs, hk, hk1, rfl, hall⟩
    refine ⟨⟨by omega, by omega⟩, ⟨by omega, by omega⟩, fun c => hK true ⟨fun _ => ⟨hs, fun j h1 h2 => hall j h1 (by omega)⟩, fun _ => rfl⟩, fun c => ?_⟩
    refine c_rAt hr h hl ⟨by omega, by omega⟩ (c_rAt hr2 h2 hl2 ⟨by omega, by omega⟩ ⟨y_at_r hi _, y_at_r hi2 _, fun c1 => ⟨_, ?_, rfl, rfl, rfl, hs, by omega, by omega, rfl, fun i h1 h2 => ?_⟩, fun c1 => hK false ⟨fun q => (by cases q), fun q => absurd (q.2 k hk c) c1⟩⟩)
    · omega
    · by_cases e : i = k
      · subst e; exact c1
      · exact hall i h1 (by omega)
theorem c_rNextParameter {K : Int → z_D → Prop} {x : Int} (hr : z_row n r (r + 1) w) (h : y_row D r l) (hl : l.length ≤ w) (hi : y_rl l) (hx : 0 ≤ x ∧ x ≤ l.length) (hK : ∀ v : Int, x ≤ v → v ≤ l.length → (∀ k, x ≤ k → k < v → y_at l k < 8192) → (v < l.length → 8192 ≤ y_at l v) → K v D) : z_c n (d + 2) 34 [.ref r, .int (z_i x)] D (z_qI K T) := by
  have hw := hr.2.2.2.1
  refine r_rNextParameter hr (fun m k D' => D' = D ∧ x ≤ k ∧ k ≤ l.length ∧ m = ((l.length : Int) - k).toNat ∧ ∀ i, x ≤ i → i < k → y_at l i < 8192) ⟨_, rfl, Int.le_refl _, hx.2, rfl, fun i h1 h2 => by omega⟩ ?_
  rintro mm k D' ⟨rfl, hk, hk1, rfl, hall⟩
  unfold w_rNextParameter_2
  rw [h.1]
  refine ⟨⟨by omega, by omega⟩, z_rw (by omega), fun c => hK _ (by omega) (by omega) (fun j h1 h2 => hall j h1 (by omega)) (fun q => by omega), fun c => ?_⟩
  refine c_rAt hr h hl ⟨by omega, by omega⟩ ⟨y_at_r hi _, fun c1 => ⟨_, ?_, rfl, by omega, by omega, rfl, fun i h1 h2 => ?_⟩, fun c1 => hK k hk (by omega) hall (fun _ => c1)⟩
  · omega
  · by_cases e : i = k
    · subst e; exact c1
    · exact hall i h1 (by omega)
end RW
