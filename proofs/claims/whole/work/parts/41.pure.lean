/-! THE PURE LAYER: ints as Int, the layout of the two objects fixed; what a frame of the abstract machine comes to -/
def z_i (z : Int) : Int32 := Int32.ofInt z
def z_r (z : Int) : Prop := -2147483648 ≤ z ∧ z ≤ 2147483647
theorem z_i_toInt {z : Int} (h : z_r z) : (z_i z).toInt = z := by
  unfold z_i
  exact Int32.toInt_ofInt_of_le (by have := h.1; omega) (by have := h.2; omega)
theorem z_i_of (x : Int32) : z_i x.toInt = x := Int32.ofInt_toInt x
theorem z_add (a b : Int) : z_i a + z_i b = z_i (a + b) := (Int32.ofInt_add a b).symm
theorem z_sub (a b : Int) : z_i a - z_i b = z_i (a - b) := (Int32.ofInt_sub a b).symm
theorem z_mul (a b : Int) : z_i a * z_i b = z_i (a * b) := (Int32.ofInt_mul a b).symm
theorem z_lt {a b : Int} (ha : z_r a) (hb : z_r b) : z_i a < z_i b ↔ a < b := by
  rw [Int32.lt_iff_toInt_lt, z_i_toInt ha, z_i_toInt hb]
theorem z_le {a b : Int} (ha : z_r a) (hb : z_r b) : z_i a ≤ z_i b ↔ a ≤ b := by
  rw [Int32.le_iff_toInt_le, z_i_toInt ha, z_i_toInt hb]
theorem z_eq {a b : Int} (ha : z_r a) (hb : z_r b) : z_i a = z_i b ↔ a = b := by
  rw [← Int32.toInt_inj, z_i_toInt ha, z_i_toInt hb]
theorem z_r_toInt (x : Int32) : z_r x.toInt := ⟨by have := Int32.le_toInt x; omega, by have := Int32.toInt_lt x; omega⟩
theorem z_r0 : z_r 0 := by unfold z_r; omega
theorem z_i0 : (0 : Int32) = z_i 0 := by decide
theorem z_i1 : (1 : Int32) = z_i 1 := by decide
theorem z_nat {i : Int} (h0 : 0 ≤ i) (h : i ≤ 2147483647) : (z_i i).toNatClampNeg = i.toNat := by
  show (z_i i).toInt.toNat = _
  rw [z_i_toInt ⟨by omega, h⟩]
theorem z_in {i : Int} {w : Nat} (h0 : 0 ≤ i) (h : i < w) (hw : w ≤ 1000000) : vp_in (z_i i) w := by
  unfold vp_in
  rw [z_nat h0 (by omega), z_i0, z_lt ⟨by omega, by omega⟩ z_r0]
  omega
def z_and (a b : Int) : Int := (z_i a &&& z_i b).toInt
def z_or (a b : Int) : Int := (z_i a ||| z_i b).toInt
def z_shr (a b : Int) : Int := (z_i a >>> (z_i b &&& 31)).toInt
def z_cmp (x y : Int64) : Int := (lg_cmp x y).toInt
def z_li (x : Int64) : Int := x.toInt32.toInt
def z_il (a : Int) : Int64 := (z_i a).toInt64
def z_shl (x : Int64) (b : Int) : Int64 := x <<< ((z_i b).toInt64 &&& 63)
def z_sar (x : Int64) (b : Int) : Int64 := x >>> ((z_i b).toInt64 &&& 63)
def z_usr (x : Int64) (b : Int) : Int64 := (x.toUInt64 >>> ((z_i b).toInt64.toUInt64 &&& Int64.toUInt64 63)).toInt64
def z_b (b : Bool) : Int := bif b then 1 else 0
/-- the kinds of the cells: 0 to 335 the class's, 336 to 361 the reference's, 362 the law's, 5000 the script -/
def z_shA : List (Option am_Sh) := [some (.inl 5), some (.inl 3), some (.inr (0, 160)), some (.inr (0, 128)), some (.inl 2), some (.inr (1, 118)), some (.inr (1, 118)), some (.inr (0, 118)), some (.inl 0), some (.inl 4), some (.inr (0, 30)), some (.inl 4), some (.inr (0, 60)), some (.inl 4), some (.inr (0, 60)), some (.inl 4), some (.inr (0, 300)), some (.inl 4), some (.inr (0, 200)), some (.inl 4), some (.inr (0, 12)), some (.inr (3, 4)), some (.inl 4), some (.inr (0, 40)), some (.inl 4), some (.inr (0, 40)), some (.inl 4), some (.inr (0, 40)), some (.inl 4), some (.inr (0, 40)), some (.inr (4, 60))]
def z_shM : List (Option am_Sh) := [some (.inl 1), some (.inl 4), some (.inr (0, 12)), some (.inl 4), some (.inr (0, 40))]
def z_shB : List (Option am_Sh) := [some (.inl 6), some (.inr (0, 160)), some (.inr (0, 128)), some (.inr (0, 302)), some (.inr (0, 1320)), some (.inr (0, 120)), some (.inr (2, 120)), some (.inr (0, 120)), some (.inr (0, 12)), some (.inr (0, 60)), some (.inr (0, 60)), some (.inr (0, 60)), some (.inr (0, 61)), some (.inr (0, 800)), some (.inr (0, 61)), some (.inr (0, 2500)), some (.inr (0, 61)), some (.inr (0, 12)), some (.inr (0, 30)), some (.inr (0, 30)), some (.inr (0, 30)), some (.inr (0, 30)), some (.inr (0, 360)), some (.inr (0, 200)), some (.inr (0, 168)), some (.inr (0, 4)), some (.inr (1, 1))]
/-- behind the objects: 362 the law's, 5000 the script; an odd n: the law's is not yet made -/
def z_sq (n c : Nat) : Option am_Sh := bif Nat.beq c 362 then (bif Nat.beq (n % 2) 0 then some (.inr (1, 1)) else none) else bif Nat.beq c 5000 then some (.inr (5, n / 2)) else none
def z_sh (n c : Nat) : Option am_Sh := bif Nat.blt c 31 then z_shA.getD c none else bif Nat.blt c 336 then z_shM.getD ((c - 31) % 5) none else bif Nat.blt c 362 then z_shB.getD (c - 336) none else z_sq n c
/-- the references: all fixed but the places of the macros (p 60: the draft's) -/
def z_R0 (p : Nat → Nat) : List (Option Nat) := [some 1, some 4, some 8, some 15, some 17, some 19, some 21, some 30, some (p 60)]
def z_RA (p : Nat → Nat) : List (List (Option Nat)) := [z_R0 p, [some 2, some 3], [], [], [some 5, some 6, some 7], [], [], [], [some 9, some 11, some 13], [some 10], [], [some 12], [], [some 14], [], [some 16], [], [some 18], [], [some 20], [], [some 22, some 24, some 26, some 28], [some 23], [], [some 25], [], [some 27], [], [some 29], []]
def z_RM (c : Nat) : List (List (Option Nat)) := [[some (c + 1), some (c + 3)], [some (c + 1)], [], [some (c + 1)], []]
def z_RB : List (Option Nat) := [none, none, some 337, none, none, none, none, none, some 338, none, some 339, none, some 340, some 341, some 342, some 343, none, some 344, none, none, some 345, some 346, some 347, none, some 348, some 349, some 350, some 351, some 352, none, some 353, none, some 354, some 355, some 356, some 357, some 358, none, some 359, some 360, some 361]
def z_R (p : Nat → Nat) (c j : Nat) : Option Nat := bif Nat.blt c 30 then ((z_RA p).getD c []).getD j none else bif Nat.beq c 30 then (bif Nat.blt j 60 then some (p j) else none) else bif Nat.blt c 336 then ((z_RM c).getD ((c - 31) % 5) []).getD j none else bif Nat.beq c 336 then z_RB.getD j none else none
/-- ints, longs, the macros' places -/
abbrev z_D : Type := (Nat → Nat → Int) × (Nat → Nat → Int64) × (Nat → Nat)
abbrev z_Xt : Type := Option Nat × Nat × Nat
def z_E (n : Nat) (X : z_Xt) (D : z_D) : am_M := (fun a b => z_i (D.1 a b), D.2.1, z_R D.2.2, z_sh n, X)
def z_uz (D : z_D) (k j : Nat) (v : Int) : z_D := (am_u2 D.1 k j v, D.2)
def z_ul (D : z_D) (k j : Nat) (v : Int64) : z_D := (D.1, am_u2 D.2.1 k j v, D.2.2)
def z_up (D : z_D) (j m : Nat) : z_D := (D.1, D.2.1, am_u1 D.2.2 j m)
theorem z_E_uz (n : Nat) (X : z_Xt) (D : z_D) (k j : Nat) (v : Int) : am_setI (z_E n X D) k j (z_i v) = z_E n X (z_uz D k j v) := by
  unfold am_setI z_E z_uz
  refine Prod.ext ?_ rfl
  funext a b
  unfold am_u2
  dsimp only
  split
  · split <;> rfl
  · rfl
theorem z_E_ul (n : Nat) (X : z_Xt) (D : z_D) (k j : Nat) (v : Int64) : am_setL (z_E n X D) k j v = z_E n X (z_ul D k j v) := rfl
/-- a macro's cell -/
def z_mc (m : Nat) : Prop := 31 ≤ m ∧ m < 336 ∧ (m - 31) % 5 = 0
theorem z_blt {a b : Nat} : Nat.blt a b = decide (a < b) := by
  cases h : Nat.blt a b with
  | true => exact (decide_eq_true (Nat.blt_eq.mp h)).symm
  | false => exact (decide_eq_false (fun q => by rw [Nat.blt_eq.mpr q] at h; cases h)).symm
theorem z_sh_m {n m i : Nat} (h : z_mc m) (hi : i < 5) : z_sh n (m + i) = z_shM.getD i none := by
  obtain ⟨h1, h2, h3⟩ := h
  unfold z_sh
  rw [z_blt, z_blt, decide_eq_false (by omega), decide_eq_true (by omega : m + i < 336)]
  show z_shM.getD ((m + i - 31) % 5) none = _
  rw [show (m + i - 31) % 5 = i by omega]
theorem z_sh_m0 {n m : Nat} (h : z_mc m) : z_sh n m = some (.inl 1) := z_sh_m (i := 0) h (by decide)
theorem z_R_m {p : Nat → Nat} {m i j : Nat} (h : z_mc m) (hi : i < 5) : z_R p (m + i) j = ((z_RM (m + i)).getD i []).getD j none := by
  obtain ⟨h1, h2, h3⟩ := h
  unfold z_R
  rw [z_blt (a := m + i) (b := 30), z_blt (a := m + i) (b := 336), decide_eq_false (by omega), decide_eq_true (by omega : m + i < 336), show Nat.beq (m + i) 30 = false from by cases e : Nat.beq (m + i) 30 with | true => have := Nat.eq_of_beq_eq_true e; omega | false => rfl]
  show ((z_RM (m + i)).getD ((m + i - 31) % 5) []).getD j none = _
  rw [show (m + i - 31) % 5 = i by omega]
/-- a row: its cell, its items' cell, its limit -/
def z_row (n r a w : Nat) : Prop := z_sh n r = some (.inl 4) ∧ z_sh n a = some (.inr (0, w)) ∧ (∀ p, z_R p r 0 = some a) ∧ w ≤ 1000000 ∧ r ≠ a
theorem z_row_mt {n m : Nat} (h : z_mc m) : z_row n (m + 1) (m + 2) 12 := ⟨z_sh_m h (by decide), z_sh_m h (by decide), fun p => z_R_m h (by decide), by decide, by omega⟩
theorem z_row_mb {n m : Nat} (h : z_mc m) : z_row n (m + 3) (m + 4) 40 := ⟨z_sh_m h (by decide), z_sh_m h (by decide), fun p => z_R_m h (by decide), by decide, by omega⟩
theorem z_R_mt {p : Nat → Nat} {m : Nat} (h : z_mc m) : z_R p m 0 = some (m + 1) := z_R_m (i := 0) h (by decide)
theorem z_R_mb {p : Nat → Nat} {m : Nat} (h : z_mc m) : z_R p m 1 = some (m + 3) := z_R_m (i := 0) h (by decide)
theorem z_R_a {p : Nat → Nat} {i : Int} (h0 : 0 ≤ i) (h : i < 4) : z_R p 21 i.toNat = some (22 + 2 * i.toNat) := by
  have h4 : i.toNat = 0 ∨ i.toNat = 1 ∨ i.toNat = 2 ∨ i.toNat = 3 := by omega
  rcases h4 with e | e | e | e <;> rw [e] <;> rfl
theorem z_row_a {n : Nat} {i : Int} (h0 : 0 ≤ i) (h : i < 4) : z_row n (22 + 2 * i.toNat) (23 + 2 * i.toNat) 40 := by
  have h4 : i.toNat = 0 ∨ i.toNat = 1 ∨ i.toNat = 2 ∨ i.toNat = 3 := by omega
  rcases h4 with e | e | e | e <;> rw [e] <;> exact ⟨rfl, rfl, fun p => rfl, by decide, by decide⟩
theorem z_R_ms {p : Nat → Nat} {i : Int} (h0 : 0 ≤ i) (h : i < 60) : z_R p 30 i.toNat = some (p i.toNat) := by
  unfold z_R
  rw [z_blt, z_blt, decide_eq_true (by omega : i.toNat < 60)]
  rfl
theorem z_E_up0 (n : Nat) (X : z_Xt) (D : z_D) (m : Nat) : am_setR (z_E n X D) 0 8 (some m) = z_E n X (z_up D 60 m) := by
  unfold am_setR z_E z_up
  refine Prod.ext rfl (Prod.ext rfl (Prod.ext ?_ rfl))
  funext a b
  unfold am_u2 am_u1
  dsimp only
  split
  · next e =>
    subst e
    split
    · next e => subst e; rfl
    · next e =>
      match b, e with
      | 0, _ => rfl
      | 1, _ => rfl
      | 2, _ => rfl
      | 3, _ => rfl
      | 4, _ => rfl
      | 5, _ => rfl
      | 6, _ => rfl
      | 7, _ => rfl
      | 8, e => exact absurd rfl e
      | _ + 9, _ => rfl
  · next e =>
    match a, e with
    | 0, e => exact absurd rfl e
    | a + 1, _ =>
      unfold z_R
      cases h1 : Nat.blt (a + 1) 30 with
      | true => rfl
      | false =>
        cases h2 : Nat.beq (a + 1) 30 with
        | true =>
          cases h3 : Nat.blt b 60 with
          | true =>
            have : b ≠ 60 := by have := Nat.blt_eq.mp h3; omega
            simp [this]
          | false => rfl
        | false => rfl
theorem z_E_up30 (n : Nat) (X : z_Xt) (D : z_D) (j m : Nat) (hj : j < 60) : am_setR (z_E n X D) 30 j (some m) = z_E n X (z_up D j m) := by
  unfold am_setR z_E z_up
  refine Prod.ext rfl (Prod.ext rfl (Prod.ext ?_ rfl))
  funext a b
  unfold am_u2 am_u1
  dsimp only
  by_cases e : a = 30
  · subst e
    rw [if_pos rfl]
    show _ = (bif Nat.blt b 60 then some (if b = j then m else D.2.2 b) else none)
    split
    · next e =>
      subst e
      rw [z_blt, decide_eq_true hj]
      rfl
    · rfl
  · rw [if_neg e]
    unfold z_R
    have h2 : Nat.beq a 30 = false := by cases h : Nat.beq a 30 with | true => exact absurd (Nat.eq_of_beq_eq_true h) e | false => rfl
    rw [h2]
    have e0 : z_RA D.2.2 = z_RA (fun a => if a = j then m else D.2.2 a) := by
      unfold z_RA z_R0
      dsimp only
      rw [if_neg (by omega)]
    rw [e0]
    rfl
