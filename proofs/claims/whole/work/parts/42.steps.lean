/-! steps of the abstract machine over the pure memory -/
def z_X (o : am_O) (X : z_Xt) : z_Xt := match o with
  | .inl _ => X
  | .inr _ => (none, X.2.1 + 1, X.2.2 + 6)
/-- from this frame an end with Q is reached -/
def z_w (n d : Nat) (tb : Nat → Option am_A) (X : z_Xt) (pc : Nat) (ls : List (Option Value)) (st : List Value) (D : z_D) (Q : am_O → z_D → Prop) : Prop :=
  ∃ k, am_wp (am_ev k_tb k_ml d) tb k (pc, ls, st, z_E n X D) (fun o M' => ∃ D', M' = z_E n (z_X o X) D' ∧ Q o D')
/-- a call of the method y, d calls deep: an end with Q -/
def z_c (n d y : Nat) (as : List Value) (D : z_D) (Q : am_O → z_D → Prop) : Prop :=
  ∀ X, ∃ o D', am_ev k_tb k_ml d y as (z_E n X D) o (z_E n (z_X o X) D') ∧ Q o D'
def z_qV (K : z_D → Prop) (T : Nat → z_D → Prop) : am_O → z_D → Prop := fun o D => match o with
  | .inl none => K D
  | .inr k => T k D
  | _ => False
def z_qI (K : Int → z_D → Prop) (T : Nat → z_D → Prop) : am_O → z_D → Prop := fun o D => match o with
  | .inl (some (.int v)) => ∃ z, v = z_i z ∧ K z D
  | .inr k => T k D
  | _ => False
def z_qZ (K : Bool → z_D → Prop) (T : Nat → z_D → Prop) : am_O → z_D → Prop := fun o D => match o with
  | .inl (some (.int v)) => ∃ b, v = z_i (z_b b) ∧ K b D
  | .inr k => T k D
  | _ => False
def z_qL (K : Int64 → z_D → Prop) (T : Nat → z_D → Prop) : am_O → z_D → Prop := fun o D => match o with
  | .inl (some (.long v)) => K v D
  | .inr k => T k D
  | _ => False
def z_qR (Kn : z_D → Prop) (Kr : Nat → z_D → Prop) (T : Nat → z_D → Prop) : am_O → z_D → Prop := fun o D => match o with
  | .inl (some .null) => Kn D
  | .inl (some (.ref m)) => Kr m D
  | .inr k => T k D
  | _ => False
section ZS
variable {n d y : Nat} {tb : Nat → Option am_A} {X : z_Xt} {pc : Nat} {ls ls1 : List (Option Value)} {st st1 r as : List Value} {D D1 : z_D} {Q : am_O → z_D → Prop}
theorem z_enter {y : Nat} {l0 : List (Option Value)} (hl : (am_args as).length ≤ k_ml y) (he : am_ent (k_ml y) as = l0) (h : ∀ X, z_w n d (k_tb y) X 0 l0 [] D Q) : z_c n (d + 1) y as D Q := by
  intro X
  obtain ⟨k, hk⟩ := h X
  rw [← he] at hk
  obtain ⟨o, M', h1, D', rfl, h2⟩ := am_wp_one k _ _ hk
  exact ⟨o, D', ⟨hl, k, h1⟩, h2⟩
theorem zw_1 {a : am_A} {n1 : Nat} (ht : tb pc = some a) (ha : a ls st (z_E n X D) = some (.inl (n1, ls1, st1, z_E n X D1))) (h : z_w n d tb X n1 ls1 st1 D1 Q) : z_w n d tb X pc ls st D Q := by
  obtain ⟨k, hk⟩ := h
  refine ⟨k + 1, ?_⟩
  unfold am_wp
  dsimp only
  rw [ht]
  dsimp only
  rw [ha]
  exact hk
theorem zw_c {a : am_A} {n1 : Nat} {c : Prop} (ht : tb pc = some a) (ha : a ls st (z_E n X D) = some (.inr (.inl (c, (n1, ls1, st1, z_E n X D1))))) (hc : c) (h : z_w n d tb X n1 ls1 st1 D1 Q) : z_w n d tb X pc ls st D Q := by
  obtain ⟨k, hk⟩ := h
  refine ⟨k + 1, ?_⟩
  unfold am_wp
  dsimp only
  rw [ht]
  dsimp only
  rw [ha]
  exact ⟨hc, hk⟩
theorem zw_b {a : am_A} {n1 t : Nat} {c : Prop} (ht : tb pc = some a) (ha : a ls st (z_E n X D) = some (.inr (.inr (.inl (c, t, (n1, ls1, st1, z_E n X D)))))) (h1 : c → z_w n d tb X t ls1 st1 D Q) (h2 : ¬ c → z_w n d tb X n1 ls1 st1 D Q) : z_w n d tb X pc ls st D Q := by
  by_cases e : c
  · obtain ⟨k, hk⟩ := h1 e
    refine ⟨k + 1, ?_⟩
    unfold am_wp
    dsimp only
    rw [ht]
    dsimp only
    rw [ha]
    exact ⟨fun _ => hk, fun q => absurd e q⟩
  · obtain ⟨k, hk⟩ := h2 e
    refine ⟨k + 1, ?_⟩
    unfold am_wp
    dsimp only
    rw [ht]
    dsimp only
    rw [ha]
    exact ⟨fun q => absurd q e, fun _ => hk⟩
theorem zw_e {a : am_A} {c : Prop} {o : am_O} (ht : tb pc = some a) (ha : a ls st (z_E n X D) = some (.inr (.inr (.inr (.inr (.inr (c, o, z_E n (z_X o X) D1))))))) (hc : c) (h : Q o D1) : z_w n d tb X pc ls st D Q := by
  refine ⟨1, ?_⟩
  unfold am_wp
  dsimp only
  rw [ht]
  dsimp only
  rw [ha]
  exact ⟨hc, D1, rfl, h⟩
/-- a switch of the pure layer -/
def z_sw (x : Int) : List (Int × Prop) → Prop → Prop
  | [], P => P
  | (v, p) :: t, P => (x = v → p) ∧ (¬ x = v → z_sw x t P)
theorem zw_s {a : am_A} {n1 : Nat} {x : Int} {sw : List (Int32 × Nat)} (ht : tb pc = some a) (ha : a ls st (z_E n X D) = some (.inr (.inr (.inr (.inl (sw, z_i x, (n1, ls1, st1, z_E n X D))))))) (h : am_swp (fun t => z_w n d tb X t ls1 st1 D Q) n1 (z_i x) sw) : z_w n d tb X pc ls st D Q := by
  obtain ⟨t, h1, h2⟩ := am_swp_one sw h
  obtain ⟨k, hk⟩ := h1
  refine ⟨k + 1, ?_⟩
  unfold am_wp
  dsimp only
  rw [ht]
  dsimp only
  rw [ha]
  exact h2 _ hk
theorem z_sw1 {x z : Int} {v : Int32} {K : Nat → Prop} {dd t : Nat} {sw : List (Int32 × Nat)} (hr : z_r x) (hz : z_r z) (hv : v = z_i z) (h1 : x = z → K t) (h2 : ¬ x = z → am_swp K dd (z_i x) sw) : am_swp K dd (z_i x) ((v, t) :: sw) := by
  subst hv
  exact ⟨fun e => h1 ((z_eq hr hz).mp e), fun e => h2 (fun q => e ((z_eq hr hz).mpr q))⟩
theorem z_sw0 {x : Int} {K : Nat → Prop} {dd : Nat} (h : K dd) : am_swp K dd (z_i x) [] := h
theorem zw_call {a : am_A} {n1 : Nat} {hd : Nat → Option (Nat × Nat)} (ht : tb pc = some a) (ha : a ls st (z_E n X D) = some (.inr (.inr (.inr (.inr (.inl (y, as, hd, (n1, ls1, st1, z_E n X D)))))))) (hnh : ∀ k, hd k = none) (h : ∃ o D', am_ev k_tb k_ml d y as (z_E n X D) o (z_E n (z_X o X) D') ∧ (match o with | .inl v => z_w n d tb X n1 ls1 (v.toList ++ st1) D' Q | .inr x => Q (.inr x) D')) : z_w n d tb X pc ls st D Q := by
  obtain ⟨o, D', h1, h2⟩ := h
  cases o with
  | inl v =>
    obtain ⟨k, hk⟩ := h2
    refine ⟨k + 1, ?_⟩
    unfold am_wp
    dsimp only
    rw [ht]
    dsimp only
    rw [ha]
    exact ⟨.inl v, z_E n X D', h1, hk⟩
  | inr x =>
    refine ⟨1, ?_⟩
    unfold am_wp
    dsimp only
    rw [ht]
    dsimp only
    rw [ha]
    refine ⟨.inr x, _, h1, ?_⟩
    dsimp only
    rw [hnh]
    exact ⟨D', rfl, h2⟩
-- numbers, locals
theorem zs_push {n1 : Nat} {v : Value} (ht : tb pc = some (ac_push v n1)) (h : z_w n d tb X n1 ls (v :: st) D Q) : z_w n d tb X pc ls st D Q := zw_1 ht rfl h
theorem zs_pushI {n1 : Nat} {v : Int32} (z : Int) (ht : tb pc = some (ac_push (.int v) n1)) (hv : v = z_i z) (h : z_w n d tb X n1 ls (.int (z_i z) :: st) D Q) : z_w n d tb X pc ls st D Q := by subst hv; exact zw_1 ht rfl h
theorem zs_iload {i n1 : Nat} {x : Int32} (ht : tb pc = some (ac_iload i n1)) (hl : ls[i]? = some (some (.int x))) (h : z_w n d tb X n1 ls (.int x :: st) D Q) : z_w n d tb X pc ls st D Q := zw_1 ht (by unfold ac_iload; rw [hl]) h
theorem zs_lload {i n1 : Nat} {x : Int64} (ht : tb pc = some (ac_lload i n1)) (hl : ls[i]? = some (some (.long x))) (h : z_w n d tb X n1 ls (.long x :: st) D Q) : z_w n d tb X pc ls st D Q := zw_1 ht (by unfold ac_lload; rw [hl]) h
theorem zs_aload {i n1 : Nat} {x : Nat} (ht : tb pc = some (ac_aload i n1)) (hl : ls[i]? = some (some (.ref x))) (h : z_w n d tb X n1 ls (.ref x :: st) D Q) : z_w n d tb X pc ls st D Q := zw_1 ht (by unfold ac_aload; rw [hl]) h
theorem zs_aloadN {i n1 : Nat} (ht : tb pc = some (ac_aload i n1)) (hl : ls[i]? = some (some .null)) (h : z_w n d tb X n1 ls (.null :: st) D Q) : z_w n d tb X pc ls st D Q := zw_1 ht (by unfold ac_aload; rw [hl]) h
/-- no long: a place in front of which something may be stored -/
def z_nl (o : Option Value) : Prop := match o with
  | some (.long _) => False
  | some (.double _) => False
  | _ => True
theorem z_st1 {j : Nat} {o : Option Value} {v : Value} (hl : ls[j]? = some o) (h : z_nl o) : am_st1 ls (j + 1) v = ls.set (j + 1) (some v) := by
  unfold am_st1
  dsimp only
  rw [hl]
  cases o with
  | none => rfl
  | some w => cases w <;> first | rfl | exact False.elim h
theorem zs_istore {i n1 : Nat} {x : Int32} (ht : tb pc = some (ac_istore i n1)) (hi : Nat.blt i ls.length = true) (hl : am_st1 ls i (.int x) = ls1) (h : z_w n d tb X n1 ls1 st D Q) : z_w n d tb X pc ls (.int x :: st) D Q := zw_1 ht (by unfold ac_istore; dsimp only; rw [if_pos (Nat.blt_eq.mp hi), hl]) h
theorem zs_lstore {i n1 : Nat} {x : Int64} (ht : tb pc = some (ac_lstore i n1)) (hi : Nat.blt (i + 1) ls.length = true) (hl : (am_st1 ls i (.long x)).set (i + 1) none = ls1) (h : z_w n d tb X n1 ls1 st D Q) : z_w n d tb X pc ls (.long x :: st) D Q := zw_1 ht (by unfold ac_lstore am_st2; dsimp only; rw [if_pos (Nat.blt_eq.mp hi), hl]) h
theorem zs_astore {i n1 : Nat} {x : Nat} (ht : tb pc = some (ac_astore i n1)) (hi : Nat.blt i ls.length = true) (hl : am_st1 ls i (.ref x) = ls1) (h : z_w n d tb X n1 ls1 st D Q) : z_w n d tb X pc ls (.ref x :: st) D Q := zw_1 ht (by unfold ac_astore; dsimp only; rw [if_pos (Nat.blt_eq.mp hi), hl]) h
theorem zs_astoreN {i n1 : Nat} (ht : tb pc = some (ac_astore i n1)) (hi : Nat.blt i ls.length = true) (hl : am_st1 ls i .null = ls1) (h : z_w n d tb X n1 ls1 st D Q) : z_w n d tb X pc ls (.null :: st) D Q := zw_1 ht (by unfold ac_astore; dsimp only; rw [if_pos (Nat.blt_eq.mp hi), hl]) h
theorem zs_iinc {i n1 : Nat} {a : Int} {c : Int32} (z : Int) (ht : tb pc = some (ac_iinc i c n1)) (hl : ls[i]? = some (some (.int (z_i a)))) (hc : c = z_i z) (h1 : am_st1 ls i (.int (z_i (a + z))) = ls1) (h : z_w n d tb X n1 ls1 st D Q) : z_w n d tb X pc ls st D Q := zw_1 ht (by unfold ac_iinc; rw [hl]; dsimp only; rw [hc, z_add, h1]) h
theorem zs_add {n1 : Nat} {a b : Int} (ht : tb pc = some (ac_ii (fun x y => x + y) n1)) (h : z_w n d tb X n1 ls (.int (z_i (a + b)) :: st) D Q) : z_w n d tb X pc ls (.int (z_i b) :: .int (z_i a) :: st) D Q := zw_1 ht (by unfold ac_ii; dsimp only; rw [z_add]) h
theorem zs_sub {n1 : Nat} {a b : Int} (ht : tb pc = some (ac_ii (fun x y => x - y) n1)) (h : z_w n d tb X n1 ls (.int (z_i (a - b)) :: st) D Q) : z_w n d tb X pc ls (.int (z_i b) :: .int (z_i a) :: st) D Q := zw_1 ht (by unfold ac_ii; dsimp only; rw [z_sub]) h
theorem zs_mul {n1 : Nat} {a b : Int} (ht : tb pc = some (ac_ii (fun x y => x * y) n1)) (h : z_w n d tb X n1 ls (.int (z_i (a * b)) :: st) D Q) : z_w n d tb X pc ls (.int (z_i b) :: .int (z_i a) :: st) D Q := zw_1 ht (by unfold ac_ii; dsimp only; rw [z_mul]) h
theorem zs_and {n1 : Nat} {a b : Int} (ht : tb pc = some (ac_ii (fun x y => x &&& y) n1)) (h : z_w n d tb X n1 ls (.int (z_i (z_and a b)) :: st) D Q) : z_w n d tb X pc ls (.int (z_i b) :: .int (z_i a) :: st) D Q := zw_1 ht (by unfold ac_ii z_and; dsimp only; rw [z_i_of]) h
theorem zs_or {n1 : Nat} {a b : Int} (ht : tb pc = some (ac_ii (fun x y => x ||| y) n1)) (h : z_w n d tb X n1 ls (.int (z_i (z_or a b)) :: st) D Q) : z_w n d tb X pc ls (.int (z_i b) :: .int (z_i a) :: st) D Q := zw_1 ht (by unfold ac_ii z_or; dsimp only; rw [z_i_of]) h
theorem zs_shr {n1 : Nat} {a b : Int} (ht : tb pc = some (ac_ii (fun x y => x >>> (y &&& 31)) n1)) (h : z_w n d tb X n1 ls (.int (z_i (z_shr a b)) :: st) D Q) : z_w n d tb X pc ls (.int (z_i b) :: .int (z_i a) :: st) D Q := zw_1 ht (by unfold ac_ii z_shr; dsimp only; rw [z_i_of]) h
theorem z_max {a b : Int} (ha : z_r a) (hb : z_r b) : (if z_i a < z_i b then z_i b else z_i a) = z_i (max a b) := by
  by_cases h : a < b
  · rw [if_pos ((z_lt ha hb).mpr h), Int.max_eq_right (Int.le_of_lt h)]
  · rw [if_neg (fun q => h ((z_lt ha hb).mp q)), Int.max_eq_left (Int.not_lt.mp h)]
theorem zs_max {n1 : Nat} {a b : Int} (ht : tb pc = some (ac_max n1)) (ha : z_r a) (hb : z_r b) (hc : Nat.ble (st.map fun v => v.category).sum 8 = true) (h : z_w n d tb X n1 ls (.int (z_i (max a b)) :: st) D Q) : z_w n d tb X pc ls (.int (z_i b) :: .int (z_i a) :: st) D Q := zw_1 ht (by unfold ac_max; dsimp only; rw [if_pos (Nat.le_of_ble_eq_true hc), z_max ha hb]) h
theorem zs_ll {n1 : Nat} {f : Int64 → Int64 → Int64} {a b : Int64} (ht : tb pc = some (ac_ll f n1)) (h : z_w n d tb X n1 ls (.long (f a b) :: st) D Q) : z_w n d tb X pc ls (.long b :: .long a :: st) D Q := zw_1 ht rfl h
theorem zs_li {n1 : Nat} {f : Int64 → Int32 → Int64} {a : Int64} {b : Int} (ht : tb pc = some (ac_li f n1)) (h : z_w n d tb X n1 ls (.long (f a (z_i b)) :: st) D Q) : z_w n d tb X pc ls (.int (z_i b) :: .long a :: st) D Q := zw_1 ht rfl h
theorem zs_cmp {n1 : Nat} {a b : Int64} (ht : tb pc = some (ac_lli lg_cmp n1)) (h : z_w n d tb X n1 ls (.int (z_i (z_cmp a b)) :: st) D Q) : z_w n d tb X pc ls (.long b :: .long a :: st) D Q := zw_1 ht (by unfold ac_lli z_cmp; dsimp only; rw [z_i_of]) h
theorem zs_il {n1 : Nat} {a : Int} (ht : tb pc = some (ac_il (fun x => x.toInt64) n1)) (h : z_w n d tb X n1 ls (.long (z_il a) :: st) D Q) : z_w n d tb X pc ls (.int (z_i a) :: st) D Q := zw_1 ht rfl h
theorem zs_l2 {n1 : Nat} {a : Int64} (ht : tb pc = some (ac_l2 (fun x => x.toInt32) n1)) (h : z_w n d tb X n1 ls (.int (z_i (z_li a)) :: st) D Q) : z_w n d tb X pc ls (.long a :: st) D Q := zw_1 ht (by unfold ac_l2 z_li; dsimp only; rw [z_i_of]) h
theorem zs_dup {n1 : Nat} {v : Value} (ht : tb pc = some (ac_dup n1)) (hv : v.category = 1) (h : z_w n d tb X n1 ls (v :: v :: st) D Q) : z_w n d tb X pc ls (v :: st) D Q := zw_1 ht (by unfold ac_dup; dsimp only; rw [if_pos hv]) h
theorem zs_pop {n1 : Nat} {v : Value} (ht : tb pc = some (ac_pop n1)) (hv : v.category = 1) (h : z_w n d tb X n1 ls st D Q) : z_w n d tb X pc ls (v :: st) D Q := zw_1 ht (by unfold ac_pop; dsimp only; rw [if_pos hv]) h
theorem zs_dup2 {n1 : Nat} {v w : Value} (ht : tb pc = some (ac_dup2 n1)) (hv : v.category = 1) (hw : w.category = 1) (h : z_w n d tb X n1 ls (v :: w :: v :: w :: st) D Q) : z_w n d tb X pc ls (v :: w :: st) D Q := zw_1 ht (by unfold ac_dup2; dsimp only; rw [if_pos ⟨hv, hw⟩]) h
theorem zs_goto {t : Nat} (ht : tb pc = some (ac_goto t)) (h : z_w n d tb X t ls st D Q) : z_w n d tb X pc ls st D Q := zw_1 ht rfl h
-- branches
theorem zs_ifeq {t n1 : Nat} {a : Int} (ht : tb pc = some (ac_if1 (fun x => x = 0) t n1)) (ha : z_r a) (h1 : a = 0 → z_w n d tb X t ls st D Q) (h2 : ¬ a = 0 → z_w n d tb X n1 ls st D Q) : z_w n d tb X pc ls (.int (z_i a) :: st) D Q := zw_b ht rfl (fun e => h1 ((z_eq ha z_r0).mp e)) (fun e => h2 (fun q => e ((z_eq ha z_r0).mpr q)))
theorem zs_ifne {t n1 : Nat} {a : Int} (ht : tb pc = some (ac_if1 (fun x => ¬ x = 0) t n1)) (ha : z_r a) (h1 : ¬ a = 0 → z_w n d tb X t ls st D Q) (h2 : a = 0 → z_w n d tb X n1 ls st D Q) : z_w n d tb X pc ls (.int (z_i a) :: st) D Q := zw_b ht rfl (fun e => h1 (fun q => e ((z_eq ha z_r0).mpr q))) (fun e => h2 ((z_eq ha z_r0).mp (Classical.not_not.mp e)))
theorem zs_iflt {t n1 : Nat} {a : Int} (ht : tb pc = some (ac_if1 (fun x => x < 0) t n1)) (ha : z_r a) (h1 : a < 0 → z_w n d tb X t ls st D Q) (h2 : 0 ≤ a → z_w n d tb X n1 ls st D Q) : z_w n d tb X pc ls (.int (z_i a) :: st) D Q := zw_b ht rfl (fun e => h1 ((z_lt ha z_r0).mp e)) (fun e => h2 (Int.not_lt.mp (fun q => e ((z_lt ha z_r0).mpr q))))
theorem zs_ifge {t n1 : Nat} {a : Int} (ht : tb pc = some (ac_if1 (fun x => 0 ≤ x) t n1)) (ha : z_r a) (h1 : 0 ≤ a → z_w n d tb X t ls st D Q) (h2 : a < 0 → z_w n d tb X n1 ls st D Q) : z_w n d tb X pc ls (.int (z_i a) :: st) D Q := zw_b ht rfl (fun e => h1 ((z_le z_r0 ha).mp e)) (fun e => h2 (Int.not_le.mp (fun q => e ((z_le z_r0 ha).mpr q))))
theorem zs_ifgt {t n1 : Nat} {a : Int} (ht : tb pc = some (ac_if1 (fun x => 0 < x) t n1)) (ha : z_r a) (h1 : 0 < a → z_w n d tb X t ls st D Q) (h2 : a ≤ 0 → z_w n d tb X n1 ls st D Q) : z_w n d tb X pc ls (.int (z_i a) :: st) D Q := zw_b ht rfl (fun e => h1 ((z_lt z_r0 ha).mp e)) (fun e => h2 (Int.not_lt.mp (fun q => e ((z_lt z_r0 ha).mpr q))))
theorem zs_ifle {t n1 : Nat} {a : Int} (ht : tb pc = some (ac_if1 (fun x => x ≤ 0) t n1)) (ha : z_r a) (h1 : a ≤ 0 → z_w n d tb X t ls st D Q) (h2 : 0 < a → z_w n d tb X n1 ls st D Q) : z_w n d tb X pc ls (.int (z_i a) :: st) D Q := zw_b ht rfl (fun e => h1 ((z_le ha z_r0).mp e)) (fun e => h2 (Int.not_le.mp (fun q => e ((z_le ha z_r0).mpr q))))
theorem zs_ceq {t n1 : Nat} {a b : Int} (ht : tb pc = some (ac_if2 (fun x y => x = y) t n1)) (ha : z_r a) (hb : z_r b) (h1 : a = b → z_w n d tb X t ls st D Q) (h2 : ¬ a = b → z_w n d tb X n1 ls st D Q) : z_w n d tb X pc ls (.int (z_i b) :: .int (z_i a) :: st) D Q := zw_b ht rfl (fun e => h1 ((z_eq ha hb).mp e)) (fun e => h2 (fun q => e ((z_eq ha hb).mpr q)))
theorem zs_cne {t n1 : Nat} {a b : Int} (ht : tb pc = some (ac_if2 (fun x y => ¬ x = y) t n1)) (ha : z_r a) (hb : z_r b) (h1 : ¬ a = b → z_w n d tb X t ls st D Q) (h2 : a = b → z_w n d tb X n1 ls st D Q) : z_w n d tb X pc ls (.int (z_i b) :: .int (z_i a) :: st) D Q := zw_b ht rfl (fun e => h1 (fun q => e ((z_eq ha hb).mpr q))) (fun e => h2 ((z_eq ha hb).mp (Classical.not_not.mp e)))
theorem zs_clt {t n1 : Nat} {a b : Int} (ht : tb pc = some (ac_if2 (fun x y => x < y) t n1)) (ha : z_r a) (hb : z_r b) (h1 : a < b → z_w n d tb X t ls st D Q) (h2 : b ≤ a → z_w n d tb X n1 ls st D Q) : z_w n d tb X pc ls (.int (z_i b) :: .int (z_i a) :: st) D Q := zw_b ht rfl (fun e => h1 ((z_lt ha hb).mp e)) (fun e => h2 (Int.not_lt.mp (fun q => e ((z_lt ha hb).mpr q))))
theorem zs_cge {t n1 : Nat} {a b : Int} (ht : tb pc = some (ac_if2 (fun x y => y ≤ x) t n1)) (ha : z_r a) (hb : z_r b) (h1 : b ≤ a → z_w n d tb X t ls st D Q) (h2 : a < b → z_w n d tb X n1 ls st D Q) : z_w n d tb X pc ls (.int (z_i b) :: .int (z_i a) :: st) D Q := zw_b ht rfl (fun e => h1 ((z_le hb ha).mp e)) (fun e => h2 (Int.not_le.mp (fun q => e ((z_le hb ha).mpr q))))
theorem zs_cgt {t n1 : Nat} {a b : Int} (ht : tb pc = some (ac_if2 (fun x y => y < x) t n1)) (ha : z_r a) (hb : z_r b) (h1 : b < a → z_w n d tb X t ls st D Q) (h2 : a ≤ b → z_w n d tb X n1 ls st D Q) : z_w n d tb X pc ls (.int (z_i b) :: .int (z_i a) :: st) D Q := zw_b ht rfl (fun e => h1 ((z_lt hb ha).mp e)) (fun e => h2 (Int.not_lt.mp (fun q => e ((z_lt hb ha).mpr q))))
theorem zs_cle {t n1 : Nat} {a b : Int} (ht : tb pc = some (ac_if2 (fun x y => x ≤ y) t n1)) (ha : z_r a) (hb : z_r b) (h1 : a ≤ b → z_w n d tb X t ls st D Q) (h2 : b < a → z_w n d tb X n1 ls st D Q) : z_w n d tb X pc ls (.int (z_i b) :: .int (z_i a) :: st) D Q := zw_b ht rfl (fun e => h1 ((z_le ha hb).mp e)) (fun e => h2 (Int.not_le.mp (fun q => e ((z_le ha hb).mpr q))))
/-- tests of a boolean -/
theorem z_bi0 {b : Bool} : z_i (z_b b) = 0 ↔ b = false := by cases b <;> decide
theorem zs_beq {t n1 : Nat} {b : Bool} (ht : tb pc = some (ac_if1 (fun x => x = 0) t n1)) (h1 : b = false → z_w n d tb X t ls st D Q) (h2 : b = true → z_w n d tb X n1 ls st D Q) : z_w n d tb X pc ls (.int (z_i (z_b b)) :: st) D Q := zw_b ht rfl (fun e => h1 (z_bi0.mp e)) (fun e => h2 (by cases b with | true => rfl | false => exact absurd (z_bi0.mpr rfl) e))
theorem zs_bne {t n1 : Nat} {b : Bool} (ht : tb pc = some (ac_if1 (fun x => ¬ x = 0) t n1)) (h1 : b = true → z_w n d tb X t ls st D Q) (h2 : b = false → z_w n d tb X n1 ls st D Q) : z_w n d tb X pc ls (.int (z_i (z_b b)) :: st) D Q := zw_b ht rfl (fun e => h1 (by cases b with | true => rfl | false => exact absurd (z_bi0.mpr rfl) e)) (fun e => h2 (z_bi0.mp (Classical.not_not.mp e)))
theorem zs_nullN {t n1 : Nat} (ht : tb pc = some (ac_ifnull t n1)) (h : z_w n d tb X t ls st D Q) : z_w n d tb X pc ls (.null :: st) D Q := zw_1 ht rfl h
theorem zs_nullR {t n1 m : Nat} (ht : tb pc = some (ac_ifnull t n1)) (h : z_w n d tb X n1 ls st D Q) : z_w n d tb X pc ls (.ref m :: st) D Q := zw_1 ht rfl h
theorem zs_nonnullN {t n1 : Nat} (ht : tb pc = some (ac_ifnonnull t n1)) (h : z_w n d tb X n1 ls st D Q) : z_w n d tb X pc ls (.null :: st) D Q := zw_1 ht rfl h
theorem zs_nonnullR {t n1 m : Nat} (ht : tb pc = some (ac_ifnonnull t n1)) (h : z_w n d tb X t ls st D Q) : z_w n d tb X pc ls (.ref m :: st) D Q := zw_1 ht rfl h
-- the ends
theorem zs_ret {K : z_D → Prop} {T : Nat → z_D → Prop} (ht : tb pc = some ac_ret) (h : K D) : z_w n d tb X pc ls [] D (z_qV K T) := zw_e (o := .inl none) ht rfl trivial h
theorem zs_iret {a : Int} {K : Int → z_D → Prop} {T : Nat → z_D → Prop} (ht : tb pc = some ac_iret) (h : K a D) : z_w n d tb X pc ls [.int (z_i a)] D (z_qI K T) := zw_e (o := .inl (some (.int (z_i a)))) ht rfl trivial ⟨a, rfl, h⟩
theorem zs_zret {b : Bool} {K : Bool → z_D → Prop} {T : Nat → z_D → Prop} (ht : tb pc = some ac_zret) (h : K b D) : z_w n d tb X pc ls [.int (z_i (z_b b))] D (z_qZ K T) := zw_e (o := .inl (some (.int (z_i (z_b b))))) ht rfl (by cases b <;> decide) ⟨b, rfl, h⟩
theorem zs_zretI {a : Int} {K : Bool → z_D → Prop} {T : Nat → z_D → Prop} (ht : tb pc = some ac_zret) (h : (a = 0 ∧ K false D) ∨ (a = 1 ∧ K true D)) : z_w n d tb X pc ls [.int (z_i a)] D (z_qZ K T) := by
  rcases h with ⟨rfl, h⟩ | ⟨rfl, h⟩
  · exact zs_zret (b := false) ht h
  · exact zs_zret (b := true) ht h
theorem zs_lret {a : Int64} {K : Int64 → z_D → Prop} {T : Nat → z_D → Prop} (ht : tb pc = some ac_lret) (h : K a D) : z_w n d tb X pc ls [.long a] D (z_qL K T) := zw_e (o := .inl (some (.long a))) ht rfl trivial h
theorem zs_aret {m : Nat} {Kn : z_D → Prop} {Kr : Nat → z_D → Prop} {T : Nat → z_D → Prop} (ht : tb pc = some ac_aret) (h : Kr m D) : z_w n d tb X pc ls [.ref m] D (z_qR Kn Kr T) := zw_e (o := .inl (some (.ref m))) ht rfl trivial h
theorem zs_aretN {Kn : z_D → Prop} {Kr : Nat → z_D → Prop} {T : Nat → z_D → Prop} (ht : tb pc = some ac_aret) (h : Kn D) : z_w n d tb X pc ls [.null] D (z_qR Kn Kr T) := zw_e (o := .inl (some .null)) ht rfl trivial h
theorem zs_throw {kd : Nat} (ht : tb pc = some (ac_throw kd)) (h : Q (.inr kd) D) : z_w n d tb X pc ls [] D Q := zw_e (o := .inr kd) ht rfl trivial h
-- fields and arrays
theorem z_E_sh : am_sh (z_E n X D) = z_sh n := rfl
theorem zs_getI {ci j n1 k : Nat} (ht : tb pc = some (ac_get 0 ci j n1)) (hs : z_sh n k = some (.inl ci)) (h : z_w n d tb X n1 ls (.int (z_i (D.1 k j)) :: st) D Q) : z_w n d tb X pc ls (.ref k :: st) D Q := zw_1 ht (by unfold ac_get; dsimp only; rw [z_E_sh, hs]; dsimp only; rw [if_pos rfl]; rfl) h
theorem zs_getL {ci j n1 k : Nat} (ht : tb pc = some (ac_get 1 ci j n1)) (hs : z_sh n k = some (.inl ci)) (h : z_w n d tb X n1 ls (.long (D.2.1 k j) :: st) D Q) : z_w n d tb X pc ls (.ref k :: st) D Q := zw_1 ht (by unfold ac_get; dsimp only; rw [z_E_sh, hs]; dsimp only; rw [if_pos rfl]; rfl) h
theorem zs_getR {ci j n1 k x : Nat} (ht : tb pc = some (ac_get 2 ci j n1)) (hs : z_sh n k = some (.inl ci)) (hR : z_R D.2.2 k j = some x) (h : z_w n d tb X n1 ls (.ref x :: st) D Q) : z_w n d tb X pc ls (.ref k :: st) D Q := zw_1 ht (by unfold ac_get; dsimp only; rw [z_E_sh, hs]; dsimp only; rw [if_pos rfl]; show some (Sum.inl (n1, ls, am_rv (z_R D.2.2 k j) :: st, _)) = _; rw [hR]; rfl) h
theorem zs_putI {ci j n1 k : Nat} {a : Int} (ht : tb pc = some (ac_putI ci j n1)) (hs : z_sh n k = some (.inl ci)) (h : ∀ D1, D1 = (z_uz D k j a) → z_w n d tb X n1 ls st D1 Q) : z_w n d tb X pc ls (.int (z_i a) :: .ref k :: st) D Q := zw_1 ht (by unfold ac_putI; dsimp only; rw [z_E_sh, hs]; dsimp only; rw [if_pos rfl, z_E_uz]) (h _ rfl)
theorem zs_putL {ci j n1 k : Nat} {a : Int64} (ht : tb pc = some (ac_putL ci j n1)) (hs : z_sh n k = some (.inl ci)) (h : ∀ D1, D1 = (z_ul D k j a) → z_w n d tb X n1 ls st D1 Q) : z_w n d tb X pc ls (.long a :: .ref k :: st) D Q := zw_1 ht (by unfold ac_putL; dsimp only; rw [z_E_sh, hs]; dsimp only; rw [if_pos rfl, z_E_ul]) (h _ rfl)
theorem zs_putDraft {n1 m : Nat} (ht : tb pc = some (ac_putR 5 8 n1)) (h : ∀ D1, D1 = (z_up D 60 m) → z_w n d tb X n1 ls st D1 Q) : z_w n d tb X pc ls (.ref m :: .ref 0 :: st) D Q := zw_1 ht (by unfold ac_putR; dsimp only; rw [z_E_sh, show z_sh n 0 = some (.inl 5) from rfl]; dsimp only; rw [if_pos rfl, z_E_up0]) (h _ rfl)
theorem zs_iald {kd n1 k w : Nat} {i : Int} (ht : tb pc = some (ac_iald kd n1)) (hs : z_sh n k = some (.inr (kd, w))) (hw : w ≤ 1000000) (hi : 0 ≤ i ∧ i < w) (h : z_w n d tb X n1 ls (.int (z_i (D.1 k i.toNat)) :: st) D Q) : z_w n d tb X pc ls (.int (z_i i) :: .ref k :: st) D Q := zw_c ht (by unfold ac_iald; dsimp only; rw [z_E_sh, hs]; dsimp only; rw [if_pos rfl, z_nat hi.1 (by omega)]; rfl) (z_in hi.1 hi.2 hw) h
theorem zs_lald {n1 k w : Nat} {i : Int} (ht : tb pc = some (ac_lald n1)) (hs : z_sh n k = some (.inr (1, w))) (hw : w ≤ 1000000) (hi : 0 ≤ i ∧ i < w) (h : z_w n d tb X n1 ls (.long (D.2.1 k i.toNat) :: st) D Q) : z_w n d tb X pc ls (.int (z_i i) :: .ref k :: st) D Q := zw_c ht (by unfold ac_lald; dsimp only; rw [z_E_sh, hs]; dsimp only; rw [if_pos rfl, z_nat hi.1 (by omega)]; rfl) (z_in hi.1 hi.2 hw) h
theorem zs_aald {kd n1 k w x : Nat} {i : Int} (ht : tb pc = some (ac_aald kd n1)) (hs : z_sh n k = some (.inr (kd, w))) (hw : w ≤ 1000000) (hi : 0 ≤ i ∧ i < w) (hR : z_R D.2.2 k i.toNat = some x) (h : z_w n d tb X n1 ls (.ref x :: st) D Q) : z_w n d tb X pc ls (.int (z_i i) :: .ref k :: st) D Q := zw_c ht (by unfold ac_aald; dsimp only; rw [z_E_sh, hs]; dsimp only; rw [if_pos rfl, z_nat hi.1 (by omega)]; show some (Sum.inr (Sum.inl (_, n1, ls, am_rv (z_R D.2.2 k i.toNat) :: st, _))) = _; rw [hR]; rfl) (z_in hi.1 hi.2 hw) h
theorem zs_iast {n1 k w : Nat} {i a : Int} (ht : tb pc = some (ac_iast n1)) (hs : z_sh n k = some (.inr (0, w))) (hw : w ≤ 1000000) (hi : 0 ≤ i ∧ i < w) (h : ∀ D1, D1 = (z_uz D k i.toNat a) → z_w n d tb X n1 ls st D1 Q) : z_w n d tb X pc ls (.int (z_i a) :: .int (z_i i) :: .ref k :: st) D Q := zw_c ht (by unfold ac_iast; dsimp only; rw [z_E_sh, hs]; dsimp only; rw [if_pos rfl, z_nat hi.1 (by omega), z_E_uz]) (z_in hi.1 hi.2 hw) (h _ rfl)
theorem zs_zast {n1 k w : Nat} {i : Int} {b : Bool} (ht : tb pc = some (ac_zast n1)) (hs : z_sh n k = some (.inr (2, w))) (hw : w ≤ 1000000) (hi : 0 ≤ i ∧ i < w) (h : ∀ D1, D1 = (z_uz D k i.toNat (z_b b)) → z_w n d tb X n1 ls st D1 Q) : z_w n d tb X pc ls (.int (z_i (z_b b)) :: .int (z_i i) :: .ref k :: st) D Q := zw_c (c := vp_in (z_i i) w ∧ (z_i (z_b b) = 0 ∨ z_i (z_b b) = 1)) ht (by unfold ac_zast; dsimp only; rw [z_E_sh, hs]; dsimp only; rw [if_pos rfl, z_nat hi.1 (by omega), z_E_uz]) ⟨z_in hi.1 hi.2 hw, by cases b <;> decide⟩ (h _ rfl)
theorem zs_last {n1 k w : Nat} {i : Int} {a : Int64} (ht : tb pc = some (ac_last n1)) (hs : z_sh n k = some (.inr (1, w))) (hw : w ≤ 1000000) (hi : 0 ≤ i ∧ i < w) (h : ∀ D1, D1 = (z_ul D k i.toNat a) → z_w n d tb X n1 ls st D1 Q) : z_w n d tb X pc ls (.long a :: .int (z_i i) :: .ref k :: st) D Q := zw_c ht (by unfold ac_last; dsimp only; rw [z_E_sh, hs]; dsimp only; rw [if_pos rfl, z_nat hi.1 (by omega), z_E_ul]) (z_in hi.1 hi.2 hw) (h _ rfl)
theorem zs_aast {n1 m : Nat} {i : Int} (ht : tb pc = some (ac_aast 4 1 n1)) (hm : z_mc m) (hi : 0 ≤ i ∧ i < 60) (h : ∀ D1, D1 = (z_up D i.toNat m) → z_w n d tb X n1 ls st D1 Q) : z_w n d tb X pc ls (.ref m :: .int (z_i i) :: .ref 30 :: st) D Q := zw_c ht (by unfold ac_aast; dsimp only; rw [z_E_sh, show z_sh n 30 = some (.inr (4, 60)) from rfl]; dsimp only; rw [if_pos rfl, z_sh_m0 hm]; dsimp only; rw [if_pos rfl, z_nat hi.1 (by omega), z_E_up30 _ _ _ _ _ (by omega)]) (z_in hi.1 hi.2 (by decide)) (h _ rfl)
theorem zs_alen {n1 k kd w : Nat} (ht : tb pc = some (ac_alen n1)) (hs : z_sh n k = some (.inr (kd, w))) (hk : kd ≠ 5) (h : z_w n d tb X n1 ls (.int (z_i w) :: st) D Q) : z_w n d tb X pc ls (.ref k :: st) D Q := zw_1 ht (by unfold ac_alen; dsimp only; rw [z_E_sh, hs]; dsimp only; rw [if_neg hk, show z_i w = Int32.ofNat w from Int32.ofInt_eq_ofNat]) h
/-- a copy of a row's items -/
def z_cp (D : z_D) (ka kb : Nat) (sp dp len : Nat) : z_D := (am_u1 D.1 kb (va_cpy (D.1 ka) (D.1 kb) sp dp len), D.2)
theorem zs_copy {n1 k w : Nat} {sp dp len : Int} (ht : tb pc = some (ac_copy n1)) (hs : z_sh n k = some (.inr (0, w))) (hw : w ≤ 1000000) (hc : (st.map fun v => v.category).sum ≤ 8) (hi : 0 ≤ sp ∧ 0 ≤ dp ∧ 0 ≤ len ∧ sp + len ≤ w ∧ dp + len ≤ w) (h : ∀ D1, D1 = (z_cp D k k sp.toNat dp.toNat len.toNat) → z_w n d tb X n1 ls st D1 Q) : z_w n d tb X pc ls (.int (z_i len) :: .int (z_i dp) :: .ref k :: .int (z_i sp) :: .ref k :: st) D Q := by
  obtain ⟨h1, h2, h3, h4, h5⟩ := hi
  refine zw_c (c := ¬ z_i sp < 0 ∧ ¬ z_i dp < 0 ∧ ¬ z_i len < 0 ∧ (z_i sp).toNatClampNeg + (z_i len).toNatClampNeg ≤ w ∧ (z_i dp).toNatClampNeg + (z_i len).toNatClampNeg ≤ w) ht ?_ ?_ (h _ rfl)
  · unfold ac_copy; dsimp only; rw [z_E_sh, hs]
    show (if (st.map fun v => v.category).sum ≤ 8 then _ else none) = _
    rw [if_pos hc]
    rw [z_nat h1 (by omega), z_nat h2 (by omega), z_nat h3 (by omega)]
    congr 7
    unfold z_cp am_u1 va_cpy z_E
    refine Prod.ext ?_ rfl
    funext a b
    dsimp only
    split
    · dsimp only; split <;> rfl
    · rfl
  · rw [z_nat h1 (by omega), z_nat h2 (by omega), z_nat h3 (by omega)]
    refine ⟨?_, ?_, ?_, by omega, by omega⟩
    · rw [z_i0, z_lt ⟨by omega, by omega⟩ z_r0]; omega
    · rw [z_i0, z_lt ⟨by omega, by omega⟩ z_r0]; omega
    · rw [z_i0, z_lt ⟨by omega, by omega⟩ z_r0]; omega
-- calls
theorem z_callV {ci n0 n1 k : Nat} {as0 : List Value} (ht : tb pc = some (ac_callV ci y n0 n1 am_nohd)) (hsp : am_split n0 st [] = some (.ref k :: as0, r)) (hs : z_sh n k = some (.inl ci)) (hc : (r.map fun v => v.category).sum ≤ 8) (h : ∃ o D', am_ev k_tb k_ml d y (.ref k :: as0) (z_E n X D) o (z_E n (z_X o X) D') ∧ (match o with | .inl v => z_w n d tb X n1 ls (v.toList ++ r) D' Q | .inr x => Q (.inr x) D')) : z_w n d tb X pc ls st D Q :=
  zw_call (hd := am_nohd) ht (by unfold ac_callV; rw [hsp]; dsimp only; rw [z_E_sh, hs]; dsimp only; rw [if_pos ⟨rfl, hc⟩]) (fun _ => rfl) h
theorem z_callS {n0 n1 : Nat} {as0 : List Value} (ht : tb pc = some (ac_callS y n0 n1)) (hsp : am_split n0 st [] = some (as0, r)) (hc : (r.map fun v => v.category).sum ≤ 8) (h : ∃ o D', am_ev k_tb k_ml d y as0 (z_E n X D) o (z_E n (z_X o X) D') ∧ (match o with | .inl v => z_w n d tb X n1 ls (v.toList ++ r) D' Q | .inr x => Q (.inr x) D')) : z_w n d tb X pc ls st D Q :=
  zw_call (hd := am_nohd) ht (by unfold ac_callS; rw [hsp]; dsimp only; rw [if_pos hc]) (fun _ => rfl) h
theorem z_oV {n1 : Nat} {K : z_D → Prop} {T : Nat → z_D → Prop} (h : z_c n d y as D (z_qV K T)) (hK : ∀ D', K D' → z_w n d tb X n1 ls r D' Q) (hT : ∀ k D', T k D' → Q (.inr k) D') : ∃ o D', am_ev k_tb k_ml d y as (z_E n X D) o (z_E n (z_X o X) D') ∧ (match o with | .inl v => z_w n d tb X n1 ls (v.toList ++ r) D' Q | .inr x => Q (.inr x) D') := by
  obtain ⟨o, D', h1, h2⟩ := h X
  refine ⟨o, D', h1, ?_⟩
  cases o with
  | inr k => exact hT k D' h2
  | inl v => cases v with
    | none => exact hK D' h2
    | some v => exact False.elim h2
theorem z_oI {n1 : Nat} {K : Int → z_D → Prop} {T : Nat → z_D → Prop} (h : z_c n d y as D (z_qI K T)) (hK : ∀ v D', K v D' → z_w n d tb X n1 ls (.int (z_i v) :: r) D' Q) (hT : ∀ k D', T k D' → Q (.inr k) D') : ∃ o D', am_ev k_tb k_ml d y as (z_E n X D) o (z_E n (z_X o X) D') ∧ (match o with | .inl v => z_w n d tb X n1 ls (v.toList ++ r) D' Q | .inr x => Q (.inr x) D') := by
  obtain ⟨o, D', h1, h2⟩ := h X
  refine ⟨o, D', h1, ?_⟩
  cases o with
  | inr k => exact hT k D' h2
  | inl v => cases v with
    | none => exact False.elim h2
    | some v => cases v with
      | int v =>
        obtain ⟨z, rfl, h3⟩ := h2
        exact hK z D' h3
      | _ => exact False.elim h2
theorem z_oZ {n1 : Nat} {K : Bool → z_D → Prop} {T : Nat → z_D → Prop} (h : z_c n d y as D (z_qZ K T)) (hK : ∀ v D', K v D' → z_w n d tb X n1 ls (.int (z_i (z_b v)) :: r) D' Q) (hT : ∀ k D', T k D' → Q (.inr k) D') : ∃ o D', am_ev k_tb k_ml d y as (z_E n X D) o (z_E n (z_X o X) D') ∧ (match o with | .inl v => z_w n d tb X n1 ls (v.toList ++ r) D' Q | .inr x => Q (.inr x) D') := by
  obtain ⟨o, D', h1, h2⟩ := h X
  refine ⟨o, D', h1, ?_⟩
  cases o with
  | inr k => exact hT k D' h2
  | inl v => cases v with
    | none => exact False.elim h2
    | some v => cases v with
      | int v =>
        obtain ⟨z, rfl, h3⟩ := h2
        exact hK z D' h3
      | _ => exact False.elim h2
theorem z_oL {n1 : Nat} {K : Int64 → z_D → Prop} {T : Nat → z_D → Prop} (h : z_c n d y as D (z_qL K T)) (hK : ∀ v D', K v D' → z_w n d tb X n1 ls (.long v :: r) D' Q) (hT : ∀ k D', T k D' → Q (.inr k) D') : ∃ o D', am_ev k_tb k_ml d y as (z_E n X D) o (z_E n (z_X o X) D') ∧ (match o with | .inl v => z_w n d tb X n1 ls (v.toList ++ r) D' Q | .inr x => Q (.inr x) D') := by
  obtain ⟨o, D', h1, h2⟩ := h X
  refine ⟨o, D', h1, ?_⟩
  cases o with
  | inr k => exact hT k D' h2
  | inl v => cases v with
    | none => exact False.elim h2
    | some v => cases v with
      | long v => exact hK v D' h2
      | _ => exact False.elim h2
theorem z_oR {n1 : Nat} {Kn : z_D → Prop} {Kr : Nat → z_D → Prop} {T : Nat → z_D → Prop} (h : z_c n d y as D (z_qR Kn Kr T)) (hN : ∀ D', Kn D' → z_w n d tb X n1 ls (.null :: r) D' Q) (hK : ∀ m D', Kr m D' → z_w n d tb X n1 ls (.ref m :: r) D' Q) (hT : ∀ k D', T k D' → Q (.inr k) D') : ∃ o D', am_ev k_tb k_ml d y as (z_E n X D) o (z_E n (z_X o X) D') ∧ (match o with | .inl v => z_w n d tb X n1 ls (v.toList ++ r) D' Q | .inr x => Q (.inr x) D') := by
  obtain ⟨o, D', h1, h2⟩ := h X
  refine ⟨o, D', h1, ?_⟩
  cases o with
  | inr k => exact hT k D' h2
  | inl v => cases v with
    | none => exact False.elim h2
    | some v => cases v with
      | null => exact hN D' h2
      | ref m => exact hK m D' h2
      | _ => exact False.elim h2
theorem zs_alenZ {n1 k kd w : Nat} (z : Int) (ht : tb pc = some (ac_alen n1)) (hs : z_sh n k = some (.inr (kd, w))) (hz : ((w : Nat) : Int) = z) (hk : kd ≠ 5) (h : z_w n d tb X n1 ls (.int (z_i z) :: st) D Q) : z_w n d tb X pc ls (.ref k :: st) D Q := zs_alen ht hs hk (by rw [hz]; exact h)
theorem z_rk {z : Int} (h : (decide (-2147483648 ≤ z) && decide (z ≤ 2147483647)) = true) : z_r z := by
  rw [Bool.and_eq_true] at h
  exact ⟨of_decide_eq_true h.1, of_decide_eq_true h.2⟩
theorem z_rb (b : Bool) : z_r (z_b b) := by cases b <;> exact z_rk rfl
theorem z_rw {w : Nat} (h : w ≤ 1000000) : z_r (w : Int) := ⟨by omega, by omega⟩
end ZS
