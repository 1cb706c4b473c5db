/-! THE CONSTRUCTORS: the memory while the objects are made -/
def e_M (t n : Nat) (I : Nat → Nat → Int32) (L : Nat → Nat → Int64) (R : Nat → Nat → Option Nat) (c s : Nat) : am_M := (I, L, R, e_sh t n, some t, c, s)
theorem e_u1 {α : Type} {f : Nat → α} {k : Nat} {v : α} (h : f k = v) : am_u1 f k v = f := by
  funext a
  unfold am_u1
  split
  · next e => rw [e, h]
  · rfl
theorem e_u11 {α : Type} {f : Nat → α} {k : Nat} {v w : α} : am_u1 (am_u1 f k v) k w = am_u1 f k w := by
  funext a
  unfold am_u1
  split <;> rfl
theorem e_u2o {α : Type} {f : Nat → Nat → α} {k j a : Nat} {v : α} (h : a ≠ k) : am_u2 f k j v a = f a := by
  funext b
  unfold am_u2
  rw [if_neg h]
theorem e_u1o {α : Type} {f : Nat → α} {k a : Nat} {v : α} (h : a ≠ k) : am_u1 f k v a = f a := by
  unfold am_u1
  rw [if_neg h]
theorem e_u1s {α : Type} {f : Nat → α} {k : Nat} {v : α} : am_u1 f k v k = v := by
  unfold am_u1
  rw [if_pos rfl]
theorem e_u20 {α : Type} {f : Nat → Nat → α} {k j : Nat} {v : α} (h : f k = fun _ => v) : am_u2 f k j v = f := by
  funext a b
  unfold am_u2
  split
  · next e =>
    split
    · rw [e, h]
    · rfl
  · rfl
theorem e_u21 {α : Type} {f : Nat → Nat → α} {g : Nat → α} {k j : Nat} {v : α} : am_u2 (am_u1 f k g) k j v = am_u1 f k (am_u1 g j v) := by
  funext a b
  unfold am_u2 am_u1
  split
  · rfl
  · rfl
theorem e_u2a {α : Type} {f : Nat → Nat → α} {g : Nat → α} {k k' j : Nat} {v : α} (h : k ≠ k') : am_u2 (am_u1 f k' g) k j v = am_u1 (am_u2 f k j v) k' g := by
  funext a b
  by_cases e : a = k
  · subst e
    simp [am_u2, am_u1, h]
  · by_cases e' : a = k'
    · subst e'
      simp [am_u2, am_u1, e]
    · simp [am_u2, am_u1, e, e']
theorem e_mk {t n w c s : Nat} {I : Nat → Nat → Int32} {L : Nat → Nat → Int64} {R : Nat → Nat → Option Nat} {sp : am_Sh} (hs : e_sh (t + 1) n t = some sp) (hI : I t = fun _ => 0) (hL : L t = fun _ => 0) (hR : R t = fun _ => none) : am_mk (e_M t n I L R c s) t sp w = e_M (t + 1) n I L R (c + 1) (s + w) := by
  have e4 : am_u1 (e_sh t n) t (some sp) = e_sh (t + 1) n := by
    funext a
    unfold am_u1
    split
    · next e => rw [e, hs]
    · next e =>
      unfold e_sh
      rw [z_blt (a := a) (b := t), z_blt (a := a) (b := t + 1), show decide (a < t) = decide (a < t + 1) from decide_eq_decide.mpr (by omega)]
  show (am_u1 I t (fun _ => 0), am_u1 L t (fun _ => 0), am_u1 R t (fun _ => none), am_u1 (e_sh t n) t (some sp), some (t + 1), c + 1, s + w) = _
  rw [e_u1 hI, e_u1 hL, e_u1 hR, e4]
  rfl
section ES
variable {d n t c s pc n1 k j : Nat} {tb : Nat → Option am_A} {I I' : Nat → Nat → Int32} {L L' : Nat → Nat → Int64} {R : Nat → Nat → Option Nat} {ls : List (Option Value)} {st r : List Value} {Q : am_O → am_M → Prop}
theorem e_M_sh : am_sh (e_M t n I L R c s) = e_sh t n := rfl
theorem es_new {ci t1 : Nat} (ht : tb pc = some (ac_new ci n1)) (h1 : t + 1 = t1) (hs : e_sh t1 n t = some (.inl ci)) (hI : I t = fun _ => 0) (hL : L t = fun _ => 0) (hR : R t = fun _ => none) (h : e_w d tb n1 ls (.ref t :: st) (e_M t1 n I L R (c + 1) (s + ck_N ci)) Q) : e_w d tb pc ls st (e_M t n I L R c s) Q := by
  subst h1
  refine ew_1 (M1 := am_mk (e_M t n I L R c s) t (.inl ci) (ck_N ci)) (n1 := n1) (ls1 := ls) (st1 := .ref t :: st) ht rfl ?_
  rw [e_mk hs hI hL hR]
  exact h
theorem es_newa {kd by_ w t1 : Nat} {x : Int32} (ht : tb pc = some (ac_newa kd by_ n1)) (h1 : t + 1 = t1) (hx : x.toNatClampNeg = w) (hx0 : ¬ x < 0 ∧ w * by_ ≤ 536870912) (hs : e_sh t1 n t = some (.inr (kd, w))) (hI : I t = fun _ => 0) (hL : L t = fun _ => 0) (hR : R t = fun _ => none) (h : e_w d tb n1 ls (.ref t :: r) (e_M t1 n I L R (c + 1) (s + w)) Q) : e_w d tb pc ls (.int x :: r) (e_M t n I L R c s) Q := by
  subst h1
  subst hx
  refine ew_c (M1 := am_mk (e_M t n I L R c s) t (.inr (kd, x.toNatClampNeg)) x.toNatClampNeg) (n1 := n1) (ls1 := ls) (st1 := .ref t :: r) ht rfl hx0 ?_
  rw [e_mk hs hI hL hR]
  exact h
theorem es_putR {ci x : Nat} (ht : tb pc = some (ac_putR ci j n1)) (hs : e_sh t n k = some (.inl ci)) (h : e_w d tb n1 ls st (e_M t n I L (am_u2 R k j (some x)) c s) Q) : e_w d tb pc ls (.ref x :: .ref k :: st) (e_M t n I L R c s) Q := ew_1 ht (by unfold ac_putR; dsimp only; rw [e_M_sh, hs]; dsimp only; rw [if_pos rfl]; rfl) h
theorem es_putI {ci : Nat} {x : Int32} (ht : tb pc = some (ac_putI ci j n1)) (hs : e_sh t n k = some (.inl ci)) (hm : am_u2 I k j x = I') (h : e_w d tb n1 ls st (e_M t n I' L R c s) Q) : e_w d tb pc ls (.int x :: .ref k :: st) (e_M t n I L R c s) Q := by
  subst hm
  exact ew_1 ht (by unfold ac_putI; dsimp only; rw [e_M_sh, hs]; dsimp only; rw [if_pos rfl]; rfl) h
theorem es_getR {ci x : Nat} (ht : tb pc = some (ac_get 2 ci j n1)) (hs : e_sh t n k = some (.inl ci)) (hR : R k j = some x) (h : e_w d tb n1 ls (.ref x :: st) (e_M t n I L R c s) Q) : e_w d tb pc ls (.ref k :: st) (e_M t n I L R c s) Q := ew_1 ht (by unfold ac_get; dsimp only; rw [e_M_sh, hs]; dsimp only; rw [if_pos rfl]; show some (Sum.inl (n1, ls, am_rv (R k j) :: st, _)) = _; rw [hR]; rfl) h
theorem es_getI {ci : Nat} {x : Int32} (ht : tb pc = some (ac_get 0 ci j n1)) (hs : e_sh t n k = some (.inl ci)) (hI : I k j = x) (h : e_w d tb n1 ls (.int x :: st) (e_M t n I L R c s) Q) : e_w d tb pc ls (.ref k :: st) (e_M t n I L R c s) Q := ew_1 ht (by unfold ac_get; dsimp only; rw [e_M_sh, hs]; dsimp only; rw [if_pos rfl]; show some (Sum.inl (n1, ls, Value.int (I k j) :: st, _)) = _; rw [hI]) h
theorem es_alen {kd w : Nat} (ht : tb pc = some (ac_alen n1)) (hs : e_sh t n k = some (.inr (kd, w))) (hk : kd ≠ 5) (h : e_w d tb n1 ls (.int (z_i w) :: st) (e_M t n I L R c s) Q) : e_w d tb pc ls (.ref k :: st) (e_M t n I L R c s) Q := ew_1 ht (by unfold ac_alen; dsimp only; rw [e_M_sh, hs]; dsimp only; rw [if_neg hk, show z_i w = Int32.ofNat w from Int32.ofInt_eq_ofNat]) h
theorem e_ix {j w : Nat} {i : Int32} (hi : i = z_i (j : Int)) (hj : j < w) (hw : w ≤ 1000000) : i.toNatClampNeg = j ∧ vp_in i w := by
  subst hi
  exact ⟨by rw [z_nat (by omega) (by omega)]; rfl, z_in (by omega) (by omega) hw⟩
theorem es_iast {w : Nat} {x i : Int32} (ht : tb pc = some (ac_iast n1)) (hs : e_sh t n k = some (.inr (0, w))) (hi : i = z_i (j : Int)) (hj : j < w) (hw : w ≤ 1000000) (hm : am_u2 I k j x = I') (h : e_w d tb n1 ls r (e_M t n I' L R c s) Q) : e_w d tb pc ls (.int x :: .int i :: .ref k :: r) (e_M t n I L R c s) Q := by
  subst hm
  obtain ⟨e1, e2⟩ := e_ix hi hj hw
  exact ew_c ht (by unfold ac_iast; dsimp only; rw [e_M_sh, hs]; dsimp only; rw [if_pos rfl, e1]; rfl) e2 h
theorem es_last {w : Nat} {x : Int64} {i : Int32} (ht : tb pc = some (ac_last n1)) (hs : e_sh t n k = some (.inr (1, w))) (hi : i = z_i (j : Int)) (hj : j < w) (hw : w ≤ 1000000) (hm : am_u2 L k j x = L') (h : e_w d tb n1 ls r (e_M t n I L' R c s) Q) : e_w d tb pc ls (.long x :: .int i :: .ref k :: r) (e_M t n I L R c s) Q := by
  subst hm
  obtain ⟨e1, e2⟩ := e_ix hi hj hw
  exact ew_c ht (by unfold ac_last; dsimp only; rw [e_M_sh, hs]; dsimp only; rw [if_pos rfl, e1]; rfl) e2 h
theorem es_iald {w kd : Nat} {x i : Int32} (ht : tb pc = some (ac_iald kd n1)) (hs : e_sh t n k = some (.inr (kd, w))) (hi : i = z_i (j : Int)) (hj : j < w) (hw : w ≤ 1000000) (hI : I k j = x) (h : e_w d tb n1 ls (.int x :: r) (e_M t n I L R c s) Q) : e_w d tb pc ls (.int i :: .ref k :: r) (e_M t n I L R c s) Q := by
  subst hI
  obtain ⟨e1, e2⟩ := e_ix hi hj hw
  exact ew_c ht (by unfold ac_iald; dsimp only; rw [e_M_sh, hs]; dsimp only; rw [if_pos rfl, e1]; rfl) e2 h
theorem es_aast {w kd ci x : Nat} {i : Int32} (ht : tb pc = some (ac_aast kd ci n1)) (hs : e_sh t n k = some (.inr (kd, w))) (hx : e_sh t n x = some (.inl ci)) (hi : i = z_i (j : Int)) (hj : j < w) (hw : w ≤ 1000000) (h : e_w d tb n1 ls r (e_M t n I L (am_u2 R k j (some x)) c s) Q) : e_w d tb pc ls (.ref x :: .int i :: .ref k :: r) (e_M t n I L R c s) Q := by
  obtain ⟨e1, e2⟩ := e_ix hi hj hw
  exact ew_c ht (by unfold ac_aast; dsimp only; rw [e_M_sh, hs]; dsimp only; rw [if_pos rfl, hx]; dsimp only; rw [if_pos rfl, e1]; rfl) e2 h
/-- a row is made: its cell k is there already, its items' cell is the next -/
theorem u_row {w t1 : Nat} {x : Int32} (h1 : t + 1 = t1) (hx : x.toNatClampNeg = w) (hx0 : ¬ x < 0 ∧ w * 4 ≤ 536870912) (hs : e_sh t1 n t = some (.inr (0, w))) (hr : e_sh t1 n k = some (.inl 4)) (hI : I t = fun _ => 0) (hL : L t = fun _ => 0) (hR : R t = fun _ => none) (h : Q (.inl none) (e_M t1 n I L (am_u2 R k 0 (some t)) (c + 1) (s + w))) : e_c (d + 1) 23 [.ref k, .int x] (e_M t n I L R c s) Q := by
  refine e_enter (l0 := [some (.ref k), some (.int x)]) (Nat.le_of_ble_eq_true rfl) rfl ?_
  refine ew_1 rfl rfl (ew_1 rfl rfl (ew_1 rfl rfl (ew_1 rfl rfl (ew_1 rfl rfl (ew_1 rfl rfl ?_)))))
  show e_w d (k_tb 23) 10 _ [.int (if x < 0 then 0 else x), .ref k] _ _
  rw [if_neg hx0.1]
  refine es_newa rfl h1 hx hx0 hs hI hL hR ?_
  refine es_putR rfl hr ?_
  exact ew_e rfl rfl trivial h
theorem u_shm {m i : Nat} (hm : z_mc m) (hi : i < 5) (ht : m + i < t) : e_sh t n (m + i) = z_shM.getD i none := by
  rw [e_sh_lo ht (by have := hm.2.1; omega)]
  exact z_sh_m hm hi
/-- a macro's cells -/
def e_UM (R : Nat → Nat → Option Nat) (m : Nat) : Nat → Nat → Option Nat := am_u2 (am_u2 (am_u2 (am_u2 R (m + 1) 0 (some (m + 2))) m 0 (some (m + 1))) (m + 3) 0 (some (m + 4))) m 1 (some (m + 3))
theorem u_macro {m : Nat} (hm : z_mc m) (hI : ∀ a, m < a → a < 5000 → I a = fun _ => 0) (hL : ∀ a, m < a → a < 5000 → L a = fun _ => 0) (hR : ∀ a, m < a → a < 5000 → R a = fun _ => none) (h : Q (.inl none) (e_M (m + 5) n I L (e_UM R m) (c + 1 + 1 + 1 + 1) (s + ck_N 4 + 12 + ck_N 4 + 40))) : e_c (d + 2) 5 [.ref m] (e_M (m + 1) n I L R c s) Q := by
  have hm2 := hm.2.1
  refine e_enter (l0 := [some (.ref m)]) (Nat.le_of_ble_eq_true rfl) rfl ?_
  refine ew_1 rfl rfl (ew_1 rfl rfl (ew_1 rfl rfl ?_))
  refine es_new (t1 := m + 2) rfl rfl (u_shm hm (i := 1) (by decide) (by omega)) (hI _ (by omega) (by omega)) (hL _ (by omega) (by omega)) (hR _ (by omega) (by omega)) ?_
  refine ew_1 rfl rfl (ew_1 rfl rfl ?_)
  refine ew_call rfl rfl (u_row (t1 := m + 3) (w := 12) rfl (by decide) (by decide) (u_shm hm (i := 2) (by decide) (by omega)) (u_shm hm (i := 1) (by decide) (by omega)) (hI _ (by omega) (by omega)) (hL _ (by omega) (by omega)) (hR _ (by omega) (by omega)) ?_)
  refine es_putR rfl (u_shm hm (i := 0) (by decide) (by omega)) ?_
  refine ew_1 rfl rfl ?_
  refine es_new (t1 := m + 4) rfl rfl (u_shm hm (i := 3) (by decide) (by omega)) (hI _ (by omega) (by omega)) (hL _ (by omega) (by omega)) (by rw [e_u2o (by omega), e_u2o (by omega)]; exact hR _ (by omega) (by omega)) ?_
  refine ew_1 rfl rfl (ew_1 rfl rfl ?_)
  refine ew_call rfl rfl (u_row (t1 := m + 5) (w := 40) rfl (by decide) (by decide) (u_shm hm (i := 4) (by decide) (by omega)) (u_shm hm (i := 3) (by decide) (by omega)) (hI _ (by omega) (by omega)) (hL _ (by omega) (by omega)) (by rw [e_u2o (by omega), e_u2o (by omega)]; exact hR _ (by omega) (by omega)) ?_)
  refine es_putR rfl (u_shm hm (i := 0) (by decide) (by omega)) ?_
  exact ew_e rfl rfl trivial h
end ES
