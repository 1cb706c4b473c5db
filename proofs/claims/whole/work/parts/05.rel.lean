/-! the abstract memory and the heap -/
def am_val (B0 : Nat) (sb : Nat → Option Nat) : Value → Value
  | .ref k => .ref (B0 + k)
  | .retAddr k => va_rf (sb k)
  | v => v
def am_rf (B0 : Nat) (r : Option Nat) : Value := va_rf (r.map (fun k => B0 + k))
/-- a reference as a value of the abstract machine -/
def am_rv (r : Option Nat) : Value := va_rf r
theorem am_rv_val (B0 : Nat) (sb : Nat → Option Nat) (r : Option Nat) : am_val B0 sb (am_rv r) = am_rf B0 r := by cases r <;> rfl
def am_kd : FieldType → Nat
  | .int => 0
  | .long => 1
  | _ => 2
def am_ety : Nat → FieldType := fun k => match k with
  | 0 => .int
  | 1 => .long
  | 2 => .boolean
  | 3 => .object ck_R4
  | _ => .object ck_R1
def am_fv (B0 : Nat) (M : am_M) (k kd j : Nat) : Value := match kd with
  | 0 => .int (M.1 k j)
  | 1 => .long (M.2.1 k j)
  | _ => am_rf B0 (M.2.2.1 k j)
def am_av (B0 : Nat) (M : am_M) (k n kd : Nat) : vp_A := match kd with
  | 0 => (n, .inl (M.1 k))
  | 1 => (n, .inr (.inl (M.2.1 k)))
  | 2 => (n, .inl (M.1 k))
  | _ => (n, .inr (.inr (.inr (.inr (fun i => (M.2.2.1 k i).map (fun q => B0 + q))))))
def am_fs (B0 : Nat) (M : am_M) (k ci : Nat) : List Value := (List.range (ck_N ci)).map (fun j => am_fv B0 M k (am_kd (ck_y ci j)) j)
abbrev am_tys (cA : Nat → ClassId) : List (ClassId × FieldType) := [(cA 0, .int), (cA 1, .long), (cA 2, .boolean), (cA 3, .object ck_R4), (cA 4, .object ck_R1)]
theorem am_tys_at (cA : Nat → ClassId) : ∀ kd, kd < 5 → (am_tys cA)[kd]? = some (cA kd, am_ety kd)
  | 0, _ => rfl
  | 1, _ => rfl
  | 2, _ => rfl
  | 3, _ => rfl
  | 4, _ => rfl
  | n + 5, h => absurd h (by omega)
/-- the cell k holds what the memory says; the script (kind 5) lies at sb -/
def am_at (D : va_G) (cA : Nat → ClassId) (B0 : Nat) (sb : Nat → Option Nat) (s : State) (M : am_M) (H : Heap) (k : Nat) : am_Sh → Prop
  | .inl ci => ci < 7 ∧ va_at D ck_cl (B0 + k, .inr (ci, am_fs B0 M k ci)) H
  | .inr (kd, n) => if kd = 5 then (∃ b, sb 0 = some b ∧ va_X b n (M.1 k) s H ∧ b < B0) else kd < 5 ∧ va_at D ck_cl (B0 + k, .inl (cA kd, am_av B0 M k n kd)) H
def am_Rel (D : va_G) (cA : Nat → ClassId) (B0 : Nat) (sb : Nat → Option Nat) (H00 : Heap) (s : State) (M : am_M) (H : Heap) : Prop :=
  (∀ k sp, am_sh M k = some sp → am_at D cA B0 sb s M H k sp) ∧ (∀ n, am_nx M = some n → H.size = B0 + n) ∧ (∀ q, q < B0 → H[q]? = H00[q]?)
theorem am_at_moved {D : va_G} {cA : Nat → ClassId} {B0 : Nat} {sb : Nat → Option Nat} {s U : State} {M : am_M} {H : Heap} {k : Nat} (hvm : s.vm.Alike U.vm) : ∀ {sp : am_Sh}, am_at D cA B0 sb s M H k sp → am_at D cA B0 sb U M H k sp
  | .inl ci, h => h
  | .inr (kd, n), h => by
    unfold am_at at h ⊢
    dsimp only at h ⊢
    by_cases e : kd = 5
    · rw [if_pos e] at h ⊢
      obtain ⟨b, h1, h2, h3⟩ := h
      exact ⟨b, h1, h2.moved hvm, h3⟩
    · rw [if_neg e] at h ⊢
      exact h
theorem am_Rel_moved {D : va_G} {cA : Nat → ClassId} {B0 : Nat} {sb : Nat → Option Nat} {H00 : Heap} {s U : State} {M : am_M} {H : Heap} (hvm : s.vm.Alike U.vm) (h : am_Rel D cA B0 sb H00 s M H) : am_Rel D cA B0 sb H00 U M H := ⟨fun k sp hk => am_at_moved hvm (h.1 k sp hk), h.2⟩
theorem am_fs_get (B0 : Nat) (M : am_M) (k ci j : Nat) (hj : j < ck_N ci) : (am_fs B0 M k ci)[j]? = some (am_fv B0 M k (am_kd (ck_y ci j)) j) := by
  unfold am_fs
  rw [List.getElem?_map, List.getElem?_range hj]
  rfl
theorem am_fs_len (B0 : Nat) (M : am_M) (k ci : Nat) : (am_fs B0 M k ci).length = ck_N ci := by simp [am_fs]
/-- nothing of the cell k moves: it holds in a heap that is the same there -/
theorem am_at_kept {D : va_G} {cA : Nat → ClassId} {B0 : Nat} {sb : Nat → Option Nat} {s : State} {M M' : am_M} {H H' : Heap} {k : Nat} (hI : M'.1 k = M.1 k) (hL : M'.2.1 k = M.2.1 k) (hR : M'.2.2.1 k = M.2.2.1 k) (hH : H'[B0 + k]? = H[B0 + k]?) (hsb : ∀ b, b < B0 → H'[b]? = H[b]?) : ∀ {sp : am_Sh}, am_at D cA B0 sb s M H k sp → am_at D cA B0 sb s M' H' k sp
  | .inl ci, h => by
    refine ⟨h.1, ?_⟩
    have e : am_fs B0 M' k ci = am_fs B0 M k ci := by
      unfold am_fs am_fv
      rw [hI, hL, hR]
    rw [e]
    exact h.2.kept hH
  | .inr (kd, n), h => by
    unfold am_at at h ⊢
    dsimp only at h ⊢
    by_cases e : kd = 5
    · rw [if_pos e] at h ⊢
      rw [hI]
      obtain ⟨b, h1, h2, h3⟩ := h
      exact ⟨b, h1, h2.kept (hsb b h3), h3⟩
    · rw [if_neg e] at h ⊢
      have e2 : am_av B0 M' k n kd = am_av B0 M k n kd := by
        unfold am_av
        rw [hI, hL, hR]
      rw [e2]
      exact ⟨h.1, h.2.kept hH⟩
/-- one cell has changed -/
theorem am_Rel_put {D : va_G} {cA : Nat → ClassId} {B0 : Nat} {sb : Nat → Option Nat} {H00 : Heap} {s : State} {M M' : am_M} {H H' : Heap} {k : Nat} {sp : am_Sh} (h : am_Rel D cA B0 sb H00 s M H) (hk : am_sh M k = some sp) (h2 : M'.2.2.2 = M.2.2.2)
    (hI : ∀ q, q ≠ k → M'.1 q = M.1 q) (hL : ∀ q, q ≠ k → M'.2.1 q = M.2.1 q) (hR : ∀ q, q ≠ k → M'.2.2.1 q = M.2.2.1 q) (hz : H'.size = H.size) (ho : ∀ q, q ≠ B0 + k → H'[q]? = H[q]?) (hn : am_at D cA B0 sb s M' H' k sp) : am_Rel D cA B0 sb H00 s M' H' := by
  refine ⟨fun q sq hq => ?_, fun n hn => ?_, fun q hq => (ho q (by omega)).trans (h.2.2 q hq)⟩
  · have hq' : am_sh M q = some sq := by rw [← hq]; show M.2.2.2.1 q = M'.2.2.2.1 q; rw [h2]
    by_cases e : q = k
    · subst e
      cases hk.symm.trans hq'
      exact hn
    · exact am_at_kept (hI q e) (hL q e) (hR q e) (ho _ (by omega)) (fun b hs => ho _ (by omega)) (h.1 q sq hq')
  · rw [hz]
    exact h.2.1 n (by rw [← hn]; show M.2.2.2.2.1 = M'.2.2.2.2.1; rw [h2])
theorem am_u2_ne {α : Type} {f : Nat → Nat → α} {k j : Nat} {v : α} {q : Nat} (h : q ≠ k) : am_u2 f k j v q = f q := by
  funext b
  simp [am_u2, h]
theorem am_u2_eq {α : Type} {f : Nat → Nat → α} {k j : Nat} {v : α} : am_u2 f k j v k = fun b => if b = j then v else f k b := by
  funext b
  simp [am_u2]
theorem am_u1_ne {α : Type} {f : Nat → α} {k : Nat} {v : α} {q : Nat} (h : q ≠ k) : am_u1 f k v q = f q := by simp [am_u1, h]
theorem am_u1_eq {α : Type} {f : Nat → α} {k : Nat} {v : α} : am_u1 f k v k = v := by simp [am_u1]
/-- a field is set -/
theorem am_fs_set {B0 : Nat} {M M' : am_M} {k ci j : Nat} {v : Value} (hj : j < ck_N ci) (hv : am_fv B0 M' k (am_kd (ck_y ci j)) j = v) (ho : ∀ i, i ≠ j → i < ck_N ci → am_fv B0 M' k (am_kd (ck_y ci i)) i = am_fv B0 M k (am_kd (ck_y ci i)) i) : am_fs B0 M' k ci = (am_fs B0 M k ci).set j v := by
  apply List.ext_getElem?
  intro i
  by_cases hi : i < ck_N ci
  · rw [am_fs_get _ _ _ _ _ hi]
    by_cases e : i = j
    · subst e
      rw [List.getElem?_set_self (by rw [am_fs_len]; exact hi), hv]
    · rw [List.getElem?_set_ne (fun q => e q.symm), am_fs_get _ _ _ _ _ hi, ho i e hi]
  · rw [List.getElem?_eq_none (by rw [am_fs_len]; omega), List.getElem?_eq_none (by rw [List.length_set, am_fs_len]; omega)]
/-- the frame's locals -/
def am_Loc (B0 : Nat) (sb : Nat → Option Nat) (real : Array Slot) (ls : List (Option Value)) : Prop := real.size = ls.length ∧ lv_wf real ∧ ∀ (i : Nat) (v : Value), ls[i]? = some (some v) → real[i]? = some (Slot.val (am_val B0 sb v))
def am_locs (B0 : Nat) (sb : Nat → Option Nat) (ls : List (Option Value)) : List (Nat × Value) := (List.range ls.length).filterMap (fun i => (ls[i]?.getD none).map (fun v => (i, am_val B0 sb v)))
theorem am_locs_mem {B0 : Nat} {sb : Nat → Option Nat} {ls : List (Option Value)} {q : Nat × Value} : q ∈ am_locs B0 sb ls ↔ ∃ v, ls[q.1]? = some (some v) ∧ q.2 = am_val B0 sb v := by
  unfold am_locs
  rw [List.mem_filterMap]
  constructor
  · rintro ⟨i, -, h⟩
    cases hl : ls[i]? with
    | none => rw [hl] at h; simp at h
    | some o =>
      rw [hl] at h
      cases o with
      | none => simp at h
      | some v =>
        simp at h
        subst h
        exact ⟨v, hl, rfl⟩
  · rintro ⟨v, h1, h2⟩
    refine ⟨q.1, List.mem_range.mpr (List.getElem?_eq_some_iff.mp h1).1, ?_⟩
    rw [h1]
    simp [← h2]
theorem am_Loc_has {B0 : Nat} {sb : Nat → Option Nat} {real : Array Slot} {ls : List (Option Value)} (h : am_Loc B0 sb real ls) : lv_has real ls.length (am_locs B0 sb ls) := by
  refine ⟨h.1, h.2.1, fun q hq => ?_⟩
  obtain ⟨v, h1, h2⟩ := am_locs_mem.mp hq
  rw [h2]
  exact h.2.2 _ _ h1
theorem am_val_cat (B0 : Nat) (sb : Nat → Option Nat) (v : Value) : (am_val B0 sb v).category = v.category := by
  cases v with
  | retAddr k =>
    show (va_rf (sb k)).category = 1
    cases sb k <;> rfl
  | _ => rfl
def am_st2 (ls : List (Option Value)) (i : Nat) (v : Value) : List (Option Value) := (am_st1 ls i v).set (i + 1) none
theorem am_st1_len (ls : List (Option Value)) (i : Nat) (v : Value) : (am_st1 ls i v).length = ls.length := by
  cases i with
  | zero => simp [am_st1]
  | succ j => unfold am_st1; dsimp only; split <;> simp
theorem am_st2_len (ls : List (Option Value)) (i : Nat) (v : Value) : (am_st2 ls i v).length = ls.length := by simp [am_st2, am_st1_len]
theorem am_st1_at {ls : List (Option Value)} {i k : Nat} {v w : Value} (h : (am_st1 ls i v)[k]? = some (some w)) : (k = i ∧ w = v) ∨ (k ≠ i ∧ ls[k]? = some (some w) ∧ ¬ (k + 1 = i ∧ w.category = 2)) := by
  cases i with
  | zero =>
    simp only [am_st1] at h
    by_cases e : k = 0
    · subst e
      rw [List.getElem?_set] at h
      simp at h
      exact Or.inl ⟨rfl, h.2.symm⟩
    · rw [List.getElem?_set_ne (fun q => e q.symm)] at h
      exact Or.inr ⟨e, h, fun q => by omega⟩
  | succ j =>
    have wide : ∀ (u : Value), ls[j]? = some (some u) → ((ls.set j none).set (j + 1) (some v))[k]? = some (some w) → (k = j + 1 ∧ w = v) ∨ (k ≠ j + 1 ∧ ls[k]? = some (some w) ∧ ¬ (k + 1 = j + 1 ∧ w.category = 2)) := by
      intro u hu h
      by_cases e : k = j + 1
      · subst e
        rw [List.getElem?_set] at h
        simp at h
        exact Or.inl ⟨rfl, h.2.symm⟩
      · rw [List.getElem?_set_ne (fun q => e q.symm)] at h
        by_cases e2 : k = j
        · subst e2
          rw [List.getElem?_set] at h
          simp at h
        · rw [List.getElem?_set_ne (fun q => e2 q.symm)] at h
          exact Or.inr ⟨e, h, fun q => by omega⟩
    unfold am_st1 at h
    dsimp only at h
    split at h
    next x hx => exact wide _ hx h
    next x hx => exact wide _ hx h
    next n1 n2 =>
      by_cases e : k = j + 1
      · subst e
        rw [List.getElem?_set] at h
        simp at h
        exact Or.inl ⟨rfl, h.2.symm⟩
      · rw [List.getElem?_set_ne (fun q => e q.symm)] at h
        refine Or.inr ⟨e, h, ?_⟩
        rintro ⟨q1, q2⟩
        have : k = j := by omega
        subst this
        cases w with
        | long x => exact n1 x h
        | double x => exact n2 x h
        | _ => simp [Value.category] at q2
