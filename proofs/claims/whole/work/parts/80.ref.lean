/-! the reference's memory holds a state of the model -/
def y_tr (t : Int) : Int := if t < 8192 then t else if t < 16384 then t + 8192 else t - 8192
def y_mr (m : Int) : Int := if m ≤ 18 then m else if m < 4096 then m + 1000 else m + 1904
def y_kr (k : Int) : Int := if k < 4096 then 200 + k else k - 4096
def y_vr (k v : Int) : Int := if k < 4096 then v else y_mr v
/-- an array and its size -/
def y_ar (f : Nat → Int) (m : Int) (l : List Int) : Prop := m = (l.length : Int) ∧ ∀ i, i < l.length → f i = l[i]?.getD 0
/-- a part of an array -/
def y_pa (f : Nat → Int) (o : Nat) (m : Int) (l : List Int) : Prop := m = (l.length : Int) ∧ ∀ i, i < l.length → f (o + i) = l[i]?.getD 0
/-- the group in which a value was kept -/
def y_gn (l : List Int) (i : Nat) : Int := ((l.filter (fun s => decide (s ≤ (i : Int)))).length : Int)
/-- a frame: what it does, holds, its stage, its conditional, its characters -/
abbrev y_F : Type := Int × Int × Int × Int × List Int
/-- what is about: the memory beside, what is known of arguments and of the draft's body (5), the frames -/
abbrev y_Q : Type := z_D × (Nat → Option (List Int)) × List y_F
def y_mq (D : z_D) (i : Nat) (q : List Int × List Int × Int) : Prop := y_pa (D.1 349) (13 * i) (D.1 348 i) (q.1.map y_tr) ∧ y_pa (D.1 351) (41 * i) (D.1 350 i) (q.2.1.map y_tr) ∧ D.1 352 i = q.2.2
def y_fq (D : z_D) (k : Nat) (f : y_F) : Prop := D.1 354 k = f.1 ∧ D.1 355 k = f.2.1 ∧ D.1 356 k = f.2.2.1 ∧ D.1 357 k = f.2.2.2.1 ∧ ∀ i, i < f.2.2.2.2.length → D.1 358 (12 * k + i) = f.2.2.2.2[i]?.getD 0
def y_ref (Q : y_Q) (S : y_S) (D : z_D) : Prop :=
  (D.2 = Q.1.2 ∧ ∀ c, c < 336 ∨ 362 ≤ c → D.1 c = Q.1.1 c) ∧
  y_ar (D.1 337) (D.1 336 1) (y_l S 0) ∧ y_ar (D.1 339) (D.1 336 9) ((y_l S 1).map y_tr) ∧ y_ar (D.1 359) (D.1 336 37) (y_l S 2) ∧ y_ar (D.1 353) (D.1 336 29) (y_l S 3) ∧
  D.1 336 18 = ((y_l S 4).length : Int) ∧
  (y_ar (D.1 346) (D.1 336 19) ((y_l S 5).map y_kr) ∧ (∀ (i : Nat) (k v : Int), (y_l S 5)[i]? = some k → (y_l S 6)[i]? = some v → D.1 347 i = y_vr k v) ∧ ∀ i, i < (y_l S 5).length → D.1 345 i = y_gn (y_l S 4) i) ∧
  (∀ c, c < 128 → D.1 338 c = y_cat S c) ∧
  (D.1 336 11 = ((y_nm S).length : Int) ∧ ∀ (k : Nat) (q : List Int × Bool), (y_nm S)[k]? = some q → y_pa (D.1 340) (11 * k) (D.1 341 k) q.1 ∧ D.1 342 k = z_b q.2) ∧
  (∀ k, k < 118 → D.1 343 k = y_mr (y_mean S k)) ∧
  D.1 336 23 = ((y_mac S).length : Int) ∧ (∀ (i : Nat) (q : List Int × List Int × Int), (y_mac S)[i]? = some q → y_mq D i q) ∧
  (∀ l, y_a S 4 = some l → y_pa (D.1 349) (13 * (y_mac S).length) (D.1 348 (y_mac S).length) (l.map y_tr)) ∧
  (∀ l, Q.2.1 5 = some l → y_pa (D.1 351) (41 * (y_mac S).length) (D.1 350 (y_mac S).length) (l.map y_tr)) ∧
  (∀ v, y_dp S = some v → D.1 352 (y_mac S).length = v) ∧
  (∀ i l, i < 4 → Q.2.1 i = some l → l.length ≤ 41 ∧ y_pa (D.1 360) (42 * i) (D.1 361 i) (l.map y_tr)) ∧
  D.1 336 3 = y_s S 0 ∧ D.1 336 4 = y_s S 1 ∧ D.1 336 5 = y_s S 3 ∧ D.1 336 6 = y_s S 2 ∧ D.1 336 7 = y_s S 4 ∧
  (D.1 336 31 = (Q.2.2.length : Int) ∧ ∀ k f, Q.2.2[k]? = some f → y_fq D k f)
theorem y_ar_add {f g : Nat → Int} {m : Int} {l : List Int} (h : y_ar f m l) {v : Int} (hg : ∀ i, g i = if i = l.length then v else f i) : y_ar g (m + 1) (l ++ [v]) := by
  refine ⟨by rw [h.1]; simp, fun i hi => ?_⟩
  rw [hg]
  simp at hi
  by_cases e : i = l.length
  · subst e; simp
  · rw [if_neg e, h.2 i (by omega), List.getElem?_append_left (by omega)]
theorem y_ar_cut {f : Nat → Int} {m : Int} {l : List Int} (h : y_ar f m l) {k : Nat} (hk : k ≤ l.length) : y_ar f (k : Int) (l.take k) := by
  refine ⟨by rw [List.length_take, Nat.min_eq_left hk], fun i hi => ?_⟩
  rw [List.length_take, Nat.min_eq_left hk] at hi
  rw [h.2 i (by omega), List.getElem?_take_of_lt hi]
theorem y_ar_set {f g : Nat → Int} {m : Int} {l : List Int} (h : y_ar f m l) {k : Nat} {v : Int} (hg : ∀ i, g i = if i = k then v else f i) : y_ar g m (l.set k v) := by
  refine ⟨by rw [h.1, List.length_set], fun i hi => ?_⟩
  rw [List.length_set] at hi
  rw [hg]
  by_cases e : i = k
  · subst e; simp [hi]
  · rw [if_neg e, h.2 i hi, List.getElem?_set_ne (by omega)]
theorem y_ar_at {f : Nat → Int} {m : Int} {l : List Int} (h : y_ar f m l) {k : Nat} (hk : k < l.length) : f k = l[k] := by
  rw [h.2 k hk, List.getElem?_eq_getElem hk]
  rfl
theorem y_pa_at {f : Nat → Int} {o : Nat} {m : Int} {l : List Int} (h : y_pa f o m l) {k : Nat} (hk : k < l.length) : f (o + k) = l[k] := by
  rw [h.2 k hk, List.getElem?_eq_getElem hk]
  rfl
theorem y_pa_add {f g : Nat → Int} {o : Nat} {m : Int} {l : List Int} (h : y_pa f o m l) {v : Int} (hg : ∀ i, g i = if i = o + l.length then v else f i) : y_pa g o (m + 1) (l ++ [v]) := by
  refine ⟨by rw [h.1]; simp, fun i hi => ?_⟩
  rw [hg]
  simp at hi
  by_cases e : i = l.length
  · subst e; simp
  · rw [if_neg (by omega), h.2 i (by omega), List.getElem?_append_left (by omega)]
theorem y_g1 {B D : z_D} {k j : Nat} {v : Int} (h : D.2 = B.2 ∧ ∀ c, c < 336 ∨ 362 ≤ c → D.1 c = B.1 c) (hk : 336 ≤ k ∧ k < 362) : (z_uz D k j v).2 = B.2 ∧ ∀ c, c < 336 ∨ 362 ≤ c → (z_uz D k j v).1 c = B.1 c := ⟨h.1, fun c hc => by rw [y_uz_cell (by omega)]; exact h.2 c hc⟩
section REF
variable {Q : y_Q} {D : z_D} {S : y_S}
theorem rf_s0 (h : y_ref Q S D) (v : Int) : y_ref Q (y_ss S 0 v) (z_uz D 336 3 v) := ⟨y_g1 h.1 (by decide), h.2.1, h.2.2.1, h.2.2.2.1, h.2.2.2.2.1, h.2.2.2.2.2.1, h.2.2.2.2.2.2.1, h.2.2.2.2.2.2.2.1, h.2.2.2.2.2.2.2.2.1, h.2.2.2.2.2.2.2.2.2.1, h.2.2.2.2.2.2.2.2.2.2.1, h.2.2.2.2.2.2.2.2.2.2.2.1, h.2.2.2.2.2.2.2.2.2.2.2.2.1, h.2.2.2.2.2.2.2.2.2.2.2.2.2.1, h.2.2.2.2.2.2.2.2.2.2.2.2.2.2.1, h.2.2.2.2.2.2.2.2.2.2.2.2.2.2.2.1, rfl, h.2.2.2.2.2.2.2.2.2.2.2.2.2.2.2.2.2.1, h.2.2.2.2.2.2.2.2.2.2.2.2.2.2.2.2.2.2.1, h.2.2.2.2.2.2.2.2.2.2.2.2.2.2.2.2.2.2.2.1, h.2.2.2.2.2.2.2.2.2.2.2.2.2.2.2.2.2.2.2.2.1, h.2.2.2.2.2.2.2.2.2.2.2.2.2.2.2.2.2.2.2.2.2⟩
theorem rf_s1 (h : y_ref Q S D) (v : Int) : y_ref Q (y_ss S 1 v) (z_uz D 336 4 v) := ⟨y_g1 h.1 (by decide), h.2.1, h.2.2.1, h.2.2.2.1, h.2.2.2.2.1, h.2.2.2.2.2.1, h.2.2.2.2.2.2.1, h.2.2.2.2.2.2.2.1, h.2.2.2.2.2.2.2.2.1, h.2.2.2.2.2.2.2.2.2.1, h.2.2.2.2.2.2.2.2.2.2.1, h.2.2.2.2.2.2.2.2.2.2.2.1, h.2.2.2.2.2.2.2.2.2.2.2.2.1, h.2.2.2.2.2.2.2.2.2.2.2.2.2.1, h.2.2.2.2.2.2.2.2.2.2.2.2.2.2.1, h.2.2.2.2.2.2.2.2.2.2.2.2.2.2.2.1, h.2.2.2.2.2.2.2.2.2.2.2.2.2.2.2.2.1, rfl, h.2.2.2.2.2.2.2.2.2.2.2.2.2.2.2.2.2.2.1, h.2.2.2.2.2.2.2.2.2.2.2.2.2.2.2.2.2.2.2.1, h.2.2.2.2.2.2.2.2.2.2.2.2.2.2.2.2.2.2.2.2.1, h.2.2.2.2.2.2.2.2.2.2.2.2.2.2.2.2.2.2.2.2.2⟩
theorem rf_s2 (h : y_ref Q S D) (v : Int) : y_ref Q (y_ss S 2 v) (z_uz D 336 6 v) := ⟨y_g1 h.1 (by decide), h.2.1, h.2.2.1, h.2.2.2.1, h.2.2.2.2.1, h.2.2.2.2.2.1, h.2.2.2.2.2.2.1, h.2.2.2.2.2.2.2.1, h.2.2.2.2.2.2.2.2.1, h.2.2.2.2.2.2.2.2.2.1, h.2.2.2.2.2.2.2.2.2.2.1, h.2.2.2.2.2.2.2.2.2.2.2.1, h.2.2.2.2.2.2.2.2.2.2.2.2.1, h.2.2.2.2.2.2.2.2.2.2.2.2.2.1, h.2.2.2.2.2.2.2.2.2.2.2.2.2.2.1, h.2.2.2.2.2.2.2.2.2.2.2.2.2.2.2.1, h.2.2.2.2.2.2.2.2.2.2.2.2.2.2.2.2.1, h.2.2.2.2.2.2.2.2.2.2.2.2.2.2.2.2.2.1, h.2.2.2.2.2.2.2.2.2.2.2.2.2.2.2.2.2.2.1, rfl, h.2.2.2.2.2.2.2.2.2.2.2.2.2.2.2.2.2.2.2.2.1, h.2.2.2.2.2.2.2.2.2.2.2.2.2.2.2.2.2.2.2.2.2⟩
theorem rf_s3 (h : y_ref Q S D) (v : Int) : y_ref Q (y_ss S 3 v) (z_uz D 336 5 v) := ⟨y_g1 h.1 (by decide), h.2.1, h.2.2.1, h.2.2.2.1, h.2.2.2.2.1, h.2.2.2.2.2.1, h.2.2.2.2.2.2.1, h.2.2.2.2.2.2.2.1, h.2.2.2.2.2.2.2.2.1, h.2.2.2.2.2.2.2.2.2.1, h.2.2.2.2.2.2.2.2.2.2.1, h.2.2.2.2.2.2.2.2.2.2.2.1, h.2.2.2.2.2.2.2.2.2.2.2.2.1, h.2.2.2.2.2.2.2.2.2.2.2.2.2.1, h.2.2.2.2.2.2.2.2.2.2.2.2.2.2.1, h.2.2.2.2.2.2.2.2.2.2.2.2.2.2.2.1, h.2.2.2.2.2.2.2.2.2.2.2.2.2.2.2.2.1, h.2.2.2.2.2.2.2.2.2.2.2.2.2.2.2.2.2.1, rfl, h.2.2.2.2.2.2.2.2.2.2.2.2.2.2.2.2.2.2.2.1, h.2.2.2.2.2.2.2.2.2.2.2.2.2.2.2.2.2.2.2.2.1, h.2.2.2.2.2.2.2.2.2.2.2.2.2.2.2.2.2.2.2.2.2⟩
theorem rf_s4 (h : y_ref Q S D) (v : Int) : y_ref Q (y_ss S 4 v) (z_uz D 336 7 v) := ⟨y_g1 h.1 (by decide), h.2.1, h.2.2.1, h.2.2.2.1, h.2.2.2.2.1, h.2.2.2.2.2.1, h.2.2.2.2.2.2.1, h.2.2.2.2.2.2.2.1, h.2.2.2.2.2.2.2.2.1, h.2.2.2.2.2.2.2.2.2.1, h.2.2.2.2.2.2.2.2.2.2.1, h.2.2.2.2.2.2.2.2.2.2.2.1, h.2.2.2.2.2.2.2.2.2.2.2.2.1, h.2.2.2.2.2.2.2.2.2.2.2.2.2.1, h.2.2.2.2.2.2.2.2.2.2.2.2.2.2.1, h.2.2.2.2.2.2.2.2.2.2.2.2.2.2.2.1, h.2.2.2.2.2.2.2.2.2.2.2.2.2.2.2.2.1, h.2.2.2.2.2.2.2.2.2.2.2.2.2.2.2.2.2.1, h.2.2.2.2.2.2.2.2.2.2.2.2.2.2.2.2.2.2.1, h.2.2.2.2.2.2.2.2.2.2.2.2.2.2.2.2.2.2.2.1, rfl, h.2.2.2.2.2.2.2.2.2.2.2.2.2.2.2.2.2.2.2.2.2⟩
theorem rf_s5 (h : y_ref Q S D) (v : Int) : y_ref Q (y_ss S 5 v) D := ⟨h.1, h.2.1, h.2.2.1, h.2.2.2.1, h.2.2.2.2.1, h.2.2.2.2.2.1, h.2.2.2.2.2.2.1, h.2.2.2.2.2.2.2.1, h.2.2.2.2.2.2.2.2.1, h.2.2.2.2.2.2.2.2.2.1, h.2.2.2.2.2.2.2.2.2.2.1, h.2.2.2.2.2.2.2.2.2.2.2.1, h.2.2.2.2.2.2.2.2.2.2.2.2.1, h.2.2.2.2.2.2.2.2.2.2.2.2.2.1, h.2.2.2.2.2.2.2.2.2.2.2.2.2.2.1, h.2.2.2.2.2.2.2.2.2.2.2.2.2.2.2.1, h.2.2.2.2.2.2.2.2.2.2.2.2.2.2.2.2.1, h.2.2.2.2.2.2.2.2.2.2.2.2.2.2.2.2.2.1, h.2.2.2.2.2.2.2.2.2.2.2.2.2.2.2.2.2.2.1, h.2.2.2.2.2.2.2.2.2.2.2.2.2.2.2.2.2.2.2.1, h.2.2.2.2.2.2.2.2.2.2.2.2.2.2.2.2.2.2.2.2.1, h.2.2.2.2.2.2.2.2.2.2.2.2.2.2.2.2.2.2.2.2.2⟩
theorem rf_sp (h : y_ref Q S D) (v : Int) : y_ref Q S (z_uz D 336 16 v) := ⟨y_g1 h.1 (by decide), h.2.1, h.2.2.1, h.2.2.2.1, h.2.2.2.2.1, h.2.2.2.2.2.1, h.2.2.2.2.2.2.1, h.2.2.2.2.2.2.2.1, h.2.2.2.2.2.2.2.2.1, h.2.2.2.2.2.2.2.2.2.1, h.2.2.2.2.2.2.2.2.2.2.1, h.2.2.2.2.2.2.2.2.2.2.2.1, h.2.2.2.2.2.2.2.2.2.2.2.2.1, h.2.2.2.2.2.2.2.2.2.2.2.2.2.1, h.2.2.2.2.2.2.2.2.2.2.2.2.2.2.1, h.2.2.2.2.2.2.2.2.2.2.2.2.2.2.2.1, h.2.2.2.2.2.2.2.2.2.2.2.2.2.2.2.2.1, h.2.2.2.2.2.2.2.2.2.2.2.2.2.2.2.2.2.1, h.2.2.2.2.2.2.2.2.2.2.2.2.2.2.2.2.2.2.1, h.2.2.2.2.2.2.2.2.2.2.2.2.2.2.2.2.2.2.2.1, h.2.2.2.2.2.2.2.2.2.2.2.2.2.2.2.2.2.2.2.2.1, h.2.2.2.2.2.2.2.2.2.2.2.2.2.2.2.2.2.2.2.2.2⟩
theorem rf_th (h : y_ref Q S D) (v : Int) : y_ref Q S (z_uz D 336 0 v) := ⟨y_g1 h.1 (by decide), h.2.1, h.2.2.1, h.2.2.2.1, h.2.2.2.2.1, h.2.2.2.2.2.1, h.2.2.2.2.2.2.1, h.2.2.2.2.2.2.2.1, h.2.2.2.2.2.2.2.2.1, h.2.2.2.2.2.2.2.2.2.1, h.2.2.2.2.2.2.2.2.2.2.1, h.2.2.2.2.2.2.2.2.2.2.2.1, h.2.2.2.2.2.2.2.2.2.2.2.2.1, h.2.2.2.2.2.2.2.2.2.2.2.2.2.1, h.2.2.2.2.2.2.2.2.2.2.2.2.2.2.1, h.2.2.2.2.2.2.2.2.2.2.2.2.2.2.2.1, h.2.2.2.2.2.2.2.2.2.2.2.2.2.2.2.2.1, h.2.2.2.2.2.2.2.2.2.2.2.2.2.2.2.2.2.1, h.2.2.2.2.2.2.2.2.2.2.2.2.2.2.2.2.2.2.1, h.2.2.2.2.2.2.2.2.2.2.2.2.2.2.2.2.2.2.2.1, h.2.2.2.2.2.2.2.2.2.2.2.2.2.2.2.2.2.2.2.2.1, h.2.2.2.2.2.2.2.2.2.2.2.2.2.2.2.2.2.2.2.2.2⟩
theorem rf_sg (h : y_ref Q S D) (i : Nat) (v : Int) : y_ref Q S (z_uz D 344 i v) := ⟨y_g1 h.1 (by decide), h.2.1, h.2.2.1, h.2.2.2.1, h.2.2.2.2.1, h.2.2.2.2.2.1, h.2.2.2.2.2.2.1, h.2.2.2.2.2.2.2.1, h.2.2.2.2.2.2.2.2.1, h.2.2.2.2.2.2.2.2.2.1, h.2.2.2.2.2.2.2.2.2.2.1, h.2.2.2.2.2.2.2.2.2.2.2.1, h.2.2.2.2.2.2.2.2.2.2.2.2.1, h.2.2.2.2.2.2.2.2.2.2.2.2.2.1, h.2.2.2.2.2.2.2.2.2.2.2.2.2.2.1, h.2.2.2.2.2.2.2.2.2.2.2.2.2.2.2.1, h.2.2.2.2.2.2.2.2.2.2.2.2.2.2.2.2.1, h.2.2.2.2.2.2.2.2.2.2.2.2.2.2.2.2.2.1, h.2.2.2.2.2.2.2.2.2.2.2.2.2.2.2.2.2.2.1, h.2.2.2.2.2.2.2.2.2.2.2.2.2.2.2.2.2.2.2.1, h.2.2.2.2.2.2.2.2.2.2.2.2.2.2.2.2.2.2.2.2.1, h.2.2.2.2.2.2.2.2.2.2.2.2.2.2.2.2.2.2.2.2.2⟩
theorem rf_push (h : y_ref Q S D) (t : Int) : y_ref Q (y_sl S 1 (y_l S 1 ++ [t])) (z_uz (z_uz D 339 (y_l S 1).length (y_tr t)) 336 9 (((y_l S 1).length : Int) + 1)) := ⟨y_g1 (y_g1 h.1 (by decide)) (by decide), h.2.1, (by
  have e : ((y_l S 1 ++ [t]).map y_tr) = (y_l S 1).map y_tr ++ [y_tr t] := by simp
  show y_ar (am_u2 D.1 339 (y_l S 1).length (y_tr t) 339) (((y_l S 1).length : Int) + 1) ((y_l S 1 ++ [t]).map y_tr)
  rw [e]
  have := h.2.2.1
  rw [show ((y_l S 1).length : Int) = D.1 336 9 from by rw [this.1]; simp]
  exact y_ar_add this (fun i => by show (if (339 : Nat) = 339 then _ else _) = _; rw [if_pos rfl]; simp)), h.2.2.2.1, h.2.2.2.2.1, h.2.2.2.2.2.1, h.2.2.2.2.2.2.1, h.2.2.2.2.2.2.2.1, h.2.2.2.2.2.2.2.2.1, h.2.2.2.2.2.2.2.2.2.1, h.2.2.2.2.2.2.2.2.2.2.1, h.2.2.2.2.2.2.2.2.2.2.2.1, h.2.2.2.2.2.2.2.2.2.2.2.2.1, h.2.2.2.2.2.2.2.2.2.2.2.2.2.1, h.2.2.2.2.2.2.2.2.2.2.2.2.2.2.1, h.2.2.2.2.2.2.2.2.2.2.2.2.2.2.2.1, h.2.2.2.2.2.2.2.2.2.2.2.2.2.2.2.2.1, h.2.2.2.2.2.2.2.2.2.2.2.2.2.2.2.2.2.1, h.2.2.2.2.2.2.2.2.2.2.2.2.2.2.2.2.2.2.1, h.2.2.2.2.2.2.2.2.2.2.2.2.2.2.2.2.2.2.2.1, h.2.2.2.2.2.2.2.2.2.2.2.2.2.2.2.2.2.2.2.2.1, h.2.2.2.2.2.2.2.2.2.2.2.2.2.2.2.2.2.2.2.2.2⟩
theorem rf_pop (h : y_ref Q S D) {l : List Int} {t : Int} (e : y_l S 1 = l ++ [t]) : y_ref Q (y_sl S 1 l) (z_uz D 336 9 (l.length : Int)) := ⟨y_g1 h.1 (by decide), h.2.1, (by
  have := y_ar_cut h.2.2.1 (k := l.length) (by rw [e]; simp)
  rw [e, List.map_append, List.take_left' (by simp)] at this
  exact this), h.2.2.2.1, h.2.2.2.2.1, h.2.2.2.2.2.1, h.2.2.2.2.2.2.1, h.2.2.2.2.2.2.2.1, h.2.2.2.2.2.2.2.2.1, h.2.2.2.2.2.2.2.2.2.1, h.2.2.2.2.2.2.2.2.2.2.1, h.2.2.2.2.2.2.2.2.2.2.2.1, h.2.2.2.2.2.2.2.2.2.2.2.2.1, h.2.2.2.2.2.2.2.2.2.2.2.2.2.1, h.2.2.2.2.2.2.2.2.2.2.2.2.2.2.1, h.2.2.2.2.2.2.2.2.2.2.2.2.2.2.2.1, h.2.2.2.2.2.2.2.2.2.2.2.2.2.2.2.2.1, h.2.2.2.2.2.2.2.2.2.2.2.2.2.2.2.2.2.1, h.2.2.2.2.2.2.2.2.2.2.2.2.2.2.2.2.2.2.1, h.2.2.2.2.2.2.2.2.2.2.2.2.2.2.2.2.2.2.2.1, h.2.2.2.2.2.2.2.2.2.2.2.2.2.2.2.2.2.2.2.2.1, h.2.2.2.2.2.2.2.2.2.2.2.2.2.2.2.2.2.2.2.2.2⟩
theorem rf_out (h : y_ref Q S D) (t : Int) : y_ref Q (y_sl S 2 (y_l S 2 ++ [t])) (z_uz (z_uz D 359 (y_l S 2).length t) 336 37 (((y_l S 2).length : Int) + 1)) := ⟨y_g1 (y_g1 h.1 (by decide)) (by decide), h.2.1, h.2.2.1, (by
  have := h.2.2.2.1
  show y_ar (am_u2 D.1 359 (y_l S 2).length t 359) (((y_l S 2).length : Int) + 1) _
  rw [show ((y_l S 2).length : Int) = D.1 336 37 from this.1.symm]
  exact y_ar_add this (fun i => by show (if (359 : Nat) = 359 then _ else _) = _; rw [if_pos rfl])), h.2.2.2.2.1, h.2.2.2.2.2.1, h.2.2.2.2.2.2.1, h.2.2.2.2.2.2.2.1, h.2.2.2.2.2.2.2.2.1, h.2.2.2.2.2.2.2.2.2.1, h.2.2.2.2.2.2.2.2.2.2.1, h.2.2.2.2.2.2.2.2.2.2.2.1, h.2.2.2.2.2.2.2.2.2.2.2.2.1, h.2.2.2.2.2.2.2.2.2.2.2.2.2.1, h.2.2.2.2.2.2.2.2.2.2.2.2.2.2.1, h.2.2.2.2.2.2.2.2.2.2.2.2.2.2.2.1, h.2.2.2.2.2.2.2.2.2.2.2.2.2.2.2.2.1, h.2.2.2.2.2.2.2.2.2.2.2.2.2.2.2.2.2.1, h.2.2.2.2.2.2.2.2.2.2.2.2.2.2.2.2.2.2.1, h.2.2.2.2.2.2.2.2.2.2.2.2.2.2.2.2.2.2.2.1, h.2.2.2.2.2.2.2.2.2.2.2.2.2.2.2.2.2.2.2.2.1, h.2.2.2.2.2.2.2.2.2.2.2.2.2.2.2.2.2.2.2.2.2⟩
theorem rf_cond (h : y_ref Q S D) (t : Int) : y_ref Q (y_sl S 3 (y_l S 3 ++ [t])) (z_uz (z_uz D 353 (y_l S 3).length t) 336 29 (((y_l S 3).length : Int) + 1)) := ⟨y_g1 (y_g1 h.1 (by decide)) (by decide), h.2.1, h.2.2.1, h.2.2.2.1, (by
  have := h.2.2.2.2.1
  show y_ar (am_u2 D.1 353 (y_l S 3).length t 353) (((y_l S 3).length : Int) + 1) _
  rw [show ((y_l S 3).length : Int) = D.1 336 29 from this.1.symm]
  exact y_ar_add this (fun i => by show (if (353 : Nat) = 353 then _ else _) = _; rw [if_pos rfl])), h.2.2.2.2.2.1, h.2.2.2.2.2.2.1, h.2.2.2.2.2.2.2.1, h.2.2.2.2.2.2.2.2.1, h.2.2.2.2.2.2.2.2.2.1, h.2.2.2.2.2.2.2.2.2.2.1, h.2.2.2.2.2.2.2.2.2.2.2.1, h.2.2.2.2.2.2.2.2.2.2.2.2.1, h.2.2.2.2.2.2.2.2.2.2.2.2.2.1, h.2.2.2.2.2.2.2.2.2.2.2.2.2.2.1, h.2.2.2.2.2.2.2.2.2.2.2.2.2.2.2.1, h.2.2.2.2.2.2.2.2.2.2.2.2.2.2.2.2.1, h.2.2.2.2.2.2.2.2.2.2.2.2.2.2.2.2.2.1, h.2.2.2.2.2.2.2.2.2.2.2.2.2.2.2.2.2.2.1, h.2.2.2.2.2.2.2.2.2.2.2.2.2.2.2.2.2.2.2.1, h.2.2.2.2.2.2.2.2.2.2.2.2.2.2.2.2.2.2.2.2.1, h.2.2.2.2.2.2.2.2.2.2.2.2.2.2.2.2.2.2.2.2.2⟩
theorem rf_condN (h : y_ref Q S D) {k : Nat} (hk : k ≤ (y_l S 3).length) : y_ref Q (y_sl S 3 ((y_l S 3).take k)) (z_uz D 336 29 (k : Int)) := ⟨y_g1 h.1 (by decide), h.2.1, h.2.2.1, h.2.2.2.1, y_ar_cut h.2.2.2.2.1 hk, h.2.2.2.2.2.1, h.2.2.2.2.2.2.1, h.2.2.2.2.2.2.2.1, h.2.2.2.2.2.2.2.2.1, h.2.2.2.2.2.2.2.2.2.1, h.2.2.2.2.2.2.2.2.2.2.1, h.2.2.2.2.2.2.2.2.2.2.2.1, h.2.2.2.2.2.2.2.2.2.2.2.2.1, h.2.2.2.2.2.2.2.2.2.2.2.2.2.1, h.2.2.2.2.2.2.2.2.2.2.2.2.2.2.1, h.2.2.2.2.2.2.2.2.2.2.2.2.2.2.2.1, h.2.2.2.2.2.2.2.2.2.2.2.2.2.2.2.2.1, h.2.2.2.2.2.2.2.2.2.2.2.2.2.2.2.2.2.1, h.2.2.2.2.2.2.2.2.2.2.2.2.2.2.2.2.2.2.1, h.2.2.2.2.2.2.2.2.2.2.2.2.2.2.2.2.2.2.2.1, h.2.2.2.2.2.2.2.2.2.2.2.2.2.2.2.2.2.2.2.2.1, h.2.2.2.2.2.2.2.2.2.2.2.2.2.2.2.2.2.2.2.2.2⟩
theorem rf_condS (h : y_ref Q S D) (k : Nat) (v : Int) : y_ref Q (y_sl S 3 ((y_l S 3).set k v)) (z_uz D 353 k v) := ⟨y_g1 h.1 (by decide), h.2.1, h.2.2.1, h.2.2.2.1, (y_ar_set h.2.2.2.2.1 (fun i => by show am_u2 D.1 353 k v 353 i = _; unfold am_u2; rw [if_pos rfl])), h.2.2.2.2.2.1, h.2.2.2.2.2.2.1, h.2.2.2.2.2.2.2.1, h.2.2.2.2.2.2.2.2.1, h.2.2.2.2.2.2.2.2.2.1, h.2.2.2.2.2.2.2.2.2.2.1, h.2.2.2.2.2.2.2.2.2.2.2.1, h.2.2.2.2.2.2.2.2.2.2.2.2.1, h.2.2.2.2.2.2.2.2.2.2.2.2.2.1, h.2.2.2.2.2.2.2.2.2.2.2.2.2.2.1, h.2.2.2.2.2.2.2.2.2.2.2.2.2.2.2.1, h.2.2.2.2.2.2.2.2.2.2.2.2.2.2.2.2.1, h.2.2.2.2.2.2.2.2.2.2.2.2.2.2.2.2.2.1, h.2.2.2.2.2.2.2.2.2.2.2.2.2.2.2.2.2.2.1, h.2.2.2.2.2.2.2.2.2.2.2.2.2.2.2.2.2.2.2.1, h.2.2.2.2.2.2.2.2.2.2.2.2.2.2.2.2.2.2.2.2.1, h.2.2.2.2.2.2.2.2.2.2.2.2.2.2.2.2.2.2.2.2.2⟩
theorem rf_cat (h : y_ref Q S D) (c : Nat) (v : Int) : y_ref Q (y_scat S c v) (z_uz D 338 c v) := ⟨y_g1 h.1 (by decide), h.2.1, h.2.2.1, h.2.2.2.1, h.2.2.2.2.1, h.2.2.2.2.2.1, h.2.2.2.2.2.2.1, (fun k hk => by
  show am_u2 D.1 338 c v 338 k = am_u1 (y_cat S) c v k
  unfold am_u2 am_u1
  rw [if_pos rfl]
  split
  · rfl
  · exact h.2.2.2.2.2.2.2.1 k hk), h.2.2.2.2.2.2.2.2.1, h.2.2.2.2.2.2.2.2.2.1, h.2.2.2.2.2.2.2.2.2.2.1, h.2.2.2.2.2.2.2.2.2.2.2.1, h.2.2.2.2.2.2.2.2.2.2.2.2.1, h.2.2.2.2.2.2.2.2.2.2.2.2.2.1, h.2.2.2.2.2.2.2.2.2.2.2.2.2.2.1, h.2.2.2.2.2.2.2.2.2.2.2.2.2.2.2.1, h.2.2.2.2.2.2.2.2.2.2.2.2.2.2.2.2.1, h.2.2.2.2.2.2.2.2.2.2.2.2.2.2.2.2.2.1, h.2.2.2.2.2.2.2.2.2.2.2.2.2.2.2.2.2.2.1, h.2.2.2.2.2.2.2.2.2.2.2.2.2.2.2.2.2.2.2.1, h.2.2.2.2.2.2.2.2.2.2.2.2.2.2.2.2.2.2.2.2.1, h.2.2.2.2.2.2.2.2.2.2.2.2.2.2.2.2.2.2.2.2.2⟩
theorem rf_mean (h : y_ref Q S D) (c : Nat) (v : Int) : y_ref Q (y_smean S c v) (z_uz D 343 c (y_mr v)) := ⟨y_g1 h.1 (by decide), h.2.1, h.2.2.1, h.2.2.2.1, h.2.2.2.2.1, h.2.2.2.2.2.1, h.2.2.2.2.2.2.1, h.2.2.2.2.2.2.2.1, h.2.2.2.2.2.2.2.2.1, (fun k hk => by
  show am_u2 D.1 343 c (y_mr v) 343 k = y_mr (am_u1 (y_mean S) c v k)
  unfold am_u2 am_u1
  rw [if_pos rfl]
  split
  · rfl
  · exact h.2.2.2.2.2.2.2.2.2.1 k hk), h.2.2.2.2.2.2.2.2.2.2.1, h.2.2.2.2.2.2.2.2.2.2.2.1, h.2.2.2.2.2.2.2.2.2.2.2.2.1, h.2.2.2.2.2.2.2.2.2.2.2.2.2.1, h.2.2.2.2.2.2.2.2.2.2.2.2.2.2.1, h.2.2.2.2.2.2.2.2.2.2.2.2.2.2.2.1, h.2.2.2.2.2.2.2.2.2.2.2.2.2.2.2.2.1, h.2.2.2.2.2.2.2.2.2.2.2.2.2.2.2.2.2.1, h.2.2.2.2.2.2.2.2.2.2.2.2.2.2.2.2.2.2.1, h.2.2.2.2.2.2.2.2.2.2.2.2.2.2.2.2.2.2.2.1, h.2.2.2.2.2.2.2.2.2.2.2.2.2.2.2.2.2.2.2.2.1, h.2.2.2.2.2.2.2.2.2.2.2.2.2.2.2.2.2.2.2.2.2⟩
theorem y_gn_app (l : List Int) (s : Int) {i : Nat} (h : ¬ s ≤ (i : Int)) : y_gn (l ++ [s]) i = y_gn l i := by
  unfold y_gn
  rw [List.filter_append, List.length_append, List.filter_cons_of_neg (by simpa using h)]
  simp
theorem y_gn_all {l : List Int} {i : Nat} (h : ∀ s ∈ l, s ≤ (i : Int)) : y_gn l i = l.length := by
  unfold y_gn
  rw [List.filter_eq_self.mpr (fun s hs => decide_eq_true (h s hs))]
theorem rf_open (h : y_ref Q S D) : y_ref Q (y_sl S 4 (y_l S 4 ++ [((y_l S 5).length : Int)])) (z_uz D 336 18 (((y_l S 4).length : Int) + 1)) := ⟨y_g1 h.1 (by decide), h.2.1, h.2.2.1, h.2.2.2.1, h.2.2.2.2.1, (by
  show ((y_l S 4).length : Int) + 1 = ((y_l S 4 ++ [((y_l S 5).length : Int)]).length : Int)
  simp), ⟨h.2.2.2.2.2.2.1.1, h.2.2.2.2.2.2.1.2.1, fun i hi => by
  show D.1 345 i = y_gn (y_l S 4 ++ [((y_l S 5).length : Int)]) i
  have hi' : i < (y_l S 5).length := hi
  rw [y_gn_app _ _ (by omega)]
  exact h.2.2.2.2.2.2.1.2.2 i hi⟩, h.2.2.2.2.2.2.2.1, h.2.2.2.2.2.2.2.2.1, h.2.2.2.2.2.2.2.2.2.1, h.2.2.2.2.2.2.2.2.2.2.1, h.2.2.2.2.2.2.2.2.2.2.2.1, h.2.2.2.2.2.2.2.2.2.2.2.2.1, h.2.2.2.2.2.2.2.2.2.2.2.2.2.1, h.2.2.2.2.2.2.2.2.2.2.2.2.2.2.1, h.2.2.2.2.2.2.2.2.2.2.2.2.2.2.2.1, h.2.2.2.2.2.2.2.2.2.2.2.2.2.2.2.2.1, h.2.2.2.2.2.2.2.2.2.2.2.2.2.2.2.2.2.1, h.2.2.2.2.2.2.2.2.2.2.2.2.2.2.2.2.2.2.1, h.2.2.2.2.2.2.2.2.2.2.2.2.2.2.2.2.2.2.2.1, h.2.2.2.2.2.2.2.2.2.2.2.2.2.2.2.2.2.2.2.2.1, h.2.2.2.2.2.2.2.2.2.2.2.2.2.2.2.2.2.2.2.2.2⟩
theorem rf_shut (h : y_ref Q S D) {l : List Int} {s : Int} (e : y_l S 4 = l ++ [s]) (hs : ((y_l S 5).length : Int) ≤ s) : y_ref Q (y_sl S 4 l) (z_uz D 336 18 (l.length : Int)) := ⟨y_g1 h.1 (by decide), h.2.1, h.2.2.1, h.2.2.2.1, h.2.2.2.2.1, rfl, ⟨h.2.2.2.2.2.2.1.1, h.2.2.2.2.2.2.1.2.1, fun i hi => by
  show D.1 345 i = y_gn l i
  have hi' : i < (y_l S 5).length := hi
  have := h.2.2.2.2.2.2.1.2.2 i hi
  rw [e, y_gn_app _ _ (by omega)] at this
  exact this⟩, h.2.2.2.2.2.2.2.1, h.2.2.2.2.2.2.2.2.1, h.2.2.2.2.2.2.2.2.2.1, h.2.2.2.2.2.2.2.2.2.2.1, h.2.2.2.2.2.2.2.2.2.2.2.1, h.2.2.2.2.2.2.2.2.2.2.2.2.1, h.2.2.2.2.2.2.2.2.2.2.2.2.2.1, h.2.2.2.2.2.2.2.2.2.2.2.2.2.2.1, h.2.2.2.2.2.2.2.2.2.2.2.2.2.2.2.1, h.2.2.2.2.2.2.2.2.2.2.2.2.2.2.2.2.1, h.2.2.2.2.2.2.2.2.2.2.2.2.2.2.2.2.2.1, h.2.2.2.2.2.2.2.2.2.2.2.2.2.2.2.2.2.2.1, h.2.2.2.2.2.2.2.2.2.2.2.2.2.2.2.2.2.2.2.1, h.2.2.2.2.2.2.2.2.2.2.2.2.2.2.2.2.2.2.2.2.1, h.2.2.2.2.2.2.2.2.2.2.2.2.2.2.2.2.2.2.2.2.2⟩
theorem rf_keep (h : y_ref Q S D) (hl : (y_l S 6).length = (y_l S 5).length) (hs : ∀ s ∈ y_l S 4, s ≤ (y_l S 5).length) (k v : Int) : y_ref Q (y_sl (y_sl S 5 (y_l S 5 ++ [k])) 6 (y_l S 6 ++ [v])) (z_uz (z_uz (z_uz (z_uz D 345 (y_l S 5).length ((y_l S 4).length : Int)) 346 (y_l S 5).length (y_kr k)) 347 (y_l S 5).length (y_vr k v)) 336 19 (((y_l S 5).length : Int) + 1)) := ⟨y_g1 (y_g1 (y_g1 (y_g1 h.1 (by decide)) (by decide)) (by decide)) (by decide), h.2.1, h.2.2.1, h.2.2.2.1, h.2.2.2.2.1, h.2.2.2.2.2.1, ⟨by
  have := h.2.2.2.2.2.2.1.1
  show y_ar (am_u2 D.1 346 (y_l S 5).length (y_kr k) 346) (((y_l S 5).length : Int) + 1) ((y_l S 5 ++ [k]).map y_kr)
  rw [show ((y_l S 5 ++ [k]).map y_kr) = (y_l S 5).map y_kr ++ [y_kr k] by simp, show ((y_l S 5).length : Int) = D.1 336 19 from by rw [this.1]; simp]
  exact y_ar_add this (fun i => by show (if (346 : Nat) = 346 then _ else _) = _; rw [if_pos rfl]; simp), fun i k' v' a b => by
  have a' : (y_l S 5 ++ [k])[i]? = some k' := a
  have b' : (y_l S 6 ++ [v])[i]? = some v' := b
  show am_u2 D.1 347 (y_l S 5).length (y_vr k v) 347 i = y_vr k' v'
  unfold am_u2
  rw [if_pos rfl]
  by_cases c : i < (y_l S 5).length
  · rw [List.getElem?_append_left c] at a'
    rw [List.getElem?_append_left (by omega)] at b'
    rw [if_neg (by omega)]
    exact h.2.2.2.2.2.2.1.2.1 i k' v' a' b'
  · have hi : i = (y_l S 5).length := by
      have := (List.getElem?_eq_some_iff.mp a').1
      simp at this
      omega
    subst hi
    rw [List.getElem?_append_right (Nat.le_refl _)] at a'
    rw [List.getElem?_append_right (by omega), hl] at b'
    simp at a' b'
    subst a' b'
    rw [if_pos rfl], fun i hi => by
  show am_u2 D.1 345 (y_l S 5).length ((y_l S 4).length : Int) 345 i = y_gn (y_l S 4) i
  have hi' : i < (y_l S 5 ++ [k]).length := hi
  simp at hi'
  unfold am_u2
  rw [if_pos rfl]
  by_cases c : i = (y_l S 5).length
  · rw [if_pos c, c, y_gn_all hs]
  · rw [if_neg c]
    exact h.2.2.2.2.2.2.1.2.2 i (by omega)⟩, h.2.2.2.2.2.2.2.1, h.2.2.2.2.2.2.2.2.1, h.2.2.2.2.2.2.2.2.2.1, h.2.2.2.2.2.2.2.2.2.2.1, h.2.2.2.2.2.2.2.2.2.2.2.1, h.2.2.2.2.2.2.2.2.2.2.2.2.1, h.2.2.2.2.2.2.2.2.2.2.2.2.2.1, h.2.2.2.2.2.2.2.2.2.2.2.2.2.2.1, h.2.2.2.2.2.2.2.2.2.2.2.2.2.2.2.1, h.2.2.2.2.2.2.2.2.2.2.2.2.2.2.2.2.1, h.2.2.2.2.2.2.2.2.2.2.2.2.2.2.2.2.2.1, h.2.2.2.2.2.2.2.2.2.2.2.2.2.2.2.2.2.2.1, h.2.2.2.2.2.2.2.2.2.2.2.2.2.2.2.2.2.2.2.1, h.2.2.2.2.2.2.2.2.2.2.2.2.2.2.2.2.2.2.2.2.1, h.2.2.2.2.2.2.2.2.2.2.2.2.2.2.2.2.2.2.2.2.2⟩
theorem rf_unkeep (h : y_ref Q S D) {a b : List Int} {k v : Int} (ea : y_l S 5 = a ++ [k]) (eb : y_l S 6 = b ++ [v]) (hl : a.length = b.length) : y_ref Q (y_sl (y_sl S 5 a) 6 b) (z_uz D 336 19 (a.length : Int)) := ⟨y_g1 h.1 (by decide), h.2.1, h.2.2.1, h.2.2.2.1, h.2.2.2.2.1, h.2.2.2.2.2.1, ⟨by
  have := y_ar_cut h.2.2.2.2.2.2.1.1 (k := a.length) (by rw [ea]; simp)
  rw [ea, List.map_append, List.take_left' (by simp)] at this
  exact this, fun i k' v' p q => h.2.2.2.2.2.2.1.2.1 i k' v' (by
    have p' : a[i]? = some k' := p
    have := (List.getElem?_eq_some_iff.mp p').1
    rw [ea, List.getElem?_append_left this]; exact p') (by
    have q' : b[i]? = some v' := q
    have := (List.getElem?_eq_some_iff.mp q').1
    rw [eb, List.getElem?_append_left this]; exact q'), fun i hi => h.2.2.2.2.2.2.1.2.2 i (by
    have hi' : i < a.length := hi
    rw [ea]; simp; omega)⟩, h.2.2.2.2.2.2.2.1, h.2.2.2.2.2.2.2.2.1, h.2.2.2.2.2.2.2.2.2.1, h.2.2.2.2.2.2.2.2.2.2.1, h.2.2.2.2.2.2.2.2.2.2.2.1, h.2.2.2.2.2.2.2.2.2.2.2.2.1, h.2.2.2.2.2.2.2.2.2.2.2.2.2.1, h.2.2.2.2.2.2.2.2.2.2.2.2.2.2.1, h.2.2.2.2.2.2.2.2.2.2.2.2.2.2.2.1, h.2.2.2.2.2.2.2.2.2.2.2.2.2.2.2.2.1, h.2.2.2.2.2.2.2.2.2.2.2.2.2.2.2.2.2.1, h.2.2.2.2.2.2.2.2.2.2.2.2.2.2.2.2.2.2.1, h.2.2.2.2.2.2.2.2.2.2.2.2.2.2.2.2.2.2.2.1, h.2.2.2.2.2.2.2.2.2.2.2.2.2.2.2.2.2.2.2.2.1, h.2.2.2.2.2.2.2.2.2.2.2.2.2.2.2.2.2.2.2.2.2⟩
/-- the strong relation: no fault yet -/
def y_rf (Q : y_Q) (S : y_S) (D : z_D) : Prop := y_ref Q S D ∧ y_s S 3 = 0
/-- behind a fault -/
def y_rfw (B : z_D) (S : y_S) (D : z_D) : Prop := ∃ A F v, y_ref (B, A, F) (y_ss S 1 v) D ∧ 0 < y_s S 3 ∧ y_s S 3 ≤ 8
def y_rT (B : z_D) (K : z_D → Prop) (S : y_S) : Prop := ∀ D, y_rfw B S D → K D
theorem y_gt {α β : Type} {x : y_Re α} {f : α → y_S → y_Re β} {P K' : α → y_S → Prop} {Z T T' : y_S → Prop} {K : β → y_S → Prop} (hp : y_fin x P Z) (h : y_fin (y_bd x f) K T) (hk : ∀ v S', P v S' → y_fin (f v S') K T → K' v S') (ht : ∀ S', T S' → T' S') : y_fin x K' T' := by
  cases x with
  | inl q => exact hk q.1 q.2 hp h
  | inr S => exact ht S h
theorem y_tm {α : Type} {x : y_Re α} {K K' : α → y_S → Prop} {T T' : y_S → Prop} (h : y_fin x K T) (hk : ∀ v S', K v S' → K' v S') (ht : ∀ S', T S' → T' S') : y_fin x K' T' := by
  cases x with
  | inl q => exact hk q.1 q.2 h
  | inr S => exact ht S h
/-- a fault is told -/
theorem c_stop {n d : Nat} {k : Int} {K : Int → z_D → Prop} {T : Nat → z_D → Prop} (h : y_rf Q S D) (k1 : 1 ≤ k) (k8 : k ≤ 8) (hT : y_rT Q.1 (K (-1)) (y_ss S 3 k)) : z_c n (d + 1) 98 [.ref 336, .int (z_i k)] D (z_qI K T) := by
  have e : D.1 336 5 = y_s S 3 := h.1.2.2.2.2.2.2.2.2.2.2.2.2.2.2.2.2.2.2.1
  refine r_mStop ?_
  unfold w_mStop_0
  rw [e, h.2]
  refine ⟨z_rk rfl, fun c => absurd rfl c, fun _ D3 e3 => hT D3 ⟨Q.2.1, Q.2.2, y_s S 1, ?_, ?_, ?_⟩⟩
  · rw [e3]
    have := rf_s3 h.1 k
    exact ⟨this.1, this.2.1, this.2.2.1, this.2.2.2.1, this.2.2.2.2.1, this.2.2.2.2.2.1, this.2.2.2.2.2.2.1, this.2.2.2.2.2.2.2.1, this.2.2.2.2.2.2.2.2.1, this.2.2.2.2.2.2.2.2.2.1, this.2.2.2.2.2.2.2.2.2.2.1, this.2.2.2.2.2.2.2.2.2.2.2.1, this.2.2.2.2.2.2.2.2.2.2.2.2.1, this.2.2.2.2.2.2.2.2.2.2.2.2.2.1, this.2.2.2.2.2.2.2.2.2.2.2.2.2.2.1, this.2.2.2.2.2.2.2.2.2.2.2.2.2.2.2.1, this.2.2.2.2.2.2.2.2.2.2.2.2.2.2.2.2.1, this.2.2.2.2.2.2.2.2.2.2.2.2.2.2.2.2.2.1, this.2.2.2.2.2.2.2.2.2.2.2.2.2.2.2.2.2.2.1, this.2.2.2.2.2.2.2.2.2.2.2.2.2.2.2.2.2.2.2.1, this.2.2.2.2.2.2.2.2.2.2.2.2.2.2.2.2.2.2.2.2.1, this.2.2.2.2.2.2.2.2.2.2.2.2.2.2.2.2.2.2.2.2.2⟩
  · show 0 < k
    omega
  · exact k8
theorem c_stopV {n d : Nat} {k : Int} {K : Int → z_D → Prop} {T : Nat → z_D → Prop} {v : Int} (h : y_ref Q (y_ss S 1 v) D) (hf : y_s S 3 = 0) (k1 : 1 ≤ k) (k8 : k ≤ 8) (hT : y_rT Q.1 (K (-1)) (y_ss S 3 k)) : z_c n (d + 1) 98 [.ref 336, .int (z_i k)] D (z_qI K T) := by
  have e : D.1 336 5 = y_s S 3 := h.2.2.2.2.2.2.2.2.2.2.2.2.2.2.2.2.2.2.1
  refine r_mStop ?_
  unfold w_mStop_0
  rw [e, hf]
  refine ⟨z_rk rfl, fun c => absurd rfl c, fun _ D3 e3 => hT D3 ⟨Q.2.1, Q.2.2, v, ?_, ?_, ?_⟩⟩
  · rw [e3]
    have := rf_s3 h k
    exact ⟨this.1, this.2.1, this.2.2.1, this.2.2.2.1, this.2.2.2.2.1, this.2.2.2.2.2.1, this.2.2.2.2.2.2.1, this.2.2.2.2.2.2.2.1, this.2.2.2.2.2.2.2.2.1, this.2.2.2.2.2.2.2.2.2.1, this.2.2.2.2.2.2.2.2.2.2.1, this.2.2.2.2.2.2.2.2.2.2.2.1, this.2.2.2.2.2.2.2.2.2.2.2.2.1, this.2.2.2.2.2.2.2.2.2.2.2.2.2.1, this.2.2.2.2.2.2.2.2.2.2.2.2.2.2.1, this.2.2.2.2.2.2.2.2.2.2.2.2.2.2.2.1, this.2.2.2.2.2.2.2.2.2.2.2.2.2.2.2.2.1, this.2.2.2.2.2.2.2.2.2.2.2.2.2.2.2.2.2.1, this.2.2.2.2.2.2.2.2.2.2.2.2.2.2.2.2.2.2.1, this.2.2.2.2.2.2.2.2.2.2.2.2.2.2.2.2.2.2.2.1, this.2.2.2.2.2.2.2.2.2.2.2.2.2.2.2.2.2.2.2.2.1, this.2.2.2.2.2.2.2.2.2.2.2.2.2.2.2.2.2.2.2.2.2⟩
  · show 0 < k
    omega
  · exact k8
/-- behind a fault another one changes nothing -/
theorem c_stopW {n d : Nat} {k : Int} {K : Int → z_D → Prop} {T : Nat → z_D → Prop} {B : z_D} (h : y_rfw B S D) (hT : y_rT B (K (-1)) S) : z_c n (d + 1) 98 [.ref 336, .int (z_i k)] D (z_qI K T) := by
  obtain ⟨A, F, v, hr, f0, f8⟩ := h
  have e : D.1 336 5 = y_s S 3 := hr.2.2.2.2.2.2.2.2.2.2.2.2.2.2.2.2.2.2.1
  refine r_mStop ?_
  unfold w_mStop_0
  rw [e]
  refine ⟨y_rs (by omega) (by omega), fun c D2 e2 => hT D2 ⟨A, F, v, ?_, f0, f8⟩, fun c => by omega⟩
  rw [e2]
  have := rf_s3 hr (y_s S 3)
  exact ⟨this.1, this.2.1, this.2.2.1, this.2.2.2.1, this.2.2.2.2.1, this.2.2.2.2.2.1, this.2.2.2.2.2.2.1, this.2.2.2.2.2.2.2.1, this.2.2.2.2.2.2.2.2.1, this.2.2.2.2.2.2.2.2.2.1, this.2.2.2.2.2.2.2.2.2.2.1, this.2.2.2.2.2.2.2.2.2.2.2.1, this.2.2.2.2.2.2.2.2.2.2.2.2.1, this.2.2.2.2.2.2.2.2.2.2.2.2.2.1, this.2.2.2.2.2.2.2.2.2.2.2.2.2.2.1, this.2.2.2.2.2.2.2.2.2.2.2.2.2.2.2.1, this.2.2.2.2.2.2.2.2.2.2.2.2.2.2.2.2.1, this.2.2.2.2.2.2.2.2.2.2.2.2.2.2.2.2.2.1, rfl, this.2.2.2.2.2.2.2.2.2.2.2.2.2.2.2.2.2.2.2.1, this.2.2.2.2.2.2.2.2.2.2.2.2.2.2.2.2.2.2.2.2.1, this.2.2.2.2.2.2.2.2.2.2.2.2.2.2.2.2.2.2.2.2.2⟩
theorem y_rfw_f {B : z_D} (h : y_rfw B S D) : 0 < D.1 336 5 ∧ D.1 336 5 ≤ 8 := by
  obtain ⟨A, F, v, hr, f0, f8⟩ := h
  have e : D.1 336 5 = y_s S 3 := hr.2.2.2.2.2.2.2.2.2.2.2.2.2.2.2.2.2.2.1
  rw [e]
  exact ⟨f0, f8⟩
end REF
