/-! fields -/
theorem am_lays : ∀ i, i < 7 → ∀ w ∈ u_ws (ck_R i) (ck_T i) (ck_N i), w ∈ am_ws := by
  intro i hi w hw
  refine List.mem_filter.mpr ⟨List.mem_append_right _ (ck_ws i hi w hw), ?_⟩
  obtain ⟨k, -, hk⟩ := List.mem_map.mp hw
  rw [← hk]
  unfold u_lay
  split <;> rfl
def am_fl (M : am_M) (k kd j : Nat) : Value := match kd with
  | 0 => .int (M.1 k j)
  | 1 => .long (M.2.1 k j)
  | _ => am_rv (M.2.2.1 k j)
theorem am_fl_val (B0 : Nat) (sb : Nat → Option Nat) (M : am_M) (k : Nat) : ∀ (kd j : Nat), am_val B0 sb (am_fl M k kd j) = am_fv B0 M k kd j
  | 0, _ => rfl
  | 1, _ => rfl
  | _ + 2, _ => am_rv_val B0 sb _
section FLD
variable {nm : Nat → MethodName} {D : va_G} {cA : Nat → ClassId} {B0 : Nat} {sb : Nat → Option Nat} {H00 : Heap} {Th : State → Prop} {cc : ByteArray} {own mn : String} {eh : List (Nat × Nat × Nat × Nat)} {rt : Option FieldType} {pc : Nat}
def ac_get (kd ci j n : Nat) : am_A := fun ls st M => match st with
  | .ref k :: r => match am_sh M k with
    | some (.inl c1) => if c1 = ci then some (.inl (n, ls, am_fl M k kd j :: r, M)) else none
    | _ => none
  | _ => none
theorem ok_get {kd ci j idx : Nat} (hci : ci < 7) (hj : j < ck_N ci) (hk : am_kd (ck_y ci j) = kd) (hd : decode cc pc = .ok (.getfield idx, 3)) (hw : Cond.fieldLink own idx (ck_T ci j).1 (ck_T ci j).2.1 (ck_T ci j).2.2.1 ∈ am_ws) : am_Ok nm D cA B0 sb H00 Th cc own mn eh rt pc (ac_get kd ci j (pc + 3)) := by
  intro ls st M res h
  unfold ac_get at h
  split at h
  next k r =>
    split at h
    next c1 hsh =>
      split at h
      next hc1 =>
        subst hc1
        cases h
        refine ⟨⟨⟨Nat.le_refl _, Nat.le_refl _⟩, rfl⟩, ?_⟩
        intro p l e R s m args below meth c C hml H locs cells slots real hl hR hS hc hs Q hT
        have h2 := am_self hT hR hS real hl
        obtain ⟨hx, hb, -, -, hown, hts, hK, -⟩ := C
        have hat := (hR.1 k _ hsh).2
        unfold am_Wk at h2 ⊢
        rw [List.map_cons, am_fl_val] at h2
        exact va_get (ws := [(B0 + k, .inr (c1, am_fs B0 M k c1))]) hx hb hts (am_lays c1 hci) hown hK.1 (fun q e he => by
          have : q < 1 := (List.getElem?_eq_some_iff.mp he).1
          rw [show q = 0 by omega] at he
          cases he
          exact hat) 0 rfl (ck_at c1 hci) j hj (hts _ hw) (fun _ h => h) (by rw [am_fs_get _ _ _ _ _ hj, hk]) hd h2
      next => cases h
    next => cases h
  next => cases h
/-- a store into a field: the new heap differs in that cell alone -/
theorem am_putK {p : Program} {l : Launch} {e : Env} {R : Room} {s : State} {m : MethodId} {args : Array Value} {below : List Frame} {meth : Method} {c : Code} {H : Heap} {locs : List Loc} {cells slots : Nat} {Q : State → Prop} {ls : Array Slot} {rest : List Value} {a : Nat} {tys : List (ClassId × FieldType)}
    (hexec : p.tables.exec = Jvm.exec) (hb : c.code = cc) {ref C : String} {T : u_T} {N ci index : Nat} {Ts : List Cond} (hts : ∀ w ∈ Ts, w.before args s = true) (hin : ∀ w ∈ u_ws C T N, w ∈ Ts) (ty0 : Nat → FieldType) (hty : ∀ k, k < N → parseFieldDescriptor (T k).2.2.1 = some (ty0 k)) (hnm : ∀ a, a < N → ∀ b, b < N → a ≠ b → (T a).2.1 ≠ (T b).2.1) (hown : s.vm.findClass own = some m.cls) (hK : va_K D ck_cl tys s) {fs : List Value} (hat : va_at D ck_cl (a, .inr (ci, fs)) H) (hc : ck_cl[ci]? = some (C, T, N)) (k : Nat) (hk : k < N) (hlink : (Cond.fieldLink own index ref (T k).2.1 (T k).2.2.1).before args s = true) (hsame : ∀ x, s.fieldFound? (T k).1 (T k).2.1 (T k).2.2.1 = some x → s.fieldFound? ref (T k).2.1 (T k).2.2.1 = some x) (hfin : (T k).2.2.2 = false ∨ ((T k).2.2.2 = true ∧ meth.name = "<init>" ∧ (T k).1 = own)) {ty : FieldType} {v : Value} (hd : parseFieldDescriptor (T k).2.2.1 = some ty) (hn : narrow ty v = v) (hfit : fits ty v = true) (hl : k < fs.length)
    (hdg : decode cc pc = .ok (.putfield index, 3)) (kk : ∀ (H1 : Heap) (loc : Loc), loc.base = a → H1.size = H.size → (∀ q, q ≠ a → H1[q]? = H[q]?) → va_at D ck_cl (a, .inr (ci, fs.set k v)) H1 → W p l e R s m args below meth c H1 (locs ++ [loc]) cells slots Q (F0 m (pc + 3) ls rest)) : W p l e R s m args below meth c H locs cells slots Q (F0 m pc ls (v :: .ref a :: rest)) := by
  have hap := va_apart (own := own) hts hin ty0 hty hnm hK hc
  obtain ⟨r, h1, cell, q1, q2, q3, q4⟩ := hat
  have hr : r = (C, T, N) := Option.some.inj (h1.symm.trans hc)
  subst hr
  obtain ⟨hS, hfc, kC, hkC, hkind⟩ := hK.1 ci _ hc
  obtain ⟨cf, kf, fi, f, hi, hsl⟩ := hS k hk
  have hlay := hts _ (hin _ (u_in_lay hk))
  have hst := (u_facts hfc hkC (u_lays hts hin hk) hi).1
  unfold u_lay at hlay
  rcases hfin with hfin | ⟨hfin, hin2, hdecl⟩
  · rw [if_neg (by rw [hfin]; decide)] at hlay
    have h6 := u_store hfc hkC hkind hlay hi hd hn hfit
    refine W.putK hexec hb (f := f) ⟨hown, hlink, ⟨_, _, _, hsame _ hi⟩, hst⟩ (by rw [q2]; exact h6) q1 q3 (by rw [hsl]; exact k2_hasslot (q4 k hk)) rfl rfl hdg fun H' e1 e2 e3 => ?_
    rw [hsl] at e1 ⊢
    exact kk H' _ rfl e2 e3 ⟨_, hc, t_OB.to (V := updV (vp_V fs) k v) ⟨_, e1, q2, q3, t_set q4 hap hk v⟩ (fun j _ => vp_updV_set hl v j)⟩
  · rw [if_pos hfin] at hlay
    have hcf : m.cls = cf := by
      obtain ⟨_, _, c', _, _, _, -, -, hf', -, -, -, hown2, -⟩ := Cond.laysFinal_spec hlay
      have e1 : c' = cf := by have := hi.symm.trans hf'; simp at this; exact this.1.symm
      rw [hdecl] at hown2
      rw [← e1]; exact Option.some.inj (hown.symm.trans hown2)
    have h6 := u_fits hfc hkC hkind (Or.inr hlay) hi hd hn hfit
    refine W.putFinK hexec hb hown hlink (hsame _ hi) hst hcf hin2 (by rw [q2]; exact h6) q1 q3 (by rw [hsl]; exact k2_hasslot (q4 k hk)) rfl rfl hdg fun H' e1 e2 e3 => ?_
    rw [hsl] at e1 ⊢
    exact kk H' _ rfl e2 e3 ⟨_, hc, t_OB.to (V := updV (vp_V fs) k v) ⟨_, e1, q2, q3, t_set q4 hap hk v⟩ (fun j _ => vp_updV_set hl v j)⟩
theorem am_S_put {H0 H H1 : Heap} {locs : List Loc} {loc : Loc} {k : Nat} (h : va_S (am_A0 B0) H0 H locs) (hb : loc.base = B0 + k) (z : H1.size = H.size) (oq : ∀ q : Nat, q ≠ B0 + k → H1[q]? = H[q]?) : va_S (am_A0 B0) H0 H1 (locs ++ [loc]) := by
  obtain ⟨b, i⟩ := loc
  dsimp only at hb
  subst hb
  exact h.put z oq (Nat.le_add_right _ _)
def ac_putI (ci j n : Nat) : am_A := fun ls st M => match st with
  | .int x :: .ref k :: r => match am_sh M k with
    | some (.inl c1) => if c1 = ci then some (.inl (n, ls, r, am_setI M k j x)) else none
    | _ => none
  | _ => none
def ac_putL (ci j n : Nat) : am_A := fun ls st M => match st with
  | .long x :: .ref k :: r => match am_sh M k with
    | some (.inl c1) => if c1 = ci then some (.inl (n, ls, r, am_setL M k j x)) else none
    | _ => none
  | _ => none
def ac_putR (ci j n : Nat) : am_A := fun ls st M => match st with
  | .ref x :: .ref k :: r => match am_sh M k with
    | some (.inl c1) => if c1 = ci then some (.inl (n, ls, r, am_setR M k j (some x))) else none
    | _ => none
  | _ => none
theorem ok_putI {ci j idx : Nat} (hci : ci < 7) (hj : j < ck_N ci) (hty : ck_y ci j = .int) (hd : decode cc pc = .ok (.putfield idx, 3)) (hw : Cond.fieldLink own idx (ck_T ci j).1 (ck_T ci j).2.1 (ck_T ci j).2.2.1 ∈ am_ws) (hf : (ck_T ci j).2.2.2 = false) : am_Ok nm D cA B0 sb H00 Th cc own mn eh rt pc (ac_putI ci j (pc + 3)) := by
  intro ls st M res h
  unfold ac_putI at h
  split at h
  next x k r =>
    split at h
    next c1 hsh =>
      split at h
      next hc1 =>
        subst hc1
        cases h
        refine ⟨⟨⟨Nat.le_refl _, Nat.le_refl _⟩, rfl⟩, ?_⟩
        intro p l e R s m args below meth c C hml H locs cells slots real hl hR hS hc hs Q hT
        obtain ⟨hx, hb, -, -, hown, hts, hK, -⟩ := C
        have hat := (hR.1 k _ hsh).2
        refine am_putK hx hb hts (am_lays c1 hci) (ck_y c1) (ck_ty c1 hci) (ck_nm c1 hci) hown hK.1 hat (ck_at c1 hci) j hj (hts _ hw) (fun _ h => h) (Or.inl hf) (ty := .int) (v := .int x) (by rw [ck_ty c1 hci j hj, hty]) rfl rfl (by rw [am_fs_len]; exact hj) hd (fun H1 loc hlc hz ho h1 => ?_)
        have hne : ∀ q, q ≠ k → am_u2 M.1 k j x q = M.1 q := fun q hq => am_u2_ne hq
        have hset : am_fs B0 (am_setI M k j x) k c1 = (am_fs B0 M k c1).set j (.int x) := am_fs_set hj (by rw [hty]; show Value.int (am_u2 M.1 k j x k j) = _; rw [am_u2_eq]; simp) (fun i hi hi2 => by
          unfold am_fv am_setI
          dsimp only
          rw [am_u2_eq]
          simp [hi])
        have hR1 : am_Rel D cA B0 sb H00 s (am_setI M k j x) H1 := am_Rel_put hR hsh rfl hne (fun _ _ => rfl) (fun _ _ => rfl) hz ho ⟨hci, by rw [hset]; exact h1⟩
        have h3 := hT.2.2 H1 (locs ++ [loc]) real hl hR1 (am_S_put hS hlc hz ho)
        have e1 : cells + (am_cn (am_setI M k j x) - am_cn M) = cells := by show cells + (am_cn M - am_cn M) = cells; omega
        have e2 : slots + (am_sn (am_setI M k j x) - am_sn M) = slots := by show slots + (am_sn M - am_sn M) = slots; omega
        dsimp only at h3
        rw [e1, e2] at h3
        exact h3
      next => cases h
    next => cases h
  next => cases h
theorem ok_putL {ci j idx : Nat} (hci : ci < 7) (hj : j < ck_N ci) (hty : ck_y ci j = .long) (hd : decode cc pc = .ok (.putfield idx, 3)) (hw : Cond.fieldLink own idx (ck_T ci j).1 (ck_T ci j).2.1 (ck_T ci j).2.2.1 ∈ am_ws) (hf : (ck_T ci j).2.2.2 = false) : am_Ok nm D cA B0 sb H00 Th cc own mn eh rt pc (ac_putL ci j (pc + 3)) := by
  intro ls st M res h
  unfold ac_putL at h
  split at h
  next x k r =>
    split at h
    next c1 hsh =>
      split at h
      next hc1 =>
        subst hc1
        cases h
        refine ⟨⟨⟨Nat.le_refl _, Nat.le_refl _⟩, rfl⟩, ?_⟩
        intro p l e R s m args below meth c C hml H locs cells slots real hl hR hS hc hs Q hT
        obtain ⟨hx, hb, -, -, hown, hts, hK, -⟩ := C
        have hat := (hR.1 k _ hsh).2
        refine am_putK hx hb hts (am_lays c1 hci) (ck_y c1) (ck_ty c1 hci) (ck_nm c1 hci) hown hK.1 hat (ck_at c1 hci) j hj (hts _ hw) (fun _ h => h) (Or.inl hf) (ty := .long) (v := .long x) (by rw [ck_ty c1 hci j hj, hty]) rfl rfl (by rw [am_fs_len]; exact hj) hd (fun H1 loc hlc hz ho h1 => ?_)
        have hne : ∀ q, q ≠ k → am_u2 M.2.1 k j x q = M.2.1 q := fun q hq => am_u2_ne hq
        have hset : am_fs B0 (am_setL M k j x) k c1 = (am_fs B0 M k c1).set j (.long x) := am_fs_set hj (by rw [hty]; show Value.long (am_u2 M.2.1 k j x k j) = _; rw [am_u2_eq]; simp) (fun i hi hi2 => by
          unfold am_fv am_setL
          dsimp only
          rw [am_u2_eq]
          simp [hi])
        have hR1 : am_Rel D cA B0 sb H00 s (am_setL M k j x) H1 := am_Rel_put hR hsh rfl (fun _ _ => rfl) hne (fun _ _ => rfl) hz ho ⟨hci, by rw [hset]; exact h1⟩
        have h3 := hT.2.2 H1 (locs ++ [loc]) real hl hR1 (am_S_put hS hlc hz ho)
        have e1 : cells + (am_cn (am_setL M k j x) - am_cn M) = cells := by show cells + (am_cn M - am_cn M) = cells; omega
        have e2 : slots + (am_sn (am_setL M k j x) - am_sn M) = slots := by show slots + (am_sn M - am_sn M) = slots; omega
        dsimp only at h3
        rw [e1, e2] at h3
        exact h3
      next => cases h
    next => cases h
  next => cases h
theorem ok_putR {ci j idx : Nat} (hci : ci < 7) (hj : j < ck_N ci) {ty : FieldType} (hty : ck_y ci j = ty) (hk2 : am_kd ty = 2) (hfit : ∀ a, narrow ty (.ref a) = .ref a ∧ fits ty (.ref a) = true) (hd : decode cc pc = .ok (.putfield idx, 3)) (hw : Cond.fieldLink own idx (ck_T ci j).1 (ck_T ci j).2.1 (ck_T ci j).2.2.1 ∈ am_ws) (hf : (ck_T ci j).2.2.2 = false ∨ ((ck_T ci j).2.2.2 = true ∧ mn = "<init>" ∧ (ck_T ci j).1 = own)) : am_Ok nm D cA B0 sb H00 Th cc own mn eh rt pc (ac_putR ci j (pc + 3)) := by
  intro ls st M res h
  unfold ac_putR at h
  split at h
  next x k r =>
    split at h
    next c1 hsh =>
      split at h
      next hc1 =>
        subst hc1
        cases h
        refine ⟨⟨⟨Nat.le_refl _, Nat.le_refl _⟩, rfl⟩, ?_⟩
        intro p l e R s m args below meth c C hml H locs cells slots real hl hR hS hc hs Q hT
        obtain ⟨hx, hb, -, -, hown, hts, hK, -, -, -, hmn, -⟩ := C
        have hat := (hR.1 k _ hsh).2
        refine am_putK hx hb hts (am_lays c1 hci) (ck_y c1) (ck_ty c1 hci) (ck_nm c1 hci) hown hK.1 hat (ck_at c1 hci) j hj (hts _ hw) (fun _ h => h) (hf.imp id (fun q => ⟨q.1, hmn.trans q.2.1, q.2.2⟩)) (ty := ty) (v := .ref (B0 + x)) (by rw [ck_ty c1 hci j hj, hty]) (hfit _).1 (hfit _).2 (by rw [am_fs_len]; exact hj) hd (fun H1 loc hlc hz ho h1 => ?_)
        have hne : ∀ q, q ≠ k → am_u2 M.2.2.1 k j (some x) q = M.2.2.1 q := fun q hq => am_u2_ne hq
        have hset : am_fs B0 (am_setR M k j (some x)) k c1 = (am_fs B0 M k c1).set j (.ref (B0 + x)) := am_fs_set hj (by rw [hty, hk2]; show am_rf B0 (am_u2 M.2.2.1 k j (some x) k j) = _; rw [am_u2_eq]; simp [am_rf, va_rf]) (fun i hi hi2 => by
          unfold am_fv am_setR
          dsimp only
          rw [am_u2_eq]
          simp [hi])
        have hR1 : am_Rel D cA B0 sb H00 s (am_setR M k j (some x)) H1 := am_Rel_put hR hsh rfl (fun _ _ => rfl) (fun _ _ => rfl) hne hz ho ⟨hci, by rw [hset]; exact h1⟩
        have h3 := hT.2.2 H1 (locs ++ [loc]) real hl hR1 (am_S_put hS hlc hz ho)
        have e1 : cells + (am_cn (am_setR M k j (some x)) - am_cn M) = cells := by show cells + (am_cn M - am_cn M) = cells; omega
        have e2 : slots + (am_sn (am_setR M k j (some x)) - am_sn M) = slots := by show slots + (am_sn M - am_sn M) = slots; omega
        dsimp only at h3
        rw [e1, e2] at h3
        exact h3
      next => cases h
    next => cases h
  next => cases h
end FLD
