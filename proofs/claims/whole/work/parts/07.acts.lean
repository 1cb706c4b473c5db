/-! instructions that leave the memory alone -/
section ACT
variable {nm : Nat → MethodName} {D : va_G} {cA : Nat → ClassId} {B0 : Nat} {sb : Nat → Option Nat} {H00 : Heap} {Th : State → Prop} {cc : ByteArray} {own mn : String} {eh : List (Nat × Nat × Nat × Nat)} {rt : Option FieldType} {pc : Nat}
theorem am_self {D : va_G} {cA : Nat → ClassId} {p : Program} {l : Launch} {e : Env} {R : Room} {s : State} {m : MethodId} {args : Array Value} {below : List Frame} {meth : Method} {c : Code} {H : Heap} {locs : List Loc} {cells slots : Nat} {Q : State → Prop} {M : am_M} {n : Nat} {ls : List (Option Value)} {st : List Value}
    (h : am_To D cA B0 sb H00 p l e R s m args below meth c cells slots Q M (n, ls, st, M)) (hR : am_Rel D cA B0 sb H00 s M H) (hS : va_S (am_A0 B0) s.heap H locs) : ∀ real1, am_Loc B0 sb real1 ls → am_Wk B0 sb p l e R s m args below meth c H locs cells slots Q n real1 st := by
  intro real1 hl
  have h3 := h.2.2 H locs real1 hl hR hS
  dsimp only at h3
  rw [Nat.sub_self, Nat.sub_self, Nat.add_zero, Nat.add_zero] at h3
  exact h3
theorem ok_simple {a : am_A} (h : ∀ ls st M res, a ls st M = some res → ∃ n ls' st', res = .inl (n, ls', st', M) ∧ ls'.length = ls.length ∧
    ∀ (p : Program) (l : Launch) (e : Env) (R : Room) (s : State) (m : MethodId) (args : Array Value) (below : List Frame) (meth : Method) (c : Code) (H : Heap) (locs : List Loc) (cells slots : Nat) (Q : State → Prop) (real : Array Slot),
      am_Cx D cA B0 Th cc own mn eh rt p l R s m args meth c → ls.length = c.maxLocals → am_Loc B0 sb real ls → (∀ real1, am_Loc B0 sb real1 ls' → am_Wk B0 sb p l e R s m args below meth c H locs cells slots Q n real1 st') → am_Wk B0 sb p l e R s m args below meth c H locs cells slots Q pc real st) : am_Ok nm D cA B0 sb H00 Th cc own mn eh rt pc a := by
  intro ls st M res hres
  obtain ⟨n, ls', st', rfl, hlen, hw⟩ := h ls st M res hres
  refine ⟨⟨⟨Nat.le_refl _, Nat.le_refl _⟩, hlen⟩, ?_⟩
  intro p l e R s m args below meth c C hml H locs cells slots real hl hR hS hc hs Q hT
  exact hw p l e R s m args below meth c H locs cells slots Q real C hml hl (am_self hT hR hS)
/-- a value is pushed -/
def ac_push (v : Value) (n : Nat) : am_A := fun ls st M => some (.inl (n, ls, v :: st, M))
theorem ok_push {v : Value} {n : Nat} (h : ∀ (p : Program) (l : Launch) (e : Env) (R : Room) (s : State) (m : MethodId) (args : Array Value) (below : List Frame) (meth : Method) (c : Code) (H : Heap) (locs : List Loc) (cells slots : Nat) (Q : State → Prop) (real : Array Slot) (rest : List Value),
      am_Cx D cA B0 Th cc own mn eh rt p l R s m args meth c → W p l e R s m args below meth c H locs cells slots Q (F0 m n real (am_val B0 sb v :: rest)) → W p l e R s m args below meth c H locs cells slots Q (F0 m pc real rest)) : am_Ok nm D cA B0 sb H00 Th cc own mn eh rt pc (ac_push v n) := by
  refine ok_simple fun ls st M res hr => ⟨n, ls, v :: st, (Option.some.inj hr).symm, rfl, ?_⟩
  intro p l e R s m args below meth c H locs cells slots Q real C hml hl k
  exact h p l e R s m args below meth c H locs cells slots Q real _ C (k real hl)
theorem ok_iconst {z : Int} {v : Int32} (hd : decode cc pc = .ok (.iconst z, 1)) (hv : Int32.ofInt z = v) : am_Ok nm D cA B0 sb H00 Th cc own mn eh rt pc (ac_push (.int v) (pc + 1)) := ok_push fun _ _ _ _ _ _ _ _ _ _ _ _ _ _ _ _ _ C k => lv_iconst C.1 C.2.1 hd hv k
theorem ok_bipush {z : Int} {v : Int32} (hd : decode cc pc = .ok (.bipush z, 2)) (hv : (Int8.ofInt z).toInt32 = v) : am_Ok nm D cA B0 sb H00 Th cc own mn eh rt pc (ac_push (.int v) (pc + 2)) := ok_push fun _ _ _ _ _ _ _ _ _ _ _ _ _ _ _ _ _ C k => lv_bipush C.1 C.2.1 hd hv k
theorem ok_sipush {z : Int} {v : Int32} (hd : decode cc pc = .ok (.sipush z, 3)) (hv : (Int16.ofInt z).toInt32 = v) : am_Ok nm D cA B0 sb H00 Th cc own mn eh rt pc (ac_push (.int v) (pc + 3)) := ok_push fun _ _ _ _ _ _ _ _ _ _ _ _ _ _ _ _ _ C k => lv_sipush C.1 C.2.1 hd hv k
theorem ok_lconst {z : Fin 2} {v : Int64} (hd : decode cc pc = .ok (.lconst z, 1)) (hv : Int64.ofNat (z : Nat) = v) : am_Ok nm D cA B0 sb H00 Th cc own mn eh rt pc (ac_push (.long v) (pc + 1)) := ok_push fun _ _ _ _ _ _ _ _ _ _ _ _ _ _ _ _ _ C k => lv_lconst C.1 C.2.1 hd hv k
theorem ok_ldc2 {i : Nat} {v : Int64} (hd : decode cc pc = .ok (.ldc2_w i, 3)) (hw : Cond.constantLong own i v ∈ am_ws) : am_Ok nm D cA B0 sb H00 Th cc own mn eh rt pc (ac_push (.long v) (pc + 3)) := ok_push fun _ _ _ _ _ _ _ _ _ _ _ _ _ _ _ _ _ C k => lv_ldc2 C.1 C.2.1 C.2.2.2.2.1 (C.2.2.2.2.2.1 _ hw) hd k
theorem ok_null (hd : decode cc pc = .ok (.aconst_null, 1)) : am_Ok nm D cA B0 sb H00 Th cc own mn eh rt pc (ac_push .null (pc + 1)) := ok_push fun _ _ _ _ _ _ _ _ _ _ _ _ _ _ _ _ _ C k => lv_null C.1 C.2.1 hd k
/-- loads -/
def ac_iload (i n : Nat) : am_A := fun ls st M => match ls[i]? with
  | some (some (.int x)) => some (.inl (n, ls, .int x :: st, M))
  | _ => none
def ac_lload (i n : Nat) : am_A := fun ls st M => match ls[i]? with
  | some (some (.long x)) => some (.inl (n, ls, .long x :: st, M))
  | _ => none
def ac_aload (i n : Nat) : am_A := fun ls st M => match ls[i]? with
  | some (some (.ref x)) => some (.inl (n, ls, .ref x :: st, M))
  | some (some .null) => some (.inl (n, ls, .null :: st, M))
  | some (some (.retAddr x)) => some (.inl (n, ls, .retAddr x :: st, M))
  | _ => none
theorem ok_iload' {i n : Nat} (h : ∀ (p : Program) (l : Launch) (e : Env) (R : Room) (s : State) (m : MethodId) (args : Array Value) (below : List Frame) (meth : Method) (c : Code) (H : Heap) (locs : List Loc) (cells slots : Nat) (Q : State → Prop) (real : Array Slot) (rest : List Value) (x : Int32),
      p.tables.exec = Jvm.exec → c.code = cc → real[i]? = some (Slot.val (.int x)) → W p l e R s m args below meth c H locs cells slots Q (F0 m n real (.int x :: rest)) → W p l e R s m args below meth c H locs cells slots Q (F0 m pc real rest)) : am_Ok nm D cA B0 sb H00 Th cc own mn eh rt pc (ac_iload i n) := by
  refine ok_simple fun ls st M res hr => ?_
  unfold ac_iload at hr
  split at hr
  next x hx =>
    cases hr
    refine ⟨n, ls, _, rfl, rfl, ?_⟩
    intro p l e R s m args below meth c H locs cells slots Q real C hml hl k
    exact h p l e R s m args below meth c H locs cells slots Q real _ x C.1 C.2.1 (hl.2.2 i _ hx) (k real hl)
  next => cases hr
theorem ok_lload' {i n : Nat} (h : ∀ (p : Program) (l : Launch) (e : Env) (R : Room) (s : State) (m : MethodId) (args : Array Value) (below : List Frame) (meth : Method) (c : Code) (H : Heap) (locs : List Loc) (cells slots : Nat) (Q : State → Prop) (real : Array Slot) (rest : List Value) (x : Int64),
      p.tables.exec = Jvm.exec → c.code = cc → real[i]? = some (Slot.val (.long x)) → W p l e R s m args below meth c H locs cells slots Q (F0 m n real (.long x :: rest)) → W p l e R s m args below meth c H locs cells slots Q (F0 m pc real rest)) : am_Ok nm D cA B0 sb H00 Th cc own mn eh rt pc (ac_lload i n) := by
  refine ok_simple fun ls st M res hr => ?_
  unfold ac_lload at hr
  split at hr
  next x hx =>
    cases hr
    refine ⟨n, ls, _, rfl, rfl, ?_⟩
    intro p l e R s m args below meth c H locs cells slots Q real C hml hl k
    exact h p l e R s m args below meth c H locs cells slots Q real _ x C.1 C.2.1 (hl.2.2 i _ hx) (k real hl)
  next => cases hr
theorem ok_aload' {i n : Nat} (h : ∀ (p : Program) (l : Launch) (e : Env) (R : Room) (s : State) (m : MethodId) (args : Array Value) (below : List Frame) (meth : Method) (c : Code) (H : Heap) (locs : List Loc) (cells slots : Nat) (Q : State → Prop) (real : Array Slot) (rest : List Value) (x : Nat),
      p.tables.exec = Jvm.exec → c.code = cc → real[i]? = some (Slot.val (.ref x)) → W p l e R s m args below meth c H locs cells slots Q (F0 m n real (.ref x :: rest)) → W p l e R s m args below meth c H locs cells slots Q (F0 m pc real rest))
    (h0 : ∀ (p : Program) (l : Launch) (e : Env) (R : Room) (s : State) (m : MethodId) (args : Array Value) (below : List Frame) (meth : Method) (c : Code) (H : Heap) (locs : List Loc) (cells slots : Nat) (Q : State → Prop) (real : Array Slot) (rest : List Value),
      p.tables.exec = Jvm.exec → c.code = cc → real[i]? = some (Slot.val .null) → W p l e R s m args below meth c H locs cells slots Q (F0 m n real (.null :: rest)) → W p l e R s m args below meth c H locs cells slots Q (F0 m pc real rest)) : am_Ok nm D cA B0 sb H00 Th cc own mn eh rt pc (ac_aload i n) := by
  refine ok_simple fun ls st M res hr => ?_
  unfold ac_aload at hr
  split at hr
  next x hx =>
    cases hr
    refine ⟨n, ls, _, rfl, rfl, ?_⟩
    intro p l e R s m args below meth c H locs cells slots Q real C hml hl k
    exact h p l e R s m args below meth c H locs cells slots Q real _ (B0 + x) C.1 C.2.1 (hl.2.2 i _ hx) (k real hl)
  next hx =>
    cases hr
    refine ⟨n, ls, _, rfl, rfl, ?_⟩
    intro p l e R s m args below meth c H locs cells slots Q real C hml hl k
    exact h0 p l e R s m args below meth c H locs cells slots Q real _ C.1 C.2.1 (hl.2.2 i _ hx) (k real hl)
  next x hx =>
    cases hr
    refine ⟨n, ls, _, rfl, rfl, ?_⟩
    intro p l e R s m args below meth c H locs cells slots Q real C hml hl k
    have hv := hl.2.2 i _ hx
    have hk := k real hl
    unfold am_Wk at hk ⊢
    rw [List.map_cons] at hk
    show W p l e R s m args below meth c H locs cells slots Q (F0 m pc real (st.map (am_val B0 sb)))
    have hv' : real[i]? = some (Slot.val (va_rf (sb x))) := hv
    have hk' : W p l e R s m args below meth c H locs cells slots Q (F0 m n real (va_rf (sb x) :: st.map (am_val B0 sb))) := hk
    cases hs : sb x with
    | none =>
      rw [hs] at hv' hk'
      exact h0 p l e R s m args below meth c H locs cells slots Q real _ C.1 C.2.1 hv' hk'
    | some q =>
      rw [hs] at hv' hk'
      exact h p l e R s m args below meth c H locs cells slots Q real _ q C.1 C.2.1 hv' hk'
  next => cases hr
theorem ok_iload_n {k : Fin 4} {i : Nat} (hd : decode cc pc = .ok (.iload_n k, 1)) (hi : (k : Nat) = i) : am_Ok nm D cA B0 sb H00 Th cc own mn eh rt pc (ac_iload i (pc + 1)) := ok_iload' fun _ _ _ _ _ _ _ _ _ _ _ _ _ _ _ _ _ _ hx hb hl k => lv_iload_n hx hb hd hi hl k
theorem ok_iload {i : Nat} (hd : decode cc pc = .ok (.iload i, 2)) : am_Ok nm D cA B0 sb H00 Th cc own mn eh rt pc (ac_iload i (pc + 2)) := ok_iload' fun _ _ _ _ _ _ _ _ _ _ _ _ _ _ _ _ _ _ hx hb hl k => lv_iload hx hb hd hl k
theorem ok_lload_n {k : Fin 4} {i : Nat} (hd : decode cc pc = .ok (.lload_n k, 1)) (hi : (k : Nat) = i) : am_Ok nm D cA B0 sb H00 Th cc own mn eh rt pc (ac_lload i (pc + 1)) := ok_lload' fun _ _ _ _ _ _ _ _ _ _ _ _ _ _ _ _ _ _ hx hb hl k => lv_lload_n hx hb hd hi hl k
theorem ok_lload {i : Nat} (hd : decode cc pc = .ok (.lload i, 2)) : am_Ok nm D cA B0 sb H00 Th cc own mn eh rt pc (ac_lload i (pc + 2)) := ok_lload' fun _ _ _ _ _ _ _ _ _ _ _ _ _ _ _ _ _ _ hx hb hl k => lv_lload hx hb hd hl k
theorem ok_aload_n {k : Fin 4} {i : Nat} (hd : decode cc pc = .ok (.aload_n k, 1)) (hi : (k : Nat) = i) : am_Ok nm D cA B0 sb H00 Th cc own mn eh rt pc (ac_aload i (pc + 1)) := ok_aload' (fun _ _ _ _ _ _ _ _ _ _ _ _ _ _ _ _ _ _ hx hb hl k => lv_aload_n hx hb hd hi hl k) (fun _ _ _ _ _ _ _ _ _ _ _ _ _ _ _ _ _ hx hb hl k => lv_aload_nN hx hb hd hi hl k)
theorem ok_aload {i : Nat} (hd : decode cc pc = .ok (.aload i, 2)) : am_Ok nm D cA B0 sb H00 Th cc own mn eh rt pc (ac_aload i (pc + 2)) := ok_aload' (fun _ _ _ _ _ _ _ _ _ _ _ _ _ _ _ _ _ _ hx hb hl k => lv_aload hx hb hd hl k) (fun _ _ _ _ _ _ _ _ _ _ _ _ _ _ _ _ _ hx hb hl k => lv_aloadN hx hb hd hl k)
/-- stores -/
theorem am_Loc_st1 {real real' : Array Slot} {ls : List (Option Value)} {i : Nat} {v : Value} (h : am_Loc B0 sb real ls) (h' : lv_has real' ls.length ((i, am_val B0 sb v) :: (am_locs B0 sb ls).filter (fun q => !(q.1 == i) && !(q.1 + 1 == i && q.2.category == 2)))) : am_Loc B0 sb real' (am_st1 ls i v) := by
  refine ⟨by rw [am_st1_len]; exact h'.1, h'.2.1, fun k w hk => ?_⟩
  rcases am_st1_at hk with ⟨rfl, rfl⟩ | ⟨h1, h2, h3⟩
  · exact h'.2.2 _ List.mem_cons_self
  · refine h'.2.2 (k, am_val B0 sb w) (List.mem_cons_of_mem _ (List.mem_filter.mpr ⟨am_locs_mem.mpr ⟨w, h2, rfl⟩, ?_⟩))
    simp only [Bool.and_eq_true, Bool.not_eq_true', beq_eq_false_iff_ne, ne_eq, Bool.and_eq_false_iff, am_val_cat]
    refine ⟨h1, ?_⟩
    by_cases e : k + 1 = i
    · exact Or.inr (fun q => h3 ⟨e, q⟩)
    · exact Or.inl e
theorem am_Loc_st2 {real real' : Array Slot} {ls : List (Option Value)} {i : Nat} {v : Value} (h : am_Loc B0 sb real ls) (h' : lv_has real' ls.length ((i, am_val B0 sb v) :: (am_locs B0 sb ls).filter (fun q => !(q.1 == i) && (!(q.1 == i + 1) && !(q.1 + 1 == i && q.2.category == 2))))) : am_Loc B0 sb real' (am_st2 ls i v) := by
  refine ⟨by rw [am_st2_len]; exact h'.1, h'.2.1, fun k w hk => ?_⟩
  unfold am_st2 at hk
  by_cases e1 : k = i + 1
  · subst e1
    rw [List.getElem?_set] at hk
    simp at hk
  · rw [List.getElem?_set_ne (fun q => e1 q.symm)] at hk
    rcases am_st1_at hk with ⟨rfl, rfl⟩ | ⟨h1, h2, h3⟩
    · exact h'.2.2 _ List.mem_cons_self
    · refine h'.2.2 (k, am_val B0 sb w) (List.mem_cons_of_mem _ (List.mem_filter.mpr ⟨am_locs_mem.mpr ⟨w, h2, rfl⟩, ?_⟩))
      simp only [Bool.and_eq_true, Bool.not_eq_true', beq_eq_false_iff_ne, ne_eq, Bool.and_eq_false_iff, am_val_cat]
      refine ⟨h1, e1, ?_⟩
      by_cases e : k + 1 = i
      · exact Or.inr (fun q => h3 ⟨e, q⟩)
      · exact Or.inl e
def ac_istore (i n : Nat) : am_A := fun ls st M => match st with
  | .int x :: r => if i < ls.length then some (.inl (n, am_st1 ls i (.int x), r, M)) else none
  | _ => none
def ac_lstore (i n : Nat) : am_A := fun ls st M => match st with
  | .long x :: r => if i + 1 < ls.length then some (.inl (n, am_st2 ls i (.long x), r, M)) else none
  | _ => none
def ac_astore (i n : Nat) : am_A := fun ls st M => match st with
  | .ref x :: r => if i < ls.length then some (.inl (n, am_st1 ls i (.ref x), r, M)) else none
  | .null :: r => if i < ls.length then some (.inl (n, am_st1 ls i .null, r, M)) else none
  | _ => none
def ac_iinc (i : Nat) (z : Int32) (n : Nat) : am_A := fun ls st M => match ls[i]? with
  | some (some (.int x)) => some (.inl (n, am_st1 ls i (.int (x + z)), st, M))
  | _ => none
theorem ok_istore' {i n : Nat} (h : ∀ (p : Program) (l : Launch) (e : Env) (R : Room) (s : State) (m : MethodId) (args : Array Value) (below : List Frame) (meth : Method) (c : Code) (H : Heap) (locs : List Loc) (cells slots : Nat) (Q : State → Prop) (real : Array Slot) (rest : List Value) (x : Int32) (nL : Nat) (lv : List (Nat × Value)),
      p.tables.exec = Jvm.exec → c.code = cc → lv_has real nL lv → i < nL → (∀ ls' : Array Slot, lv_has ls' nL ((i, Value.int x) :: lv.filter (fun q => !(q.1 == i) && !(q.1 + 1 == i && q.2.category == 2))) → W p l e R s m args below meth c H locs cells slots Q (F0 m n ls' rest)) → W p l e R s m args below meth c H locs cells slots Q (F0 m pc real (.int x :: rest))) : am_Ok nm D cA B0 sb H00 Th cc own mn eh rt pc (ac_istore i n) := by
  refine ok_simple fun ls st M res hr => ?_
  unfold ac_istore at hr
  split at hr
  next x r =>
    split at hr
    next hi =>
      cases hr
      refine ⟨n, _, _, rfl, am_st1_len _ _ _, ?_⟩
      intro p l e R s m args below meth c H locs cells slots Q real C hml hl k
      exact h p l e R s m args below meth c H locs cells slots Q real _ x _ _ C.1 C.2.1 (am_Loc_has hl) hi (fun ls' h' => k ls' (am_Loc_st1 hl h'))
    next => cases hr
  next => cases hr
theorem ok_lstore' {i n : Nat} (h : ∀ (p : Program) (l : Launch) (e : Env) (R : Room) (s : State) (m : MethodId) (args : Array Value) (below : List Frame) (meth : Method) (c : Code) (H : Heap) (locs : List Loc) (cells slots : Nat) (Q : State → Prop) (real : Array Slot) (rest : List Value) (x : Int64) (nL : Nat) (lv : List (Nat × Value)),
      p.tables.exec = Jvm.exec → c.code = cc → lv_has real nL lv → i + 1 < nL → (∀ ls' : Array Slot, lv_has ls' nL ((i, Value.long x) :: lv.filter (fun q => !(q.1 == i) && (!(q.1 == i + 1) && !(q.1 + 1 == i && q.2.category == 2)))) → W p l e R s m args below meth c H locs cells slots Q (F0 m n ls' rest)) → W p l e R s m args below meth c H locs cells slots Q (F0 m pc real (.long x :: rest))) : am_Ok nm D cA B0 sb H00 Th cc own mn eh rt pc (ac_lstore i n) := by
  refine ok_simple fun ls st M res hr => ?_
  unfold ac_lstore at hr
  split at hr
  next x r =>
    split at hr
    next hi =>
      cases hr
      refine ⟨n, _, _, rfl, am_st2_len _ _ _, ?_⟩
      intro p l e R s m args below meth c H locs cells slots Q real C hml hl k
      exact h p l e R s m args below meth c H locs cells slots Q real _ x _ _ C.1 C.2.1 (am_Loc_has hl) hi (fun ls' h' => k ls' (am_Loc_st2 hl h'))
    next => cases hr
  next => cases hr
theorem ok_astore' {i n : Nat} (h : ∀ (p : Program) (l : Launch) (e : Env) (R : Room) (s : State) (m : MethodId) (args : Array Value) (below : List Frame) (meth : Method) (c : Code) (H : Heap) (locs : List Loc) (cells slots : Nat) (Q : State → Prop) (real : Array Slot) (rest : List Value) (x : Nat) (nL : Nat) (lv : List (Nat × Value)),
      p.tables.exec = Jvm.exec → c.code = cc → lv_has real nL lv → i < nL → (∀ ls' : Array Slot, lv_has ls' nL ((i, Value.ref x) :: lv.filter (fun q => !(q.1 == i) && !(q.1 + 1 == i && q.2.category == 2))) → W p l e R s m args below meth c H locs cells slots Q (F0 m n ls' rest)) → W p l e R s m args below meth c H locs cells slots Q (F0 m pc real (.ref x :: rest)))
    (h0 : ∀ (p : Program) (l : Launch) (e : Env) (R : Room) (s : State) (m : MethodId) (args : Array Value) (below : List Frame) (meth : Method) (c : Code) (H : Heap) (locs : List Loc) (cells slots : Nat) (Q : State → Prop) (real : Array Slot) (rest : List Value) (nL : Nat) (lv : List (Nat × Value)),
      p.tables.exec = Jvm.exec → c.code = cc → lv_has real nL lv → i < nL → (∀ ls' : Array Slot, lv_has ls' nL ((i, Value.null) :: lv.filter (fun q => !(q.1 == i) && !(q.1 + 1 == i && q.2.category == 2))) → W p l e R s m args below meth c H locs cells slots Q (F0 m n ls' rest)) → W p l e R s m args below meth c H locs cells slots Q (F0 m pc real (.null :: rest))) : am_Ok nm D cA B0 sb H00 Th cc own mn eh rt pc (ac_astore i n) := by
  refine ok_simple fun ls st M res hr => ?_
  unfold ac_astore at hr
  split at hr
  next x r =>
    split at hr
    next hi =>
      cases hr
      refine ⟨n, _, _, rfl, am_st1_len _ _ _, ?_⟩
      intro p l e R s m args below meth c H locs cells slots Q real C hml hl k
      exact h p l e R s m args below meth c H locs cells slots Q real _ (B0 + x) _ _ C.1 C.2.1 (am_Loc_has hl) hi (fun ls' h' => k ls' (am_Loc_st1 hl h'))
    next => cases hr
  next r =>
    split at hr
    next hi =>
      cases hr
      refine ⟨n, _, _, rfl, am_st1_len _ _ _, ?_⟩
      intro p l e R s m args below meth c H locs cells slots Q real C hml hl k
      exact h0 p l e R s m args below meth c H locs cells slots Q real _ _ _ C.1 C.2.1 (am_Loc_has hl) hi (fun ls' h' => k ls' (am_Loc_st1 hl h'))
    next => cases hr
  next => cases hr
theorem ok_istore_n {k : Fin 4} {i : Nat} (hd : decode cc pc = .ok (.istore_n k, 1)) (hi : (k : Nat) = i) : am_Ok nm D cA B0 sb H00 Th cc own mn eh rt pc (ac_istore i (pc + 1)) := ok_istore' fun _ _ _ _ _ _ _ _ _ _ _ _ _ _ _ _ _ _ _ _ hx hb hl hn k => lv_istore_n hx hb hd hi hl hn rfl k
theorem ok_istore {i : Nat} (hd : decode cc pc = .ok (.istore i, 2)) : am_Ok nm D cA B0 sb H00 Th cc own mn eh rt pc (ac_istore i (pc + 2)) := ok_istore' fun _ _ _ _ _ _ _ _ _ _ _ _ _ _ _ _ _ _ _ _ hx hb hl hn k => lv_istore hx hb hd hl hn rfl k
theorem ok_lstore_n {k : Fin 4} {i : Nat} (hd : decode cc pc = .ok (.lstore_n k, 1)) (hi : (k : Nat) = i) : am_Ok nm D cA B0 sb H00 Th cc own mn eh rt pc (ac_lstore i (pc + 1)) := ok_lstore' fun _ _ _ _ _ _ _ _ _ _ _ _ _ _ _ _ _ _ _ _ hx hb hl hn k => lv_lstore_n hx hb hd hi hl hn rfl k
theorem ok_lstore {i : Nat} (hd : decode cc pc = .ok (.lstore i, 2)) : am_Ok nm D cA B0 sb H00 Th cc own mn eh rt pc (ac_lstore i (pc + 2)) := ok_lstore' fun _ _ _ _ _ _ _ _ _ _ _ _ _ _ _ _ _ _ _ _ hx hb hl hn k => lv_lstore hx hb hd hl hn rfl k
theorem ok_astore_n {k : Fin 4} {i : Nat} (hd : decode cc pc = .ok (.astore_n k, 1)) (hi : (k : Nat) = i) : am_Ok nm D cA B0 sb H00 Th cc own mn eh rt pc (ac_astore i (pc + 1)) := ok_astore' (fun _ _ _ _ _ _ _ _ _ _ _ _ _ _ _ _ _ _ _ _ hx hb hl hn k => lv_astore_n hx hb hd hi hl hn rfl k) (fun _ _ _ _ _ _ _ _ _ _ _ _ _ _ _ _ _ _ _ hx hb hl hn k => lv_astore_nN hx hb hd hi hl hn rfl k)
theorem ok_astore {i : Nat} (hd : decode cc pc = .ok (.astore i, 2)) : am_Ok nm D cA B0 sb H00 Th cc own mn eh rt pc (ac_astore i (pc + 2)) := ok_astore' (fun _ _ _ _ _ _ _ _ _ _ _ _ _ _ _ _ _ _ _ _ hx hb hl hn k => lv_astore hx hb hd hl hn rfl k) (fun _ _ _ _ _ _ _ _ _ _ _ _ _ _ _ _ _ _ _ hx hb hl hn k => lv_astoreN hx hb hd hl hn rfl k)
theorem ok_iinc {i : Nat} {z : Int} {z' : Int32} (hd : decode cc pc = .ok (.iinc i z, 3)) (hz : Int32.ofInt z = z') : am_Ok nm D cA B0 sb H00 Th cc own mn eh rt pc (ac_iinc i z' (pc + 3)) := by
  refine ok_simple fun ls st M res hr => ?_
  unfold ac_iinc at hr
  split at hr
  next x hx =>
    cases hr
    refine ⟨_, _, _, rfl, am_st1_len _ _ _, ?_⟩
    intro p l e R s m args below meth c H locs cells slots Q real C hml hl k
    obtain ⟨j, hj⟩ := List.getElem?_of_mem (am_locs_mem (B0 := B0) (sb := sb) (ls := ls) (q := (i, .int x)) |>.mpr ⟨_, hx, rfl⟩)
    exact lv_iinc C.1 C.2.1 hd (am_Loc_has hl) hj (by rw [hz]) (List.getElem?_eq_some_iff.mp hx).1 rfl (fun ls' h' => k ls' (am_Loc_st1 hl h'))
  next => cases hr
end ACT
