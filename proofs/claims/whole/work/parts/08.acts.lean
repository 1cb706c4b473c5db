/-! instructions that leave the memory alone: numbers, the stack, branches, the end -/
section ACT2
variable {nm : Nat → MethodName} {D : va_G} {cA : Nat → ClassId} {B0 : Nat} {sb : Nat → Option Nat} {H00 : Heap} {Th : State → Prop} {cc : ByteArray} {own mn : String} {eh : List (Nat × Nat × Nat × Nat)} {rt : Option FieldType} {pc : Nat}
def ac_ii (f : Int32 → Int32 → Int32) (n : Nat) : am_A := fun ls st M => match st with
  | .int y :: .int x :: r => some (.inl (n, ls, .int (f x y) :: r, M))
  | _ => none
theorem ok_ii {n : Nat} {f : Int32 → Int32 → Int32} (h : ∀ (p : Program) (l : Launch) (e : Env) (R : Room) (s : State) (m : MethodId) (args : Array Value) (below : List Frame) (meth : Method) (c : Code) (H : Heap) (locs : List Loc) (cells slots : Nat) (Q : State → Prop) (real : Array Slot) (rest : List Value) (y x : Int32), p.tables.exec = Jvm.exec → c.code = cc → W p l e R s m args below meth c H locs cells slots Q (F0 m n real (.int (f x y) :: rest)) → W p l e R s m args below meth c H locs cells slots Q (F0 m pc real (.int y :: .int x :: rest))) : am_Ok nm D cA B0 sb H00 Th cc own mn eh rt pc (ac_ii f n) := by
  refine ok_simple fun ls st M res hr => ?_
  unfold ac_ii at hr
  split at hr
  next y x r =>
    cases hr
    refine ⟨n, ls, _, rfl, rfl, ?_⟩
    intro p l e R s m args below meth c H locs cells slots Q real C hml hl k
    exact h p l e R s m args below meth c H locs cells slots Q real _ y x C.1 C.2.1 (k real hl)
  next => cases hr
def ac_ll (f : Int64 → Int64 → Int64) (n : Nat) : am_A := fun ls st M => match st with
  | .long y :: .long x :: r => some (.inl (n, ls, .long (f x y) :: r, M))
  | _ => none
theorem ok_ll {n : Nat} {f : Int64 → Int64 → Int64} (h : ∀ (p : Program) (l : Launch) (e : Env) (R : Room) (s : State) (m : MethodId) (args : Array Value) (below : List Frame) (meth : Method) (c : Code) (H : Heap) (locs : List Loc) (cells slots : Nat) (Q : State → Prop) (real : Array Slot) (rest : List Value) (y x : Int64), p.tables.exec = Jvm.exec → c.code = cc → W p l e R s m args below meth c H locs cells slots Q (F0 m n real (.long (f x y) :: rest)) → W p l e R s m args below meth c H locs cells slots Q (F0 m pc real (.long y :: .long x :: rest))) : am_Ok nm D cA B0 sb H00 Th cc own mn eh rt pc (ac_ll f n) := by
  refine ok_simple fun ls st M res hr => ?_
  unfold ac_ll at hr
  split at hr
  next y x r =>
    cases hr
    refine ⟨n, ls, _, rfl, rfl, ?_⟩
    intro p l e R s m args below meth c H locs cells slots Q real C hml hl k
    exact h p l e R s m args below meth c H locs cells slots Q real _ y x C.1 C.2.1 (k real hl)
  next => cases hr
def ac_li (f : Int64 → Int32 → Int64) (n : Nat) : am_A := fun ls st M => match st with
  | .int y :: .long x :: r => some (.inl (n, ls, .long (f x y) :: r, M))
  | _ => none
theorem ok_li {n : Nat} {f : Int64 → Int32 → Int64} (h : ∀ (p : Program) (l : Launch) (e : Env) (R : Room) (s : State) (m : MethodId) (args : Array Value) (below : List Frame) (meth : Method) (c : Code) (H : Heap) (locs : List Loc) (cells slots : Nat) (Q : State → Prop) (real : Array Slot) (rest : List Value) (y : Int32) (x : Int64), p.tables.exec = Jvm.exec → c.code = cc → W p l e R s m args below meth c H locs cells slots Q (F0 m n real (.long (f x y) :: rest)) → W p l e R s m args below meth c H locs cells slots Q (F0 m pc real (.int y :: .long x :: rest))) : am_Ok nm D cA B0 sb H00 Th cc own mn eh rt pc (ac_li f n) := by
  refine ok_simple fun ls st M res hr => ?_
  unfold ac_li at hr
  split at hr
  next y x r =>
    cases hr
    refine ⟨n, ls, _, rfl, rfl, ?_⟩
    intro p l e R s m args below meth c H locs cells slots Q real C hml hl k
    exact h p l e R s m args below meth c H locs cells slots Q real _ y x C.1 C.2.1 (k real hl)
  next => cases hr
def ac_lli (f : Int64 → Int64 → Int32) (n : Nat) : am_A := fun ls st M => match st with
  | .long y :: .long x :: r => some (.inl (n, ls, .int (f x y) :: r, M))
  | _ => none
theorem ok_lli {n : Nat} {f : Int64 → Int64 → Int32} (h : ∀ (p : Program) (l : Launch) (e : Env) (R : Room) (s : State) (m : MethodId) (args : Array Value) (below : List Frame) (meth : Method) (c : Code) (H : Heap) (locs : List Loc) (cells slots : Nat) (Q : State → Prop) (real : Array Slot) (rest : List Value) (y x : Int64), p.tables.exec = Jvm.exec → c.code = cc → W p l e R s m args below meth c H locs cells slots Q (F0 m n real (.int (f x y) :: rest)) → W p l e R s m args below meth c H locs cells slots Q (F0 m pc real (.long y :: .long x :: rest))) : am_Ok nm D cA B0 sb H00 Th cc own mn eh rt pc (ac_lli f n) := by
  refine ok_simple fun ls st M res hr => ?_
  unfold ac_lli at hr
  split at hr
  next y x r =>
    cases hr
    refine ⟨n, ls, _, rfl, rfl, ?_⟩
    intro p l e R s m args below meth c H locs cells slots Q real C hml hl k
    exact h p l e R s m args below meth c H locs cells slots Q real _ y x C.1 C.2.1 (k real hl)
  next => cases hr
def ac_i1 (f : Int32 → Int32) (n : Nat) : am_A := fun ls st M => match st with
  | .int x :: r => some (.inl (n, ls, .int (f x) :: r, M))
  | _ => none
theorem ok_i1 {n : Nat} {f : Int32 → Int32} (h : ∀ (p : Program) (l : Launch) (e : Env) (R : Room) (s : State) (m : MethodId) (args : Array Value) (below : List Frame) (meth : Method) (c : Code) (H : Heap) (locs : List Loc) (cells slots : Nat) (Q : State → Prop) (real : Array Slot) (rest : List Value) (x : Int32), p.tables.exec = Jvm.exec → c.code = cc → W p l e R s m args below meth c H locs cells slots Q (F0 m n real (.int (f x) :: rest)) → W p l e R s m args below meth c H locs cells slots Q (F0 m pc real (.int x :: rest))) : am_Ok nm D cA B0 sb H00 Th cc own mn eh rt pc (ac_i1 f n) := by
  refine ok_simple fun ls st M res hr => ?_
  unfold ac_i1 at hr
  split at hr
  next x r =>
    cases hr
    refine ⟨n, ls, _, rfl, rfl, ?_⟩
    intro p l e R s m args below meth c H locs cells slots Q real C hml hl k
    exact h p l e R s m args below meth c H locs cells slots Q real _ x C.1 C.2.1 (k real hl)
  next => cases hr
def ac_il (f : Int32 → Int64) (n : Nat) : am_A := fun ls st M => match st with
  | .int x :: r => some (.inl (n, ls, .long (f x) :: r, M))
  | _ => none
theorem ok_il {n : Nat} {f : Int32 → Int64} (h : ∀ (p : Program) (l : Launch) (e : Env) (R : Room) (s : State) (m : MethodId) (args : Array Value) (below : List Frame) (meth : Method) (c : Code) (H : Heap) (locs : List Loc) (cells slots : Nat) (Q : State → Prop) (real : Array Slot) (rest : List Value) (x : Int32), p.tables.exec = Jvm.exec → c.code = cc → W p l e R s m args below meth c H locs cells slots Q (F0 m n real (.long (f x) :: rest)) → W p l e R s m args below meth c H locs cells slots Q (F0 m pc real (.int x :: rest))) : am_Ok nm D cA B0 sb H00 Th cc own mn eh rt pc (ac_il f n) := by
  refine ok_simple fun ls st M res hr => ?_
  unfold ac_il at hr
  split at hr
  next x r =>
    cases hr
    refine ⟨n, ls, _, rfl, rfl, ?_⟩
    intro p l e R s m args below meth c H locs cells slots Q real C hml hl k
    exact h p l e R s m args below meth c H locs cells slots Q real _ x C.1 C.2.1 (k real hl)
  next => cases hr
def ac_l2 (f : Int64 → Int32) (n : Nat) : am_A := fun ls st M => match st with
  | .long x :: r => some (.inl (n, ls, .int (f x) :: r, M))
  | _ => none
theorem ok_l2 {n : Nat} {f : Int64 → Int32} (h : ∀ (p : Program) (l : Launch) (e : Env) (R : Room) (s : State) (m : MethodId) (args : Array Value) (below : List Frame) (meth : Method) (c : Code) (H : Heap) (locs : List Loc) (cells slots : Nat) (Q : State → Prop) (real : Array Slot) (rest : List Value) (x : Int64), p.tables.exec = Jvm.exec → c.code = cc → W p l e R s m args below meth c H locs cells slots Q (F0 m n real (.int (f x) :: rest)) → W p l e R s m args below meth c H locs cells slots Q (F0 m pc real (.long x :: rest))) : am_Ok nm D cA B0 sb H00 Th cc own mn eh rt pc (ac_l2 f n) := by
  refine ok_simple fun ls st M res hr => ?_
  unfold ac_l2 at hr
  split at hr
  next x r =>
    cases hr
    refine ⟨n, ls, _, rfl, rfl, ?_⟩
    intro p l e R s m args below meth c H locs cells slots Q real C hml hl k
    exact h p l e R s m args below meth c H locs cells slots Q real _ x C.1 C.2.1 (k real hl)
  next => cases hr
theorem ok_iadd (hd : decode cc pc = .ok (.iadd, 1)) : am_Ok nm D cA B0 sb H00 Th cc own mn eh rt pc (ac_ii (fun x y => x + y) (pc + 1)) := ok_ii fun _ _ _ _ _ _ _ _ _ _ _ _ _ _ _ _ _ _ _ hx hb k => lv_iadd hx hb hd k
theorem ok_isub (hd : decode cc pc = .ok (.isub, 1)) : am_Ok nm D cA B0 sb H00 Th cc own mn eh rt pc (ac_ii (fun x y => x - y) (pc + 1)) := ok_ii fun _ _ _ _ _ _ _ _ _ _ _ _ _ _ _ _ _ _ _ hx hb k => lv_isub hx hb hd k
theorem ok_imul (hd : decode cc pc = .ok (.imul, 1)) : am_Ok nm D cA B0 sb H00 Th cc own mn eh rt pc (ac_ii (fun x y => x * y) (pc + 1)) := ok_ii fun _ _ _ _ _ _ _ _ _ _ _ _ _ _ _ _ _ _ _ hx hb k => lv_imul hx hb hd k
theorem ok_iand (hd : decode cc pc = .ok (.iand, 1)) : am_Ok nm D cA B0 sb H00 Th cc own mn eh rt pc (ac_ii (fun x y => x &&& y) (pc + 1)) := ok_ii fun _ _ _ _ _ _ _ _ _ _ _ _ _ _ _ _ _ _ _ hx hb k => lv_iand hx hb hd k
theorem ok_ior (hd : decode cc pc = .ok (.ior, 1)) : am_Ok nm D cA B0 sb H00 Th cc own mn eh rt pc (ac_ii (fun x y => x ||| y) (pc + 1)) := ok_ii fun _ _ _ _ _ _ _ _ _ _ _ _ _ _ _ _ _ _ _ hx hb k => lv_ior hx hb hd k
theorem ok_ishl (hd : decode cc pc = .ok (.ishl, 1)) : am_Ok nm D cA B0 sb H00 Th cc own mn eh rt pc (ac_ii (fun x y => x <<< (y &&& 31)) (pc + 1)) := ok_ii fun _ _ _ _ _ _ _ _ _ _ _ _ _ _ _ _ _ _ _ hx hb k => lv_ishl hx hb hd k
theorem ok_ishr (hd : decode cc pc = .ok (.ishr, 1)) : am_Ok nm D cA B0 sb H00 Th cc own mn eh rt pc (ac_ii (fun x y => x >>> (y &&& 31)) (pc + 1)) := ok_ii fun _ _ _ _ _ _ _ _ _ _ _ _ _ _ _ _ _ _ _ hx hb k => lv_ishr hx hb hd k
theorem ok_ladd (hd : decode cc pc = .ok (.ladd, 1)) : am_Ok nm D cA B0 sb H00 Th cc own mn eh rt pc (ac_ll (fun x y => x + y) (pc + 1)) := ok_ll fun _ _ _ _ _ _ _ _ _ _ _ _ _ _ _ _ _ _ _ hx hb k => lv_ladd hx hb hd k
theorem ok_land (hd : decode cc pc = .ok (.land, 1)) : am_Ok nm D cA B0 sb H00 Th cc own mn eh rt pc (ac_ll (fun x y => x &&& y) (pc + 1)) := ok_ll fun _ _ _ _ _ _ _ _ _ _ _ _ _ _ _ _ _ _ _ hx hb k => lv_land hx hb hd k
theorem ok_lor (hd : decode cc pc = .ok (.lor, 1)) : am_Ok nm D cA B0 sb H00 Th cc own mn eh rt pc (ac_ll (fun x y => x ||| y) (pc + 1)) := ok_ll fun _ _ _ _ _ _ _ _ _ _ _ _ _ _ _ _ _ _ _ hx hb k => lv_lor hx hb hd k
theorem ok_lshl (hd : decode cc pc = .ok (.lshl, 1)) : am_Ok nm D cA B0 sb H00 Th cc own mn eh rt pc (ac_li (fun x y => x <<< (y.toInt64 &&& 63)) (pc + 1)) := ok_li fun _ _ _ _ _ _ _ _ _ _ _ _ _ _ _ _ _ _ _ hx hb k => lv_lshl hx hb hd rfl k
theorem ok_lshr (hd : decode cc pc = .ok (.lshr, 1)) : am_Ok nm D cA B0 sb H00 Th cc own mn eh rt pc (ac_li (fun x y => x >>> (y.toInt64 &&& 63)) (pc + 1)) := ok_li fun _ _ _ _ _ _ _ _ _ _ _ _ _ _ _ _ _ _ _ hx hb k => lv_lshr hx hb hd rfl k
theorem ok_lushr (hd : decode cc pc = .ok (.lushr, 1)) : am_Ok nm D cA B0 sb H00 Th cc own mn eh rt pc (ac_li (fun x y => (x.toUInt64 >>> (y.toInt64.toUInt64 &&& Int64.toUInt64 63)).toInt64) (pc + 1)) := ok_li fun _ _ _ _ _ _ _ _ _ _ _ _ _ _ _ _ _ _ _ hx hb k => lv_lushr hx hb hd rfl k
theorem ok_lcmp (hd : decode cc pc = .ok (.lcmp, 1)) : am_Ok nm D cA B0 sb H00 Th cc own mn eh rt pc (ac_lli lg_cmp (pc + 1)) := ok_lli fun _ _ _ _ _ _ _ _ _ _ _ _ _ _ _ _ _ _ _ hx hb k => W.lcmp hx hb hd k
theorem ok_i2l (hd : decode cc pc = .ok (.i2l, 1)) : am_Ok nm D cA B0 sb H00 Th cc own mn eh rt pc (ac_il (fun x => x.toInt64) (pc + 1)) := ok_il fun _ _ _ _ _ _ _ _ _ _ _ _ _ _ _ _ _ _ hx hb k => lv_i2l hx hb hd rfl k
theorem ok_l2i (hd : decode cc pc = .ok (.l2i, 1)) : am_Ok nm D cA B0 sb H00 Th cc own mn eh rt pc (ac_l2 (fun x => x.toInt32) (pc + 1)) := ok_l2 fun _ _ _ _ _ _ _ _ _ _ _ _ _ _ _ _ _ _ hx hb k => lv_l2i hx hb hd rfl k
def ac_dup (n : Nat) : am_A := fun ls st M => match st with
  | v :: r => if v.category = 1 then some (.inl (n, ls, v :: v :: r, M)) else none
  | _ => none
theorem ok_dup (hd : decode cc pc = .ok (.dup, 1)) : am_Ok nm D cA B0 sb H00 Th cc own mn eh rt pc (ac_dup (pc + 1)) := by
  refine ok_simple fun ls st M res hr => ?_
  unfold ac_dup at hr
  split at hr
  next v r =>
    split at hr
    next hv =>
      cases hr
      refine ⟨_, ls, _, rfl, rfl, ?_⟩
      intro p l e R s m args below meth c H locs cells slots Q real C hml hl k
      exact lv_dup C.1 C.2.1 hd (by rw [am_val_cat]; exact hv) (k real hl)
    next => cases hr
  next => cases hr
def ac_pop (n : Nat) : am_A := fun ls st M => match st with
  | v :: r => if v.category = 1 then some (.inl (n, ls, r, M)) else none
  | _ => none
theorem ok_pop (hd : decode cc pc = .ok (.pop, 1)) : am_Ok nm D cA B0 sb H00 Th cc own mn eh rt pc (ac_pop (pc + 1)) := by
  refine ok_simple fun ls st M res hr => ?_
  unfold ac_pop at hr
  split at hr
  next v r =>
    split at hr
    next hv =>
      cases hr
      refine ⟨_, ls, _, rfl, rfl, ?_⟩
      intro p l e R s m args below meth c H locs cells slots Q real C hml hl k
      exact lv_pop C.1 C.2.1 hd (by rw [am_val_cat]; exact hv) (k real hl)
    next => cases hr
  next => cases hr
def ac_dup2 (n : Nat) : am_A := fun ls st M => match st with
  | v :: w :: r => if v.category = 1 ∧ w.category = 1 then some (.inl (n, ls, v :: w :: v :: w :: r, M)) else none
  | _ => none
theorem ok_dup2 (hd : decode cc pc = .ok (.dup2, 1)) : am_Ok nm D cA B0 sb H00 Th cc own mn eh rt pc (ac_dup2 (pc + 1)) := by
  refine ok_simple fun ls st M res hr => ?_
  unfold ac_dup2 at hr
  split at hr
  next v w r =>
    split at hr
    next hv =>
      cases hr
      refine ⟨_, ls, _, rfl, rfl, ?_⟩
      intro p l e R s m args below meth c H locs cells slots Q real C hml hl k
      exact lv_dup2_11 C.1 C.2.1 hd (by rw [am_val_cat]; exact hv.1) (by rw [am_val_cat]; exact hv.2) (k real hl)
    next => cases hr
  next => cases hr
def ac_goto (t : Nat) : am_A := fun ls st M => some (.inl (t, ls, st, M))
theorem ok_goto {off : Int} {t : Nat} (hd : decode cc pc = .ok (.goto off, 3)) (ht : (pc : Int) + off = (t : Int)) : am_Ok nm D cA B0 sb H00 Th cc own mn eh rt pc (ac_goto t) := by
  refine ok_simple fun ls st M res hr => ⟨t, ls, st, (Option.some.inj hr).symm, rfl, ?_⟩
  intro p l e R s m args below meth c H locs cells slots Q real C hml hl k
  exact lv_goto C.1 C.2.1 hd ht (k real hl)
def ac_if1 (P : Int32 → Prop) (t n : Nat) : am_A := fun ls st M => match st with
  | .int x :: r => some (.inr (.inr (.inl (P x, t, (n, ls, r, M)))))
  | _ => none
def ac_if2 (P : Int32 → Int32 → Prop) (t n : Nat) : am_A := fun ls st M => match st with
  | .int y :: .int x :: r => some (.inr (.inr (.inl (P x y, t, (n, ls, r, M)))))
  | _ => none
theorem ok_if1 {P : Int32 → Prop} {t n : Nat} (h : ∀ (p : Program) (l : Launch) (e : Env) (R : Room) (s : State) (m : MethodId) (args : Array Value) (below : List Frame) (meth : Method) (c : Code) (H : Heap) (locs : List Loc) (cells slots : Nat) (Q : State → Prop) (real : Array Slot) (rest : List Value) (x : Int32), p.tables.exec = Jvm.exec → c.code = cc → (P x → W p l e R s m args below meth c H locs cells slots Q (F0 m t real rest)) → (¬ P x → W p l e R s m args below meth c H locs cells slots Q (F0 m n real rest)) → W p l e R s m args below meth c H locs cells slots Q (F0 m pc real (.int x :: rest))) : am_Ok nm D cA B0 sb H00 Th cc own mn eh rt pc (ac_if1 P t n) := by
  intro ls st M res hr
  unfold ac_if1 at hr
  split at hr
  next x r =>
    cases hr
    refine ⟨⟨rfl, rfl⟩, ?_⟩
    intro p l e R s m args below meth c C hml H locs cells slots real hl hR hS hc hs Q k1 k2
    exact h p l e R s m args below meth c H locs cells slots Q real _ x C.1 C.2.1 k1 k2
  next => cases hr
theorem ok_if2 {P : Int32 → Int32 → Prop} {t n : Nat} (h : ∀ (p : Program) (l : Launch) (e : Env) (R : Room) (s : State) (m : MethodId) (args : Array Value) (below : List Frame) (meth : Method) (c : Code) (H : Heap) (locs : List Loc) (cells slots : Nat) (Q : State → Prop) (real : Array Slot) (rest : List Value) (y x : Int32), p.tables.exec = Jvm.exec → c.code = cc → (P x y → W p l e R s m args below meth c H locs cells slots Q (F0 m t real rest)) → (¬ P x y → W p l e R s m args below meth c H locs cells slots Q (F0 m n real rest)) → W p l e R s m args below meth c H locs cells slots Q (F0 m pc real (.int y :: .int x :: rest))) : am_Ok nm D cA B0 sb H00 Th cc own mn eh rt pc (ac_if2 P t n) := by
  intro ls st M res hr
  unfold ac_if2 at hr
  split at hr
  next y x r =>
    cases hr
    refine ⟨⟨rfl, rfl⟩, ?_⟩
    intro p l e R s m args below meth c C hml H locs cells slots real hl hR hS hc hs Q k1 k2
    exact h p l e R s m args below meth c H locs cells slots Q real _ y x C.1 C.2.1 k1 k2
  next => cases hr
theorem ok_ifeq {off : Int} {t : Nat} (hd : decode cc pc = .ok (.ifCond .eq off, 3)) (ht : (pc : Int) + off = (t : Int)) : am_Ok nm D cA B0 sb H00 Th cc own mn eh rt pc (ac_if1 (fun x => x = 0) t (pc + 3)) := ok_if1 fun _ _ _ _ _ _ _ _ _ _ _ _ _ _ _ _ _ _ hx hb k1 k2 => lv_if_eq hx hb hd ht k1 k2
theorem ok_icmpeq {off : Int} {t : Nat} (hd : decode cc pc = .ok (.if_icmp .eq off, 3)) (ht : (pc : Int) + off = (t : Int)) : am_Ok nm D cA B0 sb H00 Th cc own mn eh rt pc (ac_if2 (fun x y => x = y) t (pc + 3)) := ok_if2 fun _ _ _ _ _ _ _ _ _ _ _ _ _ _ _ _ _ _ _ hx hb k1 k2 => lv_icmp_eq hx hb hd ht k1 k2
theorem ok_ifne {off : Int} {t : Nat} (hd : decode cc pc = .ok (.ifCond .ne off, 3)) (ht : (pc : Int) + off = (t : Int)) : am_Ok nm D cA B0 sb H00 Th cc own mn eh rt pc (ac_if1 (fun x => ¬ x = 0) t (pc + 3)) := ok_if1 fun _ _ _ _ _ _ _ _ _ _ _ _ _ _ _ _ _ _ hx hb k1 k2 => lv_if_ne hx hb hd ht k1 (fun q => k2 (fun z => z q))
theorem ok_icmpne {off : Int} {t : Nat} (hd : decode cc pc = .ok (.if_icmp .ne off, 3)) (ht : (pc : Int) + off = (t : Int)) : am_Ok nm D cA B0 sb H00 Th cc own mn eh rt pc (ac_if2 (fun x y => ¬ x = y) t (pc + 3)) := ok_if2 fun _ _ _ _ _ _ _ _ _ _ _ _ _ _ _ _ _ _ _ hx hb k1 k2 => lv_icmp_ne hx hb hd ht k1 (fun q => k2 (fun z => z q))
theorem ok_iflt {off : Int} {t : Nat} (hd : decode cc pc = .ok (.ifCond .lt off, 3)) (ht : (pc : Int) + off = (t : Int)) : am_Ok nm D cA B0 sb H00 Th cc own mn eh rt pc (ac_if1 (fun x => x < 0) t (pc + 3)) := ok_if1 fun _ _ _ _ _ _ _ _ _ _ _ _ _ _ _ _ _ _ hx hb k1 k2 => lv_if_lt hx hb hd ht k1 k2
theorem ok_icmplt {off : Int} {t : Nat} (hd : decode cc pc = .ok (.if_icmp .lt off, 3)) (ht : (pc : Int) + off = (t : Int)) : am_Ok nm D cA B0 sb H00 Th cc own mn eh rt pc (ac_if2 (fun x y => x < y) t (pc + 3)) := ok_if2 fun _ _ _ _ _ _ _ _ _ _ _ _ _ _ _ _ _ _ _ hx hb k1 k2 => lv_icmp_lt hx hb hd ht k1 k2
theorem ok_ifge {off : Int} {t : Nat} (hd : decode cc pc = .ok (.ifCond .ge off, 3)) (ht : (pc : Int) + off = (t : Int)) : am_Ok nm D cA B0 sb H00 Th cc own mn eh rt pc (ac_if1 (fun x => 0 ≤ x) t (pc + 3)) := ok_if1 fun _ _ _ _ _ _ _ _ _ _ _ _ _ _ _ _ _ _ hx hb k1 k2 => lv_if_ge hx hb hd ht k1 k2
theorem ok_icmpge {off : Int} {t : Nat} (hd : decode cc pc = .ok (.if_icmp .ge off, 3)) (ht : (pc : Int) + off = (t : Int)) : am_Ok nm D cA B0 sb H00 Th cc own mn eh rt pc (ac_if2 (fun x y => y ≤ x) t (pc + 3)) := ok_if2 fun _ _ _ _ _ _ _ _ _ _ _ _ _ _ _ _ _ _ _ hx hb k1 k2 => lv_icmp_ge hx hb hd ht k1 k2
theorem ok_ifgt {off : Int} {t : Nat} (hd : decode cc pc = .ok (.ifCond .gt off, 3)) (ht : (pc : Int) + off = (t : Int)) : am_Ok nm D cA B0 sb H00 Th cc own mn eh rt pc (ac_if1 (fun x => 0 < x) t (pc + 3)) := ok_if1 fun _ _ _ _ _ _ _ _ _ _ _ _ _ _ _ _ _ _ hx hb k1 k2 => lv_if_gt hx hb hd ht k1 k2
theorem ok_icmpgt {off : Int} {t : Nat} (hd : decode cc pc = .ok (.if_icmp .gt off, 3)) (ht : (pc : Int) + off = (t : Int)) : am_Ok nm D cA B0 sb H00 Th cc own mn eh rt pc (ac_if2 (fun x y => y < x) t (pc + 3)) := ok_if2 fun _ _ _ _ _ _ _ _ _ _ _ _ _ _ _ _ _ _ _ hx hb k1 k2 => lv_icmp_gt hx hb hd ht k1 k2
theorem ok_ifle {off : Int} {t : Nat} (hd : decode cc pc = .ok (.ifCond .le off, 3)) (ht : (pc : Int) + off = (t : Int)) : am_Ok nm D cA B0 sb H00 Th cc own mn eh rt pc (ac_if1 (fun x => x ≤ 0) t (pc + 3)) := ok_if1 fun _ _ _ _ _ _ _ _ _ _ _ _ _ _ _ _ _ _ hx hb k1 k2 => lv_if_le hx hb hd ht k1 k2
theorem ok_icmple {off : Int} {t : Nat} (hd : decode cc pc = .ok (.if_icmp .le off, 3)) (ht : (pc : Int) + off = (t : Int)) : am_Ok nm D cA B0 sb H00 Th cc own mn eh rt pc (ac_if2 (fun x y => x ≤ y) t (pc + 3)) := ok_if2 fun _ _ _ _ _ _ _ _ _ _ _ _ _ _ _ _ _ _ _ hx hb k1 k2 => lv_icmp_le hx hb hd ht k1 k2
def ac_ifnull (t n : Nat) : am_A := fun ls st M => match st with
  | .ref _ :: r => some (.inl (n, ls, r, M))
  | .null :: r => some (.inl (t, ls, r, M))
  | _ => none
def ac_ifnonnull (t n : Nat) : am_A := fun ls st M => match st with
  | .ref _ :: r => some (.inl (t, ls, r, M))
  | .null :: r => some (.inl (n, ls, r, M))
  | _ => none
theorem ok_ifnull {off : Int} {t : Nat} (hd : decode cc pc = .ok (.ifnull off, 3)) (ht : (pc : Int) + off = (t : Int)) : am_Ok nm D cA B0 sb H00 Th cc own mn eh rt pc (ac_ifnull t (pc + 3)) := by
  refine ok_simple fun ls st M res hr => ?_
  unfold ac_ifnull at hr
  split at hr
  next x r =>
    cases hr
    refine ⟨_, ls, _, rfl, rfl, ?_⟩
    intro p l e R s m args below meth c H locs cells slots Q real C hml hl k
    exact lv_ifnull C.1 C.2.1 hd (k real hl)
  next r =>
    cases hr
    refine ⟨_, ls, _, rfl, rfl, ?_⟩
    intro p l e R s m args below meth c H locs cells slots Q real C hml hl k
    exact lv_ifnullN C.1 C.2.1 hd ht (k real hl)
  next => cases hr
theorem ok_ifnonnull {off : Int} {t : Nat} (hd : decode cc pc = .ok (.ifnonnull off, 3)) (ht : (pc : Int) + off = (t : Int)) : am_Ok nm D cA B0 sb H00 Th cc own mn eh rt pc (ac_ifnonnull t (pc + 3)) := by
  refine ok_simple fun ls st M res hr => ?_
  unfold ac_ifnonnull at hr
  split at hr
  next x r =>
    cases hr
    refine ⟨_, ls, _, rfl, rfl, ?_⟩
    intro p l e R s m args below meth c H locs cells slots Q real C hml hl k
    exact lv_ifnonnull C.1 C.2.1 hd ht (k real hl)
  next r =>
    cases hr
    refine ⟨_, ls, _, rfl, rfl, ?_⟩
    intro p l e R s m args below meth c H locs cells slots Q real C hml hl k
    exact lv_ifnonnullN C.1 C.2.1 hd (k real hl)
  next => cases hr
end ACT2
