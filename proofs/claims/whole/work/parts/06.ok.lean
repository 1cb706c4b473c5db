/-! what an instruction of the abstract machine must be: the machine does the same -/
def am_ws : List Cond := lw_tbl.filter goodWord
theorem am_in {w : Cond} (i : Nat) (h : tables_1[i]? = some w) (g : goodWord w = true) : w ∈ am_ws := List.mem_filter.mpr ⟨List.mem_append_right _ (List.mem_of_getElem? h), g⟩
theorem am_inS {w : Cond} (i : Nat) (h : (k2_sels lw_privs)[i]? = some w) (g : goodWord w = true) : w ∈ am_ws := List.mem_filter.mpr ⟨List.mem_append_left _ (List.mem_of_getElem? h), g⟩
def am_nest : List Cond := [.methodLinkNest "TokenMouth$Reader" 40 ⟨"TokenMouth", "charactersOf", "(J)I"⟩ "TokenMouth", .methodLinkNest "TokenMouth$Row" 29 ⟨"TokenMouth", "braceStep", "(I)I"⟩ "TokenMouth"]
def am_exn : Nat → String := fun k => match k with
  | 0 => "java/lang/IllegalArgumentException"
  | 1 => "java/lang/IllegalStateException"
  | 2 => "java/lang/IndexOutOfBoundsException"
  | _ => "java/util/NoSuchElementException"
def am_oc (B0 : Nat) (sb : Nat → Option Nat) (o : am_O) (oc : Outcome) (t : State) : Prop := match o with
  | .inl v => oc = .returned (v.map (am_val B0 sb))
  | .inr kd => ∃ (x : Addr) (cell : Cell), oc = .threw x ∧ t.heap[x]? = some cell ∧ cell.vm = .none ∧ t.vm.findClass (am_exn kd) = some cell.cls
def am_A0 (B0 : Nat) : Nat → Prop := fun q => B0 ≤ q
def am_Qc (D : va_G) (cA : Nat → ClassId) (B0 : Nat) (sb : Nat → Option Nat) (H00 : Heap) (o : am_O) (M' : am_M) : Array Value → State → Outcome → State → Prop := fun _ st oc t => am_oc B0 sb o oc t ∧ am_Rel D cA B0 sb H00 t M' t.heap ∧ va_F (am_A0 B0) st t
def am_K (D : va_G) (cA : Nat → ClassId) (Th : State → Prop) (s : State) : Prop := va_K D ck_cl (am_tys cA) s ∧ (∀ w ∈ am_nest, va_Nw w s) ∧ va_AO ck_R4 s ∧ va_AO ck_R1 s ∧ Th s
def am_MQ (below : List Frame) (Qc : Array Value → State → Outcome → State → Prop) (a : Array Value) (s : State) (mc ms : Nat) (free : Addr → Prop) : State → Prop := fun t =>
  ∃ o, t.status = .running ∧ Ended t below o ∧ Qc a s o t ∧ ∃ L, am_FE s t L mc ms ∧ ∀ q ∈ L, free q.base
theorem am_MQ_of {below : List Frame} {Qc : Array Value → State → Outcome → State → Prop} {a : Array Value} {s : State} {mc ms : Nat} {free : Addr → Prop} {t : State} (h : MQ below Qc a s mc ms free t) : am_MQ below Qc a s mc ms free t := by
  obtain ⟨o, h1, h2, h3, L, h4, h5⟩ := h
  exact ⟨o, h1, h2, h3, L, ⟨h4.2.1, h4.2.2⟩, h5⟩
section AMW
variable {p : Program} {l : Launch} {e : Env} {R : Room} {s : State} {m : MethodId} {args : Array Value} {below : List Frame} {meth : Method} {c : Code} {H : Heap} {locs : List Loc} {cells slots : Nat} {Q Q' : State → Prop}
theorem am_W_mono {g : JFrame} (h : ∀ t, Q t → Q' t) (k : W p l e R s m args below meth c H locs cells slots Q g) : W p l e R s m args below meth c H locs cells slots Q' g := by
  intro T hT X
  obtain ⟨t, a, b⟩ := k T hT X
  exact ⟨t, a, h t b⟩
end AMW
def am_Cx (D : va_G) (cA : Nat → ClassId) (B0 : Nat) (Th : State → Prop) (cc : ByteArray) (own mn : String) (eh : List (Nat × Nat × Nat × Nat)) (rt : Option FieldType) (p : Program) (l : Launch) (R : Room) (s : State) (m : MethodId) (args : Array Value) (meth : Method) (c : Code) : Prop :=
  p.tables.exec = Jvm.exec ∧ c.code = cc ∧ meth.sig.returnType = rt ∧ meth.locks = false ∧ s.vm.findClass own = some m.cls ∧ (∀ w ∈ am_ws, w.before args s = true) ∧ am_K D cA Th s ∧ B0 ≤ s.heap.size ∧ 16 ≤ R.frames ∧ 256 ≤ R.locals ∧ meth.name = mn ∧ c.exceptionTable.toList.map (fun h => (h.startPc, h.endPc, h.handlerPc, h.catchType)) = eh ∧ l.flags = pinnedFlags ++ [noTraceFlag]
/-- the walk at a frame of the abstract machine -/
def am_Wk (B0 : Nat) (sb : Nat → Option Nat) (p : Program) (l : Launch) (e : Env) (R : Room) (s : State) (m : MethodId) (args : Array Value) (below : List Frame) (meth : Method) (c : Code) (H : Heap) (locs : List Loc) (cells slots : Nat) (Q : State → Prop) (pc : Nat) (real : Array Slot) (st : List Value) : Prop :=
  W p l e R s m args below meth c H locs cells slots Q (F0 m pc real (st.map (am_val B0 sb)))
/-- on to the frame G, from the memory M -/
def am_To (D : va_G) (cA : Nat → ClassId) (B0 : Nat) (sb : Nat → Option Nat) (H00 : Heap) (p : Program) (l : Launch) (e : Env) (R : Room) (s : State) (m : MethodId) (args : Array Value) (below : List Frame) (meth : Method) (c : Code) (cells slots : Nat) (Q : State → Prop) (M : am_M) (G : am_F) : Prop :=
  cells + (am_cn G.2.2.2 - am_cn M) ≤ R.cells ∧ slots + (am_sn G.2.2.2 - am_sn M) ≤ R.slots ∧
  ∀ (H1 : Heap) (locs1 : List Loc) (real1 : Array Slot), am_Loc B0 sb real1 G.2.1 → am_Rel D cA B0 sb H00 s G.2.2.2 H1 → va_S (am_A0 B0) s.heap H1 locs1 →
    am_Wk B0 sb p l e R s m args below meth c H1 locs1 (cells + (am_cn G.2.2.2 - am_cn M)) (slots + (am_sn G.2.2.2 - am_sn M)) Q G.1 real1 G.2.2.1
def am_Up (M M' : am_M) : Prop := am_cn M ≤ am_cn M' ∧ am_sn M ≤ am_sn M'
def am_Ok (nm : Nat → MethodName) (D : va_G) (cA : Nat → ClassId) (B0 : Nat) (sb : Nat → Option Nat) (H00 : Heap) (Th : State → Prop) (cc : ByteArray) (own mn : String) (eh : List (Nat × Nat × Nat × Nat)) (rt : Option FieldType) (pc : Nat) (a : am_A) : Prop :=
  ∀ (ls : List (Option Value)) (st : List Value) (M : am_M) (res : am_Res), a ls st M = some res →
    (match res with
      | .inl G => am_Up M G.2.2.2 ∧ G.2.1.length = ls.length
      | .inr (.inl (_, G)) => am_Up M G.2.2.2 ∧ G.2.1.length = ls.length
      | .inr (.inr (.inl (_, _, G))) => G.2.2.2 = M ∧ G.2.1 = ls
      | .inr (.inr (.inr (.inl (_, _, G)))) => G.2.2.2 = M ∧ G.2.1 = ls
      | .inr (.inr (.inr (.inr (.inl (_, _, _, G))))) => G.2.2.2 = M ∧ G.2.1 = ls ∧ G.1 = pc + 3
      | .inr (.inr (.inr (.inr (.inr (_, _, M'))))) => am_Up M M') ∧
    ∀ (p : Program) (l : Launch) (e : Env) (R : Room) (s : State) (m : MethodId) (args : Array Value) (below : List Frame) (meth : Method) (c : Code), am_Cx D cA B0 Th cc own mn eh rt p l R s m args meth c → ls.length = c.maxLocals →
    ∀ (H : Heap) (locs : List Loc) (cells slots : Nat) (real : Array Slot), am_Loc B0 sb real ls → am_Rel D cA B0 sb H00 s M H → va_S (am_A0 B0) s.heap H locs → cells ≤ R.cells → slots ≤ R.slots →
    match res with
      | .inl G => ∀ Q, am_To D cA B0 sb H00 p l e R s m args below meth c cells slots Q M G → am_Wk B0 sb p l e R s m args below meth c H locs cells slots Q pc real st
      | .inr (.inl (cd, G)) => cd → ∀ Q, am_To D cA B0 sb H00 p l e R s m args below meth c cells slots Q M G → am_Wk B0 sb p l e R s m args below meth c H locs cells slots Q pc real st
      | .inr (.inr (.inl (cd, t, G))) => ∀ Q, (cd → am_Wk B0 sb p l e R s m args below meth c H locs cells slots Q t real G.2.2.1) → (¬ cd → am_Wk B0 sb p l e R s m args below meth c H locs cells slots Q G.1 real G.2.2.1) → am_Wk B0 sb p l e R s m args below meth c H locs cells slots Q pc real st
      | .inr (.inr (.inr (.inl (sw, x, G)))) => ∀ Q, am_swp (fun t => am_Wk B0 sb p l e R s m args below meth c H locs cells slots Q t real G.2.2.1) G.1 x sw → am_Wk B0 sb p l e R s m args below meth c H locs cells slots Q pc real st
      | .inr (.inr (.inr (.inr (.inl (y, as, hd, G))))) => am_Inv p l e R s m args below meth c H locs cells slots (F0 m pc real (st.map (am_val B0 sb))) (G.2.2.1.map (am_val B0 sb)) (nm y) (as.map (am_val B0 sb)).toArray ∧ (∃ ig, decode cc pc = .ok (ig, 3)) ∧ ((G.2.2.1.map (am_val B0 sb)).map fun v => v.category).sum ≤ 8 ∧
          ∀ (Q : State → Prop) (T' : State) (x : Addr) (kd : Nat) (cell : Cell) (locs1 : List Loc) (cells1 slots1 : Nat), Stand p l e R s m args below meth c T' locs1 cells1 slots1 → T'.heap[x]? = some cell → cell.vm = .none → s.vm.findClass (am_exn kd) = some cell.cls →
            (match hd kd with
              | some h => ∀ (real1 : Array Slot), am_Loc B0 sb real1 (am_kl ls h.2) → W p l e R s m args below meth c T'.heap locs1 cells1 slots1 Q (F0 m h.1 real1 [])
              | none => ∀ vm' : Vm, Stand p l e R s m args below meth c (T'.setVm vm') locs1 cells1 slots1 → ∃ u, Steps p.tables e below ((T'.setVm vm').setFrames (.throwing x :: below)) u ∧ Q u) →
            ∃ u, Steps p.tables e below ((T'.setTop (F0 m pc real (G.2.2.1.map (am_val B0 sb)))).pushFrame (.throwing x)) u ∧ Q u
      | .inr (.inr (.inr (.inr (.inr (cd, o, M'))))) => cd → cells + (am_cn M' - am_cn M) ≤ R.cells → slots + (am_sn M' - am_sn M) ≤ R.slots →
          am_Wk B0 sb p l e R s m args below meth c H locs cells slots (am_MQ below (am_Qc D cA B0 sb H00 o M') args s (cells + (am_cn M' - am_cn M)) (slots + (am_sn M' - am_sn M)) (am_A0 B0)) pc real st
