/-! into a handler, or out, in a walk -/
section SRW
variable {p : Program} {l : Launch} {e : Env} {R : Room} {s : State} {m : MethodId} {args : Array Value} {below : List Frame} {meth : Method} {c : Code} {T : State} {locs : List Loc} {cells slots : Nat}
theorem am_found (X : Stand p l e R s m args below meth c T locs cells slots) {own : String} (hown : s.vm.findClass own = some m.cls) {a : Addr} {cell : Cell} (hcell : T.heap[a]? = some cell) (hvm : cell.vm = .none) (hcl0 : ∃ k, s.vm.classes[cell.cls]? = some k) {g : JFrame} (hg : g.method = m)
    (ps : List (ExceptionTableEntry × String × Bool)) (hps : c.exceptionTable.toList = ps.map (·.1)) (hq : ∀ q ∈ ps, covers q.1 g.pc = true ∧ q.1.catchType ≠ 0 ∧ (Cond.classLink own q.1.catchType q.2.1).before args s = true ∧ ∀ cN, s.vm.findClass q.2.1 = some cN → s.vm.assignable cell.cls cN = q.2.2) :
    ∃ vm₂, s.WarmedH vm₂ ∧ am_Finds e ((T.setTop g).pushFrame (.throwing a)) g a (am_pick ps) (((T.setTop g).pushFrame (.throwing a)).setVm vm₂) := by
  obtain ⟨vm₂, hW₂, hr⟩ := am_search X hown hcell hvm hcl0 hg ps hq T.vm X.warmed
  refine ⟨vm₂, hW₂, fun Q E d acts => ?_⟩
  have e0 : ((T.setTop g).pushFrame (.throwing a)).setVm T.vm = (T.setTop g).pushFrame (.throwing a) := by
    have := Stand.throwing_vm T g a
    rw [← this]
    rfl
  have hm : ((T.setTop g).pushFrame (.throwing a)).vm.method? g.method = some meth := by
    rw [Stand.throwing_vm, hg]
    exact X.method'
  rw [W.findHandler_eq hm X.code, hps]
  have h9 := hr Q E d acts
  rw [e0] at h9
  exact h9
theorem am_toHandler (X : Stand p l e R s m args below meth c T locs cells slots) {a : Addr} {g : JFrame} (hg : g.method = m) {vm₂ : Vm} {pc' : Nat} (hf : am_Finds e ((T.setTop g).pushFrame (.throwing a)) g a (.found pc') (((T.setTop g).pushFrame (.throwing a)).setVm vm₂)) {target : State}
    (hrest : Steps p.tables e below ((T.setVm vm₂).setTop { g with pc := pc', stack := [.ref a] }) target) : Steps p.tables e below ((T.setTop g).pushFrame (.throwing a)) target := by
  have h : At T g.method c below := by rw [hg]; exact X.here
  obtain ⟨hgo, hw⟩ := h.throwing a
  refine Steps.head hgo hw ?_
  rw [stepThread_throwing (frames_entered h.top _), (am_stepCatch (s := (T.setTop g).pushFrame (.throwing a)) hf).1]
  obtain ⟨g₀, hg0⟩ := Option.isSome_iff_exists.mp h.top
  obtain ⟨r, hr⟩ := State.topJava?_eq_some.mp hg0
  have hr2 : (T.setVm vm₂).frames = .java g₀ :: r := hr
  rw [State.setTop_of_frames _ hr2] at hrest
  have e1 : (((T.setTop g).pushFrame (.throwing a)).setVm vm₂).setFrames (.java { g with pc := pc', stack := [.ref a] } :: T.frames.tail) = (T.setVm vm₂).setFrames (.java { g with pc := pc', stack := [.ref a] } :: r) := by
    show ((((T.setTop g).pushFrame (.throwing a)).setFrames (.java { g with pc := pc', stack := [.ref a] } :: T.frames.tail))).setVm vm₂ = (T.setFrames (.java { g with pc := pc', stack := [.ref a] } :: r)).setVm vm₂
    rw [State.pushFrame, State.setFrames_setFrames, State.setTop_of_frames _ hr, State.setFrames_setFrames, hr]
    rfl
  rw [e1]
  exact hrest
theorem am_toOut (X : Stand p l e R s m args below meth c T locs cells slots) {a : Addr} {g : JFrame} (hg : g.method = m) (hlocked : g.locked = none) (hentered : g.entered = []) (hlocks : meth.locks = false) {vm₂ : Vm} (hW₂ : s.WarmedH vm₂) (hf : am_Finds e ((T.setTop g).pushFrame (.throwing a)) g a .none (((T.setTop g).pushFrame (.throwing a)).setVm vm₂)) {target : State}
    (hrest : Steps p.tables e below ((T.setVm vm₂).setFrames (.throwing a :: below)) target) : Steps p.tables e below ((T.setTop g).pushFrame (.throwing a)) target := by
  have h : At T g.method c below := by rw [hg]; exact X.here
  obtain ⟨hgo, hw⟩ := h.throwing a
  refine Steps.head hgo hw ?_
  have X2 := X.noted hW₂
  rw [stepThread_throwing (frames_entered h.top _), (am_stepLeave (s := (T.setTop g).pushFrame (.throwing a)) (meth := meth) (by show vm₂.method? g.method = some meth; rw [hg]; exact X2.method') hlocks hlocked hentered hf).1]
  obtain ⟨g₀, hg0⟩ := Option.isSome_iff_exists.mp h.top
  obtain ⟨r, hr⟩ := State.topJava?_eq_some.mp hg0
  have htl : T.frames.tail = below := X.tail
  have e1 : (((T.setTop g).pushFrame (.throwing a)).setVm vm₂).setFrames (.throwing a :: T.frames.tail) = (T.setVm vm₂).setFrames (.throwing a :: below) := by
    show ((((T.setTop g).pushFrame (.throwing a)).setFrames (.throwing a :: T.frames.tail))).setVm vm₂ = (T.setFrames (.throwing a :: below)).setVm vm₂
    rw [State.pushFrame, State.setFrames_setFrames, State.setTop_of_frames _ hr, State.setFrames_setFrames, htl]
  rw [e1]
  exact hrest
end SRW
