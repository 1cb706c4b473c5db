/-! the search through a method's handlers, in a walk -/
def am_pick : List (ExceptionTableEntry × String × Bool) → Handler
  | [] => .none
  | (x, _, true) :: _ => .found x.handlerPc
  | (_, _, false) :: r => am_pick r
theorem am_stepLeave {e : Env} {s s' : State} {a : Addr} {f : JFrame} {r : List Frame} {meth : Method} (hm : s'.vm.method? f.method = some meth) (hl : meth.locks = false) (hlocked : f.locked = none) (hentered : f.entered = []) (hfind : am_Finds e s f a .none s') :
    (stepThrowing e s a (.java f :: r)).Is (s'.setFrames (.throwing a :: r)) [] := by
  simp only [stepThrowing, searchFrame, vmDo]
  generalize hr : Sem.go _ e false [] s = res
  obtain ⟨as, rfl, ha⟩ := Sem.eq_ok_of hr (a := Handler.none) (s' := s') (acts' := [])
    (by cases hp : e.platform.frameOwnsMonitors <;> simp [hfind _ _ _ _, hm, hl, hlocked, hentered, hp, leaveIfLocked])
  exact ⟨rfl, ha⟩
section SRC
variable {p : Program} {l : Launch} {e : Env} {R : Room} {s : State} {m : MethodId} {args : Array Value} {below : List Frame} {meth : Method} {c : Code} {T : State} {locs : List Loc} {cells slots : Nat}
set_option maxHeartbeats 1000000 in
theorem am_search (X : Stand p l e R s m args below meth c T locs cells slots) {own : String} (hown : s.vm.findClass own = some m.cls) {a : Addr} {cell : Cell} (hcell : T.heap[a]? = some cell) (hvm : cell.vm = .none) (hcl0 : ∃ k, s.vm.classes[cell.cls]? = some k) {g : JFrame} (hg : g.method = m) :
    ∀ (ps : List (ExceptionTableEntry × String × Bool)), (∀ q ∈ ps, covers q.1 g.pc = true ∧ q.1.catchType ≠ 0 ∧ (Cond.classLink own q.1.catchType q.2.1).before args s = true ∧ ∀ cN, s.vm.findClass q.2.1 = some cN → s.vm.assignable cell.cls cN = q.2.2) → ∀ vm₁, s.WarmedH vm₁ →
      ∃ vm₂, s.WarmedH vm₂ ∧ ∀ (Q : Handler → Pre) (E : CtlPost) (d : Bool) (acts : List Action), wp (findHandler.go g a (ps.map (·.1))) Q E e d acts (((T.setTop g).pushFrame (.throwing a)).setVm vm₁) ↔ Q (am_pick ps) d acts (((T.setTop g).pushFrame (.throwing a)).setVm vm₂)
  | [], _, vm₁, hW₁ => ⟨vm₁, hW₁, fun Q E d acts => W.findHandler_go_nil⟩
  | (x, n, b) :: r, hq, vm₁, hW₁ => by
    obtain ⟨h1, h2, h3, h4⟩ := hq _ List.mem_cons_self
    dsimp only at h1 h2 h3 h4
    have hpl : e.platform.magicAccessors = ({} : Platform).magicAccessors := by rw [X.admits.platform]
    obtain ⟨c', hc', hcl⟩ := Cond.classLink_spec hown h3 e.platform hpl
    obtain ⟨dk, _, _, kt, hd, _, _, _, _, hkt, _, hopen⟩ := hcl.here
    have hcl₁ := hW₁.classLinks hcl
    have hW₂ : s.WarmedH (vm₁.noted m.cls x.catchType (.cls c')) := hW₁.noted hd hopen (State.rightAt_cls hcl)
    have hgv := resolveClass_links e.toSetting hcl₁
    have hasg := h4 c' hc'
    have hasg2 : (vm₁.noted m.cls x.catchType (.cls c')).assignable cell.cls c' = b := by rw [hW₂.alike.assignable]; exact hasg
    obtain ⟨k0, hk0⟩ := hcl0
    obtain ⟨k0', hk0', -⟩ := hW₂.alike.2.2 _ _ hk0
    obtain ⟨kt', hkt', -⟩ := hW₂.alike.2.2 _ _ hkt
    have hheap : (((T.setTop g).pushFrame (.throwing a)).setVm vm₁).heap[a]? = some cell := by
      show ((T.setTop g).pushFrame (.throwing a)).heap[a]? = some cell
      rw [Stand.throwing_heap]
      exact hcell
    have hgo : ∀ (t : List ExceptionTableEntry) (Q : Handler → Pre) (E : CtlPost) (d : Bool) (acts : List Action), wp (findHandler.go g a (x :: t)) Q E e d acts (((T.setTop g).pushFrame (.throwing a)).setVm vm₁) ↔ if (vm₁.noted m.cls x.catchType (.cls c')).assignable cell.cls c' = true then Q (.found x.handlerPc) d acts (((T.setTop g).pushFrame (.throwing a)).setVm (vm₁.noted m.cls x.catchType (.cls c'))) else wp (findHandler.go g a t) Q E e d acts (((T.setTop g).pushFrame (.throwing a)).setVm (vm₁.noted m.cls x.catchType (.cls c'))) := by
      intro t Q E d acts
      exact am_go_cold (s := ((T.setTop g).pushFrame (.throwing a)).setVm vm₁) (vm' := vm₁.noted m.cls x.catchType (.cls c')) h1 h2 (by rw [hg]; exact hgv) (by show (vm₁.noted m.cls x.catchType (.cls c')).classes.size ≤ vm₁.classes.size; rw [Vm.size_noted]; exact Nat.le_refl _) hheap (fun k hk => by rw [hvm] at hk; cases hk) ⟨k0', hk0'⟩ ⟨kt', hkt'⟩
    cases b with
    | true =>
      refine ⟨_, hW₂, fun Q E d acts => ?_⟩
      rw [List.map_cons, hgo, if_pos hasg2]
      exact Iff.rfl
    | false =>
      obtain ⟨vm₂, hW3, hr⟩ := am_search X hown hcell hvm ⟨k0, hk0⟩ hg r (fun q hq' => hq q (List.mem_cons_of_mem _ hq')) _ hW₂
      refine ⟨vm₂, hW3, fun Q E d acts => ?_⟩
      rw [List.map_cons, hgo, if_neg (by rw [hasg2]; decide), hr]
      exact Iff.rfl
end SRC
