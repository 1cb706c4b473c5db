/-! what a throw needs of the tables and of the old heap -/
def am_decl : List Cond := [.declares (Bundle.initS "java/lang/RuntimeException"), .declares (Bundle.initS "java/lang/Exception"), .declares (Bundle.initS Bundle.tN)]
def am_strs : List (Nat × String) := [(76, "n is not 1 .. 500"), (86, "the run came to a fault before"), (163, "the run came to a fault"), (108, "what is not 0 or 1"), (117, "no such token is out"), (129, "what is not 0 .. 4"), (135, "no character of a text"), (171, "no characters of a name")]
/-- a static of Throwable that holds a reference or null, in a cell of the old heap -/
def am_ZZ (B0 : Nat) (H00 : Heap) (n d : String) (U : State) : Prop := ∃ (c : ClassId) (k : Class) (i : Nat) (f : Field) (a : Nat) (cell : Cell) (v : Value), U.vm.findClass Bundle.tN = some c ∧ U.fieldFound? Bundle.tN n d = some (c, k, i, f) ∧ f.isStatic = true ∧ k.statics = some a ∧ H00[a]? = some cell ∧ cell.vm.isStatics = true ∧ cell.cls = c ∧ f.slot < cell.slots.size ∧ k.staticTypes[f.slot]? = some f.type ∧ cell.slots[f.slot]? = some v ∧ v.isRef = true ∧ a < B0
def am_Th (B0 : Nat) (H00 : Heap) (Tx : State → Prop) (U : State) : Prop := (∀ w ∈ am_decl, va_Nw w U) ∧ am_ZZ B0 H00 "UNASSIGNED_STACK" Bundle.steD U ∧ am_ZZ B0 H00 "SUPPRESSED_SENTINEL" Bundle.listD U ∧ (∀ q ∈ am_strs, ∃ a, vk_R "TokenMouth" q.1 q.2 a U) ∧ Tx U
theorem am_ZZ_moved {B0 : Nat} {H00 : Heap} {n d : String} {s U : State} (hvm : s.vm.Alike U.vm) (h : am_ZZ B0 H00 n d s) : am_ZZ B0 H00 n d U := by
  obtain ⟨c, k, i, f, a, cell, v, h1, h2, h3, h4, h5, h6, h7, h8, h9, h10⟩ := h
  obtain ⟨k', hi', he⟩ := State.fieldFound?_setVm hvm h2
  exact ⟨c, k', i, f, a, cell, v, by rw [hvm.findClass]; exact h1, hi', h3, by rw [he]; exact h4, h5, h6, h7, h8, by rw [he]; exact h9, h10⟩
theorem am_Th_moved {B0 : Nat} {H00 : Heap} {Tx : State → Prop} (hTx : ∀ (s U : State), s.WarmedH U.vm → Tx s → Tx U) (s U : State) (hW : s.WarmedH U.vm) (h : am_Th B0 H00 Tx s) : am_Th B0 H00 Tx U := by
  obtain ⟨h1, h2, h3, h4, h5⟩ := h
  refine ⟨fun w hw => ?_, am_ZZ_moved hW.alike h2, am_ZZ_moved hW.alike h3, fun q hq => ?_, hTx s U hW h5⟩
  · have h9 := h1 w hw
    unfold am_decl at hw
    rcases List.mem_cons.mp hw with rfl | hw
    · exact va_Nw.warmD hW h9
    · rcases List.mem_cons.mp hw with rfl | hw
      · exact va_Nw.warmD hW h9
      · rcases List.mem_cons.mp hw with rfl | hw
        · exact va_Nw.warmD hW h9
        · cases hw
  · obtain ⟨a, ha⟩ := h4 q hq
    exact ⟨a, vk_R.warm hW ha⟩
/-- at a state whose heap is the old one below B0 -/
theorem am_ZZ_at {B0 : Nat} {H00 : Heap} {n d : String} {s : State} {args : Array Value} (hH : ∀ q, q < B0 → s.heap[q]? = H00[q]?) (h : am_ZZ B0 H00 n d s) : (Cond.laysStatic Bundle.tN n d).before args s = true ∧ (Cond.isRef (.static Bundle.tN n d)).before args s = true ∧ ∀ c k i f a, s.fieldFound? Bundle.tN n d = some (c, k, i, f) → k.statics = some a → a < B0 := by
  obtain ⟨c, k, i, f, a, cell, v, h1, h2, h3, h4, h5, h6, h7, h8, h9, h10, h11, h12⟩ := h
  have hc : s.heap[a]? = some cell := by rw [hH a h12]; exact h5
  refine ⟨Cond.laysStatic_of h1 h2 h3 h4 hc h6 h7 h8 h9, ?_, ?_⟩
  · have he : (Term.static Bundle.tN n d).eval args s none [] s = some v := by
      simp [Term.eval, State.fieldNamed?, h2, h3, h4, hc, h6, h10]
    cases v <;> simp [Value.isRef] at h11 <;> simp [Cond.before, Cond.holds, Cond.value, he]
  · intro c' k' i' f' a' g1 g2
    have e := h2.symm.trans g1
    simp only [Option.some.injEq, Prod.mk.injEq] at e
    obtain ⟨-, rfl, -, -⟩ := e
    cases h4.symm.trans g2
    exact h12
theorem th_w1 : ∀ a ∈ Bundle.throwableAtoms, a = .laysStatic Bundle.tN "UNASSIGNED_STACK" Bundle.steD ∨ a = .laysStatic Bundle.tN "SUPPRESSED_SENTINEL" Bundle.listD ∨ (a ∈ tables_1 ∧ goodWord a = true) := by decide +kernel
theorem th_w2 : ∀ a ∈ Bundle.throwableSAtoms, a ∈ tables_1 ∧ goodWord a = true := by decide +kernel
theorem th_w3 : ∀ a ∈ Bundle.chainSAtoms "java/lang/RuntimeException" ["java/lang/Exception"], a ∈ am_decl ∨ (a ∈ tables_1 ∧ goodWord a = true) := by decide +kernel
theorem am_inT {w : Cond} (h : w ∈ tables_1 ∧ goodWord w = true) : w ∈ am_ws := List.mem_filter.mpr ⟨List.mem_append_right _ h.1, h.2⟩
