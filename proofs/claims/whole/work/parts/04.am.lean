/-! THE ABSTRACT MACHINE: memory at logical addresses (a cell k lies at B0 + k), frames with a list of locals; an instruction is a function. -/
abbrev am_Sh : Type := Nat ⊕ (Nat × Nat)
/-- ints, longs, references by cell and slot; the kinds of the cells; the next free one, where it is known; how many cells and slots were made -/
abbrev am_M : Type := (Nat → Nat → Int32) × (Nat → Nat → Int64) × (Nat → Nat → Option Nat) × (Nat → Option am_Sh) × Option Nat × Nat × Nat
abbrev am_I (M : am_M) : Nat → Nat → Int32 := M.1
abbrev am_L (M : am_M) : Nat → Nat → Int64 := M.2.1
abbrev am_R (M : am_M) : Nat → Nat → Option Nat := M.2.2.1
abbrev am_sh (M : am_M) : Nat → Option am_Sh := M.2.2.2.1
abbrev am_nx (M : am_M) : Option Nat := M.2.2.2.2.1
abbrev am_cn (M : am_M) : Nat := M.2.2.2.2.2.1
abbrev am_sn (M : am_M) : Nat := M.2.2.2.2.2.2
def am_u2 {α : Type} (f : Nat → Nat → α) (k j : Nat) (v : α) : Nat → Nat → α := fun a b => if a = k then (if b = j then v else f a b) else f a b
def am_u1 {α : Type} (f : Nat → α) (k : Nat) (v : α) : Nat → α := fun a => if a = k then v else f a
def am_setI (M : am_M) (k j : Nat) (v : Int32) : am_M := (am_u2 M.1 k j v, M.2)
def am_setL (M : am_M) (k j : Nat) (v : Int64) : am_M := (M.1, am_u2 M.2.1 k j v, M.2.2)
def am_setR (M : am_M) (k j : Nat) (v : Option Nat) : am_M := (M.1, M.2.1, am_u2 M.2.2.1 k j v, M.2.2.2)
/-- a new cell at n, all its slots at their defaults -/
def am_mk (M : am_M) (n : Nat) (sp : am_Sh) (w : Nat) : am_M := (am_u1 M.1 n (fun _ => 0), am_u1 M.2.1 n (fun _ => 0), am_u1 M.2.2.1 n (fun _ => none), am_u1 M.2.2.2.1 n (some sp), some (n + 1), am_cn M + 1, am_sn M + w)
/-- a pc, locals, a stack, a memory -/
abbrev am_F : Type := Nat × List (Option Value) × List Value × am_M
/-- the end of a method: returned, or a throw of that kind -/
abbrev am_O : Type := Option Value ⊕ Nat
/-- next; next under a condition; a branch; a switch; a call; the end under a condition -/
abbrev am_Res : Type := am_F ⊕ ((Prop × am_F) ⊕ ((Prop × Nat × am_F) ⊕ ((List (Int32 × Nat) × Int32 × am_F) ⊕ ((Nat × List Value × (Nat → Option (Nat × Nat)) × am_F) ⊕ (Prop × am_O × am_M)))))
abbrev am_A : Type := List (Option Value) → List Value → am_M → Option am_Res
def am_swp (K : Nat → Prop) (d : Nat) (x : Int32) : List (Int32 × Nat) → Prop
  | [] => K d
  | (v, t) :: r => (x = v → K t) ∧ (¬ x = v → am_swp K d x r)
/-- a value of one slot is stored: what was a long behind whose second half it comes is gone -/
def am_st1 (ls : List (Option Value)) (i : Nat) (v : Value) : List (Option Value) := match i with
  | 0 => ls.set 0 (some v)
  | j + 1 => match ls[j]? with
    | some (some (.long _)) => (ls.set j none).set (j + 1) (some v)
    | some (some (.double _)) => (ls.set j none).set (j + 1) (some v)
    | _ => ls.set (j + 1) (some v)
/-- a place that holds nothing known any more -/
def am_kl (ls : List (Option Value)) (j : Nat) : List (Option Value) := (am_st1 ls j .null).set j none
def am_wp (callee : Nat → List Value → am_M → am_O → am_M → Prop) (tb : Nat → Option am_A) : Nat → am_F → (am_O → am_M → Prop) → Prop
  | 0, _, _ => False
  | k + 1, F, Q => match tb F.1 with
    | none => False
    | some a => match a F.2.1 F.2.2.1 F.2.2.2 with
      | none => False
      | some (.inl G) => am_wp callee tb k G Q
      | some (.inr (.inl (c, G))) => c ∧ am_wp callee tb k G Q
      | some (.inr (.inr (.inl (c, t, G)))) => (c → am_wp callee tb k (t, G.2) Q) ∧ (¬ c → am_wp callee tb k G Q)
      | some (.inr (.inr (.inr (.inl (sw, x, G))))) => am_swp (fun t => am_wp callee tb k (t, G.2) Q) G.1 x sw
      | some (.inr (.inr (.inr (.inr (.inl (y, as, hd, G)))))) => ∃ (o : am_O) (M' : am_M), callee y as G.2.2.2 o M' ∧ (match o with
          | .inl v => am_wp callee tb k (G.1, G.2.1, v.toList ++ G.2.2.1, M') Q
          | .inr x => match hd x with
            | some h => am_wp callee tb k (h.1, am_kl G.2.1 h.2, [], M') Q
            | none => Q (.inr x) M')
      | some (.inr (.inr (.inr (.inr (.inr (c, o, M')))))) => c ∧ Q o M'
theorem am_swp_mono {K K' : Nat → Prop} {d : Nat} {x : Int32} (h : ∀ t, K t → K' t) : ∀ sw, am_swp K d x sw → am_swp K' d x sw
  | [], hk => h d hk
  | (v, t) :: r, hk => ⟨fun e => h t (hk.1 e), fun e => am_swp_mono h r (hk.2 e)⟩
/-- a switch goes somewhere -/
theorem am_swp_one {K : Nat → Prop} {d : Nat} {x : Int32} : ∀ sw, am_swp K d x sw → ∃ t, K t ∧ ∀ K' : Nat → Prop, K' t → am_swp K' d x sw
  | [], hk => ⟨d, hk, fun _ h => h⟩
  | (v, t) :: r, hk => by
    by_cases e : x = v
    · exact ⟨t, hk.1 e, fun K' h => ⟨fun _ => h, fun q => absurd e q⟩⟩
    · obtain ⟨t', h1, h2⟩ := am_swp_one r (hk.2 e)
      exact ⟨t', h1, fun K' h => ⟨fun q => absurd q e, fun _ => h2 K' h⟩⟩
set_option maxHeartbeats 1000000 in
/-- one end is reached -/
theorem am_wp_one {callee : Nat → List Value → am_M → am_O → am_M → Prop} {tb : Nat → Option am_A} : ∀ (k : Nat) (F : am_F) (Q : am_O → am_M → Prop), am_wp callee tb k F Q → ∃ (o : am_O) (M' : am_M), am_wp callee tb k F (fun o1 M1 => o1 = o ∧ M1 = M') ∧ Q o M'
  | 0, _, _, h => False.elim h
  | k + 1, F, Q, h => by
    unfold am_wp at h ⊢
    split at h
    · exact False.elim h
    next a ha =>
    try rw [ha]
    try dsimp only
    split at h
    · exact False.elim h
    · next G hG =>
      try rw [hG]
      exact am_wp_one k G Q h
    · next c G hG =>
      try rw [hG]
      obtain ⟨o, M', h1, h2⟩ := am_wp_one k G Q h.2
      exact ⟨o, M', ⟨h.1, h1⟩, h2⟩
    · next c t G hG =>
      try rw [hG]
      by_cases e : c
      · obtain ⟨o, M', h1, h2⟩ := am_wp_one k _ Q (h.1 e)
        exact ⟨o, M', ⟨fun _ => h1, fun q => absurd e q⟩, h2⟩
      · obtain ⟨o, M', h1, h2⟩ := am_wp_one k _ Q (h.2 e)
        exact ⟨o, M', ⟨fun q => absurd q e, fun _ => h1⟩, h2⟩
    · next sw x G hG =>
      try rw [hG]
      obtain ⟨t, h1, h2⟩ := am_swp_one sw h
      obtain ⟨o, M', h3, h4⟩ := am_wp_one k _ Q h1
      exact ⟨o, M', h2 _ h3, h4⟩
    · next y as hd G hG =>
      try rw [hG]
      obtain ⟨o1, M1, hc, hk⟩ := h
      cases o1 with
      | inl v =>
        obtain ⟨o, M', h3, h4⟩ := am_wp_one k _ Q hk
        exact ⟨o, M', ⟨.inl v, M1, hc, h3⟩, h4⟩
      | inr x =>
        dsimp only at hk
        cases hh : hd x with
        | none =>
          rw [hh] at hk
          exact ⟨.inr x, M1, ⟨.inr x, M1, hc, by dsimp only; rw [hh]; exact ⟨rfl, rfl⟩⟩, hk⟩
        | some h' =>
          rw [hh] at hk
          obtain ⟨o, M', h3, h4⟩ := am_wp_one k _ Q hk
          exact ⟨o, M', ⟨.inr x, M1, hc, by dsimp only; rw [hh]; exact h3⟩, h4⟩
    · next c o M' hG =>
      try rw [hG]
      exact ⟨o, M', ⟨h.1, rfl, rfl⟩, h.2⟩
/-- what a method's arguments are among its locals -/
def am_args : List Value → List (Option Value)
  | [] => []
  | .long x :: r => some (.long x) :: none :: am_args r
  | .double x :: r => some (.double x) :: none :: am_args r
  | v :: r => some v :: am_args r
def am_ent (n : Nat) (as : List Value) : List (Option Value) := am_args as ++ List.replicate (n - (am_args as).length) none
/-- a run of method y, d calls deep at most: its tables tb, its number of locals ml -/
def am_ev (tb : Nat → Nat → Option am_A) (ml : Nat → Nat) : Nat → Nat → List Value → am_M → am_O → am_M → Prop
  | 0, _, _, _, _, _ => False
  | d + 1, y, as, M, o, M' => (am_args as).length ≤ ml y ∧ ∃ k, am_wp (am_ev tb ml d) (tb y) k (0, am_ent (ml y) as, [], M) (fun o1 M1 => o1 = o ∧ M1 = M')
def am_Ev (tb : Nat → Nat → Option am_A) (ml : Nat → Nat) (d y : Nat) (as : List Value) (M : am_M) (Q : am_O → am_M → Prop) : Prop := ∃ o M', am_ev tb ml d y as M o M' ∧ Q o M'
theorem am_Ev_of {tb : Nat → Nat → Option am_A} {ml : Nat → Nat} {d y : Nat} {as : List Value} {M : am_M} {Q : am_O → am_M → Prop} (hl : (am_args as).length ≤ ml y) (k : Nat) (h : am_wp (am_ev tb ml d) (tb y) k (0, am_ent (ml y) as, [], M) Q) : am_Ev tb ml (d + 1) y as M Q := by
  obtain ⟨o, M', h1, h2⟩ := am_wp_one k _ Q h
  exact ⟨o, M', ⟨hl, k, h1⟩, h2⟩
