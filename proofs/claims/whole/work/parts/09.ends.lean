/-! the ends of a method, the switch -/
section ACT3
variable {nm : Nat → MethodName} {D : va_G} {cA : Nat → ClassId} {B0 : Nat} {sb : Nat → Option Nat} {H00 : Heap} {Th : State → Prop} {cc : ByteArray} {own mn : String} {eh : List (Nat × Nat × Nat × Nat)} {rt : Option FieldType} {pc : Nat}
def ac_ret : am_A := fun ls st M => match st with
  | [] => some (.inr (.inr (.inr (.inr (.inr (True, .inl none, M))))))
  | _ => none
def ac_iret : am_A := fun ls st M => match st with
  | [.int x] => some (.inr (.inr (.inr (.inr (.inr (True, .inl (some (.int x)), M))))))
  | _ => none
def ac_zret : am_A := fun ls st M => match st with
  | [.int x] => some (.inr (.inr (.inr (.inr (.inr (x = 0 ∨ x = 1, .inl (some (.int x)), M))))))
  | _ => none
def ac_lret : am_A := fun ls st M => match st with
  | [.long x] => some (.inr (.inr (.inr (.inr (.inr (True, .inl (some (.long x)), M))))))
  | _ => none
def ac_aret : am_A := fun ls st M => match st with
  | [.ref x] => some (.inr (.inr (.inr (.inr (.inr (True, .inl (some (.ref x)), M))))))
  | [.null] => some (.inr (.inr (.inr (.inr (.inr (True, .inl (some .null), M))))))
  | _ => none
theorem am_end {p : Program} {l : Launch} {e : Env} {R : Room} {s : State} {m : MethodId} {args : Array Value} {below : List Frame} {meth : Method} {c : Code} {H : Heap} {locs : List Loc} {cells slots : Nat} {M : am_M} {g : JFrame} {v : Option Value}
    (hR : am_Rel D cA B0 sb H00 s M H) (hS : va_S (am_A0 B0) s.heap H locs)
    (k : (∀ t : State, t.heap = H → s.WarmedH t.vm → am_Qc D cA B0 sb H00 (.inl v) M args s (.returned (v.map (am_val B0 sb))) t) → (∀ q ∈ locs, am_A0 B0 q.base) → W p l e R s m args below meth c H locs cells slots (MQ below (am_Qc D cA B0 sb H00 (.inl v) M) args s cells slots (am_A0 B0)) g) :
    W p l e R s m args below meth c H locs cells slots (am_MQ below (am_Qc D cA B0 sb H00 (.inl v) M) args s (cells + (am_cn M - am_cn M)) (slots + (am_sn M - am_sn M)) (am_A0 B0)) g := by
  rw [Nat.sub_self, Nat.sub_self, Nat.add_zero, Nat.add_zero]
  refine am_W_mono (fun t h => am_MQ_of h) (k (fun t ht hW => ⟨rfl, ?_, hS.F ht⟩) hS.2.2)
  rw [ht]
  exact am_Rel_moved hW.alike hR
theorem ok_ret (hd : decode cc pc = .ok (.return_, 1)) (hr : rt = none) : am_Ok nm D cA B0 sb H00 Th cc own mn eh rt pc ac_ret := by
  intro ls st M res h
  unfold ac_ret at h
  split at h
  next =>
    cases h
    refine ⟨⟨Nat.le_refl _, Nat.le_refl _⟩, ?_⟩
    intro p l e R s m args below meth c C hml H locs cells slots real hl hR hS hc hs _ _ _
    exact am_end hR hS (fun hq hf => W.vret C.1 C.2.1 (C.2.2.1.trans hr) hq hf hd (hlocks := C.2.2.2.1))
  next => cases h
theorem ok_iret (hd : decode cc pc = .ok (.ireturn, 1)) (hr : rt = some .int) : am_Ok nm D cA B0 sb H00 Th cc own mn eh rt pc ac_iret := by
  intro ls st M res h
  unfold ac_iret at h
  split at h
  next x =>
    cases h
    refine ⟨⟨Nat.le_refl _, Nat.le_refl _⟩, ?_⟩
    intro p l e R s m args below meth c C hml H locs cells slots real hl hR hS hc hs _ _ _
    exact am_end hR hS (fun hq hf => W.iret C.1 C.2.1 (C.2.2.1.trans hr) hq hf hd (hlocks := C.2.2.2.1))
  next => cases h
theorem ok_zret (hd : decode cc pc = .ok (.ireturn, 1)) (hr : rt = some .boolean) : am_Ok nm D cA B0 sb H00 Th cc own mn eh rt pc ac_zret := by
  intro ls st M res h
  unfold ac_zret at h
  split at h
  next x =>
    cases h
    refine ⟨⟨Nat.le_refl _, Nat.le_refl _⟩, ?_⟩
    intro p l e R s m args below meth c C hml H locs cells slots real hl hR hS hc hs hx _ _
    exact am_end hR hS (fun hq hf => W.zret C.1 C.2.1 (C.2.2.1.trans hr) (by rcases hx with rfl | rfl <;> decide) hq hf hd (hlocks := C.2.2.2.1))
  next => cases h
theorem ok_lret (hd : decode cc pc = .ok (.lreturn, 1)) (hr : rt = some .long) : am_Ok nm D cA B0 sb H00 Th cc own mn eh rt pc ac_lret := by
  intro ls st M res h
  unfold ac_lret at h
  split at h
  next x =>
    cases h
    refine ⟨⟨Nat.le_refl _, Nat.le_refl _⟩, ?_⟩
    intro p l e R s m args below meth c C hml H locs cells slots real hl hR hS hc hs _ _ _
    exact am_end hR hS (fun hq hf => W.lret C.1 C.2.1 (C.2.2.1.trans hr) hq hf hd (hlocks := C.2.2.2.1))
  next => cases h
theorem ok_aret {n : String} (hd : decode cc pc = .ok (.areturn, 1)) (hr : rt = some (.object n)) : am_Ok nm D cA B0 sb H00 Th cc own mn eh rt pc ac_aret := by
  intro ls st M res h
  unfold ac_aret at h
  split at h
  next x =>
    cases h
    refine ⟨⟨Nat.le_refl _, Nat.le_refl _⟩, ?_⟩
    intro p l e R s m args below meth c C hml H locs cells slots real hl hR hS hc hs _ _ _
    exact am_end hR hS (fun hq hf => W.aret C.1 C.2.1 (C.2.2.1.trans hr) (Or.inl ⟨n, rfl⟩) (Or.inr ⟨_, rfl⟩) hq hf hd (hlocks := C.2.2.2.1))
  next =>
    cases h
    refine ⟨⟨Nat.le_refl _, Nat.le_refl _⟩, ?_⟩
    intro p l e R s m args below meth c C hml H locs cells slots real hl hR hS hc hs _ _ _
    exact am_end hR hS (fun hq hf => W.aret C.1 C.2.1 (C.2.2.1.trans hr) (Or.inl ⟨n, rfl⟩) (Or.inl rfl) hq hf hd (hlocks := C.2.2.2.1))
  next => cases h
/-- a switch over lo, lo + 1, ..: the targets -/
def ac_sw (sw : List (Int32 × Nat)) (d : Nat) : am_A := fun ls st M => match st with
  | .int x :: r => some (.inr (.inr (.inr (.inl (sw, x, (d, ls, r, M))))))
  | _ => none
/-- the list of a table's cases: value lo + i goes to pc + offs i -/
def am_swl (pc : Nat) (lo : Int) : Nat → List Int → List (Int32 × Nat) → Prop
  | _, [], sw => sw = []
  | i, o :: r, (v, t) :: sw => v.toInt = lo + i ∧ (pc : Int) + o = (t : Int) ∧ am_swl pc lo (i + 1) r sw
  | _, _ :: _, [] => False
theorem am_sw_walk {K : Nat → Prop} {K' : Prop} {pc d : Nat} {lo : Int} {x : Int32} : ∀ (offs : List Int) (i : Nat) (sw : List (Int32 × Nat)), am_swl pc lo i offs sw → am_swp K d x sw → (∀ (j : Nat) (o : Int) (t : Nat), offs[j]? = some o → x.toInt = lo + (i + j : Nat) → (pc : Int) + o = (t : Int) → K t → K') → ((∀ j : Nat, j < offs.length → ¬ x.toInt = lo + (i + j : Nat)) → K d → K') → K'
  | [], i, sw, h, hk, h1, h2 => by
    unfold am_swl at h
    subst h
    exact h2 (fun j hj => absurd hj (Nat.not_lt_zero _)) hk
  | o :: r, i, [], h, hk, h1, h2 => False.elim h
  | o :: r, i, (v, t) :: sw, h, hk, h1, h2 => by
    obtain ⟨e1, e2, e3⟩ := h
    by_cases e : x = v
    · exact h1 0 o t rfl (by rw [e]; exact e1) e2 (hk.1 e)
    · have hne : ¬ x.toInt = lo + (i : Nat) := fun q => e (Int32.toInt_inj.mp (q.trans e1.symm))
      refine am_sw_walk r (i + 1) sw e3 (hk.2 e) (fun j o' t' hj hx => h1 (j + 1) o' t' hj (by rw [hx]; congr 1; omega)) (fun hj => h2 (fun j hl => ?_))
      cases j with
      | zero => exact hne
      | succ j => 
        have := hj j (by simpa using hl)
        intro q
        exact this (by rw [q]; congr 1; omega)
theorem ok_sw {dflt lo hi : Int} {offs : Array Int} {len d : Nat} {sw : List (Int32 × Nat)} (hd : decode cc pc = .ok (.tableswitch dflt lo hi offs, len)) (hsw : am_swl pc lo 0 offs.toList sw) (hn : hi = lo + (offs.size : Int) - 1) (ht : (pc : Int) + dflt = (d : Int)) : am_Ok nm D cA B0 sb H00 Th cc own mn eh rt pc (ac_sw sw d) := by
  intro ls st M res h
  unfold ac_sw at h
  split at h
  next x r =>
    cases h
    refine ⟨⟨rfl, rfl⟩, ?_⟩
    intro p l e R s m args below meth c C hml H locs cells slots real hl hR hS hc hs Q k
    refine am_sw_walk offs.toList 0 sw hsw k (fun j o t hj hx hto hw => ?_) (fun hno hw => ?_)
    · have hj' : offs[j]? = some o := by rw [← Array.getElem?_toList]; exact hj
      have hlt : j < offs.size := (Array.getElem?_eq_some_iff.mp hj').1
      have e1 : x.toInt - lo = (j : Int) := by rw [hx]; omega
      exact lv_tableIn C.1 C.2.1 hd (by rw [hx]; omega) (by rw [hx, hn]; omega) (off := o) (by rw [e1]; exact hj') hto hw
    · refine lv_tableOut C.1 C.2.1 hd ?_ ht hw
      rcases Int.lt_or_le x.toInt lo with q | q
      · exact Or.inl q
      · refine Or.inr ?_
        rcases Int.lt_or_le hi x.toInt with q2 | q2
        · exact q2
        · exact absurd (by omega) (hno (x.toInt - lo).toNat (by rw [Array.length_toList]; omega))
  next => cases h
end ACT3
