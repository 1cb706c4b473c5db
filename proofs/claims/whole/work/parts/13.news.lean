/-! new cells; calls of Object's own <init> and of max -/
def am_plain : FieldType → Bool
  | .int => true
  | .long => true
  | .object _ => true
  | .array _ => true
  | _ => false
theorem ck_plain : ∀ i, i < 7 → ∀ k, k < ck_N i → am_plain (ck_y i k) = true := by decide +kernel
section NEW
variable {nm : Nat → MethodName} {D : va_G} {cA : Nat → ClassId} {B0 : Nat} {sb : Nat → Option Nat} {H00 : Heap} {Th : State → Prop} {cc : ByteArray} {own mn : String} {eh : List (Nat × Nat × Nat × Nat)} {rt : Option FieldType} {pc : Nat}
theorem am_Rel_new {s : State} {M : am_M} {H H1 : Heap} {q w : Nat} {sp : am_Sh} (hR : am_Rel D cA B0 sb H00 s M H) (hq : am_nx M = some q) (hz : H1.size = B0 + q + 1) (ho : ∀ a, a < B0 + q → H1[a]? = H[a]?) (hn : am_at D cA B0 sb s (am_mk M q sp w) H1 q sp) : am_Rel D cA B0 sb H00 s (am_mk M q sp w) H1 := by
  have hsz : H.size = B0 + q := hR.2.1 q hq
  refine ⟨fun k sk hk => ?_, fun n hn' => ?_, fun a ha => (ho a (by omega)).trans (hR.2.2 a ha)⟩
  · by_cases e : k = q
    · subst e
      have : am_sh (am_mk M k sp w) k = some sp := am_u1_eq
      cases this.symm.trans hk
      exact hn
    · have hk' : am_sh M k = some sk := by
        rw [← hk]
        exact (am_u1_ne e).symm
      have hI : (am_mk M q sp w).1 k = M.1 k := am_u1_ne e
      have hL : (am_mk M q sp w).2.1 k = M.2.1 k := am_u1_ne e
      have hRR : (am_mk M q sp w).2.2.1 k = M.2.2.1 k := am_u1_ne e
      have h0 := hR.1 k sk hk'
      match sk, h0 with
      | .inl ci, h0 =>
        have hlt : B0 + k < H.size := h0.2.lt
        exact am_at_kept hI hL hRR (ho _ (by omega)) (fun b hs => ho _ (by omega)) h0
      | .inr (kd, n), h0 =>
        by_cases e5 : kd = 5
        · subst e5
          obtain ⟨b, h1, h2, h3⟩ := am_at_scr h0
          unfold am_at
          dsimp only
          rw [if_pos rfl, hI]
          exact ⟨b, h1, h2.kept (ho _ (by omega)), h3⟩
        · have hlt : B0 + k < H.size := (am_at_arr e5 h0).2.lt
          exact am_at_kept hI hL hRR (ho _ (by omega)) (fun b hs => ho _ (by omega)) h0
  · have : n = q + 1 := (Option.some.inj hn').symm
    omega
theorem am_S_new {H0 H H1 : Heap} {locs : List Loc} {q : Nat} (h : va_S (am_A0 B0) H0 H locs) (hsz : H.size = B0 + q) (hz : H1.size = B0 + q + 1) (ho : ∀ a, a < B0 + q → H1[a]? = H[a]?) : va_S (am_A0 B0) H0 H1 locs :=
  ⟨by have := h.1; omega, fun a h1 h2 => (ho a (by have := h.1; omega)).trans (h.2.1 a h1 h2), h.2.2⟩
theorem am_cnt (M : am_M) (q : Nat) (sp : am_Sh) (w : Nat) : am_cn (am_mk M q sp w) - am_cn M = 1 ∧ am_sn (am_mk M q sp w) - am_sn M = w := by
  constructor
  · show am_cn M + 1 - am_cn M = 1; omega
  · show am_sn M + w - am_sn M = w; omega
theorem am_To_new {p : Program} {l : Launch} {e : Env} {R : Room} {s : State} {m : MethodId} {args : Array Value} {below : List Frame} {meth : Method} {c : Code} {cells slots : Nat} {Q : State → Prop} {M : am_M} {n q w : Nat} {ls : List (Option Value)} {st : List Value} {sp : am_Sh}
    (h : am_To D cA B0 sb H00 p l e R s m args below meth c cells slots Q M (n, ls, st, am_mk M q sp w)) : cells + 1 ≤ R.cells ∧ slots + w ≤ R.slots ∧ ∀ (H1 : Heap) (locs1 : List Loc) (real1 : Array Slot), am_Loc B0 sb real1 ls → am_Rel D cA B0 sb H00 s (am_mk M q sp w) H1 → va_S (am_A0 B0) s.heap H1 locs1 → am_Wk B0 sb p l e R s m args below meth c H1 locs1 (cells + 1) (slots + w) Q n real1 st := by
  obtain ⟨h1, h2, h3⟩ := h
  dsimp only at h1 h2 h3
  obtain ⟨e1, e2⟩ := am_cnt M q sp w
  rw [e1] at h1
  rw [e2] at h2
  rw [e1, e2] at h3
  exact ⟨h1, h2, h3⟩
def ac_new (ci n : Nat) : am_A := fun ls st M => match am_nx M with
  | some q => some (.inl (n, ls, .ref q :: st, am_mk M q (.inl ci) (ck_N ci)))
  | none => none
theorem am_fs_new (M : am_M) (q ci : Nat) (hci : ci < 7) (w : Nat) : ∀ j, j < ck_N ci → defaultValue (ck_y ci j) = vp_V (am_fs B0 (am_mk M q (.inl ci) w) q ci) j := by
  intro j hj
  unfold vp_V
  rw [List.getD_eq_getElem?_getD, am_fs_get _ _ _ _ _ hj]
  have hp := ck_plain ci hci j hj
  have hI : (am_mk M q (.inl ci) w).1 q = fun _ => 0 := am_u1_eq
  have hL : (am_mk M q (.inl ci) w).2.1 q = fun _ => 0 := am_u1_eq
  have hRR : (am_mk M q (.inl ci) w).2.2.1 q = fun _ => none := am_u1_eq
  cases hty : ck_y ci j with
  | int => show _ = Value.int _; rw [hI]; rfl
  | long => show _ = Value.long _; rw [hL]; rfl
  | object x => show _ = am_rf B0 _; rw [hRR]; rfl
  | array x => show _ = am_rf B0 _; rw [hRR]; rfl
  | _ => rw [hty] at hp; simp [am_plain] at hp
theorem ok_new {ci idx : Nat} (hci : ci < 7) (hd : decode cc pc = .ok (.new idx, 3)) (h1 : Cond.classLink own idx (ck_R ci) ∈ am_ws) (h2 : Cond.instantiable (ck_R ci) (ck_N ci) ∈ am_ws) (h3 : Cond.initialized (ck_R ci) ∈ am_ws) : am_Ok nm D cA B0 sb H00 Th cc own mn eh rt pc (ac_new ci (pc + 3)) := by
  intro ls st M res h
  unfold ac_new at h
  split at h
  next q hq =>
    cases h
    refine ⟨⟨⟨by show am_cn M ≤ am_cn M + 1; omega, by show am_sn M ≤ am_sn M + ck_N ci; omega⟩, rfl⟩, ?_⟩
    intro p l e R s m args below meth c C hml H locs cells slots real hl hR hS hc hs Q hT
    obtain ⟨hx, hb, -, -, hown, hts, hK, -⟩ := C
    obtain ⟨hc1, hs1, hk⟩ := am_To_new hT
    have hsz : H.size = B0 + q := hR.2.1 q hq
    have hKn := hK.1.1 ci _ (ck_at ci hci)
    refine W.newcK hx hb hown (hts _ h1) (hts _ h2) (hts _ h3) rfl hd hc1 hs1 hKn.2.1 hsz fun H1 kC hkC e1 z1 o1 => ?_
    refine hk H1 locs real hl (am_Rel_new hR hq z1 o1 ⟨hci, _, ck_at ci hci, (u_born (ck_y ci) hts (am_lays ci hci) hKn hkC e1 (ck_ty ci hci)).to (am_fs_new M q ci hci _)⟩) (am_S_new hS hsz z1 o1)
  next => cases h
/-- arrays of numbers -/
def ac_newa (kd bytes n : Nat) : am_A := fun ls st M => match st with
  | .int x :: r => match am_nx M with
    | some q => some (.inr (.inl (¬ x < 0 ∧ x.toNatClampNeg * bytes ≤ 536870912, (n, ls, .ref q :: r, am_mk M q (.inr (kd, x.toNatClampNeg)) x.toNatClampNeg))))
    | none => none
  | _ => none
theorem am_at_new {s : State} {M : am_M} {H1 : Heap} {q kd N : Nat} (h5 : kd < 5) (e : H1[B0 + q]? = some (arrV (cA kd) N (fun _ => defaultValue (am_ety kd)))) : am_at D cA B0 sb s (am_mk M q (.inr (kd, N)) N) H1 q (.inr (kd, N)) := by
  unfold am_at
  dsimp only
  rw [if_neg (by omega)]
  refine ⟨h5, ?_⟩
  have hI : (am_mk M q (.inr (kd, N)) N).1 q = fun _ => 0 := am_u1_eq
  have hL : (am_mk M q (.inr (kd, N)) N).2.1 q = fun _ => 0 := am_u1_eq
  have hRR : (am_mk M q (.inr (kd, N)) N).2.2.1 q = fun _ => none := am_u1_eq
  show H1[B0 + q]? = some (vp_cell (cA kd) (am_av B0 (am_mk M q (.inr (kd, N)) N) q N kd))
  rw [e]
  match kd, h5 with
  | 0, _ => unfold am_av; rw [hI]; rfl
  | 1, _ => unfold am_av; rw [hL]; rfl
  | 2, _ => unfold am_av; rw [hI]; rfl
  | 3, _ => unfold am_av; rw [hRR]; rfl
  | 4, _ => unfold am_av; rw [hRR]; rfl
  | n + 5, h5 => exact absurd h5 (by omega)
theorem ok_newa {kd bytes : Nat} {at_ : ArrayType} (h3 : kd < 3) (hty : newarray.typeOf at_ = am_ety kd) (hby : componentBytes (am_ety kd) = bytes) (hd : decode cc pc = .ok (.newarray at_, 2)) (hw : Cond.arrayClass (am_ety kd) ∈ am_ws) : am_Ok nm D cA B0 sb H00 Th cc own mn eh rt pc (ac_newa kd bytes (pc + 2)) := by
  intro ls st M res h
  unfold ac_newa at h
  split at h
  next x r =>
    split at h
    next q hq =>
      cases h
      refine ⟨⟨⟨by show am_cn M ≤ am_cn M + 1; omega, by show am_sn M ≤ am_sn M + x.toNatClampNeg; omega⟩, rfl⟩, ?_⟩
      intro p l e R s m args below meth c C hml H locs cells slots real hl hR hS hc hs hcd Q hT
      obtain ⟨hx, hb, -, -, hown, hts, hK, -⟩ := C
      obtain ⟨hc1, hs1, hk⟩ := am_To_new hT
      have hsz : H.size = B0 + q := hR.2.1 q hq
      refine va_newaK hx hb (by rw [hty]; exact hts _ hw) rfl hd rfl hcd.1 rfl (by rw [hty, hby]; exact hcd.2) hc1 hs1 hsz fun H1 cB e1 z1 o1 hAr hNm => ?_
      have hcB : cB = cA kd := by
        have h9 := (hK.1.2 kd _ (am_tys_at cA kd (by omega))).2
        rw [hty] at hNm
        match kd, h3, h9, hNm with
        | 0, _, h9, hNm => exact Option.some.inj (hNm.symm.trans h9)
        | 1, _, h9, hNm => exact Option.some.inj (hNm.symm.trans h9)
        | 2, _, h9, hNm => exact Option.some.inj (hNm.symm.trans h9)
        | n + 3, h3, _, _ => exact absurd h3 (by omega)
      subst hcB
      rw [hty] at e1
      exact hk H1 locs real hl (am_Rel_new hR hq z1 o1 (am_at_new (by omega) e1)) (am_S_new hS hsz z1 o1)
    next => cases h
  next => cases h
/-- arrays of references -/
theorem ok_anew {kd ci idx : Nat} (hkd : kd = 3 ∨ kd = 4) (hty : am_ety kd = .object (ck_R ci)) (hd : decode cc pc = .ok (.anewarray idx, 3)) (h1 : Cond.classLink own idx (ck_R ci) ∈ am_ws) (hao : ∀ s, am_K D cA Th s → va_AO (ck_R ci) s) : am_Ok nm D cA B0 sb H00 Th cc own mn eh rt pc (ac_newa kd 4 (pc + 3)) := by
  intro ls st M res h
  unfold ac_newa at h
  split at h
  next x r =>
    split at h
    next q hq =>
      cases h
      refine ⟨⟨⟨by show am_cn M ≤ am_cn M + 1; omega, by show am_sn M ≤ am_sn M + x.toNatClampNeg; omega⟩, rfl⟩, ?_⟩
      intro p l e R s m args below meth c C hml H locs cells slots real hl hR hS hc hs hcd Q hT
      obtain ⟨hx, hb, -, -, hown, hts, hK, -⟩ := C
      obtain ⟨hc1, hs1, hk⟩ := am_To_new hT
      have hsz : H.size = B0 + q := hR.2.1 q hq
      have h5 : kd < 5 := by rcases hkd with rfl | rfl <;> decide
      refine W.anew hx hb hown (hts _ h1) (va_AO.use (hao s hK)) rfl hd rfl hcd.1 hcd.2 hc1 hs1 fun cB kA comp f1 f2 f3 f4 => ?_
      have hcB : cB = cA kd := by
        have h9 := (hK.1.2 kd _ (am_tys_at cA kd h5)).2
        rw [hty] at h9
        obtain ⟨_, _, _, _, _, h10⟩ := h9
        exact Option.some.inj (f1.symm.trans h10)
      subst hcB
      generalize hH1 : H.push ({ cls := cA kd, slots := Array.replicate x.toNatClampNeg .null, vm := .none } : Cell) = H1
      have z1 : H1.size = B0 + q + 1 := by rw [← hH1, Array.size_push, hsz]
      have e1 : H1[B0 + q]? = some (arrV (cA kd) x.toNatClampNeg (fun _ => defaultValue (am_ety kd))) := by
        rw [← hH1, ← hsz, Array.getElem?_push_size, ← arrV_new, hty]
        rfl
      have o1 : ∀ a : Nat, a < B0 + q → H1[a]? = H[a]? := fun a ha => by rw [← hH1, Array.getElem?_push, if_neg (by omega)]
      rw [hsz]
      exact hk H1 locs real hl (am_Rel_new hR hq z1 o1 (am_at_new h5 e1)) (am_S_new hS hsz z1 o1)
    next => cases h
  next => cases h
def ac_oinit (n : Nat) : am_A := fun ls st M => match st with
  | .ref k :: r => if (r.map fun v => v.category).sum ≤ 8 then some (.inl (n, ls, r, M)) else none
  | _ => none
theorem am_cats (r : List Value) : ((r.map (am_val B0 sb)).map fun v => v.category).sum = (r.map fun v => v.category).sum := by
  congr 1
  rw [List.map_map]
  apply List.map_congr_left
  intro v _
  exact am_val_cat B0 sb v
theorem ok_oinit {idx : Nat} (hd : decode cc pc = .ok (.invokespecial idx, 3)) (h1 : Cond.methodLink own idx Lib.objectInit ∈ am_ws) (h2 : Cond.instanceMethod Lib.objectInit ∈ am_ws) (h3 : Cond.code Lib.objectInit ⟨#[0xb1]⟩ 1 none ∈ am_ws) : am_Ok nm D cA B0 sb H00 Th cc own mn eh rt pc (ac_oinit (pc + 3)) := by
  refine ok_simple fun ls st M res h => ?_
  unfold ac_oinit at h
  split at h
  next k r =>
    split at h
    next hr =>
      cases h
      refine ⟨_, _, _, rfl, rfl, ?_⟩
      intro p l e R s m args below meth c H locs cells slots Q real C hml hl kk
      refine W.objInit C.1 C.2.1 C.2.2.2.2.1 (C.2.2.2.2.2.1 _ h1) (C.2.2.2.2.2.1 _ h2) (C.2.2.2.2.2.1 _ h3) rfl (by show real.size = _; rw [hl.1, hml]) rfl hd (by have := C.2.2.2.2.2.2.2.2.1; omega) ?_ (kk real hl)
      have h9 := C.2.2.2.2.2.2.2.2.2.1
      have h8 : ((r.map (am_val B0 sb)).map fun v => v.category).sum ≤ 8 := by rw [am_cats]; exact hr
      show 2 * 0 + _ + 12 ≤ _
      omega
    next => cases h
  next => cases h
def ac_max (n : Nat) : am_A := fun ls st M => match st with
  | .int y :: .int x :: r => if (r.map fun v => v.category).sum ≤ 8 then some (.inl (n, ls, .int (if x < y then y else x) :: r, M)) else none
  | _ => none
theorem ok_max {idx : Nat} (hd : decode cc pc = .ok (.invokestatic idx, 3)) (h1 : Cond.methodLink own idx Lib.Math.max.name ∈ am_ws) (h2 : Cond.static Lib.Math.max.name ∈ am_ws) (h3 : Cond.initialized "java/lang/Math" ∈ am_ws) (h4 : Cond.code Lib.Math.max.name Lib.Math.max.code 2 (some .int) ∈ am_ws) : am_Ok nm D cA B0 sb H00 Th cc own mn eh rt pc (ac_max (pc + 3)) := by
  intro ls st M res h
  unfold ac_max at h
  split at h
  next y x r =>
    split at h
    next hr =>
      cases h
      refine ⟨⟨⟨Nat.le_refl _, Nat.le_refl _⟩, rfl⟩, ?_⟩
      intro p l e R s m args below meth c C hml H locs cells slots real hl hR hS hc hs Q hT
      have hts := C.2.2.2.2.2.1
      have h9 := C.2.2.2.2.2.2.2.2.2.1
      have h8 : ((r.map (am_val B0 sb)).map fun v => v.category).sum ≤ 8 := by rw [am_cats]; exact hr
      exact va_mmax C.1 C.2.1 (hml.symm.trans hl.1.symm) C.2.2.2.2.1 (hts _ h1) (hts _ h2) (hts _ h3) (hts _ h4) (by have := C.2.2.2.2.2.2.2.2.1; omega) (by omega) hc hs hd (am_self hT hR hS real hl)
    next => cases h
  next => cases h
end NEW
