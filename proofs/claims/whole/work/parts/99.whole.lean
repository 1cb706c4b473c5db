/-! THE CLAIM OUT OF THE ABSTRACT RUN OF THE LAW -/
/-! THE CLAIM OUT OF ONE WALK OF THE LAW'S BODY. Your part is whole_start (and what it stands on); all else here is the same for every law, but numbers. -/
def R_law : String := "TokenMouthLaw"
def lw_P (b : Addr) (xs : List Int32) (args : Array Value) (s : State) : Prop := args = #[.ref b] ∧ s.IntsAt b xs ∧ xs.length ≤ 2560 ∧ (Jvm.Cond.and given_1 narrow_1).before args s = true
def lw_Q (_ : Array Value) (s : State) (o : Outcome) (t : State) : Prop := o = .returned (some (.int 1)) ∧ Framed s o t [] 601024 7293034
def lw_Z (below : List Frame) (a : Array Value) (s : State) : State → Prop := fun t => ∃ o, t.status = .running ∧ Ended t below o ∧ lw_Q a s o t
/-- what holds at the law's entry: the machine, the code, the tables' words (any of lw_tbl by 'hts w (by decide +kernel)'), the script of L ints xs at the cell b, what the Statement gives of the start (any of its parts by flat_of_before) -/
def lw_At (p : Program) (s : State) (m : MethodId) (meth : Method) (c : Code) (b L : Nat) (xs : Nat → Int32) : Prop :=
  p.tables.exec = Jvm.exec ∧ c.code = code ∧ meth.sig.returnType = ret ∧ c.maxLocals = 7 ∧ s.vm.findClass R_law = some m.cls ∧ (∀ w ∈ lw_tbl, w.before #[Value.ref b] s = true) ∧ va_X b L xs s s.heap ∧ b < s.heap.size ∧ meth.locks = false ∧ (Jvm.Cond.and given_1 narrow_1).before #[Value.ref b] s = true ∧ meth.name = "law" ∧ c.exceptionTable.toList.map (fun h => (h.startPc, h.endPc, h.handlerPc, h.catchType)) = []
section WSX
variable {args : Array Value} {s : State}
theorem ws_inst : ∀ i, i < 7 → Cond.instantiable (ck_R i) (ck_N i) ∈ tables_1 := by decide +kernel
theorem ws_cls (hts : ∀ w ∈ lw_tbl, w.before args s = true) : ∃ (dC : Nat → ClassId) (dI : Nat → Nat → Nat), ∀ (k : Nat) (q : vw_C), ck_cl[k]? = some q → u_Kn s q.1 q.2.1 q.2.2 (dC k) (dI k) := by
  have h : ∀ i : Nat, ∃ x : ClassId × (Nat → Nat), i < 7 → u_Kn s (ck_R i) (ck_T i) (ck_N i) x.1 x.2 := by
    intro i
    by_cases hi : i < 7
    · obtain ⟨c, f, h⟩ := u_known (C := ck_R i) (T := ck_T i) (N := ck_N i) (n := ck_N i) hts (fun w hw => List.mem_append_right _ (ck_ws i hi w hw)) (hts _ (List.mem_append_right _ (ws_inst i hi)))
      exact ⟨(c, f), fun _ => h⟩
    · exact ⟨(0, fun _ => 0), fun h => absurd h hi⟩
  obtain ⟨f, hf⟩ := Classical.axiomOfChoice h
  refine ⟨fun i => (f i).1, fun i => (f i).2, fun k q hq => ?_⟩
  have hk : k < 7 := (List.getElem?_eq_some_iff.mp hq).1
  rw [ck_at k hk] at hq
  cases hq
  exact hf k hk
theorem ws_ap {ty : FieldType} (h : (Cond.arrayClass ty).before args s = true) (hr : ∀ c, s.vm.findClass ("[" ++ ty.toString) = some c → va_RA s c ty) : ∃ c : ClassId, ArrOfT s c ty ∧ va_RA s c ty := by
  obtain ⟨c, k, comp, h1, h2, h3⟩ := Cond.arrayClass_spec h
  exact ⟨c, fun n z => ⟨fun k h => (by cases h), k, h2, comp, h3⟩, hr c h1⟩
theorem ws_ao {C : String} (h : (Cond.arrayOver (.object C)).before args s = true) : ∃ c : ClassId, ArrOfT s c (.object C) ∧ va_RA s c (.object C) := by
  obtain ⟨comp, c, k, h1, h2, h3, h4, h5⟩ := Cond.arrayOver_spec h
  exact ⟨c, fun n z => ⟨fun k h => (by cases h), k, h3, comp, h4⟩, ⟨k, comp, h3, h4, h1, h5⟩⟩
theorem ws_arr (h0 : (Cond.arrayClass .int).before args s = true) (h1 : (Cond.arrayClass .long).before args s = true) (h2 : (Cond.arrayClass .boolean).before args s = true) (h3 : (Cond.arrayOver (.object ck_R4)).before args s = true) (h4 : (Cond.arrayOver (.object ck_R1)).before args s = true) : ∃ cA : Nat → ClassId, ∀ (k : Nat) (q : ClassId × FieldType), (am_tys cA)[k]? = some q → ArrOfT s q.1 q.2 ∧ va_RA s q.1 q.2 := by
  obtain ⟨c0, a0⟩ := ws_ap h0 (fun c h => h)
  obtain ⟨c1, a1⟩ := ws_ap h1 (fun c h => h)
  obtain ⟨c2, a2⟩ := ws_ap h2 (fun c h => h)
  obtain ⟨c3, a3⟩ := ws_ao h3
  obtain ⟨c4, a4⟩ := ws_ao h4
  refine ⟨fun i => match i with | 0 => c0 | 1 => c1 | 2 => c2 | 3 => c3 | _ => c4, fun k q hq => ?_⟩
  match k, hq with
  | 0, hq => cases hq; exact a0
  | 1, hq => cases hq; exact a1
  | 2, hq => cases hq; exact a2
  | 3, hq => cases hq; exact a3
  | 4, hq => cases hq; exact a4
  | k + 5, hq => cases hq
theorem ws_zz {n d : String} (hl : (Cond.laysStatic Bundle.tN n d).before args s = true) (h : (Cond.isRef (.static Bundle.tN n d)).before args s = true) : am_ZZ s.heap.size s.heap n d s := by
  obtain ⟨c, k, i, f, a, cell, hc, hi, hst, ha, hcell, hs, hcls, hlt, hty⟩ := Cond.laysStatic_spec hl
  cases hv : (Term.static Bundle.tN n d).eval args s none [] s with
  | none => simp [Cond.before, Cond.holds, Cond.value, hv] at h
  | some w =>
    obtain ⟨hst', a', cell', ha', hcell', -, hslot⟩ := Term.static_spec hi hv
    cases ha.symm.trans ha'
    cases hcell.symm.trans hcell'
    refine ⟨c, k, i, f, a, cell, w, hc, hi, hst, ha, hcell, hs, hcls, hlt, hty, hslot, ?_, (Array.getElem?_eq_some_iff.mp hcell).1⟩
    simp only [Cond.before, Cond.holds, Cond.value, hv] at h
    cases w <;> first | rfl | (simp at h)
/-- the end of the abstract run is the end that the claim asks for -/
theorem ws_fin {t : State} {below : List Frame} {b : Nat} {D : va_G} {cA : Nat → ClassId} {sb : Nat → Option Nat} {M' : am_M} {mc ms : Nat} (hmc : mc ≤ 601024) (hms : ms ≤ 7293034) (h : am_MQ below (am_Qc D cA s.heap.size sb s.heap (.inl (some (.int 1))) M') #[Value.ref b] s mc ms (am_A0 s.heap.size) t) : lw_Z below #[Value.ref b] s t := by
  obtain ⟨o, h1, h2, ⟨h3, -, -⟩, L, h4, h5⟩ := h
  have h3 : o = .returned (some (.int 1)) := h3
  exact ⟨o, h1, h2, h3, ⟨_, h3⟩, h4.1, (State.sameButNew.drop_fresh (L := []) (J := L) h4.2 h5).mono hmc hms⟩
theorem ws_Rel {D : va_G} {cA : Nat → ClassId} {sb : Nat → Option Nat} {b L : Nat} {xs : Nat → Int32} (h0 : sb 0 = some b) (hX : va_X b L xs s s.heap) (hb : b < s.heap.size) : am_Rel D cA s.heap.size sb s.heap s (e_M 0 L (e_I0 xs) e_L0 e_R0 0 0) s.heap := by
  refine ⟨fun k sp hk => ?_, fun n hn => ?_, fun q _ => rfl⟩
  · have hk : e_sh 0 L k = some sp := hk
    have e : k = 5000 := by
      by_cases e : k = 5000
      · exact e
      · rw [e_sh_up (by omega) e] at hk
        cases hk
    subst e
    cases hk
    unfold am_at
    dsimp only
    rw [if_pos rfl]
    refine ⟨b, h0, ?_, hb⟩
    have e : (e_M 0 L (e_I0 xs) e_L0 e_R0 0 0).1 5000 = xs := by
      funext j
      show e_I0 xs 5000 j = xs j
      unfold e_I0
      rw [if_pos rfl]
    rw [e]
    exact hX
  · cases hn
    rfl
end WSX
section WSW
variable {p : Program} {e : Env} {s : State} {m : MethodId} {below : List Frame} {meth : Method} {c : Code} {l : Launch}
theorem ws_walk (hfl : l.flags = pinnedFlags ++ [noTraceFlag]) {b L : Nat} {xs : Nat → Int32} (hL : L ≤ 2560) {D : va_G} {cA : Nat → ClassId} {sb : Nat → Option Nat} (h0 : sb 0 = some b) (hK : am_K D cA (k_Th s.heap.size sb s.heap) s)
    (hx : p.tables.exec = Jvm.exec) (hb : c.code = code) (hr : meth.sig.returnType = ret) (hml : c.maxLocals = 7) (hown : s.vm.findClass R_law = some m.cls) (hts : ∀ w ∈ lw_tbl, w.before #[Value.ref b] s = true) (hX : va_X b L xs s s.heap) (hbl : b < s.heap.size) (hlocks : meth.locks = false) (hname : meth.name = "law") (heh : c.exceptionTable.toList.map (fun h => (h.startPc, h.endPc, h.handlerPc, h.catchType)) = []) :
    W p l e room_1 s m #[Value.ref b] below meth c s.heap [] 0 0 (lw_Z below #[Value.ref b] s) (entryFrame m ([Value.ref b] : List Value).toArray 7) := by
  obtain ⟨k, hk⟩ := v_begin (n := L) (xs := xs) (Q := fun o M' => o = .inl (some (.int 1)) ∧ am_cn M' ≤ 3100 ∧ am_sn M' ≤ 30000) hL (fun X' D' h1 h2 => ⟨rfl, h1, h2⟩)
  obtain ⟨o, M', hwp, ho, hc, hs⟩ := am_wp_one k _ _ hk
  subst ho
  have hTh : ∀ (s' U : State), s'.WarmedH U.vm → k_Th s.heap.size sb s.heap s' → k_Th s.heap.size sb s.heap U := am_Th_moved am_Tx_moved
  have hok : ∀ pc a, v_tb pc = some a → am_Ok k_nm D cA s.heap.size sb s.heap (k_Th s.heap.size sb s.heap) code "TokenMouthLaw" "law" [] (some .boolean) pc a := fun pc a h => am_lkc_ok (P := fun pc a => am_Ok k_nm D cA s.heap.size sb s.heap (k_Th s.heap.size sb s.heap) code "TokenMouthLaw" "law" [] (some .boolean) pc a) k_t161 pc a k_o161 h
  have hcal := fun y as M o M' h => am_sound (D := D) (cA := cA) (B0 := s.heap.size) (sb := sb) (H00 := s.heap) l hfl hTh k_ok k_V 151 y as M o M' h
  have C : am_Cx D cA s.heap.size (k_Th s.heap.size sb s.heap) code "TokenMouthLaw" "law" [] (some .boolean) p l room_1 s m #[Value.ref b] meth c :=
    ⟨hx, hb, hr, hlocks, hown, fun w hw => hts w (List.mem_filter.mp hw).1, hK, Nat.le_refl _, by decide, by decide, hname, heh, hfl⟩
  have hc' : am_cn M' ≤ 3100 := hc
  have hs' : am_sn M' ≤ 30000 := hs
  have hW := am_walk (nm := k_nm) (cc := k_cc) (ml := k_ml) (eh := k_eh) (rt := k_rt) (tb := fun _ => v_tb) (y := 161) (l := l) (d := 151) (e := e) (below := below) hTh hok hcal C (by decide) (by decide) _ M' k (0, [some (.retAddr 0), none, none, none, none, none, none], [], e_M 0 L (e_I0 xs) e_L0 e_R0 0 0) hwp (by rw [hml]; rfl) s.heap [] 0 0 _ (am_ent_loc (n := 7) (as := [.retAddr 0]) (Nat.le_of_ble_eq_true rfl)) (ws_Rel h0 hX hbl) va_S.rf (by show 0 + (am_cn M' - 0) ≤ 601024; omega) (by show 0 + (am_sn M' - 0) ≤ 7293034; omega)
  have hW2 := am_W_mono (fun t ht => ws_fin (s := s) (by show 0 + (am_cn M' - 0) ≤ 601024; omega) (by show 0 + (am_sn M' - 0) ≤ 7293034; omega) ht) hW
  have e0 := lg_entry_eq m [Value.ref b] 7
  have e1 : ([.retAddr 0] : List Value).map (am_val s.heap.size sb) = [Value.ref b] := by
    show [va_rf (sb 0)] = _
    rw [h0]
    rfl
  rw [e1] at hW2
  rw [e0]
  exact hW2
end WSW
theorem ws_R {own tx : String} {k a : Nat} {A : Array Value} {U : State} (h1 : (Cond.stringRef own k tx).before A U = true) (h2 : (Term.string own k).eval A U none [] U = some (.ref a)) : vk_R own k tx a U := vk_R.of (A := A) h1 h2
/-- all that the acts stand on, out of the tables' words and of what the statement gives of the start -/
theorem ws_bytes : ∀ j, j < 111 → Cond.eq (.elem (.field (.string "TokenMouth$Names" 22) "java/lang/String" "value" "[B") (.int (Int32.ofNat j))) (.int (((am_txt.map Int32.ofNat)).getD j 0)) ∈ flatC (Jvm.Cond.and given_1 narrow_1) := by decide +kernel
theorem ws_strs : ∀ q ∈ am_strs, Cond.stringRef "TokenMouth" q.1 q.2 ∈ tables_1 ∧ Cond.exactly (.string "TokenMouth" q.1) "java/lang/String" ∈ flatC (Jvm.Cond.and given_1 narrow_1) := by decide +kernel
theorem ws_cast : ∀ i, i < 4 → ∀ j, j < 4 → i ≠ j → Cond.not (.castable (am_exn i) (am_exn j)) ∈ flatC (Jvm.Cond.and given_1 narrow_1) := by decide +kernel
theorem ws_txt : (fun j => Value.int ((([am_txt.map Int32.ofNat] : List (List Int32)).getD 0 []).getD j 0)) = fun j => Value.int (Int32.ofNat (am_txt.getD j 0)) := by
  funext j
  show Value.int ((am_txt.map Int32.ofNat).getD j 0) = _
  rw [List.getD_eq_getElem?_getD, List.getD_eq_getElem?_getD, List.getElem?_map]
  cases am_txt[j]? <;> rfl
theorem ws_K {s : State} {b : Nat} (hts : ∀ w ∈ lw_tbl, w.before #[Value.ref b] s = true) (hgv : (Jvm.Cond.and given_1 narrow_1).before #[Value.ref b] s = true) : ∃ (D : va_G) (cA : Nat → ClassId) (sb : Nat → Option Nat), sb 0 = some b ∧ am_K D cA (k_Th s.heap.size sb s.heap) s := by
  have hs := flat_of_before _ hgv
  have ht : ∀ w ∈ tables_1, w.before #[Value.ref b] s = true := fun w hw => hts w (List.mem_append_right _ hw)
  have hA : ∀ a : Nat, a < s.heap.size → ¬ am_A0 s.heap.size a := fun a h => Nat.not_le.mpr h
  obtain ⟨dC, dI, hKc⟩ := ws_cls hts
  have ho4 := ht (.arrayOver (.object ck_R4)) (by decide +kernel)
  have ho1 := ht (.arrayOver (.object ck_R1)) (by decide +kernel)
  obtain ⟨cA, hKa⟩ := ws_arr (ht (.arrayClass .int) (by decide +kernel)) (ht (.arrayClass .long) (by decide +kernel)) (ht (.arrayClass .boolean) (by decide +kernel)) ho4 ho1
  obtain ⟨adK, adV, hS, hT⟩ := vk_Sof (args := #[Value.ref b]) (s := s) (N := 1) (tm := fun _ => .string "TokenMouth$Names" 22) (len := [111]) (byt := [am_txt.map Int32.ofNat]) (A := am_A0 s.heap.size)
    (fun i hi => by obtain rfl : i = 0 := by omega
                    decide)
    (fun i _ => hs _ (by decide +kernel)) (fun i _ => hs _ (by decide +kernel)) (fun i _ => hs _ (by decide +kernel))
    (fun i hi => by obtain rfl : i = 0 := by omega
                    exact hs _ (by decide +kernel))
    (fun i hi j hj => by obtain rfl : i = 0 := by omega
                         exact hs _ (ws_bytes j hj))
    (fun i j hi hj h => absurd (by omega : i = j) h) hA
  obtain ⟨o1, o2, o3, o4⟩ := hS.1 0 (by decide)
  have hcs := va_Zof (A := am_A0 s.heap.size) (ht (.laysStatic "java/lang/String" "COMPACT_STRINGS" "Z") (by decide +kernel)) (ht (.initialized "java/lang/String") (by decide +kernel)) (va_eqi (hs (.eq (.static "java/lang/String" "COMPACT_STRINGS" "Z") (.int 1)) (by decide +kernel))) hA
  obtain ⟨r3, hz3⟩ : ∃ r3 : Option Nat, va_Z "jdk/internal/util/Preconditions" "SIOOBE_FORMATTER" "Ljava/util/function/BiFunction;" (va_rf r3) (am_A0 s.heap.size) s s.heap := by
    rcases va_Zqof (A := am_A0 s.heap.size) (ht (.laysStatic "jdk/internal/util/Preconditions" "SIOOBE_FORMATTER" "Ljava/util/function/BiFunction;") (by decide +kernel)) (ht (.initialized "jdk/internal/util/Preconditions") (by decide +kernel)) (hs (.isRef (.static "jdk/internal/util/Preconditions" "SIOOBE_FORMATTER" "Ljava/util/function/BiFunction;")) (by decide +kernel)) hA with h | ⟨t, h⟩
    · exact ⟨none, h⟩
    · exact ⟨some t, h⟩
  rw [ws_txt] at o4
  refine ⟨(dC, dI), cA, fun k => if k = 0 then some b else if k = 1 then some (adK 0) else if k = 2 then some (adV 0) else r3, rfl, ⟨hKc, hKa⟩, ?_, va_AO.of ho4, va_AO.of ho1, ?_, ?_, ?_, ?_, ?_, adK 0, adV 0, rfl, rfl, ?_, o1, o2, o3, o4, hcs, hz3⟩
  · intro w hw
    rcases List.mem_cons.mp hw with rfl | hw
    · exact va_Nw.of rfl (ht _ (by decide +kernel))
    · obtain rfl := List.mem_singleton.mp hw
      exact va_Nw.of rfl (ht _ (by decide +kernel))
  · intro w hw
    rcases List.mem_cons.mp hw with rfl | hw
    · exact va_Nw.of rfl (ht _ (by decide +kernel))
    · rcases List.mem_cons.mp hw with rfl | hw
      · exact va_Nw.of rfl (ht _ (by decide +kernel))
      · obtain rfl := List.mem_singleton.mp hw
        exact va_Nw.of rfl (ht _ (by decide +kernel))
  · exact ws_zz (ht (.laysStatic Bundle.tN "UNASSIGNED_STACK" Bundle.steD) (by decide +kernel)) (hs (.isRef (.static Bundle.tN "UNASSIGNED_STACK" Bundle.steD)) (by decide +kernel))
  · exact ws_zz (ht (.laysStatic Bundle.tN "SUPPRESSED_SENTINEL" Bundle.listD) (by decide +kernel)) (hs (.isRef (.static Bundle.tN "SUPPRESSED_SENTINEL" Bundle.listD)) (by decide +kernel))
  · intro q hq
    obtain ⟨h1, h2⟩ := ws_strs q hq
    obtain ⟨a, _, _, _, h3, _⟩ := Cond.exactly_spec (args := #[Value.ref b]) (first := s) (o := none) (s := s) (idx := []) (hs _ h2)
    exact ⟨a, ws_R (ht _ h1) h3⟩
  · intro i j hi hj hn
    exact va_Nc.of (hs _ (ws_cast i hi j hj hn))
  · exact ws_R (ht _ (by decide +kernel)) (hT 0 (by decide))
theorem whole_start {p : Program} {e : Env} {s : State} {m : MethodId} {below : List Frame} {meth : Method} {c : Code} (l : Launch) (hfl : l.flags = pinnedFlags ++ [noTraceFlag]) {b L : Nat} {xs : Nat → Int32} (hL : L ≤ 2560) (C0 : lw_At p s m meth c b L xs) : W p l e room_1 s m #[Value.ref b] below meth c s.heap [] 0 0 (lw_Z below #[Value.ref b] s) (entryFrame m ([Value.ref b] : List Value).toArray 7) := by
  obtain ⟨hx, hb, hr, hml, hown, hts, hX, hbl, hlocks, hgv, hname, heh⟩ := C0
  obtain ⟨D, cA, sb, h0, hK⟩ := ws_K hts hgv
  exact ws_walk hfl hL h0 hK hx hb hr hml hown hts hX hbl hlocks hname heh
set_option maxHeartbeats 4000000 in
theorem lw_walk (l : Launch) (hfl : l.flags = pinnedFlags ++ [noTraceFlag]) (b : Addr) (xs : List Int32) : MetFree l x (headSpec (Jvm.Cond.code x code maxLocals ret :: tables_1) room_1) (lw_P b xs) (fun _ _ _ _ _ => True) lw_Q := by
  refine MetFree.of_bodyS (code := code) (maxLocals := maxLocals) (ret := ret) (by decide) ?_ ?_
  · intro args s m h hn
    obtain ⟨meth, c, h1, h2, h3, h4, h5, h6, -, -⟩ := Cond.code_spec hn (atoms_spec (ws := Jvm.Cond.code x code maxLocals ret :: tables_1) h _ List.mem_cons_self)
    exact ⟨meth, c, h1, h2, h3, h4, h5, h6⟩
  · intro p e s m args below meth c s₁ B hml0 hP _
    obtain ⟨rfl, hx, hbd, hgv⟩ := hP
    obtain ⟨scr, harrAt, hlist, hof, hsmall⟩ := hx
    obtain ⟨hcb, hkn, -, -⟩ := State.arrayAt?_spec harrAt
    have hown : s.vm.findClass R_law = some m.cls := findClass_of_methodNamed B.named
    have hts0 : ∀ c ∈ (Jvm.Cond.code x code maxLocals ret :: tables_1), c.before #[Value.ref b] s = true := atoms_spec (ws := Jvm.Cond.code x code maxLocals ret :: tables_1) B.pre
    have hts : ∀ w ∈ lw_tbl, w.before #[Value.ref b] s = true := k2_hts_sels lw_privs (fun w hw => hts0 w (List.mem_cons_of_mem _ hw)) lw_privs_ok
    have hml : c.maxLocals = 7 := B.maxLocals_eq (hts0 _ List.mem_cons_self)
    have X₀ : Stand p l e room_1 s m #[Value.ref b] below meth c s₁ [] 0 0 := Stand.of_body B
    have hh0 : s₁.heap = s.heap := by rw [B.state]; rfl
    have hsz : scr.slots.size = xs.length := by rw [← Array.length_toList, hlist, List.length_map]
    have hval : ∀ j : Nat, j < xs.length → scr.slots[j]? = some (.int (xs.getD j 0)) := fun j hj => by
      rw [← Array.getElem?_toList, hlist]
      simp [hj]
    have hbl : b < s.heap.size := (Array.getElem?_eq_some_iff.mp hcb).1
    have hX : va_X b xs.length (fun j => xs.getD j 0) s s.heap := ⟨scr, hcb, hof, hkn, hsz, hval⟩
    obtain ⟨m9, meth9, c9, q1, q2, q3, q4, q5, heh, q7, q8, q9⟩ := am_cw_spec (nm := k_nm) (cc := k_cc) (ml := k_ml) (eh := k_eh) (rt := k_rt) (y := 161) (hts0 _ List.mem_cons_self)
    cases B.named.symm.trans q1
    cases B.method.symm.trans q2
    cases X₀.code.symm.trans q3
    have K : W p l e room_1 s m #[Value.ref b] below meth c s₁.heap [] 0 0 (lw_Z below #[Value.ref b] s) (entryFrame m ([Value.ref b] : List Value).toArray 7) := by
      rw [hh0]
      exact whole_start l hfl hbd ⟨B.exec, B.bytes, B.returns, hml, hown, hts, hX, hbl, B.notSynchronized, hgv, (name_of_methodNamed B.named B.method).1, heh⟩
    obtain ⟨t, a1, o, b1, b2, b3⟩ := K s₁ rfl X₀
    exact ⟨t, o, a1, b1, b2, b3⟩
theorem lw_pre_spec {args : Array Value} {s : State} (h : (Jvm.Cond.and given_1 narrow_1).before args s = true) (hr : rest_1_c.before args s = true) : ∃ (b : Addr) (xs : List Int32), lw_P b xs args s := by
  have hs := flat_of_before _ h
  have hq := flat_of_before _ hr
  have hc : (Cond.count 1).before args s = true := hs _ (by decide +kernel)
  have harr : (Cond.arrayOf (.arg 0) .int).before args s = true := hs _ (by decide +kernel)
  have hle : (Cond.le (.length (.arg 0)) (.int 2560)).before args s = true := hs _ (by decide +kernel)
  have hlen : (Cond.isInt (.length (.arg 0))).before args s = true := hq _ (by decide +kernel)
  have hall : (Cond.all (.arg 0) (.isInt (.elem (.arg 0) (.index 0)))).before args s = true := hq _ (by decide +kernel)
  obtain ⟨b, xs, hb, hx⟩ := State.ints_of_pre rfl harr hlen hall
  have hsm : xs.length < 2 ^ 31 := hx.choose_spec.2.2.2
  have hev : (Term.length (.arg 0)).eval args s none [] s = some (.int xs.length.toInt32) := hx.length_eval hb
  have hv := Cond.le_ints hev (show (Term.int 2560).eval args s none [] s = some (.int 2560) from rfl)
  have hd : xs.length.toInt32 ≤ 2560 := by
    simpa [Cond.before, Cond.holds, hv] using hle
  have hN : xs.length ≤ 2560 := (Int32.ofNat_le_ofNat hsm (by decide)).mp (show Int32.ofNat xs.length ≤ Int32.ofNat 2560 from hd)
  exact ⟨b, xs, Cond.one_arg hc (show args[0]? = some (.ref b) from hb), hx, hN, h⟩
theorem lw_comes (l : Launch) (hfl : l.flags = pinnedFlags ++ [noTraceFlag]) : Comes l x (Jvm.Cond.code x code maxLocals ret :: tables_1) room_1 (fun tb e args s => Calls_1 tb e args s ∧ rest_1 tb e args s ∧ Pre_1 tb e args s)
    (fun _ _ args s o t => lw_Q args s o t) := by
  intro p e ha hc hk s m args below hf hfit hheap happ hpre
  obtain ⟨b, xs, hP⟩ := lw_pre_spec hpre.2.2 hpre.2.1
  obtain ⟨k, o, h1, h2, h3, hQ⟩ := lw_walk l hfl b xs p e ha hc hk s m args below hf ((Spec.applies_iff_loose hf).mp happ).1 hP trivial
  exact ⟨k, o, h1, h2, h3, hQ⟩
theorem lw_frame {s t : State} {o : Outcome} {args : Array Value} (h : Framed s o t [] 601024 7293034) :
    Framed s o t (fieldLocs frame_1_writes args s ++ arrayLocs frame_1_arrays args s ++ staticLocs frame_1_statics s) 601024 7293034 := h
theorem lw_limb (L : Cond) (hL : ∀ (args : Array Value) (s t : State), L.after args s (.returned (some (.int 1))) t = true) :
    ArmFor flags0 classFile x code maxLocals ret World_1 tables_1 room_1 Calls_1 rest_1 Pre_1
      (fun tb e a s o t => postC L tb e a s o t ∧ Framed s o t (fieldLocs frame_1_writes a s ++ arrayLocs frame_1_arrays a s ++ staticLocs frame_1_statics s) 601024 7293034) := by
  intro l hfl _ _ p e ha hc hk s m args below hf hfit hheap happ hpre
  obtain ⟨k, o, h1, h2, h3, rfl, hF⟩ := lw_comes l hfl p e ha hc hk s m args below hf hfit hheap happ hpre
  exact ⟨k, _, h1, h2, h3, hL args s _, lw_frame hF⟩
theorem i_vc : Claimed_1_1 ∧ Claimed_1_2 := ⟨lw_limb limb_1_1 (fun args s t => by simp [limb_1_1, Cond.after, Cond.holds, Cond.value]), lw_limb limb_1_2 (fun args s t => Cond.after_iff.mpr (by
  first | (rw [show limb_1_2 = Cond.eq .result (.int 1) from rfl, Cond.eq_ints (x := 1) (y := 1) rfl rfl]; simp; done) | (simp [limb_1_2, Cond.value, Term.eval]; done)))⟩
