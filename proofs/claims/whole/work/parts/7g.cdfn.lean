/-! contracts of the class: a definition is read and made -/
section CN
variable {n d : Nat} {B : y_B} {D : z_D} {tr st : Int} {S : y_S} {T : Nat → z_D → Prop}
/-- the draft's text grows -/
theorem cl_dtx (hc : y_cls B tr S D) {l : List Int} (e : y_a S 4 = some l) (hl : l.length < 12) (t : Int) : y_cls B tr (y_sa S 4 (some (l ++ [t]))) (z_uz (z_uz D (D.2.2 60 + 1 + 1) l.length t) (D.2.2 60 + 1) 1 ((l.length : Int) + 1)) := by
  obtain ⟨m, ⟨x, b1, b2, b3⟩, ⟨y, c1, c2, c3⟩, m4⟩ := cl_drAt hc
  have := b3 l e
  subst this
  refine cl_dr (D := D) (S' := y_sa S 4 (some (x ++ [t]))) (Z := (z_uz (z_uz D (D.2.2 60 + 1 + 1) x.length t) (D.2.2 60 + 1) 1 ((x.length : Int) + 1)).1) hc (fun c h => ?_) ⟨rfl, rfl, rfl, rfl, rfl, rfl⟩ ⟨x ++ [t], y_row_add b1 t, by simp; omega, fun z e => ?_⟩ ⟨y, ?_, c2, c3⟩ (fun v e => ?_)
  · rw [y_uz_cell (by omega), y_uz_cell (by omega)]
  · exact Option.some.inj e
  · exact y_row_cell c1 (by rw [y_uz_cell (by omega), y_uz_cell (by omega)]) (by rw [y_uz_cell (by omega), y_uz_cell (by omega)])
  · rw [y_uz_cell (by omega), y_uz_cell (by omega)]; exact m4 v e
theorem cl_dbd (hc : y_cls B tr S D) {l : List Int} (e : y_a S 5 = some l) (hl : l.length < 40) (t : Int) : y_cls B tr (y_sa S 5 (some (l ++ [t]))) (z_uz (z_uz D (D.2.2 60 + 3 + 1) l.length t) (D.2.2 60 + 3) 1 ((l.length : Int) + 1)) := by
  obtain ⟨m, ⟨x, b1, b2, b3⟩, ⟨y, c1, c2, c3⟩, m4⟩ := cl_drAt hc
  have := c3 l e
  subst this
  refine cl_dr (D := D) (S' := y_sa S 5 (some (y ++ [t]))) (Z := (z_uz (z_uz D (D.2.2 60 + 3 + 1) y.length t) (D.2.2 60 + 3) 1 ((y.length : Int) + 1)).1) hc (fun c h => ?_) ⟨rfl, rfl, rfl, rfl, rfl, rfl⟩ ⟨x, ?_, b2, b3⟩ ⟨y ++ [t], y_row_add c1 t, by simp; omega, fun z e => ?_⟩ (fun v e => ?_)
  · rw [y_uz_cell (by omega), y_uz_cell (by omega)]
  · exact y_row_cell b1 (by rw [y_uz_cell (by omega), y_uz_cell (by omega)]) (by rw [y_uz_cell (by omega), y_uz_cell (by omega)])
  · exact Option.some.inj e
  · rw [y_uz_cell (by omega), y_uz_cell (by omega)]; exact m4 v e
theorem cl_ddp (hc : y_cls B tr S D) (v : Int) : y_cls B tr (y_sdp S (some v)) (z_uz D (D.2.2 60) 2 v) := by
  obtain ⟨m, ⟨x, b1, b2, b3⟩, ⟨y, c1, c2, c3⟩, m4⟩ := cl_drAt hc
  refine cl_dr (D := D) (S' := y_sdp S (some v)) (Z := (z_uz D (D.2.2 60) 2 v).1) hc (fun c h => ?_) ⟨rfl, rfl, rfl, rfl, rfl, rfl⟩ ⟨x, ?_, b2, b3⟩ ⟨y, ?_, c2, c3⟩ (fun w e => ?_)
  · rw [y_uz_cell (by omega)]
  · exact y_row_cell b1 (by rw [y_uz_cell (by omega)]) (by rw [y_uz_cell (by omega)])
  · exact y_row_cell c1 (by rw [y_uz_cell (by omega)]) (by rw [y_uz_cell (by omega)])
  · rw [y_uz_same]; exact Option.some.inj e
theorem c_par {p : Int} {K : Int → z_D → Prop} (hc : y_cls B 0 S D) (ho : y_ok st S) (hp : y_dp S = some p) (h0 : 0 ≤ p) (h4 : p ≤ 4) (h : y_fin (y_par S) (fun t S' => ∀ D', y_cls B 0 S' D' → K t D') (y_cT B.1 T)) : z_c n (d + 3) 75 [.ref 0] D (z_qI K T) := by
  refine r_tNewParameter (c_get hc ho (y_gk (yo_getT ho) h (fun g S1 ⟨k1, k2, k3, _⟩ h D1 hc1 => ?_)))
  have hr := y_tk_r k3 k1.2.2.2.2.2.2.2.2.2.2.2.2.2.2.2.2.2.2.2.1.2
  have hp1 : y_dp S1 = some p := k2.2.2.2.1.trans hp
  have e : y_dpr S1 = p := by unfold y_dpr; rw [hp1]; rfl
  rw [e] at h
  obtain ⟨m, _, _, m4⟩ := cl_drAt hc1
  rw [m4 p hp1]
  refine ⟨m, y_rs (by omega) (by omega), fun c => ?_, fun c => ⟨y_rs (by omega) (by omega), fun c1 => ?_, fun c1 => ⟨y_rs (by omega) (by omega), fun c2 D7 e7 => ?_, fun c2 => ?_⟩⟩⟩
  · rw [if_pos (Or.inl c)] at h
    exact c_fault hc1 h
  · rw [if_pos (Or.inr (Or.inl c1))] at h
    exact c_fault hc1 h
  · rw [z_and255 (by omega) (by omega)] at c2
    rw [if_neg (by omega)] at h
    exact h D7 (by rw [e7]; exact cl_ddp hc1 _)
  · rw [z_and255 (by omega) (by omega)] at c2
    rw [if_pos (Or.inr (Or.inr c2))] at h
    exact c_fault hc1 h
theorem c_rtx {K : z_D → Prop} (hc : y_cls B 0 S D) (ho : y_ok st S) (h : y_fin (y_rtx 13 (y_sdp (y_sa (y_sa S 4 (some [])) 5 (some [])) (some 0))) (fun _ S' => ∀ D', y_cls B 0 S' D' → K D') (y_cT B.1 T)) : z_c n (d + 4) 74 [.ref 0] D (z_qV K T) := by
  refine r_tReadMacroText (fun m a D' => ∃ S1 tx p, 0 ≤ a ∧ a ≤ 13 ∧ m = (13 - a).toNat ∧ y_cls B 0 S1 D' ∧ y_ok st S1 ∧ y_dr S1 tx [] p ∧ y_fin (y_rtx (13 - a).toNat S1) (fun _ S' => ∀ D', y_cls B 0 S' D' → K D') (y_cT B.1 T)) ?_ ?_
  · obtain ⟨m, ⟨x, b1, b2, b3⟩, ⟨y, c1, c2, c3⟩, m4⟩ := cl_drAt hc
    obtain ⟨d1, d2⟩ := y_dr0 ho
    refine ⟨m, r_cStartAnew m ?_⟩
    have go : ∀ D3, D3.2 = D.2 → (∀ c, (c < D.2.2 60 ∨ D.2.2 60 + 5 ≤ c) → D3.1 c = D.1 c) → y_row D3 (D.2.2 60 + 1) [] → y_row D3 (D.2.2 60 + 3) [] → D3.1 (D.2.2 60) 2 = 0 → ∃ m, ∃ S1 tx p, 0 ≤ (0 : Int) ∧ (0 : Int) ≤ 13 ∧ m = ((13 : Int) - 0).toNat ∧ y_cls B 0 S1 D3 ∧ y_ok st S1 ∧ y_dr S1 tx [] p ∧ y_fin (y_rtx ((13 : Int) - 0).toNat S1) (fun _ S' => ∀ D', y_cls B 0 S' D' → K D') (y_cT B.1 T) := by
      intro D3 e3 f3 r1 r3 r0
      refine ⟨_, _, [], 0, by decide, by decide, rfl, ?_, d1, d2, by rw [show ((13 : Int) - 0).toNat = 13 by decide]; exact h⟩
      have e : D3 = (D3.1, D.2) := Prod.ext rfl e3
      rw [e] at r1 r3 ⊢
      exact cl_dr hc f3 ⟨rfl, rfl, rfl, rfl, rfl, rfl⟩ ⟨[], r1, by simp, fun x e => Option.some.inj e⟩ ⟨[], r3, by simp, fun x e => Option.some.inj e⟩ (fun v e => by rw [← Option.some.inj e]; exact r0)
    have second : ∀ D1, D1.2 = D.2 → (∀ c, (c < D.2.2 60 ∨ D.2.2 60 + 3 ≤ c) → D1.1 c = D.1 c) → y_row D1 (D.2.2 60 + 1) [] → y_row D1 (D.2.2 60 + 3) y → z_c n (d + 2) 30 [.ref (D.2.2 60 + 3), .int (z_i 0)] D1 (z_qV (fun D2 => ∀ D3, D3 = z_uz D2 (D.2.2 60) 2 0 → ∃ m, ∃ S1 tx p, 0 ≤ (0 : Int) ∧ (0 : Int) ≤ 13 ∧ m = ((13 : Int) - 0).toNat ∧ y_cls B 0 S1 D3 ∧ y_ok st S1 ∧ y_dr S1 tx [] p ∧ y_fin (y_rtx ((13 : Int) - 0).toNat S1) (fun _ S' => ∀ D', y_cls B 0 S' D' → K D') (y_cT B.1 T)) T) := by
      intro D1 e1 f1 r1 r3
      refine c_rCut0 (z_row_mb m) r3 c2 (fun e D3 e3 => ?_) (fun e D3 e3 => ?_)
      · subst e3
        refine go _ e1 (fun c h => by rw [y_uz_cell (by omega)]; exact f1 c (by omega)) (y_row_cell r1 (by rw [y_uz_cell (by omega)]) (by rw [y_uz_cell (by omega)])) ?_ (y_uz_same _ _ _ _)
        rw [e] at r3
        exact y_row_cell r3 (by rw [y_uz_cell (by omega)]) (by rw [y_uz_cell (by omega)])
      · subst e3
        have r3' := y_row_cut r3 (m := 0) (by omega)
        refine go _ e1 (fun c h => by rw [y_uz_cell (by omega), y_uz_cell (by omega)]; exact f1 c (by omega)) (y_row_cell r1 (by rw [y_uz_cell (by omega), y_uz_cell (by omega)]) (by rw [y_uz_cell (by omega), y_uz_cell (by omega)])) ?_ (y_uz_same _ _ _ _)
        exact y_row_cell r3' (by rw [y_uz_cell (by omega)]; rfl) (by rw [y_uz_cell (by omega)]; rfl)
    refine c_rCut0 (z_row_mt m) b1 b2 (fun e => second D rfl (fun _ _ => rfl) (by rw [e] at b1; exact b1) c1) (fun e => second _ rfl (fun c h => y_uz_cell (by omega)) (y_row_cut b1 (m := 0) (by omega)) (y_row_cell c1 (y_uz_cell (by omega)) (y_uz_cell (by omega))))
  · rintro mm a D' ⟨S1, tx, p, a0, a1, rfl, hc1, ho1, hd1, h⟩
    refine ⟨y_rs (by omega) (by omega), fun c => ?_, fun c => ?_⟩
    · rw [show (13 - a).toNat = 0 by omega] at h
      exact h D' hc1
    · rw [show (13 - a).toNat = (13 - (a + 1)).toNat + 1 by omega] at h
      unfold y_rtx at h
      refine c_get hc1 ho1 (y_gk (yo_getT ho1) h (fun t0 S2 ⟨k1, k2, k3, _⟩ h D2 hc2 => ?_))
      dsimp only at h
      have hr := y_tk_r k3 k1.2.2.2.2.2.2.2.2.2.2.2.2.2.2.2.2.2.2.2.1.2
      have ht := y_un_tp k3 k1.2.2.2.2.2.2.2.2.2.2.2.2.2.2.2.2.2.2.2.1.2
      have hu := y_tp_r ht k1.2.2.2.2.2.2.2.2.2.2.2.2.2.2.2.2.2.2.2.1.2
      have hd2 := y_dr_le hd1 (y_lg_le k2)
      have hdp := hd2.2.2.2.2.2
      -- the token is added
      have addt : ∀ (t q : Int) (S3 : y_S) (D3 : z_D), y_cls B 0 S3 D3 → y_ok st S3 → y_a S3 4 = some tx → y_a S3 5 = some [] → y_dp S3 = some q → y_tx (y_nn S3) tx p → q ≤ 4 → ((t = 8192 + q ∧ q = p + 1 ∧ 0 ≤ p) ∨ (y_tp (y_nn S3) t ∧ q = p)) → 0 ≤ p → y_bs t = 0 → y_fin (y_bd (y_addt t S3) (fun _ S3 => y_rtx (13 - (a + 1)).toNat S3)) (fun _ S' => ∀ D', y_cls B 0 S' D' → K D') (y_cT B.1 T) → w_tReadMacroText_57 n (d + 3) a t D3 (fun a' D' => ∃ m, m < (13 - a).toNat ∧ ∃ S1 tx p, 0 ≤ a' ∧ a' ≤ 13 ∧ m = (13 - a').toNat ∧ y_cls B 0 S1 D' ∧ y_ok st S1 ∧ y_dr S1 tx [] p ∧ y_fin (y_rtx (13 - a').toNat S1) (fun _ S' => ∀ D', y_cls B 0 S' D' → K D') (y_cT B.1 T)) K T := by
        intro t q S3 D3 hc3 ho3 e4 e5 ep htx hq htq hp0 hbs h3
        obtain ⟨m, ⟨x, b1, b2, b3⟩, ⟨y, c1, c2, c3⟩, m4⟩ := cl_drAt hc3
        have ex := b3 tx e4
        subst ex
        have edt : y_dtx S3 = x := by unfold y_dtx; rw [e4]; rfl
        unfold y_addt at h3
        rw [edt] at h3
        refine ⟨m, c_rAdd (z_row_mt m) b1 b2 (fun z => ⟨fun _ => ?_, fun w => (by cases w)⟩) (fun z => ⟨fun w => (by cases w), fun _ => ?_⟩)⟩
        · rw [if_neg (by omega)] at h3
          refine ⟨_, ?_, _, x ++ [t], q, by omega, by omega, rfl, cl_dtx hc3 e4 z t, y_ok_ad ho3 (by decide) _, ⟨rfl, e5, ep, y_tx_snoc htx z htq ho3.2.2.2.2.2.2.2.2.2.2.2.2.2.2.2.2.2.2.2.1.2 hbs, ⟨by simp, fun x hx => (by cases hx)⟩, ?_, hq⟩, h3⟩
          · omega
          · show 0 ≤ q
            rcases htq with w | w <;> omega
        · rw [if_pos (by omega)] at h3
          exact c_fault hc3 h3
      refine c_tUnmarked (by omega) (by omega) (c_tCategoryOf (y_rs (by omega) (by omega)) ⟨y_rs (by omega) (by omega), fun c1 => ⟨fun c2 => ?_, fun c2 => ?_⟩, fun c1 => ?_⟩)
      · rw [if_neg c1, if_neg c2] at h
        refine ⟨y_rs (by omega) (by omega), fun c3 => ?_, fun c3 => ?_⟩
        · rw [if_neg c3] at h
          refine addt _ p S2 D2 hc2 k1 hd2.1 hd2.2.1 hd2.2.2.1 hd2.2.2.2.1 hdp.2 (Or.inr ⟨ht, rfl⟩) hdp.1 ?_ h
          unfold y_bs
          rw [if_neg c1, if_neg c2]
        · rw [if_pos c3] at h
          refine c_par hc2 k1 hd2.2.2.1 hdp.1 hdp.2 (y_gk (yo_par k1 hd2.2.2.1 hdp.1) h (fun t S3 ⟨b1, b2, b3, b4, b5⟩ h D3 hc3 => ?_))
          have n3 : y_nn S2 ≤ y_nn S3 := b2.1
          refine addt t (p + 1) S3 D3 hc3 b1 ((congrFun b2.2.2.1 4).trans hd2.1) ((congrFun b2.2.2.1 5).trans hd2.2.1) b3 (y_tx_le hd2.2.2.2.1 n3) b5 (Or.inl ⟨b4, rfl, hdp.1⟩) hdp.1 ?_ h
          have := hdp.1
          unfold y_bs
          rw [if_neg (by dsimp only at this; omega), if_neg (by dsimp only at this; omega)]
      · rw [if_neg c1, if_pos c2] at h
        exact c_fault hc2 h
      · rw [if_pos c1] at h
        exact h D2 hc2
theorem c_hash {p t : Int} {K : Int → z_D → Prop} (hc : y_cls B 0 S D) (ho : y_ok st S) (hp : y_dp S = some p) (h0 : 0 ≤ p) (h4 : p ≤ 4) (ht : y_tk (y_nn S) t) (h : y_fin (y_hash t S) (fun u S' => ∀ D', y_cls B 0 S' D' → K u D') (y_cT B.1 T)) : z_c n (d + 2) 77 [.ref 0, .int (z_i t)] D (z_qI K T) := by
  have hr := y_tk_r ht ho.2.2.2.2.2.2.2.2.2.2.2.2.2.2.2.2.2.2.2.1.2
  have e : y_dpr S = p := by unfold y_dpr; rw [hp]; rfl
  obtain ⟨m, _, _, m4⟩ := cl_drAt hc
  unfold y_hash at h
  rw [e] at h
  refine r_tBehindHash (c_tCategoryOf (y_rs (by omega) (by omega)) ⟨y_rs (by omega) (by omega), fun c => ⟨y_rs (by omega) (by omega), fun c1 => ?_, fun c1 => ?_⟩, fun c => ?_⟩)
  · rw [if_neg c, if_pos (Or.inl c1)] at h
    exact c_fault hc h
  · rw [if_neg c] at h
    rw [z_and255 (by omega) (by omega), m4 p hp]
    refine ⟨y_rs (by omega) (by omega), fun c2 => ?_, fun c2 => ⟨m, y_rs (by omega) (by omega), fun c3 => ?_, fun c3 => ?_⟩⟩
    · rw [if_pos (Or.inr (Or.inl c2))] at h
      exact c_fault hc h
    · rw [if_neg (by omega)] at h
      exact h D hc
    · rw [if_pos (Or.inr (Or.inr c3))] at h
      exact c_fault hc h
  · rw [if_pos c] at h
    exact h D hc
end CN
