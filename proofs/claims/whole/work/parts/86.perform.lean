/-! Acts: perform, for any DEED -/
theorem w_day {M N : e_M} {w : Nat} (h : w_ok M w) (hf : ∀ b, w < b → b < w + 2199 → N b = M b) : w_ok N w ∧ w_of N w = d_set (w_of M w) (N w 11) := by
  have e24 : N (w + 24) = M (w + 24) := hf _ (by omega) (by omega)
  have hl : ∀ k, k < 80 → x_lot N (w_al w k) = x_lot M (w_al w k) := fun k hk => x_lot_congr (fun b b1 b2 => hf b (by unfold w_al at b1; omega) (by unfold w_al at b2; omega))
  have ht : ∀ k, k < 290 → x_th N (w_at w k) = x_th M (w_at w k) := fun k hk => x_th_congr (fun b b1 b2 => hf b (by unfold w_at at b1; omega) (by unfold w_at at b2; omega))
  obtain ⟨⟨h1, h2⟩, h3, h4, h5⟩ := h
  refine ⟨⟨⟨fun k hk => by rw [hf _ (by omega) (by omega)]; exact h1 k hk, fun k hk => by rw [hf _ (by omega) (by omega)]; exact h2 k hk⟩, fun s hs => by rw [e24]; exact h3 s hs, fun k hk => ?_, fun k hk => ?_⟩, ?_⟩
  · have := h4 k hk
    unfold w_lok s_fok s_rok s_ook w_al at *
    rw [hf _ (by omega) (by omega), hf _ (by omega) (by omega), hf _ (by omega) (by omega)]
    exact this
  · have := h5 k hk
    unfold w_tok s_rok w_at at *
    rw [hf _ (by omega) (by omega), hf _ (by omega) (by omega), hf _ (by omega) (by omega)]
    exact this
  · refine w_of_ext e24 (fun k hk => ?_) (fun k hk => (w_of_ln hk).symm) (fun k hk => ?_) (fun k hk => (w_of_tn hk).symm) rfl
    · rw [hl k hk, ← w_of_l (M := M) (w := w) hk]; rfl
    · rw [ht k hk, ← w_of_t (M := M) (w := w) hk]; rfl
/-- the cells that may have changed: the World's, but for its counts, and those of the Acts -/
def z_fr (M M' : e_M) (w : Nat) : Prop := (∀ b, b ≠ w → b ≠ w + 24 → (b < w + 29 ∨ w + 2199 ≤ b) → (b < 4423 ∨ 4452 ≤ b) → M' b = M b) ∧ ∀ k, k ≠ 11 → M' w k = M w k
theorem w_sok_tr {M N : e_M} {w : Nat} {t : w_T} (h : w_sok M w t) (f : ∀ b, (b < w ∨ w + 2199 ≤ b) → (b < 4423 ∨ 4452 ≤ b) → N b = M b) : w_sok N w t := by
  unfold w_sok at *
  obtain ⟨h1, h2, h3, ⟨h4, h5, h6⟩, h7, h8⟩ := h
  have h4' := h4
  unfold a_d at h4'
  have dd := s_dd_congr (M := M) (N := N) (d := (t.1 11).toNat) (fun k hk => f _ (by omega) (by omega))
  exact ⟨h1, h2, h3, ⟨h4, dd.2.2.2.2 h5, by rw [dd.2.1]; exact h6⟩, by rw [dd.2.1]; exact h7, h8⟩
theorem v_of_congr {M N : e_M} {d : Nat} (h : ∀ k, k ≤ 6 → N (d + k) = M (d + k)) : v_of N d = v_of M d := by
  have dd := s_dd_congr h
  unfold v_of
  rw [dd.1, dd.2.1, dd.2.2.2.1, h 1 (by omega), h 2 (by omega)]
theorem X_serve_congr {V : Nat → v_D} {S : w_S} {r x y x' y' : Nat → Int} {d : Nat} {at_ : Int} (h : ∀ i : Nat, (i : Int) < (V d).1 18 → x i = x' i ∧ y i = y' i) : X_serve V S r x y d at_ = X_serve V S r x' y' d at_ := by
  have : p_bad x y ((V d).1 18) (w_l S (r 2).toNat).2.1 = p_bad x' y' ((V d).1 18) (w_l S (r 2).toNat).2.1 := by
    refine propext ⟨?_, ?_⟩
    · rintro ⟨i, i1, i2⟩
      have e := h i i1
      rw [e.1, e.2] at i2
      refine ⟨i, i1, i2.elim (fun ⟨j, j1, j2⟩ => Or.inl ⟨j, j1, ?_⟩) Or.inr⟩
      have e2 := h j (by omega)
      rw [← e2.1, ← e2.2]; exact j2
    · rintro ⟨i, i1, i2⟩
      have e := h i i1
      rw [← e.1, ← e.2] at i2
      refine ⟨i, i1, i2.elim (fun ⟨j, j1, j2⟩ => Or.inl ⟨j, j1, ?_⟩) Or.inr⟩
      have e2 := h j (by omega)
      rw [e2.1, e2.2]; exact j2
  unfold X_serve
  rw [this]
theorem k_perform {M : e_M} {w d : Nat} {at_ : Int} {V : Nat → v_D} {Q : Int → e_M → Prop} (h : w_ok M w) (hr : w_rg (w_of M w)) (hun : w_un (w_of M w)) (ham : w_am (w_of M w)) (hw : a_w w) (hd : a_d w d) (hk : w_dk M w) (hsl : ∀ k : Nat, (k : Int) < M (w + 24) 7 → w_sok M w (w_t (w_of M w) 7 k)) (hD : v_ok (v_of M d)) (hdo : s_dok M d) (hV : V d = v_of M d) (hV2 : ∀ s i : Nat, 2 ≤ s → s < 8 → (i : Int) < M (w + 24) s → V ((w_t (w_of M w) s i).1 11).toNat = v_of M ((w_t (w_of M w) s i).1 11).toNat)
    (hq : ∀ X, X_perf V (w_of M w) d at_ X → ∀ M', w_ok M' w → w_of M' w = X.2 → z_fr M M' w → Q X.1 M') : WX0_perform w d at_ M Q := by
  have hw' := hw
  unfold a_w at hw'
  have hd' := hd
  unfold a_d at hd'
  unfold WX0_perform VX0_perform
  intro M1 e1 M2 e2 M3 e3 M4 e4
  have c0 : M3 4423 0 = (w : Int) := by rw [e3, e_up_ne (by omega), e2, e_up_ne (by omega), e1, e_up_eq]
  have c1 : M3 4423 1 = (d : Int) := by rw [e3, e_up_ne (by omega), e2, e_up_eq]
  have c2 : M3 4423 2 = at_ := by rw [e3, e_up_eq]
  have f3 : ∀ b, b ≠ 4423 → M3 b = M b := fun b hb => by rw [e3, e_up_row hb, e2, e_up_row hb, e1, e_up_row hb]
  rw [c0, c1, show ((w : Nat) : Int).toNat = w by omega, show ((d : Nat) : Int).toNat = d by omega, f3 d (by omega)] at e4
  have f4 : ∀ b, b ≠ 4423 → b ≠ w → M4 b = M b := fun b hb hb2 => by rw [e4, e_up_row hb2, f3 b hb]
  have w4 : ∀ k, M4 w k = if k = 11 then M d 4 else M w k := fun k => by rw [e4, e_up_at, f3 w (by omega)]
  obtain ⟨h4, o4⟩ := w_day h (N := M4) (fun b b1 b2 => f4 b (by omega) (by omega))
  rw [w4, if_pos rfl] at o4
  have cx4 : a_cx M4 w d at_ := by
    unfold a_cx
    rw [show M4 4423 = M3 4423 by rw [e4, e_up_row (by omega)], c0, c1, c2]
    omega
  have dd4 : ∀ k, k ≤ 6 → M4 (d + k) = M (d + k) := fun k hk6 => f4 _ (by omega) (by omega)
  have vv4 := v_of_congr dd4
  have s4 := s_dd_congr dd4
  have un4 : w_un (w_of M4 w) := by rw [o4]; exact hun
  have eV : (V d).1 4 = M d 4 := by rw [hV]; rfl
  have eV1 : (V d).2.1 = M (d + 1) := by rw [hV]; rfl
  have eV2 : (V d).2.2.1 = M (d + 2) := by rw [hV]; rfl
  have eV7 : (V d).1 7 = M d 7 := by rw [hV]; rfl
  refine k_findNames h4 hw un4 cx4 hd (s4.2.2.2.2 hdo) (fun M6 nok nn f6 => ⟨fun _ => ?_, fun z => by omega⟩) (fun no M6 f6 => ⟨fun z => absurd rfl z, fun _ => ?_⟩)
  case refine_2 =>
    obtain ⟨h6, o6⟩ := w_same h4 (N := M6) (fun b b1 b2 => f6 b (by omega) (by omega))
    refine hq _ (Or.inl ⟨rfl, fun R hR => no R ?_⟩) M6 h6 ?_ ⟨fun b b1 b2 b3 b4 => by rw [f6 b (by omega) (by omega), f4 b (by omega) b1], fun k hk11 => by rw [f6 w (by omega) (by omega), w4, if_neg hk11]⟩
    · rw [o4, dd4 1 (by omega), dd4 2 (by omega), s4.1, ← eV, ← eV1, ← eV2, ← eV7]; exact hR
    · rw [o6, o4, eV]
  obtain ⟨h6, o6⟩ := w_same h4 (N := M6) (fun b b1 b2 => f6 b (by omega) (by omega))
  rw [o4] at o6
  have cx6 : a_cx M6 w d at_ := a_cx_congr cx4 (f6 _ (by omega) (by omega))
  have fM : ∀ b, b ≠ 4423 → b ≠ 4424 → b ≠ 4425 → b ≠ w → M6 b = M b := fun b b1 b2 b3 b4 => by rw [f6 b b2 b3, f4 b b1 b4]
  have dd6 : ∀ k, k ≤ 6 → M6 (d + k) = M (d + k) := fun k hk6 => fM _ (by omega) (by omega) (by omega) (by omega)
  have vv6 := v_of_congr dd6
  have s6 := s_dd_congr dd6
  have z6 : M6 (w + 24) = M (w + 24) := fM _ (by omega) (by omega) (by omega) (by omega)
  have d6 : M6 d 4 = M6 w 11 := by rw [s6.1, f6 w (by omega) (by omega), w4, if_pos rfl]
  have ffr : ∀ b, (b < w ∨ w + 2199 ≤ b) → (b < 4423 ∨ 4452 ≤ b) → M6 b = M b := fun b b1 b2 => fM b (by omega) (by omega) (by omega) (by omega)
  have rg6 : w_rg (w_of M6 w) := by rw [o6]; exact hr
  have am6 : w_am (w_of M6 w) := by rw [o6]; exact ham
  have dk6 := w_dk_tr (N := M6) hk (fun s _ _ => by rw [z6]) (by rw [o6]; rfl) ffr
  have sl6 : ∀ k : Nat, (k : Int) < M6 (w + 24) 7 → w_sok M6 w (w_t (w_of M6 w) 7 k) := fun k hk7 => by
    rw [o6]
    rw [z6] at hk7
    exact w_sok_tr (hsl k hk7) ffr
  have Veq : V_eq (v_of M6) V (w_of M6 w) d := by
    refine ⟨by rw [hV, vv6], fun s i s1 s2 s3 => ?_⟩
    rw [o6] at s3 ⊢
    have s3' : (i : Int) < M (w + 24) s := s3
    have e := hV2 s i s1 s2 s3'
    have et : w_t (d_set (w_of M w) (M d 4)) s i = w_t (w_of M w) s i := rfl
    rw [et, e]
    have dk := (hk s i s1 s2 s3').1
    unfold a_d at dk
    exact v_of_congr (fun k hk6 => ffr _ (by omega) (by omega))
  have fin : a_q M6 w Q (X_act (v_of M6) (w_of M6 w) (M6 4424) (M6 4425) d at_).1 (X_act (v_of M6) (w_of M6 w) (M6 4424) (M6 4425) d at_).2 := by
    intro M' m1 m2 m3
    rw [X_act_congr Veq, o6] at m2 ⊢
    refine hq _ (Or.inr ⟨M6 4424, M6 4425, ?_, ?_, by rw [eV]⟩) M' m1 m2 ⟨fun b b1 b2 b3 b4 => ?_, fun k hk11 => ?_⟩
    · rw [eV, eV1, eV2, eV7]
      rw [o4, dd4 1 (by omega), dd4 2 (by omega), s4.1] at nok
      exact nok
    · rw [eV2, eV7]
      rw [dd4 2 (by omega), s4.1] at nn
      exact nn
    · rw [m3 b b2 b3 (by omega), fM b (by omega) (by omega) (by omega) b1]
    · rw [m3 w (by omega) (by omega) (by omega), f6 w (by omega) (by omega), w4, if_neg hk11]
  rw [o4, dd4 1 (by omega), dd4 2 (by omega), s4.1] at nok
  rw [dd4 2 (by omega), s4.1] at nn
  unfold v_ok v_of at hD
  dsimp only at hD
  obtain ⟨⟨A1, A2⟩, ⟨B1, B2⟩, ⟨C1, C2, C3, C4⟩, ⟨D1, D2, D3, D4⟩, E1, F1, F2⟩ := hD
  have ws : ∀ (k : Nat) (v : Int), (v_ws (M d 3) (M d 7))[k]? = some v → (k : Int) < M d 7 ∧ M (d + 2) k = v := by
    intro k v hv
    have := B2 k
    rw [hv] at this
    by_cases c : (k : Int) < M d 7
    · rw [if_pos c] at this; exact ⟨c, (Option.some.inj this).symm⟩
    · rw [if_neg c] at this; cases this
  have rng : ∀ (k : Nat) (v : Int), (v_ws (M d 3) (M d 7))[k]? = some v → v ≠ 10 → (0 ≤ v ∧ v ≤ 6 → 0 ≤ M6 4425 k ∧ M6 4425 k < M6 (w + 24) v.toNat) ∧ (v = 11 ∨ v = 12 → 0 ≤ M6 4425 k ∧ M6 4425 k < M6 (w + 24) 1) ∧ (v = 13 → (4 ≤ M6 4424 k ∧ M6 4424 k ≤ 6) ∧ 0 ≤ M6 4425 k ∧ M6 4425 k < M6 (w + 24) (M6 4424 k).toNat) := by
    intro k v hv v10
    obtain ⟨kt, kv⟩ := ws k v hv
    have na := nok k kt
    unfold n_at at na
    rw [kv, if_neg v10] at na
    obtain ⟨⟨na1, na2⟩, na3, na4⟩ := na
    have nk := nn k kt (by rw [kv]; exact v10)
    have nf := n_fit_s na4
    unfold n_R at na1 na2 nf
    dsimp only at na1 na2 nf
    change (((M6 4425 k).toNat : Nat) : Int) < M (w + 24) (M6 4424 k).toNat at na2
    rw [z6]
    refine ⟨fun c => ?_, fun c => ?_, fun c => ?_⟩
    · have := nf.1 c
      rw [show v.toNat = (M6 4424 k).toNat by omega]
      omega
    · have := nf.2.1 c
      rw [this] at na2
      omega
    · have := nf.2.2 c
      omega
  have vR0 : ∀ k v, (v_ws (M d 3) (M d 7))[k]? = some v → 0 ≤ v ∧ v ≤ 6 → 0 ≤ M6 4425 k ∧ M6 4425 k < M6 (w + 24) v.toNat := fun k v hv hc => (rng k v hv (by omega)).1 hc
  have vR1 : ∀ k v, (v_ws (M d 3) (M d 7))[k]? = some v → v = 11 ∨ v = 12 → 0 ≤ M6 4425 k ∧ M6 4425 k < M6 (w + 24) 1 := fun k v hv hc => (rng k v hv (by omega)).2.1 hc
  rw [cx6.2.1]
  have ed : M6 d 3 = M d 3 := by rw [s6.1]
  have ea : (v_of M6 d).1 3 = M d 3 := ed
  rw [ed]
  unfold X_act at fin
  rw [ea] at fin
  have pk6 : d_pok (s_dpt M6 d) := by rw [s6.2.1]; exact F1
  have pb6 : s_pb (s_dps M6 d) := by rw [s6.2.2.2.1]; exact F2
  have do6 := s6.2.2.2.2 hdo
  have n9 : 0 ≤ M6 d 9 ∧ M6 d 9 ≤ 999999 := by rw [s6.1]; exact D2
  have day6 : 0 ≤ M6 d 4 ∧ M6 d 4 ≤ 219144 := by rw [s6.1]; exact D1
  refine ⟨fun e => ?_, fun n0 => ?_⟩
  · rw [if_pos e] at fin
    exact X_k_person h6 hw cx6 hd d6 fin
  rw [if_neg n0] at fin
  refine ⟨fun e => ?_, fun n1 => ?_⟩
  · rw [if_pos e] at fin
    rw [e] at vR1
    exact X_k_firm h6 hw cx6 hd d6 (vR1 1 11 rfl (Or.inl rfl)) fin
  rw [if_neg n1] at fin
  refine ⟨fun e => ?_, fun n2 => ?_⟩
  · rw [if_pos e] at fin
    rw [e] at vR1
    exact X_k_guard h6 cx6 (vR1 0 11 rfl (Or.inl rfl)) (vR1 1 11 rfl (Or.inl rfl)) fin
  rw [if_neg n2] at fin
  refine ⟨fun e => ?_, fun n3 => ?_⟩
  · rw [if_pos e] at fin
    rw [e] at vR1
    exact X_k_die h6 rg6 hw cx6 hd do6 pk6 (vR1 0 11 rfl (Or.inl rfl)) (fun _ => by rw [s6.1]; exact C2 e) fin
  rw [if_neg n3] at fin
  refine ⟨fun e => ?_, fun n4 => ?_⟩
  · rw [if_pos e] at fin
    rw [e] at vR1
    exact X_k_close h6 hw cx6 (vR1 0 12 rfl (Or.inr rfl)) fin
  rw [if_neg n4] at fin
  refine ⟨fun e => ?_, fun n5 => ?_⟩
  · rw [if_pos e] at fin
    rw [e] at vR0
    exact X_k_sell h6 rg6 hw cx6 hd d6 do6 pk6 (vR0 0 0 rfl (by omega)) (vR0 1 1 rfl (by omega)) (by rw [s6.1]; exact E1) (by rw [s6.1]; exact C3 e) fin
  rw [if_neg n5] at fin
  refine ⟨fun e => ?_, fun n6 => ?_⟩
  · rw [if_pos e] at fin
    rw [e] at vR0
    exact X_k_split h6 rg6 hw cx6 hd do6 pb6 dk6.1 (vR0 0 0 rfl (by omega)) fin
  rw [if_neg n6] at fin
  refine ⟨fun e => ?_, fun n7 => ?_⟩
  · rw [if_pos e] at fin
    rw [e] at vR0
    exact X_k_join h6 rg6 hw cx6 hd (vR0 0 0 rfl (by omega)) (vR0 1 0 rfl (by omega)) fin
  rw [if_neg n7] at fin
  refine ⟨fun e => ?_, fun n8 => ?_⟩
  · rw [if_pos e] at fin
    rw [e] at vR0
    exact X_k_border h6 rg6 hw cx6 hd do6 pb6 dk6.1 (vR0 0 0 rfl (by omega)) (vR0 1 0 rfl (by omega)) fin
  rw [if_neg n8] at fin
  refine ⟨fun e => ?_, fun n9' => ?_⟩
  · rw [if_pos e] at fin
    have c4 := C4 e
    refine X_k_charge h6 rg6 hw cx6 hd d6 (by rw [s6.1]; omega) (fun i i1 i2 => ?_) fin
    rw [s6.1] at i2
    refine vR0 i 0 ?_ (by omega)
    rw [e]
    show (10 :: (List.replicate (M d 7 - 2).toNat (0 : Int) ++ [1]))[i]? = some 0
    obtain ⟨j, rfl⟩ : ∃ j, i = j + 1 := ⟨i - 1, by omega⟩
    rw [List.getElem?_cons_succ, List.getElem?_append_left (by rw [List.length_replicate]; omega), List.getElem?_replicate, if_pos (by omega)]
  rw [if_neg n9'] at fin
  refine ⟨fun e => ?_, fun n10 => ?_⟩
  · rw [if_pos e] at fin
    rw [e] at vR0
    have r0 : 0 ≤ M6 4425 0 ∧ M6 4425 0 < M6 (w + 24) 2 := vR0 0 2 rfl (by omega)
    exact X_k_pay h6 rg6 hw cx6 hd r0 n9 (am6 (M6 4425 0).toNat (by have := r0.2; show (((M6 4425 0).toNat : Nat) : Int) < M6 (w + 24) 2; omega)) fin
  rw [if_neg n10] at fin
  refine ⟨fun e => ?_, fun n11 => ?_⟩
  · rw [if_pos e] at fin
    rw [e] at vR0
    exact X_k_assign h6 rg6 cx6 (vR0 0 2 rfl (by omega)) fin
  rw [if_neg n11] at fin
  refine ⟨fun e => ?_, fun n12 => ?_⟩
  · rw [if_pos e] at fin
    rw [e] at vR0
    exact X_k_rank h6 hw cx6 (vR0 2 0 rfl (by omega)) fin
  rw [if_neg n12] at fin
  refine ⟨fun e => ?_, fun n13 => ?_⟩
  · rw [if_pos e] at fin
    rw [e] at vR0
    exact X_k_free h6 cx6 (vR0 0 0 rfl (by omega)) (vR0 1 2 rfl (by omega)) fin
  rw [if_neg n13] at fin
  refine ⟨fun e => ?_, fun n14 => ?_⟩
  · rw [if_pos e] at fin
    rw [e] at vR0
    exact X_k_auction h6 rg6 am6 hw cx6 hd n9 (vR0 0 0 rfl (by omega)) (vR0 1 2 rfl (by omega)) (vR0 2 1 rfl (by omega)) fin
  rw [if_neg n14] at fin
  refine ⟨fun e => ?_, fun n15 => ?_⟩
  · rw [if_pos e] at fin
    rw [e] at vR0
    have ep : ∀ k : Nat, (k : Int) < M6 d 18 → g_pt (s_dps M6 d) k = (M6 (d + 5) k, M6 (d + 6) k) := fun k hk18 => by unfold g_pt; rw [s_dps_at hk18]; rfl
    have eX := X_serve_congr (V := v_of M6) (S := w_of M6 w) (r := M6 4425) (d := d) (at_ := at_) (x := fun k => (g_pt (v_of M6 d).2.2.2.2 k).1) (y := fun k => (g_pt (v_of M6 d).2.2.2.2 k).2) (x' := M6 (d + 5)) (y' := M6 (d + 6)) (fun i hi18 => by
      have := ep i hi18
      constructor
      · exact congrArg Prod.fst this
      · exact congrArg Prod.snd this)
    rw [eX] at fin
    refine X_k_serve h6 rg6 hw cx6 hd d6 do6 (fun i hi18 => ?_) (vR0 1 0 rfl (by omega)) (vR0 2 0 rfl (by omega)) fin
    exact pb6 _ (List.mem_of_getElem? (s_dps_at hi18))
  rw [if_neg n15] at fin
  refine ⟨fun e => ?_, fun n16 => ?_⟩
  · rw [if_pos e] at fin
    rw [e] at vR0
    exact X_k_waive h6 rg6 cx6 (vR0 0 3 rfl (by omega)) fin
  rw [if_neg n16] at fin
  refine ⟨fun e => ?_, fun n17 => ?_⟩
  · rw [if_pos e] at fin
    rw [e] at vR0
    exact X_k_lease h6 rg6 hw cx6 hd d6 (vR0 1 0 rfl (by omega)) (vR0 2 1 rfl (by omega)) fin
  rw [if_neg n17] at fin
  refine ⟨fun e => ?_, fun n18 => ?_⟩
  · rw [if_pos e] at fin
    exact X_k_caution h6 hw cx6 hd d6 day6 fin
  rw [if_neg n18] at fin
  refine ⟨fun e => ?_, fun n19 => ?_⟩
  · rw [if_pos e] at fin
    rw [e] at vR0
    exact X_k_option h6 rg6 hw cx6 hd d6 (vR0 1 0 rfl (by omega)) fin
  rw [if_neg n19] at fin
  refine ⟨fun e => ?_, fun n20 => ?_⟩
  · rw [if_pos e] at fin
    rw [e] at vR0
    exact X_k_take h6 rg6 hw cx6 hd day6 (vR0 0 6 rfl (by omega)) sl6 fin
  rw [if_neg n20] at fin
  have e21 : M d 3 = 221 := by omega
  rw [e21] at rng
  have r13 := (rng 0 13 rfl (by omega)).2.2 rfl
  exact X_k_end h6 rg6 cx6 r13.1 r13.2 fin
