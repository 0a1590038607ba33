/-! Acts: what the NAMES stand for -/
def n_fit (S : w_S) (want : Int) (s i : Nat) : Bool := w_thr S s i && (if want = 11 then decide (s = 1) && decide ((w_t S 1 i).1 7 = 0) else if want = 12 then decide (s = 1) && (decide (i ≠ 0) && decide ((w_t S 1 i).1 7 = 1)) else if want = 13 then decide (s = 4 ∨ s = 5 ∨ s = 6) else decide ((s : Int) = want))
theorem k_fits {M : e_M} {w d : Nat} {at_ want s n : Int} {Q : Int → Prop} (h : w_ok M w) (cx : a_cx M w d at_) (hs : 0 ≤ s ∧ s < 7) (hn : 0 ≤ n ∧ n < M (w + 24) s.toNat) (q1 : n_fit (w_of M w) want s.toNat n.toNat = true → Q 1) (q0 : n_fit (w_of M w) want s.toNat n.toNat = false → Q 0) : WX0_fits want s n M Q := by
  unfold WX0_fits VX0_fits
  rw [cx.1]
  unfold n_fit at q1 q0
  refine k_there h (by omega) hn (fun t => ⟨fun _ => ?_, fun z => by omega⟩) (fun t => ⟨fun z => absurd rfl z, fun _ => q0 (by rw [t]; rfl)⟩)
  rw [t, Bool.true_and] at q1 q0
  refine ⟨fun e => ?_, fun n11 => ⟨fun e => ?_, fun n12 => ⟨fun e => ?_, fun n13 => ?_⟩⟩⟩
  · rw [if_pos e] at q1 q0
    refine ⟨fun ne => q0 (by rw [decide_eq_false (by omega)]; rfl), fun e1 => ?_⟩
    subst e1
    have hin := w_in (s := 1) (i := n.toNat) h (by omega) (by have : n < M (w + 24) 1 := hn.2; omega)
    rw [w_t_k hin] at q1 q0
    refine k_at h (by omega) hn.1 hn.2 ⟨fun ne => q0 ?_, fun e0 => q1 ?_⟩
    · rw [show decide (M (w_at w (w_F 1 + n.toNat)) 7 = 0) = false from decide_eq_false ne, Bool.and_false]
    · rw [show decide (M (w_at w (w_F 1 + n.toNat)) 7 = 0) = true from decide_eq_true e0]; rfl
  · rw [if_neg n11, if_pos e] at q1 q0
    refine ⟨fun ne => q0 (by rw [decide_eq_false (by omega)]; rfl), fun e1 => ⟨fun z => q0 ?_, fun nz => ?_⟩⟩
    · rw [decide_eq_false (p := n.toNat ≠ 0) (by omega), Bool.false_and, Bool.and_false]
    · subst e1
      have hin := w_in (s := 1) (i := n.toNat) h (by omega) (by have : n < M (w + 24) 1 := hn.2; omega)
      rw [w_t_k hin] at q1 q0
      refine k_at h (by omega) hn.1 hn.2 ⟨fun ne => q0 ?_, fun e0 => q1 ?_⟩
      · rw [show decide (M (w_at w (w_F 1 + n.toNat)) 7 = 1) = false from decide_eq_false ne, Bool.and_false, Bool.and_false]
      · rw [show decide (M (w_at w (w_F 1 + n.toNat)) 7 = 1) = true from decide_eq_true e0, decide_eq_true (p := n.toNat ≠ 0) (by omega)]; rfl
  · rw [if_neg n11, if_neg n12, if_pos e] at q1 q0
    refine ⟨fun z => q1 (decide_eq_true (by omega)), fun n4 => ⟨fun z => q1 (decide_eq_true (by omega)), fun n5 => ⟨fun n6 => q0 (decide_eq_false (by omega)), fun z => q1 (decide_eq_true (by omega))⟩⟩⟩
  · rw [if_neg n11, if_neg n12, if_neg n13] at q1 q0
    exact ⟨fun ne => q0 (decide_eq_false (by omega)), fun z => q1 (decide_eq_true (by omega))⟩
/-- no two have one NAME -/
def w_un (S : w_S) : Prop := ∀ s i s' i' : Nat, s < 7 → s' < 7 → (i : Int) < w_z S s → (i' : Int) < w_z S s' → w_nm S s i = w_nm S s' i' → s = s' ∧ i = i'
def n_at (S : w_S) (nm wt : Nat → Int) (R : Nat → Nat × Nat) (k : Nat) : Prop := if wt k = 10 then (∀ s i : Nat, s < 7 → (i : Int) < w_z S s → w_nm S s i ≠ nm k) ∧ (∀ j, j < k → nm j ≠ nm k) else ((R k).1 < 7 ∧ ((R k).2 : Int) < w_z S (R k).1) ∧ w_nm S (R k).1 (R k).2 = nm k ∧ n_fit S (wt k) (R k).1 (R k).2 = true
def n_ok (S : w_S) (nm wt : Nat → Int) (told : Int) (R : Nat → Nat × Nat) : Prop := ∀ k : Nat, (k : Int) < told → n_at S nm wt R k
theorem n_at_congr {S : w_S} {nm wt : Nat → Int} {R R' : Nat → Nat × Nat} {k : Nat} (e : R' k = R k) (h : n_at S nm wt R k) : n_at S nm wt R' k := by
  unfold n_at at *
  rw [e]; exact h
def n_R (M : e_M) : Nat → Nat × Nat := fun k => ((M 4424 k).toNat, (M 4425 k).toNat)
theorem w_same {M N : e_M} {w : Nat} (h : w_ok M w) (hf : ∀ b, w ≤ b → b < w + 2199 → N b = M b) : w_ok N w ∧ w_of N w = w_of M w := by
  have e24 : N (w + 24) = M (w + 24) := hf _ (by omega) (by omega)
  have eW : N w = M w := hf _ (by omega) (by omega)
  have hl : ∀ k, k < 80 → x_lot N (w_al w k) = x_lot M (w_al w k) := fun k hk => x_lot_congr (fun b b1 b2 => hf b (by unfold w_al at b1; omega) (by unfold w_al at b2; omega))
  have ht : ∀ k, k < 290 → x_th N (w_at w k) = x_th M (w_at w k) := fun k hk => x_th_congr (fun b b1 b2 => hf b (by unfold w_at at b1; omega) (by unfold w_at at b2; omega))
  obtain ⟨⟨h1, h2⟩, h3, h4, h5⟩ := h
  refine ⟨⟨⟨fun k hk => by rw [hf _ (by omega) (by omega)]; exact h1 k hk, fun k hk => by rw [hf _ (by omega) (by omega)]; exact h2 k hk⟩, fun s hs => by rw [e24]; exact h3 s hs, fun k hk => ?_, fun k hk => ?_⟩, ?_⟩
  · have := h4 k hk
    unfold w_lok s_fok s_rok s_ook w_al at *
    rw [hf _ (by omega) (by omega), hf _ (by omega) (by omega), hf _ (by omega) (by omega)]
    exact this
  · have := h5 k hk
    unfold w_tok s_rok w_at at *
    rw [hf _ (by omega) (by omega), hf _ (by omega) (by omega), hf _ (by omega) (by omega)]
    exact this
  · refine w_of_ext e24 (fun k hk => ?_) (fun k hk => (w_of_ln hk).symm) (fun k hk => ?_) (fun k hk => (w_of_tn hk).symm) (by rw [eW]; rfl)
    · rw [hl k hk, w_of_l hk]
    · rw [ht k hk, w_of_t hk]
theorem k_findNames {M : e_M} {w d : Nat} {at_ : Int} {Q : Int → e_M → Prop} (h : w_ok M w) (hw : a_w w) (hun : w_un (w_of M w)) (cx : a_cx M w d at_) (hd : a_d w d) (hdo : s_dok M d)
    (q1 : ∀ M', n_ok (w_of M w) (M (d + 1)) (M (d + 2)) (M d 7) (n_R M') → (∀ k : Nat, (k : Int) < M d 7 → M (d + 2) k ≠ 10 → 0 ≤ M' 4424 k ∧ 0 ≤ M' 4425 k) → (∀ b, b ≠ 4424 → b ≠ 4425 → M' b = M b) → Q 1 M')
    (q0 : (∀ R, ¬ n_ok (w_of M w) (M (d + 1)) (M (d + 2)) (M d 7) R) → ∀ M', (∀ b, b ≠ 4424 → b ≠ 4425 → M' b = M b) → Q 0 M') : WX0_findNames M Q := by
  unfold a_w at hw
  unfold a_d at hd
  obtain ⟨g0, g8⟩ := hdo.1
  unfold WX0_findNames VX0_findNames
  refine s_up (P := fun dd i N => WX0_findNames_2 Q dd i N) (n := M d 7) (fun i N => (∀ b, b ≠ 4424 → b ≠ 4425 → N b = M b) ∧ (∀ k : Nat, (k : Int) < i → n_at (w_of M w) (M (d + 1)) (M (d + 2)) (n_R N) k) ∧ ∀ k : Nat, (k : Int) < i → M (d + 2) k ≠ 10 → 0 ≤ N 4424 k ∧ 0 ≤ N 4425 k) g0 ⟨fun _ _ _ => rfl, fun k hk => by omega, fun k hk => by omega⟩ ?_ ?_
  · intro d2 N ⟨n1, n2, n3⟩
    unfold WX0_findNames_2 VX0_findNames_2
    rw [n1 4423 (by omega) (by omega), cx.1, cx.2.1, n1 d (by omega) (by omega)]
    exact ⟨fun _ => q1 N n2 n3 n1, fun z => by omega⟩
  · intro d2 i N k1 k2 ⟨n1, n2, n3⟩ ih
    have ri : 0 ≤ i ∧ i < 8 := by omega
    have eI : ((i.toNat : Nat) : Int) = i := by omega
    have wN := w_same h (N := N) (fun b b1 b2 => n1 b (by omega) (by omega))
    have bad : ¬ (∃ R, n_at (w_of M w) (M (d + 1)) (M (d + 2)) R i.toNat) → ∀ N', (∀ b, b ≠ 4424 → b ≠ 4425 → N' b = M b) → Q 0 N' := fun ne N' hN' => q0 (fun R hR => ne ⟨R, hR i.toNat (by omega)⟩) N' hN'
    have go : ∀ N', (∀ b, b ≠ 4424 → b ≠ 4425 → N' b = M b) → (∀ k : Nat, (k : Int) < i → n_R N' k = n_R N k ∧ N' 4424 k = N 4424 k ∧ N' 4425 k = N 4425 k) → n_at (w_of M w) (M (d + 1)) (M (d + 2)) (n_R N') i.toNat → (M (d + 2) i.toNat ≠ 10 → 0 ≤ N' 4424 i.toNat ∧ 0 ≤ N' 4425 i.toNat) → WX0_findNames_111 (WX0_findNames_2 Q d2) Q i N' := by
      intro N' p1 p2 p3 p4
      show WX0_findNames_2 Q d2 (e_w32 (i + 1)) N'
      rw [s_w (by omega) (by omega)]
      refine ih N' ⟨p1, fun k hk => ?_, fun k hk hk10 => ?_⟩
      · by_cases c : (k : Int) = i
        · rw [show k = i.toNat by omega]; exact p3
        · exact n_at_congr (p2 k (by omega)).1 (n2 k (by omega))
      · by_cases c : (k : Int) = i
        · rw [show k = i.toNat by omega] at hk10 ⊢; exact p4 hk10
        · rw [(p2 k (by omega)).2.1, (p2 k (by omega)).2.2]; exact n3 k (by omega) hk10
    unfold WX0_findNames_2 VX0_findNames_2
    rw [n1 4423 (by omega) (by omega), cx.1, cx.2.1, n1 d (by omega) (by omega), n1 (d + 1) (by omega) (by omega), n1 (d + 2) (by omega) (by omega)]
    refine ⟨fun z => by omega, fun _ => ⟨ri, k_find wN.1 (fun r1 hr1 => ⟨ri, fun y2 ey => ?_⟩)⟩⟩
    rw [wN.2] at hr1
    subst ey
    refine ⟨fun n10 => ⟨fun ge => ⟨by omega, ri, fun M3 e3 => ⟨by omega, ri, fun M4 e4 => ⟨ri, ri, ?_⟩⟩⟩, fun lt => bad ?_ N n1⟩, fun e10 => ⟨fun ge => bad ?_ N n1, fun lt => ?_⟩⟩
    · rcases hr1 with ⟨e, -⟩ | ⟨s, j, s7, hj, hnm, er⟩
      · omega
      have hz := w_zb h (show s < 8 by omega)
      have hmx : w_mx s ≤ 80 := by unfold w_mx; (repeat' split) <;> omega
      have hj' : (j : Int) < M (w + 24) s := hj
      have et : r1.tdiv 100 = (s : Int) := by rw [Int.tdiv_eq_ediv_of_nonneg ge]; omega
      have em : r1.tmod 100 = (j : Int) := by rw [Int.tmod_eq_emod_of_nonneg ge]; omega
      rw [et, s_w (by omega) (by omega)] at e3
      rw [em] at e4
      have f4 : ∀ b, b ≠ 4424 → b ≠ 4425 → M4 b = M b := fun b b1 b2 => by rw [e4, e_up_row b2, e3, e_up_row b1, n1 b b1 b2]
      have c24 : ∀ k, M4 4424 k = if k = i.toNat then (s : Int) else N 4424 k := fun k => by rw [e4, e_up_row (by omega), e3, e_up_at]
      have c25 : ∀ k, M4 4425 k = if k = i.toNat then (j : Int) else N 4425 k := fun k => by rw [e4, e_up_at, e3, e_up_row (by omega)]
      have a24 : M4 4424 i.toNat = s := by rw [c24, if_pos rfl]
      have a25 : M4 4425 i.toNat = j := by rw [c25, if_pos rfl]
      rw [a24, a25]
      have eR : n_R M4 i.toNat = (s, j) := by unfold n_R; rw [a24, a25]; exact Prod.ext (by show ((s : Int)).toNat = s; omega) (by show ((j : Int)).toNat = j; omega)
      have w4 := w_same h (N := M4) (fun b b1 b2 => f4 b (by omega) (by omega))
      have z4 : M4 (w + 24) = M (w + 24) := f4 _ (by omega) (by omega)
      have es : ((s : Nat) : Int).toNat = s := by omega
      have ej : ((j : Nat) : Int).toNat = j := by omega
      refine k_fits w4.1 (a_cx_congr cx (f4 4423 (by omega) (by omega))) (by omega) ⟨by omega, by rw [es, z4]; exact hj'⟩ (fun t => ⟨fun _ => go M4 f4 (fun k hk => ?_) ?_ (fun _ => by rw [a24, a25]; omega), fun z => by omega⟩) (fun t => ⟨fun z => absurd rfl z, fun _ => bad ?_ M4 f4⟩)
      · have nk : k ≠ i.toNat := by omega
        refine ⟨?_, by rw [c24, if_neg nk], by rw [c25, if_neg nk]⟩
        unfold n_R
        rw [c24, c25, if_neg nk, if_neg nk]
      · unfold n_at
        rw [if_neg n10, eR]
        rw [w4.2, es, ej] at t
        exact ⟨⟨s7, hj⟩, hnm, t⟩
      · rintro ⟨R, hR⟩
        unfold n_at at hR
        rw [if_neg n10] at hR
        obtain ⟨x1, x2⟩ := hun _ _ _ _ hR.1.1 s7 hR.1.2 hj (hR.2.1.trans hnm.symm)
        rw [w4.2, es, ej] at t
        have := hR.2.2
        rw [x1, x2, t] at this
        cases this
    · rintro ⟨R, hR⟩
      unfold n_at at hR
      rw [if_neg n10] at hR
      rcases hr1 with ⟨e, hno⟩ | ⟨s, j, s7, hj, hnm, er⟩
      · exact hno _ _ hR.1.1 hR.1.2 hR.2.1
      · omega
    · rintro ⟨R, hR⟩
      unfold n_at at hR
      rw [if_pos e10] at hR
      rcases hr1 with ⟨e, hno⟩ | ⟨s, j, s7, hj, hnm, er⟩
      · omega
      · exact hR.1 s j s7 hj hnm
    · rcases hr1 with ⟨e, hno⟩ | ⟨s, j, s7, hj, hnm, er⟩
      · have eN1 : N (d + 1) = M (d + 1) := n1 _ (by omega) (by omega)
        have eN : N d = M d := n1 _ (by omega) (by omega)
        refine c_isToldBefore (by unfold s_dok; rw [eN]; exact hdo) (by rw [eN]; omega) (fun ⟨j, hj, ej⟩ => ⟨fun z => by omega, fun _ => bad ?_ N n1⟩) (fun hno2 => ⟨fun _ => go N n1 (fun k _ => ⟨rfl, rfl, rfl⟩) ?_ (fun z => absurd e10 z), fun z => absurd rfl z⟩)
        · rintro ⟨R, hR⟩
          unfold n_at at hR
          rw [if_pos e10] at hR
          rw [eN1] at ej
          exact hR.2 j (by omega) ej
        · unfold n_at
          rw [if_pos e10]
          rw [eN1] at hno2
          exact ⟨fun s i s7 hi => hno s i s7 hi, fun j hj => hno2 j (by omega)⟩
      · omega
