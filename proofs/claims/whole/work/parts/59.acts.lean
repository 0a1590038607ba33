/-! Acts: one row changed -/
def w_put (S : w_S) (j k : Nat) (v : Int) : w_S := w_setT S j (s_fu (S.2.2.1 j).1 k v, (S.2.2.1 j).2)
def w_lts (S : w_S) (j : Nat) (r : List Int) : w_S := w_setT S j ((S.2.2.1 j).1, r, (S.2.2.1 j).2.2)
def w_ovr (S : w_S) (j : Nat) (r : List Int) : w_S := w_setT S j ((S.2.2.1 j).1, (S.2.2.1 j).2.1, r)
def w_lpt (S : w_S) (i k : Nat) (v : Int) : w_S := w_setL S i (s_fu (S.2.1 i).1 k v, (S.2.1 i).2)
def w_chg (S : w_S) (i : Nat) (r : List Int) : w_S := w_setL S i ((S.2.1 i).1, (S.2.1 i).2.1, r, (S.2.1 i).2.2.2)
def w_ows (S : w_S) (i : Nat) (o : s_Own) : w_S := w_setL S i ((S.2.1 i).1, (S.2.1 i).2.1, (S.2.1 i).2.2.1, o)
def w_fgs (S : w_S) (i : Nat) (f : s_Fig) : w_S := w_setL S i ((S.2.1 i).1, f, (S.2.1 i).2.2)
theorem k_put {M : e_M} {w j k : Nat} {v : Int} (h : w_ok M w) (hj : j < 290) (h9 : k ≠ 9) (h10 : k ≠ 10) : w_ok (e_up M (w_at w j) k v) w ∧ w_of (e_up M (w_at w j) k v) w = w_put (w_of M w) j k v ∧ w_fr M (e_up M (w_at w j) k v) w := by
  obtain ⟨u1, u2, u3⟩ := k_tset h hj (k := k) (v := v) h9 h10
  refine ⟨u1, ?_, u3⟩
  rw [u2]
  unfold w_put
  rw [w_of_t hj]; rfl
theorem k_lts {M M' : e_M} {w j : Nat} {r : List Int} (h : w_ok M w) (hj : j < 290) (q1 : s_row M' (w_at w j + 1) = r) (q2 : s_rok M' (w_at w j + 1)) (q4 : ∀ b, b ≠ w_at w j + 1 → b ≠ w_at w j + 1 + 1 → M' b = M b) : w_ok M' w ∧ w_of M' w = w_lts (w_of M w) j r ∧ w_fr M M' w := by
  have ho : w_tok M' (w_at w j) := by
    have := h.2.2.2 j hj
    unfold w_tok at *
    rw [q4 _ (by omega) (by omega)]
    refine ⟨⟨q2, ?_⟩, this.2⟩
    unfold s_rok
    rw [q4 _ (by omega) (by omega)]
    exact this.1.2
  obtain ⟨u1, u2, u3⟩ := w_upT h hj (M' := M') (fun b hb => q4 b (by omega) (by omega)) ho
  refine ⟨u1, ?_, u3⟩
  rw [u2]
  unfold w_lts
  rw [w_of_t hj]
  unfold x_th
  rw [q1, q4 _ (by omega) (by omega), s_row_congr (M := M) (a := w_at w j + 3) (q4 _ (by omega) (by omega)) (q4 _ (by omega) (by omega))]
theorem k_ovr {M M' : e_M} {w j : Nat} {r : List Int} (h : w_ok M w) (hj : j < 290) (q1 : s_row M' (w_at w j + 3) = r) (q2 : s_rok M' (w_at w j + 3)) (q4 : ∀ b, b ≠ w_at w j + 3 → b ≠ w_at w j + 3 + 1 → M' b = M b) : w_ok M' w ∧ w_of M' w = w_ovr (w_of M w) j r ∧ w_fr M M' w := by
  have ho : w_tok M' (w_at w j) := by
    have := h.2.2.2 j hj
    unfold w_tok at *
    rw [q4 _ (by omega) (by omega)]
    refine ⟨⟨?_, q2⟩, this.2⟩
    unfold s_rok
    rw [q4 _ (by omega) (by omega)]
    exact this.1.1
  obtain ⟨u1, u2, u3⟩ := w_upT h hj (M' := M') (fun b hb => q4 b (by omega) (by omega)) ho
  refine ⟨u1, ?_, u3⟩
  rw [u2]
  unfold w_ovr
  rw [w_of_t hj]
  unfold x_th
  rw [q1, q4 _ (by omega) (by omega), s_row_congr (M := M) (a := w_at w j + 1) (q4 _ (by omega) (by omega)) (q4 _ (by omega) (by omega))]
theorem k_chg {M M' : e_M} {w i : Nat} {r : List Int} (h : w_ok M w) (hi : i < 80) (q1 : s_row M' (w_al w i + 4) = r) (q2 : s_rok M' (w_al w i + 4)) (q4 : ∀ b, b ≠ w_al w i + 4 → b ≠ w_al w i + 4 + 1 → M' b = M b) : w_ok M' w ∧ w_of M' w = w_chg (w_of M w) i r ∧ w_fr M M' w := by
  have ho : w_lok M' (w_al w i) := by
    have := h.2.2.1 i hi
    unfold w_lok s_fok s_ook at *
    rw [q4 _ (by omega) (by omega), q4 _ (by omega) (by omega)]
    exact ⟨this.1, q2, this.2.2⟩
  obtain ⟨u1, u2, u3⟩ := w_upL h hi (M' := M') (fun b hb => q4 b (by omega) (by omega)) ho
  refine ⟨u1, ?_, u3⟩
  rw [u2]
  unfold w_chg
  rw [w_of_l hi]
  unfold x_lot
  rw [q1, q4 _ (by omega) (by omega), s_fig_congr (M := M) (a := w_al w i + 1) (by rw [q4 _ (by omega) (by omega)]) (q4 _ (by omega) (by omega)) (q4 _ (by omega) (by omega)), s_own_congr (M := M) (a := w_al w i) (by rw [q4 _ (by omega) (by omega)]) (q4 _ (by omega) (by omega)) (q4 _ (by omega) (by omega)) (q4 _ (by omega) (by omega))]
theorem k_ows {M M' : e_M} {w i : Nat} {o : s_Own} (h : w_ok M w) (hi : i < 80) (q1 : s_own M' (w_al w i) = o) (q2 : s_ook M' (w_al w i)) (q3 : ∀ k, k ≠ 8 → M' (w_al w i) k = M (w_al w i) k) (q4 : ∀ b, b ≠ w_al w i → b ≠ w_al w i + 6 → b ≠ w_al w i + 7 → b ≠ w_al w i + 8 → M' b = M b) : w_ok M' w ∧ w_of M' w = w_ows (w_of M w) i o ∧ w_fr M M' w := by
  have ho : w_lok M' (w_al w i) := by
    have := h.2.2.1 i hi
    unfold w_lok s_fok s_rok at *
    rw [q4 _ (by omega) (by omega) (by omega) (by omega), q4 _ (by omega) (by omega) (by omega) (by omega)]
    exact ⟨this.1, this.2.1, q2⟩
  obtain ⟨u1, u2, u3⟩ := w_upL h hi (M' := M') (fun b hb => q4 b (by omega) (by omega) (by omega) (by omega)) ho
  refine ⟨u1, ?_, u3⟩
  rw [u2]
  unfold w_ows
  rw [w_of_l hi]
  unfold x_lot
  rw [q1, s_fig_congr (M := M) (a := w_al w i + 1) (by rw [q4 _ (by omega) (by omega) (by omega) (by omega)]) (q4 _ (by omega) (by omega) (by omega) (by omega)) (q4 _ (by omega) (by omega) (by omega) (by omega)), s_row_congr (M := M) (a := w_al w i + 4) (q4 _ (by omega) (by omega) (by omega) (by omega)) (q4 _ (by omega) (by omega) (by omega) (by omega))]
  have : (fun k => if k < 3 then M' (w_al w i) k else 0) = fun k => if k < 3 then M (w_al w i) k else 0 := by
    funext k
    split
    · rw [q3 k (by omega)]
    · rfl
  rw [this]
theorem k_lpt {M : e_M} {w i k : Nat} {v : Int} (h : w_ok M w) (hi : i < 80) (hk : k < 3) : w_ok (e_up M (w_al w i) k v) w ∧ w_of (e_up M (w_al w i) k v) w = w_lpt (w_of M w) i k v ∧ w_fr M (e_up M (w_al w i) k v) w := by
  have ho : w_lok (e_up M (w_al w i) k v) (w_al w i) := by
    have := h.2.2.1 i hi
    unfold w_lok s_fok s_rok s_ook at *
    rw [e_up_row (by omega), e_up_row (by omega), e_up_ne (by omega)]
    exact this
  obtain ⟨u1, u2, u3⟩ := w_upL h hi (M' := e_up M (w_al w i) k v) (fun b hb => e_up_row (by omega)) ho
  refine ⟨u1, ?_, u3⟩
  rw [u2]
  unfold w_lpt
  rw [w_of_l hi]
  unfold x_lot
  rw [s_fig_congr (M := M) (a := w_al w i + 1) (by rw [e_up_row (by omega)]) (e_up_row (by omega)) (e_up_row (by omega)), s_row_congr (M := M) (a := w_al w i + 4) (e_up_row (by omega)) (e_up_row (by omega)), s_own_congr (M := M) (a := w_al w i) (by rw [e_up_ne (by omega)]) (e_up_row (by omega)) (e_up_row (by omega)) (e_up_row (by omega))]
  have : (fun j => if j < 3 then e_up M (w_al w i) k v (w_al w i) j else 0) = s_fu (fun j => if j < 3 then M (w_al w i) j else 0) k v := by
    funext j
    unfold s_fu
    rw [e_up_at]
    by_cases c : j = k
    · subst c; rw [if_pos hk, if_pos rfl, if_pos rfl]
    · rw [if_neg c, if_neg c]
  rw [this]
theorem w_addT_at {S : w_S} {s : Nat} {t : w_T} : (w_addT S s t).2.2.1 (w_F s + (S.1 s).toNat) = t := s_fu_eq
theorem w_put_addT {S : w_S} {s k : Nat} {t : w_T} {v : Int} : w_put (w_addT S s t) (w_F s + (S.1 s).toNat) k v = w_addT S s (s_fu t.1 k v, t.2) := by unfold w_put; rw [w_setT_addT, w_addT_at]
theorem w_lts_addT {S : w_S} {s : Nat} {t : w_T} {r : List Int} : w_lts (w_addT S s t) (w_F s + (S.1 s).toNat) r = w_addT S s (t.1, r, t.2.2) := by unfold w_lts; rw [w_setT_addT, w_addT_at]
theorem w_ovr_addT {S : w_S} {s : Nat} {t : w_T} {r : List Int} : w_ovr (w_addT S s t) (w_F s + (S.1 s).toNat) r = w_addT S s (t.1, t.2.1, r) := by unfold w_ovr; rw [w_setT_addT, w_addT_at]
/-! the acts -/
def a_q (M : e_M) (w : Nat) (Q : Int → e_M → Prop) (r : Int) (S : w_S) : Prop := ∀ M', w_ok M' w → w_of M' w = S → a_fr M M' w → Q r M'
theorem a_q_no {M : e_M} {w : Nat} {Q : Int → e_M → Prop} {r : Int} (h : w_ok M w) (q : a_q M w Q r (w_of M w)) : Q r M := q M h rfl a_fr_refl
theorem k_guard {M : e_M} {w d : Nat} {at_ : Int} {Q : Int → e_M → Prop} (h : w_ok M w) (cx : a_cx M w d at_) (h0 : 0 ≤ M 4425 0 ∧ M 4425 0 < M (w + 24) 1) (h1 : 0 ≤ M 4425 1 ∧ M 4425 1 < M (w + 24) 1)
    (q9 : w_age (w_of M w) (M 4425 0).toNat = true → a_q M w Q 9 (w_of M w))
    (q2 : w_age (w_of M w) (M 4425 0).toNat = false → w_age (w_of M w) (M 4425 1).toNat = false → a_q M w Q 2 (w_of M w))
    (q0 : w_age (w_of M w) (M 4425 0).toNat = false → w_age (w_of M w) (M 4425 1).toNat = true → a_q M w Q 0 (w_put (w_of M w) (w_F 1 + (M 4425 0).toNat) 5 (M 4425 1))) : WX0_guard M Q := by
  unfold WX0_guard VX0_guard
  rw [cx.1]
  refine ⟨by omega, k_age h h0 (fun a => ⟨fun z => by omega, fun _ => a_q_no h (q9 a)⟩) (fun a => ⟨fun _ => ⟨by omega, k_age h h1 (fun b => ⟨fun _ => ⟨by omega, k_at h (by omega) h0.1 h0.2 ⟨by omega, fun M4 e4 => ?_⟩⟩, fun z => by omega⟩) (fun b => ⟨fun z => absurd rfl z, fun _ => a_q_no h (q2 a b)⟩)⟩, fun z => absurd rfl z⟩)⟩
  have hin := w_in (s := 1) (i := (M 4425 0).toNat) h (by omega) (by omega)
  obtain ⟨u1, u2, u3⟩ := k_put h hin (k := 5) (v := M 4425 1) (by omega) (by omega)
  rw [e4]
  exact q0 a b _ u1 u2 (a_fr_of u3)
theorem k_endTerm {M : e_M} {w d : Nat} {at_ : Int} {Q : Int → e_M → Prop} (h : w_ok M w) (hr : w_rg (w_of M w)) (cx : a_cx M w d at_) (hs : 4 ≤ M 4424 0 ∧ M 4424 0 ≤ 6) (h0 : 0 ≤ M 4425 0 ∧ M 4425 0 < M (w + 24) (M 4424 0).toNat)
    (q2 : w_abl (w_of M w) ((w_t (w_of M w) (M 4424 0).toNat (M 4425 0).toNat).1 5).toNat = false → a_q M w Q 2 (w_of M w))
    (q0 : w_abl (w_of M w) ((w_t (w_of M w) (M 4424 0).toNat (M 4425 0).toNat).1 5).toNat = true → a_q M w Q 0 (w_put (w_of M w) (w_F (M 4424 0).toNat + (M 4425 0).toNat) 2 1)) : WX0_endTerm M Q := by
  unfold WX0_endTerm VX0_endTerm
  rw [cx.1, show (0 : Int).toNat = 0 from rfl]
  have hin := w_in (s := (M 4424 0).toNat) (i := (M 4425 0).toNat) h (by omega) (by omega)
  have hrt := (hr.2 (M 4424 0).toNat (M 4425 0).toNat (by omega) (by omega) (by show ((M 4425 0).toNat : Int) < M (w + 24) (M 4424 0).toNat; omega)).1
  rw [w_t_k hin] at hrt q2 q0
  have hp : 0 ≤ M (w_at w (w_F (M 4424 0).toNat + (M 4425 0).toNat)) 5 ∧ M (w_at w (w_F (M 4424 0).toNat + (M 4425 0).toNat)) 5 < M (w + 24) 1 := ⟨hrt.2 (by omega) (by omega), hrt.1⟩
  have hww := (hr.2 1 (M (w_at w (w_F (M 4424 0).toNat + (M 4425 0).toNat)) 5).toNat (by omega) (by omega) (by show ((M (w_at w (w_F (M 4424 0).toNat + (M 4425 0).toNat)) 5).toNat : Int) < M (w + 24) 1; omega)).1.1
  refine ⟨by omega, by omega, k_at h (by omega) h0.1 h0.2 (k_able h hp hww (fun a => ⟨fun _ => ⟨by omega, fun M3 e3 => ?_⟩, fun z => by omega⟩) (fun a => ⟨fun z => absurd rfl z, fun _ => a_q_no h (q2 a)⟩))⟩
  obtain ⟨u1, u2, u3⟩ := k_put h hin (k := 2) (v := 1) (by omega) (by omega)
  rw [e3]
  exact q0 a _ u1 u2 (a_fr_of u3)
theorem k_assign {M : e_M} {w d : Nat} {at_ : Int} {Q : Int → e_M → Prop} (h : w_ok M w) (hr : w_rg (w_of M w)) (cx : a_cx M w d at_) (h0 : 0 ≤ M 4425 0 ∧ M 4425 0 < M (w + 24) 2)
    (q2 : w_abl (w_of M w) ((w_t (w_of M w) 2 (M 4425 0).toNat).1 5).toNat = false → a_q M w Q 2 (w_of M w))
    (q9 : w_abl (w_of M w) ((w_t (w_of M w) 2 (M 4425 0).toNat).1 5).toNat = true → (w_t (w_of M w) 2 (M 4425 0).toNat).1 5 = M 4425 1 → a_q M w Q 9 (w_of M w))
    (q0 : w_abl (w_of M w) ((w_t (w_of M w) 2 (M 4425 0).toNat).1 5).toNat = true → (w_t (w_of M w) 2 (M 4425 0).toNat).1 5 ≠ M 4425 1 → a_q M w Q 0 (w_put (w_of M w) (w_F 2 + (M 4425 0).toNat) 5 (M 4425 1))) : WX0_assign M Q := by
  unfold WX0_assign VX0_assign
  rw [cx.1]
  have hin := w_in (s := 2) (i := (M 4425 0).toNat) h (by omega) (by omega)
  have hrt := (hr.2 2 (M 4425 0).toNat (by omega) (by omega) (by show ((M 4425 0).toNat : Int) < M (w + 24) 2; omega)).1
  rw [w_t_k hin] at hrt q2 q0 q9
  have hp : 0 ≤ M (w_at w (w_F 2 + (M 4425 0).toNat)) 5 ∧ M (w_at w (w_F 2 + (M 4425 0).toNat)) 5 < M (w + 24) 1 := ⟨hrt.2 (by omega) (by omega), hrt.1⟩
  have hww := (hr.2 1 (M (w_at w (w_F 2 + (M 4425 0).toNat)) 5).toNat (by omega) (by omega) (by show ((M (w_at w (w_F 2 + (M 4425 0).toNat)) 5).toNat : Int) < M (w + 24) 1; omega)).1.1
  refine ⟨by omega, k_at h (by omega) h0.1 h0.2 ?_⟩
  rw [show (2 : Int).toNat = 2 from rfl, show (0 : Int).toNat = 0 from rfl, show (1 : Int).toNat = 1 from rfl]
  refine k_able h hp hww (fun a => ⟨fun _ => ⟨by omega, fun ne => ⟨by omega, fun M3 e3 => ?_⟩, fun e => a_q_no h (q9 a e)⟩, fun z => by omega⟩) (fun a => ⟨fun z => absurd rfl z, fun _ => a_q_no h (q2 a)⟩)
  obtain ⟨u1, u2, u3⟩ := k_put h hin (k := 5) (v := M 4425 1) (by omega) (by omega)
  rw [e3]
  exact q0 a ne _ u1 u2 (a_fr_of u3)
theorem k_makeFirm {M : e_M} {w d : Nat} {at_ : Int} {Q : Int → e_M → Prop} (h : w_ok M w) (hw : a_w w) (cx : a_cx M w d at_) (hd : a_d w d) (hday : M d 4 = M w 11) (h1 : 0 ≤ M 4425 1 ∧ M 4425 1 < M (w + 24) 1)
    (q2 : w_age (w_of M w) (M 4425 1).toNat = false → a_q M w Q 2 (w_of M w))
    (q7 : w_age (w_of M w) (M 4425 1).toNat = true → 40 ≤ M (w + 24) 1 → a_q M w Q 7 (w_of M w))
    (q0 : w_age (w_of M w) (M 4425 1).toNat = true → M (w + 24) 1 < 40 → a_q M w Q 0 (w_addT (w_of M w) 1 (s_fu (s_fu (s_fu (w_new (w_of M w) 1 (M (d + 1) 0) d at_).1 4 (-1)) 7 1) 5 (M 4425 1), [], []))) : WX0_makeFirm M Q := by
  unfold WX0_makeFirm VX0_makeFirm
  rw [cx.1]
  have hm : w_mx 1 = 40 := rfl
  have hz := w_zb h (show 1 < 8 by omega)
  refine ⟨by omega, k_age h h1 (fun a => ⟨fun _ => k_isFull (s := 1) (by omega) (fun f => ⟨fun z => by omega, fun _ => a_q_no h (q7 a f)⟩) (fun f => ⟨fun _ => k_make h hw cx hd hday (by omega) f (fun N n1 n2 n3 => ?_), fun z => absurd rfl z⟩), fun z => by omega⟩) (fun a => ⟨fun z => absurd rfl z, fun _ => a_q_no h (q2 a)⟩)⟩
  have f' : M (w + 24) 1 < 40 := f
  rw [show (1 : Int).toNat = 1 from rfl] at n2 ⊢
  have hin : w_F 1 + (M (w + 24) 1).toNat < 290 := by have : w_F 1 = 0 := rfl; omega
  generalize hJ : w_F 1 + (M (w + 24) 1).toNat = J at *
  intro M5 e5 M6 e6
  obtain ⟨u1, u2, u3⟩ := k_put n1 hin (k := 4) (v := -1) (by omega) (by omega)
  rw [← e5] at u1 u2 u3
  obtain ⟨v1, v2, v3⟩ := k_put u1 hin (k := 7) (v := 1) (by omega) (by omega)
  rw [← e6] at v1 v2 v3
  have hw' := hw
  unfold a_w at hw'
  have e25 : M6 4425 = M 4425 := by rw [v3 _ (by omega) (by omega), u3 _ (by omega) (by omega), n3 _ (by omega) (by omega)]
  refine ⟨by omega, fun M7 e7 => ?_⟩
  rw [e25] at e7
  obtain ⟨x1, x2, x3⟩ := k_put v1 hin (k := 5) (v := M 4425 1) (by omega) (by omega)
  rw [e7]
  refine q0 a f' _ x1 ?_ (a_fr_of (w_fr_trans n3 (w_fr_trans u3 (w_fr_trans v3 x3))))
  have hJ' : J = w_F 1 + ((w_of M w).1 1).toNat := hJ.symm
  rw [x2, v2, u2, n2, hJ', w_put_addT, w_put_addT, w_put_addT]
  rfl
