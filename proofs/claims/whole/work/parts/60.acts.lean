/-! Acts: CHARGES and terms -/
def w_leave (S : w_S) (j : Nat) (l : Int) : w_S := if (r_del (S.2.2.1 j).2.1 l).length = 0 then w_put (w_lts S j (r_del (S.2.2.1 j).2.1 l)) j 2 1 else w_lts S j (r_del (S.2.2.1 j).2.1 l)
theorem k_leave {M : e_M} {w j : Nat} {l : Int} {Q : e_M → Prop} (h : w_ok M w) (hj : j < 290) (hq : ∀ M', w_ok M' w → w_of M' w = w_leave (w_of M w) j l → w_fr M M' w → Q M') : WX0_leaveLot (w_at w j) l M Q := by
  have rf := w_ref h hj
  unfold WX0_leaveLot VX0_leaveLot
  rw [rf.1]
  refine c_remove (h.2.2.2 j hj).1.1 (fun M1 q1 q2 q3 q4 => ?_)
  obtain ⟨u1, u2, u3⟩ := k_lts h hj q1 q2 q4
  have e1 : M1 (w_at w j) = M (w_at w j) := q4 _ (by omega) (by omega)
  rw [e1, rf.1]
  have hl := s_row_len q2
  rw [q1] at hl
  unfold w_leave at hq
  rw [w_of_t hj] at hq
  change ∀ M', w_ok M' w → w_of M' w = (if (r_del (s_row M (w_at w j + 1)) l).length = 0 then w_put (w_lts (w_of M w) j (r_del (s_row M (w_at w j + 1)) l)) j 2 1 else w_lts (w_of M w) j (r_del (s_row M (w_at w j + 1)) l)) → w_fr M M' w → Q M' at hq
  refine ⟨fun ne => hq M1 u1 (by rw [if_neg (by omega)]; exact u2) u3, fun e => ⟨by omega, fun M2 e2 => ?_⟩⟩
  obtain ⟨v1, v2, v3⟩ := k_put u1 hj (k := 2) (v := 1) (by omega) (by omega)
  rw [e2]
  exact hq _ v1 (by rw [if_pos (by omega), v2, u2]) (w_fr_trans u3 v3)
def w_free (S : w_S) (l c : Nat) : w_S := w_leave (w_chg S l (r_del (S.2.1 l).2.2.1 c)) (w_F 2 + c) l
theorem k_freeLot {M : e_M} {w d : Nat} {at_ l c : Int} {Q : e_M → Prop} (h : w_ok M w) (cx : a_cx M w d at_) (hl : 0 ≤ l ∧ l < M (w + 24) 0) (hc : 0 ≤ c ∧ c < M (w + 24) 2) (hq : ∀ M', w_ok M' w → w_of M' w = w_free (w_of M w) l.toNat c.toNat → w_fr M M' w → Q M') : WX0_freeLot l c M Q := by
  have hi : l.toNat < 80 := w_in0 h (by omega)
  have hin := w_in (s := 2) (i := c.toNat) h (by omega) (by omega)
  unfold WX0_freeLot VX0_freeLot
  rw [cx.1]
  refine k_at h (by omega) hc.1 hc.2 (k_lot h hl.1 hl.2 (c_remove (h.2.2.1 _ hi).2.1 (fun M3 q1 q2 q3 q4 => ?_)))
  obtain ⟨u1, u2, u3⟩ := k_chg h hi q1 q2 q4
  rw [show (2 : Int).toNat = 2 from rfl]
  refine k_leave u1 hin (fun M' v1 v2 v3 => hq M' v1 ?_ (w_fr_trans u3 v3))
  rw [v2, u2]
  unfold w_free
  rw [w_of_l hi, show ((l.toNat : Nat) : Int) = l by omega, show ((c.toNat : Nat) : Int) = c by omega]
  rfl
theorem k_free {M : e_M} {w d : Nat} {at_ : Int} {Q : Int → e_M → Prop} (h : w_ok M w) (cx : a_cx M w d at_) (h0 : 0 ≤ M 4425 0 ∧ M 4425 0 < M (w + 24) 0) (h1 : 0 ≤ M 4425 1 ∧ M 4425 1 < M (w + 24) 2)
    (q9 : M 4425 1 ∉ (w_l (w_of M w) (M 4425 0).toNat).2.2.1 → a_q M w Q 9 (w_of M w))
    (q0 : M 4425 1 ∈ (w_l (w_of M w) (M 4425 0).toNat).2.2.1 → a_q M w Q 0 (w_free (w_of M w) (M 4425 0).toNat (M 4425 1).toNat)) : WX0_free M Q := by
  have hi : (M 4425 0).toNat < 80 := w_in0 h (by omega)
  rw [w_l_e hi] at q9 q0
  unfold WX0_free VX0_free
  rw [cx.1]
  refine ⟨by omega, k_lot h h0.1 h0.2 ⟨by omega, c_has (h.2.2.1 _ hi).2.1 (fun m => ⟨fun _ => ⟨by omega, by omega, k_freeLot h cx h0 h1 (fun M' v1 v2 v3 => q0 m M' v1 v2 (a_fr_of v3))⟩, fun z => by omega⟩) (fun m => ⟨fun z => absurd rfl z, fun _ => a_q_no h (q9 m)⟩)⟩⟩
/-- a CHARGE taken off the rows of LOTS -/
def w_dels (S : w_S) (c : Int) (ls : List Int) : w_S := ls.foldl (fun S l => w_chg S l.toNat (r_del (S.2.1 l.toNat).2.2.1 c)) S
theorem w_dels_t {c : Int} : ∀ {ls : List Int} {S : w_S}, (w_dels S c ls).2.2 = S.2.2 ∧ (w_dels S c ls).1 = S.1
  | [], S => ⟨rfl, rfl⟩
  | l :: ls, S => by
    show (w_dels (w_chg S l.toNat _) c ls).2.2 = S.2.2 ∧ (w_dels (w_chg S l.toNat _) c ls).1 = S.1
    rw [(w_dels_t (c := c) (ls := ls)).1, (w_dels_t (c := c) (ls := ls)).2]
    exact ⟨rfl, rfl⟩
def w_endc (S : w_S) (c : Nat) : w_S := w_put (w_lts (w_dels S c (S.2.2.1 (w_F 2 + c)).2.1) (w_F 2 + c) []) (w_F 2 + c) 2 1
theorem k_endCharge {M : e_M} {w d : Nat} {at_ c : Int} {Q : e_M → Prop} (h : w_ok M w) (hw : a_w w) (cx : a_cx M w d at_) (hc : 0 ≤ c ∧ c < M (w + 24) 2) (hls : ∀ l ∈ (w_t (w_of M w) 2 c.toNat).2.1, 0 ≤ l ∧ l < M (w + 24) 0) (hq : ∀ M', w_ok M' w → w_of M' w = w_endc (w_of M w) c.toNat → w_fr M M' w → Q M') : WX0_endCharge c M Q := by
  unfold a_w at hw
  have hin := w_in (s := 2) (i := c.toNat) h (by omega) (by omega)
  have rf := w_ref h hin
  have tr := w_t_row (M := M) (w := w) hin
  rw [tr.1] at hls
  have hq' : ∀ M', w_ok M' w → w_of M' w = w_put (w_lts (w_dels (w_of M w) c (s_row M (w_at w (w_F 2 + c.toNat) + 1))) (w_F 2 + c.toNat) []) (w_F 2 + c.toNat) 2 1 → w_fr M M' w → Q M' := fun M' v1 v2 v3 => hq M' v1 (by
    unfold w_endc
    rw [v2, w_of_t hin, show ((c.toNat : Nat) : Int) = c by omega]; rfl) v3
  unfold WX0_endCharge VX0_endCharge
  rw [cx.1]
  refine k_at h (by omega) hc.1 hc.2 ?_
  rw [show (2 : Int).toNat = 2 from rfl]
  generalize hJ : w_F 2 + c.toNat = J at *
  have hk := (h.2.2.2 J hin).1.1
  have hl := s_row_len hk
  obtain ⟨hk0, hk8⟩ := id hk
  refine s_up (P := fun d i N => WX0_endCharge_12 Q d c (w_at w J) i N) (n := M (w_at w J + 1) 1) (fun i N => w_ok N w ∧ w_of N w = w_dels (w_of M w) c ((s_row M (w_at w J + 1)).take i.toNat) ∧ w_fr M N w) hk.1 ⟨h, rfl, w_fr_refl⟩ ?_ ?_
  · intro d2 N ⟨n1, n2, n3⟩
    have et : x_th N (w_at w J) = x_th M (w_at w J) := by
      have := congrFun (congrArg (fun S : w_S => S.2.2.1) n2) J
      rw [w_of_t hin, (w_dels_t (c := c)).1, w_of_t hin] at this
      exact this
    have er : s_row N (w_at w J + 1) = s_row M (w_at w J + 1) := congrArg (fun t : w_T => t.2.1) et
    have hl2 := s_row_len (n1.2.2.2 J hin).1.1
    rw [er] at hl2
    unfold WX0_endCharge_12 VX0_endCharge_12
    rw [(w_ref n1 hin).1]
    refine ⟨fun _ => c_rclear (fun A a1 a2 a3 a4 => ⟨by omega, fun B e => ?_⟩), fun z => by omega⟩
    obtain ⟨u1, u2, u3⟩ := k_lts n1 hin a1 a2 (fun b b1 _ => a4 b b1)
    obtain ⟨v1, v2, v3⟩ := k_put u1 hin (k := 2) (v := 1) (by omega) (by omega)
    rw [e]
    refine hq' _ v1 ?_ (w_fr_trans n3 (w_fr_trans u3 v3))
    rw [v2, u2, n2, List.take_of_length_le (by omega)]
  · intro d2 i N k1 k2 ⟨n1, n2, n3⟩ ih
    have et : x_th N (w_at w J) = x_th M (w_at w J) := by
      have := congrFun (congrArg (fun S : w_S => S.2.2.1) n2) J
      rw [w_of_t hin, (w_dels_t (c := c)).1, w_of_t hin] at this
      exact this
    have er : s_row N (w_at w J + 1) = s_row M (w_at w J + 1) := congrArg (fun t : w_T => t.2.1) et
    have hk2 := (n1.2.2.2 J hin).1.1
    have hl2 := s_row_len hk2
    rw [er] at hl2
    have nz : N (w + 24) = M (w + 24) := by
      have := congrArg (fun S : w_S => S.1) n2
      rw [(w_dels_t (c := c)).2] at this
      exact this
    unfold WX0_endCharge_12 VX0_endCharge_12
    rw [(w_ref n1 hin).1, (a_cx_congr cx (n3 4423 (by omega) (by omega))).1]
    have hg := s_row_at (M := M) (a := w_at w J + 1) (i := i.toNat) (by omega)
    have hv := hls _ (List.mem_of_getElem? hg)
    refine ⟨fun z => by omega, fun _ => c_rget hk2 ?_⟩
    rw [er, w_row_get k1 hg]
    generalize hV : M (w_at w J + 1 + 1) i.toNat = v at *
    have hi : v.toNat < 80 := w_in0 h (by omega)
    refine k_lot n1 hv.1 (by rw [nz]; exact hv.2) (c_remove (n1.2.2.1 _ hi).2.1 (fun M5 q1 q2 q3 q4 => ?_))
    obtain ⟨u1, u2, u3⟩ := k_chg n1 hi q1 q2 q4
    rw [s_w (by omega) (by omega)]
    refine ih M5 ⟨u1, ?_, w_fr_trans n3 u3⟩
    rw [u2, show (i + 1).toNat = i.toNat + 1 by omega, List.take_add_one, hg]
    show _ = w_dels (w_of M w) c (List.take i.toNat (s_row M (w_at w J + 1)) ++ [v])
    unfold w_dels at n2 ⊢
    rw [List.foldl_append, ← n2]
    show _ = w_chg (w_of N w) v.toNat (r_del ((w_of N w).2.1 v.toNat).2.2.1 c)
    rw [w_of_l hi]; rfl
theorem k_pay {M : e_M} {w d : Nat} {at_ : Int} {Q : Int → e_M → Prop} (h : w_ok M w) (hr : w_rg (w_of M w)) (hw : a_w w) (cx : a_cx M w d at_) (hd : a_d w d) (h0 : 0 ≤ M 4425 0 ∧ M 4425 0 < M (w + 24) 2) (hn : 0 ≤ M d 9 ∧ M d 9 ≤ 999999) (ham : 0 ≤ (w_t (w_of M w) 2 (M 4425 0).toNat).1 6 ∧ (w_t (w_of M w) 2 (M 4425 0).toNat).1 6 ≤ 999999)
    (q6 : (M d 9 = 0 ∨ (w_t (w_of M w) 2 (M 4425 0).toNat).1 6 < M d 9) → a_q M w Q 6 (w_of M w))
    (q0 : M d 9 ≠ 0 → M d 9 < (w_t (w_of M w) 2 (M 4425 0).toNat).1 6 → a_q M w Q 0 (w_put (w_of M w) (w_F 2 + (M 4425 0).toNat) 6 ((w_t (w_of M w) 2 (M 4425 0).toNat).1 6 - M d 9)))
    (q0e : M d 9 ≠ 0 → M d 9 = (w_t (w_of M w) 2 (M 4425 0).toNat).1 6 → a_q M w Q 0 (w_endc (w_put (w_of M w) (w_F 2 + (M 4425 0).toNat) 6 0) (M 4425 0).toNat)) : WX0_pay M Q := by
  have hin := w_in (s := 2) (i := (M 4425 0).toNat) h (by omega) (by omega)
  rw [w_t_k hin] at q6 q0 q0e ham
  unfold a_w at hw
  unfold a_d at hd
  unfold WX0_pay VX0_pay
  rw [cx.1, cx.2.1]
  refine ⟨by omega, k_at h (by omega) h0.1 h0.2 ?_⟩
  rw [show (2 : Int).toNat = 2 from rfl, show (0 : Int).toNat = 0 from rfl]
  refine ⟨fun e => a_q_no h (q6 (Or.inl e)), fun ne => ⟨fun le => fun M2 e2 => ?_, fun lt => a_q_no h (q6 (Or.inr lt))⟩⟩
  rw [s_w (by omega) (by omega)] at e2
  obtain ⟨u1, u2, u3⟩ := k_put h hin (k := 6) (v := M (w_at w (w_F 2 + (M 4425 0).toNat)) 6 - M d 9) (by omega) (by omega)
  rw [← e2] at u1 u2 u3
  have e6 : M2 (w_at w (w_F 2 + (M 4425 0).toNat)) 6 = M (w_at w (w_F 2 + (M 4425 0).toNat)) 6 - M d 9 := by rw [e2, e_up_eq]
  rw [e6]
  refine ⟨fun z => q0 ne (by omega) M2 u1 u2 (a_fr_of u3), fun z => ⟨by omega, ?_⟩⟩
  have e25 : M2 4425 = M 4425 := u3 _ (by omega) (by omega)
  have ez : M2 (w + 24) = M (w + 24) := congrArg (fun S : w_S => S.1) u2
  rw [e25]
  refine k_endCharge u1 (by unfold a_w; omega) (a_cx_congr cx (u3 4423 (by omega) (by omega))) (by rw [ez]; exact h0) ?_ (fun M' v1 v2 v3 => q0e ne (by omega) M' v1 ?_ (a_fr_of (w_fr_trans u3 v3)))
  · rw [ez, u2]
    have : (w_t (w_put (w_of M w) (w_F 2 + (M 4425 0).toNat) 6 (M (w_at w (w_F 2 + (M 4425 0).toNat)) 6 - M d 9)) 2 (M 4425 0).toNat).2.1 = (w_t (w_of M w) 2 (M 4425 0).toNat).2.1 := by
      show (s_fu (w_of M w).2.2.1 _ _ (w_F 2 + (M 4425 0).toNat)).2.1 = _
      rw [s_fu_eq]; rfl
    rw [this]
    exact (hr.2 2 (M 4425 0).toNat (by omega) (by omega) (by show ((M 4425 0).toNat : Int) < M (w + 24) 2; omega)).2.1
  · rw [v2, u2, show M (w_at w (w_F 2 + (M 4425 0).toNat)) 6 - M d 9 = 0 by omega]
theorem k_rank {M : e_M} {w d : Nat} {at_ : Int} {Q : Int → e_M → Prop} (h : w_ok M w) (hw : a_w w) (cx : a_cx M w d at_) (h2 : 0 ≤ M 4425 2 ∧ M 4425 2 < M (w + 24) 0)
    (q9 : ¬ (0 ≤ r_find (w_l (w_of M w) (M 4425 2).toNat).2.2.1 (M 4425 1) ∧ r_find (w_l (w_of M w) (M 4425 2).toNat).2.2.1 (M 4425 1) < r_find (w_l (w_of M w) (M 4425 2).toNat).2.2.1 (M 4425 0)) → a_q M w Q 9 (w_of M w))
    (q0 : (0 ≤ r_find (w_l (w_of M w) (M 4425 2).toNat).2.2.1 (M 4425 1) ∧ r_find (w_l (w_of M w) (M 4425 2).toNat).2.2.1 (M 4425 1) < r_find (w_l (w_of M w) (M 4425 2).toNat).2.2.1 (M 4425 0)) → a_q M w Q 0 (w_chg (w_of M w) (M 4425 2).toNat (r_ins (r_del (w_l (w_of M w) (M 4425 2).toNat).2.2.1 (M 4425 0)) (r_find (w_l (w_of M w) (M 4425 2).toNat).2.2.1 (M 4425 1)) (M 4425 0)))) : WX0_rank M Q := by
  have hi : (M 4425 2).toNat < 80 := w_in0 h (by omega)
  unfold a_w at hw
  rw [w_l_e hi] at q9 q0
  change ¬ (0 ≤ r_find (s_row M (w_al w (M 4425 2).toNat + 4)) (M 4425 1) ∧ r_find (s_row M (w_al w (M 4425 2).toNat + 4)) (M 4425 1) < r_find (s_row M (w_al w (M 4425 2).toNat + 4)) (M 4425 0)) → _ at q9
  have hk := (h.2.2.1 _ hi).2.1
  unfold WX0_rank VX0_rank
  rw [cx.1, show (2 : Int).toNat = 2 from rfl, show (1 : Int).toNat = 1 from rfl, show (0 : Int).toNat = 0 from rfl]
  refine ⟨by omega, k_lot h h2.1 h2.2 ⟨by omega, c_find hk ⟨by omega, c_find hk ⟨fun z => a_q_no h (q9 (fun y => ?_)), fun g1 => ⟨fun z => a_q_no h (q9 (fun y => ?_)), fun g2 => ⟨fun lt => ⟨by omega, c_remove hk (fun A a1 a2 a3 a4 => ⟨by omega, ?_⟩)⟩, fun le => a_q_no h (q9 (fun y => ?_))⟩⟩⟩⟩⟩⟩
  · have : r_find (s_row M (w_al w (M 4425 2).toNat + 4)) (M 4425 0) < 0 := z
    omega
  · have : r_find (s_row M (w_al w (M 4425 2).toNat + 4)) (M 4425 1) < 0 := z
    omega
  · have e25 : A 4425 = M 4425 := a4 _ (by unfold w_al; omega) (by unfold w_al; omega)
    rw [e25]
    refine c_insert a2 (fun B b1 b2 b3 b4 => ?_)
    have fr : ∀ b, b ≠ w_al w (M 4425 2).toNat + 4 → b ≠ w_al w (M 4425 2).toNat + 4 + 1 → B b = M b := fun b c1 c2 => by
      have x1 := b4 b c1 c2
      have x2 := a4 b c1 c2
      rw [x1, x2]
    rw [a1] at b1
    obtain ⟨u1, u2, u3⟩ := k_chg h hi b1 b2 fr
    exact q0 ⟨g2, lt⟩ B u1 u2 (a_fr_of u3)
  · have : r_find (s_row M (w_al w (M 4425 2).toNat + 4)) (M 4425 0) ≤ r_find (s_row M (w_al w (M 4425 2).toNat + 4)) (M 4425 1) := le
    omega
