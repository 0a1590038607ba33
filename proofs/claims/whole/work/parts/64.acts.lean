/-! Acts: auction -/
theorem r_del_sub {l : List Int} {x y : Int} (h : y ∈ r_del l x) : y ∈ l := by
  unfold r_del at h
  split at h
  · exact h
  · exact List.mem_of_mem_eraseIdx h
theorem w_setT_at {S : w_S} {j s i : Nat} {t : w_T} : w_t (w_setT S j t) s i = if w_F s + i = j then t else w_t S s i := rfl
theorem w_rg_setT {S : w_S} {j : Nat} {t : w_T} (h : w_rg S) (h5 : t.1 5 = (S.2.2.1 j).1 5) (hl : ∀ x ∈ t.2.1, x ∈ (S.2.2.1 j).2.1) (ho : ∀ x ∈ t.2.2, x ∈ (S.2.2.1 j).2.2) : w_rg (w_setT S j t) := by
  refine ⟨h.1, fun s i s1 s2 hi => ?_⟩
  have hh := h.2 s i s1 s2 hi
  rw [w_setT_at]
  by_cases c : w_F s + i = j
  · rw [if_pos c]
    have e : w_t S s i = S.2.2.1 j := by unfold w_t; rw [c]
    rw [e] at hh
    rw [h5]
    exact ⟨hh.1, fun l hl2 => hh.2.1 l (hl l hl2), fun l hl2 => hh.2.2 l (ho l hl2)⟩
  · rw [if_neg c]; exact hh
theorem w_rg_setL {S : w_S} {i : Nat} {l : w_L} (h : w_rg S) (hl : (i : Int) < w_z S 0 → s_fb l.2.1 ∧ (∀ c ∈ l.2.2.1, 0 ≤ c ∧ c < w_z S 2) ∧ (∀ q ∈ l.2.2.2, 0 ≤ q.1 ∧ q.1 < w_z S 1) ∧ s_ob 1000000 l.2.2.2) : w_rg (w_setL S i l) := by
  refine ⟨fun k hk => ?_, h.2⟩
  show s_fb (s_fu S.2.1 i l k).2.1 ∧ _
  have e : w_l (w_setL S i l) k = if k = i then l else w_l S k := rfl
  rw [e]
  by_cases c : k = i
  · subst c
    rw [s_fu_eq, if_pos rfl]
    exact hl hk
  · rw [s_fu_ne c, if_neg c]
    exact h.1 k hk
theorem w_rg_put {S : w_S} {j k : Nat} {v : Int} (h : w_rg S) (hk : k ≠ 5) : w_rg (w_put S j k v) := w_rg_setT h (s_fu_ne (fun e => hk e.symm)) (fun _ hx => hx) (fun _ hx => hx)
theorem w_rg_lts {S : w_S} {j : Nat} {r : List Int} (h : w_rg S) (hr : ∀ x ∈ r, x ∈ (S.2.2.1 j).2.1) : w_rg (w_lts S j r) := w_rg_setT h rfl hr (fun _ hx => hx)
theorem w_rg_chg {S : w_S} {i : Nat} {r : List Int} (h : w_rg S) (hr : ∀ x ∈ r, x ∈ (S.2.1 i).2.2.1) : w_rg (w_chg S i r) := w_rg_setL h (fun hi => by
  obtain ⟨a, b, c⟩ := h.1 i hi
  exact ⟨a, fun x hx => b x (hr x hx), c⟩)
theorem w_rg_leave {S : w_S} {j : Nat} {l : Int} (h : w_rg S) : w_rg (w_leave S j l) := by
  have h1 : w_rg (w_lts S j (r_del (S.2.2.1 j).2.1 l)) := w_rg_lts h (fun x hx => r_del_sub hx)
  unfold w_leave
  split
  · exact w_rg_put h1 (by omega)
  · exact h1
theorem w_rg_free {S : w_S} {l c : Nat} (h : w_rg S) : w_rg (w_free S l c) := w_rg_leave (w_rg_chg h (fun x hx => r_del_sub hx))
theorem w_rg_dels {c : Int} : ∀ {ls : List Int} {S : w_S}, w_rg S → w_rg (w_dels S c ls)
  | [], _, h => h
  | l :: ls, S, h => by
    show w_rg (w_dels (w_chg S l.toNat _) c ls)
    exact w_rg_dels (w_rg_chg h (fun x hx => r_del_sub hx))
theorem w_rg_endc {S : w_S} {c : Nat} (h : w_rg S) : w_rg (w_endc S c) := w_rg_put (w_rg_lts (w_rg_dels h) (fun x hx => by cases hx)) (by omega)
theorem w_rg_lpt {S : w_S} {i k : Nat} {v : Int} (h : w_rg S) : w_rg (w_lpt S i k v) := w_rg_setL h (fun hi => h.1 i hi)
theorem w_rg_ows {S : w_S} {i : Nat} {o : s_Own} (h : w_rg S) (ho : ∀ q ∈ o, 0 ≤ q.1 ∧ q.1 < w_z S 1) (hb : s_ob 1000000 o) : w_rg (w_ows S i o) := w_rg_setL h (fun hi => ⟨(h.1 i hi).1, (h.1 i hi).2.1, ho, hb⟩)
/-- amounts are numbers that can be told -/
def w_am (S : w_S) : Prop := ∀ i : Nat, (i : Int) < w_z S 2 → 0 ≤ (w_t S 2 i).1 6 ∧ (w_t S 2 i).1 6 ≤ 999999
theorem w_am_setT {S : w_S} {j : Nat} {t : w_T} (h : w_am S) (h6 : t.1 6 = (S.2.2.1 j).1 6) : w_am (w_setT S j t) := fun i hi => by
  have hh := h i hi
  rw [w_setT_at]
  by_cases c : w_F 2 + i = j
  · rw [if_pos c, h6]
    have e : w_t S 2 i = S.2.2.1 j := by unfold w_t; rw [c]
    rw [e] at hh; exact hh
  · rw [if_neg c]; exact hh
theorem w_am_leave {S : w_S} {j : Nat} {l : Int} (h : w_am S) : w_am (w_leave S j l) := by
  rw [w_leave_eq]
  refine w_am_setT h ?_
  unfold t_leave
  dsimp only
  split
  · exact s_fu_ne (by omega)
  · rfl
theorem w_am_free {S : w_S} {l c : Nat} (h : w_am S) : w_am (w_free S l c) := w_am_leave (S := w_chg S l _) h
theorem w_am_dels {c : Int} {ls : List Int} {S : w_S} (h : w_am S) : w_am (w_dels S c ls) := fun i hi => by
  have e := w_dels_t (c := c) (ls := ls) (S := S)
  have h1 : w_z (w_dels S c ls) 2 = w_z S 2 := congrFun e.2 2
  have h2 : w_t (w_dels S c ls) 2 i = w_t S 2 i := congrFun (congrArg (fun x : (Nat → w_T) × Int => x.1) e.1) _
  rw [h2]
  rw [h1] at hi
  exact h i hi
theorem w_am_endc {S : w_S} {c : Nat} (h : w_am S) : w_am (w_endc S c) := by
  unfold w_endc
  have h1 : w_am (w_lts (w_dels S c (S.2.2.1 (w_F 2 + c)).2.1) (w_F 2 + c) []) := w_am_setT (w_am_dels h) rfl
  unfold w_put
  refine w_am_setT h1 ?_
  show s_fu _ 2 1 6 = _
  exact s_fu_ne (by omega)
theorem w_leave_6 {S : w_S} {j : Nat} {l : Int} : ((w_leave S j l).2.2.1 j).1 6 = (S.2.2.1 j).1 6 := by
  rw [w_leave_eq]
  show (s_fu S.2.2.1 j (t_leave (S.2.2.1 j) l) j).1 6 = _
  rw [s_fu_eq]
  unfold t_leave
  dsimp only
  split
  · exact s_fu_ne (by omega)
  · rfl
/-- who made what stays -/
def w_s1 (S S' : w_S) : Prop := ∀ j, (S'.2.2.1 j).1 1 = (S.2.2.1 j).1 1
theorem w_s1_setT {S S' : w_S} {j : Nat} {t : w_T} (h : w_s1 S S') (h1 : t.1 1 = (S'.2.2.1 j).1 1) : w_s1 S (w_setT S' j t) := fun k => by
  show (s_fu S'.2.2.1 j t k).1 1 = _
  by_cases c : k = j
  · subst c; rw [s_fu_eq, h1]; exact h k
  · rw [s_fu_ne c]; exact h k
theorem w_s1_put {S S' : w_S} {j k : Nat} {v : Int} (h : w_s1 S S') (hk : k ≠ 1) : w_s1 S (w_put S' j k v) := w_s1_setT h (s_fu_ne (fun e => hk e.symm))
theorem w_s1_leave {S S' : w_S} {j : Nat} {l : Int} (h : w_s1 S S') : w_s1 S (w_leave S' j l) := by
  rw [w_leave_eq]
  refine w_s1_setT h ?_
  unfold t_leave
  dsimp only
  split
  · exact s_fu_ne (by omega)
  · rfl
theorem w_s1_free {S S' : w_S} {l c : Nat} (h : w_s1 S S') : w_s1 S (w_free S' l c) := w_s1_leave (S' := w_chg S' l _) h
theorem w_s1_endc {S S' : w_S} {c : Nat} (h : w_s1 S S') : w_s1 S (w_endc S' c) := by
  have h1 : w_s1 S (w_dels S' c (S'.2.2.1 (w_F 2 + c)).2.1) := fun j => by
    have e := (w_dels_t (c := (c : Int)) (ls := (S'.2.2.1 (w_F 2 + c)).2.1) (S := S')).1
    have h2 := congrFun (congrArg (fun x : (Nat → w_T) × Int => x.1) e) j
    rw [show (w_dels S' c (S'.2.2.1 (w_F 2 + c)).2.1).2.2.1 j = S'.2.2.1 j from h2]
    exact h j
  exact w_s1_put (w_s1_setT h1 rfl) (by omega)
theorem w_leave_z {S : w_S} {j : Nat} {l : Int} : (w_leave S j l).1 = S.1 := by rw [w_leave_eq]; rfl
theorem w_free_z {S : w_S} {l c : Nat} : (w_free S l c).1 = S.1 := w_leave_z (S := w_chg S l _)
theorem w_endc_z {S : w_S} {c : Nat} : (w_endc S c).1 = S.1 := (w_dels_t (c := (c : Int)) (ls := (S.2.2.1 (w_F 2 + c)).2.1) (S := S)).2
theorem w_leave_d {S : w_S} {j : Nat} {l : Int} : (w_leave S j l).2.2.2 = S.2.2.2 := by rw [w_leave_eq]; rfl
/-- how the price of an auction is shared out, from a rank on -/
def w_auc (l from_ : Nat) : Nat → w_S → Int → w_S
  | 0, S, _ => S
  | k + 1, S, left => if (S.2.1 l).2.2.1.length ≤ from_ then S else
    let c := ((S.2.1 l).2.2.1[from_]?.getD 0).toNat
    let part := e_min left ((w_t S 2 c).1 6)
    let S2 := w_free (w_put S (w_F 2 + c) 6 ((w_t S 2 c).1 6 - part)) l c
    w_auc l from_ k (if (w_t S 2 c).1 6 - part = 0 then w_endc S2 c else S2) (left - part)
def w_auction (S : w_S) (l from_ : Nat) (p num made : Int) : w_S := w_map (w_auc l from_ 8 (w_lpt (w_ows S l [(p, 1, 1)]) l 2 num) num) 4 6 (t_clr l made S.2.2.2)
theorem w_auc_stop {l f k : Nat} {S : w_S} {left : Int} (h : (S.2.1 l).2.2.1.length ≤ f) : w_auc l f k S left = S := by
  cases k with
  | zero => rfl
  | succ k => exact if_pos h
theorem w_auc_go {l f k : Nat} {S : w_S} {left c : Int} (h : f < (S.2.1 l).2.2.1.length) (hc : (S.2.1 l).2.2.1[f]? = some c) : w_auc l f (k + 1) S left = w_auc l f k (if (w_t S 2 c.toNat).1 6 - e_min left ((w_t S 2 c.toNat).1 6) = 0 then w_endc (w_free (w_put S (w_F 2 + c.toNat) 6 ((w_t S 2 c.toNat).1 6 - e_min left ((w_t S 2 c.toNat).1 6))) l c.toNat) c.toNat else w_free (w_put S (w_F 2 + c.toNat) 6 ((w_t S 2 c.toNat).1 6 - e_min left ((w_t S 2 c.toNat).1 6))) l c.toNat) (left - e_min left ((w_t S 2 c.toNat).1 6)) := by
  rw [w_auc, if_neg (by omega), hc]
  rfl
theorem e_min_b {a b : Int} (ha : 0 ≤ a) (hb : 0 ≤ b) : 0 ≤ e_min a b ∧ e_min a b ≤ a ∧ e_min a b ≤ b := by unfold e_min; split <;> omega
theorem k_auction {M : e_M} {w d : Nat} {at_ : Int} {Q : Int → e_M → Prop} (h : w_ok M w) (hr : w_rg (w_of M w)) (ham : w_am (w_of M w)) (hw : a_w w) (cx : a_cx M w d at_) (hd : a_d w d) (hn : 0 ≤ M d 9 ∧ M d 9 ≤ 999999) (h0 : 0 ≤ M 4425 0 ∧ M 4425 0 < M (w + 24) 0) (h1 : 0 ≤ M 4425 1 ∧ M 4425 1 < M (w + 24) 2) (h2 : 0 ≤ M 4425 2 ∧ M 4425 2 < M (w + 24) 1)
    (q9 : r_find (w_l (w_of M w) (M 4425 0).toNat).2.2.1 (M 4425 1) < 0 → a_q M w Q 9 (w_of M w))
    (q2 : 0 ≤ r_find (w_l (w_of M w) (M 4425 0).toNat).2.2.1 (M 4425 1) → w_abl (w_of M w) (M 4425 2).toNat = false → a_q M w Q 2 (w_of M w))
    (q4 : 0 ≤ r_find (w_l (w_of M w) (M 4425 0).toNat).2.2.1 (M 4425 1) → w_abl (w_of M w) (M 4425 2).toNat = true → w_bar (w_of M w) (M 4425 0) ((w_t (w_of M w) 2 (M 4425 1).toNat).1 5) → a_q M w Q 4 (w_of M w))
    (q6 : 0 ≤ r_find (w_l (w_of M w) (M 4425 0).toNat).2.2.1 (M 4425 1) → w_abl (w_of M w) (M 4425 2).toNat = true → ¬ w_bar (w_of M w) (M 4425 0) ((w_t (w_of M w) 2 (M 4425 1).toNat).1 5) → M d 9 = 0 → a_q M w Q 6 (w_of M w))
    (q0 : 0 ≤ r_find (w_l (w_of M w) (M 4425 0).toNat).2.2.1 (M 4425 1) → w_abl (w_of M w) (M 4425 2).toNat = true → ¬ w_bar (w_of M w) (M 4425 0) ((w_t (w_of M w) 2 (M 4425 1).toNat).1 5) → M d 9 ≠ 0 → a_q M w Q 0 (w_auction (w_of M w) (M 4425 0).toNat (r_find (w_l (w_of M w) (M 4425 0).toNat).2.2.1 (M 4425 1)).toNat (M 4425 2) (M d 9) ((w_t (w_of M w) 2 (M 4425 1).toNat).1 1))) : WX0_auction M Q := by
  have hw' := hw
  unfold a_w at hw'
  have hd' := hd
  unfold a_d at hd'
  have hi : (M 4425 0).toNat < 80 := w_in0 h (by omega)
  have hin := w_in (s := 2) (i := (M 4425 1).toNat) h (by omega) (by omega)
  have hww := (hr.2 1 (M 4425 2).toNat (by omega) (by omega) (by show ((M 4425 2).toNat : Int) < M (w + 24) 1; omega)).1.1
  have hk := (h.2.2.1 _ hi).2.1
  rw [w_t_k hin] at q4 q6 q0
  unfold WX0_auction VX0_auction
  rw [cx.1, cx.2.1, show (0 : Int).toNat = 0 from rfl, show (1 : Int).toNat = 1 from rfl, show (2 : Int).toNat = 2 from rfl]
  have ef : r_find (w_l (w_of M w) (M 4425 0).toNat).2.2.1 (M 4425 1) = r_find (s_row M (w_al w (M 4425 0).toNat + 4)) (M 4425 1) := by rw [w_l_e hi]; rfl
  rw [ef] at q9 q2 q4 q6 q0
  refine ⟨by omega, k_lot h h0.1 h0.2 ⟨by omega, k_at h (by omega) h1.1 h1.2 ⟨by omega, c_find hk ?_⟩⟩⟩
  rw [show (2 : Int).toNat = 2 from rfl]
  have hfl := r_find_lt (l := s_row M (w_al w (M 4425 0).toNat + 4)) (x := M 4425 1)
  have hlk := s_row_len hk
  obtain ⟨hk0, hk8⟩ := id hk
  generalize hF : r_find (s_row M (w_al w (M 4425 0).toNat + 4)) (M 4425 1) = f at *
  refine ⟨fun ge => ⟨by omega, k_able h h2 hww (fun a => ⟨fun _ => k_barred h cx (fun b => ⟨fun z => by omega, fun _ => a_q_no h (q4 ge a b)⟩) (fun b => ⟨fun _ => ⟨fun nn => ⟨by omega, c_own (fun A a1 a2 a3 a4 => fun M7 e7 => ?_)⟩, fun z => a_q_no h (q6 ge a b z)⟩, fun z => absurd rfl z⟩), fun z => by omega⟩) (fun a => ⟨fun z => absurd rfl z, fun _ => a_q_no h (q2 ge a)⟩)⟩, fun lt => a_q_no h (q9 lt)⟩
  have qq := q0 ge a b nn
  obtain ⟨u1, u2, u3⟩ := k_ows h hi a1 a2 a3 a4
  rw [u3 4423 (by omega) (by omega), cx.2.1, u3 d (by omega) (by omega)] at e7
  obtain ⟨v1, v2, v3⟩ := k_lpt u1 hi (k := 2) (v := M d 9) (by omega)
  rw [← e7] at v1 v2 v3
  have f7 := w_fr_trans u3 v3
  rw [f7 4423 (by omega) (by omega), cx.2.1, f7 d (by omega) (by omega)]
  unfold w_auction at qq
  rw [← u2, ← v2] at qq
  have rg7 : w_rg (w_of M7 w) := by
    rw [v2, u2]
    refine w_rg_lpt (w_rg_ows hr (fun q hq => ?_) (fun q hq => ?_))
    · rw [List.mem_singleton.mp hq]; exact h2
    · rw [List.mem_singleton.mp hq]; exact ⟨by show (0 : Int) ≤ 1; omega, by show (1 : Int) ≤ 1; omega, by show (0 : Int) < 1; omega, by show (1 : Int) ≤ 1000000; omega⟩
  have am7 : w_am (w_of M7 w) := by rw [v2, u2]; exact ham
  have z7 : (w_of M7 w).1 = (w_of M w).1 := by rw [v2, u2]; rfl
  have s17 : w_s1 (w_of M w) (w_of M7 w) := by rw [v2, u2]; exact fun _ => rfl
  generalize hR : w_auc (M 4425 0).toNat f.toNat 8 (w_of M7 w) (M d 9) = R at *
  have fin : ∀ N : e_M, w_ok N w → w_fr M N w → w_s1 (w_of M w) (w_of N w) → w_of N w = R → WX0_auction_232 Q (M 4425 0) (w_at w (w_F 2 + (M 4425 1).toNat)) N := by
    intro N n1 n2 n3 n4
    unfold WX0_auction_232 VX0_auction_232
    refine k_clearLot n1 hw (a_cx_congr cx (n2 4423 (by omega) (by omega))) (fun M' x1 x2 x3 => qq M' x1 ?_ (a_fr_of (w_fr_trans n2 x3)))
    have e1 : N (w_at w (w_F 2 + (M 4425 1).toNat)) 1 = M (w_at w (w_F 2 + (M 4425 1).toNat)) 1 := by
      have := n3 (w_F 2 + (M 4425 1).toNat)
      rw [w_of_t hin, w_of_t hin] at this
      exact this
    have e2 : N w 11 = M w 11 := by rw [n2 w (by omega) (by omega)]
    rw [x2, n4, e1, e2, show (((M 4425 0).toNat : Nat) : Int) = M 4425 0 by omega, w_t_k hin]
    rfl
  refine s_up (σ := Int × e_M) (P := fun dd i s => WX0_auction_132 Q dd (M 4425 0) (w_al w (M 4425 0).toNat) (w_at w (w_F 2 + (M 4425 1).toNat)) f s.1 i s.2) (n := 8) (i0 := 0) (s := (M d 9, M7)) (fun i s => w_ok s.2 w ∧ w_fr M s.2 w ∧ w_rg (w_of s.2 w) ∧ w_am (w_of s.2 w) ∧ (w_of s.2 w).1 = (w_of M w).1 ∧ w_s1 (w_of M w) (w_of s.2 w) ∧ (0 ≤ s.1 ∧ s.1 ≤ 999999) ∧ w_auc (M 4425 0).toNat f.toNat (8 - i.toNat) (w_of s.2 w) s.1 = R) (by omega) ⟨v1, f7, rg7, am7, z7, s17, hn, hR⟩ ?_ ?_
  · intro d2 ⟨left, N⟩ ⟨n1, n2, n3, n4, n5, n6, n7, n8⟩
    exact ⟨fun _ => fin N n1 n2 n6 n8, fun z => by omega⟩
  · intro d2 i ⟨left, N⟩ k1 k2 ⟨n1, n2, n3, n4, n5, n6, n7, n8⟩ ih
    dsimp only at n1 n2 n3 n4 n5 n6 n7 n8 ⊢
    have nk := (n1.2.2.1 _ hi).2.1
    have nl := s_row_len nk
    obtain ⟨nk0, nk8⟩ := id nk
    have lr : ((w_of N w).2.1 (M 4425 0).toNat).2.2.1 = s_row N (w_al w (M 4425 0).toNat + 4) := by rw [w_of_l hi]; rfl
    have zz : ∀ s, N (w + 24) s = M (w + 24) s := fun s => congrFun n5 s
    unfold WX0_auction_132 VX0_auction_132
    rw [(a_cx_congr cx (n2 4423 (by omega) (by omega))).1]
    refine ⟨fun z => by omega, fun _ => ⟨fun le => fin N n1 n2 n6 (by rw [← n8, w_auc_stop (by rw [lr]; omega)]), fun lt => c_rget nk ?_⟩⟩
    have hg := s_row_at (M := N) (a := w_al w (M 4425 0).toNat + 4) (i := f.toNat) (by omega)
    rw [w_row_get ge hg]
    have hv : 0 ≤ N (w_al w (M 4425 0).toNat + 4 + 1) f.toNat ∧ N (w_al w (M 4425 0).toNat + 4 + 1) f.toNat < M (w + 24) 2 := by
      have := (n3.1 (M 4425 0).toNat (by show ((M 4425 0).toNat : Int) < N (w + 24) 0; rw [zz]; omega)).2.1 _ (by rw [show (w_l (w_of N w) (M 4425 0).toNat).2.2.1 = s_row N (w_al w (M 4425 0).toNat + 4) from lr]; exact List.mem_of_getElem? hg)
      rw [← zz 2]; exact this
    generalize hV : N (w_al w (M 4425 0).toNat + 4 + 1) f.toNat = v at *
    have hin2 := w_in (s := 2) (i := v.toNat) n1 (by omega) (by rw [zz]; omega)
    have av := n4 v.toNat (by show (v.toNat : Int) < N (w + 24) 2; rw [zz]; omega)
    rw [w_t_k hin2] at av
    refine k_at n1 (by omega) hv.1 (by rw [show (2 : Int).toNat = 2 from rfl, zz]; exact hv.2) ?_
    rw [show (2 : Int).toNat = 2 from rfl]
    have mb := e_min_b n7.1 av.1
    have eight : 8 - i.toNat = (8 - (i + 1).toNat) + 1 := by omega
    rw [eight, w_auc_go (c := v) (by rw [lr]; omega) (by rw [lr]; exact hg), w_t_k hin2] at n8
    generalize hAm : N (w_at w (w_F 2 + v.toNat)) 6 = am at *
    generalize hPt : e_min left am = pt at *
    rw [s_w (by omega) (by omega), s_w (by omega) (by omega)]
    intro M3 e3
    obtain ⟨x1, x2, x3⟩ := k_put n1 hin2 (k := 6) (v := am - pt) (by omega) (by omega)
    rw [← e3] at x1 x2 x3
    have f3 := w_fr_trans n2 x3
    have z3 : ∀ s, M3 (w + 24) s = M (w + 24) s := fun s => by
      have := congrFun (congrArg (fun S : w_S => S.1) x2) s
      exact this.trans (zz s)
    refine k_freeLot x1 (a_cx_congr cx (f3 4423 (by omega) (by omega))) (by rw [z3]; exact h0) (by rw [z3]; exact hv) (fun M4 y1 y2 y3 => ?_)
    have f4 := w_fr_trans f3 y3
    have z4 : (w_of M4 w).1 = (w_of M w).1 := by rw [y2, w_free_z, x2]; exact n5
    have s4 : w_s1 (w_of M w) (w_of M4 w) := by rw [y2, x2]; exact w_s1_free (w_s1_put n6 (by omega))
    have e6 : M4 (w_at w (w_F 2 + v.toNat)) 6 = am - pt := by
      have t1 : ((w_of M4 w).2.2.1 (w_F 2 + v.toNat)).1 6 = M4 (w_at w (w_F 2 + v.toNat)) 6 := by rw [w_of_t hin2]; rfl
      rw [← t1, y2]
      unfold w_free
      rw [w_leave_6]
      show ((w_of M3 w).2.2.1 (w_F 2 + v.toNat)).1 6 = _
      rw [x2]
      show (s_fu (w_of N w).2.2.1 (w_F 2 + v.toNat) (s_fu ((w_of N w).2.2.1 (w_F 2 + v.toNat)).1 6 (am - pt), ((w_of N w).2.2.1 (w_F 2 + v.toNat)).2) (w_F 2 + v.toNat)).1 6 = _
      rw [s_fu_eq]
      exact s_fu_eq (f := ((w_of N w).2.2.1 (w_F 2 + v.toNat)).1) (i := 6) (v := am - pt)
    have rg3 : w_rg (w_of M3 w) := by rw [x2]; exact w_rg_put n3 (by omega)
    have rg4 : w_rg (w_of M4 w) := by rw [y2]; exact w_rg_free rg3
    have am3 : w_am (w_of M3 w) := by
      rw [x2]
      intro k hk
      have hh := n4 k hk
      unfold w_put
      rw [w_setT_at]
      by_cases c : w_F 2 + k = w_F 2 + v.toNat
      · rw [if_pos c]
        have e66 : (s_fu ((w_of N w).2.2.1 (w_F 2 + v.toNat)).1 6 (am - pt)) 6 = am - pt := s_fu_eq
        exact ⟨by show 0 ≤ (s_fu ((w_of N w).2.2.1 (w_F 2 + v.toNat)).1 6 (am - pt)) 6; rw [e66]; omega, by show (s_fu ((w_of N w).2.2.1 (w_F 2 + v.toNat)).1 6 (am - pt)) 6 ≤ 999999; rw [e66]; omega⟩
      · rw [if_neg c]; exact hh
    have am4 : w_am (w_of M4 w) := by rw [y2]; exact w_am_free am3
    rw [x2] at y2
    rw [e6]
    refine ⟨fun ne => ?_, fun e0 => k_endCharge y1 hw (a_cx_congr cx (f4 4423 (by omega) (by omega))) (by rw [show M4 (w + 24) 2 = M (w + 24) 2 from congrFun z4 2]; exact hv) ?_ (fun M5 r1 r2 r3 => ?_)⟩
    · show WX0_auction_132 Q d2 (M 4425 0) (w_al w (M 4425 0).toNat) (w_at w (w_F 2 + (M 4425 1).toNat)) f (left - pt) (e_w32 (i + 1)) M4
      rw [s_w (by omega) (by omega)]
      rw [if_neg ne, ← y2] at n8
      exact ih (left - pt, M4) ⟨y1, f4, rg4, am4, z4, s4, ⟨by show 0 ≤ left - pt; omega, by show left - pt ≤ 999999; omega⟩, n8⟩
    · exact (rg4.2 2 v.toNat (by omega) (by omega) (by show (v.toNat : Int) < M4 (w + 24) 2; rw [show M4 (w + 24) 2 = M (w + 24) 2 from congrFun z4 2]; omega)).2.1
    · show WX0_auction_132 Q d2 (M 4425 0) (w_al w (M 4425 0).toNat) (w_at w (w_F 2 + (M 4425 1).toNat)) f (left - pt) (e_w32 (i + 1)) M5
      rw [s_w (by omega) (by omega)]
      rw [if_pos e0, ← y2, ← r2] at n8
      refine ih (left - pt, M5) ⟨r1, w_fr_trans f4 r3, ?_, ?_, ?_, ?_, ⟨by show 0 ≤ left - pt; omega, by show left - pt ≤ 999999; omega⟩, n8⟩
      · show w_rg (w_of M5 w)
        rw [r2]; exact w_rg_endc rg4
      · show w_am (w_of M5 w)
        rw [r2]; exact w_am_endc am4
      · show (w_of M5 w).1 = _
        rw [r2, w_endc_z]; exact z4
      · show w_s1 _ (w_of M5 w)
        rw [r2]; exact w_s1_endc s4
