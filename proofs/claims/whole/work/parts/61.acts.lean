/-! Acts: terms, waive -/
theorem k_waive {M : e_M} {w d : Nat} {at_ : Int} {Q : Int → e_M → Prop} (h : w_ok M w) (hr : w_rg (w_of M w)) (cx : a_cx M w d at_) (h0 : 0 ≤ M 4425 0 ∧ M 4425 0 < M (w + 24) 3)
    (q2 : (∃ l ∈ (w_t (w_of M w) 3 (M 4425 0).toNat).2.1, ¬ w_oab (w_of M w) l.toNat) → a_q M w Q 2 (w_of M w))
    (q0 : (∀ l ∈ (w_t (w_of M w) 3 (M 4425 0).toNat).2.1, w_oab (w_of M w) l.toNat) → a_q M w Q 0 (w_put (w_of M w) (w_F 3 + (M 4425 0).toNat) 2 1)) : WX0_waive M Q := by
  have hin := w_in (s := 3) (i := (M 4425 0).toNat) h (by omega) (by omega)
  have rf := w_ref h hin
  have tr := w_t_row (M := M) (w := w) hin
  have hls := (hr.2 3 (M 4425 0).toNat (by omega) (by omega) (by show ((M 4425 0).toNat : Int) < M (w + 24) 3; omega)).2.1
  rw [tr.1] at q2 q0 hls
  have hk := (h.2.2.2 _ hin).1.1
  have hl := s_row_len hk
  obtain ⟨hk0, hk8⟩ := id hk
  unfold WX0_waive VX0_waive
  rw [cx.1]
  refine ⟨by omega, k_at h (by omega) h0.1 h0.2 ?_⟩
  rw [show (3 : Int).toNat = 3 from rfl, show (0 : Int).toNat = 0 from rfl]
  generalize hJ : w_F 3 + (M 4425 0).toNat = J at *
  refine s_up (P := fun d i N => WX0_waive_17 Q d (w_at w J) i N) (n := M (w_at w J + 1) 1) (fun i N => N = M ∧ ∀ j : Nat, (j : Int) < i → w_oab (w_of M w) (M (w_at w J + 1 + 1) j).toNat) hk0 ⟨rfl, fun j hj => by omega⟩ ?_ ?_
  · intro d2 N ⟨e, hi⟩
    subst e
    unfold WX0_waive_17 VX0_waive_17
    rw [rf.1]
    refine ⟨fun _ => ⟨by omega, fun M1 e1 => ?_⟩, fun z => by omega⟩
    obtain ⟨u1, u2, u3⟩ := k_put h hin (k := 2) (v := 1) (by omega) (by omega)
    rw [e1]
    refine q0 (fun l hl2 => ?_) _ u1 u2 (a_fr_of u3)
    obtain ⟨j, hj, e⟩ := s_ar_mem.mp hl2
    rw [← e]
    exact hi j (by omega)
  · intro d2 i N k1 k2 ⟨e, hi⟩ ih
    subst e
    unfold WX0_waive_17 VX0_waive_17
    rw [rf.1]
    have hg := s_row_at (M := N) (a := w_at w J + 1) (i := i.toNat) (by omega)
    have hm := List.mem_of_getElem? hg
    refine ⟨fun z => by omega, fun _ => c_rget hk ?_⟩
    rw [w_row_get k1 hg]
    refine k_ownersAble h hr cx (hls _ hm) (fun a => ⟨fun _ => ?_, fun z => by omega⟩) (fun a => ⟨fun z => absurd rfl z, fun _ => a_q_no h (q2 ⟨_, hm, a⟩)⟩)
    rw [s_w (by omega) (by omega)]
    refine ih N ⟨rfl, fun j hj => ?_⟩
    by_cases c : (j : Int) = i
    · rw [show j = i.toNat by omega]; exact a
    · exact hi j (by omega)
/-- what a term is: its LOT, who, until when -/
def t_term (S : w_S) (s : Nat) (called d at_ : Int) (l p until_ : Int) : w_T := (s_fu (s_fu (w_new S s called d at_).1 5 p) 3 until_, [l], [])
theorem k_makeTerm {M : e_M} {w d : Nat} {at_ s u : Int} {Q : Nat → e_M → Prop} (h : w_ok M w) (hw : a_w w) (cx : a_cx M w d at_) (hd : a_d w d) (hday : M d 4 = M w 11) (hs : 1 ≤ s ∧ s < 8) (h1 : M (w + 24) s.toNat < w_mx s.toNat) (hq : ∀ M', w_ok M' w → w_of M' w = w_addT (w_of M w) s.toNat (t_term (w_of M w) s.toNat (M (d + 1) 0) d at_ (M 4425 1) (M 4425 2) u) → w_fr M M' w → Q (w_at w (w_F s.toNat + (M (w + 24) s.toNat).toNat)) M') : WX0_makeTerm s u M Q := by
  have hz := w_zb h (show s.toNat < 8 by omega)
  have hm := w_F_lt s.toNat (by omega) (by omega)
  have hin : w_F s.toNat + (M (w + 24) s.toNat).toNat < 290 := by omega
  have hw' := hw
  unfold a_w at hw'
  have hJ' : w_F s.toNat + (M (w + 24) s.toNat).toNat = w_F s.toNat + ((w_of M w).1 s.toNat).toNat := rfl
  unfold WX0_makeTerm VX0_makeTerm
  refine k_make h hw cx hd hday hs h1 (fun N n1 n2 n3 => ⟨by omega, ?_⟩)
  generalize hJ : w_F s.toNat + (M (w + 24) s.toNat).toNat = J at *
  rw [(w_ref n1 hin).1, n3 4425 (by omega) (by omega)]
  refine c_radd (n1.2.2.2 J hin).1.1 (fun A a1 a2 a3 a4 => ⟨by omega, fun M4 e4 M5 e5 => ?_⟩)
  obtain ⟨u1, u2, u3⟩ := k_lts n1 hin a1 a2 a4
  have hb : w_at w J = w + 749 + 5 * J := rfl
  rw [a4 4425 (by omega) (by omega), n3 4425 (by omega) (by omega)] at e4
  obtain ⟨v1, v2, v3⟩ := k_put u1 hin (k := 5) (v := M 4425 2) (by omega) (by omega)
  have e4' : M4 = e_up A (w_at w J) 5 (M 4425 2) := e4
  rw [← e4'] at v1 v2 v3
  obtain ⟨x1, x2, x3⟩ := k_put v1 hin (k := 3) (v := u) (by omega) (by omega)
  rw [e5]
  refine hq _ x1 ?_ (w_fr_trans n3 (w_fr_trans u3 (w_fr_trans v3 x3)))
  have er : s_row N (w_at w J + 1) = [] := by
    have := congrFun (congrArg (fun S : w_S => S.2.2.1) n2) J
    rw [w_of_t hin, hJ', w_addT_at] at this
    rw [← hJ'] at this
    exact congrArg (fun t : w_T => t.2.1) this
  rw [x2, v2, u2, n2, er, hJ', w_lts_addT, w_put_addT, w_put_addT]
  rfl
theorem k_caution {M : e_M} {w d : Nat} {at_ : Int} {Q : Int → e_M → Prop} (h : w_ok M w) (hw : a_w w) (cx : a_cx M w d at_) (hd : a_d w d) (hday : M d 4 = M w 11) (hdb : 0 ≤ M d 4 ∧ M d 4 ≤ 219144)
    (q7 : 40 ≤ M (w + 24) 5 → a_q M w Q 7 (w_of M w))
    (q0 : M (w + 24) 5 < 40 → a_q M w Q 0 (w_addT (w_of M w) 5 (t_term (w_of M w) 5 (M (d + 1) 0) d at_ (M 4425 1) (M 4425 2) (M d 4 + 180)))) : WX0_caution M Q := by
  unfold WX0_caution VX0_caution
  rw [cx.1, cx.2.1, s_w (by omega) (by omega)]
  refine k_isFull (s := 5) (by omega) (fun f => ⟨fun z => by omega, fun _ => a_q_no h (q7 f)⟩) (fun f => ⟨fun _ => k_makeTerm (s := 5) h hw cx hd hday (by omega) f (fun M' v1 v2 v3 => q0 f M' v1 v2 (a_fr_of v3)), fun z => absurd rfl z⟩)
theorem k_option {M : e_M} {w d : Nat} {at_ : Int} {Q : Int → e_M → Prop} (h : w_ok M w) (hr : w_rg (w_of M w)) (hw : a_w w) (cx : a_cx M w d at_) (hd : a_d w d) (hday : M d 4 = M w 11) (h1 : 0 ≤ M 4425 1 ∧ M 4425 1 < M (w + 24) 0)
    (q8 : M d 8 ≤ M d 4 → a_q M w Q 8 (w_of M w))
    (q2 : M d 4 < M d 8 → ¬ w_oab (w_of M w) (M 4425 1).toNat → a_q M w Q 2 (w_of M w))
    (q4 : M d 4 < M d 8 → w_oab (w_of M w) (M 4425 1).toNat → w_bar (w_of M w) (M 4425 1) (-1) → a_q M w Q 4 (w_of M w))
    (q7 : M d 4 < M d 8 → w_oab (w_of M w) (M 4425 1).toNat → ¬ w_bar (w_of M w) (M 4425 1) (-1) → 30 ≤ M (w + 24) 6 → a_q M w Q 7 (w_of M w))
    (q0 : M d 4 < M d 8 → w_oab (w_of M w) (M 4425 1).toNat → ¬ w_bar (w_of M w) (M 4425 1) (-1) → M (w + 24) 6 < 30 → a_q M w Q 0 (w_addT (w_of M w) 6 (t_term (w_of M w) 6 (M (d + 1) 0) d at_ (M 4425 1) (M 4425 2) (M d 8)))) : WX0_option M Q := by
  unfold WX0_option VX0_option
  rw [cx.1, cx.2.1, show (1 : Int).toNat = 1 from rfl]
  refine ⟨fun lt => ⟨by omega, k_ownersAble h hr cx h1 (fun a => ⟨fun _ => ⟨by omega, k_barred h cx (fun b => ⟨fun z => by omega, fun _ => a_q_no h (q4 lt a b)⟩) (fun b => ⟨fun _ => ?_, fun z => absurd rfl z⟩)⟩, fun z => by omega⟩) (fun a => ⟨fun z => absurd rfl z, fun _ => a_q_no h (q2 lt a)⟩)⟩, fun le => a_q_no h (q8 le)⟩
  exact k_isFull (s := 6) (by omega) (fun f => ⟨fun z => by omega, fun _ => a_q_no h (q7 lt a b f)⟩) (fun f => ⟨fun _ => k_makeTerm (s := 6) h hw cx hd hday (by omega) f (fun M' v1 v2 v3 => q0 lt a b f M' v1 v2 (a_fr_of v3)), fun z => absurd rfl z⟩)
/-- a LEASE that is there on the LOT -/
def w_leased (S : w_S) (l : Int) : Prop := ∃ i : Nat, (i : Int) < w_z S 4 ∧ w_thr S 4 i = true ∧ l ∈ (w_t S 4 i).2.1
theorem k_lease {M : e_M} {w d : Nat} {at_ : Int} {Q : Int → e_M → Prop} (h : w_ok M w) (hr : w_rg (w_of M w)) (hw : a_w w) (cx : a_cx M w d at_) (hd : a_d w d) (hday : M d 4 = M w 11) (h1 : 0 ≤ M 4425 1 ∧ M 4425 1 < M (w + 24) 0) (h2 : 0 ≤ M 4425 2 ∧ M 4425 2 < M (w + 24) 1)
    (q8 : M d 8 ≤ M d 4 → a_q M w Q 8 (w_of M w))
    (q2 : M d 4 < M d 8 → ¬ (w_oab (w_of M w) (M 4425 1).toNat ∧ w_abl (w_of M w) (M 4425 2).toNat = true) → a_q M w Q 2 (w_of M w))
    (q4 : M d 4 < M d 8 → w_oab (w_of M w) (M 4425 1).toNat → w_abl (w_of M w) (M 4425 2).toNat = true → w_bar (w_of M w) (M 4425 1) (-1) → a_q M w Q 4 (w_of M w))
    (q5 : M d 4 < M d 8 → w_oab (w_of M w) (M 4425 1).toNat → w_abl (w_of M w) (M 4425 2).toNat = true → ¬ w_bar (w_of M w) (M 4425 1) (-1) → w_leased (w_of M w) (M 4425 1) → a_q M w Q 5 (w_of M w))
    (q7 : M d 4 < M d 8 → w_oab (w_of M w) (M 4425 1).toNat → w_abl (w_of M w) (M 4425 2).toNat = true → ¬ w_bar (w_of M w) (M 4425 1) (-1) → ¬ w_leased (w_of M w) (M 4425 1) → 40 ≤ M (w + 24) 4 → a_q M w Q 7 (w_of M w))
    (q0 : M d 4 < M d 8 → w_oab (w_of M w) (M 4425 1).toNat → w_abl (w_of M w) (M 4425 2).toNat = true → ¬ w_bar (w_of M w) (M 4425 1) (-1) → ¬ w_leased (w_of M w) (M 4425 1) → M (w + 24) 4 < 40 → a_q M w Q 0 (w_addT (w_of M w) 4 (s_fu (t_term (w_of M w) 4 (M (d + 1) 0) d at_ (M 4425 1) (M 4425 2) (M d 8)).1 6 (M d 9), (t_term (w_of M w) 4 (M (d + 1) 0) d at_ (M 4425 1) (M 4425 2) (M d 8)).2))) : WX0_lease M Q := by
  have hww := (hr.2 1 (M 4425 2).toNat (by omega) (by omega) (by show ((M 4425 2).toNat : Int) < M (w + 24) 1; omega)).1.1
  have hz := w_zb h (show 4 < 8 by omega)
  have hm : w_mx 4 = 40 := rfl
  have hw' := hw
  unfold a_w at hw'
  have hd' := hd
  unfold a_d at hd'
  unfold WX0_lease VX0_lease
  rw [cx.1, cx.2.1, show (1 : Int).toNat = 1 from rfl, show (2 : Int).toNat = 2 from rfl]
  refine ⟨by omega, fun lt => k_ownersAble h hr cx h1 (fun a => ⟨fun z => by omega, fun _ => ⟨by omega, k_able h h2 hww (fun b => ⟨fun _ => k_barred h cx (fun c => ⟨fun z => by omega, fun _ => a_q_no h (q4 lt a b c)⟩) (fun c => ⟨fun _ => ?_, fun z => absurd rfl z⟩), fun z => by omega⟩) (fun b => ⟨fun z => absurd rfl z, fun _ => a_q_no h (q2 lt (fun z => by rw [z.2] at b; cases b))⟩)⟩⟩) (fun a => ⟨fun _ => a_q_no h (q2 lt (fun z => a z.1)), fun z => absurd rfl z⟩), fun le => a_q_no h (q8 le)⟩
  refine s_up (P := fun d i N => WX0_lease_66 Q d (M 4425 1) i N) (n := M (w + 24) 4) (fun i N => N = M ∧ ∀ j : Nat, (j : Int) < i → ¬ (w_thr (w_of M w) 4 j = true ∧ M 4425 1 ∈ (w_t (w_of M w) 4 j).2.1)) hz.1 ⟨rfl, fun j hj => by omega⟩ ?_ ?_
  · intro d2 N ⟨e, hi⟩
    subst e
    unfold WX0_lease_66 VX0_lease_66
    rw [cx.1, cx.2.1, show (4 : Int).toNat = 4 from rfl]
    have nl : ¬ w_leased (w_of N w) (N 4425 1) := fun ⟨i, i1, i2⟩ => hi i i1 i2
    refine ⟨by omega, fun _ => k_isFull (s := 4) (by omega) (fun f => ⟨fun z => by omega, fun _ => a_q_no h (q7 lt a b c nl f)⟩) (fun f => ⟨fun _ => k_makeTerm (s := 4) h hw cx hd hday (by omega) f (fun M3 v1 v2 v3 => fun M4 e4 => ?_), fun z => absurd rfl z⟩), fun z => by omega⟩
    have hin : w_F 4 + (N (w + 24) 4).toNat < 290 := by have : w_F 4 = 120 := rfl; omega
    rw [v3 4423 (by omega) (by omega), cx.2.1, v3 d (by omega) (by omega)] at e4
    obtain ⟨u1, u2, u3⟩ := k_put v1 hin (k := 6) (v := N d 9) (by omega) (by omega)
    have e4' : M4 = e_up M3 (w_at w (w_F 4 + (N (w + 24) 4).toNat)) 6 (N d 9) := e4
    rw [e4']
    refine q0 lt a b c nl f _ u1 ?_ (a_fr_of (w_fr_trans v3 u3))
    rw [u2, v2]
    exact w_put_addT (S := w_of N w) (s := 4)
  · intro d2 i N k1 k2 ⟨e, hi⟩ ih
    subst e
    unfold WX0_lease_66 VX0_lease_66
    rw [cx.1, cx.2.1, show (4 : Int).toNat = 4 from rfl]
    have hin := w_in (s := 4) (i := i.toNat) h (by omega) (by omega)
    have go : ¬ (w_thr (w_of N w) 4 i.toNat = true ∧ N 4425 1 ∈ (w_t (w_of N w) 4 i.toNat).2.1) → WX0_lease_116 (WX0_lease_66 Q d2) Q (N 4425 1) i N := by
      intro ne
      show WX0_lease_66 Q d2 (N 4425 1) (e_w32 (i + 1)) N
      rw [s_w (by omega) (by omega)]
      refine ih N ⟨rfl, fun j hj => ?_⟩
      by_cases c : (j : Int) = i
      · rw [show j = i.toNat by omega]; exact ne
      · exact hi j (by omega)
    have tr := w_t_row (M := N) (w := w) hin
    refine ⟨by omega, fun z => by omega, fun _ => k_at h (by omega) k1 k2 ?_⟩
    rw [show (4 : Int).toNat = 4 from rfl]
    refine k_thr_t h (by omega) (by omega) (fun t => ⟨fun z => by omega, fun _ => ?_⟩) (fun t => ⟨fun _ => go (fun z => by rw [t] at z; cases z.1), fun z => absurd rfl z⟩)
    rw [(w_ref h hin).1]
    refine c_has (h.2.2.2 _ hin).1.1 (fun m => ⟨fun z => by omega, fun _ => a_q_no h (q5 lt a b c ⟨i.toNat, by show (i.toNat : Int) < N (w + 24) 4; omega, t, by rw [tr.1]; exact m⟩)⟩) (fun m => ⟨fun _ => go (fun z => m (by rw [tr.1] at z; exact z.2)), fun z => absurd rfl z⟩)
