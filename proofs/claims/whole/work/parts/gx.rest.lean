/-! kept by JOIN and BORDER -/
theorem HR_join {V : Nat → v_D} {S : w_S} {r : Nat → Int} {d : Nat} (h : H_fig S) (kk : H_rest V S) (hz : R_z S) (hr : w_rg S) (h0 : x_in S r 0 0) (h1 : x_in S r 0 1) : H_rest V (X_join V S r d).2 := by
  unfold X_join
  refine cP (p := fun X : Int × w_S => H_rest V X.2) (fun _ => kk) (fun ne => cP (p := fun X : Int × w_S => H_rest V X.2) (fun _ => kk) (fun _ => cP (p := fun X : Int × w_S => H_rest V X.2) (fun _ => kk) (fun _ => cP (p := fun X : Int × w_S => H_rest V X.2) (fun _ => kk) (fun _ => cP (p := fun X : Int × w_S => H_rest V X.2) (fun _ => kk) (fun _ => ?_)))))
  obtain ⟨l, el⟩ : ∃ l : Nat, r 0 = l := ⟨(r 0).toNat, by have := h0.1.1; omega⟩
  obtain ⟨k, ek⟩ : ∃ k : Nat, r 1 = k := ⟨(r 1).toNat, by have := h1.1.1; omega⟩
  have tl : (r 0).toNat = l := by omega
  have tk : (r 1).toNat = k := by omega
  have hl : (l : Int) < S.1 0 := by have := h0.1.2; omega
  have hk : (k : Int) < S.1 0 := by have := h1.1.2; omega
  have t0 := H_thr h0.2
  have t1 := H_thr h1.2
  rw [tl] at t0 ⊢
  rw [tk] at t1 ⊢
  have nab : l ≠ k := fun z => ne (by omega)
  have gF : H_l (w_l S l).2.1 := h.2.1 _ hl
  have gG : H_l (w_l S k).2.1 := h.2.1 _ hk
  have pr := H_pr gF.1 gG.1 gF.2.2.1 gG.2.2.1 (H_dj h hl hk t0 t1 nab)
  cases eR : g_jraw (w_l S l).2.1 (w_l S k).2.1 with
  | none => exact kk
  | some R0 =>
    obtain ⟨fR, bR, sm0⟩ := H_join gF gG pr eR
    show H_rest V (X_join2 V S r d R0).2
    unfold X_join2
    refine cP (p := fun X : Int × w_S => H_rest V X.2) (fun _ => kk) (fun g => cP (p := fun X : Int × w_S => H_rest V X.2) (fun _ => kk) (fun g2 => ?_))
    have g := Classical.not_not.mp g
    rw [tl, tk, el, ek]
    have HC := H_cls fR bR g.2
    have sm : ∀ c, gt_cc c → gt_sm c (gt_ed (g_cls R0)) = gt_sm c (gt_ed (w_l S l).2.1) + gt_sm c (gt_ed (w_l S k).2.1) := fun c cc => by rw [(gt_cls fR).2.1 c cc]; exact sm0 c cc
    generalize g_cls R0 = R at *
    obtain ⟨k1, k2, k3⟩ := kk
    obtain ⟨n, en⟩ : ∃ n : Nat, S.1 0 = n := ⟨(S.1 0).toNat, by omega⟩
    have c79 : S.1 0 < 80 := by omega
    have wlz : ∀ (X : w_S) (l k : Nat) (v : Int), (w_lpt X l k v).1 = X.1 := fun _ _ _ _ => rfl
    have z1 := R_z_addL (x := l_mk ((V d).2.1 2) (w_l S l) R) hz c79
    have lots : ∀ i, ((w_lpt (w_lpt (w_addL S (l_mk ((V d).2.1 2) (w_l S l) R)) l 1 1) k 1 1).2.1 i).2 = if i = n then (R, (S.2.1 l).2.2) else (S.2.1 i).2 := fun i => by
      have lo : ∀ i, (w_addL S (l_mk ((V d).2.1 2) (w_l S l) R)).2.1 i = if i = n then l_mk ((V d).2.1 2) (w_l S l) R else S.2.1 i := fun i => by
        show s_fu S.2.1 (S.1 0).toNat _ i = _
        unfold s_fu
        rw [show (S.1 0).toNat = n by omega]
      have la : ∀ i, ((w_lpt (w_addL S (l_mk ((V d).2.1 2) (w_l S l) R)) l 1 1).2.1 i).2 = if i = n then (R, (S.2.1 l).2.2) else (S.2.1 i).2 := fun i => by
        show (s_fu (w_addL S (l_mk ((V d).2.1 2) (w_l S l) R)).2.1 l _ i).2 = _
        unfold s_fu
        by_cases c : i = l
        · rw [if_pos c]
          show ((w_addL S (l_mk ((V d).2.1 2) (w_l S l) R)).2.1 l).2 = _
          rw [lo, if_neg (by omega), if_neg (by omega), c]
        · rw [if_neg c, lo]
          by_cases c2 : i = n
          · rw [if_pos c2, if_pos c2]; rfl
          · rw [if_neg c2, if_neg c2]
      show (s_fu (w_lpt (w_addL S (l_mk ((V d).2.1 2) (w_l S l) R)) l 1 1).2.1 k _ i).2 = _
      unfold s_fu
      by_cases c : i = k
      · rw [if_pos c]
        show ((w_lpt (w_addL S (l_mk ((V d).2.1 2) (w_l S l) R)) l 1 1).2.1 k).2 = _
        rw [la, c]
      · rw [if_neg c]; exact la i
    have sz0 : (w_lpt (w_lpt (w_addL S (l_mk ((V d).2.1 2) (w_l S l) R)) l 1 1) k 1 1).1 0 = S.1 0 + 1 := by rw [wlz, wlz, w_z_addL, if_pos rfl]
    have szs : ∀ s, s ≠ 0 → (w_lpt (w_lpt (w_addL S (l_mk ((V d).2.1 2) (w_l S l) R)) l 1 1) k 1 1).1 s = S.1 s := fun s hs => by rw [wlz, wlz, w_z_addL, if_neg hs]
    have wt : ∀ s i, w_t (w_lpt (w_lpt (w_addL S (l_mk ((V d).2.1 2) (w_l S l) R)) l 1 1) k 1 1) s i = w_t S s i := fun _ _ => rfl
    have z3 : R_z (w_lpt (w_lpt (w_addL S (l_mk ((V d).2.1 2) (w_l S l) R)) l 1 1) k 1 1) := z1
    generalize w_lpt (w_lpt (w_addL S (l_mk ((V d).2.1 2) (w_l S l) R)) l 1 1) k 1 1 = T at *
    have at_ : ∀ s i : Nat, 2 ≤ s → s ≤ 6 → (i : Int) < S.1 s → w_t (w_map T 2 6 (t_mrg l k (S.1 0) S.2.2.2)) s i = t_mrg l k (S.1 0) S.2.2.2 s (w_t S s i) := fun s i s2 s6 hi => by
      rw [w_map_at z3 (by omega) (by rw [szs s (by omega)]; exact hi), if_pos ⟨s2, s6⟩, wt]
    have i1 : S.1 0 ≠ (l : Int) := by omega
    have i2 : S.1 0 ≠ (k : Int) := by omega
    refine ⟨fun i hi => ?_, fun s i s2 s6 hi => ?_, fun i hi => ?_⟩
    · have hi : (i : Int) < T.1 0 := hi
      rw [sz0] at hi
      show o_nd (T.2.1 i).2.2.2
      rw [lots]
      by_cases c : i = n
      · rw [if_pos c]; exact k1 l hl
      · rw [if_neg c]; exact k1 i (by omega)
    · have hi : (i : Int) < T.1 s := hi
      rw [szs s (by omega)] at hi
      rw [at_ s i s2 s6 hi]
      obtain ⟨a1, a2⟩ := k2 s i s2 s6 hi
      have b := (hr.2 s i (by omega) (by omega) hi).2
      have b1 : S.1 0 ∉ (w_t S s i).2.1 := fun hx => by have h9 : S.1 0 < S.1 0 := (b.1 _ hx).2; omega
      have b2 : S.1 0 ∉ (w_t S s i).2.2 := fun hx => by
        have h9 := (b.2 _ hx).2
        rw [if_neg (show ¬ s = 7 by omega)] at h9
        have h9 : S.1 0 < S.1 0 := h9
        omega
      unfold t_mrg
      by_cases tt : t_thr (w_t S s i) S.2.2.2 = true
      · rw [if_pos tt]
        split
        · exact ⟨fun ns => (r_mrg_nd (a1 ns) b1).1, r_del_nodup (r_mrg_nd a2 b2).1⟩
        · exact ⟨fun ns => (r_mrg_nd (a1 ns) b1).1, (r_mrg_nd a2 b2).1⟩
      · rw [if_neg tt]; exact ⟨a1, a2⟩
    · have hi : (i : Int) < T.1 3 := hi
      rw [szs 3 (by omega)] at hi
      rw [at_ 3 i (by omega) (by omega) hi]
      obtain ⟨a1, a2⟩ := k3 i hi
      have nd2 := (k2 3 i (by omega) (by omega) hi).2
      have b := (hr.2 3 i (by omega) (by omega) hi).2
      have b2 : ∀ x ∈ (w_t S 3 i).2.2, 0 ≤ x ∧ x < S.1 0 := fun x hx => b.2 x hx
      have nin : S.1 0 ∉ (w_t S 3 i).2.2 := fun hx => by have := (b2 _ hx).2; omega
      rw [t_mrg_k (by omega), t_mrg_k (by omega)]
      refine ⟨a1, fun z => ?_⟩
      generalize hps : (V ((w_t S 3 i).1 11).toNat).2.2.2.2 = ps at *
      have keep : (w_t S 3 i).1 2 = 0 → ∀ x ∈ r_mrg (w_t S 3 i).2.2 l k (S.1 0), g_hold (T.2.1 x.toNat).2.1 ps = true := fun z2 x hx => by
        obtain ⟨c1, c2⟩ := a2 z2
        rw [lots x.toNat]
        rcases (r_mrg_iff nd2 nin i1 i2).mp hx with ⟨e, m⟩ | ⟨m, -, -⟩
        · rw [if_pos (by omega)]
          rcases m with m | m
          · have hh : g_hold (w_l S l).2.1 ps = true := c2 l m
            exact hold_cover2 gF.1 gG.1 HC.1 sm hh
          · have hh : g_hold (w_l S k).2.1 ps = true := c2 k m
            exact hold_cover2 gG.1 gF.1 HC.1 (fun c cc => by rw [sm c cc, Int.add_comm]) hh
        · have bx := b2 x m
          rw [if_neg (by omega)]; exact c2 x m
      have z : (t_mrg l k (S.1 0) S.2.2.2 3 (w_t S 3 i)).1 2 = 0 := z
      show (t_mrg l k (S.1 0) S.2.2.2 3 (w_t S 3 i)).2.2 ≠ [] ∧ ∀ x ∈ (t_mrg l k (S.1 0) S.2.2.2 3 (w_t S 3 i)).2.2, g_hold (T.2.1 x.toNat).2.1 ps = true
      unfold t_mrg at z ⊢
      by_cases tt : t_thr (w_t S 3 i) S.2.2.2 = true
      · have z2 := (t_thr_iff.mp tt).1
        rw [if_pos tt] at z ⊢
        by_cases c : S.1 0 ∈ r_mrg (w_t S 3 i).2.1 l k (S.1 0)
        · rw [if_pos ⟨rfl, c⟩] at z ⊢
          have z : s_fu (w_t S 3 i).1 2 (if (r_del (r_mrg (w_t S 3 i).2.2 l k (S.1 0)) (S.1 0)).length = 0 then 1 else 0) 2 = 0 := z
          rw [s_fu_eq] at z
          refine ⟨fun e => ?_, fun x hx => keep z2 x (r_del_sub hx)⟩
          have e : r_del (r_mrg (w_t S 3 i).2.2 l k (S.1 0)) (S.1 0) = [] := e
          rw [e] at z
          exact absurd z (by decide)
        · rw [if_neg (fun y => c y.2)]
          refine ⟨fun e => ?_, fun x hx => keep z2 x hx⟩
          have e : r_mrg (w_t S 3 i).2.2 l k (S.1 0) = [] := e
          exact r_mrg_ne (a2 z2).1 i1 i2 (by rw [e]; rfl)
      · rw [if_neg tt] at z ⊢
        refine ⟨(a2 z).1, fun x hx => ?_⟩
        have bx := b2 x hx
        rw [lots x.toNat, if_neg (by omega)]
        exact (a2 z).2 x hx
theorem HR_border {V : Nat → v_D} {S : w_S} {r : Nat → Int} {d : Nat} (kk : H_rest V S) (hr : w_rg S) (hday : S.2.2.2 ≤ 219144) (h0 : x_in S r 0 0) (h1 : x_in S r 0 1) : H_rest V (X_border V S r d).2 := by
  unfold X_border
  refine cP (p := fun X : Int × w_S => H_rest V X.2) (fun _ => kk) (fun ne => cP (p := fun X : Int × w_S => H_rest V X.2) (fun _ => kk) (fun _ => cP (p := fun X : Int × w_S => H_rest V X.2) (fun _ => kk) (fun _ => ?_)))
  obtain ⟨l, el⟩ : ∃ l : Nat, r 0 = l := ⟨(r 0).toNat, by have := h0.1.1; omega⟩
  obtain ⟨k, ek⟩ : ∃ k : Nat, r 1 = k := ⟨(r 1).toNat, by have := h1.1.1; omega⟩
  have tl : (r 0).toNat = l := by omega
  have tk : (r 1).toNat = k := by omega
  rw [tl, tk]
  have nab : l ≠ k := fun z => ne (by omega)
  cases g_jraw (w_l S l).2.1 (w_l S k).2.1 with
  | none => exact kk
  | some R0 =>
    show H_rest V (X_border2 V S r d R0).2
    unfold X_border2
    refine cP (p := fun X : Int × w_S => H_rest V X.2) (fun _ => kk) (fun _ => cP (p := fun X : Int × w_S => H_rest V X.2) (fun _ => kk) (fun g => ?_))
    rw [tl, tk, el, ek] at *
    generalize g_cls (g_rawL (g_cls R0) (V d).2.2.2.2) = L at *
    generalize g_cls (g_rawR (g_cls R0) (V d).2.2.2.2) = R at *
    obtain ⟨k1, k2, k3⟩ := kk
    have lots : ∀ i, ((w_fgs (w_fgs S l L) k R).2.1 i).2 = if i = k then (R, (S.2.1 i).2.2) else if i = l then (L, (S.2.1 i).2.2) else (S.2.1 i).2 := fun i => by
      have la : ∀ i, ((w_fgs S l L).2.1 i).2 = if i = l then (L, (S.2.1 i).2.2) else (S.2.1 i).2 := fun i => by
        show (s_fu S.2.1 l _ i).2 = _
        unfold s_fu
        by_cases c : i = l
        · rw [if_pos c, if_pos c, c]
        · rw [if_neg c, if_neg c]
      show (s_fu (w_fgs S l L).2.1 k _ i).2 = _
      unfold s_fu
      by_cases c : i = k
      · rw [if_pos c, if_pos c]
        show (R, ((w_fgs S l L).2.1 k).2.2) = _
        rw [la, if_neg (fun z => nab z.symm), c]
      · rw [if_neg c, if_neg c]; exact la i
    refine ⟨fun i hi => ?_, k2, fun i hi => ?_⟩
    · show o_nd ((w_fgs (w_fgs S l L) k R).2.1 i).2.2.2
      have o := k1 i hi
      rw [lots]
      split
      · exact o
      · split <;> exact o
    · obtain ⟨a1, a2⟩ := k3 i hi
      have b := (hr.2 3 i (by omega) (by omega) hi).2
      have b2 : ∀ x ∈ (w_t S 3 i).2.2, 0 ≤ x ∧ x < S.1 0 := fun x hx => b.2 x hx
      refine ⟨a1, fun z => ⟨(a2 z).1, fun x hx => ?_⟩⟩
      have hx : x ∈ (w_t S 3 i).2.2 := hx
      have z : (w_t S 3 i).1 2 = 0 := z
      have tt : w_thr S 3 i = true := by
        rw [w_thr_t (by omega)]
        exact t_thr_iff.mpr ⟨z, by rw [a1.2]; omega⟩
      have nl : ¬ t_lost (fun a => (V a).2.2.2.2) l k L R (w_t S 3 i) := fun y => g ⟨i, hi, tt, y⟩
      have bx := b2 x hx
      show g_hold ((w_fgs (w_fgs S l L) k R).2.1 x.toNat).2.1 (V ((w_t S 3 i).1 11).toNat).2.2.2.2 = true
      rw [lots]
      by_cases c : x.toNat = k
      · rw [if_pos c]
        cases e : g_hold R (V ((w_t S 3 i).1 11).toNat).2.2.2.2 with
        | true => rfl
        | false => exact absurd (Or.inr ⟨by rw [show (k : Int) = x by omega]; exact hx, e⟩) nl
      · rw [if_neg c]
        by_cases c2 : x.toNat = l
        · rw [if_pos c2]
          cases e : g_hold L (V ((w_t S 3 i).1 11).toNat).2.2.2.2 with
          | true => rfl
          | false => exact absurd (Or.inl ⟨by rw [show (l : Int) = x by omega]; exact hx, e⟩) nl
        · rw [if_neg c2]; exact (a2 z).2 x hx
