/-! the LAND stays parted by the LOTS' FIGURES -/
theorem H_lnew {called : Int} {like : w_L} {f : s_Fig} : (l_mk called like f).2.1 = f ∧ (l_mk called like f).1 1 = 0 := ⟨rfl, rfl⟩
/-- a LOT gone, two in its stead -/
theorem H_split {S : w_S} {l : Nat} {A B : w_L} (h : H_fig S) (hl : (l : Int) < S.1 0) (gl : (S.2.1 l).1 1 = 0) (gA : H_l A.2.1) (gB : H_l B.2.1) (aA : A.1 1 = 0) (aB : B.1 1 = 0) (sm : ∀ c, gt_cc c → gt_sm c (gt_ed A.2.1) + gt_sm c (gt_ed B.2.1) = gt_sm c (gt_ed (S.2.1 l).2.1)) : H_fig (w_lpt (w_addL (w_addL S A) B) l 1 1) := by
  obtain ⟨h1, h2, h3⟩ := h
  obtain ⟨n, en⟩ : ∃ n : Nat, S.1 0 = n := ⟨(S.1 0).toNat, by omega⟩
  have ez : (w_addL S A).1 0 = S.1 0 + 1 := by
    show s_fu S.1 0 (S.1 0 + 1) 0 = _
    exact s_fu_eq
  have ez2 : (w_addL (w_addL S A) B).1 0 = S.1 0 + 1 + 1 := by
    show s_fu (w_addL S A).1 0 ((w_addL S A).1 0 + 1) 0 = _
    rw [s_fu_eq, ez]
  have e0 : (w_lpt (w_addL (w_addL S A) B) l 1 1).1 0 = ((n + 2 : Nat) : Int) := by
    show (w_addL (w_addL S A) B).1 0 = _
    rw [ez2]; omega
  have lots : ∀ i, (w_addL (w_addL S A) B).2.1 i = if i = n + 1 then B else if i = n then A else S.2.1 i := fun i => by
    show s_fu (s_fu S.2.1 (S.1 0).toNat A) ((w_addL S A).1 0).toNat B i = _
    rw [ez]
    unfold s_fu
    rw [show (S.1 0 + 1).toNat = n + 1 by omega, show (S.1 0).toNat = n by omega]
  have lt : ∀ i, (w_lpt (w_addL (w_addL S A) B) l 1 1).2.1 i = if i = l then (s_fu (S.2.1 l).1 1 1, (S.2.1 l).2) else if i = n + 1 then B else if i = n then A else S.2.1 i := fun i => by
    show s_fu (w_addL (w_addL S A) B).2.1 l _ i = _
    unfold s_fu
    by_cases c : i = l
    · rw [if_pos c, if_pos c, lots, if_neg (by omega), if_neg (by omega)]
    · rw [if_neg c, if_neg c, lots]
  refine ⟨by rw [e0]; omega, fun i hi => ?_, fun c hc => ?_⟩
  · rw [e0] at hi
    rw [lt]
    by_cases c1 : i = l
    · rw [if_pos c1]; exact h2 l hl
    · rw [if_neg c1]
      by_cases c2 : i = n + 1
      · rw [if_pos c2]; exact gB
      · rw [if_neg c2]
        by_cases c3 : i = n
        · rw [if_pos c3]; exact gA
        · rw [if_neg c3]; exact h2 i (by omega)
  · rw [e0, Int.toNat_natCast, ← h3 c hc, show (S.1 0).toNat = n by omega]
    have t1 : H_tm c (w_lpt (w_addL (w_addL S A) B) l 1 1) (n + 1) = gt_sm c (gt_ed B.2.1) := by
      have e := lt (n + 1)
      rw [if_neg (by omega), if_pos rfl] at e
      unfold H_tm
      rw [e, if_pos aB]
    have t0 : H_tm c (w_lpt (w_addL (w_addL S A) B) l 1 1) n = gt_sm c (gt_ed A.2.1) := by
      have e := lt n
      rw [if_neg (by omega), if_neg (by omega), if_pos rfl] at e
      unfold H_tm
      rw [e, if_pos aA]
    have tl : H_tm c (w_lpt (w_addL (w_addL S A) B) l 1 1) l = 0 := by
      unfold H_tm
      rw [lt, if_pos rfl]
      exact if_neg (by show ¬ s_fu (S.2.1 l).1 1 1 1 = 0; rw [s_fu_eq]; decide)
    have tS : H_tm c S l = gt_sm c (gt_ed (S.2.1 l).2.1) := by unfold H_tm; rw [if_pos gl]
    have s := H_sum1 (f := H_tm c S) (g := H_tm c (w_lpt (w_addL (w_addL S A) B) l 1 1)) (n := n) (l := l) (by omega) (fun i hi hne => by
      have e := lt i
      rw [if_neg hne, if_neg (by omega), if_neg (by omega)] at e
      unfold H_tm
      rw [e])
    show g_sum (H_tm c _) n + H_tm c _ n + H_tm c _ (n + 1) = _
    have := sm c hc
    rw [s, t0, t1, tl, tS]
    omega
/-- two LOTS gone, one in their stead -/
theorem H_merge {S : w_S} {a b : Nat} {A : w_L} (h : H_fig S) (ha : (a : Int) < S.1 0) (hb : (b : Int) < S.1 0) (hab : a ≠ b) (ga : (S.2.1 a).1 1 = 0) (gb : (S.2.1 b).1 1 = 0) (gA : H_l A.2.1) (aA : A.1 1 = 0) (sm : ∀ c, gt_cc c → gt_sm c (gt_ed A.2.1) = gt_sm c (gt_ed (S.2.1 a).2.1) + gt_sm c (gt_ed (S.2.1 b).2.1)) : H_fig (w_lpt (w_lpt (w_addL S A) a 1 1) b 1 1) := by
  obtain ⟨h1, h2, h3⟩ := h
  obtain ⟨n, en⟩ : ∃ n : Nat, S.1 0 = n := ⟨(S.1 0).toNat, by omega⟩
  have e0 : (w_lpt (w_lpt (w_addL S A) a 1 1) b 1 1).1 0 = ((n + 1 : Nat) : Int) := by
    show s_fu S.1 0 (S.1 0 + 1) 0 = _
    rw [s_fu_eq]; omega
  have lots : ∀ i, (w_addL S A).2.1 i = if i = n then A else S.2.1 i := fun i => by
    show s_fu S.2.1 (S.1 0).toNat A i = _
    unfold s_fu
    rw [show (S.1 0).toNat = n by omega]
  have lota : ∀ i, (w_lpt (w_addL S A) a 1 1).2.1 i = if i = a then (s_fu (S.2.1 a).1 1 1, (S.2.1 a).2) else if i = n then A else S.2.1 i := fun i => by
    show s_fu (w_addL S A).2.1 a _ i = _
    unfold s_fu
    by_cases c : i = a
    · rw [if_pos c, if_pos c, lots, if_neg (by omega)]
    · rw [if_neg c, if_neg c, lots]
  have lt : ∀ i, (w_lpt (w_lpt (w_addL S A) a 1 1) b 1 1).2.1 i = if i = b then (s_fu (S.2.1 b).1 1 1, (S.2.1 b).2) else if i = a then (s_fu (S.2.1 a).1 1 1, (S.2.1 a).2) else if i = n then A else S.2.1 i := fun i => by
    show s_fu (w_lpt (w_addL S A) a 1 1).2.1 b _ i = _
    unfold s_fu
    by_cases c : i = b
    · rw [if_pos c, if_pos c, lota, if_neg (fun z => hab z.symm), if_neg (by omega)]
    · rw [if_neg c, if_neg c, lota]
      rfl
  refine ⟨by rw [e0]; omega, fun i hi => ?_, fun c hc => ?_⟩
  · rw [e0] at hi
    rw [lt]
    by_cases c1 : i = b
    · rw [if_pos c1]; exact h2 b hb
    · rw [if_neg c1]
      by_cases c2 : i = a
      · rw [if_pos c2]; exact h2 a ha
      · rw [if_neg c2]
        by_cases c3 : i = n
        · rw [if_pos c3]; exact gA
        · rw [if_neg c3]; exact h2 i (by omega)
  · rw [e0, Int.toNat_natCast, ← h3 c hc, show (S.1 0).toNat = n by omega]
    generalize eW : w_lpt (w_lpt (w_addL S A) a 1 1) b 1 1 = W at *
    have t0 : H_tm c W n = gt_sm c (gt_ed A.2.1) := by
      have e := lt n
      rw [if_neg (by omega), if_neg (by omega), if_pos rfl] at e
      unfold H_tm
      rw [e, if_pos aA]
    have ta : H_tm c W a = 0 := by
      unfold H_tm
      rw [lt, if_neg hab, if_pos rfl]
      exact if_neg (by show ¬ s_fu (S.2.1 a).1 1 1 1 = 0; rw [s_fu_eq]; decide)
    have tb : H_tm c W b = 0 := by
      unfold H_tm
      rw [lt, if_pos rfl]
      exact if_neg (by show ¬ s_fu (S.2.1 b).1 1 1 1 = 0; rw [s_fu_eq]; decide)
    have tSa : H_tm c S a = gt_sm c (gt_ed (S.2.1 a).2.1) := by unfold H_tm; rw [if_pos ga]
    have tSb : H_tm c S b = gt_sm c (gt_ed (S.2.1 b).2.1) := by unfold H_tm; rw [if_pos gb]
    have s1 := H_sum1 (f := H_tm c S) (g := s_fu (H_tm c S) a 0) (n := n) (l := a) (by omega) (fun i _ hne => s_fu_ne hne)
    have s2 := H_sum1 (f := s_fu (H_tm c S) a 0) (g := H_tm c W) (n := n) (l := b) (by omega) (fun i hi hne => by
      by_cases c2 : i = a
      · rw [c2, s_fu_eq]; exact ta
      · rw [s_fu_ne c2]
        have e := lt i
        rw [if_neg hne, if_neg c2, if_neg (by omega)] at e
        unfold H_tm
        rw [e])
    rw [s_fu_eq] at s1
    rw [s_fu_ne (fun z => hab z.symm)] at s2
    show g_sum (H_tm c W) n + H_tm c W n = _
    have := sm c hc
    omega
/-- two FIGURES moved -/
theorem H_move {S : w_S} {a b : Nat} {L R : s_Fig} (h : H_fig S) (ha : (a : Int) < S.1 0) (hb : (b : Int) < S.1 0) (hab : a ≠ b) (ga : (S.2.1 a).1 1 = 0) (gb : (S.2.1 b).1 1 = 0) (gL : H_l L) (gR : H_l R) (sm : ∀ c, gt_cc c → gt_sm c (gt_ed L) + gt_sm c (gt_ed R) = gt_sm c (gt_ed (S.2.1 a).2.1) + gt_sm c (gt_ed (S.2.1 b).2.1)) : H_fig (w_fgs (w_fgs S a L) b R) := by
  obtain ⟨h1, h2, h3⟩ := h
  have lota : ∀ i, (w_fgs S a L).2.1 i = if i = a then ((S.2.1 a).1, L, (S.2.1 a).2.2) else S.2.1 i := fun i => rfl
  have lt : ∀ i, (w_fgs (w_fgs S a L) b R).2.1 i = if i = b then ((S.2.1 b).1, R, (S.2.1 b).2.2) else if i = a then ((S.2.1 a).1, L, (S.2.1 a).2.2) else S.2.1 i := fun i => by
    show (if i = b then _ else (w_fgs S a L).2.1 i) = _
    by_cases c : i = b
    · rw [if_pos c, if_pos c, lota, if_neg (fun z => hab z.symm)]
    · rw [if_neg c, if_neg c, lota]
  refine ⟨h1, fun i hi => ?_, fun c hc => ?_⟩
  · rw [lt]
    by_cases c1 : i = b
    · rw [if_pos c1]; exact gR
    · rw [if_neg c1]
      by_cases c2 : i = a
      · rw [if_pos c2]; exact gL
      · rw [if_neg c2]; exact h2 i hi
  · have ez : (w_fgs (w_fgs S a L) b R).1 0 = S.1 0 := rfl
    rw [ez, ← h3 c hc]
    generalize eW : w_fgs (w_fgs S a L) b R = W at *
    have ta : H_tm c W a = gt_sm c (gt_ed L) := by
      unfold H_tm
      rw [lt, if_neg hab, if_pos rfl]
      exact if_pos ga
    have tb : H_tm c W b = gt_sm c (gt_ed R) := by
      unfold H_tm
      rw [lt, if_pos rfl]
      exact if_pos gb
    have tSa : H_tm c S a = gt_sm c (gt_ed (S.2.1 a).2.1) := by unfold H_tm; rw [if_pos ga]
    have tSb : H_tm c S b = gt_sm c (gt_ed (S.2.1 b).2.1) := by unfold H_tm; rw [if_pos gb]
    have s1 := H_sum1 (f := H_tm c S) (g := s_fu (H_tm c S) a (H_tm c W a)) (n := (S.1 0).toNat) (l := a) (by omega) (fun i _ hne => s_fu_ne hne)
    have s2 := H_sum1 (f := s_fu (H_tm c S) a (H_tm c W a)) (g := H_tm c W) (n := (S.1 0).toNat) (l := b) (by omega) (fun i hi hne => by
      by_cases c2 : i = a
      · rw [c2, s_fu_eq]
      · rw [s_fu_ne c2]
        unfold H_tm
        rw [lt, if_neg hne, if_neg c2])
    rw [s_fu_eq] at s1
    rw [s_fu_ne (fun z => hab z.symm)] at s2
    have := sm c hc
    omega
theorem H_thr {S : w_S} {i : Nat} (h : w_thr S 0 i = true) : (S.2.1 i).1 1 = 0 := of_decide_eq_true h
theorem H_cutok {F ps : s_Fig} (gF : H_l F) (hc : g_cut F ps) (hp : s_pb ps) (kL : g_okc (g_rawL F ps)) (kR : g_okc (g_rawR F ps)) : H_l (g_cls (g_rawL F ps)) ∧ H_l (g_cls (g_rawR F ps)) ∧ ∀ c, gt_cc c → gt_sm c (gt_ed (g_cls (g_rawL F ps))) + gt_sm c (gt_ed (g_cls (g_rawR F ps))) = gt_sm c (gt_ed F) := by
  obtain ⟨fL, fR, sm⟩ := gt_cut gF.1 hc
  obtain ⟨bL, bR⟩ := H_raw gF.2.1 hc hp
  refine ⟨H_cls fL bL kL.2, H_cls fR bR kR.2, fun c cc => ?_⟩
  rw [(gt_cls fL).2.1 c cc, (gt_cls fR).2.1 c cc]
  exact sm c cc
theorem H_x_split {V : Nat → v_D} {S : w_S} {r : Nat → Int} {d : Nat} (h : H_fig S) (hv : s_pb (V d).2.2.2.2) (h0 : x_in S r 0 0) : H_fig (X_split V S r d).2 := by
  unfold X_split
  refine cP (p := fun X : Int × w_S => H_fig X.2) (fun _ => h) (fun _ => cP (p := fun X : Int × w_S => H_fig X.2) (fun _ => h) (fun _ => cP (p := fun X : Int × w_S => H_fig X.2) (fun _ => h) (fun g => cP (p := fun X : Int × w_S => H_fig X.2) (fun _ => h) (fun _ => ?_))))
  have g := Classical.not_not.mp g
  have hl : (((r 0).toNat : Nat) : Int) < S.1 0 := by have := h0.1; omega
  obtain ⟨gL, gR, sm⟩ := H_cutok (F := (w_l S (r 0).toNat).2.1) (h.2.1 _ hl) g.1 hv g.2.1 g.2.2
  exact H_of (H_split h hl (H_thr h0.2) gL gR rfl rfl sm) Ge_map
theorem H_x_join {V : Nat → v_D} {S : w_S} {r : Nat → Int} {d : Nat} (h : H_fig S) (h0 : x_in S r 0 0) (h1 : x_in S r 0 1) : H_fig (X_join V S r d).2 := by
  unfold X_join
  refine cP (p := fun X : Int × w_S => H_fig X.2) (fun _ => h) (fun ne => cP (p := fun X : Int × w_S => H_fig X.2) (fun _ => h) (fun _ => cP (p := fun X : Int × w_S => H_fig X.2) (fun _ => h) (fun _ => cP (p := fun X : Int × w_S => H_fig X.2) (fun _ => h) (fun _ => cP (p := fun X : Int × w_S => H_fig X.2) (fun _ => h) (fun _ => ?_)))))
  have hl0 : (((r 0).toNat : Nat) : Int) < S.1 0 := by have := h0.1; omega
  have hl1 : (((r 1).toNat : Nat) : Int) < S.1 0 := by have := h1.1; omega
  have nab : (r 0).toNat ≠ (r 1).toNat := fun z => by have := h0.1; have := h1.1; omega
  have gF := h.2.1 _ hl0
  have gG := h.2.1 _ hl1
  have pr := H_pr gF.1 gG.1 gF.2.2.1 gG.2.2.1 (H_dj h hl0 hl1 (H_thr h0.2) (H_thr h1.2) nab)
  cases eR : g_jraw (w_l S (r 0).toNat).2.1 (w_l S (r 1).toNat).2.1 with
  | none => exact h
  | some R =>
    obtain ⟨fR, bR, sm⟩ := H_join gF gG pr eR
    show H_fig (X_join2 V S r d R).2
    unfold X_join2
    refine cP (p := fun X : Int × w_S => H_fig X.2) (fun _ => h) (fun g => cP (p := fun X : Int × w_S => H_fig X.2) (fun _ => h) (fun _ => ?_))
    have g := Classical.not_not.mp g
    refine H_of (H_merge h hl0 hl1 nab (H_thr h0.2) (H_thr h1.2) (A := l_mk ((V d).2.1 2) (w_l S (r 0).toNat) (g_cls R)) (H_cls fR bR g.2) rfl (fun c cc => ?_)) Ge_map
    show gt_sm c (gt_ed (g_cls R)) = _
    rw [(gt_cls fR).2.1 c cc]
    exact sm c cc
theorem H_x_border {V : Nat → v_D} {S : w_S} {r : Nat → Int} {d : Nat} (h : H_fig S) (hv : s_pb (V d).2.2.2.2) (h0 : x_in S r 0 0) (h1 : x_in S r 0 1) : H_fig (X_border V S r d).2 := by
  unfold X_border
  refine cP (p := fun X : Int × w_S => H_fig X.2) (fun _ => h) (fun ne => cP (p := fun X : Int × w_S => H_fig X.2) (fun _ => h) (fun _ => cP (p := fun X : Int × w_S => H_fig X.2) (fun _ => h) (fun _ => ?_)))
  have hl0 : (((r 0).toNat : Nat) : Int) < S.1 0 := by have := h0.1; omega
  have hl1 : (((r 1).toNat : Nat) : Int) < S.1 0 := by have := h1.1; omega
  have nab : (r 0).toNat ≠ (r 1).toNat := fun z => by have := h0.1; have := h1.1; omega
  have gF := h.2.1 _ hl0
  have gG := h.2.1 _ hl1
  have pr := H_pr gF.1 gG.1 gF.2.2.1 gG.2.2.1 (H_dj h hl0 hl1 (H_thr h0.2) (H_thr h1.2) nab)
  cases eR : g_jraw (w_l S (r 0).toNat).2.1 (w_l S (r 1).toNat).2.1 with
  | none => exact h
  | some R =>
    obtain ⟨fR, bR, sm⟩ := H_join gF gG pr eR
    show H_fig (X_border2 V S r d R).2
    unfold X_border2
    refine cP (p := fun X : Int × w_S => H_fig X.2) (fun _ => h) (fun g => cP (p := fun X : Int × w_S => H_fig X.2) (fun _ => h) (fun _ => ?_))
    have g := Classical.not_not.mp g
    obtain ⟨gL, gR, sm2⟩ := H_cutok (F := g_cls R) (H_cls fR bR g.1.2) g.2.1 hv g.2.2.1 g.2.2.2
    refine H_move h hl0 hl1 nab (H_thr h0.2) (H_thr h1.2) gL gR (fun c cc => ?_)
    rw [sm2 c cc, (gt_cls fR).2.1 c cc]
    exact sm c cc
theorem H_fig_kept {V : Nat → v_D} : G_kept V H_fig := by
  refine ⟨fun S day h => h, fun S ss r d a hz hr h hv hday hu h6 h78 => ?_⟩
  have pb : s_pb (V d).2.2.2.2 := hv.2.2.2.2.2.2
  have hP : ∀ {P : Prop} {c : Int} {Y : Int × w_S}, (¬ P → H_fig Y.2) → H_fig (c_if P (c, S) Y).2 := fun {P c Y} k => cP (p := fun X : Int × w_S => H_fig X.2) (fun _ => h) k
  unfold X_act
  by_cases c0 : (V d).1 3 = 200
  · rw [if_pos c0]; unfold X_person
    exact hP (fun _ => hP (fun _ => H_of h (Ge_addT (by omega))))
  rw [if_neg c0]
  by_cases c1 : (V d).1 3 = 201
  · rw [if_pos c1]; unfold X_firm
    exact hP (fun _ => hP (fun _ => H_of h (Ge_addT (by omega))))
  rw [if_neg c1]
  by_cases c2 : (V d).1 3 = 202
  · rw [if_pos c2]; unfold X_guard
    exact hP (fun _ => hP (fun _ => H_of h Ge_put))
  rw [if_neg c2]
  by_cases c3 : (V d).1 3 = 203
  · rw [if_pos c3]; unfold X_die
    exact hP (fun _ => hP (fun _ => hP (fun _ => H_of h (Ge_trans (Ge_trans Ge_hs Ge_map) Ge_put))))
  rw [if_neg c3]
  by_cases c4 : (V d).1 3 = 204
  · rw [if_pos c4]; unfold X_close
    exact hP (fun _ => H_of h (Ge_trans Ge_map Ge_put))
  rw [if_neg c4]
  by_cases c5 : (V d).1 3 = 205
  · rw [if_pos c5]; unfold X_sell
    exact hP (fun _ => hP (fun _ => hP (fun _ => hP (fun _ => hP (fun _ => H_of h (Ge_trans (Ge_trans Ge_ows (Ge_lpt (by omega))) (Ge_addT (by omega))))))))
  rw [if_neg c5]
  by_cases c6 : (V d).1 3 = 206
  · rw [if_pos c6]; exact H_x_split h pb (h6 0 c6 rfl)
  rw [if_neg c6]
  by_cases c7 : (V d).1 3 = 207
  · rw [if_pos c7]; exact H_x_join h (h78 0 (Or.inl c7) (by omega)) (h78 1 (Or.inl c7) (by omega))
  rw [if_neg c7]
  by_cases c8 : (V d).1 3 = 208
  · rw [if_pos c8]; exact H_x_border h pb (h78 0 (Or.inr c8) (by omega)) (h78 1 (Or.inr c8) (by omega))
  rw [if_neg c8]
  by_cases c9 : (V d).1 3 = 209
  · rw [if_pos c9]; unfold X_charge
    exact hP (fun _ => hP (fun _ => hP (fun _ => hP (fun _ => hP (fun _ => H_of h Ge_charge)))))
  rw [if_neg c9]
  by_cases d0 : (V d).1 3 = 210
  · rw [if_pos d0]; unfold X_pay
    exact hP (fun _ => cP (p := fun X : Int × w_S => H_fig X.2) (fun _ => H_of h Ge_put) (fun _ => H_of h (Ge_trans Ge_put Ge_endc)))
  rw [if_neg d0]
  by_cases d1 : (V d).1 3 = 211
  · rw [if_pos d1]; unfold X_assign
    exact hP (fun _ => hP (fun _ => H_of h Ge_put))
  rw [if_neg d1]
  by_cases d2 : (V d).1 3 = 212
  · rw [if_pos d2]; unfold X_rank
    exact hP (fun _ => H_of h Ge_chg)
  rw [if_neg d2]
  by_cases d3 : (V d).1 3 = 213
  · rw [if_pos d3]; unfold X_free
    exact hP (fun _ => H_of h Ge_free)
  rw [if_neg d3]
  by_cases d4 : (V d).1 3 = 214
  · rw [if_pos d4]; unfold X_auction
    exact hP (fun _ => hP (fun _ => hP (fun _ => hP (fun _ => H_of h Ge_auction))))
  rw [if_neg d4]
  by_cases d5 : (V d).1 3 = 215
  · rw [if_pos d5]; unfold X_serve
    exact hP (fun _ => hP (fun _ => hP (fun _ => hP (fun _ => hP (fun _ => H_of h (Ge_addT (by omega)))))))
  rw [if_neg d5]
  by_cases d6 : (V d).1 3 = 216
  · rw [if_pos d6]; unfold X_waive
    exact hP (fun _ => H_of h Ge_put)
  rw [if_neg d6]
  by_cases d7 : (V d).1 3 = 217
  · rw [if_pos d7]; unfold X_lease
    exact hP (fun _ => hP (fun _ => hP (fun _ => hP (fun _ => hP (fun _ => H_of h (Ge_addT (by omega)))))))
  rw [if_neg d7]
  by_cases d8 : (V d).1 3 = 218
  · rw [if_pos d8]; unfold X_caution
    exact hP (fun _ => H_of h (Ge_addT (by omega)))
  rw [if_neg d8]
  by_cases d9 : (V d).1 3 = 219
  · rw [if_pos d9]; unfold X_option
    exact hP (fun _ => hP (fun _ => hP (fun _ => hP (fun _ => H_of h (Ge_addT (by omega))))))
  rw [if_neg d9]
  by_cases e0 : (V d).1 3 = 220
  · rw [if_pos e0]; unfold X_take X_take2
    exact hP (fun _ => hP (fun _ => hP (fun _ => hP (fun _ => hP (fun _ => H_of h (Ge_trans Ge_ows Ge_put))))))
  rw [if_neg e0]
  unfold X_end
  exact hP (fun _ => H_of h Ge_put)
/-- before all DEEDS -/
theorem H_fig_0 {A : w_S} {dr : Int} : H_fig (w_0 A dr) := by
  have z0 : (w_0 A dr).1 0 = 1 := rfl
  have l0 : (w_0 A dr).2.1 0 = w_land := (s_fu_eq : s_fu A.2.1 0 w_land 0 = _)
  have lf : w_land.2.1 = h_land := rfl
  refine ⟨by rw [z0]; decide, fun i hi => ?_, fun c hc => ?_⟩
  · have : i = 0 := by omega
    subst this
    rw [l0, lf]
    refine ⟨h_land_fig, ?_, by decide, ?_⟩
    · intro q hq
      have hq : q ∈ [((0 : Int), (0 : Int)), (1000, 0), (1000, 1000), (0, 1000)] := hq
      simp only [List.mem_cons, List.not_mem_nil, or_false] at hq
      rcases hq with rfl | rfl | rfl | rfl <;> decide
    · intro q hq
      have hq : q ∈ [((0 : Int), (0 : Int)), (1000, 0), (1000, 1000), (0, 1000)] := hq
      simp only [List.mem_cons, List.not_mem_nil, or_false] at hq
      unfold gt_lo
      rcases hq with rfl | rfl | rfl | rfl <;> decide
  · rw [z0]
    show (0 : Int) + H_tm c (w_0 A dr) 0 = _
    unfold H_tm
    rw [l0, if_pos (show w_land.1 1 = 0 from rfl), lf]
    omega
