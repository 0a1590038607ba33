/-! Acts: helpers of split and join -/
theorem k_fgs {M M' : e_M} {w i : Nat} {f : s_Fig} (h : w_ok M w) (hi : i < 80) (q1 : s_fig M' (w_al w i + 1) = f) (q2 : s_fok M' (w_al w i + 1)) (q4 : ∀ b, b ≠ w_al w i + 1 → b ≠ w_al w i + 1 + 1 → b ≠ w_al w i + 1 + 2 → M' b = M b) : w_ok M' w ∧ w_of M' w = w_fgs (w_of M w) i f ∧ w_fr M M' w := by
  have ho : w_lok M' (w_al w i) := by
    have := h.2.2.1 i hi
    unfold w_lok s_rok s_ook at *
    rw [q4 _ (by omega) (by omega) (by omega), q4 _ (by omega) (by omega) (by omega)]
    exact ⟨q2, this.2⟩
  obtain ⟨u1, u2, u3⟩ := w_upL h hi (M' := M') (fun b hb => q4 b (by omega) (by omega) (by omega)) ho
  refine ⟨u1, ?_, u3⟩
  rw [u2]
  unfold w_fgs
  rw [w_of_l hi]
  unfold x_lot
  rw [q1, q4 (w_al w i) (by omega) (by omega) (by omega), s_row_congr (M := M) (a := w_al w i + 4) (q4 _ (by omega) (by omega) (by omega)) (q4 _ (by omega) (by omega) (by omega)), s_own_congr (M := M) (a := w_al w i) (by rw [q4 _ (by omega) (by omega) (by omega)]) (q4 _ (by omega) (by omega) (by omega)) (q4 _ (by omega) (by omega) (by omega)) (q4 _ (by omega) (by omega) (by omega))]
/-- a LOT put behind the others -/
def w_addL (S : w_S) (l : w_L) : w_S := (s_fu S.1 0 (S.1 0 + 1), s_fu S.2.1 (S.1 0).toNat l, S.2.2)
def l_mk (called : Int) (like : w_L) (f : s_Fig) : w_L := ((l_new called).1, f, like.2.2.1, like.2.2.2)
theorem w_ows_addL {S : w_S} {l : w_L} {o : s_Own} : w_ows (w_addL S l) (S.1 0).toNat o = w_addL S (l.1, l.2.1, l.2.2.1, o) := by
  unfold w_ows w_addL w_setL
  refine Prod.ext rfl (Prod.ext (funext fun k => ?_) rfl)
  show s_fu (s_fu _ _ _) _ _ k = s_fu _ _ _ k
  unfold s_fu
  split
  · dsimp only
    rw [if_pos rfl]
  · rfl
theorem w_chg_addL {S : w_S} {l : w_L} {r : List Int} : w_chg (w_addL S l) (S.1 0).toNat r = w_addL S (l.1, l.2.1, r, l.2.2.2) := by
  unfold w_chg w_addL w_setL
  refine Prod.ext rfl (Prod.ext (funext fun k => ?_) rfl)
  show s_fu (s_fu _ _ _) _ _ k = s_fu _ _ _ k
  unfold s_fu
  split
  · dsimp only
    rw [if_pos rfl]
  · rfl
theorem w_fgs_addL {S : w_S} {l : w_L} {f : s_Fig} : w_fgs (w_addL S l) (S.1 0).toNat f = w_addL S (l.1, f, l.2.2) := by
  unfold w_fgs w_addL w_setL
  refine Prod.ext rfl (Prod.ext (funext fun k => ?_) rfl)
  show s_fu (s_fu _ _ _) _ _ k = s_fu _ _ _ k
  unfold s_fu
  split
  · dsimp only
    rw [if_pos rfl]
  · rfl
theorem k_makeLot {M : e_M} {w d li fa : Nat} {at_ called : Int} {Q : Int → e_M → Prop} (h : w_ok M w) (hw : a_w w) (cx : a_cx M w d at_) (hl : (li : Int) < M (w + 24) 0) (h1 : M (w + 24) 0 < 80) (hf : s_fok M fa) (hfa : 4423 ≤ fa) (hq : ∀ M', w_ok M' w → w_of M' w = w_addL (w_of M w) (l_mk called (w_l (w_of M w) li) (s_fig M fa)) → w_fr M M' w → Q (M (w + 24) 0) M') : WX0_makeLot called (w_al w li) fa M Q := by
  have hz := w_zb h (show 0 < 8 by omega)
  have hw' := hw
  unfold a_w at hw'
  have hli : li < 80 := by omega
  have hn : (M (w + 24) 0).toNat < 80 := by omega
  unfold WX0_makeLot VX0_makeLot
  rw [cx.1]
  refine k_addLot h h1 (fun N n1 n2 n3 => ?_)
  rw [n3 4423 (by omega) (by omega), cx.1]
  have nz : N (w + 24) 0 = M (w + 24) 0 + 1 := by
    have := congrFun (congrArg (fun S : w_S => S.1) n2) 0
    refine this.trans ?_
    show s_fu (M (w + 24)) 0 (M (w + 24) 0 + 1) 0 = _
    rw [s_fu_eq]
  have n2' : w_of N w = w_addL (w_of M w) (l_new called) := n2
  have el : w_l (w_of N w) li = w_l (w_of M w) li := by
    rw [n2]
    show s_fu _ _ _ li = _
    rw [s_fu_ne (by omega)]; rfl
  rw [w_l_e hli] at el
  have eo : s_own N (w_al w li) = (w_l (w_of M w) li).2.2.2 := congrArg (fun l : w_L => l.2.2.2) el
  have er : s_row N (w_al w li + 4) = (w_l (w_of M w) li).2.2.1 := congrArg (fun l : w_L => l.2.2.1) el
  have ef : s_fig N fa = s_fig M fa ∧ s_fok N fa := by
    have x0 := n3 fa (by omega) (by omega)
    exact ⟨s_fig_congr (by rw [x0]) (n3 _ (by omega) (by omega)) (n3 _ (by omega) (by omega)), by unfold s_fok; rw [x0]; exact hf⟩
  have ha : ∀ i, w_al w i = w + 29 + 9 * i := fun _ => rfl
  have h1' := ha li
  have h2' := ha (M (w + 24) 0).toNat
  refine k_lot n1 hz.1 (by rw [nz]; omega) (c_copyOwners (by omega) (n1.2.2.1 li hli).2.2 (fun A a1 a2 a3 a4 => ?_))
  obtain ⟨u1, u2, u3⟩ := k_ows n1 hn a1 a2 a3 a4
  refine c_rcopy (by omega) (by unfold s_rok; rw [a4 _ (by omega) (by omega) (by omega) (by omega)]; exact (n1.2.2.1 li hli).2.1) (fun B b1 b2 b3 b4 => ?_)
  obtain ⟨v1, v2, v3⟩ := k_chg u1 hn b1 b2 b4
  have fB : ∀ b, 4423 ≤ b → B b = N b := fun b hb => by rw [b4 b (by omega) (by omega), a4 b (by omega) (by omega) (by omega) (by omega)]
  refine c_fcopy (by omega) (by unfold s_fok; rw [fB fa (by omega)]; exact ef.2) (fun C c1 c2 c3 c4 => ?_)
  obtain ⟨x1, x2, x3⟩ := k_fgs v1 hn c1 c2 c4
  refine hq C x1 ?_ (w_fr_trans n3 (w_fr_trans u3 (w_fr_trans v3 x3)))
  have efB : s_fig B fa = s_fig M fa := by
    rw [← ef.1]
    exact s_fig_congr (by rw [fB fa (by omega)]) (fB _ (by omega)) (fB _ (by omega))
  have erA : s_row A (w_al w li + 4) = (w_l (w_of M w) li).2.2.1 := by
    rw [← er]
    exact s_row_congr (a4 _ (by omega) (by omega) (by omega) (by omega)) (a4 _ (by omega) (by omega) (by omega) (by omega))
  rw [x2, v2, u2, n2', eo, erA, efB]
  have e0 : (M (w + 24) 0).toNat = ((w_of M w).1 0).toNat := rfl
  rw [e0, w_ows_addL, w_chg_addL, w_fgs_addL]
  rfl
/-! in the midst of going through the things -/
theorem mp_at {A : e_M} {w lo s i : Nat} {S : w_S} {f : Nat → w_T → w_T} (a2 : w_of A w = w_mp S lo f s i) (hs : 1 ≤ s ∧ s < 8) (hi : i < w_mx s) : x_th A (w_at w (w_F s + i)) = w_t S s i := by
  have hin : w_F s + i < 290 := by have := w_F_lt s hs.2 hs.1; omega
  have := congrFun (congrArg (fun S : w_S => S.2.2.1) a2) (w_F s + i)
  rw [w_of_t hin] at this
  rw [this]
  exact w_mp_at hs hi
theorem mp_thr {A : e_M} {w lo s i : Nat} {S : w_S} {f : Nat → w_T → w_T} (a2 : w_of A w = w_mp S lo f s i) (hs : 1 ≤ s ∧ s < 8) (hi : i < w_mx s) : w_thr (w_of A w) s i = t_thr (w_t S s i) S.2.2.2 := by
  have hin : w_F s + i < 290 := by have := w_F_lt s hs.2 hs.1; omega
  unfold w_thr
  rw [if_neg (by omega), w_t_e hin, mp_at a2 hs hi]
  have : w_d (w_of A w) = S.2.2.2 := by
    have z := congrArg (fun S : w_S => S.2.2.2) a2
    exact z
  rw [this]
/-- one of the points is in the FIGURE or on it -/
def g_hold (F ps : s_Fig) : Bool := ps.any (fun q => decide (g_where F q.1 q.2 1 ≠ 0))
def s_pb (ps : s_Fig) : Prop := ∀ q ∈ ps, (0 ≤ q.1 ∧ q.1 ≤ 999999) ∧ 0 ≤ q.2 ∧ q.2 ≤ 999999
theorem c_hold {M : e_M} {a d : Nat} {Q : Int → Prop} (ha : s_fok M a) (fa : s_fb (s_fig M a)) (hd : s_dok M d) (pd : s_pb (s_dps M d)) (q1 : g_hold (s_fig M a) (s_dps M d) = true → Q 1) (q0 : g_hold (s_fig M a) (s_dps M d) = false → Q 0) : WX3_holdsAny a d M Q := by
  refine c_holdsAny ha fa hd (fun q hq => by have := pd q hq; unfold s_cb; omega) (fun ⟨q, h1, h2⟩ => q1 ?_) (fun h => q0 ?_)
  · unfold g_hold
    rw [List.any_eq_true]
    exact ⟨q, h1, decide_eq_true h2⟩
  · unfold g_hold
    rw [List.any_eq_false]
    exact fun q hq => by rw [decide_eq_true_iff]; exact fun ne => ne (h q hq)
def r_pov (over : List Int) (old a b : Int) (hL hR : Bool) : List Int := if old ∈ over then r_part over old (if hL = true then a else -1) (if hR = true then b else -1) else over
theorem c_partOver {M : e_M} {a D : Nat} {old x y : Int} {Q : e_M → Prop} (h : s_rok M a) (kL : s_fok M 4427) (kR : s_fok M 4430) (bL : s_fb (s_fig M 4427)) (bR : s_fb (s_fig M 4430)) (hd : s_dok M D) (hp : s_pb (s_dps M D)) (hq : ∀ M', s_row M' a = r_pov (s_row M a) old x y (g_hold (s_fig M 4427) (s_dps M D)) (g_hold (s_fig M 4430) (s_dps M D)) → s_rok M' a → (∀ b, b ≠ a → b ≠ a + 1 → M' b = M b) → Q M') : WX0_partOver a D old x y M Q := by
  unfold r_pov at hq
  unfold WX0_partOver VX0_partOver
  refine c_has h (fun m => ⟨fun z => by omega, fun _ => ?_⟩) (fun m => ⟨fun _ => hq M (by rw [if_neg m]) h (fun _ _ _ => rfl), fun z => absurd rfl z⟩)
  rw [if_pos m] at hq
  have k58 : ∀ u v : Int, u = (if g_hold (s_fig M 4427) (s_dps M D) = true then x else -1) → v = (if g_hold (s_fig M 4430) (s_dps M D) = true then y else -1) → WX0_partOver_58 Q v u old a M := by
    intro u v eu ev
    unfold WX0_partOver_58 VX0_partOver_58
    rw [← eu, ← ev] at hq
    exact c_rpart h (fun M' p1 p2 p3 p4 => hq M' p1 p2 p4)
  have k47 : ∀ (u r3 : Int), u = (if g_hold (s_fig M 4427) (s_dps M D) = true then x else -1) → (r3 = 0 ↔ g_hold (s_fig M 4430) (s_dps M D) = false) → WX0_partOver_47 Q y r3 u old a M := by
    intro u r3 eu e3
    unfold WX0_partOver_47 VX0_partOver_47
    refine ⟨fun z => k58 u _ eu (by rw [e3.mp z]; rfl), fun z => k58 u _ eu ?_⟩
    cases c : g_hold (s_fig M 4430) (s_dps M D) with
    | true => rfl
    | false => exact absurd (e3.mpr c) z
  refine c_hold kL bL hd hp (fun e => c_hold kR bR hd hp (fun e2 => ?_) (fun e2 => ?_)) (fun e => c_hold kR bR hd hp (fun e2 => ?_) (fun e2 => ?_))
  · exact ⟨fun z => by omega, fun _ => k47 x 1 (by rw [e]; rfl) ⟨fun z => by omega, fun z => by rw [e2] at z; cases z⟩⟩
  · exact ⟨fun z => by omega, fun _ => k47 x 0 (by rw [e]; rfl) ⟨fun _ => e2, fun _ => rfl⟩⟩
  · exact ⟨fun _ => k47 (-1) 1 (by rw [e]; rfl) ⟨fun z => by omega, fun z => by rw [e2] at z; cases z⟩, fun z => absurd rfl z⟩
  · exact ⟨fun _ => k47 (-1) 0 (by rw [e]; rfl) ⟨fun _ => e2, fun _ => rfl⟩, fun z => absurd rfl z⟩
/-- what is known of the DEED that made a thing -/
def t_dk (M : e_M) (w : Nat) (t : w_T) : Prop := a_d w (t.1 11).toNat ∧ s_dok M (t.1 11).toNat ∧ s_pb (s_dps M (t.1 11).toNat)
def w_dk (M : e_M) (w : Nat) : Prop := ∀ s i : Nat, 2 ≤ s → s < 8 → (i : Int) < M (w + 24) s → t_dk M w (w_t (w_of M w) s i)
/-- a row of LOTS that would grow too long -/
def w_tm (P : Nat → s_Fig) (S : w_S) (old : Int) (L R : s_Fig) : Prop := ∃ s i : Nat, 2 ≤ s ∧ s ≤ 6 ∧ (i : Int) < w_z S s ∧ w_thr S s i = true ∧ ((8 ≤ (w_t S s i).2.1.length ∧ old ∈ (w_t S s i).2.1) ∨ (8 ≤ (w_t S s i).2.2.length ∧ old ∈ (w_t S s i).2.2 ∧ g_hold L (P ((w_t S s i).1 11).toNat) = true ∧ g_hold R (P ((w_t S s i).1 11).toNat) = true))
theorem k_tooMany {M : e_M} {w d : Nat} {at_ old : Int} {Q : Int → Prop} (h : w_ok M w) (cx : a_cx M w d at_) (hk : w_dk M w) (kL : s_fok M 4427) (kR : s_fok M 4430) (bL : s_fb (s_fig M 4427)) (bR : s_fb (s_fig M 4430)) (q1 : w_tm (s_dps M) (w_of M w) old (s_fig M 4427) (s_fig M 4430) → Q 1) (q0 : ¬ w_tm (s_dps M) (w_of M w) old (s_fig M 4427) (s_fig M 4430) → Q 0) : WX0_isSplitTooMany old M Q := by
  unfold WX0_isSplitTooMany VX0_isSplitTooMany
  show ∃ j, WX0_isSplitTooMany_2 M Q j old 2
  refine s_up (σ := Unit) (P := fun dd s _ => WX0_isSplitTooMany_2 M Q dd old s) (n := 7) (i0 := 2) (s := ()) (fun s _ => ∀ r j : Nat, 2 ≤ r → (r : Int) < s → (j : Int) < w_z (w_of M w) r → ¬ (w_thr (w_of M w) r j = true ∧ ((8 ≤ (w_t (w_of M w) r j).2.1.length ∧ old ∈ (w_t (w_of M w) r j).2.1) ∨ (8 ≤ (w_t (w_of M w) r j).2.2.length ∧ old ∈ (w_t (w_of M w) r j).2.2 ∧ g_hold (s_fig M 4427) (s_dps M ((w_t (w_of M w) r j).1 11).toNat) = true ∧ g_hold (s_fig M 4430) (s_dps M ((w_t (w_of M w) r j).1 11).toNat) = true)))) (by omega) (fun r j h1 h2 => by omega) ?_ ?_
  · intro d2 _ hi
    unfold WX0_isSplitTooMany_2 VX0_isSplitTooMany_2
    exact ⟨fun _ => q0 (fun ⟨s, i, s1, s2, s3, s4, s5⟩ => hi s i s1 (by omega) s3 ⟨s4, s5⟩), fun z => by omega⟩
  · intro d2 s _ s1 s2 hi ih
    have hs : 1 ≤ s.toNat ∧ s.toNat < 8 := by omega
    have hz := w_zb h hs.2
    have hm := w_F_lt s.toNat hs.2 hs.1
    unfold WX0_isSplitTooMany_2 VX0_isSplitTooMany_2
    refine ⟨fun z => by omega, fun _ => ?_⟩
    refine s_up (σ := Unit) (P := fun dd i _ => WX0_isSplitTooMany_10 M (WX0_isSplitTooMany_2 M Q d2) Q dd old s i) (n := M (w + 24) s.toNat) (i0 := 0) (s := ()) (fun i _ => ∀ j : Nat, (j : Int) < i → ¬ (w_thr (w_of M w) s.toNat j = true ∧ ((8 ≤ (w_t (w_of M w) s.toNat j).2.1.length ∧ old ∈ (w_t (w_of M w) s.toNat j).2.1) ∨ (8 ≤ (w_t (w_of M w) s.toNat j).2.2.length ∧ old ∈ (w_t (w_of M w) s.toNat j).2.2 ∧ g_hold (s_fig M 4427) (s_dps M ((w_t (w_of M w) s.toNat j).1 11).toNat) = true ∧ g_hold (s_fig M 4430) (s_dps M ((w_t (w_of M w) s.toNat j).1 11).toNat) = true)))) hz.1 (fun j hj => by omega) ?_ ?_
    · intro d3 _ hj
      unfold WX0_isSplitTooMany_10 VX0_isSplitTooMany_10
      rw [cx.1]
      refine ⟨by omega, fun _ => ?_, fun z => by omega⟩
      rw [s_w (by omega) (by omega)]
      refine ih () (fun r j r1 r2 r3 => ?_)
      by_cases c : (r : Int) = s
      · have er : r = s.toNat := by omega
        subst er
        exact hj j r3
      · exact hi r j r1 (by omega) r3
    · intro d3 i _ i1 i2 hj ih2
      have hin := w_in (s := s.toNat) (i := i.toNat) h hs (by omega)
      have tr := w_t_row (M := M) (w := w) hin
      have rf := w_ref h hin
      have tk := h.2.2.2 _ hin
      have dk := hk s.toNat i.toNat (by omega) hs.2 (by omega)
      unfold t_dk at dk
      rw [w_t_k hin] at dk
      have l1 := s_row_len tk.1.1
      have l2 := s_row_len tk.1.2
      have nxt : ¬ (w_thr (w_of M w) s.toNat i.toNat = true ∧ ((8 ≤ (w_t (w_of M w) s.toNat i.toNat).2.1.length ∧ old ∈ (w_t (w_of M w) s.toNat i.toNat).2.1) ∨ (8 ≤ (w_t (w_of M w) s.toNat i.toNat).2.2.length ∧ old ∈ (w_t (w_of M w) s.toNat i.toNat).2.2 ∧ g_hold (s_fig M 4427) (s_dps M ((w_t (w_of M w) s.toNat i.toNat).1 11).toNat) = true ∧ g_hold (s_fig M 4430) (s_dps M ((w_t (w_of M w) s.toNat i.toNat).1 11).toNat) = true))) → WX0_isSplitTooMany_142 M (WX0_isSplitTooMany_2 M Q d2) (WX0_isSplitTooMany_10 M (WX0_isSplitTooMany_2 M Q d2) Q d3) Q old s i := by
        intro ne
        show WX0_isSplitTooMany_10 M (WX0_isSplitTooMany_2 M Q d2) Q d3 old s (e_w32 (i + 1))
        rw [s_w (by omega) (by omega)]
        refine ih2 () (fun j hj2 => ?_)
        by_cases c : (j : Int) = i
        · rw [show j = i.toNat by omega]; exact ne
        · exact hj j (by omega)
      have found : (w_thr (w_of M w) s.toNat i.toNat = true ∧ ((8 ≤ (w_t (w_of M w) s.toNat i.toNat).2.1.length ∧ old ∈ (w_t (w_of M w) s.toNat i.toNat).2.1) ∨ (8 ≤ (w_t (w_of M w) s.toNat i.toNat).2.2.length ∧ old ∈ (w_t (w_of M w) s.toNat i.toNat).2.2 ∧ g_hold (s_fig M 4427) (s_dps M ((w_t (w_of M w) s.toNat i.toNat).1 11).toNat) = true ∧ g_hold (s_fig M 4430) (s_dps M ((w_t (w_of M w) s.toNat i.toNat).1 11).toNat) = true))) → Q 1 := fun ⟨e1, e2⟩ => q1 ⟨s.toNat, i.toNat, by omega, by omega, by show (i.toNat : Int) < M (w + 24) s.toNat; omega, e1, e2⟩
      rw [tr.1, tr.2, w_t_k hin] at nxt found
      unfold WX0_isSplitTooMany_10 VX0_isSplitTooMany_10
      rw [cx.1]
      refine ⟨by omega, fun z => by omega, fun _ => k_at h (by omega) i1 i2 (k_thr_t h hs (by omega) (fun t => ⟨fun _ => ?_, fun z => by omega⟩) (fun t => ⟨fun z => absurd rfl z, fun _ => nxt (fun c => by rw [t] at c; cases c.1)⟩))⟩
      rw [rf.1]
      have k79 : ¬ (8 ≤ (s_row M (w_at w (w_F s.toNat + i.toNat) + 1)).length ∧ old ∈ s_row M (w_at w (w_F s.toNat + i.toNat) + 1)) → WX0_isSplitTooMany_79 M (WX0_isSplitTooMany_2 M Q d2) (WX0_isSplitTooMany_10 M (WX0_isSplitTooMany_2 M Q d2) Q d3) Q old s i (w_at w (w_F s.toNat + i.toNat)) := by
        intro ne
        unfold WX0_isSplitTooMany_79 VX0_isSplitTooMany_79
        rw [rf.2]
        refine ⟨fun lt => nxt (fun c => c.2.elim (fun y => ne y) (fun y => by have := y.1; omega)), fun ge => c_has tk.1.2 (fun m => ⟨fun z => by omega, fun _ => c_hold kL bL dk.2.1 dk.2.2 (fun e => ⟨fun z => by omega, fun _ => c_hold kR bR dk.2.1 dk.2.2 (fun e2 => ⟨fun z => by omega, fun _ => found ⟨t, Or.inr ⟨by omega, m, e, e2⟩⟩⟩) (fun e2 => ⟨fun _ => nxt (fun c => c.2.elim (fun y => ne y) (fun y => by rw [e2] at y; cases y.2.2.2)), fun z => absurd rfl z⟩)⟩) (fun e => ⟨fun _ => nxt (fun c => c.2.elim (fun y => ne y) (fun y => by rw [e] at y; cases y.2.2.1)), fun z => absurd rfl z⟩)⟩) (fun m => ⟨fun _ => nxt (fun c => c.2.elim (fun y => ne y) (fun y => m y.2.1)), fun z => absurd rfl z⟩)⟩
      refine ⟨fun lt => k79 (fun y => by have := y.1; omega), fun ge => c_has tk.1.1 (fun m => ⟨fun z => by omega, fun _ => found ⟨t, Or.inl ⟨by omega, m⟩⟩⟩) (fun m => ⟨fun _ => k79 (fun y => m y.2), fun z => absurd rfl z⟩)⟩
