/-! Acts: join -/
/-- things of a sort that are there are on both LOTS or on none -/
def w_both (S : w_S) (s : Nat) (one other : Int) : Prop := ∀ i : Nat, (i : Int) < w_z S s → w_thr S s i = true → (one ∈ (w_t S s i).2.1 ↔ other ∈ (w_t S s i).2.1)
theorem k_onBoth {M : e_M} {w d : Nat} {at_ s one other : Int} {Q : Int → Prop} (h : w_ok M w) (cx : a_cx M w d at_) (hs : 1 ≤ s ∧ s < 8) (q1 : w_both (w_of M w) s.toNat one other → Q 1) (q0 : ¬ w_both (w_of M w) s.toNat one other → Q 0) : WX0_areOnBoth s one other M Q := by
  have hs' : 1 ≤ s.toNat ∧ s.toNat < 8 := by omega
  have hz := w_zb h hs'.2
  have hm := w_F_lt s.toNat hs'.2 hs'.1
  unfold WX0_areOnBoth VX0_areOnBoth
  show ∃ j, WX0_areOnBoth_3 M Q j s one other 0
  refine s_up (σ := Unit) (P := fun dd i _ => WX0_areOnBoth_3 M Q dd s one other i) (n := M (w + 24) s.toNat) (i0 := 0) (s := ()) (fun i _ => ∀ j : Nat, (j : Int) < i → w_thr (w_of M w) s.toNat j = true → (one ∈ (w_t (w_of M w) s.toNat j).2.1 ↔ other ∈ (w_t (w_of M w) s.toNat j).2.1)) hz.1 (fun j hj => by omega) ?_ ?_
  · intro d2 _ hi
    unfold WX0_areOnBoth_3 VX0_areOnBoth_3
    rw [cx.1]
    exact ⟨by omega, fun _ => q1 (fun i i1 => hi i i1), fun z => by omega⟩
  · intro d2 i _ i1 i2 hi ih
    have hin := w_in (s := s.toNat) (i := i.toNat) h hs' (by omega)
    have tr := w_t_row (M := M) (w := w) hin
    have rf := w_ref h hin
    have tk := (h.2.2.2 _ hin).1.1
    have nxt : (w_thr (w_of M w) s.toNat i.toNat = true → (one ∈ (w_t (w_of M w) s.toNat i.toNat).2.1 ↔ other ∈ (w_t (w_of M w) s.toNat i.toNat).2.1)) → WX0_areOnBoth_67 M (WX0_areOnBoth_3 M Q d2) Q s one other i := by
      intro e
      show WX0_areOnBoth_3 M Q d2 s one other (e_w32 (i + 1))
      rw [s_w (by omega) (by omega)]
      refine ih () (fun j hj => ?_)
      by_cases c : (j : Int) = i
      · rw [show j = i.toNat by omega]; exact e
      · exact hi j (by omega)
    have bad : w_thr (w_of M w) s.toNat i.toNat = true → ¬ (one ∈ (w_t (w_of M w) s.toNat i.toNat).2.1 ↔ other ∈ (w_t (w_of M w) s.toNat i.toNat).2.1) → Q 0 := fun t ne => q0 (fun c => ne (c i.toNat (by show (i.toNat : Int) < M (w + 24) s.toNat; omega) t))
    rw [tr.1] at nxt bad
    unfold WX0_areOnBoth_3 VX0_areOnBoth_3
    rw [cx.1]
    refine ⟨by omega, fun z => by omega, fun _ => k_at h hs i1 i2 (k_thr_t h hs' (by omega) (fun t => ⟨fun z => by omega, fun _ => ?_⟩) (fun t => ⟨fun _ => nxt (fun z => by rw [t] at z; cases z), fun z => absurd rfl z⟩))⟩
    rw [rf.1]
    exact c_has tk (fun m => c_has tk (fun m2 => ⟨fun _ => nxt (fun _ => ⟨fun _ => m2, fun _ => m⟩), fun z => absurd rfl z⟩) (fun m2 => ⟨fun z => by omega, fun _ => bad t (fun c => m2 (c.mp m))⟩)) (fun m => c_has tk (fun m2 => ⟨fun z => by omega, fun _ => bad t (fun c => m (c.mpr m2))⟩) (fun m2 => ⟨fun _ => nxt (fun _ => ⟨fun z => absurd z m, fun z => absurd z m2⟩), fun z => absurd rfl z⟩))
def t_mrg (one other into day : Int) (s : Nat) (t : w_T) : w_T := if t_thr t day = true then (if s = 3 ∧ into ∈ r_mrg t.2.1 one other into then (s_fu t.1 2 (if (r_del (r_mrg t.2.2 one other into) into).length = 0 then 1 else 0), r_mrg t.2.1 one other into, r_del (r_mrg t.2.2 one other into) into) else (t.1, r_mrg t.2.1 one other into, r_mrg t.2.2 one other into)) else t
theorem k_merge {M : e_M} {w d : Nat} {at_ one other into : Int} {Q : e_M → Prop} (h : w_ok M w) (hw : a_w w) (cx : a_cx M w d at_) (hq : ∀ M', w_ok M' w → w_of M' w = w_map (w_of M w) 2 6 (t_mrg one other into (M w 11)) → w_fr M M' w → Q M') : WX0_mergeRows one other into M Q := by
  unfold a_w at hw
  generalize hF : t_mrg one other into (M w 11) = F at *
  unfold WX0_mergeRows VX0_mergeRows
  show ∃ j, WX0_mergeRows_3 Q j one other into 2 M
  refine s_up (P := fun d s N => WX0_mergeRows_3 Q d one other into s N) (n := 7) (fun s N => w_ok N w ∧ w_of N w = w_mp (w_of M w) 2 F s.toNat 0 ∧ w_fr M N w) (by omega) ⟨h, (w_mp_0 (by omega) (by omega)).symm, w_fr_refl⟩ ?_ ?_
  · intro d2 N ⟨n1, n2, n3⟩
    unfold WX0_mergeRows_3 VX0_mergeRows_3
    exact ⟨fun _ => hq N n1 n2 n3, fun z => by omega⟩
  · intro d2 s N s1 s2 ⟨n1, n2, n3⟩ ih
    have hs : 1 ≤ s.toNat ∧ s.toNat < 8 := by omega
    have hz := w_zb h hs.2
    have hm := w_F_lt s.toNat hs.2 hs.1
    unfold WX0_mergeRows_3 VX0_mergeRows_3
    refine ⟨fun z => by omega, fun _ => ?_⟩
    refine s_up (P := fun d i N => WX0_mergeRows_13 (WX0_mergeRows_3 Q d2) Q d one other into s i N) (n := M (w + 24) s.toNat) (fun i N => w_ok N w ∧ w_of N w = w_mp (w_of M w) 2 F s.toNat i.toNat ∧ w_fr M N w) hz.1 ⟨n1, n2, n3⟩ ?_ ?_
    · intro d3 A ⟨a1, a2, a3⟩
      unfold WX0_mergeRows_13 VX0_mergeRows_13
      rw [(a_cx_congr cx (a3 4423 (by omega) (by omega))).1]
      have az : A (w + 24) = M (w + 24) := congrArg (fun S : w_S => S.1) a2
      rw [az]
      refine ⟨by omega, fun _ => ?_, fun z => by omega⟩
      rw [s_w (by omega) (by omega)]
      refine ih A ⟨a1, ?_, a3⟩
      rw [a2, w_mp_next hs (by omega) (by show ((M (w + 24) s.toNat).toNat : Int) = M (w + 24) s.toNat; omega) (by omega), show (s + 1).toNat = s.toNat + 1 by omega]
    · intro d3 i A i1 i2 ⟨a1, a2, a3⟩ ih2
      unfold WX0_mergeRows_13 VX0_mergeRows_13
      rw [(a_cx_congr cx (a3 4423 (by omega) (by omega))).1]
      have az : A (w + 24) = M (w + 24) := congrArg (fun S : w_S => S.1) a2
      have himx : i.toNat < w_mx s.toNat := by omega
      have hin : w_F s.toNat + i.toNat < 290 := by omega
      have hat := mp_at a2 hs himx
      have hth := mp_thr a2 hs himx
      change _ = t_thr _ (M w 11) at hth
      have hA : A (w_at w (w_F s.toNat + i.toNat)) = (w_t (w_of M w) s.toNat i.toNat).1 := congrArg (fun t : w_T => t.1) hat
      have hR1 : s_row A (w_at w (w_F s.toNat + i.toNat) + 1) = (w_t (w_of M w) s.toNat i.toNat).2.1 := congrArg (fun t : w_T => t.2.1) hat
      have hR2 : s_row A (w_at w (w_F s.toNat + i.toNat) + 3) = (w_t (w_of M w) s.toNat i.toNat).2.2 := congrArg (fun t : w_T => t.2.2) hat
      have nxt : ∀ B, w_ok B w → w_of B w = w_mp (w_of M w) 2 F s.toNat (i.toNat + 1) → w_fr M B w → WX0_mergeRows_129 (WX0_mergeRows_3 Q d2) (WX0_mergeRows_13 (WX0_mergeRows_3 Q d2) Q d3) Q one other into s i B := by
        intro B b1 b2 b3
        show WX0_mergeRows_13 (WX0_mergeRows_3 Q d2) Q d3 one other into s (e_w32 (i + 1)) B
        rw [s_w (by omega) (by omega)]
        exact ih2 B ⟨b1, by rw [b2, show (i + 1).toNat = i.toNat + 1 by omega], b3⟩
      refine ⟨by omega, fun z => by rw [az] at z; omega, fun _ => k_at a1 (by omega) i1 (by rw [az]; exact i2) (k_thr_t a1 hs (by rw [az]; omega) (fun t => ⟨fun _ => ?_, fun z => by omega⟩) (fun t => ⟨fun z => absurd rfl z, fun _ => nxt A a1 ?_ a3⟩))⟩
      case refine_2 =>
        rw [w_mp_keep hs (by omega) himx (by rw [← hF]; unfold t_mrg; rw [if_neg (by rw [← hth, t]; exact Bool.false_ne_true)]), a2]
      rw [hth] at t
      have eF : F s.toNat (w_t (w_of M w) s.toNat i.toNat) = if s.toNat = 3 ∧ into ∈ r_mrg (w_t (w_of M w) s.toNat i.toNat).2.1 one other into then (s_fu (w_t (w_of M w) s.toNat i.toNat).1 2 (if (r_del (r_mrg (w_t (w_of M w) s.toNat i.toNat).2.2 one other into) into).length = 0 then 1 else 0), r_mrg (w_t (w_of M w) s.toNat i.toNat).2.1 one other into, r_del (r_mrg (w_t (w_of M w) s.toNat i.toNat).2.2 one other into) into) else ((w_t (w_of M w) s.toNat i.toNat).1, r_mrg (w_t (w_of M w) s.toNat i.toNat).2.1 one other into, r_mrg (w_t (w_of M w) s.toNat i.toNat).2.2 one other into) := by
        rw [← hF]
        unfold t_mrg
        rw [if_pos t]
      rw [(w_ref a1 hin).1]
      refine c_rmerge (a1.2.2.2 _ hin).1.1 (fun B b1 b2 b3 b4 => ?_)
      obtain ⟨u1, u2, u3⟩ := k_lts a1 hin b1 b2 b4
      rw [(w_ref u1 hin).2]
      refine c_rmerge (u1.2.2.2 _ hin).1.2 (fun C c1 c2 c3 c4 => ?_)
      obtain ⟨v1, v2, v3⟩ := k_ovr u1 hin c1 c2 c4
      have eR2 : s_row B (w_at w (w_F s.toNat + i.toNat) + 3) = (w_t (w_of M w) s.toNat i.toNat).2.2 := by
        rw [← hR2]
        exact s_row_congr (b4 _ (by omega) (by omega)) (b4 _ (by omega) (by omega))
      rw [eR2] at c1 v2
      rw [hR1] at b1 u2
      have fC := w_fr_trans a3 (w_fr_trans u3 v3)
      have wC : w_of C w = w_setT (w_mp (w_of M w) 2 F s.toNat i.toNat) (w_F s.toNat + i.toNat) ((w_t (w_of M w) s.toNat i.toNat).1, r_mrg (w_t (w_of M w) s.toNat i.toNat).2.1 one other into, r_mrg (w_t (w_of M w) s.toNat i.toNat).2.2 one other into) := by
        rw [v2, u2, ← a2]
        unfold w_ovr w_lts
        rw [w_setT_setT, w_of_t hin, hat]
        have wse : ∀ (X : w_S) (J : Nat) (t : w_T), (w_setT X J t).2.2.1 J = t := fun _ _ _ => s_fu_eq
        rw [wse]
      have cR1 : s_row C (w_at w (w_F s.toNat + i.toNat) + 1) = r_mrg (w_t (w_of M w) s.toNat i.toNat).2.1 one other into := by
        rw [← b1]
        exact s_row_congr (c4 _ (by omega) (by omega)) (c4 _ (by omega) (by omega))
      have plain : ¬ (s.toNat = 3 ∧ into ∈ r_mrg (w_t (w_of M w) s.toNat i.toNat).2.1 one other into) → WX0_mergeRows_129 (WX0_mergeRows_3 Q d2) (WX0_mergeRows_13 (WX0_mergeRows_3 Q d2) Q d3) Q one other into s i C := by
        intro ne
        refine nxt C v1 ?_ fC
        rw [w_mp_step hs (by omega) himx, eF, if_neg ne, wC]
      refine ⟨fun n3 => plain (fun c => n3 (by omega)), fun e3 => ?_⟩
      rw [(w_ref v1 hin).1]
      refine c_has (v1.2.2.2 _ hin).1.1 (fun m => ⟨fun z => by omega, fun _ => ?_⟩) (fun m => ⟨fun _ => plain (fun c => m (by rw [cR1]; exact c.2)), fun z => absurd rfl z⟩)
      rw [cR1] at m
      rw [(w_ref v1 hin).2]
      refine c_remove (v1.2.2.2 _ hin).1.2 (fun D d1 d2' d3' d4 => ?_)
      obtain ⟨x1, x2, x3⟩ := k_ovr v1 hin d1 d2' d4
      rw [c1] at d1 x2
      rw [(w_ref x1 hin).2]
      have dl := s_row_len (x1.2.2.2 _ hin).1.2
      rw [d1] at dl
      have fin : ∀ v : Int, v = (if (r_del (r_mrg (w_t (w_of M w) s.toNat i.toNat).2.2 one other into) into).length = 0 then 1 else 0) → (v = 0 ∨ v = 1) → WX0_mergeRows_126 (WX0_mergeRows_3 Q d2) (WX0_mergeRows_13 (WX0_mergeRows_3 Q d2) Q d3) Q one other into s i v (w_at w (w_F s.toNat + i.toNat)) D := by
        intro v ev hv
        unfold WX0_mergeRows_126 VX0_mergeRows_126
        refine ⟨hv, fun E eE => ?_⟩
        obtain ⟨y1, y2, y3⟩ := k_put x1 hin (k := 2) (v := v) (by omega) (by omega)
        rw [eE]
        refine nxt _ y1 ?_ (w_fr_trans fC (w_fr_trans x3 y3))
        rw [y2, x2, wC, w_mp_step hs (by omega) himx, eF, if_pos ⟨by omega, m⟩, ← ev]
        unfold w_put w_ovr
        have wse : ∀ (X : w_S) (J : Nat) (t : w_T), (w_setT X J t).2.2.1 J = t := fun _ _ _ => s_fu_eq
        rw [w_setT_setT, w_setT_setT]
        first
          | (simp only [wse]; done)
          | (simp only [wse]; rfl)
          | (rw [wse]; rfl)
      refine ⟨fun ne => fin 0 ?_ (Or.inl rfl), fun e => fin 1 ?_ (Or.inr rfl)⟩
      · rw [if_neg (by omega)]
      · rw [if_pos (by omega)]
theorem k_join {M : e_M} {w d : Nat} {at_ : Int} {Q : Int → e_M → Prop} (h : w_ok M w) (hr : w_rg (w_of M w)) (hw : a_w w) (cx : a_cx M w d at_) (hd : a_d w d) (h0 : 0 ≤ M 4425 0 ∧ M 4425 0 < M (w + 24) 0) (h1 : 0 ≤ M 4425 1 ∧ M 4425 1 < M (w + 24) 0)
    (q1 : M 4425 0 = M 4425 1 → a_q M w Q 1 (w_of M w))
    (q2 : M 4425 0 ≠ M 4425 1 → ¬ (w_oab (w_of M w) (M 4425 0).toNat ∧ w_oab (w_of M w) (M 4425 1).toNat) → a_q M w Q 2 (w_of M w))
    (q6 : M 4425 0 ≠ M 4425 1 → (w_oab (w_of M w) (M 4425 0).toNat ∧ w_oab (w_of M w) (M 4425 1).toNat) → ¬ o_same (w_l (w_of M w) (M 4425 0).toNat).2.2.2 (w_l (w_of M w) (M 4425 1).toNat).2.2.2 → a_q M w Q 6 (w_of M w))
    (q4 : M 4425 0 ≠ M 4425 1 → (w_oab (w_of M w) (M 4425 0).toNat ∧ w_oab (w_of M w) (M 4425 1).toNat) → o_same (w_l (w_of M w) (M 4425 0).toNat).2.2.2 (w_l (w_of M w) (M 4425 1).toNat).2.2.2 → (w_bar (w_of M w) (M 4425 0) (-1) ∨ w_bar (w_of M w) (M 4425 1) (-1)) → a_q M w Q 4 (w_of M w))
    (q5 : M 4425 0 ≠ M 4425 1 → (w_oab (w_of M w) (M 4425 0).toNat ∧ w_oab (w_of M w) (M 4425 1).toNat) → o_same (w_l (w_of M w) (M 4425 0).toNat).2.2.2 (w_l (w_of M w) (M 4425 1).toNat).2.2.2 → ¬ (w_bar (w_of M w) (M 4425 0) (-1) ∨ w_bar (w_of M w) (M 4425 1) (-1)) → ¬ ((w_l (w_of M w) (M 4425 0).toNat).2.2.1 = (w_l (w_of M w) (M 4425 1).toNat).2.2.1 ∧ w_both (w_of M w) 4 (M 4425 0) (M 4425 1) ∧ w_both (w_of M w) 6 (M 4425 0) (M 4425 1)) → a_q M w Q 5 (w_of M w))
    (q3 : M 4425 0 ≠ M 4425 1 → (w_oab (w_of M w) (M 4425 0).toNat ∧ w_oab (w_of M w) (M 4425 1).toNat) → o_same (w_l (w_of M w) (M 4425 0).toNat).2.2.2 (w_l (w_of M w) (M 4425 1).toNat).2.2.2 → ¬ (w_bar (w_of M w) (M 4425 0) (-1) ∨ w_bar (w_of M w) (M 4425 1) (-1)) → ((w_l (w_of M w) (M 4425 0).toNat).2.2.1 = (w_l (w_of M w) (M 4425 1).toNat).2.2.1 ∧ w_both (w_of M w) 4 (M 4425 0) (M 4425 1) ∧ w_both (w_of M w) 6 (M 4425 0) (M 4425 1)) → (∀ R, g_jraw (w_l (w_of M w) (M 4425 0).toNat).2.1 (w_l (w_of M w) (M 4425 1).toNat).2.1 = some R → ¬ g_okc R) → a_q M w Q 3 (w_of M w))
    (q7 : M 4425 0 ≠ M 4425 1 → (w_oab (w_of M w) (M 4425 0).toNat ∧ w_oab (w_of M w) (M 4425 1).toNat) → o_same (w_l (w_of M w) (M 4425 0).toNat).2.2.2 (w_l (w_of M w) (M 4425 1).toNat).2.2.2 → ¬ (w_bar (w_of M w) (M 4425 0) (-1) ∨ w_bar (w_of M w) (M 4425 1) (-1)) → ((w_l (w_of M w) (M 4425 0).toNat).2.2.1 = (w_l (w_of M w) (M 4425 1).toNat).2.2.1 ∧ w_both (w_of M w) 4 (M 4425 0) (M 4425 1) ∧ w_both (w_of M w) 6 (M 4425 0) (M 4425 1)) → ∀ R, g_jraw (w_l (w_of M w) (M 4425 0).toNat).2.1 (w_l (w_of M w) (M 4425 1).toNat).2.1 = some R → g_okc R → 80 ≤ M (w + 24) 0 → a_q M w Q 7 (w_of M w))
    (qd : M 4425 0 ≠ M 4425 1 → (w_oab (w_of M w) (M 4425 0).toNat ∧ w_oab (w_of M w) (M 4425 1).toNat) → o_same (w_l (w_of M w) (M 4425 0).toNat).2.2.2 (w_l (w_of M w) (M 4425 1).toNat).2.2.2 → ¬ (w_bar (w_of M w) (M 4425 0) (-1) ∨ w_bar (w_of M w) (M 4425 1) (-1)) → ((w_l (w_of M w) (M 4425 0).toNat).2.2.1 = (w_l (w_of M w) (M 4425 1).toNat).2.2.1 ∧ w_both (w_of M w) 4 (M 4425 0) (M 4425 1) ∧ w_both (w_of M w) 6 (M 4425 0) (M 4425 1)) → ∀ R, g_jraw (w_l (w_of M w) (M 4425 0).toNat).2.1 (w_l (w_of M w) (M 4425 1).toNat).2.1 = some R → g_okc R → M (w + 24) 0 < 80 → a_q M w Q 0 (w_map (w_lpt (w_lpt (w_addL (w_of M w) (l_mk (M (d + 1) 2) (w_l (w_of M w) (M 4425 0).toNat) (g_cls R))) (M 4425 0).toNat 1 1) (M 4425 1).toNat 1 1) 2 6 (t_mrg (M 4425 0) (M 4425 1) (M (w + 24) 0) (M w 11)))) : WX0_join M Q := by
  have hi : (M 4425 0).toNat < 80 := w_in0 h (by omega)
  have hj : (M 4425 1).toNat < 80 := w_in0 h (by omega)
  have hz := w_zb h (show 0 < 8 by omega)
  have hw' := hw
  unfold a_w at hw'
  have hd' := hd
  unfold a_d at hd'
  have hfi := (hr.1 (M 4425 0).toNat (by show ((M 4425 0).toNat : Int) < M (w + 24) 0; omega)).1
  have hfj := (hr.1 (M 4425 1).toNat (by show ((M 4425 1).toNat : Int) < M (w + 24) 0; omega)).1
  obtain ⟨ki1, ki2, ki3⟩ := h.2.2.1 _ hi
  obtain ⟨kj1, kj2, kj3⟩ := h.2.2.1 _ hj
  have ei : w_l (w_of M w) (M 4425 0).toNat = x_lot M (w_al w (M 4425 0).toNat) := w_l_e hi
  have ej : w_l (w_of M w) (M 4425 1).toNat = x_lot M (w_al w (M 4425 1).toNat) := w_l_e hj
  have ei1 : (w_l (w_of M w) (M 4425 0).toNat).2.1 = s_fig M (w_al w (M 4425 0).toNat + 1) := by rw [ei]; rfl
  have ej1 : (w_l (w_of M w) (M 4425 1).toNat).2.1 = s_fig M (w_al w (M 4425 1).toNat + 1) := by rw [ej]; rfl
  have ei2 : (w_l (w_of M w) (M 4425 0).toNat).2.2.1 = s_row M (w_al w (M 4425 0).toNat + 4) := by rw [ei]; rfl
  have ej2 : (w_l (w_of M w) (M 4425 1).toNat).2.2.1 = s_row M (w_al w (M 4425 1).toNat + 4) := by rw [ej]; rfl
  have ei3 : (w_l (w_of M w) (M 4425 0).toNat).2.2.2 = s_own M (w_al w (M 4425 0).toNat) := by rw [ei]; rfl
  have ej3 : (w_l (w_of M w) (M 4425 1).toNat).2.2.2 = s_own M (w_al w (M 4425 1).toNat) := by rw [ej]; rfl
  rw [ei1] at hfi
  rw [ej1] at hfj
  have hai : w_al w (M 4425 0).toNat = w + 29 + 9 * (M 4425 0).toNat := rfl
  have haj : w_al w (M 4425 1).toNat = w + 29 + 9 * (M 4425 1).toNat := rfl
  unfold WX0_join VX0_join
  rw [cx.1, show (0 : Int).toNat = 0 from rfl, show (1 : Int).toNat = 1 from rfl, show (2 : Int).toNat = 2 from rfl]
  refine ⟨by omega, by omega, k_lot h h0.1 h0.2 (k_lot h h1.1 h1.2 ⟨fun ne => ?_, fun e => a_q_no h (q1 e)⟩)⟩
  replace q2 := q2 ne
  replace q6 := q6 ne
  replace q4 := q4 ne
  replace q5 := q5 ne
  replace q3 := q3 ne
  replace q7 := q7 ne
  replace qd := qd ne
  refine k_ownersAble h hr cx h0 (fun a1 => ⟨fun z => by omega, fun _ => k_ownersAble h hr cx h1 (fun a2 => ⟨fun _ => ?_, fun z => by omega⟩) (fun a2 => ⟨fun z => absurd rfl z, fun _ => a_q_no h (q2 (fun c => a2 c.2))⟩)⟩) (fun a1 => ⟨fun _ => a_q_no h (q2 (fun c => a1 c.1)), fun z => absurd rfl z⟩)
  replace q6 := q6 ⟨a1, a2⟩
  replace q4 := q4 ⟨a1, a2⟩
  replace q5 := q5 ⟨a1, a2⟩
  replace q3 := q3 ⟨a1, a2⟩
  replace q7 := q7 ⟨a1, a2⟩
  replace qd := qd ⟨a1, a2⟩
  rw [ei3, ej3] at q6 q4 q5 q3 q7 qd
  refine c_hasSameOwners ki3 kj3 (fun so => ⟨fun _ => ?_, fun z => by omega⟩) (fun so => ⟨fun z => absurd rfl z, fun _ => a_q_no h (q6 so)⟩)
  replace q4 := q4 so
  replace q5 := q5 so
  replace q3 := q3 so
  replace q7 := q7 so
  replace qd := qd so
  refine k_barred h cx (fun b1 => ⟨fun _ => a_q_no h (q4 (Or.inl b1)), fun z => by omega⟩) (fun b1 => ⟨fun z => absurd rfl z, fun _ => k_barred h cx (fun b2 => ⟨fun z => by omega, fun _ => a_q_no h (q4 (Or.inr b2))⟩) (fun b2 => ⟨fun _ => ?_, fun z => absurd rfl z⟩)⟩)
  have nb : ¬ (w_bar (w_of M w) (M 4425 0) (-1) ∨ w_bar (w_of M w) (M 4425 1) (-1)) := fun c => c.elim b1 b2
  replace q5 := q5 nb
  replace q3 := q3 nb
  replace q7 := q7 nb
  replace qd := qd nb
  rw [ei2, ej2] at q5 q3 q7 qd
  refine c_isSame ki2 kj2 (fun sc => ⟨fun z => by omega, fun _ => k_onBoth h cx (by omega) (fun o1 => ⟨fun z => by omega, fun _ => k_onBoth h cx (by omega) (fun o2 => ⟨fun _ => ?_, fun z => by omega⟩) (fun o2 => ⟨fun z => absurd rfl z, fun _ => a_q_no h (q5 (fun c => o2 c.2.2))⟩)⟩) (fun o1 => ⟨fun _ => a_q_no h (q5 (fun c => o1 c.2.1)), fun z => absurd rfl z⟩)⟩) (fun sc => ⟨fun _ => a_q_no h (q5 (fun c => sc c.1)), fun z => absurd rfl z⟩)
  have al : s_row M (w_al w (M 4425 0).toNat + 4) = s_row M (w_al w (M 4425 1).toNat + 4) ∧ w_both (w_of M w) 4 (M 4425 0) (M 4425 1) ∧ w_both (w_of M w) 6 (M 4425 0) (M 4425 1) := ⟨sc, o1, o2⟩
  replace q3 := q3 al
  replace q7 := q7 al
  replace qd := qd al
  rw [ei1, ej1] at q3 q7 qd
  have plane : ∀ N : e_M, (∀ c, c < 4426 ∨ 4442 < c ∨ (4427 ≤ c ∧ c ≤ 4432) → N c = M c) → (w_ok N w ∧ w_of N w = w_of M w) ∧ (a_cx N w d at_ ∧ N 4425 = M 4425 ∧ ∀ k, k ≤ 6 → N (d + k) = M (d + k)) ∧ a_fr M N w := by
    intro N f
    refine ⟨w_same h (fun b b1 b2 => f b (by omega)), ⟨a_cx_congr cx (f _ (by omega)), f _ (by omega), fun k hk6 => f _ (by omega)⟩, fun b b1 b2 b3 => f b (by omega)⟩
  refine c_join ki1 kj1 hfi hfj (by omega) (by omega) (fun R eR oR N nF nK fN => ⟨fun _ => ?_, fun z => by omega⟩) (fun no N fN => ⟨fun z => absurd rfl z, fun _ => q3 no N (plane N fN).1.1 (plane N fN).1.2 (plane N fN).2.2⟩)
  obtain ⟨⟨n1, n2⟩, ⟨n3, n4, n5⟩, n6⟩ := plane N fN
  have nz : N (w + 24) = M (w + 24) := congrArg (fun S : w_S => S.1) n2
  replace q7 := q7 R eR oR
  replace qd := qd R eR oR
  rw [n3.1]
  refine k_isFull (s := 0) (by omega) (fun fu => ⟨fun z => by omega, fun _ => q7 (by rw [nz] at fu; exact fu) N n1 n2 n6⟩) (fun fu => ⟨fun _ => ?_, fun z => absurd rfl z⟩)
  rw [nz] at fu
  replace fu : M (w + 24) 0 < 80 := fu
  replace qd := qd fu
  rw [n3.2.1, n5 1 (by omega)]
  refine ⟨by omega, k_makeLot n1 hw n3 (by rw [nz]; omega) (by rw [nz]; exact fu) nK (by omega) (fun A a1 a2 a3 => ⟨by omega, fun B eB => ⟨by omega, fun C eC => ?_⟩⟩)⟩
  rw [nz]
  obtain ⟨u1, u2, u3⟩ := k_lpt a1 hi (k := 1) (v := 1) (by omega)
  rw [← eB] at u1 u2 u3
  obtain ⟨v1, v2, v3⟩ := k_lpt u1 hj (k := 1) (v := 1) (by omega)
  rw [← eC] at v1 v2 v3
  have fNC : w_fr N C w := w_fr_trans a3 (w_fr_trans u3 v3)
  have C3 := (e_fr_dd hw n3 hd (e_fr_w fNC)).1
  have C11 : C w 11 = M w 11 := by
    have := congrArg (fun S : w_S => S.2.2.2) v2
    rw [u2, a2, n2] at this
    exact this
  refine k_merge v1 hw C3 (fun E e1 e2 e3 => qd E e1 ?_ (a_fr_trans n6 (a_fr_of (w_fr_trans fNC e3))))
  rw [e2, C11, v2, u2, a2, n2, nF]
