/-! Acts: close, clearLot -/
def w_busyL (S : w_S) (p : Int) : Prop := ∃ i : Nat, (i : Int) < w_z S 0 ∧ (w_l S i).1 1 = 0 ∧ 0 ≤ o_fd (w_l S i).2.2.2 p
def w_busyT (S : w_S) (p : Int) : Prop := ∃ s i : Nat, 2 ≤ s ∧ s ≤ 6 ∧ s ≠ 5 ∧ (i : Int) < w_z S s ∧ w_thr S s i = true ∧ (w_t S s i).1 5 = p
theorem k_close {M : e_M} {w d : Nat} {at_ : Int} {Q : Int → e_M → Prop} (h : w_ok M w) (hw : a_w w) (cx : a_cx M w d at_) (h0 : 0 ≤ M 4425 0 ∧ M 4425 0 < M (w + 24) 1)
    (q5 : (w_busyL (w_of M w) (M 4425 0) ∨ w_busyT (w_of M w) (M 4425 0)) → a_q M w Q 5 (w_of M w))
    (q0 : ¬ w_busyL (w_of M w) (M 4425 0) → ¬ w_busyT (w_of M w) (M 4425 0) → a_q M w Q 0 (w_put (w_map (w_of M w) 2 6 (t_ends (M 4425 0) 0)) (w_F 1 + (M 4425 0).toNat) 2 1)) : WX0_closeFirm M Q := by
  have hz := w_zb h (show 0 < 8 by omega)
  have hm : w_mx 0 = 80 := rfl
  have hw' := hw
  unfold a_w at hw'
  unfold WX0_closeFirm VX0_closeFirm
  rw [show (0 : Int).toNat = 0 from rfl]
  generalize hP : M 4425 0 = p at *
  refine ⟨by omega, s_up (P := fun d i N => WX0_closeFirm_9 Q d p i N) (n := M (w + 24) 0) (fun i N => N = M ∧ ∀ j : Nat, (j : Int) < i → ¬ ((w_l (w_of M w) j).1 1 = 0 ∧ 0 ≤ o_fd (w_l (w_of M w) j).2.2.2 p)) hz.1 ⟨rfl, fun j hj => by omega⟩ ?_ ?_⟩
  · intro d2 N ⟨e, hi⟩
    subst e
    have nl : ¬ w_busyL (w_of N w) p := fun ⟨i, i1, i2⟩ => hi i i1 i2
    unfold WX0_closeFirm_9 VX0_closeFirm_9
    rw [cx.1, show (0 : Int).toNat = 0 from rfl]
    refine ⟨by omega, fun _ => ?_, fun z => by omega⟩
    refine s_up (P := fun d s A => WX0_closeFirm_61 Q d p s A) (n := 7) (fun s A => A = N ∧ ∀ r j : Nat, 2 ≤ r → (r : Int) < s → r ≠ 5 → (j : Int) < w_z (w_of N w) r → ¬ (w_thr (w_of N w) r j = true ∧ (w_t (w_of N w) r j).1 5 = p)) (by omega) ⟨rfl, fun r j h1 h2 => by omega⟩ ?_ ?_
    · intro d3 A ⟨e, hj⟩
      subst e
      have nt : ¬ w_busyT (w_of A w) p := fun ⟨s, i, s1, s2, s3, i1, i2⟩ => hj s i s1 (by omega) s3 i1 i2
      refine ⟨fun _ => k_endRights h hw cx (fun B b1 b2 b3 => ?_), fun z => by omega⟩
      rw [(a_cx_congr cx (b3 4423 (by omega) (by omega))).1]
      have bz : B (w + 24) = A (w + 24) := congrArg (fun S : w_S => S.1) b2
      have hin := w_in (s := 1) (i := p.toNat) b1 (by omega) (by rw [bz]; omega)
      refine k_at b1 (by omega) h0.1 (by rw [bz]; exact h0.2) ⟨by omega, fun M3 e3 => ?_⟩
      obtain ⟨u1, u2, u3⟩ := k_put b1 hin (k := 2) (v := 1) (by omega) (by omega)
      rw [e3]
      refine q0 nl nt _ u1 ?_ (a_fr_of (w_fr_trans b3 u3))
      rw [← b2]
      exact u2
    · intro d3 s A s1 s2 ⟨e, hj⟩ ih
      subst e
      have hs : 1 ≤ s.toNat ∧ s.toNat < 8 := by omega
      have hz2 := w_zb h hs.2
      have hm2 := w_F_lt s.toNat hs.2 hs.1
      have nxt : (s ≠ 5 → ∀ j : Nat, (j : Int) < w_z (w_of A w) s.toNat → ¬ (w_thr (w_of A w) s.toNat j = true ∧ (w_t (w_of A w) s.toNat j).1 5 = p)) → WX0_closeFirm_130 (WX0_closeFirm_61 Q d3) Q p s A := by
        intro hh
        show WX0_closeFirm_61 Q d3 p (e_w32 (s + 1)) A
        rw [s_w (by omega) (by omega)]
        refine ih A ⟨rfl, fun r j r1 r2 r5 hj2 => ?_⟩
        by_cases c : (r : Int) = s
        · have er : r = s.toNat := by omega
          subst er
          exact hh (by omega) j hj2
        · exact hj r j r1 (by omega) r5 hj2
      refine ⟨fun z => by omega, fun _ => ?_⟩
      refine s_up (P := fun d i B => WX0_closeFirm_69 (WX0_closeFirm_61 Q d3) Q d p s i B) (n := A (w + 24) s.toNat) (fun i B => B = A ∧ ∀ j : Nat, (j : Int) < i → ¬ (w_thr (w_of A w) s.toNat j = true ∧ (w_t (w_of A w) s.toNat j).1 5 = p)) hz2.1 ⟨rfl, fun j hj => by omega⟩ ?_ ?_
      · intro d4 B ⟨e, hi5⟩
        subst e
        unfold WX0_closeFirm_69 VX0_closeFirm_69
        rw [cx.1]
        exact ⟨by omega, fun _ => nxt (fun _ j hj2 => hi5 j hj2), fun z => by omega⟩
      · intro d4 i B k1 k2 ⟨e, hi5⟩ ih2
        subst e
        unfold WX0_closeFirm_69 VX0_closeFirm_69
        rw [cx.1]
        refine ⟨by omega, fun z => by omega, fun _ => ⟨fun e5 => nxt (fun n5 => absurd e5 n5), fun n5 => k_at h (by omega) k1 k2 ?_⟩⟩
        have hin := w_in (s := s.toNat) (i := i.toNat) h (by omega) (by omega)
        have go : ¬ (w_thr (w_of B w) s.toNat i.toNat = true ∧ (w_t (w_of B w) s.toNat i.toNat).1 5 = p) → WX0_closeFirm_124 (WX0_closeFirm_61 Q d3) (WX0_closeFirm_69 (WX0_closeFirm_61 Q d3) Q d4) Q p s i B := by
          intro ne
          show WX0_closeFirm_69 (WX0_closeFirm_61 Q d3) Q d4 p s (e_w32 (i + 1)) B
          rw [s_w (by omega) (by omega)]
          refine ih2 B ⟨rfl, fun j hj2 => ?_⟩
          by_cases c : (j : Int) = i
          · rw [show j = i.toNat by omega]; exact ne
          · exact hi5 j (by omega)
        refine k_thr_t h hs (by omega) (fun t => ⟨fun z => by omega, fun _ => ?_⟩) (fun t => ⟨fun _ => go (fun z => by rw [t] at z; cases z.1), fun z => absurd rfl z⟩)
        refine ⟨fun ne => go (fun z => ne (by rw [w_t_k hin] at z; exact z.2)), fun e5 => a_q_no h (q5 (Or.inr ⟨s.toNat, i.toNat, by omega, by omega, by omega, by show (i.toNat : Int) < B (w + 24) s.toNat; omega, t, by rw [w_t_k hin]; exact e5⟩))⟩
  · intro d2 i N k1 k2 ⟨e, hi⟩ ih
    subst e
    have hi80 : i.toNat < 80 := by omega
    unfold WX0_closeFirm_9 VX0_closeFirm_9
    rw [cx.1, show (0 : Int).toNat = 0 from rfl]
    have go : ¬ ((w_l (w_of N w) i.toNat).1 1 = 0 ∧ 0 ≤ o_fd (w_l (w_of N w) i.toNat).2.2.2 p) → WX0_closeFirm_53 (WX0_closeFirm_9 Q d2) Q p i N := by
      intro ne
      show WX0_closeFirm_9 Q d2 p (e_w32 (i + 1)) N
      rw [s_w (by omega) (by omega)]
      refine ih N ⟨rfl, fun j hj2 => ?_⟩
      by_cases c : (j : Int) = i
      · rw [show j = i.toNat by omega]; exact ne
      · exact hi j (by omega)
    rw [w_l_k hi80 (by omega), w_l_e hi80] at go
    refine ⟨by omega, fun z => by omega, fun _ => k_lot h k1 k2 ⟨fun ne => go (fun z => ne z.1), fun e1 => k_lot h k1 k2 (c_placeOf (h.2.2.1 _ hi80).2.2 ⟨fun lt => go (fun z => ?_), fun ge => a_q_no h (q5 (Or.inl ⟨i.toNat, by show (i.toNat : Int) < N (w + 24) 0; omega, by rw [w_l_k hi80 (by omega)]; exact e1, by rw [w_l_e hi80]; exact ge⟩))⟩)⟩⟩
    exact absurd z.2 (Int.not_le.mpr lt)
/-! what goes with an auction -/
def t_leave (t : w_T) (l : Int) : w_T := (if (r_del t.2.1 l).length = 0 then s_fu t.1 2 1 else t.1, r_del t.2.1 l, t.2.2)
theorem w_leave_eq {S : w_S} {j : Nat} {l : Int} : w_leave S j l = w_setT S j (t_leave (S.2.2.1 j) l) := by
  unfold w_leave t_leave
  by_cases c : (r_del (S.2.2.1 j).2.1 l).length = 0
  · rw [if_pos c, if_pos c]
    unfold w_put w_lts
    rw [w_setT_setT]
    show w_setT S j (s_fu (s_fu S.2.2.1 j _ j).1 2 1, (s_fu S.2.2.1 j _ j).2) = _
    rw [s_fu_eq]
  · rw [if_neg c, if_neg c]; rfl
def t_clr (sold made day : Int) (s : Nat) (t : w_T) : w_T := if ¬ (s = 4 ∧ t.1 1 < made) ∧ t_thr t day = true ∧ sold ∈ t.2.1 then t_leave t sold else t
theorem k_clearLot {M : e_M} {w d : Nat} {at_ sold made : Int} {Q : e_M → Prop} (h : w_ok M w) (hw : a_w w) (cx : a_cx M w d at_) (hq : ∀ M', w_ok M' w → w_of M' w = w_map (w_of M w) 4 6 (t_clr sold made (M w 11)) → w_fr M M' w → Q M') : WX0_clearLot sold made M Q := by
  unfold a_w at hw
  unfold WX0_clearLot VX0_clearLot
  refine s_up (P := fun d i N => WX0_clearLot_2 Q d sold made i N) (n := 7) (fun s N => w_ok N w ∧ w_of N w = w_mp (w_of M w) 4 (t_clr sold made (M w 11)) s.toNat 0 ∧ w_fr M N w) (by omega) ⟨h, (w_mp_0 (by omega) (by omega)).symm, w_fr_refl⟩ ?_ ?_
  · intro d2 N ⟨n1, n2, n3⟩
    exact ⟨fun _ => hq N n1 n2 n3, fun z => by omega⟩
  · intro d2 s N s1 s2 ⟨n1, n2, n3⟩ ih
    have hs : 1 ≤ s.toNat ∧ s.toNat < 8 := by omega
    have hz := w_zb h hs.2
    have hm := w_F_lt s.toNat hs.2 hs.1
    refine ⟨fun z => by omega, fun _ => ?_⟩
    refine s_up (P := fun d i N => WX0_clearLot_11 (WX0_clearLot_2 Q d2) Q d sold made s i N) (n := M (w + 24) s.toNat) (fun i N => w_ok N w ∧ w_of N w = w_mp (w_of M w) 4 (t_clr sold made (M w 11)) s.toNat i.toNat ∧ w_fr M N w) hz.1 ⟨n1, n2, n3⟩ ?_ ?_
    · intro d3 A ⟨a1, a2, a3⟩
      unfold WX0_clearLot_11 VX0_clearLot_11
      rw [(a_cx_congr cx (a3 4423 (by omega) (by omega))).1]
      have az : A (w + 24) = M (w + 24) := congrArg (fun S : w_S => S.1) a2
      rw [az]
      refine ⟨by omega, fun _ => ?_, fun z => by omega⟩
      rw [s_w (by omega) (by omega)]
      refine ih A ⟨a1, ?_, a3⟩
      rw [a2, w_mp_next hs (by omega) (by show ((M (w + 24) s.toNat).toNat : Int) = M (w + 24) s.toNat; omega) (by omega), show (s + 1).toNat = s.toNat + 1 by omega]
    · intro d3 i A i1 i2 ⟨a1, a2, a3⟩ ih2
      unfold WX0_clearLot_11 VX0_clearLot_11
      have cx2 := a_cx_congr cx (a3 4423 (by omega) (by omega))
      rw [cx2.1]
      have az : A (w + 24) = M (w + 24) := congrArg (fun S : w_S => S.1) a2
      have ad : A w 11 = M w 11 := by rw [a3 w (by omega) (by omega)]
      have himx : i.toNat < w_mx s.toNat := by omega
      have hin : w_F s.toNat + i.toNat < 290 := by omega
      have hat : x_th A (w_at w (w_F s.toNat + i.toNat)) = w_t (w_of M w) s.toNat i.toNat := by
        have := congrFun (congrArg (fun S : w_S => S.2.2.1) a2) (w_F s.toNat + i.toNat)
        rw [w_of_t hin] at this
        rw [this]
        exact w_mp_at hs himx
      have hA : A (w_at w (w_F s.toNat + i.toNat)) = (w_t (w_of M w) s.toNat i.toNat).1 := congrArg (fun t : w_T => t.1) hat
      have hR : s_row A (w_at w (w_F s.toNat + i.toNat) + 1) = (w_t (w_of M w) s.toNat i.toNat).2.1 := congrArg (fun t : w_T => t.2.1) hat
      have keep : ¬ (¬ (s.toNat = 4 ∧ (w_t (w_of M w) s.toNat i.toNat).1 1 < made) ∧ t_thr (w_t (w_of M w) s.toNat i.toNat) (M w 11) = true ∧ sold ∈ (w_t (w_of M w) s.toNat i.toNat).2.1) → WX0_clearLot_97 (WX0_clearLot_2 Q d2) (WX0_clearLot_11 (WX0_clearLot_2 Q d2) Q d3) Q sold made s i A := by
        intro ne
        show WX0_clearLot_11 (WX0_clearLot_2 Q d2) Q d3 sold made s (e_w32 (i + 1)) A
        rw [s_w (by omega) (by omega)]
        refine ih2 A ⟨a1, ?_, a3⟩
        rw [show (i + 1).toNat = i.toNat + 1 by omega, w_mp_keep hs (by omega) himx (by unfold t_clr; rw [if_neg ne]), a2]
      have e56 : ¬ (s.toNat = 4 ∧ (w_t (w_of M w) s.toNat i.toNat).1 1 < made) → WX0_clearLot_56 (WX0_clearLot_2 Q d2) (WX0_clearLot_11 (WX0_clearLot_2 Q d2) Q d3) Q sold made s i (w_at w (w_F s.toNat + i.toNat)) 0 A := by
        intro nst
        unfold WX0_clearLot_56 VX0_clearLot_56
        rw [cx2.1]
        refine ⟨fun z => absurd rfl z, fun _ => ?_⟩
        have thr_eq : w_thr (w_of A w) s.toNat i.toNat = t_thr (w_t (w_of M w) s.toNat i.toNat) (M w 11) := by
          unfold w_thr
          rw [if_neg (by omega), w_t_e hin, hat]
          show t_thr _ (A w 11) = _
          rw [ad]
        refine k_thr_t a1 hs (by rw [az]; omega) (fun t => ⟨fun z => by omega, fun _ => ?_⟩) (fun t => ⟨fun _ => keep (fun z => by rw [thr_eq] at t; rw [t] at z; cases z.2.1), fun z => absurd rfl z⟩)
        rw [thr_eq] at t
        rw [(w_ref a1 hin).1]
        refine c_has (a1.2.2.2 _ hin).1.1 (fun m => ⟨fun z => by omega, fun _ => k_leave a1 hin (fun B b1 b2 b3 => ?_)⟩) (fun m => ⟨fun _ => keep (fun z => m (by rw [hR]; exact z.2.2)), fun z => absurd rfl z⟩)
        rw [hR] at m
        show WX0_clearLot_11 (WX0_clearLot_2 Q d2) Q d3 sold made s (e_w32 (i + 1)) B
        rw [s_w (by omega) (by omega)]
        refine ih2 B ⟨b1, ?_, w_fr_trans a3 b3⟩
        rw [b2, w_leave_eq, w_of_t hin, hat, a2, show (i + 1).toNat = i.toNat + 1 by omega, w_mp_step hs (by omega) himx]
        unfold t_clr
        rw [if_pos ⟨nst, t, m⟩]
      refine ⟨by omega, fun z => by rw [az] at z; omega, fun _ => k_at a1 (by omega) i1 (by rw [az]; exact i2) ?_⟩
      rw [hA]
      refine ⟨fun n4 => e56 (fun z => n4 (by omega)), fun e4 => ⟨fun le => e56 (fun z => by omega), fun lt => ⟨fun _ => keep (fun z => z.1 ⟨by omega, lt⟩), fun z => by omega⟩⟩⟩
