/-! Acts: split -/
theorem w_map_congr {S : w_S} {lo hi : Nat} {f g : Nat → w_T → w_T} (hlo : 1 ≤ lo) (hhi : hi < 8) (h : ∀ s i : Nat, lo ≤ s → s ≤ hi → (i : Int) < S.1 s → f s (w_t S s i) = g s (w_t S s i)) : w_map S lo hi f = w_map S lo hi g := by
  unfold w_map w_mp
  refine Prod.ext rfl (Prod.ext rfl (Prod.ext (funext fun j => ?_) rfl))
  show (if w_mpc S lo (hi + 1) 0 j = true then _ else _) = (if w_mpc S lo (hi + 1) 0 j = true then _ else _)
  by_cases c : w_mpc S lo (hi + 1) 0 j = true
  · rw [if_pos c, if_pos c]
    obtain ⟨c1, c2, c3⟩ := w_mpc_iff.mp c
    have c4 := w_srt_lt c2
    rcases c3 with ⟨c5, c6⟩ | ⟨c5, c6⟩
    · have := h (w_srt j) (j - w_F (w_srt j)) c1 (by omega) c6
      unfold w_t at this
      rw [show w_F (w_srt j) + (j - w_F (w_srt j)) = j by omega] at this
      exact this
    · rw [← c5] at c6; omega
  · rw [if_neg c, if_neg c]
theorem w_dk_tr {M N : e_M} {w : Nat} (hk : w_dk M w) (hz : ∀ s, 2 ≤ s → s < 8 → N (w + 24) s = M (w + 24) s) (ht : (w_of N w).2.2.1 = (w_of M w).2.2.1) (f : ∀ b, (b < w ∨ w + 2199 ≤ b) → (b < 4423 ∨ 4452 ≤ b) → N b = M b) : w_dk N w ∧ ∀ s i : Nat, 2 ≤ s → s < 8 → (i : Int) < M (w + 24) s → s_dps N ((w_t (w_of M w) s i).1 11).toNat = s_dps M ((w_t (w_of M w) s i).1 11).toNat := by
  have et : ∀ s i, w_t (w_of N w) s i = w_t (w_of M w) s i := fun s i => congrFun ht _
  have key : ∀ s i : Nat, 2 ≤ s → s < 8 → (i : Int) < M (w + 24) s → ∀ k, k ≤ 6 → N (((w_t (w_of M w) s i).1 11).toNat + k) = M (((w_t (w_of M w) s i).1 11).toNat + k) := by
    intro s i s1 s2 s3 k hk6
    have dk := (hk s i s1 s2 s3).1
    unfold a_d at dk
    exact f _ (by omega) (by omega)
  refine ⟨fun s i s1 s2 s3 => ?_, fun s i s1 s2 s3 => (s_dd_congr (key s i s1 s2 s3)).2.2.2.1⟩
  rw [et]
  rw [hz s s1 s2] at s3
  have dk := hk s i s1 s2 s3
  have dd := s_dd_congr (key s i s1 s2 s3)
  exact ⟨dk.1, dd.2.2.2.2 dk.2.1, by rw [dd.2.2.2.1]; exact dk.2.2⟩
def t_spl (P : Nat → s_Fig) (old a b day : Int) (L R : s_Fig) (_ : Nat) (t : w_T) : w_T := if t_thr t day = true then (t.1, r_part t.2.1 old a b, r_pov t.2.2 old a b (g_hold L (P (t.1 11).toNat)) (g_hold R (P (t.1 11).toNat))) else t
theorem k_splitAll {M : e_M} {w d : Nat} {at_ old x y : Int} {Q : Int → e_M → Prop} (h : w_ok M w) (hw : a_w w) (cx : a_cx M w d at_) (hk : w_dk M w) (kL : s_fok M 4427) (kR : s_fok M 4430) (bL : s_fb (s_fig M 4427)) (bR : s_fb (s_fig M 4430)) (hq : ∀ M', w_ok M' w → w_of M' w = w_map (w_of M w) 2 6 (t_spl (s_dps M) old x y (M w 11) (s_fig M 4427) (s_fig M 4430)) → w_fr M M' w → Q 0 M') : ∃ j, WX0_split_140 Q j old x y 2 M := by
  unfold a_w at hw
  generalize hF : t_spl (s_dps M) old x y (M w 11) (s_fig M 4427) (s_fig M 4430) = F at *
  refine s_up (P := fun d s N => WX0_split_140 Q d old x y s N) (n := 7) (fun s N => w_ok N w ∧ w_of N w = w_mp (w_of M w) 2 F s.toNat 0 ∧ w_fr M N w) (by omega) ⟨h, (w_mp_0 (by omega) (by omega)).symm, w_fr_refl⟩ ?_ ?_
  · intro d2 N ⟨n1, n2, n3⟩
    unfold WX0_split_140 VX0_split_140
    exact ⟨fun _ => hq N n1 n2 n3, fun z => by omega⟩
  · intro d2 s N s1 s2 ⟨n1, n2, n3⟩ ih
    have hs : 1 ≤ s.toNat ∧ s.toNat < 8 := by omega
    have hz := w_zb h hs.2
    have hm := w_F_lt s.toNat hs.2 hs.1
    unfold WX0_split_140 VX0_split_140
    refine ⟨fun z => by omega, fun _ => ?_⟩
    refine s_up (P := fun d i N => WX0_split_150 (WX0_split_140 Q d2) Q d old x y s i N) (n := M (w + 24) s.toNat) (fun i N => w_ok N w ∧ w_of N w = w_mp (w_of M w) 2 F s.toNat i.toNat ∧ w_fr M N w) hz.1 ⟨n1, n2, n3⟩ ?_ ?_
    · intro d3 A ⟨a1, a2, a3⟩
      unfold WX0_split_150 VX0_split_150
      rw [(a_cx_congr cx (a3 4423 (by omega) (by omega))).1]
      have az : A (w + 24) = M (w + 24) := congrArg (fun S : w_S => S.1) a2
      rw [az]
      refine ⟨by omega, fun _ => ?_, fun z => by omega⟩
      rw [s_w (by omega) (by omega)]
      refine ih A ⟨a1, ?_, a3⟩
      rw [a2, w_mp_next hs (by omega) (by show ((M (w + 24) s.toNat).toNat : Int) = M (w + 24) s.toNat; omega) (by omega), show (s + 1).toNat = s.toNat + 1 by omega]
    · intro d3 i A i1 i2 ⟨a1, a2, a3⟩ ih2
      unfold WX0_split_150 VX0_split_150
      rw [(a_cx_congr cx (a3 4423 (by omega) (by omega))).1]
      have az : A (w + 24) = M (w + 24) := congrArg (fun S : w_S => S.1) a2
      have ad : A w 11 = M w 11 := by rw [a3 w (by omega) (by omega)]
      have himx : i.toNat < w_mx s.toNat := by omega
      have hin : w_F s.toNat + i.toNat < 290 := by omega
      have hat := mp_at a2 hs himx
      have hth := mp_thr a2 hs himx
      change _ = t_thr _ (M w 11) at hth
      have hA : A (w_at w (w_F s.toNat + i.toNat)) = (w_t (w_of M w) s.toNat i.toNat).1 := congrArg (fun t : w_T => t.1) hat
      have hR1 : s_row A (w_at w (w_F s.toNat + i.toNat) + 1) = (w_t (w_of M w) s.toNat i.toNat).2.1 := congrArg (fun t : w_T => t.2.1) hat
      have hR2 : s_row A (w_at w (w_F s.toNat + i.toNat) + 3) = (w_t (w_of M w) s.toNat i.toNat).2.2 := congrArg (fun t : w_T => t.2.2) hat
      have dk := hk s.toNat i.toNat (by omega) hs.2 (by omega)
      have dk1 := dk.1
      unfold a_d at dk1
      have nxt : ∀ B, w_ok B w → w_of B w = w_mp (w_of M w) 2 F s.toNat (i.toNat + 1) → w_fr M B w → WX0_split_223 (WX0_split_140 Q d2) (WX0_split_150 (WX0_split_140 Q d2) Q d3) Q old x y s i B := by
        intro B b1 b2 b3
        show WX0_split_150 (WX0_split_140 Q d2) Q d3 old x y s (e_w32 (i + 1)) B
        rw [s_w (by omega) (by omega)]
        exact ih2 B ⟨b1, by rw [b2, show (i + 1).toNat = i.toNat + 1 by omega], b3⟩
      refine ⟨by omega, fun z => by rw [az] at z; omega, fun _ => k_at a1 (by omega) i1 (by rw [az]; exact i2) (k_thr_t a1 hs (by rw [az]; omega) (fun t => ⟨fun z => by omega, fun _ => ?_⟩) (fun t => ⟨fun _ => nxt A a1 ?_ a3, fun z => absurd rfl z⟩))⟩
      case refine_2 =>
        rw [w_mp_keep hs (by omega) himx (by rw [← hF]; unfold t_spl; rw [if_neg (by rw [← hth, t]; exact Bool.false_ne_true)]), a2]
      rw [hth] at t
      rw [(w_ref a1 hin).1]
      refine c_rpart (a1.2.2.2 _ hin).1.1 (fun B b1 b2 b3 b4 => ?_)
      obtain ⟨u1, u2, u3⟩ := k_lts a1 hin b1 b2 b4
      rw [(w_ref u1 hin).2]
      have eB : B (w_at w (w_F s.toNat + i.toNat)) = (w_t (w_of M w) s.toNat i.toNat).1 := by rw [b4 _ (by omega) (by omega), hA]
      rw [eB]
      have fB : w_fr M B w := w_fr_trans a3 u3
      generalize hD : ((w_t (w_of M w) s.toNat i.toNat).1 11).toNat = D at *
      have dd := s_dd_congr (M := M) (N := B) (d := D) (fun k hk6 => fB _ (by omega) (by omega))
      have c27 : ∀ b, 4426 ≤ b → B b = M b := fun b hb => fB b (by omega) (by omega)
      have f27 : s_fig B 4427 = s_fig M 4427 := s_fig_congr (by rw [c27 4427 (by omega)]) (c27 4428 (by omega)) (c27 4429 (by omega))
      have f30 : s_fig B 4430 = s_fig M 4430 := s_fig_congr (by rw [c27 4430 (by omega)]) (c27 4431 (by omega)) (c27 4432 (by omega))
      refine c_partOver (u1.2.2.2 _ hin).1.2 (by unfold s_fok; rw [c27 4427 (by omega)]; exact kL) (by unfold s_fok; rw [c27 4430 (by omega)]; exact kR) (by rw [f27]; exact bL) (by rw [f30]; exact bR) (dd.2.2.2.2 (hD ▸ dk.2.1)) (by rw [dd.2.2.2.1]; exact hD ▸ dk.2.2) (fun C c1 c2 c4 => ?_)
      obtain ⟨v1, v2, v3⟩ := k_ovr u1 hin c1 c2 c4
      refine nxt C v1 ?_ (w_fr_trans fB v3)
      rw [w_mp_step hs (by omega) himx, ← a2, v2, u2, f27, f30, dd.2.2.2.1]
      have eR2 : s_row B (w_at w (w_F s.toNat + i.toNat) + 3) = (w_t (w_of M w) s.toNat i.toNat).2.2 := by
        rw [← hR2]
        exact s_row_congr (b4 _ (by omega) (by omega)) (b4 _ (by omega) (by omega))
      rw [hR1, eR2]
      have eF : F s.toNat (w_t (w_of M w) s.toNat i.toNat) = ((w_t (w_of M w) s.toNat i.toNat).1, r_part (w_t (w_of M w) s.toNat i.toNat).2.1 old x y, r_pov (w_t (w_of M w) s.toNat i.toNat).2.2 old x y (g_hold (s_fig M 4427) (s_dps M D)) (g_hold (s_fig M 4430) (s_dps M D))) := by
        rw [← hF]
        unfold t_spl
        rw [if_pos t, hD]
      rw [eF]
      unfold w_ovr w_lts
      rw [w_setT_setT, w_of_t hin, hat]
      have wse : ∀ (X : w_S) (J : Nat) (t : w_T), (w_setT X J t).2.2.1 J = t := fun _ _ _ => s_fu_eq
      rw [wse]
theorem g_kp_mem {R : s_Fig} {low : Nat} {x : Int × Int} : ∀ {k : Nat}, x ∈ g_kp R low k → ∃ i, x = g_pt R i
  | 0, h => by cases h
  | k + 1, h => by
    unfold g_kp at h
    rcases List.mem_append.mp h with h | h
    · exact g_kp_mem h
    · split at h
      · cases h
      · exact ⟨_, List.mem_singleton.mp h⟩
theorem g_cls_fb {R : s_Fig} (h : s_fb R) : s_fb (g_cls R) := by
  intro x hx
  obtain ⟨i, e⟩ := g_kp_mem hx
  rw [e]
  exact g_pt_b h i
theorem g_cut_fb {F ps : s_Fig} (hF : s_fb F) (hp : s_pb ps) (hc : g_cut F ps) : s_fb ps := by
  intro x hx
  obtain ⟨i, hi, e⟩ := List.getElem_of_mem hx
  have w1 := hc.2.1 i hi
  have ei : g_pt ps i = x := by unfold g_pt; rw [List.getElem?_eq_getElem hi, e]; rfl
  rw [ei] at w1
  have b := hp x hx
  exact g_where_lp hF b.1.1 b.2.1 (fun z => by rw [z] at w1; split at w1 <;> omega)
theorem g_rawL_fb {F ps : s_Fig} (hF : s_fb F) (hp : s_pb ps) (hc : g_cut F ps) : s_fb (g_rawL F ps) := by
  intro x hx
  rcases List.mem_append.mp hx with hx | hx
  · exact g_cut_fb hF hp hc x hx
  · obtain ⟨k, e⟩ := g_bord_mem hx
    rw [e]; exact g_pt_b hF k
theorem g_rawR_fb {F ps : s_Fig} (hF : s_fb F) (hp : s_pb ps) (hc : g_cut F ps) : s_fb (g_rawR F ps) := by
  intro x hx
  rcases List.mem_append.mp hx with hx | hx
  · exact g_cut_fb hF hp hc x (List.mem_reverse.mp hx)
  · obtain ⟨k, e⟩ := g_bord_mem hx
    rw [e]; exact g_pt_b hF k
theorem k_split {M : e_M} {w d : Nat} {at_ : Int} {Q : Int → e_M → Prop} (h : w_ok M w) (hr : w_rg (w_of M w)) (hw : a_w w) (cx : a_cx M w d at_) (hd : a_d w d) (hdo : s_dok M d) (hpb : s_pb (s_dps M d)) (hk : w_dk M w) (h0 : 0 ≤ M 4425 0 ∧ M 4425 0 < M (w + 24) 0)
    (q2 : ¬ w_oab (w_of M w) (M 4425 0).toNat → a_q M w Q 2 (w_of M w))
    (q4 : w_oab (w_of M w) (M 4425 0).toNat → w_bar (w_of M w) (M 4425 0) (-1) → a_q M w Q 4 (w_of M w))
    (q3 : w_oab (w_of M w) (M 4425 0).toNat → ¬ w_bar (w_of M w) (M 4425 0) (-1) → ¬ (g_cut (w_l (w_of M w) (M 4425 0).toNat).2.1 (s_dps M d) ∧ g_okc (g_rawL (w_l (w_of M w) (M 4425 0).toNat).2.1 (s_dps M d)) ∧ g_okc (g_rawR (w_l (w_of M w) (M 4425 0).toNat).2.1 (s_dps M d))) → a_q M w Q 3 (w_of M w))
    (q7 : w_oab (w_of M w) (M 4425 0).toNat → ¬ w_bar (w_of M w) (M 4425 0) (-1) → (g_cut (w_l (w_of M w) (M 4425 0).toNat).2.1 (s_dps M d) ∧ g_okc (g_rawL (w_l (w_of M w) (M 4425 0).toNat).2.1 (s_dps M d)) ∧ g_okc (g_rawR (w_l (w_of M w) (M 4425 0).toNat).2.1 (s_dps M d))) → (78 < M (w + 24) 0 ∨ w_tm (s_dps M) (w_of M w) (M 4425 0) (g_cls (g_rawL (w_l (w_of M w) (M 4425 0).toNat).2.1 (s_dps M d))) (g_cls (g_rawR (w_l (w_of M w) (M 4425 0).toNat).2.1 (s_dps M d)))) → a_q M w Q 7 (w_of M w))
    (q0 : w_oab (w_of M w) (M 4425 0).toNat → ¬ w_bar (w_of M w) (M 4425 0) (-1) → (g_cut (w_l (w_of M w) (M 4425 0).toNat).2.1 (s_dps M d) ∧ g_okc (g_rawL (w_l (w_of M w) (M 4425 0).toNat).2.1 (s_dps M d)) ∧ g_okc (g_rawR (w_l (w_of M w) (M 4425 0).toNat).2.1 (s_dps M d))) → ¬ (78 < M (w + 24) 0 ∨ w_tm (s_dps M) (w_of M w) (M 4425 0) (g_cls (g_rawL (w_l (w_of M w) (M 4425 0).toNat).2.1 (s_dps M d))) (g_cls (g_rawR (w_l (w_of M w) (M 4425 0).toNat).2.1 (s_dps M d)))) → a_q M w Q 0 (w_map (w_lpt (w_addL (w_addL (w_of M w) (l_mk (M (d + 1) 1) (w_l (w_of M w) (M 4425 0).toNat) (g_cls (g_rawL (w_l (w_of M w) (M 4425 0).toNat).2.1 (s_dps M d))))) (l_mk (M (d + 1) 2) (w_l (w_of M w) (M 4425 0).toNat) (g_cls (g_rawR (w_l (w_of M w) (M 4425 0).toNat).2.1 (s_dps M d))))) (M 4425 0).toNat 1 1) 2 6 (t_spl (s_dps M) (M 4425 0) (M (w + 24) 0) (M (w + 24) 0 + 1) (M w 11) (g_cls (g_rawL (w_l (w_of M w) (M 4425 0).toNat).2.1 (s_dps M d))) (g_cls (g_rawR (w_l (w_of M w) (M 4425 0).toNat).2.1 (s_dps M d)))))) : WX0_split M Q := by
  have hi : (M 4425 0).toNat < 80 := w_in0 h (by omega)
  have hz := w_zb h (show 0 < 8 by omega)
  have hm : w_mx 0 = 80 := rfl
  have hw' := hw
  unfold a_w at hw'
  have hd' := hd
  unfold a_d at hd'
  have hfb := (hr.1 (M 4425 0).toNat (by show ((M 4425 0).toNat : Int) < M (w + 24) 0; omega)).1
  have hfk := (h.2.2.1 _ hi).1
  have eF : (w_l (w_of M w) (M 4425 0).toNat).2.1 = s_fig M (w_al w (M 4425 0).toNat + 1) := by rw [w_l_e hi]; rfl
  rw [eF] at hfb q3 q7 q0
  have ha : w_al w (M 4425 0).toNat = w + 29 + 9 * (M 4425 0).toNat := rfl
  unfold WX0_split VX0_split
  rw [cx.1, cx.2.1, show (0 : Int).toNat = 0 from rfl, show (1 : Int).toNat = 1 from rfl, show (2 : Int).toNat = 2 from rfl]
  refine ⟨by omega, k_lot h h0.1 h0.2 (k_ownersAble h hr cx h0 (fun ab => ⟨fun _ => k_barred h cx (fun b => ⟨fun z => by omega, fun _ => a_q_no h (q4 ab b)⟩) (fun b => ⟨fun _ => ?_, fun z => absurd rfl z⟩), fun z => by omega⟩) (fun ab => ⟨fun z => absurd rfl z, fun _ => a_q_no h (q2 ab)⟩))⟩
  replace q3 := q3 ab b
  replace q7 := q7 ab b
  replace q0 := q0 ab b
  have plane : ∀ N : e_M, (∀ b, b < 4426 ∨ 4437 < b ∨ (4433 ≤ b ∧ b ≤ 4435) → N b = M b) → (w_ok N w ∧ w_of N w = w_of M w) ∧ (a_cx N w d at_ ∧ N 4425 = M 4425 ∧ ∀ k, k ≤ 6 → N (d + k) = M (d + k)) ∧ a_fr M N w := by
    intro N f
    refine ⟨w_same h (fun b b1 b2 => f b (by omega)), ⟨a_cx_congr cx (f _ (by omega)), f _ (by omega), fun k hk6 => f _ (by omega)⟩, fun b b1 b2 b3 => f b (by omega)⟩
  refine c_cut hfk hfb (fun k hk2 => Or.inl (by omega)) hdo (by omega) hpb (fun ct oL oR N nL kL nR kR fN => ⟨fun _ => ⟨by omega, by omega, ?_⟩, fun z => by omega⟩) (fun no N fN => ⟨fun z => absurd rfl z, fun _ => q3 no N (plane N fN).1.1 (plane N fN).1.2 (plane N fN).2.2⟩)
  obtain ⟨⟨n1, n2⟩, ⟨n3, n4, n5⟩, n6⟩ := plane N fN
  have all3 := And.intro ct (And.intro oL oR)
  replace q7 := q7 all3
  replace q0 := q0 all3
  have lpL : s_fb (s_fig N 4427) := by
    rw [nL]
    exact g_cls_fb (g_rawL_fb hfb hpb ct)
  have lpR : s_fb (s_fig N 4430) := by
    rw [nR]
    exact g_cls_fb (g_rawR_fb hfb hpb ct)
  rw [← nL, ← nR] at q7 q0
  have nz : N (w + 24) = M (w + 24) := congrArg (fun S : w_S => S.1) n2
  rw [n3.1, n3.2.1, nz, show f_kt 1000001 0 = 80 from w_mxk 0 (by omega), s_w (by omega) (by omega)]
  have hkN := w_dk_tr (N := N) hk (fun s _ _ => by rw [nz]) (by rw [n2]) (fun b b1 b2 => fN b (by omega))
  have tmE : w_tm (s_dps N) (w_of N w) (M 4425 0) (s_fig N 4427) (s_fig N 4430) ↔ w_tm (s_dps M) (w_of M w) (M 4425 0) (s_fig N 4427) (s_fig N 4430) := by
    rw [n2]
    constructor
    · rintro ⟨s, i, s1, s2, s3, s4, s5⟩
      rw [hkN.2 s i (by omega) (by omega) s3] at s5
      exact ⟨s, i, s1, s2, s3, s4, s5⟩
    · rintro ⟨s, i, s1, s2, s3, s4, s5⟩
      rw [← hkN.2 s i (by omega) (by omega) s3] at s5
      exact ⟨s, i, s1, s2, s3, s4, s5⟩
  refine ⟨fun lt => q7 (Or.inl (by omega)) N n1 n2 n6, fun le => k_tooMany n1 n3 hkN.1 kL kR lpL lpR (fun tm => ⟨fun z => by omega, fun _ => q7 (Or.inr (tmE.mp tm)) N n1 n2 n6⟩) (fun tm => ⟨fun _ => ⟨by omega, ?_⟩, fun z => absurd rfl z⟩)⟩
  replace q0 := q0 (fun c => c.elim (fun y => by omega) (fun y => tm (tmE.mpr y)))
  rw [n5 1 (by omega)]
  have h0' : (((M 4425 0).toNat : Nat) : Int) < M (w + 24) 0 := by omega
  refine k_makeLot n1 hw n3 (by rw [nz]; exact h0') (by rw [nz]; omega) kL (by omega) (fun A a1 a2 a3 => ⟨by omega, ?_⟩)
  rw [nz]
  have az0 : A (w + 24) 0 = M (w + 24) 0 + 1 := by
    have := congrFun (congrArg (fun S : w_S => S.1) a2) 0
    rw [n2] at this
    refine this.trans ?_
    show s_fu (M (w + 24)) 0 (M (w + 24) 0 + 1) 0 = _
    rw [s_fu_eq]
  obtain ⟨A3, A4, A5⟩ := e_fr_dd hw n3 hd (e_fr_w a3)
  rw [A3.2.1, A5 1 (by omega), n5 1 (by omega)]
  have cA : ∀ b, 4426 ≤ b → A b = N b := fun b hb => a3 b (by omega) (by omega)
  have fA30 : s_fig A 4430 = s_fig N 4430 := s_fig_congr (by rw [cA 4430 (by omega)]) (cA 4431 (by omega)) (cA 4432 (by omega))
  refine k_makeLot a1 hw A3 (by rw [az0]; omega) (by rw [az0]; omega) (by unfold s_fok; rw [cA 4430 (by omega)]; exact kR) (by omega) (fun B b1 b2 b3 => ⟨by omega, fun C eC => ?_⟩)
  obtain ⟨B3, B4, B5⟩ := e_fr_dd hw A3 hd (e_fr_w b3)
  obtain ⟨u1, u2, u3⟩ := k_lpt b1 hi (k := 1) (v := 1) (by omega)
  rw [← eC] at u1 u2 u3
  have C3 := (e_fr_dd hw B3 hd (e_fr_w u3)).1
  have fNC : w_fr N C w := w_fr_trans a3 (w_fr_trans b3 u3)
  have cC : ∀ b, 4426 ≤ b → C b = N b := fun b hb => fNC b (by omega) (by omega)
  have fC27 : s_fig C 4427 = s_fig N 4427 := s_fig_congr (by rw [cC 4427 (by omega)]) (cC 4428 (by omega)) (cC 4429 (by omega))
  have fC30 : s_fig C 4430 = s_fig N 4430 := s_fig_congr (by rw [cC 4430 (by omega)]) (cC 4431 (by omega)) (cC 4432 (by omega))
  have lA : w_l (w_of A w) (M 4425 0).toNat = w_l (w_of M w) (M 4425 0).toNat := by
    rw [a2, n2]
    show s_fu _ _ _ _ = _
    rw [s_fu_ne (by show (M 4425 0).toNat ≠ (M (w + 24) 0).toNat; omega)]; rfl
  rw [lA, fA30] at b2
  rw [a2, n2] at b2
  rw [b2] at u2
  have Ct : (w_of C w).2.2 = (w_of M w).2.2 := by rw [u2]; rfl
  have Cz : ∀ s, 1 ≤ s → s < 8 → C (w + 24) s = M (w + 24) s := by
    intro s s1 s2
    have := congrFun (congrArg (fun S : w_S => S.1) u2) s
    refine this.trans ?_
    show s_fu (s_fu _ 0 _) 0 _ s = _
    rw [s_fu_ne (by omega), s_fu_ne (by omega)]; rfl
  have hkC := w_dk_tr (N := C) hk (fun s s1 s2 => Cz s (by omega) s2) (by rw [Ct]) (fun b b1 b2 => by rw [fNC b (by omega) (by omega), fN b (by omega)])
  have C11 : C w 11 = M w 11 := congrArg (fun X : (Nat → w_T) × Int => X.2) Ct
  rw [az0]
  refine k_splitAll u1 hw C3 hkC.1 (by unfold s_fok; rw [cC 4427 (by omega)]; exact kL) (by unfold s_fok; rw [cC 4430 (by omega)]; exact kR) (by rw [fC27]; exact lpL) (by rw [fC30]; exact lpR) (fun E e1 e2 e3 => ?_)
  refine q0 E e1 ?_ (a_fr_trans n6 (a_fr_of (w_fr_trans fNC e3)))
  rw [e2, fC27, fC30, C11, u2]
  refine w_map_congr (by omega) (by omega) (fun s i s1 s2 s3 => ?_)
  have s3' : (i : Int) < M (w + 24) s := by
    have := Cz s (by omega) (by omega)
    rw [← this]
    have e : (w_of C w).1 s = C (w + 24) s := rfl
    rw [u2] at e
    rw [← e]
    exact s3
  unfold t_spl
  have := hkC.2 s i (by omega) (by omega) s3'
  have et : ∀ S : w_S, S.2.2 = (w_of M w).2.2 → w_t S s i = w_t (w_of M w) s i := fun S e => congrArg (fun X : (Nat → w_T) × Int => X.1 (w_F s + i)) e
  rw [et (w_lpt (w_addL (w_addL (w_of M w) (l_mk (M (d + 1) 1) (w_l (w_of M w) (M 4425 0).toNat) (s_fig N 4427))) (l_mk (M (d + 1) 2) (w_l (w_of M w) (M 4425 0).toNat) (s_fig N 4430))) (M 4425 0).toNat 1 1) rfl, this]
