/-! THE MODEL: SPLIT, the whole of it -/
theorem t_spl_1 {P : Nat → s_Fig} {old a b day : Int} {L R : s_Fig} {s : Nat} {t : w_T} : (t_spl P old a b day L R s t).1 = t.1 := by
  unfold t_spl
  split <;> rfl
theorem z80_of {S : w_S} (hz : R_z S) : ∀ s, s < 7 → 0 ≤ S.1 s ∧ S.1 s ≤ 80 := fun s hs => by
  have := hz s (by omega)
  have : w_mx s ≤ 80 := by unfold w_mx; (repeat' split) <;> omega
  omega
/-- things changed on both sides -/
theorem R_maps {V : Nat → v_D} {S : w_S} {N : n_S} {a : Int} {f g : Nat → w_T → w_T} (hR : R_S V S N a) (hz : R_z S) (f1 : ∀ s t, (f s t).1 1 = t.1 1) (f11 : ∀ t, (f 3 t).1 11 = t.1 11) (g1 : ∀ T t, (g T t).1 1 = t.1 1) (ht : ∀ s i : Nat, 2 ≤ s → s ≤ 6 → (i : Int) < S.1 s → i < 80 → R_t S.2.2.2 s (w_t S s i) (N.2.1 (80 * s + i)) → R_t S.2.2.2 s (f s (w_t S s i)) (g (80 * s + i) (N.2.1 (80 * s + i)))) : R_S V (w_map S 2 6 f) (n_pm N (p_st S.1 7 0) g) a := by
  have nt : ∀ s i : Nat, s < 7 → i < 80 → (n_pm N (p_st S.1 7 0) g).2.1 (80 * s + i) = if 2 ≤ s ∧ (i : Int) < S.1 s then g (80 * s + i) (N.2.1 (80 * s + i)) else N.2.1 (80 * s + i) := fun s i hs hi => by
    rw [n_pm_at, p_st_at hs hi]
    by_cases c : 2 ≤ s ∧ (i : Int) < S.1 s
    · rw [decide_eq_true c, if_pos rfl, if_pos c]
    · rw [decide_eq_false c, if_neg (by decide), if_neg c]
  refine R_things hR hz rfl rfl rfl rfl (fun i hi => ?_) rfl (fun s i s1 s7 hi => ⟨?_, ?_⟩) (fun i hi => ?_) (fun i hi => ?_) (fun s i s2 s6 hi => ?_) (fun k hk => ?_)
  · have := nt 0 i (by omega) (R_mx hz (by omega) hi)
    rw [if_neg (by omega), show 80 * 0 + i = i by omega] at this
    exact this
  · rw [w_map_at hz ⟨s1, by omega⟩ hi]
    split
    · exact f1 _ _
    · rfl
  · rw [nt s i s7 (R_mx hz s7 hi)]
    split
    · exact g1 _ _
    · rfl
  · rw [w_map_at hz (by omega) hi, if_pos (by omega)]
    exact f11 _
  · rw [w_map_at hz (by omega) hi, if_neg (by omega), nt 1 i (by omega) (R_mx hz (by omega) hi), if_neg (by omega)]
    exact hR.2.2.2.1 i hi
  · rw [w_map_at hz (by omega) hi, if_pos (by omega), nt s i (by omega) (R_mx hz (by omega) hi), if_pos ⟨s2, hi⟩]
    exact ht s i s2 s6 hi (R_mx hz (by omega) hi) (hR.2.2.2.2.1 s i s2 s6 hi)
  · rw [w_map_at hz (by omega) hk, if_neg (by omega)]
theorem R_spl {V : Nat → v_D} {S : w_S} {N : n_S} {m old a b : Int} {L R : s_Fig} (hR : R_S V S N m) (hz : R_z S) (hb : ∀ i : Nat, (i : Int) < S.1 5 → t_thr (w_t S 5 i) S.2.2.2 = true → old ∉ (w_t S 5 i).2.1) : R_S V (w_map S 2 6 (t_spl (fun a => (V a).2.2.2.2) old a b S.2.2.2 L R)) (n_pm N (p_st S.1 7 0) (g_spl N.2.2.2.1 old a b S.2.2.2 L R)) m := by
  refine R_maps hR hz (fun s t => by rw [t_spl_1]) (fun t => by rw [t_spl_1]) (fun T t => by rw [g_spl_1]) (fun s i s2 s6 hi i80 hrt => ?_)
  obtain ⟨r1, r2, r3⟩ := hrt
  have pt : s = 3 → N.2.2.2.1 i = (V ((w_t S s i).1 11).toNat).2.2.2.2 := fun s3 => by subst s3; exact hR.2.2.2.2.2.1 i hi
  have hb5 : s = 5 → t_thr (w_t S s i) S.2.2.2 = true → old ∉ (w_t S s i).2.1 := fun s5 => by subst s5; exact hb i hi
  generalize w_t S s i = x at *
  generalize N.2.1 (80 * s + i) = y at *
  have tg : t_thr (g_spl N.2.2.2.1 old a b S.2.2.2 L R (80 * s + i) y) S.2.2.2 = t_thr y S.2.2.2 := by unfold t_thr; rw [g_spl_1]
  have tf : t_thr (t_spl (fun a => (V a).2.2.2.2) old a b S.2.2.2 L R s x) S.2.2.2 = t_thr x S.2.2.2 := by unfold t_thr; rw [t_spl_1]
  refine ⟨by rw [g_spl_1, t_spl_1]; exact r1, by rw [tg, tf]; exact r2, fun tx => ?_⟩
  rw [tf] at tx
  have ty := r2.trans tx
  have rb := r3 tx
  unfold R_b at rb ⊢
  rw [g_spl_1, t_spl_1]
  obtain ⟨b1, b2, b3, b4, b5, b6, b7⟩ := rb
  have ex : t_spl (fun a => (V a).2.2.2.2) old a b S.2.2.2 L R s x = (x.1, r_part x.2.1 old a b, r_pov x.2.2 old a b (g_hold L (V (x.1 11).toNat).2.2.2.2) (g_hold R (V (x.1 11).toNat).2.2.2.2)) := by
    unfold t_spl; rw [if_pos tx]
  rw [ex]
  refine ⟨b1, b2, fun s3 => ?_, fun n3 => ?_, b5, b6, b7⟩
  · obtain ⟨c1, c2, c3⟩ := b3 s3
    have ey : g_spl N.2.2.2.1 old a b S.2.2.2 L R (80 * s + i) y = (y.1, r_pov y.2.1 old a b (g_hold L (N.2.2.2.1 i)) (g_hold R (N.2.2.2.1 i)), r_part y.2.2 old a b) := by
      unfold g_spl
      rw [if_pos (show (80 * s + i < 400 ∨ 480 ≤ 80 * s + i) ∧ t_thr y S.2.2.2 = true from ⟨by omega, ty⟩), if_pos (show 240 ≤ 80 * s + i ∧ 80 * s + i < 320 by omega), show 80 * s + i - 240 = i by omega]
    rw [ey, pt s3, c2, c3]
    exact ⟨c1, rfl, rfl⟩
  · obtain ⟨c1, c2, c3⟩ := b4 n3
    have e0 : r_pov x.2.2 old a b (g_hold L (V (x.1 11).toNat).2.2.2.2) (g_hold R (V (x.1 11).toNat).2.2.2.2) = [] := by
      rw [c3]; unfold r_pov
      exact if_neg (by simp)
    dsimp only
    rw [e0]
    by_cases s5 : s = 5
    · have ey : g_spl N.2.2.2.1 old a b S.2.2.2 L R (80 * s + i) y = y := by
        unfold g_spl
        exact if_neg (fun c => by have := c.1; omega)
      rw [ey, r_part_id (hb5 s5 tx)]
      exact ⟨c1, c2, rfl⟩
    · have ey : g_spl N.2.2.2.1 old a b S.2.2.2 L R (80 * s + i) y = (y.1, r_part y.2.1 old a b, y.2.2) := by
        unfold g_spl
        rw [if_pos (show (80 * s + i < 400 ∨ 480 ≤ 80 * s + i) ∧ t_thr y S.2.2.2 = true from ⟨by omega, ty⟩), if_neg (show ¬ (240 ≤ 80 * s + i ∧ 80 * s + i < 320) by omega)]
      rw [ey, c1]
      exact ⟨rfl, c2, rfl⟩
/-- what the geometry's cells change, changes no state -/
theorem R_all_pfr {M N : e_M} {V : Nat → v_D} {S : w_S} {a : Int} (h : R_all M V S a) (p : j_pfr M N 3200) : R_all N V S a ∧ n_of N = n_of M ∧ j_keep M N := by
  obtain ⟨hn, hc, hR, hz, hg, hd⟩ := h
  have kp : j_keep M N := ⟨fun b hb => p.1 b (by omega) (by omega) (by omega), fun k hk => p.2.2 k (by omega)⟩
  obtain ⟨u1, u2⟩ := n_same hn (fun b hb => p.1 b (by omega) (by omega) (by omega)) (fun j hj => p.2.1 j hj) ⟨p.2.2 85 (by omega), p.2.2 86 (by omega), p.2.2 73 (by omega)⟩
  exact ⟨⟨u1, j_keep_cm hc kp, by rw [u2]; exact hR, hz, hg, hd⟩, u2, kp⟩
theorem j_nfr_keep {M N : e_M} (h : j_nfr M N) : j_keep M N := ⟨h.1, fun k hk => h.2.2 k (by omega)⟩
theorem j_nfr_fg {M N : e_M} (h : j_nfr M N) {a : Nat} {k : Int} (ha : 3200 ≤ a) : j_fg N a k = j_fg M a k := by
  unfold j_fg
  exact s_ar_congr (fun j _ => by have := h.2.1 (a + j) (by omega); rw [this.1, this.2])
theorem w_z_addL {S : w_S} {x : w_L} {s : Nat} : (w_addL S x).1 s = if s = 0 then S.1 0 + 1 else S.1 s := by
  show s_fu S.1 0 (S.1 0 + 1) s = _
  unfold s_fu; rfl
theorem w_l_addL {S : w_S} {x : w_L} {i : Nat} (h : (i : Int) < S.1 0) : w_l (w_addL S x) i = w_l S i := by
  show s_fu S.2.1 (S.1 0).toNat x i = _
  exact s_fu_ne (by omega)
theorem m_split {M : e_M} {V : Nat → v_D} {S : w_S} {a : Int} {d x : Nat} {r : Nat → Int} {Q : Int → e_M → Prop} (h : R_all M V S a) (hm : m_mo M) (h5 : ∀ i : Nat, (i : Int) < S.1 5 → w_thr S 5 i = true → (w_t S 5 i).2.1.length = 1) (h5g : ∀ i : Nat, (i : Int) < S.1 5 → 0 ≤ (w_t S 5 i).1 5) (hpb3 : ∀ i : Nat, (i : Int) < S.1 3 → s_pb (V ((w_t S 3 i).1 11).toNat).2.2.2.2) (hH : H_fig S) (hx : x < 152) (hD : D_at M x (V d)) (hv : v_ok (V d)) (hk : (V d).1 3 = 206) (i0 : M 4520 0 = r 0) (h0 : 0 ≤ r 0 ∧ r 0 < S.1 0) (hq : j_q M V a Q (X_split V S r d)) : WX12_split x M Q := by
  obtain ⟨hn, hc, hR, hz, hg, hd⟩ := id h
  obtain ⟨l, el⟩ : ∃ l : Nat, r 0 = l := ⟨(r 0).toNat, by omega⟩
  have tl : (r 0).toNat = l := by omega
  have hl : (l : Int) < S.1 0 := by omega
  have l80 := R_mx hz (show 0 < 7 by omega) hl
  have told : (V d).1 7 = 3 := by
    have hl := hv.2.1.1
    rw [hk] at hl
    exact hl
  obtain ⟨fF, bF, lF, oF⟩ := hH.2.1 l hl
  have fF : gt_fig (w_l S l).2.1 := fF
  have bF : s_fb (w_l S l).2.1 := bF
  have lF : (w_l S l).2.1.length ≤ 40 := lF
  have eF := (R_lo hR hz hl).1
  have hpb : s_pb (V d).2.2.2.2 := hv.2.2.2.2.2.2
  obtain ⟨-, D2, -, -, D6, D18, D18b⟩ := hD
  have n1 := D2 1 (by omega)
  have n2 := D2 2 (by omega)
  obtain ⟨m, em⟩ : ∃ m : Nat, M 4474 x = m := ⟨(M 4474 x).toNat, by omega⟩
  obtain ⟨n, en⟩ : ∃ n : Nat, M 4496 l = n := ⟨(M 4496 l).toNat, by have := (hn.2.2.1 l l80).1; omega⟩
  have n40 : n ≤ 40 := by have := (hn.2.2.1 l l80).1; omega
  rw [en] at eF
  have z0 := (z80_of hz) 0 (by omega)
  unfold X_split at hq
  rw [tl] at hq
  rw [el] at hq
  have q2 : ¬ w_oab S l → j_q M V a Q (2, S) := fun g => j_qx (c_if_pos g) hq
  have q4 : w_oab S l → w_bar S l (-1) → j_q M V a Q (4, S) := fun g1 g2 => j_qx ((c_if_neg (fun n => n g1)).trans (c_if_pos g2)) hq
  generalize hps : (V d).2.2.2.2 = ps at *
  generalize hFF : (w_l S l).2.1 = F at *
  have q3 : w_oab S l → ¬ w_bar S l (-1) → ¬ (g_cut F ps ∧ g_okc (g_rawL F ps) ∧ g_okc (g_rawR F ps)) → j_q M V a Q (3, S) := fun g1 g2 g3 => j_qx ((c_if_neg (fun n => n g1)).trans ((c_if_neg g2).trans (c_if_pos g3))) hq
  have q7 : w_oab S l → ¬ w_bar S l (-1) → (g_cut F ps ∧ g_okc (g_rawL F ps) ∧ g_okc (g_rawR F ps)) → (78 < S.1 0 ∨ w_tm (fun a => (V a).2.2.2.2) S l (g_cls (g_rawL F ps)) (g_cls (g_rawR F ps))) → j_q M V a Q (7, S) := fun g1 g2 g3 g4 => j_qx ((c_if_neg (fun n => n g1)).trans ((c_if_neg g2).trans ((c_if_neg (fun n => n g3)).trans (c_if_pos g4)))) hq
  have q0 : w_oab S l → ¬ w_bar S l (-1) → (g_cut F ps ∧ g_okc (g_rawL F ps) ∧ g_okc (g_rawR F ps)) → ¬ (78 < S.1 0 ∨ w_tm (fun a => (V a).2.2.2.2) S l (g_cls (g_rawL F ps)) (g_cls (g_rawR F ps))) → j_q M V a Q _ := fun g1 g2 g3 g4 => j_qx ((c_if_neg (fun n => n g1)).trans ((c_if_neg g2).trans ((c_if_neg (fun n => n g3)).trans (c_if_neg g4)))) hq
  clear hq
  unfold WX12_split VX12_split
  rw [show ((0 : Int).toNat) = 0 from rfl, i0, el]
  rw [s_w (x := 40 * (l : Int)) (by omega) (by omega), s_w (x := 10 * (x : Int)) (by omega) (by omega), s_w (x := 10 * (x : Int) + 1) (by omega) (by omega), s_w (x := 10 * (x : Int) + 2) (by omega) (by omega), show ((l : Nat) : Int).toNat = l by omega, show (10 * (x : Int) + 1).toNat = 10 * x + 1 by omega, show (10 * (x : Int) + 2).toNat = 10 * x + 2 by omega]
  refine ⟨by omega, m_areAble h hl (fun ab => ⟨fun _ => ?_, fun z => absurd z (by decide)⟩) (fun ab => ⟨fun z => absurd rfl z, fun _ => j_q_no h (q2 ab)⟩)⟩
  refine m_isBarred h (fun br => ⟨fun z => absurd z (by decide), fun _ => j_q_no h (q4 ab br)⟩) (fun br => ⟨fun _ => ⟨by omega, ?_⟩, fun z => absurd rfl z⟩)
  refine m_cuts (f := 40 * l) (n := n) (x := x) (m := m) (ps := ps) (by omega) en rfl hx (by omega) n40 (by rw [eF]; exact fF) (by rw [eF]; exact bF) em (by omega) D6 hpb (fun N nl nr c1 c2 c3 p e42 e43 eL eR _ => ⟨fun _ => ?_, fun z => absurd z (by decide)⟩) (fun N c p => ⟨fun z => absurd rfl z, fun _ => ?_⟩)
  · -- it is cut
    rw [eF] at c1 c2 c3 eL eR
    have hcut : g_cut F ps ∧ g_okc (g_rawL F ps) ∧ g_okc (g_rawR F ps) := ⟨c1, c2, c3⟩
    obtain ⟨gL, gR, -⟩ := H_cutok (F := F) ⟨fF, bF, lF, by rw [← hFF]; exact oF⟩ c1 hpb c2 c3
    obtain ⟨hN, nN, kN⟩ := R_all_pfr h (j_pfr_le p (by omega))
    have mN : m_mo N := fun s hs => by rw [p.1 4482 (by omega) (by omega) (by omega)]; exact hm s hs
    have l42 : nl ≤ 40 := by have := gL.2.2.1; rw [← eL, j_fg_len] at this; exact this
    have r43 : nr ≤ 40 := by have := gR.2.2.1; rw [← eR, j_fg_len] at this; exact this
    have many : N 4483 0 = S.1 0 := R_many hN.2.2.1 (by omega)
    refine m_full (s := 0) rfl mN hN.1 (by omega) (by omega) (fun le => ⟨fun z => absurd rfl z, fun _ => ?_⟩) (fun gt => ⟨fun _ => ?_, fun z => absurd z (by decide)⟩)
    · have le : S.1 0 + 2 ≤ 80 := by rw [many] at le; exact le
      refine m_tooLong (l := l) (nl := nl) (nr := nr) rfl hN h5 hpb3 e42 e43 (by omega) (by omega) eL eR gL.1 gR.1 gL.2.1 gR.2.1 (fun tm => ⟨fun z => absurd z (by decide), fun _ => ?_⟩) (fun tm => ⟨fun _ => ?_, fun z => absurd rfl z⟩)
      · exact q7 ab br hcut (Or.inr tm) N hN.1 hN.2.2.1 kN
      · refine ⟨by omega, ?_⟩
        have go := q0 ab br hcut (fun c => c.elim (fun c => by omega) tm)
        clear q0 q2 q3 q4 q7
        have old80 : (l : Int) < N 4483 0 := by rw [many]; exact hl
        have tnN := R_turn hN.2.2.1 hN.2.2.2.1
        have n467 : N 4467 = M 4467 := p.1 4467 (by omega) (by omega) (by omega)
        have hRN := hN.2.2.1
        -- the first new LOT
        rw [n467, n1]
        refine m_newLot (old := l) (f := 3600) (n := nl) rfl rfl e42 hN.1 (by omega) tnN old80 (by omega) (by omega) l42 eL (fun M8 k8 s8 f8 => ?_)
        rw [many]
        have R8 := R_nl (name := (V d).2.1 1) (fig := g_cls (g_rawL F ps)) hRN hz (by omega) hl
        rw [← s8] at R8
        have z8 := R_z_addL (x := l_mk ((V d).2.1 1) (w_l S l) (g_cls (g_rawL F ps))) hz (by omega)
        have many8 : M8 4483 0 = S.1 0 + 1 := by rw [R_many R8 (by omega), w_z_addL, if_pos rfl]
        have tn8 := R_turn R8 z8
        have e43' : M8 4456 43 = (nr : Int) := by rw [f8.2.2 43 (by omega)]; exact e43
        have eR8 : j_fg M8 4000 nr = g_cls (g_rawR F ps) := by rw [j_nfr_fg f8 (by omega)]; exact eR
        have n467' : M8 4467 = M 4467 := by rw [f8.1 4467 (by omega), n467]
        refine ⟨by omega, ?_⟩
        rw [n467', n2]
        refine m_newLot (old := l) (f := 4000) (n := nr) rfl rfl e43' k8 (by omega) tn8 (by omega) (by omega) (by omega) r43 eR8 (fun M10 k10 s10 f10 => ?_)
        rw [many8]
        have wl8 : w_l (w_addL S (l_mk ((V d).2.1 1) (w_l S l) (g_cls (g_rawL F ps)))) l = w_l S l := w_l_addL hl
        have R10 := R_nl (name := (V d).2.1 2) (fig := g_cls (g_rawR F ps)) R8 z8 (by rw [w_z_addL, if_pos rfl]; omega) (show (l : Int) < _ by rw [w_z_addL, if_pos rfl]; omega)
        rw [← s10, wl8] at R10
        have z10 := R_z_addL (x := l_mk ((V d).2.1 2) (w_l S l) (g_cls (g_rawR F ps))) z8 (by rw [w_z_addL, if_pos rfl]; omega)
        refine ⟨⟨by omega, Or.inr rfl⟩, fun M11 e11 => ?_⟩
        obtain ⟨k11, s11⟩ := N_put2 (M := M10) (t := l) (v := 1) k10 (by omega)
        rw [← e11] at k11 s11
        have R11 := R_lgone R10 z10 (l := l) (by rw [w_z_addL, if_pos rfl, w_z_addL, if_pos rfl]; omega)
        rw [← s11] at R11
        generalize hS2 : w_lpt (w_addL (w_addL S (l_mk ((V d).2.1 1) (w_l S l) (g_cls (g_rawL F ps)))) (l_mk ((V d).2.1 2) (w_l S l) (g_cls (g_rawR F ps)))) l 1 1 = S2 at *
        have sz : ∀ s, s ≠ 0 → S2.1 s = S.1 s := fun s hs => by
          have wlz : ∀ (X : w_S) (l k : Nat) (v : Int), (w_lpt X l k v).1 = X.1 := fun _ _ _ _ => rfl
          rw [← hS2, wlz, w_z_addL, if_neg hs, w_z_addL, if_neg hs]
        have sT : ∀ s i, w_t S2 s i = w_t S s i := fun s i => by rw [← hS2]; rfl
        have sd : S2.2.2.2 = S.2.2.2 := by rw [← hS2]; rfl
        have z2 : R_z S2 := by rw [← hS2]; exact z10
        have fr : ∀ b, (b = 4474 ∨ b = 4475 ∨ b = 4476 ∨ b = 4503 ∨ b = 4504 ∨ b = 4505) → True := fun _ _ => trivial
        have c56 : ∀ k, (k ≠ 38 ∧ k ≠ 39 ∧ k ≠ 85 ∧ k ≠ 87) → M11 4456 k = N 4456 k := fun k hk => by rw [e11, e_up_row (by omega), f10.2.2 k hk, f8.2.2 k hk]
        have fgs : ∀ (A : Nat) (k : Int), 3200 ≤ A → j_fg M11 A k = j_fg N A k := fun A k hA => by
          have : j_fg M11 A k = j_fg M10 A k := by unfold j_fg; rw [e11, e_up_row (by omega), e_up_row (by omega)]
          rw [this, j_nfr_fg f10 hA, j_nfr_fg f8 hA]
        have day11 : M11 4456 86 = S2.2.2.2 := R_day R11
        have kp11 : j_keep M M11 := j_keep_trans kN (j_keep_trans (j_nfr_keep f8) (j_keep_trans (j_nfr_keep f10) (by rw [e11]; exact j_keep_cell (by omega))))
        refine m_spl_things (N0 := n_of M11) (z := S2.1) (day := S2.2.2.2) (nl := nl) (nr := nr) k11 rfl day11 (z80_of z2) (fun s hs => R_size R11 hs) (by rw [c56 42 (by omega)]; exact e42) (by rw [c56 43 (by omega)]; exact e43) (by omega) (by omega) (by rw [fgs 3600 nl (by omega)]; exact eL) (by rw [fgs 4000 nr (by omega)]; exact eR) gL.1 gR.1 gL.2.1 gR.2.1 (fun i hi => ?_) z0.1 (by omega) (fun s k s2 s6 s5 hk t => ?_) (fun M' v1 v2 v3 => ?_)
        · rw [R11.2.2.2.2.2.1 i hi, sT]
          exact hpb3 i (by rw [← sz 3 (by omega)]; exact hi)
        · have rt := R11.2.2.2.2.1 s k s2 s6 hk
          have tx : t_thr (w_t S2 s k) S2.2.2.2 = true := by rw [← rt.2.1]; exact t
          have rb := rt.2.2 tx
          have hk' : (k : Int) < S.1 s := by rw [← sz s (by omega)]; exact hk
          have tS : w_thr S s k = true := by rw [w_thr_t (by omega), ← sT, ← sd]; exact tx
          have ntm : ¬ tm_at (fun a => (V a).2.2.2.2) S l (g_cls (g_rawL F ps)) (g_cls (g_rawR F ps)) s k := fun y => tm ⟨s, k, s2, s6, hk', y⟩
          have nt1 : ¬ (8 ≤ (w_t S s k).2.1.length ∧ (l : Int) ∈ (w_t S s k).2.1) := fun y => ntm ⟨tS, Or.inl y⟩
          have nt2 : ¬ (8 ≤ (w_t S s k).2.2.length ∧ (l : Int) ∈ (w_t S s k).2.2 ∧ g_hold (g_cls (g_rawL F ps)) (V ((w_t S s k).1 11).toNat).2.2.2.2 = true ∧ g_hold (g_cls (g_rawR F ps)) (V ((w_t S s k).1 11).toNat).2.2.2.2 = true) := fun y => ntm ⟨tS, Or.inr y⟩
          rw [sT] at rb
          refine ⟨fun n3 mem => ?_, fun s3 => ⟨fun mem => ?_, fun mem yL yR => ?_⟩⟩
          · have e := (rb.2.2.2.1 n3).1
            rw [e] at mem ⊢
            exact Nat.lt_of_not_le (fun z => nt1 ⟨z, mem⟩)
          · have e := (rb.2.2.1 s3).2.2
            rw [e] at mem ⊢
            exact Nat.lt_of_not_le (fun z => nt1 ⟨z, mem⟩)
          · have e := (rb.2.2.1 s3).2.1
            have ept : (n_of M11).2.2.2.1 k = (V ((w_t S s k).1 11).toNat).2.2.2.2 := by
              subst s3
              rw [R11.2.2.2.2.2.1 k hk, sT]
            rw [ept] at yL yR
            rw [e] at mem ⊢
            exact Nat.lt_of_not_le (fun z => nt2 ⟨z, mem, yL, yR⟩)
        · have RR := R_spl (old := (l : Int)) (a := S.1 0) (b := S.1 0 + 1) (L := g_cls (g_rawL F ps)) (R := g_cls (g_rawR F ps)) R11 z2 (fun i hi t mem => br ⟨i, by show (i : Int) < S.1 5; rw [← sz 5 (by omega)]; exact hi, by rw [w_thr_t (by omega), ← sT, ← sd]; exact t, by rw [← sT]; exact mem, by have := h5g i (by rw [← sz 5 (by omega)]; exact hi); omega⟩)
          rw [← v2, sd] at RR
          exact go M' v1 RR (j_keep_trans kp11 (j_tfr_keep v3))
    · have gt : 80 < S.1 0 + 2 := by rw [many] at gt; exact gt
      exact q7 ab br hcut (Or.inl (by omega)) N hN.1 hN.2.2.1 kN
  · rw [eF] at c
    obtain ⟨hN, nN, kN⟩ := R_all_pfr h (j_pfr_le p (by omega))
    exact q3 ab br c N hN.1 hN.2.2.1 kN
