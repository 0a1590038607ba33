/-! THE MODEL: a part of a CUT -/
theorem gt_rc_mod {n c m : Nat} (hc : c < n) (hm : m ≤ n) : (((c : Int) + (m : Int)).tmod (n : Int)) = ((gt_rc n c m : Nat) : Int) := by
  rw [Int.tmod_eq_emod_of_nonneg (by omega)]
  by_cases h : c + m < n
  · rw [gt_rc_lt h, Int.emod_eq_of_lt (by omega) (by omega)]; omega
  · rw [gt_rc_wrap hc (by omega) hm, show (c : Int) + (m : Int) = ((c + m - n : Nat) : Int) + (n : Int) by omega, Int.add_emod_right, Int.emod_eq_of_lt (by omega) (by omega)]
theorem j_cut_rfr {B N : e_M} {x m f n : Nat} (h : j_cut B x m) (k : j_rfr B N f n) : j_cut N x m := by
  unfold j_cut
  rw [k.1 4456 (by omega) (by omega)]
  exact h
theorem j_cps_rfr {B N : e_M} {x m f n : Nat} {ps : s_Fig} (h : j_cps B x m ps) (k : j_rfr B N f n) : j_cps N x m ps := by
  unfold j_cps
  rw [k.1 4475 (by omega) (by omega), k.1 4476 (by omega) (by omega)]
  exact h
theorem j_fg_rfr {B N : e_M} {f n a k : Nat} (h : j_rfr B N f n) (ha : a + k ≤ f ∨ f + n ≤ a) : j_fg N a k = j_fg B a k := by
  unfold j_fg
  exact s_ar_congr (fun i hi => by
    have := h.2 (a + i) (by omega)
    rw [this.1, this.2])
theorem m_part {M : e_M} {x m f n to : Nat} {ps L : s_Fig} {lf f' n' to' : Int} {Q : Int → e_M → Prop} (hc : j_cut M x m) (hp : j_cps M x m ps) (ef : f' = (f : Int)) (en : n' = (n : Int)) (et : to' = (to : Int)) (h2 : 2 ≤ m) (hf : f + n ≤ to) (ht : to + 400 ≤ 4800) (n40 : n ≤ 40) (fb : s_fb (j_fg M f n)) (lp : ∀ k, k < m → s_lp (g_pt ps k)) (eL : L = if lf = 0 then ps.reverse else ps) (sA : 0 ≤ g_str (j_fg M f n) (g_pt L (m - 1)).1 (g_pt L (m - 1)).2) (sB : 0 ≤ g_str (j_fg M f n) (g_pt L 0).1 (g_pt L 0).2) (hR : gt_fig (L ++ g_bord (j_fg M f n) (g_pt L (m - 1)) (g_pt L 0))) (hq : ∀ (N : e_M) (k : Nat), j_rfr M N to 400 → k ≤ 400 → j_fg N to k = g_cls (L ++ g_bord (j_fg M f n) (g_pt L (m - 1)) (g_pt L 0)) → Q k N) : WX12_part to' f' n' lf M Q := by
  subst ef en et
  have m12 := hc.2.2.2
  have ln : (j_fg M f n).length = n := j_fg_len
  have nb := j_fgb_e fb
  have lL : L.length = m := by
    rw [eL]
    split
    · rw [List.length_reverse]; exact hp.1
    · exact hp.1
  -- the points as they come
  have ptL : ∀ i, i < m → g_pt L i = g_pt ps (if lf = 0 then m - 1 - i else i) := fun i hi => by
    rw [eL]
    by_cases c : lf = 0
    · rw [if_pos c, if_pos c]
      unfold g_pt
      rw [List.getElem?_reverse (by rw [hp.1]; exact hi), hp.1]
    · rw [if_neg c, if_neg c]
  have lpL : ∀ i, i < m → s_lp (g_pt L i) := fun i hi => by
    rw [ptL i hi]
    split
    · exact lp _ (by omega)
    · exact lp i hi
  have lpm : ∀ q ∈ L, s_lp q := fun q hq => by
    obtain ⟨i, hi⟩ := List.mem_iff_getElem?.mp hq
    have il := (List.getElem?_eq_some_iff.mp hi).1
    have e : g_pt L i = q := by unfold g_pt; rw [hi]; rfl
    rw [← e]
    exact lpL i (by omega)
  generalize ea : g_pt L (m - 1) = a at *
  generalize eb : g_pt L 0 = b at *
  have la : s_lp a := by rw [← ea]; exact lpL _ (by omega)
  have lb : s_lp b := by rw [← eb]; exact lpL _ (by omega)
  -- the border
  have k197 : ∀ (many : Nat) (N0 : e_M), many ≤ n → (many : Int) = g_bst (j_fg M f n) a b → j_rfr M N0 to 400 → j_fg N0 to m = L → ∃ j, WX12_part_197 Q j to f n m b.1 b.2 (g_str (j_fg M f n) a.1 a.2) many 1 N0 := by
    intro many N0 hm em fr0 el0
    obtain ⟨c, ec⟩ : ∃ c : Nat, g_str (j_fg M f n) a.1 a.2 = c := ⟨(g_str (j_fg M f n) a.1 a.2).toNat, by omega⟩
    have cl : c < n := by
      have := (g_str_lt (F := j_fg M f n) (x := a.1) (y := a.2)).2
      rw [ln] at this
      omega
    have bord : g_bord (j_fg M f n) a b = g_brd (j_fg M f n) b many c := by
      unfold g_bord
      rw [if_neg (by omega), ← em, ec]
      rfl
    rw [ec]
    have conc := s_up (σ := e_M × Nat) (P := fun dd i s => WX12_part_197 Q dd to f n s.2 b.1 b.2 c many i s.1) (n := (many : Int) + 1) (i0 := 1) (s := (N0, m)) (fun i s => j_rfr M s.1 to 400 ∧ (s.2 : Int) ≤ m + (i - 1) ∧ j_fg s.1 to s.2 = L ++ g_brd (j_fg M f n) b (i.toNat - 1) c) (by omega) ⟨fr0, by omega, by
      show j_fg N0 to m = L ++ g_brd (j_fg M f n) b 0 c
      rw [el0]
      exact (List.append_nil _).symm⟩ ?_ ?_
    · exact conc
    · rintro d ⟨N, cnt⟩ ⟨i1, i2, i3⟩
      dsimp only at i1 i2 i3 ⊢
      unfold WX12_part_197 VX12_part_197
      rw [show ((many : Int) + 1).toNat - 1 = many by omega, ← bord] at i3
      refine ⟨fun _ => m_tidy rfl rfl (by omega) (by rw [i3]; exact hR) (by rw [i3]; intro q hq; rcases List.mem_append.mp hq with z | z
                                                                            · exact lpm q z
                                                                            · rw [bord, gt_brd_run] at z
                                                                              have z := (List.mem_filter.mp z).1
                                                                              have run : ∀ (k c : Nat), ∀ q ∈ gt_run (j_fg M f n) c k, s_lp q := by
                                                                                intro k
                                                                                induction k with
                                                                                | zero => intro c q hq; cases hq
                                                                                | succ k ih =>
                                                                                  intro c q hq
                                                                                  rw [gt_run_snoc] at hq
                                                                                  rcases List.mem_append.mp hq with w | w
                                                                                  · exact ih c q w
                                                                                  · rw [List.mem_singleton.mp w]
                                                                                    exact g_pt_b fb _
                                                                              exact run _ _ q z) (fun N' k u1 u2 u3 => hq N' k (j_rfr_t i1 (j_rfr_le u1 (by omega) (by omega))) (by omega) (by rw [u3, i3])), fun z => by omega⟩
    · rintro d i' ⟨N, cnt⟩ i0 i1' ⟨i1, i2, i3⟩ ih
      dsimp only at i1 i2 i3 ⊢
      obtain ⟨i, ei⟩ : ∃ i : Nat, i' = i := ⟨i'.toNat, by omega⟩
      subst ei
      have rcl : gt_rc n c i < n := by
        by_cases h : c + i < n
        · rw [gt_rc_lt h]; exact h
        · rw [gt_rc_wrap cl (by omega) (by omega)]; omega
      have sn : g_brd (j_fg M f n) b i c = g_brd (j_fg M f n) b (i - 1) c ++ (if g_pt (j_fg M f n) (gt_rc n c i) = b then [] else [g_pt (j_fg M f n) (gt_rc n c i)]) := by
        have e : i = (i - 1) + 1 := by omega
        rw [gt_brd_run, gt_brd_run, e, gt_run_snoc, List.filter_append, ln, ← e]
        congr 1
        by_cases h : g_pt (j_fg M f n) (gt_rc n c i) = b
        · rw [if_pos h, List.filter_cons_of_neg (by simp [h])]; rfl
        · rw [if_neg h, List.filter_cons_of_pos (by simp [h])]; rfl
      have pf : (N 4480 (f + gt_rc n c i), N 4481 (f + gt_rc n c i)) = g_pt (j_fg M f n) (gt_rc n c i) := by
        rw [j_fg_at rcl]
        have := i1.2 (f + gt_rc n c i) (by omega)
        rw [this.1, this.2]
      have k281 : ∀ (N' : e_M) (cnt' : Nat), j_rfr M N' to 400 → (cnt' : Int) ≤ m + i → j_fg N' to cnt' = L ++ g_brd (j_fg M f n) b i c → WX12_part_281 (WX12_part_197 Q d) Q to f n cnt' b.1 b.2 c many i N' := fun N' cnt' a1 a2 a3 => by
        unfold WX12_part_281 VX12_part_281
        rw [s_w (by omega) (by omega)]
        exact ih (N', cnt') ⟨a1, by dsimp only; omega, by dsimp only; rw [show ((i : Int) + 1).toNat - 1 = i by omega]; exact a3⟩
      unfold WX12_part_197 VX12_part_197
      rw [s_w (x := (c : Int) + (i : Int)) (by omega) (by omega), gt_rc_mod cl (by omega), s_w (x := (f : Int) + ((gt_rc n c i : Nat) : Int)) (by omega) (by omega)]
      refine ⟨fun z => by omega, fun _ => ⟨by omega, fun y3 e3 => ?_⟩⟩
      subst e3
      rw [show ((f : Int) + ((gt_rc n c i : Nat) : Int)).toNat = f + gt_rc n c i by omega]
      have p1 : N 4480 (f + gt_rc n c i) = (g_pt (j_fg M f n) (gt_rc n c i)).1 := congrArg Prod.fst pf
      have p2 : N 4481 (f + gt_rc n c i) = (g_pt (j_fg M f n) (gt_rc n c i)).2 := congrArg Prod.snd pf
      have k246 : g_pt (j_fg M f n) (gt_rc n c i) ≠ b → WX12_part_246 (WX12_part_197 Q d) Q to f n cnt b.1 b.2 c many i ((f : Int) + ((gt_rc n c i : Nat) : Int)) N := fun ne => by
        unfold WX12_part_246 VX12_part_246
        rw [s_w (x := (to : Int) + (cnt : Int)) (by omega) (by omega), show ((f : Int) + ((gt_rc n c i : Nat) : Int)).toNat = f + gt_rc n c i by omega, show ((to : Int) + (cnt : Int)).toNat = to + cnt by omega]
        refine ⟨by omega, by omega, fun M1 e1 => ⟨by omega, by omega, fun M2 e2 => ?_⟩⟩
        rw [e1, e_up_row (show 4481 ≠ 4480 by omega)] at e2
        rw [s_w (x := (cnt : Int) + 1) (by omega) (by omega)]
        have c0 : ∀ j, M2 4480 j = if j = to + cnt then N 4480 (f + gt_rc n c i) else N 4480 j := fun j => by rw [e2, e_up_row (by omega), e_up_at]
        have c1 : ∀ j, M2 4481 j = if j = to + cnt then N 4481 (f + gt_rc n c i) else N 4481 j := fun j => by rw [e2, e_up_at, e_up_row (by omega)]
        have fr : j_rfr N M2 to 400 := ⟨fun b' b1 b2 => by rw [e2, e_up_row b2, e_up_row b1], fun j hj => by rw [c0, c1, if_neg (by omega), if_neg (by omega)]; exact ⟨rfl, rfl⟩⟩
        have := k281 M2 (cnt + 1) (j_rfr_t i1 fr) (by omega) (by
          rw [sn, if_neg ne, ← List.append_assoc, ← (show j_fg N to cnt = L ++ g_brd (j_fg M f n) b (i - 1) c from i3)]
          refine j_fg_e (by rw [List.length_append, j_fg_len]; rfl) (fun k hk => ?_)
          rw [c0, c1]
          by_cases h : k < cnt
          · rw [List.getElem?_append_left (by rw [j_fg_len]; exact h), if_neg (by omega), if_neg (by omega)]
            exact j_fg_nat h
          · rw [List.getElem?_append_right (by rw [j_fg_len]; omega), j_fg_len, if_pos (by omega), if_pos (by omega), show k - cnt = 0 by omega, p1, p2]
            rfl)
        rw [show ((cnt + 1 : Nat) : Int) = (cnt : Int) + 1 by omega] at this
        exact this
      refine ⟨by omega, fun ne => k246 (fun e => ne (by rw [p1, e])), fun e1 => ⟨by omega, fun ne => k246 (fun e => ne (by rw [p2, e])), fun e2 => ?_⟩⟩
      refine k281 N cnt i1 (by omega) ?_
      rw [sn, if_pos (Prod.ext (p1.symm.trans e1) (p2.symm.trans e2)), List.append_nil, i3]
      rfl
  -- the points
  unfold WX12_part VX12_part
  show ∃ j, WX12_part_6 Q j to f n lf 0 0 M
  refine s_up (σ := e_M) (P := fun dd i N => WX12_part_6 Q dd to f n lf i i N) (n := (m : Int)) (i0 := 0) (s := M) (fun i N => j_rfr M N to 400 ∧ ∀ k : Nat, (k : Int) < i → N 4480 (to + k) = (g_pt L k).1 ∧ N 4481 (to + k) = (g_pt L k).2) (by omega) ⟨j_rfr_r, fun k hk => by omega⟩ ?_ ?_
  · intro d N ⟨i1, i2⟩
    have eF : j_fg N f n = j_fg M f n := j_fg_rfr i1 (Or.inl hf)
    have nbN : j_fgb N f n := j_fgb_e (by rw [eF]; exact fb)
    have eN : j_fg N to m = L := j_fg_e lL (fun k hk => by
      have := i2 k (by omega)
      rw [this.1, this.2]
      unfold g_pt
      rw [List.getElem?_eq_getElem (by omega)]
      rfl)
    have a1 := (i2 (m - 1) (by omega)).1
    have a2 := (i2 (m - 1) (by omega)).2
    have b1 := (i2 0 (by omega)).1
    have b2 := (i2 0 (by omega)).2
    rw [ea] at a1 a2
    rw [eb] at b1 b2
    rw [Nat.add_zero] at b1 b2
    have u1 := la.1
    have u2 := la.2
    have u3 := lb.1
    have u4 := lb.2
    have sAl := (g_str_lt (F := j_fg M f n) (x := a.1) (y := a.2)).2
    have sBl := (g_str_lt (F := j_fg M f n) (x := b.1) (y := b.2)).2
    rw [ln] at sAl sBl
    unfold WX12_part_6 VX12_part_6
    rw [(j_cut_rfr hc i1).2.1, s_w (x := (to : Int) + (m : Int)) (by omega) (by omega), s_w (x := (to : Int) + (m : Int) - 1) (by omega) (by omega), show ((to : Int) + (m : Int) - 1).toNat = to + (m - 1) by omega, a1, a2, show ((to : Nat) : Int).toNat = to from rfl, b1, b2]
    refine ⟨fun _ => ⟨by omega, fun y1 e1 => ⟨by omega, fun y2 e2 => ?_⟩⟩, fun z => by omega⟩
    subst e1 e2
    refine ⟨by omega, by omega, m_sideOf rfl rfl (by omega) nbN u1 u2 ?_⟩
    rw [eF]
    refine m_sideOf rfl rfl (by omega) nbN u3 u4 ?_
    rw [eF]
    have bst : g_bst (j_fg M f n) a b = if g_str (j_fg M f n) b.1 b.2 - g_str (j_fg M f n) a.1 a.2 < 0 ∨ (g_str (j_fg M f n) b.1 b.2 - g_str (j_fg M f n) a.1 a.2 = 0 ∧ g_ah (j_fg M f n) a b (g_str (j_fg M f n) a.1 a.2).toNat < 0) then g_str (j_fg M f n) b.1 b.2 - g_str (j_fg M f n) a.1 a.2 + n else g_str (j_fg M f n) b.1 b.2 - g_str (j_fg M f n) a.1 a.2 := by
      unfold g_bst
      rw [ln]
    have go : ∀ many : Int, many = g_bst (j_fg M f n) a b → 0 ≤ many → many ≤ n → WX12_part_194 Q to f n m b.1 b.2 (g_str (j_fg M f n) a.1 a.2) many N := fun many em m0 mn => by
      have := k197 many.toNat N (by omega) (by omega) i1 eN
      rw [show ((many.toNat : Nat) : Int) = many by omega] at this
      exact this
    obtain ⟨sa, esa⟩ : ∃ sa : Nat, g_str (j_fg M f n) a.1 a.2 = sa := ⟨(g_str (j_fg M f n) a.1 a.2).toNat, by omega⟩
    rw [esa] at bst go sAl ⊢
    generalize g_str (j_fg M f n) b.1 b.2 = sb at *
    have em0 : e_w32 (e_w32 (sb - (sa : Int)) + (n : Int)) = sb - sa + n := by rw [s_w (x := sb - (sa : Int)) (by omega) (by omega)]; exact s_w (by omega) (by omega)
    have hsa : sa < n := by omega
    rw [em0]
    have tm : (sb - (sa : Int) + (n : Int)).tmod (n : Int) = if sb - (sa : Int) < 0 then sb - sa + n else sb - sa := by
      rw [Int.tmod_eq_emod_of_nonneg (by omega)]
      by_cases h : sb - (sa : Int) < 0
      · rw [if_pos h, Int.emod_eq_of_lt (by omega) (by omega)]
      · rw [if_neg h, Int.add_emod_right, Int.emod_eq_of_lt (by omega) (by omega)]
    refine ⟨by omega, fun y5 e5 => ⟨fun ne => ?_, fun eq => ?_⟩⟩
    · refine go y5 ?_ (by rw [e5, tm]; split <;> omega) (by rw [e5, tm]; split <;> omega)
      rw [e5, tm, bst]
      by_cases h : sb - (sa : Int) < 0
      · rw [if_pos h, if_pos (Or.inl h)]
      · rw [if_neg h, if_neg (by rintro (w | w) <;> omega)]
    · refine m_far (n := n) rfl rfl hsa (by omega) nbN u1 u2 ?_
      refine m_far (n := n) rfl rfl hsa (by omega) nbN u3 u4 ?_
      rw [eF]
      have ah : g_ah (j_fg M f n) a b sa = (((b.1 - (g_pt (j_fg M f n) sa).1).natAbs : Int) + ((b.2 - (g_pt (j_fg M f n) sa).2).natAbs : Int)) - ((a.1 - (g_pt (j_fg M f n) sa).1).natAbs : Int) - ((a.2 - (g_pt (j_fg M f n) sa).2).natAbs : Int) := rfl
      rw [show ((sa : Nat) : Int).toNat = sa from rfl, ah] at bst
      have y50 : y5 = 0 := by rw [e5, tm, if_neg (by omega)]; omega
      refine ⟨fun le => go y5 ?_ (by omega) (by omega), fun lt => go n ?_ (by omega) (by omega)⟩
      · rw [bst, if_neg (by rintro (w | w) <;> omega)]; omega
      · rw [bst, if_pos (Or.inr ⟨by omega, by omega⟩)]; omega
  · intro d i' N i0 i1' ⟨i1, i2⟩ ih
    obtain ⟨i, ei⟩ : ∃ i : Nat, i' = i := ⟨i'.toNat, by omega⟩
    subst ei
    have cN := j_cut_rfr hc i1
    have pN := j_cps_rfr hp i1
    have k34 : ∀ idx : Nat, idx = (if lf = 0 then m - 1 - i else i) → WX12_part_34 (WX12_part_6 Q d) Q to f n lf i i idx N := by
      intro idx eidx
      have hidx : idx < m := by rw [eidx]; split <;> omega
      have pl := ptL i (by omega)
      rw [← eidx] at pl
      have ll := lpL i (by omega)
      rw [pl] at ll
      have ce := pN.2 idx hidx
      have c1 : N 4475 (12 * x + idx) = (g_pt ps idx).1 := congrArg Prod.fst ce
      have c2 : N 4476 (12 * x + idx) = (g_pt ps idx).2 := congrArg Prod.snd ce
      unfold WX12_part_34 VX12_part_34
      refine m_px cN rfl (by omega) ?_
      rw [c1, s_w (x := (to : Int) + (i : Int)) (by omega) (by omega), show ((to : Int) + (i : Int)).toNat = to + i by omega, s_w (x := (g_pt ps idx).1) (by have := ll.1; omega) (by have := ll.1; omega)]
      refine ⟨by omega, fun M2 e2 => ?_⟩
      have cM2 : j_cut M2 x m := by unfold j_cut; rw [e2, e_up_row (by omega)]; exact cN
      refine m_py cM2 rfl (by omega) ⟨by omega, fun M4 e4 => ?_⟩
      rw [e2, e_up_row (show 4476 ≠ 4480 by omega), c2, s_w (x := (g_pt ps idx).2) (by have := ll.2; omega) (by have := ll.2; omega)] at e4
      rw [s_w (by omega) (by omega)]
      have c0 : ∀ j, M4 4480 j = if j = to + i then (g_pt ps idx).1 else N 4480 j := fun j => by rw [e4, e_up_row (by omega), e_up_at]
      have c1 : ∀ j, M4 4481 j = if j = to + i then (g_pt ps idx).2 else N 4481 j := fun j => by rw [e4, e_up_at, e_up_row (by omega)]
      refine ih M4 ⟨j_rfr_t i1 ⟨fun b' b1 b2 => by rw [e4, e_up_row b2, e_up_row b1], fun j hj => by rw [c0, c1, if_neg (by omega), if_neg (by omega)]; exact ⟨rfl, rfl⟩⟩, fun k hk => ?_⟩
      rw [c0, c1]
      by_cases h : k = i
      · subst h
        rw [if_pos rfl, if_pos rfl, pl]; exact ⟨rfl, rfl⟩
      · rw [if_neg (by omega), if_neg (by omega)]
        exact i2 k (by omega)
    unfold WX12_part_6 VX12_part_6
    rw [cN.2.1, s_w (x := (m : Int) - 1) (by omega) (by omega), s_w (x := (m : Int) - 1 - (i : Int)) (by omega) (by omega)]
    refine ⟨fun z => by omega, fun _ => ⟨fun z => ?_, fun nz => ?_⟩⟩
    · have := k34 (m - 1 - i) (by rw [if_pos z])
      rw [show ((m - 1 - i : Nat) : Int) = (m : Int) - 1 - i by omega] at this
      exact this
    · exact k34 i (by rw [if_neg nz])
