/-! THE MODEL: two FIGURES joined -/
theorem gt_cls_rot {x y : s_Fig} (h : gt_fig (x ++ y)) : g_cls (y ++ x) = g_cls (x ++ y) := by
  have h' := gt_fig_rot h
  obtain ⟨-, -, -, ⟨s1, t1, e1, e2⟩, w, r, e3, e4⟩ := gt_cls h
  have nsE : ∀ z, gt_ns (y ++ x) z = gt_ns (x ++ y) z := fun z => gt_ns_congr gt_st_rot
  have mw : w ∈ (x ++ y).filter (gt_ns (x ++ y)) := by
    have : w ∈ g_cls (x ++ y) := by rw [e3]; exact List.mem_cons_self ..
    rw [e2] at this
    rw [e1, ← e1] at *
    conv => lhs; rw [e1]
    rw [List.filter_append]
    rcases List.mem_append.mp this with k | k
    · exact List.mem_append.mpr (Or.inr k)
    · exact List.mem_append.mpr (Or.inl k)
  have lo : ∀ z ∈ (x ++ y).filter (gt_ns (x ++ y)), ¬ gt_lo z w := fun z hz => e4 z (List.mem_filter.mp hz).1
  have lo' : ∀ z ∈ (y ++ x).filter (gt_ns (y ++ x)), ¬ gt_lo z w := fun z hz => e4 z (by
    rcases List.mem_append.mp (List.mem_filter.mp hz).1 with k | k
    · exact List.mem_append.mpr (Or.inr k)
    · exact List.mem_append.mpr (Or.inl k))
  have f1 : (x ++ y).filter (gt_ns (x ++ y)) = x.filter (gt_ns (x ++ y)) ++ y.filter (gt_ns (x ++ y)) := List.filter_append ..
  have f2 : (y ++ x).filter (gt_ns (y ++ x)) = y.filter (gt_ns (x ++ y)) ++ x.filter (gt_ns (x ++ y)) := by
    rw [List.filter_append, List.filter_congr (fun z _ => nsE z), List.filter_congr (l := x) (fun z _ => nsE z)]
  rw [f1] at mw
  rcases List.mem_append.mp mw with k | k
  · obtain ⟨X1, X2, eX⟩ := List.append_of_mem k
    have a1 := gt_tidied h rfl (s := X1) (t := w :: (X2 ++ y.filter (gt_ns (x ++ y)))) (t' := X2 ++ y.filter (gt_ns (x ++ y))) (v := w) (by rw [f1, eX]; simp) rfl lo
    have a2 := gt_tidied h' rfl (s := y.filter (gt_ns (x ++ y)) ++ X1) (t := w :: X2) (t' := X2) (v := w) (by rw [f2, eX]; simp) rfl lo'
    rw [← a1, ← a2]; simp
  · obtain ⟨Y1, Y2, eY⟩ := List.append_of_mem k
    have a1 := gt_tidied h rfl (s := x.filter (gt_ns (x ++ y)) ++ Y1) (t := w :: Y2) (t' := Y2) (v := w) (by rw [f1, eY]; simp) rfl lo
    have a2 := gt_tidied h' rfl (s := Y1) (t := w :: (Y2 ++ x.filter (gt_ns (x ++ y)))) (t' := Y2 ++ x.filter (gt_ns (x ++ y))) (v := w) (by rw [f2, eY]; simp) rfl lo'
    rw [← a1, ← a2]; simp
theorem gt_area {F : s_Fig} : g_area F = gt_sm gt_ar (gt_ed F) := (gt_sum_i (c := gt_ar) (F := F)).symm
/-- a corner of the row with more corners lies on the border -/
theorem gt_aug_on {F G : s_Fig} (hF : gt_fig F) (hG : G.length ≤ 40) {v : gt_P} (mv : v ∈ gt_aug F G) : 0 ≤ g_str F v.1 v.2 := by
  obtain ⟨a1, -⟩ := gt_aug_all hF hG
  obtain ⟨b, hb⟩ := gt_out mv
  obtain ⟨g, hg, g1, -⟩ := a1.2.2.2.1 _ hb
  obtain ⟨i, ei, -⟩ := gt_str hF.1 (p := v) ⟨g, hg, g1⟩
  rw [ei]; omega
/-- one look along one of two FIGURES -/
theorem m_alongA {M : e_M} {f n g m : Nat} {F G : s_Fig} {v : gt_P} {f' n' g' m' px py : Int} {Q : Int → e_M → Prop} (ef : f' = (f : Int)) (en : n' = (n : Int)) (eg : g' = (g : Int)) (em : m' = (m : Int)) (ev : (px, py) = v) (hf : f + n ≤ 4800) (hgm : g + m ≤ 4800) (eF : j_fg M f n = F) (eG : j_fg M g m = G) (hF : gt_fig F) (fb : s_fb F) (gb : s_fb G) (lG : G.length ≤ 40) (lv : s_lp v) (mv : v ∈ F ∨ v ∈ G) (q0 : v ∉ gt_aug F G → Q 0 M) (q1 : ∀ (h : gt_P) (M' : e_M), (v, h) ∈ gt_ed (gt_aug F G) → s_lp h → (∀ b, b ≠ 4456 → M' b = M b) → (∀ j, j ≠ 47 → j ≠ 48 → M' 4456 j = M 4456 j) → M' 4456 47 = h.1 → M' 4456 48 = h.2 → Q 1 M') : WX12_along f' n' g' m' px py M Q := by
  subst eF eG
  refine m_along ef en eg em ev hf hgm (j_fgb_e fb) (j_fgb_e gb) lv (fun e => q0 (fun z => ?_)) (fun k h M' hk nv ov oh hh no lh f1 f2 f3 f4 => q1 h M' ?_ lh f1 f2 f3 f4)
  · have := gt_aug_on hF lG z
    omega
  · have ln : (j_fg M f n).length = n := j_fg_len
    have mA : v ∈ gt_aug (j_fg M f n) (j_fg M g m) := Classical.byContradiction (fun z => gt_along_no hF lG mv z (i := k) (by rw [ln]; exact hk) (by rw [ln]; exact ov))
    refine gt_along hF lG (k := k) (by rw [ln]; exact hk) (by rw [ln]; exact nv) (by rw [ln]; exact ov) mA (by rw [ln]; exact oh) (by rw [ln]; exact hh) no
theorem m_joins {M : e_M} {f n g m : Nat} {F G : s_Fig} {f' n' g' m' : Int} {Q : Int → e_M → Prop} (ef : f' = (f : Int)) (en : n' = (n : Int)) (eg : g' = (g : Int)) (em : m' = (m : Int)) (hf : f + n ≤ 3200) (hgm : g + m ≤ 3200) (eF : j_fg M f n = F) (eG : j_fg M g m = G) (hF : gt_fig F) (hG : gt_fig G) (fb : s_fb F) (gb : s_fb G) (lF : F.length ≤ 40) (lG : G.length ≤ 40) (loF : ∀ x ∈ F, ¬ gt_lo x (g_pt F 0)) (loG : ∀ x ∈ G, ¬ gt_lo x (g_pt G 0)) (hpr : gt_pr (gt_aug F G) (gt_aug G F)) (q1 : ∀ (R : s_Fig) (N : e_M) (k : Nat), g_jraw F G = some R → g_okc R → j_pfr M N 3200 → N 4456 46 = k → j_fg N 3200 k = g_cls R → Q 1 N) (q0 : ∀ N : e_M, (∀ R, g_jraw F G = some R → ¬ g_okc R) → j_pfr M N 3200 → Q 0 N) : WX12_joins f' n' g' m' M Q := by
  subst ef en eg em
  have n3 : 3 ≤ n := by
    obtain ⟨v, b, c, r, e⟩ := gt_smp_3 hF.1 hF.2.1
    have := congrArg List.length eF
    rw [j_fg_len, e] at this
    rw [this]; simp
  have m3 : 3 ≤ m := by
    obtain ⟨v, b, c, r, e⟩ := gt_smp_3 hG.1 hG.2.1
    have := congrArg List.length eG
    rw [j_fg_len, e] at this
    rw [this]; simp
  have F0 : (M 4480 f, M 4481 f) = g_pt F 0 := by rw [← eF]; have := j_fg_at (M := M) (f := f) (n := n) (k := 0) (by omega); rw [Nat.add_zero] at this; exact this.symm
  have G0 : (M 4480 g, M 4481 g) = g_pt G 0 := by rw [← eG]; have := j_fg_at (M := M) (f := g) (n := m) (k := 0) (by omega); rw [Nat.add_zero] at this; exact this.symm
  have mF0 : g_pt F 0 ∈ F := gt_pt_mem (by have := congrArg List.length eF; rw [j_fg_len] at this; omega)
  have mG0 : g_pt G 0 ∈ G := gt_pt_mem (by have := congrArg List.length eG; rw [j_fg_len] at this; omega)
  obtain ⟨a1, a2, -⟩ := gt_aug_all hF lG
  obtain ⟨b1, b2, -⟩ := gt_aug_all hG lF
  have inFG : ∀ v, v ∈ gt_aug F G ∨ v ∈ gt_aug G F → v ∈ F ∨ v ∈ G := fun v hv => by
    rcases hv with k | k
    · exact a2 v k
    · exact (b2 v k).symm
  have lpv : ∀ v, v ∈ F ∨ v ∈ G → s_lp v := fun v hv => by
    rcases hv with k | k
    · exact fb v k
    · exact gb v k
  -- from the lowest corner on
  have go : ∀ s : gt_P, (s ∈ gt_aug F G ∨ s ∈ gt_aug G F) → (∀ x, x ∈ gt_aug F G ∨ x ∈ gt_aug G F → ¬ gt_lo x s) → WX12_joins_94 Q f n g m s.1 s.2 M := by
    intro s hs lo
    have J := gt_joins (N := 1000) hF hG lF lG (fun p hp => fb p hp) (fun p hp => gb p hp) hpr hs lo
    have sA : ∀ {u v : gt_P}, u ∈ gt_aug F G ∨ u ∈ gt_aug G F → True := fun _ => trivial
    generalize eA : gt_aug F G = A at *
    generalize eB : gt_aug G F = B at *
    -- where nothing comes of it
    have dead : ∀ N, gt_mw A B s 399 (-1, 0) s [] = none → j_pfr M N 3200 → Q 0 N := fun N e p => q0 N (fun R hR _ => by
      obtain ⟨W, hW, -⟩ := (J.1 R hR).2
      rw [e] at hW
      cases hW) p
    have rowE : ∀ {N : e_M} {a k : Nat}, j_pfr M N 3200 → a + k ≤ 3200 → j_fg N a k = j_fg M a k := fun p h => j_fg_pfr p h
    -- the end of the walk
    have k376e : ∀ (N : e_M) (W : s_Fig) (k : Nat), j_pfr M N 3200 → j_fg N 4400 k = W → k ≤ 399 → gt_mw A B s 399 (-1, 0) s [] = some W → s_fb W → WX12_areaOf 4400 k N (fun r1 => WX12_areaOf f n N (fun r2 => WX12_areaOf g m N (fun r3 => (r1 = e_w64 (r2 + r3) → WX12_tidy 4400 k N (fun r4 M5 => ∀ M6 : e_M, M6 = e_up M5 4456 46 r4 → ((M6 4456 46 ≤ 40 → ∃ j, WX12_joins_470 Q j 0 M6) ∧ (40 < M6 4456 46 → Q 0 M6)))) ∧ (¬ r1 = e_w64 (r2 + r3) → Q 0 N)))) := by
      intro N W k p eW k3 hW wb
      have eFN : j_fg N f n = F := by rw [rowE p hf]; exact eF
      have eGN : j_fg N g m = G := by rw [rowE p hgm]; exact eG
      refine m_areaOf (f := 4400) (n := k) rfl rfl (by omega) (j_fgb_e (by rw [eW]; exact wb)) (m_areaOf (f := f) (n := n) rfl rfl (by omega) (j_fgb_e (by rw [eFN]; exact fb)) (m_areaOf (f := g) (n := m) rfl rfl (by omega) (j_fgb_e (by rw [eGN]; exact gb)) ?_))
      rw [eW, eFN, eGN]
      have bF := g_area_b fb F.length
      have bG := g_area_b gb G.length
      have cF : g_area F = g_sum (fun i => (g_pt F i).1 * (g_pt F (g_nx F.length i)).2 - (g_pt F (g_nx F.length i)).1 * (g_pt F i).2) F.length := rfl
      have cG : g_area G = g_sum (fun i => (g_pt G i).1 * (g_pt G (g_nx G.length i)).2 - (g_pt G (g_nx G.length i)).1 * (g_pt G i).2) G.length := rfl
      rw [← cF] at bF
      rw [← cG] at bG
      rw [s_wj (x := g_area F + g_area G) (by omega) (by omega)]
      refine ⟨fun e => ?_, fun ne => q0 N (fun R hR _ => ?_) p⟩
      · rw [gt_area, gt_area, gt_area] at e
        obtain ⟨R, hR⟩ := J.2 W hW e
        obtain ⟨⟨fR, -⟩, W', hW', -, -, x, y, e1, e2⟩ := J.1 R hR
        rw [hW] at hW'
        have eWW := Option.some.inj hW'
        rw [← eWW] at e2
        have fW : gt_fig W := by rw [← e2]; exact gt_fig_rot (by rw [← e1]; exact fR)
        have cls : g_cls W = g_cls R := by rw [← e2, e1]; exact gt_cls_rot (by rw [← e1]; exact fR)
        refine m_tidy (f := 4400) (n := k) rfl rfl (by omega) (by rw [eW]; exact fW) (by rw [eW]; exact wb) (fun N5 c u1 u2 u3 M6 e6 => ?_)
        rw [eW, cls] at u3
        have p6 : j_pfr M M6 3200 := by rw [e6]; exact j_pfr_t (j_pfr_t p (j_pfr_rf u1 (by omega))) (j_pfr_up (by omega))
        have g46 : M6 4456 46 = c := by rw [e6, e_up_eq]
        have lc : (g_cls R).length = c := by rw [← u3, j_fg_len]
        have l3 := gt_cls_len fR
        rw [g46]
        refine ⟨fun le => ?_, fun gt => q0 M6 (fun R' hR' ok => by
          rw [hR] at hR'
          have := Option.some.inj hR'
          rw [← this] at ok
          have := ok.2
          omega) p6⟩
        have row6 : j_fg M6 4400 c = g_cls R := by
          rw [← u3]
          unfold j_fg
          rw [e6, e_up_row (by omega), e_up_row (by omega)]
        -- copied
        refine s_up (σ := e_M) (P := fun dd i N' => WX12_joins_470 Q dd i N') (n := (c : Int)) (i0 := 0) (s := M6) (fun i N' => j_rfr M6 N' 3200 40 ∧ ∀ t : Nat, (t : Int) < i → N' 4480 (3200 + t) = M6 4480 (4400 + t) ∧ N' 4481 (3200 + t) = M6 4481 (4400 + t)) (by omega) ⟨j_rfr_r, fun t ht => by omega⟩ ?_ ?_
        · intro d N' ⟨i1, i2⟩
          have g46' : N' 4456 46 = c := by rw [i1.1 4456 (by omega) (by omega)]; exact g46
          unfold WX12_joins_470 VX12_joins_470
          rw [g46']
          refine ⟨fun _ => q1 R N' c hR ⟨l3, by omega⟩ (j_pfr_t p6 (j_pfr_rf i1 (by omega))) g46' ?_, fun z => by omega⟩
          rw [← row6]
          unfold j_fg
          exact s_ar_congr (fun t ht => by
            have := i2 t (by omega)
            rw [this.1, this.2])
        · intro d i' N' i0 i1' ⟨i1, i2⟩ ih
          obtain ⟨i, ei⟩ : ∃ i : Nat, i' = i := ⟨i'.toNat, by omega⟩
          subst ei
          have g46' : N' 4456 46 = c := by rw [i1.1 4456 (by omega) (by omega)]; exact g46
          have o := i1.2 (4400 + i) (by omega)
          unfold WX12_joins_470 VX12_joins_470
          rw [g46', s_w (x := (4400 : Int) + (i : Int)) (by omega) (by omega), s_w (x := (3200 : Int) + (i : Int)) (by omega) (by omega), show ((4400 : Int) + (i : Int)).toNat = 4400 + i by omega, show ((3200 : Int) + (i : Int)).toNat = 3200 + i by omega, o.1]
          refine ⟨fun z => by omega, fun _ => ⟨by omega, by omega, fun M1 e1 => ⟨by omega, by omega, fun M2 e2 => ?_⟩⟩⟩
          rw [e1, e_up_row (show 4481 ≠ 4480 by omega), o.2] at e2
          rw [s_w (by omega) (by omega)]
          have c0 : ∀ j, M2 4480 j = if j = 3200 + i then M6 4480 (4400 + i) else N' 4480 j := fun j => by rw [e2, e_up_row (by omega), e_up_at]
          have c1 : ∀ j, M2 4481 j = if j = 3200 + i then M6 4481 (4400 + i) else N' 4481 j := fun j => by rw [e2, e_up_at, e_up_row (by omega)]
          refine ih M2 ⟨j_rfr_t i1 ⟨fun b' b1 b2 => by rw [e2, e_up_row b2, e_up_row b1], fun j hj => by rw [c0, c1, if_neg (by omega), if_neg (by omega)]; exact ⟨rfl, rfl⟩⟩, fun t ht => ?_⟩
          rw [c0, c1]
          by_cases h : t = i
          · subst h; rw [if_pos rfl, if_pos rfl]; exact ⟨rfl, rfl⟩
          · rw [if_neg (by omega), if_neg (by omega)]; exact i2 t (by omega)
      · obtain ⟨W', hW', -, ar, -⟩ := (J.1 R hR).2
        rw [hW] at hW'
        have eWW := Option.some.inj hW'
        rw [← eWW] at ar
        rw [gt_area, gt_area, gt_area] at ne
        exact ne ar
    -- step by step
    have walk : ∀ (d : Nat) (st : e_M × s_Fig × gt_P × gt_P), (j_pfr M st.1 3200 ∧ st.2.1.length ≤ 399 ∧ j_fg st.1 4400 st.2.1.length = st.2.1 ∧ s_fb st.2.1 ∧ (st.2.2.1 ∈ A ∨ st.2.2.1 ∈ B) ∧ ((-1000 ≤ st.2.2.2.1 ∧ st.2.2.2.1 ≤ 1000) ∧ -1000 ≤ st.2.2.2.2 ∧ st.2.2.2.2 ≤ 1000) ∧ gt_mw A B s 399 (-1, 0) s [] = gt_mw A B s (399 - st.2.1.length) st.2.2.2 st.2.2.1 st.2.1) → 399 - st.2.1.length < d → WX12_joins_115 Q d f n g m s.1 s.2 st.2.2.1.1 st.2.2.1.2 st.2.2.2.1 st.2.2.2.2 st.2.1.length st.1 := by
      refine s_iter (σ := e_M × s_Fig × gt_P × gt_P) (P := fun d st => WX12_joins_115 Q d f n g m s.1 s.2 st.2.2.1.1 st.2.2.1.2 st.2.2.2.1 st.2.2.2.2 st.2.1.length st.1) (fun st => 399 - st.2.1.length) (fun st => j_pfr M st.1 3200 ∧ st.2.1.length ≤ 399 ∧ j_fg st.1 4400 st.2.1.length = st.2.1 ∧ s_fb st.2.1 ∧ (st.2.2.1 ∈ A ∨ st.2.2.1 ∈ B) ∧ ((-1000 ≤ st.2.2.2.1 ∧ st.2.2.2.1 ≤ 1000) ∧ -1000 ≤ st.2.2.2.2 ∧ st.2.2.2.2 ≤ 1000) ∧ gt_mw A B s 399 (-1, 0) s [] = gt_mw A B s (399 - st.2.1.length) st.2.2.2 st.2.2.1 st.2.1) ?_
      rintro d ⟨N, acc, v, r⟩ ⟨p, len, row, ab, mv, rb, emw⟩ ih
      dsimp only at p len row ab mv rb emw ih
      show WX12_joins_115 Q (d + 1) f n g m s.1 s.2 v.1 v.2 r.1 r.2 acc.length N
      have mFG := inFG v mv
      have lv := lpv v mFG
      have v1 := lv.1
      have v2 := lv.2
      unfold WX12_joins_115 VX12_joins_115
      refine s_up (σ := Unit) (P := fun dd i _ => WX12_joins_118 (WX12_joins_115 Q d) Q dd f n g m s.1 s.2 v.1 v.2 r.1 r.2 acc.length i N) (n := (acc.length : Int)) (i0 := 0) (s := ()) (fun i _ => ∀ j : Nat, (j : Int) < i → g_pt acc j ≠ v) (by omega) (fun j hj => by omega) ?_ ?_
      · intro d2 _ hI
        have nacc : v ∉ acc := fun z => by
          obtain ⟨j, hj⟩ := List.mem_iff_getElem?.mp z
          have jl := (List.getElem?_eq_some_iff.mp hj).1
          have e : g_pt acc j = v := by unfold g_pt; rw [hj]; rfl
          exact hI j (by omega) e
        unfold WX12_joins_118 VX12_joins_118
        refine ⟨fun _ => ⟨fun n399 => ?_, fun e399 => dead N (by rw [emw, show 399 - acc.length = 0 by omega]; rfl) p⟩, fun z => by omega⟩
        have l398 : acc.length < 399 := by omega
        have emw2 : gt_mw A B s 399 (-1, 0) s [] = if gt_chs A B r v = s then some (acc ++ [v]) else gt_mw A B s (399 - (acc.length + 1)) (gt_d (gt_chs A B r v) v) (gt_chs A B r v) (acc ++ [v]) := by
          rw [emw, show 399 - acc.length = (399 - (acc.length + 1)) + 1 by omega]
          show (if v ∈ acc then none else if gt_chs A B r v = s then some (acc ++ [v]) else gt_mw A B s (399 - (acc.length + 1)) (gt_d (gt_chs A B r v) v) (gt_chs A B r v) (acc ++ [v])) = _
          rw [if_neg nacc]
        rw [s_w (x := (4400 : Int) + (acc.length : Int)) (by omega) (by omega), show ((4400 : Int) + (acc.length : Int)).toNat = 4400 + acc.length by omega]
        refine ⟨by omega, fun M1 e1 => ⟨by omega, fun M2 e2 => ?_⟩⟩
        have r2 : j_rfr N M2 4400 400 := ⟨fun b' b1 b2 => by rw [e2, e_up_row b2, e1, e_up_row b1], fun j hj => by rw [e2, e_up_row (by omega), e1, e_up_ne (by omega), e_up_ne (by omega), e_up_row (by omega)]; exact ⟨rfl, rfl⟩⟩
        have pM2 : j_pfr M M2 3200 := j_pfr_t p (j_pfr_rf r2 (by omega))
        have row2 : j_fg M2 4400 (acc.length + 1 : Nat) = acc ++ [v] := j_fg_e (by rw [List.length_append]; rfl) (fun k hk => by
          by_cases h : k < acc.length
          · rw [List.getElem?_append_left h, e2, e_up_row (by omega), e1, e_up_ne (by omega), e_up_ne (by omega), e_up_row (by omega)]
            have := j_fg_nat (M := N) (f := 4400) h
            rw [row] at this
            exact this
          · rw [List.getElem?_append_right (by omega), show k = acc.length by omega, Nat.sub_self, e2, e_up_row (show 4480 ≠ 4481 by omega), e_up_eq, e1, e_up_eq]
            rfl)
        -- on to w
        have k376 : ∀ (w : gt_P) (N6 : e_M), w = gt_chs A B r v → (w ∈ A ∨ w ∈ B) → j_pfr M N6 3200 → j_fg N6 4400 (acc.length + 1 : Nat) = acc ++ [v] → WX12_joins_376 (WX12_joins_115 Q d) Q f n g m s.1 s.2 v.1 v.2 (e_w32 ((acc.length : Int) + 1)) w.1 w.2 N6 := by
          intro w N6 ew mw p6 row6
          have lw := lpv w (inFG w mw)
          have w1 := lw.1
          have w2 := lw.2
          have vb : s_fb (acc ++ [v]) := fun q hq => by
            rcases List.mem_append.mp hq with z | z
            · exact ab q z
            · rw [List.mem_singleton.mp z]; exact lv
          rw [← ew] at emw2
          have cont : w ≠ s → WX12_joins_115 Q d f n g m s.1 s.2 w.1 w.2 (e_w32 (v.1 - w.1)) (e_w32 (v.2 - w.2)) (e_w32 ((acc.length : Int) + 1)) N6 := fun ne => by
            rw [if_neg ne] at emw2
            rw [s_w (x := v.1 - w.1) (by omega) (by omega), s_w (x := v.2 - w.2) (by omega) (by omega), s_w (x := (acc.length : Int) + 1) (by omega) (by omega)]
            have ll : (acc ++ [v]).length = acc.length + 1 := by rw [List.length_append]; rfl
            have := ih (N6, acc ++ [v], w, gt_d w v) ⟨p6, by dsimp only; omega, by dsimp only; rw [ll]; exact row6, vb, mw, ⟨by show -1000 ≤ v.1 - w.1 ∧ v.1 - w.1 ≤ 1000; omega, by show -1000 ≤ v.2 - w.2 ∧ v.2 - w.2 ≤ 1000; omega⟩, by dsimp only; rw [ll]; exact emw2⟩ (by dsimp only; omega)
            dsimp only at this
            rw [ll, show ((acc.length + 1 : Nat) : Int) = (acc.length : Int) + 1 by omega] at this
            exact this
          unfold WX12_joins_376 VX12_joins_376
          refine ⟨fun ne => cont (fun e => ne (congrArg Prod.fst e)), fun e1 => ⟨fun ne => cont (fun e => ne (congrArg Prod.snd e)), fun e2 => ?_⟩⟩
          rw [if_pos (Prod.ext e1 e2)] at emw2
          have := k376e N6 (acc ++ [v]) (acc.length + 1) p6 row6 (by omega) emw2 vb
          rw [s_w (x := (acc.length : Int) + 1) (by omega) (by omega)]
          rw [show ((acc.length + 1 : Nat) : Int) = (acc.length : Int) + 1 by omega] at this
          exact this
        have eF2 : j_fg M2 f n = F := by rw [rowE pM2 hf]; exact eF
        have eG2 : j_fg M2 g m = G := by rw [rowE pM2 hgm]; exact eG
        have oth : ∀ {P1 P2 : e_M}, (∀ b, b ≠ 4456 → P2 b = P1 b) → (∀ j, j ≠ 47 → j ≠ 48 → P2 4456 j = P1 4456 j) → j_pfr P1 P2 3200 ∧ ∀ a k, j_fg P2 a k = j_fg P1 a k := fun {P1 P2} h1 h2 => ⟨⟨fun b b1 _ _ => h1 b b1, fun j _ => by rw [h1 4480 (by omega), h1 4481 (by omega)]; exact ⟨rfl, rfl⟩, fun k hk => h2 k (by omega) (by omega)⟩, fun a k => by unfold j_fg; rw [h1 4480 (by omega), h1 4481 (by omega)]⟩
        -- the second look, behind the first one
        have second : ∀ (N4 : e_M) (r3 : Int) (h1 : gt_P), j_pfr M N4 3200 → (∀ a k, j_fg N4 a k = j_fg M2 a k) → ((r3 = 0 ∧ v ∉ A) ∨ (r3 = 1 ∧ (v, h1) ∈ gt_ed A ∧ s_lp h1 ∧ N4 4456 47 = h1.1 ∧ N4 4456 48 = h1.2)) → WX12_along g m f n v.1 v.2 N4 (fun r5 M6 => (r5 = 0 → WX12_joins_376 (WX12_joins_115 Q d) Q f n g m s.1 s.2 v.1 v.2 (e_w32 ((acc.length : Int) + 1)) (N4 4456 47) (N4 4456 48) M6) ∧ (¬ r5 = 0 → ((r3 = 0 → WX12_joins_275 (WX12_joins_115 Q d) Q f n g m s.1 s.2 v.1 v.2 r.1 r.2 (e_w32 ((acc.length : Int) + 1)) (N4 4456 47) (N4 4456 48) 5 M6) ∧ (¬ r3 = 0 → WX12_round r.1 r.2 (e_w32 (N4 4456 47 - v.1)) (e_w32 (N4 4456 48 - v.2)) M6 (fun r7 => WX12_joins_275 (WX12_joins_115 Q d) Q f n g m s.1 s.2 v.1 v.2 r.1 r.2 (e_w32 ((acc.length : Int) + 1)) (N4 4456 47) (N4 4456 48) r7 M6))))) := by
          intro N4 r3 h1 p4 row4 hr3
          have eF4 : j_fg N4 f n = F := by rw [row4]; exact eF2
          have eG4 : j_fg N4 g m = G := by rw [row4]; exact eG2
          refine m_alongA (F := G) (G := F) (v := v) rfl rfl rfl rfl rfl (by omega) (by omega) eG4 eF4 hG gb fb lF lv mFG.symm (fun nB => ⟨fun _ => ?_, fun z => absurd rfl z⟩) (fun h2 M6 eh2 lh2 f1 f2 f3 f4 => ?_)
          · rw [eB] at nB
            rcases hr3 with ⟨-, nA⟩ | ⟨-, eh1, lh1, g1, g2⟩
            · exact absurd mv (fun z => z.elim nA nB)
            · rw [g1, g2]
              exact k376 h1 N4 (gt_chs_A hpr eh1 nB).symm (Or.inl (gt_ed_mem eh1).2) p4 (by rw [row4]; exact row2)
          · rw [eB] at eh2
            obtain ⟨o1, o2⟩ := oth f1 f2
            have p6 := j_pfr_t p4 o1
            have row6 : j_fg M6 4400 (acc.length + 1 : Nat) = acc ++ [v] := by rw [o2, row4]; exact row2
            have w1 := lh2.1
            have w2 := lh2.2
            refine ⟨fun z => absurd z (by decide), fun _ => ?_⟩
            -- compare
            have k275 : ∀ (wx wy xs : Int), (gt_rd r (gt_d v h2) < xs → WX12_joins_376 (WX12_joins_115 Q d) Q f n g m s.1 s.2 v.1 v.2 (e_w32 ((acc.length : Int) + 1)) h2.1 h2.2 M6) → (-1000 ≤ wx ∧ wx ≤ 2000) → (-1000 ≤ wy ∧ wy ≤ 2000) → (gt_rd r (gt_d v h2) = xs → 0 < (h2.1 - v.1) * (wy - v.2) - (h2.2 - v.2) * (wx - v.1) → WX12_joins_376 (WX12_joins_115 Q d) Q f n g m s.1 s.2 v.1 v.2 (e_w32 ((acc.length : Int) + 1)) h2.1 h2.2 M6) → (¬ (gt_rd r (gt_d v h2) < xs ∨ (gt_rd r (gt_d v h2) = xs ∧ 0 < (h2.1 - v.1) * (wy - v.2) - (h2.2 - v.2) * (wx - v.1))) → WX12_joins_376 (WX12_joins_115 Q d) Q f n g m s.1 s.2 v.1 v.2 (e_w32 ((acc.length : Int) + 1)) wx wy M6) → WX12_joins_275 (WX12_joins_115 Q d) Q f n g m s.1 s.2 v.1 v.2 r.1 r.2 (e_w32 ((acc.length : Int) + 1)) wx wy xs M6 := by
              intro wx wy xs y1 bx by_ y2 y3
              have yes : WX12_joins_376 (WX12_joins_115 Q d) Q f n g m s.1 s.2 v.1 v.2 (e_w32 ((acc.length : Int) + 1)) h2.1 h2.2 M6 → WX12_joins_352 (WX12_joins_115 Q d) Q f n g m s.1 s.2 v.1 v.2 (e_w32 ((acc.length : Int) + 1)) wx wy M6 := fun z => by
                unfold WX12_joins_352 VX12_joins_352 WX12_joins_357 VX12_joins_357
                rw [f3, f4]
                exact ⟨fun w => absurd w (by decide), fun _ => z⟩
              have nope : WX12_joins_376 (WX12_joins_115 Q d) Q f n g m s.1 s.2 v.1 v.2 (e_w32 ((acc.length : Int) + 1)) wx wy M6 → WX12_joins_356 (WX12_joins_115 Q d) Q f n g m s.1 s.2 v.1 v.2 (e_w32 ((acc.length : Int) + 1)) wx wy M6 := fun z => by
                unfold WX12_joins_356 VX12_joins_356 WX12_joins_357 VX12_joins_357
                exact ⟨fun _ => z, fun w => absurd rfl w⟩
              have q1 := s_mulb (A := 1000) (B := 2000) (x := h2.1 - v.1) (y := wy - v.2) (by omega) (by omega) (by omega) (by omega) (by decide) (by decide)
              have q2 := s_mulb (A := 1000) (B := 2000) (x := h2.2 - v.2) (y := wx - v.1) (by omega) (by omega) (by omega) (by omega) (by decide) (by decide)
              unfold WX12_joins_275 VX12_joins_275
              rw [f3, f4, s_w (x := h2.1 - v.1) (by omega) (by omega), s_w (x := h2.2 - v.2) (by omega) (by omega), s_w (x := wy - v.2) (by omega) (by omega), s_w (x := wx - v.1) (by omega) (by omega), s_wj (x := (h2.1 - v.1) * (wy - v.2)) (by omega) (by omega), s_wj (x := (h2.2 - v.2) * (wx - v.1)) (by omega) (by omega), s_wj (x := (h2.1 - v.1) * (wy - v.2) - (h2.2 - v.2) * (wx - v.1)) (by omega) (by omega)]
              refine m_round rb.1 rb.2 (by omega) (by omega) ?_
              have er : gt_rd (r.1, r.2) (h2.1 - v.1, h2.2 - v.2) = gt_rd r (gt_d v h2) := rfl
              rw [er]
              exact ⟨fun lt => yes (y1 lt), fun ge => ⟨fun ne => nope (y3 (fun z => by rcases z with z | z; omega; exact ne z.1.symm)), fun eq => ⟨fun le => nope (y3 (fun z => by rcases z with z | z <;> omega)), fun gt => yes (y2 eq.symm gt)⟩⟩⟩
            rcases hr3 with ⟨e3, nA⟩ | ⟨e3, eh1, lh1, g1, g2⟩
            · refine ⟨fun _ => ?_, fun z => absurd e3 z⟩
              have ch := gt_chs_B (r := r) hpr eh2 nA
              have to2 := k376 h2 M6 ch.symm (Or.inr (gt_ed_mem eh2).2) p6 row6
              have lt5 : gt_rd r (gt_d v h2) < 5 := by unfold gt_rd; repeat' split <;> omega
              unfold WX12_joins_275 VX12_joins_275
              rw [f3, f4, s_w (x := h2.1 - v.1) (by omega) (by omega), s_w (x := h2.2 - v.2) (by omega) (by omega)]
              refine m_round rb.1 rb.2 (by omega) (by omega) ?_
              have er : gt_rd (r.1, r.2) (h2.1 - v.1, h2.2 - v.2) = gt_rd r (gt_d v h2) := rfl
              rw [er]
              refine ⟨fun _ => ?_, fun z => by omega⟩
              unfold WX12_joins_352 VX12_joins_352 WX12_joins_357 VX12_joins_357
              rw [f3, f4]
              exact ⟨fun w => absurd w (by decide), fun _ => to2⟩
            · have u1 := lh1.1
              have u2 := lh1.2
              refine ⟨fun z => by rw [e3] at z; exact absurd z (by decide), fun _ => ?_⟩
              rw [g1, g2, s_w (x := h1.1 - v.1) (by omega) (by omega), s_w (x := h1.2 - v.2) (by omega) (by omega)]
              refine m_round rb.1 rb.2 (by omega) (by omega) ?_
              have er : gt_rd (r.1, r.2) (h1.1 - v.1, h1.2 - v.2) = gt_rd r (gt_d v h1) := rfl
              rw [er]
              obtain ⟨c1, c2⟩ := gt_chs_AB (r := r) hpr eh1 eh2
              have cx : gt_x (gt_d v h2) (gt_d v h1) = (h2.1 - v.1) * (h1.2 - v.2) - (h2.2 - v.2) * (h1.1 - v.1) := rfl
              refine k275 h1.1 h1.2 _ (fun lt => k376 h2 M6 (c1 (Or.inl lt)).symm (Or.inr (gt_ed_mem eh2).2) p6 row6) (by omega) (by omega) (fun eq gt => k376 h2 M6 (c1 (Or.inr ⟨eq.symm, by rw [cx]; exact gt⟩)).symm (Or.inr (gt_ed_mem eh2).2) p6 row6) (fun no => k376 h1 M6 (c2 (fun z => no (by
                rcases z with z | z
                · exact Or.inl z
                · exact Or.inr ⟨z.1.symm, by rw [← cx]; exact z.2⟩))).symm (Or.inl (gt_ed_mem eh1).2) p6 row6)
        refine m_alongA (F := F) (G := G) (v := v) rfl rfl rfl rfl rfl (by omega) (by omega) eF2 eG2 hF fb gb lG lv mFG (fun nA => ?_) (fun h1 M4 eh1 lh1 f1 f2 f3 f4 => ?_)
        · rw [eA] at nA
          exact second M2 0 v pM2 (fun _ _ => rfl) (Or.inl ⟨rfl, nA⟩)
        · rw [eA] at eh1
          obtain ⟨o1, o2⟩ := oth f1 f2
          exact second M4 1 h1 (j_pfr_t pM2 o1) o2 (Or.inr ⟨rfl, eh1, lh1, f3, f4⟩)
      · intro d2 i' _ i0 i1 hI ih2
        obtain ⟨i, ei⟩ : ∃ i : Nat, i' = i := ⟨i'.toNat, by omega⟩
        subst ei
        have hi : i < acc.length := by omega
        have pa : (N 4480 (4400 + i), N 4481 (4400 + i)) = g_pt acc i := by
          have := j_fg_at (M := N) (f := 4400) hi
          rw [row] at this
          exact this.symm
        have c1 : N 4480 (4400 + i) = (g_pt acc i).1 := congrArg Prod.fst pa
        have c2 : N 4481 (4400 + i) = (g_pt acc i).2 := congrArg Prod.snd pa
        have k159 : g_pt acc i ≠ v → WX12_joins_159 (WX12_joins_115 Q d) (WX12_joins_118 (WX12_joins_115 Q d) Q d2) Q f n g m s.1 s.2 v.1 v.2 r.1 r.2 acc.length i N := fun ne => by
          unfold WX12_joins_159 VX12_joins_159
          rw [s_w (by omega) (by omega)]
          refine ih2 () (fun j hj => ?_)
          by_cases c : j = i
          · rw [c]; exact ne
          · exact hI j (by omega)
        unfold WX12_joins_118 VX12_joins_118
        rw [s_w (x := (4400 : Int) + (i : Int)) (by omega) (by omega), show ((4400 : Int) + (i : Int)).toNat = 4400 + i by omega, c1, c2]
        refine ⟨fun z => by omega, fun _ => ⟨by omega, fun ne => k159 (fun e => ne (congrArg Prod.fst e)), fun e1 => ⟨by omega, fun ne => k159 (fun e => ne (congrArg Prod.snd e)), fun e2 => dead N ?_ p⟩⟩⟩
        have mem : v ∈ acc := by
          have : g_pt acc i = v := Prod.ext e1 e2
          rw [← this]
          exact gt_pt_mem hi
        rw [emw]
        cases 399 - acc.length with
        | zero => rfl
        | succ k =>
          show (if v ∈ acc then none else if gt_chs A B r v = s then some (acc ++ [v]) else gt_mw A B s k (gt_d (gt_chs A B r v) v) (gt_chs A B r v) (acc ++ [v])) = none
          rw [if_pos mem]
    have l0 : gt_mw A B s 399 (-1, 0) s [] = gt_mw A B s (399 - ([] : s_Fig).length) (-1, 0) s [] := rfl
    unfold WX12_joins_94 VX12_joins_94
    refine ⟨_, walk _ (M, [], s, (-1, 0)) ⟨j_pfr_r, by show 0 ≤ 399; omega, rfl, (fun q hq => by cases hq), hs, ⟨⟨by show (-1000 : Int) ≤ -1; omega, by show (-1 : Int) ≤ 1000; omega⟩, by show (-1000 : Int) ≤ 0; omega, by show (0 : Int) ≤ 1000; omega⟩, l0⟩ (Nat.lt_succ_self _)⟩
  have f1 : M 4480 f = (g_pt F 0).1 := congrArg Prod.fst F0
  have f2 : M 4481 f = (g_pt F 0).2 := congrArg Prod.snd F0
  have g1 : M 4480 g = (g_pt G 0).1 := congrArg Prod.fst G0
  have g2 : M 4481 g = (g_pt G 0).2 := congrArg Prod.snd G0
  have low : ((g_pt F 0).2 < (g_pt G 0).2 ∨ ((g_pt F 0).2 = (g_pt G 0).2 ∧ (g_pt F 0).1 ≤ (g_pt G 0).1)) → WX12_joins_45 Q f n g m M := fun c => by
    have := go (g_pt F 0) (Or.inl (a1.2.2.2.2 _ mF0)) (fun x hx z => by
      rcases inFG x hx with k | k
      · exact loF x k z
      · have := loG x k
        unfold gt_lo at this z
        omega)
    unfold WX12_joins_45 VX12_joins_45 WX12_joins_50 VX12_joins_50 WX12_joins_72 VX12_joins_72
    rw [show ((f : Nat) : Int).toNat = f from rfl, f1, f2]
    exact ⟨fun z => absurd z (by decide), fun _ => ⟨by omega, ⟨fun z => absurd z (by decide), fun _ => ⟨by omega, this⟩⟩⟩⟩
  have high : ¬ ((g_pt F 0).2 < (g_pt G 0).2 ∨ ((g_pt F 0).2 = (g_pt G 0).2 ∧ (g_pt F 0).1 ≤ (g_pt G 0).1)) → WX12_joins_49 Q f n g m M := fun c => by
    have := go (g_pt G 0) (Or.inr (b1.2.2.2.2 _ mG0)) (fun x hx z => by
      rcases inFG x hx with k | k
      · have := loF x k
        unfold gt_lo at this z
        omega
      · exact loG x k z)
    unfold WX12_joins_49 VX12_joins_49 WX12_joins_50 VX12_joins_50 WX12_joins_72 VX12_joins_72
    rw [show ((g : Nat) : Int).toNat = g from rfl, g1, g2]
    exact ⟨fun _ => ⟨by omega, ⟨fun _ => ⟨by omega, this⟩, fun z => absurd rfl z⟩⟩, fun z => absurd rfl z⟩
  unfold WX12_joins VX12_joins
  rw [show ((f : Nat) : Int).toNat = f from rfl, show ((g : Nat) : Int).toNat = g from rfl, f1, f2, g1, g2]
  exact ⟨by omega, by omega, fun lt => low (Or.inl lt), fun ge => ⟨by omega, by omega, fun ne => high (by omega), fun eq => ⟨by omega, by omega, fun lt => high (by omega), fun le => low (Or.inr ⟨eq, le⟩)⟩⟩⟩
