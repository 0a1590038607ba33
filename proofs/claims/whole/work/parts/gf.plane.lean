/-! THE MODEL: a CUT -/
/-- what cuts and joins leave as it was -/
def j_pfr (M N : e_M) (a : Nat) : Prop := (∀ b, b ≠ 4456 → b ≠ 4480 → b ≠ 4481 → N b = M b) ∧ (∀ j, j < a → N 4480 j = M 4480 j ∧ N 4481 j = M 4481 j) ∧ ∀ k, (k < 42 ∨ 48 < k) → N 4456 k = M 4456 k
theorem j_pfr_r {M : e_M} {a : Nat} : j_pfr M M a := ⟨fun _ _ _ _ => rfl, fun _ _ => ⟨rfl, rfl⟩, fun _ _ => rfl⟩
theorem j_pfr_t {M N N' : e_M} {a : Nat} (h : j_pfr M N a) (k : j_pfr N N' a) : j_pfr M N' a := ⟨fun b b1 b2 b3 => (k.1 b b1 b2 b3).trans (h.1 b b1 b2 b3), fun j hj => ⟨(k.2.1 j hj).1.trans (h.2.1 j hj).1, (k.2.1 j hj).2.trans (h.2.1 j hj).2⟩, fun i hi => (k.2.2 i hi).trans (h.2.2 i hi)⟩
theorem j_pfr_rf {M N : e_M} {a f n : Nat} (h : j_rfr M N f n) (ha : a ≤ f) : j_pfr M N a := ⟨fun b _ b2 b3 => h.1 b b2 b3, fun j hj => h.2 j (by omega), fun _ _ => by rw [h.1 4456 (by omega) (by omega)]⟩
theorem j_pfr_up {M : e_M} {a k : Nat} {v : Int} (hk : 42 ≤ k ∧ k ≤ 48) : j_pfr M (e_up M 4456 k v) a := ⟨fun b b1 _ _ => by rw [e_up_row b1], fun j _ => by rw [e_up_row (by omega), e_up_row (by omega)]; exact ⟨rfl, rfl⟩, fun j hj => by rw [e_up_ne (by omega)]⟩
theorem j_pfr_le {M N : e_M} {a b : Nat} (h : j_pfr M N a) (hb : b ≤ a) : j_pfr M N b := ⟨h.1, fun j hj => h.2.1 j (by omega), h.2.2⟩
theorem j_fg_pfr {M N : e_M} {a f n : Nat} (h : j_pfr M N a) (hf : f + n ≤ a) : j_fg N f n = j_fg M f n := by
  unfold j_fg
  exact s_ar_congr (fun i hi => by
    have := h.2.1 (f + i) (by omega)
    rw [this.1, this.2])
theorem gt_where_c {F : s_Fig} {k : Nat} (hk : k < F.length) : g_where F (g_pt F k).1 (g_pt F k).2 1 = 1 := gt_where1.mpr ⟨_, by rw [gt_map1]; exact gt_ed_i.mpr ⟨k, hk, rfl⟩, gt_O_l⟩
theorem gt_cls_len {R : s_Fig} (h : gt_fig R) : 2 < (g_cls R).length := by
  obtain ⟨v, b, c, r, e⟩ := gt_smp_3 (gt_cls h).1.1 (gt_cls h).1.2.1
  rw [e]; simp
theorem gt_cls_fb {R : s_Fig} (h : gt_fig R) (b : s_fb R) : s_fb (g_cls R) := by
  obtain ⟨-, -, -, ⟨s, t, e1, e2⟩, -⟩ := gt_cls h
  intro q hq
  rw [e2] at hq
  refine b q ?_
  rw [e1]
  rcases List.mem_append.mp hq with z | z
  · exact List.mem_append.mpr (Or.inr (List.mem_filter.mp z).1)
  · exact List.mem_append.mpr (Or.inl (List.mem_filter.mp z).1)
theorem gt_bord_fb {F : s_Fig} (b : s_fb F) {p q : gt_P} : s_fb (g_bord F p q) := by
  intro z hz
  unfold g_bord at hz
  split at hz
  · cases hz
  · rw [gt_brd_run] at hz
    have hz := (List.mem_filter.mp hz).1
    have run : ∀ (k c : Nat), ∀ q ∈ gt_run F c k, s_lp q := by
      intro k
      induction k with
      | zero => intro c q hq; cases hq
      | succ k ih =>
        intro c q hq
        rw [gt_run_snoc] at hq
        rcases List.mem_append.mp hq with w | w
        · exact ih c q w
        · rw [List.mem_singleton.mp w]
          exact g_pt_b b _
    exact run _ _ z hz
theorem m_cuts {M : e_M} {f n x m : Nat} {ps : s_Fig} {f' n' x' : Int} {Q : Int → e_M → Prop} (ef : f' = (f : Int)) (en : n' = (n : Int)) (ex : x' = (x : Int)) (hx : x < 152) (hf : f + n ≤ 3600) (n40 : n ≤ 40) (hF : gt_fig (j_fg M f n)) (fb : s_fb (j_fg M f n)) (hm : M 4474 x = (m : Int)) (m12 : m ≤ 12) (eps : j_ps M x = ps) (hpb : s_pb ps) (q1 : ∀ (N : e_M) (nl nr : Nat), g_cut (j_fg M f n) ps → g_okc (g_rawL (j_fg M f n) ps) → g_okc (g_rawR (j_fg M f n) ps) → j_pfr M N 3600 → N 4456 42 = nl → N 4456 43 = nr → j_fg N 3600 nl = g_cls (g_rawL (j_fg M f n) ps) → j_fg N 4000 nr = g_cls (g_rawR (j_fg M f n) ps) → N 4456 46 = M 4456 46 → Q 1 N) (q0 : ∀ N : e_M, ¬ (g_cut (j_fg M f n) ps ∧ g_okc (g_rawL (j_fg M f n) ps) ∧ g_okc (g_rawR (j_fg M f n) ps)) → j_pfr M N 3600 → Q 0 N) : WX12_cuts f' n' x' M Q := by
  subst ef en ex
  have lnF : (j_fg M f n).length = n := j_fg_len
  have lps : ps.length = m := by rw [← eps]; unfold j_ps; rw [s_ar_len, hm]; rfl
  have ptm : ∀ k, k < m → (M 4475 (12 * x + k), M 4476 (12 * x + k)) = g_pt ps k := fun k hk => by
    rw [← eps]
    unfold g_pt j_ps
    rw [s_ar_get (by omega)]
    rfl
  have hg := gt_fig_good hF
  unfold WX12_cuts VX12_cuts
  intro M1 e1
  refine ⟨by omega, fun M2 e2 => ?_⟩
  rw [s_w (x := (12 : Int) * (x : Int)) (by omega) (by omega)] at e1
  rw [show ((x : Nat) : Int).toNat = x from rfl, e1, e_up_row (show 4474 ≠ 4456 by omega), hm] at e2
  have p2 : j_pfr M M2 3600 := by rw [e2]; exact j_pfr_t (j_pfr_up (by omega)) (j_pfr_up (by omega))
  have hc : j_cut M2 x m := ⟨by rw [e2, e_up_ne (by omega), e_up_eq], by rw [e2, e_up_eq], hx, m12⟩
  have hp : j_cps M2 x m ps := ⟨lps, fun k hk => by
    rw [p2.1 4475 (by omega) (by omega) (by omega), p2.1 4476 (by omega) (by omega) (by omega)]; exact ptm k hk⟩
  have eF : j_fg M2 f n = j_fg M f n := j_fg_pfr p2 hf
  have nb2 : j_fgb M2 f n := j_fgb_e (by rw [eF]; exact fb)
  have e46 : M2 4456 46 = M 4456 46 := by rw [e2, e_up_ne (by omega), e_up_ne (by omega)]
  generalize hFF : j_fg M f n = F at *
  have q0 := fun N h => q0 N h
  have no := fun (h : ¬ g_cut F ps) => q0 M2 (fun z => h z.1) p2
  have cell : ∀ k, k < m → M2 4475 (12 * x + k) = (g_pt ps k).1 ∧ M2 4476 (12 * x + k) = (g_pt ps k).2 := fun k hk => ⟨congrArg Prod.fst (hp.2 k hk), congrArg Prod.snd (hp.2 k hk)⟩
  rw [hc.2.1]
  refine ⟨fun lt => no (fun z => by have := z.1.1; omega), fun ge => ?_⟩
  rw [s_w (x := (m : Int) - 1) (by omega) (by omega)]
  have peq : ∀ {p q : Int × Int}, p = q ↔ p.1 = q.1 ∧ p.2 = q.2 := fun {p q} => ⟨fun e => by rw [e]; exact ⟨rfl, rfl⟩, fun e => Prod.ext e.1 e.2⟩
  have main : g_pt ps 0 ≠ g_pt ps (m - 1) → WX12_cuts_66 Q f n ((m : Int) - 1) M2 := by
    intro hne
    show ∃ j, WX12_cuts_69 Q j f n ((m : Int) - 1) 0 M2
    refine s_up (σ := Unit) (P := fun dd i _ => WX12_cuts_69 Q dd f n ((m : Int) - 1) i M2) (n := (m : Int)) (i0 := 0) (s := ()) (fun i _ => ∀ j : Nat, (j : Int) < i → g_where F (g_pt ps j).1 (g_pt ps j).2 1 = if j = 0 ∨ j = m - 1 then 1 else 2) (by omega) (fun j hj => by omega) ?_ ?_
    · intro d _ hw
      have lp : ∀ k, k < m → s_lp (g_pt ps k) := fun k hk => by
        have w := hw k (by omega)
        have mk : g_pt ps k ∈ ps := gt_pt_mem (by omega)
        have b := hpb _ mk
        exact g_where_lp fb b.1.1 b.2.1 (fun z => by
          have z : g_where F (g_pt ps k).1 (g_pt ps k).2 1 = 0 := z
          rw [z] at w; split at w <;> omega)
      unfold WX12_cuts_69 VX12_cuts_69
      rw [hc.2.1]
      refine ⟨fun _ => ?_, fun z => by omega⟩
      show ∃ j, WX12_cuts_128 Q j f n ((m : Int) - 1) 0 M2
      refine s_up (σ := Unit) (P := fun dd i _ => WX12_cuts_128 Q dd f n ((m : Int) - 1) i M2) (n := (m : Int) - 1) (i0 := 0) (s := ()) (fun i _ => ∀ j : Nat, (j : Int) < i → g_ins F (g_pt ps j) (g_pt ps (j + 1)) ∧ ¬ g_mt ps j) (by omega) (fun j hj => by omega) ?_ ?_
      · -- it is a CUT
        intro d2 _ hin
        have hcut : g_cut F ps := ⟨⟨by omega, by rw [lps]; exact hne⟩, fun i hi => by rw [lps] at hi ⊢; exact hw i (by omega), fun i hi => hin i (by omega)⟩
        obtain ⟨fL, fR, -⟩ := gt_cut hF hcut
        have onb : ∀ k, k = 0 ∨ k = m - 1 → 0 ≤ g_str F (g_pt ps k).1 (g_pt ps k).2 := fun k hk => by
          have w := hw k (by omega)
          rw [if_pos hk] at w
          have w := gt_where1.mp w
          rw [gt_map1] at w
          obtain ⟨i, ei, -⟩ := gt_str hF.1 (p := g_pt ps k) w
          rw [ei]; omega
        unfold WX12_cuts_128 VX12_cuts_128
        refine ⟨fun _ => ?_, fun z => by omega⟩
        have rawL : g_rawL F ps = ps ++ g_bord F (g_pt ps (m - 1)) (g_pt ps 0) := by unfold g_rawL; rw [lps]
        have rawR : g_rawR F ps = ps.reverse ++ g_bord F (g_pt ps 0) (g_pt ps (m - 1)) := by unfold g_rawR; rw [lps]
        have rv0 : g_pt ps.reverse 0 = g_pt ps (m - 1) := by
          unfold g_pt
          rw [List.getElem?_reverse (by omega), lps, Nat.sub_zero]
        have rv1 : g_pt ps.reverse (m - 1) = g_pt ps 0 := by
          unfold g_pt
          rw [List.getElem?_reverse (by omega), lps, show m - 1 - (m - 1) = 0 by omega]
        refine m_part (to := 3600) (f := f) (n := n) (L := ps) (x := x) (m := m) (ps := ps) hc hp rfl rfl rfl (by omega) (by omega) (by omega) n40 (by rw [eF]; exact fb) lp rfl (by rw [eF]; exact onb _ (Or.inr rfl)) (by rw [eF]; exact onb _ (Or.inl rfl)) (by rw [eF, ← rawL]; exact fL) (fun N1 nl u1 u2 u3 M3 e3 => ?_)
        rw [eF, ← rawL] at u3
        have p3 : j_pfr M M3 3600 := by rw [e3]; exact j_pfr_t (j_pfr_t p2 (j_pfr_rf u1 (by omega))) (j_pfr_up (by omega))
        have c3 : j_cut M3 x m := by
          have := j_cut_rfr hc u1
          unfold j_cut at *
          rw [e3, e_up_ne (by omega), e_up_ne (by omega)]
          exact this
        have pp3 : j_cps M3 x m ps := by
          have := j_cps_rfr hp u1
          unfold j_cps at *
          rw [e3, e_up_row (by omega), e_up_row (by omega)]
          exact this
        have eF3 : j_fg M3 f n = F := by rw [← hFF]; exact j_fg_pfr p3 hf
        refine m_part (to := 4000) (f := f) (n := n) (L := ps.reverse) (x := x) (m := m) (ps := ps) c3 pp3 rfl rfl rfl (by omega) (by omega) (by omega) n40 (by rw [eF3]; exact fb) lp rfl (by rw [eF3, rv1]; exact onb _ (Or.inl rfl)) (by rw [eF3, rv0]; exact onb _ (Or.inr rfl)) (by rw [eF3, rv0, rv1, ← rawR]; exact fR) (fun N4 nr v1 v2 v3 M6 e6 => ?_)
        rw [eF3, rv0, rv1, ← rawR] at v3
        have p6 : j_pfr M M6 3600 := by rw [e6]; exact j_pfr_t (j_pfr_t p3 (j_pfr_rf v1 (by omega))) (j_pfr_up (by omega))
        have g42 : M6 4456 42 = nl := by rw [e6, e_up_ne (by omega), v1.1 4456 (by omega) (by omega), e3, e_up_eq]
        have g43 : M6 4456 43 = nr := by rw [e6, e_up_eq]
        have l42 : (g_cls (g_rawL F ps)).length = nl := by rw [← u3, j_fg_len]
        have l43 : (g_cls (g_rawR F ps)).length = nr := by rw [← v3, j_fg_len]
        have k1 := gt_cls_len fL
        have k2 := gt_cls_len fR
        rw [g42, g43]
        refine ⟨fun gt => q0 M6 (fun z => by have := z.2.1.2; omega) p6, fun le => ⟨fun gt => q0 M6 (fun z => by have := z.2.2.2; omega) p6, fun le2 => q1 M6 nl nr hcut ⟨k1, by omega⟩ ⟨k2, by omega⟩ p6 g42 g43 ?_ ?_ ?_⟩⟩
        · rw [← u3]
          unfold j_fg
          exact s_ar_congr (fun i hi => by
            have hi' : i < nl := by omega
            have a := v1.2 (3600 + i) (by omega)
            rw [e6, e_up_row (by omega), e_up_row (by omega), a.1, a.2, e3, e_up_row (by omega), e_up_row (by omega)])
        · rw [← v3]
          unfold j_fg
          rw [e6, e_up_row (by omega), e_up_row (by omega)]
        · rw [e6, e_up_ne (by omega), v1.1 4456 (by omega) (by omega), e3, e_up_ne (by omega), u1.1 4456 (by omega) (by omega)]; exact e46
      · intro d2 i' _ i0 i1 hin ih
        obtain ⟨i, ei⟩ : ∃ i : Nat, i' = i := ⟨i'.toNat, by omega⟩
        subst ei
        have hi : i + 1 < m := by omega
        have due : ∀ k, k < m → ∀ c, c < n → g_pt F c = g_pt ps k → k = 0 ∨ k = m - 1 := fun k hk c hc' e => by
          have w := hw k (by omega)
          have w1 := gt_where_c (F := F) (k := c) (by omega)
          rw [e] at w1
          rw [w1] at w
          refine Classical.byContradiction (fun z => ?_)
          rw [if_neg z] at w
          omega
        have nxt : (∀ j, i < j → j + 1 < m → ¬ j_tch ps i j) → g_ins F (g_pt ps i) (g_pt ps (i + 1)) → ∀ j : Nat, (j : Int) < (i : Int) + 1 → g_ins F (g_pt ps j) (g_pt ps (j + 1)) ∧ ¬ g_mt ps j := fun h1 h2 j hj => by
          by_cases c : j = i
          · subst c
            refine ⟨h2, ?_⟩
            have ne : g_pt ps j ≠ g_pt ps (j + 1) := by
              by_cases c2 : j + 2 < m
              · intro e
                have := h1 (j + 1) (by omega) (by omega)
                unfold j_tch at this
                rw [if_pos rfl] at this
                exact this (Or.inr (Or.inl e))
              · intro e
                by_cases c3 : j = 0
                · subst c3
                  exact hne (by rw [e, show 0 + 1 = m - 1 by omega])
                · have a := hw j (by omega)
                  have b := hw (j + 1) (by omega)
                  rw [if_neg (by omega)] at a
                  rw [if_pos (by omega)] at b
                  rw [e] at a
                  omega
            exact (j_tch_mt ne).mp (fun j' a b => h1 j' a (by omega))
          · exact hin j (by omega)
        unfold WX12_cuts_128 VX12_cuts_128
        rw [s_w (x := (i : Int) + 1) (by omega) (by omega)]
        refine ⟨fun z => by omega, fun _ => m_clear hc hp rfl rfl rfl (by omega) nb2 hi lp (by rw [eF]; exact hg) (fun k hk e => ?_) (fun k hk e => ?_) (fun gi => ⟨fun _ => ?_, fun z => absurd z (by decide)⟩) (fun gi => ⟨fun z => absurd rfl z, fun _ => no (fun z => gi ?_)⟩)⟩
        · rw [eF] at e
          have := due i (by omega) k hk e
          omega
        · rw [eF] at e
          have := due (i + 1) hi k hk e
          omega
        · rw [eF] at gi
          show ∃ j, WX12_cuts_154 (WX12_cuts_128 Q d2) Q j f n ((m : Int) - 1) i ((i : Int) + 1) M2
          refine s_up (σ := Unit) (P := fun dd j _ => WX12_cuts_154 (WX12_cuts_128 Q d2) Q dd f n ((m : Int) - 1) i j M2) (n := (m : Int) - 1) (i0 := (i : Int) + 1) (s := ()) (fun j _ => ∀ j' : Nat, i < j' → (j' : Int) < j → ¬ j_tch ps i j') (by omega) (fun j' a b => by omega) ?_ ?_
          · intro d3 _ hT
            unfold WX12_cuts_154 VX12_cuts_154
            rw [s_w (x := (i : Int) + 1) (by omega) (by omega)]
            refine ⟨fun _ => ih () (nxt (fun j a b => hT j a (by omega)) gi), fun z => by omega⟩
          · intro d3 j' _ j0 j1 hT ih3
            obtain ⟨j, ej⟩ : ∃ j : Nat, j' = j := ⟨j'.toNat, by omega⟩
            subst ej
            unfold WX12_cuts_154 VX12_cuts_154
            rw [s_w (x := (j : Int) + 1) (by omega) (by omega)]
            refine ⟨fun z => by omega, fun _ => m_touch hc hp rfl rfl (by omega) (by omega) lp (fun t => ⟨fun z => absurd z (by decide), fun _ => no (fun z => ?_)⟩) (fun t => ⟨fun _ => ih3 () (fun j' a b => ?_), fun z => absurd rfl z⟩)⟩
            · have mt := (z.2.2 i (by omega)).2
              have ne : g_pt ps i ≠ g_pt ps (i + 1) := fun e => mt (Or.inl e)
              exact (j_tch_mt ne).mpr mt j (by omega) (by omega) t
            · by_cases c : j' = j
              · rw [c]; exact t
              · exact hT j' a (by omega)
        · rw [eF]
          exact (z.2.2 i (by omega)).1
    · intro d i' _ i0 i1 hw ih
      obtain ⟨i, ei⟩ : ∃ i : Nat, i' = i := ⟨i'.toNat, by omega⟩
      subst ei
      have hi : i < m := by omega
      have mk : g_pt ps i ∈ ps := gt_pt_mem (by omega)
      have b := hpb _ mk
      have k114 : ∀ due : Int, (due = if i = 0 ∨ i = m - 1 then 1 else 2) → WX12_cuts_114 (WX12_cuts_69 Q d) Q f n ((m : Int) - 1) i due (g_where F (g_pt ps i).1 (g_pt ps i).2 1) M2 := fun due ed => by
        unfold WX12_cuts_114 VX12_cuts_114
        rw [s_w (x := (i : Int) + 1) (by omega) (by omega)]
        refine ⟨fun e => ih () (fun j hj => ?_), fun ne => no (fun z => ne ?_)⟩
        · by_cases c : j = i
          · rw [c, ← ed]; exact e
          · exact hw j (by omega)
        · have := z.2.1 i (by omega)
          rw [lps] at this
          rw [this, ed]
      unfold WX12_cuts_69 VX12_cuts_69
      rw [hc.2.1]
      refine ⟨fun z => by omega, fun _ => m_px hc rfl (by omega) (m_py hc rfl (by omega) ?_)⟩
      rw [(cell i hi).1, (cell i hi).2]
      refine m_lieAt rfl rfl (by omega) nb2 (by omega) (by omega) (Or.inl rfl) ?_
      rw [eF, hg _ _ 1 (Or.inl rfl)]
      exact ⟨fun z => k114 1 (by rw [if_pos (by omega)]), fun nz => ⟨fun ne => k114 2 (by rw [if_neg (by omega)]), fun e => k114 1 (by rw [if_pos (by omega)])⟩⟩
  refine m_px (k := 0) hc (by omega) (by omega) (m_px (k := m - 1) hc (by omega) (by omega) ?_)
  rw [(cell 0 (by omega)).1, (cell (m - 1) (by omega)).1]
  refine ⟨fun ne => main (fun e => ne (peq.mp e).1), fun e1 => m_py (k := 0) hc (by omega) (by omega) (m_py (k := m - 1) hc (by omega) (by omega) ?_)⟩
  rw [(cell 0 (by omega)).2, (cell (m - 1) (by omega)).2]
  exact ⟨fun ne => main (fun e => ne (peq.mp e).2), fun e2 => no (fun z => z.1.2 (by rw [lps]; exact peq.mpr ⟨e1, e2⟩))⟩
