/-! geometry: CUTS -/
/-! a CUT of a FIGURE -/
theorem gt_sd_on {b x y : gt_P} (h : gt_sd (gt_d b x) (gt_d b y)) (n1 : x ≠ b) (n2 : y ≠ b) : gt_O b x y ∨ gt_O b y x := by
  obtain ⟨h1, h2⟩ := h
  have tt : gt_t b x y = 0 := by unfold gt_x gt_d at h2; unfold gt_t g_turn; dsimp only at h2; omega
  have tt' : gt_t b y x = 0 := by unfold gt_t g_turn at *; grind
  have z1 := gt_d_nz (fun e => n1 e.symm)
  have z2 := gt_d_nz (fun e => n2 e.symm)
  unfold gt_nz at z1 z2
  unfold gt_x at h2
  unfold gt_up at h1
  unfold gt_d at *
  dsimp only at *
  by_cases c : x.2 = b.2
  · have y0 : y.2 = b.2 := by
      rw [show x.2 - b.2 = 0 by omega] at h2
      have : (x.1 - b.1) * (y.2 - b.2) = 0 := by omega
      rcases Int.mul_eq_zero.mp this with q | q <;> omega
    by_cases d : (b.1 ≤ y.1 ∨ x.1 ≤ y.1) ∧ (y.1 ≤ b.1 ∨ y.1 ≤ x.1)
    · exact Or.inl (gt_O_1 tt (by omega) d)
    · exact Or.inr (gt_O_1 tt' (by omega) (by omega))
  · have y0 : y.2 ≠ b.2 := fun z => by
      rw [show y.2 - b.2 = 0 by omega] at h2
      have : (x.2 - b.2) * (y.1 - b.1) = 0 := by omega
      rcases Int.mul_eq_zero.mp this with q | q <;> omega
    by_cases d : (b.2 ≤ y.2 ∨ x.2 ≤ y.2) ∧ (y.2 ≤ b.2 ∨ y.2 ≤ x.2)
    · exact Or.inl (gt_O_2 tt (by omega) d)
    · exact Or.inr (gt_O_2 tt' (by omega) (by omega))
/-- a common point that is no end of the one -/
theorem gt_cross {v b x y q : gt_P} (h : gt_O v b q) (k : gt_O x y q) (n1 : q ≠ v) (n2 : q ≠ b) : (gt_t v b x * gt_t v b y < 0 ∧ gt_t x y v * gt_t x y b < 0) ∨ (gt_O v b x ∧ x ≠ v ∧ x ≠ b) ∨ (gt_O v b y ∧ y ≠ v ∧ y ≠ b) ∨ (gt_O x y v ∧ gt_O x y b) := by
  obtain ⟨s, t, h1, h2, h3, h4, h5, h6, h7⟩ := gt_O_t h x y
  obtain ⟨s', t', k1, k2, k3, k4, k5, k6, k7⟩ := gt_O_t k v b
  by_cases c3 : s' = 0
  · exact Or.inr (Or.inl (by rw [← k6 c3]; exact ⟨h, n1, n2⟩))
  by_cases c4 : s' = t'
  · exact Or.inr (Or.inr (Or.inl (by rw [← k7 c4]; exact ⟨h, n1, n2⟩)))
  have c1 : s ≠ 0 := fun z => n1 (h6 z)
  have c2 : s ≠ t := fun z => n2 (h7 z)
  have eP : (t - s) * gt_t x y v + s * gt_t x y b = 0 := by rw [← h4, show gt_t x y q = 0 from k.1, Int.mul_zero]
  have eA : (t' - s') * gt_t v b x + s' * gt_t v b y = 0 := by rw [← k4, show gt_t v b q = 0 from h.1, Int.mul_zero]
  have id_ := gt_id (v := v) (b := b) (x := x) (y := y)
  by_cases a0 : gt_t v b x = 0
  · have a1 : gt_t v b y = 0 := by
      rw [a0] at eA
      have : s' * gt_t v b y = 0 := by omega
      rcases Int.mul_eq_zero.mp this with q | q
      · omega
      · exact q
    have p0 : gt_t x y v = 0 := by
      have e : gt_t x y b = gt_t x y v := by omega
      rw [e] at eP
      have : t * gt_t x y v = 0 := by
        have : t * gt_t x y v = (t - s) * gt_t x y v + s * gt_t x y v := by grind
        omega
      rcases Int.mul_eq_zero.mp this with q | q
      · omega
      · exact q
    have p1 : gt_t x y b = 0 := by omega
    -- a coordinate in which they differ
    have vb : v ≠ b := fun z => by
      subst z
      obtain ⟨-, b1, b2⟩ := h
      exact n1 (Prod.ext (by omega) (by omega))
    by_cases xv : x = v
    · by_cases yb : y = b
      · exact Or.inr (Or.inr (Or.inr (by rw [xv, yb]; exact ⟨gt_O_l, gt_O_r⟩)))
      · -- y beyond b, or between
        have ny : y ≠ v := fun z => by
          rw [xv, z] at k
          obtain ⟨-, b1, b2⟩ := k
          exact n1 (Prod.ext (by omega) (by omega))
        rw [xv] at k ⊢
        have d1 := gt_O_dir h n1
        have d2 := gt_O_dir k n1
        have d := gt_sd_trans (gt_d_nz (fun e => n1 e.symm)) (gt_sd_sw d1) d2
        rcases gt_sd_on d (fun e => vb e.symm) ny with w | w
        · exact Or.inr (Or.inr (Or.inl ⟨w, ny, yb⟩))
        · exact Or.inr (Or.inr (Or.inr ⟨gt_O_l, w⟩))
    · by_cases xb : x = b
      · by_cases yv : y = v
        · exact Or.inr (Or.inr (Or.inr (by rw [xb, yv]; exact ⟨gt_O_r, gt_O_l⟩)))
        · have ny : y ≠ b := fun z => by
            rw [xb, z] at k
            obtain ⟨-, b1, b2⟩ := k
            exact n2 (Prod.ext (by omega) (by omega))
          rw [xb] at k ⊢
          have d1 := gt_O_dir (gt_O_sw h) n2
          have d2 := gt_O_dir k n2
          have d := gt_sd_trans (gt_d_nz (fun e => n2 e.symm)) (gt_sd_sw d1) d2
          rcases gt_sd_on d vb ny with w | w
          · exact Or.inr (Or.inr (Or.inl ⟨gt_O_sw w, yv, ny⟩))
          · exact Or.inr (Or.inr (Or.inr ⟨w, gt_O_l⟩))
      · by_cases f1 : gt_O v b x
        · exact Or.inr (Or.inl ⟨f1, xv, xb⟩)
        · by_cases yv : y = v
          · rw [yv] at k ⊢
            have nx : x ≠ v := xv
            have d1 := gt_O_dir h n1
            have d2 := gt_O_dir (gt_O_sw k) n1
            have d := gt_sd_trans (gt_d_nz (fun e => n1 e.symm)) (gt_sd_sw d1) d2
            rcases gt_sd_on d (fun e => vb e.symm) nx with w | w
            · exact absurd w f1
            · exact Or.inr (Or.inr (Or.inr ⟨gt_O_r, gt_O_sw w⟩))
          · by_cases yb : y = b
            · rw [yb] at k ⊢
              have d1 := gt_O_dir (gt_O_sw h) n2
              have d2 := gt_O_dir (gt_O_sw k) n2
              have d := gt_sd_trans (gt_d_nz (fun e => n2 e.symm)) (gt_sd_sw d1) d2
              rcases gt_sd_on d vb xb with w | w
              · exact absurd (gt_O_sw w) f1
              · exact Or.inr (Or.inr (Or.inr ⟨gt_O_sw w, gt_O_r⟩))
            · by_cases f2 : gt_O v b y
              · exact Or.inr (Or.inr (Or.inl ⟨f2, yv, yb⟩))
              · obtain ⟨hh, b1, b2⟩ := h
                obtain ⟨kk, d1, d2⟩ := k
                by_cases e1 : v.1 = b.1
                · have e2 : v.2 ≠ b.2 := fun z => vb (Prod.ext e1 z)
                  have g1 : ¬ ((v.2 ≤ x.2 ∨ b.2 ≤ x.2) ∧ (x.2 ≤ v.2 ∨ x.2 ≤ b.2)) := fun z => f1 (gt_O_2 a0 e2 z)
                  have g2 : ¬ ((v.2 ≤ y.2 ∨ b.2 ≤ y.2) ∧ (y.2 ≤ v.2 ∨ y.2 ≤ b.2)) := fun z => f2 (gt_O_2 a1 e2 z)
                  exact Or.inr (Or.inr (Or.inr ⟨gt_O_2 p0 (by omega) (by omega), gt_O_2 p1 (by omega) (by omega)⟩))
                · have g1 : ¬ ((v.1 ≤ x.1 ∨ b.1 ≤ x.1) ∧ (x.1 ≤ v.1 ∨ x.1 ≤ b.1)) := fun z => f1 (gt_O_1 a0 e1 z)
                  have g2 : ¬ ((v.1 ≤ y.1 ∨ b.1 ≤ y.1) ∧ (y.1 ≤ v.1 ∨ y.1 ≤ b.1)) := fun z => f2 (gt_O_1 a1 e1 z)
                  exact Or.inr (Or.inr (Or.inr ⟨gt_O_1 p0 (by omega) (by omega), gt_O_1 p1 (by omega) (by omega)⟩))
  · have hA := gt_opp (m := t' - s') (n := s') (by omega) (by omega) eA a0
    refine Or.inl ⟨hA, gt_opp (m := t - s) (n := s) (by omega) (by omega) eP (fun z => ?_)⟩
    have p1 : gt_t x y b = 0 := by
      rw [z] at eP
      have : s * gt_t x y b = 0 := by omega
      rcases Int.mul_eq_zero.mp this with q | q
      · omega
      · exact q
    have e : gt_t v b x = gt_t v b y := by omega
    rw [← e] at hA
    have := gt_sq (gt_t v b x)
    omega
theorem gt_gO {a b p : gt_P} : g_O a b p = true ↔ gt_O a b p := g_on_iff
theorem gt_gX {p q a b : gt_P} : g_X p q a b = true ↔ (gt_t p q a * gt_t p q b < 0 ∧ gt_t a b p * gt_t a b q < 0) := by
  unfold g_X
  rw [Bool.and_eq_true, decide_eq_true_iff, decide_eq_true_iff]; rfl
/-- of a stretch that lies inside: no point but its ends on the border, and not both on one stretch of it -/
theorem gt_ins_ni {F : s_Fig} {p q : gt_P} (hi : g_ins F p q) (hpq : p ≠ q) {g : gt_E} (hg : g ∈ gt_ed F) : (∀ K z, 0 < K → gt_O (gt_g K p) (gt_g K q) z → gt_O (gt_g K g.1) (gt_g K g.2) z → z = gt_g K p ∨ z = gt_g K q) ∧ ¬ (gt_O g.1 g.2 p ∧ gt_O g.1 g.2 q) := by
  obtain ⟨h1, h2⟩ := hi
  have both : ¬ (gt_O g.1 g.2 p ∧ gt_O g.1 g.2 q) := fun ⟨a, b⟩ => by
    refine (gt_where2 h2).1 ⟨(gt_g 2 g.1, gt_g 2 g.2), ?_, ?_⟩
    · rw [gt_ed_map]; exact List.mem_map.mpr ⟨g, hg, rfl⟩
    · exact gt_O_cv ((gt_g_O (by omega)).mpr a) ((gt_g_O (by omega)).mpr b) (gt_g2_mid hpq).1
  refine ⟨fun K z hK z1 z2 => ?_, both⟩
  refine Classical.byContradiction (fun hn => ?_)
  have n1 : z ≠ gt_g K p := fun e => hn (Or.inl e)
  have n2 : z ≠ gt_g K q := fun e => hn (Or.inr e)
  obtain ⟨k, hk, eg⟩ := gt_ed_i.mp hg
  have inb := h1 k hk
  have e1 : g.1 = g_pt F k := by rw [eg]
  have e2 : g.2 = g_pt F (g_nx F.length k) := by rw [eg]
  unfold g_inb at inb
  rw [Bool.or_eq_false_iff] at inb
  rw [← e1, ← e2] at inb
  -- no corner on it
  have noc : ∀ (k : Nat), k < F.length → gt_O p q (g_pt F k) → g_pt F k ≠ p → g_pt F k ≠ q → False := fun k hk ho m1 m2 => by
    have := h1 k hk
    unfold g_inb at this
    rw [Bool.or_eq_false_iff, decide_eq_false m1, decide_eq_false m2, gt_gO.mpr ho] at this
    have := this.1
    simp at this
  rcases gt_cross z1 z2 n1 n2 with w | w | w | w
  · rw [gt_g_t, gt_g_t, gt_g_t, gt_g_t, gt_g_mm hK, gt_g_mm hK] at w
    rw [gt_gX.mpr w] at inb
    exact absurd inb.2 (by simp)
  · rw [gt_g_O hK] at w
    exact noc k hk (by rw [← e1]; exact w.1) (fun e => w.2.1 (by rw [e1, e])) (fun e => w.2.2 (by rw [e1, e]))
  · rw [gt_g_O hK] at w
    exact noc _ (g_nx_lt' hk) (by rw [← e2]; exact w.1) (fun e => w.2.1 (by rw [e2, e])) (fun e => w.2.2 (by rw [e2, e]))
  · rw [gt_g_O hK, gt_g_O hK] at w
    exact both w
theorem gt_pe_at2 {a : gt_P} {l : List gt_P} {e : gt_E} (h : e ∈ gt_pe a l) : ∃ i, i + 1 < (a :: l).length ∧ e = (g_pt (a :: l) i, g_pt (a :: l) (i + 1)) := by
  obtain ⟨i, hi⟩ := List.mem_iff_getElem?.mp h
  have il : i < l.length := by
    rw [← gt_pe_len (a := a)]
    exact (List.getElem?_eq_some_iff.mp hi).1
  rw [gt_pe_at il] at hi
  refine ⟨i, by rw [List.length_cons]; omega, (Option.some.inj hi).symm.trans ?_⟩
  rfl
theorem gt_nodup_pt {l : List gt_P} (h : ∀ i j, i < j → j < l.length → g_pt l i ≠ g_pt l j) : l.Nodup := by
  rw [List.Nodup, List.pairwise_iff_getElem]
  intro i j hi hj hij
  have := h i j hij hj
  unfold g_pt at this
  rw [List.getElem?_eq_getElem hi, List.getElem?_eq_getElem hj] at this
  exact this
theorem gt_cut_crd {F ps : s_Fig} (h : gt_fig F) (hc : g_cut F ps) : ∃ P R Q, ps = P :: (Q ++ [R]) ∧ P = g_pt ps 0 ∧ R = g_pt ps (ps.length - 1) ∧ gt_crd P R Q (g_bord F P R) (g_bord F R P) ∧ gt_ref F (P :: (g_bord F P R ++ R :: g_bord F R P)) ∧ (Q ≠ [] ∨ g_bord F R P ≠ []) ∧ (Q ≠ [] ∨ g_bord F P R ≠ []) ∧ ∃ e ∈ gt_pe P (Q ++ [R]), gt_w ((P :: (g_bord F P R ++ R :: g_bord F R P)).map (gt_g 2)) (e.1.1 + e.2.1, e.1.2 + e.2.2) = 1 := by
  obtain ⟨⟨c1, c2⟩, c3, c4⟩ := hc
  obtain ⟨P, r, er⟩ : ∃ P r, ps = P :: r := List.exists_cons_of_ne_nil (fun z => by rw [z] at c1; simp at c1)
  rcases List.eq_nil_or_concat r with hr | ⟨Q, R, hr⟩
  · rw [er, hr] at c1; simp at c1
  have er : ps = P :: (Q ++ [R]) := by rw [er, hr]; simp
  have eP : P = g_pt ps 0 := by rw [er]; rfl
  have len : ps.length = Q.length + 2 := by rw [er]; simp
  have eR : R = g_pt ps (ps.length - 1) := by
    rw [len, show Q.length + 2 - 1 = Q.length + 1 by omega, er]
    unfold g_pt
    rw [List.getElem?_cons_succ, List.getElem?_append_right (Nat.le_refl _), Nat.sub_self]; rfl
  rw [← eP, ← eR] at c2
  -- what lies on the border
  have onb : ∀ i, i < ps.length → (∃ g ∈ gt_ed F, gt_O g.1 g.2 (g_pt ps i)) → i = 0 ∨ i = ps.length - 1 := fun i hi hg => by
    have w := c3 i hi
    by_cases c : i = 0 ∨ i = ps.length - 1
    · exact c
    · rw [if_neg c] at w
      have := (gt_where2 w).1
      rw [gt_map1] at this
      exact absurd hg this
  have hP : ∃ g ∈ gt_ed F, gt_O g.1 g.2 P := by
    have w := c3 0 (by omega)
    rw [if_pos (Or.inl rfl), gt_where1, gt_map1, ← eP] at w
    exact w
  have hR : ∃ g ∈ gt_ed F, gt_O g.1 g.2 R := by
    have w := c3 (ps.length - 1) (by omega)
    rw [if_pos (Or.inr rfl), gt_where1, gt_map1, ← eR] at w
    exact w
  have ref := gt_two h.1 hP hR c2
  generalize hX : g_bord F P R = X at *
  generalize hY : g_bord F R P = Y at *
  have hs := ref.1
  have hl : P :: (X ++ R :: Y) ≠ [] := by simp
  have mt : ∀ i, i + 1 < ps.length → g_pt ps i ≠ g_pt ps (i + 1) ∧ ∀ j, i < j → j + 1 < ps.length → g_mtj ps i j = false := fun i hi => by
    have := (c4 i hi).2
    unfold g_mt at this
    refine ⟨fun z => this (Or.inl z), fun j j1 j2 => ?_⟩
    cases e : g_mtj ps i j with
    | false => rfl
    | true => exact absurd (Or.inr ⟨j, j1, j2, e⟩) this
  have nd : ∀ i j, i < j → j < ps.length → g_pt ps i ≠ g_pt ps j := fun i j hij hj z => by
    by_cases c : j = i + 1
    · rw [c] at z hj; exact (mt i hj).1 z
    · have m := (mt i (by omega)).2 (j - 1) (by omega) (by omega)
      unfold g_mtj g_mt2 at m
      rw [show j - 1 + 1 = j by omega, ← z, gt_gO.mpr gt_O_l] at m
      simp at m
  have ndp : ps.Nodup := gt_nodup_pt nd
  have inj : ∀ i j, i < ps.length → j < ps.length → g_pt ps i = g_pt ps j → i = j := fun i j hi hj z => by
    rcases Nat.lt_trichotomy i j with c | c | c
    · exact absurd z (nd i j c hj)
    · exact c
    · exact absurd z.symm (nd j i c hi)
  have pe : ∀ e, e ∈ gt_pe P (Q ++ [R]) → ∃ i, i + 1 < ps.length ∧ e = (g_pt ps i, g_pt ps (i + 1)) := fun e he => by
    obtain ⟨i, i1, i2⟩ := gt_pe_at2 he
    rw [← er] at i1 i2
    exact ⟨i, i1, i2⟩
  -- pairs of stretches of the CUT
  have pair : ∀ i j, i < j → j + 1 < ps.length → (j ≠ i + 1 → ¬ gt_M (g_pt ps i) (g_pt ps (i + 1)) (g_pt ps j) (g_pt ps (j + 1))) ∧ (j = i + 1 → ¬ gt_sd (gt_d (g_pt ps (i + 1)) (g_pt ps i)) (gt_d (g_pt ps (i + 1)) (g_pt ps (j + 1)))) := fun i j hij hj => by
    have m := (mt i (by omega)).2 j hij hj
    unfold g_mtj g_mt2 at m
    rw [Bool.or_eq_false_iff, Bool.or_eq_false_iff] at m
    obtain ⟨⟨m1, m2⟩, m3⟩ := m
    have n1 : ¬ gt_O (g_pt ps i) (g_pt ps (i + 1)) (g_pt ps (j + 1)) := fun z => by rw [gt_gO.mpr z] at m1; cases m1
    have n2 : ¬ gt_O (g_pt ps j) (g_pt ps (j + 1)) (g_pt ps i) := fun z => by rw [gt_gO.mpr z] at m2; cases m2
    refine ⟨fun ne k => ?_, fun e z => ?_⟩
    · rw [decide_eq_false ne, Bool.not_false, Bool.true_and, Bool.or_eq_false_iff, Bool.or_eq_false_iff] at m3
      obtain ⟨⟨m4, m5⟩, m6⟩ := m3
      rcases k with k | (k | k) | (k | k)
      · have k : gt_t (g_pt ps i) (g_pt ps (i + 1)) (g_pt ps j) * gt_t (g_pt ps i) (g_pt ps (i + 1)) (g_pt ps (j + 1)) < 0 ∧ gt_t (g_pt ps j) (g_pt ps (j + 1)) (g_pt ps i) * gt_t (g_pt ps j) (g_pt ps (j + 1)) (g_pt ps (i + 1)) < 0 := k
        rw [← gt_gX] at k
        unfold g_X at k
        rw [m6] at k
        cases k
      · rw [gt_gO.mpr k] at m4; cases m4
      · exact n1 k
      · exact n2 k
      · rw [gt_gO.mpr k] at m5; cases m5
    · subst e
      rcases gt_sd_on z (nd i (i + 1) (by omega) (by omega)) (fun w => nd (i + 1) (i + 1 + 1) (by omega) hj w.symm) with w | w
      · exact n1 (gt_O_sw w)
      · exact n2 w
  -- a stretch of the CUT and one of the border
  have ni : ∀ i, i + 1 < ps.length → ∀ f ∈ gt_ed (P :: (X ++ R :: Y)), (gt_M (g_pt ps i) (g_pt ps (i + 1)) f.1 f.2 → (i = 0 ∧ (f.1 = P ∨ f.2 = P)) ∨ (i + 1 = ps.length - 1 ∧ (f.1 = R ∨ f.2 = R))) ∧ (∀ z, gt_O (g_pt ps i) (g_pt ps (i + 1)) z → gt_O f.1 f.2 z → z = g_pt ps i ∨ z = g_pt ps (i + 1)) ∧ ¬ (gt_O f.1 f.2 (g_pt ps i) ∧ gt_O f.1 f.2 (g_pt ps (i + 1))) := fun i hi f hf => by
    obtain ⟨g, g1, g2, g3⟩ := ref.2.2.2.1 f hf
    obtain ⟨u1, u2⟩ := gt_ins_ni (c4 i hi).1 (nd i (i + 1) (by omega) hi) g1
    refine ⟨fun k => ?_, fun z z1 z2 => ?_, fun ⟨z1, z2⟩ => u2 ⟨gt_O_cv g2 g3 z1, gt_O_cv g2 g3 z2⟩⟩
    · obtain ⟨K, hK, z, z1, z2⟩ := gt_M_ex k
      have z3 := gt_O_cv ((gt_g_O hK).mpr g2) ((gt_g_O hK).mpr g3) z2
      rcases u1 K z hK z1 z3 with w | w
      · rw [w, gt_g_O hK] at z2 z3
        have i0 : i = 0 := by
          rcases onb i (by omega) ⟨g, g1, z3⟩ with q | q
          · exact q
          · omega
        refine Or.inl ⟨i0, ?_⟩
        rw [i0, ← eP] at z2
        rcases gt_vtx hs (List.mem_cons_self ..) hf z2 with q | q
        · exact Or.inl q.symm
        · exact Or.inr q.symm
      · rw [w, gt_g_O hK] at z2 z3
        have i0 : i + 1 = ps.length - 1 := by
          rcases onb (i + 1) hi ⟨g, g1, z3⟩ with q | q
          · omega
          · exact q
        refine Or.inr ⟨i0, ?_⟩
        rw [i0, ← eR] at z2
        rcases gt_vtx hs (List.mem_cons_of_mem _ (List.mem_append.mpr (Or.inr (List.mem_cons_self ..)))) hf z2 with q | q
        · exact Or.inl q.symm
        · exact Or.inr q.symm
    · rcases u1 1 z (by omega) (by rw [gt_g1, gt_g1]; exact z1) (by rw [gt_g1, gt_g1]; exact gt_O_cv g2 g3 z2) with w | w
      · rw [gt_g1] at w; exact Or.inl w
      · rw [gt_g1] at w; exact Or.inr w
  -- straight along the border it does not go
  have spk : ∀ i, i + 1 < ps.length → ∀ f ∈ gt_ed (P :: (X ++ R :: Y)), ∀ v w, (f.1 = v ∧ f.2 = w ∨ f.1 = w ∧ f.2 = v) → ∀ u, (g_pt ps i = v ∧ g_pt ps (i + 1) = u ∨ g_pt ps i = u ∧ g_pt ps (i + 1) = v) → ¬ gt_sd (gt_d v w) (gt_d v u) := fun i hi f hf v w hvw u hvu hsd => by
    obtain ⟨-, n2, n3⟩ := ni i hi f hf
    have nv : u ≠ v := fun z => by
      rcases hvu with q | q
      · exact nd i (i + 1) (by omega) hi (by rw [q.1, q.2, z])
      · exact nd i (i + 1) (by omega) hi (by rw [q.1, q.2, z])
    have nw : w ≠ v := fun z => by
      have l3 : 2 ≤ (P :: (X ++ R :: Y)).length := by simp; omega
      obtain ⟨s, t, r', e1, e2⟩ := gt_ed_turn l3 hf
      have ndF := gt_smp_nd hs
      have : (t ++ s).Nodup := (List.perm_append_comm).nodup_iff.mpr (by rw [← e1]; exact ndF)
      rw [e2, List.nodup_cons] at this
      refine this.1 ?_
      rcases hvw with q | q
      · rw [q.1, q.2, z]; exact List.mem_cons_self ..
      · rw [q.1, q.2, z]; exact List.mem_cons_self ..
    have fv : gt_O f.1 f.2 v ∧ gt_O f.1 f.2 w := by
      rcases hvw with q | q
      · rw [q.1, q.2]; exact ⟨gt_O_l, gt_O_r⟩
      · rw [q.1, q.2]; exact ⟨gt_O_r, gt_O_l⟩
    have fe : ∀ z, gt_O v w z → gt_O f.1 f.2 z := fun z hz => gt_O_cv fv.1 fv.2 hz
    have ee : ∀ z, gt_O v u z → gt_O (g_pt ps i) (g_pt ps (i + 1)) z := fun z hz => by
      rcases hvu with q | q
      · rw [q.1, q.2]; exact hz
      · rw [q.1, q.2]; exact gt_O_sw hz
    have both : gt_O f.1 f.2 u → False := fun z => by
      rcases hvu with q | q
      · exact n3 ⟨by rw [q.1]; exact fv.1, by rw [q.2]; exact z⟩
      · exact n3 ⟨by rw [q.1]; exact z, by rw [q.2]; exact fv.1⟩
    rcases gt_sd_on hsd nw nv with k | k
    · exact both (fe u k)
    · have wu : w = u := by
        rcases n2 w (ee w k) fv.2 with q | q
        · rcases hvu with p | p
          · exact absurd (q.trans p.1) nw
          · exact q.trans p.1
        · rcases hvu with p | p
          · exact q.trans p.2
          · exact absurd (q.trans p.2) nw
      exact both (by rw [← wu]; exact fv.2)
  have crd : gt_crd P R Q X Y := by
    refine ⟨hs, by rw [← er]; exact ndp, fun q hq f hf ho => ?_, fun e he f hf ne => ?_, fun e he f hf => ?_⟩
    · obtain ⟨g, g1, g2, g3⟩ := ref.2.2.2.1 f hf
      obtain ⟨i, hi⟩ := List.mem_iff_getElem?.mp hq
      have il : i < Q.length := (List.getElem?_eq_some_iff.mp hi).1
      have eq : q = g_pt ps (i + 1) := by
        rw [er]
        unfold g_pt
        rw [List.getElem?_cons_succ, List.getElem?_append_left il, hi]; rfl
      have := onb (i + 1) (by omega) ⟨g, g1, by rw [← eq]; exact gt_O_cv g2 g3 ho⟩
      omega
    · obtain ⟨i, i1, rfl⟩ := pe e he
      obtain ⟨j, j1, rfl⟩ := pe f hf
      dsimp only
      rcases Nat.lt_trichotomy i j with c | c | c
      · have p := pair i j c j1
        exact ⟨fun n1 n2 => p.1 (fun z => n1 (by rw [z])), fun z => p.2 (inj (i + 1) j i1 (by omega) z).symm⟩
      · exact absurd (by rw [c]) ne
      · have p := pair j i c i1
        refine ⟨fun n1 n2 k => p.1 (fun z => n2 (by rw [z])) (gt_M_ab k), fun z => ?_⟩
        have := inj (i + 1) j i1 (by omega) z
        omega
    · obtain ⟨i, i1, rfl⟩ := pe e he
      dsimp only
      obtain ⟨n1, -, -⟩ := ni i i1 f hf
      refine ⟨fun a b k => ?_, fun z1 z2 => ?_, fun z1 z2 => ?_, fun z1 z2 => ?_, fun z1 z2 => ?_⟩
      · rcases n1 k with q | q
        · exact a ⟨by rw [q.1, ← eP], q.2⟩
        · exact b ⟨by rw [q.1, ← eR], q.2⟩
      · exact spk i i1 f hf P f.1 (Or.inr ⟨rfl, z2⟩) _ (Or.inl ⟨z1, rfl⟩)
      · exact spk i i1 f hf P f.2 (Or.inl ⟨z2, rfl⟩) _ (Or.inl ⟨z1, rfl⟩)
      · exact fun k => spk i i1 f hf R f.2 (Or.inl ⟨z2, rfl⟩) _ (Or.inr ⟨rfl, z1⟩) (gt_sd_sw k)
      · exact fun k => spk i i1 f hf R f.1 (Or.inr ⟨rfl, z2⟩) _ (Or.inr ⟨rfl, z1⟩) (gt_sd_sw k)
  have first : (g_pt ps 0, g_pt ps (0 + 1)) ∈ gt_pe P (Q ++ [R]) := by
    rw [← eP]
    have : gt_pe P (Q ++ [R]) = (P, g_pt ps (0 + 1)) :: gt_pe (g_pt ps (0 + 1)) ((Q ++ [R]).tail) := by
      rw [er]
      cases Q with
      | nil => rfl
      | cons q Q => rfl
    rw [this]; exact List.mem_cons_self ..
  have m0 := c4 0 (by omega)
  -- both on one stretch of the border: no
  have nb : Q = [] → ∀ f ∈ gt_ed (P :: (X ++ R :: Y)), ¬ (gt_O f.1 f.2 P ∧ gt_O f.1 f.2 R) := fun hQ f hf ⟨z1, z2⟩ => by
    have l2 : ps.length = 2 := by rw [len, hQ]; rfl
    refine (ni 0 (by omega) f hf).2.2 ⟨by rw [← eP]; exact z1, ?_⟩
    rw [eR, l2] at z2
    exact z2
  subst hX hY
  refine ⟨P, R, Q, er, eP, eR, crd, ref, ?_, ?_, ⟨(g_pt ps 0, g_pt ps (0 + 1)), first, ?_⟩⟩
  · by_cases hQ : Q = []
    · refine Or.inr (fun z => nb hQ (R, P) ?_ ⟨gt_O_r, gt_O_l⟩)
      rw [gt_ed_two, z]
      exact List.mem_append.mpr (Or.inr (List.mem_cons_self ..))
    · exact Or.inl hQ
  · by_cases hQ : Q = []
    · refine Or.inr (fun z => nb hQ (P, R) ?_ ⟨gt_O_l, gt_O_r⟩)
      rw [gt_ed_two, z]
      exact List.mem_append.mpr (Or.inl (List.mem_cons_self ..))
    · exact Or.inl hQ
  · rw [gt_ref_w ref (by omega)]
    have w2 := (gt_where2 m0.1.2).2
    have w := gt_fig_w h (K := 2) (by omega) ((g_pt ps 0).1 + (g_pt ps (0 + 1)).1, (g_pt ps 0).2 + (g_pt ps (0 + 1)).2)
    dsimp only
    rcases w with w | w
    · rw [w] at w2; omega
    · exact w
/-- the parts of a CUT as they are laid -/
theorem gt_cut {F ps : s_Fig} (h : gt_fig F) (hc : g_cut F ps) : gt_fig (g_rawL F ps) ∧ gt_fig (g_rawR F ps) ∧ ∀ c, gt_cc c → gt_sm c (gt_ed (g_rawL F ps)) + gt_sm c (gt_ed (g_rawR F ps)) = gt_sm c (gt_ed F) := by
  obtain ⟨P, R, Q, er, eP, eR, crd, ref, h3, h4, e, he, hw⟩ := gt_cut_crd h hc
  have k := gt_crd_k crd h3 h4 he hw
  have eL : g_rawL F ps = P :: (Q ++ R :: g_bord F R P) := by
    unfold g_rawL
    rw [← eR, ← eP, er]; simp
  have eRR : g_rawR F ps = R :: (Q.reverse ++ P :: g_bord F P R) := by
    unfold g_rawR
    rw [← eR, ← eP, er]; simp
  rw [eL, eRR]
  refine ⟨⟨k.1.1, by simp, k.1.2⟩, ⟨k.2.1, by simp, k.2.2⟩, fun c hcc => ?_⟩
  rw [gt_crd_sm hcc, ref.2.2.1 c hcc]
