/-! geometry: a POINT on a FIGURE lies on one of its parts, and on what it is a part of -/
theorem gt_nr0 {F : List gt_P} (hF : gt_fig F) {q : gt_P} (nb : ¬ ∃ e ∈ gt_ed F, gt_O e.1 e.2 q) (d : gt_P) : ∃ K0 : Int, 0 < K0 ∧ ∀ K, K0 ≤ K → gt_w (F.map (gt_g K)) (gt_sh K q d) = gt_w F q := by
  cases F with
  | nil => exact absurd rfl hF.2.1
  | cons v r =>
    obtain ⟨K0, k0, hK⟩ := gt_nearA (v := q) (d := d) (a := v) (l := r ++ [v]) (gt_al_pe.mpr (fun e he o => nb ⟨e, he, o⟩))
    refine ⟨K0, k0, fun K hk => ?_⟩
    have t := gt_tel (hK K hk)
    have l : gt_ls v (r ++ [v]) = v := by rw [gt_ls_app]; rfl
    rw [gt_g_ls, l] at t
    have e : ∀ z, gt_w ((v :: r).map (gt_g K)) z = gt_ps (gt_c z) (gt_g K v) ((r ++ [v]).map (gt_g K)) := fun z => by rw [List.map_append]; rfl
    have g := gt_g_w (K := K) (by omega) (l := v :: r) (z := q)
    rw [e] at g
    rw [e]
    omega
theorem gt_w_edge {l : List gt_P} {e : gt_E} {q : gt_P} (h : gt_smp l) (he : e ∈ gt_ed l) (o : gt_O e.1 e.2 q) (n1 : q ≠ e.2) (n2 : q ≠ e.1) : gt_w l q = gt_k l + if gt_up (gt_d e.1 e.2) then 0 else 1 := by
  have hl : l ≠ [] := fun z => by rw [z] at he; cases he
  obtain ⟨v, b, c, r, e0⟩ := gt_smp_3 h hl
  obtain ⟨s, t, r1, e1, e2⟩ := gt_ed_turn (by rw [e0]; simp) he
  have h' : gt_smp (s ++ t) := by rw [← e1]; exact h
  have hr : gt_smp (e.1 :: e.2 :: r1) := by rw [← e2]; exact gt_smp_rot h'
  obtain ⟨v', b', c', r', e3⟩ := gt_smp_3 hr (by simp)
  have er : r1 = c' :: r' := by
    injection e3 with _ e4
    injection e4
  subst er
  have k := gt_w_on hr o n1 n2
  rw [← e2, gt_w_rots, ← e1] at k
  rw [k, gt_k_rot h', ← e1]
/-- a step from a POINT along the stretch that it lies on -/
theorem gt_step {K : Int} (hK : 2 ≤ K) {a b q t : gt_P} (o : gt_O a b q) (ht : t = a ∨ t = b) (nq : q ≠ t) : gt_O (gt_g K a) (gt_g K b) (gt_sh K q (gt_d q t)) ∧ gt_sh K q (gt_d q t) ≠ gt_g K a ∧ gt_sh K q (gt_d q t) ≠ gt_g K b := by
  have mulp : ∀ A : Int, (0 ≤ A → A ≤ K * A) ∧ (A ≤ 0 → K * A ≤ A) := fun A => by
    constructor
    · intro h
      have := Int.mul_le_mul_of_nonneg_right (show (1 : Int) ≤ K by omega) h
      omega
    · intro h
      have := Int.mul_le_mul_of_nonneg_right (show (1 : Int) ≤ K by omega) (show 0 ≤ -A by omega)
      have e : K * -A = -(K * A) := by rw [Int.mul_neg]
      omega
  have muls : ∀ A : Int, (0 < A → A < K * A) ∧ (A < 0 → K * A < A) := fun A => by
    constructor
    · intro h
      have := Int.mul_le_mul_of_nonneg_right hK (show 0 ≤ A by omega)
      omega
    · intro h
      have := Int.mul_le_mul_of_nonneg_right hK (show 0 ≤ -A by omega)
      have e : K * -A = -(K * A) := by rw [Int.mul_neg]
      omega
  have mono : ∀ x y : Int, x ≤ y → K * x ≤ K * y := fun x y h => Int.mul_le_mul_of_nonneg_left h (by omega)
  have e1 : K * t.1 = K * q.1 + K * (t.1 - q.1) := by rw [Int.mul_sub]; omega
  have e2 : K * t.2 = K * q.2 + K * (t.2 - q.2) := by rw [Int.mul_sub]; omega
  have p1 := mulp (t.1 - q.1)
  have p2 := mulp (t.2 - q.2)
  have ot : gt_O (gt_g K q) (gt_g K t) (gt_sh K q (gt_d q t)) := by
    refine ⟨?_, ?_, ?_⟩
    · show g_turn (K * q.1) (K * q.2) (K * t.1) (K * t.2) (K * q.1 + (t.1 - q.1)) (K * q.2 + (t.2 - q.2)) = 0
      unfold g_turn
      grind
    · show (K * q.1 ≤ K * q.1 + (t.1 - q.1) ∨ K * t.1 ≤ K * q.1 + (t.1 - q.1)) ∧ (K * q.1 + (t.1 - q.1) ≤ K * q.1 ∨ K * q.1 + (t.1 - q.1) ≤ K * t.1)
      omega
    · show (K * q.2 ≤ K * q.2 + (t.2 - q.2) ∨ K * t.2 ≤ K * q.2 + (t.2 - q.2)) ∧ (K * q.2 + (t.2 - q.2) ≤ K * q.2 ∨ K * q.2 + (t.2 - q.2) ≤ K * t.2)
      omega
  have oq : gt_O (gt_g K a) (gt_g K b) (gt_g K q) := (gt_g_O (by omega)).mpr o
  have oe : gt_O (gt_g K a) (gt_g K b) (gt_g K t) := by
    rcases ht with h | h
    · rw [h]; exact gt_O_l
    · rw [h]; exact gt_O_r
  -- no corner: not of the stretch's other end, not of this one
  have far : ∀ s : gt_P, (s = a ∨ s = b) → gt_sh K q (gt_d q t) ≠ gt_g K s := by
    intro s hs z
    have z1 : K * q.1 + (t.1 - q.1) = K * s.1 := congrArg Prod.fst z
    have z2 : K * q.2 + (t.2 - q.2) = K * s.2 := congrArg Prod.snd z
    by_cases c : s = t
    · subst c
      have m1 := muls (s.1 - q.1)
      have m2 := muls (s.2 - q.2)
      exact nq (Prod.ext (by omega) (by omega))
    · -- the other end: q lies between
      obtain ⟨-, ⟨b1, b2⟩, b3, b4⟩ := o
      have c1 := mono s.1 q.1
      have c2 := mono q.1 s.1
      have c3 := mono s.2 q.2
      have c4 := mono q.2 s.2
      rcases ht with h | h <;> rcases hs with k | k
      · exact c (k.trans h.symm)
      · subst h k
        exact nq (Prod.ext (by omega) (by omega))
      · subst h k
        exact nq (Prod.ext (by omega) (by omega))
      · exact c (k.trans h.symm)
  exact ⟨gt_O_cv oq oe ot, far a (Or.inl rfl), far b (Or.inr rfl)⟩
theorem gt_bd1 {F : List gt_P} (hF : gt_fig F) {e : gt_E} (he : e ∈ gt_ed F) {q t : gt_P} (o : gt_O e.1 e.2 q) (ht : t = e.1 ∨ t = e.2) (nq : q ≠ t) {K : Int} (hK : 2 ≤ K) : gt_w (F.map (gt_g K)) (gt_sh K q (gt_d q t)) = if gt_up (gt_d e.1 e.2) then 0 else 1 := by
  obtain ⟨s1, s2, s3⟩ := gt_step hK o ht nq
  have me : (gt_g K e.1, gt_g K e.2) ∈ gt_ed (F.map (gt_g K)) := by
    rw [gt_ed_map]; exact List.mem_map.mpr ⟨e, he, rfl⟩
  have k := gt_w_edge (gt_g_smp (K := K) (by omega) hF.1) me s1 s3 s2
  rw [k, gt_g_k (by omega), hF.2.2]
  have u : gt_up (gt_d (gt_g K e.1) (gt_g K e.2)) ↔ gt_up (gt_d e.1 e.2) := by rw [gt_g_d]; exact gt_g_up (by omega)
  by_cases c : gt_up (gt_d e.1 e.2)
  · rw [if_pos c, if_pos (u.mpr c)]; rfl
  · rw [if_neg c, if_neg (fun z => c (u.mp z))]; rfl
theorem gt_n_sh {K : Int} {q d : gt_P} : gt_sh K (gt_n q) (gt_n d) = gt_n (gt_sh K q d) := Prod.ext (by show K * -q.1 + -d.1 = -(K * q.1 + d.1); rw [Int.mul_neg]; omega) (by show K * -q.2 + -d.2 = -(K * q.2 + d.2); rw [Int.mul_neg]; omega)
/-- on it: once round, somewhere near -/
theorem gt_cov1 {F : List gt_P} (hF : gt_fig F) {q : gt_P} (h : g_where F q.1 q.2 1 ≠ 0) : ∃ (d : gt_P) (K0 : Int), 0 < K0 ∧ ∀ K, K0 ≤ K → gt_w (F.map (gt_g K)) (gt_sh K q d) = 1 ∨ gt_w ((F.map gt_n).map (gt_g K)) (gt_sh K (gt_n q) (gt_n d)) = 1 := by
  by_cases c : g_where F q.1 q.2 1 = 1
  · obtain ⟨e, he, o⟩ := gt_where1.mp c
    rw [gt_map1] at he
    have ne := gt_ne hF.1 he
    obtain ⟨t, ht, nq⟩ : ∃ t, (t = e.1 ∨ t = e.2) ∧ q ≠ t := by
      by_cases k : q = e.1
      · exact ⟨e.2, Or.inr rfl, fun z => ne (k.symm.trans z)⟩
      · exact ⟨e.1, Or.inl rfl, k⟩
    refine ⟨gt_d q t, 2, by omega, fun K hK => ?_⟩
    by_cases u : gt_up (gt_d e.1 e.2)
    · right
      have me : (gt_n e.1, gt_n e.2) ∈ gt_ed (F.map gt_n) := by
        rw [gt_ed_map]; exact List.mem_map.mpr ⟨e, he, rfl⟩
      have k := gt_bd1 (gt_n_fig hF) me (q := gt_n q) (t := gt_n t) (gt_n_O.mpr o) (ht.elim (fun z => Or.inl (by rw [z])) (fun z => Or.inr (by rw [z]))) (fun z => nq (gt_n_inj z)) hK
      rw [gt_n_d, gt_n_d] at k
      rw [k]
      exact if_neg (fun z => (gt_n_up (gt_d_nz ne)).mp z u)
    · left
      rw [gt_bd1 hF he o ht nq hK, if_neg u]
  · have w2 : g_where F q.1 q.2 1 = 2 := by
      unfold g_where at h c ⊢
      split
      · next z => exact absurd (if_pos z) c
      · next z =>
        rw [if_neg z] at h
        split
        · rfl
        · next y => exact absurd (if_neg y) h
    obtain ⟨-, w⟩ := gt_where2 w2
    rw [gt_map1] at w
    have z := gt_fig_w hF (K := 1) (by omega) q
    rw [gt_map1] at z
    have w1 : gt_w F q = 1 := by
      have w : gt_w F q % 2 = 1 := w
      omega
    refine ⟨(0, 0), 1, by omega, fun K hK => Or.inl ?_⟩
    have es : gt_sh K q (0, 0) = gt_g K q := Prod.ext (by show K * q.1 + 0 = K * q.1; omega) (by show K * q.2 + 0 = K * q.2; omega)
    rw [es, gt_g_w (by omega), w1]
/-- not on it: not round anything near -/
theorem gt_cov0 {F : List gt_P} (hF : gt_fig F) {q : gt_P} (h : g_where F q.1 q.2 1 = 0) (d : gt_P) : ∃ K0 : Int, 0 < K0 ∧ ∀ K, K0 ≤ K → gt_w (F.map (gt_g K)) (gt_sh K q d) = 0 ∧ gt_w ((F.map gt_n).map (gt_g K)) (gt_sh K (gt_n q) (gt_n d)) = 0 := by
  have nb : ¬ ∃ e ∈ gt_ed F, gt_O e.1 e.2 q := fun z => by
    have : g_where F q.1 q.2 1 = 1 := gt_where1.mpr (by rw [gt_map1]; exact z)
    omega
  have w0 : gt_w F q = 0 := by
    have z := gt_fig_w hF (K := 1) (by omega) q
    rw [gt_map1] at z
    rcases z with z | z
    · exact z
    · exfalso
      have p : gt_w (F.map (gt_g 1)) (q.1, q.2) % 2 = 1 := by rw [gt_map1]; show gt_w F q % 2 = 1; omega
      rw [← gt_par_w] at p
      unfold g_where at h
      split at h
      · omega
      · omega
  have nbn : ¬ ∃ e ∈ gt_ed (F.map gt_n), gt_O e.1 e.2 (gt_n q) := by
    rintro ⟨e, he, o⟩
    rw [gt_ed_map] at he
    obtain ⟨f, hf, ef⟩ := List.mem_map.mp he
    rw [← ef] at o
    exact nb ⟨f, hf, gt_n_O.mp o⟩
  have wn : gt_w (F.map gt_n) (gt_n q) = 0 := by
    cases F with
    | nil => exact absurd rfl hF.2.1
    | cons v r =>
      have t := gt_H_ps (z := q) (a := v) (l := r ++ [v]) (gt_al_pe.mpr (fun e he o => nb ⟨e, he, o⟩))
      have l : gt_ls v (r ++ [v]) = v := by rw [gt_ls_app]; rfl
      rw [l, List.map_append] at t
      have w0 : gt_ps (gt_c q) v (r ++ [v]) = 0 := w0
      show gt_ps (gt_c (gt_n q)) (gt_n v) (r.map gt_n ++ [gt_n v]) = 0
      have t : gt_ps (gt_c q) v (r ++ [v]) - gt_ps (gt_c (gt_n q)) (gt_n v) (r.map gt_n ++ [gt_n v]) = gt_H q v - gt_H q v := t
      omega
  obtain ⟨K1, k1, h1⟩ := gt_nr0 hF nb d
  obtain ⟨K2, k2, h2⟩ := gt_nr0 (gt_n_fig hF) nbn (gt_n d)
  exact ⟨K1 + K2, by omega, fun K hK => ⟨by rw [h1 K (by omega), w0], by rw [h2 K (by omega), wn]⟩⟩
theorem gt_w_cc {tr : gt_P → gt_P} {K : Int} {z : gt_P} (F : List gt_P) : gt_w ((F.map tr).map (gt_g K)) z = gt_sm (fun a b => gt_c z (gt_g K (tr a)) (gt_g K (tr b))) (gt_ed F) := by
  rw [gt_w_sm, gt_ed_map, gt_ed_map, gt_sm_map, gt_sm_map]
theorem gt_w_cc1 {K : Int} {z : gt_P} (F : List gt_P) : gt_w (F.map (gt_g K)) z = gt_sm (fun a b => gt_c z (gt_g K a) (gt_g K b)) (gt_ed F) := by
  rw [gt_w_sm, gt_ed_map, gt_sm_map]
theorem gt_cover {F A B : List gt_P} (hF : gt_fig F) (hA : gt_fig A) (hB : gt_fig B) (sm : ∀ c, gt_cc c → gt_sm c (gt_ed A) + gt_sm c (gt_ed B) = gt_sm c (gt_ed F)) {q : gt_P} (h : g_where F q.1 q.2 1 ≠ 0) : g_where A q.1 q.2 1 ≠ 0 ∨ g_where B q.1 q.2 1 ≠ 0 := by
  refine Classical.byContradiction (fun no => ?_)
  rw [not_or, Classical.not_not, Classical.not_not] at no
  obtain ⟨d, K0, k0, h0⟩ := gt_cov1 hF h
  obtain ⟨K1, k1, h1⟩ := gt_cov0 hA no.1 d
  obtain ⟨K2, k2, h2⟩ := gt_cov0 hB no.2 d
  have a0 := h0 (K0 + K1 + K2) (by omega)
  have a1 := h1 (K0 + K1 + K2) (by omega)
  have a2 := h2 (K0 + K1 + K2) (by omega)
  have hK : 0 < K0 + K1 + K2 := by omega
  have s1 := sm _ (gt_cc_g (gt_cc_c (gt_sh (K0 + K1 + K2) q d)) hK)
  have s2 := sm _ (gt_cc_n (gt_cc_g (gt_cc_c (gt_sh (K0 + K1 + K2) (gt_n q) (gt_n d))) hK))
  rw [gt_w_cc1, gt_w_cc] at a0 a1 a2
  omega
theorem gt_cover2 {F G R : List gt_P} (hF : gt_fig F) (hG : gt_fig G) (hR : gt_fig R) (sm : ∀ c, gt_cc c → gt_sm c (gt_ed R) = gt_sm c (gt_ed F) + gt_sm c (gt_ed G)) {q : gt_P} (h : g_where F q.1 q.2 1 ≠ 0) : g_where R q.1 q.2 1 ≠ 0 := by
  intro no
  obtain ⟨d, K0, k0, h0⟩ := gt_cov1 hF h
  obtain ⟨K1, k1, h1⟩ := gt_cov0 hR no d
  have a0 := h0 (K0 + K1) (by omega)
  have a1 := h1 (K0 + K1) (by omega)
  have hK : 0 < K0 + K1 := by omega
  have s1 := sm _ (gt_cc_g (gt_cc_c (gt_sh (K0 + K1) q d)) hK)
  have s2 := sm _ (gt_cc_n (gt_cc_g (gt_cc_c (gt_sh (K0 + K1) (gt_n q) (gt_n d))) hK))
  have f1 := gt_fig_w hF hK (gt_sh (K0 + K1) q d)
  have g1 := gt_fig_w hG hK (gt_sh (K0 + K1) q d)
  have f2 := gt_fig_w (gt_n_fig hF) hK (gt_sh (K0 + K1) (gt_n q) (gt_n d))
  have g2 := gt_fig_w (gt_n_fig hG) hK (gt_sh (K0 + K1) (gt_n q) (gt_n d))
  rw [gt_w_cc1] at f1 g1
  rw [gt_w_cc] at f2 g2
  rw [gt_w_cc1, gt_w_cc] at a0 a1
  omega
theorem g_hold_iff {F ps : s_Fig} : g_hold F ps = true ↔ ∃ q ∈ ps, g_where F q.1 q.2 1 ≠ 0 := by
  unfold g_hold
  rw [List.any_eq_true]
  exact ⟨fun ⟨q, h1, h2⟩ => ⟨q, h1, of_decide_eq_true h2⟩, fun ⟨q, h1, h2⟩ => ⟨q, h1, decide_eq_true h2⟩⟩
