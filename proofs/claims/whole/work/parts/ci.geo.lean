/-! geometry: two FIGURES that lie apart -/
/-! three directions in their order round -/
def gt_L (x y : gt_P) : Int := if gt_lt x y then 1 else 0
def gt_C (x y z : gt_P) : Int := gt_L x y + gt_L y z + gt_L z x - 1
theorem gt_L_sw {x y : gt_P} (h : ¬ gt_sd x y) : gt_L x y + gt_L y x = 1 := by
  unfold gt_L
  by_cases c : gt_lt x y
  · rw [if_pos c, if_neg (fun k => gt_lt_asym c k)]; rfl
  · rw [if_neg c, if_pos ((gt_lt_tri h).resolve_left c)]; rfl
theorem gt_C_cyc {x y z : gt_P} : gt_C x y z = gt_C y z x := by unfold gt_C; omega
theorem gt_C_sw {x y z : gt_P} (h1 : ¬ gt_sd x y) (h2 : ¬ gt_sd y z) (h3 : ¬ gt_sd z x) : gt_C x y z + gt_C x z y = 1 := by
  have a := gt_L_sw h1
  have b := gt_L_sw h2
  have c := gt_L_sw h3
  unfold gt_C
  omega
theorem gt_s_C {a b z : gt_P} (nz : gt_nz z) (h1 : ¬ gt_sd z a) (h2 : ¬ gt_sd z b) : gt_s a b z = gt_C a b z := by
  have e1 := gt_L_sw h1
  have e2 := gt_L_sw h2
  unfold gt_s gt_C
  have : (if gt_lt a b then (1 : Int) else 0) = gt_L a b := rfl
  rw [this]
  by_cases u : gt_up z
  · rw [gt_f_up u, gt_f_up u]
    have g1 : (if gt_lt b z then (1 : Int) else 0) = gt_L b z := rfl
    have g2 : (if gt_lt a z then (1 : Int) else 0) = gt_L a z := rfl
    rw [g1, g2]; omega
  · rw [gt_f_dn nz u, gt_f_dn nz u]
    have g1 : (if gt_lt z b then (-1 : Int) else 0) = -gt_L z b := by unfold gt_L; split <;> rfl
    have g2 : (if gt_lt z a then (-1 : Int) else 0) = -gt_L z a := by unfold gt_L; split <;> rfl
    rw [g1, g2]; omega
theorem gt_C_01 {a b z : gt_P} (na : gt_nz a) (nb : gt_nz b) (nz : gt_nz z) (h : ¬ gt_sd a b) (h1 : ¬ gt_sd z a) (h2 : ¬ gt_sd z b) : gt_C a b z = 0 ∨ gt_C a b z = 1 := by
  rw [← gt_s_C nz h1 h2]; exact gt_s_01 na nb nz h
/-- straight on the way from the last corner -/
theorem gt_s_a {a b z : gt_P} (na : gt_nz a) (nb : gt_nz b) (nz : gt_nz z) (h : ¬ gt_sd a b) (hz : gt_sd z a) : gt_s a b z = if gt_up a then 1 else 0 := by
  unfold gt_s
  by_cases uz : gt_up z
  · rw [gt_f_up uz, gt_f_up uz, if_pos (hz.1.mp uz), if_neg (fun k => gt_lt_nsd k (gt_sd_sw hz))]
    by_cases c1 : gt_lt a b
    · rw [if_pos c1, if_neg (fun k => gt_lt_asym c1 (gt_lt_cg2 nz na hz k))]; omega
    · have c2 := (gt_lt_tri h).resolve_left c1
      rw [if_neg c1, if_pos (gt_lt_cg2 na nz (gt_sd_sw hz) c2)]; omega
  · rw [gt_f_dn nz uz, gt_f_dn nz uz, if_neg (show ¬ gt_up a from fun k => uz (hz.1.mpr k)), if_neg (show ¬ gt_lt z a from fun k => gt_lt_nsd k hz)]
    by_cases c1 : gt_lt a b
    · rw [if_pos c1, if_pos (gt_lt_cg na nz (gt_sd_sw hz) c1)]; omega
    · rw [if_neg c1, if_neg (fun k => c1 (gt_lt_cg nz na hz k))]; omega
theorem gt_n_nz {a : gt_P} (h : gt_nz a) : gt_nz (gt_n a) := by unfold gt_nz gt_n at *; dsimp only; omega
theorem gt_n_L {x y : gt_P} (hx : gt_nz x) (hy : gt_nz y) : gt_L (gt_n x) (gt_n y) = gt_L x y - (if gt_up x then 1 else 0) + (if gt_up y then 1 else 0) := by
  have ux := gt_n_up hx
  have uy := gt_n_up hy
  have e := gt_n_x (a := x) (b := y)
  have l1 : gt_lt (gt_n x) (gt_n y) ↔ (¬ gt_up x ∧ gt_up y) ∨ ((gt_up x ↔ gt_up y) ∧ 0 < gt_x x y) := by
    show (gt_up (gt_n x) ∧ ¬ gt_up (gt_n y)) ∨ ((gt_up (gt_n x) ↔ gt_up (gt_n y)) ∧ 0 < gt_x (gt_n x) (gt_n y)) ↔ _
    rw [ux, uy, e]
    refine or_congr (and_congr Iff.rfl ⟨fun h => Classical.byContradiction h, fun h k => k h⟩) (and_congr ⟨fun h => ?_, fun h => by rw [h]⟩ Iff.rfl)
    exact ⟨fun a => Classical.byContradiction (fun b => (h.mpr b) a), fun a => Classical.byContradiction (fun b => (h.mp b) a)⟩
  unfold gt_L
  by_cases c1 : gt_up x <;> by_cases c2 : gt_up y
  · rw [if_pos c1, if_pos c2]
    by_cases c3 : 0 < gt_x x y
    · rw [if_pos (l1.mpr (Or.inr ⟨⟨fun _ => c2, fun _ => c1⟩, c3⟩)), if_pos (show gt_lt x y from Or.inr ⟨⟨fun _ => c2, fun _ => c1⟩, c3⟩)]; omega
    · rw [if_neg (show ¬ gt_lt (gt_n x) (gt_n y) from fun z => by
        rcases l1.mp z with k | k
        · exact k.1 c1
        · exact c3 k.2), if_neg (show ¬ gt_lt x y from fun z => by
        rcases z with k | k
        · exact k.2 c2
        · exact c3 k.2)]; omega
  · rw [if_pos c1, if_neg c2, if_neg (show ¬ gt_lt (gt_n x) (gt_n y) from fun z => by
        rcases l1.mp z with k | k
        · exact k.1 c1
        · exact c2 (k.1.mp c1)), if_pos (show gt_lt x y from Or.inl ⟨c1, c2⟩)]; omega
  · rw [if_neg c1, if_pos c2, if_pos (l1.mpr (Or.inl ⟨c1, c2⟩)), if_neg (show ¬ gt_lt x y from fun z => by
        rcases z with k | k
        · exact k.2 c2
        · exact c1 (k.1.mpr c2))]; omega
  · rw [if_neg c1, if_neg c2]
    by_cases c3 : 0 < gt_x x y
    · rw [if_pos (l1.mpr (Or.inr ⟨⟨fun h => absurd h c1, fun h => absurd h c2⟩, c3⟩)), if_pos (show gt_lt x y from Or.inr ⟨⟨fun h => absurd h c1, fun h => absurd h c2⟩, c3⟩)]; omega
    · rw [if_neg (show ¬ gt_lt (gt_n x) (gt_n y) from fun z => by
        rcases l1.mp z with k | k
        · exact c2 k.2
        · exact c3 k.2), if_neg (show ¬ gt_lt x y from fun z => by
        rcases z with k | k
        · exact c1 k.1
        · exact c3 k.2)]; omega
theorem gt_n_C {x y z : gt_P} (hx : gt_nz x) (hy : gt_nz y) (hz : gt_nz z) : gt_C (gt_n x) (gt_n y) (gt_n z) = gt_C x y z := by
  unfold gt_C
  rw [gt_n_L hx hy, gt_n_L hy hz, gt_n_L hz hx]; omega
/-- two turns to the left in a row -/
theorem gt_C_pos {p q r : gt_P} (np : gt_nz p) (nq : gt_nz q) (nr : gt_nz r) (h1 : ¬ gt_sd p q) (h2 : ¬ gt_sd r p) (h3 : ¬ gt_sd r q) (a : 0 < gt_x p q) (b : 0 < gt_x q r) : gt_C p q r = 1 := by
  have c01 := gt_C_01 np nq nr h1 h2 h3
  have e2 := gt_x3 p q r
  have rp := gt_x_sw (a := p) (b := r)
  unfold gt_C at *
  have l0 : ∀ x y, 0 ≤ gt_L x y := fun x y => by unfold gt_L; split <;> omega
  have g1 := l0 p q
  have g2 := l0 q r
  have g3 := l0 r p
  have one : ∀ {x y : gt_P}, gt_lt x y → gt_L x y = 1 := fun h => if_pos h
  by_cases up : gt_up p <;> by_cases uq : gt_up q <;> by_cases ur : gt_up r
  · have := one (Or.inr ⟨⟨fun _ => uq, fun _ => up⟩, a⟩ : gt_lt p q)
    have := one (Or.inr ⟨⟨fun _ => ur, fun _ => uq⟩, b⟩ : gt_lt q r)
    omega
  · have := one (Or.inr ⟨⟨fun _ => uq, fun _ => up⟩, a⟩ : gt_lt p q)
    have := one (Or.inl ⟨uq, ur⟩ : gt_lt q r)
    omega
  · have := one (Or.inl ⟨up, uq⟩ : gt_lt p q)
    -- p, r up, q not
    have x0 : gt_x r p ≠ 0 := fun z => h2 ⟨⟨fun _ => up, fun _ => ur⟩, z⟩
    have hp2 : 0 ≤ p.2 := by rcases up with u | u <;> omega
    have hr2 : 0 ≤ r.2 := by rcases ur with u | u <;> omega
    have hq2 : q.2 ≤ 0 := by omega
    have k : 0 < gt_x r p := by
      refine Int.lt_of_not_ge (fun w => ?_)
      have w' : 0 < gt_x p r := by omega
      have m1 := Int.mul_nonneg hp2 (show 0 ≤ gt_x q r by omega)
      have m2 := Int.mul_nonneg hr2 (show 0 ≤ gt_x p q by omega)
      have m3 := gt_sp q.2 (gt_x p r)
      have m4 := gt_sp p.2 (gt_x q r)
      have m5 := gt_sp r.2 (gt_x p q)
      have p0 : p.2 = 0 := by omega
      have r0 : r.2 = 0 := by omega
      unfold gt_x at w'
      rw [p0, r0] at w'
      omega
    have := one (Or.inr ⟨⟨fun _ => up, fun _ => ur⟩, k⟩ : gt_lt r p)
    omega
  · have := one (Or.inl ⟨up, uq⟩ : gt_lt p q)
    have := one (Or.inr ⟨⟨fun h => absurd h uq, fun h => absurd h ur⟩, b⟩ : gt_lt q r)
    omega
  · have := one (Or.inr ⟨⟨fun _ => ur, fun _ => uq⟩, b⟩ : gt_lt q r)
    have := one (Or.inl ⟨ur, up⟩ : gt_lt r p)
    omega
  · have := one (Or.inl ⟨uq, ur⟩ : gt_lt q r)
    have x0 : gt_x r p ≠ 0 := fun z => h2 ⟨⟨fun h => absurd h ur, fun h => absurd h up⟩, z⟩
    have hp2 : p.2 ≤ 0 := by omega
    have hr2 : r.2 ≤ 0 := by omega
    have hq2 : 0 ≤ q.2 := by rcases uq with u | u <;> omega
    have k : 0 < gt_x r p := by
      refine Int.lt_of_not_ge (fun w => ?_)
      have w' : 0 < gt_x p r := by omega
      have m3 := gt_sp q.2 (gt_x p r)
      have m4 := gt_sp p.2 (gt_x q r)
      have m5 := gt_sp r.2 (gt_x p q)
      have p0 : p.2 = 0 := by omega
      have r0 : r.2 = 0 := by omega
      unfold gt_x at w'
      rw [p0, r0] at w'
      omega
    have := one (Or.inr ⟨⟨fun h => absurd h ur, fun h => absurd h up⟩, k⟩ : gt_lt r p)
    omega
  · have := one (Or.inr ⟨⟨fun h => absurd h up, fun h => absurd h uq⟩, a⟩ : gt_lt p q)
    have := one (Or.inl ⟨ur, up⟩ : gt_lt r p)
    omega
  · have := one (Or.inr ⟨⟨fun h => absurd h up, fun h => absurd h uq⟩, a⟩ : gt_lt p q)
    have := one (Or.inr ⟨⟨fun h => absurd h uq, fun h => absurd h ur⟩, b⟩ : gt_lt q r)
    omega
/-- two corners at one point that lie apart -/
def gt_ap2 (a b a' b' : gt_P) : Prop := ∀ d, gt_s a b d + gt_s a' b' d ≤ 1 ∧ gt_s (gt_n a) (gt_n b) d + gt_s (gt_n a') (gt_n b') d ≤ 1
theorem gt_ap2_sw {a b a' b' : gt_P} (h : gt_ap2 a b a' b') : gt_ap2 a' b' a b := fun d => by
  have := h d
  omega
theorem gt_ap2_b {a b a' b' : gt_P} (na : gt_nz a) (nb : gt_nz b) (na' : gt_nz a') (nb' : gt_nz b') (h1 : ¬ gt_sd a b) (h2 : ¬ gt_sd a' b') (h : gt_ap2 a b a' b') : ¬ gt_sd b b' := fun z => by
  by_cases u : gt_up b
  · have k := (h (gt_n b)).2
    have n1 : ¬ gt_sd (gt_n a) (gt_n b) := fun w => h1 ((gt_n_sd na nb).mp w)
    have n2 : ¬ gt_sd (gt_n a') (gt_n b') := fun w => h2 ((gt_n_sd na' nb').mp w)
    rw [gt_s_b (gt_n_nz na) (gt_n_nz nb) (gt_n_nz nb) n1 gt_sd_refl, gt_s_b (gt_n_nz na') (gt_n_nz nb') (gt_n_nz nb) n2 ((gt_n_sd nb nb').mpr z), if_neg (fun w => (gt_n_up nb).mp w u), if_neg (fun w => (gt_n_up nb').mp w (z.1.mp u))] at k
    omega
  · have k := (h b).1
    rw [gt_s_b na nb nb h1 gt_sd_refl, gt_s_b na' nb' nb h2 z, if_neg u, if_neg (fun w => u (z.1.mpr w))] at k
    omega
theorem gt_ap2_a {a b a' b' : gt_P} (na : gt_nz a) (nb : gt_nz b) (na' : gt_nz a') (nb' : gt_nz b') (h1 : ¬ gt_sd a b) (h2 : ¬ gt_sd a' b') (h : gt_ap2 a b a' b') : ¬ gt_sd a a' := fun z => by
  by_cases u : gt_up a
  · have k := (h a).1
    rw [gt_s_a na nb na h1 gt_sd_refl, gt_s_a na' nb' na h2 z, if_pos u, if_pos (z.1.mp u)] at k
    omega
  · have k := (h (gt_n a)).2
    have n1 : ¬ gt_sd (gt_n a) (gt_n b) := fun w => h1 ((gt_n_sd na nb).mp w)
    have n2 : ¬ gt_sd (gt_n a') (gt_n b') := fun w => h2 ((gt_n_sd na' nb').mp w)
    rw [gt_s_a (gt_n_nz na) (gt_n_nz nb) (gt_n_nz na) n1 gt_sd_refl, gt_s_a (gt_n_nz na') (gt_n_nz nb') (gt_n_nz na) n2 ((gt_n_sd na na').mpr z), if_pos ((gt_n_up na).mpr u), if_pos ((gt_n_up na').mpr (fun w => u (z.1.mpr w)))] at k
    omega
/-- the way on of the one is not within the other's corner -/
theorem gt_ap2_C {a b a' b' : gt_P} (na : gt_nz a) (nb : gt_nz b) (na' : gt_nz a') (nb' : gt_nz b') (h1 : ¬ gt_sd a b) (h2 : ¬ gt_sd a' b') (h : gt_ap2 a b a' b') : (¬ gt_sd b a' → gt_C a' b' b = 0) ∧ (¬ gt_sd a b' → gt_C a' b' a = 0) := by
  have gb := gt_ap2_b na nb na' nb' h1 h2 h
  have ga := gt_ap2_a na nb na' nb' h1 h2 h
  have n1 : ¬ gt_sd (gt_n a) (gt_n b) := fun w => h1 ((gt_n_sd na nb).mp w)
  constructor
  · intro n
    have c01 := gt_C_01 na' nb' nb h2 n gb
    by_cases u : gt_up b
    · have k := (h (gt_n b)).2
      rw [gt_s_b (gt_n_nz na) (gt_n_nz nb) (gt_n_nz nb) n1 gt_sd_refl, if_neg (fun w => (gt_n_up nb).mp w u), gt_s_C (gt_n_nz nb) (fun w => n ((gt_n_sd nb na').mp w)) (fun w => gb ((gt_n_sd nb nb').mp w)), gt_n_C na' nb' nb] at k
      omega
    · have k := (h b).1
      rw [gt_s_b na nb nb h1 gt_sd_refl, if_neg u, gt_s_C nb n gb] at k
      omega
  · intro n
    have c01 := gt_C_01 na' nb' na h2 ga n
    by_cases u : gt_up a
    · have k := (h a).1
      rw [gt_s_a na nb na h1 gt_sd_refl, if_pos u, gt_s_C na ga n] at k
      omega
    · have k := (h (gt_n a)).2
      rw [gt_s_a (gt_n_nz na) (gt_n_nz nb) (gt_n_nz na) n1 gt_sd_refl, if_pos ((gt_n_up na).mpr u), gt_s_C (gt_n_nz na) (fun w => ga ((gt_n_sd na na').mp w)) (fun w => n ((gt_n_sd na nb').mp w)), gt_n_C na' nb' na] at k
      omega
/-! two FIGURES that lie apart, each with the other's corners on it -/
def gt_pr (A B : List gt_P) : Prop := (gt_fig A ∧ gt_fig B) ∧ gt_dj A B ∧ (∀ e ∈ gt_ed A, ∀ c ∈ B, gt_O e.1 e.2 c → c = e.1 ∨ c = e.2) ∧ ∀ e ∈ gt_ed B, ∀ c ∈ A, gt_O e.1 e.2 c → c = e.1 ∨ c = e.2
theorem gt_dj_sw {A B : List gt_P} (h : gt_dj A B) : gt_dj B A := fun K z hK => by
  have := h K z hK
  omega
theorem gt_pr_sw {A B : List gt_P} (h : gt_pr A B) : gt_pr B A := ⟨⟨h.1.2, h.1.1⟩, gt_dj_sw h.2.1, h.2.2.2, h.2.2.1⟩
/-- the turn that begins at a corner, with what comes ahead of it last -/
theorem gt_turn_v {l : List gt_P} (h : gt_smp l) {a v b : gt_P} (h1 : (a, v) ∈ gt_ed l) (h2 : (v, b) ∈ gt_ed l) : ∃ r, gt_ref l (v :: b :: r) ∧ gt_ls b r = a := by
  have hl : l ≠ [] := fun z => by rw [z] at h1; cases h1
  obtain ⟨x, y, c, r0, e0⟩ := gt_smp_3 h hl
  obtain ⟨s, t, r, e1, e2⟩ := gt_ed_turn (by rw [e0]; simp) h2
  have e2 : t ++ s = v :: b :: r := e2
  have ref : gt_ref l (v :: b :: r) := by
    have := gt_ref_rot (s := s) (t := t) (by rw [← e1]; exact h)
    rw [← e1, e2] at this
    exact this
  refine ⟨r, ref, ?_⟩
  have m1 : (a, v) ∈ gt_ed (v :: b :: r) := by rw [← e2]; exact gt_ed_rot.mem_iff.mpr (by rw [← e1]; exact h1)
  have m2 : (gt_ls b r, v) ∈ gt_ed (v :: b :: r) := by
    show _ ∈ (v, b) :: gt_pe b (r ++ [v])
    rw [gt_pe_app]
    exact List.mem_cons_of_mem _ (List.mem_append.mpr (Or.inr (List.mem_cons_self ..)))
  exact congrArg Prod.fst (gt_one2 ref.1 m2 m1 rfl)
theorem gt_dj_ap {A B : List gt_P} (hA : gt_smp A) (hB : gt_smp B) (kA : gt_k A = 0) (kB : gt_k B = 0) (h : gt_dj A B) {a v b a' b' : gt_P} (a1 : (a, v) ∈ gt_ed A) (a2 : (v, b) ∈ gt_ed A) (b1 : (a', v) ∈ gt_ed B) (b2 : (v, b') ∈ gt_ed B) : gt_ap2 (gt_d v a) (gt_d v b) (gt_d v a') (gt_d v b') := by
  obtain ⟨r, ref, lr⟩ := gt_turn_v hA a1 a2
  obtain ⟨s, ref', ls⟩ := gt_turn_v hB b1 b2
  intro d
  have := gt_dj_loc ref.1 ref'.1 (by rw [ref.2.1]; exact kA) (by rw [ref'.2.1]; exact kB) (gt_dj_ref h ref ref') d
  rw [lr, ls] at this
  exact this
theorem gt_dj_g {A B : List gt_P} (h : gt_dj A B) {K : Int} (hK : 0 < K) : gt_dj (A.map (gt_g K)) (B.map (gt_g K)) := fun L z hL => by
  have m : ∀ l : List gt_P, (l.map (gt_g K)).map (gt_g L) = l.map (gt_g (L * K)) := fun l => by
    rw [List.map_map]
    congr 1
    funext p
    show gt_g L (gt_g K p) = gt_g (L * K) p
    unfold gt_g
    dsimp only
    exact Prod.ext (by show L * (K * p.1) = L * K * p.1; grind) (by show L * (K * p.2) = L * K * p.2; grind)
  have n : ∀ l : List gt_P, (l.map (gt_g K)).map gt_n = (l.map gt_n).map (gt_g K) := fun l => by
    rw [List.map_map, List.map_map]
    congr 1
    funext p
    show gt_n (gt_g K p) = gt_g K (gt_n p)
    unfold gt_g gt_n
    dsimp only
    exact Prod.ext (by show -(K * p.1) = K * -p.1; grind) (by show -(K * p.2) = K * -p.2; grind)
  rw [m, m, n, n, m, m]
  exact h (L * K) z (Int.mul_pos hL hK)
/-- a point on the way from p to q, and one on the left of it -/
theorem gt_left {p q z y : gt_P} (h : gt_O p q z) (n1 : z ≠ p) (n2 : z ≠ q) (k : 0 < gt_t p q y) : 0 < gt_x (gt_d z q) (gt_d z y) ∧ 0 < gt_x (gt_d z y) (gt_d z p) := by
  obtain ⟨s, t, h1, h2, h3, h4, h5, h6, h7⟩ := gt_O_t h p q
  obtain ⟨s', t', k1, k2, k3, k4, k5, k6, k7⟩ := gt_O_t (gt_O_sw h) p q
  have s0 : 0 < s := Int.lt_of_not_ge (fun w => n1 (h6 (by omega)))
  have s0' : 0 < s' := Int.lt_of_not_ge (fun w => n2 (k6 (by omega)))
  have g1 := (gt_sg h1 s0 (h5 y)).1
  have g2 := (gt_sg k1 s0' (k5 y)).2.1
  have w2 : gt_t q p y = -gt_t p q y := by unfold gt_t; rw [gt_sw]
  have e1 : gt_x (gt_d z q) (gt_d z y) = -gt_t q z y := by unfold gt_x gt_d gt_t g_turn; dsimp only; grind
  have e2 : gt_x (gt_d z y) (gt_d z p) = gt_t p z y := by unfold gt_x gt_d gt_t g_turn; dsimp only; grind
  rw [e1, e2]
  have a := g2.mpr (by omega)
  have b := g1.mpr k
  exact ⟨by omega, b⟩
theorem gt_nsd_x {a b : gt_P} (h : gt_x a b ≠ 0) : ¬ gt_sd a b := fun z => h z.2
/-- no stretch of the one goes right across one of the other -/
theorem gt_noX {A B : List gt_P} (h : gt_pr A B) {e f : gt_E} (he : e ∈ gt_ed A) (hf : f ∈ gt_ed B) {K : Int} (hK : 0 < K) {z : gt_P} (z1 : gt_O (gt_g K e.1) (gt_g K e.2) z) (z2 : gt_O (gt_g K f.1) (gt_g K f.2) z) (n1 : z ≠ gt_g K e.1) (n2 : z ≠ gt_g K e.2) (n3 : z ≠ gt_g K f.1) (n4 : z ≠ gt_g K f.2) (hx : gt_t e.1 e.2 f.1 * gt_t e.1 e.2 f.2 < 0) : False := by
  obtain ⟨⟨⟨sA, lA, kA⟩, sB, lB, kB⟩, dj, -, -⟩ := h
  have ins : ∀ {l : List gt_P} {e : gt_E}, gt_smp l → e ∈ gt_ed l → gt_O (gt_g K e.1) (gt_g K e.2) z → z ≠ gt_g K e.1 → z ≠ gt_g K e.2 → ∃ r, gt_ref (l.map (gt_g K)) (z :: gt_g K e.2 :: (r ++ [gt_g K e.1])) := fun {l e} hs he ho m1 m2 => by
    have hl : l ≠ [] := fun z => by rw [z] at he; cases he
    obtain ⟨x, y, c, r0, e0⟩ := gt_smp_3 hs hl
    obtain ⟨s, t, r, e1, e2⟩ := gt_ed_turn (by rw [e0]; simp) he
    have r1 : gt_ref (l.map (gt_g K)) (gt_g K e.1 :: gt_g K e.2 :: r.map (gt_g K)) := by
      have hs2 := gt_g_smp hK hs
      rw [e1, List.map_append] at hs2 ⊢
      have := gt_ref_rot hs2
      have e3 : t.map (gt_g K) ++ s.map (gt_g K) = gt_g K e.1 :: gt_g K e.2 :: r.map (gt_g K) := by rw [← List.map_append, e2]; rfl
      rw [e3] at this
      exact this
    have r2 := gt_ref_trans r1 (gt_ref_ins r1.1 ho m1 m2)
    have r3 := gt_ref_trans r2 (gt_ref_rot (s := [gt_g K e.1]) (t := z :: gt_g K e.2 :: r.map (gt_g K)) r2.1)
    exact ⟨r.map (gt_g K), r3⟩
  obtain ⟨r, rA⟩ := ins sA he z1 n1 n2
  obtain ⟨s, rB⟩ := ins sB hf z2 n3 n4
  have ap : gt_ap2 (gt_d z (gt_g K e.1)) (gt_d z (gt_g K e.2)) (gt_d z (gt_g K f.1)) (gt_d z (gt_g K f.2)) := fun d => by
    have := gt_dj_loc rA.1 rB.1 (by rw [rA.2.1, gt_g_k hK]; exact kA) (by rw [rB.2.1, gt_g_k hK]; exact kB) (gt_dj_ref (gt_dj_g dj hK) rA rB) d
    have l1 : gt_ls (gt_g K e.2) (r ++ [gt_g K e.1]) = gt_g K e.1 := by rw [gt_ls_app]; rfl
    have l2 : gt_ls (gt_g K f.2) (s ++ [gt_g K f.1]) = gt_g K f.1 := by rw [gt_ls_app]; rfl
    rw [l1, l2] at this
    exact this
  have oA := gt_st_opp z1 n1 n2
  have oB := gt_st_opp z2 n3 n4
  have na := gt_d_nz n1
  have nb := gt_d_nz n2
  have na' := gt_d_nz n3
  have nb' := gt_d_nz n4
  obtain ⟨c1, c2⟩ := gt_ap2_C na' nb' na nb oB oA (gt_ap2_sw ap)
  -- the end on the left
  have fin : ∀ y, 0 < gt_t e.1 e.2 y → gt_nz (gt_d z (gt_g K y)) → (¬ gt_sd (gt_d z (gt_g K y)) (gt_d z (gt_g K e.1)) → ¬ gt_sd (gt_d z (gt_g K y)) (gt_d z (gt_g K e.2)) → gt_C (gt_d z (gt_g K e.1)) (gt_d z (gt_g K e.2)) (gt_d z (gt_g K y)) = 0) → False := fun y hy ny hc => by
    obtain ⟨p1, p2⟩ := gt_left (y := gt_g K y) z1 n1 n2 (by rw [gt_g_t]; exact (gt_g_p hK).1.mpr hy)
    have m1 : ¬ gt_sd (gt_d z (gt_g K e.2)) (gt_d z (gt_g K y)) := gt_nsd_x (by omega)
    have m2 : ¬ gt_sd (gt_d z (gt_g K y)) (gt_d z (gt_g K e.1)) := gt_nsd_x (by omega)
    have k := gt_C_pos nb ny na m1 oA (fun w => m2 (gt_sd_sw w)) p1 p2
    have := hc m2 (fun w => m1 (gt_sd_sw w))
    rw [gt_C_cyc, gt_C_cyc] at k
    rw [gt_C_cyc] at k
    rw [gt_C_cyc, gt_C_cyc] at k
    omega
  rcases Int.lt_trichotomy (gt_t e.1 e.2 f.1) 0 with q | q | q
  · have : 0 < gt_t e.1 e.2 f.2 := by
      have s := gt_sp (gt_t e.1 e.2 f.1) (gt_t e.1 e.2 f.2)
      rcases Int.lt_trichotomy (gt_t e.1 e.2 f.2) 0 with w | w | w
      · omega
      · omega
      · exact w
    exact fin f.2 this nb' (fun a b => c1 a)
  · rw [q, Int.zero_mul] at hx; omega
  · exact fin f.1 q na' (fun a b => c2 b)
/-- where they touch, they touch at corners -/
theorem gt_touch {A B : List gt_P} (h : gt_pr A B) {e f : gt_E} (he : e ∈ gt_ed A) (hf : f ∈ gt_ed B) (hm : gt_M e.1 e.2 f.1 f.2) : ((e.1 = f.1 ∨ e.1 = f.2) ∨ (e.2 = f.1 ∨ e.2 = f.2)) := by
  obtain ⟨⟨hA, hB⟩, dj, pA, pB⟩ := id h
  obtain ⟨K, hK, z, z1, z2⟩ := gt_M_ex hm
  have mA := gt_ed_mem he
  have mB := gt_ed_mem hf
  by_cases n1 : z = gt_g K e.1
  · rw [n1, gt_g_O hK] at z2
    exact Or.inl (pB f hf e.1 mA.1 z2)
  by_cases n2 : z = gt_g K e.2
  · rw [n2, gt_g_O hK] at z2
    exact Or.inr (pB f hf e.2 mA.2 z2)
  by_cases n3 : z = gt_g K f.1
  · rw [n3, gt_g_O hK] at z1
    rcases pA e he f.1 mB.1 z1 with k | k
    · exact Or.inl (Or.inl k.symm)
    · exact Or.inr (Or.inl k.symm)
  by_cases n4 : z = gt_g K f.2
  · rw [n4, gt_g_O hK] at z1
    rcases pA e he f.2 mB.2 z1 with k | k
    · exact Or.inl (Or.inr k.symm)
    · exact Or.inr (Or.inr k.symm)
  rcases gt_cross z1 z2 n1 n2 with w | w | w | w
  · rw [gt_g_t, gt_g_t, gt_g_t, gt_g_t, gt_g_mm hK, gt_g_mm hK] at w
    exact absurd (gt_noX h he hf hK z1 z2 n1 n2 n3 n4 w.1) id
  · rw [gt_g_O hK] at w
    rcases pA e he f.1 mB.1 w.1 with k | k
    · exact Or.inl (Or.inl k.symm)
    · exact Or.inr (Or.inl k.symm)
  · rw [gt_g_O hK] at w
    rcases pA e he f.2 mB.2 w.1 with k | k
    · exact Or.inl (Or.inr k.symm)
    · exact Or.inr (Or.inr k.symm)
  · rw [gt_g_O hK, gt_g_O hK] at w
    exact Or.inl (pB f hf e.1 mA.1 w.1)
