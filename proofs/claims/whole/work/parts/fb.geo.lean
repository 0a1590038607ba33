/-! geometry: the area along lines -/
/-! the area as a sum along lines -/
theorem gt_gs_add {f g : Nat → Int} : ∀ n, g_sum (fun i => f i + g i) n = g_sum f n + g_sum g n
  | 0 => rfl
  | n + 1 => by
    show g_sum (fun i => f i + g i) n + (f n + g n) = g_sum f n + f n + (g_sum g n + g n)
    rw [gt_gs_add n]; omega
theorem gt_gs_0 : ∀ n, g_sum (fun _ => 0) n = 0
  | 0 => rfl
  | n + 1 => by show g_sum (fun _ => 0) n + 0 = 0; rw [gt_gs_0 n]; rfl
theorem gt_gs_neg {f : Nat → Int} : ∀ n, g_sum (fun i => -f i) n = -g_sum f n
  | 0 => rfl
  | n + 1 => by show g_sum (fun i => -f i) n + -f n = -(g_sum f n + f n); rw [gt_gs_neg n]; omega
theorem gt_gs_cg {f g : Nat → Int} : ∀ {n}, (∀ i, i < n → f i = g i) → g_sum f n = g_sum g n
  | 0, _ => rfl
  | n + 1, h => by
    show g_sum f n + f n = g_sum g n + g n
    rw [gt_gs_cg (fun i hi => h i (by omega)), h n (by omega)]
theorem gt_gs_pos {f : Nat → Int} : ∀ {n}, (∀ i, i < n → 0 ≤ f i) → 0 ≤ g_sum f n ∧ (g_sum f n = 0 → ∀ i, i < n → f i = 0)
  | 0, _ => ⟨Int.le_refl _, fun _ i hi => by omega⟩
  | n + 1, h => by
    have a := gt_gs_pos (f := f) (n := n) (fun i hi => h i (by omega))
    have b := h n (by omega)
    show 0 ≤ g_sum f n + f n ∧ (g_sum f n + f n = 0 → _)
    refine ⟨by omega, fun e i hi => ?_⟩
    by_cases c : i = n
    · rw [c]; omega
    · exact a.2 (by omega) i (by omega)
theorem gt_gs_lt {X : Int} (h : 0 ≤ X) : ∀ n : Nat, g_sum (fun t => if (t : Int) < X then 1 else 0) n = if X ≤ n then X else n
  | 0 => by
    show (0 : Int) = _
    split <;> omega
  | n + 1 => by
    show g_sum (fun t => if (t : Int) < X then 1 else 0) n + (if (n : Int) < X then 1 else 0) = _
    rw [gt_gs_lt h n]
    split <;> split <;> split <;> omega
theorem gt_gs_tri {A B P m d : Int} (h : 0 ≤ A ∧ A ≤ B) : ∀ n : Nat, g_sum (fun j => if A ≤ (j : Int) ∧ (j : Int) < B then P + m * ((2 * (j : Int) + 1 - 2 * A) * d) else 0) n = if (n : Int) ≤ A then 0 else if (n : Int) ≤ B then (n - A) * P + m * ((n - A) * (n - A) * d) else (B - A) * P + m * ((B - A) * (B - A) * d)
  | 0 => by
    rw [if_pos (by omega)]
    rfl
  | n + 1 => by
    show g_sum _ n + (if A ≤ (n : Int) ∧ (n : Int) < B then P + m * ((2 * (n : Int) + 1 - 2 * A) * d) else 0) = _
    rw [gt_gs_tri h n]
    by_cases c1 : ((n + 1 : Nat) : Int) ≤ A
    · rw [if_pos (by omega), if_neg (by omega), if_pos c1]; rfl
    · rw [if_neg c1]
      by_cases c2 : ((n + 1 : Nat) : Int) ≤ B
      · rw [if_pos c2, if_pos (by omega : A ≤ (n : Int) ∧ (n : Int) < B)]
        by_cases c3 : (n : Int) ≤ A
        · rw [if_pos c3]
          have : (n : Int) = A := by omega
          rw [show ((n + 1 : Nat) : Int) = A + 1 by omega, this]
          grind
        · rw [if_neg c3, if_pos (by omega)]
          rw [show ((n + 1 : Nat) : Int) = (n : Int) + 1 by omega]
          generalize (n : Int) = x
          grind
      · rw [if_neg c2, if_neg (by omega : ¬ (A ≤ (n : Int) ∧ (n : Int) < B))]
        by_cases c3 : (n : Int) ≤ A
        · have e1 : (n : Int) = A := by omega
          have e2 : A = B := by omega
          rw [if_pos c3, e2]
          grind
        · rw [if_neg c3]
          by_cases c4 : (n : Int) ≤ B
          · have : (n : Int) = B := by omega
            rw [if_pos c4, this]; omega
          · rw [if_neg c4]; omega
theorem gt_cs_up {px py ax ay bx b : Int} (lt : ay < b) : g_cs px py ax ay bx b = if (ay ≤ py ∧ py < b) ∧ 0 < g_turn ax ay bx b px py then 1 else 0 := by
  unfold g_cs
  by_cases c : (ay ≤ py ∧ py < b) ∧ 0 < g_turn ax ay bx b px py
  · rw [if_pos c, if_pos c]
  · rw [if_neg c, if_neg c, if_neg (fun w => by omega)]
theorem gt_es_up {M : Int} {N : Nat} (hM : 0 < M) {a b : gt_P} (ha : (0 ≤ a.1 ∧ a.1 ≤ N) ∧ 0 ≤ a.2 ∧ a.2 ≤ N) (hb : (0 ≤ b.1 ∧ b.1 ≤ N) ∧ 0 ≤ b.2 ∧ b.2 ≤ N) (lt : a.2 < b.2) {m : Int} (hm : M = (b.2 - a.2) * m) : g_sum (fun j => g_sum (fun t => gt_c ((t : Int) - 1, 2 * M * j + M) (gt_g (2 * M) a) (gt_g (2 * M) b)) (2 * M * N + 1).toNat) N = M * ((b.2 - a.2) * (a.1 + b.1)) + (b.2 - a.2) := by
  have hd : 0 < b.2 - a.2 := by omega
  have m0 : 0 < m := by
    have := (gt_sp (b.2 - a.2) m)
    rcases Int.lt_trichotomy m 0 with q | q | q
    · have := this.2.1 hd q; omega
    · have := this.2.2.2.2.2 q; omega
    · exact q
  have row : ∀ j : Nat, j < N → g_sum (fun t => gt_c ((t : Int) - 1, 2 * M * j + M) (gt_g (2 * M) a) (gt_g (2 * M) b)) (2 * M * N + 1).toNat = if a.2 ≤ (j : Int) ∧ (j : Int) < b.2 then (2 * M * a.1 + 1) + m * ((2 * (j : Int) + 1 - 2 * a.2) * (b.1 - a.1)) else 0 := by
    intro j hj
    have y1 : 2 * M * a.2 ≤ 2 * M * j + M ↔ a.2 ≤ (j : Int) := by
      constructor
      · intro h
        refine Int.le_of_lt_add_one (Int.lt_of_not_ge (fun w => ?_))
        have := Int.mul_le_mul_of_nonneg_left w (show 0 ≤ 2 * M by omega)
        rw [Int.mul_add, Int.mul_one] at this
        omega
      · intro h
        have := Int.mul_le_mul_of_nonneg_left h (show 0 ≤ 2 * M by omega)
        omega
    have y2 : 2 * M * j + M < 2 * M * b.2 ↔ (j : Int) < b.2 := by
      constructor
      · intro h
        refine Int.lt_of_not_ge (fun w => ?_)
        have := Int.mul_le_mul_of_nonneg_left w (show 0 ≤ 2 * M by omega)
        omega
      · intro h
        have := Int.mul_le_mul_of_nonneg_left (show (j : Int) + 1 ≤ b.2 by omega) (show 0 ≤ 2 * M by omega)
        rw [Int.mul_add, Int.mul_one] at this
        omega
    have y3 : 2 * M * a.2 < 2 * M * b.2 := Int.mul_lt_mul_of_pos_left lt (by omega)
    by_cases c : a.2 ≤ (j : Int) ∧ (j : Int) < b.2
    · rw [if_pos c]
      generalize hs : 2 * (j : Int) + 1 - 2 * a.2 = s
      have s1 : 0 < s := by omega
      have s2 : s < 2 * (b.2 - a.2) := by omega
      generalize hX : 2 * M * a.1 + m * (s * (b.1 - a.1)) = X
      rw [show 2 * M * a.1 + 1 + m * (s * (b.1 - a.1)) = X + 1 by omega]
      have ex : X = m * ((2 * (b.2 - a.2) - s) * a.1 + s * b.1) := by rw [← hX, hm]; grind
      have x0 : 0 ≤ X := by
        rw [ex]
        exact Int.mul_nonneg (by omega) (Int.add_nonneg (Int.mul_nonneg (by omega) ha.1.1) (Int.mul_nonneg (by omega) hb.1.1))
      have x1 : X ≤ 2 * M * N := by
        have q1 := Int.mul_le_mul_of_nonneg_left ha.1.2 (show 0 ≤ 2 * (b.2 - a.2) - s by omega)
        have q2 := Int.mul_le_mul_of_nonneg_left hb.1.2 (show 0 ≤ s by omega)
        have q3 := Int.mul_le_mul_of_nonneg_left (Int.add_le_add q1 q2) (show 0 ≤ m by omega)
        have : 2 * M * N = m * ((2 * (b.2 - a.2) - s) * N + s * N) := by rw [hm]; grind
        rw [ex, this]
        exact q3
      have cell : ∀ t : Nat, gt_c ((t : Int) - 1, 2 * M * j + M) (gt_g (2 * M) a) (gt_g (2 * M) b) = if (t : Int) < X + 1 then 1 else 0 := by
        intro t
        have tu : g_turn (2 * M * a.1) (2 * M * a.2) (2 * M * b.1) (2 * M * b.2) ((t : Int) - 1) (2 * M * j + M) = (2 * M * (b.2 - a.2)) * (X + 1 - t) := by
          unfold g_turn
          rw [← hX, ← hs]
          generalize (j : Int) = jj
          generalize (t : Int) = tt
          rw [hm]
          grind
        have pp : 0 < 2 * M * (b.2 - a.2) := Int.mul_pos (by omega) hd
        show g_cs ((t : Int) - 1) (2 * M * j + M) (2 * M * a.1) (2 * M * a.2) (2 * M * b.1) (2 * M * b.2) = _
        rw [gt_cs_up y3, tu]
        by_cases k : (t : Int) < X + 1
        · rw [if_pos k, if_pos ⟨⟨y1.mpr c.1, y2.mpr c.2⟩, Int.mul_pos pp (by omega)⟩]
        · rw [if_neg k, if_neg (fun w => by
            have := Int.mul_nonneg (show 0 ≤ 2 * M * (b.2 - a.2) by omega) (show 0 ≤ (t : Int) - (X + 1) by omega)
            rw [show (2 * M * (b.2 - a.2)) * ((t : Int) - (X + 1)) = -((2 * M * (b.2 - a.2)) * (X + 1 - t)) by grind] at this
            omega)]
      rw [gt_gs_cg (fun t _ => cell t), gt_gs_lt (by omega), if_pos (by omega)]
    · rw [if_neg c]
      rw [gt_gs_cg (g := fun _ => 0) (fun t _ => ?_), gt_gs_0]
      show g_cs ((t : Int) - 1) (2 * M * j + M) (2 * M * a.1) (2 * M * a.2) (2 * M * b.1) (2 * M * b.2) = _
      rw [gt_cs_up y3, if_neg (fun w => c ⟨y1.mp w.1.1, y2.mp w.1.2⟩)]
  rw [gt_gs_cg row, gt_gs_tri ⟨ha.2.1, by omega⟩ N, if_neg (by omega)]
  have q : M * ((b.2 - a.2) * (a.1 + b.1)) + (b.2 - a.2) = (b.2 - a.2) * (2 * M * a.1 + 1) + m * ((b.2 - a.2) * (b.2 - a.2) * (b.1 - a.1)) := by rw [hm]; grind
  rw [q]
  by_cases c : (N : Int) ≤ b.2
  · rw [if_pos c, show (N : Int) = b.2 by omega]
  · rw [if_neg c]
theorem gt_es {M : Int} {N : Nat} (hM : 0 < M) {a b : gt_P} (ha : (0 ≤ a.1 ∧ a.1 ≤ N) ∧ 0 ≤ a.2 ∧ a.2 ≤ N) (hb : (0 ≤ b.1 ∧ b.1 ≤ N) ∧ 0 ≤ b.2 ∧ b.2 ≤ N) (hm : b.2 - a.2 ≠ 0 → ∃ m, M = (b.2 - a.2) * m) : g_sum (fun j => g_sum (fun t => gt_c ((t : Int) - 1, 2 * M * j + M) (gt_g (2 * M) a) (gt_g (2 * M) b)) (2 * M * N + 1).toNat) N = M * ((b.2 - a.2) * (a.1 + b.1)) + (b.2 - a.2) := by
  rcases Int.lt_trichotomy a.2 b.2 with q | q | q
  · obtain ⟨m, e⟩ := hm (by omega)
    exact gt_es_up hM ha hb q e
  · rw [show b.2 - a.2 = 0 by omega, Int.zero_mul, Int.mul_zero, Int.add_zero]
    rw [gt_gs_cg (g := fun _ => 0) (fun j _ => ?_), gt_gs_0]
    rw [gt_gs_cg (g := fun _ => 0) (fun t _ => ?_), gt_gs_0]
    show g_cs ((t : Int) - 1) (2 * M * j + M) (2 * M * a.1) (2 * M * a.2) (2 * M * b.1) (2 * M * b.2) = _
    unfold g_cs
    rw [q, if_neg (fun w => by omega), if_neg (fun w => by omega)]
  · obtain ⟨m, e⟩ := hm (by omega)
    have u := gt_es_up (m := -m) hM hb ha q (by rw [e]; grind)
    have sw : ∀ j : Nat, g_sum (fun t => gt_c ((t : Int) - 1, 2 * M * j + M) (gt_g (2 * M) a) (gt_g (2 * M) b)) (2 * M * N + 1).toNat = -g_sum (fun t => gt_c ((t : Int) - 1, 2 * M * j + M) (gt_g (2 * M) b) (gt_g (2 * M) a)) (2 * M * N + 1).toNat := fun j => by
      rw [← gt_gs_neg]
      exact gt_gs_cg (fun t _ => gt_c_sw)
    rw [gt_gs_cg (fun j _ => sw j), gt_gs_neg, u]
    grind
def gt_ar (a b : gt_P) : Int := a.1 * b.2 - b.1 * a.2
theorem gt_ps_df {f : gt_P → Int} : ∀ {a : gt_P} {l : List gt_P}, gt_ps (fun a b => f b - f a) a l = f (gt_ls a l) - f a
  | a, [] => by show (0 : Int) = f a - f a; omega
  | a, b :: l => by
    show f b - f a + gt_ps (fun a b => f b - f a) b l = f (gt_ls b l) - f a
    rw [gt_ps_df]; omega
theorem gt_sm_df {f : gt_P → Int} {l : List gt_P} : gt_sm (fun a b => f b - f a) (gt_ed l) = 0 := by
  cases l with
  | nil => rfl
  | cons v r =>
    show gt_sm _ (gt_pe v (r ++ [v])) = 0
    rw [← gt_ps_sm, gt_ps_df, gt_ls_app]
    show f v - f v = 0
    omega
theorem gt_sm_add {c d : gt_P → gt_P → Int} : ∀ {L : List gt_E}, gt_sm (fun a b => c a b + d a b) L = gt_sm c L + gt_sm d L
  | [] => rfl
  | e :: L => by
    rw [gt_sm_cons, gt_sm_cons, gt_sm_cons, gt_sm_add]; omega
theorem gt_sm_cg {c d : gt_P → gt_P → Int} : ∀ {L : List gt_E}, (∀ e ∈ L, c e.1 e.2 = d e.1 e.2) → gt_sm c L = gt_sm d L
  | [], _ => rfl
  | e :: L, h => by rw [gt_sm_cons, gt_sm_cons, h e (List.mem_cons_self ..), gt_sm_cg (fun f hf => h f (List.mem_cons_of_mem _ hf))]
theorem gt_cc_ar : gt_cc gt_ar := ⟨fun a b => by unfold gt_ar; grind, fun a m b h => by
  have := h.1
  unfold g_turn at this
  unfold gt_ar
  grind⟩
/-- the sum along all lines -/
def gt_lines (M : Int) (N : Nat) (f : gt_P → Int) : Int := g_sum (fun j => g_sum (fun t => f ((t : Int) - 1, 2 * M * j + M)) (2 * M * N + 1).toNat) N
theorem gt_lines_add {M : Int} {N : Nat} {f g : gt_P → Int} : gt_lines M N (fun z => f z + g z) = gt_lines M N f + gt_lines M N g := by
  unfold gt_lines
  rw [← gt_gs_add]
  exact gt_gs_cg (fun j _ => gt_gs_add _)
theorem gt_lines_neg {M : Int} {N : Nat} {f : gt_P → Int} : gt_lines M N (fun z => -f z) = -gt_lines M N f := by
  unfold gt_lines
  rw [← gt_gs_neg]
  exact gt_gs_cg (fun j _ => gt_gs_neg _)
theorem gt_lines_sm {M : Int} {N : Nat} (hM : 0 < M) : ∀ {L : List gt_E}, (∀ e ∈ L, ((0 ≤ e.1.1 ∧ e.1.1 ≤ N) ∧ 0 ≤ e.1.2 ∧ e.1.2 ≤ N) ∧ ((0 ≤ e.2.1 ∧ e.2.1 ≤ N) ∧ 0 ≤ e.2.2 ∧ e.2.2 ≤ N) ∧ (e.2.2 - e.1.2 ≠ 0 → ∃ m, M = (e.2.2 - e.1.2) * m)) → gt_lines M N (fun z => gt_sm (fun a b => gt_c z (gt_g (2 * M) a) (gt_g (2 * M) b)) L) = gt_sm (fun a b => M * ((b.2 - a.2) * (a.1 + b.1)) + (b.2 - a.2)) L
  | [], _ => by
    have : gt_lines M N (fun z => gt_sm (fun a b => gt_c z (gt_g (2 * M) a) (gt_g (2 * M) b)) []) = g_sum (fun _ => 0) N := gt_gs_cg (fun j _ => gt_gs_0 _)
    rw [this, gt_gs_0]
    rfl
  | e :: L, h => by
    have a := h e (List.mem_cons_self ..)
    have ih := gt_lines_sm hM (L := L) (fun f hf => h f (List.mem_cons_of_mem _ hf))
    have e1 : gt_lines M N (fun z => gt_sm (fun a b => gt_c z (gt_g (2 * M) a) (gt_g (2 * M) b)) (e :: L)) = gt_lines M N (fun z => gt_c z (gt_g (2 * M) e.1) (gt_g (2 * M) e.2)) + gt_lines M N (fun z => gt_sm (fun a b => gt_c z (gt_g (2 * M) a) (gt_g (2 * M) b)) L) := by
      rw [← gt_lines_add]
      unfold gt_lines
      exact gt_gs_cg (fun j _ => gt_gs_cg (fun t _ => gt_sm_cons))
    rw [e1, ih, gt_sm_cons]
    congr 1
    exact gt_es hM a.1 a.2.1 a.2.2
/-- all coordinates up to N, all heights of stretches in M -/
def gt_fine (M : Int) (N : Nat) (l : List gt_P) : Prop := (∀ p ∈ l, (0 ≤ p.1 ∧ p.1 ≤ N) ∧ 0 ≤ p.2 ∧ p.2 ≤ N) ∧ ∀ e ∈ gt_ed l, e.2.2 - e.1.2 ≠ 0 → ∃ m, M = (e.2.2 - e.1.2) * m
theorem gt_lines_w {M : Int} {N : Nat} (hM : 0 < M) {l : List gt_P} (h : gt_fine M N l) : gt_lines M N (fun z => gt_w (l.map (gt_g (2 * M))) z) = M * gt_sm gt_ar (gt_ed l) := by
  have e0 : gt_lines M N (fun z => gt_w (l.map (gt_g (2 * M))) z) = gt_lines M N (fun z => gt_sm (fun a b => gt_c z (gt_g (2 * M) a) (gt_g (2 * M) b)) (gt_ed l)) := by
    unfold gt_lines
    refine gt_gs_cg (fun j _ => gt_gs_cg (fun t _ => ?_))
    dsimp only
    rw [gt_w_sm, gt_ed_map, gt_sm_map]
  rw [e0, gt_lines_sm hM (fun e he => ⟨h.1 _ (gt_ed_mem he).1, h.1 _ (gt_ed_mem he).2, h.2 e he⟩)]
  have e1 : ∀ L : List gt_E, gt_sm (fun a b => M * ((b.2 - a.2) * (a.1 + b.1))) L = M * gt_sm (fun a b => gt_ar a b + (b.1 * b.2 - a.1 * a.2)) L := fun L => by
    induction L with
    | nil => exact (Int.mul_zero _).symm
    | cons e L ih =>
      rw [gt_sm_cons, gt_sm_cons, ih, Int.mul_add]
      congr 1
      unfold gt_ar
      grind
  rw [gt_sm_add, gt_sm_df (f := fun p => p.2), Int.add_zero, e1, gt_sm_add, gt_sm_df (f := fun p => p.1 * p.2), Int.add_zero]
/-! along a line: which stretch is there -/
theorem gt_jump {a b : gt_P} {x y : Int} (h : (a.2 < y ∧ y < b.2) ∨ (b.2 < y ∧ y < a.2)) (e : gt_t a b (x, y) = 0) : gt_c (x - 1, y) a b ≠ gt_c (x, y) a b := by
  have key : ∀ {a b : gt_P}, (a.2 < y ∧ y < b.2) → gt_t a b (x, y) = 0 → gt_c (x - 1, y) a b ≠ gt_c (x, y) a b := fun {a b} h e => by
    have e : g_turn a.1 a.2 b.1 b.2 x y = 0 := e
    show g_cs (x - 1) y a.1 a.2 b.1 b.2 ≠ g_cs x y a.1 a.2 b.1 b.2
    have this : g_turn a.1 a.2 b.1 b.2 (x - 1) y = b.2 - a.2 := by unfold g_turn at *; grind
    have r1 : g_cs x y a.1 a.2 b.1 b.2 = 0 := by rw [gt_cs_up (by omega), e, if_neg (by omega)]
    have r2 : g_cs (x - 1) y a.1 a.2 b.1 b.2 = 1 := by rw [gt_cs_up (by omega), this, if_pos (by omega)]
    rw [r1, r2]
    decide
  rcases h with h | h
  · exact key h e
  · have e2 : gt_t b a (x, y) = 0 := by unfold gt_t at *; rw [gt_sw, e]; rfl
    have := key h e2
    rw [gt_c_sw, gt_c_sw (z := (x, y))] at this
    exact fun z => this (by rw [z])
/-- nothing there -/
theorem gt_dl0 {L : List gt_P} {x y : Int} (hd : ∀ e ∈ gt_ed L, gt_dv y e.1 e.2) (h : ∀ e ∈ gt_ed L, ¬ gt_O e.1 e.2 (x, y)) : gt_w L (x - 1, y) = gt_w L (x, y) := by
  cases L with
  | nil => rfl
  | cons v r => exact gt_ps_st (gt_al_pe.mpr hd) (gt_al_pe.mpr h)
/-- two stretches of one way round have no point in common that is no corner -/
theorem gt_thru {L : List gt_P} (h : gt_smp L) {e f : gt_E} (he : e ∈ gt_ed L) (hf : f ∈ gt_ed L) {z : gt_P} (h1 : gt_O e.1 e.2 z) (h2 : gt_O f.1 f.2 z) (nz : ∀ p ∈ L, z ≠ p) : e = f := by
  have hl : L ≠ [] := fun z => by rw [z] at he; cases he
  rcases gt_sep h hl he hf with q | q | q | q
  · exact q
  · have sp := gt_spk h hl he hf q.1
    exact absurd (by rw [q.1]; exact h2) (gt_adj h1 (nz _ (gt_ed_mem he).2) sp.2.2 sp.1)
  · have sp := gt_spk h hl hf he q.1
    exact absurd (by rw [q.1]; exact h1) (gt_adj h2 (nz _ (gt_ed_mem hf).2) sp.2.2 sp.1)
  · exact absurd (gt_M_pt h1 h2) q
/-- one stretch there -/
theorem gt_dl1 {L : List gt_P} (h : gt_smp L) {x y : Int} (hd : ∀ e ∈ gt_ed L, gt_dv y e.1 e.2) {e : gt_E} (he : e ∈ gt_ed L) (ho : gt_O e.1 e.2 (x, y)) (nz : ∀ p ∈ L, ((x, y) : gt_P) ≠ p) : gt_w L (x - 1, y) - gt_w L (x, y) = gt_c (x - 1, y) e.1 e.2 - gt_c (x, y) e.1 e.2 := by
  have hl : L ≠ [] := fun z => by rw [z] at he; cases he
  obtain ⟨v, b, c, r0, e0⟩ := gt_smp_3 h hl
  obtain ⟨s, t, r, e1, e2⟩ := gt_ed_turn (by rw [e0]; simp) he
  have mem : ∀ f, f ∈ gt_ed (e.1 :: e.2 :: r) ↔ f ∈ gt_ed L := fun f => by rw [← e2, e1]; exact gt_ed_rot.mem_iff
  have ww : ∀ z, gt_w L z = gt_w (e.1 :: e.2 :: r) z := fun z => by rw [← e2, e1, gt_w_rots]
  have hs : gt_smp (e.1 :: e.2 :: r) := by rw [← e2]; exact gt_smp_rot (by rw [← e1]; exact h)
  have nd := gt_smp_nd hs
  rw [List.nodup_cons] at nd
  have rest : ∀ f ∈ gt_pe e.2 (r ++ [e.1]), f ∈ gt_ed L ∧ ¬ gt_O f.1 f.2 (x, y) := fun f hf => by
    have m := (mem f).mp (List.mem_cons_of_mem _ hf)
    refine ⟨m, fun o => ?_⟩
    have q := gt_thru h he m ho o nz
    have := gt_pe_m1 hf
    rw [← q] at this
    exact nd.1 this
  have st := gt_ps_st (x := x) (y := y) (a := e.2) (l := r ++ [e.1]) (gt_al_pe.mpr (fun f hf => hd f (rest f hf).1)) (gt_al_pe.mpr (fun f hf => (rest f hf).2))
  rw [ww, ww]
  show (gt_c (x - 1, y) e.1 e.2 + gt_ps (gt_c (x - 1, y)) e.2 (r ++ [e.1])) - (gt_c (x, y) e.1 e.2 + gt_ps (gt_c (x, y)) e.2 (r ++ [e.1])) = _
  rw [st]
  omega
/-- the lines -/
theorem gt_line_v {M : Int} (hM : 0 < M) {j : Int} {x : Int} {p : gt_P} : ((x, 2 * M * j + M) : gt_P) ≠ gt_g (2 * M) p := fun e => by
  have e : 2 * M * j + M = 2 * M * p.2 := congrArg Prod.snd e
  have h : M * (2 * (p.2 - j) - 1) = 0 := by grind
  rcases Int.mul_eq_zero.mp h with k | k <;> omega
theorem gt_line_dv {M : Int} {N : Nat} {l : List gt_P} (h : gt_fine M N l) (j : Int) : ∀ e ∈ gt_ed (l.map (gt_g (2 * M))), gt_dv (2 * M * j + M) e.1 e.2 := by
  intro e' he'
  rw [gt_ed_map] at he'
  obtain ⟨e, he, e1⟩ := List.mem_map.mp he'
  rw [← e1]
  by_cases c : e.2.2 - e.1.2 = 0
  · left
    show 2 * M * e.1.2 = 2 * M * e.2.2
    rw [show e.1.2 = e.2.2 by omega]
  · obtain ⟨m, hm⟩ := h.2 e he c
    right
    refine ⟨2 * M * e.1.1 + m * ((2 * j + 1 - 2 * e.1.2) * (e.2.1 - e.1.1)), ?_⟩
    show g_turn (2 * M * e.1.1) (2 * M * e.1.2) (2 * M * e.2.1) (2 * M * e.2.2) _ (2 * M * j + M) = 0
    unfold g_turn
    have e2 : e.2.2 = e.1.2 + (e.2.2 - e.1.2) := by omega
    generalize e.2.2 - e.1.2 = dd at hm c e2
    rw [e2, hm]
    generalize e.1.2 = y1
    generalize e.1.1 = x1
    generalize e.2.1 = x2
    grind
/-- a stretch that is not level meets a line -/
theorem gt_line_at {M : Int} {N : Nat} (hM : 0 < M) {l : List gt_P} (h : gt_fine M N l) {e : gt_E} (he : e ∈ gt_ed l) (n : e.1.2 ≠ e.2.2) : ∃ (j : Nat) (X : Int), j < N ∧ (0 ≤ X ∧ X ≤ 2 * M * N) ∧ gt_O (gt_g (2 * M) e.1) (gt_g (2 * M) e.2) (X, 2 * M * (j : Int) + M) ∧ gt_c (X - 1, 2 * M * (j : Int) + M) (gt_g (2 * M) e.1) (gt_g (2 * M) e.2) ≠ gt_c (X, 2 * M * (j : Int) + M) (gt_g (2 * M) e.1) (gt_g (2 * M) e.2) := by
  have b1 := h.1 _ (gt_ed_mem he).1
  have b2 := h.1 _ (gt_ed_mem he).2
  have hK : 0 ≤ 2 * M := by omega
  have sc : ∀ {a b : Int}, a < b → 2 * M * a + M < 2 * M * b := fun {a b} w => by
    have := Int.mul_le_mul_of_nonneg_left (show a + 1 ≤ b by omega) hK
    rw [Int.mul_add, Int.mul_one] at this
    omega
  obtain ⟨j, hj, lt⟩ : ∃ j : Nat, j < N ∧ ((e.1.2 ≤ j ∧ (j : Int) < e.2.2) ∨ (e.2.2 ≤ j ∧ (j : Int) < e.1.2)) := by
    by_cases c : e.1.2 < e.2.2
    · exact ⟨e.1.2.toNat, by omega, Or.inl (by omega)⟩
    · exact ⟨e.2.2.toNat, by omega, Or.inr (by omega)⟩
  have m : (gt_g (2 * M) e.1, gt_g (2 * M) e.2) ∈ gt_ed (l.map (gt_g (2 * M))) := by
    rw [gt_ed_map]
    exact List.mem_map.mpr ⟨e, he, rfl⟩
  have sc2 : ∀ {a b : Int}, a ≤ b → 2 * M * a < 2 * M * b + M := fun {a b} w => by
    have := Int.mul_le_mul_of_nonneg_left w hK
    omega
  have bt : ((gt_g (2 * M) e.1).2 < 2 * M * (j : Int) + M ∧ 2 * M * (j : Int) + M < (gt_g (2 * M) e.2).2) ∨ ((gt_g (2 * M) e.2).2 < 2 * M * (j : Int) + M ∧ 2 * M * (j : Int) + M < (gt_g (2 * M) e.1).2) := by
    rcases lt with w | w
    · exact Or.inl ⟨sc2 w.1, sc w.2⟩
    · exact Or.inr ⟨sc2 w.1, sc w.2⟩
  rcases gt_line_dv h (j : Int) _ m with k | ⟨X, k⟩
  · have k : 2 * M * e.1.2 = 2 * M * e.2.2 := k
    exact absurd (Int.eq_of_mul_eq_mul_left (by omega) k) n
  · have o : gt_O (gt_g (2 * M) e.1) (gt_g (2 * M) e.2) (X, 2 * M * (j : Int) + M) := gt_O_2 k (by omega) (by dsimp only; omega)
    refine ⟨j, X, hj, ?_, o, gt_jump bt k⟩
    have ox := o.2.1
    have ox : (2 * M * e.1.1 ≤ X ∨ 2 * M * e.2.1 ≤ X) ∧ (X ≤ 2 * M * e.1.1 ∨ X ≤ 2 * M * e.2.1) := ox
    have q1 := Int.mul_nonneg hK b1.1.1
    have q2 := Int.mul_nonneg hK b2.1.1
    have q3 := Int.mul_le_mul_of_nonneg_left b1.1.2 hK
    have q4 := Int.mul_le_mul_of_nonneg_left b2.1.2 hK
    omega
/-- where nothing is on any line: it is nothing between -/
theorem gt_lines_0 {M : Int} {N : Nat} (hM : 0 < M) {f : gt_P → Int} (h : ∀ (j : Nat) x, 0 ≤ f (x, 2 * M * (j : Int) + M)) (s : gt_lines M N f = 0) : ∀ (j : Nat) (x : Int), j < N → -1 ≤ x → x < 2 * M * N → f (x, 2 * M * j + M) = 0 := by
  intro j x hj h1 h2
  have a := (gt_gs_pos (f := fun j => g_sum (fun t => f ((t : Int) - 1, 2 * M * j + M)) (2 * M * N + 1).toNat) (n := N) (fun j _ => (gt_gs_pos (fun t _ => h _ _)).1)).2 s j hj
  have b := (gt_gs_pos (f := fun t => f ((t : Int) - 1, 2 * M * j + M)) (n := (2 * M * N + 1).toNat) (fun t _ => h _ _)).2 a (x + 1).toNat (by omega)
  rw [show (((x + 1).toNat : Nat) : Int) - 1 = x by omega] at b
  exact b
/-- level stretches alone go on for ever -/
theorem gt_lvl {V : gt_E → Prop} {L : List gt_E} (hL : ∀ e, V e → e ∈ L) (suc : ∀ e, V e → ∃ f, V f ∧ f.1 = e.2) (pre : ∀ e, V e → ∃ f, V f ∧ f.2 = e.1) (spk : ∀ e f, V e → V f → e.2 = f.1 → ¬ gt_sd (gt_d e.2 e.1) (gt_d e.2 f.2)) (ne : ∀ e, V e → e.1 ≠ e.2) (lev : ∀ e, V e → e.1.2 = e.2.2) : ∀ e, ¬ V e := by
  have bd : ∃ X : Int, ∀ e ∈ L, e.1.1 ≤ X ∧ e.2.1 ≤ X := by
    clear hL
    induction L with
    | nil => exact ⟨0, fun e he => by cases he⟩
    | cons a L ih =>
      obtain ⟨X, hX⟩ := ih
      refine ⟨max X (max a.1.1 a.2.1), fun e he => ?_⟩
      rcases List.mem_cons.mp he with k | k
      · rw [k]; omega
      · have := hX e k; omega
  obtain ⟨X, hX⟩ := bd
  have dn : ∀ e, V e → e.1.1 ≠ e.2.1 := fun e he z => ne e he (Prod.ext z (lev e he))
  have two : ∀ e f, V e → V f → e.2 = f.1 → ¬ (e.1.1 < e.2.1 ∧ f.2.1 < f.1.1) ∧ ¬ (e.2.1 < e.1.1 ∧ f.1.1 < f.2.1) := fun e f he hf q => by
    have s := spk e f he hf q
    have l1 := lev e he
    have l2 := lev f hf
    rw [← q] at l2
    constructor
    · intro w
      rw [← q] at w
      refine s ⟨⟨fun _ => Or.inr ⟨?_, ?_⟩, fun _ => Or.inr ⟨?_, ?_⟩⟩, ?_⟩
      · show f.2.2 - e.2.2 = 0; omega
      · show f.2.1 - e.2.1 < 0; omega
      · show e.1.2 - e.2.2 = 0; omega
      · show e.1.1 - e.2.1 < 0; omega
      · unfold gt_x gt_d
        dsimp only
        rw [show f.2.2 - e.2.2 = 0 by omega, show e.1.2 - e.2.2 = 0 by omega]; omega
    · intro w
      rw [← q] at w
      refine s ⟨⟨fun u => ?_, fun u => ?_⟩, ?_⟩
      · exfalso
        have u : 0 < e.1.2 - e.2.2 ∨ (e.1.2 - e.2.2 = 0 ∧ e.1.1 - e.2.1 < 0) := u
        omega
      · exfalso
        have u : 0 < f.2.2 - e.2.2 ∨ (f.2.2 - e.2.2 = 0 ∧ f.2.1 - e.2.1 < 0) := u
        omega
      · unfold gt_x gt_d
        dsimp only
        rw [show f.2.2 - e.2.2 = 0 by omega, show e.1.2 - e.2.2 = 0 by omega]; omega
  have key : ∀ n : Nat, ∀ e, V e → X - max e.1.1 e.2.1 ≤ n → False := by
    intro n
    induction n with
    | zero =>
      intro e he h
      by_cases c : e.1.1 < e.2.1
      · obtain ⟨f, hf, q⟩ := suc e he
        have := (two e f he hf q.symm).1
        have := dn f hf
        have := hX f (hL f hf)
        have q1 : f.1.1 = e.2.1 := congrArg Prod.fst q
        omega
      · obtain ⟨f, hf, q⟩ := pre e he
        have := (two f e hf he q).2
        have := dn f hf
        have := dn e he
        have := hX f (hL f hf)
        have q1 : f.2.1 = e.1.1 := congrArg Prod.fst q
        have e1 := two f e hf he q
        omega
    | succ n ih =>
      intro e he h
      by_cases c : e.1.1 < e.2.1
      · obtain ⟨f, hf, q⟩ := suc e he
        have := (two e f he hf q.symm).1
        have := dn f hf
        have q1 : f.1.1 = e.2.1 := congrArg Prod.fst q
        exact ih f hf (by omega)
      · obtain ⟨f, hf, q⟩ := pre e he
        have e1 := two f e hf he q
        have := dn f hf
        have := dn e he
        have q1 : f.2.1 = e.1.1 := congrArg Prod.fst q
        exact ih f hf (by omega)
  intro e he
  have := hX e (hL e he)
  exact key (X - max e.1.1 e.2.1).toNat e he (by omega)
/-- a FIGURE has an AREA -/
theorem gt_ar_pos {M : Int} {N : Nat} (hM : 0 < M) {A : List gt_P} (h : gt_fig A) (hf : gt_fine M N A) : 0 < gt_sm gt_ar (gt_ed A) := by
  have hK : 0 < 2 * M := by omega
  have s := gt_lines_w hM hf
  have nn : ∀ x y, 0 ≤ gt_w (A.map (gt_g (2 * M))) (x, y) := fun x y => by
    have := gt_fig_w h hK (x, y)
    omega
  have ge : 0 ≤ gt_lines M N (fun z => gt_w (A.map (gt_g (2 * M))) z) := (gt_gs_pos (fun j _ => (gt_gs_pos (fun t _ => nn _ _)).1)).1
  refine Int.lt_of_not_ge (fun w => ?_)
  have z : gt_lines M N (fun z => gt_w (A.map (gt_g (2 * M))) z) = 0 := by
    rw [s] at ge ⊢
    have := gt_sp M (gt_sm gt_ar (gt_ed A))
    rcases Int.lt_trichotomy (gt_sm gt_ar (gt_ed A)) 0 with q | q | q
    · have := this.2.1 hM q; omega
    · exact this.2.2.2.2.2 q
    · omega
  have l0 := gt_lines_0 hM (fun j x => nn x _) z
  have lev : ∀ e ∈ gt_ed A, e.1.2 = e.2.2 := fun e he => Classical.byContradiction (fun n => by
    obtain ⟨j, X, hj, hX, o, ju⟩ := gt_line_at hM hf he n
    have m : (gt_g (2 * M) e.1, gt_g (2 * M) e.2) ∈ gt_ed (A.map (gt_g (2 * M))) := by
      rw [gt_ed_map]
      exact List.mem_map.mpr ⟨e, he, rfl⟩
    have d1 := gt_dl1 (gt_g_smp hK h.1) (gt_line_dv hf (j : Int)) m o (fun p hp => by
      obtain ⟨q, _, q2⟩ := List.mem_map.mp hp
      rw [← q2]
      exact gt_line_v hM)
    have a1 := l0 j (X - 1) hj (by omega) (by omega)
    have a2 : gt_w (A.map (gt_g (2 * M))) (X, 2 * M * (j : Int) + M) = 0 := by
      by_cases c : X < 2 * M * N
      · exact l0 j X hj (by omega) c
      · refine gt_w_far (fun q hq => ?_)
        obtain ⟨p, hp, p2⟩ := List.mem_map.mp hq
        rw [← p2]
        have := Int.mul_le_mul_of_nonneg_left (hf.1 p hp).1.2 (show 0 ≤ 2 * M by omega)
        show 2 * M * p.1 ≤ X
        omega
    rw [a1, a2] at d1
    dsimp only at d1
    omega)
  refine gt_lvl (V := fun e => e ∈ gt_ed A) (fun e he => he) (fun e he => ?_) (fun e he => ?_) (fun e f he hf q => (gt_spk h.1 h.2.1 he hf q).2.2) (fun e he => gt_ne h.1 he) lev _ (Classical.choice ?_ : ∃ e, e ∈ gt_ed A).choose_spec
  · obtain ⟨b, hb⟩ := gt_out (gt_ed_mem he).2
    exact ⟨_, hb, rfl⟩
  · obtain ⟨b, hb⟩ := gt_into (gt_ed_mem he).1
    exact ⟨_, hb, rfl⟩
  · obtain ⟨v, b, c, r, e0⟩ := gt_smp_3 h.1 h.2.1
    rw [e0]
    exact ⟨⟨(v, b), List.mem_cons_self ..⟩⟩
