/-! geometry: a way round that touches itself nowhere -/
/-- a way round that touches itself nowhere -/
def gt_smp (l : List gt_P) : Prop := ∀ s t, l = s ++ t → t ≠ [] → gt_P1 (t ++ s)
theorem gt_smp_rot {s t : List gt_P} (h : gt_smp (s ++ t)) : gt_smp (t ++ s) := by
  intro s' t' e ht'
  rcases List.append_eq_append_iff.mp e with ⟨m, e1, e2⟩ | ⟨m, e1, e2⟩
  · -- s' = t ++ m, s = m ++ t'
    subst e1 e2
    have := h m (t' ++ t) (by simp) (by simp [ht'])
    simpa using this
  · -- t = s' ++ m, t' = m ++ s
    subst e1 e2
    by_cases hm : m = []
    · subst hm
      by_cases hs : s = []
      · subst hs; exact absurd rfl ht'
      · have := h [] (s ++ (s' ++ [])) rfl (by simp [hs])
        simpa using this
    · have := h (s ++ s') m (by simp) hm
      simpa using this
theorem gt_smp_1 {l : List gt_P} (h : gt_smp l) (hl : l ≠ []) : gt_P1 l := by
  have := h [] l rfl hl
  rwa [List.append_nil] at this
theorem gt_smp_3 {l : List gt_P} (h : gt_smp l) (hl : l ≠ []) : ∃ v b c r, l = v :: b :: c :: r := by
  have := gt_smp_1 h hl
  match l with
  | [] => exact absurd rfl hl
  | [_] => exact absurd this (fun z => z)
  | [_, _] => exact absurd this (fun z => z)
  | v :: b :: c :: r => exact ⟨v, b, c, r, rfl⟩
theorem gt_ls_mem : ∀ {a : gt_P} {l : List gt_P}, gt_ls a l = a ∨ gt_ls a l ∈ l
  | _, [] => Or.inl rfl
  | _, b :: l => by
    rcases gt_ls_mem (a := b) (l := l) with e | e
    · exact Or.inr (by show gt_ls b l ∈ b :: l; rw [e]; exact List.mem_cons_self ..)
    · exact Or.inr (List.mem_cons_of_mem _ e)
theorem gt_ls_snoc : ∀ (c : gt_P) (r : List gt_P), ∃ r', c :: r = r' ++ [gt_ls c r]
  | c, [] => ⟨[], rfl⟩
  | c, d :: r => by
    obtain ⟨r', e⟩ := gt_ls_snoc d r
    exact ⟨c :: r', by show c :: d :: r = c :: (r' ++ [gt_ls d r]); rw [← e]⟩
theorem gt_smp_last {v b c : gt_P} {r : List gt_P} (h : gt_smp (v :: b :: c :: r)) : v ≠ gt_ls c r := by
  obtain ⟨r', e⟩ := gt_ls_snoc c r
  have h' := h (v :: b :: r') [gt_ls c r] (by rw [e]; rfl) (by simp)
  have : gt_P1 (gt_ls c r :: v :: b :: r') := h'
  intro z
  cases r' with
  | nil =>
    exact this.1 z.symm
  | cons x r' => exact this.1 z.symm
theorem gt_k_rot1 {v b c : gt_P} {r : List gt_P} (h : gt_smp (v :: b :: c :: r)) : gt_k (b :: c :: (r ++ [v])) = gt_k (v :: b :: c :: r) := by
  refine gt_k_nx (gt_smp_1 h (by simp)) ?_ (gt_smp_last h)
  exact h [v] (b :: c :: r) rfl (by simp)
theorem gt_k_rot : ∀ {s t : List gt_P}, gt_smp (s ++ t) → gt_k (t ++ s) = gt_k (s ++ t)
  | [], t, _ => by rw [List.append_nil]; rfl
  | x :: s, t, h => by
    obtain ⟨v, b, c, r, e⟩ := gt_smp_3 h (by simp)
    have ex : x = v := by injection e
    have es : s ++ t = b :: c :: r := by injection e
    subst ex
    have h1 : gt_smp (s ++ (t ++ [x])) := by
      have := gt_smp_rot (s := [x]) (t := s ++ t) h
      rw [List.append_assoc] at this
      exact this
    have e2 := gt_k_rot h1
    have e3 : gt_k (b :: c :: (r ++ [x])) = gt_k (x :: b :: c :: r) := gt_k_rot1 (by rw [← es]; exact h)
    have e4 : s ++ (t ++ [x]) = b :: c :: (r ++ [x]) := by rw [← List.append_assoc, es]; rfl
    have e5 : t ++ x :: s = t ++ [x] ++ s := by simp
    rw [e5, e2, e4, e3]
    show gt_k (x :: b :: c :: r) = gt_k (x :: (s ++ t))
    rw [es]
theorem gt_w_rots : ∀ {s t : List gt_P} {z : gt_P}, gt_w (t ++ s) z = gt_w (s ++ t) z
  | [], t, _ => by rw [List.append_nil]; rfl
  | x :: s, t, z => by
    have e5 : t ++ x :: s = t ++ [x] ++ s := by simp
    rw [e5, gt_w_rots (s := s) (t := t ++ [x]), ← List.append_assoc, gt_w_rot]; rfl
/-- round its corners -/
theorem gt_w_cor {l : List gt_P} {v : gt_P} (h : gt_smp l) (hv : v ∈ l) : gt_w l v = gt_k l ∨ gt_w l v = gt_k l + 1 := by
  obtain ⟨s, t, e⟩ := List.append_of_mem hv
  subst e
  have hr := gt_smp_rot h
  rw [← gt_k_rot h, ← gt_w_rots]
  obtain ⟨v', b, c, r, e⟩ := gt_smp_3 hr (by simp)
  have ev : v = v' := by injection e
  have es : t ++ s = b :: c :: r := by injection e
  subst ev
  have e' : v :: t ++ s = v :: b :: c :: r := e
  rw [e']
  show _ = gt_w (v :: b :: c :: r) v - _ ∨ _ = gt_w (v :: b :: c :: r) v - _ + 1
  split <;> omega
/-! parts of stretches -/
theorem gt_on_par {v b q : gt_P} (h : gt_on v.1 v.2 b.1 b.2 q.1 q.2) : ∃ s t : Int, 0 < t ∧ 0 ≤ s ∧ s ≤ t ∧ t * (q.1 - v.1) = s * (b.1 - v.1) ∧ t * (q.2 - v.2) = s * (b.2 - v.2) := by
  obtain ⟨h1, h2, h3⟩ := h
  unfold g_turn at h1
  by_cases c : b.2 = v.2
  · by_cases c1 : b.1 = v.1
    · exact ⟨0, 1, by omega, by omega, by omega, by omega, by omega⟩
    · by_cases c2 : v.1 < b.1
      · exact ⟨q.1 - v.1, b.1 - v.1, by omega, by omega, by omega, Int.mul_comm _ _, by rw [show q.2 - v.2 = 0 by omega, show b.2 - v.2 = 0 by omega]; simp⟩
      · exact ⟨v.1 - q.1, v.1 - b.1, by omega, by omega, by omega, by grind, by rw [show q.2 - v.2 = 0 by omega, show b.2 - v.2 = 0 by omega]; simp⟩
  · by_cases c2 : v.2 < b.2
    · exact ⟨q.2 - v.2, b.2 - v.2, by omega, by omega, by omega, by grind, Int.mul_comm _ _⟩
    · exact ⟨v.2 - q.2, v.2 - b.2, by omega, by omega, by omega, by grind, by grind⟩
theorem gt_par_on {v b q : gt_P} {s t : Int} (ht : 0 < t) (hs : 0 ≤ s ∧ s ≤ t) (h1 : t * (q.1 - v.1) = s * (b.1 - v.1)) (h2 : t * (q.2 - v.2) = s * (b.2 - v.2)) : gt_on v.1 v.2 b.1 b.2 q.1 q.2 := by
  have bt : ∀ v b q : Int, t * (q - v) = s * (b - v) → (v ≤ q ∨ b ≤ q) ∧ (q ≤ v ∨ q ≤ b) := fun v b q e => by
    have e2 : t * (b - q) = (t - s) * (b - v) := by grind
    by_cases c : v ≤ b
    · have m1 := Int.mul_nonneg hs.1 (show 0 ≤ b - v by omega)
      have m2 := Int.mul_nonneg (show 0 ≤ t - s by omega) (show 0 ≤ b - v by omega)
      rw [← e] at m1
      rw [← e2] at m2
      have n1 := Int.nonneg_of_mul_nonneg_right m1 ht
      have n2 := Int.nonneg_of_mul_nonneg_right m2 ht
      omega
    · have m1 := Int.mul_nonneg hs.1 (show 0 ≤ v - b by omega)
      have m2 := Int.mul_nonneg (show 0 ≤ t - s by omega) (show 0 ≤ v - b by omega)
      have m1' : s * (v - b) = t * (v - q) := by grind
      have m2' : (t - s) * (v - b) = t * (q - b) := by grind
      rw [m1'] at m1
      rw [m2'] at m2
      have n1 := Int.nonneg_of_mul_nonneg_right m1 ht
      have n2 := Int.nonneg_of_mul_nonneg_right m2 ht
      omega
  refine ⟨?_, bt _ _ _ h1, bt _ _ _ h2⟩
  unfold g_turn
  have : t * ((b.1 - v.1) * (q.2 - v.2) - (b.2 - v.2) * (q.1 - v.1)) = 0 := by
    have : t * ((b.1 - v.1) * (q.2 - v.2) - (b.2 - v.2) * (q.1 - v.1)) = (b.1 - v.1) * (t * (q.2 - v.2)) - (b.2 - v.2) * (t * (q.1 - v.1)) := by grind
    rw [this, h1, h2]; grind
  rcases Int.mul_eq_zero.mp this with q | q
  · omega
  · exact q
def gt_O (a b p : gt_P) : Prop := gt_on a.1 a.2 b.1 b.2 p.1 p.2
def gt_t (a b p : gt_P) : Int := g_turn a.1 a.2 b.1 b.2 p.1 p.2
theorem gt_O_sw {a b p : gt_P} (h : gt_O a b p) : gt_O b a p := gt_on_sw h
theorem gt_O_l {a b : gt_P} : gt_O a b a := ⟨by unfold g_turn; grind, by omega, by omega⟩
theorem gt_O_r {a b : gt_P} : gt_O a b b := gt_O_sw gt_O_l
theorem gt_O_t {v b q : gt_P} (h : gt_O v b q) (x y : gt_P) : ∃ s t : Int, 0 < t ∧ 0 ≤ s ∧ s ≤ t ∧ t * gt_t x y q = (t - s) * gt_t x y v + s * gt_t x y b ∧ (∀ x, t * gt_t v q x = s * gt_t v b x) ∧ (s = 0 → q = v) ∧ (s = t → q = b) := by
  obtain ⟨s, t, h1, h2, h3, h4, h5⟩ := gt_on_par h
  refine ⟨s, t, h1, h2, h3, ?_, fun x => ?_, fun z => ?_, fun z => ?_⟩
  · unfold gt_t g_turn; grind
  · unfold gt_t g_turn; grind
  · subst z
    rw [Int.zero_mul] at h4 h5
    refine Prod.ext ?_ ?_
    · rcases Int.mul_eq_zero.mp h4 with q | q <;> omega
    · rcases Int.mul_eq_zero.mp h5 with q | q <;> omega
  · subst z
    have e1 := Int.eq_of_mul_eq_mul_left (by omega) h4
    have e2 := Int.eq_of_mul_eq_mul_left (by omega) h5
    exact Prod.ext (by omega) (by omega)
theorem gt_O_tr {v b q x : gt_P} (h : gt_O v b q) (k : gt_O v q x) : gt_O v b x := by
  obtain ⟨s, t, h1, h2, h3, h4, h5⟩ := gt_on_par h
  obtain ⟨s', t', k1, k2, k3, k4, k5⟩ := gt_on_par k
  refine gt_par_on (s := s * s') (t := t * t') (Int.mul_pos h1 k1) ⟨Int.mul_nonneg h2 k2, Int.mul_le_mul h3 k3 k2 (by omega)⟩ ?_ ?_
  · have : t * t' * (x.1 - v.1) = t * (t' * (x.1 - v.1)) := by grind
    rw [this, k4]; grind
  · have : t * t' * (x.2 - v.2) = t * (t' * (x.2 - v.2)) := by grind
    rw [this, k5]; grind
theorem gt_sq (x : Int) : 0 ≤ x * x := by
  by_cases c : 0 ≤ x
  · exact Int.mul_nonneg c c
  · have := Int.mul_nonneg (show 0 ≤ -x by omega) (show 0 ≤ -x by omega)
    rw [Int.neg_mul_neg] at this
    exact this
theorem gt_O_2 {a b p : gt_P} (h : gt_t a b p = 0) (h1 : a.2 ≠ b.2) (h2 : (a.2 ≤ p.2 ∨ b.2 ≤ p.2) ∧ (p.2 ≤ a.2 ∨ p.2 ≤ b.2)) : gt_O a b p := by
  by_cases c : a.2 < b.2
  · exact gt_on_y h c (by omega)
  · exact gt_on_sw (gt_on_y (by rw [gt_sw]; unfold gt_t at h; omega) (by omega) (by omega))
theorem gt_O_1 {a b p : gt_P} (h : gt_t a b p = 0) (h1 : a.1 ≠ b.1) (h2 : (a.1 ≤ p.1 ∨ b.1 ≤ p.1) ∧ (p.1 ≤ a.1 ∨ p.1 ≤ b.1)) : gt_O a b p := by
  have := gt_O_2 (a := (a.2, a.1)) (b := (b.2, b.1)) (p := (p.2, p.1)) (by unfold gt_t g_turn at *; dsimp only; grind) h1 h2
  obtain ⟨k1, k2, k3⟩ := this
  exact ⟨h, k3, k2⟩
theorem gt_id {v b x y : gt_P} : gt_t x y b - gt_t x y v = gt_t v b x - gt_t v b y := by unfold gt_t g_turn; grind
theorem gt_M_mk {v b x y : gt_P} : gt_M v b x y ↔ (gt_t v b x * gt_t v b y < 0 ∧ gt_t x y v * gt_t x y b < 0) ∨ (gt_O v b x ∨ gt_O v b y) ∨ (gt_O x y v ∨ gt_O x y b) := Iff.rfl
theorem gt_opp {m n A B : Int} (hm : 0 < m) (hn : 0 < n) (h : m * A + n * B = 0) (hA : A ≠ 0) : A * B < 0 := by
  rcases Int.lt_or_gt_of_ne hA with k | k
  · have m1 := (gt_sp m A).2.1 hm k
    have : 0 < B := Int.pos_of_mul_pos_right (show 0 < n * B by omega) hn
    exact (gt_sp A B).2.2.1 k this
  · have m1 := Int.mul_pos hm k
    have : B < 0 := by
      refine Int.lt_of_not_ge (fun z => ?_)
      have := Int.mul_nonneg (show 0 ≤ n by omega) z
      omega
    exact (gt_sp A B).2.1 k this
theorem gt_M_pt {v b x y q : gt_P} (h : gt_O v b q) (k : gt_O x y q) : gt_M v b x y := by
  rw [gt_M_mk]
  obtain ⟨s, t, h1, h2, h3, h4, h5, h6, h7⟩ := gt_O_t h x y
  obtain ⟨s', t', k1, k2, k3, k4, k5, k6, k7⟩ := gt_O_t k v b
  by_cases c1 : s = 0
  · rw [← h6 c1]; exact Or.inr (Or.inr (Or.inl k))
  by_cases c2 : s = t
  · rw [← h7 c2]; exact Or.inr (Or.inr (Or.inr k))
  by_cases c3 : s' = 0
  · rw [← k6 c3]; exact Or.inr (Or.inl (Or.inl h))
  by_cases c4 : s' = t'
  · rw [← k7 c4]; exact Or.inr (Or.inl (Or.inr h))
  have eP : (t - s) * gt_t x y v + s * gt_t x y b = 0 := by rw [← h4, show gt_t x y q = 0 from k.1, Int.mul_zero]
  have eA : (t' - s') * gt_t v b x + s' * gt_t v b y = 0 := by rw [← k4, show gt_t v b q = 0 from h.1, Int.mul_zero]
  have id_ := gt_id (v := v) (b := b) (x := x) (y := y)
  by_cases a0 : gt_t v b x = 0
  · have a1 : gt_t v b y = 0 := by
      rw [a0] at eA
      have : s' * gt_t v b y = 0 := by omega
      rcases Int.mul_eq_zero.mp this with q | q
      · omega
      · exact q
    have p0 : gt_t x y v = 0 := by
      have e : gt_t x y b = gt_t x y v := by omega
      rw [e] at eP
      have : t * gt_t x y v = 0 := by
        have : t * gt_t x y v = (t - s) * gt_t x y v + s * gt_t x y v := by grind
        omega
      rcases Int.mul_eq_zero.mp this with q | q
      · omega
      · exact q
    have p1 : gt_t x y b = 0 := by omega
    obtain ⟨hh, b1, b2⟩ := h
    obtain ⟨kk, d1, d2⟩ := k
    by_cases e1 : v.1 = b.1
    · by_cases e2 : v.2 = b.2
      · have : q = v := Prod.ext (by omega) (by omega)
        subst this
        exact Or.inr (Or.inr (Or.inl ⟨kk, d1, d2⟩))
      · by_cases f1 : (v.2 ≤ x.2 ∨ b.2 ≤ x.2) ∧ (x.2 ≤ v.2 ∨ x.2 ≤ b.2)
        · exact Or.inr (Or.inl (Or.inl (gt_O_2 a0 e2 f1)))
        · by_cases f2 : (v.2 ≤ y.2 ∨ b.2 ≤ y.2) ∧ (y.2 ≤ v.2 ∨ y.2 ≤ b.2)
          · exact Or.inr (Or.inl (Or.inr (gt_O_2 a1 e2 f2)))
          · exact Or.inr (Or.inr (Or.inl (gt_O_2 p0 (by omega) (by omega))))
    · by_cases f1 : (v.1 ≤ x.1 ∨ b.1 ≤ x.1) ∧ (x.1 ≤ v.1 ∨ x.1 ≤ b.1)
      · exact Or.inr (Or.inl (Or.inl (gt_O_1 a0 e1 f1)))
      · by_cases f2 : (v.1 ≤ y.1 ∨ b.1 ≤ y.1) ∧ (y.1 ≤ v.1 ∨ y.1 ≤ b.1)
        · exact Or.inr (Or.inl (Or.inr (gt_O_1 a1 e1 f2)))
        · exact Or.inr (Or.inr (Or.inl (gt_O_1 p0 (by omega) (by omega))))
  · have hA := gt_opp (m := t' - s') (n := s') (by omega) (by omega) eA a0
    refine Or.inl ⟨hA, gt_opp (m := t - s) (n := s) (by omega) (by omega) eP (fun z => ?_)⟩
    have p1 : gt_t x y b = 0 := by
      rw [z] at eP
      have : s * gt_t x y b = 0 := by omega
      rcases Int.mul_eq_zero.mp this with q | q
      · omega
      · exact q
    have e : gt_t v b x = gt_t v b y := by omega
    rw [← e] at hA
    have := gt_sq (gt_t v b x)
    omega
theorem gt_M_sub {v b q x y : gt_P} (h : gt_O v b q) (k : gt_M v q x y) : gt_M v b x y := by
  rcases k with k | (k | k) | (k | k)
  · obtain ⟨s, t, h1, h2, h3, h4, h5, h6, h7⟩ := gt_O_t h x y
    change gt_t v q x * gt_t v q y < 0 ∧ gt_t x y v * gt_t x y q < 0 at k
    obtain ⟨k1, k2⟩ := k
    have s0 : 0 < s := by
      refine Int.lt_of_not_ge (fun z => ?_)
      have := h5 x
      rw [show s = 0 by omega, Int.zero_mul] at this
      rcases Int.mul_eq_zero.mp this with u | u
      · omega
      · rw [u, Int.zero_mul] at k1; omega
    refine Or.inl ⟨?_, ?_⟩
    · show gt_t v b x * gt_t v b y < 0
      have e : t * t * (gt_t v q x * gt_t v q y) = s * s * (gt_t v b x * gt_t v b y) := by
        have e1 := h5 x
        have e2 := h5 y
        have : t * t * (gt_t v q x * gt_t v q y) = (t * gt_t v q x) * (t * gt_t v q y) := by grind
        rw [this, e1, e2]; grind
      have m1 := (gt_sp (t * t) (gt_t v q x * gt_t v q y)).2.1 (Int.mul_pos h1 h1) k1
      rw [e] at m1
      refine Int.lt_of_not_ge (fun z => ?_)
      have := Int.mul_nonneg (show 0 ≤ s * s from Int.mul_nonneg h2 h2) z
      omega
    · show gt_t x y v * gt_t x y b < 0
      have e : s * (gt_t x y v * gt_t x y b) = t * (gt_t x y v * gt_t x y q) - (t - s) * (gt_t x y v * gt_t x y v) := by
        have : t * (gt_t x y v * gt_t x y q) = gt_t x y v * (t * gt_t x y q) := by grind
        rw [this, h4]; grind
      have m1 := (gt_sp t (gt_t x y v * gt_t x y q)).2.1 h1 k2
      have m2 := Int.mul_nonneg (show 0 ≤ t - s by omega) (gt_sq (gt_t x y v))
      refine Int.lt_of_not_ge (fun z => ?_)
      have := Int.mul_nonneg h2 z
      omega
  · exact Or.inr (Or.inl (Or.inl (gt_O_tr h k)))
  · exact Or.inr (Or.inl (Or.inr (gt_O_tr h k)))
  · exact Or.inr (Or.inr (Or.inl k))
  · exact gt_M_pt h k
theorem gt_M_sw {p q a b : gt_P} (h : gt_M p q a b) : gt_M q p a b := gt_mt_sw h
theorem gt_M_ab {p q a b : gt_P} (h : gt_M p q a b) : gt_M a b p q := gt_mt_ab h
theorem gt_O_ord {v b q r : gt_P} (h : gt_O v b q) (h2 : gt_O v b r) : gt_O v r q ∨ gt_O v q r := by
  obtain ⟨s, t, h1, hs, h3, h4, h5⟩ := gt_on_par h
  obtain ⟨s', t', k1, ks, k3, k4, k5⟩ := gt_on_par h2
  have key : ∀ {q r : gt_P} {s t s' t' : Int}, 0 < t → 0 ≤ s → t * (q.1 - v.1) = s * (b.1 - v.1) → t * (q.2 - v.2) = s * (b.2 - v.2) → 0 < t' → 0 ≤ s' → t' * (r.1 - v.1) = s' * (b.1 - v.1) → t' * (r.2 - v.2) = s' * (b.2 - v.2) → s * t' ≤ s' * t → gt_O v r q := fun {q r s t s' t'} h1 hs h4 h5 k1 ks k4 k5 le => by
    by_cases z : s' = 0
    · have s0 : s = 0 := by
        rw [z, Int.zero_mul] at le
        refine Classical.byContradiction (fun w => ?_)
        have := Int.mul_pos (show 0 < s by omega) k1
        omega
      rw [s0, Int.zero_mul] at h4 h5
      have : q = v := by
        refine Prod.ext ?_ ?_
        · rcases Int.mul_eq_zero.mp h4 with u | u <;> omega
        · rcases Int.mul_eq_zero.mp h5 with u | u <;> omega
      rw [this]; exact gt_O_l
    · refine gt_par_on (s := s * t') (t := s' * t) (Int.mul_pos (by omega) h1) ⟨Int.mul_nonneg hs (by omega), le⟩ ?_ ?_
      · have e1 : s' * t * (q.1 - v.1) = s' * (t * (q.1 - v.1)) := by grind
        have e2 : s * t' * (r.1 - v.1) = s * (t' * (r.1 - v.1)) := by grind
        rw [e1, e2, h4, k4]; grind
      · have e1 : s' * t * (q.2 - v.2) = s' * (t * (q.2 - v.2)) := by grind
        have e2 : s * t' * (r.2 - v.2) = s * (t' * (r.2 - v.2)) := by grind
        rw [e1, e2, h5, k5]; grind
  by_cases le : s * t' ≤ s' * t
  · exact Or.inl (key h1 hs h4 h5 k1 ks k4 k5 le)
  · exact Or.inr (key k1 ks k4 k5 h1 hs h4 h5 (by omega))
theorem gt_M_sub2 {v b q r x y : gt_P} (h : gt_O v b q) (h2 : gt_O v b r) (k : gt_M q r x y) : gt_M v b x y := by
  have key : ∀ {q r : gt_P}, gt_O v b r → gt_O v r q → gt_M q r x y → gt_M v b x y := fun {q r} h2 e k => gt_M_sub h2 (gt_M_sw (gt_M_sub (gt_O_sw e) (gt_M_sw k)))
  rcases gt_O_ord h h2 with e | e
  · exact key h2 e k
  · exact key h e (gt_M_sw k)
/-! points on the border -/
theorem gt_O_dir {b c q : gt_P} (h : gt_O b c q) (n : q ≠ b) : gt_sd (gt_d b q) (gt_d b c) := by
  obtain ⟨s, t, h1, h2, h3, h4, h5⟩ := gt_on_par h
  have s0 : 0 < s := by
    refine Int.lt_of_not_ge (fun z => n ?_)
    rw [show s = 0 by omega, Int.zero_mul] at h4 h5
    refine Prod.ext ?_ ?_
    · rcases Int.mul_eq_zero.mp h4 with q | q <;> omega
    · rcases Int.mul_eq_zero.mp h5 with q | q <;> omega
  unfold gt_sd gt_x gt_up gt_d
  dsimp only
  generalize q.1 - b.1 = q1 at *
  generalize q.2 - b.2 = q2 at *
  generalize c.1 - b.1 = c1 at *
  generalize c.2 - b.2 = c2 at *
  have p1 := gt_sp t q1
  have p2 := gt_sp t q2
  have p3 := gt_sp s c1
  have p4 := gt_sp s c2
  have sg : ∀ {m n x y : Int}, 0 < m → 0 < n → m * x = n * y → ((0 < x ↔ 0 < y) ∧ (x < 0 ↔ y < 0) ∧ (x = 0 ↔ y = 0)) := fun {m n x y} hm hn e => by
    have a1 := gt_sp m x
    have a2 := gt_sp n y
    omega
  have g1 := sg h1 s0 h4
  have g2 := sg h1 s0 h5
  refine ⟨by omega, ?_⟩
  have : t * (q1 * c2 - q2 * c1) = 0 := by
    have : t * (q1 * c2 - q2 * c1) = (t * q1) * c2 - (t * q2) * c1 := by grind
    rw [this, h4, h5]; grind
  rcases Int.mul_eq_zero.mp this with u | u
  · omega
  · exact u
theorem gt_O_anti {v b q : gt_P} (h : gt_O v b q) (k : gt_O v q b) : q = b := by
  obtain ⟨-, h2, h3⟩ := h
  obtain ⟨-, k2, k3⟩ := k
  exact Prod.ext (by omega) (by omega)
/-- the next stretch has no point of this one but its end -/
theorem gt_adj {v b c q : gt_P} (h : gt_O v b q) (n : q ≠ b) (hs : ¬ gt_sd (gt_d b v) (gt_d b c)) (nb : v ≠ b) : ¬ gt_O b c q := fun k => by
  have d1 := gt_O_dir (gt_O_sw h) n
  have d2 := gt_O_dir k n
  exact hs (gt_sd_trans (gt_d_nz (fun z => n z.symm)) (gt_sd_sw d1) d2)
theorem gt_adjM {v b c q : gt_P} (h : gt_O v b q) (n : q ≠ b) (hs : ¬ gt_sd (gt_d b v) (gt_d b c)) (nb : v ≠ b) (nc : b ≠ c) : ¬ gt_M q v b c := fun k => by
  rcases k with k | (k | k) | (k | k)
  · have : gt_t q v b = 0 := by
      have := h.1
      unfold gt_t; unfold g_turn at *; grind
    have k1 : gt_t q v b * gt_t q v c < 0 := k.1
    rw [this, Int.zero_mul] at k1; omega
  · exact n (gt_O_anti h (gt_O_sw k))
  · have hc : gt_O v b c := gt_O_tr h (gt_O_sw k)
    exact hs (gt_sd_sw (gt_O_dir (gt_O_sw hc) (fun z => nc z.symm)))
  · exact gt_adj h n hs nb k
  · exact hs (gt_O_dir k nb)
theorem gt_P1_b {v b c : gt_P} {r : List gt_P} (h : gt_smp (v :: b :: c :: r)) : b ≠ c ∧ ¬ gt_sd (gt_d b v) (gt_d b c) := by
  have h2 := h [v] (b :: c :: r) rfl (by simp)
  cases r with
  | nil => exact ⟨h2.1, h2.2.1⟩
  | cons e r =>
    refine ⟨h2.1, ?_⟩
    have : gt_ls e (r ++ [v]) = v := by rw [gt_ls_app]; rfl
    have k : ¬ gt_sd (gt_d b (gt_ls e (r ++ [v]))) (gt_d b c) := h2.2.1
    rw [this] at k
    exact k
theorem gt_w_on {v b c q : gt_P} {r : List gt_P} (h : gt_smp (v :: b :: c :: r)) (hq : gt_O v b q) (n1 : q ≠ b) (n2 : q ≠ v) : gt_w (v :: b :: c :: r) q = gt_k (v :: b :: c :: r) + if gt_up (gt_d v b) then 0 else 1 := by
  obtain ⟨h1, h2, h3⟩ : v ≠ b ∧ ¬ gt_sd (gt_d v (gt_ls c r)) (gt_d v b) ∧ gt_al (fun x y => ¬ gt_M v b x y) c r := gt_smp_1 h (by simp)
  obtain ⟨m1, m2⟩ := gt_P1_b h
  have see : gt_al (fun x y => ¬ gt_M q v x y) b (c :: r) := ⟨gt_adjM hq n1 m2 h1 m1, gt_al_imp (fun x y z w => z (gt_M_sub hq (gt_M_sw w))) h3⟩
  have k := gt_see (v := v) (b := b) (z := q) (r := c :: r) see
  have na := gt_d_nz (gt_smp_last h)
  have sb := gt_s_b na (gt_d_nz h1) (gt_d_nz (fun z => n2 z.symm)) h2 (gt_O_dir hq n2)
  rw [k]
  have e : gt_ls b (c :: r) = gt_ls c r := rfl
  rw [e]
  show _ = gt_w (v :: b :: c :: r) v - (if gt_lt (gt_d v (gt_ls c r)) (gt_d v b) then 1 else 0) + _
  rw [← sb]
  unfold gt_s
  omega
/-! along a line -/
def gt_dv (y : Int) (a b : gt_P) : Prop := a.2 = b.2 ∨ ∃ X, gt_t a b (X, y) = 0
theorem gt_c_st {a b : gt_P} {x y : Int} (h : gt_dv y a b) (n : ¬ gt_O a b (x, y)) : gt_c (x - 1, y) a b = gt_c (x, y) a b := by
  have key : ∀ {a b : gt_P}, a.2 < b.2 → (∃ X, gt_t a b (X, y) = 0) → ¬ gt_O a b (x, y) → gt_c (x - 1, y) a b = gt_c (x, y) a b := fun {a b} lt ⟨X, e⟩ n => by
    unfold gt_c g_cs
    dsimp only
    by_cases c : a.2 ≤ y ∧ y < b.2
    · have e1 : g_turn a.1 a.2 b.1 b.2 x y = (b.2 - a.2) * (X - x) := by unfold gt_t at e; unfold g_turn at *; dsimp only at e; grind
      have e2 : g_turn a.1 a.2 b.1 b.2 (x - 1) y = (b.2 - a.2) * (X - (x - 1)) := by unfold gt_t at e; unfold g_turn at *; dsimp only at e; grind
      have nX : X ≠ x := fun z => n (gt_O_2 (by show gt_t a b (x, y) = 0; rw [← z]; exact e) (by omega) (by dsimp only; omega))
      rw [e1, e2]
      have g1 := gt_sp (b.2 - a.2) (X - x)
      have g2 := gt_sp (b.2 - a.2) (X - (x - 1))
      have : (0 < (b.2 - a.2) * (X - (x - 1))) ↔ (0 < (b.2 - a.2) * (X - x)) := by omega
      by_cases w : 0 < (b.2 - a.2) * (X - x)
      · rw [if_pos ⟨c, this.mpr w⟩, if_pos ⟨c, w⟩]
      · rw [if_neg (fun z => w (this.mp z.2)), if_neg (by omega), if_neg (fun z => w z.2), if_neg (by omega)]
    · rw [if_neg (fun z => c z.1), if_neg (by omega), if_neg (fun z => c z.1), if_neg (by omega)]
  rcases h with h | h
  · unfold gt_c g_cs
    dsimp only
    rw [if_neg (by omega), if_neg (by omega), if_neg (by omega), if_neg (by omega)]
  · by_cases c : a.2 < b.2
    · exact key c h n
    · by_cases c2 : b.2 < a.2
      · have := key (a := b) (b := a) c2 (by obtain ⟨X, e⟩ := h; exact ⟨X, by unfold gt_t at *; rw [gt_sw]; omega⟩) (fun z => n (gt_O_sw z))
        rw [gt_c_sw (a := a), gt_c_sw (a := a)] at this
        omega
      · unfold gt_c g_cs
        dsimp only
        rw [if_neg (by omega), if_neg (by omega), if_neg (by omega), if_neg (by omega)]
theorem gt_ps_st {x y : Int} : ∀ {a : gt_P} {l : List gt_P}, gt_al (gt_dv y) a l → gt_al (fun u w => ¬ gt_O u w (x, y)) a l → gt_ps (gt_c (x - 1, y)) a l = gt_ps (gt_c (x, y)) a l
  | _, [], _, _ => rfl
  | a, b :: l, ⟨h1, h2⟩, ⟨k1, k2⟩ => by
    show gt_c (x - 1, y) a b + gt_ps (gt_c (x - 1, y)) b l = gt_c (x, y) a b + gt_ps (gt_c (x, y)) b l
    rw [gt_c_st h1 k1, gt_ps_st h2 k2]
/-- just on the left of a point of the border -/
theorem gt_w_left {v b c : gt_P} {r : List gt_P} {x y : Int} (h : gt_smp (v :: b :: c :: r)) (hd : gt_al (gt_dv y) v (b :: c :: (r ++ [v]))) (hq : gt_O v b (x, y)) (n1 : (x, y) ≠ b) : gt_w (v :: b :: c :: r) (x - 1, y) = gt_k (v :: b :: c :: r) ∨ gt_w (v :: b :: c :: r) (x - 1, y) = gt_k (v :: b :: c :: r) + 1 := by
  obtain ⟨h1, h2, h3⟩ : v ≠ b ∧ ¬ gt_sd (gt_d v (gt_ls c r)) (gt_d v b) ∧ gt_al (fun x y => ¬ gt_M v b x y) c r := gt_smp_1 h (by simp)
  obtain ⟨m1, m2⟩ := gt_P1_b h
  obtain ⟨d1, d2, d3⟩ := hd
  rw [gt_al_app] at d3
  obtain ⟨d3, d4, -⟩ := d3
  have w1 : ∀ z, gt_w (v :: b :: c :: r) z = gt_c z v b + (gt_c z b c + (gt_ps (gt_c z) c r + gt_c z (gt_ls c r) v)) := fun z => by
    show gt_c z v b + (gt_c z b c + gt_ps (gt_c z) c (r ++ [v])) = _
    rw [gt_ps_app]
    show _ + (_ + (_ + (gt_c z (gt_ls c r) v + 0))) = _
    omega
  have nbc : ¬ gt_O b c (x, y) := gt_adj hq n1 m2 h1
  have nr : gt_al (fun u w => ¬ gt_O u w (x, y)) c r := gt_al_imp (fun u w z k => z (gt_M_pt hq k)) h3
  have s1 := gt_c_st d2 nbc
  have s2 := gt_ps_st d3 nr
  have nav := gt_smp_last h
  by_cases ev : (x, y) = v
  · have c1 := gt_cV (x - 1, y) v b
    have c2 := gt_cV (x - 1, y) v (gt_ls c r)
    have ev1 : v.1 = x := by rw [← ev]
    have ev2 : v.2 = y := by rw [← ev]
    have u0 : ∀ z, gt_V (x - 1, y) v z = 0 := fun z => by
      unfold gt_V gt_U
      dsimp only
      rw [ev2]
      repeat' split
      all_goals omega
    rw [u0] at c1 c2
    have ez : gt_d v (x - 1, y) = (-1, 0) := by unfold gt_d; rw [ev1, ev2]; exact Prod.ext (by show x - 1 - x = -1; omega) (by show y - y = 0; omega)
    rw [ez] at c1 c2
    have e1 := w1 (x - 1, y)
    have e2 := w1 (x, y)
    rw [s1, s2, gt_c_sw (z := (x - 1, y)) (a := v)] at e1
    have z1 : gt_c (x, y) v b = 0 := by rw [ev]; exact gt_c_self
    have z2 : gt_c (x, y) (gt_ls c r) v = 0 := by rw [ev, gt_c_sw, gt_c_self]; rfl
    rw [z1, z2, ev] at e2
    have s01 := gt_s_01 (z := (-1, 0)) (gt_d_nz nav) (gt_d_nz h1) (Or.inl (by decide)) h2
    have kk : gt_k (v :: b :: c :: r) = gt_w (v :: b :: c :: r) v - (if gt_lt (gt_d v (gt_ls c r)) (gt_d v b) then 1 else 0) := rfl
    unfold gt_s at s01
    rw [ev] at e1
    omega
  · have nav2 : ¬ gt_O (gt_ls c r) v (x, y) := fun k => h2 (gt_sd_sw (gt_sd_trans (gt_d_nz (fun z => ev z.symm)) (gt_sd_sw (gt_O_dir hq ev)) (gt_O_dir (gt_O_sw k) ev)))
    have s3 := gt_c_st d4 nav2
    have e1 := w1 (x - 1, y)
    have e2 := w1 (x, y)
    have e3 := gt_w_on h hq n1 ev
    rw [s1, s2, s3] at e1
    have z1 : gt_c (x, y) v b = 0 := by
      have := hq.1
      unfold gt_c g_cs
      dsimp only at *
      rw [this, if_neg (by omega), if_neg (by omega)]
    have box := hq.2.2
    dsimp only at box
    have tl : gt_t v b (x, y) = 0 := hq.1
    have tt : g_turn v.1 v.2 b.1 b.2 (x - 1) y = b.2 - v.2 := by
      have e : g_turn v.1 v.2 b.1 b.2 (x - 1) y = gt_t v b (x, y) + (b.2 - v.2) := by unfold gt_t g_turn; dsimp only; grind
      omega
    by_cases c1 : v.2 < b.2
    · have u : gt_up (gt_d v b) := Or.inl (by show 0 < b.2 - v.2; omega)
      rw [if_pos u] at e3
      have yb : y ≠ b.2 := fun z => n1 (by
        have : (b.2 - v.2) * (b.1 - x) = 0 := by unfold gt_t g_turn at tl; dsimp only at tl; rw [z] at tl; grind
        rcases Int.mul_eq_zero.mp this with q | q
        · omega
        · exact Prod.ext (by show x = b.1; omega) z)
      have z2 : gt_c (x - 1, y) v b = 1 := by
        unfold gt_c g_cs
        dsimp only
        rw [tt, if_pos (by omega)]
      omega
    · by_cases c2 : b.2 < v.2
      · have u : ¬ gt_up (gt_d v b) := by unfold gt_up gt_d; dsimp only; omega
        rw [if_neg u] at e3
        have yv : y ≠ v.2 := fun z => ev (by
          have : (b.2 - v.2) * (v.1 - x) = 0 := by unfold gt_t g_turn at tl; dsimp only at tl; rw [z] at tl; grind
          rcases Int.mul_eq_zero.mp this with q | q
          · omega
          · exact Prod.ext (by show x = v.1; omega) z)
        have z2 : gt_c (x - 1, y) v b = -1 := by
          unfold gt_c g_cs
          dsimp only
          rw [tt, if_neg (by omega), if_pos (by omega)]
        omega
      · have z2 : gt_c (x - 1, y) v b = 0 := by
          unfold gt_c g_cs
          dsimp only
          rw [if_neg (by omega), if_neg (by omega)]
        split at e3 <;> omega
theorem gt_al_iff {E : gt_P → gt_P → Prop} : ∀ {l : List gt_P} {a : gt_P}, gt_al E a l ↔ ∀ s x y r, a :: l = s ++ x :: y :: r → E x y
  | [], a => ⟨fun _ s x y r e => by
      have := congrArg List.length e
      simp at this
      omega, fun _ => trivial⟩
  | b :: l, a => by
    constructor
    · intro ⟨h1, h2⟩ s x y r e
      cases s with
      | nil =>
        injection e with e1 e2
        injection e2 with e2 e3
        rw [← e1, ← e2]; exact h1
      | cons u s =>
        injection e with e1 e2
        exact gt_al_iff.mp h2 s x y r e2
    · intro h
      exact ⟨h [] a b l rfl, gt_al_iff.mpr (fun s x y r e => h (a :: s) x y r (by rw [e]; rfl))⟩
/-- what holds of the first stretch of all turns holds of all stretches -/
theorem gt_al_cyc {E : gt_P → gt_P → Prop} {v : gt_P} {l : List gt_P} (hl : l ≠ []) (h : ∀ s t x y r, v :: l = s ++ t → t ++ s = x :: y :: r → E x y) : gt_al E v (l ++ [v]) := by
  refine gt_al_iff.mpr (fun s x y r e => ?_)
  have e' : (v :: l) ++ [v] = s ++ x :: y :: r := e
  rcases List.eq_nil_or_concat r with hr | ⟨r', w, hr⟩
  · subst hr
    have e2 : (v :: l) ++ [v] = (s ++ [x]) ++ [y] := by rw [e']; simp
    obtain ⟨e3, e4⟩ := List.append_inj' e2 rfl
    have ey : v = y := by injection e4
    cases s with
    | nil =>
      injection e3 with e5 e6
      exact absurd e6 hl
    | cons u s =>
      injection e3 with e5 e6
      refine h (v :: s) [x] x y s (by rw [e6]; rfl) ?_
      rw [ey]; rfl
  · have e2 : (v :: l) ++ [v] = (s ++ x :: y :: r') ++ [w] := by rw [e', hr]; simp
    obtain ⟨e3, e4⟩ := List.append_inj' e2 rfl
    exact h s (x :: y :: r') x y (r' ++ s) e3 rfl
theorem gt_al_cyc2 {E : gt_P → gt_P → Prop} {v : gt_P} {l : List gt_P} (h : gt_al E v (l ++ [v])) {s t r : List gt_P} {x y : gt_P} (e : v :: l = s ++ t) (e2 : t ++ s = x :: y :: r) : E x y := by
  have k := gt_al_iff.mp h
  cases t with
  | nil =>
    rw [List.append_nil] at e
    rw [List.nil_append] at e2
    rw [← e] at e2
    refine k [] x y (r ++ [v]) ?_
    show v :: (l ++ [v]) = x :: y :: (r ++ [v])
    have : (v :: l) ++ [v] = (x :: y :: r) ++ [v] := by rw [e2]
    simpa using this
  | cons u t =>
    have eu : u = x := by injection e2
    subst eu
    cases t with
    | nil =>
      -- the last stretch
      have es : s = y :: r := by injection e2
      rw [es] at e
      have ev : v = y := by injection e
      have el : l = r ++ [u] := by injection e
      refine k (y :: r) u y [] ?_
      rw [ev, el]
      simp
    | cons w t =>
      have ew : w = y := by
        injection e2 with _ e3
        injection e3
      subst ew
      refine k s u w (t ++ [v]) ?_
      have : (v :: l) ++ [v] = (s ++ u :: w :: t) ++ [v] := by rw [e]
      simpa using this
theorem gt_dec (P : Prop) : P ∨ ¬ P := Classical.em P
/-- along a line all is 0 or 1 more than on the right -/
theorem gt_w_line {l : List gt_P} {y : Int} (h : gt_smp l) (hl : l ≠ []) (hd : ∀ s t u w r, l = s ++ t → t ++ s = u :: w :: r → gt_dv y u w) {x : Int} (h0 : gt_w l (x, y) = gt_k l ∨ gt_w l (x, y) = gt_k l + 1) : gt_w l (x - 1, y) = gt_k l ∨ gt_w l (x - 1, y) = gt_k l + 1 := by
  by_cases c : ∃ s t u w r, l = s ++ t ∧ t ++ s = u :: w :: r ∧ gt_O u w (x, y)
  · obtain ⟨s, t, u, w, r, e1, e2, e3⟩ := c
    -- a turn that begins with the stretch, and the point is not its end
    have fin : ∀ {s t : List gt_P} {u w : gt_P} {r : List gt_P}, l = s ++ t → t ++ s = u :: w :: r → gt_O u w (x, y) → (x, y) ≠ w → gt_w l (x - 1, y) = gt_k l ∨ gt_w l (x - 1, y) = gt_k l + 1 := fun {s t u w r} e1 e2 e3 ne => by
      have hr : gt_smp (u :: w :: r) := by rw [← e2]; exact gt_smp_rot (by rw [← e1]; exact h)
      obtain ⟨v, b, c, r', e⟩ := gt_smp_3 hr (by simp)
      have ek : gt_k (u :: w :: r) = gt_k l := by rw [← e2, e1]; exact gt_k_rot (by rw [← e1]; exact h)
      have ew : ∀ z, gt_w (u :: w :: r) z = gt_w l z := fun z => by rw [← e2, e1]; exact gt_w_rots
      have eu : u = v := by injection e
      have ewb : w = b := by
        injection e with _ e3
        injection e3
      have er : r = c :: r' := by
        injection e with _ e3
        injection e3
      subst eu ewb er
      rw [← ew, ← ek]
      refine gt_w_left hr ?_ e3 ne
      refine gt_al_cyc (v := u) (l := w :: c :: r') (by simp) (fun s' t' a b r'' f1 f2 => ?_)
      -- turns of a turn
      have g : ∃ s'' t'', l = s'' ++ t'' ∧ t'' ++ s'' = t' ++ s' := by
        have e4 : t ++ s = s' ++ t' := by rw [e2, f1]
        rcases List.append_eq_append_iff.mp e4 with ⟨m, a1, a2⟩ | ⟨m, a1, a2⟩
        · exact ⟨m, t' ++ t, by rw [e1, a2]; simp, by rw [a1]; simp⟩
        · exact ⟨s ++ s', m, by rw [e1, a1]; simp, by rw [a2]; simp⟩
      obtain ⟨s'', t'', g1, g2⟩ := g
      exact hd s'' t'' a b r'' g1 (by rw [g2, f2])
    by_cases ne : (x, y) = w
    · -- the next stretch
      have hr : gt_smp (u :: w :: r) := by rw [← e2]; exact gt_smp_rot (by rw [← e1]; exact h)
      obtain ⟨v, b, c, r', e⟩ := gt_smp_3 hr (by simp)
      have eu : u = v := by injection e
      have ewb : w = b := by
        injection e with _ e3
        injection e3
      have er : r = c :: r' := by
        injection e with _ e3
        injection e3
      subst eu ewb er
      have g : ∃ s'' t'', l = s'' ++ t'' ∧ t'' ++ s'' = w :: c :: (r' ++ [u]) := by
        cases t with
        | nil =>
          rw [List.nil_append] at e2
          rw [List.append_nil] at e1
          exact ⟨[u], w :: c :: r', by rw [e1, e2]; rfl, rfl⟩
        | cons u' t =>
          have eu : u' = u := by injection e2
          have et : t ++ s = w :: c :: r' := by injection e2
          subst eu
          exact ⟨s ++ [u'], t, by rw [e1]; simp, by rw [← List.append_assoc, et]; simp⟩
      obtain ⟨s'', t'', g1, g2⟩ := g
      have m := gt_P1_b hr
      exact fin g1 g2 (by rw [ne]; exact gt_O_l) (by rw [ne]; exact m.1)
    · exact fin e1 e2 e3 ne
  · obtain ⟨v, b, cc, r, e⟩ := gt_smp_3 h hl
    subst e
    have : gt_w (v :: b :: cc :: r) (x - 1, y) = gt_w (v :: b :: cc :: r) (x, y) := by
      show gt_ps _ v (b :: cc :: r ++ [v]) = gt_ps _ v (b :: cc :: r ++ [v])
      refine gt_ps_st (gt_al_cyc (by simp) (fun s t u w r' e1 e2 => hd s t u w r' e1 e2)) (gt_al_cyc (by simp) (fun s t u w r' e1 e2 k => c ⟨s, t, u, w, r', e1, e2, k⟩))
    rw [this]; exact h0
/-- far on the right nothing goes round -/
theorem gt_c_far {a b : gt_P} {x y : Int} (h1 : a.1 ≤ x) (h2 : b.1 ≤ x) : gt_c (x, y) a b = 0 := by
  have key : ∀ {a b : gt_P}, a.1 ≤ x → b.1 ≤ x → a.2 < b.2 → gt_c (x, y) a b = 0 := fun {a b} h1 h2 lt => by
    unfold gt_c g_cs
    dsimp only
    rw [if_neg, if_neg (by omega)]
    intro ⟨c, z⟩
    have e : g_turn a.1 a.2 b.1 b.2 x y = -((b.2 - y) * (x - a.1) + (y - a.2) * (x - b.1)) := by unfold g_turn; grind
    have m1 := Int.mul_nonneg (show 0 ≤ b.2 - y by omega) (show 0 ≤ x - a.1 by omega)
    have m2 := Int.mul_nonneg (show 0 ≤ y - a.2 by omega) (show 0 ≤ x - b.1 by omega)
    omega
  by_cases c : a.2 < b.2
  · exact key h1 h2 c
  · by_cases c2 : b.2 < a.2
    · rw [gt_c_sw, key h2 h1 c2]; rfl
    · unfold gt_c g_cs
      dsimp only
      rw [if_neg (by omega), if_neg (by omega)]
theorem gt_ps_far {x y : Int} : ∀ {a : gt_P} {l : List gt_P}, a.1 ≤ x → (∀ q ∈ l, q.1 ≤ x) → gt_ps (gt_c (x, y)) a l = 0
  | _, [], _, _ => rfl
  | a, b :: l, h1, h2 => by
    show gt_c (x, y) a b + gt_ps (gt_c (x, y)) b l = 0
    rw [gt_c_far h1 (h2 b (List.mem_cons_self ..)), gt_ps_far (h2 b (List.mem_cons_self ..)) (fun q hq => h2 q (List.mem_cons_of_mem _ hq))]; rfl
theorem gt_w_far {l : List gt_P} {x y : Int} (h : ∀ q ∈ l, q.1 ≤ x) : gt_w l (x, y) = 0 := by
  cases l with
  | nil => rfl
  | cons v r =>
    refine gt_ps_far (h v (List.mem_cons_self ..)) (fun q hq => ?_)
    rcases List.mem_append.mp hq with k | k
    · exact h q (List.mem_cons_of_mem _ k)
    · rw [List.mem_singleton.mp k]; exact h v (List.mem_cons_self ..)
theorem gt_max : ∀ {l : List gt_P}, l ≠ [] → ∃ v ∈ l, ∀ q ∈ l, q.1 ≤ v.1
  | [], h => absurd rfl h
  | [a], _ => ⟨a, List.mem_cons_self .., fun q hq => by rw [List.mem_singleton.mp hq]; omega⟩
  | a :: b :: l, _ => by
    obtain ⟨v, h1, h2⟩ := gt_max (l := b :: l) (by simp)
    by_cases c : a.1 ≤ v.1
    · refine ⟨v, List.mem_cons_of_mem _ h1, fun q hq => ?_⟩
      rcases List.mem_cons.mp hq with e | e
      · rw [e]; exact c
      · exact h2 q e
    · refine ⟨a, List.mem_cons_self .., fun q hq => ?_⟩
      rcases List.mem_cons.mp hq with e | e
      · rw [e]; omega
      · have := h2 q e; omega
/-- left is 0 or -1 more than out -/
theorem gt_k_01 {l : List gt_P} (h : gt_smp l) (hl : l ≠ []) : gt_k l = 0 ∨ gt_k l = -1 := by
  obtain ⟨v, h1, h2⟩ := gt_max hl
  have := gt_w_cor h h1
  have z : gt_w l v = 0 := gt_w_far (x := v.1) (y := v.2) h2
  omega
theorem gt_w_all1 {l : List gt_P} {y : Int} (h : gt_smp l) (hl : l ≠ []) (hd : ∀ s t u w r, l = s ++ t → t ++ s = u :: w :: r → gt_dv y u w) (x : Int) : gt_w l (x, y) = gt_k l ∨ gt_w l (x, y) = gt_k l + 1 := by
  obtain ⟨v, h1, h2⟩ := gt_max hl
  have k := gt_k_01 h hl
  by_cases c : v.1 ≤ x
  · rw [gt_w_far (fun q hq => by have := h2 q hq; omega)]; omega
  · obtain ⟨n, hn⟩ : ∃ n : Nat, v.1 - x = n := ⟨(v.1 - x).toNat, by omega⟩
    have : ∀ n : Nat, gt_w l (v.1 - n, y) = gt_k l ∨ gt_w l (v.1 - n, y) = gt_k l + 1 := by
      intro n
      induction n with
      | zero => rw [gt_w_far (fun q hq => by have := h2 q hq; omega)]; omega
      | succ n ih =>
        have := gt_w_line h hl hd ih
        rw [show v.1 - ((n + 1 : Nat) : Int) = v.1 - (n : Int) - 1 by omega]
        exact this
    have := this n
    rw [show v.1 - (n : Int) = x by omega] at this
    exact this
/-! larger and smaller -/
def gt_g (K : Int) (p : gt_P) : gt_P := (K * p.1, K * p.2)
theorem gt_g_t {K : Int} {a b p : gt_P} : gt_t (gt_g K a) (gt_g K b) (gt_g K p) = K * K * gt_t a b p := by unfold gt_t gt_g g_turn; dsimp only; grind
theorem gt_g_le {K x y : Int} (h : 0 < K) : K * x ≤ K * y ↔ x ≤ y := ⟨fun z => Int.le_of_mul_le_mul_left z h, fun z => Int.mul_le_mul_of_nonneg_left z (by omega)⟩
theorem gt_g_lt {K x y : Int} (h : 0 < K) : K * x < K * y ↔ x < y := ⟨fun z => Int.lt_of_mul_lt_mul_left z (by omega), fun z => Int.mul_lt_mul_of_pos_left z h⟩
theorem gt_g_p {K x : Int} (h : 0 < K) : (0 < K * K * x ↔ 0 < x) ∧ (K * K * x < 0 ↔ x < 0) ∧ (K * K * x = 0 ↔ x = 0) := by
  have h2 := Int.mul_pos h h
  generalize K * K = m at *
  have := gt_sp m x
  omega
theorem gt_g_c {K : Int} (h : 0 < K) {z a b : gt_P} : gt_c (gt_g K z) (gt_g K a) (gt_g K b) = gt_c z a b := by
  have e : g_turn (gt_g K a).1 (gt_g K a).2 (gt_g K b).1 (gt_g K b).2 (gt_g K z).1 (gt_g K z).2 = K * K * gt_t a b z := gt_g_t
  unfold gt_c g_cs
  rw [e]
  obtain ⟨p1, p2, -⟩ := gt_g_p (x := gt_t a b z) h
  have c1 : ((gt_g K a).2 ≤ (gt_g K z).2 ∧ (gt_g K z).2 < (gt_g K b).2) ↔ (a.2 ≤ z.2 ∧ z.2 < b.2) := and_congr (gt_g_le h) (gt_g_lt h)
  have c2 : ((gt_g K b).2 ≤ (gt_g K z).2 ∧ (gt_g K z).2 < (gt_g K a).2) ↔ (b.2 ≤ z.2 ∧ z.2 < a.2) := and_congr (gt_g_le h) (gt_g_lt h)
  have q1 : (((gt_g K a).2 ≤ (gt_g K z).2 ∧ (gt_g K z).2 < (gt_g K b).2) ∧ 0 < K * K * gt_t a b z) ↔ ((a.2 ≤ z.2 ∧ z.2 < b.2) ∧ 0 < gt_t a b z) := and_congr c1 p1
  have q2 : (((gt_g K b).2 ≤ (gt_g K z).2 ∧ (gt_g K z).2 < (gt_g K a).2) ∧ K * K * gt_t a b z < 0) ↔ ((b.2 ≤ z.2 ∧ z.2 < a.2) ∧ gt_t a b z < 0) := and_congr c2 p2
  by_cases d1 : (a.2 ≤ z.2 ∧ z.2 < b.2) ∧ 0 < gt_t a b z
  · rw [if_pos (q1.mpr d1)]
    exact (if_pos d1).symm
  · rw [if_neg (fun z => d1 (q1.mp z))]
    by_cases d2 : (b.2 ≤ z.2 ∧ z.2 < a.2) ∧ gt_t a b z < 0
    · rw [if_pos (q2.mpr d2)]
      exact ((if_neg d1).trans (if_pos d2)).symm
    · rw [if_neg (fun z => d2 (q2.mp z))]
      exact ((if_neg d1).trans (if_neg d2)).symm
theorem gt_g_O {K : Int} (h : 0 < K) {a b p : gt_P} : gt_O (gt_g K a) (gt_g K b) (gt_g K p) ↔ gt_O a b p := by
  have e : g_turn (gt_g K a).1 (gt_g K a).2 (gt_g K b).1 (gt_g K b).2 (gt_g K p).1 (gt_g K p).2 = K * K * gt_t a b p := gt_g_t
  unfold gt_O gt_on
  rw [e]
  exact and_congr (gt_g_p h).2.2 (and_congr (and_congr (or_congr (gt_g_le h) (gt_g_le h)) (or_congr (gt_g_le h) (gt_g_le h))) (and_congr (or_congr (gt_g_le h) (gt_g_le h)) (or_congr (gt_g_le h) (gt_g_le h))))
theorem gt_g_mm {K x y : Int} (h : 0 < K) : (K * K * x) * (K * K * y) < 0 ↔ x * y < 0 := by
  have e : (K * K * x) * (K * K * y) = (K * K) * (K * K) * (x * y) := by grind
  rw [e]
  exact (gt_g_p (K := K * K) (x := x * y) (Int.mul_pos h h)).2.1
theorem gt_g_M {K : Int} (h : 0 < K) {p q a b : gt_P} : gt_M (gt_g K p) (gt_g K q) (gt_g K a) (gt_g K b) ↔ gt_M p q a b := by
  rw [gt_M_mk, gt_M_mk, gt_g_O h, gt_g_O h, gt_g_O h, gt_g_O h, gt_g_t, gt_g_t, gt_g_t, gt_g_t, gt_g_mm h, gt_g_mm h]
theorem gt_g_inj {K : Int} (h : 0 < K) {a b : gt_P} (e : gt_g K a = gt_g K b) : a = b := by
  have e1 : K * a.1 = K * b.1 := congrArg Prod.fst e
  have e2 : K * a.2 = K * b.2 := congrArg Prod.snd e
  exact Prod.ext (Int.eq_of_mul_eq_mul_left (by omega) e1) (Int.eq_of_mul_eq_mul_left (by omega) e2)
theorem gt_g_d {K : Int} {a b : gt_P} : gt_d (gt_g K a) (gt_g K b) = gt_g K (gt_d a b) := by
  unfold gt_d gt_g
  dsimp only
  exact Prod.ext (by show K * b.1 - K * a.1 = K * (b.1 - a.1); grind) (by show K * b.2 - K * a.2 = K * (b.2 - a.2); grind)
theorem gt_g_up {K : Int} (h : 0 < K) {a : gt_P} : gt_up (gt_g K a) ↔ gt_up a := by
  unfold gt_up gt_g
  dsimp only
  have h1 := gt_sp K a.1
  have h2 := gt_sp K a.2
  omega
theorem gt_g_x {K : Int} {a b : gt_P} : gt_x (gt_g K a) (gt_g K b) = K * K * gt_x a b := by unfold gt_x gt_g; dsimp only; grind
theorem gt_g_sd {K : Int} (h : 0 < K) {a b : gt_P} : gt_sd (gt_g K a) (gt_g K b) ↔ gt_sd a b := by
  unfold gt_sd
  rw [gt_g_x, gt_g_up h, gt_g_up h, (gt_g_p h).2.2]
theorem gt_g_l {K : Int} (h : 0 < K) {a b : gt_P} : gt_lt (gt_g K a) (gt_g K b) ↔ gt_lt a b := by
  unfold gt_lt
  rw [gt_g_x, gt_g_up h, gt_g_up h, (gt_g_p h).1]
theorem gt_g_ls {K : Int} : ∀ {a : gt_P} {l : List gt_P}, gt_ls (gt_g K a) (l.map (gt_g K)) = gt_g K (gt_ls a l)
  | _, [] => rfl
  | _, b :: l => gt_g_ls (a := b) (l := l)
theorem gt_g_ps {K : Int} (h : 0 < K) {z : gt_P} : ∀ {a : gt_P} {l : List gt_P}, gt_ps (gt_c (gt_g K z)) (gt_g K a) (l.map (gt_g K)) = gt_ps (gt_c z) a l
  | _, [] => rfl
  | a, b :: l => by
    show gt_c (gt_g K z) (gt_g K a) (gt_g K b) + gt_ps (gt_c (gt_g K z)) (gt_g K b) (l.map (gt_g K)) = gt_c z a b + gt_ps (gt_c z) b l
    rw [gt_g_c h, gt_g_ps h]
theorem gt_g_w {K : Int} (h : 0 < K) {l : List gt_P} {z : gt_P} : gt_w (l.map (gt_g K)) (gt_g K z) = gt_w l z := by
  cases l with
  | nil => rfl
  | cons v r =>
    show gt_ps (gt_c (gt_g K z)) (gt_g K v) (r.map (gt_g K) ++ [gt_g K v]) = gt_ps (gt_c z) v (r ++ [v])
    have := gt_g_ps h (z := z) (a := v) (l := r ++ [v])
    rw [List.map_append] at this
    exact this
theorem gt_g_al {K : Int} {E F : gt_P → gt_P → Prop} (hEF : ∀ a b, E a b → F (gt_g K a) (gt_g K b)) : ∀ {a : gt_P} {l : List gt_P}, gt_al E a l → gt_al F (gt_g K a) (l.map (gt_g K))
  | _, [], _ => trivial
  | _, _ :: _, ⟨h1, h2⟩ => ⟨hEF _ _ h1, gt_g_al hEF h2⟩
theorem gt_g_P1 {K : Int} (h : 0 < K) {l : List gt_P} (hp : gt_P1 l) : gt_P1 (l.map (gt_g K)) := by
  match l with
  | [] => exact hp
  | [_] => exact hp
  | [_, _] => exact hp
  | v :: b :: c :: r =>
    obtain ⟨h1, h2, h3⟩ := hp
    refine ⟨fun e => h1 (gt_g_inj h e), ?_, gt_g_al (fun a b z w => z ((gt_g_M h).mp w)) h3⟩
    rw [gt_g_ls, gt_g_d, gt_g_d, gt_g_sd h]; exact h2
theorem gt_g_smp {K : Int} (h : 0 < K) {l : List gt_P} (hs : gt_smp l) : gt_smp (l.map (gt_g K)) := by
  intro s t e ht
  obtain ⟨s', t', e1, e2, e3⟩ := List.map_eq_append_iff.mp e
  rw [← e2, ← e3, ← List.map_append]
  refine gt_g_P1 h (hs s' t' e1 (fun z => ht ?_))
  rw [← e3, z]; rfl
theorem gt_g_k {K : Int} (h : 0 < K) {l : List gt_P} : gt_k (l.map (gt_g K)) = gt_k l := by
  match l with
  | [] => rfl
  | [_] => rfl
  | v :: b :: r =>
    have hw := gt_g_w h (l := v :: b :: r) (z := v)
    show gt_w ((v :: b :: r).map (gt_g K)) (gt_g K v) - (if gt_lt (gt_d (gt_g K v) (gt_ls (gt_g K b) (r.map (gt_g K)))) (gt_d (gt_g K v) (gt_g K b)) then 1 else 0) = gt_w (v :: b :: r) v - (if gt_lt (gt_d v (gt_ls b r)) (gt_d v b) then 1 else 0)
    rw [hw, gt_g_ls, gt_g_d, gt_g_d]
    by_cases c : gt_lt (gt_d v (gt_ls b r)) (gt_d v b)
    · rw [if_pos c, if_pos ((gt_g_l h).mpr c)]
    · rw [if_neg c, if_neg (fun z => c ((gt_g_l h).mp z))]
theorem gt_com : ∀ D : List Int, ∃ K : Int, 0 < K ∧ ∀ d ∈ D, d ≠ 0 → ∃ m, K = d * m
  | [] => ⟨1, by omega, fun d hd => by cases hd⟩
  | d :: D => by
    obtain ⟨K, h1, h2⟩ := gt_com D
    by_cases c : d = 0
    · refine ⟨K, h1, fun e he ne => ?_⟩
      rcases List.mem_cons.mp he with q | q
      · exact absurd (q.trans c) ne
      · exact h2 e q ne
    · by_cases c2 : 0 < d
      · refine ⟨d * K, Int.mul_pos c2 h1, fun e he ne => ?_⟩
        rcases List.mem_cons.mp he with q | q
        · exact ⟨K, by rw [q]⟩
        · obtain ⟨m, e1⟩ := h2 e q ne
          exact ⟨d * m, by rw [e1]; grind⟩
      · refine ⟨-d * K, Int.mul_pos (by omega) h1, fun e he ne => ?_⟩
        rcases List.mem_cons.mp he with q | q
        · exact ⟨-K, by rw [q]; grind⟩
        · obtain ⟨m, e1⟩ := h2 e q ne
          exact ⟨-d * m, by rw [e1]; grind⟩
/-- round any point: as often as on the left, or on the right -/
theorem gt_jordan {l : List gt_P} (h : gt_smp l) (hl : l ≠ []) (z : gt_P) : gt_w l z = gt_k l ∨ gt_w l z = gt_k l + 1 := by
  obtain ⟨K, h1, h2⟩ := gt_com (l.flatMap (fun a => l.map (fun b => b.2 - a.2)))
  rw [← gt_g_w h1, ← gt_g_k h1 (l := l)]
  refine gt_w_all1 (gt_g_smp h1 h) (fun e => hl (List.map_eq_nil_iff.mp e)) (fun s t u w r e1 e2 => ?_) _
  obtain ⟨s', t', e3, e4, e5⟩ := List.map_eq_append_iff.mp e1
  have e6 : (t' ++ s').map (gt_g K) = u :: w :: r := by rw [List.map_append, e4, e5, e2]
  have hu : ∃ a ∈ l, gt_g K a = u ∧ ∃ b ∈ l, gt_g K b = w := by
    match e7 : t' ++ s' with
    | [] => rw [e7] at e6; cases e6
    | [_] =>
      rw [e7] at e6
      injection e6 with _ e8
      cases e8
    | a :: b :: _ =>
      rw [e7] at e6
      have m : ∀ q, q ∈ t' ++ s' → q ∈ l := fun q hq => by
        rw [e3]
        rcases List.mem_append.mp hq with k | k
        · exact List.mem_append.mpr (Or.inr k)
        · exact List.mem_append.mpr (Or.inl k)
      injection e6 with f1 f2
      injection f2 with f2 f3
      exact ⟨a, m a (by rw [e7]; simp), f1, b, m b (by rw [e7]; simp), f2⟩
  obtain ⟨a, ha, ea, b, hb, eb⟩ := hu
  subst ea eb
  by_cases c : a.2 = b.2
  · exact Or.inl (by show K * a.2 = K * b.2; rw [c])
  · obtain ⟨m, em⟩ := h2 (b.2 - a.2) (List.mem_flatMap.mpr ⟨a, ha, List.mem_map.mpr ⟨b, hb, rfl⟩⟩) (by omega)
    refine Or.inr ⟨K * a.1 + (b.1 - a.1) * (z.2 - a.2) * m, ?_⟩
    show g_turn (K * a.1) (K * a.2) (K * b.1) (K * b.2) _ (K * z.2) = 0
    unfold g_turn
    rw [em]
    grind
