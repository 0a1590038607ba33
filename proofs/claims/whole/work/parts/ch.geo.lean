/-! geometry: half round, close to a corner -/
/-! turned half round -/
def gt_n (p : gt_P) : gt_P := (-p.1, -p.2)
theorem gt_n_n {p : gt_P} : gt_n (gt_n p) = p := Prod.ext (by show - -p.1 = p.1; omega) (by show - -p.2 = p.2; omega)
theorem gt_n_t {a b p : gt_P} : gt_t (gt_n a) (gt_n b) (gt_n p) = gt_t a b p := by unfold gt_t gt_n g_turn; dsimp only; grind
theorem gt_n_O {a b p : gt_P} : gt_O (gt_n a) (gt_n b) (gt_n p) ↔ gt_O a b p := by
  have e : g_turn (gt_n a).1 (gt_n a).2 (gt_n b).1 (gt_n b).2 (gt_n p).1 (gt_n p).2 = gt_t a b p := gt_n_t
  unfold gt_O gt_on
  rw [e]
  unfold gt_n gt_t
  dsimp only
  omega
theorem gt_n_M {p q a b : gt_P} : gt_M (gt_n p) (gt_n q) (gt_n a) (gt_n b) ↔ gt_M p q a b := by
  rw [gt_M_mk, gt_M_mk, gt_n_O, gt_n_O, gt_n_O, gt_n_O, gt_n_t, gt_n_t, gt_n_t, gt_n_t]
theorem gt_n_d {a b : gt_P} : gt_d (gt_n a) (gt_n b) = gt_n (gt_d a b) := by
  unfold gt_d gt_n
  dsimp only
  exact Prod.ext (by show -b.1 - -a.1 = -(b.1 - a.1); omega) (by show -b.2 - -a.2 = -(b.2 - a.2); omega)
theorem gt_n_up {a : gt_P} (h : gt_nz a) : gt_up (gt_n a) ↔ ¬ gt_up a := by
  unfold gt_nz at h
  unfold gt_up gt_n
  dsimp only
  omega
theorem gt_n_x {a b : gt_P} : gt_x (gt_n a) (gt_n b) = gt_x a b := by unfold gt_x gt_n; dsimp only; grind
theorem gt_n_sd {a b : gt_P} (ha : gt_nz a) (hb : gt_nz b) : gt_sd (gt_n a) (gt_n b) ↔ gt_sd a b := by
  unfold gt_sd
  rw [gt_n_x, gt_n_up ha, gt_n_up hb]
  exact and_congr ⟨fun h => by
    by_cases c : gt_up a <;> by_cases d : gt_up b <;> simp only [c, d] at h ⊢ <;> simp at h, fun h => by
    by_cases c : gt_up a <;> by_cases d : gt_up b <;> simp only [c, d] at h ⊢ <;> simp at h ⊢⟩ Iff.rfl
theorem gt_n_inj {a b : gt_P} (e : gt_n a = gt_n b) : a = b := by rw [← gt_n_n (p := a), e, gt_n_n]
theorem gt_n_ls : ∀ {a : gt_P} {l : List gt_P}, gt_ls (gt_n a) (l.map gt_n) = gt_n (gt_ls a l)
  | _, [] => rfl
  | _, b :: l => gt_n_ls (a := b) (l := l)
theorem gt_n_al {E F : gt_P → gt_P → Prop} (hEF : ∀ a b, E a b → F (gt_n a) (gt_n b)) : ∀ {a : gt_P} {l : List gt_P}, gt_al E a l → gt_al F (gt_n a) (l.map gt_n)
  | _, [], _ => trivial
  | _, _ :: _, ⟨h1, h2⟩ => ⟨hEF _ _ h1, gt_n_al hEF h2⟩
theorem gt_n_smp {l : List gt_P} (hs : gt_smp l) : gt_smp (l.map gt_n) := by
  intro s t e ht
  obtain ⟨s', t', e1, e2, e3⟩ := List.map_eq_append_iff.mp e
  have ht' : t' ≠ [] := fun z => ht (by rw [← e3, z]; rfl)
  rw [← e2, ← e3, ← List.map_append]
  have hr : gt_smp (t' ++ s') := gt_smp_rot (by rw [← e1]; exact hs)
  obtain ⟨v, b, c, r, e0⟩ := gt_smp_3 hr (fun z => ht' (List.append_eq_nil_iff.mp z).1)
  rw [e0] at hr ⊢
  obtain ⟨h1, h2, h3⟩ : v ≠ b ∧ ¬ gt_sd (gt_d v (gt_ls c r)) (gt_d v b) ∧ gt_al (fun x y => ¬ gt_M v b x y) c r := gt_smp_1 hr (by simp)
  have pl := gt_smp_last hr
  refine ⟨fun z => h1 (gt_n_inj z), ?_, gt_n_al (fun a b z w => z (gt_n_M.mp w)) h3⟩
  rw [gt_n_ls, gt_n_d, gt_n_d, gt_n_sd (gt_d_nz pl) (gt_d_nz h1)]
  exact h2
def gt_H (z p : gt_P) : Int := if gt_up (gt_d z p) then 1 else 0
theorem gt_H_e {z a b : gt_P} (h : ¬ gt_O a b z) : gt_c z a b - gt_c (gt_n z) (gt_n a) (gt_n b) = gt_H z b - gt_H z a := by
  have key : ∀ {a b : gt_P}, ¬ gt_O a b z → a.2 ≤ b.2 → gt_c z a b - gt_c (gt_n z) (gt_n a) (gt_n b) = gt_H z b - gt_H z a := fun {a b} h le => by
    have e : g_turn (-a.1) (-a.2) (-b.1) (-b.2) (-z.1) (-z.2) = gt_t a b z := gt_n_t
    have e1 : gt_c z a b = if (a.2 ≤ z.2 ∧ z.2 < b.2) ∧ 0 < gt_t a b z then 1 else 0 := by
      unfold gt_c g_cs
      rw [if_neg (show ¬ ((b.2 ≤ z.2 ∧ z.2 < a.2) ∧ g_turn a.1 a.2 b.1 b.2 z.1 z.2 < 0) by omega)] <;> rfl
    have e2 : gt_c (gt_n z) (gt_n a) (gt_n b) = if (a.2 < z.2 ∧ z.2 ≤ b.2) ∧ gt_t a b z < 0 then -1 else 0 := by
      unfold gt_c g_cs gt_n
      dsimp only
      rw [e, if_neg (show ¬ ((-a.2 ≤ -z.2 ∧ -z.2 < -b.2) ∧ 0 < gt_t a b z) by omega)]
      by_cases c : (a.2 < z.2 ∧ z.2 ≤ b.2) ∧ gt_t a b z < 0
      · rw [if_pos c, if_pos (by omega)]
      · rw [if_neg c, if_neg (by omega)]
    rw [e1, e2]
    unfold gt_H
    have up : ∀ p : gt_P, gt_up (gt_d z p) ↔ (z.2 < p.2 ∨ (p.2 = z.2 ∧ p.1 < z.1)) := fun p => by unfold gt_up gt_d; dsimp only; omega
    have ub := up b
    have ua := up a
    by_cases c : a.2 < b.2
    · rcases Int.lt_trichotomy z.2 a.2 with d | d | d
      · rw [if_neg (by omega), if_neg (by omega), if_pos (ub.mpr (by omega)), if_pos (ua.mpr (by omega))] <;> rfl
      · -- at a
        have tt : gt_t a b z = (b.2 - a.2) * (a.1 - z.1) := by unfold gt_t g_turn; rw [d]; grind
        have ne : z.1 ≠ a.1 := fun w => h (by rw [show z = a from Prod.ext w d]; exact gt_O_l)
        have s := gt_sp (b.2 - a.2) (a.1 - z.1)
        rw [← tt] at s
        rw [if_neg (show ¬ ((a.2 < z.2 ∧ z.2 ≤ b.2) ∧ gt_t a b z < 0) by omega), if_pos (ub.mpr (by omega))]
        by_cases w : z.1 < a.1
        · rw [if_pos (by omega), if_neg (show ¬ gt_up (gt_d z a) from fun k => by have := ua.mp k; omega)] <;> rfl
        · rw [if_neg (by omega), if_pos (ua.mpr (by omega))] <;> rfl
      · rcases Int.lt_trichotomy z.2 b.2 with f | f | f
        · have ne : gt_t a b z ≠ 0 := fun w => h (gt_O_2 w (by omega) (by omega))
          rw [if_pos (ub.mpr (by omega)), if_neg (show ¬ gt_up (gt_d z a) from fun k => by have := ua.mp k; omega)]
          by_cases w : 0 < gt_t a b z
          · rw [if_pos (by omega), if_neg (by omega)]
          · rw [if_neg (by omega), if_pos (by omega)] <;> rfl
        · have tt : gt_t a b z = (b.2 - a.2) * (b.1 - z.1) := by unfold gt_t g_turn; rw [f]; grind
          have ne : z.1 ≠ b.1 := fun w => h (by rw [show z = b from Prod.ext w f]; exact gt_O_r)
          have s := gt_sp (b.2 - a.2) (b.1 - z.1)
          rw [← tt] at s
          rw [if_neg (show ¬ ((a.2 ≤ z.2 ∧ z.2 < b.2) ∧ 0 < gt_t a b z) by omega), if_neg (show ¬ gt_up (gt_d z a) from fun k => by have := ua.mp k; omega)]
          by_cases w : b.1 < z.1
          · rw [if_pos (by omega), if_pos (ub.mpr (by omega))] <;> rfl
          · rw [if_neg (by omega), if_neg (show ¬ gt_up (gt_d z b) from fun k => by have := ub.mp k; omega)]
        · rw [if_neg (by omega), if_neg (by omega), if_neg (show ¬ gt_up (gt_d z b) from fun k => by have := ub.mp k; omega), if_neg (show ¬ gt_up (gt_d z a) from fun k => by have := ua.mp k; omega)]
    · rw [if_neg (by omega), if_neg (by omega)]
      have : gt_up (gt_d z a) ↔ gt_up (gt_d z b) := by
        rw [ua, ub]
        have tt : a.2 = z.2 → gt_t a b z = 0 := fun w => by
          unfold gt_t g_turn
          rw [show z.2 - a.2 = 0 by omega, show b.2 - a.2 = 0 by omega]; simp
        by_cases w : a.2 = z.2
        · have nb : ¬ ((a.1 ≤ z.1 ∨ b.1 ≤ z.1) ∧ (z.1 ≤ a.1 ∨ z.1 ≤ b.1)) := fun k => h ⟨tt w, k, by omega, by omega⟩
          omega
        · omega
      by_cases w : gt_up (gt_d z a)
      · rw [if_pos w, if_pos (this.mp w)] <;> rfl
      · rw [if_neg w, if_neg (fun k => w (this.mpr k))] <;> rfl
  by_cases c : a.2 ≤ b.2
  · exact key h c
  · have := key (a := b) (b := a) (fun z => h (gt_O_sw z)) (by omega)
    rw [gt_c_sw (a := a) (b := b), gt_c_sw (a := gt_n a) (b := gt_n b)] at this
    omega
theorem gt_H_ps {z : gt_P} : ∀ {a : gt_P} {l : List gt_P}, gt_al (fun x y => ¬ gt_O x y z) a l → gt_ps (gt_c z) a l - gt_ps (gt_c (gt_n z)) (gt_n a) (l.map gt_n) = gt_H z (gt_ls a l) - gt_H z a
  | a, [], _ => by show (0 : Int) - 0 = gt_H z a - gt_H z a; omega
  | a, b :: l, ⟨h1, h2⟩ => by
    have e1 := gt_H_e h1
    have e2 := gt_H_ps h2
    show gt_c z a b + gt_ps (gt_c z) b l - (gt_c (gt_n z) (gt_n a) (gt_n b) + gt_ps (gt_c (gt_n z)) (gt_n b) (l.map gt_n)) = gt_H z (gt_ls b l) - gt_H z a
    omega
/-- stretches away from a corner do not touch it -/
theorem gt_away {v b c : gt_P} {r : List gt_P} (h : gt_smp (v :: b :: c :: r)) : gt_al (fun x y => ¬ gt_O x y v) b (c :: r) := by
  obtain ⟨h1, h2, h3⟩ : v ≠ b ∧ ¬ gt_sd (gt_d v (gt_ls c r)) (gt_d v b) ∧ gt_al (fun x y => ¬ gt_M v b x y) c r := gt_smp_1 h (by simp)
  obtain ⟨m1, m2⟩ := gt_P1_b h
  exact ⟨gt_adj gt_O_l h1 m2 h1, gt_al_imp (fun u w z k => z (gt_M_pt gt_O_l k)) h3⟩
theorem gt_n_k {l : List gt_P} (h : gt_smp l) (hl : l ≠ []) : gt_k (l.map gt_n) = gt_k l := by
  obtain ⟨v, b, c, r, e⟩ := gt_smp_3 h hl
  subst e
  have aw := gt_H_ps (gt_away h)
  obtain ⟨h1, h2, h3⟩ : v ≠ b ∧ ¬ gt_sd (gt_d v (gt_ls c r)) (gt_d v b) ∧ gt_al (fun x y => ¬ gt_M v b x y) c r := gt_smp_1 h (by simp)
  have pl := gt_smp_last h
  have w1 : gt_w (v :: b :: c :: r) v = gt_ps (gt_c v) b (c :: r) := by
    show gt_c v v b + gt_ps (gt_c v) b (c :: r ++ [v]) = _
    rw [gt_ps_app]
    show gt_c v v b + (_ + (gt_c v (gt_ls b (c :: r)) v + 0)) = _
    rw [gt_c_self, gt_c_sw, gt_c_self]; omega
  have w2 : gt_w ((v :: b :: c :: r).map gt_n) (gt_n v) = gt_ps (gt_c (gt_n v)) (gt_n b) ((c :: r).map gt_n) := by
    show gt_c (gt_n v) (gt_n v) (gt_n b) + gt_ps (gt_c (gt_n v)) (gt_n b) ((c :: r).map gt_n ++ [gt_n v]) = _
    rw [gt_ps_app]
    show gt_c (gt_n v) (gt_n v) (gt_n b) + (_ + (gt_c (gt_n v) (gt_ls (gt_n b) ((c :: r).map gt_n)) (gt_n v) + 0)) = _
    rw [gt_c_self, gt_c_sw, gt_c_self]; omega
  show gt_w ((v :: b :: c :: r).map gt_n) (gt_n v) - (if gt_lt (gt_d (gt_n v) (gt_ls (gt_n b) ((c :: r).map gt_n))) (gt_d (gt_n v) (gt_n b)) then 1 else 0) = gt_w (v :: b :: c :: r) v - (if gt_lt (gt_d v (gt_ls b (c :: r))) (gt_d v b) then 1 else 0)
  rw [w1, w2, gt_n_ls, gt_n_d, gt_n_d]
  have na := gt_d_nz pl
  have nb := gt_d_nz h1
  have el : gt_ls b (c :: r) = gt_ls c r := rfl
  rw [el] at aw ⊢
  unfold gt_H at aw
  have ua := gt_n_up na
  have ub := gt_n_up nb
  have ux := gt_n_x (a := gt_d v (gt_ls c r)) (b := gt_d v b)
  generalize gt_d v (gt_ls c r) = α at *
  generalize gt_d v b = β at *
  have l1 : gt_lt (gt_n α) (gt_n β) ↔ (¬ gt_up α ∧ gt_up β) ∨ ((gt_up α ↔ gt_up β) ∧ 0 < gt_x α β) := by
    show (gt_up (gt_n α) ∧ ¬ gt_up (gt_n β)) ∨ ((gt_up (gt_n α) ↔ gt_up (gt_n β)) ∧ 0 < gt_x (gt_n α) (gt_n β)) ↔ _
    rw [ua, ub, ux]
    refine or_congr (and_congr Iff.rfl ⟨fun h => Classical.byContradiction h, fun h k => k h⟩) (and_congr ⟨fun h => ?_, fun h => by rw [h]⟩ Iff.rfl)
    exact ⟨fun a => Classical.byContradiction (fun b => (h.mpr b) a), fun a => Classical.byContradiction (fun b => (h.mp b) a)⟩
  by_cases c1 : gt_up α <;> by_cases c2 : gt_up β
  · rw [if_pos c1, if_pos c2] at aw
    by_cases c3 : 0 < gt_x α β
    · rw [if_pos (l1.mpr (Or.inr ⟨⟨fun _ => c2, fun _ => c1⟩, c3⟩)), if_pos (Or.inr ⟨⟨fun _ => c2, fun _ => c1⟩, c3⟩)]; omega
    · rw [if_neg (fun z => by
        rcases l1.mp z with k | k
        · exact k.1 c1
        · exact c3 k.2), if_neg (fun z => by
        rcases z with k | k
        · exact k.2 c2
        · exact c3 k.2)]; omega
  · rw [if_pos c1, if_neg c2] at aw
    rw [if_neg (fun z => by
        rcases l1.mp z with k | k
        · exact k.1 c1
        · exact c2 (k.1.mp c1)), if_pos (Or.inl ⟨c1, c2⟩)]; omega
  · rw [if_neg c1, if_pos c2] at aw
    rw [if_pos (l1.mpr (Or.inl ⟨c1, c2⟩)), if_neg (fun z => by
        rcases z with k | k
        · exact k.2 c2
        · exact c1 (k.1.mpr c2))]; omega
  · rw [if_neg c1, if_neg c2] at aw
    by_cases c3 : 0 < gt_x α β
    · rw [if_pos (l1.mpr (Or.inr ⟨⟨fun h => absurd h c1, fun h => absurd h c2⟩, c3⟩)), if_pos (Or.inr ⟨⟨fun h => absurd h c1, fun h => absurd h c2⟩, c3⟩)]; omega
    · rw [if_neg (fun z => by
        rcases l1.mp z with k | k
        · exact c2 k.2
        · exact c3 k.2), if_neg (fun z => by
        rcases z with k | k
        · exact c1 k.1
        · exact c3 k.2)]; omega
theorem gt_n_fig {F : List gt_P} (h : gt_fig F) : gt_fig (F.map gt_n) := ⟨gt_n_smp h.1, fun z => h.2.1 (List.map_eq_nil_iff.mp z), by rw [gt_n_k h.1 h.2.1]; exact h.2.2⟩
theorem gt_cc_n {c : gt_P → gt_P → Int} (h : gt_cc c) : gt_cc (fun a b => c (gt_n a) (gt_n b)) := ⟨fun a b => h.1 _ _, fun a m b k => h.2 _ _ _ (gt_n_O.mpr k)⟩
/-! close to a corner -/
def gt_sh (K : Int) (v d : gt_P) : gt_P := (K * v.1 + d.1, K * v.2 + d.2)
theorem gt_abs (x : Int) : ∃ m : Int, 0 < m ∧ ∀ K, m ≤ K → -K < x ∧ x < K := ⟨x.natAbs + 1, by omega, fun K h => by omega⟩
theorem gt_near1 {v x y d : gt_P} (h : ¬ gt_O x y v) : ∃ K0 : Int, 0 < K0 ∧ ∀ K, K0 ≤ K → ¬ gt_M (gt_sh K v d) (gt_g K v) (gt_g K x) (gt_g K y) := by
  by_cases c : gt_t x y v = 0
  · obtain ⟨m1, a1, b1⟩ := gt_abs d.1
    obtain ⟨m2, a2, b2⟩ := gt_abs d.2
    refine ⟨m1 + m2, by omega, fun K hK k => ?_⟩
    have d1 := b1 K (by omega)
    have d2 := b2 K (by omega)
    have K0 : 0 < K := by omega
    obtain ⟨L, hL, z, z1, z2⟩ := gt_M_ex k
    obtain ⟨-, p1, p2⟩ := z1
    obtain ⟨-, q1, q2⟩ := z2
    have box : (v.1 < x.1 ∧ v.1 < y.1) ∨ (x.1 < v.1 ∧ y.1 < v.1) ∨ (v.2 < x.2 ∧ v.2 < y.2) ∨ (x.2 < v.2 ∧ y.2 < v.2) := by
      refine Classical.byContradiction (fun n => h ⟨c, by omega, by omega⟩)
    have st : ∀ {a b e : Int}, -K < e → e < K → a < b → L * (K * a + e) < L * (K * b) ∧ L * (K * a) < L * (K * b) ∧ L * (K * a) < L * (K * b + e) := fun {a b e} e1 e2 lt => by
      have m := Int.mul_le_mul_of_nonneg_left (show a + 1 ≤ b by omega) (show 0 ≤ K by omega)
      have m' : K * (a + 1) = K * a + K := by grind
      exact ⟨(gt_g_lt hL).mpr (by omega), (gt_g_lt hL).mpr (by omega), (gt_g_lt hL).mpr (by omega)⟩
    have e1 : (gt_g L (gt_sh K v d)).1 = L * (K * v.1 + d.1) := rfl
    have e2 : (gt_g L (gt_sh K v d)).2 = L * (K * v.2 + d.2) := rfl
    have e3 : ∀ p, (gt_g L (gt_g K p)).1 = L * (K * p.1) := fun _ => rfl
    have e4 : ∀ p, (gt_g L (gt_g K p)).2 = L * (K * p.2) := fun _ => rfl
    rw [e1, e3] at p1
    rw [e2, e4] at p2
    rw [e3, e3] at q1
    rw [e4, e4] at q2
    rcases box with w | w | w | w
    · have s1 := st d1.1 d1.2 w.1
      have s2 := st d1.1 d1.2 w.2
      omega
    · have s1 := st d1.1 d1.2 w.1
      have s2 := st d1.1 d1.2 w.2
      omega
    · have s1 := st d2.1 d2.2 w.1
      have s2 := st d2.1 d2.2 w.2
      omega
    · have s1 := st d2.1 d2.2 w.1
      have s2 := st d2.1 d2.2 w.2
      omega
  · obtain ⟨m, a, b⟩ := gt_abs (gt_x (gt_d x y) d)
    refine ⟨m, a, fun K hK k => ?_⟩
    have hC := b K hK
    have K0 : 0 < K := by omega
    have e1 : gt_t (gt_g K x) (gt_g K y) (gt_sh K v d) = K * (K * gt_t x y v + gt_x (gt_d x y) d) := by
      unfold gt_t gt_g gt_sh gt_x gt_d g_turn; dsimp only; grind
    have e2 : gt_t (gt_g K x) (gt_g K y) (gt_g K v) = K * (K * gt_t x y v) := by rw [gt_g_t]; grind
    have same : ∀ T C : Int, -K < C → C < K → T ≠ 0 → (0 < K * (K * T + C) ∧ 0 < K * (K * T)) ∨ (K * (K * T + C) < 0 ∧ K * (K * T) < 0) := fun T C c1 c2 ne => by
      rcases Int.lt_or_gt_of_ne ne with w | w
      · right
        have m1 := Int.mul_le_mul_of_nonneg_left (show T ≤ -1 by omega) (show 0 ≤ K by omega)
        exact ⟨(gt_sp _ _).2.1 K0 (by omega), (gt_sp _ _).2.1 K0 (by omega)⟩
      · left
        have m1 := Int.mul_le_mul_of_nonneg_left (show 1 ≤ T by omega) (show 0 ≤ K by omega)
        exact ⟨Int.mul_pos K0 (by omega), Int.mul_pos K0 (by omega)⟩
    have sg := same _ _ hC.1 hC.2 c
    rw [← e1, ← e2] at sg
    -- no point of the way is on the stretch's line
    have off : ∀ q, gt_O (gt_sh K v d) (gt_g K v) q → gt_t (gt_g K x) (gt_g K y) q ≠ 0 := fun q hq z => by
      obtain ⟨s, t, h1, h2, h3, h4, -⟩ := gt_O_t hq (gt_g K x) (gt_g K y)
      rw [z, Int.mul_zero] at h4
      generalize gt_t (gt_g K x) (gt_g K y) (gt_sh K v d) = A at *
      generalize gt_t (gt_g K x) (gt_g K y) (gt_g K v) = B at *
      have p1 := gt_sp (t - s) A
      have p2 := gt_sp s B
      rcases sg with w | w <;> by_cases s0 : s = 0
      · rw [s0, Int.zero_mul, Int.sub_zero] at h4
        have := Int.mul_pos h1 w.1
        omega
      · by_cases st : s = t
        · omega
        · omega
      · rw [s0, Int.zero_mul, Int.sub_zero] at h4
        have := (gt_sp t A).2.1 h1 w.1
        omega
      · by_cases st : s = t
        · omega
        · omega
    rcases k with k | (k | k) | (k | k)
    · have k2 : gt_t (gt_g K x) (gt_g K y) (gt_sh K v d) * gt_t (gt_g K x) (gt_g K y) (gt_g K v) < 0 := k.2
      rcases sg with w | w
      · have := Int.mul_pos w.1 w.2
        omega
      · have := (gt_sp _ _).2.2.2.1 w.1 w.2
        omega
    · exact off _ k (by unfold gt_t g_turn; grind)
    · exact off _ k (by unfold gt_t g_turn; grind)
    · exact off _ gt_O_l k.1
    · exact off _ gt_O_r k.1
theorem gt_nearA {v d : gt_P} : ∀ {a : gt_P} {l : List gt_P}, gt_al (fun x y => ¬ gt_O x y v) a l → ∃ K0 : Int, 0 < K0 ∧ ∀ K, K0 ≤ K → gt_al (fun x y => ¬ gt_M (gt_sh K v d) (gt_g K v) x y) (gt_g K a) (l.map (gt_g K))
  | _, [], _ => ⟨1, by omega, fun _ _ => trivial⟩
  | a, b :: l, ⟨h1, h2⟩ => by
    obtain ⟨K1, p1, q1⟩ := gt_near1 (d := d) h1
    obtain ⟨K2, p2, q2⟩ := gt_nearA (d := d) h2
    exact ⟨K1 + K2, by omega, fun K hK => ⟨q1 K (by omega), q2 K (by omega)⟩⟩
theorem gt_f_g {z b : gt_P} {K : Int} (h : 0 < K) : gt_f z (gt_g K b) = gt_f z b := by
  unfold gt_f gt_g
  dsimp only
  have e : K * b.1 * z.2 - K * b.2 * z.1 = K * (b.1 * z.2 - b.2 * z.1) := by grind
  rw [e]
  have s1 := gt_sp K b.2
  have s2 := gt_sp K (b.1 * z.2 - b.2 * z.1)
  generalize K * b.2 = u at *
  generalize K * (b.1 * z.2 - b.2 * z.1) = w at *
  generalize b.1 * z.2 - b.2 * z.1 = x at *
  by_cases c : 0 ≤ z.2
  · rw [if_pos c, if_pos c]
    by_cases d : 0 < b.2 ∧ 0 < x
    · rw [if_pos d, if_pos (by omega)]
    · rw [if_neg d, if_neg (by omega)]
  · rw [if_neg c, if_neg c]
    by_cases d : b.2 ≤ 0 ∧ x < 0
    · rw [if_pos d, if_pos (by omega)]
    · rw [if_neg d, if_neg (by omega)]
/-- close to a corner all is as the corner says -/
theorem gt_loc {v b : gt_P} {r : List gt_P} (h : gt_smp (v :: b :: r)) (d : gt_P) : ∃ K0 : Int, 0 < K0 ∧ ∀ K, K0 ≤ K → gt_w ((v :: b :: r).map (gt_g K)) (gt_sh K v d) = gt_k (v :: b :: r) + gt_s (gt_d v (gt_ls b r)) (gt_d v b) d := by
  obtain ⟨v', b', c, r', e0⟩ := gt_smp_3 h (by simp)
  have er : r = c :: r' := by
    injection e0 with _ e1
    injection e1
  subst er
  obtain ⟨K0, p, q⟩ := gt_nearA (d := d) (gt_away h)
  refine ⟨K0, p, fun K hK => ?_⟩
  have K1 : 0 < K := by omega
  have k := gt_see (v := gt_g K v) (b := gt_g K b) (z := gt_sh K v d) (r := (c :: r').map (gt_g K)) (q K hK)
  have e1 : (v :: b :: c :: r').map (gt_g K) = gt_g K v :: gt_g K b :: (c :: r').map (gt_g K) := rfl
  rw [e1, k, gt_g_ls, gt_g_d, gt_g_d]
  have ed : gt_d (gt_g K v) (gt_sh K v d) = d := by
    unfold gt_d gt_g gt_sh
    dsimp only
    exact Prod.ext (by show K * v.1 + d.1 - K * v.1 = d.1; omega) (by show K * v.2 + d.2 - K * v.2 = d.2; omega)
  rw [ed, gt_f_g K1, gt_f_g K1, ← e1, gt_g_w K1]
  show _ = gt_w (v :: b :: c :: r') v - (if gt_lt (gt_d v (gt_ls b (c :: r'))) (gt_d v b) then 1 else 0) + gt_s _ _ _
  unfold gt_s
  omega
/-- two FIGURES that lie apart -/
def gt_dj (A B : List gt_P) : Prop := ∀ (K : Int) (z : gt_P), 0 < K → gt_w (A.map (gt_g K)) z + gt_w (B.map (gt_g K)) z ≤ 1 ∧ gt_w ((A.map gt_n).map (gt_g K)) z + gt_w ((B.map gt_n).map (gt_g K)) z ≤ 1
theorem gt_ref_n {F G : List gt_P} (h : gt_ref F G) {K : Int} (hK : 0 < K) {z : gt_P} : gt_w ((G.map gt_n).map (gt_g K)) z = gt_w ((F.map gt_n).map (gt_g K)) z := by
  rw [gt_w_sm, gt_w_sm, gt_ed_map, gt_ed_map, gt_sm_map, gt_sm_map, gt_ed_map, gt_ed_map, gt_sm_map, gt_sm_map]
  exact h.2.2.1 _ (gt_cc_n (gt_cc_g (gt_cc_c z) hK))
theorem gt_dj_ref {A B A' B' : List gt_P} (h : gt_dj A B) (hA : gt_ref A A') (hB : gt_ref B B') : gt_dj A' B' := fun K z hK => by
  have := h K z hK
  rw [gt_ref_w hA hK, gt_ref_w hB hK, gt_ref_n hA hK, gt_ref_n hB hK]
  exact this
/-- close to a corner of both -/
theorem gt_dj_loc {v a b : gt_P} {r s : List gt_P} (hA : gt_smp (v :: a :: r)) (hB : gt_smp (v :: b :: s)) (kA : gt_k (v :: a :: r) = 0) (kB : gt_k (v :: b :: s) = 0) (h : gt_dj (v :: a :: r) (v :: b :: s)) (d : gt_P) : gt_s (gt_d v (gt_ls a r)) (gt_d v a) d + gt_s (gt_d v (gt_ls b s)) (gt_d v b) d ≤ 1 ∧ gt_s (gt_n (gt_d v (gt_ls a r))) (gt_n (gt_d v a)) d + gt_s (gt_n (gt_d v (gt_ls b s))) (gt_n (gt_d v b)) d ≤ 1 := by
  obtain ⟨K1, p1, q1⟩ := gt_loc hA d
  obtain ⟨K2, p2, q2⟩ := gt_loc hB d
  have hA' := gt_n_smp hA
  have hB' := gt_n_smp hB
  have kA' := gt_n_k hA (by simp)
  have kB' := gt_n_k hB (by simp)
  have eA : (v :: a :: r).map gt_n = gt_n v :: gt_n a :: r.map gt_n := rfl
  have eB : (v :: b :: s).map gt_n = gt_n v :: gt_n b :: s.map gt_n := rfl
  rw [eA] at hA' kA'
  rw [eB] at hB' kB'
  obtain ⟨K3, p3, q3⟩ := gt_loc hA' d
  obtain ⟨K4, p4, q4⟩ := gt_loc hB' d
  have K0 : 0 < K1 + K2 + K3 + K4 := by omega
  have w1 := h (K1 + K2 + K3 + K4) (gt_sh (K1 + K2 + K3 + K4) v d) K0
  have w2 := h (K1 + K2 + K3 + K4) (gt_sh (K1 + K2 + K3 + K4) (gt_n v) d) K0
  rw [q1 _ (by omega), q2 _ (by omega), kA, kB] at w1
  rw [eA, eB, q3 _ (by omega), q4 _ (by omega), kA', kB', kA, kB, gt_n_ls, gt_n_ls, gt_n_d, gt_n_d, gt_n_d, gt_n_d] at w2
  have a1 := w1.1
  have a2 := w2.2
  exact ⟨by omega, by omega⟩
