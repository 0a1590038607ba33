/-! geometry: stretches set in, left out; a way parted -/
/-! common points -/
theorem gt_M_ex {p q x y : gt_P} (h : gt_M p q x y) : ∃ K : Int, 0 < K ∧ ∃ z, gt_O (gt_g K p) (gt_g K q) z ∧ gt_O (gt_g K x) (gt_g K y) z := by
  have one : ∀ {p q x y z : gt_P}, gt_O p q z → gt_O x y z → ∃ K : Int, 0 < K ∧ ∃ z, gt_O (gt_g K p) (gt_g K q) z ∧ gt_O (gt_g K x) (gt_g K y) z := fun {p q x y z} h1 h2 => ⟨1, by omega, gt_g 1 z, (gt_g_O (by omega)).mpr h1, (gt_g_O (by omega)).mpr h2⟩
  rcases h with h | (h | h) | (h | h)
  · change gt_t p q x * gt_t p q y < 0 ∧ gt_t x y p * gt_t x y q < 0 at h
    obtain ⟨h1, h2⟩ := h
    have id_ := gt_id (v := p) (b := q) (x := x) (y := y)
    have e1 : gt_t x y p * (q.1 - p.1) = -gt_t p q x * (y.1 - x.1) + (gt_t x y p - gt_t x y q) * (x.1 - p.1) := by unfold gt_t g_turn; grind
    have e2 : gt_t x y p * (q.2 - p.2) = -gt_t p q x * (y.2 - x.2) + (gt_t x y p - gt_t x y q) * (x.2 - p.2) := by unfold gt_t g_turn; grind
    generalize gt_t p q x = A at *
    generalize gt_t p q y = B at *
    generalize gt_t x y p = P at *
    generalize gt_t x y q = Q at *
    have sA := gt_sp A B
    have sP := gt_sp P Q
    -- the point p + (q - p) P / (P - Q) = x + (y - x) A / (A - B)
    have mk : ∀ (K m n : Int), 0 < K → 0 ≤ m → m ≤ K → 0 ≤ n → n ≤ K → m * (q.1 - p.1) = n * (y.1 - x.1) + K * (x.1 - p.1) → m * (q.2 - p.2) = n * (y.2 - x.2) + K * (x.2 - p.2) → ∃ K : Int, 0 < K ∧ ∃ z, gt_O (gt_g K p) (gt_g K q) z ∧ gt_O (gt_g K x) (gt_g K y) z := fun K m n k0 m0 m1 n0 n1 f1 f2 => by
      refine ⟨K, k0, (K * p.1 + m * (q.1 - p.1), K * p.2 + m * (q.2 - p.2)), ?_, ?_⟩
      · refine gt_par_on (s := m) (t := K) k0 ⟨m0, m1⟩ ?_ ?_
        · show K * (K * p.1 + m * (q.1 - p.1) - K * p.1) = m * (K * q.1 - K * p.1); grind
        · show K * (K * p.2 + m * (q.2 - p.2) - K * p.2) = m * (K * q.2 - K * p.2); grind
      · refine gt_par_on (s := n) (t := K) k0 ⟨n0, n1⟩ ?_ ?_
        · show K * (K * p.1 + m * (q.1 - p.1) - K * x.1) = n * (K * y.1 - K * x.1); rw [f1]; grind
        · show K * (K * p.2 + m * (q.2 - p.2) - K * x.2) = n * (K * y.2 - K * x.2); rw [f2]; grind
    rcases Int.lt_trichotomy P 0 with c | c | c
    · have q0 : 0 < Q := by
        rcases Int.lt_trichotomy Q 0 with d | d | d <;> omega
      have hA : 0 < A ∧ B < 0 := by
        rcases Int.lt_trichotomy A 0 with d | d | d <;> rcases Int.lt_trichotomy B 0 with f | f | f <;> omega
      exact mk (Q - P) (-P) A (by omega) (by omega) (by omega) (by omega) (by omega) (by clear sA sP h1 h2 one mk; grind) (by clear sA sP h1 h2 one mk; grind)
    · omega
    · have q0 : Q < 0 := by
        rcases Int.lt_trichotomy Q 0 with d | d | d <;> omega
      have hA : A < 0 ∧ 0 < B := by
        rcases Int.lt_trichotomy A 0 with d | d | d <;> rcases Int.lt_trichotomy B 0 with f | f | f <;> omega
      exact mk (P - Q) P (-A) (by omega) (by omega) (by omega) (by omega) (by omega) (by clear sA sP h1 h2 one mk; grind) (by clear sA sP h1 h2 one mk; grind)
  · exact one h gt_O_l
  · exact one h gt_O_r
  · exact one gt_O_l h
  · exact one gt_O_r h
theorem gt_M_of {K : Int} {p q x y z : gt_P} (hK : 0 < K) (h : gt_O (gt_g K p) (gt_g K q) z) (k : gt_O (gt_g K x) (gt_g K y) z) : gt_M p q x y := (gt_g_M hK).mp (gt_M_pt h k)
theorem gt_O_spl {v c b z : gt_P} (h : gt_O v c b) (k : gt_O v c z) : gt_O v b z ∨ gt_O b c z := by
  rcases gt_O_ord h k with e | e
  · refine Or.inr ?_
    rcases gt_O_ord (gt_O_sw h) (gt_O_sw k) with f | f
    · have : b = z := by
        obtain ⟨-, k2, k3⟩ := k
        obtain ⟨-, e2, e3⟩ := e
        obtain ⟨-, f2, f3⟩ := f
        exact Prod.ext (by omega) (by omega)
      rw [this]; exact gt_O_l
    · exact gt_O_sw f
  · exact Or.inl e
theorem gt_M_spl {v c b x y : gt_P} (h : gt_O v c b) (k : gt_M v c x y) : gt_M v b x y ∨ gt_M b c x y := by
  obtain ⟨K, hK, z, z1, z2⟩ := gt_M_ex k
  rcases gt_O_spl ((gt_g_O hK).mpr h) z1 with e | e
  · exact Or.inl (gt_M_of hK e z2)
  · exact Or.inr (gt_M_of hK e z2)
/-! a corner where it goes straight on -/
def gt_ap (E : gt_P → gt_P → Prop) (l : List gt_P) : Prop := match l with
  | [] => True
  | a :: r => gt_al E a r
def gt_p1 (x : gt_P) (l : List gt_P) : Prop := match l with
  | y :: c :: r => x ≠ y ∧ ¬ gt_sd (gt_d x (gt_ls c r)) (gt_d x y) ∧ gt_al (fun a b => ¬ gt_M x y a b) c r
  | _ => False
/-- between v and c nothing or a point on the way -/
theorem gt_st_al {E : gt_P → gt_P → Prop} {v b c : gt_P} (hE : E v c ↔ (E v b ∧ E b c)) : ∀ {a : gt_P} {l r : List gt_P}, gt_al E a (l ++ v :: b :: c :: r) ↔ gt_al E a (l ++ v :: c :: r)
  | a, [], r => by
    show (E a v ∧ E v b ∧ E b c ∧ gt_al E c r) ↔ (E a v ∧ E v c ∧ gt_al E c r)
    rw [hE]
    exact ⟨fun h => ⟨h.1, ⟨h.2.1, h.2.2.1⟩, h.2.2.2⟩, fun h => ⟨h.1, h.2.1.1, h.2.1.2, h.2.2⟩⟩
  | a, d :: l, r => by
    show (E a d ∧ gt_al E d (l ++ v :: b :: c :: r)) ↔ (E a d ∧ gt_al E d (l ++ v :: c :: r))
    rw [gt_st_al hE]
theorem gt_ls_cat : ∀ {a v : gt_P} {l r : List gt_P}, gt_ls a (l ++ v :: r) = gt_ls v r
  | _, _, [], _ => rfl
  | _, v, d :: l, r => gt_ls_cat (a := d) (v := v) (l := l) (r := r)
theorem gt_st_dir {v c b : gt_P} (h : gt_O v c b) (n1 : b ≠ v) (n2 : b ≠ c) : gt_sd (gt_d v b) (gt_d v c) ∧ gt_sd (gt_d c b) (gt_d c v) := ⟨gt_O_dir h n1, gt_O_dir (gt_O_sw h) n2⟩
theorem gt_st_opp {v c b : gt_P} (h : gt_O v c b) (n1 : b ≠ v) (n2 : b ≠ c) : ¬ gt_sd (gt_d b v) (gt_d b c) := fun z => by
  obtain ⟨s, t, h1, h2, h3, h4, h5⟩ := gt_on_par h
  have d1 := gt_st_dir h n1 n2
  have u1 := gt_d_up (fun e => n1 e.symm)
  have u2 := gt_d_up n2
  have vc : v ≠ c := fun e => by
    subst e
    obtain ⟨-, k2, k3⟩ := h
    exact n1 (Prod.ext (by omega) (by omega))
  have u3 := gt_d_up vc
  have k1 := d1.1.1
  have k2 := d1.2.1
  have k3 := z.1
  by_cases c1 : gt_up (gt_d v b)
  · exact (u1.mp c1) (k3.mpr (Classical.byContradiction (fun w => (u3.mp (k1.mp c1)) (k2.mp (Classical.byContradiction (fun w2 => w (u2.mpr w2)))))))
  · have c2 : ¬ gt_up (gt_d v c) := fun w => c1 (k1.mpr w)
    have c3 : gt_up (gt_d c v) := Classical.byContradiction (fun w => c2 (u3.mpr w))
    have c4 : ¬ gt_up (gt_d b c) := fun w => (u2.mp w) (k2.mpr c3)
    exact c4 (k3.mp (Classical.byContradiction (fun w => c1 (u1.mpr w))))
theorem gt_P1_iff {x y : gt_P} {m : List gt_P} (hm : m ≠ []) : gt_P1 (x :: y :: m) ↔ (x ≠ y ∧ ¬ gt_sd (gt_d x (gt_ls y m)) (gt_d x y) ∧ gt_ap (fun a b => ¬ gt_M x y a b) m) := by
  cases m with
  | nil => exact absurd rfl hm
  | cons c r => exact Iff.rfl
theorem gt_st_ap {E : gt_P → gt_P → Prop} {v b c : gt_P} (hE : E v c ↔ (E v b ∧ E b c)) {l r : List gt_P} : gt_ap E (l ++ v :: b :: c :: r) ↔ gt_ap E (l ++ v :: c :: r) := by
  cases l with
  | nil =>
    show (E v b ∧ E b c ∧ gt_al E c r) ↔ (E v c ∧ gt_al E c r)
    rw [hE]
    exact ⟨fun h => ⟨⟨h.1, h.2.1⟩, h.2.2⟩, fun h => ⟨h.1.1, h.1.2, h.2⟩⟩
  | cons a l => exact gt_st_al hE
theorem gt_ap_snoc {E : gt_P → gt_P → Prop} {v b : gt_P} {l : List gt_P} : gt_ap E (l ++ [v, b]) ↔ (gt_ap E (l ++ [v]) ∧ E v b) := by
  cases l with
  | nil => exact ⟨fun h => ⟨trivial, h.1⟩, fun h => ⟨h.2, trivial⟩⟩
  | cons a l =>
    have e : l ++ [v, b] = (l ++ [v]) ++ [b] := by simp
    show gt_al E a (l ++ [v, b]) ↔ (gt_al E a (l ++ [v]) ∧ E v b)
    rw [e, gt_al_app, gt_ls_app]
    exact ⟨fun h => ⟨h.1, h.2.1⟩, fun h => ⟨h.1, h.2, trivial⟩⟩
theorem gt_M_ba {p q a b : gt_P} (h : gt_M p q a b) : gt_M p q b a := gt_M_ab (gt_M_sw (gt_M_ab h))
theorem gt_st_vc {v c b : gt_P} (h : gt_O v c b) (n1 : b ≠ v) : v ≠ c := fun e => by
  subst e
  obtain ⟨-, k2, k3⟩ := h
  exact n1 (Prod.ext (by omega) (by omega))
theorem gt_st_E {v c b x y : gt_P} (h : gt_O v c b) : ¬ gt_M x y v c ↔ (¬ gt_M x y v b ∧ ¬ gt_M x y b c) := by
  constructor
  · intro n
    exact ⟨fun k => n (gt_M_ab (gt_M_sub h (gt_M_ab k))), fun k => n (gt_M_ab (gt_M_sub2 h gt_O_r (gt_M_ab k)))⟩
  · intro ⟨n1, n2⟩ k
    rcases gt_M_spl h (gt_M_ab k) with e | e
    · exact n1 (gt_M_ab e)
    · exact n2 (gt_M_ab e)
theorem gt_sd_cg {a b c : gt_P} (nb : gt_nz b) (h : gt_sd b c) (n : ¬ gt_sd a b) (nc : gt_nz c) : ¬ gt_sd a c := fun z => n (gt_sd_trans nc z (gt_sd_sw h))
/-- a corner where it goes straight on may be left out -/
theorem gt_del {v b c : gt_P} {r : List gt_P} (h : gt_smp (v :: b :: c :: r)) (hb : gt_O v c b) (n1 : b ≠ v) (n2 : b ≠ c) : gt_smp (v :: c :: r) := by
  have vc := gt_st_vc hb n1
  obtain ⟨sv, sc⟩ := gt_st_dir hb n1 n2
  have p0 := gt_smp_1 h (by simp)
  have hr : r ≠ [] := fun e => by
    subst e
    exact p0.2.1 (gt_sd_sw sv)
  obtain ⟨d, r', er⟩ := List.exists_cons_of_ne_nil hr
  subst er
  have pb : gt_P1 (b :: c :: d :: r' ++ [v]) := h [v] (b :: c :: d :: r') rfl (by simp)
  have nzb := gt_d_nz (fun e => n1 e.symm)
  have nzc := gt_d_nz vc
  intro s t e ht
  cases s with
  | nil =>
    have et : t = v :: c :: d :: r' := e.symm
    rw [et, List.append_nil]
    refine ⟨vc, gt_sd_cg nzb sv p0.2.1 nzc, ?_⟩
    have k1 : gt_al (fun x y => ¬ gt_M v b x y) d r' := p0.2.2.2
    have k2 : gt_al (fun x y => ¬ gt_M b c x y) d (r' ++ [v]) := pb.2.2
    rw [gt_al_app] at k2
    exact gt_al_imp (fun x y z w => by
      rcases gt_M_spl hb w with q | q
      · exact z.1 q
      · exact z.2 q) (gt_al_and k1 k2.1)
  | cons w s' =>
    have ew : w = v := by injection e with e1 _; exact e1.symm
    have e2 : c :: d :: r' = s' ++ t := by injection e
    subst ew
    obtain ⟨x, t', et⟩ := List.exists_cons_of_ne_nil ht
    subst et
    have pN : gt_P1 (x :: t' ++ w :: b :: s') := h (w :: b :: s') (x :: t') (by rw [e2]; rfl) (by simp)
    cases s' with
    | nil =>
      have ex : c = x := by injection e2
      have et : d :: r' = t' := by injection e2
      subst ex et
      have q : gt_P1 (c :: d :: (r' ++ [w, b])) := pN
      show gt_P1 (c :: d :: (r' ++ [w]))
      rw [gt_P1_iff (by simp)] at q ⊢
      obtain ⟨q1, q2, q3⟩ := q
      refine ⟨q1, ?_, (gt_ap_snoc.mp q3).1⟩
      have l1 : gt_ls d (r' ++ [w, b]) = b := by rw [gt_ls_app]; rfl
      have l2 : gt_ls d (r' ++ [w]) = w := by rw [gt_ls_app]; rfl
      rw [l1] at q2
      rw [l2]
      exact fun z => q2 (gt_sd_trans (gt_d_nz (fun e => vc e.symm)) sc z)
    | cons c' s'' =>
      have ec : c = c' := by injection e2
      subst ec
      cases t' with
      | nil =>
        have q : gt_P1 (x :: w :: (b :: c :: s'')) := pN
        show gt_P1 (x :: w :: (c :: s''))
        rw [gt_P1_iff (by simp)] at q ⊢
        exact ⟨q.1, q.2.1, q.2.2.2⟩
      | cons y t'' =>
        have q : gt_P1 (x :: y :: (t'' ++ w :: b :: c :: s'')) := pN
        show gt_P1 (x :: y :: (t'' ++ w :: c :: s''))
        rw [gt_P1_iff (by simp)] at q ⊢
        refine ⟨q.1, ?_, (gt_st_ap (gt_st_E hb)).mp q.2.2⟩
        have := q.2.1
        rw [gt_ls_cat] at this ⊢
        exact this
/-- and set in -/
theorem gt_ins {v b c : gt_P} {r : List gt_P} (h : gt_smp (v :: c :: r)) (hb : gt_O v c b) (n1 : b ≠ v) (n2 : b ≠ c) : gt_smp (v :: b :: c :: r) := by
  have vc := gt_st_vc hb n1
  obtain ⟨sv, sc⟩ := gt_st_dir hb n1 n2
  obtain ⟨v', c', d, r', e0⟩ := gt_smp_3 h (by simp)
  have er : r = d :: r' := by
    injection e0 with _ e1
    injection e1
  subst er
  clear e0
  have p0 : gt_P1 (v :: c :: d :: r') := gt_smp_1 h (by simp)
  have pl := gt_smp_last h
  have pc := gt_P1_b h
  have nzb := gt_d_nz (fun e => n1 e.symm)
  have nzc := gt_d_nz vc
  have adj1 : ¬ gt_M v b c d := fun k => gt_adjM hb n2 pc.2 vc pc.1 (gt_M_sw k)
  have adj2 : ¬ gt_M b c (gt_ls d r') v := fun k => gt_adjM (v := c) (b := v) (c := gt_ls d r') (q := b) (gt_O_sw hb) n1 (fun z => p0.2.1 (gt_sd_sw z)) (fun e => vc e.symm) pl (gt_M_ba k)
  intro s t e ht
  cases s with
  | nil =>
    have et : t = v :: b :: c :: d :: r' := e.symm
    rw [et, List.append_nil]
    exact ⟨fun z => n1 z.symm, gt_sd_cg nzc (gt_sd_sw sv) p0.2.1 nzb, adj1, gt_al_imp (fun x y z w => z (gt_M_sub hb w)) p0.2.2⟩
  | cons w s' =>
    have ew : w = v := by injection e with e1 _; exact e1.symm
    have e2 : b :: c :: d :: r' = s' ++ t := by injection e
    subst ew
    cases s' with
    | nil =>
      have et : t = b :: c :: d :: r' := e2.symm
      rw [et]
      show gt_P1 (b :: c :: (d :: r' ++ [w]))
      rw [gt_P1_iff (by simp)]
      have l1 : gt_ls c (d :: r' ++ [w]) = w := by rw [gt_ls_app]; rfl
      rw [l1]
      refine ⟨n2, gt_st_opp hb n1 n2, ?_⟩
      show gt_al _ d (r' ++ [w])
      rw [gt_al_app]
      exact ⟨gt_al_imp (fun x y z k => z (gt_M_sub2 hb gt_O_r k)) p0.2.2, adj2, trivial⟩
    | cons b' s' =>
      have eb : b = b' := by injection e2
      have e3 : c :: d :: r' = s' ++ t := by injection e2
      subst eb
      obtain ⟨x, t', et⟩ := List.exists_cons_of_ne_nil ht
      subst et
      have pN : gt_P1 (x :: t' ++ w :: s') := h (w :: s') (x :: t') (by rw [e3]; rfl) (by simp)
      cases s' with
      | nil =>
        have ex : c = x := by injection e3
        have et : d :: r' = t' := by injection e3
        subst ex et
        have q : gt_P1 (c :: d :: (r' ++ [w])) := pN
        show gt_P1 (c :: d :: (r' ++ [w, b]))
        rw [gt_P1_iff (by simp)] at q ⊢
        obtain ⟨q1, q2, q3⟩ := q
        refine ⟨q1, ?_, gt_ap_snoc.mpr ⟨q3, fun k => adj1 (gt_M_ab k)⟩⟩
        have l1 : gt_ls d (r' ++ [w, b]) = b := by rw [gt_ls_app]; rfl
        have l2 : gt_ls d (r' ++ [w]) = w := by rw [gt_ls_app]; rfl
        rw [l2] at q2
        rw [l1]
        exact fun z => q2 (gt_sd_trans (gt_d_nz (fun e => n2 e.symm)) (gt_sd_sw sc) z)
      | cons c' s'' =>
        have ec : c = c' := by injection e3
        have e4 : d :: r' = s'' ++ x :: t' := by injection e3
        subst ec
        cases t' with
        | nil =>
          have q : gt_P1 (x :: w :: (c :: s'')) := pN
          show gt_P1 (x :: w :: (b :: c :: s''))
          rw [gt_P1_iff (by simp)] at q ⊢
          have ex : gt_ls d r' = x := by
            have : gt_ls c (d :: r') = gt_ls c (s'' ++ [x]) := by rw [e4]
            rw [gt_ls_app] at this
            exact this
          rw [ex] at adj2
          exact ⟨q.1, q.2.1, fun k => adj2 (gt_M_ab k), q.2.2⟩
        | cons y t'' =>
          have q : gt_P1 (x :: y :: (t'' ++ w :: c :: s'')) := pN
          show gt_P1 (x :: y :: (t'' ++ w :: b :: c :: s''))
          rw [gt_P1_iff (by simp)] at q ⊢
          refine ⟨q.1, ?_, (gt_st_ap (gt_st_E hb)).mpr q.2.2⟩
          have := q.2.1
          rw [gt_ls_cat] at this ⊢
          exact this
/-! the stretches of a way round, as a list -/
abbrev gt_E : Type := gt_P × gt_P
def gt_pe : gt_P → List gt_P → List gt_E
  | _, [] => []
  | a, b :: r => (a, b) :: gt_pe b r
def gt_ed (l : List gt_P) : List gt_E := match l with
  | [] => []
  | v :: r => gt_pe v (r ++ [v])
theorem gt_pe_app : ∀ {a : gt_P} {l r : List gt_P}, gt_pe a (l ++ r) = gt_pe a l ++ gt_pe (gt_ls a l) r
  | _, [], _ => rfl
  | a, b :: l, r => by
    show (a, b) :: gt_pe b (l ++ r) = (a, b) :: (gt_pe b l ++ gt_pe (gt_ls b l) r)
    rw [gt_pe_app]
theorem gt_al_pe {E : gt_P → gt_P → Prop} : ∀ {a : gt_P} {l : List gt_P}, gt_al E a l ↔ ∀ e ∈ gt_pe a l, E e.1 e.2
  | _, [] => ⟨fun _ _ h => (by cases h), fun _ => trivial⟩
  | a, b :: l => by
    show (E a b ∧ gt_al E b l) ↔ ∀ e ∈ (a, b) :: gt_pe b l, E e.1 e.2
    rw [gt_al_pe, List.forall_mem_cons]
theorem gt_pe_fst : ∀ {a : gt_P} {l : List gt_P} {x : gt_P}, (gt_pe a (l ++ [x])).map Prod.fst = a :: l
  | _, [], _ => rfl
  | a, b :: l, x => by
    show a :: (gt_pe b (l ++ [x])).map Prod.fst = a :: b :: l
    rw [gt_pe_fst]
theorem gt_pe_snd : ∀ {a : gt_P} {l : List gt_P}, (gt_pe a l).map Prod.snd = l
  | _, [] => rfl
  | a, b :: l => by
    show b :: (gt_pe b l).map Prod.snd = b :: l
    rw [gt_pe_snd]
theorem gt_ed_fst {l : List gt_P} : (gt_ed l).map Prod.fst = l := by
  cases l with
  | nil => rfl
  | cons v r => exact gt_pe_fst
theorem gt_ed_rot1 {a : gt_P} {l : List gt_P} : List.Perm (gt_ed (l ++ [a])) (gt_ed (a :: l)) := by
  cases l with
  | nil => exact List.Perm.refl _
  | cons b l =>
    show List.Perm (gt_pe b (l ++ [a] ++ [b])) ((a, b) :: gt_pe b (l ++ [a]))
    rw [gt_pe_app]
    have : gt_ls b (l ++ [a]) = a := by rw [gt_ls_app]; rfl
    rw [this]
    exact List.perm_append_comm
theorem gt_ed_rot : ∀ {s t : List gt_P}, List.Perm (gt_ed (t ++ s)) (gt_ed (s ++ t))
  | [], t => by rw [List.append_nil]; exact List.Perm.refl _
  | x :: s, t => by
    have e5 : t ++ x :: s = t ++ [x] ++ s := by simp
    rw [e5]
    refine (gt_ed_rot (s := s) (t := t ++ [x])).trans ?_
    rw [← List.append_assoc]
    exact gt_ed_rot1
theorem gt_ed_mem {l : List gt_P} {e : gt_E} (h : e ∈ gt_ed l) : e.1 ∈ l ∧ e.2 ∈ l := by
  refine ⟨by rw [← gt_ed_fst (l := l)]; exact List.mem_map.mpr ⟨e, h, rfl⟩, ?_⟩
  cases l with
  | nil => cases h
  | cons v r =>
    have : e.2 ∈ (gt_pe v (r ++ [v])).map Prod.snd := List.mem_map.mpr ⟨e, h, rfl⟩
    rw [gt_pe_snd] at this
    rcases List.mem_append.mp this with k | k
    · exact List.mem_cons_of_mem _ k
    · rw [List.mem_singleton.mp k]; exact List.mem_cons_self ..
/-- a turn that begins with a stretch -/
theorem gt_ed_turn {l : List gt_P} {e : gt_E} (hl : 2 ≤ l.length) (h : e ∈ gt_ed l) : ∃ s t r, l = s ++ t ∧ t ++ s = e.1 :: e.2 :: r := by
  have key : ¬ ∀ s t r, l = s ++ t → t ++ s = e.1 :: e.2 :: r → False := fun hn => by
    match l with
    | [] => cases h
    | [_] => simp at hl
    | v :: b :: r =>
      have k := gt_al_cyc (E := fun x y => (x, y) ≠ e) (v := v) (l := b :: r) (by simp) (fun s t x y r' e1 e2 z => hn s t r' e1 (by rw [← z]; exact e2))
      rw [gt_al_pe] at k
      exact k e h rfl
  refine Classical.byContradiction (fun z => key (fun s t r e1 e2 => z ⟨s, t, r, e1, e2⟩))
theorem gt_sep {l : List gt_P} (h : gt_smp l) (hl : l ≠ []) {e f : gt_E} (he : e ∈ gt_ed l) (hf : f ∈ gt_ed l) : e = f ∨ (e.2 = f.1 ∧ e.1 ≠ f.2 ∧ e.1 ≠ f.1) ∨ (f.2 = e.1 ∧ f.1 ≠ e.2 ∧ f.1 ≠ e.1) ∨ ¬ gt_M e.1 e.2 f.1 f.2 := by
  obtain ⟨v, b, c, r, e0⟩ := gt_smp_3 h hl
  obtain ⟨s, t, r1, e1, e2⟩ := gt_ed_turn (by rw [e0]; simp) he
  have hr : gt_smp (e.1 :: e.2 :: r1) := by rw [← e2]; exact gt_smp_rot (by rw [← e1]; exact h)
  have hf' : f ∈ gt_ed (e.1 :: e.2 :: r1) := by
    rw [← e2]
    refine (gt_ed_rot (s := s) (t := t)).mem_iff.mpr ?_
    rw [← e1]; exact hf
  obtain ⟨v', b', c', r', e3⟩ := gt_smp_3 hr (by simp)
  have er : r1 = c' :: r' := by
    injection e3 with _ e4
    injection e4
  subst er
  obtain ⟨p1, p2, p3⟩ : e.1 ≠ e.2 ∧ ¬ gt_sd (gt_d e.1 (gt_ls c' r')) (gt_d e.1 e.2) ∧ gt_al (fun x y => ¬ gt_M e.1 e.2 x y) c' r' := gt_smp_1 hr (by simp)
  have pb := gt_P1_b hr
  have pl := gt_smp_last hr
  have hf2 : f ∈ (e.1, e.2) :: (e.2, c') :: gt_pe c' (r' ++ [e.1]) := hf'
  rw [gt_pe_app] at hf2
  rcases List.mem_cons.mp hf2 with k | k
  · exact Or.inl k.symm
  · rcases List.mem_cons.mp k with k | k
    · refine Or.inr (Or.inl ?_)
      rw [k]
      refine ⟨rfl, fun z => ?_, p1⟩
      -- e.1 = c': then straight back
      have z : e.1 = c' := z
      rw [← z] at pb
      exact pb.2 gt_sd_refl
    · rcases List.mem_append.mp k with k | k
      · exact Or.inr (Or.inr (Or.inr (gt_al_pe.mp p3 f k)))
      · rcases List.mem_singleton.mp k with rfl
        refine Or.inr (Or.inr (Or.inl ⟨rfl, fun z => ?_, fun z => pl z.symm⟩))
        have z : gt_ls c' r' = e.2 := z
        rw [z] at p2
        exact p2 gt_sd_refl
theorem gt_spk {l : List gt_P} (h : gt_smp l) (hl : l ≠ []) {e f : gt_E} (he : e ∈ gt_ed l) (hf : f ∈ gt_ed l) (hn : e.2 = f.1) : e.1 ≠ e.2 ∧ f.1 ≠ f.2 ∧ ¬ gt_sd (gt_d e.2 e.1) (gt_d e.2 f.2) := by
  obtain ⟨v, b, c, r, e0⟩ := gt_smp_3 h hl
  obtain ⟨s, t, r1, e1, e2⟩ := gt_ed_turn (by rw [e0]; simp) he
  have hr : gt_smp (e.1 :: e.2 :: r1) := by rw [← e2]; exact gt_smp_rot (by rw [← e1]; exact h)
  have hf' : f ∈ gt_ed (e.1 :: e.2 :: r1) := by
    rw [← e2]
    refine (gt_ed_rot (s := s) (t := t)).mem_iff.mpr ?_
    rw [← e1]; exact hf
  obtain ⟨v', b', c', r', e3⟩ := gt_smp_3 hr (by simp)
  have er : r1 = c' :: r' := by
    injection e3 with _ e4
    injection e4
  subst er
  obtain ⟨p1, p2, p3⟩ : e.1 ≠ e.2 ∧ ¬ gt_sd (gt_d e.1 (gt_ls c' r')) (gt_d e.1 e.2) ∧ gt_al (fun x y => ¬ gt_M e.1 e.2 x y) c' r' := gt_smp_1 hr (by simp)
  have pb := gt_P1_b hr
  have hf2 : f ∈ (e.1, e.2) :: (e.2, c') :: gt_pe c' (r' ++ [e.1]) := hf'
  rw [gt_pe_app] at hf2
  rcases List.mem_cons.mp hf2 with k | k
  · have k : f = (e.1, e.2) := k
    rw [k] at hn
    exact absurd hn.symm p1
  · rcases List.mem_cons.mp k with k | k
    · rw [k]
      exact ⟨p1, pb.1, pb.2⟩
    · rcases List.mem_append.mp k with k | k
      · refine absurd (gt_M_pt (q := e.2) gt_O_r ?_) (gt_al_pe.mp p3 f k)
        rw [hn]; exact gt_O_l
      · rcases List.mem_singleton.mp k with rfl
        have hn : e.2 = gt_ls c' r' := hn
        rw [← hn] at p2
        exact absurd gt_sd_refl p2
theorem gt_smp_nd {l : List gt_P} (h : gt_smp l) : l.Nodup := by
  by_cases hl : l = []
  · rw [hl]; exact List.nodup_nil
  -- two stretches from one corner are one
  have key : ∀ {e f : gt_E}, e ∈ gt_ed l → f ∈ gt_ed l → e.1 = f.1 → e = f := fun {e f} he hf q => by
    rcases gt_sep h hl he hf with k | k | k | k
    · exact k
    · exact absurd q k.2.2
    · exact absurd q.symm k.2.2
    · exact absurd (gt_M_pt (q := e.1) gt_O_l (by rw [q]; exact gt_O_l)) k
  -- a point told twice: take the turn from the first
  refine Classical.byContradiction (fun hn => ?_)
  have : ∃ a s t, l = s ++ a :: t ∧ a ∈ t := by
    clear key h
    induction l with
    | nil => exact absurd List.nodup_nil hn
    | cons a l ih =>
      rw [List.nodup_cons] at hn
      by_cases c : a ∈ l
      · exact ⟨a, [], l, rfl, c⟩
      · have hn2 : ¬ l.Nodup := fun z => hn ⟨c, z⟩
        have hl2 : l ≠ [] := fun z => hn2 (by rw [z]; exact List.nodup_nil)
        obtain ⟨x, s, t, e1, e2⟩ := ih hl2 hn2
        exact ⟨x, a :: s, t, by rw [e1]; rfl, e2⟩
  obtain ⟨a, s, t, e1, e2⟩ := this
  have hr : gt_smp (a :: t ++ s) := gt_smp_rot (by rw [← e1]; exact h)
  obtain ⟨v', b', c', r', e3⟩ := gt_smp_3 hr (by simp)
  have ea : a = v' := by injection e3
  have et : t ++ s = b' :: c' :: r' := by injection e3
  subst ea
  have hr2 : gt_smp (a :: b' :: c' :: r') := by rw [← e3]; exact hr
  obtain ⟨p1, p2, p3⟩ : a ≠ b' ∧ ¬ gt_sd (gt_d a (gt_ls c' r')) (gt_d a b') ∧ gt_al (fun x y => ¬ gt_M a b' x y) c' r' := gt_smp_1 hr2 (by simp)
  have pb := gt_P1_b hr2
  have pl := gt_smp_last hr2
  have am : a ∈ b' :: c' :: r' := by rw [← et]; exact List.mem_append.mpr (Or.inl e2)
  rcases List.mem_cons.mp am with k | k
  · exact p1 k
  · -- a in c' :: r': begins a stretch of the way from c', or is its end
    have cov : ∀ {c : gt_P} {r : List gt_P}, a ∈ c :: r → gt_al (fun x y => ¬ gt_M a b' x y) c r → a = gt_ls c r := fun {c r} => by
      induction r generalizing c with
      | nil => exact fun hm _ => List.mem_singleton.mp hm
      | cons d r ih =>
        intro hm ha
        rcases List.mem_cons.mp hm with q | q
        · exact absurd (gt_M_pt (q := a) gt_O_l (by rw [q]; exact gt_O_l)) ha.1
        · exact ih q ha.2
    exact pl (cov k p3)
/-- said of stretches alone -/
theorem gt_smp_mk {l : List gt_P} (hn : l.Nodup) (h3 : 3 ≤ l.length) (hs : ∀ e ∈ gt_ed l, ∀ f ∈ gt_ed l, e ≠ f → (e.2 ≠ f.1 → f.2 ≠ e.1 → ¬ gt_M e.1 e.2 f.1 f.2) ∧ (e.2 = f.1 → ¬ gt_sd (gt_d e.2 e.1) (gt_d e.2 f.2))) : gt_smp l := by
  intro s t e ht
  subst e
  have hp : List.Perm (t ++ s) (s ++ t) := List.perm_append_comm
  have hn' := hp.nodup_iff.mpr hn
  have hl' : 3 ≤ (t ++ s).length := by rw [hp.length_eq]; exact h3
  have hs' : ∀ e ∈ gt_ed (t ++ s), ∀ f ∈ gt_ed (t ++ s), e ≠ f → (e.2 ≠ f.1 → f.2 ≠ e.1 → ¬ gt_M e.1 e.2 f.1 f.2) ∧ (e.2 = f.1 → ¬ gt_sd (gt_d e.2 e.1) (gt_d e.2 f.2)) := fun e he f hf => hs e ((gt_ed_rot (s := s) (t := t)).mem_iff.mp he) f ((gt_ed_rot (s := s) (t := t)).mem_iff.mp hf)
  match h : t ++ s with
  | [] => rw [h] at hl'; simp at hl'
  | [_] => rw [h] at hl'; simp at hl'
  | [_, _] => rw [h] at hl'; simp at hl'
  | v :: b :: c :: r =>
    rw [h] at hn' hs'
    have nd := hn'
    rw [List.nodup_cons] at nd
    obtain ⟨n1, n2⟩ := nd
    rw [List.nodup_cons] at n2
    obtain ⟨n2, n3⟩ := n2
    have e0 : gt_ed (v :: b :: c :: r) = (v, b) :: (b, c) :: (gt_pe c r ++ [(gt_ls c r, v)]) := by
      show (v, b) :: (b, c) :: gt_pe c (r ++ [v]) = _
      rw [gt_pe_app]; rfl
    have m1 : (v, b) ∈ gt_ed (v :: b :: c :: r) := by rw [e0]; exact List.mem_cons_self ..
    have vb : v ≠ b := fun z => n1 (by rw [z]; exact List.mem_cons_self ..)
    have lsm : ∀ {c : gt_P} {r : List gt_P}, gt_ls c r ∈ c :: r := fun {c r} => by
      rcases gt_ls_mem (a := c) (l := r) with k | k
      · rw [k]; exact List.mem_cons_self ..
      · exact List.mem_cons_of_mem _ k
    have pem : ∀ {c : gt_P} {r : List gt_P} {f : gt_E}, f ∈ gt_pe c r → f.1 ∈ c :: r ∧ f.2 ∈ r := fun {c r f} => by
      induction r generalizing c with
      | nil => exact fun hf => by cases hf
      | cons d r ih =>
        intro hf
        rcases List.mem_cons.mp hf with q | q
        · rw [q]; exact ⟨List.mem_cons_self .., List.mem_cons_self ..⟩
        · exact ⟨List.mem_cons_of_mem _ (ih q).1, List.mem_cons_of_mem _ (ih q).2⟩
    refine ⟨vb, ?_, gt_al_pe.mpr (fun f hf => ?_)⟩
    · have m2 : (gt_ls c r, v) ∈ gt_ed (v :: b :: c :: r) := by rw [e0]; simp
      have := (hs' _ m2 _ m1 (fun z => by
        have : gt_ls c r = v := congrArg Prod.fst z
        exact n1 (List.mem_cons_of_mem _ (by rw [← this]; exact lsm)))).2 rfl
      exact this
    · have m2 : f ∈ gt_ed (v :: b :: c :: r) := by rw [e0]; simp [hf]
      obtain ⟨f1, f2⟩ := pem hf
      have g1 : b ≠ f.1 := fun z => n2 (by rw [z]; exact f1)
      have g2 : f.2 ≠ v := fun z => n1 (List.mem_cons_of_mem _ (List.mem_cons_of_mem _ (by rw [← z]; exact f2)))
      exact (hs' _ m1 _ m2 (fun z => by
        have : v = f.1 := congrArg Prod.fst z
        exact n1 (List.mem_cons_of_mem _ (by rw [this]; exact f1)))).1 g1 g2
/-! what adds up along stretches -/
def gt_cc (c : gt_P → gt_P → Int) : Prop := (∀ a b, c b a = -c a b) ∧ ∀ a m b, gt_O a b m → c a b = c a m + c m b
theorem gt_cc_0 {c : gt_P → gt_P → Int} (h : gt_cc c) {a : gt_P} : c a a = 0 := by
  have := h.1 a a
  omega
def gt_sm (c : gt_P → gt_P → Int) (L : List gt_E) : Int := (L.map (fun e => c e.1 e.2)).sum
theorem gt_sm_cons {c : gt_P → gt_P → Int} {e : gt_E} {L : List gt_E} : gt_sm c (e :: L) = c e.1 e.2 + gt_sm c L := by
  unfold gt_sm
  rw [List.map_cons, List.sum_cons]
theorem gt_sm_app {c : gt_P → gt_P → Int} : ∀ {L R : List gt_E}, gt_sm c (L ++ R) = gt_sm c L + gt_sm c R
  | [], R => by show gt_sm c R = gt_sm c [] + gt_sm c R; rw [show gt_sm c [] = 0 from rfl]; omega
  | e :: L, R => by
    rw [List.cons_append, gt_sm_cons, gt_sm_cons, gt_sm_app]; omega
theorem gt_sm_perm {c : gt_P → gt_P → Int} {L R : List gt_E} (h : List.Perm L R) : gt_sm c L = gt_sm c R := by
  induction h with
  | nil => rfl
  | cons x _ ih => rw [gt_sm_cons, gt_sm_cons, ih]
  | swap x y l => rw [gt_sm_cons, gt_sm_cons, gt_sm_cons, gt_sm_cons]; omega
  | trans _ _ i1 i2 => rw [i1, i2]
theorem gt_ps_sm {c : gt_P → gt_P → Int} : ∀ {a : gt_P} {l : List gt_P}, gt_ps c a l = gt_sm c (gt_pe a l)
  | _, [] => rfl
  | a, b :: l => by
    show c a b + gt_ps c b l = gt_sm c ((a, b) :: gt_pe b l)
    rw [gt_sm_cons, gt_ps_sm]
theorem gt_w_sm {l : List gt_P} {z : gt_P} : gt_w l z = gt_sm (gt_c z) (gt_ed l) := by
  cases l with
  | nil => rfl
  | cons v r => exact gt_ps_sm
/-- the way round adds up the same with a point set in where it goes straight on -/
theorem gt_sm_ins {c : gt_P → gt_P → Int} (h : gt_cc c) {v b w : gt_P} {r : List gt_P} (hb : gt_O v w b) : gt_sm c (gt_ed (v :: b :: w :: r)) = gt_sm c (gt_ed (v :: w :: r)) := by
  show gt_sm c ((v, b) :: (b, w) :: gt_pe w (r ++ [v])) = gt_sm c ((v, w) :: gt_pe w (r ++ [v]))
  rw [gt_sm_cons, gt_sm_cons, gt_sm_cons]
  have := h.2 v b w hb
  show c v b + (c b w + _) = c v w + _
  omega
theorem gt_sg {m n x y : Int} (hm : 0 < m) (hn : 0 < n) (e : m * x = n * y) : (0 < x ↔ 0 < y) ∧ (x < 0 ↔ y < 0) ∧ (x = 0 ↔ y = 0) := by
  have a1 := gt_sp m x
  have a2 := gt_sp n y
  omega
theorem gt_cadd {z a b m : gt_P} (lt : a.2 < b.2) (h : a.2 ≤ m.2 ∧ m.2 ≤ b.2) (p1 : 0 < gt_t a m z ↔ 0 < gt_t a b z) (p2 : 0 < gt_t m b z ↔ 0 < gt_t a b z) : gt_c z a b = gt_c z a m + gt_c z m b := by
  have f1 : ∀ u v : gt_P, u.2 ≤ v.2 → gt_c z u v = if (u.2 ≤ z.2 ∧ z.2 < v.2) ∧ 0 < gt_t u v z then 1 else 0 := fun u v h => by
    unfold gt_c g_cs
    rw [if_neg (show ¬ ((v.2 ≤ z.2 ∧ z.2 < u.2) ∧ g_turn u.1 u.2 v.1 v.2 z.1 z.2 < 0) by omega)]
    rfl
  rw [f1 a b (by omega), f1 a m h.1, f1 m b h.2]
  by_cases c : 0 < gt_t a b z
  · have c1 := p1.mpr c
    have c2 := p2.mpr c
    clear p1 p2 f1
    by_cases d : a.2 ≤ z.2 ∧ z.2 < b.2
    · rw [if_pos ⟨d, c⟩]
      by_cases d2 : z.2 < m.2
      · rw [if_pos ⟨⟨d.1, d2⟩, c1⟩, if_neg (by omega)]; rfl
      · rw [if_neg (by omega), if_pos (by omega)]; rfl
    · rw [if_neg (by omega), if_neg (by omega), if_neg (by omega)]; rfl
  · rw [if_neg (fun w => c w.2), if_neg (fun w => c (p1.mp w.2)), if_neg (fun w => c (p2.mp w.2))]; rfl
theorem gt_c_add {z a b m : gt_P} (h : gt_O a b m) : gt_c z a b = gt_c z a m + gt_c z m b := by
  have key : ∀ {a b m : gt_P}, gt_O a b m → a.2 < b.2 → gt_c z a b = gt_c z a m + gt_c z m b := fun {a b m} h lt => by
    have box := h.2.2
    obtain ⟨s, t, h1, h2, h3, h4, h5, h6, h7⟩ := gt_O_t h a b
    by_cases e1 : m = a
    · rw [e1, show gt_c z a a = 0 by have := gt_c_sw (z := z) (a := a) (b := a); omega]; omega
    by_cases e2 : m = b
    · rw [e2, show gt_c z b b = 0 by have := gt_c_sw (z := z) (a := b) (b := b); omega]; omega
    have s0 : 0 < s := by
      refine Int.lt_of_not_ge (fun w => e1 (h6 (by omega)))
    have st : 0 < t - s := by
      refine Int.lt_of_not_ge (fun w => e2 (h7 (by omega)))
    have g1 := h5 z
    -- the other part
    obtain ⟨s', t', k1, k2, k3, k4, k5, k6, k7⟩ := gt_O_t (gt_O_sw h) a b
    have s0' : 0 < s' := by
      refine Int.lt_of_not_ge (fun w => e2 (k6 (by omega)))
    have g2 := k5 z
    have w1 : gt_t b m z = -gt_t m b z := by unfold gt_t; rw [gt_sw]
    have w2 : gt_t b a z = -gt_t a b z := by unfold gt_t; rw [gt_sw]
    rw [w1, w2] at g2
    have g2' : t' * gt_t m b z = s' * gt_t a b z := by
      have e1 : t' * -gt_t m b z = -(t' * gt_t m b z) := by grind
      have e2 : s' * -gt_t a b z = -(s' * gt_t a b z) := by grind
      omega
    have p1 := gt_sg h1 s0 g1
    have p2 := gt_sg k1 s0' g2'
    exact gt_cadd lt ⟨by omega, by omega⟩ p1.1 p2.1
  by_cases c1 : a.2 < b.2
  · exact key h c1
  · by_cases c2 : b.2 < a.2
    · have := key (gt_O_sw h) c2
      rw [gt_c_sw (a := a) (b := b), gt_c_sw (a := m) (b := b), gt_c_sw (a := a) (b := m)] at this
      omega
    · have box := h.2.2
      have z0 : ∀ u v : gt_P, u.2 = v.2 → gt_c z u v = 0 := fun u v e => by
        unfold gt_c g_cs
        rw [if_neg (by omega), if_neg (by omega)]
      rw [z0 _ _ (by omega), z0 _ _ (by omega), z0 _ _ (by omega)]; rfl
theorem gt_cc_c (z : gt_P) : gt_cc (gt_c z) := ⟨fun _ _ => gt_c_sw, fun _ _ _ h => gt_c_add h⟩
/-- and larger -/
theorem gt_cc_g {c : gt_P → gt_P → Int} (h : gt_cc c) {K : Int} (hK : 0 < K) : gt_cc (fun a b => c (gt_g K a) (gt_g K b)) := ⟨fun a b => h.1 _ _, fun a m b k => h.2 _ _ _ ((gt_g_O hK).mpr k)⟩
theorem gt_ed_map {f : gt_P → gt_P} {l : List gt_P} : gt_ed (l.map f) = (gt_ed l).map (fun e => (f e.1, f e.2)) := by
  have key : ∀ (a : gt_P) (l : List gt_P), gt_pe (f a) (l.map f) = (gt_pe a l).map (fun e => (f e.1, f e.2)) := by
    intro a l
    induction l generalizing a with
    | nil => rfl
    | cons b l ih =>
      show (f a, f b) :: gt_pe (f b) (l.map f) = (f a, f b) :: (gt_pe b l).map _
      rw [ih]
  cases l with
  | nil => rfl
  | cons v r =>
    show gt_pe (f v) (r.map f ++ [f v]) = (gt_pe v (r ++ [v])).map _
    rw [← key]
    simp
theorem gt_sm_map {c : gt_P → gt_P → Int} {f : gt_P → gt_P} {L : List gt_E} : gt_sm c (L.map (fun e => (f e.1, f e.2))) = gt_sm (fun a b => c (f a) (f b)) L := by
  unfold gt_sm
  rw [List.map_map]; rfl
theorem gt_w_ins {v b w : gt_P} {r : List gt_P} {z : gt_P} (hb : gt_O v w b) : gt_w (v :: b :: w :: r) z = gt_w (v :: w :: r) z := by
  rw [gt_w_sm, gt_w_sm]
  exact gt_sm_ins (gt_cc_c z) hb
theorem gt_k_ins {v b w : gt_P} {r : List gt_P} (h : gt_smp (v :: w :: r)) (hb : gt_O v w b) (n1 : b ≠ v) (n2 : b ≠ w) : gt_k (v :: b :: w :: r) = gt_k (v :: w :: r) := by
  show gt_w (v :: b :: w :: r) v - (if gt_lt (gt_d v (gt_ls w r)) (gt_d v b) then 1 else 0) = gt_w (v :: w :: r) v - (if gt_lt (gt_d v (gt_ls w r)) (gt_d v w) then 1 else 0)
  obtain ⟨v', w', d, r', e0⟩ := gt_smp_3 h (by simp)
  have er : r = d :: r' := by
    injection e0 with _ e1
    injection e1
  subst er
  have pl := gt_smp_last h
  have vc := gt_st_vc hb n1
  have sv := (gt_st_dir hb n1 n2).1
  have nz1 := gt_d_nz (fun e => n1 e.symm)
  have nz2 := gt_d_nz vc
  rw [gt_w_ins hb]
  have : gt_lt (gt_d v (gt_ls w (d :: r'))) (gt_d v b) ↔ gt_lt (gt_d v (gt_ls w (d :: r'))) (gt_d v w) := ⟨fun k => gt_lt_cg2 nz1 nz2 sv k, fun k => gt_lt_cg2 nz2 nz1 (gt_sd_sw sv) k⟩
  by_cases c : gt_lt (gt_d v (gt_ls w (d :: r'))) (gt_d v b)
  · rw [if_pos c, if_pos (this.mp c)]
  · rw [if_neg c, if_neg (fun k => c (this.mpr k))]
/-! a way parted by another one -/
def gt_pl (l : List gt_P) : List gt_E := match l with
  | [] => []
  | a :: r => gt_pe a r
def gt_rv (e : gt_E) : gt_E := (e.2, e.1)
theorem gt_pl_snoc {a x : gt_P} {l : List gt_P} : gt_pl (a :: l ++ [x]) = gt_pl (a :: l) ++ [(gt_ls a l, x)] := by
  show gt_pe a (l ++ [x]) = gt_pe a l ++ [(gt_ls a l, x)]
  rw [gt_pe_app]; rfl
theorem gt_pl_rev : ∀ {l : List gt_P}, List.Perm (gt_pl l.reverse) ((gt_pl l).map gt_rv)
  | [] => List.Perm.refl _
  | [_] => List.Perm.refl _
  | a :: b :: r => by
    have ih := gt_pl_rev (l := b :: r)
    rw [List.reverse_cons]
    obtain ⟨x, m, em⟩ : ∃ x m, (b :: r).reverse = x :: m := List.exists_cons_of_ne_nil (by simp)
    have el : gt_ls x m = b := by
      have h2 : (b :: r).reverse = r.reverse ++ [b] := List.reverse_cons
      rw [em] at h2
      have : ∀ (l : List gt_P) (x : gt_P) (m : List gt_P), x :: m = l ++ [b] → gt_ls x m = b := fun l x m h => by
        cases l with
        | nil =>
          injection h with h3 h4
          rw [h4]; exact h3
        | cons y l =>
          injection h with h3 h4
          rw [h4]; show gt_ls x (l ++ [b]) = b; rw [gt_ls_app]; rfl
      exact this _ _ _ h2
    rw [em] at ih ⊢
    rw [gt_pl_snoc, el]
    show List.Perm _ (gt_rv (a, b) :: (gt_pl (b :: r)).map gt_rv)
    refine List.Perm.trans (List.Perm.append_right _ ih) ?_
    exact List.perm_append_comm
theorem gt_sm_rv {c : gt_P → gt_P → Int} (h : gt_cc c) : ∀ {L : List gt_E}, gt_sm c (L.map gt_rv) = -gt_sm c L
  | [] => rfl
  | e :: L => by
    rw [List.map_cons, gt_sm_cons, gt_sm_cons, gt_sm_rv h]
    have := h.1 e.1 e.2
    show c e.2 e.1 + _ = _
    omega
/-- what is wanted of a CUT (corners P, Q .., R) of a way round -/
def gt_crd (P R : gt_P) (Q X Y : List gt_P) : Prop := gt_smp (P :: (X ++ R :: Y)) ∧ (P :: (Q ++ [R])).Nodup ∧ (∀ q ∈ Q, ∀ f ∈ gt_ed (P :: (X ++ R :: Y)), ¬ gt_O f.1 f.2 q) ∧ (∀ e ∈ gt_pe P (Q ++ [R]), ∀ f ∈ gt_pe P (Q ++ [R]), e ≠ f → (e.2 ≠ f.1 → f.2 ≠ e.1 → ¬ gt_M e.1 e.2 f.1 f.2) ∧ (e.2 = f.1 → ¬ gt_sd (gt_d e.2 e.1) (gt_d e.2 f.2))) ∧ (∀ e ∈ gt_pe P (Q ++ [R]), ∀ f ∈ gt_ed (P :: (X ++ R :: Y)), (¬ (e.1 = P ∧ (f.1 = P ∨ f.2 = P)) → ¬ (e.2 = R ∧ (f.1 = R ∨ f.2 = R)) → ¬ gt_M e.1 e.2 f.1 f.2) ∧ (e.1 = P → f.2 = P → ¬ gt_sd (gt_d P f.1) (gt_d P e.2)) ∧ (e.1 = P → f.1 = P → ¬ gt_sd (gt_d P f.2) (gt_d P e.2)) ∧ (e.2 = R → f.1 = R → ¬ gt_sd (gt_d R e.1) (gt_d R f.2)) ∧ (e.2 = R → f.2 = R → ¬ gt_sd (gt_d R e.1) (gt_d R f.1)))
theorem gt_ed_two {P R : gt_P} {X Y : List gt_P} : gt_ed (P :: (X ++ R :: Y)) = gt_pe P (X ++ [R]) ++ gt_pe R (Y ++ [P]) := by
  show gt_pe P (X ++ R :: Y ++ [P]) = _
  have : X ++ R :: Y ++ [P] = (X ++ [R]) ++ (Y ++ [P]) := by simp
  rw [this, gt_pe_app]
  have : gt_ls P (X ++ [R]) = R := by rw [gt_ls_app]; rfl
  rw [this]
theorem gt_pe_mem : ∀ {a : gt_P} {l : List gt_P} {f : gt_E}, f ∈ gt_pe a l → f.1 ∈ a :: l ∧ f.2 ∈ l
  | _, [], _, h => by cases h
  | a, b :: l, f, h => by
    rcases List.mem_cons.mp h with q | q
    · rw [q]; exact ⟨List.mem_cons_self .., List.mem_cons_self ..⟩
    · have := gt_pe_mem q
      exact ⟨List.mem_cons_of_mem _ this.1, List.mem_cons_of_mem _ this.2⟩
theorem gt_pe_m1 {a x : gt_P} {l : List gt_P} {f : gt_E} (h : f ∈ gt_pe a (l ++ [x])) : f.1 ∈ a :: l := by
  have : f.1 ∈ (gt_pe a (l ++ [x])).map Prod.fst := List.mem_map.mpr ⟨f, h, rfl⟩
  rwa [gt_pe_fst] at this
theorem gt_crd_L {P R : gt_P} {Q X Y : List gt_P} (h : gt_crd P R Q X Y) (h3 : Q ≠ [] ∨ Y ≠ []) : gt_smp (P :: (Q ++ R :: Y)) := by
  obtain ⟨hs, hn, hQ, hP, hB⟩ := h
  have hl : P :: (X ++ R :: Y) ≠ [] := by simp
  have nF := gt_smp_nd hs
  have eF : gt_ed (P :: (X ++ R :: Y)) = gt_pe P (X ++ [R]) ++ gt_pe R (Y ++ [P]) := gt_ed_two
  have inF : ∀ f ∈ gt_pe R (Y ++ [P]), f ∈ gt_ed (P :: (X ++ R :: Y)) := fun f hf => by rw [eF]; exact List.mem_append.mpr (Or.inr hf)
  rw [List.nodup_cons, List.nodup_append] at nF
  obtain ⟨nP, nX, nRY, nXY⟩ := nF
  have nPY : P ∉ R :: Y := fun z => nP (List.mem_append.mpr (Or.inr z))
  have nQb : ∀ q ∈ Q, q ∉ R :: Y := fun q hq z => by
    -- a corner begins a stretch
    have : q ∈ (gt_ed (P :: (X ++ R :: Y))).map Prod.fst := by rw [gt_ed_fst]; exact List.mem_cons_of_mem _ (List.mem_append.mpr (Or.inr z))
    obtain ⟨f, hf, e⟩ := List.mem_map.mp this
    exact hQ q hq f hf (by rw [← e]; exact gt_O_l)
  rw [List.nodup_cons, List.nodup_append] at hn
  obtain ⟨m1, m2, -, m4⟩ := hn
  have nPQ : P ∉ Q := fun z => m1 (List.mem_append.mpr (Or.inl z))
  refine gt_smp_mk ?_ ?_ ?_
  · rw [List.nodup_cons, List.nodup_append]
    refine ⟨fun z => ?_, m2, nRY, fun a ha b hb e => nQb a ha (by rw [e]; exact hb)⟩
    rcases List.mem_append.mp z with k | k
    · exact nPQ k
    · exact nPY k
  · rw [List.length_cons, List.length_append, List.length_cons]
    rcases h3 with k | k
    · have := List.length_pos_iff.mpr k
      omega
    · have := List.length_pos_iff.mpr k
      omega
  · rw [show gt_ed (P :: (Q ++ R :: Y)) = gt_pe P (Q ++ [R]) ++ gt_pe R (Y ++ [P]) from gt_ed_two]
    -- a stretch of the CUT and one of the border
    have mix : ∀ e ∈ gt_pe P (Q ++ [R]), ∀ f ∈ gt_pe R (Y ++ [P]), (e.2 ≠ f.1 → f.2 ≠ e.1 → ¬ gt_M e.1 e.2 f.1 f.2) ∧ (e.2 = f.1 → ¬ gt_sd (gt_d e.2 e.1) (gt_d e.2 f.2)) ∧ (f.2 = e.1 → ¬ gt_sd (gt_d f.2 f.1) (gt_d f.2 e.2)) := fun e he f hf => by
      obtain ⟨b1, b2, b3, b4, b5⟩ := hB e he f (inF f hf)
      have f1 := gt_pe_m1 hf
      have f2 := (gt_pe_mem hf).2
      have e1 := gt_pe_m1 he
      have e2 := (gt_pe_mem he).2
      have f1P : f.1 ≠ P := fun z => nPY (by rw [← z]; exact f1)
      have f2R : f.2 ≠ R := fun z => by
        rw [z] at f2
        rcases List.mem_append.mp f2 with k | k
        · exact (List.nodup_cons.mp nRY).1 k
        · exact nPY (by rw [← List.mem_singleton.mp k]; exact List.mem_cons_self ..)
      refine ⟨fun n1 n2 => b1 (fun z => ?_) (fun z => ?_), fun z => ?_, fun z => ?_⟩
      · rcases z.2 with k | k
        · exact f1P k
        · exact n2 (k.trans z.1.symm)
      · rcases z.2 with k | k
        · exact n1 (z.1.trans k.symm)
        · exact f2R k
      · rcases List.mem_append.mp e2 with k | k
        · exact absurd f1 (by rw [← z]; exact nQb _ k)
        · have eR := List.mem_singleton.mp k
          have := b4 eR (by rw [← z]; exact eR)
          rw [eR]; exact this
      · rcases List.mem_cons.mp e1 with k | k
        · have := b2 k (by rw [z]; exact k)
          rw [z, k]; exact this
        · -- f.2 in Q: no
          exfalso
          rw [z] at f2
          rcases List.mem_append.mp f2 with q | q
          · exact nQb _ k (List.mem_cons_of_mem _ q)
          · exact nPQ (by rw [← List.mem_singleton.mp q]; exact k)
    intro e he f hf ne
    rcases List.mem_append.mp he with he | he
    · rcases List.mem_append.mp hf with hf | hf
      · exact hP e he f hf ne
      · exact ⟨(mix e he f hf).1, (mix e he f hf).2.1⟩
    · rcases List.mem_append.mp hf with hf | hf
      · have := mix f hf e he
        exact ⟨fun n1 n2 k => this.1 n2 n1 (gt_M_ab k), this.2.2⟩
      · refine ⟨fun n1 n2 => ?_, fun z => (gt_spk hs hl (inF e he) (inF f hf) z).2.2⟩
        rcases gt_sep hs hl (inF e he) (inF f hf) with k | k | k | k
        · exact absurd k ne
        · exact absurd k.1 n1
        · exact absurd k.1 n2
        · exact k
theorem gt_sd_sy {a b : gt_P} : gt_sd a b ↔ gt_sd b a := ⟨gt_sd_sw, gt_sd_sw⟩
/-- the other way round -/
theorem gt_crd_rev {P R : gt_P} {Q X Y : List gt_P} (h : gt_crd P R Q X Y) : gt_crd R P Q.reverse Y X := by
  obtain ⟨hs, hn, hQ, hP, hB⟩ := h
  have hs' : gt_smp (R :: (Y ++ P :: X)) := by
    have := gt_smp_rot (s := P :: X) (t := R :: Y) hs
    exact this
  have eP : List.Perm (gt_pe R (Q.reverse ++ [P])) ((gt_pe P (Q ++ [R])).map gt_rv) := by
    have := gt_pl_rev (l := P :: (Q ++ [R]))
    have e : (P :: (Q ++ [R])).reverse = R :: (Q.reverse ++ [P]) := by simp
    rw [e] at this
    exact this
  have eF : ∀ f, f ∈ gt_ed (R :: (Y ++ P :: X)) ↔ f ∈ gt_ed (P :: (X ++ R :: Y)) := fun f => (gt_ed_rot (s := P :: X) (t := R :: Y)).mem_iff
  have mP : ∀ e, e ∈ gt_pe R (Q.reverse ++ [P]) → ∃ e' ∈ gt_pe P (Q ++ [R]), e = gt_rv e' := fun e he => by
    obtain ⟨e', h1, h2⟩ := List.mem_map.mp (eP.mem_iff.mp he)
    exact ⟨e', h1, h2.symm⟩
  refine ⟨hs', ?_, fun q hq f hf => hQ q (List.mem_reverse.mp hq) f ((eF f).mp hf), fun e he f hf ne => ?_, fun e he f hf => ?_⟩
  · have e : R :: (Q.reverse ++ [P]) = (P :: (Q ++ [R])).reverse := by simp
    rw [e]; exact (List.reverse_perm _).nodup_iff.mpr hn
  · obtain ⟨e', e1, rfl⟩ := mP e he
    obtain ⟨f', f1, rfl⟩ := mP f hf
    have ne' : e' ≠ f' := fun z => ne (by rw [z])
    refine ⟨fun n1 n2 k => (hP e' e1 f' f1 ne').1 (fun z => n2 z.symm) (fun z => n1 z.symm) (gt_M_sw (gt_M_ba k)), fun z => ?_⟩
    have := (hP f' f1 e' e1 (fun w => ne' w.symm)).2 z.symm
    have z : e'.1 = f'.2 := z
    show ¬ gt_sd (gt_d e'.1 e'.2) (gt_d e'.1 f'.1)
    rw [z]
    exact fun w => this (gt_sd_sw w)
  · obtain ⟨e', e1, rfl⟩ := mP e he
    obtain ⟨b1, b2, b3, b4, b5⟩ := hB e' e1 f ((eF f).mp hf)
    exact ⟨fun n1 n2 k => b1 n2 n1 (gt_M_sw k), fun z1 z2 w => b5 z1 z2 (gt_sd_sw w), fun z1 z2 w => b4 z1 z2 (gt_sd_sw w), fun z1 z2 w => b3 z1 z2 (gt_sd_sw w), fun z1 z2 w => b2 z1 z2 (gt_sd_sw w)⟩
theorem gt_crd_sm {c : gt_P → gt_P → Int} (hc : gt_cc c) {P R : gt_P} {Q X Y : List gt_P} : gt_sm c (gt_ed (P :: (Q ++ R :: Y))) + gt_sm c (gt_ed (R :: (Q.reverse ++ P :: X))) = gt_sm c (gt_ed (P :: (X ++ R :: Y))) := by
  have eP : List.Perm (gt_pe R (Q.reverse ++ [P])) ((gt_pe P (Q ++ [R])).map gt_rv) := by
    have := gt_pl_rev (l := P :: (Q ++ [R]))
    have e : (P :: (Q ++ [R])).reverse = R :: (Q.reverse ++ [P]) := by simp
    rw [e] at this
    exact this
  rw [gt_ed_two, gt_ed_two, gt_ed_two, gt_sm_app, gt_sm_app, gt_sm_app, gt_sm_perm eP, gt_sm_rv hc]
  omega
theorem gt_g2_mid {a b : gt_P} (n : a ≠ b) : gt_O (gt_g 2 a) (gt_g 2 b) (a.1 + b.1, a.2 + b.2) ∧ (a.1 + b.1, a.2 + b.2) ≠ gt_g 2 b ∧ (a.1 + b.1, a.2 + b.2) ≠ gt_g 2 a := by
  refine ⟨gt_par_on (s := 1) (t := 2) (by omega) (by omega) ?_ ?_, fun z => n ?_, fun z => n ?_⟩
  · show 2 * (a.1 + b.1 - 2 * a.1) = 1 * (2 * b.1 - 2 * a.1); omega
  · show 2 * (a.2 + b.2 - 2 * a.2) = 1 * (2 * b.2 - 2 * a.2); omega
  · have z1 : a.1 + b.1 = 2 * b.1 := congrArg Prod.fst z
    have z2 : a.2 + b.2 = 2 * b.2 := congrArg Prod.snd z
    exact Prod.ext (by omega) (by omega)
  · have z1 : a.1 + b.1 = 2 * a.1 := congrArg Prod.fst z
    have z2 : a.2 + b.2 = 2 * a.2 := congrArg Prod.snd z
    exact Prod.ext (by omega) (by omega)
/-- how often round the middle of a stretch -/
theorem gt_w_mid {l : List gt_P} {e : gt_E} (h : gt_smp l) (he : e ∈ gt_ed l) : gt_w (l.map (gt_g 2)) (e.1.1 + e.2.1, e.1.2 + e.2.2) = gt_k l + if gt_up (gt_d e.1 e.2) then 0 else 1 := by
  have hl : l ≠ [] := fun z => by rw [z] at he; cases he
  obtain ⟨v, b, c, r, e0⟩ := gt_smp_3 h hl
  obtain ⟨s, t, r1, e1, e2⟩ := gt_ed_turn (by rw [e0]; simp) he
  have hr : gt_smp (e.1 :: e.2 :: r1) := by rw [← e2]; exact gt_smp_rot (by rw [← e1]; exact h)
  obtain ⟨v', b', c', r', e3⟩ := gt_smp_3 hr (by simp)
  have er : r1 = c' :: r' := by
    injection e3 with _ e4
    injection e4
  subst er
  have p1 : e.1 ≠ e.2 := (gt_smp_1 hr (by simp)).1
  obtain ⟨q1, q2, q3⟩ := gt_g2_mid p1
  have hm := gt_g_smp (K := 2) (by omega) hr
  have k := gt_w_on hm q1 q2 q3
  have hw : gt_w (l.map (gt_g 2)) (e.1.1 + e.2.1, e.1.2 + e.2.2) = gt_w ((e.1 :: e.2 :: c' :: r').map (gt_g 2)) (e.1.1 + e.2.1, e.1.2 + e.2.2) := by
    rw [← e2, e1, List.map_append, List.map_append, gt_w_rots]
  have hk : gt_k ((e.1 :: e.2 :: c' :: r').map (gt_g 2)) = gt_k l := by
    rw [gt_g_k (by omega), ← e2, e1]
    exact gt_k_rot (by rw [← e1]; exact h)
  rw [hw]
  refine Eq.trans k ?_
  have hk' : gt_k (gt_g 2 e.1 :: gt_g 2 e.2 :: gt_g 2 c' :: r'.map (gt_g 2)) = gt_k l := hk
  rw [hk', gt_g_d]
  by_cases u : gt_up (gt_d e.1 e.2)
  · rw [if_pos u, if_pos ((gt_g_up (by omega)).mpr u)]
  · rw [if_neg u, if_neg (fun z => u ((gt_g_up (by omega)).mp z))]
/-- both parts have their inside on the left -/
theorem gt_crd_k {P R : gt_P} {Q X Y : List gt_P} (h : gt_crd P R Q X Y) (h3 : Q ≠ [] ∨ Y ≠ []) (h4 : Q ≠ [] ∨ X ≠ []) {e : gt_E} (he : e ∈ gt_pe P (Q ++ [R])) (hw : gt_w ((P :: (X ++ R :: Y)).map (gt_g 2)) (e.1.1 + e.2.1, e.1.2 + e.2.2) = 1) : (gt_smp (P :: (Q ++ R :: Y)) ∧ gt_k (P :: (Q ++ R :: Y)) = 0) ∧ gt_smp (R :: (Q.reverse ++ P :: X)) ∧ gt_k (R :: (Q.reverse ++ P :: X)) = 0 := by
  have s1 := gt_crd_L h h3
  have s2 := gt_crd_L (gt_crd_rev h) (by
    rcases h4 with k | k
    · exact Or.inl (fun z => k (List.reverse_eq_nil_iff.mp z))
    · exact Or.inr k)
  have m1 : e ∈ gt_ed (P :: (Q ++ R :: Y)) := by rw [gt_ed_two]; exact List.mem_append.mpr (Or.inl he)
  have m2 : (e.2, e.1) ∈ gt_ed (R :: (Q.reverse ++ P :: X)) := by
    rw [gt_ed_two]
    refine List.mem_append.mpr (Or.inl ?_)
    have := gt_pl_rev (l := P :: (Q ++ [R]))
    have e' : (P :: (Q ++ [R])).reverse = R :: (Q.reverse ++ [P]) := by simp
    rw [e'] at this
    exact this.mem_iff.mpr (List.mem_map.mpr ⟨e, he, rfl⟩)
  have w1 := gt_w_mid s1 m1
  have w2 := gt_w_mid s2 m2
  have k1 := gt_k_01 s1 (by simp)
  have k2 := gt_k_01 s2 (by simp)
  have ne : e.1 ≠ e.2 := by
    obtain ⟨s, t, r, f1, f2⟩ := gt_ed_turn (by simp; omega) m1
    have hr : gt_smp (e.1 :: e.2 :: r) := by rw [← f2]; exact gt_smp_rot (by rw [← f1]; exact s1)
    obtain ⟨_, _, c, r', e3⟩ := gt_smp_3 hr (by simp)
    have er : r = c :: r' := by
      injection e3 with _ e4
      injection e4
    subst er
    exact (gt_smp_1 hr (by simp)).1
  have up := gt_d_up ne
  have sum := gt_crd_sm (gt_cc_c (e.1.1 + e.2.1, e.1.2 + e.2.2)) (P := gt_g 2 P) (R := gt_g 2 R) (Q := Q.map (gt_g 2)) (X := X.map (gt_g 2)) (Y := Y.map (gt_g 2))
  rw [← gt_w_sm, ← gt_w_sm, ← gt_w_sm] at sum
  have a1 : (P :: (Q ++ R :: Y)).map (gt_g 2) = gt_g 2 P :: (Q.map (gt_g 2) ++ gt_g 2 R :: Y.map (gt_g 2)) := by simp
  have a2 : (R :: (Q.reverse ++ P :: X)).map (gt_g 2) = gt_g 2 R :: ((Q.map (gt_g 2)).reverse ++ gt_g 2 P :: X.map (gt_g 2)) := by simp
  have a3 : (P :: (X ++ R :: Y)).map (gt_g 2) = gt_g 2 P :: (X.map (gt_g 2) ++ gt_g 2 R :: Y.map (gt_g 2)) := by simp
  rw [← a1, ← a2, ← a3, w1, hw] at sum
  have ew2 : gt_w ((R :: (Q.reverse ++ P :: X)).map (gt_g 2)) (e.1.1 + e.2.1, e.1.2 + e.2.2) = gt_k (R :: (Q.reverse ++ P :: X)) + if gt_up (gt_d e.2 e.1) then 0 else 1 := by
    rw [Int.add_comm e.1.1, Int.add_comm e.1.2]; exact w2
  rw [ew2] at sum
  refine ⟨⟨s1, ?_⟩, s2, ?_⟩
  · by_cases u : gt_up (gt_d e.1 e.2)
    · rw [if_pos u, if_neg (up.mp u)] at sum; omega
    · rw [if_neg u, if_pos (Classical.byContradiction (fun z => u (up.mpr z)))] at sum; omega
  · by_cases u : gt_up (gt_d e.1 e.2)
    · rw [if_pos u, if_neg (up.mp u)] at sum; omega
    · rw [if_neg u, if_pos (Classical.byContradiction (fun z => u (up.mpr z)))] at sum; omega
