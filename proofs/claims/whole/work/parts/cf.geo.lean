/-! geometry: closing -/
/-! closing: corners where it goes straight on are left out -/
def gt_st (Z : List gt_P) (b : gt_P) : Prop := ∃ a c, (a, b) ∈ gt_ed Z ∧ (b, c) ∈ gt_ed Z ∧ gt_t a b c = 0
noncomputable def gt_ns (Z : List gt_P) (b : gt_P) : Bool := @decide (¬ gt_st Z b) (Classical.propDecidable _)
theorem gt_ns_iff {Z : List gt_P} {b : gt_P} : gt_ns Z b = true ↔ ¬ gt_st Z b := by
  unfold gt_ns
  exact @decide_eq_true_iff _ (Classical.propDecidable _)
theorem gt_ns_congr {Z Y : List gt_P} {b : gt_P} (h : gt_st Z b ↔ gt_st Y b) : gt_ns Z b = gt_ns Y b := by
  cases e1 : gt_ns Z b <;> cases e2 : gt_ns Y b
  · rfl
  · exact absurd (gt_ns_iff.mpr (fun z => gt_ns_iff.mp e2 (h.mp z))) (by rw [e1]; simp)
  · exact absurd (gt_ns_iff.mpr (fun z => gt_ns_iff.mp e1 (h.mpr z))) (by rw [e2]; simp)
  · rfl
theorem gt_st_rot {s t : List gt_P} {b : gt_P} : gt_st (t ++ s) b ↔ gt_st (s ++ t) b := by
  unfold gt_st
  constructor
  · rintro ⟨a, c, h1, h2, h3⟩
    exact ⟨a, c, gt_ed_rot.mem_iff.mp h1, gt_ed_rot.mem_iff.mp h2, h3⟩
  · rintro ⟨a, c, h1, h2, h3⟩
    exact ⟨a, c, gt_ed_rot.mem_iff.mpr h1, gt_ed_rot.mem_iff.mpr h2, h3⟩
theorem gt_opp_on {a b c : gt_P} (h : gt_t a b c = 0) (hs : ¬ gt_sd (gt_d b a) (gt_d b c)) (n1 : a ≠ b) (n2 : c ≠ b) : gt_O a c b := by
  have z1 := gt_d_nz (fun e => n1 e.symm)
  have z2 := gt_d_nz (fun e => n2 e.symm)
  have hx : gt_x (gt_d b a) (gt_d b c) = 0 := by unfold gt_x gt_d; unfold gt_t g_turn at h; dsimp only; grind
  have hup : ¬ (gt_up (gt_d b a) ↔ gt_up (gt_d b c)) := fun z => hs ⟨z, hx⟩
  have tt : gt_t a c b = 0 := by unfold gt_t g_turn at *; grind
  unfold gt_nz at z1 z2
  unfold gt_x at hx
  unfold gt_up at hup
  unfold gt_d at *
  dsimp only at *
  by_cases e1 : a.2 = b.2
  · have e2 : c.2 = b.2 := by
      rw [show a.2 - b.2 = 0 by omega] at hx
      have : (a.1 - b.1) * (c.2 - b.2) = 0 := by omega
      rcases Int.mul_eq_zero.mp this with q | q <;> omega
    exact gt_O_1 tt (by omega) (by omega)
  · have e2 : c.2 ≠ b.2 := fun z => by
      rw [show c.2 - b.2 = 0 by omega] at hx
      have : (a.2 - b.2) * (c.1 - b.1) = 0 := by omega
      rcases Int.mul_eq_zero.mp this with q | q <;> omega
    exact gt_O_2 tt (by omega) (by omega)
theorem gt_ne {l : List gt_P} (h : gt_smp l) {e : gt_E} (he : e ∈ gt_ed l) : e.1 ≠ e.2 := by
  have hl : l ≠ [] := fun z => by rw [z] at he; cases he
  obtain ⟨v, b, c, r, e0⟩ := gt_smp_3 h hl
  obtain ⟨s, t, r1, e1, e2⟩ := gt_ed_turn (by rw [e0]; simp) he
  have hr : gt_smp (e.1 :: e.2 :: r1) := by rw [← e2]; exact gt_smp_rot (by rw [← e1]; exact h)
  obtain ⟨v', b', c', r', e3⟩ := gt_smp_3 hr (by simp)
  have er : r1 = c' :: r' := by
    injection e3 with _ e4
    injection e4
  subst er
  exact (gt_smp_1 hr (by simp)).1
/-- one stretch from each corner, one to it -/
theorem gt_one1 {l : List gt_P} (h : gt_smp l) {e f : gt_E} (he : e ∈ gt_ed l) (hf : f ∈ gt_ed l) (q : e.1 = f.1) : e = f := by
  have hl : l ≠ [] := fun z => by rw [z] at he; cases he
  rcases gt_sep h hl he hf with k | k | k | k
  · exact k
  · exact absurd q k.2.2
  · exact absurd q.symm k.2.2
  · exact absurd (gt_M_pt (q := e.1) gt_O_l (by rw [q]; exact gt_O_l)) k
theorem gt_one2 {l : List gt_P} (h : gt_smp l) {e f : gt_E} (he : e ∈ gt_ed l) (hf : f ∈ gt_ed l) (q : e.2 = f.2) : e = f := by
  have hl : l ≠ [] := fun z => by rw [z] at he; cases he
  rcases gt_sep h hl he hf with k | k | k | k
  · exact k
  · have k1 : e.2 = f.1 := k.1
    exact absurd (k1.symm.trans q) (gt_ne h hf)
  · have k1 : f.2 = e.1 := k.1
    exact absurd (k1.symm.trans q.symm) (gt_ne h he)
  · exact absurd (gt_M_pt (q := e.2) gt_O_r (by rw [q]; exact gt_O_r)) k
theorem gt_st_O {l : List gt_P} (h : gt_smp l) {a b c : gt_P} (h1 : (a, b) ∈ gt_ed l) (h2 : (b, c) ∈ gt_ed l) (h3 : gt_t a b c = 0) : gt_O a c b := by
  have hl : l ≠ [] := fun z => by rw [z] at h1; cases h1
  have k := gt_spk h hl h1 h2 rfl
  exact gt_opp_on h3 k.2.2 k.1 (fun z => k.2.1 z.symm)
theorem gt_st_del {v b c : gt_P} {r : List gt_P} (h : gt_smp (v :: b :: c :: r)) (hb : gt_O v c b) (n1 : b ≠ v) (n2 : b ≠ c) {x : gt_P} (hx : x ≠ b) : gt_st (v :: c :: r) x ↔ gt_st (v :: b :: c :: r) x := by
  have h' := gt_del h hb n1 n2
  have vc := gt_st_vc hb n1
  have eN : gt_ed (v :: b :: c :: r) = (v, b) :: (b, c) :: gt_pe c (r ++ [v]) := rfl
  have eO : gt_ed (v :: c :: r) = (v, c) :: gt_pe c (r ++ [v]) := rfl
  -- straight on at v, at c
  have sv : ∀ a, gt_t a v b = 0 ↔ gt_t a v c = 0 := fun a => by
    obtain ⟨s, t, k1, k2, k3, k4, k5, k6, k7⟩ := gt_O_t hb a v
    have s0 : 0 < s := Int.lt_of_not_ge (fun z => n1 (k6 (by omega)))
    have e : gt_t a v v = 0 := by unfold gt_t g_turn; grind
    rw [e, Int.mul_zero, Int.zero_add] at k4
    exact (gt_sg k1 s0 k4).2.2
  have sc : ∀ d, gt_t b c d = 0 ↔ gt_t v c d = 0 := fun d => by
    obtain ⟨s, t, k1, k2, k3, k4, k5, k6, k7⟩ := gt_O_t (gt_O_sw hb) c d
    have s0 : 0 < s := Int.lt_of_not_ge (fun z => n2 (k6 (by omega)))
    have cyc : ∀ x, gt_t x c d = gt_t c d x := fun x => by unfold gt_t g_turn; grind
    have e : gt_t c d c = 0 := by unfold gt_t g_turn; grind
    rw [e, Int.mul_zero, Int.zero_add] at k4
    rw [cyc, cyc]
    exact (gt_sg k1 s0 k4).2.2
  have nd := gt_smp_nd h
  have nv : ∀ d, (c, d) = (v, b) → False := fun d z => vc (congrArg Prod.fst z).symm
  constructor
  · rintro ⟨a, d, e1, e2, e3⟩
    rw [eO] at e1 e2
    rcases List.mem_cons.mp e1 with k | k
    · -- into c from v
      have xa : a = v := congrArg Prod.fst k
      have xc : x = c := congrArg Prod.snd k
      subst xa xc
      rcases List.mem_cons.mp e2 with j | j
      · exact absurd (congrArg Prod.fst j).symm vc
      · exact ⟨b, d, by rw [eN]; exact List.mem_cons_of_mem _ (List.mem_cons_self ..), by rw [eN]; exact List.mem_cons_of_mem _ (List.mem_cons_of_mem _ j), (sc d).mpr e3⟩
    · rcases List.mem_cons.mp e2 with j | j
      · have xv : x = v := congrArg Prod.fst j
        have dc : d = c := congrArg Prod.snd j
        subst xv dc
        exact ⟨a, b, by rw [eN]; exact List.mem_cons_of_mem _ (List.mem_cons_of_mem _ k), by rw [eN]; exact List.mem_cons_self .., (sv a).mpr e3⟩
      · exact ⟨a, d, by rw [eN]; exact List.mem_cons_of_mem _ (List.mem_cons_of_mem _ k), by rw [eN]; exact List.mem_cons_of_mem _ (List.mem_cons_of_mem _ j), e3⟩
  · rintro ⟨a, d, e1, e2, e3⟩
    rw [eN] at e1 e2
    rcases List.mem_cons.mp e1 with k | k1
    · exact absurd (congrArg Prod.snd k) hx
    · rcases List.mem_cons.mp k1 with k | k2
      · have xa : a = b := congrArg Prod.fst k
        have xc : x = c := congrArg Prod.snd k
        subst xa xc
        rcases List.mem_cons.mp e2 with j | j
        · exact absurd (congrArg Prod.fst j).symm vc
        · rcases List.mem_cons.mp j with j | j
          · exact absurd (congrArg Prod.fst j).symm n2
          · exact ⟨v, d, by rw [eO]; exact List.mem_cons_self .., by rw [eO]; exact List.mem_cons_of_mem _ j, (sc d).mp e3⟩
      · rcases List.mem_cons.mp e2 with j | j
        · have xv : x = v := congrArg Prod.fst j
          have dc : d = b := congrArg Prod.snd j
          subst xv dc
          exact ⟨a, c, by rw [eO]; exact List.mem_cons_of_mem _ k2, by rw [eO]; exact List.mem_cons_self .., (sv a).mp e3⟩
        · rcases List.mem_cons.mp j with j | j
          · exact absurd (congrArg Prod.fst j) hx
          · exact ⟨a, d, by rw [eO]; exact List.mem_cons_of_mem _ k2, by rw [eO]; exact List.mem_cons_of_mem _ j, e3⟩
noncomputable def gt_cl (Z : List gt_P) : List gt_P := Z.filter (gt_ns Z)
theorem gt_cl_rot {s t : List gt_P} : gt_cl (t ++ s) = t.filter (gt_ns (s ++ t)) ++ s.filter (gt_ns (s ++ t)) := by
  unfold gt_cl
  have : gt_ns (t ++ s) = gt_ns (s ++ t) := funext (fun b => gt_ns_congr gt_st_rot)
  rw [this, List.filter_append]
theorem gt_k_sum {F G : List gt_P} (h : gt_smp F) (h' : gt_smp G) (hF : F ≠ []) (hk : gt_k F = 0) (hr : gt_k G = gt_k F) : gt_k G = 0 := by rw [hr, hk]
/-- what is left when the straight corners are left out -/
theorem gt_close : ∀ (n : Nat) {Z : List gt_P}, Z.length = n → gt_fig Z → gt_fig (gt_cl Z) ∧ (∀ c, gt_cc c → gt_sm c (gt_ed (gt_cl Z)) = gt_sm c (gt_ed Z)) ∧ ∀ x, ¬ gt_st (gt_cl Z) x := by
  intro n
  induction n with
  | zero => exact fun hn h => absurd (List.length_eq_zero_iff.mp hn) h.2.1
  | succ n ih =>
    intro Z hn h
    by_cases c : ∃ b, gt_st Z b
    · obtain ⟨b, a, d, e1, e2, e3⟩ := c
      have ho := gt_st_O h.1 e1 e2 e3
      have n1 : b ≠ a := fun z => gt_ne h.1 e1 z.symm
      have n2 : b ≠ d := gt_ne h.1 e2
      obtain ⟨v, w, u, r0, e0⟩ := gt_smp_3 h.1 h.2.1
      obtain ⟨s, t, r, f1, f2⟩ := gt_ed_turn (by rw [e0]; simp) e1
      have f2 : t ++ s = a :: b :: r := f2
      have hr : gt_smp (a :: b :: r) := by rw [← f2]; exact gt_smp_rot (by rw [← f1]; exact h.1)
      obtain ⟨v', b', c', r', e4⟩ := gt_smp_3 hr (by simp)
      have er : r = c' :: r' := by
        injection e4 with _ e5
        injection e5
      subst er
      have m2 : (b, d) ∈ gt_ed (a :: b :: c' :: r') := by rw [← f2]; exact gt_ed_rot.mem_iff.mpr (by rw [← f1]; exact e2)
      have m3 : (b, c') ∈ gt_ed (a :: b :: c' :: r') := List.mem_cons_of_mem _ (List.mem_cons_self ..)
      have ed : d = c' := congrArg Prod.snd (gt_one1 hr m2 m3 rfl)
      subst ed
      have hd := gt_del hr ho n1 n2
      have kd : gt_k (a :: d :: r') = 0 := by
        have := gt_k_ins hd ho n1 n2
        rw [← this, ← f2, gt_k_rot (by rw [← f1]; exact h.1), ← f1]; exact h.2.2
      have len : (a :: d :: r').length = n := by
        have : (t ++ s).length = Z.length := by rw [f1]; simp; omega
        rw [f2, hn] at this
        simp at this ⊢
        omega
      obtain ⟨g1, g2, g3⟩ := ih len ⟨hd, by simp, kd⟩
      -- the filter of all is a turn of the filter of what is left
      have nb : b ∉ a :: d :: r' := fun z => by
        have := gt_smp_nd hr
        rcases List.mem_cons.mp z with k | k
        · exact n1 k
        · rw [List.nodup_cons, List.nodup_cons] at this
          exact this.2.1 k
      have eq : gt_cl (a :: d :: r') = gt_cl (a :: b :: d :: r') := by
        unfold gt_cl
        have f : ∀ x, x ≠ b → gt_ns (a :: d :: r') x = gt_ns (a :: b :: d :: r') x := fun x hx => gt_ns_congr (gt_st_del hr ho n1 n2 hx)
        have fb : gt_ns (a :: b :: d :: r') b = false := by
          cases e : gt_ns (a :: b :: d :: r') b with
          | false => rfl
          | true => exact absurd ⟨a, d, List.mem_cons_self .., m3, e3⟩ (gt_ns_iff.mp e)
        have fl : (a :: d :: r').filter (gt_ns (a :: d :: r')) = (a :: d :: r').filter (gt_ns (a :: b :: d :: r')) := List.filter_congr (fun x hx => f x (fun z => nb (by rw [← z]; exact hx)))
        rw [fl]
        show _ = (([a] ++ [b]) ++ d :: r').filter _
        rw [List.filter_append, List.filter_append]
        have : [b].filter (gt_ns (a :: b :: d :: r')) = [] := by simp [fb]
        rw [this, List.append_nil, ← List.filter_append]; rfl
      rw [eq, ← f2, gt_cl_rot, ← f1] at g1 g2 g3
      have ez : gt_cl Z = s.filter (gt_ns Z) ++ t.filter (gt_ns Z) := by
        have : gt_cl Z = (s ++ t).filter (gt_ns Z) := by unfold gt_cl; rw [← f1]
        rw [this, List.filter_append]
      have sm : ∀ c, gt_cc c → gt_sm c (gt_ed (a :: d :: r')) = gt_sm c (gt_ed Z) := fun c hc => by
        rw [← gt_sm_ins hc ho, ← f2, f1]
        exact gt_sm_perm gt_ed_rot
      rw [ez]
      refine ⟨⟨gt_smp_rot g1.1, fun z => g1.2.1 ?_, ?_⟩, fun c hc => ?_, fun x hx => g3 x (gt_st_rot.mp hx)⟩
      · rcases List.append_eq_nil_iff.mp z with ⟨z1, z2⟩
        rw [z1, z2]; rfl
      · rw [gt_k_rot g1.1]; exact g1.2.2
      · rw [gt_sm_perm gt_ed_rot, g2 c hc]; exact sm c hc
    · have e : gt_cl Z = Z := List.filter_eq_self.mpr (fun x _ => gt_ns_iff.mpr (fun z => c ⟨x, z⟩))
      rw [e]
      exact ⟨h, fun _ _ => rfl, fun x hx => c ⟨x, hx⟩⟩
def gt_lo (x y : gt_P) : Prop := x.2 < y.2 ∨ (x.2 = y.2 ∧ x.1 < y.1)
theorem gt_glo {R : s_Fig} {i l : Nat} : g_lo R i l = true ↔ gt_lo (g_pt R i) (g_pt R l) := by
  unfold g_lo gt_lo
  simp
theorem gt_low {R : s_Fig} : ∀ {k : Nat}, ∀ i, i ≤ k → ¬ gt_lo (g_pt R i) (g_pt R (g_low R k))
  | 0, i, h => by
    rw [Nat.le_zero.mp h]
    unfold g_low gt_lo
    omega
  | k + 1, i, h => by
    have ih := gt_low (R := R) (k := k)
    unfold g_low
    by_cases c : g_lo R (k + 1) (g_low R k) = true
    · rw [if_pos c]
      have c' := gt_glo.mp c
      by_cases e : i = k + 1
      · rw [e]; unfold gt_lo; omega
      · have := ih i (by omega)
        unfold gt_lo at *
        omega
    · rw [if_neg c]
      by_cases e : i = k + 1
      · rw [e]; exact fun z => c (gt_glo.mpr z)
      · exact ih i (by omega)
theorem gt_bf {n i : Nat} (h : i < n) : g_bf n i < n ∧ g_nx n (g_bf n i) = i := by
  unfold g_bf g_nx
  split <;> split <;> omega
theorem gt_kpt {R : s_Fig} (h : gt_smp R) {i : Nat} (hi : i < R.length) : g_kpt R i = 0 ↔ gt_st R (g_pt R i) := by
  obtain ⟨b1, b2⟩ := gt_bf hi
  have m1 : (g_pt R (g_bf R.length i), g_pt R i) ∈ gt_ed R := gt_ed_i.mpr ⟨g_bf R.length i, b1, by rw [b2]⟩
  have m2 : (g_pt R i, g_pt R (g_nx R.length i)) ∈ gt_ed R := gt_ed_i.mpr ⟨i, hi, rfl⟩
  constructor
  · intro z
    exact ⟨_, _, m1, m2, z⟩
  · rintro ⟨a, c, e1, e2, e3⟩
    have q1 : a = g_pt R (g_bf R.length i) := congrArg Prod.fst (gt_one2 h e1 m1 rfl)
    have q2 : c = g_pt R (g_nx R.length i) := congrArg Prod.snd (gt_one1 h e2 m2 rfl)
    rw [q1, q2] at e3
    exact e3
theorem gt_kp {R : s_Fig} (h : gt_smp R) {low : Nat} (hl : low < R.length) : ∀ {k : Nat}, k ≤ R.length → g_kp R low k = ((R.drop low ++ R.take low).take k).filter (gt_ns R)
  | 0, _ => rfl
  | k + 1, hk => by
    have ih := gt_kp h hl (k := k) (by omega)
    have ln : (R.drop low ++ R.take low).length = R.length := by
      rw [List.length_append, List.length_drop, List.length_take]; omega
    have ro : g_ro R.length low k < R.length := by unfold g_ro; split <;> omega
    have at_ : (R.drop low ++ R.take low)[k]? = some (g_pt R (g_ro R.length low k)) := by
      unfold g_ro g_pt
      by_cases c : low + k < R.length
      · rw [if_pos c, List.getElem?_append_left (by rw [List.length_drop]; omega), List.getElem?_drop, List.getElem?_eq_getElem c]; rfl
      · rw [if_neg c, List.getElem?_append_right (by rw [List.length_drop]; omega), List.length_drop, List.getElem?_take, if_pos (by omega), show k - (R.length - low) = low + k - R.length by omega, List.getElem?_eq_getElem (by omega)]; rfl
    show g_kp R low k ++ _ = _
    rw [ih, List.take_add_one, at_, List.filter_append]
    show _ = _ ++ [g_pt R (g_ro R.length low k)].filter _
    by_cases c : g_kpt R (g_ro R.length low k) = 0
    · rw [if_pos c]
      have : gt_ns R (g_pt R (g_ro R.length low k)) = false := by
        cases e : gt_ns R (g_pt R (g_ro R.length low k)) with
        | false => rfl
        | true => exact absurd ((gt_kpt h ro).mp c) (gt_ns_iff.mp e)
      simp [this]
    · rw [if_neg c]
      have : gt_ns R (g_pt R (g_ro R.length low k)) = true := gt_ns_iff.mpr (fun z => c ((gt_kpt h ro).mpr z))
      simp [this]
/-- the lowest corner is a corner -/
theorem gt_low_ns {R : List gt_P} (h : gt_smp R) {v : gt_P} (hv : ∀ x ∈ R, ¬ gt_lo x v) : ¬ gt_st R v := by
  rintro ⟨a, c, e1, e2, e3⟩
  have ho := gt_st_O h e1 e2 e3
  have n1 := gt_ne h e1
  have n2 := gt_ne h e2
  have a1 := hv a (gt_ed_mem e1).1
  have c1 := hv c (gt_ed_mem e2).2
  obtain ⟨tt, b1, b2⟩ := ho
  have x1 : ¬ (a.1 = v.1 ∧ a.2 = v.2) := fun z => n1 (Prod.ext z.1 z.2)
  have x2 : ¬ (v.1 = c.1 ∧ v.2 = c.2) := fun z => n2 (Prod.ext z.1 z.2)
  unfold gt_lo at a1 c1
  have ac : a.2 = v.2 ∧ c.2 = v.2 := by
    by_cases q : a.2 = c.2
    · omega
    · exfalso
      -- then v is the lower end, and not it alone
      by_cases w : a.2 = v.2
      · have e3' : (v.1 - a.1) * (c.2 - a.2) = 0 := by
          unfold g_turn at tt
          rw [show v.2 - a.2 = 0 by omega, Int.mul_zero] at tt
          have : (c.2 - a.2) * (v.1 - a.1) = 0 := by omega
          rw [Int.mul_comm]; exact this
        rcases Int.mul_eq_zero.mp e3' with k | k <;> omega
      · by_cases w2 : c.2 = v.2
        · have tt2 : g_turn c.1 c.2 a.1 a.2 v.1 v.2 = 0 := by rw [gt_sw]; omega
          have e3' : (a.2 - c.2) * (v.1 - c.1) = 0 := by
            unfold g_turn at tt2
            rw [show v.2 - c.2 = 0 by omega, Int.mul_zero] at tt2
            omega
          rcases Int.mul_eq_zero.mp e3' with k | k <;> omega
        · omega
  omega
theorem gt_cls {R : s_Fig} (h : gt_fig R) : gt_fig (g_cls R) ∧ (∀ c, gt_cc c → gt_sm c (gt_ed (g_cls R)) = gt_sm c (gt_ed R)) ∧ (∀ x, ¬ gt_st (g_cls R) x) ∧ (∃ s t, R = s ++ t ∧ g_cls R = t.filter (gt_ns R) ++ s.filter (gt_ns R)) ∧ ∃ v r, g_cls R = v :: r ∧ ∀ x ∈ R, ¬ gt_lo x v := by
  have hp : 0 < R.length := List.length_pos_iff.mpr h.2.1
  have hl : g_low R (R.length - 1) < R.length := by
    have := g_low_le (R := R) (k := R.length - 1)
    omega
  have lo := gt_low (R := R) (k := R.length - 1)
  have e : g_cls R = (R.drop (g_low R (R.length - 1)) ++ R.take (g_low R (R.length - 1))).filter (gt_ns R) := by
    unfold g_cls
    rw [gt_kp h.1 hl (Nat.le_refl _), List.take_of_length_le (by rw [List.length_append, List.length_drop, List.length_take]; omega)]
  generalize hL : g_low R (R.length - 1) = L at *
  have eR : R = R.take L ++ R.drop L := (List.take_append_drop L R).symm
  have e2 : g_cls R = (R.drop L).filter (gt_ns R) ++ (R.take L).filter (gt_ns R) := by rw [e, List.filter_append]
  have e3 : gt_cl R = (R.take L).filter (gt_ns R) ++ (R.drop L).filter (gt_ns R) := by
    have : gt_cl R = (R.take L ++ R.drop L).filter (gt_ns R) := by unfold gt_cl; rw [← eR]
    rw [this, List.filter_append]
  obtain ⟨g1, g2, g3⟩ := gt_close R.length rfl h
  rw [e3] at g1 g2 g3
  have all : ∀ x ∈ R, ¬ gt_lo x (g_pt R L) := fun x hx => by
    obtain ⟨i, hi⟩ := List.mem_iff_getElem?.mp hx
    have il := (List.getElem?_eq_some_iff.mp hi).1
    have : g_pt R i = x := by unfold g_pt; rw [hi]; rfl
    rw [← this]
    exact lo i (by omega)
  refine ⟨?_, fun c hc => ?_, fun x hx => ?_, ⟨R.take L, R.drop L, eR, e2⟩, ?_⟩
  · rw [e2]
    refine ⟨gt_smp_rot g1.1, fun z => g1.2.1 ?_, ?_⟩
    · rcases List.append_eq_nil_iff.mp z with ⟨z1, z2⟩
      rw [z1, z2]; rfl
    · rw [gt_k_rot g1.1]; exact g1.2.2
  · rw [e2, gt_sm_perm gt_ed_rot]; exact g2 c hc
  · rw [e2] at hx
    exact g3 x (gt_st_rot.mp hx)
  · have hd : R.drop L = g_pt R L :: R.drop (L + 1) := by
      rw [List.drop_eq_getElem_cons hl]
      unfold g_pt
      rw [List.getElem?_eq_getElem hl]; rfl
    have ns : gt_ns R (g_pt R L) = true := gt_ns_iff.mpr (gt_low_ns h.1 all)
    refine ⟨g_pt R L, (R.drop (L + 1)).filter (gt_ns R) ++ (R.take L).filter (gt_ns R), ?_, all⟩
    rw [e2, hd, List.filter_cons, if_pos ns]; rfl
