/-! geometry: one straight corner less; along; two stretches of a CUT -/
theorem gt_fig_rot {s t : List gt_P} (h : gt_fig (s ++ t)) : gt_fig (t ++ s) := by
  refine ⟨gt_smp_rot h.1, fun z => h.2.1 ?_, ?_⟩
  · rcases List.append_eq_nil_iff.mp z with ⟨z1, z2⟩
    rw [z1, z2]; rfl
  · rw [gt_k_rot h.1]; exact h.2.2
/-- a straight corner taken out -/
theorem gt_era {s t : List gt_P} {b : gt_P} (h : gt_fig (s ++ b :: t)) (hb : gt_st (s ++ b :: t) b) : gt_fig (s ++ t) ∧ ∀ x, x ≠ b → (gt_st (s ++ t) x ↔ gt_st (s ++ b :: t) x) := by
  obtain ⟨a, c, h1, h2, h3⟩ := hb
  obtain ⟨y, x', e1, r1, r3⟩ : ∃ y z r, s ++ b :: t = y ++ z ∧ z ++ y = a :: b :: r := by
    obtain ⟨p, q, w, z, e0⟩ := gt_smp_3 h.1 h.2.1
    exact gt_ed_turn (by rw [e0]; simp) h1
  have F := gt_fig_rot (s := y) (t := x') (by rw [← r1]; exact h)
  rw [r3] at F
  obtain ⟨v', b', c', r', e3⟩ := gt_smp_3 F.1 F.2.1
  have er : e1 = c' :: r' := by
    injection e3 with _ e4
    injection e4
  subst er
  have mem : ∀ f, f ∈ gt_ed (a :: b :: c' :: r') ↔ f ∈ gt_ed (s ++ b :: t) := fun f => by rw [← r3, r1]; exact gt_ed_rot.mem_iff
  have m2 : (b, c') ∈ gt_ed (a :: b :: c' :: r') := List.mem_cons_of_mem _ (List.mem_cons_self ..)
  have ec : c' = c := congrArg Prod.snd (gt_one1 h.1 ((mem _).mp m2) h2 rfl)
  subst ec
  have o := gt_st_O h.1 h1 h2 h3
  have n1 : b ≠ a := fun z => gt_ne h.1 h1 z.symm
  have n2 : b ≠ c' := gt_ne h.1 h2
  have D := gt_del F.1 o n1 n2
  have K := gt_k_ins D o n1 n2
  have G : gt_fig (a :: c' :: r') := ⟨D, by simp, by rw [← K]; exact F.2.2⟩
  -- what is left is a turn of it
  have rot : ∃ u w, s ++ t = u ++ w ∧ w ++ u = a :: c' :: r' := by
    have nd := gt_smp_nd h.1
    rw [r1] at nd
    have r1' : s ++ b :: t = y ++ x' := r1
    cases x' with
    | nil =>
      rw [List.nil_append] at r3
      rw [List.append_nil, r3] at r1'
      cases s with
      | nil =>
        have r1' : b :: t = a :: b :: c' :: r' := r1'
        injection r1' with z _
        exact absurd z n1
      | cons p s =>
        have r1' : p :: (s ++ b :: t) = a :: b :: c' :: r' := r1'
        injection r1' with z1 z2
        cases s with
        | nil =>
          have z2 : b :: t = b :: c' :: r' := z2
          injection z2 with _ z3
          refine ⟨[], [p] ++ t, rfl, ?_⟩
          rw [List.append_nil, z1, z3]; rfl
        | cons q s =>
          have z2 : q :: (s ++ b :: t) = b :: c' :: r' := z2
          injection z2 with z3 z4
          exfalso
          have nd2 := gt_smp_nd F.1
          rw [List.nodup_cons, List.nodup_cons] at nd2
          exact nd2.2.1 (by rw [← z4]; simp)
    | cons p x' =>
      have r3' : p :: (x' ++ y) = a :: b :: c' :: r' := r3
      injection r3' with z1 z2
      subst z1
      -- b is next: either in x' or at the head of y
      cases x' with
      | nil =>
        rw [List.nil_append] at z2
        rw [z2] at r1'
        -- s ++ b :: t = (b :: c' :: r') ++ [p]
        cases s with
        | nil =>
          have r1' : b :: t = b :: ((c' :: r') ++ [p]) := r1'
          injection r1' with _ z4
          exact ⟨c' :: r', [p], by rw [List.nil_append, z4], rfl⟩
        | cons q s =>
          have r1' : q :: (s ++ b :: t) = b :: ((c' :: r') ++ [p]) := r1'
          injection r1' with z3 z4
          exfalso
          have nd2 := gt_smp_nd F.1
          rw [List.nodup_cons, List.nodup_cons] at nd2
          have : b ∈ (c' :: r') ++ [p] := by rw [← z4]; simp
          rcases List.mem_append.mp this with k | k
          · exact nd2.2.1 k
          · exact n1 (List.mem_singleton.mp k)
      | cons q x' =>
        have z2 : q :: (x' ++ y) = b :: c' :: r' := z2
        injection z2 with z3 z4
        subst z3
        -- s ++ b :: t = y ++ p :: b :: x'
        have nb : q ∉ y := fun k => by
          have nd2 := gt_smp_nd F.1
          rw [List.nodup_cons, List.nodup_cons] at nd2
          exact nd2.2.1 (by rw [← z4]; exact List.mem_append.mpr (Or.inr k))
        have key : ∀ {s y t x : List gt_P} {p q : gt_P}, s ++ q :: t = y ++ p :: q :: x → q ∉ y → q ≠ p → q ∉ x → s = y ++ [p] ∧ t = x := by
          intro s
          induction s with
          | nil =>
            intro y t x p q e n1 n2 n3
            cases y with
            | nil =>
              have e : q :: t = p :: q :: x := e
              injection e with z _
              exact absurd z n2
            | cons w y =>
              have e : q :: t = w :: (y ++ p :: q :: x) := e
              injection e with z _
              exact absurd (by rw [z]; exact List.mem_cons_self ..) n1
          | cons u s ih =>
            intro y t x p q e n1 n2 n3
            cases y with
            | nil =>
              have e : u :: (s ++ q :: t) = p :: q :: x := e
              injection e with z1 z2
              cases s with
              | nil =>
                have z2 : q :: t = q :: x := z2
                injection z2 with _ z3
                exact ⟨by rw [z1]; rfl, z3⟩
              | cons u2 s =>
                have z2 : u2 :: (s ++ q :: t) = q :: x := z2
                injection z2 with _ z4
                exact absurd (by rw [← z4]; simp) n3
            | cons w y =>
              have e : u :: (s ++ q :: t) = w :: (y ++ p :: q :: x) := e
              injection e with z1 z2
              obtain ⟨a1, a2⟩ := ih z2 (fun k => n1 (List.mem_cons_of_mem _ k)) n2 n3
              exact ⟨by rw [z1, a1]; rfl, a2⟩
        have nx : q ∉ x' := fun k => by
          have nd2 := gt_smp_nd F.1
          rw [List.nodup_cons, List.nodup_cons] at nd2
          exact nd2.2.1 (by rw [← z4]; exact List.mem_append.mpr (Or.inl k))
        obtain ⟨a1, a2⟩ := key r1' nb n1 nx
        refine ⟨y, [p] ++ x', by rw [a1, a2, List.append_assoc], ?_⟩
        rw [List.append_assoc, z4]; rfl
  obtain ⟨u, w, e4, e5⟩ := rot
  refine ⟨?_, fun x hx => ?_⟩
  · have := gt_fig_rot (s := w) (t := u) (by rw [e5]; exact G)
    rw [e4]; exact this
  · have s1 := gt_st_del F.1 o n1 n2 hx
    have s2 : gt_st (a :: c' :: r') x ↔ gt_st (s ++ t) x := by rw [← e5, e4]; exact gt_st_rot
    have s3 : gt_st (a :: b :: c' :: r') x ↔ gt_st (s ++ b :: t) x := by rw [← r3, r1]; exact gt_st_rot
    rw [← s2, s1, s3]
theorem gt_sub_flt {P : gt_P → Bool} : ∀ {R Z : List gt_P}, Z.Sublist R → R.Nodup → (∀ x ∈ R, x ∈ Z ↔ P x = true) → Z = R.filter P
  | [], Z, h, _, _ => by rw [List.sublist_nil.mp h]; rfl
  | a :: R, Z, h, nd, hm => by
    rw [List.nodup_cons] at nd
    cases h with
    | cons _ h =>
      have na : a ∉ Z := fun z => nd.1 (h.subset z)
      have pa : P a = false := by
        cases e : P a
        · rfl
        · exact absurd ((hm a (List.mem_cons_self ..)).mpr e) na
      rw [List.filter_cons, if_neg (by rw [pa]; simp)]
      exact gt_sub_flt h nd.2 (fun x hx => hm x (List.mem_cons_of_mem _ hx))
    | @cons_cons Z' _ _ h =>
      have pa : P a = true := (hm a (List.mem_cons_self ..)).mp (List.mem_cons_self ..)
      rw [List.filter_cons, if_pos pa]
      refine congrArg (a :: ·) (gt_sub_flt h nd.2 (fun x hx => ?_))
      rw [← hm x (List.mem_cons_of_mem _ hx), List.mem_cons]
      exact ⟨Or.inr, fun z => z.resolve_left (fun e => nd.1 (by rw [← e]; exact hx))⟩
/-- two turns of one row that begin alike -/
theorem gt_turn_eq {a b c d b' d' : List gt_P} {v : gt_P} (h : a ++ b = c ++ d) (hn : (a ++ b).Nodup) (hb : b = v :: b') (hd : d = v :: d') : b ++ a = d ++ c := by
  subst hb hd
  have key : ∀ {a c : List gt_P}, a ++ v :: b' = c ++ v :: d' → (a ++ v :: b').Nodup → a = c ∧ b' = d' := by
    intro a
    induction a with
    | nil =>
      intro c e nd
      cases c with
      | nil => exact ⟨rfl, (List.cons.inj e).2⟩
      | cons w c =>
        have e : v :: b' = w :: (c ++ v :: d') := e
        injection e with z1 z2
        rw [List.nil_append, List.nodup_cons] at nd
        exact absurd (by rw [z2]; simp) nd.1
    | cons u a ih =>
      intro c e nd
      cases c with
      | nil =>
        have e : u :: (a ++ v :: b') = v :: d' := e
        injection e with z1 z2
        have nd : (u :: (a ++ v :: b')).Nodup := nd
        rw [List.nodup_cons] at nd
        exact absurd (by rw [z1]; simp) nd.1
      | cons w c =>
        have e : u :: (a ++ v :: b') = w :: (c ++ v :: d') := e
        injection e with z1 z2
        have nd : (u :: (a ++ v :: b')).Nodup := nd
        rw [List.nodup_cons] at nd
        obtain ⟨k1, k2⟩ := ih z2 nd.2
        exact ⟨by rw [z1, k1], k2⟩
  obtain ⟨k1, k2⟩ := key h hn
  rw [k1, k2]
theorem gt_lo_uni {x y : gt_P} (h : ¬ gt_lo x y) (k : ¬ gt_lo y x) : x = y := by
  unfold gt_lo at *
  exact Prod.ext (by omega) (by omega)
/-- what is left when all straight corners are out, from the lowest on: what the class's close gives -/
theorem gt_tidied {R Z : s_Fig} (hR : gt_fig R) (hZ : Z = R.filter (gt_ns R)) {s t t' : List gt_P} {v : gt_P} (e : Z = s ++ t) (ev : t = v :: t') (lo : ∀ x ∈ Z, ¬ gt_lo x v) : t ++ s = g_cls R := by
  obtain ⟨c1, c2, c3, ⟨a, b, e1, e2⟩, w, r, e3, e4⟩ := gt_cls hR
  have eZ : Z = a.filter (gt_ns R) ++ b.filter (gt_ns R) := by rw [hZ]; conv => lhs; rw [e1]; rw [List.filter_append, ← e1]
  have nd : (s ++ t).Nodup := by rw [← e, hZ]; exact (gt_smp_nd hR.1).filter _
  have mw : w ∈ Z := by
    rw [eZ]
    have : w ∈ g_cls R := by rw [e3]; exact List.mem_cons_self ..
    rw [e2] at this
    rcases List.mem_append.mp this with k | k
    · exact List.mem_append.mpr (Or.inr k)
    · exact List.mem_append.mpr (Or.inl k)
  have mv : v ∈ R := by
    have : v ∈ Z := by rw [e, ev]; simp
    rw [hZ] at this
    exact (List.mem_filter.mp this).1
  have vw : v = w := gt_lo_uni (e4 v mv) (lo w mw)
  rw [e2]
  by_cases hb : b.filter (gt_ns R) = []
  · -- then all is in the first part
    rw [hb, List.append_nil] at eZ
    rw [hb, List.nil_append]
    rw [hb, List.nil_append] at e2
    have := gt_turn_eq (a := s) (b := t) (c := []) (d := a.filter (gt_ns R)) (v := v) (b' := t') (d' := r) (by rw [← e, eZ]; rfl) nd ev (by rw [← e2, e3, vw])
    rw [this, List.append_nil]
  · obtain ⟨x, b2, eb⟩ := List.exists_cons_of_ne_nil hb
    have ex : x = v := by
      have := e2.symm.trans e3
      rw [eb] at this
      have this : x :: (b2 ++ a.filter (gt_ns R)) = w :: r := this
      injection this with z _
      rw [z, vw]
    rw [ex] at eb
    exact gt_turn_eq (by rw [← e, eZ]) nd ev eb
theorem gt_cp_dir {G : s_Fig} {q : gt_P} : ∀ {n : Nat} {p : gt_P}, ∀ e ∈ gt_pe p (gt_cp G q n p ++ [q]), gt_O e.1 q e.2
  | 0, p, e, he => by
    have he : e ∈ [(p, q)] := he
    rw [List.mem_singleton.mp he]
    exact gt_O_r
  | n + 1, p, e, he => by
    unfold gt_cp at he
    by_cases c : (g_nrst G p q G.length).1 < 0
    · rw [if_pos c] at he
      have he : e ∈ [(p, q)] := he
      rw [List.mem_singleton.mp he]
      exact gt_O_r
    · rw [if_neg c] at he
      have he : e ∈ (p, g_pt G (g_nrst G p q G.length).1.toNat) :: gt_pe (g_pt G (g_nrst G p q G.length).1.toNat) (gt_cp G q n (g_pt G (g_nrst G p q G.length).1.toNat) ++ [q]) := he
      rcases List.mem_cons.mp he with k | k
      · rw [k]
        rcases gt_nrst (F := G) (p := p) (q := q) (k := G.length) with w | w
        · exact absurd w.1 c
        · exact w.2.2.1.2.2
      · exact gt_cp_dir e k
theorem gt_pe_nx : ∀ {l : List gt_P} {p : gt_P} {e : gt_E}, e ∈ gt_pe p l → e.2 ≠ gt_ls p l → ∃ b, (e.2, b) ∈ gt_pe p l
  | [], _, _, he, _ => by cases he
  | [x], p, e, he, n => by
    have he : e ∈ [(p, x)] := he
    rw [List.mem_singleton.mp he] at n
    exact absurd rfl n
  | x :: y :: l, p, e, he, n => by
    rcases List.mem_cons.mp he with k | k
    · refine ⟨y, ?_⟩
      rw [k]
      exact List.mem_cons_of_mem _ (List.mem_cons_self ..)
    · obtain ⟨b, hb⟩ := gt_pe_nx k n
      exact ⟨b, List.mem_cons_of_mem _ hb⟩
/-- the way on along a FIGURE's stretch, up to the next corner of another one -/
theorem gt_along {F G : s_Fig} (hF : gt_fig F) (hG : G.length ≤ 40) {v h : gt_P} {k : Nat} (hk : k < F.length) (nv : v ≠ g_pt F (g_nx F.length k)) (ov : gt_O (g_pt F k) (g_pt F (g_nx F.length k)) v) (mv : v ∈ gt_aug F G) (oh : gt_O v (g_pt F (g_nx F.length k)) h) (hh : h = g_pt F (g_nx F.length k) ∨ (h ∈ G ∧ h ≠ v)) (no : ∀ c ∈ G, c ≠ v → gt_O v h c → c = h) : (v, h) ∈ gt_ed (gt_aug F G) := by
  obtain ⟨a1, a2, a3, a4, a5⟩ := gt_aug_all hF hG
  have mk : (g_pt F k, g_pt F (g_nx F.length k)) ∈ gt_ed F := gt_ed_i.mpr ⟨k, hk, rfl⟩
  have ne : g_pt F k ≠ g_pt F (g_nx F.length k) := gt_ne hF.1 mk
  have em : ∀ e ∈ gt_pe (g_pt F k) (gt_cp G (g_pt F (g_nx F.length k)) 41 (g_pt F k) ++ [g_pt F (g_nx F.length k)]), e ∈ gt_ed (gt_aug F G) := fun e he => by
    rw [gt_aug_ed hF.2.1]
    exact gt_edgs_mem.mpr ⟨k, hk, he⟩
  have fl : (G.filter (gt_inb (g_pt F k) (g_pt F (g_nx F.length k)))).length ≤ 41 := by
    have := List.length_filter_le (gt_inb (g_pt F k) (g_pt F (g_nx F.length k))) G
    omega
  obtain ⟨-, c2⟩ := gt_cp_no (G := G) (n := 41) ne fl
  generalize hq : g_pt F (g_nx F.length k) = q at *
  obtain ⟨e, he, oe⟩ := c2 v ov
  have ls : gt_ls (g_pt F k) (gt_cp G q 41 (g_pt F k) ++ [q]) = q := by rw [gt_ls_app]; rfl
  obtain ⟨b, hb⟩ : ∃ b, (v, b) ∈ gt_pe (g_pt F k) (gt_cp G q 41 (g_pt F k) ++ [q]) := by
    rcases gt_vtx a1.1 mv (em e he) oe with z | z
    · exact ⟨e.2, by rw [z]; exact he⟩
    · obtain ⟨b, hb⟩ := gt_pe_nx he (by rw [ls, ← z]; exact nv)
      exact ⟨b, by rw [z]; exact hb⟩
  have eb := em _ hb
  have nb : b ≠ v := fun z => gt_ne a1.1 eb z.symm
  have ob : gt_O v q b := gt_cp_dir _ hb
  have mb : b ∈ G ∨ b = q := by
    have := (gt_pe_mem hb).2
    rcases List.mem_append.mp this with z | z
    · exact Or.inl (gt_cp_mem z)
    · exact Or.inr (List.mem_singleton.mp z)
  have key : h = b := by
    rcases gt_O_ord oh ob with z | z
    · rcases hh with w | w
      · rw [w] at z ⊢
        exact gt_O_anti z ob
      · rcases a3 _ eb h w.1 z with u | u
        · exact absurd u w.2
        · exact u
    · rcases mb with w | w
      · exact (no b w nb z).symm
      · rw [w] at z ⊢
        exact (gt_O_anti z oh).symm
  rw [key]
  exact eb
/-- what is no corner there is not on the border -/
theorem gt_along_no {F G : s_Fig} (hF : gt_fig F) (hG : G.length ≤ 40) {v : gt_P} (mv : v ∈ F ∨ v ∈ G) (n : v ∉ gt_aug F G) {i : Nat} (hi : i < F.length) : ¬ gt_O (g_pt F i) (g_pt F (g_nx F.length i)) v := fun o => by
  obtain ⟨a1, a2, a3, a4, a5⟩ := gt_aug_all hF hG
  rcases mv with k | k
  · exact n (a1.2.2.2.2 v k)
  · exact n (a5 v k ⟨_, gt_ed_i.mpr ⟨i, hi, rfl⟩, o⟩)
/-! two stretches of a CUT, one behind the other -/
theorem gt_dot_sd {x y : gt_P} (ny : gt_nz y) (nx : gt_nz x) (z : gt_x x y = 0) (d : 0 < x.1 * y.1 + x.2 * y.2) : gt_sd x y := by
  have pp : ∀ {q : gt_P}, gt_nz q → 0 < q.1 * q.1 + q.2 * q.2 := fun {q} nq => by
    have a1 := gt_sq q.1
    have a2 := gt_sq q.2
    have n1 : q.1 ≠ 0 ∨ q.2 ≠ 0 := nq
    rcases n1 with n1 | n1
    · rcases Int.lt_or_gt_of_ne n1 with w | w
      · have := Int.mul_pos_of_neg_of_neg w w; omega
      · have := Int.mul_pos w w; omega
    · rcases Int.lt_or_gt_of_ne n1 with w | w
      · have := Int.mul_pos_of_neg_of_neg w w; omega
      · have := Int.mul_pos w w; omega
  have key : ∀ {x y : gt_P}, gt_nz y → gt_x x y = 0 → 0 < x.1 * y.1 + x.2 * y.2 → gt_up x → gt_up y := by
    intro x y ny z d u
    unfold gt_x at z
    rcases u with u | ⟨u1, u2⟩
    · have e : x.2 * (x.1 * y.1 + x.2 * y.2) = (x.1 * x.1 + x.2 * x.2) * y.2 := by grind
      have nx : gt_nz x := Or.inr (by omega)
      have q := Int.mul_pos u d
      rw [e] at q
      have := (gt_sp (x.1 * x.1 + x.2 * x.2) y.2)
      have p := pp nx
      rcases Int.lt_trichotomy y.2 0 with w | w | w
      · have := this.2.1 p w; omega
      · have := this.2.2.2.2.2 w; omega
      · exact Or.inl w
    · rw [u1, Int.zero_mul] at z d
      have y2 : y.2 = 0 := by
        have : x.1 * y.2 = 0 := by omega
        rcases Int.mul_eq_zero.mp this with k | k <;> omega
      refine Or.inr ⟨y2, Int.lt_of_not_ge (fun w => ?_)⟩
      have := gt_sp x.1 y.1
      rcases Int.lt_trichotomy y.1 0 with w2 | w2 | w2
      · omega
      · have := this.2.2.2.2.2 w2; omega
      · have := this.2.2.1 u2 w2; omega
  exact ⟨⟨key ny z d, key nx (by rw [gt_x_sw, z]; rfl) (by grind)⟩, z⟩
/-- back along the same way: said by a product, or by points on stretches -/
theorem gt_back {a b d : gt_P} (nab : a ≠ b) : (b = d ∨ (gt_t a b d = 0 ∧ 0 < (a.1 - b.1) * (d.1 - b.1) + (a.2 - b.2) * (d.2 - b.2))) ↔ (gt_O a b d ∨ gt_O b d a) := by
  have sqp : ∀ {p q : gt_P}, p ≠ q → 0 < (p.1 - q.1) * (p.1 - q.1) + (p.2 - q.2) * (p.2 - q.2) := fun {p q} n => by
    have a1 := gt_sq (p.1 - q.1)
    have a2 := gt_sq (p.2 - q.2)
    have n1 : p.1 - q.1 ≠ 0 ∨ p.2 - q.2 ≠ 0 := by
      refine Classical.byContradiction (fun z => n (Prod.ext ?_ ?_)) <;> omega
    rcases n1 with n1 | n1
    · rcases Int.lt_or_gt_of_ne n1 with w | w
      · have := Int.mul_pos_of_neg_of_neg w w; omega
      · have := Int.mul_pos w w; omega
    · rcases Int.lt_or_gt_of_ne n1 with w | w
      · have := Int.mul_pos_of_neg_of_neg w w; omega
      · have := Int.mul_pos w w; omega
  have dotp : ∀ {p q r : gt_P}, p ≠ q → r ≠ q → gt_O q r p → 0 < (p.1 - q.1) * (r.1 - q.1) + (p.2 - q.2) * (r.2 - q.2) := fun {p q r} n1 n2 o => by
    obtain ⟨s, t, h1, h2, h3, h4, h5⟩ := gt_on_par (v := q) (b := r) (q := p) o
    have s0 : 0 < s := Int.lt_of_not_ge (fun w => by
      have : s = 0 := by omega
      rw [this] at h4 h5
      refine n1 (Prod.ext ?_ ?_)
      · rcases Int.mul_eq_zero.mp (show t * (p.1 - q.1) = 0 by omega) with k | k <;> omega
      · rcases Int.mul_eq_zero.mp (show t * (p.2 - q.2) = 0 by omega) with k | k <;> omega)
    have e : t * ((p.1 - q.1) * (r.1 - q.1) + (p.2 - q.2) * (r.2 - q.2)) = s * ((r.1 - q.1) * (r.1 - q.1) + (r.2 - q.2) * (r.2 - q.2)) := by grind
    exact (gt_sg h1 s0 e).1.mpr (sqp n2)
  constructor
  · rintro (h | ⟨h1, h2⟩)
    · rw [h]; exact Or.inl gt_O_r
    · by_cases c : d = b
      · rw [c]; exact Or.inl gt_O_r
      · have s : gt_sd (gt_d b a) (gt_d b d) := by
          refine gt_dot_sd (gt_d_nz (fun z => c z.symm)) (gt_d_nz (fun z => nab z.symm)) ?_ h2
          unfold gt_t g_turn at h1
          unfold gt_x gt_d
          dsimp only
          grind
        rcases gt_sd_on s nab c with k | k
        · exact Or.inl (gt_O_sw k)
        · exact Or.inr k
  · intro h
    by_cases c : d = b
    · exact Or.inl c.symm
    · refine Or.inr ?_
      rcases h with h | h
      · refine ⟨h.1, ?_⟩
        have := dotp (p := d) (q := b) (r := a) c nab (gt_O_sw h)
        grind
      · refine ⟨?_, dotp nab c h⟩
        have := h.1
        unfold g_turn at this
        unfold gt_t g_turn
        grind
