/-! shares: together they are 1 -/
def o_val (q : Int × Int) : Rat := (q.1 : Rat) / (q.2 : Rat)
def o_sum (l : s_Own) : Rat := (l.map (fun q => o_val q.2)).sum
theorem o_val_mul {a b g : Int} (hb : b ≠ 0) (hg : g ≠ 0) : o_val (g * a, g * b) = o_val (a, b) := by
  unfold o_val
  have h1 : (b : Rat) ≠ 0 := by exact_mod_cast hb
  have h2 : (g : Rat) ≠ 0 := by exact_mod_cast hg
  simp only [Rat.intCast_mul]
  grind
theorem o_val_add {a b c d : Int} (hb : b ≠ 0) (hd : d ≠ 0) : o_val (a * d + c * b, b * d) = o_val (a, b) + o_val (c, d) := by
  unfold o_val
  have h1 : (b : Rat) ≠ 0 := by exact_mod_cast hb
  have h2 : (d : Rat) ≠ 0 := by exact_mod_cast hd
  simp only [Rat.intCast_mul, Rat.intCast_add]
  grind
theorem o_val_sub {a b c d : Int} (hb : b ≠ 0) (hd : d ≠ 0) : o_val (a * d - c * b, b * d) = o_val (a, b) - o_val (c, d) := by
  have e := o_val_add (a := a) (b := b) (c := -c) (d := d) hb hd
  have e2 : a * d + -c * b = a * d - c * b := by grind
  rw [e2] at e
  rw [e]
  unfold o_val
  simp only [Rat.intCast_neg]
  grind
theorem o_val_prod {a b c d : Int} : o_val (a * c, b * d) = o_val (a, b) * o_val (c, d) := by
  unfold o_val
  simp only [Rat.intCast_mul]
  grind
theorem o_val_x {a b : Int} (hb : 0 < b) : o_val (a, b) * (b : Rat) = (a : Rat) := by
  unfold o_val
  have h1 : (b : Rat) ≠ 0 := by exact_mod_cast (show b ≠ 0 by omega)
  show (a : Rat) / (b : Rat) * (b : Rat) = (a : Rat)
  grind
theorem o_val_nn {a b : Int} (ha : 0 ≤ a) (hb : 0 < b) : 0 ≤ o_val (a, b) := by
  have h1 : (0 : Rat) < (b : Rat) := by exact_mod_cast hb
  have h2 : (0 : Rat) ≤ (a : Rat) := by exact_mod_cast ha
  refine Rat.not_lt.mp (fun z => ?_)
  have := (Rat.div_lt_iff (a := (a : Rat)) (c := 0) h1).mp z
  grind
theorem o_val_le {a b : Int} (hb : 0 < b) (h : o_val (a, b) ≤ 1) : a ≤ b := by
  have h1 : (0 : Rat) < (b : Rat) := by exact_mod_cast hb
  have m := Rat.mul_nonneg (a := 1 - o_val (a, b)) (b := (b : Rat)) (by grind) (by grind)
  have x := o_val_x (a := a) hb
  have : (a : Rat) ≤ (b : Rat) := by grind
  exact_mod_cast this
theorem s_red_val {a b : Int} (hb : 0 < b) : o_val (s_red a b) = o_val (a, b) := by
  have g0 : s_gcd a b ≠ 0 := by
    have := s_gcd_pos (a := a) (b := b)
    omega
  obtain ⟨e1, e2⟩ := s_red_back (a := a) hb
  have b0 : (s_red a b).2 ≠ 0 := by
    have := s_red_pos (a := a) hb
    omega
  have k := o_val_mul (a := (s_red a b).1) b0 g0
  rw [← e1, ← e2] at k
  exact k.symm
theorem o_sum_set {x q : Int × Int × Int} : ∀ {l : s_Own} {i : Nat}, l[i]? = some q → o_sum (l.set i x) = o_sum l - o_val q.2 + o_val x.2
  | a :: l, 0, h => by
    have e : a = q := Option.some.inj h
    subst e
    show ((x :: l).map (fun q => o_val q.2)).sum = ((a :: l).map (fun q => o_val q.2)).sum - o_val a.2 + o_val x.2
    rw [List.map_cons, List.sum_cons, List.map_cons, List.sum_cons]
    grind
  | a :: l, i + 1, h => by
    have ih := o_sum_set (x := x) (l := l) (i := i) h
    show ((a :: l.set i x).map (fun q => o_val q.2)).sum = ((a :: l).map (fun q => o_val q.2)).sum - o_val q.2 + o_val x.2
    rw [List.map_cons, List.sum_cons, List.map_cons, List.sum_cons]
    have e1 : ((l.set i x).map (fun q => o_val q.2)).sum = o_sum (l.set i x) := rfl
    have e2 : (l.map (fun q => o_val q.2)).sum = o_sum l := rfl
    rw [e1, e2, ih]
    grind
theorem o_sum_erase {q : Int × Int × Int} : ∀ {l : s_Own} {i : Nat}, l[i]? = some q → o_sum (l.eraseIdx i) = o_sum l - o_val q.2
  | a :: l, 0, h => by
    have e : a = q := Option.some.inj h
    subst e
    show (l.map (fun q => o_val q.2)).sum = ((a :: l).map (fun q => o_val q.2)).sum - o_val a.2
    rw [List.map_cons, List.sum_cons]
    grind
  | a :: l, i + 1, h => by
    have ih := o_sum_erase (l := l) (i := i) h
    show ((a :: l.eraseIdx i).map (fun q => o_val q.2)).sum = ((a :: l).map (fun q => o_val q.2)).sum - o_val q.2
    rw [List.map_cons, List.sum_cons, List.map_cons, List.sum_cons]
    have e1 : ((l.eraseIdx i).map (fun q => o_val q.2)).sum = o_sum (l.eraseIdx i) := rfl
    have e2 : (l.map (fun q => o_val q.2)).sum = o_sum l := rfl
    rw [e1, e2, ih]
    grind
theorem o_sum_snoc {l : s_Own} {x : Int × Int × Int} : o_sum (l ++ [x]) = o_sum l + o_val x.2 := by
  unfold o_sum
  rw [List.map_append, List.sum_append]
  show _ + (o_val x.2 + 0) = _
  grind
/-- owners that are, with shares in lowest terms -/
def o_fine (n1 : Int) (l : s_Own) : Prop := ∀ q ∈ l, (0 ≤ q.1 ∧ q.1 < n1) ∧ 0 ≤ q.2.1 ∧ 0 < q.2.2 ∧ s_lw q.2
theorem o_add_ok {n1 : Int} {l : s_Own} {i : Nat} {t b : Int} {q : Int × Int × Int} (h : o_fine n1 l) (hq : l[i]? = some q) (ht : 0 ≤ t) (hb : 0 < b) : o_fine n1 (o_add l i t b) ∧ o_sum (o_add l i t b) = o_sum l + o_val (t, b) := by
  have hm := h q (List.mem_of_getElem? hq)
  have m1 := Int.mul_nonneg hm.2.1 (show 0 ≤ b by omega)
  have m2 := Int.mul_nonneg ht (show 0 ≤ q.2.2 by omega)
  have m3 := Int.mul_pos hm.2.2.1 hb
  unfold o_add
  rw [hq]
  dsimp only
  refine ⟨fun x hx => ?_, ?_⟩
  · rcases List.mem_or_eq_of_mem_set hx with e | e
    · exact h x e
    · rw [e]
      exact ⟨hm.1, s_red_nn (by omega), s_red_pos m3, s_red_lw m3⟩
  · rw [o_sum_set hq]
    show _ + o_val (s_red _ _) = _
    rw [s_red_val m3, o_val_add (by omega) (by omega)]
    grind
theorem o_give_ok {n1 : Int} {l : s_Own} {p t b : Int} (h : o_fine n1 l) (hp : 0 ≤ p ∧ p < n1) (hl : l.length < 14) (ht : 0 ≤ t) (hb : 0 < b) : o_fine n1 (o_give l p t b) ∧ o_sum (o_give l p t b) = o_sum l + o_val (t, b) := by
  have hlt := o_fd_lt (l := l) (p := p)
  unfold o_give
  by_cases c : 0 ≤ o_fd l p
  · rw [if_pos c]
    have il : (o_fd l p).toNat < l.length := by omega
    exact o_add_ok h (List.getElem?_eq_getElem il) ht hb
  · rw [if_neg c, if_neg (by omega)]
    have h2 : o_fine n1 (l ++ [(p, 0, 1)]) := fun x hx => by
      rcases List.mem_append.mp hx with e | e
      · exact h x e
      · rw [List.mem_singleton.mp e]
        exact ⟨hp, Int.le_refl 0, show (0 : Int) < 1 by omega, show Int.gcd 0 1 = 1 by decide⟩
    have k := o_add_ok (i := l.length) (q := (p, 0, 1)) h2 (by rw [List.getElem?_append_right (Nat.le_refl _), Nat.sub_self]; rfl) ht hb
    refine ⟨k.1, ?_⟩
    rw [k.2, o_sum_snoc]
    have : o_val ((0 : Int), (1 : Int)) = 0 := by
      unfold o_val
      simp
      grind
    show o_sum l + o_val ((0 : Int), (1 : Int)) + _ = _
    rw [this]
    grind
theorem o_sub_ok {n1 : Int} {l : s_Own} {i : Nat} {t b : Int} {q : Int × Int × Int} (h : o_fine n1 l) (hq : l[i]? = some q) (hb : 0 < b) (hle : t * q.2.2 ≤ q.2.1 * b) : o_fine n1 (o_sub l i t b) ∧ o_sum (o_sub l i t b) = o_sum l - o_val (t, b) := by
  have hm := h q (List.mem_of_getElem? hq)
  have m3 := Int.mul_pos hm.2.2.1 hb
  have v := o_val_sub (a := q.2.1) (b := q.2.2) (c := t) (d := b) (by omega) (by omega)
  have w := s_red_val (a := q.2.1 * b - t * q.2.2) m3
  unfold o_sub
  rw [hq]
  dsimp only
  by_cases c : (s_red (q.2.1 * b - t * q.2.2) (q.2.2 * b)).1 = 0
  · rw [if_pos c]
    refine ⟨fun x hx => h x (List.mem_of_mem_eraseIdx hx), ?_⟩
    rw [o_sum_erase hq]
    have z : o_val (s_red (q.2.1 * b - t * q.2.2) (q.2.2 * b)) = 0 := by
      unfold o_val
      rw [c]
      simp
      grind
    have e : o_val q.2 = o_val (q.2.1, q.2.2) := rfl
    rw [e]
    grind
  · rw [if_neg c]
    refine ⟨fun x hx => ?_, ?_⟩
    · rcases List.mem_or_eq_of_mem_set hx with e | e
      · exact h x e
      · rw [e]
        exact ⟨hm.1, s_red_nn (by omega), s_red_pos m3, s_red_lw m3⟩
    · rw [o_sum_set hq]
      show _ + o_val (s_red _ _) = _
      have e : o_val q.2 = o_val (q.2.1, q.2.2) := rfl
      rw [e]
      grind
/-- PARTS together -/
def o_psum (ps : List (Int × Int)) : Rat := (ps.map o_val).sum
theorem o_psum_cons {p : Int × Int} {ps : List (Int × Int)} : o_psum (p :: ps) = o_val p + o_psum ps := by
  unfold o_psum
  rw [List.map_cons, List.sum_cons]
theorem d_wh_sum : ∀ {ps : List (Int × Int)} {t b : Int}, d_pok ps → 0 ≤ t → 0 < b → d_wh ps t b = true → o_val (t, b) + o_psum ps = 1
  | [], t, b, _, ht, hb, h => by
    have e : t = b := of_decide_eq_true h
    subst e
    have x := o_val_x (a := t) hb
    have b0 : (t : Rat) ≠ 0 := by exact_mod_cast (show t ≠ 0 by omega)
    show o_val (t, t) + 0 = 1
    grind
  | (p, q) :: l, t, b, hp, ht, hb, h => by
    have hpq := hp (p, q) (List.mem_cons_self ..)
    dsimp only at hpq
    have m1 := Int.mul_nonneg ht (show 0 ≤ q by omega)
    have m2 := Int.mul_pos (show 0 < p by omega) hb
    have m3 := Int.mul_pos hb (show 0 < q by omega)
    unfold d_wh at h
    split at h
    · cases h
    · split at h
      · cases h
      · have ih := d_wh_sum (ps := l) (fun x hx => hp x (List.mem_cons_of_mem _ hx)) (s_red_nn (by omega)) (s_red_pos m3) h
        have e : o_val ((s_red (t * q + p * b) (b * q)).1, (s_red (t * q + p * b) (b * q)).2) = o_val (s_red (t * q + p * b) (b * q)) := rfl
        rw [e, s_red_val m3, o_val_add (by omega) (by omega)] at ih
        rw [o_psum_cons]
        grind
theorem o_pts_ok {n1 : Int} {r : Nat → Int} {t b : Int} (ht : 0 ≤ t) (hb : 0 < b) : ∀ {ps : List (Int × Int)} {k : Nat} {o : s_Own}, d_pok ps → o_fine n1 o → o.length + ps.length ≤ 14 → (∀ j, k ≤ j → j < k + ps.length → 0 ≤ r j ∧ r j < n1) → o_fine n1 (o_pts r t b k ps o) ∧ o_sum (o_pts r t b k ps o) = o_sum o + o_val (t, b) * o_psum ps
  | [], k, o, _, ho, _, _ => ⟨ho, by
      show o_sum o = o_sum o + o_val (t, b) * 0
      grind⟩
  | p :: ps, k, o, hp, ho, hl, hr => by
    have hpp := hp p (List.mem_cons_self ..)
    rw [List.length_cons] at hl hr
    have g := o_give_ok (p := r k) (t := t * p.1) (b := b * p.2) ho (hr k (Nat.le_refl k) (by omega)) (by omega) (Int.mul_nonneg ht (by omega)) (Int.mul_pos hb (by omega))
    have gl := o_give_len (l := o) (p := r k) (t := t * p.1) (b := b * p.2)
    have ih := o_pts_ok (n1 := n1) (r := r) ht hb (ps := ps) (k := k + 1) (fun x hx => hp x (List.mem_cons_of_mem _ hx)) g.1 (by omega) (fun j j1 j2 => hr j (by omega) (by omega))
    refine ⟨ih.1, ?_⟩
    show o_sum (o_pts r t b (k + 1) ps _) = _
    rw [ih.2, g.2, o_psum_cons, o_val_prod]
    have e : o_val (p.1, p.2) = o_val p := rfl
    rw [e]
    grind
theorem o_tkf_ok {n1 : Int} : ∀ {gs : List (Int × Int × Int)} {o : s_Own}, (∀ g ∈ gs, 0 < g.2.2) → o_tko gs o → o_fine n1 o → o_fine n1 (o_tkf gs o) ∧ o_sum (o_tkf gs o) = o_sum o - (gs.map (fun g => o_val g.2)).sum
  | [], o, _, _, ho => ⟨ho, by
      show o_sum o = o_sum o - 0
      grind⟩
  | g :: gs, o, hg, ⟨⟨q, q1, q2, q3⟩, ht⟩, ho => by
    have k := o_sub_ok ho q1 (hg g (List.mem_cons_self ..)) q3
    have ih := o_tkf_ok (fun x hx => hg x (List.mem_cons_of_mem _ hx)) ht k.1
    refine ⟨ih.1, ?_⟩
    show o_sum (o_tkf gs _) = _
    rw [ih.2, k.2, List.map_cons, List.sum_cons]
    have e : o_val (g.2.1, g.2.2) = o_val g.2 := rfl
    rw [e]
    grind
theorem o_gs_sum {T B : Int} : ∀ {row : List Int} {ps : List (Int × Int)}, row.length = ps.length → ((o_gs row T B ps).map (fun g => o_val g.2)).sum = o_val (T, B) * o_psum ps
  | [], [], _ => by
    show (0 : Rat) = o_val (T, B) * 0
    grind
  | [], _ :: _, h => by cases h
  | _ :: _, [], h => by cases h
  | b :: row, p :: ps, h => by
    have ih := o_gs_sum (T := T) (B := B) (row := row) (ps := ps) (by simpa using h)
    have e : o_gs (b :: row) T B (p :: ps) = (b, T * p.1, B * p.2) :: o_gs row T B ps := rfl
    rw [e, List.map_cons, List.sum_cons, ih, o_psum_cons]
    show o_val (T * p.1, B * p.2) + _ = _
    rw [o_val_prod]
    have e : o_val (p.1, p.2) = o_val p := rfl
    rw [e]
    grind
theorem o_nn {n1 : Int} {l : s_Own} (h : o_fine n1 l) : 0 ≤ o_sum l := by
  induction l with
  | nil => exact Rat.le_refl
  | cons a l ih =>
    have ha := h a (List.mem_cons_self ..)
    have i := ih (fun x hx => h x (List.mem_cons_of_mem _ hx))
    have e : o_sum (a :: l) = o_val a.2 + o_sum l := by
      unfold o_sum
      rw [List.map_cons, List.sum_cons]
    have v := o_val_nn ha.2.1 ha.2.2.1
    have e2 : o_val a.2 = o_val (a.2.1, a.2.2) := rfl
    rw [e, e2]
    exact Rat.add_nonneg v i
theorem o_le {n1 : Int} {l : s_Own} (h : o_fine n1 l) (hs : o_sum l = 1) : ∀ q ∈ l, q.2.1 ≤ q.2.2 := fun q hq => by
  obtain ⟨i, hi⟩ := List.mem_iff_getElem?.mp hq
  have e := o_sum_erase hi
  have nn := o_nn (n1 := n1) (l := l.eraseIdx i) (fun x hx => h x (List.mem_of_mem_eraseIdx hx))
  have hh := h q hq
  refine o_val_le hh.2.2.1 ?_
  have e2 : o_val (q.2.1, q.2.2) = o_val q.2 := rfl
  rw [e2]
  grind
