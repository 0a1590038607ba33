/-! THE MODEL: PARTS -/
def j_pts (M : e_M) (x : Nat) : List (Int × Int) := s_ar (fun k => (M 4472 (6 * x + k), M 4473 (6 * x + k))) (M 4470 x)
theorem o_add_len {l : s_Own} {i : Nat} {t b : Int} : (o_add l i t b).length = l.length := by
  unfold o_add
  split
  · exact List.length_set
  · rfl
theorem o_give_len {l : s_Own} {p t b : Int} : (o_give l p t b).length ≤ l.length + 1 := by
  unfold o_give
  split
  · rw [o_add_len]; omega
  · split
    · omega
    · rw [o_add_len, List.length_append]; exact Nat.le_refl _
theorem o_add_pos {l : s_Own} {i : Nat} {t b : Int} (h : ∀ q ∈ l, 0 < q.2.2) (hb : 0 < b) : ∀ q ∈ o_add l i t b, 0 < q.2.2 := by
  unfold o_add
  split
  · rename_i q0 hq0
    intro q hq
    rcases List.mem_or_eq_of_mem_set hq with hq | hq
    · exact h q hq
    · rw [hq]
      exact s_red_pos (Int.mul_pos (h _ (List.mem_of_getElem? hq0)) hb)
  · exact h
theorem o_give_pos {l : s_Own} {p t b : Int} (h : ∀ q ∈ l, 0 < q.2.2) (hb : 0 < b) : ∀ q ∈ o_give l p t b, 0 < q.2.2 := by
  unfold o_give
  split
  · exact o_add_pos h hb
  · split
    · exact h
    · refine o_add_pos (fun q hq => ?_) hb
      rcases List.mem_append.mp hq with hq | hq
      · exact h q hq
      · rw [List.mem_singleton.mp hq]
        show (0 : Int) < 1
        omega
theorem o_pts_len {r : Nat → Int} {t b : Int} : ∀ {ps : List (Int × Int)} {k : Nat} {o : s_Own}, (o_pts r t b k ps o).length ≤ o.length + ps.length
  | [], _, _ => Nat.le_refl _
  | p :: ps, k, o => by
    show (o_pts r t b (k + 1) ps _).length ≤ _
    have h1 := o_pts_len (r := r) (t := t) (b := b) (ps := ps) (k := k + 1) (o := o_give o (r k) (t * p.1) (b * p.2))
    have h2 := o_give_len (l := o) (p := r k) (t := t * p.1) (b := b * p.2)
    rw [List.length_cons]; omega
theorem o_pts_pos {r : Nat → Int} {t b : Int} (hb : 0 < b) : ∀ {ps : List (Int × Int)} {k : Nat} {o : s_Own}, d_pok ps → (∀ q ∈ o, 0 < q.2.2) → ∀ q ∈ o_pts r t b k ps o, 0 < q.2.2
  | [], _, _, _, h => h
  | p :: ps, k, o, hp, h => o_pts_pos hb (ps := ps) (fun q hq => hp q (List.mem_cons_of_mem _ hq)) (o_give_pos h (Int.mul_pos hb (by have := hp p List.mem_cons_self; omega)))
theorem s_red_le {a b : Int} (ha : 0 ≤ a) (hb : 0 < b) : (0 ≤ (s_red a b).1 ∧ (s_red a b).1 ≤ a) ∧ 0 < (s_red a b).2 ∧ (s_red a b).2 ≤ b :=
  ⟨s_div_le ha (s_gcd_pos (a := a) (b := b)), s_red_pos hb, (s_div_le (by omega) (s_gcd_pos (a := a) (b := b))).2⟩
/-- which of a fraction's two numbers is greater: lowest terms keep that -/
theorem s_red_cmp {a b : Int} (hb : 0 < b) : ((s_red a b).2 < (s_red a b).1 ↔ b < a) ∧ ((s_red a b).1 = (s_red a b).2 ↔ a = b) := by
  obtain ⟨e1, e2⟩ := s_red_back (a := a) hb
  have hg := s_gcd_pos (a := a) (b := b)
  generalize s_gcd a b = g at *
  generalize (s_red a b).1 = u at *
  generalize (s_red a b).2 = v at *
  subst e1
  have hgv : b = g * v := e2
  refine ⟨⟨fun h => ?_, fun h => ?_⟩, fun h => ?_, fun h => ?_⟩
  · rw [hgv]; exact Int.mul_lt_mul_of_pos_left h hg
  · rw [hgv] at h; exact Int.lt_of_mul_lt_mul_left h (by omega)
  · rw [hgv, h]
  · rw [hgv] at h; exact Int.eq_of_mul_eq_mul_left (by omega) h
theorem m_isOne {M : e_M} {x : Nat} {ps : List (Int × Int)} {Q : Int → e_M → Prop} (hx : x < 152) (he : j_pts M x = ps) (hn : 0 ≤ M 4470 x ∧ M 4470 x ≤ 6) (hp : d_pok ps) (q1 : d_wh ps 0 1 = true → ∀ M', m_fr M M' → m_own M' = m_own M → M' 4456 87 = M 4456 87 → Q 1 M') (q0 : d_wh ps 0 1 = false → ∀ M', m_fr M M' → m_own M' = m_own M → M' 4456 87 = M 4456 87 → Q 0 M') : WX12_isOne x M Q := by
  have tx : ((x : Nat) : Int).toNat = x := by omega
  have hl : (ps.length : Int) = M 4470 x := by rw [← he]; unfold j_pts; rw [s_ar_len]; omega
  have hat : ∀ k : Nat, (k : Int) < M 4470 x → ps[k]? = some (M 4472 (6 * x + k), M 4473 (6 * x + k)) := fun k hk => by
    rw [← he]
    exact s_ar_get (f := fun k => (M 4472 (6 * x + k), M 4473 (6 * x + k))) (by omega)
  unfold WX12_isOne VX12_isOne
  refine s_up (σ := Int × Int × e_M) (P := fun dd i s => WX12_isOne_8 Q dd x s.1 s.2.1 i s.2.2) (n := M 4470 x) (i0 := 0) (s := (0, 1, M)) (fun i s => (d_wh ps 0 1 = d_wh (ps.drop i.toNat) s.1 s.2.1) ∧ (0 ≤ s.1 ∧ s.1 ≤ s.2.1 ∧ 0 < s.2.1 ∧ s.2.1 ≤ 1000 ^ i.toNat) ∧ m_fr M s.2.2 ∧ m_own s.2.2 = m_own M ∧ s.2.2 4456 87 = M 4456 87) hn.1 ⟨rfl, ⟨Int.le_refl 0, (by decide : (0 : Int) ≤ 1), (by decide : (0 : Int) < 1), Int.le_refl 1⟩, m_fr_refl, rfl, rfl⟩ ?_ ?_
  · intro d2 ⟨a, b, N⟩ ⟨h1, ⟨h2, h3, h4, h5⟩, f, o, e87⟩
    dsimp only at h1 h2 h3 h4 h5 f o e87 ⊢
    have k70 : N 4470 = M 4470 := f.1 _ (by omega) (by omega) (by omega) (by omega)
    rw [List.drop_of_length_le (by omega)] at h1
    unfold WX12_isOne_8 VX12_isOne_8
    rw [tx, k70]
    refine ⟨by omega, fun _ => ⟨fun ne => q0 (by rw [h1]; exact decide_eq_false ne) N f o e87, fun e => q1 (by rw [h1]; exact decide_eq_true e) N f o e87⟩, fun z => by omega⟩
  · intro d2 i ⟨a, b, N⟩ k1 k2 ⟨h1, ⟨h2, h3, h4, h5⟩, f, o, e87⟩ ih
    dsimp only at h1 h2 h3 h4 h5 f o e87 ih ⊢
    obtain ⟨k, ek⟩ : ∃ k : Nat, i = k := ⟨i.toNat, by omega⟩
    subst ek
    have tk : ((k : Nat) : Int).toNat = k := by omega
    rw [tk] at h1 h5
    have k70 : N 4470 = M 4470 := f.1 _ (by omega) (by omega) (by omega) (by omega)
    have k72 : N 4472 = M 4472 := f.1 _ (by omega) (by omega) (by omega) (by omega)
    have k73 : N 4473 = M 4473 := f.1 _ (by omega) (by omega) (by omega) (by omega)
    have hk := hat k k2
    have kl : k < ps.length := by omega
    rw [List.drop_eq_getElem_cons kl] at h1
    have eg : ps[k] = (M 4472 (6 * x + k), M 4473 (6 * x + k)) := by
      have := List.getElem?_eq_getElem kl
      rw [hk] at this
      exact (Option.some.inj this).symm
    rw [eg] at h1
    have pb := hp _ (List.mem_of_getElem? hk)
    dsimp only at pb
    generalize hpu : M 4472 (6 * x + k) = p at *
    generalize hpd : M 4473 (6 * x + k) = q at *
    have p5 := s_pow1000 (n := k) (by omega)
    have b5 : b ≤ 1000000000000000 := Int.le_trans h5 p5
    unfold WX12_isOne_8 VX12_isOne_8
    rw [tx, k70, s_w (x := 6 * (x : Int)) (by omega) (by omega), s_w (x := 6 * (x : Int) + k) (by omega) (by omega), show (6 * (x : Int) + (k : Int)).toNat = 6 * x + k by omega, k72, k73, hpu, hpd]
    refine ⟨by omega, fun z => by omega, fun _ => ⟨by omega, by omega, ?_⟩⟩
    have m1 : 0 < b * q := Int.mul_pos h4 (by omega)
    have m2 : 0 ≤ a * q := Int.mul_nonneg h2 (by omega)
    have m3 : 0 ≤ p * b := Int.mul_nonneg (by omega) (by omega)
    have cmp := s_red_cmp (a := a * q + p * b) m1
    have le := s_red_le (a := a * q + p * b) (b := b * q) (by omega) m1
    have mb : b * q ≤ 1000 ^ (k + 1) := by
      rw [Int.pow_succ]
      exact Int.mul_le_mul h5 pb.2.2 (by omega) (by have := Int.pow_pos (n := 1000) (m := k) (by decide); omega)
    have mlt : q < p → b * q < a * q + p * b := fun hqp => by
      have := Int.mul_lt_mul_of_pos_left hqp h4
      rw [Int.mul_comm b p] at this
      omega
    have dw : d_wh ((p, q) :: ps.drop (k + 1)) a b = if q < p then false else if b * q < a * q + p * b then false else d_wh (ps.drop (k + 1)) ((s_red (a * q + p * b) (b * q)).1) ((s_red (a * q + p * b) (b * q)).2) := rfl
    rw [dw] at h1
    refine m_plus (B := 1000000000000000) (C := 1000) ⟨h2, by omega⟩ ⟨h4, b5⟩ ⟨by omega, by omega⟩ ⟨by omega, by omega⟩ (by decide) ?_
    generalize hr : s_red (a * q + p * b) (b * q) = r at *
    generalize hM1 : e_up (e_up N 4456 38 r.1) 4456 39 r.2 = M1
    have e38 : M1 4456 38 = r.1 := by rw [← hM1, e_up_ne (by omega), e_up_eq]
    have e39 : M1 4456 39 = r.2 := by rw [← hM1, e_up_eq]
    have c1 : ∀ c, c ≠ 4456 → M1 c = N c := fun c hc => by rw [← hM1, e_up_row hc, e_up_row hc]
    have c2 : ∀ j, j ≠ 38 → j ≠ 39 → M1 4456 j = N 4456 j := fun j j1 j2 => by rw [← hM1, e_up_ne (fun z => j2 z.2), e_up_ne (fun z => j1 z.2)]
    have f1 : m_fr M M1 := m_fr_trans f ⟨fun c c0 _ _ _ => c1 c c0, fun j j1 j2 _ => c2 j j1 j2⟩
    have o1 : m_own M1 = m_own M := by
      rw [← o]
      unfold m_own
      rw [c2 87 (by omega) (by omega), c1 4517 (by omega), c1 4518 (by omega), c1 4519 (by omega)]
    have g87 : M1 4456 87 = M 4456 87 := by rw [c2 87 (by omega) (by omega)]; exact e87
    rw [e38, e39]
    refine ⟨fun le1 => ?_, fun gt1 => q0 ?_ M1 f1 o1 g87⟩
    · rw [s_w (by omega) (by omega)]
      have n1 : ¬ b * q < a * q + p * b := fun z => by have := cmp.1.mpr z; omega
      have n2 : ¬ q < p := fun z => n1 (mlt z)
      rw [if_neg n2, if_neg n1] at h1
      refine ih (r.1, r.2, M1) ⟨by rw [show ((k : Int) + 1).toNat = k + 1 by omega]; exact h1, ⟨le.1.1, le1, le.2.1, by rw [show ((k : Int) + 1).toNat = k + 1 by omega]; show r.2 ≤ _; omega⟩, f1, o1, g87⟩
    · rw [h1]
      by_cases n2 : q < p
      · rw [if_pos n2]
      · rw [if_neg n2, if_pos (cmp.1.mp gt1)]
theorem m_areParts {M : e_M} {x from_ : Nat} {ps : List (Int × Int)} {r : Nat → Int} {but : Int} {Q : Int → e_M → Prop} (hx : x < 152) (he : j_pts M x = ps) (hn : 0 ≤ M 4470 x ∧ M 4470 x ≤ 6) (hf : M 4471 x = (from_ : Int)) (hf3 : from_ ≤ 3) (hr : ∀ k : Nat, (k : Int) < M 4470 x → M 4520 (from_ + k) = r (from_ + k)) (hp : d_pok ps)
    (q1 : ¬ a_mixed r from_ (from_ + M 4470 x) but → d_wh ps 0 1 = true → ∀ M', m_fr M M' → m_own M' = m_own M → M' 4456 87 = M 4456 87 → Q 1 M') (q0 : (a_mixed r from_ (from_ + M 4470 x) but ∨ d_wh ps 0 1 = false) → ∀ M', m_fr M M' → m_own M' = m_own M → M' 4456 87 = M 4456 87 → Q 0 M') : WX12_areParts x but M Q := by
  have tx : ((x : Nat) : Int).toNat = x := by omega
  have ii : ∀ k : Nat, (k : Int) < M 4470 x → e_w32 (M 4471 x + (k : Int)) = ((from_ + k : Nat) : Int) := fun k hk => by rw [hf, s_w (by omega) (by omega)]; omega
  unfold WX12_areParts VX12_areParts
  refine s_up (σ := Unit) (P := fun dd i _ => WX12_areParts_2 Q dd x but i M) (n := M 4470 x) (i0 := 0) (s := ()) (fun i _ => ∀ k : Nat, (k : Int) < i → r (from_ + k) ≠ but ∧ ∀ j, j < k → r (from_ + k) ≠ r (from_ + j)) hn.1 (fun k hk => by omega) ?_ ?_
  · intro d2 _ hI
    have nm : ¬ a_mixed r from_ (from_ + M 4470 x) but := fun ⟨i, i1, i2, i3⟩ => by
      have := hI (i - from_) (by omega)
      rw [show from_ + (i - from_) = i by omega] at this
      rcases i3 with e | ⟨j, j1, j2, j3⟩
      · exact this.1 e
      · have h2 := this.2 (j - from_) (by omega)
        rw [show from_ + (j - from_) = j by omega] at h2
        exact h2 j3
    unfold WX12_areParts_2 VX12_areParts_2
    rw [tx]
    exact ⟨by omega, fun _ => m_isOne hx he hn hp (fun w M' a1 a2 a3 => ⟨Or.inr rfl, q1 nm w M' a1 a2 a3⟩) (fun w M' a1 a2 a3 => ⟨Or.inl rfl, q0 (Or.inr w) M' a1 a2 a3⟩), fun z => by omega⟩
  · intro d2 i _ k1 k2 hI ih
    obtain ⟨k, ek⟩ : ∃ k : Nat, i = k := ⟨i.toNat, by omega⟩
    subst ek
    have bad : (r (from_ + k) = but ∨ ∃ j, j < k ∧ r (from_ + k) = r (from_ + j)) → Q 0 M := fun hb => q0 (Or.inl ⟨from_ + k, by omega, by omega, hb.elim Or.inl (fun ⟨j, j1, j2⟩ => Or.inr ⟨from_ + j, by omega, by omega, j2⟩)⟩) M m_fr_refl rfl rfl
    unfold WX12_areParts_2 VX12_areParts_2
    rw [tx, ii k k2, show (((from_ + k : Nat)) : Int).toNat = from_ + k by omega, hr k k2]
    refine ⟨by omega, fun z => by omega, fun _ => ⟨by omega, by omega, fun ne => ?_, fun e => bad (Or.inl e)⟩⟩
    show ∃ j, WX12_areParts_34 (WX12_areParts_2 Q d2) Q j x but k 0 M
    refine s_up (σ := Unit) (P := fun dd i _ => WX12_areParts_34 (WX12_areParts_2 Q d2) Q dd x but k i M) (n := (k : Int)) (i0 := 0) (s := ()) (fun i _ => ∀ j : Nat, (j : Int) < i → r (from_ + k) ≠ r (from_ + j)) (by omega) (fun j hj => by omega) ?_ ?_
    · intro d3 _ hJ
      unfold WX12_areParts_34 VX12_areParts_34
      refine ⟨fun _ => ?_, fun z => by omega⟩
      rw [s_w (by omega) (by omega)]
      refine ih () (fun k' hk' => ?_)
      by_cases ck : k' = k
      · subst ck; exact ⟨ne, fun j hj => hJ j (by omega)⟩
      · exact hI k' (by omega)
    · intro d3 i2 _ b1 b2 hJ ih2
      obtain ⟨j, ej⟩ : ∃ j : Nat, i2 = j := ⟨i2.toNat, by omega⟩
      subst ej
      unfold WX12_areParts_34 VX12_areParts_34
      rw [tx, ii k k2, ii j (by omega), show (((from_ + k : Nat)) : Int).toNat = from_ + k by omega, show (((from_ + j : Nat)) : Int).toNat = from_ + j by omega, hr k k2, hr j (by omega)]
      refine ⟨fun z => by omega, fun _ => ⟨by omega, by omega, by omega, by omega, fun ne2 => ?_, fun e => bad (Or.inr ⟨j, by omega, e.symm⟩)⟩⟩
      rw [s_w (by omega) (by omega)]
      refine ih2 () (fun j' hj' => ?_)
      by_cases cj : j' = j
      · rw [cj]; exact fun z => ne2 z.symm
      · exact hJ j' (by omega)
theorem m_parted {M : e_M} {x from_ : Nat} {ps : List (Int × Int)} {r : Nat → Int} {t b : Int} {Q : e_M → Prop} (hx : x < 152) (he : j_pts M x = ps) (hn : 0 ≤ M 4470 x ∧ M 4470 x ≤ 6) (hf : M 4471 x = (from_ : Int)) (hf3 : from_ ≤ 3) (hr : ∀ k : Nat, (k : Int) < M 4470 x → M 4520 (from_ + k) = r (from_ + k)) (hp : d_pok ps) (ho : m_ook M) (ho8 : (m_own M).length ≤ 8) (hob : s_ob 1000000000000 (m_own M)) (hob1 : ∀ q ∈ m_own M, (∃ k : Nat, (k : Int) < M 4470 x ∧ q.1 = r (from_ + k)) → q.2.1 ≤ 1000000 ∧ q.2.2 ≤ 1000000) (ht : 0 ≤ t ∧ t ≤ 1000000) (hb : 0 < b ∧ b ≤ 1000000) (hnd : ∀ i j : Nat, i < j → (j : Int) < M 4470 x → r (from_ + i) ≠ r (from_ + j)) (hq : ∀ M', m_own M' = o_pts r t b from_ ps (m_own M) → m_ook M' → m_fr M M' → Q M') : WX12_parted x t b M Q := by
  have tx : ((x : Nat) : Int).toNat = x := by omega
  have hl : (ps.length : Int) = M 4470 x := by rw [← he]; unfold j_pts; rw [s_ar_len]; omega
  have hat : ∀ k : Nat, (k : Int) < M 4470 x → ps[k]? = some (M 4472 (6 * x + k), M 4473 (6 * x + k)) := fun k hk => by
    rw [← he]
    exact s_ar_get (f := fun k => (M 4472 (6 * x + k), M 4473 (6 * x + k))) (by omega)
  have pos0 : ∀ q ∈ m_own M, 0 < q.2.2 := fun q hq => (hob q hq).2.2.1
  unfold WX12_parted VX12_parted
  refine s_up (σ := e_M) (P := fun dd i N => WX12_parted_3 Q dd x t b i N) (n := M 4470 x) (i0 := 0) (s := M) (fun i N => m_own N = o_pts r t b from_ (ps.take i.toNat) (m_own M) ∧ m_ook N ∧ m_fr M N) hn.1 ⟨rfl, ho, m_fr_refl⟩ ?_ ?_
  · intro d2 N ⟨h1, h2, f⟩
    have k70 : N 4470 = M 4470 := f.1 _ (by omega) (by omega) (by omega) (by omega)
    rw [List.take_of_length_le (by omega)] at h1
    unfold WX12_parted_3 VX12_parted_3
    rw [tx, k70]
    exact ⟨by omega, fun _ => hq N h1 h2 f, fun z => by omega⟩
  · intro d2 i N k1 k2 ⟨h1, h2, f⟩ ih
    obtain ⟨k, ek⟩ : ∃ k : Nat, i = k := ⟨i.toNat, by omega⟩
    subst ek
    rw [show ((k : Nat) : Int).toNat = k by omega] at h1
    have k70 : N 4470 = M 4470 := f.1 _ (by omega) (by omega) (by omega) (by omega)
    have k71 : N 4471 = M 4471 := f.1 _ (by omega) (by omega) (by omega) (by omega)
    have k72 : N 4472 = M 4472 := f.1 _ (by omega) (by omega) (by omega) (by omega)
    have k73 : N 4473 = M 4473 := f.1 _ (by omega) (by omega) (by omega) (by omega)
    have k520 : N 4520 = M 4520 := f.1 _ (by omega) (by omega) (by omega) (by omega)
    have hk := hat k k2
    have pb := hp _ (List.mem_of_getElem? hk)
    dsimp only at pb
    have hrk := hr k k2
    have tk1 : ps.take (k + 1) = ps.take k ++ [(M 4472 (6 * x + k), M 4473 (6 * x + k))] := by
      rw [List.take_succ, hk]; rfl
    have lt : (ps.take k).length = k := by rw [List.length_take]; omega
    have es := o_pts_snoc (r := r) (t := t) (b := b) (p := (M 4472 (6 * x + k), M 4473 (6 * x + k))) (ps := ps.take k) (k := from_) (o := m_own M)
    rw [← tk1, lt, ← h1] at es
    have pt : d_pok (ps.take k) := fun q hq => hp q (List.mem_of_mem_take hq)
    have posN : ∀ q ∈ m_own N, 0 < q.2.2 := by rw [h1]; exact o_pts_pos hb.1 pt pos0
    have lenN : (m_own N).length ≤ 8 + k := by
      rw [h1]
      have := o_pts_len (r := r) (t := t) (b := b) (ps := ps.take k) (k := from_) (o := m_own M)
      omega
    have nown := m_own_len h2
    dsimp only at es
    generalize hpu : M 4472 (6 * x + k) = p at *
    generalize hpd : M 4473 (6 * x + k) = q at *
    have m1 : 0 < b * q := Int.mul_pos hb.1 (by omega)
    have m2 : 0 ≤ t * p := Int.mul_nonneg ht.1 (by omega)
    have m3 : t * p ≤ 1000000 * 1000 := Int.mul_le_mul ht.2 pb.1.2 (by omega) (by decide)
    have m4 : b * q ≤ 1000000 * 1000 := Int.mul_le_mul hb.2 pb.2.2 (by omega) (by decide)
    have le := s_red_le (a := t * p) (b := b * q) m2 m1
    unfold WX12_parted_3 VX12_parted_3
    rw [tx, k70, s_w (x := 6 * (x : Int)) (by omega) (by omega), s_w (x := 6 * (x : Int) + k) (by omega) (by omega), show (6 * (x : Int) + (k : Int)).toNat = 6 * x + k by omega, k72, k73, hpu, hpd]
    refine ⟨by omega, fun z => by omega, fun _ => ⟨by omega, by omega, ?_⟩⟩
    refine m_times (B := 1000000) (C := 1000) ht hb ⟨by omega, pb.1.2⟩ ⟨by omega, pb.2.2⟩ (by decide) ?_
    have er := o_give_red (l := m_own N) (p := r (from_ + k)) (t := t * p) (b := b * q) posN m1
    have lw : s_lw (s_red (t * p) (b * q)) := s_red_lw m1
    generalize hrr : s_red (t * p) (b * q) = rr at *
    generalize hM1 : e_up (e_up N 4456 38 rr.1) 4456 39 rr.2 = M1
    have e38 : M1 4456 38 = rr.1 := by rw [← hM1, e_up_ne (by omega), e_up_eq]
    have e39 : M1 4456 39 = rr.2 := by rw [← hM1, e_up_eq]
    have c1 : ∀ c, c ≠ 4456 → M1 c = N c := fun c hc => by rw [← hM1, e_up_row hc, e_up_row hc]
    have c2 : ∀ j, j ≠ 38 → j ≠ 39 → M1 4456 j = N 4456 j := fun j j1 j2 => by rw [← hM1, e_up_ne (fun z => j2 z.2), e_up_ne (fun z => j1 z.2)]
    have f1 : m_fr M M1 := m_fr_trans f ⟨fun c c0 _ _ _ => c1 c c0, fun j j1 j2 _ => c2 j j1 j2⟩
    have o1 : m_own M1 = m_own N := by
      unfold m_own
      rw [c2 87 (by omega) (by omega), c1 4517 (by omega), c1 4518 (by omega), c1 4519 (by omega)]
    have ok1 : m_ook M1 := by unfold m_ook at *; rw [c2 87 (by omega) (by omega)]; exact h2
    rw [e38, e39, c1 4471 (by omega), k71, hf, s_w (x := (from_ : Int) + k) (by omega) (by omega), show ((from_ : Int) + (k : Int)) = ((from_ + k : Nat) : Int) by omega, show (((from_ + k : Nat)) : Int).toNat = from_ + k by omega, c1 4520 (by omega), k520, hrk]
    refine ⟨by omega, by omega, m_gets (B := 1000000) (C := 1000000000) ok1 (by rw [c2 87 (by omega) (by omega)]; omega) (by decide) (fun z hz1 hz2 => ?_) ⟨le.1.1, by omega⟩ ⟨le.2.1, by omega⟩ (by decide) lw (fun M2 g1 g2 g3 => ?_)⟩
    · rw [o1, h1] at hz1
      have zm := o_pts_mem hz1 (fun j j1 j2 e => by
        rw [lt] at j2
        refine hnd (j - from_) k (by omega) k2 ?_
        rw [show from_ + (j - from_) = j by omega, ← e]; exact hz2)
      have b1 := hob z zm
      have b2 := hob1 z zm ⟨k, k2, hz2⟩
      exact ⟨b1.1, b2.1, b1.2.2.1, b2.2⟩
    · rw [o1, ← er, ← es] at g1
      rw [s_w (by omega) (by omega)]
      exact ih M2 ⟨by rw [show ((k : Int) + 1).toNat = k + 1 by omega]; exact g1, g2, m_fr_trans f1 g3⟩
/-- what comes of a LOT's OWNERS at a death, by the class's value -/
def l_inh (l : w_L) (dead : Int) (r : Nat → Int) (ps : List (Int × Int)) : s_Own := match l_heir l dead r ps with
  | some o => o
  | none => l.2.2.2
theorem m_inherits {M : e_M} {L : w_L} {x l : Nat} {dead : Int} {ps : List (Int × Int)} {r : Nat → Int} {Q : e_M → Prop} (hn' : nn_ok M) (l80 : l < 80) (eo : j_own M l = L.2.2.2) (ob : s_ob 1000000 L.2.2.2) (g0 : L.1 1 = 0) (hx : x < 152) (he : j_pts M x = ps) (hn : 0 ≤ M 4470 x ∧ M 4470 x ≤ 6) (hf : 0 < M 4470 x → M 4471 x = 1) (hr : ∀ k : Nat, (k : Int) < M 4470 x → M 4520 (1 + k) = r (1 + k)) (hp : d_pok ps) (hlw : ∀ q ∈ L.2.2.2, s_lw q.2) (hnd : ∀ i j : Nat, i < j → (j : Int) < M 4470 x → r (1 + i) ≠ r (1 + j)) (hq : ∀ M', m_own M' = l_inh L dead r ps → m_ook M' → m_fr M M' → Q M') : WX12_inherits x dead l M Q := by
  have tx : ((x : Nat) : Int).toNat = x := by omega
  have j8 := (hn'.2.2.1 l l80).2.2
  have jl := j_own_len j8
  have pl : (ps.length : Int) = M 4470 x := by rw [← he]; unfold j_pts; rw [s_ar_len]; omega
  unfold l_inh l_heir at hq
  unfold WX12_inherits VX12_inherits
  refine m_loads hn' l80 (fun M1 o1 k1 f1 => ?_)
  rw [eo] at o1
  rw [eo] at jl
  have l8 : (m_own M1).length ≤ 8 := by rw [o1]; have := j8.2; omega
  refine m_ownAt k1 ?_
  rw [o1]
  have flt := o_fd_lt (l := L.2.2.2) (p := dead)
  refine ⟨fun ge => ?_, fun lt => ?_⟩
  · have nl := m_own_len k1
    rw [o1] at nl
    have hg1 := m_own_at (M := M1) (i := (o_fd L.2.2.2 dead).toNat) (by omega)
    rw [o1] at hg1
    rw [if_pos ⟨g0, ge⟩, hg1] at hq
    have hq' : ∀ M', m_own M' = o_heirs L.2.2.2 (M1 4517 (o_fd L.2.2.2 dead).toNat, M1 4518 (o_fd L.2.2.2 dead).toNat, M1 4519 (o_fd L.2.2.2 dead).toNat) dead r ps → m_ook M' → m_fr M M' → Q M' := hq
    have qm := List.mem_of_getElem? hg1
    have qb := ob _ qm
    have ql := hlw _ qm
    have q1' := o_fd_at ge hg1
    have es := o_sub_all hg1
    dsimp only at qb ql q1' es
    unfold o_heirs at hq'
    dsimp only at hq'
    have oh : o_has (m_own M1) dead (M1 4518 (o_fd L.2.2.2 dead).toNat) (M1 4519 (o_fd L.2.2.2 dead).toNat) := by
      rw [o1]; exact ⟨_, hg1, ge, Int.le_refl _⟩
    generalize hrr : o_fd L.2.2.2 dead = rr at *
    generalize M1 4518 rr.toNat = t at *
    generalize M1 4519 rr.toNat = b at *
    have l8' := l8
    rw [o1] at l8'
    refine ⟨by omega, by omega, m_gives (B := 1000000) (C := 1000000) k1 (fun q hq1 _ => ?_) ⟨qb.1, by omega⟩ ⟨qb.2.2.1, qb.2.2.2⟩ (by decide) oh (fun M3 o3 k3 f3 => ?_)⟩
    · rw [o1] at hq1
      have := ob q hq1
      exact ⟨this.1, by omega, this.2.2.1, this.2.2.2⟩
    · rw [o1, hrr, es] at o3
      have f13 := m_fr_trans f1 f3
      have kk : ∀ c, (4463 ≤ c ∧ c ≤ 4516) ∨ c = 4520 → M3 c = M c := fun c hc => f13.1 c (by omega) (by omega) (by omega) (by omega)
      have ob3 : s_ob 1000000 (m_own M3) := by
        rw [o3]
        exact fun q hq => ob q (List.mem_of_mem_eraseIdx hq)
      have l3 : (m_own M3).length ≤ 8 := by
        rw [o3, List.length_eraseIdx]
        rw [o1] at l8
        split <;> omega
      rw [tx, kk 4470 (by omega)]
      refine ⟨by omega, fun ne => ?_, fun e0 => ?_⟩
      · have pn : ¬ ps.length = 0 := by omega
        rw [if_neg pn] at hq'
        refine m_parted (from_ := 1) (ps := ps) (r := r) hx (by unfold j_pts at *; rw [kk 4470 (by omega), kk 4472 (by omega), kk 4473 (by omega)]; exact he) (by rw [kk 4470 (by omega)]; exact hn) (by rw [kk 4471 (by omega)]; exact hf (by omega)) (by omega) (fun k hk => by rw [kk 4520 (by omega)]; exact hr k (by rw [kk 4470 (by omega)] at hk; exact hk)) hp k3 l3 (s_ob_up (by decide) ob3) (fun q hq _ => by have := ob3 q hq; exact ⟨by omega, this.2.2.2⟩) ⟨qb.1, by omega⟩ ⟨qb.2.2.1, qb.2.2.2⟩ (fun i j hij hj => hnd i j hij (by rw [kk 4470 (by omega)] at hj; exact hj)) (fun M4 o4 k4 f4 => ?_)
        rw [o3] at o4
        exact hq' M4 o4 k4 (m_fr_trans f13 f4)
      · have pn : ps.length = 0 := by omega
        have pe : ps = [] := List.length_eq_zero_iff.mp pn
        rw [if_pos pn, pe] at hq'
        have nl3 := m_own_len k3
        refine m_gets (B := 1000000) (C := 1000000) k3 (by omega) (by decide) (fun q hq _ => by have := ob3 q hq; exact ⟨this.1, by omega, this.2.2.1, this.2.2.2⟩) ⟨qb.1, by omega⟩ ⟨qb.2.2.1, qb.2.2.2⟩ (by decide) ql (fun M5 o5 k5 f5 => ?_)
        rw [o3] at o5
        exact hq' M5 o5 k5 (m_fr_trans f13 f5)
  · rw [if_neg (fun z => by omega)] at hq
    exact hq M1 o1 k1 f1
