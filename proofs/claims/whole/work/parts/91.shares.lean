/-! THE MODEL: fractions, shares -/
theorem m_divisor {M : e_M} {a b : Int} {Q : Int → Prop} (ha : 0 ≤ a) (hb : 0 ≤ b) (hq : Q (Int.gcd a b)) : WX12_divisor a b M Q := by
  unfold WX12_divisor VX12_divisor
  show ∃ j, WX12_divisor_6 M Q j a b
  refine ⟨_, s_iter (σ := Int × Int) (P := fun dd s => WX12_divisor_6 M Q dd s.1 s.2) (fun s => s.2.toNat) (fun s => 0 ≤ s.1 ∧ 0 ≤ s.2 ∧ Int.gcd s.1 s.2 = Int.gcd a b) ?_ _ (a, b) ⟨ha, hb, rfl⟩ (Nat.lt_succ_self _)⟩
  intro d2 ⟨x, y⟩ ⟨h1, h2, h3⟩ ih
  dsimp only at h1 h2 h3 ih ⊢
  unfold WX12_divisor_6 VX12_divisor_6
  refine ⟨fun e => ?_, fun ne => ⟨ne, ?_⟩⟩
  · rw [e, Int.gcd_zero_right] at h3
    rw [← h3] at hq
    rw [show ((x.natAbs : Nat) : Int) = x by omega] at hq
    exact hq
  · have hy : 0 < y := by omega
    have e1 := s_tmod_nn (a := x) (b := y) h1
    have e2 := Int.emod_nonneg x (show y ≠ 0 by omega)
    have e3 := Int.emod_lt_of_pos x hy
    refine ih (y, x.tmod y) ⟨by show 0 ≤ y; omega, by show 0 ≤ x.tmod y; rw [e1]; exact e2, ?_⟩ (by show (x.tmod y).toNat < y.toNat; rw [e1]; omega)
    show Int.gcd y (x.tmod y) = _
    rw [s_gcd_step h1, h3]
theorem s_gcd_b {a b : Int} (hb : 0 < b) : s_gcd a b = (Int.gcd a b : Int) := by
  unfold s_gcd
  rw [if_neg (fun z => by rw [Int.gcd_eq_zero_iff] at z; omega)]
theorem m_fraction {M : e_M} {a b : Int} {Q : e_M → Prop} (ha : 0 ≤ a) (ha2 : a < 9223372036854775808) (hb : 0 < b) (hb2 : b < 9223372036854775808) (hq : Q (e_up (e_up M 4456 38 (s_red a b).1) 4456 39 (s_red a b).2)) : WX12_fraction a b M Q := by
  have hg := s_gcd_pos (a := a) (b := b)
  have h1 := s_div_le ha hg
  have h2 := s_div_le (show 0 ≤ b by omega) hg
  unfold WX12_fraction VX12_fraction
  refine m_divisor ha (by omega) ?_
  rw [← s_gcd_b hb]
  refine ⟨by omega, fun M2 e2 => ⟨by omega, fun M3 e3 => ?_⟩⟩
  rw [Int.tdiv_eq_ediv_of_nonneg ha, s_wj (by omega) (by omega)] at e2
  rw [Int.tdiv_eq_ediv_of_nonneg (by omega), s_wj (by omega) (by omega)] at e3
  rw [e3, e2]
  exact hq
theorem m_plus {M : e_M} {a b c d B C : Int} {Q : e_M → Prop} (h1 : 0 ≤ a ∧ a ≤ B) (h2 : 0 < b ∧ b ≤ B) (h3 : 0 ≤ c ∧ c ≤ C) (h4 : 0 < d ∧ d ≤ C) (hBC : 2 * (B * C) < 9223372036854775808) (hq : Q (e_up (e_up M 4456 38 (s_red (a * d + c * b) (b * d)).1) 4456 39 (s_red (a * d + c * b) (b * d)).2)) : WX12_plus a b c d M Q := by
  have m1 := s_mulB h1.1 h1.2 (show 0 ≤ d by omega) h4.2
  have m2 := s_mulB (show 0 ≤ b by omega) h2.2 h3.1 h3.2
  have m3 := s_mulB (show 0 ≤ b by omega) h2.2 (show 0 ≤ d by omega) h4.2
  have m4 : 0 < b * d := Int.mul_pos h2.1 h4.1
  rw [Int.mul_comm b c] at m2
  unfold WX12_plus VX12_plus
  rw [s_wj (x := a * d) (by omega) (by omega), s_wj (x := c * b) (by omega) (by omega), s_wj (x := b * d) (by omega) (by omega), s_wj (x := a * d + c * b) (by omega) (by omega)]
  exact m_fraction (by omega) (by omega) m4 (by omega) hq
theorem m_less {M : e_M} {a b c d B C : Int} {Q : e_M → Prop} (h1 : 0 ≤ a ∧ a ≤ B) (h2 : 0 < b ∧ b ≤ B) (h3 : 0 ≤ c ∧ c ≤ C) (h4 : 0 < d ∧ d ≤ C) (hBC : 2 * (B * C) < 9223372036854775808) (hle : c * b ≤ a * d) (hq : Q (e_up (e_up M 4456 38 (s_red (a * d - c * b) (b * d)).1) 4456 39 (s_red (a * d - c * b) (b * d)).2)) : WX12_less a b c d M Q := by
  have m1 := s_mulB h1.1 h1.2 (show 0 ≤ d by omega) h4.2
  have m2 := s_mulB (show 0 ≤ b by omega) h2.2 h3.1 h3.2
  have m3 := s_mulB (show 0 ≤ b by omega) h2.2 (show 0 ≤ d by omega) h4.2
  have m4 : 0 < b * d := Int.mul_pos h2.1 h4.1
  rw [Int.mul_comm b c] at m2
  unfold WX12_less VX12_less
  rw [s_wj (x := a * d) (by omega) (by omega), s_wj (x := c * b) (by omega) (by omega), s_wj (x := b * d) (by omega) (by omega), s_wj (x := a * d - c * b) (by omega) (by omega)]
  exact m_fraction (by omega) (by omega) m4 (by omega) hq
theorem m_times {M : e_M} {a b c d B C : Int} {Q : e_M → Prop} (h1 : 0 ≤ a ∧ a ≤ B) (h2 : 0 < b ∧ b ≤ B) (h3 : 0 ≤ c ∧ c ≤ C) (h4 : 0 < d ∧ d ≤ C) (hBC : B * C < 9223372036854775808) (hq : Q (e_up (e_up M 4456 38 (s_red (a * c) (b * d)).1) 4456 39 (s_red (a * c) (b * d)).2)) : WX12_times a b c d M Q := by
  have m1 := s_mulB h1.1 h1.2 h3.1 h3.2
  have m3 := s_mulB (show 0 ≤ b by omega) h2.2 (show 0 ≤ d by omega) h4.2
  have m4 : 0 < b * d := Int.mul_pos h2.1 h4.1
  unfold WX12_times VX12_times
  rw [s_wj (x := a * c) (by omega) (by omega), s_wj (x := b * d) (by omega) (by omega)]
  exact m_fraction (by omega) (by omega) m4 (by omega) hq
/-! lowest terms -/
theorem s_red_eq {a b : Int} (hb : 0 < b) : s_red a b = (a / (Int.gcd a b : Int), b / (Int.gcd a b : Int)) := by
  unfold s_red
  rw [s_gcd_b hb]
theorem s_red_scale {k a b : Int} (hk : 0 < k) (hb : 0 < b) : s_red (k * a) (k * b) = s_red a b := by
  rw [s_red_eq (Int.mul_pos hk hb), s_red_eq hb, Int.gcd_mul_left, Int.natCast_mul, Int.natAbs_of_nonneg (by omega)]
  rw [Int.mul_ediv_mul_of_pos _ _ hk, Int.mul_ediv_mul_of_pos _ _ hk]
theorem s_red_back {a b : Int} (hb : 0 < b) : a = s_gcd a b * (s_red a b).1 ∧ b = s_gcd a b * (s_red a b).2 := by
  have hg := s_gcd_b (a := a) hb
  unfold s_red
  dsimp only
  rw [hg]
  constructor
  · rw [Int.mul_ediv_cancel' (Int.gcd_dvd_left a b)]
  · rw [Int.mul_ediv_cancel' (Int.gcd_dvd_right a b)]
theorem s_red_pos {a b : Int} (hb : 0 < b) : 0 < (s_red a b).2 := by
  have h := (s_red_back (a := a) hb).2
  have hg := s_gcd_pos (a := a) (b := b)
  by_cases c : 0 < (s_red a b).2
  · exact c
  · exfalso
    have : s_gcd a b * (s_red a b).2 ≤ 0 := Int.mul_nonpos_of_nonneg_of_nonpos (by omega) (by omega)
    omega
theorem s_red_nn {a b : Int} (ha : 0 ≤ a) : 0 ≤ (s_red a b).1 := (s_div_le ha (s_gcd_pos (a := a) (b := b))).1
/-- in lowest terms -/
def s_lw (q : Int × Int) : Prop := Int.gcd q.1 q.2 = 1
theorem s_red_lw {a b : Int} (hb : 0 < b) : s_lw (s_red a b) := by
  unfold s_lw
  rw [s_red_eq hb]
  dsimp only
  exact Int.gcd_ediv_gcd_ediv_gcd (by
    have : Int.gcd a b ≠ 0 := fun z => by rw [Int.gcd_eq_zero_iff] at z; omega
    omega)
theorem s_red_id {a b : Int} (hb : 0 < b) (h : s_lw (a, b)) : s_red a b = (a, b) := by
  rw [s_red_eq hb]
  unfold s_lw at h
  dsimp only at h
  rw [h]
  show (a / 1, b / 1) = _
  rw [Int.ediv_one, Int.ediv_one]
theorem s_red_addR {x y t b : Int} (hy : 0 < y) (hb : 0 < b) : s_red (x * b + t * y) (y * b) = s_red (x * (s_red t b).2 + (s_red t b).1 * y) (y * (s_red t b).2) := by
  have e := s_red_back (a := t) hb
  have hg := s_gcd_pos (a := t) (b := b)
  have hp := s_red_pos (a := t) hb
  generalize hG : s_gcd t b = g at *
  generalize hR : s_red t b = r at *
  obtain ⟨r1, r2⟩ := r
  dsimp only at *
  rw [e.1, e.2, ← s_red_scale hg (Int.mul_pos hy hp)]
  congr 1
  · rw [Int.mul_add, Int.mul_left_comm, Int.mul_assoc g r1 y]
  · rw [Int.mul_left_comm]
theorem o_add_red {l : s_Own} {i : Nat} {t b : Int} (hl : ∀ q, l[i]? = some q → 0 < q.2.2) (hb : 0 < b) : o_add l i t b = o_add l i (s_red t b).1 (s_red t b).2 := by
  unfold o_add
  cases e : l[i]? with
  | none => rfl
  | some q =>
    dsimp only
    rw [s_red_addR (hl q e) hb]
theorem o_give_red {l : s_Own} {p t b : Int} (hl : ∀ q ∈ l, 0 < q.2.2) (hb : 0 < b) : o_give l p t b = o_give l p (s_red t b).1 (s_red t b).2 := by
  unfold o_give
  split
  · exact o_add_red (fun q hq => hl q (List.mem_of_getElem? hq)) hb
  · split
    · rfl
    · refine o_add_red (fun q hq => ?_) hb
      rw [List.getElem?_append_right (Nat.le_refl _), Nat.sub_self] at hq
      rw [← Option.some.inj hq]
      show (0 : Int) < 1
      omega
/-! the draft of OWNERS -/
def m_own (M : e_M) : s_Own := s_ar (fun k => (M 4517 k, M 4518 k, M 4519 k)) (M 4456 87)
def m_ook (M : e_M) : Prop := 0 ≤ M 4456 87 ∧ M 4456 87 ≤ 14
theorem m_own_len {M : e_M} (h : m_ook M) : ((m_own M).length : Int) = M 4456 87 := by unfold m_own; rw [s_ar_len]; have := h.1; omega
theorem m_own_at {M : e_M} {i : Nat} (h : (i : Int) < M 4456 87) : (m_own M)[i]? = some (M 4517 i, M 4518 i, M 4519 i) := s_ar_get (f := fun k => (M 4517 k, M 4518 k, M 4519 k)) (by omega)
theorem m_own_fst {M : e_M} : (m_own M).map (fun q => q.1) = s_ar (M 4517) (M 4456 87) := s_ar_map
/-- the cells that the draft has -/
def m_fr (M M' : e_M) : Prop := (∀ b, b ≠ 4456 → b ≠ 4517 → b ≠ 4518 → b ≠ 4519 → M' b = M b) ∧ ∀ k, k ≠ 38 → k ≠ 39 → k ≠ 87 → M' 4456 k = M 4456 k
theorem m_fr_refl {M : e_M} : m_fr M M := ⟨fun _ _ _ _ _ => rfl, fun _ _ _ _ => rfl⟩
theorem m_fr_trans {M N L : e_M} (h1 : m_fr M N) (h2 : m_fr N L) : m_fr M L := ⟨fun b b1 b2 b3 b4 => by rw [h2.1 b b1 b2 b3 b4, h1.1 b b1 b2 b3 b4], fun k k1 k2 k3 => by rw [h2.2 k k1 k2 k3, h1.2 k k1 k2 k3]⟩
theorem m_ownAt {M : e_M} {x : Int} {Q : Int → Prop} (h : m_ook M) (hq : Q (o_fd (m_own M) x)) : WX12_ownAt x M Q := by
  obtain ⟨h0, h14⟩ := id h
  unfold o_fd at hq
  rw [m_own_fst] at hq
  have hg : ∀ i : Nat, (i : Int) < M 4456 87 → (s_ar (M 4517) (M 4456 87))[i]? = some (M 4517 i) := fun i hi => s_ar_get (by omega)
  unfold WX12_ownAt VX12_ownAt
  refine s_up (σ := Unit) (P := fun dd i _ => WX12_ownAt_2 M Q dd x i) (n := M 4456 87) (i0 := 0) (s := ()) (fun i _ => ∀ j : Nat, (j : Int) < i → M 4517 j ≠ x) h0 (fun j hj => by omega) ?_ ?_
  · intro d2 _ hi
    unfold WX12_ownAt_2 VX12_ownAt_2
    refine ⟨fun _ => ?_, fun z => by omega⟩
    rw [r_find_no (x := x) (fun e => by
      obtain ⟨j, hj, e⟩ := s_ar_mem.mp e
      exact hi j (by omega) e)] at hq
    exact hq
  · intro d2 i _ k1 k2 hi ih
    unfold WX12_ownAt_2 VX12_ownAt_2
    refine ⟨fun z => by omega, fun _ => ⟨by omega, fun ne => ?_, fun e => ?_⟩⟩
    · rw [s_w (by omega) (by omega)]
      refine ih () (fun j hj => ?_)
      by_cases c : (j : Int) = i
      · rw [show j = i.toNat by omega]; exact ne
      · exact hi j (by omega)
    · rw [r_find_at (x := x) (i := i.toNat) (by rw [hg _ (by omega), e]) (fun j hj z => by
        rw [hg j (by omega)] at z
        exact hi j (by omega) (Option.some.inj z)), Int.toNat_of_nonneg k1] at hq
      exact hq
theorem m_isGreat {M : e_M} {Q : Int → Prop} (h : m_ook M) (q1 : (∃ q ∈ m_own M, 1000000 < q.2.2) → Q 1) (q0 : (∀ q ∈ m_own M, q.2.2 ≤ 1000000) → Q 0) : WX12_isGreat M Q := by
  obtain ⟨h0, h14⟩ := id h
  unfold WX12_isGreat VX12_isGreat
  refine s_up (σ := Unit) (P := fun dd i _ => WX12_isGreat_2 M Q dd i) (n := M 4456 87) (i0 := 0) (s := ()) (fun i _ => ∀ j : Nat, (j : Int) < i → M 4519 j ≤ 1000000) h0 (fun j hj => by omega) ?_ ?_
  · intro d2 _ hi
    unfold WX12_isGreat_2 VX12_isGreat_2
    refine ⟨fun _ => q0 (fun q hq => ?_), fun z => by omega⟩
    obtain ⟨j, hj, e⟩ := s_ar_mem.mp hq
    rw [← e]
    exact hi j (by omega)
  · intro d2 i _ k1 k2 hi ih
    unfold WX12_isGreat_2 VX12_isGreat_2
    refine ⟨fun z => by omega, fun _ => ⟨by omega, fun le => ?_, fun gt => q1 ⟨_, List.mem_of_getElem? (m_own_at (M := M) (i := i.toNat) (by omega)), gt⟩⟩⟩
    rw [s_w (by omega) (by omega)]
    refine ih () (fun j hj => ?_)
    by_cases c : (j : Int) = i
    · rw [show j = i.toNat by omega]; exact le
    · exact hi j (by omega)
theorem m_own_set {M N : e_M} {i : Nat} {u v : Int} (hn : N 4456 87 = M 4456 87) (h17 : N 4517 = M 4517) (h18 : ∀ j, N 4518 j = if j = i then u else M 4518 j) (h19 : ∀ j, N 4519 j = if j = i then v else M 4519 j) (hi : (i : Int) < M 4456 87) : m_own N = (m_own M).set i (M 4517 i, u, v) := by
  unfold m_own
  rw [hn]
  refine s_ar_ext (by rw [List.length_set, s_ar_len]) (fun j hj => ?_)
  rw [List.getElem?_set, s_ar_len, h17, h18, h19]
  by_cases e : i = j
  · subst e
    rw [if_pos rfl, if_pos (by omega), if_pos rfl, if_pos rfl]
  · rw [if_neg e, if_neg (fun z => e z.symm), if_neg (fun z => e z.symm), s_ar_get hj]
theorem m_gets {M : e_M} {p t b B C : Int} {Q : e_M → Prop} (h : m_ook M) (h13 : M 4456 87 < 14) (hB : 1 ≤ B) (hob : ∀ q ∈ m_own M, q.1 = p → 0 ≤ q.2.1 ∧ q.2.1 ≤ B ∧ 0 < q.2.2 ∧ q.2.2 ≤ B) (ht : 0 ≤ t ∧ t ≤ C) (hb : 0 < b ∧ b ≤ C) (hBC : 2 * (B * C) < 9223372036854775808) (hlw : s_lw (t, b))
    (hq : ∀ M', m_own M' = o_give (m_own M) p t b → m_ook M' → m_fr M M' → Q M') : WX12_gets p t b M Q := by
  obtain ⟨h0, h14⟩ := id h
  have hl := m_own_len h
  have hlt := o_fd_lt (l := m_own M) (p := p)
  unfold WX12_gets VX12_gets
  refine m_ownAt h ⟨fun ge => ?_, fun lt => ⟨by omega, fun M5 e5 => ?_⟩⟩
  · have hg := m_own_at (M := M) (i := (o_fd (m_own M) p).toNat) (by omega)
    have hm := hob _ (List.mem_of_getElem? hg) (o_fd_at ge hg)
    dsimp only at hm
    have eq_ : o_give (m_own M) p t b = o_add (m_own M) (o_fd (m_own M) p).toNat t b := by unfold o_give; rw [if_pos ge]
    have ea : o_add (m_own M) (o_fd (m_own M) p).toNat t b = (m_own M).set (o_fd (m_own M) p).toNat (M 4517 (o_fd (m_own M) p).toNat, s_red (M 4518 (o_fd (m_own M) p).toNat * b + t * M 4519 (o_fd (m_own M) p).toNat) (M 4519 (o_fd (m_own M) p).toNat * b)) := by unfold o_add; rw [hg]
    rw [eq_, ea] at hq
    generalize o_fd (m_own M) p = r at *
    refine ⟨by omega, by omega, m_plus (B := B) (C := C) (by omega) (by omega) ht hb hBC ⟨by omega, fun M3 e3 => ⟨by omega, fun M4 e4 => ?_⟩⟩⟩
    rw [e_up_ne (by omega), e_up_eq] at e3
    have c39 : M3 4456 39 = (s_red (M 4518 r.toNat * b + t * M 4519 r.toNat) (M 4519 r.toNat * b)).2 := by rw [e3, e_up_row (by omega), e_up_eq]
    rw [c39] at e4
    have n87 : M4 4456 87 = M 4456 87 := by rw [e4, e_up_row (by omega), e3, e_up_row (by omega), e_up_ne (by omega), e_up_ne (by omega)]
    refine hq M4 ?_ (by unfold m_ook; rw [n87]; exact h) ⟨fun x x1 x2 x3 x4 => by rw [e4, e_up_row x4, e3, e_up_row x3, e_up_row x1, e_up_row x1], fun k k1 k2 k3 => by rw [e4, e_up_row (by omega), e3, e_up_row (by omega), e_up_ne (fun z => k2 z.2), e_up_ne (fun z => k1 z.2)]⟩
    refine m_own_set n87 ?_ (fun j => ?_) (fun j => ?_) (by omega)
    · rw [e4, e_up_row (by omega), e3, e_up_row (by omega), e_up_row (by omega), e_up_row (by omega)]
    · rw [e4, e_up_row (by omega), e3, e_up_at, e_up_row (by omega), e_up_row (by omega)]
      rfl
    · rw [e4, e_up_at, e3, e_up_row (by omega), e_up_row (by omega), e_up_row (by omega)]
      rfl
  · have a5 : M5 4456 = M 4456 := by rw [e5, e_up_row (by omega)]
    refine ⟨by rw [a5]; omega, fun M6 e6 => ?_⟩
    have a6 : M6 4456 = M 4456 := by rw [e6, e_up_row (by omega), a5]
    rw [a5] at e6
    refine ⟨by rw [a6]; omega, fun M7 e7 M8 e8 => ?_⟩
    have a7 : M7 4456 = M 4456 := by rw [e7, e_up_row (by omega), a6]
    rw [a6] at e7
    rw [a7, s_w (by omega) (by omega)] at e8
    have n87 : M8 4456 87 = M 4456 87 + 1 := by rw [e8, e_up_eq]
    have k17 : ∀ j, M8 4517 j = if j = (M 4456 87).toNat then p else M 4517 j := fun j => by rw [e8, e_up_row (by omega), e7, e_up_row (by omega), e6, e_up_row (by omega), e5, e_up_at]
    have k18 : ∀ j, M8 4518 j = if j = (M 4456 87).toNat then t else M 4518 j := fun j => by rw [e8, e_up_row (by omega), e7, e_up_row (by omega), e6, e_up_at, e5, e_up_row (by omega)]
    have k19 : ∀ j, M8 4519 j = if j = (M 4456 87).toNat then b else M 4519 j := fun j => by rw [e8, e_up_row (by omega), e7, e_up_at, e6, e_up_row (by omega), e5, e_up_row (by omega)]
    refine hq M8 ?_ (by unfold m_ook; rw [n87]; omega) ⟨fun x x1 x2 x3 x4 => by rw [e8, e_up_row x1, e7, e_up_row x4, e6, e_up_row x3, e5, e_up_row x2], fun k k1 k2 k3 => by rw [e8, e_up_ne (fun z => k3 z.2), a7]⟩
    have eq_ : o_give (m_own M) p t b = m_own M ++ [(p, t, b)] := by
      unfold o_give o_add
      rw [if_neg (by omega), if_neg (by omega), List.getElem?_append_right (Nat.le_refl _), Nat.sub_self]
      show (m_own M ++ [(p, 0, 1)]).set (m_own M).length (p, s_red (0 * b + t * 1) (1 * b)) = _
      rw [Int.zero_mul, Int.zero_add, Int.mul_one, Int.one_mul, s_red_id hb.1 hlw, List.set_append_right _ _ (Nat.le_refl _), Nat.sub_self]
      rfl
    rw [eq_]
    unfold m_own
    rw [n87, s_ar_succ h0]
    congr 1
    · refine s_ar_congr (fun j hj => ?_)
      rw [k17, k18, k19, if_neg (by omega), if_neg (by omega), if_neg (by omega)]
    · rw [k17, k18, k19, if_pos rfl, if_pos rfl, if_pos rfl]
theorem m_gives {M : e_M} {p t b B C : Int} {Q : e_M → Prop} (h : m_ook M) (hob : ∀ q ∈ m_own M, q.1 = p → 0 ≤ q.2.1 ∧ q.2.1 ≤ B ∧ 0 < q.2.2 ∧ q.2.2 ≤ B) (ht : 0 ≤ t ∧ t ≤ C) (hb : 0 < b ∧ b ≤ C) (hBC : 2 * (B * C) < 9223372036854775808) (hh : o_has (m_own M) p t b)
    (hq : ∀ M', m_own M' = o_sub (m_own M) (o_fd (m_own M) p).toNat t b → m_ook M' → m_fr M M' → Q M') : WX12_gives p t b M Q := by
  obtain ⟨h0, h14⟩ := id h
  have hl := m_own_len h
  have hlt := o_fd_lt (l := m_own M) (p := p)
  obtain ⟨q, hg, ge, hle⟩ := hh
  have hg' := m_own_at (M := M) (i := (o_fd (m_own M) p).toNat) (by omega)
  have eqq : q = (M 4517 (o_fd (m_own M) p).toNat, M 4518 (o_fd (m_own M) p).toNat, M 4519 (o_fd (m_own M) p).toNat) := by
    rw [hg'] at hg
    exact (Option.some.inj hg).symm
  have hm := hob _ (List.mem_of_getElem? hg') (o_fd_at ge hg')
  rw [eqq] at hle
  dsimp only at hm hle
  have es : o_sub (m_own M) (o_fd (m_own M) p).toNat t b = if (s_red (M 4518 (o_fd (m_own M) p).toNat * b - t * M 4519 (o_fd (m_own M) p).toNat) (M 4519 (o_fd (m_own M) p).toNat * b)).1 = 0 then (m_own M).eraseIdx (o_fd (m_own M) p).toNat else (m_own M).set (o_fd (m_own M) p).toNat (M 4517 (o_fd (m_own M) p).toNat, s_red (M 4518 (o_fd (m_own M) p).toNat * b - t * M 4519 (o_fd (m_own M) p).toNat) (M 4519 (o_fd (m_own M) p).toNat * b)) := by
    unfold o_sub; rw [hg']
  unfold WX12_gives VX12_gives
  refine m_ownAt h ⟨by omega, by omega, ?_⟩
  rw [es] at hq
  generalize o_fd (m_own M) p = r at *
  refine m_less (B := B) (C := C) (by omega) (by omega) ht hb hBC hle ⟨by omega, fun M3 e3 => ⟨by omega, fun M4 e4 => ?_⟩⟩
  rw [e_up_ne (by omega), e_up_eq] at e3
  have nn : 0 ≤ (s_red (M 4518 r.toNat * b - t * M 4519 r.toNat) (M 4519 r.toNat * b)).1 := s_red_nn (by omega)
  generalize s_red (M 4518 r.toNat * b - t * M 4519 r.toNat) (M 4519 r.toNat * b) = R at *
  have c39 : M3 4456 39 = R.2 := by rw [e3, e_up_row (by omega), e_up_eq]
  rw [c39] at e4
  have c38 : M4 4456 38 = R.1 := by rw [e4, e_up_row (by omega), e3, e_up_row (by omega), e_up_ne (by omega), e_up_eq]
  have n87 : M4 4456 87 = M 4456 87 := by rw [e4, e_up_row (by omega), e3, e_up_row (by omega), e_up_ne (by omega), e_up_ne (by omega)]
  have k17 : M4 4517 = M 4517 := by rw [e4, e_up_row (by omega), e3, e_up_row (by omega), e_up_row (by omega), e_up_row (by omega)]
  have k18 : ∀ j, M4 4518 j = if j = r.toNat then R.1 else M 4518 j := fun j => by rw [e4, e_up_row (by omega), e3, e_up_at, e_up_row (by omega), e_up_row (by omega)]
  have k19 : ∀ j, M4 4519 j = if j = r.toNat then R.2 else M 4519 j := fun j => by rw [e4, e_up_at, e3, e_up_row (by omega), e_up_row (by omega), e_up_row (by omega)]
  have f4 : m_fr M M4 := ⟨fun x x1 x2 x3 x4 => by rw [e4, e_up_row x4, e3, e_up_row x3, e_up_row x1, e_up_row x1], fun k k1 k2 k3 => by rw [e4, e_up_row (by omega), e3, e_up_row (by omega), e_up_ne (fun z => k2 z.2), e_up_ne (fun z => k1 z.2)]⟩
  rw [c38]
  refine ⟨fun le => fun M5 e5 => ?_, fun gt => hq M4 ?_ (by unfold m_ook; rw [n87]; exact h) f4⟩
  · rw [if_pos (show R.1 = 0 by omega)] at hq
    rw [n87, s_w (by omega) (by omega)] at e5
    have a5 : ∀ x, x ≠ 4456 → M5 x = M4 x := fun x hx => by rw [e5, e_up_row hx]
    refine s_up (σ := e_M) (P := fun dd i N => WX12_gives_74 Q dd i N) (n := M 4456 87 - 1) (i0 := r) (s := M5) (fun i N => (∀ x, x ≠ 4517 → x ≠ 4518 → x ≠ 4519 → N x = M5 x) ∧ (∀ j : Nat, N 4517 j = if r ≤ j ∧ (j : Int) < i then M4 4517 (j + 1) else M4 4517 j) ∧ (∀ j : Nat, N 4518 j = if r ≤ j ∧ (j : Int) < i then M4 4518 (j + 1) else M4 4518 j) ∧ ∀ j : Nat, N 4519 j = if r ≤ j ∧ (j : Int) < i then M4 4519 (j + 1) else M4 4519 j) (by omega) ⟨fun _ _ _ _ => rfl, fun j => by rw [if_neg (by omega), a5 4517 (by omega)], fun j => by rw [if_neg (by omega), a5 4518 (by omega)], fun j => by rw [if_neg (by omega), a5 4519 (by omega)]⟩ ?_ ?_
    · intro d2 N ⟨n1, n17, n18, n19⟩
      have q87 : N 4456 87 = M 4456 87 - 1 := by rw [n1 4456 (by omega) (by omega) (by omega), e5, e_up_eq]
      unfold WX12_gives_74 VX12_gives_74
      rw [q87]
      refine ⟨fun _ => hq N ?_ (by unfold m_ook; rw [q87]; omega) (m_fr_trans f4 ⟨fun x x1 x2 x3 x4 => by rw [n1 x x2 x3 x4, a5 x x1], fun k k1 k2 k3 => by rw [n1 4456 (by omega) (by omega) (by omega), e5, e_up_ne (fun z => k3 z.2)]⟩), fun z => by omega⟩
      unfold m_own
      rw [q87]
      refine s_ar_ext (by rw [List.length_eraseIdx, s_ar_len, if_pos (by omega)]; omega) (fun j hj => ?_)
      rw [List.getElem?_eraseIdx, n17, n18, n19]
      by_cases cc : j < r.toNat
      · rw [if_pos cc, s_ar_get (by omega), if_neg (by omega), if_neg (by omega), if_neg (by omega), k17, k18, k19, if_neg (by omega), if_neg (by omega)]
      · rw [if_neg cc, s_ar_get (by omega), if_pos (by omega), if_pos (by omega), if_pos (by omega), k17, k18, k19, if_neg (by omega), if_neg (by omega)]
    · intro d2 i N k1 k2 ⟨n1, n17, n18, n19⟩ ih
      have q87 : N 4456 87 = M 4456 87 - 1 := by rw [n1 4456 (by omega) (by omega) (by omega), e5, e_up_eq]
      unfold WX12_gives_74 VX12_gives_74
      rw [q87, s_w (x := i + 1) (by omega) (by omega), show (i + 1).toNat = i.toNat + 1 by omega]
      refine ⟨fun z => by omega, fun _ => ⟨by omega, by omega, fun A1 b1 => ⟨by omega, by omega, fun A2 b2 => ⟨by omega, by omega, fun A3 b3 => ?_⟩⟩⟩⟩
      rw [b1, e_up_row (show 4518 ≠ 4517 by omega)] at b2
      rw [b2, e_up_row (show 4519 ≠ 4518 by omega), e_up_row (show 4519 ≠ 4517 by omega)] at b3
      have stp : ∀ (f g : Nat → Int), (∀ j : Nat, f j = if r ≤ j ∧ (j : Int) < i then g (j + 1) else g j) → ∀ j : Nat, (if j = i.toNat then f (i.toNat + 1) else f j) = if r ≤ j ∧ (j : Int) < i + 1 then g (j + 1) else g j := by
        intro f g hf j
        by_cases c1 : j = i.toNat
        · rw [if_pos c1, hf, if_neg (by omega), if_pos (by omega), c1]
        · rw [if_neg c1, hf]
          by_cases c2 : r ≤ j ∧ (j : Int) < i
          · rw [if_pos c2, if_pos (by omega)]
          · rw [if_neg c2, if_neg (by omega)]
      refine ih A3 ⟨fun x x1 x2 x3 => by rw [b3, e_up_row x3, e_up_row x2, e_up_row x1, n1 x x1 x2 x3], fun j => ?_, fun j => ?_, fun j => ?_⟩
      · rw [b3, e_up_row (by omega), e_up_row (by omega), e_up_at]
        exact stp (N 4517) (M4 4517) n17 j
      · rw [b3, e_up_row (by omega), e_up_at, e_up_row (by omega)]
        exact stp (N 4518) (M4 4518) n18 j
      · rw [b3, e_up_at, e_up_row (by omega), e_up_row (by omega)]
        exact stp (N 4519) (M4 4519) n19 j
  · rw [if_neg (show ¬ R.1 = 0 by omega)]
    exact m_own_set n87 k17 k18 k19 (by omega)
