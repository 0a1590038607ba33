/-! the class's Lot: OWNERS with their shares -/
abbrev s_Own : Type := List (Int × Int × Int)
def s_own (M : e_M) (a : Nat) : s_Own := s_ar (fun k => (M (a + 6) k, M (a + 7) k, M (a + 8) k)) (M a 8)
def s_ook (M : e_M) (a : Nat) : Prop := 0 ≤ M a 8 ∧ M a 8 ≤ 14
def o_fd (l : s_Own) (p : Int) : Int := r_find (l.map (fun q => q.1)) p
theorem o_fd_lt {l : s_Own} {p : Int} : o_fd l p < l.length := by
  have := r_find_lt (l := l.map (fun q => q.1)) (x := p)
  rw [List.length_map] at this
  exact this
theorem s_own_len {M : e_M} {a : Nat} (h : s_ook M a) : ((s_own M a).length : Int) = M a 8 := by unfold s_own; rw [s_ar_len]; have := h.1; omega
theorem s_own_at {M : e_M} {a i : Nat} (h : (i : Int) < M a 8) : (s_own M a)[i]? = some (M (a + 6) i, M (a + 7) i, M (a + 8) i) := s_ar_get (f := fun k => (M (a + 6) k, M (a + 7) k, M (a + 8) k)) (by omega)
theorem s_own_fst {M : e_M} {a : Nat} : (s_own M a).map (fun q => q.1) = s_ar (M (a + 6)) (M a 8) := s_ar_map
theorem s_own_congr {M M' : e_M} {a : Nat} (h1 : M' a 8 = M a 8) (h2 : M' (a + 6) = M (a + 6)) (h3 : M' (a + 7) = M (a + 7)) (h4 : M' (a + 8) = M (a + 8)) : s_own M' a = s_own M a := by unfold s_own; rw [h1, h2, h3, h4]
theorem c_placeOf {M : e_M} {a : Nat} {x : Int} {Q : Int → Prop} (h : s_ook M a) (hq : Q (o_fd (s_own M a) x)) : WX4_placeOf a x M Q := by
  obtain ⟨h0, h8⟩ := h
  unfold o_fd at hq
  rw [s_own_fst] at hq
  have key : ∀ (d : Nat) (i : Int), 0 ≤ i → i ≤ M a 8 → M a 8 - i = d → (∀ j : Nat, (j : Int) < i → M (a + 6) j ≠ x) → WX4_placeOf_2 M Q (d + 1) a x i := by
    intro d
    induction d with
    | zero =>
      intro i h1 h2 h3 h4
      refine ⟨fun _ => ?_, fun h => by omega⟩
      rw [r_find_no (x := x) (fun e => by
        obtain ⟨j, hj, e⟩ := s_ar_mem.mp e
        exact h4 j (by omega) e)] at hq
      exact hq
    | succ d ih =>
      intro i h1 h2 h3 h4
      refine ⟨fun h => by omega, fun h => ⟨⟨h1, by omega⟩, fun hne => ?_, fun he => ?_⟩⟩
      · rw [s_w (by omega) (by omega)]
        refine ih (i + 1) (by omega) (by omega) (by omega) (fun j hj => ?_)
        by_cases e : (j : Int) = i
        · rw [show j = i.toNat by omega]; exact hne
        · exact h4 j (by omega)
      · rw [r_find_at (x := x) (i := i.toNat) (by rw [← he]; exact s_ar_get (by omega)) (fun j hj e => by
          have hg := s_ar_get (f := M (a + 6)) (n := M a 8) (i := j) (by omega)
          exact h4 j (by omega) (Option.some.inj (hg.symm.trans e))), Int.toNat_of_nonneg h1] at hq
        exact hq
  exact ⟨(M a 8).toNat + 1, key (M a 8).toNat 0 (by omega) (by omega) (by omega) (fun j hj => by omega)⟩
theorem c_copyOwners {M : e_M} {a b : Nat} {Q : e_M → Prop} (hab : ¬ (b ≤ a + 8 ∧ a ≤ b + 8)) (h : s_ook M b) (hq : ∀ M', s_own M' a = s_own M b → s_ook M' a → (∀ k, k ≠ 8 → M' a k = M a k) → (∀ c, c ≠ a → c ≠ a + 6 → c ≠ a + 7 → c ≠ a + 8 → M' c = M c) → Q M') : WX4_copyOwners a b M Q := by
  intro M1 e1
  obtain ⟨h0, h8⟩ := id h
  have b1 : M1 b = M b := by rw [e1, e_up_row (by omega)]
  have a8 : M1 a 8 = M b 8 := by rw [e1, e_up_eq]
  have key : ∀ (d : Nat) (i : Int) (N : e_M), 0 ≤ i → i ≤ M b 8 → M b 8 - i = d → (∀ c, c ≠ a + 6 → c ≠ a + 7 → c ≠ a + 8 → N c = M1 c) → (∀ j : Nat, (j : Int) < i → N (a + 6) j = M (b + 6) j ∧ N (a + 7) j = M (b + 7) j ∧ N (a + 8) j = M (b + 8) j) → WX4_copyOwners_10 Q (d + 1) a b i N := by
    intro d
    induction d with
    | zero =>
      intro i N h1 h2 h3 h4 h5
      have ea : N a = M1 a := h4 a (by omega) (by omega) (by omega)
      refine ⟨fun _ => hq N ?_ ⟨by rw [ea, a8]; exact h0, by rw [ea, a8]; exact h8⟩ (fun k hk => by rw [ea, e1, e_up_ne (fun z => hk z.2)]) (fun c hc h6 h7 h8 => by rw [h4 c h6 h7 h8, e1, e_up_row hc]), fun h => by rw [ea, a8] at h; omega⟩
      unfold s_own
      rw [ea, a8]
      refine s_ar_congr (fun j hj => ?_)
      obtain ⟨q1, q2, q3⟩ := h5 j (by omega)
      rw [q1, q2, q3]
    | succ d ih =>
      intro i N h1 h2 h3 h4 h5
      have ea : N a = M1 a := h4 a (by omega) (by omega) (by omega)
      have e6 : N (b + 6) = M (b + 6) := by rw [h4 (b + 6) (by omega) (by omega) (by omega), e1, e_up_row (by omega)]
      have e7 : N (b + 7) = M (b + 7) := by rw [h4 (b + 7) (by omega) (by omega) (by omega), e1, e_up_row (by omega)]
      have e8 : N (b + 8) = M (b + 8) := by rw [h4 (b + 8) (by omega) (by omega) (by omega), e1, e_up_row (by omega)]
      have hi : 0 ≤ i ∧ i < 14 := ⟨by omega, by omega⟩
      refine ⟨fun h => by rw [ea, a8] at h; omega, fun h => ⟨hi, hi, fun M1' q1 => ⟨hi, hi, fun M2 q2 => ⟨hi, hi, fun M3 q3 => ?_⟩⟩⟩⟩
      rw [s_w (by omega) (by omega)]
      refine ih (i + 1) M3 (by omega) (by omega) (by omega) (fun c c6 c7 c8 => by rw [q3, e_up_row c8, q2, e_up_row c7, q1, e_up_row c6, h4 c c6 c7 c8]) (fun j hj => ?_)
      have k6 : M3 (a + 6) j = if j = i.toNat then M (b + 6) i.toNat else N (a + 6) j := by rw [q3, e_up_row (by omega), q2, e_up_row (by omega), q1, e_up_at, e6]
      have k7 : M3 (a + 7) j = if j = i.toNat then M (b + 7) i.toNat else N (a + 7) j := by rw [q3, e_up_row (by omega), q2, e_up_at, q1, e_up_row (by omega), e_up_row (by omega), e7]
      have k8 : M3 (a + 8) j = if j = i.toNat then M (b + 8) i.toNat else N (a + 8) j := by rw [q3, e_up_at, q2, e_up_row (by omega), e_up_row (by omega), q1, e_up_row (by omega), e_up_row (by omega), e8]
      rw [k6, k7, k8]
      by_cases e : j = i.toNat
      · rw [if_pos e, if_pos e, if_pos e, e]; exact ⟨rfl, rfl, rfl⟩
      · rw [if_neg e, if_neg e, if_neg e]; exact h5 j (by omega)
  exact ⟨(M b 8).toNat + 1, key (M b 8).toNat 0 M1 (by omega) (by omega) (by omega) (fun _ _ _ _ => rfl) (fun j hj => by omega)⟩
/-- a share in lowest terms -/
def s_red (t b : Int) : Int × Int := (t / s_gcd t b, b / s_gcd t b)
theorem s_div_le {x g : Int} (hx : 0 ≤ x) (hg : 0 < g) : 0 ≤ x / g ∧ x / g ≤ x := ⟨Int.ediv_nonneg hx (by omega), Int.ediv_le_self g hx⟩
theorem c_put {M : e_M} {a : Nat} {i t b : Int} {Q : e_M → Prop} (hi : 0 ≤ i ∧ i < 14) (ht : 0 ≤ t) (ht2 : t < 9223372036854775808) (hb : 0 ≤ b) (hb2 : b < 9223372036854775808) (hq : Q (e_up (e_up M (a + 7) i.toNat (s_red t b).1) (a + 8) i.toNat (s_red t b).2)) : WX4_put a i t b M Q := by
  refine c_gcd ht hb ht2 hb2 ?_
  have hg := s_gcd_pos (a := t) (b := b)
  have h1 := s_div_le ht hg
  have h2 := s_div_le hb hg
  have e1 : e_w64 (t.tdiv (s_gcd t b)) = (s_red t b).1 := by rw [Int.tdiv_eq_ediv_of_nonneg ht, s_wj (by omega) (by omega)]; rfl
  have e2 : e_w64 (b.tdiv (s_gcd t b)) = (s_red t b).2 := by rw [Int.tdiv_eq_ediv_of_nonneg hb, s_wj (by omega) (by omega)]; rfl
  refine ⟨by omega, hi, fun M2 q2 => ⟨by omega, hi, fun M3 q3 => ?_⟩⟩
  rw [q3, q2, e1, e2]
  exact hq
/-- shares are no greater than 1, their denominators than B -/
def s_ob (B : Int) (l : s_Own) : Prop := ∀ q ∈ l, 0 ≤ q.2.1 ∧ q.2.1 ≤ q.2.2 ∧ 0 < q.2.2 ∧ q.2.2 ≤ B
theorem s_ob_up {B B' : Int} {l : s_Own} (h : B ≤ B') (hl : s_ob B l) : s_ob B' l := fun q hq => by have := hl q hq; exact ⟨this.1, this.2.1, this.2.2.1, by omega⟩
theorem s_ob_at {B : Int} {M : e_M} {a i : Nat} (h : s_ob B (s_own M a)) (hi : (i : Int) < M a 8) : 0 ≤ M (a + 7) i ∧ M (a + 7) i ≤ M (a + 8) i ∧ 0 < M (a + 8) i ∧ M (a + 8) i ≤ B := h _ (List.mem_of_getElem? (s_own_at hi))
/-- a share more for one: of the i-th -/
def o_add (l : s_Own) (i : Nat) (t b : Int) : s_Own := match l[i]? with
  | some q => l.set i (q.1, s_red (q.2.1 * b + t * q.2.2) (q.2.2 * b))
  | none => l
def o_give (l : s_Own) (p t b : Int) : s_Own := if 0 ≤ o_fd l p then o_add l (o_fd l p).toNat t b else if 14 ≤ l.length then l else o_add (l ++ [(p, 0, 1)]) l.length t b
theorem s_mulB {x y X Y : Int} (h1 : 0 ≤ x) (h2 : x ≤ X) (h3 : 0 ≤ y) (h4 : y ≤ Y) : 0 ≤ x * y ∧ x * y ≤ X * Y := ⟨Int.mul_nonneg h1 h3, Int.mul_le_mul h2 h4 h3 (by omega)⟩
theorem c_give65 {M : e_M} {a : Nat} {i t b B C : Int} {Q : e_M → Prop} (h : s_ook M a) (hi : 0 ≤ i ∧ i < M a 8) (hob : s_ob B (s_own M a)) (ht : 0 ≤ t) (htb : t ≤ C) (hb : 0 < b) (hbc : b ≤ C) (hBC : 2 * (B * C) < 9223372036854775808)
    (hq : ∀ M', s_own M' a = o_add (s_own M a) i.toNat t b → s_ook M' a → M' a = M a → (∀ c, c ≠ a → c ≠ a + 6 → c ≠ a + 7 → c ≠ a + 8 → M' c = M c) → Q M') : WX4_give_65 Q a t b i M := by
  obtain ⟨h0, h8⟩ := id h
  have hi2 : 0 ≤ i ∧ i < 14 := ⟨hi.1, by omega⟩
  obtain ⟨k1, k2, k3, k4⟩ := s_ob_at (i := i.toNat) hob (by omega)
  have m1 := s_mulB k1 (show M (a + 7) i.toNat ≤ B by omega) (show 0 ≤ b by omega) hbc
  have m2 := s_mulB ht htb (show 0 ≤ M (a + 8) i.toNat by omega) k4
  have m3 := s_mulB (show 0 ≤ M (a + 8) i.toNat by omega) k4 (show 0 ≤ b by omega) hbc
  rw [Int.mul_comm C B] at m2
  refine ⟨hi2, hi2, hi2, ?_⟩
  rw [s_wj (x := M (a + 7) i.toNat * b) (by omega) (by omega), s_wj (x := t * M (a + 8) i.toNat) (by omega) (by omega), s_wj (x := M (a + 8) i.toNat * b) (by omega) (by omega), s_wj (by omega) (by omega)]
  refine c_put hi2 (by omega) (by omega) (by omega) (by omega) (hq _ ?_ ?_ (by rw [e_up_row (by omega), e_up_row (by omega)]) (fun c hc h6 h7 h8 => by rw [e_up_row h8, e_up_row h7]))
  · unfold o_add
    rw [s_own_at (by omega)]
    have ea : (e_up (e_up M (a + 7) i.toNat (s_red (M (a + 7) i.toNat * b + t * M (a + 8) i.toNat) (M (a + 8) i.toNat * b)).1) (a + 8) i.toNat (s_red (M (a + 7) i.toNat * b + t * M (a + 8) i.toNat) (M (a + 8) i.toNat * b)).2) a = M a := by rw [e_up_row (by omega), e_up_row (by omega)]
    unfold s_own
    rw [ea]
    refine s_ar_ext (by rw [List.length_set, s_ar_len]) (fun j hj => ?_)
    rw [List.getElem?_set, s_ar_len]
    by_cases e : i.toNat = j
    · subst e
      rw [if_pos rfl, if_pos (by omega), e_up_row (a := a + 8) (b := a + 6) (by omega), e_up_row (a := a + 7) (b := a + 6) (by omega), e_up_row (a := a + 8) (b := a + 7) (by omega), e_up_eq, e_up_eq]
    · rw [if_neg e, s_ar_get hj, e_up_row (a := a + 8) (b := a + 6) (by omega), e_up_row (a := a + 7) (b := a + 6) (by omega), e_up_row (a := a + 8) (b := a + 7) (by omega), e_up_ne (fun z => e z.2.symm), e_up_ne (fun z => e z.2.symm), e_up_row (by omega)]
  · unfold s_ook
    rw [e_up_row (by omega), e_up_row (by omega)]
    exact h
theorem c_give {M : e_M} {a : Nat} {p t b B C : Int} {Q : e_M → Prop} (h : s_ook M a) (hB : 1 ≤ B) (hob : s_ob B (s_own M a)) (ht : 0 ≤ t) (htb : t ≤ C) (hb : 0 < b) (hbc : b ≤ C) (hBC : 2 * (B * C) < 9223372036854775808)
    (hq : ∀ M', s_own M' a = o_give (s_own M a) p t b → s_ook M' a → (∀ k, k ≠ 8 → M' a k = M a k) → (∀ c, c ≠ a → c ≠ a + 6 → c ≠ a + 7 → c ≠ a + 8 → M' c = M c) → Q M') : WX4_give a p t b M Q := by
  obtain ⟨h0, h8⟩ := id h
  have hl := s_own_len h
  have hlt := o_fd_lt (l := s_own M a) (p := p)
  refine c_placeOf h ⟨fun e => ?_, fun e => ⟨fun e14 => ?_, fun e14 => hq M ?_ h (fun _ _ => rfl) (fun _ _ _ _ _ => rfl)⟩⟩
  · refine c_give65 h ⟨e, by omega⟩ hob ht htb hb hbc hBC (fun M' q1 q2 q3 q4 => hq M' ?_ q2 (fun k _ => by rw [q3]) q4)
    unfold o_give
    rw [if_pos e]; exact q1
  · intro M2 q2
    have hi : 0 ≤ M a 8 ∧ M a 8 < 14 := ⟨h0, e14⟩
    refine ⟨hi, fun M3 q3 => ⟨hi, fun M4 q4 => ⟨hi, fun M5 q5 => ?_⟩⟩⟩
    rw [s_w (by omega) (by omega)] at q2
    have a5 : ∀ k, k ≠ 8 → M5 a k = M a k := fun k hk => by rw [q5, e_up_row (by omega), q4, e_up_row (by omega), q3, e_up_row (by omega), q2, e_up_ne (fun z => hk z.2)]
    have a58 : M5 a 8 = M a 8 + 1 := by rw [q5, e_up_row (by omega), q4, e_up_row (by omega), q3, e_up_row (by omega), q2, e_up_eq]
    have f5 : ∀ c, c ≠ a → c ≠ a + 6 → c ≠ a + 7 → c ≠ a + 8 → M5 c = M c := fun c c0 c6 c7 c8 => by rw [q5, e_up_row c8, q4, e_up_row c7, q3, e_up_row c6, q2, e_up_row c0]
    have o5 : s_own M5 a = s_own M a ++ [(p, 0, 1)] := by
      unfold s_own
      rw [a58, s_ar_succ h0]
      have k6 : ∀ j, M5 (a + 6) j = if j = (M a 8).toNat then p else M (a + 6) j := fun j => by rw [q5, e_up_row (by omega), q4, e_up_row (by omega), q3, e_up_at, q2, e_up_row (by omega)]
      have k7 : ∀ j, M5 (a + 7) j = if j = (M a 8).toNat then 0 else M (a + 7) j := fun j => by rw [q5, e_up_row (by omega), q4, e_up_at, q3, e_up_row (by omega), q2, e_up_row (by omega)]
      have k8 : ∀ j, M5 (a + 8) j = if j = (M a 8).toNat then 1 else M (a + 8) j := fun j => by rw [q5, e_up_at, q4, e_up_row (by omega), q3, e_up_row (by omega), q2, e_up_row (by omega)]
      congr 1
      · refine s_ar_congr (fun j hj => ?_)
        rw [k6, k7, k8, if_neg (by omega), if_neg (by omega), if_neg (by omega)]
      · rw [k6, k7, k8, if_pos rfl, if_pos rfl, if_pos rfl]
    have hk : s_ook M5 a := ⟨by omega, by omega⟩
    have hob5 : s_ob B (s_own M5 a) := by
      rw [o5]
      intro q hq
      rcases List.mem_append.mp hq with hq | hq
      · exact hob q hq
      · rw [List.mem_singleton.mp hq]; exact ⟨by show (0 : Int) ≤ 0; omega, by show (0 : Int) ≤ 1; omega, by show (0 : Int) < 1; omega, by show 1 ≤ B; omega⟩
    refine c_give65 hk ⟨h0, by omega⟩ hob5 ht htb hb hbc hBC (fun M' r1 r2 r3 r4 => hq M' ?_ r2 (fun k hk => by rw [r3]; exact a5 k hk) (fun c c0 c6 c7 c8 => by rw [r4 c c0 c6 c7 c8]; exact f5 c c0 c6 c7 c8))
    unfold o_give
    rw [if_neg (by omega), if_neg (by omega), r1, o5, show (M a 8).toNat = (s_own M a).length by omega]
  · unfold o_give
    rw [if_neg (by omega), if_pos (by omega)]
theorem c_own {M : e_M} {a : Nat} {p : Int} {Q : e_M → Prop} (hq : ∀ M', s_own M' a = [(p, 1, 1)] → s_ook M' a → (∀ k, k ≠ 8 → M' a k = M a k) → (∀ c, c ≠ a → c ≠ a + 6 → c ≠ a + 7 → c ≠ a + 8 → M' c = M c) → Q M') : WX4_own a p M Q := by
  intro M1 q1
  have a8 : M1 a 8 = 0 := by rw [q1, e_up_eq]
  have o1 : s_own M1 a = [] := by unfold s_own; rw [a8]; rfl
  refine c_give (B := 1) (C := 1) ⟨by omega, by omega⟩ (by decide) (by rw [o1]; intro q hq; cases hq) (by decide) (by decide) (by decide) (by decide) (by decide) (fun M' r1 r2 r3 r4 => hq M' ?_ r2 (fun k hk => by rw [r3 k hk, q1, e_up_ne (fun z => hk z.2)]) (fun c c0 c6 c7 c8 => by rw [r4 c c0 c6 c7 c8, q1, e_up_row c0]))
  rw [r1, o1]
  show [(p, s_red (0 * 1 + 1 * 1) (1 * 1))] = _
  rw [show s_red (0 * 1 + 1 * 1) (1 * 1) = (1, 1) from by decide +kernel]
/-- a share less for one: of the i-th; who has nothing left is none -/
def o_sub (l : s_Own) (i : Nat) (t b : Int) : s_Own := match l[i]? with
  | some q => if (s_red (q.2.1 * b - t * q.2.2) (q.2.2 * b)).1 = 0 then l.eraseIdx i else l.set i (q.1, s_red (q.2.1 * b - t * q.2.2) (q.2.2 * b))
  | none => l
def o_has (l : s_Own) (p t b : Int) : Prop := ∃ q, l[(o_fd l p).toNat]? = some q ∧ 0 ≤ o_fd l p ∧ t * q.2.2 ≤ q.2.1 * b
theorem c_takeOff {M : e_M} {a : Nat} {p t b B C : Int} {Q : Int → e_M → Prop} (h : s_ook M a) (hob : s_ob B (s_own M a)) (ht : 0 ≤ t) (htb : t ≤ C) (hb : 0 < b) (hbc : b ≤ C) (hBC : 2 * (B * C) < 9223372036854775808)
    (h0 : ¬ o_has (s_own M a) p t b → Q 0 M)
    (h1 : o_has (s_own M a) p t b → ∀ M', s_own M' a = o_sub (s_own M a) (o_fd (s_own M a) p).toNat t b → s_ook M' a → (∀ k, k ≠ 8 → M' a k = M a k) → (∀ c, c ≠ a → c ≠ a + 6 → c ≠ a + 7 → c ≠ a + 8 → M' c = M c) → Q 1 M') : WX4_takeOff a p t b M Q := by
  obtain ⟨g0, g8⟩ := id h
  have hl := s_own_len h
  have hlt := o_fd_lt (l := s_own M a) (p := p)
  refine c_placeOf h ⟨fun e => h0 (fun ⟨q, _, e2, _⟩ => by omega), fun e => ?_⟩
  generalize hr : o_fd (s_own M a) p = r at *
  have hi : 0 ≤ r ∧ r < 14 := ⟨e, by omega⟩
  obtain ⟨k1, k2, k3, k4⟩ := s_ob_at (i := r.toNat) hob (by omega)
  have m1 := s_mulB k1 (show M (a + 7) r.toNat ≤ B by omega) (show 0 ≤ b by omega) hbc
  have m2 := s_mulB ht htb (show 0 ≤ M (a + 8) r.toNat by omega) k4
  have m3 := s_mulB (show 0 ≤ M (a + 8) r.toNat by omega) k4 (show 0 ≤ b by omega) hbc
  rw [Int.mul_comm C B] at m2
  have hq := s_own_at (M := M) (a := a) (i := r.toNat) (by omega)
  have w1 : e_w64 (M (a + 7) r.toNat * b) = M (a + 7) r.toNat * b := s_wj (by omega) (by omega)
  have w2 : e_w64 (t * M (a + 8) r.toNat) = t * M (a + 8) r.toNat := s_wj (by omega) (by omega)
  have w3 : e_w64 (M (a + 8) r.toNat * b) = M (a + 8) r.toNat * b := s_wj (by omega) (by omega)
  refine ⟨hi, hi, ?_⟩
  rw [w1, w2, w3]
  refine ⟨fun le => ?_, fun lt => h0 (fun ⟨q, e1, _, e3⟩ => by
    rw [hr, hq] at e1
    obtain rfl := Option.some.inj e1
    dsimp only at e3
    omega)⟩
  have hhas : o_has (s_own M a) p t b := ⟨_, by rw [hr]; exact hq, by rw [hr]; exact e, le⟩
  refine ⟨hi, hi, hi, ?_⟩
  rw [s_wj (x := M (a + 7) r.toNat * b - t * M (a + 8) r.toNat) (by omega) (by omega)]
  refine c_put hi (by omega) (by omega) (by omega) (by omega) ?_
  generalize hv : s_red (M (a + 7) r.toNat * b - t * M (a + 8) r.toNat) (M (a + 8) r.toNat * b) = v
  generalize hN : e_up (e_up M (a + 7) r.toNat v.1) (a + 8) r.toNat v.2 = N
  have n7 : ∀ j, N (a + 7) j = if j = r.toNat then v.1 else M (a + 7) j := fun j => by rw [← hN, e_up_row (by omega), e_up_at]
  have n8 : ∀ j, N (a + 8) j = if j = r.toNat then v.2 else M (a + 8) j := fun j => by rw [← hN, e_up_at, e_up_row (by omega)]
  have nf : ∀ c, c ≠ a + 7 → c ≠ a + 8 → N c = M c := fun c c7 c8 => by rw [← hN, e_up_row c8, e_up_row c7]
  have na : N a = M a := nf a (by omega) (by omega)
  have n6 : N (a + 6) = M (a + 6) := nf (a + 6) (by omega) (by omega)
  have osub : o_sub (s_own M a) r.toNat t b = if v.1 = 0 then (s_own M a).eraseIdx r.toNat else (s_own M a).set r.toNat (M (a + 6) r.toNat, v) := by
    unfold o_sub
    rw [hq, ← hv]
  refine ⟨hi, fun ne => ?_, fun ez M3 q3 => ?_⟩
  · rw [n7, if_pos rfl] at ne
    refine h1 hhas N ?_ ⟨by rw [na]; exact g0, by rw [na]; exact g8⟩ (fun k _ => by rw [na]) (fun c _ _ c7 c8 => nf c c7 c8)
    rw [osub, if_neg ne]
    unfold s_own
    rw [na]
    refine s_ar_ext (by rw [List.length_set, s_ar_len]) (fun j hj => ?_)
    rw [List.getElem?_set, s_ar_len, n6, n7, n8]
    by_cases ej : r.toNat = j
    · subst ej; rw [if_pos rfl, if_pos (by omega), if_pos rfl, if_pos rfl]
    · rw [if_neg ej, s_ar_get hj, if_neg (fun z => ej z.symm), if_neg (fun z => ej z.symm)]
  · rw [n7, if_pos rfl] at ez
    have a38 : M3 a 8 = M a 8 - 1 := by rw [q3, e_up_eq, na, s_w (by omega) (by omega)]
    have a3 : ∀ k, k ≠ 8 → M3 a k = M a k := fun k hk => by rw [q3, e_up_ne (fun z => hk z.2), na]
    have m6 : M3 (a + 6) = M (a + 6) := by rw [q3, e_up_row (by omega), n6]
    have m7 : ∀ j, j ≠ r.toNat → M3 (a + 7) j = M (a + 7) j := fun j hj => by rw [q3, e_up_row (by omega), n7, if_neg hj]
    have m8 : ∀ j, j ≠ r.toNat → M3 (a + 8) j = M (a + 8) j := fun j hj => by rw [q3, e_up_row (by omega), n8, if_neg hj]
    have mf : ∀ c, c ≠ a → c ≠ a + 7 → c ≠ a + 8 → M3 c = M c := fun c c0 c7 c8 => by rw [q3, e_up_row c0, nf c c7 c8]
    have key : ∀ (d : Nat) (i : Int) (L : e_M), r ≤ i → i ≤ M a 8 - 1 → M a 8 - 1 - i = d → (∀ c, c ≠ a + 6 → c ≠ a + 7 → c ≠ a + 8 → L c = M3 c) →
        (∀ j : Nat, j ≠ r.toNat ∨ r < i → L (a + 6) j = (if r ≤ j ∧ (j : Int) < i then M (a + 6) (j + 1) else M (a + 6) j) ∧ L (a + 7) j = (if r ≤ j ∧ (j : Int) < i then M (a + 7) (j + 1) else M (a + 7) j) ∧ L (a + 8) j = (if r ≤ j ∧ (j : Int) < i then M (a + 8) (j + 1) else M (a + 8) j)) → WX4_takeOff_99 Q (d + 1) a i L := by
      intro d
      induction d with
      | zero =>
        intro i L i1 i2 i3 i4 i5
        have ea : L a = M3 a := i4 a (by omega) (by omega) (by omega)
        refine ⟨fun _ => h1 hhas L ?_ ⟨by rw [ea]; omega, by rw [ea]; omega⟩ (fun k hk => by rw [ea]; exact a3 k hk) (fun c c0 c6 c7 c8 => by rw [i4 c c6 c7 c8]; exact mf c c0 c7 c8), fun z => by rw [ea] at z; omega⟩
        rw [osub, if_pos ez]
        unfold s_own
        rw [ea, a38]
        refine s_ar_ext (by rw [List.length_eraseIdx, s_ar_len, if_pos (by omega)]; omega) (fun j hj => ?_)
        obtain ⟨u6, u7, u8⟩ := i5 j (by omega)
        rw [List.getElem?_eraseIdx, u6, u7, u8]
        by_cases c : j < r.toNat
        · rw [if_pos c, s_ar_get (by omega), if_neg (by omega), if_neg (by omega), if_neg (by omega)]
        · rw [if_neg c, s_ar_get (by omega), if_pos ⟨by omega, by omega⟩, if_pos ⟨by omega, by omega⟩, if_pos ⟨by omega, by omega⟩]
      | succ d ih =>
        intro i L i1 i2 i3 i4 i5
        have ea : L a = M3 a := i4 a (by omega) (by omega) (by omega)
        refine ⟨fun z => by rw [ea] at z; omega, fun z => ?_⟩
        rw [s_w (x := i + 1) (by omega) (by omega)]
        have w : (0 ≤ i + 1 ∧ i + 1 < 14) ∧ 0 ≤ i ∧ i < 14 := ⟨⟨by omega, by omega⟩, by omega, by omega⟩
        refine ⟨w.1, w.2, fun L1 p1 => ⟨w.1, w.2, fun L2 p2 => ⟨w.1, w.2, fun L3 p3 => ih (i + 1) L3 (by omega) (by omega) (by omega) (fun c c6 c7 c8 => by rw [p3, e_up_row c8, p2, e_up_row c7, p1, e_up_row c6, i4 c c6 c7 c8]) (fun j hj => ?_)⟩⟩⟩
        have l6 : L3 (a + 6) j = if j = i.toNat then L (a + 6) (i + 1).toNat else L (a + 6) j := by rw [p3, e_up_row (by omega), p2, e_up_row (by omega), p1, e_up_at]
        have l7 : L3 (a + 7) j = if j = i.toNat then L (a + 7) (i + 1).toNat else L (a + 7) j := by rw [p3, e_up_row (by omega), p2, e_up_at, p1, e_up_row (by omega)]
        have l8 : L3 (a + 8) j = if j = i.toNat then L (a + 8) (i + 1).toNat else L (a + 8) j := by rw [p3, e_up_at, p2, e_up_row (by omega), p1, e_up_row (by omega)]
        obtain ⟨v6, v7, v8⟩ := i5 (i + 1).toNat (Or.inl (by omega))
        rw [if_neg (by omega)] at v6 v7 v8
        rw [l6, l7, l8]
        by_cases c1 : j = i.toNat
        · rw [if_pos c1, if_pos c1, if_pos c1, if_pos ⟨by omega, by omega⟩, if_pos ⟨by omega, by omega⟩, if_pos ⟨by omega, by omega⟩, v6, v7, v8, show (i + 1).toNat = j + 1 by omega]
          exact ⟨rfl, rfl, rfl⟩
        · rw [if_neg c1, if_neg c1, if_neg c1]
          by_cases c2 : r ≤ j ∧ (j : Int) < i
          · obtain ⟨u6, u7, u8⟩ := i5 j (by omega)
            rw [if_pos c2] at u6 u7 u8
            rw [if_pos ⟨by omega, by omega⟩, if_pos ⟨by omega, by omega⟩, if_pos ⟨by omega, by omega⟩]
            exact ⟨u6, u7, u8⟩
          · obtain ⟨u6, u7, u8⟩ := i5 j (by omega)
            rw [if_neg c2] at u6 u7 u8
            rw [if_neg (by omega), if_neg (by omega), if_neg (by omega)]
            exact ⟨u6, u7, u8⟩
    exact ⟨(M a 8 - 1 - r).toNat + 1, key (M a 8 - 1 - r).toNat r M3 (by omega) (by omega) (by omega) (fun _ _ _ _ => rfl) (fun j hj => by
      rw [if_neg (by omega), if_neg (by omega), if_neg (by omega), m6]
      rcases hj with hj | hj
      · exact ⟨rfl, m7 j hj, m8 j hj⟩
      · omega)⟩
theorem c_isTooFine {M : e_M} {a : Nat} {Q : Int → Prop} (h : s_ook M a) (h1 : (∃ q ∈ s_own M a, 1000000 < q.2.2) → Q 1) (h0 : (∀ q ∈ s_own M a, q.2.2 ≤ 1000000) → Q 0) : WX4_isTooFine a M Q := by
  obtain ⟨g0, g8⟩ := h
  have key : ∀ (d : Nat) (i : Int), 0 ≤ i → i ≤ M a 8 → M a 8 - i = d → (∀ j : Nat, (j : Int) < i → M (a + 8) j ≤ 1000000) → WX4_isTooFine_2 M Q (d + 1) a i := by
    intro d
    induction d with
    | zero =>
      intro i i1 i2 i3 i4
      refine ⟨fun _ => h0 (fun q hq => ?_), fun z => by omega⟩
      obtain ⟨j, hj, e⟩ := s_ar_mem.mp hq
      rw [← e]
      exact i4 j (by omega)
    | succ d ih =>
      intro i i1 i2 i3 i4
      refine ⟨fun z => by omega, fun _ => ⟨⟨i1, by omega⟩, fun le => ?_, fun lt => h1 ⟨_, List.mem_of_getElem? (s_own_at (i := i.toNat) (by omega)), lt⟩⟩⟩
      rw [s_w (by omega) (by omega)]
      refine ih (i + 1) (by omega) (by omega) (by omega) (fun j hj => ?_)
      by_cases e : j = i.toNat
      · rw [e]; exact le
      · exact i4 j (by omega)
  exact ⟨(M a 8).toNat + 1, key (M a 8).toNat 0 (by omega) (by omega) (by omega) (fun j hj => by omega)⟩
/-- the same OWNERS, in whatever order -/
def o_same (l m : s_Own) : Prop := (∀ q ∈ l, ∃ r, 0 ≤ o_fd m q.1 ∧ m[(o_fd m q.1).toNat]? = some r ∧ r.2 = q.2) ∧ l.length = m.length
theorem c_hasSameOwners {M : e_M} {a b : Nat} {Q : Int → Prop} (ha : s_ook M a) (hb : s_ook M b) (h1 : o_same (s_own M a) (s_own M b) → Q 1) (h0 : ¬ o_same (s_own M a) (s_own M b) → Q 0) : WX4_hasSameOwners a b M Q := by
  obtain ⟨g0, g8⟩ := id ha
  have la := s_own_len ha
  have lb := s_own_len hb
  have key : ∀ (d : Nat) (i : Int), 0 ≤ i → i ≤ M a 8 → M a 8 - i = d → (∀ (j : Nat) q, (j : Int) < i → (s_own M a)[j]? = some q → ∃ r, 0 ≤ o_fd (s_own M b) q.1 ∧ (s_own M b)[(o_fd (s_own M b) q.1).toNat]? = some r ∧ r.2 = q.2) → WX4_hasSameOwners_2 M Q (d + 1) a b i := by
    intro d
    induction d with
    | zero =>
      intro i i1 i2 i3 i4
      refine ⟨fun _ => ⟨fun ne => h0 (fun s => ne (by have := s.2; omega)), fun e => h1 ⟨fun q hq => ?_, by omega⟩⟩, fun z => by omega⟩
      obtain ⟨j, hj⟩ := List.getElem?_of_mem hq
      have := (List.getElem?_eq_some_iff.mp hj).1
      exact i4 j q (by omega) hj
    | succ d ih =>
      intro i i1 i2 i3 i4
      have hi : 0 ≤ i ∧ i < 14 := ⟨i1, by omega⟩
      have hq := s_own_at (M := M) (a := a) (i := i.toNat) (by omega)
      have hm := List.mem_of_getElem? hq
      refine ⟨fun z => by omega, fun _ => ⟨hi, c_placeOf hb ⟨fun neg => h0 (fun s => ?_), fun nn => ?_⟩⟩⟩
      · obtain ⟨r, r1, -⟩ := s.1 _ hm
        dsimp only at r1
        omega
      · have hlt := o_fd_lt (l := s_own M b) (p := M (a + 6) i.toNat)
        have hr := s_own_at (M := M) (a := b) (i := (o_fd (s_own M b) (M (a + 6) i.toNat)).toNat) (by omega)
        have hk : 0 ≤ o_fd (s_own M b) (M (a + 6) i.toNat) ∧ o_fd (s_own M b) (M (a + 6) i.toNat) < 14 := ⟨nn, by have := hb.2; omega⟩
        refine ⟨hi, hk, fun ne => h0 (fun s => ?_), fun e7 => ⟨hi, hk, fun e8 => ?_, fun ne => h0 (fun s => ?_)⟩⟩
        · obtain ⟨r, r1, r2, r3⟩ := s.1 _ hm
          dsimp only at r2 r3
          rw [hr] at r2
          obtain rfl := Option.some.inj r2
          exact ne (Prod.mk.inj r3).1.symm
        · rw [s_w (by omega) (by omega)]
          refine ih (i + 1) (by omega) (by omega) (by omega) (fun j q hj hjq => ?_)
          by_cases e : j = i.toNat
          · subst e
            rw [hq] at hjq
            obtain rfl := Option.some.inj hjq
            exact ⟨_, nn, hr, by show (_, _) = (_, _); rw [e7, e8]⟩
          · exact i4 j q (by omega) hjq
        · obtain ⟨r, r1, r2, r3⟩ := s.1 _ hm
          dsimp only at r2 r3
          rw [hr] at r2
          obtain rfl := Option.some.inj r2
          exact ne (Prod.mk.inj r3).2.symm
  exact ⟨(M a 8).toNat + 1, key (M a 8).toNat 0 (by omega) (by omega) (by omega) (fun j q hj => by omega)⟩
