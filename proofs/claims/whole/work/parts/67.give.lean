/-! shares given: bounds of the receiver's share alone -/
theorem c_give65p {M : e_M} {a : Nat} {i t b B C : Int} {Q : e_M → Prop} (h : s_ook M a) (hi : 0 ≤ i ∧ i < M a 8) (hob : 0 ≤ M (a + 7) i.toNat ∧ M (a + 7) i.toNat ≤ M (a + 8) i.toNat ∧ 0 < M (a + 8) i.toNat ∧ M (a + 8) i.toNat ≤ B) (ht : 0 ≤ t) (htb : t ≤ C) (hb : 0 < b) (hbc : b ≤ C) (hBC : 2 * (B * C) < 9223372036854775808)
    (hq : ∀ M', s_own M' a = o_add (s_own M a) i.toNat t b → s_ook M' a → M' a = M a → (∀ c, c ≠ a → c ≠ a + 6 → c ≠ a + 7 → c ≠ a + 8 → M' c = M c) → Q M') : WX4_give_65 Q a t b i M := by
  obtain ⟨h0, h8⟩ := id h
  have hi2 : 0 ≤ i ∧ i < 14 := ⟨hi.1, by omega⟩
  obtain ⟨k1, k2, k3, k4⟩ := hob
  have m1 := s_mulB k1 (show M (a + 7) i.toNat ≤ B by omega) (show 0 ≤ b by omega) hbc
  have m2 := s_mulB ht htb (show 0 ≤ M (a + 8) i.toNat by omega) k4
  have m3 := s_mulB (show 0 ≤ M (a + 8) i.toNat by omega) k4 (show 0 ≤ b by omega) hbc
  rw [Int.mul_comm C B] at m2
  refine ⟨hi2, hi2, hi2, ?_⟩
  rw [s_wj (x := M (a + 7) i.toNat * b) (by omega) (by omega), s_wj (x := t * M (a + 8) i.toNat) (by omega) (by omega), s_wj (x := M (a + 8) i.toNat * b) (by omega) (by omega), s_wj (by omega) (by omega)]
  refine c_put hi2 (by omega) (by omega) (by omega) (by omega) (hq _ ?_ ?_ (by rw [e_up_row (by omega), e_up_row (by omega)]) (fun c hc h6 h7 h8 => by rw [e_up_row h8, e_up_row h7]))
  · unfold o_add
    rw [s_own_at (by omega)]
    have ea : (e_up (e_up M (a + 7) i.toNat (s_red (M (a + 7) i.toNat * b + t * M (a + 8) i.toNat) (M (a + 8) i.toNat * b)).1) (a + 8) i.toNat (s_red (M (a + 7) i.toNat * b + t * M (a + 8) i.toNat) (M (a + 8) i.toNat * b)).2) a = M a := by rw [e_up_row (by omega), e_up_row (by omega)]
    unfold s_own
    rw [ea]
    refine s_ar_ext (by rw [List.length_set, s_ar_len]) (fun j hj => ?_)
    rw [List.getElem?_set, s_ar_len]
    by_cases e : i.toNat = j
    · subst e
      rw [if_pos rfl, if_pos (by omega), e_up_row (a := a + 8) (b := a + 6) (by omega), e_up_row (a := a + 7) (b := a + 6) (by omega), e_up_row (a := a + 8) (b := a + 7) (by omega), e_up_eq, e_up_eq]
    · rw [if_neg e, s_ar_get hj, e_up_row (a := a + 8) (b := a + 6) (by omega), e_up_row (a := a + 7) (b := a + 6) (by omega), e_up_row (a := a + 8) (b := a + 7) (by omega), e_up_ne (fun z => e z.2.symm), e_up_ne (fun z => e z.2.symm), e_up_row (by omega)]
  · unfold s_ook
    rw [e_up_row (by omega), e_up_row (by omega)]
    exact h
theorem c_giveP {M : e_M} {a : Nat} {p t b B C : Int} {Q : e_M → Prop} (h : s_ook M a) (hB : 1 ≤ B) (hob : ∀ q ∈ s_own M a, q.1 = p → 0 ≤ q.2.1 ∧ q.2.1 ≤ q.2.2 ∧ 0 < q.2.2 ∧ q.2.2 ≤ B) (ht : 0 ≤ t) (htb : t ≤ C) (hb : 0 < b) (hbc : b ≤ C) (hBC : 2 * (B * C) < 9223372036854775808)
    (hq : ∀ M', s_own M' a = o_give (s_own M a) p t b → s_ook M' a → (∀ k, k ≠ 8 → M' a k = M a k) → (∀ c, c ≠ a → c ≠ a + 6 → c ≠ a + 7 → c ≠ a + 8 → M' c = M c) → Q M') : WX4_give a p t b M Q := by
  obtain ⟨h0, h8⟩ := id h
  have hl := s_own_len h
  have hlt := o_fd_lt (l := s_own M a) (p := p)
  refine c_placeOf h ⟨fun e => ?_, fun e => ⟨fun e14 => ?_, fun e14 => hq M ?_ h (fun _ _ => rfl) (fun _ _ _ _ _ => rfl)⟩⟩
  · have hen : 0 ≤ M (a + 7) (o_fd (s_own M a) p).toNat ∧ M (a + 7) (o_fd (s_own M a) p).toNat ≤ M (a + 8) (o_fd (s_own M a) p).toNat ∧ 0 < M (a + 8) (o_fd (s_own M a) p).toNat ∧ M (a + 8) (o_fd (s_own M a) p).toNat ≤ B := by
      have hg := s_own_at (M := M) (a := a) (i := (o_fd (s_own M a) p).toNat) (by omega)
      have hp : M (a + 6) (o_fd (s_own M a) p).toNat = p := by
        rcases r_find_cases ((s_own M a).map (fun q => q.1)) p with ⟨-, e2⟩ | ⟨i, hi, e2, -, e3⟩
        · have : o_fd (s_own M a) p = -1 := e2
          omega
        · have e4 : o_fd (s_own M a) p = (i : Int) := e3
          rw [e4] at hg ⊢
          rw [show ((i : Nat) : Int).toNat = i by omega] at hg ⊢
          rw [List.getElem?_map, hg] at e2
          exact Option.some.inj e2
      exact hob _ (List.mem_of_getElem? hg) hp
    refine c_give65p h ⟨e, by omega⟩ hen ht htb hb hbc hBC (fun M' q1 q2 q3 q4 => hq M' ?_ q2 (fun k _ => by rw [q3]) q4)
    unfold o_give
    rw [if_pos e]; exact q1
  · intro M2 q2
    have hi : 0 ≤ M a 8 ∧ M a 8 < 14 := ⟨h0, e14⟩
    refine ⟨hi, fun M3 q3 => ⟨hi, fun M4 q4 => ⟨hi, fun M5 q5 => ?_⟩⟩⟩
    rw [s_w (by omega) (by omega)] at q2
    have a5 : ∀ k, k ≠ 8 → M5 a k = M a k := fun k hk => by rw [q5, e_up_row (by omega), q4, e_up_row (by omega), q3, e_up_row (by omega), q2, e_up_ne (fun z => hk z.2)]
    have a58 : M5 a 8 = M a 8 + 1 := by rw [q5, e_up_row (by omega), q4, e_up_row (by omega), q3, e_up_row (by omega), q2, e_up_eq]
    have f5 : ∀ c, c ≠ a → c ≠ a + 6 → c ≠ a + 7 → c ≠ a + 8 → M5 c = M c := fun c c0 c6 c7 c8 => by rw [q5, e_up_row c8, q4, e_up_row c7, q3, e_up_row c6, q2, e_up_row c0]
    have o5 : s_own M5 a = s_own M a ++ [(p, 0, 1)] := by
      unfold s_own
      rw [a58, s_ar_succ h0]
      have k6 : ∀ j, M5 (a + 6) j = if j = (M a 8).toNat then p else M (a + 6) j := fun j => by rw [q5, e_up_row (by omega), q4, e_up_row (by omega), q3, e_up_at, q2, e_up_row (by omega)]
      have k7 : ∀ j, M5 (a + 7) j = if j = (M a 8).toNat then 0 else M (a + 7) j := fun j => by rw [q5, e_up_row (by omega), q4, e_up_at, q3, e_up_row (by omega), q2, e_up_row (by omega)]
      have k8 : ∀ j, M5 (a + 8) j = if j = (M a 8).toNat then 1 else M (a + 8) j := fun j => by rw [q5, e_up_at, q4, e_up_row (by omega), q3, e_up_row (by omega), q2, e_up_row (by omega)]
      congr 1
      · refine s_ar_congr (fun j hj => ?_)
        rw [k6, k7, k8, if_neg (by omega), if_neg (by omega), if_neg (by omega)]
      · rw [k6, k7, k8, if_pos rfl, if_pos rfl, if_pos rfl]
    have hk : s_ook M5 a := ⟨by omega, by omega⟩
    have hob5 : 0 ≤ M5 (a + 7) (M a 8).toNat ∧ M5 (a + 7) (M a 8).toNat ≤ M5 (a + 8) (M a 8).toNat ∧ 0 < M5 (a + 8) (M a 8).toNat ∧ M5 (a + 8) (M a 8).toNat ≤ B := by
      have z7 : M5 (a + 7) (M a 8).toNat = 0 := by rw [q5, e_up_row (by omega), q4, e_up_eq]
      have z8 : M5 (a + 8) (M a 8).toNat = 1 := by rw [q5, e_up_eq]
      rw [z7, z8]; omega
    refine c_give65p hk ⟨h0, by omega⟩ hob5 ht htb hb hbc hBC (fun M' r1 r2 r3 r4 => hq M' ?_ r2 (fun k hk => by rw [r3]; exact a5 k hk) (fun c c0 c6 c7 c8 => by rw [r4 c c0 c6 c7 c8]; exact f5 c c0 c6 c7 c8))
    unfold o_give
    rw [if_neg (by omega), if_neg (by omega), r1, o5, show (M a 8).toNat = (s_own M a).length by omega]
  · unfold o_give
    rw [if_neg (by omega), if_pos (by omega)]
