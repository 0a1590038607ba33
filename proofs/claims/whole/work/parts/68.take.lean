/-! shares taken off: bounds of the giver's share alone -/
theorem s_own_ent {M : e_M} {a : Nat} {p B : Int} (e : 0 ≤ o_fd (s_own M a) p) (hl : ((s_own M a).length : Int) = M a 8) (hlt : o_fd (s_own M a) p < (s_own M a).length) (hob : ∀ q ∈ s_own M a, q.1 = p → 0 ≤ q.2.1 ∧ q.2.1 ≤ q.2.2 ∧ 0 < q.2.2 ∧ q.2.2 ≤ B) : 0 ≤ M (a + 7) (o_fd (s_own M a) p).toNat ∧ M (a + 7) (o_fd (s_own M a) p).toNat ≤ M (a + 8) (o_fd (s_own M a) p).toNat ∧ 0 < M (a + 8) (o_fd (s_own M a) p).toNat ∧ M (a + 8) (o_fd (s_own M a) p).toNat ≤ B := by
  have hg := s_own_at (M := M) (a := a) (i := (o_fd (s_own M a) p).toNat) (by omega)
  have hp : M (a + 6) (o_fd (s_own M a) p).toNat = p := by
    rcases r_find_cases ((s_own M a).map (fun q => q.1)) p with ⟨-, e2⟩ | ⟨i, hi, e2, -, e3⟩
    · have : o_fd (s_own M a) p = -1 := e2
      omega
    · have e4 : o_fd (s_own M a) p = (i : Int) := e3
      rw [e4] at hg ⊢
      rw [show ((i : Nat) : Int).toNat = i by omega] at hg ⊢
      rw [List.getElem?_map, hg] at e2
      exact Option.some.inj e2
  exact hob _ (List.mem_of_getElem? hg) hp
theorem c_takeOffP {M : e_M} {a : Nat} {p t b B C : Int} {Q : Int → e_M → Prop} (h : s_ook M a) (hob : ∀ q ∈ s_own M a, q.1 = p → 0 ≤ q.2.1 ∧ q.2.1 ≤ q.2.2 ∧ 0 < q.2.2 ∧ q.2.2 ≤ B) (ht : 0 ≤ t) (htb : t ≤ C) (hb : 0 < b) (hbc : b ≤ C) (hBC : 2 * (B * C) < 9223372036854775808)
    (h0 : ¬ o_has (s_own M a) p t b → Q 0 M)
    (h1 : o_has (s_own M a) p t b → ∀ M', s_own M' a = o_sub (s_own M a) (o_fd (s_own M a) p).toNat t b → s_ook M' a → (∀ k, k ≠ 8 → M' a k = M a k) → (∀ c, c ≠ a → c ≠ a + 6 → c ≠ a + 7 → c ≠ a + 8 → M' c = M c) → Q 1 M') : WX4_takeOff a p t b M Q := by
  obtain ⟨g0, g8⟩ := id h
  have hl := s_own_len h
  have hlt := o_fd_lt (l := s_own M a) (p := p)
  refine c_placeOf h ⟨fun e => h0 (fun ⟨q, _, e2, _⟩ => by omega), fun e => ?_⟩
  have hen := s_own_ent (M := M) (a := a) (p := p) e hl hlt hob
  generalize hr : o_fd (s_own M a) p = r at *
  have hi : 0 ≤ r ∧ r < 14 := ⟨e, by omega⟩
  obtain ⟨k1, k2, k3, k4⟩ := hen
  have m1 := s_mulB k1 (show M (a + 7) r.toNat ≤ B by omega) (show 0 ≤ b by omega) hbc
  have m2 := s_mulB ht htb (show 0 ≤ M (a + 8) r.toNat by omega) k4
  have m3 := s_mulB (show 0 ≤ M (a + 8) r.toNat by omega) k4 (show 0 ≤ b by omega) hbc
  rw [Int.mul_comm C B] at m2
  have hq := s_own_at (M := M) (a := a) (i := r.toNat) (by omega)
  have w1 : e_w64 (M (a + 7) r.toNat * b) = M (a + 7) r.toNat * b := s_wj (by omega) (by omega)
  have w2 : e_w64 (t * M (a + 8) r.toNat) = t * M (a + 8) r.toNat := s_wj (by omega) (by omega)
  have w3 : e_w64 (M (a + 8) r.toNat * b) = M (a + 8) r.toNat * b := s_wj (by omega) (by omega)
  refine ⟨hi, hi, ?_⟩
  rw [w1, w2, w3]
  refine ⟨fun le => ?_, fun lt => h0 (fun ⟨q, e1, _, e3⟩ => by
    rw [hr, hq] at e1
    obtain rfl := Option.some.inj e1
    dsimp only at e3
    omega)⟩
  have hhas : o_has (s_own M a) p t b := ⟨_, by rw [hr]; exact hq, by rw [hr]; exact e, le⟩
  refine ⟨hi, hi, hi, ?_⟩
  rw [s_wj (x := M (a + 7) r.toNat * b - t * M (a + 8) r.toNat) (by omega) (by omega)]
  refine c_put hi (by omega) (by omega) (by omega) (by omega) ?_
  generalize hv : s_red (M (a + 7) r.toNat * b - t * M (a + 8) r.toNat) (M (a + 8) r.toNat * b) = v
  generalize hN : e_up (e_up M (a + 7) r.toNat v.1) (a + 8) r.toNat v.2 = N
  have n7 : ∀ j, N (a + 7) j = if j = r.toNat then v.1 else M (a + 7) j := fun j => by rw [← hN, e_up_row (by omega), e_up_at]
  have n8 : ∀ j, N (a + 8) j = if j = r.toNat then v.2 else M (a + 8) j := fun j => by rw [← hN, e_up_at, e_up_row (by omega)]
  have nf : ∀ c, c ≠ a + 7 → c ≠ a + 8 → N c = M c := fun c c7 c8 => by rw [← hN, e_up_row c8, e_up_row c7]
  have na : N a = M a := nf a (by omega) (by omega)
  have n6 : N (a + 6) = M (a + 6) := nf (a + 6) (by omega) (by omega)
  have osub : o_sub (s_own M a) r.toNat t b = if v.1 = 0 then (s_own M a).eraseIdx r.toNat else (s_own M a).set r.toNat (M (a + 6) r.toNat, v) := by
    unfold o_sub
    rw [hq, ← hv]
  refine ⟨hi, fun ne => ?_, fun ez M3 q3 => ?_⟩
  · rw [n7, if_pos rfl] at ne
    refine h1 hhas N ?_ ⟨by rw [na]; exact g0, by rw [na]; exact g8⟩ (fun k _ => by rw [na]) (fun c _ _ c7 c8 => nf c c7 c8)
    rw [osub, if_neg ne]
    unfold s_own
    rw [na]
    refine s_ar_ext (by rw [List.length_set, s_ar_len]) (fun j hj => ?_)
    rw [List.getElem?_set, s_ar_len, n6, n7, n8]
    by_cases ej : r.toNat = j
    · subst ej; rw [if_pos rfl, if_pos (by omega), if_pos rfl, if_pos rfl]
    · rw [if_neg ej, s_ar_get hj, if_neg (fun z => ej z.symm), if_neg (fun z => ej z.symm)]
  · rw [n7, if_pos rfl] at ez
    have a38 : M3 a 8 = M a 8 - 1 := by rw [q3, e_up_eq, na, s_w (by omega) (by omega)]
    have a3 : ∀ k, k ≠ 8 → M3 a k = M a k := fun k hk => by rw [q3, e_up_ne (fun z => hk z.2), na]
    have m6 : M3 (a + 6) = M (a + 6) := by rw [q3, e_up_row (by omega), n6]
    have m7 : ∀ j, j ≠ r.toNat → M3 (a + 7) j = M (a + 7) j := fun j hj => by rw [q3, e_up_row (by omega), n7, if_neg hj]
    have m8 : ∀ j, j ≠ r.toNat → M3 (a + 8) j = M (a + 8) j := fun j hj => by rw [q3, e_up_row (by omega), n8, if_neg hj]
    have mf : ∀ c, c ≠ a → c ≠ a + 7 → c ≠ a + 8 → M3 c = M c := fun c c0 c7 c8 => by rw [q3, e_up_row c0, nf c c7 c8]
    have key : ∀ (d : Nat) (i : Int) (L : e_M), r ≤ i → i ≤ M a 8 - 1 → M a 8 - 1 - i = d → (∀ c, c ≠ a + 6 → c ≠ a + 7 → c ≠ a + 8 → L c = M3 c) →
        (∀ j : Nat, j ≠ r.toNat ∨ r < i → L (a + 6) j = (if r ≤ j ∧ (j : Int) < i then M (a + 6) (j + 1) else M (a + 6) j) ∧ L (a + 7) j = (if r ≤ j ∧ (j : Int) < i then M (a + 7) (j + 1) else M (a + 7) j) ∧ L (a + 8) j = (if r ≤ j ∧ (j : Int) < i then M (a + 8) (j + 1) else M (a + 8) j)) → WX4_takeOff_99 Q (d + 1) a i L := by
      intro d
      induction d with
      | zero =>
        intro i L i1 i2 i3 i4 i5
        have ea : L a = M3 a := i4 a (by omega) (by omega) (by omega)
        refine ⟨fun _ => h1 hhas L ?_ ⟨by rw [ea]; omega, by rw [ea]; omega⟩ (fun k hk => by rw [ea]; exact a3 k hk) (fun c c0 c6 c7 c8 => by rw [i4 c c6 c7 c8]; exact mf c c0 c7 c8), fun z => by rw [ea] at z; omega⟩
        rw [osub, if_pos ez]
        unfold s_own
        rw [ea, a38]
        refine s_ar_ext (by rw [List.length_eraseIdx, s_ar_len, if_pos (by omega)]; omega) (fun j hj => ?_)
        obtain ⟨u6, u7, u8⟩ := i5 j (by omega)
        rw [List.getElem?_eraseIdx, u6, u7, u8]
        by_cases c : j < r.toNat
        · rw [if_pos c, s_ar_get (by omega), if_neg (by omega), if_neg (by omega), if_neg (by omega)]
        · rw [if_neg c, s_ar_get (by omega), if_pos ⟨by omega, by omega⟩, if_pos ⟨by omega, by omega⟩, if_pos ⟨by omega, by omega⟩]
      | succ d ih =>
        intro i L i1 i2 i3 i4 i5
        have ea : L a = M3 a := i4 a (by omega) (by omega) (by omega)
        refine ⟨fun z => by rw [ea] at z; omega, fun z => ?_⟩
        rw [s_w (x := i + 1) (by omega) (by omega)]
        have w : (0 ≤ i + 1 ∧ i + 1 < 14) ∧ 0 ≤ i ∧ i < 14 := ⟨⟨by omega, by omega⟩, by omega, by omega⟩
        refine ⟨w.1, w.2, fun L1 p1 => ⟨w.1, w.2, fun L2 p2 => ⟨w.1, w.2, fun L3 p3 => ih (i + 1) L3 (by omega) (by omega) (by omega) (fun c c6 c7 c8 => by rw [p3, e_up_row c8, p2, e_up_row c7, p1, e_up_row c6, i4 c c6 c7 c8]) (fun j hj => ?_)⟩⟩⟩
        have l6 : L3 (a + 6) j = if j = i.toNat then L (a + 6) (i + 1).toNat else L (a + 6) j := by rw [p3, e_up_row (by omega), p2, e_up_row (by omega), p1, e_up_at]
        have l7 : L3 (a + 7) j = if j = i.toNat then L (a + 7) (i + 1).toNat else L (a + 7) j := by rw [p3, e_up_row (by omega), p2, e_up_at, p1, e_up_row (by omega)]
        have l8 : L3 (a + 8) j = if j = i.toNat then L (a + 8) (i + 1).toNat else L (a + 8) j := by rw [p3, e_up_at, p2, e_up_row (by omega), p1, e_up_row (by omega)]
        obtain ⟨v6, v7, v8⟩ := i5 (i + 1).toNat (Or.inl (by omega))
        rw [if_neg (by omega)] at v6 v7 v8
        rw [l6, l7, l8]
        by_cases c1 : j = i.toNat
        · rw [if_pos c1, if_pos c1, if_pos c1, if_pos ⟨by omega, by omega⟩, if_pos ⟨by omega, by omega⟩, if_pos ⟨by omega, by omega⟩, v6, v7, v8, show (i + 1).toNat = j + 1 by omega]
          exact ⟨rfl, rfl, rfl⟩
        · rw [if_neg c1, if_neg c1, if_neg c1]
          by_cases c2 : r ≤ j ∧ (j : Int) < i
          · obtain ⟨u6, u7, u8⟩ := i5 j (by omega)
            rw [if_pos c2] at u6 u7 u8
            rw [if_pos ⟨by omega, by omega⟩, if_pos ⟨by omega, by omega⟩, if_pos ⟨by omega, by omega⟩]
            exact ⟨u6, u7, u8⟩
          · obtain ⟨u6, u7, u8⟩ := i5 j (by omega)
            rw [if_neg c2] at u6 u7 u8
            rw [if_neg (by omega), if_neg (by omega), if_neg (by omega)]
            exact ⟨u6, u7, u8⟩
    exact ⟨(M a 8 - 1 - r).toNat + 1, key (M a 8 - 1 - r).toNat r M3 (by omega) (by omega) (by omega) (fun _ _ _ _ => rfl) (fun j hj => by
      rw [if_neg (by omega), if_neg (by omega), if_neg (by omega), m6]
      rcases hj with hj | hj
      · exact ⟨rfl, m7 j hj, m8 j hj⟩
      · omega)⟩
