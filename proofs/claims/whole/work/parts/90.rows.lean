/-! THE MODEL: its rows -/
def j_row (M : e_M) (n c t : Nat) : List Int := s_ar (fun k => M c (8 * t + k)) (M n t)
def j_ok (M : e_M) (n t : Nat) : Prop := 0 ≤ M n t ∧ M n t ≤ 8
theorem j_row_len {M : e_M} {n c t : Nat} (h : j_ok M n t) : ((j_row M n c t).length : Int) = M n t := by unfold j_row; rw [s_ar_len]; have := h.1; omega
theorem j_row_at {M : e_M} {n c t i : Nat} (h : (i : Int) < M n t) : (j_row M n c t)[i]? = some (M c (8 * t + i)) := s_ar_get (f := fun k => M c (8 * t + k)) (by omega)
/-- one row alone has changed -/
def j_fr (M M' : e_M) (n c t : Nat) : Prop := (∀ b, b ≠ n → b ≠ c → M' b = M b) ∧ (∀ u, u ≠ t → M' n u = M n u) ∧ ∀ j, (j < 8 * t ∨ 8 * t + 8 ≤ j) → M' c j = M c j
theorem j_fr_row {M M' : e_M} {n c t u : Nat} (f : j_fr M M' n c t) (hu : u ≠ t) (h : j_ok M n u) : j_row M' n c u = j_row M n c u ∧ j_ok M' n u := by
  have e := f.2.1 u hu
  refine ⟨?_, by unfold j_ok; rw [e]; exact h⟩
  unfold j_row
  rw [e]
  refine s_ar_congr (fun k hk => f.2.2 _ ?_)
  have := h.2
  omega
theorem j_fr_trans {M N L : e_M} {n c t : Nat} (h1 : j_fr M N n c t) (h2 : j_fr N L n c t) : j_fr M L n c t := ⟨fun b b1 b2 => by rw [h2.1 b b1 b2, h1.1 b b1 b2], fun u hu => by rw [h2.2.1 u hu, h1.2.1 u hu], fun j hj => by rw [h2.2.2 j hj, h1.2.2 j hj]⟩
theorem j_row_congr {M M' : e_M} {n c t : Nat} (h1 : M' n = M n) (h2 : M' c = M c) : j_row M' n c t = j_row M n c t := by unfold j_row; rw [h1, h2]
theorem j_ar_ext {l : List Int} {f : Nat → Int} {n : Int} (h0 : 0 ≤ n) (h1 : (l.length : Int) = n) (h2 : ∀ i : Nat, (i : Int) < n → l[i]? = some (f i)) : s_ar f n = l := s_ar_ext (by omega) (fun i hi => h2 i (by omega))
theorem m_placeOn {M : e_M} {t : Int} {x : Int} {Q : Int → Prop} (ht : 0 ≤ t ∧ t < 560) (h : j_ok M 4492 t.toNat) (hq : Q (r_find (j_row M 4492 4493 t.toNat) x)) : WX12_placeOn t x M Q := by
  obtain ⟨h0, h8⟩ := id h
  have hl := j_row_len (c := 4493) h
  unfold WX12_placeOn VX12_placeOn
  refine s_up (σ := Unit) (P := fun dd i _ => WX12_placeOn_2 M Q dd t x i) (n := M 4492 t.toNat) (i0 := 0) (s := ()) (fun i _ => ∀ j : Nat, (j : Int) < i → (j_row M 4492 4493 t.toNat)[j]? ≠ some x) h0 (fun j hj => by omega) ?_ ?_
  · intro d2 _ hi
    unfold WX12_placeOn_2 VX12_placeOn_2
    refine ⟨ht, fun _ => ?_, fun z => by omega⟩
    rw [r_find_no (l := j_row M 4492 4493 t.toNat) (x := x) (fun e => by
      obtain ⟨j, hj, e⟩ := List.getElem_of_mem e
      exact hi j (by omega) (by rw [List.getElem?_eq_getElem hj, e]))] at hq
    exact hq
  · intro d2 i _ k1 k2 hi ih
    unfold WX12_placeOn_2 VX12_placeOn_2
    have ge := j_row_at (M := M) (n := 4492) (c := 4493) (t := t.toNat) (i := i.toNat) (by omega)
    rw [s_w (x := 8 * t) (by omega) (by omega), s_w (x := 8 * t + i) (by omega) (by omega), show (8 * t + i).toNat = 8 * t.toNat + i.toNat by omega]
    refine ⟨ht, fun z => by omega, fun _ => ⟨by omega, fun ne => ?_, fun e => ?_⟩⟩
    · rw [s_w (by omega) (by omega)]
      refine ih () (fun j hj => ?_)
      by_cases c : (j : Int) = i
      · rw [show j = i.toNat by omega, ge]; exact fun z => ne (Option.some.inj z)
      · exact hi j (by omega)
    · rw [r_find_at (l := j_row M 4492 4493 t.toNat) (x := x) (i := i.toNat) (by rw [ge, e]) (fun j hj => hi j (by omega)), Int.toNat_of_nonneg k1] at hq
      exact hq
theorem m_placeOf {M : e_M} {t : Int} {x : Int} {Q : Int → Prop} (ht : 0 ≤ t ∧ t < 560) (h : j_ok M 4494 t.toNat) (hq : Q (r_find (j_row M 4494 4495 t.toNat) x)) : WX12_placeOf t x M Q := by
  obtain ⟨h0, h8⟩ := id h
  have hl := j_row_len (c := 4495) h
  unfold WX12_placeOf VX12_placeOf
  refine s_up (σ := Unit) (P := fun dd i _ => WX12_placeOf_2 M Q dd t x i) (n := M 4494 t.toNat) (i0 := 0) (s := ()) (fun i _ => ∀ j : Nat, (j : Int) < i → (j_row M 4494 4495 t.toNat)[j]? ≠ some x) h0 (fun j hj => by omega) ?_ ?_
  · intro d2 _ hi
    unfold WX12_placeOf_2 VX12_placeOf_2
    refine ⟨ht, fun _ => ?_, fun z => by omega⟩
    rw [r_find_no (l := j_row M 4494 4495 t.toNat) (x := x) (fun e => by
      obtain ⟨j, hj, e⟩ := List.getElem_of_mem e
      exact hi j (by omega) (by rw [List.getElem?_eq_getElem hj, e]))] at hq
    exact hq
  · intro d2 i _ k1 k2 hi ih
    unfold WX12_placeOf_2 VX12_placeOf_2
    have ge := j_row_at (M := M) (n := 4494) (c := 4495) (t := t.toNat) (i := i.toNat) (by omega)
    rw [s_w (x := 8 * t) (by omega) (by omega), s_w (x := 8 * t + i) (by omega) (by omega), show (8 * t + i).toNat = 8 * t.toNat + i.toNat by omega]
    refine ⟨ht, fun z => by omega, fun _ => ⟨by omega, fun ne => ?_, fun e => ?_⟩⟩
    · rw [s_w (by omega) (by omega)]
      refine ih () (fun j hj => ?_)
      by_cases c : (j : Int) = i
      · rw [show j = i.toNat by omega, ge]; exact fun z => ne (Option.some.inj z)
      · exact hi j (by omega)
    · rw [r_find_at (l := j_row M 4494 4495 t.toNat) (x := x) (i := i.toNat) (by rw [ge, e]) (fun j hj => hi j (by omega)), Int.toNat_of_nonneg k1] at hq
      exact hq
theorem m_rankAt {M : e_M} {t : Int} {x : Int} {Q : Int → Prop} (ht : 0 ≤ t ∧ t < 80) (h : j_ok M 4499 t.toNat) (hq : Q (r_find (j_row M 4499 4500 t.toNat) x)) : WX12_rankAt t x M Q := by
  obtain ⟨h0, h8⟩ := id h
  have hl := j_row_len (c := 4500) h
  unfold WX12_rankAt VX12_rankAt
  refine s_up (σ := Unit) (P := fun dd i _ => WX12_rankAt_2 M Q dd t x i) (n := M 4499 t.toNat) (i0 := 0) (s := ()) (fun i _ => ∀ j : Nat, (j : Int) < i → (j_row M 4499 4500 t.toNat)[j]? ≠ some x) h0 (fun j hj => by omega) ?_ ?_
  · intro d2 _ hi
    unfold WX12_rankAt_2 VX12_rankAt_2
    refine ⟨ht, fun _ => ?_, fun z => by omega⟩
    rw [r_find_no (l := j_row M 4499 4500 t.toNat) (x := x) (fun e => by
      obtain ⟨j, hj, e⟩ := List.getElem_of_mem e
      exact hi j (by omega) (by rw [List.getElem?_eq_getElem hj, e]))] at hq
    exact hq
  · intro d2 i _ k1 k2 hi ih
    unfold WX12_rankAt_2 VX12_rankAt_2
    have ge := j_row_at (M := M) (n := 4499) (c := 4500) (t := t.toNat) (i := i.toNat) (by omega)
    rw [s_w (x := 8 * t) (by omega) (by omega), s_w (x := 8 * t + i) (by omega) (by omega), show (8 * t + i).toNat = 8 * t.toNat + i.toNat by omega]
    refine ⟨ht, fun z => by omega, fun _ => ⟨by omega, fun ne => ?_, fun e => ?_⟩⟩
    · rw [s_w (by omega) (by omega)]
      refine ih () (fun j hj => ?_)
      by_cases c : (j : Int) = i
      · rw [show j = i.toNat by omega, ge]; exact fun z => ne (Option.some.inj z)
      · exact hi j (by omega)
    · rw [r_find_at (l := j_row M 4499 4500 t.toNat) (x := x) (i := i.toNat) (by rw [ge, e]) (fun j hj => hi j (by omega)), Int.toNat_of_nonneg k1] at hq
      exact hq
theorem m_offOn {M : e_M} {t k : Int} {Q : e_M → Prop} (ht : 0 ≤ t ∧ t < 560) (h : j_ok M 4492 t.toNat) (hk : 0 ≤ k ∧ k < M 4492 t.toNat) (hq : ∀ M', j_row M' 4492 4493 t.toNat = (j_row M 4492 4493 t.toNat).eraseIdx k.toNat → j_ok M' 4492 t.toNat → j_fr M M' 4492 4493 t.toNat → Q M') : WX12_offOn t k M Q := by
  obtain ⟨h0, h8⟩ := id h
  have hl := j_row_len (c := 4493) h
  unfold WX12_offOn VX12_offOn
  refine ⟨ht, ht, fun M1 e1 => ?_⟩
  rw [s_w (by omega) (by omega)] at e1
  have q1 : M1 4492 t.toNat = M 4492 t.toNat - 1 := by rw [e1, e_up_eq]
  have f1 : ∀ b, b ≠ 4492 → M1 b = M b := fun b hb => by rw [e1, e_up_row hb]
  have u1 : ∀ u, u ≠ t.toNat → M1 4492 u = M 4492 u := fun u hu => by rw [e1, e_up_ne (fun z => hu z.2)]
  refine s_up (σ := e_M) (P := fun dd i N => WX12_offOn_12 Q dd t i N) (n := M 4492 t.toNat - 1) (i0 := k) (s := M1) (fun i N => (∀ b, b ≠ 4493 → N b = M1 b) ∧ ∀ j : Nat, N 4493 j = if 8 * t.toNat + k.toNat ≤ j ∧ j < 8 * t.toNat + i.toNat then M 4493 (j + 1) else M 4493 j) (by omega) ⟨fun _ _ => rfl, fun j => by rw [if_neg (by omega), f1 4493 (by omega)]⟩ ?_ ?_
  · intro d2 N ⟨n1, n2⟩
    unfold WX12_offOn_12 VX12_offOn_12
    rw [n1 4492 (by omega), q1]
    refine ⟨ht, fun _ => hq N ?_ ?_ ⟨fun b b1 b2 => by rw [n1 b b2, f1 b b1], fun u hu => by rw [n1 4492 (by omega), u1 u hu], fun j hj => by rw [n2, if_neg (by omega)]⟩, fun z => by omega⟩
    · unfold j_row
      rw [n1 4492 (by omega), q1]
      refine j_ar_ext (by omega) (by rw [List.length_eraseIdx, s_ar_len, if_pos (by omega)]; omega) (fun i hi => ?_)
      rw [List.getElem?_eraseIdx, n2]
      by_cases cc : i < k.toNat
      · rw [if_pos cc, s_ar_get (by omega), if_neg (by omega)]
      · rw [if_neg cc, s_ar_get (by omega), if_pos (by omega)]
        rfl
    · unfold j_ok; rw [n1 4492 (by omega), q1]; omega
  · intro d2 i N k1 k2 ⟨n1, n2⟩ ih
    unfold WX12_offOn_12 VX12_offOn_12
    rw [n1 4492 (by omega), q1, s_w (x := 8 * t) (by omega) (by omega), s_w (x := 8 * t + i) (by omega) (by omega), s_w (x := 8 * t + i + 1) (by omega) (by omega), show (8 * t + i).toNat = 8 * t.toNat + i.toNat by omega, show (8 * t + i + 1).toNat = 8 * t.toNat + i.toNat + 1 by omega]
    refine ⟨ht, fun z => by omega, fun _ => ⟨by omega, by omega, fun M2 e2 => ?_⟩⟩
    rw [s_w (by omega) (by omega)]
    refine ih M2 ⟨fun b hb => by rw [e2, e_up_row hb, n1 b hb], fun j => ?_⟩
    rw [e2, e_up_at]
    by_cases c1 : j = 8 * t.toNat + i.toNat
    · rw [if_pos c1, n2, if_neg (by omega), if_pos (by omega), c1]
    · rw [if_neg c1, n2]
      by_cases c2 : 8 * t.toNat + k.toNat ≤ j ∧ j < 8 * t.toNat + i.toNat
      · rw [if_pos c2, if_pos (by omega)]
      · rw [if_neg c2, if_neg (by omega)]
theorem m_offOf {M : e_M} {t k : Int} {Q : e_M → Prop} (ht : 0 ≤ t ∧ t < 560) (h : j_ok M 4494 t.toNat) (hk : 0 ≤ k ∧ k < M 4494 t.toNat) (hq : ∀ M', j_row M' 4494 4495 t.toNat = (j_row M 4494 4495 t.toNat).eraseIdx k.toNat → j_ok M' 4494 t.toNat → j_fr M M' 4494 4495 t.toNat → Q M') : WX12_offOf t k M Q := by
  obtain ⟨h0, h8⟩ := id h
  have hl := j_row_len (c := 4495) h
  unfold WX12_offOf VX12_offOf
  refine ⟨ht, ht, fun M1 e1 => ?_⟩
  rw [s_w (by omega) (by omega)] at e1
  have q1 : M1 4494 t.toNat = M 4494 t.toNat - 1 := by rw [e1, e_up_eq]
  have f1 : ∀ b, b ≠ 4494 → M1 b = M b := fun b hb => by rw [e1, e_up_row hb]
  have u1 : ∀ u, u ≠ t.toNat → M1 4494 u = M 4494 u := fun u hu => by rw [e1, e_up_ne (fun z => hu z.2)]
  refine s_up (σ := e_M) (P := fun dd i N => WX12_offOf_12 Q dd t i N) (n := M 4494 t.toNat - 1) (i0 := k) (s := M1) (fun i N => (∀ b, b ≠ 4495 → N b = M1 b) ∧ ∀ j : Nat, N 4495 j = if 8 * t.toNat + k.toNat ≤ j ∧ j < 8 * t.toNat + i.toNat then M 4495 (j + 1) else M 4495 j) (by omega) ⟨fun _ _ => rfl, fun j => by rw [if_neg (by omega), f1 4495 (by omega)]⟩ ?_ ?_
  · intro d2 N ⟨n1, n2⟩
    unfold WX12_offOf_12 VX12_offOf_12
    rw [n1 4494 (by omega), q1]
    refine ⟨ht, fun _ => hq N ?_ ?_ ⟨fun b b1 b2 => by rw [n1 b b2, f1 b b1], fun u hu => by rw [n1 4494 (by omega), u1 u hu], fun j hj => by rw [n2, if_neg (by omega)]⟩, fun z => by omega⟩
    · unfold j_row
      rw [n1 4494 (by omega), q1]
      refine j_ar_ext (by omega) (by rw [List.length_eraseIdx, s_ar_len, if_pos (by omega)]; omega) (fun i hi => ?_)
      rw [List.getElem?_eraseIdx, n2]
      by_cases cc : i < k.toNat
      · rw [if_pos cc, s_ar_get (by omega), if_neg (by omega)]
      · rw [if_neg cc, s_ar_get (by omega), if_pos (by omega)]
        rfl
    · unfold j_ok; rw [n1 4494 (by omega), q1]; omega
  · intro d2 i N k1 k2 ⟨n1, n2⟩ ih
    unfold WX12_offOf_12 VX12_offOf_12
    rw [n1 4494 (by omega), q1, s_w (x := 8 * t) (by omega) (by omega), s_w (x := 8 * t + i) (by omega) (by omega), s_w (x := 8 * t + i + 1) (by omega) (by omega), show (8 * t + i).toNat = 8 * t.toNat + i.toNat by omega, show (8 * t + i + 1).toNat = 8 * t.toNat + i.toNat + 1 by omega]
    refine ⟨ht, fun z => by omega, fun _ => ⟨by omega, by omega, fun M2 e2 => ?_⟩⟩
    rw [s_w (by omega) (by omega)]
    refine ih M2 ⟨fun b hb => by rw [e2, e_up_row hb, n1 b hb], fun j => ?_⟩
    rw [e2, e_up_at]
    by_cases c1 : j = 8 * t.toNat + i.toNat
    · rw [if_pos c1, n2, if_neg (by omega), if_pos (by omega), c1]
    · rw [if_neg c1, n2]
      by_cases c2 : 8 * t.toNat + k.toNat ≤ j ∧ j < 8 * t.toNat + i.toNat
      · rw [if_pos c2, if_pos (by omega)]
      · rw [if_neg c2, if_neg (by omega)]
theorem m_offRank {M : e_M} {t k : Int} {Q : e_M → Prop} (ht : 0 ≤ t ∧ t < 80) (h : j_ok M 4499 t.toNat) (hk : 0 ≤ k ∧ k < M 4499 t.toNat) (hq : ∀ M', j_row M' 4499 4500 t.toNat = (j_row M 4499 4500 t.toNat).eraseIdx k.toNat → j_ok M' 4499 t.toNat → j_fr M M' 4499 4500 t.toNat → Q M') : WX12_offRank t k M Q := by
  obtain ⟨h0, h8⟩ := id h
  have hl := j_row_len (c := 4500) h
  unfold WX12_offRank VX12_offRank
  refine ⟨ht, ht, fun M1 e1 => ?_⟩
  rw [s_w (by omega) (by omega)] at e1
  have q1 : M1 4499 t.toNat = M 4499 t.toNat - 1 := by rw [e1, e_up_eq]
  have f1 : ∀ b, b ≠ 4499 → M1 b = M b := fun b hb => by rw [e1, e_up_row hb]
  have u1 : ∀ u, u ≠ t.toNat → M1 4499 u = M 4499 u := fun u hu => by rw [e1, e_up_ne (fun z => hu z.2)]
  refine s_up (σ := e_M) (P := fun dd i N => WX12_offRank_12 Q dd t i N) (n := M 4499 t.toNat - 1) (i0 := k) (s := M1) (fun i N => (∀ b, b ≠ 4500 → N b = M1 b) ∧ ∀ j : Nat, N 4500 j = if 8 * t.toNat + k.toNat ≤ j ∧ j < 8 * t.toNat + i.toNat then M 4500 (j + 1) else M 4500 j) (by omega) ⟨fun _ _ => rfl, fun j => by rw [if_neg (by omega), f1 4500 (by omega)]⟩ ?_ ?_
  · intro d2 N ⟨n1, n2⟩
    unfold WX12_offRank_12 VX12_offRank_12
    rw [n1 4499 (by omega), q1]
    refine ⟨ht, fun _ => hq N ?_ ?_ ⟨fun b b1 b2 => by rw [n1 b b2, f1 b b1], fun u hu => by rw [n1 4499 (by omega), u1 u hu], fun j hj => by rw [n2, if_neg (by omega)]⟩, fun z => by omega⟩
    · unfold j_row
      rw [n1 4499 (by omega), q1]
      refine j_ar_ext (by omega) (by rw [List.length_eraseIdx, s_ar_len, if_pos (by omega)]; omega) (fun i hi => ?_)
      rw [List.getElem?_eraseIdx, n2]
      by_cases cc : i < k.toNat
      · rw [if_pos cc, s_ar_get (by omega), if_neg (by omega)]
      · rw [if_neg cc, s_ar_get (by omega), if_pos (by omega)]
        rfl
    · unfold j_ok; rw [n1 4499 (by omega), q1]; omega
  · intro d2 i N k1 k2 ⟨n1, n2⟩ ih
    unfold WX12_offRank_12 VX12_offRank_12
    rw [n1 4499 (by omega), q1, s_w (x := 8 * t) (by omega) (by omega), s_w (x := 8 * t + i) (by omega) (by omega), s_w (x := 8 * t + i + 1) (by omega) (by omega), show (8 * t + i).toNat = 8 * t.toNat + i.toNat by omega, show (8 * t + i + 1).toNat = 8 * t.toNat + i.toNat + 1 by omega]
    refine ⟨ht, fun z => by omega, fun _ => ⟨by omega, by omega, fun M2 e2 => ?_⟩⟩
    rw [s_w (by omega) (by omega)]
    refine ih M2 ⟨fun b hb => by rw [e2, e_up_row hb, n1 b hb], fun j => ?_⟩
    rw [e2, e_up_at]
    by_cases c1 : j = 8 * t.toNat + i.toNat
    · rw [if_pos c1, n2, if_neg (by omega), if_pos (by omega), c1]
    · rw [if_neg c1, n2]
      by_cases c2 : 8 * t.toNat + k.toNat ≤ j ∧ j < 8 * t.toNat + i.toNat
      · rw [if_pos c2, if_pos (by omega)]
      · rw [if_neg c2, if_neg (by omega)]
theorem m_inOn {M : e_M} {t k x : Int} {Q : e_M → Prop} (ht : 0 ≤ t ∧ t < 560) (h : j_ok M 4492 t.toNat) (h7 : M 4492 t.toNat < 8) (hk : 0 ≤ k ∧ k ≤ M 4492 t.toNat) (hq : ∀ M', j_row M' 4492 4493 t.toNat = r_in (j_row M 4492 4493 t.toNat) k.toNat x → j_ok M' 4492 t.toNat → j_fr M M' 4492 4493 t.toNat → Q M') : WX12_inOn t k x M Q := by
  obtain ⟨h0, h8⟩ := id h
  have hl := j_row_len (c := 4493) h
  unfold WX12_inOn VX12_inOn
  refine ⟨ht, ?_⟩
  show ∃ j, WX12_inOn_8 Q j t k x (M 4492 t.toNat) M
  refine ⟨_, s_iter (σ := Int × e_M) (P := fun dd s => WX12_inOn_8 Q dd t k x s.1 s.2) (fun s => (s.1 - k).toNat) (fun s => (k ≤ s.1 ∧ s.1 ≤ M 4492 t.toNat) ∧ (∀ b, b ≠ 4493 → s.2 b = M b) ∧ ∀ j : Nat, s.2 4493 j = if 8 * t.toNat + s.1.toNat < j ∧ j ≤ 8 * t.toNat + (M 4492 t.toNat).toNat then M 4493 (j - 1) else M 4493 j) ?_ _ (M 4492 t.toNat, M) ⟨by dsimp only; omega, fun _ _ => rfl, fun j => by dsimp only; rw [if_neg (by omega)]⟩ (Nat.lt_succ_self _)⟩
  intro d2 ⟨i, N⟩ ⟨⟨i1, i2⟩, n1, n2⟩ ih
  dsimp only at i1 i2 n1 n2 ih ⊢
  unfold WX12_inOn_8 VX12_inOn_8
  rw [s_w (x := 8 * t) (by omega) (by omega), s_w (x := 8 * t + k) (by omega) (by omega), s_w (x := 8 * t + i) (by omega) (by omega), s_w (x := 8 * t + i - 1) (by omega) (by omega), show (8 * t + k).toNat = 8 * t.toNat + k.toNat by omega, show (8 * t + i).toNat = 8 * t.toNat + i.toNat by omega]
  refine ⟨fun le => ⟨by omega, fun M1 e1 => ⟨ht, ht, fun M2 e2 => ?_⟩⟩, fun lt => ⟨by omega, by omega, fun M3 e3 => ?_⟩⟩
  · have ei : i = k := by omega
    subst ei
    have q1 : M1 4492 = M 4492 := by rw [e1, e_up_row (by omega), n1 4492 (by omega)]
    rw [q1, s_w (by omega) (by omega)] at e2
    have q2 : M2 4492 t.toNat = M 4492 t.toNat + 1 := by rw [e2, e_up_eq]
    have c2 : ∀ j : Nat, M2 4493 j = if j = 8 * t.toNat + i.toNat then x else if 8 * t.toNat + i.toNat < j ∧ j ≤ 8 * t.toNat + (M 4492 t.toNat).toNat then M 4493 (j - 1) else M 4493 j := fun j => by rw [e2, e_up_row (by omega), e1, e_up_at, n2]
    refine hq M2 ?_ ?_ ⟨fun b b1 b2 => by rw [e2, e_up_row b1, e1, e_up_row b2, n1 b b2], fun u hu => by rw [e2, e_up_ne (fun z => hu z.2), q1], fun j hj => by rw [c2, if_neg (by omega), if_neg (by omega)]⟩
    · unfold j_row
      rw [q2]
      refine j_ar_ext (by omega) (by rw [r_in_len, s_ar_len]; omega) (fun j hj => ?_)
      rw [r_in_get (by rw [s_ar_len]; omega), c2]
      by_cases a1 : j < i.toNat
      · rw [if_pos a1, s_ar_get (by omega), if_neg (by omega), if_neg (by omega)]
      · rw [if_neg a1]
        by_cases a2 : j = i.toNat
        · rw [if_pos a2, if_pos (by omega)]
        · rw [if_neg a2, s_ar_get (by omega), if_neg (by omega), if_pos (by omega), show 8 * t.toNat + j - 1 = 8 * t.toNat + (j - 1) by omega]
    · unfold j_ok; rw [q2]; omega
  · rw [s_w (by omega) (by omega)]
    refine ih (i + -1, M3) ⟨by dsimp only; omega, fun b hb => by show M3 b = M b; rw [e3, e_up_row hb, n1 b hb], fun j => ?_⟩ (by dsimp only; omega)
    show M3 4493 j = if 8 * t.toNat + (i + -1).toNat < j ∧ _ then _ else _
    rw [e3, e_up_at, n2, n2]
    by_cases c1 : j = 8 * t.toNat + i.toNat
    · rw [if_pos c1, if_neg (by omega), if_pos (by omega), c1, show (8 * t + i - 1).toNat = 8 * t.toNat + i.toNat - 1 by omega]
    · rw [if_neg c1]
      by_cases c2 : 8 * t.toNat + i.toNat < j ∧ j ≤ 8 * t.toNat + (M 4492 t.toNat).toNat
      · rw [if_pos c2, if_pos (by omega)]
      · rw [if_neg c2, if_neg (by omega)]
theorem m_inOf {M : e_M} {t k x : Int} {Q : e_M → Prop} (ht : 0 ≤ t ∧ t < 560) (h : j_ok M 4494 t.toNat) (h7 : M 4494 t.toNat < 8) (hk : 0 ≤ k ∧ k ≤ M 4494 t.toNat) (hq : ∀ M', j_row M' 4494 4495 t.toNat = r_in (j_row M 4494 4495 t.toNat) k.toNat x → j_ok M' 4494 t.toNat → j_fr M M' 4494 4495 t.toNat → Q M') : WX12_inOf t k x M Q := by
  obtain ⟨h0, h8⟩ := id h
  have hl := j_row_len (c := 4495) h
  unfold WX12_inOf VX12_inOf
  refine ⟨ht, ?_⟩
  show ∃ j, WX12_inOf_8 Q j t k x (M 4494 t.toNat) M
  refine ⟨_, s_iter (σ := Int × e_M) (P := fun dd s => WX12_inOf_8 Q dd t k x s.1 s.2) (fun s => (s.1 - k).toNat) (fun s => (k ≤ s.1 ∧ s.1 ≤ M 4494 t.toNat) ∧ (∀ b, b ≠ 4495 → s.2 b = M b) ∧ ∀ j : Nat, s.2 4495 j = if 8 * t.toNat + s.1.toNat < j ∧ j ≤ 8 * t.toNat + (M 4494 t.toNat).toNat then M 4495 (j - 1) else M 4495 j) ?_ _ (M 4494 t.toNat, M) ⟨by dsimp only; omega, fun _ _ => rfl, fun j => by dsimp only; rw [if_neg (by omega)]⟩ (Nat.lt_succ_self _)⟩
  intro d2 ⟨i, N⟩ ⟨⟨i1, i2⟩, n1, n2⟩ ih
  dsimp only at i1 i2 n1 n2 ih ⊢
  unfold WX12_inOf_8 VX12_inOf_8
  rw [s_w (x := 8 * t) (by omega) (by omega), s_w (x := 8 * t + k) (by omega) (by omega), s_w (x := 8 * t + i) (by omega) (by omega), s_w (x := 8 * t + i - 1) (by omega) (by omega), show (8 * t + k).toNat = 8 * t.toNat + k.toNat by omega, show (8 * t + i).toNat = 8 * t.toNat + i.toNat by omega]
  refine ⟨fun le => ⟨by omega, fun M1 e1 => ⟨ht, ht, fun M2 e2 => ?_⟩⟩, fun lt => ⟨by omega, by omega, fun M3 e3 => ?_⟩⟩
  · have ei : i = k := by omega
    subst ei
    have q1 : M1 4494 = M 4494 := by rw [e1, e_up_row (by omega), n1 4494 (by omega)]
    rw [q1, s_w (by omega) (by omega)] at e2
    have q2 : M2 4494 t.toNat = M 4494 t.toNat + 1 := by rw [e2, e_up_eq]
    have c2 : ∀ j : Nat, M2 4495 j = if j = 8 * t.toNat + i.toNat then x else if 8 * t.toNat + i.toNat < j ∧ j ≤ 8 * t.toNat + (M 4494 t.toNat).toNat then M 4495 (j - 1) else M 4495 j := fun j => by rw [e2, e_up_row (by omega), e1, e_up_at, n2]
    refine hq M2 ?_ ?_ ⟨fun b b1 b2 => by rw [e2, e_up_row b1, e1, e_up_row b2, n1 b b2], fun u hu => by rw [e2, e_up_ne (fun z => hu z.2), q1], fun j hj => by rw [c2, if_neg (by omega), if_neg (by omega)]⟩
    · unfold j_row
      rw [q2]
      refine j_ar_ext (by omega) (by rw [r_in_len, s_ar_len]; omega) (fun j hj => ?_)
      rw [r_in_get (by rw [s_ar_len]; omega), c2]
      by_cases a1 : j < i.toNat
      · rw [if_pos a1, s_ar_get (by omega), if_neg (by omega), if_neg (by omega)]
      · rw [if_neg a1]
        by_cases a2 : j = i.toNat
        · rw [if_pos a2, if_pos (by omega)]
        · rw [if_neg a2, s_ar_get (by omega), if_neg (by omega), if_pos (by omega), show 8 * t.toNat + j - 1 = 8 * t.toNat + (j - 1) by omega]
    · unfold j_ok; rw [q2]; omega
  · rw [s_w (by omega) (by omega)]
    refine ih (i + -1, M3) ⟨by dsimp only; omega, fun b hb => by show M3 b = M b; rw [e3, e_up_row hb, n1 b hb], fun j => ?_⟩ (by dsimp only; omega)
    show M3 4495 j = if 8 * t.toNat + (i + -1).toNat < j ∧ _ then _ else _
    rw [e3, e_up_at, n2, n2]
    by_cases c1 : j = 8 * t.toNat + i.toNat
    · rw [if_pos c1, if_neg (by omega), if_pos (by omega), c1, show (8 * t + i - 1).toNat = 8 * t.toNat + i.toNat - 1 by omega]
    · rw [if_neg c1]
      by_cases c2 : 8 * t.toNat + i.toNat < j ∧ j ≤ 8 * t.toNat + (M 4494 t.toNat).toNat
      · rw [if_pos c2, if_pos (by omega)]
      · rw [if_neg c2, if_neg (by omega)]
