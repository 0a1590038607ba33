/-! the class's Row -/
def s_row (M : e_M) (a : Nat) : List Int := s_ar (M (a + 1)) (M a 1)
def s_rok (M : e_M) (a : Nat) : Prop := 0 ≤ M a 1 ∧ M a 1 ≤ 8
theorem s_row_len {M : e_M} {a : Nat} (h : s_rok M a) : ((s_row M a).length : Int) = M a 1 := by unfold s_row; rw [s_ar_len]; have := h.1; omega
theorem s_row_congr {M M' : e_M} {a : Nat} (h1 : M' a = M a) (h2 : M' (a + 1) = M (a + 1)) : s_row M' a = s_row M a := by unfold s_row; rw [h1, h2]
theorem s_rok_congr {M M' : e_M} {a : Nat} (h1 : M' a = M a) (h : s_rok M a) : s_rok M' a := by unfold s_rok; rw [h1]; exact h
theorem s_row_at {M : e_M} {a i : Nat} (h : (i : Int) < M a 1) : (s_row M a)[i]? = some (M (a + 1) i) := s_ar_get (by omega)
theorem c_find {M : e_M} {a : Nat} {x : Int} {Q : Int → Prop} (h : s_rok M a) (hq : Q (r_find (s_row M a) x)) : WX8_find a x M Q := by
  obtain ⟨h0, h8⟩ := h
  have key : ∀ (d : Nat) (i : Int), 0 ≤ i → i ≤ M a 1 → M a 1 - i = d → (∀ j : Nat, (j : Int) < i → M (a + 1) j ≠ x) → WX8_find_2 M Q (d + 1) a x i := by
    intro d
    induction d with
    | zero =>
      intro i h1 h2 h3 h4
      refine ⟨fun _ => ?_, fun h => by omega⟩
      rw [r_find_no (l := s_row M a) (x := x) (fun e => by
        obtain ⟨j, hj, e⟩ := s_ar_mem.mp e
        exact h4 j (by omega) e)] at hq
      exact hq
    | succ d ih =>
      intro i h1 h2 h3 h4
      refine ⟨fun h => by omega, fun h => ⟨⟨h1, by omega⟩, fun hne => ?_, fun he => ?_⟩⟩
      · rw [s_w (by omega) (by omega)]
        refine ih (i + 1) (by omega) (by omega) (by omega) (fun j hj => ?_)
        by_cases e : (j : Int) = i
        · rw [show j = i.toNat by omega]; exact hne
        · exact h4 j (by omega)
      · rw [r_find_at (l := s_row M a) (x := x) (i := i.toNat) (by rw [← he]; exact s_ar_get (by omega)) (fun j hj e => by
          have hg := s_ar_get (f := M (a + 1)) (n := M a 1) (i := j) (by omega)
          exact h4 j (by omega) (Option.some.inj (hg.symm.trans e))), Int.toNat_of_nonneg h1] at hq
        exact hq
  exact ⟨(M a 1).toNat + 1, key (M a 1).toNat 0 (by omega) (by omega) (by omega) (fun j hj => by omega)⟩
theorem c_has {M : e_M} {a : Nat} {x : Int} {Q : Int → Prop} (h : s_rok M a) (h1 : x ∈ s_row M a → Q 1) (h2 : x ∉ s_row M a → Q 0) : WX8_has a x M Q := by
  refine c_find h ⟨fun h => ?_, fun h => ?_⟩
  · exact h2 (fun e => by have := r_find_mem.mpr e; omega)
  · exact h1 (r_find_mem.mp h)
def r_get (l : List Int) (i : Int) : Int := if 0 ≤ i then (l[i.toNat]?).getD (-1) else -1
theorem c_rget {M : e_M} {a : Nat} {i : Int} {Q : Int → Prop} (h : s_rok M a) (hq : Q (r_get (s_row M a) i)) : WX8_get a i M Q := by
  obtain ⟨h0, h8⟩ := h
  unfold r_get at hq
  refine ⟨fun h => ?_, fun h => ⟨fun h1 => ?_, fun h1 => ⟨⟨h, by omega⟩, ?_⟩⟩⟩
  · rw [if_neg (by omega)] at hq; exact hq
  · rw [if_pos h, show (s_row M a)[i.toNat]? = none from s_ar_none (by omega)] at hq; exact hq
  · rw [if_pos h, show (s_row M a)[i.toNat]? = some _ from s_ar_get (by omega)] at hq; exact hq
/-- a number put in at a place -/
def r_in (l : List Int) (k : Nat) (x : Int) : List Int := l.take k ++ x :: l.drop k
theorem r_in_len {l : List Int} {k : Nat} {x : Int} : (r_in l k x).length = l.length + 1 := by
  unfold r_in
  simp only [List.length_append, List.length_cons, List.length_take, List.length_drop]
  omega
theorem r_in_get {l : List Int} {k j : Nat} {x : Int} (h : k ≤ l.length) : (r_in l k x)[j]? = if j < k then l[j]? else if j = k then some x else l[j - 1]? := by
  unfold r_in
  rw [List.getElem?_append, List.length_take, Nat.min_eq_left h]
  split
  · rename_i h1; rw [List.getElem?_take_of_lt h1]
  · rename_i h1
    split
    · rename_i h2; subst h2; rw [Nat.sub_self]; rfl
    · rename_i h2
      rw [show j - k = (j - k - 1) + 1 by omega, List.getElem?_cons_succ, List.getElem?_drop]
      congr 1; omega
/-- Row.insert -/
def r_ins (l : List Int) (k x : Int) : List Int := if k < 0 ∨ (l.length : Int) < k ∨ 8 ≤ l.length then l else r_in l k.toNat x
theorem c_insert {M : e_M} {a : Nat} {k x : Int} {Q : e_M → Prop} (h : s_rok M a) (hq : ∀ M', s_row M' a = r_ins (s_row M a) k x → s_rok M' a → M' a 0 = M a 0 → (∀ b, b ≠ a → b ≠ a + 1 → M' b = M b) → Q M') : WX8_insert a k x M Q := by
  have hl := s_row_len h
  have same : (k < 0 ∨ ((s_row M a).length : Int) < k ∨ 8 ≤ (s_row M a).length) → Q M := fun e => hq M (by unfold r_ins; rw [if_pos e]) h rfl (fun _ _ _ => rfl)
  obtain ⟨h0, h8⟩ := id h
  refine ⟨fun e => same (Or.inl e), fun e1 => ⟨fun e => same (Or.inr (Or.inl (by omega))), fun e2 => ⟨fun e3 => ?_, fun e => same (Or.inr (Or.inr (by omega)))⟩⟩⟩
  have key : ∀ (d : Nat) (i : Int) (N : e_M), k ≤ i → i ≤ M a 1 → i - k = d → (∀ b, b ≠ a + 1 → N b = M b) → (∀ j : Nat, N (a + 1) j = if i < j ∧ (j : Int) ≤ M a 1 then M (a + 1) (j - 1) else M (a + 1) j) → WX8_insert_27 Q (d + 1) a k x i N := by
    intro d
    induction d with
    | zero =>
      intro i N h1 h2 h3 h4 h5
      refine ⟨fun _ => ⟨⟨by omega, by omega⟩, fun M1 e1' M2 e2' => ?_⟩, fun h => by omega⟩
      have ek : i = k := by omega
      subst ek
      have r1 : M1 a = M a := by rw [e1', e_up_row (by omega), h4 a (by omega)]
      have q1 : M2 a 1 = M a 1 + 1 := by rw [e2', e_up_eq, r1, s_w (by omega) (by omega)]
      have q0 : M2 (a + 1) = M1 (a + 1) := by rw [e2', e_up_row (by omega)]
      refine hq M2 ?_ ⟨by omega, by omega⟩ (by rw [e2', e_up_ne (by omega), r1]) (fun b hb hb1 => by rw [e2', e_up_row hb, e1', e_up_row hb1, h4 b hb1])
      unfold r_ins
      rw [if_neg (by omega)]
      refine s_ar_ext (by rw [r_in_len]; omega) (fun j hj => ?_)
      rw [r_in_get (by omega), q0, e1']
      unfold e_up
      by_cases c1 : j < i.toNat
      · rw [if_pos c1, s_row_at (by omega), if_neg (by omega), h5, if_neg (by omega)]
      · rw [if_neg c1]
        by_cases c2 : j = i.toNat
        · rw [if_pos c2, if_pos ⟨rfl, c2⟩]
        · rw [if_neg c2, s_row_at (by omega), if_neg (by omega), h5, if_pos ⟨by omega, by omega⟩]
    | succ d ih =>
      intro i N h1 h2 h3 h4 h5
      have w1 : e_w32 (i - 1) = i - 1 := s_w (by omega) (by omega)
      have w2 : e_w32 (i + -1) = i - 1 := s_w (by omega) (by omega)
      refine ⟨fun h => by omega, fun h => ?_⟩
      rw [w1, w2]
      refine ⟨⟨by omega, by omega⟩, ⟨by omega, by omega⟩, fun M3 e3' => ih (i - 1) M3 (by omega) (by omega) (by omega) (fun b hb => by rw [e3', e_up_row hb, h4 b hb]) (fun j => ?_)⟩
      rw [e3']
      unfold e_up
      by_cases c1 : j = i.toNat
      · rw [if_pos ⟨rfl, c1⟩, if_pos ⟨by omega, by omega⟩, h5, if_neg (by omega)]
        congr 1; omega
      · rw [if_neg (fun z => c1 z.2), h5]
        by_cases c2 : i < j ∧ (j : Int) ≤ M a 1
        · rw [if_pos c2, if_pos ⟨by omega, by omega⟩]
        · rw [if_neg c2, if_neg (by omega)]
  exact ⟨(M a 1 - k).toNat + 1, key (M a 1 - k).toNat (M a 1) M (by omega) (by omega) (by omega) (fun _ _ => rfl) (fun j => by rw [if_neg (by omega)])⟩
theorem r_ins_end {l : List Int} {x : Int} (h : l.length < 8) : r_ins l l.length x = l ++ [x] := by
  unfold r_ins
  rw [if_neg (by omega)]
  unfold r_in
  rw [Int.toNat_natCast, List.take_length, List.drop_length]
/-- Row.add -/
def r_add (l : List Int) (x : Int) : List Int := r_ins l l.length x
theorem c_radd {M : e_M} {a : Nat} {x : Int} {Q : e_M → Prop} (h : s_rok M a) (hq : ∀ M', s_row M' a = r_add (s_row M a) x → s_rok M' a → M' a 0 = M a 0 → (∀ b, b ≠ a → b ≠ a + 1 → M' b = M b) → Q M') : WX8_add a x M Q := by
  refine c_insert h (fun M' q1 q2 q3 q4 => hq M' ?_ q2 q3 q4)
  rw [q1]
  unfold r_add
  rw [s_row_len h]
/-- Row.remove -/
def r_del (l : List Int) (x : Int) : List Int := if r_find l x < 0 then l else l.eraseIdx (r_find l x).toNat
theorem r_del_len {l : List Int} {x : Int} : (r_del l x).length = if x ∈ l then l.length - 1 else l.length := by
  unfold r_del
  have h1 := r_find_mem (l := l) (x := x)
  have h2 := r_find_lt (l := l) (x := x)
  by_cases h : x ∈ l
  · rw [if_pos h, if_neg (by have := h1.mpr h; omega), List.length_eraseIdx, if_pos (by have := h1.mpr h; omega)]
  · rw [if_neg h, if_pos (by
      have : ¬ 0 ≤ r_find l x := fun e => h (h1.mp e)
      omega)]
theorem c_remove {M : e_M} {a : Nat} {x : Int} {Q : e_M → Prop} (h : s_rok M a) (hq : ∀ M', s_row M' a = r_del (s_row M a) x → s_rok M' a → M' a 0 = M a 0 → (∀ b, b ≠ a → b ≠ a + 1 → M' b = M b) → Q M') : WX8_remove a x M Q := by
  have hl := s_row_len h
  have hlt := r_find_lt (l := s_row M a) (x := x)
  refine c_find h ⟨fun e1 M2 e2 => ?_, fun e => hq M (by unfold r_del; rw [if_pos e]) h rfl (fun _ _ _ => rfl)⟩
  obtain ⟨h0, h8⟩ := id h
  have r1 : M2 (a + 1) = M (a + 1) := by rw [e2, e_up_row (by omega)]
  have q1 : M2 a 1 = M a 1 - 1 := by rw [e2, e_up_eq, s_w (by omega) (by omega)]
  have q0 : M2 a 0 = M a 0 := by rw [e2, e_up_ne (by omega)]
  generalize hr : r_find (s_row M a) x = r at *
  have key : ∀ (d : Nat) (i : Int) (N : e_M), r ≤ i → i ≤ M a 1 - 1 → M a 1 - 1 - i = d → (∀ b, b ≠ a + 1 → N b = M2 b) → (∀ j : Nat, N (a + 1) j = if r ≤ j ∧ (j : Int) < i then M (a + 1) (j + 1) else M (a + 1) j) → WX8_remove_23 Q (d + 1) a i N := by
    intro d
    induction d with
    | zero =>
      intro i N h1 h2 h3 h4 h5
      have ea : N a = M2 a := h4 a (by omega)
      refine ⟨fun _ => ?_, fun h => by rw [ea, q1] at h; omega⟩
      refine hq N ?_ ⟨by rw [ea]; omega, by rw [ea]; omega⟩ (by rw [ea, q0]) (fun b hb hb1 => by rw [h4 b hb1, e2, e_up_row hb])
      unfold r_del
      rw [hr, if_neg (by omega)]
      refine s_ar_ext (by rw [List.length_eraseIdx, if_pos (by omega), ea, q1]; omega) (fun j hj => ?_)
      rw [ea, q1] at hj
      rw [List.getElem?_eraseIdx, h5]
      by_cases c : j < r.toNat
      · rw [if_pos c, s_row_at (by omega), if_neg (by omega)]
      · rw [if_neg c, s_row_at (by omega), if_pos ⟨by omega, by omega⟩]
    | succ d ih =>
      intro i N h1 h2 h3 h4 h5
      have ea : N a = M2 a := h4 a (by omega)
      have w1 : e_w32 (i + 1) = i + 1 := s_w (by omega) (by omega)
      refine ⟨fun h => by rw [ea, q1] at h; omega, fun h => ?_⟩
      rw [w1]
      refine ⟨⟨by omega, by omega⟩, ⟨by omega, by omega⟩, fun M3 e3 => ih (i + 1) M3 (by omega) (by omega) (by omega) (fun b hb => by rw [e3, e_up_row hb, h4 b hb]) (fun j => ?_)⟩
      rw [e3]
      unfold e_up
      by_cases c1 : j = i.toNat
      · rw [if_pos ⟨rfl, c1⟩, if_pos ⟨by omega, by omega⟩, h5, if_neg (by omega)]
        congr 1; omega
      · rw [if_neg (fun z => c1 z.2), h5]
        by_cases c2 : r ≤ j ∧ (j : Int) < i
        · rw [if_pos c2, if_pos ⟨by omega, by omega⟩]
        · rw [if_neg c2, if_neg (by omega)]
  exact ⟨(M a 1 - 1 - r).toNat + 1, key (M a 1 - 1 - r).toNat r M2 (by omega) (by omega) (by omega) (fun _ _ => rfl) (fun j => by rw [if_neg (by omega), r1])⟩
