/-! small lemmas for the proofs over the words -/
theorem s_w {x : Int} (h1 : -2147483648 ≤ x) (h2 : x < 2147483648) : e_w32 x = x := e_w32_id ⟨h1, h2⟩
theorem s_wj {x : Int} (h1 : -9223372036854775808 ≤ x) (h2 : x < 9223372036854775808) : e_w64 x = x := e_w64_id ⟨h1, h2⟩
/-- the first n of a row -/
def s_ar {α : Type} (f : Nat → α) (n : Int) : List α := (List.range n.toNat).map f
theorem s_ar_len {α : Type} {f : Nat → α} {n : Int} : (s_ar f n).length = n.toNat := by unfold s_ar; rw [List.length_map, List.length_range]
theorem s_ar_get {α : Type} {f : Nat → α} {n : Int} {i : Nat} (h : i < n.toNat) : (s_ar f n)[i]? = some (f i) := by
  unfold s_ar
  rw [List.getElem?_map, List.getElem?_range h]; rfl
theorem s_ar_none {α : Type} {f : Nat → α} {n : Int} {i : Nat} (h : n.toNat ≤ i) : (s_ar f n)[i]? = none := List.getElem?_eq_none (by rw [s_ar_len]; exact h)
theorem s_ar_ext {α : Type} {f : Nat → α} {n : Int} {l : List α} (h1 : l.length = n.toNat) (h2 : ∀ i, i < n.toNat → l[i]? = some (f i)) : s_ar f n = l := by
  apply List.ext_getElem?
  intro i
  by_cases hi : i < n.toNat
  · rw [s_ar_get hi, h2 i hi]
  · rw [s_ar_none (by omega), List.getElem?_eq_none (by omega)]
theorem s_ar_congr {α : Type} {f g : Nat → α} {n : Int} (h : ∀ i, i < n.toNat → f i = g i) : s_ar f n = s_ar g n := s_ar_ext s_ar_len (fun i hi => by rw [s_ar_get hi, h i hi])
theorem s_ar_map {α β : Type} {f : Nat → α} {n : Int} {g : α → β} : (s_ar f n).map g = s_ar (fun i => g (f i)) n := by unfold s_ar; rw [List.map_map]; rfl
theorem s_ar_mem {α : Type} {f : Nat → α} {n : Int} {x : α} : x ∈ s_ar f n ↔ ∃ i, i < n.toNat ∧ f i = x := by
  unfold s_ar
  simp [List.mem_map, List.mem_range]
theorem s_ar_succ {α : Type} {f : Nat → α} {n : Int} (h : 0 ≤ n) : s_ar f (n + 1) = s_ar f n ++ [f n.toNat] := by
  unfold s_ar
  rw [show (n + 1).toNat = n.toNat + 1 by omega, List.range_succ, List.map_append]; rfl
/-- where a number stands first, or -1 -/
def r_find (l : List Int) (x : Int) : Int := match l.findIdx? (fun y => y == x) with
  | some i => (i : Int)
  | none => -1
theorem r_find_at {l : List Int} {x : Int} {i : Nat} (h : l[i]? = some x) (h2 : ∀ j, j < i → l[j]? ≠ some x) : r_find l x = (i : Int) := by
  unfold r_find
  have : l.findIdx? (fun y => y == x) = some i := by
    rw [List.findIdx?_eq_some_iff_getElem]
    obtain ⟨hi, e⟩ := List.getElem?_eq_some_iff.mp h
    refine ⟨hi, by simp [e], fun j hj => ?_⟩
    have := h2 j hj
    rw [List.getElem?_eq_getElem (by omega)] at this
    simpa using this
  rw [this]
theorem r_find_no {l : List Int} {x : Int} (h : x ∉ l) : r_find l x = -1 := by
  unfold r_find
  have : l.findIdx? (fun y => y == x) = none := by
    rw [List.findIdx?_eq_none_iff]
    intro y hy
    have : ¬ y = x := fun e => h (e ▸ hy)
    simpa using this
  rw [this]
theorem r_find_cases (l : List Int) (x : Int) : (x ∉ l ∧ r_find l x = -1) ∨ ∃ i : Nat, i < l.length ∧ l[i]? = some x ∧ (∀ j, j < i → l[j]? ≠ some x) ∧ r_find l x = (i : Int) := by
  unfold r_find
  cases h : l.findIdx? (fun y => y == x) with
  | none =>
    left
    rw [List.findIdx?_eq_none_iff] at h
    exact ⟨fun e => by simpa using h x e, rfl⟩
  | some i =>
    right
    rw [List.findIdx?_eq_some_iff_getElem] at h
    obtain ⟨hi, e, h2⟩ := h
    refine ⟨i, hi, by rw [List.getElem?_eq_getElem hi]; simpa using e, fun j hj => ?_, rfl⟩
    have := h2 j hj
    rw [List.getElem?_eq_getElem (by omega)]
    simpa using this
theorem r_find_lt {l : List Int} {x : Int} : r_find l x < l.length := by
  rcases r_find_cases l x with ⟨-, e⟩ | ⟨i, hi, -, -, e⟩ <;> rw [e] <;> omega
theorem r_find_ge {l : List Int} {x : Int} : -1 ≤ r_find l x := by
  rcases r_find_cases l x with ⟨-, e⟩ | ⟨i, hi, -, -, e⟩ <;> rw [e] <;> omega
theorem r_find_mem {l : List Int} {x : Int} : 0 ≤ r_find l x ↔ x ∈ l := by
  rcases r_find_cases l x with ⟨h, e⟩ | ⟨i, hi, h, -, e⟩
  · rw [e]; constructor
    · omega
    · exact fun z => (h z).elim
  · rw [e]; constructor
    · exact fun _ => List.mem_of_getElem? h
    · omega
/-- a search along a row: the words of one round give those of the whole -/
theorem s_search {P : Nat → Int → Prop} {n : Int} (hn : 0 ≤ n) (step : ∀ (d : Nat) (i : Int), 0 ≤ i → i ≤ n → (i < n → P d (i + 1)) → P (d + 1) i) : ∃ j, P j 0 := by
  have key : ∀ (d : Nat) (i : Int), 0 ≤ i → i ≤ n → n - i = d → P (d + 1) i := by
    intro d
    induction d with
    | zero => exact fun i h1 h2 h3 => step 0 i h1 h2 (fun h => by omega)
    | succ d ih => exact fun i h1 h2 h3 => step (d + 1) i h1 h2 (fun h => ih (i + 1) (by omega) (by omega) (by omega))
  exact ⟨n.toNat + 1, key n.toNat 0 (by omega) hn (by omega)⟩
