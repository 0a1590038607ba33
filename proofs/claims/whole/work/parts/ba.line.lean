/-! the line of DEEDS: sorted by DAY -/
def v_at (L : List Int) (j : Nat) : Int := L[j]?.getD 0
theorem v_at_mem {L : List Int} {j : Nat} (h : j < L.length) : v_at L j ∈ L := by
  unfold v_at
  rw [List.getElem?_eq_getElem h]
  exact List.getElem_mem h
theorem v_pos_gt {D : Int → Int} {L : List Int} {d : Int} : ∀ {n j : Nat}, v_pos D L d n ≤ j → j < n → d < D (v_at L j)
  | 0, _, _, h => by omega
  | n + 1, j, h1, h2 => by
    unfold v_pos at h1
    by_cases c : d < D (L[n]?.getD 0)
    · rw [if_pos c] at h1
      by_cases e : j = n
      · rw [e]; exact c
      · exact v_pos_gt (n := n) h1 (by omega)
    · rw [if_neg c] at h1
      omega
theorem v_pos_le2 {D : Int → Int} {L : List Int} {d : Int} : ∀ {n : Nat}, 0 < v_pos D L d n → D (v_at L (v_pos D L d n - 1)) ≤ d
  | 0, h => by unfold v_pos at h; omega
  | n + 1, h => by
    unfold v_pos at h ⊢
    by_cases c : d < D (L[n]?.getD 0)
    · rw [if_pos c] at h ⊢
      exact v_pos_le2 (n := n) h
    · rw [if_neg c] at h ⊢
      have : D (v_at L n) ≤ d := Int.not_lt.mp c
      exact this
def v_srt (D : Int → Int) (L : List Int) : Prop := ∀ i j : Nat, i ≤ j → j < L.length → D (v_at L i) ≤ D (v_at L j)
theorem v_at_in {L : List Int} {p j : Nat} {x : Int} (h : p ≤ L.length) : v_at (r_in L p x) j = if j < p then v_at L j else if j = p then x else v_at L (j - 1) := by
  unfold v_at
  rw [r_in_get h]
  by_cases c1 : j < p
  · rw [if_pos c1, if_pos c1]
  · rw [if_neg c1, if_neg c1]
    by_cases c2 : j = p
    · rw [if_pos c2, if_pos c2]; rfl
    · rw [if_neg c2, if_neg c2]
theorem v_put_srt {D : Int → Int} {L : List Int} {x : Int} (h : v_srt D L) : v_srt D (v_put D L x) := by
  intro i j hij hj
  unfold v_put at hj ⊢
  rw [r_in_len] at hj
  have hp : v_pos D L (D x) L.length ≤ L.length := v_pos_le
  have gt : ∀ j, v_pos D L (D x) L.length ≤ j → j < L.length → D x < D (v_at L j) := fun j h1 h2 => v_pos_gt h1 h2
  have le := v_pos_le2 (D := D) (L := L) (d := D x) (n := L.length)
  generalize v_pos D L (D x) L.length = p at *
  rw [v_at_in hp, v_at_in hp]
  by_cases c1 : i < p
  · rw [if_pos c1]
    by_cases d1 : j < p
    · rw [if_pos d1]; exact h i j hij (by omega)
    · rw [if_neg d1]
      have l1 := h i (p - 1) (by omega) (by omega)
      have l2 := le (by omega)
      by_cases d2 : j = p
      · rw [if_pos d2]; omega
      · rw [if_neg d2]
        have := gt (j - 1) (by omega) (by omega)
        omega
  · rw [if_neg c1, if_neg (show ¬ j < p by omega)]
    by_cases c2 : i = p
    · rw [if_pos c2]
      by_cases d2 : j = p
      · rw [if_pos d2]; exact Int.le_refl _
      · rw [if_neg d2]
        have := gt (j - 1) (by omega) (by omega)
        omega
    · rw [if_neg c2, if_neg (show ¬ j = p by omega)]
      exact h (i - 1) (j - 1) (by omega) (by omega)
theorem v_ln_srt {D : Int → Int} {F : Nat → Int} {day : Int} : ∀ {n : Nat}, v_srt D (v_ln D F day n)
  | 0 => fun i j _ h => by unfold v_ln at h; exact absurd h (Nat.not_lt_zero _)
  | n + 1 => by
    unfold v_ln
    split
    · exact v_put_srt v_ln_srt
    · exact v_ln_srt
theorem v_ln_mem2 {D : Int → Int} {F : Nat → Int} {day y : Int} : ∀ {n : Nat}, y ∈ v_ln D F day n → F y.toNat = 0 ∧ D y ≤ day
  | 0, h => by cases h
  | n + 1, h => by
    unfold v_ln at h
    split at h
    · next c =>
      rcases r_in_mem h with e | e
      · rw [e, show ((n : Nat) : Int).toNat = n by omega]; exact c
      · exact v_ln_mem2 e
    · exact v_ln_mem2 h
/-- a run over the DEEDS in their line: what becomes of the World, of the fates, of the count -/
def v_run (V : Nat → v_D) : List (Nat × Nat) → Int → w_S → (Nat → Int) → Int → w_S → (Nat → Int) → Int → Prop
  | [], _, S, F, c, S', F', c' => S' = S ∧ F' = F ∧ c' = c
  | q :: ds, a, S, F, c, S', F', c' => ∃ X, X_perf V S q.1 a X ∧ v_run V ds (a + 1) X.2 (s_fu F q.2 X.1) (if X.1 = 0 then c + 1 else c) S' F' c'
/-- an invariant of Worlds along such a run -/
def I_good (G : w_S → Prop) (V : Nat → v_D) (U : Nat → Prop) (I : Int → w_S → Prop) : Prop := (∀ a S, I a S → R_z S ∧ w_rg S) ∧ (∀ a S day, I a S → S.2.2.2 ≤ day → day ≤ 219144 → I_w G V (d_set S day)) ∧ ∀ a S d X, I a S → U d → v_ok (V d) → S.2.2.2 ≤ (V d).1 4 → X_perf V S d a X → I (a + 1) X.2
