/-! an ACT looks at what its known NAMES stand for, and at nothing else of ss and r -/
theorem X_act_c {V : Nat → v_D} {S : w_S} {ss ss' r r' : Nat → Int} {d : Nat} {at_ : Int} (hv : v_ok (V d)) (hp : (((V d).2.2.2.1).length : Int) = (V d).1 15) (h : ∀ k : Nat, (k : Int) < (V d).1 7 → (V d).2.2.1 k ≠ 10 → ss k = ss' k ∧ r k = r' k) : X_act V S ss r d at_ = X_act V S ss' r' d at_ := by
  have q : ∀ k : Nat, ∀ v : Int, (v_ws ((V d).1 3) ((V d).1 7))[k]? = some v → v ≠ 10 → ss k = ss' k ∧ r k = r' k := fun k v hw h10 => by
    have t := hv.2.1.2 k
    rw [hw] at t
    by_cases c : (k : Int) < (V d).1 7
    · rw [if_pos c] at t
      have e : (V d).2.2.1 k = v := (Option.some.inj t).symm
      exact h k c (by rw [e]; exact h10)
    · rw [if_neg c] at t; cases t
  have al : ∀ k : Nat, (k : Int) < (V d).1 7 → (∀ v, (v_ws ((V d).1 3) ((V d).1 7))[k]? = some v → v ≠ 10) → r k = r' k := fun k hk n => by
    have t := hv.2.1.2 k
    rw [if_pos hk] at t
    exact (q k _ t (n _ t)).2
  have h2 := hv.2.2.1
  have hac := hv.1
  have hca : (V d).1 3 = 200 ∨ (V d).1 3 = 201 ∨ (V d).1 3 = 202 ∨ (V d).1 3 = 203 ∨ (V d).1 3 = 204 ∨ (V d).1 3 = 205 ∨ (V d).1 3 = 206 ∨ (V d).1 3 = 207 ∨ (V d).1 3 = 208 ∨ (V d).1 3 = 209 ∨ (V d).1 3 = 210 ∨ (V d).1 3 = 211 ∨ (V d).1 3 = 212 ∨ (V d).1 3 = 213 ∨ (V d).1 3 = 214 ∨ (V d).1 3 = 215 ∨ (V d).1 3 = 216 ∨ (V d).1 3 = 217 ∨ (V d).1 3 = 218 ∨ (V d).1 3 = 219 ∨ (V d).1 3 = 220 ∨ (V d).1 3 = 221 := by omega
  rcases hca with ca | ca | ca | ca | ca | ca | ca | ca | ca | ca | ca | ca | ca | ca | ca | ca | ca | ca | ca | ca | ca | ca
  · have eX : ∀ s r, X_act V S s r d at_ = X_person V S d at_ := fun s r => by simp only [X_act, ca, Int.reduceEq, ↓reduceIte]
    rw [eX, eX]
  · have eX : ∀ s r, X_act V S s r d at_ = X_firm V S r d at_ := fun s r => by simp only [X_act, ca, Int.reduceEq, ↓reduceIte]
    rw [eX, eX]
    have e1 := q 1 _ (by rw [ca]; rfl) (by decide)
    unfold X_firm
    simp only [e1.2]
  · have eX : ∀ s r, X_act V S s r d at_ = X_guard S r := fun s r => by simp only [X_act, ca, Int.reduceEq, ↓reduceIte]
    rw [eX, eX]
    have e0 := q 0 _ (by rw [ca]; rfl) (by decide)
    have e1 := q 1 _ (by rw [ca]; rfl) (by decide)
    unfold X_guard
    simp only [e0.2, e1.2]
  · have eX : ∀ s r, X_act V S s r d at_ = X_die V S r d := fun s r => by simp only [X_act, ca, Int.reduceEq, ↓reduceIte]
    rw [eX, eX]
    refine X_die_c (h2.2.1 ca) hp (fun k k2 => al k k2 (fun v hw => ?_))
    rw [ca] at hw
    have m := List.mem_of_getElem? hw
    have m : v ∈ (11 : Int) :: List.replicate ((V d).1 7 - 1).toNat 1 := m
    simp only [List.mem_cons, List.mem_replicate] at m
    omega
  · have eX : ∀ s r, X_act V S s r d at_ = X_close S r := fun s r => by simp only [X_act, ca, Int.reduceEq, ↓reduceIte]
    rw [eX, eX]
    have e0 := q 0 _ (by rw [ca]; rfl) (by decide)
    unfold X_close
    simp only [e0.2]
  · have eX : ∀ s r, X_act V S s r d at_ = X_sell V S r d at_ := fun s r => by simp only [X_act, ca, Int.reduceEq, ↓reduceIte]
    rw [eX, eX]
    refine X_sell_c (h2.2.2.1 ca) hp (fun k k2 => al k k2 (fun v hw => ?_))
    rw [ca] at hw
    have m := List.mem_of_getElem? hw
    have m : v ∈ (0 : Int) :: 1 :: List.replicate ((V d).1 7 - 2).toNat 1 := m
    simp only [List.mem_cons, List.mem_replicate] at m
    omega
  · have eX : ∀ s r, X_act V S s r d at_ = X_split V S r d := fun s r => by simp only [X_act, ca, Int.reduceEq, ↓reduceIte]
    rw [eX, eX]
    have e0 := q 0 _ (by rw [ca]; rfl) (by decide)
    unfold X_split
    simp only [e0.2]
  · have eX : ∀ s r, X_act V S s r d at_ = X_join V S r d := fun s r => by simp only [X_act, ca, Int.reduceEq, ↓reduceIte]
    rw [eX, eX]
    have e0 := q 0 _ (by rw [ca]; rfl) (by decide)
    have e1 := q 1 _ (by rw [ca]; rfl) (by decide)
    unfold X_join X_join1 X_join2
    simp only [e0.2, e1.2]
  · have eX : ∀ s r, X_act V S s r d at_ = X_border V S r d := fun s r => by simp only [X_act, ca, Int.reduceEq, ↓reduceIte]
    rw [eX, eX]
    have e0 := q 0 _ (by rw [ca]; rfl) (by decide)
    have e1 := q 1 _ (by rw [ca]; rfl) (by decide)
    unfold X_border X_border1 X_border2
    simp only [e0.2, e1.2]
  · have eX : ∀ s r, X_act V S s r d at_ = X_charge V S r d at_ := fun s r => by simp only [X_act, ca, Int.reduceEq, ↓reduceIte]
    rw [eX, eX]
    refine X_charge_c (h2.2.2.2 ca) (fun k k1 k2 => al k k2 (fun v hw => ?_))
    rw [ca] at hw
    obtain ⟨j, rfl⟩ : ∃ j, k = j + 1 := ⟨k - 1, by omega⟩
    have hw : (List.replicate ((V d).1 7 - 2).toNat (0 : Int) ++ [1])[j]? = some v := hw
    have m := List.mem_of_getElem? hw
    rw [List.mem_append, List.mem_replicate, List.mem_singleton] at m
    omega
  · have eX : ∀ s r, X_act V S s r d at_ = X_pay V S r d := fun s r => by simp only [X_act, ca, Int.reduceEq, ↓reduceIte]
    rw [eX, eX]
    have e0 := q 0 _ (by rw [ca]; rfl) (by decide)
    unfold X_pay
    simp only [e0.2]
  · have eX : ∀ s r, X_act V S s r d at_ = X_assign S r := fun s r => by simp only [X_act, ca, Int.reduceEq, ↓reduceIte]
    rw [eX, eX]
    have e0 := q 0 _ (by rw [ca]; rfl) (by decide)
    have e1 := q 1 _ (by rw [ca]; rfl) (by decide)
    unfold X_assign
    simp only [e0.2, e1.2]
  · have eX : ∀ s r, X_act V S s r d at_ = X_rank S r := fun s r => by simp only [X_act, ca, Int.reduceEq, ↓reduceIte]
    rw [eX, eX]
    have e0 := q 0 _ (by rw [ca]; rfl) (by decide)
    have e1 := q 1 _ (by rw [ca]; rfl) (by decide)
    have e2 := q 2 _ (by rw [ca]; rfl) (by decide)
    unfold X_rank
    simp only [e0.2, e1.2, e2.2]
  · have eX : ∀ s r, X_act V S s r d at_ = X_free S r := fun s r => by simp only [X_act, ca, Int.reduceEq, ↓reduceIte]
    rw [eX, eX]
    have e0 := q 0 _ (by rw [ca]; rfl) (by decide)
    have e1 := q 1 _ (by rw [ca]; rfl) (by decide)
    unfold X_free
    simp only [e0.2, e1.2]
  · have eX : ∀ s r, X_act V S s r d at_ = X_auction V S r d := fun s r => by simp only [X_act, ca, Int.reduceEq, ↓reduceIte]
    rw [eX, eX]
    have e0 := q 0 _ (by rw [ca]; rfl) (by decide)
    have e1 := q 1 _ (by rw [ca]; rfl) (by decide)
    have e2 := q 2 _ (by rw [ca]; rfl) (by decide)
    unfold X_auction
    simp only [e0.2, e1.2, e2.2]
  · have eX : ∀ s r, X_act V S s r d at_ = X_serve V S r (fun k => (g_pt (V d).2.2.2.2 k).1) (fun k => (g_pt (V d).2.2.2.2 k).2) d at_ := fun s r => by simp only [X_act, ca, Int.reduceEq, ↓reduceIte]
    rw [eX, eX]
    have e1 := q 1 _ (by rw [ca]; rfl) (by decide)
    have e2 := q 2 _ (by rw [ca]; rfl) (by decide)
    unfold X_serve
    simp only [e1.2, e2.2]
  · have eX : ∀ s r, X_act V S s r d at_ = X_waive S r := fun s r => by simp only [X_act, ca, Int.reduceEq, ↓reduceIte]
    rw [eX, eX]
    have e0 := q 0 _ (by rw [ca]; rfl) (by decide)
    unfold X_waive
    simp only [e0.2]
  · have eX : ∀ s r, X_act V S s r d at_ = X_lease V S r d at_ := fun s r => by simp only [X_act, ca, Int.reduceEq, ↓reduceIte]
    rw [eX, eX]
    have e1 := q 1 _ (by rw [ca]; rfl) (by decide)
    have e2 := q 2 _ (by rw [ca]; rfl) (by decide)
    unfold X_lease
    simp only [e1.2, e2.2]
  · have eX : ∀ s r, X_act V S s r d at_ = X_caution V S r d at_ := fun s r => by simp only [X_act, ca, Int.reduceEq, ↓reduceIte]
    rw [eX, eX]
    have e1 := q 1 _ (by rw [ca]; rfl) (by decide)
    have e2 := q 2 _ (by rw [ca]; rfl) (by decide)
    unfold X_caution
    simp only [e1.2, e2.2]
  · have eX : ∀ s r, X_act V S s r d at_ = X_option V S r d at_ := fun s r => by simp only [X_act, ca, Int.reduceEq, ↓reduceIte]
    rw [eX, eX]
    have e1 := q 1 _ (by rw [ca]; rfl) (by decide)
    have e2 := q 2 _ (by rw [ca]; rfl) (by decide)
    unfold X_option
    simp only [e1.2, e2.2]
  · have eX : ∀ s r, X_act V S s r d at_ = X_take V S r d := fun s r => by simp only [X_act, ca, Int.reduceEq, ↓reduceIte]
    rw [eX, eX]
    have e0 := q 0 _ (by rw [ca]; rfl) (by decide)
    unfold X_take
    simp only [e0.2]
  · have eX : ∀ s r, X_act V S s r d at_ = X_end S s r := fun s r => by simp only [X_act, ca, Int.reduceEq, ↓reduceIte]
    rw [eX, eX]
    have e0 := q 0 _ (by rw [ca]; rfl) (by decide)
    unfold X_end
    simp only [e0.1, e0.2]
