/-! an ACT, one by one: what is known of its NAMES -/
def x_in (S : w_S) (r : Nat → Int) (s k : Nat) : Prop := (0 ≤ r k ∧ r k < S.1 s) ∧ w_thr S s (r k).toNat = true
theorem X_all {p : Int × w_S → Prop} {V : Nat → v_D} {S : w_S} {ss r : Nat → Int} {d : Nat} {at_ : Int} (hv : v_ok (V d)) (hok : n_ok S (V d).2.1 (V d).2.2.1 ((V d).1 7) (fun k => ((ss k).toNat, (r k).toNat))) (hnn : ∀ k : Nat, (k : Int) < (V d).1 7 → (V d).2.2.1 k ≠ 10 → 0 ≤ ss k ∧ 0 ≤ r k)
    (h200 : (V d).1 3 = 200 → p (X_person V S d at_))
    (h201 : (V d).1 3 = 201 → (0 ≤ r 1 ∧ r 1 < S.1 1) → p (X_firm V S r d at_))
    (h202 : (V d).1 3 = 202 → (0 ≤ r 0 ∧ r 0 < S.1 1) → (0 ≤ r 1 ∧ r 1 < S.1 1) → p (X_guard S r))
    (h203 : (V d).1 3 = 203 → (0 ≤ r 0 ∧ r 0 < S.1 1) → (∀ j : Nat, 1 ≤ j → (j : Int) < (V d).1 7 → x_in S r 1 j) → p (X_die V S r d))
    (h204 : (V d).1 3 = 204 → (0 ≤ r 0 ∧ r 0 < S.1 1) → p (X_close S r))
    (h205 : (V d).1 3 = 205 → x_in S r 0 0 → x_in S r 1 1 → (∀ j : Nat, 2 ≤ j → (j : Int) < (V d).1 7 → x_in S r 1 j) → p (X_sell V S r d at_))
    (h206 : (V d).1 3 = 206 → x_in S r 0 0 → p (X_split V S r d))
    (h207 : (V d).1 3 = 207 → x_in S r 0 0 → x_in S r 0 1 → p (X_join V S r d))
    (h208 : (V d).1 3 = 208 → x_in S r 0 0 → x_in S r 0 1 → p (X_border V S r d))
    (h209 : (V d).1 3 = 209 → (∀ j : Nat, 1 ≤ j → (j : Int) < (V d).1 7 - 1 → x_in S r 0 j) → (3 ≤ (V d).1 7 ∧ (V d).1 7 ≤ 8) → x_in S r 1 ((V d).1 7 - 1).toNat → p (X_charge V S r d at_))
    (h210 : (V d).1 3 = 210 → x_in S r 2 0 → p (X_pay V S r d))
    (h211 : (V d).1 3 = 211 → x_in S r 2 0 → x_in S r 1 1 → p (X_assign S r))
    (h212 : (V d).1 3 = 212 → x_in S r 0 2 → p (X_rank S r))
    (h213 : (V d).1 3 = 213 → x_in S r 0 0 → x_in S r 2 1 → p (X_free S r))
    (h214 : (V d).1 3 = 214 → x_in S r 0 0 → x_in S r 2 1 → x_in S r 1 2 → p (X_auction V S r d))
    (h215 : (V d).1 3 = 215 → x_in S r 0 1 → x_in S r 0 2 → p (X_serve V S r (fun k => (g_pt (V d).2.2.2.2 k).1) (fun k => (g_pt (V d).2.2.2.2 k).2) d at_))
    (h216 : (V d).1 3 = 216 → x_in S r 3 0 → p (X_waive S r))
    (h217 : (V d).1 3 = 217 → x_in S r 0 1 → x_in S r 1 2 → p (X_lease V S r d at_))
    (h218 : (V d).1 3 = 218 → x_in S r 0 1 → x_in S r 1 2 → p (X_caution V S r d at_))
    (h219 : (V d).1 3 = 219 → x_in S r 0 1 → x_in S r 1 2 → p (X_option V S r d at_))
    (h220 : (V d).1 3 = 220 → x_in S r 6 0 → p (X_take V S r d))
    (h221 : (V d).1 3 = 221 → ((4 ≤ ss 0 ∧ ss 0 ≤ 6) ∧ 0 ≤ r 0 ∧ r 0 < S.1 (ss 0).toNat) → p (X_end S ss r)) : p (X_act V S ss r d at_) := by
  have ca0 : ∀ k : Nat, ∀ v : Int, (v_ws ((V d).1 3) ((V d).1 7))[k]? = some v → v ≠ 10 → (0 ≤ v ∧ v ≤ 6 → x_in S r v.toNat k) ∧ (v = 11 ∨ v = 12 → 0 ≤ r k ∧ r k < S.1 1) ∧ (v = 13 → (4 ≤ ss k ∧ ss k ≤ 6) ∧ 0 ≤ r k ∧ r k < S.1 (ss k).toNat) := fun k v hw h10 => by
    have t := hv.2.1.2 k
    rw [hw] at t
    by_cases c : (k : Int) < (V d).1 7
    · rw [if_pos c] at t
      have e : (V d).2.2.1 k = v := (Option.some.inj t).symm
      obtain ⟨⟨g1, g2⟩, g3⟩ := n_get hok c e h10
      dsimp only at g1 g2 g3
      have nn := hnn k c (by rw [e]; exact h10)
      obtain ⟨f1, f2, f3⟩ := n_fit_s g3
      have tr := n_fit_t g3
      refine ⟨fun hc => ?_, fun hc => ?_, fun hc => ?_⟩
      · have := f1 hc
        have es : (ss k).toNat = v.toNat := by omega
        rw [es] at g2 tr
        exact ⟨by omega, tr⟩
      · have es := f2 hc
        rw [es] at g2
        omega
      · have := f3 hc
        exact ⟨by omega, by omega, by omega⟩
    · rw [if_neg c] at t; cases t
  have c0 : ∀ k : Nat, ∀ v : Nat, (v_ws ((V d).1 3) ((V d).1 7))[k]? = some (v : Int) → v ≤ 6 → x_in S r v k := fun k v hw hc => (ca0 k v hw (by omega)).1 (by omega)
  have c1 : ∀ k : Nat, ∀ v : Int, (v_ws ((V d).1 3) ((V d).1 7))[k]? = some v → v = 11 ∨ v = 12 → 0 ≤ r k ∧ r k < S.1 1 := fun k v hw hc => (ca0 k v hw (by omega)).2.1 hc
  have c3 : ∀ k : Nat, ∀ v : Int, (v_ws ((V d).1 3) ((V d).1 7))[k]? = some v → v = 13 → (4 ≤ ss k ∧ ss k ≤ 6) ∧ 0 ≤ r k ∧ r k < S.1 (ss k).toNat := fun k v hw hc => (ca0 k v hw (by omega)).2.2 hc
  have hac := hv.1
  have hca : (V d).1 3 = 200 ∨ (V d).1 3 = 201 ∨ (V d).1 3 = 202 ∨ (V d).1 3 = 203 ∨ (V d).1 3 = 204 ∨ (V d).1 3 = 205 ∨ (V d).1 3 = 206 ∨ (V d).1 3 = 207 ∨ (V d).1 3 = 208 ∨ (V d).1 3 = 209 ∨ (V d).1 3 = 210 ∨ (V d).1 3 = 211 ∨ (V d).1 3 = 212 ∨ (V d).1 3 = 213 ∨ (V d).1 3 = 214 ∨ (V d).1 3 = 215 ∨ (V d).1 3 = 216 ∨ (V d).1 3 = 217 ∨ (V d).1 3 = 218 ∨ (V d).1 3 = 219 ∨ (V d).1 3 = 220 ∨ (V d).1 3 = 221 := by omega
  clear ca0
  rcases hca with ca | ca | ca | ca | ca | ca | ca | ca | ca | ca | ca | ca | ca | ca | ca | ca | ca | ca | ca | ca | ca | ca
  · have eX : X_act V S ss r d at_ = X_person V S d at_ := by simp only [X_act, ca, Int.reduceEq, ↓reduceIte]
    rw [eX]
    exact h200 ca 
  · have eX : X_act V S ss r d at_ = X_firm V S r d at_ := by simp only [X_act, ca, Int.reduceEq, ↓reduceIte]
    rw [eX]
    exact h201 ca (c1 1 11 (by rw [ca]; rfl) (Or.inl rfl))
  · have eX : X_act V S ss r d at_ = X_guard S r := by simp only [X_act, ca, Int.reduceEq, ↓reduceIte]
    rw [eX]
    exact h202 ca (c1 0 11 (by rw [ca]; rfl) (Or.inl rfl)) (c1 1 11 (by rw [ca]; rfl) (Or.inl rfl))
  · have eX : X_act V S ss r d at_ = X_die V S r d := by simp only [X_act, ca, Int.reduceEq, ↓reduceIte]
    rw [eX]
    exact h203 ca (c1 0 11 (by rw [ca]; rfl) (Or.inl rfl)) (fun j j1 j2 => by
      obtain ⟨i, rfl⟩ : ∃ i, j = i + 1 := ⟨j - 1, by omega⟩
      refine c0 (i + 1) 1 ?_ (by omega)
      rw [ca]
      show (List.replicate ((V d).1 7 - 1).toNat (1 : Int))[i]? = some 1
      rw [List.getElem?_replicate, if_pos (by omega)])
  · have eX : X_act V S ss r d at_ = X_close S r := by simp only [X_act, ca, Int.reduceEq, ↓reduceIte]
    rw [eX]
    exact h204 ca (c1 0 12 (by rw [ca]; rfl) (Or.inr rfl))
  · have eX : X_act V S ss r d at_ = X_sell V S r d at_ := by simp only [X_act, ca, Int.reduceEq, ↓reduceIte]
    rw [eX]
    exact h205 ca (c0 0 0 (by rw [ca]; rfl) (by omega)) (c0 1 1 (by rw [ca]; rfl) (by omega)) (fun j j1 j2 => by
      obtain ⟨i, rfl⟩ : ∃ i, j = i + 2 := ⟨j - 2, by omega⟩
      refine c0 (i + 2) 1 ?_ (by omega)
      rw [ca]
      show (List.replicate ((V d).1 7 - 2).toNat (1 : Int))[i]? = some 1
      rw [List.getElem?_replicate, if_pos (by omega)])
  · have eX : X_act V S ss r d at_ = X_split V S r d := by simp only [X_act, ca, Int.reduceEq, ↓reduceIte]
    rw [eX]
    exact h206 ca (c0 0 0 (by rw [ca]; rfl) (by omega))
  · have eX : X_act V S ss r d at_ = X_join V S r d := by simp only [X_act, ca, Int.reduceEq, ↓reduceIte]
    rw [eX]
    exact h207 ca (c0 0 0 (by rw [ca]; rfl) (by omega)) (c0 1 0 (by rw [ca]; rfl) (by omega))
  · have eX : X_act V S ss r d at_ = X_border V S r d := by simp only [X_act, ca, Int.reduceEq, ↓reduceIte]
    rw [eX]
    exact h208 ca (c0 0 0 (by rw [ca]; rfl) (by omega)) (c0 1 0 (by rw [ca]; rfl) (by omega))
  · have eX : X_act V S ss r d at_ = X_charge V S r d at_ := by simp only [X_act, ca, Int.reduceEq, ↓reduceIte]
    rw [eX]
    exact h209 ca (fun j j1 j2 => by
      obtain ⟨i, rfl⟩ : ∃ i, j = i + 1 := ⟨j - 1, by omega⟩
      refine c0 (i + 1) 0 ?_ (by omega)
      rw [ca]
      show (List.replicate ((V d).1 7 - 2).toNat (0 : Int) ++ [1])[i]? = some 0
      rw [List.getElem?_append_left (by rw [List.length_replicate]; omega), List.getElem?_replicate, if_pos (by omega)]) ⟨hv.2.2.1.2.2.2 ca, hv.2.2.1.1⟩ (by
      have h3 := hv.2.2.1.2.2.2 ca
      obtain ⟨i, ei⟩ : ∃ i : Nat, ((V d).1 7 - 1).toNat = i + 1 := ⟨((V d).1 7 - 2).toNat, by omega⟩
      rw [ei]
      refine c0 (i + 1) 1 ?_ (by omega)
      rw [ca]
      show (List.replicate ((V d).1 7 - 2).toNat (0 : Int) ++ [1])[i]? = some 1
      rw [List.getElem?_append_right (by rw [List.length_replicate]; omega), List.length_replicate, show i - ((V d).1 7 - 2).toNat = 0 by omega]; rfl)
  · have eX : X_act V S ss r d at_ = X_pay V S r d := by simp only [X_act, ca, Int.reduceEq, ↓reduceIte]
    rw [eX]
    exact h210 ca (c0 0 2 (by rw [ca]; rfl) (by omega))
  · have eX : X_act V S ss r d at_ = X_assign S r := by simp only [X_act, ca, Int.reduceEq, ↓reduceIte]
    rw [eX]
    exact h211 ca (c0 0 2 (by rw [ca]; rfl) (by omega)) (c0 1 1 (by rw [ca]; rfl) (by omega))
  · have eX : X_act V S ss r d at_ = X_rank S r := by simp only [X_act, ca, Int.reduceEq, ↓reduceIte]
    rw [eX]
    exact h212 ca (c0 2 0 (by rw [ca]; rfl) (by omega))
  · have eX : X_act V S ss r d at_ = X_free S r := by simp only [X_act, ca, Int.reduceEq, ↓reduceIte]
    rw [eX]
    exact h213 ca (c0 0 0 (by rw [ca]; rfl) (by omega)) (c0 1 2 (by rw [ca]; rfl) (by omega))
  · have eX : X_act V S ss r d at_ = X_auction V S r d := by simp only [X_act, ca, Int.reduceEq, ↓reduceIte]
    rw [eX]
    exact h214 ca (c0 0 0 (by rw [ca]; rfl) (by omega)) (c0 1 2 (by rw [ca]; rfl) (by omega)) (c0 2 1 (by rw [ca]; rfl) (by omega))
  · have eX : X_act V S ss r d at_ = X_serve V S r (fun k => (g_pt (V d).2.2.2.2 k).1) (fun k => (g_pt (V d).2.2.2.2 k).2) d at_ := by simp only [X_act, ca, Int.reduceEq, ↓reduceIte]
    rw [eX]
    exact h215 ca (c0 1 0 (by rw [ca]; rfl) (by omega)) (c0 2 0 (by rw [ca]; rfl) (by omega))
  · have eX : X_act V S ss r d at_ = X_waive S r := by simp only [X_act, ca, Int.reduceEq, ↓reduceIte]
    rw [eX]
    exact h216 ca (c0 0 3 (by rw [ca]; rfl) (by omega))
  · have eX : X_act V S ss r d at_ = X_lease V S r d at_ := by simp only [X_act, ca, Int.reduceEq, ↓reduceIte]
    rw [eX]
    exact h217 ca (c0 1 0 (by rw [ca]; rfl) (by omega)) (c0 2 1 (by rw [ca]; rfl) (by omega))
  · have eX : X_act V S ss r d at_ = X_caution V S r d at_ := by simp only [X_act, ca, Int.reduceEq, ↓reduceIte]
    rw [eX]
    exact h218 ca (c0 1 0 (by rw [ca]; rfl) (by omega)) (c0 2 1 (by rw [ca]; rfl) (by omega))
  · have eX : X_act V S ss r d at_ = X_option V S r d at_ := by simp only [X_act, ca, Int.reduceEq, ↓reduceIte]
    rw [eX]
    exact h219 ca (c0 1 0 (by rw [ca]; rfl) (by omega)) (c0 2 1 (by rw [ca]; rfl) (by omega))
  · have eX : X_act V S ss r d at_ = X_take V S r d := by simp only [X_act, ca, Int.reduceEq, ↓reduceIte]
    rw [eX]
    exact h220 ca (c0 0 6 (by rw [ca]; rfl) (by omega))
  · have eX : X_act V S ss r d at_ = X_end S ss r := by simp only [X_act, ca, Int.reduceEq, ↓reduceIte]
    rw [eX]
    exact h221 ca (c3 0 13 (by rw [ca]; rfl) rfl)
