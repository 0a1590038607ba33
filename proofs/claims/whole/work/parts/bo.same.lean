/-! an ACT over two Worlds with the same in them -/
theorem E_act {V : Nat → v_D} {S S' : w_S} {ss r : Nat → Int} {d : Nat} {at_ : Int} (h : E_S S S') (hz : R_z S) (hg : w_rg S) (hv : v_ok (V d)) (hok : n_ok S (V d).2.1 (V d).2.2.1 ((V d).1 7) (fun k => ((ss k).toNat, (r k).toNat))) (hnn : ∀ k : Nat, (k : Int) < (V d).1 7 → (V d).2.2.1 k ≠ 10 → 0 ≤ ss k ∧ 0 ≤ r k) (hsl : ∀ k : Nat, (k : Int) < S.1 7 → 0 ≤ r_get (w_t S 7 k).2.1 0 ∧ r_get (w_t S 7 k).2.1 0 < S.1 0) : E_O (X_act V S ss r d at_) (X_act V S' ss r d at_) := by
  have ca0 : ∀ k : Nat, ∀ v : Int, (v_ws ((V d).1 3) ((V d).1 7))[k]? = some v → v ≠ 10 → (0 ≤ v ∧ v ≤ 6 → 0 ≤ r k ∧ r k < S.1 v.toNat) ∧ (v = 11 ∨ v = 12 → 0 ≤ r k ∧ r k < S.1 1) ∧ (v = 13 → (4 ≤ ss k ∧ ss k ≤ 6) ∧ 0 ≤ r k ∧ r k < S.1 (ss k).toNat) := fun k v hw h10 => by
    have t := hv.2.1.2 k
    rw [hw] at t
    by_cases c : (k : Int) < (V d).1 7
    · rw [if_pos c] at t
      have e : (V d).2.2.1 k = v := (Option.some.inj t).symm
      obtain ⟨⟨g1, g2⟩, g3⟩ := n_get hok c e h10
      dsimp only at g1 g2 g3
      have nn := hnn k c (by rw [e]; exact h10)
      obtain ⟨f1, f2, f3⟩ := n_fit_s g3
      refine ⟨fun hc => ?_, fun hc => ?_, fun hc => ?_⟩
      · have := f1 hc
        have es : (ss k).toNat = v.toNat := by omega
        rw [es] at g2
        omega
      · have es := f2 hc
        rw [es] at g2
        omega
      · have := f3 hc
        exact ⟨by omega, by omega, by omega⟩
    · rw [if_neg c] at t; cases t
  have c0 : ∀ k : Nat, ∀ v : Int, (v_ws ((V d).1 3) ((V d).1 7))[k]? = some v → 0 ≤ v ∧ v ≤ 6 → 0 ≤ r k ∧ r k < S.1 v.toNat := fun k v hw hc => (ca0 k v hw (by omega)).1 hc
  have c1 : ∀ k : Nat, ∀ v : Int, (v_ws ((V d).1 3) ((V d).1 7))[k]? = some v → v = 11 ∨ v = 12 → 0 ≤ r k ∧ r k < S.1 1 := fun k v hw hc => (ca0 k v hw (by omega)).2.1 hc
  have c3 : ∀ k : Nat, ∀ v : Int, (v_ws ((V d).1 3) ((V d).1 7))[k]? = some v → v = 13 → (4 ≤ ss k ∧ ss k ≤ 6) ∧ 0 ≤ r k ∧ r k < S.1 (ss k).toNat := fun k v hw hc => (ca0 k v hw (by omega)).2.2 hc
  have hac := hv.1
  have hca : (V d).1 3 = 200 ∨ (V d).1 3 = 201 ∨ (V d).1 3 = 202 ∨ (V d).1 3 = 203 ∨ (V d).1 3 = 204 ∨ (V d).1 3 = 205 ∨ (V d).1 3 = 206 ∨ (V d).1 3 = 207 ∨ (V d).1 3 = 208 ∨ (V d).1 3 = 209 ∨ (V d).1 3 = 210 ∨ (V d).1 3 = 211 ∨ (V d).1 3 = 212 ∨ (V d).1 3 = 213 ∨ (V d).1 3 = 214 ∨ (V d).1 3 = 215 ∨ (V d).1 3 = 216 ∨ (V d).1 3 = 217 ∨ (V d).1 3 = 218 ∨ (V d).1 3 = 219 ∨ (V d).1 3 = 220 ∨ (V d).1 3 = 221 := by omega
  clear ca0
  rcases hca with ca | ca | ca | ca | ca | ca | ca | ca | ca | ca | ca | ca | ca | ca | ca | ca | ca | ca | ca | ca | ca | ca
  · have eX : ∀ T, X_act V T ss r d at_ = X_person V T d at_ := fun T => by simp only [X_act, ca, Int.reduceEq, ↓reduceIte]
    rw [eX, eX]
    exact E_person h hz
  · have eX : ∀ T, X_act V T ss r d at_ = X_firm V T r d at_ := fun T => by simp only [X_act, ca, Int.reduceEq, ↓reduceIte]
    rw [eX, eX]
    exact E_firm h hz (c1 1 11 (by rw [ca]; rfl) (Or.inl rfl))
  · have eX : ∀ T, X_act V T ss r d at_ = X_guard T r := fun T => by simp only [X_act, ca, Int.reduceEq, ↓reduceIte]
    rw [eX, eX]
    exact E_guard h hz (c1 0 11 (by rw [ca]; rfl) (Or.inl rfl)) (c1 1 11 (by rw [ca]; rfl) (Or.inl rfl))
  · have eX : ∀ T, X_act V T ss r d at_ = X_die V T r d := fun T => by simp only [X_act, ca, Int.reduceEq, ↓reduceIte]
    rw [eX, eX]
    exact E_die h hz (c1 0 11 (by rw [ca]; rfl) (Or.inl rfl))
  · have eX : ∀ T, X_act V T ss r d at_ = X_close T r := fun T => by simp only [X_act, ca, Int.reduceEq, ↓reduceIte]
    rw [eX, eX]
    exact E_close h hz (c1 0 12 (by rw [ca]; rfl) (Or.inr rfl))
  · have eX : ∀ T, X_act V T ss r d at_ = X_sell V T r d at_ := fun T => by simp only [X_act, ca, Int.reduceEq, ↓reduceIte]
    rw [eX, eX]
    exact E_sell h hz hg (c0 0 0 (by rw [ca]; rfl) (by omega)) (c0 1 1 (by rw [ca]; rfl) (by omega))
  · have eX : ∀ T, X_act V T ss r d at_ = X_split V T r d := fun T => by simp only [X_act, ca, Int.reduceEq, ↓reduceIte]
    rw [eX, eX]
    exact E_split h hz hg (c0 0 0 (by rw [ca]; rfl) (by omega))
  · have eX : ∀ T, X_act V T ss r d at_ = X_join V T r d := fun T => by simp only [X_act, ca, Int.reduceEq, ↓reduceIte]
    rw [eX, eX]
    exact E_join h hz hg (c0 0 0 (by rw [ca]; rfl) (by omega)) (c0 1 0 (by rw [ca]; rfl) (by omega))
  · have eX : ∀ T, X_act V T ss r d at_ = X_border V T r d := fun T => by simp only [X_act, ca, Int.reduceEq, ↓reduceIte]
    rw [eX, eX]
    exact E_border h hg (c0 0 0 (by rw [ca]; rfl) (by omega)) (c0 1 0 (by rw [ca]; rfl) (by omega))
  · have eX : ∀ T, X_act V T ss r d at_ = X_charge V T r d at_ := fun T => by simp only [X_act, ca, Int.reduceEq, ↓reduceIte]
    rw [eX, eX]
    refine E_charge h hz hg (fun i i1 i2 => ?_)
    obtain ⟨j, rfl⟩ : ∃ j, i = j + 1 := ⟨i - 1, by omega⟩
    refine c0 (j + 1) 0 ?_ (by omega)
    rw [ca]
    show (List.replicate ((V d).1 7 - 2).toNat (0 : Int) ++ [1])[j]? = some 0
    rw [List.getElem?_append_left (by rw [List.length_replicate]; omega), List.getElem?_replicate, if_pos (by omega)]
  · have eX : ∀ T, X_act V T ss r d at_ = X_pay V T r d := fun T => by simp only [X_act, ca, Int.reduceEq, ↓reduceIte]
    rw [eX, eX]
    exact E_pay h hz hg (c0 0 2 (by rw [ca]; rfl) (by omega))
  · have eX : ∀ T, X_act V T ss r d at_ = X_assign T r := fun T => by simp only [X_act, ca, Int.reduceEq, ↓reduceIte]
    rw [eX, eX]
    exact E_assign h hz hg (c0 0 2 (by rw [ca]; rfl) (by omega))
  · have eX : ∀ T, X_act V T ss r d at_ = X_rank T r := fun T => by simp only [X_act, ca, Int.reduceEq, ↓reduceIte]
    rw [eX, eX]
    exact E_rank h (c0 2 0 (by rw [ca]; rfl) (by omega))
  · have eX : ∀ T, X_act V T ss r d at_ = X_free T r := fun T => by simp only [X_act, ca, Int.reduceEq, ↓reduceIte]
    rw [eX, eX]
    exact E_freed h hz (c0 0 0 (by rw [ca]; rfl) (by omega)) (c0 1 2 (by rw [ca]; rfl) (by omega))
  · have eX : ∀ T, X_act V T ss r d at_ = X_auction V T r d := fun T => by simp only [X_act, ca, Int.reduceEq, ↓reduceIte]
    rw [eX, eX]
    exact E_auction h hz hg (c0 0 0 (by rw [ca]; rfl) (by omega)) (c0 1 2 (by rw [ca]; rfl) (by omega)) (c0 2 1 (by rw [ca]; rfl) (by omega))
  · have eX : ∀ T, X_act V T ss r d at_ = X_serve V T r (fun k => (g_pt (V d).2.2.2.2 k).1) (fun k => (g_pt (V d).2.2.2.2 k).2) d at_ := fun T => by simp only [X_act, ca, Int.reduceEq, ↓reduceIte]
    rw [eX, eX]
    exact E_serve h hz hg (c0 2 0 (by rw [ca]; rfl) (by omega))
  · have eX : ∀ T, X_act V T ss r d at_ = X_waive T r := fun T => by simp only [X_act, ca, Int.reduceEq, ↓reduceIte]
    rw [eX, eX]
    exact E_waive h hz hg (c0 0 3 (by rw [ca]; rfl) (by omega))
  · have eX : ∀ T, X_act V T ss r d at_ = X_lease V T r d at_ := fun T => by simp only [X_act, ca, Int.reduceEq, ↓reduceIte]
    rw [eX, eX]
    exact E_lease h hz hg (c0 1 0 (by rw [ca]; rfl) (by omega)) (c0 2 1 (by rw [ca]; rfl) (by omega))
  · have eX : ∀ T, X_act V T ss r d at_ = X_caution V T r d at_ := fun T => by simp only [X_act, ca, Int.reduceEq, ↓reduceIte]
    rw [eX, eX]
    exact E_caution h hz
  · have eX : ∀ T, X_act V T ss r d at_ = X_option V T r d at_ := fun T => by simp only [X_act, ca, Int.reduceEq, ↓reduceIte]
    rw [eX, eX]
    exact E_option h hz hg (c0 1 0 (by rw [ca]; rfl) (by omega))
  · have eX : ∀ T, X_act V T ss r d at_ = X_take V T r d := fun T => by simp only [X_act, ca, Int.reduceEq, ↓reduceIte]
    rw [eX, eX]
    exact E_take h hz hg (c0 0 6 (by rw [ca]; rfl) (by omega)) hsl
  · have eX : ∀ T, X_act V T ss r d at_ = X_end T ss r := fun T => by simp only [X_act, ca, Int.reduceEq, ↓reduceIte]
    rw [eX, eX]
    exact E_end h hz hg (c3 0 13 (by rw [ca]; rfl) rfl).1 (c3 0 13 (by rw [ca]; rfl) rfl).2
