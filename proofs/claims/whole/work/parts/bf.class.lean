/-! the class's VIEW -/
theorem w_out {M N : e_M} {w : Nat} (h : w_ok M w) (hf : ∀ b, w < b → b < w + 2199 → (b < w + 25 ∨ w + 29 ≤ b) → N b = M b) (h11 : N w 11 = M w 11) : w_ok N w ∧ w_of N w = w_of M w := by
  have e24 : N (w + 24) = M (w + 24) := hf _ (by omega) (by omega) (by omega)
  have hl : ∀ k, k < 80 → x_lot N (w_al w k) = x_lot M (w_al w k) := fun k hk => x_lot_congr (fun b b1 b2 => hf b (by unfold w_al at b1; omega) (by unfold w_al at b2; omega) (by unfold w_al at b1; omega))
  have ht : ∀ k, k < 290 → x_th N (w_at w k) = x_th M (w_at w k) := fun k hk => x_th_congr (fun b b1 b2 => hf b (by unfold w_at at b1; omega) (by unfold w_at at b2; omega) (by unfold w_at at b1; omega))
  obtain ⟨⟨h1, h2⟩, h3, h4, h5⟩ := h
  refine ⟨⟨⟨fun k hk => by rw [hf _ (by omega) (by omega) (by omega)]; exact h1 k hk, fun k hk => by rw [hf _ (by omega) (by omega) (by omega)]; exact h2 k hk⟩, fun s hs => by rw [e24]; exact h3 s hs, fun k hk => ?_, fun k hk => ?_⟩, ?_⟩
  · have := h4 k hk
    unfold w_lok s_fok s_rok s_ook w_al at *
    rw [hf _ (by omega) (by omega) (by omega), hf _ (by omega) (by omega) (by omega), hf _ (by omega) (by omega) (by omega)]
    exact this
  · have := h5 k hk
    unfold w_tok s_rok w_at at *
    rw [hf _ (by omega) (by omega) (by omega), hf _ (by omega) (by omega) (by omega), hf _ (by omega) (by omega) (by omega)]
    exact this
  · refine w_of_ext e24 (fun k hk => ?_) (fun k hk => (w_of_ln hk).symm) (fun k hk => ?_) (fun k hk => (w_of_tn hk).symm) h11
    · rw [hl k hk, w_of_l hk]
    · rw [ht k hk, w_of_t hk]
/-- what lies behind the ENTRIES is of no account -/
def x_eqn (n : Nat) (x y : (Nat → Int) × (Nat → Int)) : Prop := ∀ i, i < n → x.1 i = y.1 i ∧ x.2 i = y.2 i
theorem v_st_eqn {od tg : Nat → Int} {n i : Nat} {x y : (Nat → Int) × (Nat → Int)} (hi : i < n) (h : x_eqn n x y) : x_eqn n (v_st od tg i x) (v_st od tg i y) := by
  have e1 := (h i hi).1
  unfold v_st
  rw [e1]
  by_cases c : y.1 i ≠ 23 ∨ tg i - 1 < 0 ∨ (i : Int) ≤ tg i - 1
  · rw [if_pos c, if_pos c]; exact h
  · rw [if_neg c, if_neg c, (h (tg i - 1).toNat (by omega)).2]
    by_cases c2 : od i = 222
    · rw [if_pos c2, if_pos c2]
      intro j hj
      refine ⟨?_, (h j hj).2⟩
      show s_fu x.1 _ _ j = s_fu y.1 _ _ j
      unfold s_fu
      split
      · rfl
      · exact (h j hj).1
    · rw [if_neg c2, if_neg c2]
      by_cases c3 : y.2 (tg i - 1).toNat = tg i - 1
      · rw [if_pos c3, if_pos c3]
        intro j hj
        refine ⟨(h j hj).1, ?_⟩
        show s_fu x.2 _ _ j = s_fu y.2 _ _ j
        unfold s_fu
        split
        · rfl
        · exact (h j hj).2
      · rw [if_neg c3, if_neg c3]; exact h
theorem v_dn_eqn {od tg : Nat → Int} {n : Nat} : ∀ {k : Nat} {x y : (Nat → Int) × (Nat → Int)}, k ≤ n → x_eqn n x y → x_eqn n (v_dn od tg k x) (v_dn od tg k y)
  | 0, _, _, _, h => h
  | k + 1, _, _, hk, h => v_dn_eqn (k := k) (by omega) (v_st_eqn (by omega) h)
theorem v_pos_eqn {D D' : Int → Int} {L : List Int} {d : Int} : ∀ {k : Nat}, k ≤ L.length → (∀ y ∈ L, D y = D' y) → v_pos D L d k = v_pos D' L d k
  | 0, _, _ => rfl
  | k + 1, hk, h => by
    have e : L[k]?.getD 0 = L[k] := by rw [List.getElem?_eq_getElem (by omega)]; rfl
    have := h L[k] (List.getElem_mem (by omega))
    show (if d < D (L[k]?.getD 0) then v_pos D L d k else k + 1) = if d < D' (L[k]?.getD 0) then v_pos D' L d k else k + 1
    rw [e, this, v_pos_eqn (by omega) h]
theorem v_ln_eqn {D D' : Int → Int} {F F' : Nat → Int} {day : Int} {n : Nat} (hD : ∀ y : Int, 0 ≤ y → y < n → D y = D' y) (hF : ∀ i, i < n → F i = F' i) : ∀ {k : Nat}, k ≤ n → v_ln D F day k = v_ln D' F' day k
  | 0, _ => rfl
  | k + 1, hk => by
    have ih := v_ln_eqn hD hF (k := k) (day := day) (by omega)
    show (if F k = 0 ∧ D k ≤ day then v_put D (v_ln D F day k) k else v_ln D F day k) = if F' k = 0 ∧ D' k ≤ day then v_put D' (v_ln D' F' day k) k else v_ln D' F' day k
    rw [ih, hF k (by omega), hD k (by omega) (by omega)]
    have : v_put D (v_ln D' F' day k) k = v_put D' (v_ln D' F' day k) k := by
      unfold v_put
      rw [hD k (by omega) (by omega), v_pos_eqn (Nat.le_refl _) (fun y hy => by have := v_ln_mem hy; exact hD y (by omega) (by omega))]
    rw [this]
/-- the ENTRIES as the class keeps them -/
def er_of (M : e_M) : Nat → Nat := fun i => (M 2 i).toNat
def C_ent (M : e_M) (w : Nat) (n : Int) : Prop := (0 ≤ n ∧ n ≤ 150) ∧ M 0 7 = n ∧ ∀ i : Nat, (i : Int) < n → 0 ≤ M 2 i ∧ a_d w (er_of M i) ∧ s_dok M (er_of M i) ∧ (0 ≤ M (er_of M i) 2 ∧ M (er_of M i) 2 ≤ 150) ∧ (M (er_of M i) 1 ≠ 222 → v_ok (v_of M (er_of M i)))
/-- what a run of the class wants of an invariant -/
def I_cls (M : e_M) (w : Nat) (I : Int → w_S → Prop) : Prop := ∀ a S, I a S → w_rg S ∧ w_un S ∧ w_am S ∧ (∀ s i : Nat, 2 ≤ s → s < 8 → (i : Int) < S.1 s → t_dk M w (w_t S s i)) ∧ ∀ k : Nat, (k : Int) < S.1 7 → w_sok M w (w_t S 7 k)
theorem t_dk_tr {M N : e_M} {w : Nat} {t : w_T} (h : t_dk M w t) (f : ∀ b, (b < w ∨ w + 2199 ≤ b) → (b < 4423 ∨ 4452 ≤ b) → N b = M b) : t_dk N w t := by
  obtain ⟨h1, h2, h3⟩ := h
  have hc := s_dd_congr (M := M) (N := N) (d := (t.1 11).toNat) (fun k hk => f _ (by unfold a_d at h1; omega) (by unfold a_d at h1; omega))
  exact ⟨h1, hc.2.2.2.2 h2, by rw [hc.2.2.2.1]; exact h3⟩
theorem y_x_T {cm od tg : Nat → Int} {known n : Int} (hn : 0 ≤ n) (ht : ∀ i : Nat, (i : Int) < n → od i = 0 ∨ ((od i = 222 ∨ od i = 223) ∧ 1 ≤ tg i ∧ tg i ≤ i)) : ∀ i : Nat, (i : Int) < n → (0 ≤ (y_x cm od tg known n).2 i ∧ (y_x cm od tg known n).2 i < n) ∧ ((y_x cm od tg known n).1 i = 0 → od ((y_x cm od tg known n).2 i).toNat ≠ 222) := by
  have key : ∀ (k : Nat) (x : (Nat → Int) × (Nat → Int)), (k : Int) ≤ n → (∀ i : Nat, (i : Int) < n → (0 ≤ x.2 i ∧ x.2 i < n) ∧ (x.2 i = i ∨ od (x.2 i).toNat = 223) ∧ (x.1 i = 0 → od i = 0) ∧ (x.1 i = 23 → od i ≠ 0)) → ∀ i : Nat, (i : Int) < n → (0 ≤ (v_dn od tg k x).2 i ∧ (v_dn od tg k x).2 i < n) ∧ ((v_dn od tg k x).2 i = i ∨ od ((v_dn od tg k x).2 i).toNat = 223) ∧ ((v_dn od tg k x).1 i = 0 → od i = 0) ∧ ((v_dn od tg k x).1 i = 23 → od i ≠ 0) := by
    intro k
    induction k with
    | zero => exact fun x _ h => h
    | succ k ih =>
      intro x hk h
      refine ih _ (by omega) (fun i hi => ?_)
      obtain ⟨h1, h2, h3⟩ := h i hi
      unfold v_st
      by_cases c : x.1 k ≠ 23 ∨ tg k - 1 < 0 ∨ (k : Int) ≤ tg k - 1
      · rw [if_pos c]; exact ⟨h1, h2, h3⟩
      · rw [if_neg c]
        by_cases c2 : od k = 222
        · rw [if_pos c2]
          refine ⟨h1, h2, fun z => ?_, fun z => ?_⟩
          · change s_fu x.1 _ _ i = 0 at z
            unfold s_fu at z
            split at z
            · split at z <;> omega
            · exact h3.1 z
          · change s_fu x.1 _ _ i = 23 at z
            unfold s_fu at z
            split at z
            · split at z <;> omega
            · exact h3.2 z
        · rw [if_neg c2]
          by_cases c3 : x.2 (tg k - 1).toNat = tg k - 1
          · rw [if_pos c3]
            refine ⟨?_, ?_, h3⟩
            · show 0 ≤ s_fu x.2 _ _ i ∧ s_fu x.2 _ _ i < n
              unfold s_fu
              split
              · omega
              · exact h1
            · show s_fu x.2 _ _ i = i ∨ od (s_fu x.2 _ _ i).toNat = 223
              unfold s_fu
              split
              · refine Or.inr ?_
                rw [show ((k : Int)).toNat = k by omega]
                have := ht k (by omega)
                have h23 := (h k (by omega)).2.2.2 (by omega)
                rcases this with h0 | h0
                · exact absurd h0 h23
                · omega
              · exact h2
          · rw [if_neg c3]; exact ⟨h1, h2, h3⟩
  intro i hi
  have := key n.toNat (v_f0 cm od known n (fun _ => 0), v_t0 n (fun _ => 0)) (by omega) (fun j hj => by
    have t0 : v_t0 n (fun _ => 0) j = (j : Int) := if_pos hj
    refine ⟨by show 0 ≤ v_t0 n (fun _ => 0) j ∧ v_t0 n (fun _ => 0) j < n; rw [t0]; omega, Or.inl t0, fun z => ?_, fun z => ?_⟩
    · change v_f0 cm od known n (fun _ => 0) j = 0 at z
      unfold v_f0 at z
      rw [if_pos hj] at z
      split at z
      · omega
      · split at z
        · assumption
        · omega
    · change v_f0 cm od known n (fun _ => 0) j = 23 at z
      unfold v_f0 at z
      rw [if_pos hj] at z
      split at z
      · omega
      · split at z
        · omega
        · assumption) i hi
  refine ⟨this.1, fun z => ?_⟩
  have h0 := this.2.2.1 z
  rcases this.2.1 with e | e
  · have e' : (y_x cm od tg known n).2 i = (i : Int) := e
    rw [e', show ((i : Nat) : Int).toNat = i by omega]; omega
  · have e' : od ((y_x cm od tg known n).2 i).toNat = 223 := e
    omega
