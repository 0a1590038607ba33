/-! THE MODEL: POINTS as it reads them -/
theorem co_amt2 {B M : e_M} {T : q_Tk} {E : Nat → Int} {n x c i : Nat} {j : Int} {s r : q_S} {Q : Int → e_M → Prop} (hc : c = 4475 ∨ c = 4476) (hi : i < 12) (hn : n_hn B T E n) (h : n_co B M T E n x j s) (l : q_le (q_exp T n 3 s) r) (q0 : ∀ M', n_dd B M' x r → Q 0 M') (q1 : ∀ M', n_co B M' T E n x j (q_exp T n 3 s) → M' c (12 * x + i) = q_val T s → (∀ b k, (b = 4475 ∨ b = 4476) → ¬ (b = c ∧ k = 12 * x + i) → M' b k = M b k) → (∀ b, 4470 ≤ b → b ≤ 4474 → M' b = M b) → Q 1 M') : WX12_mustAmount2 c i M Q := by
  have tk := h.1.2.1.2.2.2
  obtain ⟨ex, hx⟩ := h.2.1
  obtain ⟨a0, a1, a2, a3, a4⟩ := n_kd tk
  unfold WX12_mustAmount2 VX12_mustAmount2
  rw [ex, s_w (x := 12 * (x : Int)) (by omega) (by omega), s_w (x := 12 * (x : Int) + (i : Int)) (by omega) (by omega), show (12 * (x : Int) + (i : Int)).toNat = 12 * x + i by omega]
  refine ⟨fun g => ⟨by omega, fun M1 e1 => ?_⟩, fun g => ?_⟩
  · have e3 := a2.mp g
    rw [n_num tk (Or.inr e3)] at e1
    have h1 : n_co B M1 T E n x j (q_D (fun D => D) s) := by
      rw [e1]
      refine n_co_up h (fun b hb => e_up_row (by omega)) (fun f => n_fx_1 f (by omega) (by omega)) (P_a_congr h.2.2.1 (fun b b1 b2 => e_up_row (by omega))) h.2.2.2.1
    have h1 : n_co B M1 T E n x j s := h1
    have eq : q_exp T n 3 s = q_take T n s := by
      unfold q_exp
      rw [if_pos (by rw [q_tk0 h.1.1]; exact e3)]
    rw [eq] at l q1
    refine co_good0 hn h1 (by show (T s.1).1 ≠ 0; omega) l (fun M' a => nz0 (q0 M' a)) (fun M' a z => nz1 (q1 M' a ?_ (fun b k hb hk => ?_) (fun b b1 b2 => ?_)))
    · rw [z c (by omega) (by omega), e1, e_up_eq]; rfl
    · rw [z b (by omega) (by omega), e1, e_up_ne (fun y => hk y)]
    · rw [z b (by omega) (by omega), e1, e_up_row (by omega)]
  · have e3 : (T s.1).1 ≠ 3 := fun z => g (a2.mpr z)
    have eq : q_exp T n 3 s = q_note T 1 s := by
      unfold q_exp
      rw [if_neg (by rw [q_tk0 h.1.1]; exact e3)]
    rw [eq] at l
    exact co_wrong h (by decide) (fun z => l z) (fun M' a => nz0 (q0 M' a))
