/-! THE MODEL: the VIEW that it holds -/
/-- the model holds the VIEW of two DAYS over the first n ENTRIES, as the class's run gives it -/
def M_view (I : Int → w_S → Prop) (V : Nat → v_D) (er : Nat → Nat) (cm od tg : Nat → Int) (known n day : Int) (S' : w_S) (F' : Nat → Int) (c' : Int) (M : e_M) : Prop := nn_ok M ∧ R_S V (d_set S' day) (n_of M) ((y_L V er cm od tg known n day).length + 1) ∧ I ((y_L V er cm od tg known n day).length + 1) S' ∧ (∀ i : Nat, (i : Int) < n → M 4524 (i + 1) = F' i ∧ M 4523 (i + 1) = (y_x cm od tg known n).2 i + 1) ∧ M 4456 99 = c' ∧ M 4456 86 = day ∧ t_ln M (y_L V er cm od tg known n day) (y_x cm od tg known n).2
theorem M_view_same {I : Int → w_S → Prop} {V : Nat → v_D} {er : Nat → Nat} {cm od tg : Nat → Int} {known n day : Int} {S' : w_S} {F' : Nat → Int} {c' : Int} {M N : e_M} (h : M_view I V er cm od tg known n day S' F' c' M) (f : ∀ b, (4480 ≤ b ∧ b ≤ 4516) ∨ b = 4523 ∨ b = 4524 ∨ b = 4525 ∨ b = 4526 → N b = M b) (g : ∀ k, k = 73 ∨ k = 85 ∨ k = 86 ∨ k = 98 ∨ k = 99 → N 4456 k = M 4456 k) : M_view I V er cm od tg known n day S' F' c' N := by
  obtain ⟨h1, h2, h3, h4, h5, h6, h7⟩ := h
  obtain ⟨u1, u2⟩ := n_same h1 (M' := N) (fun b hb => f b (by omega)) (fun j _ => ⟨by rw [f 4480 (by omega)], by rw [f 4481 (by omega)]⟩) ⟨g 85 (by omega), g 86 (by omega), g 73 (by omega)⟩
  refine ⟨u1, by rw [u2]; exact h2, h3, fun i hi => by rw [f 4524 (by omega), f 4523 (by omega)]; exact h4 i hi, by rw [g 99 (by omega)]; exact h5, by rw [g 86 (by omega)]; exact h6, ?_⟩
  unfold t_ln at *
  rw [g 98 (by omega), f 4525 (by omega), f 4526 (by omega)]; exact h7
/-- a look leaves this alone -/
def l_keep (M M' : e_M) : Prop := (∀ b, (b < 4480 ∨ b = 4482 ∨ 4527 ≤ b) → b ≠ 4456 → M' b = M b) ∧ ∀ k, (k < 38 ∨ (49 ≤ k ∧ k ≠ 73 ∧ k ≠ 85 ∧ k ≠ 86 ∧ k ≠ 87 ∧ ¬ (98 ≤ k ∧ k ≤ 102))) → M' 4456 k = M 4456 k
theorem l_keep_refl {M : e_M} : l_keep M M := ⟨fun _ _ _ => rfl, fun _ _ => rfl⟩
theorem m_look {G : w_S → Prop} {V : Nat → v_D} {U : Nat → Prop} {I : Int → w_S → Prop} (hG : ∀ S, G S → ∀ l : Nat, (l : Int) < S.1 0 → (w_l S l).1 1 = 0 → g_good (w_l S l).2.1) (hF : G_fig V G) (hI : I_good G V U I) {M : e_M} {S0 S' : w_S} {F' : Nat → Int} {c' dr day known n : Int} {cm od tg : Nat → Int} {er : Nat → Nat} {Q : e_M → Prop} (hn : nn_ok M) (hc : cm_ok M) (hmo : m_mo M) (hU : ∀ i : Nat, (i : Int) < n → od i ≠ 222 → U (er i)) (hE : E_j M n cm od tg) (hEd : E_d M n od V er) (hday : 0 ≤ day ∧ day ≤ 219144) (h0 : I 1 (w_0 S0 dr)) (hrun : y_run V er cm od tg known n day (w_0 S0 dr) S' F' c')
    (q0 : M 4456 100 = day → M 4456 101 = known → M 4456 102 = n → Q M)
    (q1 : ¬ (M 4456 100 = day ∧ M 4456 101 = known ∧ M 4456 102 = n) → ∀ M', M_view I V er cm od tg known n day S' F' c' M' → l_keep M M' → M' 4456 100 = day → M' 4456 101 = known → M' 4456 102 = n → Q M') : WX12_look day known M Q := by
  have e33 := hE.2.1
  have k28 : ¬ (M 4456 100 = day ∧ M 4456 101 = known ∧ M 4456 102 = n) → WX12_look_28 Q day known M := fun ne => by
    unfold WX12_look_28 VX12_look_28
    refine m_through hG hF hI hn hc hmo hU hE hEd hday h0 hrun (fun M1 a1 a2 a3 a4 a5 a6 a7 a8 M2 e2 M3 e3 M4 e4 => ?_)
    have k33 : M3 4456 33 = n := by rw [e3, e_up_ne (by omega), e2, e_up_ne (by omega), a4.2 33 (by omega)]; exact e33
    rw [k33] at e4
    have f4 : ∀ b, b ≠ 4456 → M4 b = M1 b := fun b hb => by rw [e4, e_up_row hb, e3, e_up_row hb, e2, e_up_row hb]
    have g4 : ∀ k, k ≠ 100 → k ≠ 101 → k ≠ 102 → M4 4456 k = M1 4456 k := fun k k0 k1 k2 => by rw [e4, e_up_ne (fun z => k2 z.2), e3, e_up_ne (fun z => k1 z.2), e2, e_up_ne (fun z => k0 z.2)]
    refine q1 ne M4 (M_view_same (M := M1) ⟨a1, a2, a3, a5, a6, a7, a8⟩ (fun b hb => f4 b (by omega)) (fun k hk => g4 k (by omega) (by omega) (by omega))) ⟨fun b hb h6 => by rw [f4 b h6]; exact a4.1 b hb h6, fun k hk => by rw [g4 k (by omega) (by omega) (by omega)]; exact a4.2 k (by omega)⟩ ?_ ?_ ?_
    · rw [e4, e_up_ne (by omega), e3, e_up_ne (by omega), e2, e_up_eq]
    · rw [e4, e_up_ne (by omega), e3, e_up_eq]
    · rw [e4, e_up_eq]
  unfold WX12_look VX12_look
  rw [e33]
  exact ⟨fun ne => k28 (fun z => ne z.1.symm), fun e => ⟨fun ne => k28 (fun z => ne z.2.1.symm), fun e2 => ⟨fun ne => k28 (fun z => ne z.2.2.symm), fun e3 => q0 e.symm e2.symm e3.symm⟩⟩⟩
