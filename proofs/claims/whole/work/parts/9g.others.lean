/-! THE MODEL: whether a SALE is others' -/
def m_oth (M : e_M) (k : Nat) (p i : Int) : Prop := M 4507 k ≠ p ∧ ∀ j : Nat, (j : Int) < i → M 4511 (6 * k + j) ≠ p
theorem m_isOthers {M : e_M} {k : Nat} {p : Int} {Q : Int → Prop} (h : nn_ok M) (hk : k < 60) (q1 : m_oth M k p (M 4510 k) → Q 1) (q0 : ¬ m_oth M k p (M 4510 k) → Q 0) : WX12_isOthers k p M Q := by
  obtain ⟨n0, n6⟩ := h.2.2.2.2.1 k hk
  have k15 : ∀ s : Int, ((s = 1 ∧ m_oth M k p 0) ∨ (s = 0 ∧ ¬ m_oth M k p 0)) → ∃ j, WX12_isOthers_19 M Q j k p s 0 := by
    intro s hs
    refine s_up (σ := Int) (P := fun dd i s => WX12_isOthers_19 M Q dd k p s i) (n := M 4510 k) (i0 := 0) (s := s) (fun i s => (s = 1 ∧ m_oth M k p i) ∨ (s = 0 ∧ ¬ m_oth M k p i)) n0 hs ?_ ?_
    · intro d2 s hI
      unfold WX12_isOthers_19 VX12_isOthers_19
      rw [show ((k : Nat) : Int).toNat = k by omega]
      refine ⟨by omega, fun _ => ⟨by omega, ?_⟩, fun z => by omega⟩
      rcases hI with ⟨e, c⟩ | ⟨e, c⟩
      · rw [e]; exact q1 c
      · rw [e]; exact q0 c
    · intro d2 i s i1 i2 hI ih
      have nx : ∀ s' : Int, ((s' = 1 ∧ m_oth M k p (i + 1)) ∨ (s' = 0 ∧ ¬ m_oth M k p (i + 1))) → WX12_isOthers_55 M (WX12_isOthers_19 M Q d2) Q k p i s' := fun s' hs' => by
        unfold WX12_isOthers_55 VX12_isOthers_55
        rw [s_w (by omega) (by omega)]
        exact ih s' hs'
      have no : ¬ m_oth M k p (i + 1) → WX12_isOthers_54 M (WX12_isOthers_19 M Q d2) Q k p i := fun c => nx 0 (Or.inr ⟨rfl, c⟩)
      unfold WX12_isOthers_19 VX12_isOthers_19
      rw [show ((k : Nat) : Int).toNat = k by omega, s_w (x := 6 * (k : Int)) (by omega) (by omega), s_w (x := 6 * (k : Int) + i) (by omega) (by omega), show (6 * (k : Int) + i).toNat = 6 * k + i.toNat by omega]
      refine ⟨by omega, fun z => by omega, fun _ => ⟨fun e => no (fun c => ?_), fun ne => ⟨by omega, fun e => no (fun c => c.2 i.toNat (by omega) e), fun e => nx 1 (Or.inl ⟨rfl, ?_⟩)⟩⟩⟩
      · rcases hI with ⟨e1, _⟩ | ⟨_, c0⟩
        · omega
        · exact c0 ⟨c.1, fun j hj => c.2 j (by omega)⟩
      · rcases hI with ⟨_, c1⟩ | ⟨e0, _⟩
        · refine ⟨c1.1, fun j hj => ?_⟩
          by_cases cj : (j : Int) = i
          · rw [show j = i.toNat by omega]; exact e
          · exact c1.2 j (by omega)
        · exact absurd e0 ne
  unfold WX12_isOthers VX12_isOthers
  rw [show ((k : Nat) : Int).toNat = k by omega]
  exact ⟨by omega, fun e => k15 0 (Or.inr ⟨rfl, fun c => c.1 e⟩), fun ne => k15 1 (Or.inl ⟨rfl, ne, fun j hj => by omega⟩)⟩
