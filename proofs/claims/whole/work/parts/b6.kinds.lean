/-! THE MODEL: NAMES of a wrong kind of PERSON -/
theorem R_kind {M : e_M} {V : Nat → v_D} {S : w_S} {a : Int} {p : Nat} (h : R_all M V S a) (hp : (p : Int) < S.1 1) : M 4491 (80 * 1 + p) = (if p = 0 then 2 else (w_t S 1 p).1 7) ∧ ((w_t S 1 p).1 7 = 0 ∨ (w_t S 1 p).1 7 = 1) ∧ (p = 0 → (w_t S 1 p).1 7 = 1) := by
  have p80 := R_mx h.2.2.2.1 (show 1 < 7 by omega) hp
  obtain ⟨-, -, -, -, -, -, -, c7⟩ := n_c (M := M) (t := 80 * 1 + p) (by omega)
  obtain ⟨-, k, -⟩ := h.2.2.1.2.2.2.1 p hp
  rw [c7]; exact k
theorem m_firm1 {M : e_M} {V : Nat → v_D} {S : w_S} {a : Int} {x p : Nat} {Q : Int → e_M → Prop} (h : R_all M V S a) (i1 : M 4520 1 = (p : Int)) (hp : (p : Int) < S.1 1) (n0 : (w_t S 1 p).1 7 ≠ 0) (hq : Q 1 M) : WX12_firm x M Q := by
  have p80 := R_mx h.2.2.2.1 (show 1 < 7 by omega) hp
  obtain ⟨k1, k2, k3⟩ := R_kind h hp
  unfold WX12_firm VX12_firm
  rw [show (1 : Int).toNat = 1 from rfl, i1]
  refine ⟨by omega, m_idt (t := 80 * 1 + p) (by omega) (by omega) (by omega) ?_⟩
  rw [show (((80 * 1 + p : Nat)) : Int).toNat = 80 * 1 + p by omega, k1]
  refine ⟨by omega, fun z => ?_, fun _ => hq⟩
  split at z <;> omega
theorem m_guard1 {M : e_M} {V : Nat → v_D} {S : w_S} {a : Int} {p q : Nat} {Q : Int → e_M → Prop} (h : R_all M V S a) (i0 : M 4520 0 = (p : Int)) (i1 : M 4520 1 = (q : Int)) (hp : (p : Int) < S.1 1) (hq' : (q : Int) < S.1 1) (n0 : ¬ ((w_t S 1 p).1 7 = 0 ∧ (w_t S 1 q).1 7 = 0)) (hq : Q 1 M) : WX12_guard M Q := by
  have p80 := R_mx h.2.2.2.1 (show 1 < 7 by omega) hp
  have q80 := R_mx h.2.2.2.1 (show 1 < 7 by omega) hq'
  obtain ⟨k1, k2, k3⟩ := R_kind h hp
  obtain ⟨l1, l2, l3⟩ := R_kind h hq'
  unfold WX12_guard VX12_guard
  rw [show (0 : Int).toNat = 0 from rfl, show (1 : Int).toNat = 1 from rfl, i0, i1]
  refine ⟨by omega, by omega, m_idt (t := 80 * 1 + p) (by omega) (by omega) (by omega) ?_⟩
  rw [show (((80 * 1 + p : Nat)) : Int).toNat = 80 * 1 + p by omega, k1]
  refine ⟨by omega, fun _ => hq, fun z => m_idt (t := 80 * 1 + q) (by omega) (by omega) (by omega) ?_⟩
  rw [show (((80 * 1 + q : Nat)) : Int).toNat = 80 * 1 + q by omega, l1]
  refine ⟨by omega, fun z2 => ?_, fun _ => hq⟩
  refine absurd ⟨?_, ?_⟩ n0
  · split at z <;> omega
  · split at z2 <;> omega
theorem m_death1 {M : e_M} {V : Nat → v_D} {S : w_S} {a : Int} {x p : Nat} {Q : Int → e_M → Prop} (h : R_all M V S a) (i0 : M 4520 0 = (p : Int)) (hp : (p : Int) < S.1 1) (n0 : (w_t S 1 p).1 7 ≠ 0) (hq : Q 1 M) : WX12_death x M Q := by
  have p80 := R_mx h.2.2.2.1 (show 1 < 7 by omega) hp
  obtain ⟨k1, k2, k3⟩ := R_kind h hp
  unfold WX12_death VX12_death
  rw [show (0 : Int).toNat = 0 from rfl, i0]
  refine ⟨by omega, m_idt (t := 80 * 1 + p) (by omega) (by omega) (by omega) ?_⟩
  rw [show (((80 * 1 + p : Nat)) : Int).toNat = 80 * 1 + p by omega, k1]
  refine ⟨by omega, fun z => ?_, fun _ => hq⟩
  exfalso
  split at z <;> omega
theorem m_close1 {M : e_M} {V : Nat → v_D} {S : w_S} {a : Int} {p : Nat} {Q : Int → e_M → Prop} (h : R_all M V S a) (i0 : M 4520 0 = (p : Int)) (hp : (p : Int) < S.1 1) (n0 : ¬ (p ≠ 0 ∧ (w_t S 1 p).1 7 = 1)) (hq : Q 1 M) : WX12_close M Q := by
  have p80 := R_mx h.2.2.2.1 (show 1 < 7 by omega) hp
  obtain ⟨k1, k2, k3⟩ := R_kind h hp
  unfold WX12_close VX12_close
  rw [show (0 : Int).toNat = 0 from rfl, i0]
  refine ⟨by omega, m_idt (t := 80 * 1 + p) (by omega) (by omega) (by omega) ?_⟩
  rw [show (((80 * 1 + p : Nat)) : Int).toNat = 80 * 1 + p by omega, k1]
  refine ⟨by omega, fun z => ?_, fun _ => hq⟩
  exfalso
  split at z <;> omega
