/-! the tape: feed, end, clock, fault, answer on both sides -/
def t_1 (M : e_M) (r o k : Nat) (b : Int) : e_M := e_up (e_up M r (M o k).toNat b) o k (M o k + 1)
def t_b (x s : Int) : Int := e_w8 (e_w8 (f_shr x s))
def t_4 (M : e_M) (r o k : Nat) (x : Int) : e_M := t_1 (t_1 (t_1 (t_1 M r o k (t_b x 24)) r o k (t_b x 16)) r o k (t_b x 8)) r o k (t_b x 0)
theorem t_1_n {M : e_M} {r o k : Nat} {b : Int} : t_1 M r o k b o k = M o k + 1 := by unfold t_1; rw [e_up_eq]
theorem t_4_n {M : e_M} {r o k : Nat} {x : Int} : t_4 M r o k x o k = M o k + 4 := by unfold t_4; rw [t_1_n, t_1_n, t_1_n, t_1_n]; omega
theorem t_1_c {M : e_M} {r o k c : Nat} {b : Int} (h1 : c ≠ r) (h2 : c ≠ o) : t_1 M r o k b c = M c := by unfold t_1; rw [e_up_row h2, e_up_row h1]
theorem t_1_o {M : e_M} {r o k j : Nat} {b : Int} (h : o ≠ r) (hj : j ≠ k) : t_1 M r o k b o j = M o j := by unfold t_1; rw [e_up_ne (fun z => hj z.2), e_up_row h]
theorem t_1_l {M : e_M} {r o k : Nat} {b : Int} (h : r ≠ o) (h0 : 0 ≤ M o k) : s_ar (t_1 M r o k b r) (t_1 M r o k b o k) = s_ar (M r) (M o k) ++ [b] := by
  rw [t_1_n, s_ar_succ h0]
  congr 1
  · refine s_ar_congr (fun i hi => ?_)
    unfold t_1
    rw [e_up_row h, e_up_at, if_neg (by omega)]
  · unfold t_1
    rw [e_up_row h, e_up_at, if_pos rfl]
theorem t_4_l {M : e_M} {r o k : Nat} {x : Int} (h : r ≠ o) (h0 : 0 ≤ M o k) : s_ar (t_4 M r o k x r) (t_4 M r o k x o k) = s_ar (M r) (M o k) ++ [t_b x 24, t_b x 16, t_b x 8, t_b x 0] := by
  unfold t_4
  rw [t_1_l h (by rw [t_1_n, t_1_n, t_1_n]; omega), t_1_l h (by rw [t_1_n, t_1_n]; omega), t_1_l h (by rw [t_1_n]; omega), t_1_l h h0]
  simp
theorem t_4_c {M : e_M} {r o k c : Nat} {x : Int} (h1 : c ≠ r) (h2 : c ≠ o) : t_4 M r o k x c = M c := by unfold t_4; rw [t_1_c h1 h2, t_1_c h1 h2, t_1_c h1 h2, t_1_c h1 h2]
theorem t_4_o {M : e_M} {r o k j : Nat} {x : Int} (h : o ≠ r) (hj : j ≠ k) : t_4 M r o k x o j = M o j := by unfold t_4; rw [t_1_o h hj, t_1_o h hj, t_1_o h hj, t_1_o h hj]
theorem k_four {M : e_M} {x : Int} {Q : e_M → Prop} (h : 0 ≤ M 0 1 ∧ M 0 1 + 4 ≤ 640) (hq : Q (t_4 M 1 0 1 x)) : WX11_feedFour x M Q := by
  unfold t_4 t_b at hq
  unfold WX11_feedFour VX11_feedFour
  have n1 : ∀ {N : e_M} {b : Int}, t_1 N 1 0 1 b 0 1 = N 0 1 + 1 := t_1_n
  have go : ∀ (d : Nat) (s : Int) (N : e_M), 0 ≤ s → 0 ≤ N 0 1 → N 0 1 < 640 → WX11_feedFour_3 Q d x (e_w32 (s + -8)) (t_1 N 1 0 1 (e_w8 (e_w8 (f_shr x s)))) → WX11_feedFour_3 Q (d + 1) x s N := by
    intro d s N hs h0 h1 hh
    unfold WX11_feedFour_3 VX11_feedFour_3
    refine ⟨fun z => by omega, fun _ => ⟨fun z => by omega, fun _ => ⟨⟨h0, h1⟩, fun M1 e1 M2 e2 => ?_⟩⟩⟩
    have e : M2 = t_1 N 1 0 1 (e_w8 (e_w8 (f_shr x s))) := by
      rw [e2, e1, e_up_row (show 0 ≠ 1 by omega), s_w (by omega) (by omega)]; rfl
    rw [e]; exact hh
  refine ⟨5, go 4 24 M (by omega) h.1 (by omega) ?_⟩
  rw [show e_w32 (24 + -8) = 16 from rfl]
  refine go 3 16 _ (by omega) (by rw [n1]; omega) (by rw [n1]; omega) ?_
  rw [show e_w32 (16 + -8) = 8 from rfl]
  refine go 2 8 _ (by omega) (by rw [n1, n1]; omega) (by rw [n1, n1]; omega) ?_
  rw [show e_w32 (8 + -8) = 0 from rfl]
  refine go 1 0 _ (by omega) (by rw [n1, n1, n1]; omega) (by rw [n1, n1, n1]; omega) ?_
  rw [show e_w32 (0 + -8) = -8 from rfl]
  unfold WX11_feedFour_3 VX11_feedFour_3
  exact ⟨fun _ => hq, fun z => by omega⟩
theorem m_four {M : e_M} {x : Int} {Q : e_M → Prop} (h : 0 ≤ M 4456 4 ∧ M 4456 4 + 4 ≤ 640) (hq : Q (t_4 M 4460 4456 4 x)) : WX12_four x M Q := by
  unfold t_4 t_b at hq
  unfold WX12_four VX12_four
  have n1 : ∀ {N : e_M} {b : Int}, t_1 N 4460 4456 4 b 4456 4 = N 4456 4 + 1 := t_1_n
  have go : ∀ (d : Nat) (s : Int) (N : e_M), 0 ≤ s → 0 ≤ N 4456 4 → N 4456 4 < 640 → WX12_four_3 Q d x (e_w32 (s + -8)) (t_1 N 4460 4456 4 (e_w8 (e_w8 (f_shr x s)))) → WX12_four_3 Q (d + 1) x s N := by
    intro d s N hs h0 h1 hh
    unfold WX12_four_3 VX12_four_3
    refine ⟨fun z => by omega, fun _ => ⟨⟨h0, h1⟩, fun M1 e1 M2 e2 => ?_⟩⟩
    have e : M2 = t_1 N 4460 4456 4 (e_w8 (e_w8 (f_shr x s))) := by
      rw [e2, e1, e_up_row (show 4456 ≠ 4460 by omega), s_w (by omega) (by omega)]; rfl
    rw [e]; exact hh
  refine ⟨5, go 4 24 M (by omega) h.1 (by omega) ?_⟩
  rw [show e_w32 (24 + -8) = 16 from rfl]
  refine go 3 16 _ (by omega) (by rw [n1]; omega) (by rw [n1]; omega) ?_
  rw [show e_w32 (16 + -8) = 8 from rfl]
  refine go 2 8 _ (by omega) (by rw [n1, n1]; omega) (by rw [n1, n1]; omega) ?_
  rw [show e_w32 (8 + -8) = 0 from rfl]
  refine go 1 0 _ (by omega) (by rw [n1, n1, n1]; omega) (by rw [n1, n1, n1]; omega) ?_
  rw [show e_w32 (0 + -8) = -8 from rfl]
  unfold WX12_four_3 VX12_four_3
  exact ⟨fun _ => hq, fun z => by omega⟩
/-- five numbers' bytes -/
def t_bs (x : Int) : List Int := [t_b x 24, t_b x 16, t_b x 8, t_b x 0]
def t_20 (M : e_M) (r o k : Nat) (a b c d e : Int) : e_M := t_4 (t_4 (t_4 (t_4 (t_4 M r o k a) r o k b) r o k c) r o k d) r o k e
theorem t_20_n {M : e_M} {r o k : Nat} {a b c d e : Int} : t_20 M r o k a b c d e o k = M o k + 20 := by unfold t_20; rw [t_4_n, t_4_n, t_4_n, t_4_n, t_4_n]; omega
theorem t_20_l {M : e_M} {r o k : Nat} {a b c d e : Int} (h : r ≠ o) (h0 : 0 ≤ M o k) : s_ar (t_20 M r o k a b c d e r) (t_20 M r o k a b c d e o k) = s_ar (M r) (M o k) ++ (t_bs a ++ (t_bs b ++ (t_bs c ++ (t_bs d ++ t_bs e)))) := by
  unfold t_20
  rw [t_4_l h (by rw [t_4_n, t_4_n, t_4_n, t_4_n]; omega), t_4_l h (by rw [t_4_n, t_4_n, t_4_n]; omega), t_4_l h (by rw [t_4_n, t_4_n]; omega), t_4_l h (by rw [t_4_n]; omega), t_4_l h h0]
  simp [t_bs]
theorem t_20_c {M : e_M} {r o k i : Nat} {a b c d e : Int} (h1 : i ≠ r) (h2 : i ≠ o) : t_20 M r o k a b c d e i = M i := by unfold t_20; rw [t_4_c h1 h2, t_4_c h1 h2, t_4_c h1 h2, t_4_c h1 h2, t_4_c h1 h2]
theorem t_20_o {M : e_M} {r o k j : Nat} {a b c d e : Int} (h : o ≠ r) (hj : j ≠ k) : t_20 M r o k a b c d e o j = M o j := by unfold t_20; rw [t_4_o h hj, t_4_o h hj, t_4_o h hj, t_4_o h hj, t_4_o h hj]
theorem k_feed {M : e_M} {a b c d e : Int} {Q : Int → e_M → Prop} (h : 0 ≤ M 0 1 ∧ M 0 1 ≤ 640) (q1 : M 0 1 + 20 ≤ 640 → Q 1 (t_20 M 1 0 1 a b c d e)) (q0 : 640 < M 0 1 + 20 → Q 0 M) : WX11_feed a b c d e M Q := by
  have n4 : ∀ {N : e_M} {x : Int}, t_4 N 1 0 1 x 0 1 = N 0 1 + 4 := t_4_n
  unfold WX11_feed VX11_feed
  rw [s_w (by omega) (by omega)]
  refine ⟨fun le => ?_, fun lt => q0 lt⟩
  exact k_four (by omega) (k_four (by rw [n4]; omega) (k_four (by rw [n4, n4]; omega) (k_four (by rw [n4, n4, n4]; omega) (k_four (by rw [n4, n4, n4, n4]; omega) (q1 le)))))
def m_t0 (M : e_M) : e_M := e_up M 4456 121 0
theorem m_feed {M : e_M} {a b c d e : Int} {Q : Int → e_M → Prop} (h : 0 ≤ M 4456 4 ∧ M 4456 4 ≤ 640) (q1 : M 4456 4 + 20 ≤ 640 → Q 1 (t_20 (m_t0 M) 4460 4456 4 a b c d e)) (q0 : 640 < M 4456 4 + 20 → Q 0 (m_t0 M)) : WX12_feed a b c d e M Q := by
  have n4 : ∀ {N : e_M} {x : Int}, t_4 N 4460 4456 4 x 4456 4 = N 4456 4 + 4 := t_4_n
  have h4 : m_t0 M 4456 4 = M 4456 4 := e_up_ne (by omega)
  unfold WX12_feed VX12_feed
  intro M1 e1
  have e1' : M1 = m_t0 M := e1
  subst e1'
  rw [s_w (by omega) (by omega)]
  refine ⟨fun le => ?_, fun lt => q0 (by omega)⟩
  exact m_four (by omega) (m_four (by rw [n4]; omega) (m_four (by rw [n4, n4]; omega) (m_four (by rw [n4, n4, n4]; omega) (m_four (by rw [n4, n4, n4, n4]; omega) (q1 (by omega))))))
theorem k_end {M : e_M} {n : Int} {Q : Int → e_M → Prop} (q1 : 0 ≤ n → n ≤ M 0 1 → Q 1 (e_up M 0 1 n)) (q0 : ¬ (0 ≤ n ∧ n ≤ M 0 1) → Q 0 M) : WX11_end n M Q := by
  unfold WX11_end VX11_end
  exact ⟨fun z => q0 (by omega), fun h0 => ⟨fun h1 M1 e1 => by rw [e1]; exact q1 h0 h1, fun z => q0 (by omega)⟩⟩
theorem m_end {M : e_M} {n : Int} {Q : Int → e_M → Prop} (q1 : 0 ≤ n → n ≤ M 4456 4 → Q 1 (e_up (m_t0 M) 4456 4 n)) (q0 : ¬ (0 ≤ n ∧ n ≤ M 4456 4) → Q 0 (m_t0 M)) : WX12_end n M Q := by
  have h4 : m_t0 M 4456 4 = M 4456 4 := e_up_ne (by omega)
  unfold WX12_end VX12_end
  intro M1 e1
  have e1' : M1 = m_t0 M := e1
  subst e1'
  rw [h4]
  exact ⟨fun z => q0 (by omega), fun h0 => ⟨fun h1 M2 e2 => by rw [e2]; exact q1 h0 h1, fun z => q0 (by omega)⟩⟩
theorem k_clock {M : e_M} {n : Int} {Q : Int → e_M → Prop} (q1 : M 0 2 ≤ n → n ≤ 219144 → Q 1 (e_up M 0 2 n)) (q0 : ¬ (M 0 2 ≤ n ∧ n ≤ 219144) → Q 0 M) : WX11_clock n M Q := by
  unfold WX11_clock VX11_clock
  exact ⟨fun z => q0 (by omega), fun h0 => ⟨fun h1 M1 e1 => by rw [e1]; exact q1 h0 h1, fun z => q0 (by omega)⟩⟩
theorem m_clock {M : e_M} {n : Int} {Q : Int → e_M → Prop} (q1 : M 4456 34 ≤ n → n ≤ 219144 → Q 1 (e_up (m_t0 M) 4456 34 n)) (q0 : ¬ (M 4456 34 ≤ n ∧ n ≤ 219144) → Q 0 (m_t0 M)) : WX12_clock n M Q := by
  have h4 : m_t0 M 4456 34 = M 4456 34 := e_up_ne (by omega)
  unfold WX12_clock VX12_clock
  intro M1 e1
  have e1' : M1 = m_t0 M := e1
  subst e1'
  rw [h4]
  exact ⟨fun z => q0 (by omega), fun h0 => ⟨fun h1 M2 e2 => by rw [e2]; exact q1 h0 (by omega), fun z => q0 (by omega)⟩⟩
theorem k_fault {M : e_M} {Q : Int → Prop} (h : Q (M 0 5)) : WX11_fault M Q := by
  unfold WX11_fault VX11_fault; exact h
theorem m_fault {M : e_M} {Q : Int → e_M → Prop} (h : Q (M 4456 12) (m_t0 M)) : WX12_fault M Q := by
  unfold WX12_fault VX12_fault
  intro M1 e1
  have e1' : M1 = m_t0 M := e1
  subst e1'
  rw [show m_t0 M 4456 12 = M 4456 12 from e_up_ne (by omega)]; exact h
theorem k_answer {M : e_M} {Q : Int → Prop} (h : Q (M 4452 0)) : WX11_answer M Q := by
  unfold WX11_answer VX11_answer; exact h
theorem m_answer {M : e_M} {Q : Int → e_M → Prop} (h : Q (M 4456 118) (m_t0 M)) : WX12_answer M Q := by
  unfold WX12_answer VX12_answer
  intro M1 e1
  have e1' : M1 = m_t0 M := e1
  subst e1'
  rw [show m_t0 M 4456 118 = M 4456 118 from e_up_ne (by omega)]; exact h
theorem m_thrown {M : e_M} {Q : Int → Prop} (h : Q (M 4456 121)) : WX12_thrown M Q := by
  unfold WX12_thrown VX12_thrown; exact h
theorem m_throwsIf {M : e_M} {b : Int} {Q : Int → e_M → Prop} (hb : b = 0 ∨ b = 1) (h : Q b (e_up M 4456 121 b)) : WX12_throwsIf b M Q := by
  unfold WX12_throwsIf VX12_throwsIf
  refine ⟨fun z => ?_, fun z => ?_⟩
  · unfold WX12_throwsIf_10 VX12_throwsIf_10
    intro M1 e1
    rw [e1]
    exact ⟨hb, by rw [z] at h ⊢; exact h⟩
  · have z1 : b = 1 := hb.resolve_left z
    unfold WX12_throwsIf_10 VX12_throwsIf_10
    intro M1 e1
    rw [e1]
    exact ⟨hb, by rw [z1] at h ⊢; exact h⟩
theorem k_octet {M : e_M} {k : Int} {Q : Option Int → e_M → Prop} (q0 : ¬ (0 ≤ k ∧ k < M 4452 2 ∧ k < 2000) → Q none M) (q1 : 0 ≤ k → k < M 4452 2 → k < 2000 → Q (some (M 4453 k.toNat)) M) : WX11_octet k M Q := by
  have n1 : ¬ (0 ≤ k ∧ k < M 4452 2 ∧ k < 2000) → WX11_octet_22 Q M := fun hn => by
    unfold WX11_octet_22 VX11_octet_22; exact q0 hn
  unfold WX11_octet VX11_octet
  exact ⟨fun z => n1 (by omega), fun h0 => ⟨fun z => n1 (by omega), fun h1 => ⟨fun h2 => ⟨⟨h0, h2⟩, q1 h0 h1 h2⟩, fun z => n1 (by omega)⟩⟩⟩
theorem m_octet {M : e_M} {k : Int} {Q : Int → e_M → Prop} (q0 : ¬ (0 ≤ k ∧ k < M 4456 120 ∧ k < 2000) → Q 0 (e_up M 4456 121 1)) (q1 : 0 ≤ k → k < M 4456 120 → k < 2000 → Q (M 4532 k.toNat) (e_up M 4456 121 0)) : WX12_octet k M Q := by
  have n1 : ∀ {b : Int}, b = 1 → ¬ (0 ≤ k ∧ k < M 4456 120 ∧ k < 2000) → WX12_octet_25 Q k b M := by
    intro b hb hn
    subst hb
    unfold WX12_octet_25 VX12_octet_25
    exact m_throwsIf (Or.inr rfl) ⟨fun z => by omega, fun _ => q0 hn⟩
  unfold WX12_octet VX12_octet
  refine ⟨fun z => n1 rfl (by omega), fun h0 => ⟨fun z => n1 rfl (by omega), fun h1 => ⟨fun h2 => ?_, fun z => n1 rfl (by omega)⟩⟩⟩
  unfold WX12_octet_25 VX12_octet_25
  refine m_throwsIf (Or.inl rfl) ⟨fun _ => ⟨⟨h0, h2⟩, ?_⟩, fun z => absurd rfl z⟩
  rw [e_up_row (show 4532 ≠ 4456 by omega)]
  exact q1 h0 h1 h2
