/-! THE MODEL: AUCTION, OPTIONS and LEASES on the LOT -/
theorem m_clr6 {M : e_M} {N0 : n_S} {l made day : Int} {q : Nat → Bool} {Q : Int → e_M → Prop} (hn : nn_ok M) (hd : M 4456 86 = day) (hN : n_of M = n_pm N0 q (g_auc l made day)) (hz : 0 ≤ M 4483 6 ∧ M 4483 6 ≤ 30) (hp : ∀ t, 480 ≤ t → t < 560 → q t = false) (hq : ∀ M', nn_ok M' → n_of M' = n_pm N0 (p_and q (p_upto 6 (M 4483 6))) (g_auc l made day) → j_keep M M' → ∃ j, WX12_auction_339 Q j l 0 M') : ∃ j, WX12_auction_291 Q j l 0 M := by
  refine s_up (σ := e_M) (P := fun dd i N => WX12_auction_291 Q dd l i N) (n := M 4483 6) (i0 := 0) (s := M) (fun i N => nn_ok N ∧ n_of N = n_pm N0 (p_and q (p_upto 6 i)) (g_auc l made day) ∧ j_keep M N) hz.1 ⟨hn, ?_, j_keep_refl⟩ ?_ ?_
  · rw [hN]
    congr 1
    funext t
    unfold p_and
    rw [p_upto_0, Bool.or_false]
  · intro d2 N ⟨b1, b2, b3⟩
    have sz : N 4483 6 = M 4483 6 := n_of_size (by omega) (by rw [b2, hN]; rfl)
    unfold WX12_auction_291 VX12_auction_291
    rw [show (6 : Int).toNat = 6 from rfl, sz]
    exact ⟨by omega, fun _ => hq N b1 b2 b3, fun z => by omega⟩
  · intro d2 i N k1 k2 ⟨b1, b2, b3⟩ ih
    have sz : N 4483 6 = M 4483 6 := n_of_size (by omega) (by rw [b2, hN]; rfl)
    have tt : (((80 * 6 + i.toNat : Nat)) : Int).toNat = 80 * 6 + i.toNat := by omega
    have dN : N 4456 86 = day := by rw [b3.2 86 (by omega)]; exact hd
    have pT : p_and q (p_upto 6 i) (80 * 6 + i.toNat) = false := by
      unfold p_and
      rw [hp _ (by omega) (by omega), p_upto_T k1]; rfl
    have pS : ∀ t, p_and q (p_upto 6 (i + 1)) t = (p_and q (p_upto 6 i) t || decide (t = 80 * 6 + i.toNat)) := fun t => by
      unfold p_and
      rw [p_upto_S k1, Bool.or_assoc]
    have eT : (n_of N).2.1 (80 * 6 + i.toNat) = N0.2.1 (80 * 6 + i.toNat) := by rw [b2, n_pm_at, pT, if_neg (by decide)]
    have go : ∀ N', nn_ok N' → n_of N' = n_pm N0 (p_and q (p_upto 6 (i + 1))) (g_auc l made day) → j_keep M N' → WX12_auction_330 (WX12_auction_291 Q d2) Q l i N' := fun N' v1 v2 v3 => by
      unfold WX12_auction_330 VX12_auction_330
      rw [s_w (by omega) (by omega)]
      exact ih N' ⟨v1, v2, v3⟩
    have skip : g_auc l made day (80 * 6 + i.toNat) (N0.2.1 (80 * 6 + i.toNat)) = N0.2.1 (80 * 6 + i.toNat) → WX12_auction_330 (WX12_auction_291 Q d2) Q l i N := fun e => go N b1 (by rw [b2]; exact (n_pm_skip pT pS e).symm) b3
    have off : g_auc l made day (80 * 6 + i.toNat) (N0.2.1 (80 * 6 + i.toNat)) = t_leave (N0.2.1 (80 * 6 + i.toNat)) l → ∀ N', nn_ok N' → n_of N' = n_setT (n_of N) (80 * 6 + i.toNat) (t_leave ((n_of N).2.1 (80 * 6 + i.toNat)) l) → j_keep N N' → WX12_auction_330 (WX12_auction_291 Q d2) Q l i N' := fun e N' v1 v2 v3 => go N' v1 (by rw [v2, n_pm_step pT pS, ← b2, eT, e]) (j_keep_trans b3 v3)
    unfold WX12_auction_291 VX12_auction_291
    rw [show (6 : Int).toNat = 6 from rfl, sz, dN]
    refine ⟨by omega, fun z => by omega, fun _ => ?_⟩
    obtain ⟨k, ek⟩ : ∃ k : Nat, i = k := ⟨i.toNat, by omega⟩
    subst ek
    rw [show ((k : Nat) : Int).toNat = k by omega] at *
    have ge : ∀ x : w_T, g_auc l made day (80 * 6 + k) x = if t_thr x day = true ∧ l ∈ x.2.1 then t_leave x l else x := fun x => by
      unfold g_auc
      rw [if_neg (by omega), if_neg (by omega)]
    refine m_isThere (s := 6) (by omega) (by omega) (fun t => ⟨fun z => by omega, fun _ => m_idt (t := 80 * 6 + k) (by omega) (by omega) (by omega) (m_offLot b1 (by omega) (fun no => skip ?_) (fun m => off ?_))⟩) (fun t => ⟨fun _ => skip ?_, fun z => absurd rfl z⟩)
    · rw [eT] at no
      rw [ge, if_neg (fun c => no c.2)]
    · rw [eT] at m t
      rw [ge, if_pos ⟨t, m⟩]
    · rw [eT] at t
      rw [ge, if_neg (fun c => by rw [t] at c; cases c.1)]
theorem m_clr4 {M : e_M} {N0 : n_S} {l made day : Int} {q : Nat → Bool} {Q : Int → e_M → Prop} (hn : nn_ok M) (hd : M 4456 86 = day) (hN : n_of M = n_pm N0 q (g_auc l made day)) (hz : 0 ≤ M 4483 4 ∧ M 4483 4 ≤ 40) (hp : ∀ t, 320 ≤ t → t < 400 → q t = false) (hq : ∀ M', nn_ok M' → n_of M' = n_pm N0 (p_and q (p_upto 4 (M 4483 4))) (g_auc l made day) → j_keep M M' → ∃ j, WX12_auction_291 Q j l 0 M') : ∃ j, WX12_auction_230 Q j l made 0 M := by
  refine s_up (σ := e_M) (P := fun dd i N => WX12_auction_230 Q dd l made i N) (n := M 4483 4) (i0 := 0) (s := M) (fun i N => nn_ok N ∧ n_of N = n_pm N0 (p_and q (p_upto 4 i)) (g_auc l made day) ∧ j_keep M N) hz.1 ⟨hn, ?_, j_keep_refl⟩ ?_ ?_
  · rw [hN]
    congr 1
    funext t
    unfold p_and
    rw [p_upto_0, Bool.or_false]
  · intro d2 N ⟨b1, b2, b3⟩
    have sz : N 4483 4 = M 4483 4 := n_of_size (by omega) (by rw [b2, hN]; rfl)
    unfold WX12_auction_230 VX12_auction_230
    rw [show (4 : Int).toNat = 4 from rfl, sz]
    exact ⟨by omega, fun _ => hq N b1 b2 b3, fun z => by omega⟩
  · intro d2 i N k1 k2 ⟨b1, b2, b3⟩ ih
    have sz : N 4483 4 = M 4483 4 := n_of_size (by omega) (by rw [b2, hN]; rfl)
    have tt : (((80 * 4 + i.toNat : Nat)) : Int).toNat = 80 * 4 + i.toNat := by omega
    have dN : N 4456 86 = day := by rw [b3.2 86 (by omega)]; exact hd
    have pT : p_and q (p_upto 4 i) (80 * 4 + i.toNat) = false := by
      unfold p_and
      rw [hp _ (by omega) (by omega), p_upto_T k1]; rfl
    have pS : ∀ t, p_and q (p_upto 4 (i + 1)) t = (p_and q (p_upto 4 i) t || decide (t = 80 * 4 + i.toNat)) := fun t => by
      unfold p_and
      rw [p_upto_S k1, Bool.or_assoc]
    have eT : (n_of N).2.1 (80 * 4 + i.toNat) = N0.2.1 (80 * 4 + i.toNat) := by rw [b2, n_pm_at, pT, if_neg (by decide)]
    have go : ∀ N', nn_ok N' → n_of N' = n_pm N0 (p_and q (p_upto 4 (i + 1))) (g_auc l made day) → j_keep M N' → WX12_auction_282 (WX12_auction_230 Q d2) Q l made i N' := fun N' v1 v2 v3 => by
      unfold WX12_auction_282 VX12_auction_282
      rw [s_w (by omega) (by omega)]
      exact ih N' ⟨v1, v2, v3⟩
    have skip : g_auc l made day (80 * 4 + i.toNat) (N0.2.1 (80 * 4 + i.toNat)) = N0.2.1 (80 * 4 + i.toNat) → WX12_auction_282 (WX12_auction_230 Q d2) Q l made i N := fun e => go N b1 (by rw [b2]; exact (n_pm_skip pT pS e).symm) b3
    have off : g_auc l made day (80 * 4 + i.toNat) (N0.2.1 (80 * 4 + i.toNat)) = t_leave (N0.2.1 (80 * 4 + i.toNat)) l → ∀ N', nn_ok N' → n_of N' = n_setT (n_of N) (80 * 4 + i.toNat) (t_leave ((n_of N).2.1 (80 * 4 + i.toNat)) l) → j_keep N N' → WX12_auction_282 (WX12_auction_230 Q d2) Q l made i N' := fun e N' v1 v2 v3 => go N' v1 (by rw [v2, n_pm_step pT pS, ← b2, eT, e]) (j_keep_trans b3 v3)
    unfold WX12_auction_230 VX12_auction_230
    rw [show (4 : Int).toNat = 4 from rfl, sz, dN]
    refine ⟨by omega, fun z => by omega, fun _ => ?_⟩
    obtain ⟨k, ek⟩ : ∃ k : Nat, i = k := ⟨i.toNat, by omega⟩
    subst ek
    rw [show ((k : Nat) : Int).toNat = k by omega] at *
    have ge : ∀ x : w_T, g_auc l made day (80 * 4 + k) x = if t_thr x day = true ∧ made < x.1 1 ∧ l ∈ x.2.1 then t_leave x l else x := fun x => by
      unfold g_auc
      rw [if_pos (by omega)]
    obtain ⟨-, c1, -⟩ := n_c (M := N) (t := 80 * 4 + k) (by omega)
    refine m_isThere (s := 4) (by omega) (by omega) (fun t => ⟨fun z => by omega, fun _ => m_idt (t := 80 * 4 + k) (by omega) (by omega) (by omega) ?_⟩) (fun t => ⟨fun _ => skip ?_, fun z => absurd rfl z⟩)
    · rw [tt, c1]
      refine ⟨by omega, fun le => skip ?_, fun lt => m_idt (t := 80 * 4 + k) (by omega) (by omega) (by omega) (m_offLot b1 (by omega) (fun no => skip ?_) (fun m => off ?_))⟩
      · rw [eT] at le
        rw [ge, if_neg (fun c => by have := c.2.1; omega)]
      · rw [eT] at no
        rw [ge, if_neg (fun c => no c.2.2)]
      · rw [eT] at m t lt
        rw [ge, if_pos ⟨t, lt, m⟩]
    · rw [eT] at t
      rw [ge, if_neg (fun c => by rw [t] at c; cases c.1)]
