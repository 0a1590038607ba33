/-! THE MODEL: AUCTION, what else lies on the LOT -/
def g_auc (l made day : Int) (t : Nat) (x : w_T) : w_T := if t < 400 then (if t_thr x day = true ∧ made < x.1 1 ∧ l ∈ x.2.1 then t_leave x l else x) else if t < 480 then (if l ∈ x.2.1 then (s_fu x.1 2 1, x.2) else x) else (if t_thr x day = true ∧ l ∈ x.2.1 then t_leave x l else x)
def p_and (a b : Nat → Bool) (t : Nat) : Bool := a t || b t
theorem n_of_size {M N : e_M} {s : Nat} (hs : s < 7) (h : (n_of N).1 = (n_of M).1) : N 4483 s = M 4483 s := by
  have := congrFun h s
  rw [n_z hs, n_z hs] at this
  exact this
/-- the CAUTIONS -/
theorem m_clr5 {M : e_M} {N0 : n_S} {l made day : Int} {q : Nat → Bool} {Q : Int → e_M → Prop} (hn : nn_ok M) (hN : n_of M = n_pm N0 q (g_auc l made day)) (hz : 0 ≤ M 4483 5 ∧ M 4483 5 ≤ 40) (hp : ∀ t, 400 ≤ t → t < 480 → q t = false) (hq : ∀ M', nn_ok M' → n_of M' = n_pm N0 (p_and q (p_upto 5 (M 4483 5))) (g_auc l made day) → j_keep M M' → Q 0 M') : ∃ j, WX12_auction_339 Q j l 0 M := by
  have hl0 := hz
  refine s_up (σ := e_M) (P := fun dd i N => WX12_auction_339 Q dd l i N) (n := M 4483 5) (i0 := 0) (s := M) (fun i N => nn_ok N ∧ n_of N = n_pm N0 (p_and q (p_upto 5 i)) (g_auc l made day) ∧ j_keep M N) hz.1 ⟨hn, ?_, j_keep_refl⟩ ?_ ?_
  · rw [hN]
    congr 1
    funext t
    unfold p_and
    rw [p_upto_0, Bool.or_false]
  · intro d2 N ⟨b1, b2, b3⟩
    have sz : N 4483 5 = M 4483 5 := n_of_size (by omega) (by rw [b2, hN]; rfl)
    unfold WX12_auction_339 VX12_auction_339
    rw [show (5 : Int).toNat = 5 from rfl, sz]
    exact ⟨by omega, fun _ => hq N b1 b2 b3, fun z => by omega⟩
  · intro d2 i N k1 k2 ⟨b1, b2, b3⟩ ih
    have sz : N 4483 5 = M 4483 5 := n_of_size (by omega) (by rw [b2, hN]; rfl)
    have tt : (((80 * 5 + i.toNat : Nat)) : Int).toNat = 80 * 5 + i.toNat := by omega
    have pT : p_and q (p_upto 5 i) (80 * 5 + i.toNat) = false := by
      unfold p_and
      rw [hp _ (by omega) (by omega), p_upto_T k1]; rfl
    have pS : ∀ t, p_and q (p_upto 5 (i + 1)) t = (p_and q (p_upto 5 i) t || decide (t = 80 * 5 + i.toNat)) := fun t => by
      unfold p_and
      rw [p_upto_S k1, Bool.or_assoc]
    have eT : (n_of N).2.1 (80 * 5 + i.toNat) = N0.2.1 (80 * 5 + i.toNat) := by rw [b2, n_pm_at, pT, if_neg (by decide)]
    have jk := (b1.2.1 (80 * 5 + i.toNat) (by omega)).1
    have ej : j_row N 4492 4493 (80 * 5 + i.toNat) = (N0.2.1 (80 * 5 + i.toNat)).2.1 := by rw [(n_r (M := N) (t := 80 * 5 + i.toNat) (by omega)).1, eT]
    have go : ∀ N', nn_ok N' → n_of N' = n_pm N0 (p_and q (p_upto 5 (i + 1))) (g_auc l made day) → j_keep M N' → WX12_auction_376 (WX12_auction_339 Q d2) Q l i N' := fun N' v1 v2 v3 => by
      unfold WX12_auction_376 VX12_auction_376
      rw [s_w (by omega) (by omega)]
      exact ih N' ⟨v1, v2, v3⟩
    unfold WX12_auction_339 VX12_auction_339
    rw [show (5 : Int).toNat = 5 from rfl, sz]
    refine ⟨by omega, fun z => by omega, fun _ => m_idt (t := 80 * 5 + i.toNat) (by omega) (by omega) (by omega) (m_placeOn (by omega) (by rw [tt]; exact jk) ?_)⟩
    rw [tt, ej]
    refine ⟨fun lt => go N b1 ?_ b3, fun ge => m_idt (t := 80 * 5 + i.toNat) (by omega) (by omega) (by omega) ⟨⟨by omega, Or.inr rfl⟩, fun M4 f4 => ?_⟩⟩
    · rw [b2]
      refine (n_pm_skip pT pS ?_).symm
      unfold g_auc
      rw [if_neg (by omega), if_pos (by omega), if_neg (fun m => by have := r_find_mem.mpr m; omega)]
    · rw [tt] at f4
      obtain ⟨u1, u2⟩ := N_put2 (M := N) (t := 80 * 5 + i.toNat) (v := 1) b1 (by omega)
      rw [← f4] at u1 u2
      refine go M4 u1 ?_ (j_keep_trans b3 (j_keep_up f4 (by omega)))
      rw [u2, n_pm_step pT pS, ← b2, eT]
      unfold n_put g_auc
      rw [eT, if_neg (show ¬ 80 * 5 + i.toNat < 400 by omega), if_pos (show 80 * 5 + i.toNat < 480 by omega), if_pos (r_find_mem.mp ge)]
