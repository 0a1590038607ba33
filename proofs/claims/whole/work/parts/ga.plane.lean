/-! THE MODEL: the plane, what it reads -/
theorem m_abs {x : Int} (h : -1000000 ≤ x ∧ x ≤ 1000000) : f_absJ x = (x.natAbs : Int) := by
  unfold f_absJ
  by_cases c : 0 < x
  · rw [if_pos c]; omega
  · rw [if_neg c, s_wj (by omega) (by omega)]; omega
theorem j_fg_nat {M : e_M} {f n : Nat} {k : Nat} (h : k < n) : (j_fg M f n)[k]? = some (M 4480 (f + k), M 4481 (f + k)) := by
  unfold j_fg
  exact s_ar_get (f := fun k => (M 4480 (f + k), M 4481 (f + k))) (by omega)
theorem j_fgb_pt {M : e_M} {f n : Nat} (hb : j_fgb M f n) : s_fb (j_fg M f n) := by
  intro q hq
  obtain ⟨k, hk, e⟩ := List.mem_iff_getElem.mp hq
  rw [j_fg_len] at hk
  have := j_fg_nat (M := M) (f := f) hk
  rw [List.getElem?_eq_getElem (by rw [j_fg_len]; exact hk), e] at this
  have e2 := Option.some.inj this
  rw [e2]
  exact hb k hk
theorem m_sideOf {M : e_M} {f n : Nat} {f' n' px py : Int} {Q : Int → Prop} (ef : f' = (f : Int)) (en : n' = (n : Int)) (hf : f + n ≤ 4800) (hb : j_fgb M f n) (hx : 0 ≤ px ∧ px ≤ 1000) (hy : 0 ≤ py ∧ py ≤ 1000) (hq : Q (g_str (j_fg M f n) px py)) : WX12_sideOf f' n' px py M Q := by
  subst ef en
  have ln : (j_fg M f n).length = n := j_fg_len
  unfold WX12_sideOf VX12_sideOf
  refine s_up (σ := Unit) (P := fun dd i _ => WX12_sideOf_3 M Q dd f n px py i) (n := (n : Int)) (i0 := 0) (s := ()) (fun i _ => ∀ j : Nat, (j : Int) < i → g_strf (j_fg M f n) px py j = false) (by omega) (fun j hj => by omega) ?_ ?_
  · intro d _ hI
    unfold WX12_sideOf_3 VX12_sideOf_3
    refine ⟨fun _ => ?_, fun z => by omega⟩
    have e : g_str (j_fg M f n) px py = -1 := g_fst_no (fun j hj => hI j (by rw [ln] at hj; omega))
    rw [← e]; exact hq
  · intro d i _ k1 k2 hI ih
    obtain ⟨k, ek⟩ : ∃ k : Nat, i = k := ⟨i.toNat, by omega⟩
    subst ek
    have hk : k < n := by omega
    have hnx := g_nx_lt (n := n) hk
    have a1 := hb k hk
    have a2 := hb _ hnx
    have sf : g_strf (j_fg M f n) px py k = (!(decide (px = M 4480 (f + g_nx n k)) && decide (py = M 4481 (f + g_nx n k))) && g_on (M 4480 (f + k)) (M 4481 (f + k)) (M 4480 (f + g_nx n k)) (M 4481 (f + g_nx n k)) px py) := by
      unfold g_strf
      rw [ln, j_fg_at hk, j_fg_at hnx]
    have no : g_strf (j_fg M f n) px py k = false → WX12_sideOf_94 M (WX12_sideOf_3 M Q d) Q f n px py k := fun e => by
      unfold WX12_sideOf_94 VX12_sideOf_94
      rw [s_w (by omega) (by omega)]
      refine ih () (fun j hj => ?_)
      by_cases c : j = k
      · rw [c]; exact e
      · exact hI j (by omega)
    have yes : g_strf (j_fg M f n) px py k = true → Q k := fun e => by
      have : g_str (j_fg M f n) px py = (k : Int) := g_fst_at (by rw [ln]; exact hk) e (fun j hj => hI j (by omega))
      rw [← this]; exact hq
    unfold WX12_sideOf_3 VX12_sideOf_3
    rw [s_w (x := (k : Int) + 1) (by omega) (by omega), g_nx_mod hk, s_w (x := (f : Int) + (g_nx n k : Nat)) (by omega) (by omega), s_w (x := (f : Int) + (k : Int)) (by omega) (by omega), show ((f : Int) + (k : Int)).toNat = f + k by omega]
    refine ⟨fun z => by omega, fun _ => ⟨by omega, fun y1 e1 => ?_⟩⟩
    subst e1
    rw [show ((f : Int) + ((g_nx n k : Nat) : Int)).toNat = f + g_nx n k by omega]
    refine ⟨by omega, by omega, by omega, by omega, m_lies (by omega) (by omega) (by omega) (by omega) (fun o => ?_) (fun o => ?_)⟩
    · refine ⟨fun z => absurd z (by decide), fun _ => ⟨by omega, fun ne => yes ?_, fun e => ⟨by omega, fun e2 => no ?_, fun ne => yes ?_⟩⟩⟩
      · rw [sf, o, decide_eq_false (fun z => ne z.symm)]; rfl
      · rw [sf, o, decide_eq_true e.symm, decide_eq_true e2.symm]; rfl
      · rw [sf, o, decide_eq_false (show ¬ py = M 4481 (f + g_nx n k) from fun z => ne z.symm), Bool.and_false]; rfl
    · exact ⟨fun _ => no (by rw [sf, o, Bool.and_false]), fun z => absurd rfl z⟩
theorem m_far {M : e_M} {f n k : Nat} {f' k' px py : Int} {Q : Int → Prop} (ef : f' = (f : Int)) (ek : k' = (k : Int)) (hk : k < n) (hf : f + n ≤ 4800) (hb : j_fgb M f n) (hx : 0 ≤ px ∧ px ≤ 1000) (hy : 0 ≤ py ∧ py ≤ 1000) (hq : Q (((px - (g_pt (j_fg M f n) k).1).natAbs : Int) + ((py - (g_pt (j_fg M f n) k).2).natAbs : Int))) : WX12_far f' k' px py M Q := by
  subst ef ek
  have a := hb k hk
  rw [j_fg_at hk] at hq
  unfold WX12_far VX12_far
  rw [s_w (x := (f : Int) + (k : Int)) (by omega) (by omega), show ((f : Int) + (k : Int)).toNat = f + k by omega, s_wj (x := px - M 4480 (f + k)) (by omega) (by omega), s_wj (x := py - M 4481 (f + k)) (by omega) (by omega), m_abs (by omega), m_abs (by omega), s_wj (by omega) (by omega)]
  exact ⟨by omega, by omega, hq⟩
theorem g_area_b {F : s_Fig} (h : s_fb F) : ∀ n : Nat, -(1000000 * (n : Int)) ≤ g_sum (fun i => (g_pt F i).1 * (g_pt F (g_nx F.length i)).2 - (g_pt F (g_nx F.length i)).1 * (g_pt F i).2) n ∧ g_sum (fun i => (g_pt F i).1 * (g_pt F (g_nx F.length i)).2 - (g_pt F (g_nx F.length i)).1 * (g_pt F i).2) n ≤ 1000000 * (n : Int)
  | 0 => ⟨by show -(1000000 * (0 : Int)) ≤ 0; omega, by show (0 : Int) ≤ 1000000 * 0; omega⟩
  | n + 1 => by
    have ih := g_area_b h n
    have a := g_pt_b h n
    have b := g_pt_b h (g_nx F.length n)
    have p1 := s_mulb (A := 1000) (B := 1000) (show -1000 ≤ (g_pt F n).1 by have := a.1.1; omega) a.1.2 (show -1000 ≤ (g_pt F (g_nx F.length n)).2 by have := b.2.1; omega) b.2.2 (by decide) (by decide)
    have p2 := s_mulb (A := 1000) (B := 1000) (show -1000 ≤ (g_pt F (g_nx F.length n)).1 by have := b.1.1; omega) b.1.2 (show -1000 ≤ (g_pt F n).2 by have := a.2.1; omega) a.2.2 (by decide) (by decide)
    have q1 := Int.mul_nonneg a.1.1 b.2.1
    have q2 := Int.mul_nonneg b.1.1 a.2.1
    have e : g_sum (fun i => (g_pt F i).1 * (g_pt F (g_nx F.length i)).2 - (g_pt F (g_nx F.length i)).1 * (g_pt F i).2) (n + 1) = g_sum (fun i => (g_pt F i).1 * (g_pt F (g_nx F.length i)).2 - (g_pt F (g_nx F.length i)).1 * (g_pt F i).2) n + ((g_pt F n).1 * (g_pt F (g_nx F.length n)).2 - (g_pt F (g_nx F.length n)).1 * (g_pt F n).2) := rfl
    omega
theorem m_areaOf {M : e_M} {f n : Nat} {f' n' : Int} {Q : Int → Prop} (ef : f' = (f : Int)) (en : n' = (n : Int)) (hf : f + n ≤ 4800) (hb : j_fgb M f n) (hq : Q (g_area (j_fg M f n))) : WX12_areaOf f' n' M Q := by
  subst ef en
  have ln : (j_fg M f n).length = n := j_fg_len
  have fb := j_fgb_pt hb
  unfold g_area at hq
  rw [ln] at hq
  unfold WX12_areaOf VX12_areaOf
  refine s_up (σ := Int) (P := fun dd i s => WX12_areaOf_5 M Q dd f n s i) (n := (n : Int)) (i0 := 0) (s := 0) (fun i s => s = g_sum (fun i => (g_pt (j_fg M f n) i).1 * (g_pt (j_fg M f n) (g_nx n i)).2 - (g_pt (j_fg M f n) (g_nx n i)).1 * (g_pt (j_fg M f n) i).2) i.toNat) (by omega) rfl ?_ ?_
  · intro d s hI
    unfold WX12_areaOf_5 VX12_areaOf_5
    rw [hI]
    exact ⟨fun _ => hq, fun z => by omega⟩
  · intro d i s k1 k2 hI ih
    obtain ⟨k, ek⟩ : ∃ k : Nat, i = k := ⟨i.toNat, by omega⟩
    subst ek
    have hk : k < n := by omega
    have hnx := g_nx_lt (n := n) hk
    have a1 := hb k hk
    have a2 := hb _ hnx
    have bd := g_area_b fb k
    rw [ln] at bd
    unfold WX12_areaOf_5 VX12_areaOf_5
    rw [s_w (x := (k : Int) + 1) (by omega) (by omega), g_nx_mod hk, s_w (x := (f : Int) + (g_nx n k : Nat)) (by omega) (by omega), s_w (x := (f : Int) + (k : Int)) (by omega) (by omega), show ((f : Int) + (k : Int)).toNat = f + k by omega]
    refine ⟨fun z => by omega, fun _ => ⟨by omega, fun y1 e1 => ?_⟩⟩
    subst e1
    rw [show ((f : Int) + ((g_nx n k : Nat) : Int)).toNat = f + g_nx n k by omega]
    have p1 := s_mulb (A := 1000) (B := 1000) (show -1000 ≤ M 4480 (f + k) by omega) a1.1.2 (show -1000 ≤ M 4481 (f + g_nx n k) by omega) a2.2.2 (by decide) (by decide)
    have p2 := s_mulb (A := 1000) (B := 1000) (show -1000 ≤ M 4480 (f + g_nx n k) by omega) a2.1.2 (show -1000 ≤ M 4481 (f + k) by omega) a1.2.2 (by decide) (by decide)
    have hI' : s = g_sum (fun i => (g_pt (j_fg M f n) i).1 * (g_pt (j_fg M f n) (g_nx n i)).2 - (g_pt (j_fg M f n) (g_nx n i)).1 * (g_pt (j_fg M f n) i).2) k := hI
    rw [← hI'] at bd
    rw [s_wj (x := M 4480 (f + k) * M 4481 (f + g_nx n k)) (by omega) (by omega), s_wj (x := M 4480 (f + g_nx n k) * M 4481 (f + k)) (by omega) (by omega), s_wj (x := M 4480 (f + k) * M 4481 (f + g_nx n k) - M 4480 (f + g_nx n k) * M 4481 (f + k)) (by omega) (by omega)]
    refine ⟨by omega, by omega, by omega, by omega, fun y2 e2 => ih y2 ?_⟩
    rw [s_wj (by omega) (by omega)] at e2
    rw [e2, hI', show ((k : Int) + 1).toNat = k + 1 by omega]
    show _ = g_sum _ k + ((g_pt (j_fg M f n) k).1 * (g_pt (j_fg M f n) (g_nx n k)).2 - (g_pt (j_fg M f n) (g_nx n k)).1 * (g_pt (j_fg M f n) k).2)
    rw [j_fg_at hk, j_fg_at hnx]
theorem m_round {M : e_M} {bx b x y : Int} {Q : Int → Prop} (h1 : -1000 ≤ bx ∧ bx ≤ 1000) (h2 : -1000 ≤ b ∧ b ≤ 1000) (h3 : -1000 ≤ x ∧ x ≤ 1000) (h4 : -1000 ≤ y ∧ y ≤ 1000) (hq : Q (gt_rd (bx, b) (x, y))) : WX12_round bx b x y M Q := by
  have p1 := s_mulb h1.1 h1.2 h4.1 h4.2 (by decide) (by decide)
  have p2 := s_mulb h2.1 h2.2 h3.1 h3.2 (by decide) (by decide)
  have p3 := s_mulb h1.1 h1.2 h3.1 h3.2 (by decide) (by decide)
  have p4 := s_mulb h2.1 h2.2 h4.1 h4.2 (by decide) (by decide)
  unfold gt_rd gt_x at hq
  dsimp only at hq
  unfold WX12_round VX12_round
  rw [s_wj (x := bx * y) (by omega) (by omega), s_wj (x := b * x) (by omega) (by omega), s_wj (x := bx * x) (by omega) (by omega), s_wj (x := b * y) (by omega) (by omega), s_wj (x := bx * y - b * x) (by omega) (by omega), s_wj (x := bx * x + b * y) (by omega) (by omega)]
  intro y1 e1 y2 e2
  rw [← e1, ← e2] at hq
  refine ⟨fun l => ⟨fun g => ⟨fun g2 => ?_, fun g2 => ?_⟩, fun g => ?_⟩, fun l => ?_⟩
  · rw [if_neg (by omega), if_neg (by omega), if_neg (by omega)] at hq; exact hq
  · rw [if_neg (by omega), if_neg (by omega), if_pos (by omega)] at hq; exact hq
  · rw [if_neg (by omega), if_pos (by omega)] at hq; exact hq
  · rw [if_pos (by omega)] at hq; exact hq
/-- the CUT at hand -/
def j_cut (M : e_M) (x m : Nat) : Prop := M 4456 44 = 12 * (x : Int) ∧ M 4456 45 = m ∧ x < 152 ∧ m ≤ 12
theorem m_px {M : e_M} {x m k : Nat} {k' : Int} {Q : Int → Prop} (h : j_cut M x m) (ek : k' = (k : Int)) (hk : k < 12) (hq : Q (M 4475 (12 * x + k))) : WX12_px k' M Q := by
  subst ek
  obtain ⟨h1, h2, h3, h4⟩ := h
  unfold WX12_px VX12_px
  rw [h1, s_w (by omega) (by omega), show (12 * (x : Int) + (k : Int)).toNat = 12 * x + k by omega]
  exact ⟨by omega, hq⟩
theorem m_py {M : e_M} {x m k : Nat} {k' : Int} {Q : Int → Prop} (h : j_cut M x m) (ek : k' = (k : Int)) (hk : k < 12) (hq : Q (M 4476 (12 * x + k))) : WX12_py k' M Q := by
  subst ek
  obtain ⟨h1, h2, h3, h4⟩ := h
  unfold WX12_py VX12_py
  rw [h1, s_w (by omega) (by omega), show (12 * (x : Int) + (k : Int)).toNat = 12 * x + k by omega]
  exact ⟨by omega, hq⟩
