/-! THE MODEL: what is there before all DEEDS -/
theorem n_up0 {M M' : e_M} (h : nn_ok M) (f : ∀ b, b ≠ 4456 → b ≠ 4483 → M' b = M b) (h1 : ∀ s, s < 7 → 0 ≤ M' 4483 s ∧ M' 4483 s ≤ w_mx s) (h73 : 0 ≤ M' 4456 73 ∧ M' 4456 73 ≤ 60) : nn_ok M' ∧ n_of M' = ((fun s => if s < 7 then M' 4483 s else 0), (n_of M).2.1, (n_of M).2.2.1, (n_of M).2.2.2.1, (n_of M).2.2.2.2.1, M' 4456 85, M' 4456 86, M' 4456 73) := by
  obtain ⟨-, h2, h3, h4, h5, -⟩ := h
  refine ⟨⟨h1, fun t ht => ?_, fun l hl => ?_, fun v hv => by rw [f _ (by omega) (by omega)]; exact h4 v hv, fun u hu => by rw [f _ (by omega) (by omega)]; exact h5 u hu, h73⟩, ?_⟩
  · have := h2 t ht
    unfold j_ok at *
    rw [f 4492 (by omega) (by omega), f 4494 (by omega) (by omega)]; exact this
  · have := h3 l hl
    unfold n_lok j_ok at *
    rw [f 4496 (by omega) (by omega), f 4497 (by omega) (by omega), f 4499 (by omega) (by omega)]; exact this
  · refine n_of_ext (fun s => rfl) (fun u => ?_) (fun u => ?_) (fun v => ?_) (fun u => ?_) rfl rfl rfl
    · show _ = if u < 560 then n_th M u else n_T0
      unfold n_th
      rw [n_sc_congr (M := M) (fun b b1 b2 => by rw [f b (by omega) (by omega)]), j_row_congr (M := M) (f 4492 (by omega) (by omega)) (f 4493 (by omega) (by omega)), j_row_congr (M := M) (f 4494 (by omega) (by omega)) (f 4495 (by omega) (by omega))]
    · show _ = if u < 80 then n_lo M u else n_L0
      rw [n_lo_congr (M := M) (fun b hb => f b (by omega) (by omega))]
    · show _ = if v < 80 then n_pt M v else []
      rw [n_pt_congr (M := M) (fun b b1 b2 => f b (by omega) (by omega))]
    · show _ = if u < 60 then n_sa M u else n_X0
      rw [n_sa_congr (M := M) (fun b b1 b2 => f b (by omega) (by omega))]
theorem m_empty {M : e_M} {V : Nat → v_D} {S0 : w_S} {dr : Int} {Q : e_M → Prop} (h : nn_ok M) (h86 : M 4456 86 = 0) (hq : ∀ M', nn_ok M' → R_S V (w_0 S0 dr) (n_of M') 1 → d_keep M M' → M' 4456 86 = 0 → Q M') : WX12_empty M Q := by
  unfold WX12_empty VX12_empty
  refine s_up (σ := e_M) (P := fun dd i N => WX12_empty_2 Q dd i N) (n := 7) (i0 := 0) (s := M) (fun x N => (∀ b, b ≠ 4483 → N b = M b) ∧ ∀ s : Nat, s < 7 → (((s : Int) < x → N 4483 s = 0) ∧ (x ≤ s → N 4483 s = M 4483 s))) (by omega) ⟨fun _ _ => rfl, fun s hs => ⟨fun z => by omega, fun _ => rfl⟩⟩ ?_ ?_
  · intro d2 N ⟨f0, z0⟩
    have z0' : ∀ s, s < 7 → N 4483 s = 0 := fun s hs => (z0 s hs).1 (by omega)
    unfold WX12_empty_2 VX12_empty_2
    refine ⟨fun _ M1 e1 M2 e2 => ?_, fun z => by omega⟩
    have f2 : ∀ b, b ≠ 4456 → b ≠ 4483 → M2 b = M b := fun b b1 b2 => by rw [e2, e_up_row b1, e1, e_up_row b1, f0 b b2]
    have k83 : M2 4483 = N 4483 := by rw [e2, e_up_row (by omega), e1, e_up_row (by omega)]
    have k73 : M2 4456 73 = 0 := by rw [e2, e_up_ne (by omega), e1, e_up_eq]
    have k85 : M2 4456 85 = 0 := by rw [e2, e_up_eq]
    have k86 : M2 4456 86 = 0 := by rw [e2, e_up_ne (by omega), e1, e_up_ne (by omega), f0 4456 (by omega)]; exact h86
    have g2 : ∀ k, k ≠ 73 → k ≠ 85 → M2 4456 k = M 4456 k := fun k k1 k2 => by rw [e2, e_up_ne (fun z => k2 z.2), e1, e_up_ne (fun z => k1 z.2), f0 4456 (by omega)]
    obtain ⟨u1, u2⟩ := n_up0 (M' := M2) h f2 (fun s hs => by rw [k83, z0' s hs]; omega) (by rw [k73]; omega)
    refine m_make (s := 0) (name := 7809644604612935680) u1 (by omega) (by rw [k83, z0' 0 (by omega)]; decide) (by rw [k85]; omega) (fun M4 v1 v2 v3 => ?_)
    rw [k83, z0' 0 (by omega)]
    have n4s : ∀ s, s < 7 → M4 4483 s = if s = 0 then 1 else 0 := fun s hs => by
      have : (n_of M4).1 s = s_fu (n_of M2).1 0 ((n_of M2).1 0 + 1) s := by rw [v2]; rfl
      rw [n_z hs] at this
      rw [this]
      unfold s_fu
      have e0 : (n_of M2).1 0 = 0 := by rw [n_z (by omega), k83]; exact z0' 0 (by omega)
      by_cases c : s = 0
      · rw [if_pos c, if_pos c, e0]; rfl
      · rw [if_neg c, if_neg c, n_z hs, k83]; exact z0' s hs
    have e0 : ((n_of M2).1 0).toNat = 0 := by rw [n_z (by omega), k83, z0' 0 (by omega)]; rfl
    have n4t : (n_of M4).2.1 0 = n_new (n_of M2) 7809644604612935680 := by
      rw [v2]
      show s_fu (n_of M2).2.1 (80 * 0 + ((n_of M2).1 0).toNat) _ 0 = _
      rw [e0]; exact s_fu_eq
    have n4k : M4 4456 85 = 1 ∧ M4 4456 86 = 0 ∧ M4 4456 73 = 0 := by
      have a1 : (n_of M4).2.2.2.2.2.1 = (n_of M2).2.2.2.2.2.1 + 1 := by rw [v2]; rfl
      have a2 : (n_of M4).2.2.2.2.2.2 = (n_of M2).2.2.2.2.2.2 := by rw [v2]; rfl
      have b1 : M4 4456 85 = M2 4456 85 + 1 := a1
      have b2 : M4 4456 86 = M2 4456 86 := congrArg (fun p : Int × Int => p.1) a2
      have b3 : M4 4456 73 = M2 4456 73 := congrArg (fun p : Int × Int => p.2) a2
      rw [b1, b2, b3, k85, k86, k73]
      exact ⟨rfl, rfl, rfl⟩
    show ∃ j, WX12_empty_42 Q j 0 0 M4
    refine s_up (σ := e_M) (P := fun dd i N => WX12_empty_42 Q dd 0 i N) (n := 4) (i0 := 0) (s := M4) (fun x N => (∀ b, b ≠ 4480 → b ≠ 4481 → N b = M4 b) ∧ (∀ j, 4 ≤ j → N 4480 j = M4 4480 j ∧ N 4481 j = M4 4481 j) ∧ ∀ j : Nat, (j : Int) < x → (N 4480 j, N 4481 j) = (if j = 1 ∨ j = 2 then 1000 else 0, if 1 < j then 1000 else 0)) (by omega) ⟨fun _ _ _ => rfl, fun _ _ => ⟨rfl, rfl⟩, fun j hj => by omega⟩ ?_ ?_
    · intro d3 L ⟨l1, l2, l3⟩
      unfold WX12_empty_42 VX12_empty_42
      refine ⟨fun _ => ⟨by omega, fun A1 g1 => ⟨by omega, fun A2 g2' => ⟨by omega, fun A3 g3 => ⟨by omega, fun A4 g4 => ⟨by omega, fun A5 g5 => ?_⟩⟩⟩⟩⟩, fun z => by omega⟩
      rw [show (0 : Int).toNat = 0 from rfl] at g1 g2' g3 g4 g5
      have fA : ∀ b, b ≠ 4480 → b ≠ 4481 → b ≠ 4496 → b ≠ 4497 → b ≠ 4498 → b ≠ 4501 → b ≠ 4502 → A5 b = M4 b := fun b b1 b2 b3 b4 b5 b6 b7 => by rw [g5, e_up_row b7, g4, e_up_row b6, g3, e_up_row b5, g2', e_up_row b4, g1, e_up_row b3]; exact l1 b b1 b2
      have a96 : ∀ j, A5 4496 j = if j = 0 then 4 else M4 4496 j := fun j => by rw [g5, e_up_row (by omega), g4, e_up_row (by omega), g3, e_up_row (by omega), g2', e_up_row (by omega), g1, e_up_at, l1 4496 (by omega) (by omega)]
      have a97 : ∀ j, A5 4497 j = if j = 0 then 1 else M4 4497 j := fun j => by rw [g5, e_up_row (by omega), g4, e_up_row (by omega), g3, e_up_row (by omega), g2', e_up_at, g1, e_up_row (by omega), l1 4497 (by omega) (by omega)]
      have a98 : ∀ j, A5 4498 j = if j = 0 then 0 else M4 4498 j := fun j => by rw [g5, e_up_row (by omega), g4, e_up_row (by omega), g3, e_up_at, g2', e_up_row (by omega), g1, e_up_row (by omega), l1 4498 (by omega) (by omega)]
      have a01 : ∀ j, A5 4501 j = if j = 0 then 1 else M4 4501 j := fun j => by rw [g5, e_up_row (by omega), g4, e_up_at, g3, e_up_row (by omega), g2', e_up_row (by omega), g1, e_up_row (by omega), l1 4501 (by omega) (by omega)]
      have a02 : ∀ j, A5 4502 j = if j = 0 then 1 else M4 4502 j := fun j => by rw [g5, e_up_at, g4, e_up_row (by omega), g3, e_up_row (by omega), g2', e_up_row (by omega), g1, e_up_row (by omega), l1 4502 (by omega) (by omega)]
      have a80 : A5 4480 = L 4480 ∧ A5 4481 = L 4481 := ⟨by rw [g5, e_up_row (by omega), g4, e_up_row (by omega), g3, e_up_row (by omega), g2', e_up_row (by omega), g1, e_up_row (by omega)], by rw [g5, e_up_row (by omega), g4, e_up_row (by omega), g3, e_up_row (by omega), g2', e_up_row (by omega), g1, e_up_row (by omega)]⟩
      have r99 : A5 4499 0 = 0 := by
        rw [fA 4499 (by omega) (by omega) (by omega) (by omega) (by omega) (by omega) (by omega)]
        have a1 : (n_of M4).2.2.1 0 = n_L0 := by
          rw [v2]
          show s_fu (n_of M2).2.2.1 ((n_of M2).1 0).toNat n_L0 0 = _
          rw [e0]; exact s_fu_eq
        rw [n_l (by omega)] at a1
        have a2 : j_row M4 4499 4500 0 = [] := congrArg (fun x : n_L => x.2.1) a1
        have := j_row_len (c := 4500) ((v1.2.2.1 0 (by omega)).2.1)
        rw [a2] at this
        exact this.symm
      obtain ⟨w1, w2⟩ := n_upL (M := M4) (M' := A5) (l := 0) v1 (by omega) (fun b b1 b2 b3 => fA b b1 b2 (by omega) (by omega) (by omega) (by omega) (by omega)) (fun j _ hj => by rw [a80.1, a80.2]; exact l2 j (by omega)) (fun u hu => ⟨by rw [a96, if_neg hu], by rw [a97, if_neg hu], by rw [fA 4499 (by omega) (by omega) (by omega) (by omega) (by omega) (by omega) (by omega)]⟩) (fun j hj => ⟨by rw [a98, if_neg (by omega)], by rw [fA 4500 (by omega) (by omega) (by omega) (by omega) (by omega) (by omega) (by omega)], by rw [a01, if_neg (by omega)], by rw [a02, if_neg (by omega)]⟩) ⟨by rw [a96, if_pos rfl]; omega, by unfold j_ok; rw [r99]; omega, by unfold j_ok; rw [a97, if_pos rfl]; omega⟩
      have lo : n_lo A5 0 = ([(0, 0), (1000, 0), (1000, 1000), (0, 1000)], [], [(0, 1, 1)]) := by
        unfold n_lo j_fg j_row j_own
        rw [a96, if_pos rfl, r99, a97, if_pos rfl]
        refine Prod.ext ?_ (Prod.ext ?_ ?_)
        · show (s_ar (fun k => (A5 4480 (40 * 0 + k), A5 4481 (40 * 0 + k))) 4 : s_Fig) = [(0, 0), (1000, 0), (1000, 1000), (0, 1000)]
          refine s_ar_ext rfl (fun i hi => ?_)
          have h3 := l3 i (by omega)
          rw [show 40 * 0 + i = i by omega, a80.1, a80.2, h3]
          have : i = 0 ∨ i = 1 ∨ i = 2 ∨ i = 3 := by omega
          rcases this with rfl | rfl | rfl | rfl <;> rfl
        · rfl
        · show (s_ar (fun k => (A5 4498 (8 * 0 + k), A5 4501 (8 * 0 + k), A5 4502 (8 * 0 + k))) 1 : s_Own) = [(0, 1, 1)]
          refine s_ar_ext rfl (fun i hi => ?_)
          have : i = 0 := by omega
          subst this
          rw [a98, a01, a02]
          rfl
      rw [lo] at w2
      have s83 : ∀ s, s < 7 → A5 4483 s = if s = 0 then 1 else 0 := fun s hs => by rw [fA 4483 (by omega) (by omega) (by omega) (by omega) (by omega) (by omega) (by omega)]; exact n4s s hs
      have k56 : A5 4456 = M4 4456 := fA 4456 (by omega) (by omega) (by omega) (by omega) (by omega) (by omega) (by omega)
      refine m_make (s := 1) (name := 7165912515837165568) w1 (by omega) (by rw [s83 1 (by omega)]; decide) (by rw [k56, n4k.1]; omega) (fun M7 x1 x2 x3 => ?_)
      have r6 : A5 4483 1 = 0 := by rw [s83 1 (by omega)]; rfl
      rw [r6]
      refine m_idt (t := 80) (by omega) (by omega) (by omega) ⟨by omega, fun M9 g9 => ?_⟩
      rw [show (((80 : Nat)) : Int).toNat = 80 from rfl] at g9
      obtain ⟨y1, y2⟩ := N_put7 (M := M7) (t := 80) (v := 2) x1 (by omega)
      rw [← g9] at y1 y2
      have z1 : ((n_of A5).1 1).toNat = 0 := by rw [n_z (by omega), r6]; rfl
      have nt80 : (n_of M7).2.1 80 = n_new (n_of A5) 7165912515837165568 := by
        rw [x2]
        show s_fu (n_of A5).2.1 (80 * 1 + ((n_of A5).1 1).toNat) _ 80 = _
        rw [z1]; exact s_fu_eq
      have nt0 : (n_of M7).2.1 0 = n_new (n_of M2) 7809644604612935680 := by
        rw [x2]
        show s_fu (n_of A5).2.1 (80 * 1 + ((n_of A5).1 1).toNat) _ 0 = _
        rw [z1, s_fu_ne (by omega), w2]
        exact n4t
      have nl0 : (n_of M7).2.2.1 0 = ([(0, 0), (1000, 0), (1000, 1000), (0, 1000)], [], [(0, 1, 1)]) := by
        have e : (n_of M7).2.2.1 = (n_of A5).2.2.1 := by rw [x2]; rfl
        rw [e, w2]
        exact (s_fu_eq : s_fu (n_of M4).2.2.1 0 (([(0, 0), (1000, 0), (1000, 1000), (0, 1000)], [], [(0, 1, 1)]) : n_L) 0 = _)
      have a85 : (n_of A5).2.2.2.2.2.1 = 1 ∧ (n_of A5).2.2.2.2.2.2.1 = 0 ∧ (n_of A5).2.2.2.2.2.2.2 = 0 := by
        show A5 4456 85 = 1 ∧ A5 4456 86 = 0 ∧ A5 4456 73 = 0
        rw [k56]; exact n4k
      have sz7 : ∀ s, s < 7 → (n_of M7).1 s = if s < 2 then 1 else 0 := fun s hs => by
        rw [x2]
        show s_fu (n_of A5).1 1 ((n_of A5).1 1 + 1) s = _
        unfold s_fu
        by_cases c : s = 1
        · rw [if_pos c, if_pos (by omega), n_z (by omega), r6]; rfl
        · rw [if_neg c, n_z hs, s83 s hs]
          by_cases c0 : s = 0
          · rw [if_pos c0, if_pos (by omega)]
          · rw [if_neg c0, if_neg (by omega)]
      have p80 : (n_of M9).2.1 80 = (s_fu (n_new (n_of A5) 7165912515837165568).1 7 2, [], []) := by
        rw [y2]
        show s_fu (n_of M7).2.1 80 (s_fu ((n_of M7).2.1 80).1 7 2, ((n_of M7).2.1 80).2) 80 = _
        rw [s_fu_eq, nt80]; rfl
      have p0 : (n_of M9).2.1 0 = n_new (n_of M2) 7809644604612935680 := by
        rw [y2]
        show s_fu (n_of M7).2.1 80 (s_fu ((n_of M7).2.1 80).1 7 2, ((n_of M7).2.1 80).2) 0 = _
        rw [s_fu_ne (by omega)]; exact nt0
      have n56 : (n_of M9).2.2.2.2.2.1 = 2 ∧ (n_of M9).2.2.2.2.2.2.1 = 0 ∧ (n_of M9).2.2.2.2.2.2.2 = 0 := by
        rw [y2, x2]
        refine ⟨?_, a85.2.1, a85.2.2⟩
        show (n_of A5).2.2.2.2.2.1 + 1 = 2
        rw [a85.1]; rfl
      have sz9 : ∀ s, s < 7 → (n_of M9).1 s = if s < 2 then 1 else 0 := fun s hs => by rw [y2]; exact sz7 s hs
      have ws : ∀ s, (w_0 S0 dr).1 s = if s < 2 then 1 else if s < 8 then 0 else S0.1 s := fun s => rfl
      refine hq M9 y1 ?_ ⟨fun b hb hb6 => ?_, fun k hk => ?_⟩ n56.2.1
      · refine ⟨⟨fun s hs => ?_, ?_⟩, n56.2.1, fun i hi => ?_, fun i hi => ?_, fun s i s2 s6 hi => ?_, fun i hi => ?_, fun k hk => ?_, fun k i hk hi => ?_, fun c i hc hi => ?_, fun s i s1 s8 hi => ?_, fun s i s7 hi => ?_, fun k hk => ?_, ?_⟩
        · rw [sz9 s hs, ws]
          by_cases c : s < 2
          · rw [if_pos c, if_pos c]
          · rw [if_neg c, if_neg c, if_pos (by omega)]
        · rw [n56.2.2]; rfl
        · have i0 : i = 0 := by
            have : (i : Int) < 1 := hi
            omega
          subst i0
          have el : (w_0 S0 dr).2.1 0 = w_land := (s_fu_eq : s_fu S0.2.1 0 w_land 0 = w_land)
          have en : (n_of M9).2.2.1 0 = w_land.2 := by rw [y2]; exact nl0
          rw [el, en, p0]
          exact ⟨⟨rfl, rfl, rfl, rfl⟩, rfl⟩
        · have i0 : i = 0 := by
            have : (i : Int) < 1 := hi
            omega
          subst i0
          have et : w_t (w_0 S0 dr) 1 0 = (t_crown (t_new 7165912515837165568 dr 0 (S0.2.2.1 0).1), [], []) := (s_fu_eq : s_fu S0.2.2.1 0 ((t_crown (t_new 7165912515837165568 dr 0 (S0.2.2.1 0).1), [], []) : w_T) 0 = _)
          rw [et, show 80 * 1 + 0 = 80 from rfl, p80]
          refine ⟨⟨rfl, rfl, rfl, rfl, rfl⟩, ⟨rfl, Or.inr rfl, fun _ => rfl⟩, fun z => ?_, fun _ => rfl⟩
          have : (1 : Int) = 0 := z
          omega
        · have : (i : Int) < 0 := by
            have h2 := ws s
            rw [if_neg (by omega), if_pos (by omega)] at h2
            rw [h2] at hi; exact hi
          omega
        · have : (i : Int) < 0 := hi
          omega
        · have : (k : Int) < 0 := hk
          omega
        · have : (k : Int) < 0 := hk
          omega
        · have : (c : Int) < 0 := hc
          omega
        · have h2 := ws s
          by_cases c : s = 1
          · subst c
            have i0 : i = 0 := by
              have : (i : Int) < 1 := hi
              omega
            subst i0
            have et : w_t (w_0 S0 dr) 1 0 = (t_crown (t_new 7165912515837165568 dr 0 (S0.2.2.1 0).1), [], []) := (s_fu_eq : s_fu S0.2.2.1 0 ((t_crown (t_new 7165912515837165568 dr 0 (S0.2.2.1 0).1), [], []) : w_T) 0 = _)
            rw [et]
            show (0 : Int) < 1
            omega
          · rw [if_neg (by omega), if_pos (by omega)] at h2
            rw [h2] at hi; omega
        · rw [n56.1]
          have h2 := ws s
          by_cases c : s < 2
          · rw [if_pos c] at h2
            rw [h2] at hi
            have i0 : i = 0 := by omega
            subst i0
            have : s = 0 ∨ s = 1 := by omega
            rcases this with rfl | rfl
            · rw [show 80 * 0 + 0 = 0 from rfl, p0]
              show (n_of M2).2.2.2.2.2.1 < 2
              show M2 4456 85 < 2
              omega
            · rw [show 80 * 1 + 0 = 80 from rfl, p80]
              show (n_of A5).2.2.2.2.2.1 < 2
              omega
          · rw [if_neg c, if_pos (by omega)] at h2
            rw [h2] at hi; omega
        · have : (k : Int) < 0 := hk
          omega
        · rw [n56.1]; rfl
      · have q1 : M9 b = M7 b := by rw [g9, e_up_row (by omega)]
        rw [q1, x3.1 b (by omega), fA b (by omega) (by omega) (by omega) (by omega) (by omega) (by omega) (by omega), v3.1 b (by omega)]
        exact f2 b hb6 (by omega)
      · have q1 : M9 4456 = M7 4456 := by rw [g9, e_up_row (by omega)]
        rw [q1, x3.2 k (by omega), k56, v3.2 k (by omega)]
        exact g2 k (by omega) (by omega)
    · intro d3 x L x1 x2 ⟨l1, l2, l3⟩ ih
      have k42 : ∀ L', (∀ b, b ≠ 4480 → b ≠ 4481 → L' b = L b) → (∀ j : Nat, L' 4480 j = if (j : Int) = x then (if x = 1 ∨ x = 2 then 1000 else 0) else L 4480 j) → (∀ j : Nat, L' 4481 j = if (j : Int) = x then (if 1 < x then 1000 else 0) else L 4481 j) → WX12_empty_42 Q d3 0 (e_w32 (x + 1)) L' := fun L' g1 g2' g3 => by
        rw [s_w (by omega) (by omega)]
        refine ih L' ⟨fun b b1 b2 => by rw [g1 b b1 b2]; exact l1 b b1 b2, fun j hj => ?_, fun j hj => ?_⟩
        · rw [g2', g3, if_neg (by omega), if_neg (by omega)]; exact l2 j hj
        · rw [g2', g3]
          by_cases c : (j : Int) = x
          · rw [if_pos c, if_pos c]
            refine Prod.ext ?_ ?_
            · show (if x = 1 ∨ x = 2 then (1000 : Int) else 0) = if j = 1 ∨ j = 2 then 1000 else 0
              by_cases c2 : j = 1 ∨ j = 2
              · rw [if_pos c2, if_pos (by omega)]
              · rw [if_neg c2, if_neg (by omega)]
            · show (if 1 < x then (1000 : Int) else 0) = if 1 < j then 1000 else 0
              by_cases c2 : 1 < j
              · rw [if_pos c2, if_pos (by omega)]
              · rw [if_neg c2, if_neg (by omega)]
          · rw [if_neg c, if_neg c]
            exact l3 j (by omega)
      have k87 : ∀ v w (L1 : e_M), v = (if x = 1 ∨ x = 2 then 1000 else 0) → w = (if 1 < x then 1000 else 0) → L1 = e_up L 4480 x.toNat v → WX12_empty_87 (WX12_empty_42 Q d3) Q 0 x w x L1 := fun v w L1 ev ew eL => by
        unfold WX12_empty_87 VX12_empty_87
        refine ⟨by omega, fun L2 eL2 => k42 L2 (fun b b1 b2 => by rw [eL2, e_up_row b2, eL, e_up_row b1]) (fun j => ?_) (fun j => ?_)⟩
        · rw [eL2, e_up_row (by omega), eL, e_up_at, ev]
          by_cases c : (j : Int) = x
          · rw [if_pos c, if_pos (show j = x.toNat by omega)]
          · rw [if_neg c, if_neg (show ¬ j = x.toNat by omega)]
        · rw [eL2, e_up_at, ew, eL, e_up_row (by omega)]
          by_cases c : (j : Int) = x
          · rw [if_pos c, if_pos (show j = x.toNat by omega)]
          · rw [if_neg c, if_neg (show ¬ j = x.toNat by omega)]
      have k69 : ∀ v, v = (if x = 1 ∨ x = 2 then (1000 : Int) else 0) → WX12_empty_69 (WX12_empty_42 Q d3) Q 0 x v x L := fun v ev => by
        unfold WX12_empty_69 VX12_empty_69
        exact ⟨by omega, fun L1 eL => ⟨fun le => k87 v 0 L1 ev (by rw [if_neg (by omega)]) eL, fun gt => k87 v 1000 L1 ev (by rw [if_pos gt]) eL⟩⟩
      have k62 : (x = 1 ∨ x = 2) → WX12_empty_62 (WX12_empty_42 Q d3) Q 0 x x L := fun c => by
        unfold WX12_empty_62 VX12_empty_62
        exact k69 1000 (by rw [if_pos c])
      unfold WX12_empty_42 VX12_empty_42
      exact ⟨fun z => by omega, fun _ => ⟨fun e => k62 (Or.inl e), fun ne => ⟨fun ne2 => k69 0 (by rw [if_neg (by omega)]), fun e => k62 (Or.inr e)⟩⟩⟩
  · intro d2 x N x1 x2 ⟨f0, z0⟩ ih
    unfold WX12_empty_2 VX12_empty_2
    refine ⟨fun z => by omega, fun _ => ⟨by omega, fun M5 e5 => ?_⟩⟩
    rw [s_w (by omega) (by omega)]
    refine ih M5 ⟨fun b hb => by rw [e5, e_up_row hb]; exact f0 b hb, fun s hs => ?_⟩
    have c : M5 4483 s = if s = x.toNat then 0 else N 4483 s := by rw [e5, e_up_at]
    rw [c]
    by_cases cs : s = x.toNat
    · rw [if_pos cs]
      exact ⟨fun _ => rfl, fun z => by omega⟩
    · rw [if_neg cs]
      exact ⟨fun z => (z0 s hs).1 (by omega), fun z => (z0 s hs).2 (by omega)⟩
