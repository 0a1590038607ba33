/-! THE MODEL: a LOT sold -/
/-- one SALE alone is written -/
theorem n_upX {M M' : e_M} {k : Nat} (h : nn_ok M) (hk : k < 60) (f : ∀ b, b ≠ 4456 → (b < 4506 ∨ 4516 < b) → M' b = M b) (fs : ∀ b, 4506 ≤ b → b ≤ 4516 → b ≠ 4511 → b ≠ 4514 → b ≠ 4515 → ∀ u, u ≠ k → M' b u = M b u) (fr : ∀ b, b = 4511 ∨ b = 4514 ∨ b = 4515 → ∀ j, (j < 6 * k ∨ 6 * k + 6 ≤ j) → M' b j = M b j) (ho : 0 ≤ M' 4510 k ∧ M' 4510 k ≤ 6) (h73 : 0 ≤ M' 4456 73 ∧ M' 4456 73 ≤ 60) : nn_ok M' ∧ n_of M' = ((n_of M).1, (n_of M).2.1, (n_of M).2.2.1, (n_of M).2.2.2.1, s_fu (n_of M).2.2.2.2.1 k (n_sa M' k), M' 4456 85, M' 4456 86, M' 4456 73) := by
  obtain ⟨h1, h2, h3, h4, h5, h6⟩ := h
  refine ⟨⟨fun s hs => by rw [f _ (by omega) (by omega)]; exact h1 s hs, fun t ht => ?_, fun l hl => ?_, fun v hv => by rw [f _ (by omega) (by omega)]; exact h4 v hv, fun u hu => ?_, h73⟩, ?_⟩
  · have := h2 t ht
    unfold j_ok at *
    rw [f 4492 (by omega) (by omega), f 4494 (by omega) (by omega)]; exact this
  · have := h3 l hl
    unfold n_lok j_ok at *
    rw [f 4496 (by omega) (by omega), f 4497 (by omega) (by omega), f 4499 (by omega) (by omega)]; exact this
  · by_cases c : u = k
    · rw [c]; exact ho
    · rw [fs 4510 (by omega) (by omega) (by omega) (by omega) (by omega) u c]; exact h5 u hu
  · refine n_of_ext (fun s => ?_) (fun u => ?_) (fun u => ?_) (fun v => ?_) (fun u => ?_) rfl rfl rfl
    · rw [f 4483 (by omega) (by omega)]; rfl
    · show _ = if u < 560 then n_th M u else n_T0
      unfold n_th
      rw [n_sc_congr (M := M) (fun b b1 b2 => by rw [f b (by omega) (by omega)]), j_row_congr (M := M) (f 4492 (by omega) (by omega)) (f 4493 (by omega) (by omega)), j_row_congr (M := M) (f 4494 (by omega) (by omega)) (f 4495 (by omega) (by omega))]
    · show _ = if u < 80 then n_lo M u else n_L0
      rw [n_lo_congr (M := M) (fun b hb => f b (by omega) (by omega))]
    · show _ = if v < 80 then n_pt M v else []
      rw [n_pt_congr (M := M) (fun b b1 b2 => f b (by omega) (by omega))]
    · show _ = s_fu (n_of M).2.2.2.2.1 k (n_sa M' k) u
      by_cases c : u = k
      · rw [c, s_fu_eq, if_pos hk]
      · rw [s_fu_ne c]
        show _ = if u < 60 then n_sa M u else n_X0
        by_cases c2 : u < 60
        · rw [if_pos c2, if_pos c2]
          have g := fun b b1 b2 b3 b4 b5 => fs b b1 b2 b3 b4 b5 u c
          have o := h5 u c2
          unfold n_sa
          refine Prod.ext (funext fun j => ?_) (Prod.ext ?_ ?_)
          · show n_ss M' u j = n_ss M u j
            unfold n_ss
            rw [g 4506 (by omega) (by omega) (by omega) (by omega) (by omega), g 4507 (by omega) (by omega) (by omega) (by omega) (by omega), g 4508 (by omega) (by omega) (by omega) (by omega) (by omega), g 4509 (by omega) (by omega) (by omega) (by omega) (by omega), g 4512 (by omega) (by omega) (by omega) (by omega) (by omega), g 4513 (by omega) (by omega) (by omega) (by omega) (by omega), g 4516 (by omega) (by omega) (by omega) (by omega) (by omega)]
          · show s_ar _ (M' 4510 u) = s_ar _ (M 4510 u)
            rw [g 4510 (by omega) (by omega) (by omega) (by omega) (by omega)]
            exact s_ar_congr (fun i hi => fr 4511 (by omega) _ (by omega))
          · show s_ar _ (M' 4510 u) = s_ar _ (M 4510 u)
            rw [g 4510 (by omega) (by omega) (by omega) (by omega) (by omega)]
            exact s_ar_congr (fun i hi => by rw [fr 4514 (by omega) _ (by omega), fr 4515 (by omega) _ (by omega)])
        · rw [if_neg c2, if_neg c2]
theorem o_sub_pos {l : s_Own} {i : Nat} {t b : Int} (h : s_ob 1000000 l) (hb : 0 < b ∧ b ≤ 1000000) (hle : ∀ q, l[i]? = some q → 0 ≤ q.2.1 * b - t * q.2.2) (ht : 0 ≤ t) : s_ob 1000000000000 (o_sub l i t b) := by
  have up := s_ob_up (B' := 1000000000000) (by decide) h
  unfold o_sub
  cases e : l[i]? with
  | none => exact up
  | some x =>
    dsimp only
    have hx := h x (List.mem_of_getElem? e)
    have hp := hle x e
    split
    · exact fun q hq => up q (List.mem_of_mem_eraseIdx hq)
    · intro q hq
      rcases List.mem_or_eq_of_mem_set hq with hq | hq
      · exact up q hq
      · have m1 : 0 < x.2.2 * b := Int.mul_pos hx.2.2.1 hb.1
        have m2 : x.2.2 * b ≤ 1000000 * 1000000 := Int.mul_le_mul hx.2.2.2 hb.2 (by omega) (by decide)
        have m3 : x.2.1 * b ≤ x.2.2 * b := Int.mul_le_mul_of_nonneg_right hx.2.1 (by omega)
        have m4 : 0 ≤ t * x.2.2 := Int.mul_nonneg ht (by omega)
        have le := s_red_le (a := x.2.1 * b - t * x.2.2) (b := x.2.2 * b) hp m1
        have cmp := s_red_cmp (a := x.2.1 * b - t * x.2.2) m1
        rw [hq]
        dsimp only
        refine ⟨le.1.1, ?_, le.2.1, by omega⟩
        refine Int.not_lt.mp (fun z => ?_)
        have := cmp.1.mp z
        omega
theorem o_sub_len {l : s_Own} {i : Nat} {t b : Int} : (o_sub l i t b).length ≤ l.length := by
  unfold o_sub
  split
  · split
    · rw [List.length_eraseIdx]; split <;> omega
    · rw [List.length_set]; exact Nat.le_refl _
  · exact Nat.le_refl _
theorem s_ar_two {f : Nat → Int} {g : Nat → Int} {n : Int} (h : ∀ i : Nat, (i : Int) < n → f i = g i) : s_ar f n = s_ar g n := s_ar_congr (fun i hi => h i (by omega))
theorem m_sell {M : e_M} {V : Nat → v_D} {S : w_S} {a : Int} {d x : Nat} {r : Nat → Int} {Q : Int → e_M → Prop} (h : R_all M V S a) (hx : x < 152) (i0 : M 4520 0 = r 0) (i1 : M 4520 1 = r 1) (h0 : 0 ≤ r 0 ∧ r 0 < S.1 0) (h1 : 0 ≤ r 1 ∧ r 1 < S.1 1) (he : j_pts M x = (V d).2.2.2.1) (hn : M 4470 x = (V d).1 15) (hn6 : 0 ≤ (V d).1 15 ∧ (V d).1 15 ≤ 6) (hf : M 4471 x = 2) (hr : ∀ k : Nat, (k : Int) < (V d).1 15 → M 4520 (2 + k) = r (2 + k)) (h7 : (V d).1 7 = (V d).1 15 + 2) (hp : d_pok (V d).2.2.2.1) (hs0 : (V d).1 11 = 0 → M 4469 x ≤ 0) (hs1 : (V d).1 11 ≠ 0 → (M 4468 x = (V d).1 11 ∧ M 4469 x = (V d).1 12) ∧ (1 ≤ (V d).1 11 ∧ (V d).1 11 ≤ 1000) ∧ 1 ≤ (V d).1 12 ∧ (V d).1 12 ≤ 1000) (ham : M 4464 x = (V d).1 9) (hq : j_q M V (a + 1) Q (X_sell V S r d a)) : WX12_sell x M Q := by
  obtain ⟨hn', hc, hR, hz, hg, hd⟩ := id h
  have tx : ((x : Nat) : Int).toNat = x := by omega
  obtain ⟨l, e0⟩ : ∃ l : Nat, r 0 = l := ⟨(r 0).toNat, by omega⟩
  obtain ⟨q, e1⟩ : ∃ q : Nat, r 1 = q := ⟨(r 1).toNat, by omega⟩
  have tl : (r 0).toNat = l := by omega
  have tq : (r 1).toNat = q := by omega
  have hl : (l : Int) < S.1 0 := by omega
  have hqi : (q : Int) < S.1 1 := by omega
  have l80 := R_mx hz (show 0 < 7 by omega) hl
  have q80 := R_mx hz (show 1 < 7 by omega) hqi
  have hww := (hg.2 1 q (by omega) (by omega) hqi).1.1
  have z7 := hz 7 (by omega)
  have m7 : w_mx 7 = 60 := rfl
  obtain ⟨k, ek⟩ : ∃ k : Nat, S.1 7 = k := ⟨(S.1 7).toNat, by omega⟩
  have e73 : M 4456 73 = (k : Int) := by rw [← ek]; exact hR.1.2
  have tk : ((k : Nat) : Int).toNat = k := by omega
  have ob := (hg.1 l hl).2.2.2
  have eo := (R_lo hR hz hl).2.2
  have j8 := (hn'.2.2.1 l l80).2.2
  generalize hps : (V d).2.2.2.1 = ps at *
  generalize hnn : (V d).1 15 = n at *
  have h' := R_all_le h (show a ≤ a + 1 by omega)
  -- the class's outcomes
  have c2 : ¬ y_can S r → j_q M V (a + 1) Q (2, S) := fun g => j_qx (c_if_pos g) hq
  have c6 : y_can S r → ¬ y_ok S r ps ((V d).1 7) ((V d).1 11) ((V d).1 12) → j_q M V (a + 1) Q (6, S) := fun g1 g2 => j_qx ((c_if_neg (fun z => z g1)).trans (c_if_pos (by rw [hps]; exact g2))) hq
  have c4 : y_can S r → y_ok S r ps ((V d).1 7) ((V d).1 11) ((V d).1 12) → w_bar S (r 0) (r 1) → j_q M V (a + 1) Q (4, S) := fun g1 g2 g3 => j_qx ((c_if_neg (fun z => z g1)).trans ((c_if_neg (fun z => z (by rw [hps]; exact g2))).trans (c_if_pos g3))) hq
  have c6f : y_can S r → y_ok S r ps ((V d).1 7) ((V d).1 11) ((V d).1 12) → ¬ w_bar S (r 0) (r 1) → (∃ q ∈ y_fin S r ps ((V d).1 11) ((V d).1 12), 1000000 < q.2.2) → j_q M V (a + 1) Q (6, S) := fun g1 g2 g3 g4 => j_qx ((c_if_neg (fun z => z g1)).trans ((c_if_neg (fun z => z (by rw [hps]; exact g2))).trans ((c_if_neg g3).trans (c_if_pos (by rw [hps]; exact g4))))) hq
  have c7 : y_can S r → y_ok S r ps ((V d).1 7) ((V d).1 11) ((V d).1 12) → ¬ w_bar S (r 0) (r 1) → (∀ q ∈ y_fin S r ps ((V d).1 11) ((V d).1 12), q.2.2 ≤ 1000000) → (8 < (y_fin S r ps ((V d).1 11) ((V d).1 12)).length ∨ 60 ≤ S.1 7) → j_q M V (a + 1) Q (7, S) := fun g1 g2 g3 g4 g5 => j_qx ((c_if_neg (fun z => z g1)).trans ((c_if_neg (fun z => z (by rw [hps]; exact g2))).trans ((c_if_neg g3).trans ((c_if_neg (by rw [hps]; exact n_all g4)).trans (c_if_pos (by rw [hps]; exact g5)))))) hq
  have c0 : y_can S r → y_ok S r ps ((V d).1 7) ((V d).1 11) ((V d).1 12) → ¬ w_bar S (r 0) (r 1) → (∀ q ∈ y_fin S r ps ((V d).1 11) ((V d).1 12), q.2.2 ≤ 1000000) → ¬ (8 < (y_fin S r ps ((V d).1 11) ((V d).1 12)).length ∨ 60 ≤ S.1 7) → j_q M V (a + 1) Q (0, w_addT (w_lpt (w_ows S l (y_fin S r ps ((V d).1 11) ((V d).1 12))) l 2 ((V d).1 9)) 7 (w_sale S ((V d).2.1 0) d a r n (y_T S r ((V d).1 11)) (y_B S r ((V d).1 11) ((V d).1 12)))) := fun g1 g2 g3 g4 g5 => j_qx ((c_if_neg (fun z => z g1)).trans ((c_if_neg (fun z => z (by rw [hps]; exact g2))).trans ((c_if_neg g3).trans ((c_if_neg (by rw [hps]; exact n_all g4)).trans ((c_if_neg (by rw [hps]; exact g5)).trans (by rw [hps, hnn, tl])))))) hq
  unfold y_can at c2 c6 c4 c6f c7 c0
  unfold y_ok at c6 c4 c6f c7 c0
  unfold y_fin at c6f c7 c0
  rw [tl, tq] at c2
  rw [tl, tq] at c6
  rw [tl, tq] at c4
  rw [tl, tq] at c6f
  rw [tl, tq] at c7
  rw [tl, tq] at c0
  have jq : ∀ {X : Int × w_S} {N : e_M}, m_fr M N → j_q M V (a + 1) Q X → j_q N V (a + 1) Q X := fun f hj M' a1 a2 a3 => hj M' a1 a2 (j_keep_trans (m_fr_keep f) a3)
  have no : ∀ {c : Int} {N : e_M}, m_fr M N → j_q M V (a + 1) Q (c, S) → Q c N := fun f hj => j_q_no (R_all_fr h' f) (jq f hj)
  have cells : ∀ N, m_fr M N → ∀ c, (4463 ≤ c ∧ c ≤ 4516) ∨ c = 4520 → N c = M c := fun N f c hc => f.1 c (by omega) (by omega) (by omega) (by omega)
  unfold WX12_sell VX12_sell
  rw [show (0 : Int).toNat = 0 from rfl, show (1 : Int).toNat = 1 from rfl, i0, i1, e0, e1, R_day hR]
  refine ⟨by omega, by omega, m_isAble hc hR hz hd hqi hww (fun ab => ⟨fun _ => ?_, fun z => by omega⟩) (fun ab => ⟨fun z => absurd rfl z, fun _ => no m_fr_refl (c2 (fun z => by rw [z.1] at ab; cases ab))⟩)⟩
  refine m_loads hn' l80 (fun M2 o2 k2 f2 => m_ownAt k2 ?_)
  rw [eo] at o2
  rw [o2]
  have flt := o_fd_lt (l := (w_l S l).2.2.2) (p := (q : Int))
  have len2 := m_own_len k2
  rw [o2] at len2
  have len8 : (w_l S l).2.2.2.length ≤ 8 := by
    have := j_own_len j8
    rw [eo] at this
    have := j8.2
    omega
  rw [e1] at c2 c6 c4 c6f c7 c0
  refine ⟨fun ge => ?_, fun lt => no f2 (c2 (fun z => by have := z.2; omega))⟩
  have hg1 := m_own_at (M := M2) (i := (o_fd (w_l S l).2.2.2 (q : Int)).toNat) (by omega)
  rw [o2] at hg1
  have can : w_abl S q = true ∧ 0 ≤ o_fd (w_l S l).2.2.2 (q : Int) := ⟨ab, ge⟩
  replace c6 := c6 can
  replace c4 := c4 can
  replace c6f := c6f can
  replace c7 := c7 can
  replace c0 := c0 can
  have yq : y_q S r = (M2 4517 (o_fd (w_l S l).2.2.2 (q : Int)).toNat, M2 4518 (o_fd (w_l S l).2.2.2 (q : Int)).toNat, M2 4519 (o_fd (w_l S l).2.2.2 (q : Int)).toNat) := by
    unfold y_q
    rw [tl, e1, hg1]; rfl
  have qb := ob _ (List.mem_of_getElem? hg1)
  have qp := o_fd_at ge hg1
  dsimp only at qb qp
  rw [yq] at c6 c4 c6f c7 c0
  generalize hrr : o_fd (w_l S l).2.2.2 (q : Int) = rr at *
  have ck2 := cells M2 f2
  -- what is sold is known
  have k101 : ∀ t b : Int, t = y_T S r ((V d).1 11) → b = y_B S r ((V d).1 11) ((V d).1 12) → (0 ≤ t ∧ t ≤ 1000000) → (0 < b ∧ b ≤ 1000000) → WX12_sell_101 Q x l q rr t b M2 := by
    intro t b et eb ht hb
    rw [← et, ← eb] at c6 c4 c6f c7 c0
    dsimp only at c6 c4 c6f c7 c0
    generalize hu : M2 4518 rr.toNat = u at *
    generalize hv : M2 4519 rr.toNat = v at *
    have m1 : 0 ≤ u * b := Int.mul_nonneg qb.1 (by omega)
    have m2 : u * b ≤ 1000000 * 1000000 := Int.mul_le_mul (by omega) hb.2 (by omega) (by decide)
    have m3 : 0 ≤ t * v := Int.mul_nonneg ht.1 (by omega)
    have m4 : t * v ≤ 1000000 * 1000000 := Int.mul_le_mul ht.2 qb.2.2.2 (by omega) (by decide)
    unfold WX12_sell_101 VX12_sell_101
    rw [hu, hv, s_wj (x := u * b) (by omega) (by omega), s_wj (x := t * v) (by omega) (by omega)]
    refine ⟨by omega, by omega, fun lt => no f2 (c6 (fun z => by have := z.1; omega)), fun le => ?_⟩
    refine m_areParts (from_ := 2) (ps := ps) (r := r) hx (by unfold j_pts at *; rw [ck2 4470 (by omega), ck2 4472 (by omega), ck2 4473 (by omega)]; exact he) (by rw [ck2 4470 (by omega), hn]; exact hn6) (by rw [ck2 4471 (by omega)]; exact hf) (by omega) (fun k hk => by rw [ck2 4470 (by omega), hn] at hk; rw [ck2 4520 (by omega)]; exact hr k hk) hp (fun nm w M3 f3 o3 s3 => ?_) (fun bad M3 f3 o3 s3 => ?_)
    · have f23 := m_fr_trans f2 f3
      have nm' : ¬ a_mixed r 2 ((V d).1 7) q := by
        rw [ck2 4470 (by omega), hn, show ((2 : Nat) : Int) + n = (V d).1 7 by omega] at nm
        exact nm
      replace c4 := c4 ⟨le, nm', w⟩
      replace c6f := c6f ⟨le, nm', w⟩
      replace c7 := c7 ⟨le, nm', w⟩
      replace c0 := c0 ⟨le, nm', w⟩
      have h3 := R_all_fr h' f23
      refine ⟨fun _ => ?_, fun z => by omega⟩
      rw [e0] at c4 c6f c7
      refine m_isBarred h3 (fun br => ⟨fun z => by omega, fun _ => no f23 (c4 br)⟩) (fun nb => ⟨fun _ => ?_, fun z => absurd rfl z⟩)
      replace c6f := c6f nb
      replace c7 := c7 nb
      replace c0 := c0 (by rw [e0]; exact nb)
      have k3 : m_ook M3 := by unfold m_ook at *; rw [s3]; exact k2
      rw [o2] at o3
      refine m_gives (B := 1000000) (C := 1000000) k3 (fun z hz1 _ => by
        rw [o3] at hz1
        have := ob z hz1
        exact ⟨this.1, by omega, this.2.2.1, this.2.2.2⟩) ht hb (by decide) (by
        rw [o3]
        exact ⟨_, by rw [hrr]; exact hg1, by rw [hrr]; exact ge, by dsimp only; omega⟩) (fun M4 o4 k4 f4 => ?_)
      rw [o3, hrr] at o4
      have f24 := m_fr_trans f23 f4
      have ck4 := cells M4 f24
      have ob4 : s_ob 1000000000000 (m_own M4) := by
        rw [o4]
        refine o_sub_pos ob hb (fun z hz1 => ?_) ht.1
        rw [hg1] at hz1
        obtain rfl := Option.some.inj hz1
        dsimp only; omega
      have len4 : (m_own M4).length ≤ 8 := by
        rw [o4]
        have := o_sub_len (l := (w_l S l).2.2.2) (i := rr.toNat) (t := t) (b := b)
        omega
      refine m_parted (from_ := 2) (ps := ps) (r := r) hx (by unfold j_pts at *; rw [ck4 4470 (by omega), ck4 4472 (by omega), ck4 4473 (by omega)]; exact he) (by rw [ck4 4470 (by omega), hn]; exact hn6) (by rw [ck4 4471 (by omega)]; exact hf) (by omega) (fun k hk => by rw [ck4 4470 (by omega), hn] at hk; rw [ck4 4520 (by omega)]; exact hr k hk) hp k4 len4 ob4 (fun z hz1 ⟨i, i1, i2⟩ => ?_) ht hb (fun i j hij hj e => ?_) (fun M5 o5 k5 f5 => ?_)
      · rw [ck4 4470 (by omega), hn] at i1
        have ne : z.1 ≠ (q : Int) := fun e => nm' ⟨2 + i, by omega, by omega, Or.inl (by rw [← i2]; exact e)⟩
        rw [o4] at hz1
        have := ob z (o_sub_mem (p := (q : Int)) (fun y hy => by rw [hg1] at hy; rw [← Option.some.inj hy]; exact qp) hz1 ne)
        exact ⟨by omega, this.2.2.2⟩
      · rw [ck4 4470 (by omega), hn] at hj
        exact nm' ⟨2 + j, by omega, by omega, Or.inr ⟨2 + i, by omega, by omega, e.symm⟩⟩
      · have f25 := m_fr_trans f24 f5
        rw [o4] at o5
        have ck5 := cells M5 f25
        have len5 := m_own_len k5
        rw [o5] at len5
        have s73 : M5 4456 73 = (k : Int) := by rw [f25.2 73 (by omega) (by omega) (by omega)]; exact e73
        refine m_isGreat k5 (fun gr => ⟨fun z => by omega, fun _ => no f25 (c6f (by rw [← o5]; exact gr))⟩) (fun ng => ⟨fun _ => ?_, fun z => absurd rfl z⟩)
        rw [o5] at ng
        replace c7 := c7 ng
        replace c0 := c0 ng
        refine ⟨fun gt => no f25 (c7 (Or.inl (by omega))), fun le8 => ⟨fun ne60 => ?_, fun e60 => no f25 (c7 (Or.inr (by omega)))⟩⟩
        replace c0 := c0 (fun z => z.elim (fun z => by omega) (fun z => by omega))
        generalize hfin : o_pts r t b 2 ps (o_sub (w_l S l).2.2.2 rr.toNat t b) = fin at *
        obtain ⟨u1, u2⟩ := m_fr_n hn' f25
        have k60 : k < 60 := by omega
        refine m_keeps u1 l80 k5 le8 (fun M7 p1 p2 p3 => ?_)
        rw [u2, o5] at p2
        rw [tx, show ((l : Nat) : Int).toNat = l by omega, p3 4464 (by omega) (by omega) (by omega) (by omega), ck5 4464 (by omega), ham]
        refine ⟨by omega, by omega, fun M8 e8 => ?_⟩
        obtain ⟨w1, w2⟩ := N_put6 (M := M7) (t := l) (v := (V d).1 9) p1 (by omega)
        rw [← e8] at w1 w2
        have hz2 : R_z (w_ows S l fin) := hz
        have hR8 : R_S V (w_lpt (w_ows S l fin) l 2 ((V d).1 9)) (n_of M8) a := by
          rw [w2, p2]
          exact R_price (R_ows hR hz hl) hz2 hl
        have hz8 : R_z (w_lpt (w_ows S l fin) l 2 ((V d).1 9)) := hz
        have kp8 : j_keep M M8 := j_keep_trans (m_fr_keep f25) (j_keep_trans (j_keep_of (fun b hb => p3 b (by omega) (by omega) (by omega) (by omega))) (by rw [e8]; exact j_keep_cell (by omega)))
        have s8 : M8 4456 73 = (k : Int) := by rw [e8, e_up_row (by omega), p3 4456 (by omega) (by omega) (by omega) (by omega)]; exact s73
        have d8 : M8 4456 86 = S.2.2.2 := by have := R_day hR8; exact this
        have t8 := R_turn hR8 hz8
        have t8' : (n_of M8).2.2.2.2.2.1 = M8 4456 85 := rfl
        rw [s8, tk]
        refine ⟨by omega, fun M9 e9 => ?_⟩
        have s9 : M9 4456 = M8 4456 := by rw [e9, e_up_row (by omega)]
        rw [s9, s8, tk]
        refine ⟨by omega, fun M10 e10 => ?_⟩
        have s10 : M10 4456 = M8 4456 := by rw [e10, e_up_row (by omega), s9]
        rw [s10, s8, d8, tk]
        refine ⟨by omega, fun M11 e11 => ?_⟩
        have s11 : M11 4456 = M8 4456 := by rw [e11, e_up_row (by omega), s10]
        rw [s11, s8, tk]
        refine ⟨by omega, fun M12 e12 => ?_⟩
        have s12 : M12 4456 = M8 4456 := by rw [e12, e_up_row (by omega), s11]
        rw [s12, s_w (x := M8 4456 85 + 1) (by omega) (by omega)]
        intro M13 e13
        have s13 : ∀ j, j ≠ 85 → M13 4456 j = M8 4456 j := fun j hj => by rw [e13, e_up_ne (fun z => hj z.2), s12]
        rw [s13 73 (by omega), s8, tk]
        refine ⟨by omega, fun M14 e14 => ?_⟩
        have s14 : M14 4456 = M13 4456 := by rw [e14, e_up_row (by omega)]
        rw [s14, s13 73 (by omega), s8, tk]
        refine ⟨by omega, fun M15 e15 => ?_⟩
        have s15 : M15 4456 = M13 4456 := by rw [e15, e_up_row (by omega), s14]
        rw [s15, s13 73 (by omega), s8, tk]
        refine ⟨⟨by omega, Or.inl rfl⟩, fun M16 e16 => ?_⟩
        have s16 : M16 4456 = M13 4456 := by rw [e16, e_up_row (by omega), s15]
        have x16 : ∀ c, c < 4490 ∨ 4516 < c → c ≠ 4456 → M16 c = M8 c := fun c hc1 hc2 => by rw [e16, e_up_row (by omega), e15, e_up_row (by omega), e14, e_up_row (by omega), e13, e_up_row (by omega), e12, e_up_row (by omega), e11, e_up_row (by omega), e10, e_up_row (by omega), e9, e_up_row (by omega)]
        have y8 : ∀ c, (4463 ≤ c ∧ c < 4490) ∨ c = 4520 → M8 c = M c := fun c hc => by rw [e8, e_up_row (by omega), p3 c (by omega) (by omega) (by omega) (by omega)]; exact ck5 c (by omega)
        rw [s16, s13 73 (by omega), s8, tk, x16 4470 (by omega) (by omega), y8 4470 (by omega), hn]
        refine ⟨by omega, by omega, fun M17 e17 => ?_⟩
        have s17 : M17 4456 = M13 4456 := by rw [e17, e_up_row (by omega), s16]
        have x17 : ∀ c, c < 4490 ∨ 4516 < c → c ≠ 4456 → M17 c = M8 c := fun c hc1 hc2 => by rw [e17, e_up_row (by omega)]; exact x16 c hc1 hc2
        have v06 : M17 4506 k = (l : Int) := by rw [e17, e_up_row (by omega), e16, e_up_row (by omega), e15, e_up_row (by omega), e14, e_up_row (by omega), e13, e_up_row (by omega), e12, e_up_row (by omega), e11, e_up_row (by omega), e10, e_up_row (by omega), e9, e_up_eq]
        have v07 : M17 4507 k = (q : Int) := by rw [e17, e_up_row (by omega), e16, e_up_row (by omega), e15, e_up_row (by omega), e14, e_up_row (by omega), e13, e_up_row (by omega), e12, e_up_row (by omega), e11, e_up_row (by omega), e10, e_up_eq]
        have v08 : M17 4508 k = S.2.2.2 := by rw [e17, e_up_row (by omega), e16, e_up_row (by omega), e15, e_up_row (by omega), e14, e_up_row (by omega), e13, e_up_row (by omega), e12, e_up_row (by omega), e11, e_up_eq]
        have v09 : M17 4509 k = M8 4456 85 := by rw [e17, e_up_row (by omega), e16, e_up_row (by omega), e15, e_up_row (by omega), e14, e_up_row (by omega), e13, e_up_row (by omega), e12, e_up_eq]
        have v12 : M17 4512 k = t := by rw [e17, e_up_row (by omega), e16, e_up_row (by omega), e15, e_up_row (by omega), e14, e_up_eq]
        have v13 : M17 4513 k = b := by rw [e17, e_up_row (by omega), e16, e_up_row (by omega), e15, e_up_eq]
        have v16 : M17 4516 k = 0 := by rw [e17, e_up_row (by omega), e16, e_up_eq]
        have v10 : M17 4510 k = n := by rw [e17, e_up_eq]
        have o17 : ∀ c u, 4490 < c → (4456 ≠ c) → u ≠ k → M17 c u = M8 c u := fun c u hc1 hc2 hu => by
          have nu : ∀ c', ¬ (c = c' ∧ u = k) := fun c' z => hu z.2
          rw [e17, e_up_ne (nu _), e16, e_up_ne (nu _), e15, e_up_ne (nu _), e14, e_up_ne (nu _), e13, e_up_row (fun z => hc2 z.symm), e12, e_up_ne (nu _), e11, e_up_ne (nu _), e10, e_up_ne (nu _), e9, e_up_ne (nu _)]
        have r17 : ∀ c, c = 4511 ∨ c = 4514 ∨ c = 4515 → M17 c = M8 c := fun c hc => by rw [e17, e_up_row (by omega), e16, e_up_row (by omega), e15, e_up_row (by omega), e14, e_up_row (by omega), e13, e_up_row (by omega), e12, e_up_row (by omega), e11, e_up_row (by omega), e10, e_up_row (by omega), e9, e_up_row (by omega)]
        have l17 : ∀ c, 4490 ≤ c → c < 4506 → M17 c = M8 c := fun c c1 c2 => by rw [e17, e_up_row (by omega), e16, e_up_row (by omega), e15, e_up_row (by omega), e14, e_up_row (by omega), e13, e_up_row (by omega), e12, e_up_row (by omega), e11, e_up_row (by omega), e10, e_up_row (by omega), e9, e_up_row (by omega)]
        have a17 : ∀ j, j ≠ 85 → M17 4456 j = M8 4456 j := fun j hj => by rw [s17]; exact s13 j hj
        have b17 : M17 4456 85 = M8 4456 85 + 1 := by rw [s17, e13, e_up_eq]
        -- what each PART is of what is sold
        have pl : (ps.length : Int) = n := by rw [← hn, ← he]; unfold j_pts; rw [s_ar_len]; omega
        show ∃ j, WX12_sell_322 Q j x t b 0 M17
        refine s_up (σ := e_M) (P := fun dd i N => WX12_sell_322 Q dd x t b i N) (n := n) (i0 := 0) (s := M17) (fun i N => (∀ c, c ≠ 4456 → c ≠ 4511 → c ≠ 4514 → c ≠ 4515 → N c = M17 c) ∧ (∀ j, j ≠ 38 → j ≠ 39 → N 4456 j = M17 4456 j) ∧ (∀ c, c = 4511 ∨ c = 4514 ∨ c = 4515 → ∀ j : Nat, (j < 6 * k ∨ ((6 * k : Nat) : Int) + i ≤ j) → N c j = M8 c j) ∧ ∀ u : Nat, (u : Int) < i → N 4511 (6 * k + u) = r (u + 2) ∧ (ps.map (fun p => s_red (t * p.1) (b * p.2)))[u]? = some (N 4514 (6 * k + u), N 4515 (6 * k + u))) hn6.1 ⟨fun _ _ _ _ _ => rfl, fun _ _ _ => rfl, fun c hc j _ => by rw [r17 c hc], fun u hu => by omega⟩ ?_ ?_
        · intro d2 N ⟨n1, n2, n3, n4⟩
          have k70 : N 4470 x = n := by rw [n1 4470 (by omega) (by omega) (by omega) (by omega), x17 4470 (by omega) (by omega), y8 4470 (by omega)]; exact hn
          have a73 : N 4456 73 = (k : Int) := by rw [n2 73 (by omega) (by omega), a17 73 (by omega)]; exact s8
          unfold WX12_sell_322 VX12_sell_322
          rw [tx, k70, a73, s_w (x := (k : Int) + 1) (by omega) (by omega)]
          refine ⟨by omega, fun _ M1 f1 => ?_, fun z => by omega⟩
          have g : ∀ c, c ≠ 4456 → M1 c = N c := fun c hc => by rw [f1, e_up_row hc]
          have g4 : ∀ j, j ≠ 73 → M1 4456 j = N 4456 j := fun j hj => by rw [f1, e_up_ne (fun z => hj z.2)]
          have b73 : M1 4456 73 = (k : Int) + 1 := by rw [f1, e_up_eq]
          have b85 : M1 4456 85 = M8 4456 85 + 1 := by rw [g4 85 (by omega), n2 85 (by omega) (by omega)]; exact b17
          have b86 : M1 4456 86 = M8 4456 86 := by rw [g4 86 (by omega), n2 86 (by omega) (by omega), a17 86 (by omega)]
          have gx : ∀ c, c ≠ 4456 → c ≠ 4511 → c ≠ 4514 → c ≠ 4515 → M1 c = M17 c := fun c c0 c1 c2 c3 => by rw [g c c0, n1 c c0 c1 c2 c3]
          have up := n_upX (M := M8) (M' := M1) (k := k) w1 k60 (fun c c0 c1 => by
            rw [gx c c0 (by omega) (by omega) (by omega)]
            by_cases cc : 4490 ≤ c ∧ c < 4506
            · exact l17 c cc.1 cc.2
            · exact x17 c (by omega) c0) (fun c c0 c1 c2 c3 c4 u hu => by rw [gx c (by omega) c2 c3 c4]; exact o17 c u (by omega) (by omega) hu) (fun c hc j hj => by rw [g c (by omega)]; exact n3 c hc j (by omega)) (by rw [gx 4510 (by omega) (by omega) (by omega) (by omega), v10]; exact hn6) (by rw [b73]; omega)
          obtain ⟨x1, x2⟩ := up
          refine c0 M1 x1 ?_ (j_keep_trans kp8 ⟨fun c hc => ?_, fun j hj => ?_⟩)
          · have e12 : y_T S r ((V d).1 11) = t := et.symm
            have e13 : y_B S r ((V d).1 11) ((V d).1 12) = b := eb.symm
            have k7 : ((w_lpt (w_ows S l fin) l 2 ((V d).1 9)).1 7).toNat = k := by show (S.1 7).toNat = k; omega
            refine R_addS (N := n_of M8) hR8 hz8 (by show S.1 7 < 60; omega) ?_ ?_ (by rw [x2]) (by rw [x2]) (by rw [x2]) (by rw [x2]) (fun j hj => by
              rw [k7] at hj
              rw [x2]
              exact s_fu_ne hj) (by rw [x2]; exact b85) (by rw [x2]; exact b86) (by rw [x2]; show M1 4456 73 = M8 4456 73 + 1; rw [b73, s8])
            · rw [k7, x2]
              show R_sale V _ (s_fu _ k (n_sa M1 k) k)
              rw [s_fu_eq]
              refine ⟨⟨?_, ?_, ?_, ?_, ?_, ?_⟩, ?_, ?_⟩
              · show M1 4506 k = r_get [r 0] 0
                rw [gx 4506 (by omega) (by omega) (by omega) (by omega), v06]; exact e0.symm
              · show M1 4507 k = r 1
                rw [gx 4507 (by omega) (by omega) (by omega) (by omega), v07]; exact e1.symm
              · show M1 4508 k = S.2.2.2
                rw [gx 4508 (by omega) (by omega) (by omega) (by omega), v08]
              · show M1 4516 k = 0
                rw [gx 4516 (by omega) (by omega) (by omega) (by omega), v16]
              · show M1 4512 k = t
                rw [gx 4512 (by omega) (by omega) (by omega) (by omega), v12]
              · show M1 4513 k = b
                rw [gx 4513 (by omega) (by omega) (by omega) (by omega), v13]
              · show s_ar (fun i => M1 4511 (6 * k + i)) (M1 4510 k) = s_ar (fun i => r (i + 2)) n
                rw [gx 4510 (by omega) (by omega) (by omega) (by omega), v10]
                exact s_ar_two (fun i hi => by rw [g 4511 (by omega)]; exact (n4 i hi).1)
              · show s_ar (fun i => (M1 4514 (6 * k + i), M1 4515 (6 * k + i))) (M1 4510 k) = (V (((d : Int))).toNat).2.2.2.1.map (fun p => s_red (t * p.1) (b * p.2))
                rw [gx 4510 (by omega) (by omega) (by omega) (by omega), v10, show ((d : Int)).toNat = d by omega, hps]
                refine s_ar_ext (by rw [List.length_map]; omega) (fun i hi => ?_)
                rw [g 4514 (by omega), g 4515 (by omega)]
                exact (n4 i (by omega)).2
            · rw [k7, x2]
              refine ⟨?_, rfl⟩
              show (s_fu _ k (n_sa M1 k) k).1 1 = M8 4456 85
              rw [s_fu_eq]
              show M1 4509 k = _
              rw [gx 4509 (by omega) (by omega) (by omega) (by omega), v09]
          · rw [gx c (by omega) (by omega) (by omega) (by omega)]
            exact x17 c (by omega) (by omega)
          · rw [g4 j (by omega), n2 j (by omega) (by omega), a17 j (by omega)]
        · intro d2 i N i1 i2 ⟨n1, n2, n3, n4⟩ ih
          obtain ⟨s, es⟩ : ∃ s : Nat, i = s := ⟨i.toNat, by omega⟩
          subst es
          have cn : ∀ c, (4463 ≤ c ∧ c < 4490) ∨ c = 4520 → N c = M c := fun c hc => by rw [n1 c (by omega) (by omega) (by omega) (by omega), x17 c (by omega) (by omega), y8 c hc]
          have a73 : N 4456 73 = (k : Int) := by rw [n2 73 (by omega) (by omega), a17 73 (by omega)]; exact s8
          have hat : ps[s]? = some (M 4472 (6 * x + s), M 4473 (6 * x + s)) := by
            rw [← he]
            exact s_ar_get (f := fun k => (M 4472 (6 * x + k), M 4473 (6 * x + k))) (by omega)
          have pb := hp _ (List.mem_of_getElem? hat)
          dsimp only at pb
          unfold WX12_sell_322 VX12_sell_322
          rw [tx, cn 4470 (by omega), hn, s_w (x := 6 * (x : Int)) (by omega) (by omega), s_w (x := 6 * (x : Int) + s) (by omega) (by omega), show (6 * (x : Int) + (s : Int)).toNat = 6 * x + s by omega, cn 4472 (by omega), cn 4473 (by omega)]
          generalize M 4472 (6 * x + s) = pu at *
          generalize M 4473 (6 * x + s) = pd at *
          refine ⟨by omega, fun z => by omega, fun _ => ⟨by omega, by omega, m_times (B := 1000000) (C := 1000) ht hb ⟨by omega, pb.1.2⟩ ⟨by omega, pb.2.2⟩ (by decide) ?_⟩⟩
          generalize hrd : s_red (t * pu) (b * pd) = rd at *
          generalize hL : e_up (e_up N 4456 38 rd.1) 4456 39 rd.2 = L
          have L38 : L 4456 38 = rd.1 := by rw [← hL, e_up_ne (by omega), e_up_eq]
          have L39 : L 4456 39 = rd.2 := by rw [← hL, e_up_eq]
          have Lc : ∀ c, c ≠ 4456 → L c = N c := fun c hc => by rw [← hL, e_up_row hc, e_up_row hc]
          have Lj : ∀ j, j ≠ 38 → j ≠ 39 → L 4456 j = N 4456 j := fun j j1 j2 => by rw [← hL, e_up_ne (fun z => j2 z.2), e_up_ne (fun z => j1 z.2)]
          rw [Lc 4471 (by omega), cn 4471 (by omega), hf, s_w (x := (2 : Int) + s) (by omega) (by omega), show ((2 : Int) + (s : Int)).toNat = 2 + s by omega, Lc 4520 (by omega), cn 4520 (by omega), hr s i2, Lj 73 (by omega) (by omega), a73, s_w (x := 6 * (k : Int)) (by omega) (by omega), s_w (x := 6 * (k : Int) + s) (by omega) (by omega), show (6 * (k : Int) + (s : Int)).toNat = 6 * k + s by omega]
          refine ⟨by omega, by omega, by omega, fun L3 g3 => ?_⟩
          have L3c : L3 4456 = L 4456 := by rw [g3, e_up_row (by omega)]
          rw [L3c, Lj 73 (by omega) (by omega), a73, L38, s_w (x := 6 * (k : Int)) (by omega) (by omega), s_w (x := 6 * (k : Int) + s) (by omega) (by omega), show (6 * (k : Int) + (s : Int)).toNat = 6 * k + s by omega]
          refine ⟨by omega, fun L4 g4 => ?_⟩
          have L4c : L4 4456 = L 4456 := by rw [g4, e_up_row (by omega), L3c]
          rw [L4c, Lj 73 (by omega) (by omega), a73, L39, s_w (x := 6 * (k : Int)) (by omega) (by omega), s_w (x := 6 * (k : Int) + s) (by omega) (by omega), show (6 * (k : Int) + (s : Int)).toNat = 6 * k + s by omega]
          refine ⟨by omega, fun L5 g5 => ?_⟩
          have L5c : L5 4456 = L 4456 := by rw [g5, e_up_row (by omega), L4c]
          have q11 : ∀ j, L5 4511 j = if j = 6 * k + s then r (2 + s) else N 4511 j := fun j => by rw [g5, e_up_row (by omega), g4, e_up_row (by omega), g3, e_up_at, Lc 4511 (by omega)]
          have q14 : ∀ j, L5 4514 j = if j = 6 * k + s then rd.1 else N 4514 j := fun j => by rw [g5, e_up_row (by omega), g4, e_up_at, g3, e_up_row (by omega), Lc 4514 (by omega)]
          have q15 : ∀ j, L5 4515 j = if j = 6 * k + s then rd.2 else N 4515 j := fun j => by rw [g5, e_up_at, g4, e_up_row (by omega), g3, e_up_row (by omega), Lc 4515 (by omega)]
          rw [s_w (x := (s : Int) + 1) (by omega) (by omega)]
          refine ih L5 ⟨fun c c0 c1 c2 c3 => ?_, fun j j1 j2 => ?_, fun c hc j hj => ?_, fun u hu => ?_⟩
          · rw [g5, e_up_row c3, g4, e_up_row c2, g3, e_up_row c1, Lc c c0]; exact n1 c c0 c1 c2 c3
          · rw [L5c, Lj j j1 j2]; exact n2 j j1 j2
          · have := n3 c hc j (by omega)
            rcases hc with e | e | e
            · rw [e, q11, if_neg (by omega), ← e]; exact this
            · rw [e, q14, if_neg (by omega), ← e]; exact this
            · rw [e, q15, if_neg (by omega), ← e]; exact this
          · by_cases cu : u = s
            · rw [cu, q11, q14, q15, if_pos rfl, if_pos rfl, if_pos rfl, List.getElem?_map, hat]
              refine ⟨by rw [Nat.add_comm], ?_⟩
              show some (s_red (t * pu) (b * pd)) = _
              rw [hrd]
            · rw [q11, q14, q15, if_neg (by omega), if_neg (by omega), if_neg (by omega)]
              exact n4 u (by omega)
    · refine ⟨fun z => absurd rfl z, fun _ => no (m_fr_trans f2 f3) (c6 (fun z => ?_))⟩
      rw [ck2 4470 (by omega), hn, show ((2 : Nat) : Int) + n = (V d).1 7 by omega] at bad
      rcases bad with bd | bd
      · exact z.2.1 bd
      · rw [bd] at z; cases z.2.2
  have yT : ∀ s, y_T S r s = if s = 0 then M2 4518 rr.toNat else s := fun s => by unfold y_T; rw [yq]
  have yB : ∀ s s', y_B S r s s' = if s = 0 then M2 4519 rr.toNat else s' := fun s s' => by unfold y_B; rw [yq]
  rw [tx, ck2 4468 (by omega), ck2 4469 (by omega)]
  refine ⟨by omega, fun le => ⟨by omega, ?_⟩, fun gt => ⟨by omega, ?_⟩⟩
  · have e11 : (V d).1 11 = 0 := Classical.byContradiction (fun c => by have := hs1 c; omega)
    unfold WX12_sell_73 VX12_sell_73
    rw [tx, ck2 4469 (by omega)]
    exact ⟨by omega, fun _ => ⟨by omega, k101 _ _ (by rw [yT, if_pos e11]) (by rw [yB, if_pos e11]) ⟨qb.1, by omega⟩ ⟨qb.2.2.1, qb.2.2.2⟩⟩, fun z => by omega⟩
  · have e11 : (V d).1 11 ≠ 0 := fun c => by have := hs0 c; omega
    have hh := hs1 e11
    unfold WX12_sell_73 VX12_sell_73
    rw [tx, ck2 4469 (by omega), hh.1.1, hh.1.2]
    exact ⟨by omega, fun z => by omega, fun _ => ⟨by omega, k101 _ _ (by rw [yT, if_neg e11]) (by rw [yB, if_neg e11]) (by omega) (by omega)⟩⟩
