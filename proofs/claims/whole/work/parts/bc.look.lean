/-! THE MODEL: a VIEW -/
theorem F_v_0 {known : Int} {cm od : Nat → Int} {M : e_M} {i : Nat} (h : F_v known cm od M i = 0) : ¬ known < cm i ∧ od i = 0 ∧ M 4522 (i + 1) = 0 := by
  unfold F_v at h
  by_cases c1 : known < cm i
  · rw [if_pos c1] at h; omega
  · rw [if_neg c1] at h
    by_cases c2 : od i = 0
    · rw [if_pos c2] at h
      by_cases c3 : M 4522 (i + 1) = 0
      · exact ⟨c1, c2, c3⟩
      · rw [if_neg c3] at h; omega
    · rw [if_neg c2] at h
      split at h <;> omega
/-- what a VIEW leaves alone -/
def w_keep (M M' : e_M) : Prop := (∀ b, (b < 4480 ∨ b = 4482 ∨ 4527 ≤ b) → b ≠ 4456 → M' b = M b) ∧ ∀ k, (k < 38 ∨ (49 ≤ k ∧ k ≠ 73 ∧ k ≠ 85 ∧ k ≠ 86 ∧ k ≠ 87 ∧ k ≠ 98 ∧ k ≠ 99)) → M' 4456 k = M 4456 k
/-- fates and tellers, the DAY of what tells, the line: of the ENTRIES as they are -/
def y_x (cm od tg : Nat → Int) (known n : Int) : (Nat → Int) × (Nat → Int) := v_dn od tg n.toNat (v_f0 cm od known n (fun _ => 0), v_t0 n (fun _ => 0))
def y_D (V : Nat → v_D) (er : Nat → Nat) (T : Nat → Int) : Int → Int := fun y => (V (er (T y.toNat).toNat)).1 4
def y_L (V : Nat → v_D) (er : Nat → Nat) (cm od tg : Nat → Int) (known n day : Int) : List Int := v_ln (y_D V er (y_x cm od tg known n).2) (y_x cm od tg known n).1 day n.toNat
/-- a VIEW: what comes of the DEEDS that count -/
def y_run (V : Nat → v_D) (er : Nat → Nat) (cm od tg : Nat → Int) (known n day : Int) (S0 S' : w_S) (F' : Nat → Int) (c' : Int) : Prop := v_run V ((y_L V er cm od tg known n day).map (fun y => (er ((y_x cm od tg known n).2 y.toNat).toNat, y.toNat))) 1 S0 (v_f1 (y_D V er (y_x cm od tg known n).2) day n (y_x cm od tg known n).1) 0 S' F' c'
theorem m_through {G : w_S → Prop} {V : Nat → v_D} {U : Nat → Prop} {I : Int → w_S → Prop} (hG : ∀ S, G S → ∀ l : Nat, (l : Int) < S.1 0 → (w_l S l).1 1 = 0 → g_good (w_l S l).2.1) (hF : G_fig V G) (hI : I_good G V U I) {M : e_M} {S0 S' : w_S} {F' : Nat → Int} {c' dr day known n : Int} {cm od tg : Nat → Int} {er : Nat → Nat} {Q : e_M → Prop} (hn : nn_ok M) (hc : cm_ok M) (hmo : m_mo M) (hU : ∀ i : Nat, (i : Int) < n → od i ≠ 222 → U (er i)) (hE : E_j M n cm od tg) (hEd : E_d M n od V er) (hday : 0 ≤ day ∧ day ≤ 219144) (h0 : I 1 (w_0 S0 dr)) (hrun : y_run V er cm od tg known n day (w_0 S0 dr) S' F' c')
    (hq : ∀ M', nn_ok M' → R_S V (d_set S' day) (n_of M') ((y_L V er cm od tg known n day).length + 1) → I ((y_L V er cm od tg known n day).length + 1) S' → w_keep M M' → (∀ i : Nat, (i : Int) < n → M' 4524 (i + 1) = F' i ∧ M' 4523 (i + 1) = (y_x cm od tg known n).2 i + 1) → M' 4456 99 = c' → M' 4456 86 = day → t_ln M' (y_L V er cm od tg known n day) (y_x cm od tg known n).2 → Q M') : WX12_through day known M Q := by
  obtain ⟨⟨n0, n150⟩, e33, he, hcm⟩ := id hE
  unfold WX12_through VX12_through
  refine m_judge (f := fun _ => 0) (t := fun _ => 0) hE (fun M1 fr1 hj => ?_)
  change ∀ i : Nat, (i : Int) < n → (M1 4523 (i + 1) = (y_x cm od tg known n).2 i + 1 ∧ 0 ≤ (y_x cm od tg known n).2 i ∧ (y_x cm od tg known n).2 i < n) ∧ (y_x cm od tg known n).1 i = F_v known cm od M1 i ∧ (M1 4521 (i + 1) = 0 ↔ (y_x cm od tg known n).1 i ≠ 23) ∧ ((y_x cm od tg known n).2 i = i ∨ od ((y_x cm od tg known n).2 i).toNat = 223) at hj
  unfold y_run at hrun
  unfold y_L at hrun hq
  generalize hT : (y_x cm od tg known n).2 = T at *
  generalize hFF : (y_x cm od tg known n).1 = F at *
  generalize hD : y_D V er T = D at *
  have hj0 := hj
  have eD : ∀ y : Int, (V (er (T y.toNat).toNat)).1 4 = D y := fun y => by rw [← hD]; rfl
  -- whose DEED is read
  have od0 : ∀ i : Nat, (i : Int) < n → F i = 0 → od (T i).toNat ≠ 222 := fun i hi hf => by
    obtain ⟨⟨-, b1, b2⟩, b3, -, b4⟩ := hj i hi
    rw [b3] at hf
    have := (F_v_0 hf).2.1
    rcases b4 with b4 | b4
    · rw [b4, show ((i : Nat) : Int).toNat = i by omega]; omega
    · omega
  have lnF : ∀ (k : Nat) (y : Int), (k : Int) ≤ n → y ∈ v_ln D F day k → (0 ≤ y ∧ y < n) ∧ F y.toNat = 0 ∧ D y ≤ day := fun k y hk hy => by
    have a1 := v_ln_mem hy
    exact ⟨by omega, v_ln_mem2 hy⟩
  intro M2 e2
  have f2 : ∀ b, b ≠ 4456 → b ≠ 4521 → b ≠ 4522 → b ≠ 4523 → M2 b = M b := fun b b1 b2 b3 b4 => by rw [e2, e_up_row b1]; exact fr1 b b2 b3 b4
  have g2 : ∀ j, j ≠ 98 → M2 4456 j = M 4456 j := fun j hj => by rw [e2, e_up_ne (fun z => hj z.2), fr1 4456 (by omega) (by omega) (by omega)]
  have m2 : ∀ b, b ≠ 4456 → M2 b = M1 b := fun b hb => by rw [e2, e_up_row hb]
  refine s_up (σ := e_M) (P := fun dd i N => WX12_through_12 Q dd day known i N) (n := n + 1) (i0 := 1) (s := M2) (fun x N => tt_fr M2 N ∧ ∃ k : Nat, x = ((k + 1 : Nat) : Int) ∧ t_ln N (v_ln D F day k) T ∧ ∀ i : Nat, i < k → N 4524 (i + 1) = v_f1 D day n F i) (by omega) ⟨tt_fr_refl, 0, rfl, ⟨by rw [e2, e_up_eq]; rfl, fun j hj => absurd hj (Nat.not_lt_zero j)⟩, fun i hi => by omega⟩ ?_ ?_
  · intro d2 N ⟨tf, k, ek, hl, h24⟩
    have kn : (k : Int) = n := by omega
    have ktn : n.toNat = k := by omega
    rw [ktn] at hrun hq
    unfold WX12_through_12 VX12_through_12
    rw [tf.2 33 (by omega), g2 33 (by omega), e33]
    refine ⟨fun _ B1 b1 => ?_, fun z => by omega⟩
    have fB : ∀ b, b ≠ 4456 → b ≠ 4521 → b ≠ 4522 → b ≠ 4523 → b ≠ 4524 → b ≠ 4525 → b ≠ 4526 → B1 b = M b := fun b a1 a2 a3 a4 a5 a6 a7 => by rw [b1, e_up_row a1, tf.1 b a1 a5 a6 a7]; exact f2 b a1 a2 a3 a4
    have gB : ∀ j, j ≠ 86 → j ≠ 98 → B1 4456 j = M 4456 j := fun j a1 a2 => by rw [b1, e_up_ne (fun z => a1 z.2), tf.2 j a2]; exact g2 j a2
    have nB : nn_ok B1 := by
      have a0 : nn_ok N := (n_same hn (M' := N) (fun b hb => by rw [tf.1 b (by omega) (by omega) (by omega) (by omega)]; exact f2 b (by omega) (by omega) (by omega) (by omega)) (fun j _ => ⟨by rw [tf.1 4480 (by omega) (by omega) (by omega) (by omega), f2 4480 (by omega) (by omega) (by omega) (by omega)], by rw [tf.1 4481 (by omega) (by omega) (by omega) (by omega), f2 4481 (by omega) (by omega) (by omega) (by omega)]⟩) ⟨by rw [tf.2 85 (by omega)]; exact g2 85 (by omega), by rw [tf.2 86 (by omega)]; exact g2 86 (by omega), by rw [tf.2 73 (by omega)]; exact g2 73 (by omega)⟩).1
      rw [b1]
      exact (n_upD a0).1
    refine m_empty (V := V) (S0 := S0) (dr := dr) nB (by rw [b1, e_up_eq]) (fun B2 v1 v2 v3 v4 B3 b3 => ?_)
    have fB3 : ∀ b, b ≠ 4456 → B3 b = B2 b := fun b hb => by rw [b3, e_up_row hb]
    have gB3 : ∀ j, j ≠ 99 → B3 4456 j = B2 4456 j := fun j hj => by rw [b3, e_up_ne (fun z => hj z.2)]
    obtain ⟨w1, w2⟩ := n_same v1 (M' := B3) (fun b hb => fB3 b (by omega)) (fun j _ => ⟨by rw [fB3 4480 (by omega)], by rw [fB3 4481 (by omega)]⟩) ⟨gB3 85 (by omega), gB3 86 (by omega), gB3 73 (by omega)⟩
    have ks : ∀ b, (b < 4480 ∨ b = 4482 ∨ 4521 ≤ b) → b ≠ 4456 → B3 b = B1 b := fun b hb h6 => by rw [fB3 b h6]; exact v3.1 b hb h6
    have km : ∀ b, (b < 4480 ∨ b = 4482 ∨ 4527 ≤ b) → b ≠ 4456 → B3 b = M b := fun b hb h6 => by rw [ks b (by omega) h6]; exact fB b h6 (by omega) (by omega) (by omega) (by omega) (by omega) (by omega)
    have kj : ∀ j, (j < 38 ∨ (49 ≤ j ∧ j ≠ 73 ∧ j ≠ 85 ∧ j ≠ 86 ∧ j ≠ 87 ∧ j ≠ 98 ∧ j ≠ 99)) → B3 4456 j = M 4456 j := fun j hj => by rw [gB3 j (by omega), v3.2 j (by omega)]; exact gB j (by omega) (by omega)
    have k98 : B3 4456 98 = N 4456 98 := by rw [gB3 98 (by omega), v3.2 98 (by omega), b1, e_up_ne (by omega)]
    have kN : ∀ b, (4521 ≤ b) → B3 b = N b := fun b hb => by rw [ks b (by omega) (by omega), b1, e_up_row (by omega)]
    have hlB : t_ln B3 (v_ln D F day k) T := ⟨by rw [k98]; exact hl.1, fun j hj => by rw [kN 4525 (by omega), kN 4526 (by omega)]; exact hl.2 j hj⟩
    have llen := v_ln_len (D := D) (F := F) (day := day) (n := k)
    have hz0 := hI.1 1 _ h0
    have d0 : (w_0 S0 dr).2.2.2 = 0 := rfl
    have runs := m_runs (Q := Q) (M0 := B3) (n := n) (day := day) (od := od) (er := er) (L := v_ln D F day k) (T := T) (D := D) (S' := S') (F' := F') (c' := c') hG hF hI hU hday ⟨n0, n150⟩ (fun y hy => by have := lnF k y (by omega) hy; exact ⟨this.1.1, this.1.2, this.2.2⟩) (by omega) v_ln_srt (fun y hy => by
      have a := lnF k y (by omega) hy
      have b := hj y.toNat (by omega)
      exact ⟨b.1.2.1, b.1.2.2, od0 y.toNat (by omega) a.2.1⟩) (fun y _ => eD y) (fun M' a1 a2 a3 a4 a5 a6 a7 => hq M' a1 a2 a3 ⟨fun b hb h6 => by rw [a4.1 b (by omega) h6]; exact km b hb h6, fun j hj => by rw [a4.2 j (by omega)]; exact kj j (by omega)⟩ (fun i hi => ⟨a5 i hi, by rw [a4.1 4523 (by omega) (by omega), kN 4523 (by omega), tf.1 4523 (by omega) (by omega) (by omega) (by omega), m2 4523 (by omega)]; exact (hj i hi).1.1⟩) a6 a7 ⟨by rw [a4.2 98 (by omega)]; exact hlB.1, fun j hj => by rw [a4.1 4525 (by omega) (by omega), a4.1 4526 (by omega) (by omega)]; exact hlB.2 j hj⟩)
    refine ⟨_, runs (v_ln D F day k).length 0 (w_0 S0 dr) (v_f1 D day n F) 0 B3 (by omega) ⟨w1, ⟨fun j hj => by rw [km 4457 (by omega) (by omega)]; exact hc.1 j hj, fun l q hl hq' => by rw [km 4458 (by omega) (by omega)]; exact hc.2 l q hl hq'⟩, by rw [w2]; exact v2, hz0.1, hz0.2, by rw [d0]; omega⟩ h0 (fun s hs => by rw [km 4482 (by omega) (by omega)]; exact hmo s hs) (E_d_congr hEd (fun b a1 a2 => km b (by omega) (by omega))) hlB (fun j hj _ => ?_) (by rw [d0]; omega) (fun i hi => ?_) (by rw [b3, e_up_eq]) (by omega) ⟨fun _ _ _ => rfl, fun _ _ => rfl⟩ hrun⟩
    · rw [d0]
      have hm := v_at_mem hj
      have a := lnF k _ (by omega) hm
      generalize v_at (v_ln D F day k) j = y at *
      have b := hj0 y.toNat (by omega)
      have c := (hEd (T y.toNat).toNat (by omega) (od0 y.toNat (by omega) a.2.1)).2.2.2.2.1.1.1
      rw [eD] at c; exact c
    · rw [kN 4524 (by omega)]
      exact h24 i (by omega)
  · intro d2 x N x1 x2 ⟨tf, k, ek, hl, h24⟩ ih
    subst ek
    have tk : (((k + 1 : Nat)) : Int).toNat = k + 1 := by omega
    have kn : (k : Int) < n := by omega
    obtain ⟨a1, a2, -⟩ := he k kn
    obtain ⟨⟨b1, b1a, b1b⟩, b2, b3, b4⟩ := hj k kn
    have cN : ∀ b, b ≠ 4456 → b ≠ 4521 → b ≠ 4522 → b ≠ 4523 → b ≠ 4524 → b ≠ 4525 → b ≠ 4526 → N b = M b := fun b z1 z2 z3 z4 z5 z6 z7 => by rw [tf.1 b z1 z5 z6 z7]; exact f2 b z1 z2 z3 z4
    have cJ : ∀ b, b = 4521 ∨ b = 4522 ∨ b = 4523 → N b = M1 b := fun b hb => by rw [tf.1 b (by omega) (by omega) (by omega) (by omega)]; exact m2 b (by omega)
    have dayAt : ∀ y : Nat, (y : Int) < n → F y = 0 → N 4462 (T y + 1).toNat = D y := fun y hy hf => by
      have c := hj y hy
      obtain ⟨s, es⟩ : ∃ s : Nat, T y = s := ⟨(T y).toNat, by omega⟩
      have o := od0 y hy hf
      rw [es, show ((s : Nat) : Int).toNat = s by omega] at o
      have e := (hEd s (by omega) o).1.1.2.1
      have ed := eD y
      rw [show ((y : Nat) : Int).toNat = y by omega, es, show ((s : Nat) : Int).toNat = s by omega] at ed
      rw [es, show ((s : Int) + 1).toNat = s + 1 by omega, cN 4462 (by omega) (by omega) (by omega) (by omega) (by omega) (by omega) (by omega), e]
      exact ed
    have k224 : ∀ N', tt_fr N N' → t_ln N' (v_ln D F day (k + 1)) T → (∀ i : Nat, i < k + 1 → N' 4524 (i + 1) = v_f1 D day n F i) → WX12_through_224 (WX12_through_12 Q d2) Q day known (((k + 1 : Nat)) : Int) N' := fun N' t1 t2 t3 => by
      unfold WX12_through_224 VX12_through_224
      rw [s_w (x := (((k + 1 : Nat)) : Int) + 1) (by omega) (by omega)]
      exact ih N' ⟨tt_fr_trans tf t1, k + 1, by omega, t2, t3⟩
    have k103 : ∀ v : Int, v = v_f1 D day n F k → WX12_through_103 (WX12_through_12 Q d2) Q day known (((k + 1 : Nat)) : Int) v (((k + 1 : Nat)) : Int) N := fun v ev => by
      unfold WX12_through_103 VX12_through_103
      rw [tk]
      refine ⟨by omega, fun N1 e1 => ?_⟩
      have c24 : ∀ j, N1 4524 j = if j = k + 1 then v else N 4524 j := fun j => by rw [e1, e_up_at]
      have t1 : tt_fr N N1 := ⟨fun b z1 z2 z3 z4 => by rw [e1, e_up_row z2], fun j hj => by rw [e1, e_up_row (by omega)]⟩
      have l1 : t_ln N1 (v_ln D F day k) T := by
        unfold t_ln at hl ⊢
        rw [e1, e_up_row (by omega), e_up_row (by omega), e_up_row (by omega)]; exact hl
      have h24' : ∀ i : Nat, i < k + 1 → N1 4524 (i + 1) = v_f1 D day n F i := fun i hi => by
        rw [c24]
        by_cases c : i = k
        · rw [if_pos (by omega), c]; exact ev
        · rw [if_neg (by omega)]; exact h24 i (by omega)
      rw [c24, if_pos rfl]
      have dv : v_ln D F day (k + 1) = if F k = 0 ∧ D k ≤ day then v_put D (v_ln D F day k) k else v_ln D F day k := rfl
      have vf : v_f1 D day n F k = if (k : Int) < n ∧ F k = 0 ∧ day < D k then 20 else F k := rfl
      refine ⟨by omega, fun le => ?_, fun gt => k224 N1 t1 ?_ h24'⟩
      · have c0 : F k = 0 ∧ D k ≤ day := by
          by_cases c : (k : Int) < n ∧ F k = 0 ∧ day < D k
          · rw [if_pos c] at vf; omega
          · rw [if_neg c] at vf
            have hF0 : F k = 0 := by
              rw [b2] at vf ⊢
              have : F_v known cm od M1 k ≤ 0 := by omega
              unfold F_v at this ⊢
              by_cases c1 : known < cm k
              · rw [if_pos c1] at this; omega
              · rw [if_neg c1] at this ⊢
                by_cases c2 : od k = 0
                · rw [if_pos c2] at this ⊢
                  by_cases c3 : M1 4522 (k + 1) = 0
                  · rw [if_pos c3]
                  · rw [if_neg c3] at this; omega
                · rw [if_neg c2] at this
                  split at this <;> omega
            exact ⟨hF0, by omega⟩
        refine m_into (L := v_ln D F day k) (T := T) (D := D) ⟨n0, n150⟩ kn l1 v_ln_len (fun y hy => (lnF k y (by omega) hy).1) (fun i hi => by rw [t1.1 4523 (by omega) (by omega) (by omega) (by omega), cJ 4523 (by omega)]; exact (hj i hi).1) (fun y hy => ?_) (fun N2 s1 s2 s3 => k224 N2 (tt_fr_trans t1 s1) (by rw [dv, if_pos c0]; exact s3) (fun i hi => by rw [s2]; exact h24' i hi))
        rw [t1.1 4462 (by omega) (by omega) (by omega) (by omega)]
        rcases hy with rfl | hy
        · rw [show ((k : Nat) : Int).toNat = k by omega]; exact dayAt k kn c0.1
        · have a := lnF k y (by omega) hy
          have := dayAt y.toNat (by omega) a.2.1
          rw [show ((y.toNat : Nat) : Int) = y by omega] at this
          exact this
      · rw [dv, if_neg (fun c => ?_)]
        · exact l1
        · rw [if_neg (fun z => by omega)] at vf
          omega
    unfold WX12_through_12 VX12_through_12
    rw [tf.2 33 (by omega), g2 33 (by omega), e33, tk, cN 4477 (by omega) (by omega) (by omega) (by omega) (by omega) (by omega) (by omega), a1, cN 4478 (by omega) (by omega) (by omega) (by omega) (by omega) (by omega) (by omega), cJ 4522 (by omega), cJ 4523 (by omega), cJ 4521 (by omega), b1]
    have vf : v_f1 D day n F k = if (k : Int) < n ∧ F k = 0 ∧ day < D k then 20 else F k := rfl
    have nz : F k ≠ 0 → v_f1 D day n F k = F k := fun h => by rw [vf, if_neg (fun z => h z.2.1)]
    refine ⟨fun z => by omega, fun _ => ⟨by omega, fun le => ⟨by omega, fun le0 => ⟨by omega, fun an0 => ⟨by omega, by omega, ?_⟩, fun an1 => k103 21 ?_⟩, fun gt0 => ⟨by omega, fun c0 => k103 24 ?_, fun c1 => k103 23 ?_⟩⟩, fun lt => k103 22 ?_⟩⟩
    · have o0 : od k = 0 := by
        rcases a2 with a2 | a2
        · exact a2.1
        · omega
      have f0 : F k = 0 := by
        rw [b2]
        unfold F_v
        rw [if_neg (by omega), if_pos o0, if_pos an0]
      rw [dayAt k kn f0]
      exact ⟨fun le' => k103 0 (by rw [vf, if_neg (by omega), f0]), fun lt' => k103 20 (by rw [vf, if_pos ⟨kn, f0, lt'⟩])⟩
    · have o0 : od k = 0 := by
        rcases a2 with a2 | a2
        · exact a2.1
        · omega
      have f0 : F k = 21 := by
        rw [b2]
        unfold F_v
        rw [if_neg (by omega), if_pos o0, if_neg an1]
      rw [nz (by omega), f0]
    · have o1 : od k ≠ 0 := by
        rcases a2 with a2 | a2
        · omega
        · omega
      have f0 : F k = 24 := by
        have n23 := b3.mp c0
        rw [b2] at n23 ⊢
        unfold F_v at n23 ⊢
        rw [if_neg (show ¬ known < cm k by omega), if_neg o1] at n23 ⊢
        by_cases c : M1 4522 (k + 1) = 0
        · rw [if_pos c] at n23; exact absurd rfl n23
        · rw [if_neg c]
      rw [nz (by omega), f0]
    · have f0 : F k = 23 := Classical.byContradiction (fun c => c1 (b3.mpr c))
      rw [nz (by omega), f0]
    · have f0 : F k = 22 := by
        rw [b2]
        unfold F_v
        rw [if_pos lt]
      rw [nz (by omega), f0]
