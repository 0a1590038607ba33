/-! the class's VIEW, made -/
def z_all (M N : e_M) (w : Nat) : Prop := ∀ b, (b < w ∨ w + 2199 ≤ b) → (b < 4423 ∨ 4452 ≤ b) → N b = M b
theorem z_all_trans {M N L : e_M} {w : Nat} (h1 : z_all M N w) (h2 : z_all N L w) : z_all M L w := fun b b1 b2 => by rw [h2 b b1 b2, h1 b b1 b2]
theorem z_d {M N : e_M} {w d : Nat} (f : z_all M N w) (hd : a_d w d) : (∀ k, k ≤ 6 → N (d + k) = M (d + k)) ∧ N d = M d ∧ v_of N d = v_of M d ∧ (s_dok M d → s_dok N d) := by
  have h : ∀ k, k ≤ 6 → N (d + k) = M (d + k) := fun k hk => f _ (by unfold a_d at hd; omega) (by unfold a_d at hd; omega)
  have c := s_dd_congr h
  exact ⟨h, c.1, v_of_congr h, c.2.2.2.2⟩
theorem k_view {G : w_S → Prop} {U : Nat → Prop} {I : Int → w_S → Prop} {M : e_M} {w : Nat} {n day known : Int} {Q : Nat → e_M → Prop} (h : w_ok M w) (hw : a_w w) (hE : C_ent M w n) (hI : I_good G (v_of M) U I) (hU : ∀ i : Nat, (i : Int) < n → M (er_of M i) 1 ≠ 222 → U (er_of M i)) (hcls : I_cls M w I) (h0 : I 1 (w_0 (w_of M w) ((M (w + 12) 11).toNat))) (hday : 0 ≤ day ∧ day ≤ 219144) (ht : ∀ i : Nat, (i : Int) < n → M (er_of M i) 1 = 0 ∨ ((M (er_of M i) 1 = 222 ∨ M (er_of M i) 1 = 223) ∧ 1 ≤ M (er_of M i) 2 ∧ M (er_of M i) 2 ≤ i))
    (q1 : M w 12 = day → M w 13 = known → M w 14 = n → Q w M)
    (q2 : ¬ (M w 12 = day ∧ M w 13 = known ∧ M w 14 = n) → ∀ M' S' F' c', y_run (v_of M) (er_of M) (fun i => M (er_of M i) 0) (fun i => M (er_of M i) 1) (fun i => M (er_of M i) 2) known n day (w_0 (w_of M w) ((M (w + 12) 11).toNat)) S' F' c' → w_ok M' w → w_of M' w = d_set S' day → (∀ i : Nat, (i : Int) < n → M' (w + 25) i = F' i ∧ M' (w + 26) i = (y_x (fun i => M (er_of M i) 0) (fun i => M (er_of M i) 1) (fun i => M (er_of M i) 2) known n).2 i) → M' w 10 = c' → M' w 9 = ((y_L (v_of M) (er_of M) (fun i => M (er_of M i) 0) (fun i => M (er_of M i) 1) (fun i => M (er_of M i) 2) known n day).length : Int) → (∀ j : Nat, j < (y_L (v_of M) (er_of M) (fun i => M (er_of M i) 0) (fun i => M (er_of M i) 1) (fun i => M (er_of M i) 2) known n day).length → M' (w + 27) j = v_at (y_L (v_of M) (er_of M) (fun i => M (er_of M i) 0) (fun i => M (er_of M i) 1) (fun i => M (er_of M i) 2) known n day) j) → M' w 12 = day ∧ M' w 13 = known ∧ M' w 14 = n → z_all M M' w → Q w M') : WX11_viewOf w day known M Q := by
  obtain ⟨⟨n0, n150⟩, e7, he⟩ := hE
  have hw' := hw
  unfold a_w at hw'
  have yT := y_x_T (cm := fun i => M (er_of M i) 0) (od := fun i => M (er_of M i) 1) (tg := fun i => M (er_of M i) 2) (known := known) n0 ht
  generalize hcm : (fun i => M (er_of M i) 0 : Nat → Int) = cm at *
  generalize hod : (fun i => M (er_of M i) 1 : Nat → Int) = od at *
  generalize htg : (fun i => M (er_of M i) 2 : Nat → Int) = tg at *
  have ecm : ∀ i, M (er_of M i) 0 = cm i := fun i => by rw [← hcm]
  have eod : ∀ i, M (er_of M i) 1 = od i := fun i => by rw [← hod]
  have etg : ∀ i, M (er_of M i) 2 = tg i := fun i => by rw [← htg]
  have go : ¬ (M w 12 = day ∧ M w 13 = known ∧ M w 14 = n) → WX10_begin w day known n M (fun M2 => WX10_weighOrders w 2 M2 (fun M3 => WX10_lineUp w 2 M3 (fun M4 => ∃ j, WX11_viewOf_44 Q j w day 0 M4))) := by
    intro nk
    replace q2 := q2 nk
    refine k_begin h (fun M1 a1 a2 a3 a4 a5 => ?_)
    obtain ⟨b12, b13, b14, b10, b9⟩ := a3
    have emin : e_min n 150 = n := by rw [s_min, if_neg (by omega)]
    rw [emin] at b14
    have z1 : z_all M M1 w := fun b c1 c2 => a5 b (by omega) (by omega) (by omega)
    have dz1 : ∀ i : Nat, (i : Int) < n → (∀ k, M1 (er_of M i) k = M (er_of M i) k) := fun i hi k => by rw [(z_d z1 (he i hi).2.1).2.1]
    have c2' : M1 2 = M 2 := z1 2 (by omega) (by omega)
    have ve : ∀ k i : Nat, (i : Int) < n → v_e M1 k i = M (er_of M i) k := fun k i hi => by
      show M1 (M1 2 i).toNat k = _
      rw [c2']; exact dz1 i hi k
    refine k_weigh (w := w) (M := M1) (by rw [b14]; exact ⟨n0, n150⟩) (by omega) (fun i hi => ?_) (fun M2 d1 d2 d3 => ?_)
    · rw [b14] at hi
      have hh := he i hi
      have had := hh.2.1
      unfold a_d er_of at had
      refine ⟨fun k => ?_, by rw [ve 2 i hi]; exact hh.2.2.2.1⟩
      by_cases ck : 1 < k
      · exact Or.inr ck
      · refine Or.inl (fun z => ?_)
        rw [c2'] at z
        omega
    -- fates and tellers are the VIEW's
    have ex : x_eqn n.toNat (v_dn (v_e M1 1) (v_e M1 2) (M1 w 14).toNat (v_f0 (v_e M1 0) (v_e M1 1) (M1 w 13) (M1 w 14) (M1 (w + 25)), v_t0 (M1 w 14) (M1 (w + 26)))) (y_x cm od tg known n) := by
      rw [b14, b13]
      have step : ∀ k, k ≤ n.toNat → ∀ x y, x_eqn n.toNat x y → x_eqn n.toNat (v_dn (v_e M1 1) (v_e M1 2) k x) (v_dn od tg k y) := by
        intro k
        induction k with
        | zero => exact fun _ x y h => h
        | succ k ih =>
          intro hk x y hxy
          refine ih (by omega) _ _ ?_
          have e1 : v_st (v_e M1 1) (v_e M1 2) k x = v_st od tg k x := by
            unfold v_st
            rw [ve 1 k (by omega), ve 2 k (by omega), eod, etg]
            by_cases c : x.1 k ≠ 23 ∨ tg k - 1 < 0 ∨ (k : Int) ≤ tg k - 1
            · rw [if_pos c, if_pos c]
            · rw [if_neg c, if_neg c, ve 1 (tg k - 1).toNat (by omega), eod]
          rw [e1]
          exact v_st_eqn (by omega) hxy
      refine step n.toNat (Nat.le_refl _) _ _ (fun i hi => ⟨?_, ?_⟩)
      · show v_f0 _ _ _ _ _ i = v_f0 cm od known n (fun _ => 0) i
        have hi' : (i : Int) < n := by omega
        unfold v_f0
        rw [if_pos hi', if_pos hi', ve 0 i hi', ve 1 i hi', ecm, eod]
      · show v_t0 _ _ i = v_t0 n (fun _ => 0) i
        have hi' : (i : Int) < n := by omega
        unfold v_t0
        rw [if_pos hi', if_pos hi']
    have eF : ∀ i : Nat, (i : Int) < n → M2 (w + 25) i = (y_x cm od tg known n).1 i ∧ M2 (w + 26) i = (y_x cm od tg known n).2 i := fun i hi => by
      rw [d1, d2]; exact ex i (by omega)
    have z2 : z_all M M2 w := fun b c1 c2 => by rw [d3 b (by omega) (by omega)]; exact z1 b c1 c2
    have k2 : M2 w = M1 w := d3 w (by omega) (by omega)
    have c22 : M2 2 = M 2 := z2 2 (by omega) (by omega)
    refine k_line (w := w) (M := M2) (by rw [k2, b14]; exact ⟨n0, n150⟩) (by omega) (by rw [k2]; exact b9) (fun i hi => ?_) (fun i hi => ?_) (fun M3 l1 l2 l3 l4 l5 l6 => ?_)
    · rw [k2, b14] at hi
      have hh := he i hi
      have had := hh.2.1
      unfold a_d er_of at had
      rw [c22]
      omega
    · rw [k2, b14] at hi ⊢
      rw [(eF i hi).2]
      exact (yT i hi).1
    rw [k2, b12, b14] at l1 l2 l3
    -- the line is the VIEW's
    have eD : ∀ y : Int, 0 ≤ y → y < (n.toNat : Int) → v_day M2 w y = y_D (v_of M) (er_of M) (y_x cm od tg known n).2 y := fun y y0 yn => by
      have hy := (yT y.toNat (by omega)).1
      have hee := he ((y_x cm od tg known n).2 y.toNat).toNat (by omega)
      show v_e M2 4 (M2 (w + 26) y.toNat).toNat = M (er_of M ((y_x cm od tg known n).2 y.toNat).toNat) 4
      rw [(eF y.toNat (by omega)).2]
      show M2 (M2 2 _).toNat 4 = _
      rw [c22]
      exact congrFun (z_d z2 hee.2.1).2.1 4
    have eL : v_ln (v_day M2 w) (M2 (w + 25)) day n.toNat = y_L (v_of M) (er_of M) cm od tg known n day := v_ln_eqn (n := n.toNat) eD (fun i hi => (eF i (by omega)).1) (Nat.le_refl _)
    rw [eL] at l2 l3
    have eF1 : ∀ i : Nat, (i : Int) < n → M3 (w + 25) i = v_f1 (y_D (v_of M) (er_of M) (y_x cm od tg known n).2) day n (y_x cm od tg known n).1 i := fun i hi => by
      rw [l1]
      unfold v_f1
      rw [(eF i hi).1, eD i (by omega) (by omega)]
    unfold y_run at q2
    unfold y_L at q2 l2 l3
    have lnm : ∀ y ∈ v_ln (y_D (v_of M) (er_of M) (y_x cm od tg known n).2) (y_x cm od tg known n).1 day n.toNat, (0 ≤ y ∧ y < n) ∧ (y_x cm od tg known n).1 y.toNat = 0 ∧ y_D (v_of M) (er_of M) (y_x cm od tg known n).2 y ≤ day := fun y hy => by
      have a := v_ln_mem hy
      exact ⟨by omega, v_ln_mem2 hy⟩
    have srt : v_srt (y_D (v_of M) (er_of M) (y_x cm od tg known n).2) (v_ln (y_D (v_of M) (er_of M) (y_x cm od tg known n).2) (y_x cm od tg known n).1 day n.toNat) := v_ln_srt
    have llen := v_ln_len (D := y_D (v_of M) (er_of M) (y_x cm od tg known n).2) (F := (y_x cm od tg known n).1) (day := day) (n := n.toNat)
    have eDT : ∀ y : Int, (v_of M (er_of M ((y_x cm od tg known n).2 y.toNat).toNat)).1 4 = y_D (v_of M) (er_of M) (y_x cm od tg known n).2 y := fun y => rfl
    generalize hDD : y_D (v_of M) (er_of M) (y_x cm od tg known n).2 = D at *
    generalize hT : (y_x cm od tg known n).2 = T at *
    generalize hFF : (y_x cm od tg known n).1 = F at *
    generalize hLL : v_ln D F day n.toNat = L at *
    have eT3 : ∀ i : Nat, (i : Int) < n → M3 (w + 26) i = T i := fun i hi => by rw [l6 (w + 26) (by omega) (by omega) (by omega) (by omega)]; exact (eF i hi).2
    have z3 : z_all M M3 w := fun b c1 c2 => by rw [l6 b (by omega) (by omega) (by omega) (by omega)]; exact z2 b c1 c2
    have h27 : ∀ j : Nat, j < L.length → M3 (w + 27) j = v_at L j := fun j hj => by
      have e := s_ar_get (f := M3 (w + 27)) (n := M3 w 9) (i := j) (by rw [l3]; omega)
      rw [l2] at e
      unfold v_at
      rw [e]; rfl
    have w3 := w_out (M := M1) (N := M3) a1 (fun b c1 c2 c3 => by rw [l6 b (by omega) (by omega) (by omega) (by omega)]; exact d3 b (by omega) (by omega)) (by rw [l5 11 (by omega), k2])
    have kk : ∀ k, k ≠ 9 → M3 w k = M1 w k := fun k hk => by rw [l5 k hk, k2]
    -- the DEEDS one after another
    refine s_up (σ := e_M) (P := fun dd i N => WX11_viewOf_44 Q dd w day i N) (n := (L.length : Int)) (i0 := 0) (s := M3) (fun i N => ∃ (k : Nat) (S : w_S) (F2 : Nat → Int) (c : Int), i = k ∧ w_ok N w ∧ w_of N w = S ∧ I ((k : Int) + 1) S ∧ S.2.2.2 ≤ day ∧ (∀ j : Nat, j < L.length → k ≤ j → S.2.2.2 ≤ D (v_at L j)) ∧ (∀ i : Nat, (i : Int) < n → N (w + 25) i = F2 i) ∧ N w 10 = c ∧ (0 ≤ c ∧ c ≤ k) ∧ (N (w + 26) = M3 (w + 26) ∧ N (w + 27) = M3 (w + 27) ∧ N (w + 28) = M3 (w + 28)) ∧ (∀ k, k ≠ 10 → k ≠ 11 → N w k = M3 w k) ∧ z_all M N w ∧ ∀ S' F' c', v_run (v_of M) ((L.drop k).map (fun y => (er_of M (T y.toNat).toNat, y.toNat))) ((k : Int) + 1) S F2 c S' F' c' → v_run (v_of M) (L.map (fun y => (er_of M (T y.toNat).toNat, y.toNat))) 1 (w_0 (w_of M w) ((M (w + 12) 11).toNat)) (v_f1 D day n F) 0 S' F' c') (by omega) ⟨0, w_0 (w_of M w) ((M (w + 12) 11).toNat), v_f1 D day n F, 0, rfl, w3.1, by rw [w3.2]; exact a2, h0, by show (0 : Int) ≤ day; omega, fun j hj _ => ?_, eF1, by rw [kk 10 (by omega)]; exact b10, by omega, ⟨rfl, rfl, rfl⟩, fun _ _ _ => rfl, z3, fun S' F' c' hr => hr⟩ ?_ ?_
    · have a := lnm _ (v_at_mem hj)
      have hy := (yT (v_at L j).toNat (by omega))
      have hv := ((he (T (v_at L j).toNat).toNat (by omega)).2.2.2.2 (hy.2 a.2.1)).2.2.2.1.1.1
      rw [eDT] at hv
      exact hv
    · intro d0 N ⟨k, S, F2, c, ek, n1, n2, n3, n4, n5, n6, n7, n8, n9, n10, n11, n12⟩
      have kL : k = L.length := by omega
      unfold WX11_viewOf_44 VX11_viewOf_44
      rw [n10 9 (by omega) (by omega), l3]
      refine ⟨fun _ N1 e1 => ?_, fun z => by omega⟩
      obtain ⟨v1, v2⟩ := w_day n1 (N := N1) (fun b b1 b2 => by rw [e1, e_up_row (by omega)])
      have e11 : N1 w 11 = day := by rw [e1, e_up_eq]
      rw [n2, e11] at v2
      have g1 : ∀ j, j ≠ 11 → N1 w j = N w j := fun j hj => by rw [e1, e_up_ne (fun z => hj z.2)]
      have f1 : ∀ b, b ≠ w → N1 b = N b := fun b hb => by rw [e1, e_up_row hb]
      rw [kL, List.drop_length] at n12
      refine q2 N1 S F2 c (n12 S F2 c ⟨rfl, rfl, rfl⟩) v1 v2 (fun i hi => ⟨by rw [f1 (w + 25) (by omega)]; exact n6 i hi, by rw [f1 (w + 26) (by omega), n9.1]; exact eT3 i hi⟩) (by rw [g1 10 (by omega)]; exact n7) (by rw [g1 9 (by omega), n10 9 (by omega) (by omega)]; exact l3) (fun j hj => by rw [f1 (w + 27) (by omega), n9.2.1]; exact h27 j hj) ⟨by rw [g1 12 (by omega), n10 12 (by omega) (by omega), kk 12 (by omega)]; exact b12, by rw [g1 13 (by omega), n10 13 (by omega) (by omega), kk 13 (by omega)]; exact b13, by rw [g1 14 (by omega), n10 14 (by omega) (by omega), kk 14 (by omega)]; exact b14⟩ (fun b c1 c2 => by rw [f1 b (by omega)]; exact n11 b c1 c2)
    · intro d0 i N i1 i2 ⟨k, S, F2, c, ek, n1, n2, n3, n4, n5, n6, n7, n8, n9, n10, n11, n12⟩ ih
      subst ek
      have kl : k < L.length := by omega
      have tk : ((k : Nat) : Int).toNat = k := by omega
      have hm := v_at_mem kl
      have ey : v_at L k = L[k] := by unfold v_at; rw [List.getElem?_eq_getElem kl]; rfl
      have a := lnm _ hm
      have h27k := h27 k kl
      have nx := n5 k kl (Nat.le_refl k)
      rw [List.drop_eq_getElem_cons kl, ← ey] at n12
      have l4k := l4 k (by rw [l3]; omega)
      rw [h27k] at l4k
      have hdj : ∀ j : Nat, j < L.length → k ≤ j → D (v_at L k) ≤ D (v_at L j) := fun j hj hkj => srt k j hkj hj
      generalize v_at L k = y at *
      obtain ⟨e, ee⟩ : ∃ e : Nat, y = e := ⟨y.toNat, by omega⟩
      subst ee
      have te : ((e : Nat) : Int).toNat = e := by omega
      rw [te] at a l4k
      have hy := yT e (by omega)
      have hs := he (T e).toNat (by omega)
      have od2 := hy.2 a.2.1
      have hv := hs.2.2.2.2 od2
      have hUd := hU (T e).toNat (by omega) od2
      have edt := eDT (e : Int)
      rw [te] at edt
      have l4k' : (N (w + 28) k).toNat = er_of M (T e).toNat := by
        rw [n9.2.2, l4k, (eF e (by omega)).2, c22]; rfl
      generalize hd : er_of M (T e).toNat = d at *
      obtain ⟨dz1', dz2, dz3, dz4⟩ := z_d n11 hs.2.1
      have ci := hcls _ _ n3
      unfold WX11_viewOf_44 VX11_viewOf_44
      rw [n10 9 (by omega) (by omega), l3, tk, l4k', s_w (x := (k : Int) + 1) (by omega) (by omega)]
      refine ⟨fun z => by omega, fun _ => ⟨by omega, ?_⟩⟩
      have sz : ∀ s, N (w + 24) s = S.1 s := fun s => by rw [← n2]; rfl
      refine k_perform (V := v_of M) n1 (by rw [n2]; exact ci.1) (by rw [n2]; exact ci.2.1) (by rw [n2]; exact ci.2.2.1) hw hs.2.1 (fun s i s2 s8 hi => by rw [n2]; rw [sz] at hi; exact t_dk_tr (ci.2.2.2.1 s i s2 s8 hi) n11) (fun q hq => by rw [n2]; rw [sz] at hq; exact w_sok_tr (ci.2.2.2.2 q hq) n11) (by rw [dz3]; exact hv) (dz4 hs.2.2.1) dz3.symm (fun s i s2 s8 hi => by
        rw [n2]
        rw [sz] at hi
        exact (z_d n11 (ci.2.2.2.1 s i s2 s8 hi).1).2.2.1.symm) (fun X hX N2 p1 p2 p3 => ?_)
      rw [n2] at hX
      have g2 : ∀ j, j ≠ 11 → N2 w j = N w j := p3.2
      have f2 : ∀ b, b = w + 25 ∨ b = w + 26 ∨ b = w + 27 ∨ b = w + 28 → N2 b = N b := fun b hb => p3.1 b (by omega) (by omega) (by omega) (by omega)
      have o27 : N2 (w + 27) k = (e : Int) := by rw [f2 (w + 27) (by omega), n9.2.1]; exact h27k
      have X4 := X_perf_d hX
      have hIX := hI.2.2 _ S d X n3 hUd hv (by omega) hX
      refine k_settle (at_ := (k : Int)) (out := X.1) (M := N2) (w := w) (by omega) (by rw [tk, o27]; omega) (by rw [g2 10 (by omega), n7]; omega) ?_
      rw [tk, o27, te, g2 10 (by omega), n7]
      -- the fate is written, the count goes on
      have nxt : ∀ (c2 : Int) (N3 : e_M), c2 = (if X.1 = 0 then c + 1 else c) → (∀ b, b ≠ w → b ≠ w + 25 → N3 b = N2 b) → (∀ j, j ≠ 10 → N3 w j = N2 w j) → N3 w 10 = c2 → (∀ j, N3 (w + 25) j = if j = e then X.1 else N2 (w + 25) j) → WX11_viewOf_44 Q d0 w day ((k : Int) + 1) N3 := fun c2 N3 ec2 r1 r2 r3 r4 => by
        have ek1 : ((k + 1 : Nat) : Int) = (k : Int) + 1 := by omega
        obtain ⟨v1, v2⟩ := w_out (N := N3) p1 (fun b b1 b2 b3 => r1 b (by omega) (by omega)) (r2 11 (by omega))
        refine ih N3 ⟨k + 1, X.2, s_fu F2 e X.1, c2, by omega, v1, by rw [v2]; exact p2, by rw [ek1]; exact hIX, by rw [X4]; omega, fun j hj hkj => by rw [X4, edt]; exact hdj j hj (by omega), fun i hi => ?_, r3, by rw [ec2]; split <;> omega, ⟨by rw [r1 _ (by omega) (by omega), f2 _ (by omega)]; exact n9.1, by rw [r1 _ (by omega) (by omega), f2 _ (by omega)]; exact n9.2.1, by rw [r1 _ (by omega) (by omega), f2 _ (by omega)]; exact n9.2.2⟩, fun j j0 j1 => by rw [r2 j j0, g2 j j1]; exact n10 j j0 j1, fun b b1 b2 => by rw [r1 b (by omega) (by omega), p3.1 b (by omega) (by omega) (by omega) b2]; exact n11 b b1 b2, fun S' F' c' hr => n12 S' F' c' ⟨X, by show X_perf (v_of M) S (er_of M (T ((e : Int)).toNat).toNat) ((k : Int) + 1) X; rw [te, hd]; exact hX, by rw [ek1] at hr; show v_run (v_of M) _ ((k : Int) + 1 + 1) X.2 (s_fu F2 ((e : Int)).toNat X.1) _ S' F' c'; rw [te, ← ec2]; exact hr⟩⟩
        rw [r4]
        unfold s_fu
        by_cases ci : i = e
        · rw [if_pos ci, if_pos ci]
        · rw [if_neg ci, if_neg ci, f2 (w + 25) (by omega)]; exact n6 i hi
      by_cases c0 : X.1 = 0
      · rw [if_pos c0]
        generalize hN3 : e_up (e_up N2 (w + 25) e X.1) w 10 (c + 1) = N3
        exact nxt (c + 1) N3 (by rw [if_pos c0]) (fun b b1 b2 => by rw [← hN3, e_up_row b1, e_up_row b2]) (fun j hj => by rw [← hN3, e_up_ne (fun z => hj z.2), e_up_row (by omega)]) (by rw [← hN3, e_up_eq]) (fun j => by rw [← hN3, e_up_row (by omega), e_up_at])
      · rw [if_neg c0]
        generalize hN3 : e_up N2 (w + 25) e X.1 = N3
        exact nxt c N3 (by rw [if_neg c0]) (fun b b1 b2 => by rw [← hN3, e_up_row b2]) (fun j hj => by rw [← hN3, e_up_row (by omega)]) (by rw [← hN3, e_up_row (by omega), g2 10 (by omega)]; exact n7) (fun j => by rw [← hN3, e_up_at])
  unfold WX11_viewOf VX11_viewOf WX10_isOf VX10_isOf
  rw [e7]
  have k0 : ¬ (M w 12 = day ∧ M w 13 = known ∧ M w 14 = n) → ((0 : Int) = 0 → WX10_begin w day known n M (fun M2 => WX10_weighOrders w 2 M2 (fun M3 => WX10_lineUp w 2 M3 (fun M4 => ∃ j, WX11_viewOf_44 Q j w day 0 M4)))) ∧ (¬ (0 : Int) = 0 → Q w M) := fun nk => ⟨fun _ => go nk, fun z => absurd rfl z⟩
  exact ⟨fun ne => k0 (fun z => ne z.1), fun e => ⟨fun ne => k0 (fun z => ne z.2.1), fun e2 => ⟨fun ne => k0 (fun z => ne z.2.2), fun e3 => ⟨fun z => by omega, fun _ => q1 e e2 e3⟩⟩⟩⟩
