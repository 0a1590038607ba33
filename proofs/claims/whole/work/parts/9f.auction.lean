/-! THE MODEL: AUCTION, how the price is shared out -/
theorem w_dels_l {c : Int} : ∀ {ls : List Int} {S : w_S} {k : Nat}, (∀ x ∈ ls, x.toNat ≠ k) → (w_dels S c ls).2.1 k = S.2.1 k
  | [], _, _, _ => rfl
  | x :: ls, S, k, h => by
    show (w_dels (w_chg S x.toNat (r_del (S.2.1 x.toNat).2.2.1 c)) c ls).2.1 k = _
    rw [w_dels_l (fun y hy => h y (List.mem_cons_of_mem _ hy))]
    exact s_fu_ne (fun e => h x List.mem_cons_self e.symm)
theorem w_endc_l {S : w_S} {c k : Nat} (h : ∀ x ∈ (w_t S 2 c).2.1, x.toNat ≠ k) : w_l (w_endc S c) k = w_l S k := w_dels_l (c := (c : Int)) h
theorem m_auc {V : Nat → v_D} {a : Int} {l : Nat} {f made : Int} {Q : Int → e_M → Prop} {M0 : e_M} {R : w_S} (hf : 0 ≤ f) (hq : ∀ M', R_all M' V R a → I_C R → w_am R → j_keep M0 M' → (∀ t, ((n_of M').2.1 t).1 1 = ((n_of M0).2.1 t).1 1) → ∃ j, WX12_auction_230 Q j l made 0 M') : ∀ (k : Nat) (S : w_S) (M : e_M) (left : Int), R_all M V S a → (l : Int) < S.1 0 → I_C S → w_am S → (w_l S l).1 1 = 0 → 0 ≤ left ∧ left ≤ 999999 → ((w_l S l).2.2.1.length : Int) ≤ f + k → w_auc l f.toNat k S left = R → j_keep M0 M → (∀ t, ((n_of M).2.1 t).1 1 = ((n_of M0).2.1 t).1 1) → WX12_auction_135 Q (k + 1) l f left made M := by
  intro k
  induction k with
  | zero =>
    intro S M left h hl hC ham hg hL hlen hR kp km
    obtain ⟨hn, hc, hRR, hz, hrg, hd⟩ := id h
    have l80 := R_mx hz (show 0 < 7 by omega) hl
    have jl := j_row_len (c := 4500) (hn.2.2.1 l l80).2.1
    rw [(R_lo hRR hz hl).2.1] at jl
    have eR : R = S := by rw [← hR]; rfl
    subst eR
    unfold WX12_auction_135 VX12_auction_135
    rw [show ((l : Nat) : Int).toNat = l by omega]
    exact ⟨by omega, fun _ => hq M h hC ham kp km, fun z => by omega⟩
  | succ k ih =>
    intro S M left h hl hC ham hg hL hlen hR kp km
    obtain ⟨hn, hc, hRR, hz, hrg, hd⟩ := id h
    have l80 := R_mx hz (show 0 < 7 by omega) hl
    have jk := (hn.2.2.1 l l80).2.1
    have jl := j_row_len (c := 4500) jk
    have ej := (R_lo hRR hz hl).2.1
    rw [ej] at jl
    obtain ⟨j0, j8⟩ := id jk
    unfold WX12_auction_135 VX12_auction_135
    rw [show ((l : Nat) : Int).toNat = l by omega, s_w (x := 8 * (l : Int)) (by omega) (by omega)]
    refine ⟨by omega, fun le => ?_, fun lt => ?_⟩
    · have eR : R = S := by
        rw [← hR]
        exact w_auc_stop (by show (w_l S l).2.2.1.length ≤ _; omega)
      subst eR
      exact hq M h hC ham kp km
    · rw [s_w (x := 8 * (l : Int) + f) (by omega) (by omega), show (8 * (l : Int) + f).toNat = 8 * l + f.toNat by omega]
      have hat : (w_l S l).2.2.1[f.toNat]? = some (M 4500 (8 * l + f.toNat)) := by
        rw [← ej]
        exact j_row_at (by omega)
      have hcm := List.mem_of_getElem? hat
      have hcr := (hrg.1 l hl).2.1 _ hcm
      change 0 ≤ _ ∧ _ < S.1 2 at hcr
      have ego := w_auc_go (k := k) (left := left) (show f.toNat < (S.2.1 l).2.2.1.length by show f.toNat < (w_l S l).2.2.1.length; omega) hat
      rw [hR] at ego
      obtain ⟨c, ec⟩ : ∃ c : Nat, M 4500 (8 * l + f.toNat) = c := ⟨(M 4500 (8 * l + f.toNat)).toNat, by omega⟩
      rw [ec] at hcm hcr ego hat
      rw [show ((c : Nat) : Int).toNat = c by omega] at ego
      have c80 := R_mx hz (show 2 < 7 by omega) hcr.2
      have hlr := ((hC.2 l hl hg).2 _ hcm).2
      rw [show ((c : Nat) : Int).toNat = c by omega] at hlr
      have thr := (hC.1 c hcr.2).2.2 (fun z => by rw [z] at hlr; cases hlr)
      have rb := R_rows (s := 2) hRR (by omega) hcr.2 thr
      have e6 := rb.2.1 (Or.inl rfl)
      obtain ⟨-, -, -, -, -, -, c6, -⟩ := n_c (M := M) (t := 80 * 2 + c) (by omega)
      have am := ham c hcr.2
      have mb := e_min_b (a := left) (b := (w_t S 2 c).1 6) hL.1 am.1
      generalize hp : e_min left ((w_t S 2 c).1 6) = part at *
      have tt : (((80 * 2 + c : Nat)) : Int).toNat = 80 * 2 + c := by omega
      refine ⟨by omega, fun y1 f1 => ?_⟩
      rw [ec] at f1
      subst f1
      refine m_idt (t := 80 * 2 + c) (by omega) (by omega) (by omega) ?_
      rw [tt, c6, e6, hp, s_w (x := left - part) (by omega) (by omega), s_w (x := (w_t S 2 c).1 6 - part) (by omega) (by omega)]
      refine ⟨by omega, fun y3 f3 => ⟨by omega, by omega, fun M4 f4 => ?_⟩⟩
      subst f3
      obtain ⟨u1, u2⟩ := N_put6 (M := M) (t := 80 * 2 + c) (v := (w_t S 2 c).1 6 - part) hn (by omega)
      rw [← f4] at u1 u2
      have k4 : j_keep M M4 := j_keep_up f4 (by omega)
      have h4 : R_all M4 V (w_put S (w_F 2 + c) 6 ((w_t S 2 c).1 6 - part)) a := ⟨u1, j_keep_cm hc k4, by rw [u2]; exact R_tput (s := 2) hRR hz (by omega) hcr.2 (Or.inr ⟨rfl, Or.inl rfl⟩), hz, w_rg_put hrg (by omega), hd⟩
      generalize hS2 : w_put S (w_F 2 + c) 6 ((w_t S 2 c).1 6 - part) = S2 at *
      have t2 : ∀ i, w_t S2 2 i = if i = c then (s_fu (w_t S 2 c).1 6 ((w_t S 2 c).1 6 - part), (w_t S 2 c).2) else w_t S 2 i := fun i => by
        rw [← hS2]
        show s_fu S.2.2.1 (w_F 2 + c) _ (w_F 2 + i) = _
        by_cases e : i = c
        · rw [if_pos e, e, s_fu_eq]; rfl
        · rw [if_neg e, s_fu_ne (by omega)]; rfl
      have t2c : w_t S2 2 c = (s_fu (w_t S 2 c).1 6 ((w_t S 2 c).1 6 - part), (w_t S 2 c).2) := by rw [t2, if_pos rfl]
      have z2 : S2.1 = S.1 := by rw [← hS2]; rfl
      have d2 : S2.2.2.2 = S.2.2.2 := by rw [← hS2]; rfl
      have l2 : w_l S2 l = w_l S l := by rw [← hS2]; rfl
      have hC2 : I_C S2 := I_C_congr hC z2 (by rw [← hS2]; rfl) (fun i => by
        rw [t2]
        by_cases e : i = c
        · rw [if_pos e, e]
        · rw [if_neg e]) (fun i hi hne t => by
        rw [w_thr2] at t ⊢
        rw [t2, d2]
        by_cases e : i = c
        · rw [if_pos e]; rw [e] at t; exact t
        · rw [if_neg e]; exact t)
      have am2 : w_am S2 := fun i hi => by
        have hi' : (i : Int) < S.1 2 := by rw [← z2]; exact hi
        rw [t2]
        by_cases e : i = c
        · rw [if_pos e]
          show 0 ≤ s_fu (w_t S 2 c).1 6 ((w_t S 2 c).1 6 - part) 6 ∧ s_fu (w_t S 2 c).1 6 ((w_t S 2 c).1 6 - part) 6 ≤ 999999
          rw [s_fu_eq]; omega
        · rw [if_neg e]; exact ham i hi'
      have thr2 : w_thr S2 2 c = true := by
        rw [w_thr2] at thr ⊢
        rw [t2c, d2]; exact thr
      have hl2 : (l : Int) < S2.1 0 := by rw [z2]; exact hl
      have hc2 : (c : Int) < S2.1 2 := by rw [z2]; exact hcr.2
      have hlr2 : (l : Int) ∈ (w_t S2 2 c).2.1 := by rw [t2c]; exact hlr
      have row5 : ∀ X : w_S, w_l X l = w_l (w_free S2 l c) l → ((w_l X l).2.2.1.length : Int) ≤ f + k := fun X e => by
        rw [e, w_free_l, if_pos rfl]
        show ((r_del (w_l S2 l).2.2.1 c).length : Int) ≤ _
        rw [l2, r_del_len, if_pos hcm]; omega
      refine m_offCharge h4 hc2 hl2 thr2 (by rw [l2]; exact hcm) hlr2 (fun M5 p1 p2 p3 p4 => ⟨by omega, ?_⟩)
      have s5 : M5 4490 (80 * 2 + c) = (w_t S 2 c).1 6 - part := by
        obtain ⟨-, -, -, -, -, -, x6, -⟩ := n_c (M := M5) (t := 80 * 2 + c) (by omega)
        rw [x6, p4 _ 6 (by omega), u2]
        show ((n_put (n_of M) (80 * 2 + c) 6 _).2.1 (80 * 2 + c)).1 6 = _
        unfold n_put
        rw [n_setT_at]
        show s_fu ((n_of M).2.1 (80 * 2 + c)).1 6 ((w_t S 2 c).1 6 - part) 6 = _
        rw [s_fu_eq]
      rw [s5]
      have hC5 := I_C_free (l := l) hC2 hc2 hlr2
      have am5 : w_am (w_free S2 l c) := w_am_free am2
      have g5 : (w_l (w_free S2 l c) l).1 1 = 0 := by rw [w_free_l, if_pos rfl, l2]; exact hg
      have kp5 := j_keep_trans (j_keep_trans kp k4) p2
      have km5 : ∀ t, ((n_of M5).2.1 t).1 1 = ((n_of M0).2.1 t).1 1 := fun t => by
        rw [p4 t 1 (by omega), u2, n_put_1 (by omega)]; exact km t
      refine ⟨fun ne => ?_, fun e => ?_⟩
      · rw [if_neg ne] at ego
        unfold WX12_auction_224 VX12_auction_224
        exact ih (w_free S2 l c) M5 (left - part) p1 (by rw [w_free_z]; exact hl2) hC5 am5 g5 (by omega) (row5 _ rfl) ego.symm kp5 km5
      · rw [if_pos e] at ego
        have hc5 : (c : Int) < (w_free S2 l c).1 2 := by rw [w_free_z]; exact hc2
        refine m_endCharge p1 hc5 (hC5.1 c hc5) (by rw [p3, w_free_t, if_pos rfl]; rfl) (fun M6 o1 o2 o3 => ?_)
        unfold WX12_auction_224 VX12_auction_224
        have hC6 := I_C_endc (n := _) rfl hC5 hc5
        have l6 : w_l (w_endc (w_free S2 l c) c) l = w_l (w_free S2 l c) l := w_endc_l (fun x hx e => by
          rw [w_free_t, if_pos rfl] at hx
          change x ∈ r_del (w_t S2 2 c).2.1 l at hx
          have b := (hC2.1 c hc2).2.1 x (r_del_sub hx)
          exact r_del_gone (hC2.1 c hc2).1 (by rw [show x = (l : Int) by omega] at hx; exact hx))
        exact ih (w_endc (w_free S2 l c) c) M6 (left - part) o1 (by rw [w_endc_z, w_free_z]; exact hl2) hC6 (w_am_endc am5) (by rw [l6]; exact g5) (by omega) (row5 _ l6) ego.symm (j_keep_trans kp5 o2) (fun t => (o3 t 1 (by omega)).trans (km5 t))
