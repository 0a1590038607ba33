/-! Acts: border -/
theorem g_eg_lp {E : List g_E} (h : ∀ e ∈ E, s_lp e.1 ∧ s_lp e.2) (i : Nat) : s_lp (g_eg E i).1 ∧ s_lp (g_eg E i).2 := by
  unfold g_eg
  cases e : E[i]? with
  | none => show s_lp (0, 0) ∧ s_lp (0, 0); unfold s_lp; dsimp only; omega
  | some q => exact h q (List.mem_of_getElem? e)
theorem g_wlk_fb {E : List g_E} {f st : Nat} (h : ∀ e ∈ E, s_lp e.1 ∧ s_lp e.2) : ∀ {n e : Nat} {acc R : s_Fig}, g_wlk E f st n e acc = some R → s_fb acc → s_fb R
  | 0, _, _, _, hw, _ => by cases hw
  | n + 1, e, acc, R, hw, ha => by
    have ha2 : s_fb (acc ++ [(g_eg E e).1]) := by
      intro x hx
      rcases List.mem_append.mp hx with hx | hx
      · exact ha x hx
      · rw [List.mem_singleton.mp hx]; exact (g_eg_lp h e).1
    unfold g_wlk at hw
    split at hw
    · cases hw
    · split at hw
      · split at hw
        · rw [← Option.some.inj hw]; exact ha2
        · cases hw
      · exact g_wlk_fb h hw ha2
theorem g_jraw_fb {A B R : s_Fig} (hA : s_fb A) (hB : s_fb B) (h : g_jraw A B = some R) : s_fb R := by
  unfold g_jraw at h
  split at h
  · cases h
  · exact g_wlk_fb (g_EAB_lp hA hB) h (fun x hx => by cases hx)
/-- what a border moved to is: the whole, its parts -/
def g_bok (A B ps R : s_Fig) : Prop := (g_jraw A B = some R ∧ g_okc R) ∧ g_cut (g_cls R) ps ∧ g_okc (g_rawL (g_cls R) ps) ∧ g_okc (g_rawR (g_cls R) ps)
def t_lost (P : Nat → s_Fig) (one other : Int) (L R : s_Fig) (t : w_T) : Prop := (one ∈ t.2.2 ∧ g_hold L (P (t.1 11).toNat) = false) ∨ (other ∈ t.2.2 ∧ g_hold R (P (t.1 11).toNat) = false)
def w_lost (P : Nat → s_Fig) (S : w_S) (one other : Int) (L R : s_Fig) : Prop := ∃ i : Nat, (i : Int) < w_z S 3 ∧ w_thr S 3 i = true ∧ t_lost P one other L R (w_t S 3 i)
theorem k_border123 {M : e_M} {w d i1 i2 : Nat} {at_ one other : Int} {Q : Int → e_M → Prop} (h : w_ok M w) (hw : a_w w) (cx : a_cx M w d at_) (hk : w_dk M w) (hi1 : i1 < 80) (hi2 : i2 < 80) (kL : s_fok M 4427) (kR : s_fok M 4430) (bL : s_fb (s_fig M 4427)) (bR : s_fb (s_fig M 4430)) (q5 : w_lost (s_dps M) (w_of M w) one other (s_fig M 4427) (s_fig M 4430) → Q 5 M) (q0 : ¬ w_lost (s_dps M) (w_of M w) one other (s_fig M 4427) (s_fig M 4430) → ∀ M', w_ok M' w → w_of M' w = w_fgs (w_fgs (w_of M w) i1 (s_fig M 4427)) i2 (s_fig M 4430) → w_fr M M' w → Q 0 M') : ∃ j, WX0_moveBorder_123 Q j one other (w_al w i1) (w_al w i2) 0 M := by
  have hz := w_zb h (show 3 < 8 by omega)
  have hw' := hw
  unfold a_w at hw'
  have a1 : w_al w i1 = w + 29 + 9 * i1 := rfl
  have a2 : w_al w i2 = w + 29 + 9 * i2 := rfl
  have hm : w_mx 3 = 40 := rfl
  refine s_up (σ := e_M) (P := fun dd i N => WX0_moveBorder_123 Q dd one other (w_al w i1) (w_al w i2) i N) (n := M (w + 24) 3) (i0 := 0) (s := M) (fun i N => N = M ∧ ∀ j : Nat, (j : Int) < i → ¬ (w_thr (w_of M w) 3 j = true ∧ t_lost (s_dps M) one other (s_fig M 4427) (s_fig M 4430) (w_t (w_of M w) 3 j))) hz.1 ⟨rfl, fun j hj => by omega⟩ ?_ ?_
  · intro d2 N ⟨e, hj⟩
    subst e
    unfold WX0_moveBorder_123 VX0_moveBorder_123
    rw [cx.1, show (3 : Int).toNat = 3 from rfl]
    refine ⟨by omega, fun _ => c_fcopy (by omega) kL (fun A b1 b2 b3 b4 => ?_), fun z => absurd z (Int.lt_irrefl _)⟩
    obtain ⟨u1, u2, u3⟩ := k_fgs h hi1 b1 b2 b4
    have cA : ∀ b, 4430 ≤ b → A b = N b := fun b hb => u3 b (by omega) (by omega)
    refine c_fcopy (by omega) (by unfold s_fok; rw [cA 4430 (by omega)]; exact kR) (fun B c1 c2 c3 c4 => ?_)
    have fA : s_fig A 4430 = s_fig N 4430 := s_fig_congr (by rw [cA 4430 (by omega)]) (cA 4431 (by omega)) (cA 4432 (by omega))
    rw [fA] at c1
    obtain ⟨v1, v2, v3⟩ := k_fgs u1 hi2 c1 c2 c4
    exact q0 (fun ⟨i, z1, z2, z3⟩ => hj i z1 ⟨z2, z3⟩) B v1 (by rw [v2, u2]) (w_fr_trans u3 v3)
  · intro d2 i N k1 k2 ⟨e, hj⟩ ih
    subst e
    have hin := w_in (s := 3) (i := i.toNat) h (by omega) (by omega)
    have tr := w_t_row (M := N) (w := w) hin
    have rf := w_ref h hin
    have tk := (h.2.2.2 _ hin).1.2
    have dk := hk 3 i.toNat (by omega) (by omega) (by omega)
    unfold t_dk at dk
    rw [w_t_k hin] at dk
    have nxt : ¬ (w_thr (w_of N w) 3 i.toNat = true ∧ t_lost (s_dps N) one other (s_fig N 4427) (s_fig N 4430) (w_t (w_of N w) 3 i.toNat)) → WX0_moveBorder_238 (WX0_moveBorder_123 Q d2) Q one other (w_al w i1) (w_al w i2) i N := by
      intro ne
      show WX0_moveBorder_123 Q d2 one other (w_al w i1) (w_al w i2) (e_w32 (i + 1)) N
      rw [s_w (by omega) (by omega)]
      refine ih N ⟨rfl, fun j hj2 => ?_⟩
      by_cases c : (j : Int) = i
      · rw [show j = i.toNat by omega]; exact ne
      · exact hj j (by omega)
    have bad : w_thr (w_of N w) 3 i.toNat = true → t_lost (s_dps N) one other (s_fig N 4427) (s_fig N 4430) (w_t (w_of N w) 3 i.toNat) → Q 5 N := fun t l => q5 ⟨i.toNat, by show (i.toNat : Int) < N (w + 24) 3; omega, t, l⟩
    unfold t_lost at nxt bad
    rw [tr.2, w_t_k hin] at nxt bad
    have k214 : ∀ f : Int, (f = 0 → ¬ ((one ∈ s_row N (w_at w (w_F 3 + i.toNat) + 3) ∧ g_hold (s_fig N 4427) (s_dps N (N (w_at w (w_F 3 + i.toNat)) 11).toNat) = false) ∨ (other ∈ s_row N (w_at w (w_F 3 + i.toNat) + 3) ∧ g_hold (s_fig N 4430) (s_dps N (N (w_at w (w_F 3 + i.toNat)) 11).toNat) = false))) → (f ≠ 0 → ((one ∈ s_row N (w_at w (w_F 3 + i.toNat) + 3) ∧ g_hold (s_fig N 4427) (s_dps N (N (w_at w (w_F 3 + i.toNat)) 11).toNat) = false) ∨ (other ∈ s_row N (w_at w (w_F 3 + i.toNat) + 3) ∧ g_hold (s_fig N 4430) (s_dps N (N (w_at w (w_F 3 + i.toNat)) 11).toNat) = false))) → WX0_moveBorder_214 (WX0_moveBorder_123 Q d2) Q one other (w_al w i1) (w_al w i2) i (w_at w (w_F 3 + i.toNat)) f N := by
      intro f f0 f1
      unfold WX0_moveBorder_214 VX0_moveBorder_214
      rw [cx.1]
      exact ⟨fun e => nxt (fun c => f0 e c.2), fun ne => k_thr_t h (by omega) (by omega) (fun t => ⟨fun z => by omega, fun _ => bad t (f1 ne)⟩) (fun t => ⟨fun _ => nxt (fun c => by rw [t] at c; cases c.1), fun z => absurd rfl z⟩)⟩
    have k179 : ¬ (one ∈ s_row N (w_at w (w_F 3 + i.toNat) + 3) ∧ g_hold (s_fig N 4427) (s_dps N (N (w_at w (w_F 3 + i.toNat)) 11).toNat) = false) → WX0_moveBorder_179 (WX0_moveBorder_123 Q d2) Q one other (w_al w i1) (w_al w i2) i (w_at w (w_F 3 + i.toNat)) N := by
      intro ne
      unfold WX0_moveBorder_179 VX0_moveBorder_179
      rw [rf.2]
      refine c_has tk (fun m => ⟨fun z => by omega, fun _ => c_hold kR bR dk.2.1 dk.2.2 (fun e => ⟨fun _ => ?_, fun z => by omega⟩) (fun e => ⟨fun z => absurd rfl z, fun _ => ?_⟩)⟩) (fun m => ⟨fun _ => ?_, fun z => absurd rfl z⟩)
      · show WX0_moveBorder_214 _ Q one other _ _ i _ 0 N
        exact k214 0 (fun _ c => c.elim ne (fun y => by rw [e] at y; cases y.2)) (fun z => absurd rfl z)
      · show WX0_moveBorder_214 _ Q one other _ _ i _ 1 N
        exact k214 1 (fun z => by omega) (fun _ => Or.inr ⟨m, e⟩)
      · show WX0_moveBorder_214 _ Q one other _ _ i _ 0 N
        exact k214 0 (fun _ c => c.elim ne (fun y => m y.1)) (fun z => absurd rfl z)
    unfold WX0_moveBorder_123 VX0_moveBorder_123
    rw [cx.1, show (3 : Int).toNat = 3 from rfl]
    refine ⟨by omega, fun z => absurd k2 (Int.not_lt.mpr z), fun _ => k_at h (by omega) k1 k2 ?_⟩
    rw [show (3 : Int).toNat = 3 from rfl, rf.2]
    refine c_has tk (fun m => ⟨fun z => by omega, fun _ => c_hold kL bL dk.2.1 dk.2.2 (fun e => ⟨fun z => by omega, fun _ => k179 (fun y => by rw [e] at y; cases y.2)⟩) (fun e => ⟨fun _ => ?_, fun z => absurd rfl z⟩)⟩) (fun m => ⟨fun _ => k179 (fun y => m y.1), fun z => absurd rfl z⟩)
    show WX0_moveBorder_214 _ Q one other _ _ i _ 1 N
    exact k214 1 (fun z => by omega) (fun _ => Or.inl ⟨m, e⟩)
theorem k_border {M : e_M} {w d : Nat} {at_ : Int} {Q : Int → e_M → Prop} (h : w_ok M w) (hr : w_rg (w_of M w)) (hw : a_w w) (cx : a_cx M w d at_) (hd : a_d w d) (hdo : s_dok M d) (hpb : s_pb (s_dps M d)) (hk : w_dk M w) (h0 : 0 ≤ M 4425 0 ∧ M 4425 0 < M (w + 24) 0) (h1 : 0 ≤ M 4425 1 ∧ M 4425 1 < M (w + 24) 0)
    (q1 : M 4425 0 = M 4425 1 → a_q M w Q 1 (w_of M w))
    (q2 : M 4425 0 ≠ M 4425 1 → ¬ (w_oab (w_of M w) (M 4425 0).toNat ∧ w_oab (w_of M w) (M 4425 1).toNat) → a_q M w Q 2 (w_of M w))
    (q4 : M 4425 0 ≠ M 4425 1 → (w_oab (w_of M w) (M 4425 0).toNat ∧ w_oab (w_of M w) (M 4425 1).toNat) → (w_bar (w_of M w) (M 4425 0) (-1) ∨ w_bar (w_of M w) (M 4425 1) (-1)) → a_q M w Q 4 (w_of M w))
    (q3 : M 4425 0 ≠ M 4425 1 → (w_oab (w_of M w) (M 4425 0).toNat ∧ w_oab (w_of M w) (M 4425 1).toNat) → ¬ (w_bar (w_of M w) (M 4425 0) (-1) ∨ w_bar (w_of M w) (M 4425 1) (-1)) → (∀ R, ¬ g_bok (w_l (w_of M w) (M 4425 0).toNat).2.1 (w_l (w_of M w) (M 4425 1).toNat).2.1 (s_dps M d) R) → a_q M w Q 3 (w_of M w))
    (q5 : M 4425 0 ≠ M 4425 1 → (w_oab (w_of M w) (M 4425 0).toNat ∧ w_oab (w_of M w) (M 4425 1).toNat) → ¬ (w_bar (w_of M w) (M 4425 0) (-1) ∨ w_bar (w_of M w) (M 4425 1) (-1)) → ∀ R, g_bok (w_l (w_of M w) (M 4425 0).toNat).2.1 (w_l (w_of M w) (M 4425 1).toNat).2.1 (s_dps M d) R → w_lost (s_dps M) (w_of M w) (M 4425 0) (M 4425 1) (g_cls (g_rawL (g_cls R) (s_dps M d))) (g_cls (g_rawR (g_cls R) (s_dps M d))) → a_q M w Q 5 (w_of M w))
    (qd : M 4425 0 ≠ M 4425 1 → (w_oab (w_of M w) (M 4425 0).toNat ∧ w_oab (w_of M w) (M 4425 1).toNat) → ¬ (w_bar (w_of M w) (M 4425 0) (-1) ∨ w_bar (w_of M w) (M 4425 1) (-1)) → ∀ R, g_bok (w_l (w_of M w) (M 4425 0).toNat).2.1 (w_l (w_of M w) (M 4425 1).toNat).2.1 (s_dps M d) R → ¬ w_lost (s_dps M) (w_of M w) (M 4425 0) (M 4425 1) (g_cls (g_rawL (g_cls R) (s_dps M d))) (g_cls (g_rawR (g_cls R) (s_dps M d))) → a_q M w Q 0 (w_fgs (w_fgs (w_of M w) (M 4425 0).toNat (g_cls (g_rawL (g_cls R) (s_dps M d)))) (M 4425 1).toNat (g_cls (g_rawR (g_cls R) (s_dps M d))))) : WX0_moveBorder M Q := by
  have hi : (M 4425 0).toNat < 80 := w_in0 h (by omega)
  have hj : (M 4425 1).toNat < 80 := w_in0 h (by omega)
  have hw' := hw
  unfold a_w at hw'
  have hd' := hd
  unfold a_d at hd'
  have hfi := (hr.1 (M 4425 0).toNat (by show ((M 4425 0).toNat : Int) < M (w + 24) 0; omega)).1
  have hfj := (hr.1 (M 4425 1).toNat (by show ((M 4425 1).toNat : Int) < M (w + 24) 0; omega)).1
  obtain ⟨ki1, ki2, ki3⟩ := h.2.2.1 _ hi
  obtain ⟨kj1, kj2, kj3⟩ := h.2.2.1 _ hj
  have ei1 : (w_l (w_of M w) (M 4425 0).toNat).2.1 = s_fig M (w_al w (M 4425 0).toNat + 1) := by rw [w_l_e hi]; rfl
  have ej1 : (w_l (w_of M w) (M 4425 1).toNat).2.1 = s_fig M (w_al w (M 4425 1).toNat + 1) := by rw [w_l_e hj]; rfl
  rw [ei1] at hfi
  rw [ej1] at hfj
  have hai : w_al w (M 4425 0).toNat = w + 29 + 9 * (M 4425 0).toNat := rfl
  have haj : w_al w (M 4425 1).toNat = w + 29 + 9 * (M 4425 1).toNat := rfl
  unfold WX0_moveBorder VX0_moveBorder
  rw [cx.1, show (0 : Int).toNat = 0 from rfl, show (1 : Int).toNat = 1 from rfl]
  refine ⟨by omega, by omega, k_lot h h0.1 h0.2 (k_lot h h1.1 h1.2 ⟨fun ne => ?_, fun e => a_q_no h (q1 e)⟩)⟩
  replace q2 := q2 ne
  replace q4 := q4 ne
  replace q5 := q5 ne
  replace q3 := q3 ne
  replace qd := qd ne
  refine k_ownersAble h hr cx h0 (fun a1 => ⟨fun z => by omega, fun _ => k_ownersAble h hr cx h1 (fun a2 => ⟨fun _ => ?_, fun z => by omega⟩) (fun a2 => ⟨fun z => absurd rfl z, fun _ => a_q_no h (q2 (fun c => a2 c.2))⟩)⟩) (fun a1 => ⟨fun _ => a_q_no h (q2 (fun c => a1 c.1)), fun z => absurd rfl z⟩)
  replace q4 := q4 ⟨a1, a2⟩
  replace q5 := q5 ⟨a1, a2⟩
  replace q3 := q3 ⟨a1, a2⟩
  replace qd := qd ⟨a1, a2⟩
  refine k_barred h cx (fun b1 => ⟨fun _ => a_q_no h (q4 (Or.inl b1)), fun z => by omega⟩) (fun b1 => ⟨fun z => absurd rfl z, fun _ => k_barred h cx (fun b2 => ⟨fun z => by omega, fun _ => a_q_no h (q4 (Or.inr b2))⟩) (fun b2 => ⟨fun _ => ?_, fun z => absurd rfl z⟩)⟩)
  have nb : ¬ (w_bar (w_of M w) (M 4425 0) (-1) ∨ w_bar (w_of M w) (M 4425 1) (-1)) := fun c => c.elim b1 b2
  replace q5 := q5 nb
  replace q3 := q3 nb
  replace qd := qd nb
  rw [ei1, ej1] at q5 q3 qd
  have plane : ∀ N : e_M, (∀ c, c < 4426 ∨ 4442 < c → N c = M c) → (w_ok N w ∧ w_of N w = w_of M w) ∧ (a_cx N w d at_ ∧ N 4425 = M 4425 ∧ ∀ k, k ≤ 6 → N (d + k) = M (d + k)) ∧ a_fr M N w := by
    intro N f
    refine ⟨w_same h (fun b b1 b2 => f b (by omega)), ⟨a_cx_congr cx (f _ (by omega)), f _ (by omega), fun k hk6 => f _ (by omega)⟩, fun b b1 b2 b3 => f b (by omega)⟩
  refine c_join ki1 kj1 hfi hfj (by omega) (by omega) (fun R eR oR N nF nK fN => ⟨fun z => by omega, fun _ => ?_⟩) (fun no N fN => ⟨fun _ => ?_, fun z => absurd rfl z⟩)
  case refine_2 =>
    have p := plane N (fun c hc => fN c (by omega))
    exact q3 (fun R c => no R c.1.1 c.1.2) N p.1.1 p.1.2 p.2.2
  obtain ⟨⟨n1, n2⟩, ⟨n3, n4, n5⟩, n6⟩ := plane N (fun c hc => fN c (by omega))
  have hR := g_cls_fb (g_jraw_fb hfi hfj eR)
  have dN := s_dd_congr n5
  rw [n3.2.1]
  have q3' : ∀ N' : e_M, (∀ c, c < 4426 ∨ 4442 < c → N' c = M c) → ¬ (g_cut (g_cls R) (s_dps M d) ∧ g_okc (g_rawL (g_cls R) (s_dps M d)) ∧ g_okc (g_rawR (g_cls R) (s_dps M d))) → Q 3 N' := fun N' f no => q3 (fun R' c => by
    have : R' = R := by have := c.1.1; rw [eR] at this; exact (Option.some.inj this).symm
    rw [this] at c
    exact no c.2) N' (plane N' f).1.1 (plane N' f).1.2 (plane N' f).2.2
  refine c_cut nK (by rw [nF]; exact hR) (fun k hk2 => Or.inr (by omega)) (dN.2.2.2.2 hdo) (by omega) (by rw [dN.2.2.2.1]; exact hpb) (fun ct oL oR2 A aL kL aR kR fA => ⟨fun _ => ?_, fun z => by omega⟩) (fun no A fA => ⟨fun z => absurd rfl z, fun _ => q3' A (fun c hc => by rw [fA c (by omega), fN c (by omega)]) (by rw [nF, dN.2.2.2.1] at no; exact no)⟩)
  rw [nF, dN.2.2.2.1] at ct oL oR2 aL aR
  have fMA : ∀ c, c < 4426 ∨ 4442 < c → A c = M c := fun c hc => by rw [fA c (by omega), fN c (by omega)]
  obtain ⟨⟨m1, m2⟩, ⟨m3, m4, m5⟩, m6⟩ := plane A fMA
  have bok : g_bok (s_fig M (w_al w (M 4425 0).toNat + 1)) (s_fig M (w_al w (M 4425 1).toNat + 1)) (s_dps M d) R := ⟨⟨eR, oR⟩, ct, oL, oR2⟩
  replace q5 := q5 R bok
  replace qd := qd R bok
  rw [← aL, ← aR] at q5 qd
  have mz : A (w + 24) = M (w + 24) := congrArg (fun S : w_S => S.1) m2
  have hkA := w_dk_tr (N := A) hk (fun s _ _ => by rw [mz]) (by rw [m2]) (fun b b1 b2 => fMA b (by omega))
  have bL : s_fb (s_fig A 4427) := by rw [aL]; exact g_cls_fb (g_rawL_fb hR hpb ct)
  have bR : s_fb (s_fig A 4430) := by rw [aR]; exact g_cls_fb (g_rawR_fb hR hpb ct)
  have lostE : w_lost (s_dps A) (w_of A w) (M 4425 0) (M 4425 1) (s_fig A 4427) (s_fig A 4430) ↔ w_lost (s_dps M) (w_of M w) (M 4425 0) (M 4425 1) (s_fig A 4427) (s_fig A 4430) := by
    rw [m2]
    unfold w_lost t_lost
    constructor
    · rintro ⟨i, z1, z2, z3⟩
      rw [hkA.2 3 i (by omega) (by omega) z1] at z3
      exact ⟨i, z1, z2, z3⟩
    · rintro ⟨i, z1, z2, z3⟩
      rw [← hkA.2 3 i (by omega) (by omega) z1] at z3
      exact ⟨i, z1, z2, z3⟩
  show ∃ j, WX0_moveBorder_123 Q j (M 4425 0) (M 4425 1) (w_al w (M 4425 0).toNat) (w_al w (M 4425 1).toNat) 0 A
  refine k_border123 m1 hw m3 hkA.1 hi hj kL kR bL bR (fun l => q5 (lostE.mp l) A m1 m2 m6) (fun l E e1 e2 e3 => qd (fun c => l (lostE.mpr c)) E e1 ?_ (a_fr_trans m6 (a_fr_of e3)))
  rw [e2, m2]
