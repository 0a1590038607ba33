/-! Acts: serve -/
def p_tw (x y : Nat → Int) (i : Nat) (k : Int) (tw : Int) : Prop := (tw = 0 → ∀ j : Nat, (j : Int) < k → ¬ (x i = x j ∧ y i = y j)) ∧ (tw ≠ 0 → ∃ j : Nat, (j : Int) < k ∧ x i = x j ∧ y i = y j)
/-- points that may not be: one told twice, one outside -/
def p_bad (x y : Nat → Int) (n : Int) (f : s_Fig) : Prop := ∃ i : Nat, (i : Int) < n ∧ ((∃ j : Nat, j < i ∧ x i = x j ∧ y i = y j) ∨ g_where f (x i) (y i) 1 = 0)
theorem k_serve {M : e_M} {w d : Nat} {at_ : Int} {Q : Int → e_M → Prop} (h : w_ok M w) (hr : w_rg (w_of M w)) (hw : a_w w) (cx : a_cx M w d at_) (hd : a_d w d) (hday : M d 4 = M w 11) (hdo : s_dok M d) (hpb : ∀ i : Nat, (i : Int) < M d 18 → (0 ≤ M (d + 5) i ∧ M (d + 5) i ≤ 999999) ∧ 0 ≤ M (d + 6) i ∧ M (d + 6) i ≤ 999999) (h1 : 0 ≤ M 4425 1 ∧ M 4425 1 < M (w + 24) 0) (h2 : 0 ≤ M 4425 2 ∧ M 4425 2 < M (w + 24) 0)
    (q9 : M 4425 1 = M 4425 2 → a_q M w Q 9 (w_of M w))
    (q2 : M 4425 1 ≠ M 4425 2 → ¬ w_oab (w_of M w) (M 4425 2).toNat → a_q M w Q 2 (w_of M w))
    (q4 : M 4425 1 ≠ M 4425 2 → w_oab (w_of M w) (M 4425 2).toNat → w_bar (w_of M w) (M 4425 2) (-1) → a_q M w Q 4 (w_of M w))
    (q3 : M 4425 1 ≠ M 4425 2 → w_oab (w_of M w) (M 4425 2).toNat → ¬ w_bar (w_of M w) (M 4425 2) (-1) → p_bad (M (d + 5)) (M (d + 6)) (M d 18) (w_l (w_of M w) (M 4425 2).toNat).2.1 → a_q M w Q 3 (w_of M w))
    (q7 : M 4425 1 ≠ M 4425 2 → w_oab (w_of M w) (M 4425 2).toNat → ¬ w_bar (w_of M w) (M 4425 2) (-1) → ¬ p_bad (M (d + 5)) (M (d + 6)) (M d 18) (w_l (w_of M w) (M 4425 2).toNat).2.1 → 40 ≤ M (w + 24) 3 → a_q M w Q 7 (w_of M w))
    (q0 : M 4425 1 ≠ M 4425 2 → w_oab (w_of M w) (M 4425 2).toNat → ¬ w_bar (w_of M w) (M 4425 2) (-1) → ¬ p_bad (M (d + 5)) (M (d + 6)) (M d 18) (w_l (w_of M w) (M 4425 2).toNat).2.1 → M (w + 24) 3 < 40 → a_q M w Q 0 (w_addT (w_of M w) 3 (s_fu (w_new (w_of M w) 3 (M (d + 1) 0) d at_).1 7 (M d 10), [M 4425 1], [M 4425 2]))) : WX0_serve M Q := by
  have hw' := hw
  unfold a_w at hw'
  have hd' := hd
  unfold a_d at hd'
  have hi80 : (M 4425 2).toNat < 80 := w_in0 h (by omega)
  have hfb := (hr.1 (M 4425 2).toNat (by show ((M 4425 2).toNat : Int) < M (w + 24) 0; omega)).1
  have hfk := (h.2.2.1 _ hi80).1
  have hz := w_zb h (show 3 < 8 by omega)
  have hm : w_mx 3 = 40 := rfl
  rw [w_l_e hi80] at hfb q3 q7 q0
  change s_fb (s_fig M (w_al w (M 4425 2).toNat + 1)) at hfb
  obtain ⟨p0, p12⟩ := hdo.2.2
  unfold WX0_serve VX0_serve
  rw [show (1 : Int).toNat = 1 from rfl, show (2 : Int).toNat = 2 from rfl]
  refine ⟨by omega, by omega, fun ne => k_ownersAble h hr cx h2 (fun a => ⟨fun _ => k_barred h cx (fun b => ⟨fun z => by omega, fun _ => a_q_no h (q4 ne a b)⟩) (fun b => ⟨fun _ => ?_, fun z => absurd rfl z⟩), fun z => by omega⟩) (fun a => ⟨fun z => absurd rfl z, fun _ => a_q_no h (q2 ne a)⟩), fun e => a_q_no h (q9 e)⟩
  replace q3 := q3 ne a b
  replace q7 := q7 ne a b
  replace q0 := q0 ne a b
  refine s_up (P := fun dd i N => WX0_serve_45 Q dd (M 4425 1) (M 4425 2) i N) (n := M d 18) (fun i N => N = M ∧ ¬ p_bad (M (d + 5)) (M (d + 6)) i (s_fig M (w_al w (M 4425 2).toNat + 1))) p0 ⟨rfl, fun ⟨i, i1, _⟩ => by omega⟩ ?_ ?_
  · intro d2 N ⟨e, nb⟩
    subst e
    unfold WX0_serve_45 VX0_serve_45
    rw [cx.1, cx.2.1]
    refine ⟨fun _ => k_isFull (s := 3) (by omega) (fun f => ⟨fun z => by omega, fun _ => a_q_no h (q7 nb f)⟩) (fun f => ⟨fun _ => k_make h hw cx hd hday (by omega) f (fun A a1 a2 a3 => fun M4 e4 => ?_), fun z => absurd rfl z⟩), fun z => by omega⟩
    have f' : N (w + 24) 3 < 40 := f
    rw [show (3 : Int).toNat = 3 from rfl] at a2 e4 ⊢
    have hin : w_F 3 + (N (w + 24) 3).toNat < 290 := by have : w_F 3 = 80 := rfl; omega
    have hJ' : w_F 3 + (N (w + 24) 3).toNat = w_F 3 + ((w_of N w).1 3).toNat := rfl
    generalize hJ : w_F 3 + (N (w + 24) 3).toNat = J at *
    rw [a3 4423 (by omega) (by omega), cx.2.1, a3 d (by omega) (by omega)] at e4
    obtain ⟨u1, u2, u3⟩ := k_put a1 hin (k := 7) (v := N d 10) (by omega) (by omega)
    rw [← e4] at u1 u2 u3
    have er : x_th M4 (w_at w J) = (s_fu (w_new (w_of N w) 3 (N (d + 1) 0) d at_).1 7 (N d 10), [], []) := by
      have := congrFun (congrArg (fun S : w_S => S.2.2.1) u2) J
      rw [w_of_t hin, a2, hJ', w_put_addT, w_addT_at, ← hJ'] at this
      exact this
    rw [(w_ref u1 hin).1]
    refine c_radd (u1.2.2.2 J hin).1.1 (fun B b1 b2 b3 b4 => ?_)
    obtain ⟨v1, v2, v3⟩ := k_lts u1 hin b1 b2 b4
    rw [(w_ref v1 hin).2]
    refine c_radd (v1.2.2.2 J hin).1.2 (fun C c1 c2 c3 c4 => ?_)
    obtain ⟨x1, x2, x3⟩ := k_ovr v1 hin c1 c2 c4
    refine q0 nb f' C x1 ?_ (a_fr_of (w_fr_trans a3 (w_fr_trans u3 (w_fr_trans v3 x3))))
    have r1 : s_row M4 (w_at w J + 1) = [] := congrArg (fun t : w_T => t.2.1) er
    have r2 : s_row B (w_at w J + 3) = [] := by
      have : s_row M4 (w_at w J + 3) = [] := congrArg (fun t : w_T => t.2.2) er
      rw [← this]
      exact s_row_congr (b4 _ (by omega) (by omega)) (b4 _ (by omega) (by omega))
    rw [x2, v2, u2, a2, r1, r2, hJ', w_put_addT, w_lts_addT, w_ovr_addT]
    rfl
  · intro d2 i N k1 k2 ⟨e, nb⟩ ih
    subst e
    unfold WX0_serve_45 VX0_serve_45
    rw [cx.1, cx.2.1]
    have ri : 0 ≤ i ∧ i < 12 := by omega
    refine ⟨fun z => by omega, fun _ => ?_⟩
    refine s_up (σ := Int) (P := fun dd k tw => WX0_serve_62 (WX0_serve_45 Q d2) Q dd (N 4425 1) (N 4425 2) i tw k N) (n := i) (i0 := 0) (s := 0) (fun k tw => p_tw (N (d + 5)) (N (d + 6)) i.toNat k tw) k1 ⟨fun _ j hj => by omega, fun z => absurd rfl z⟩ ?_ ?_
    · intro d3 tw ht
      unfold WX0_serve_62 VX0_serve_62
      rw [cx.1, cx.2.1]
      have hp := hpb i.toNat (by omega)
      refine ⟨fun _ => ⟨fun ne => a_q_no h (q3 ?_), fun e0 => k_lot h h2.1 h2.2 ⟨ri, ri, c_where hfk hfb (by omega) (by omega) (by omega) ⟨fun nz => ?_, fun z => a_q_no h (q3 ⟨i.toNat, by omega, Or.inr z⟩)⟩⟩⟩, fun z => by omega⟩
      · obtain ⟨j, j1, j2⟩ := ht.2 ne
        exact ⟨i.toNat, by omega, Or.inl ⟨j, by omega, j2⟩⟩
      · rw [s_w (by omega) (by omega)]
        refine ih N ⟨rfl, ?_⟩
        rintro ⟨k, g1, g2⟩
        by_cases c : (k : Int) = i
        · have ek : k = i.toNat := by omega
          rw [ek] at g2
          rcases g2 with ⟨j, j1, j2⟩ | z
          · exact ht.1 e0 j (by omega) j2
          · exact nz z
        · exact nb ⟨k, by omega, g2⟩
    · intro d3 k tw j1 j2 ht ih2
      unfold WX0_serve_62 VX0_serve_62
      rw [cx.2.1]
      have rk : 0 ≤ k ∧ k < 12 := by omega
      have go : ∀ tw', p_tw (N (d + 5)) (N (d + 6)) i.toNat (k + 1) tw' → WX0_serve_122 (WX0_serve_45 Q d2) (WX0_serve_62 (WX0_serve_45 Q d2) Q d3) Q (N 4425 1) (N 4425 2) i k tw' N := by
        intro tw' ht'
        show WX0_serve_62 (WX0_serve_45 Q d2) Q d3 (N 4425 1) (N 4425 2) i tw' (e_w32 (k + 1)) N
        rw [s_w (by omega) (by omega)]
        exact ih2 tw' ht'
      have no : tw = 0 → ¬ (N (d + 5) i.toNat = N (d + 5) k.toNat ∧ N (d + 6) i.toNat = N (d + 6) k.toNat) → p_tw (N (d + 5)) (N (d + 6)) i.toNat (k + 1) 0 := fun e0 ne => ⟨fun _ j hj => by
        by_cases c : (j : Int) = k
        · rw [show j = k.toNat by omega]; exact ne
        · exact ht.1 e0 j (by omega), fun z => absurd rfl z⟩
      refine ⟨fun z => by omega, fun _ => ⟨fun ne => go 1 ⟨fun z => by omega, fun _ => ?_⟩, fun e0 => ⟨ri, rk, fun ne => go 0 (no e0 (fun z => ne z.1)), fun e1 => ⟨ri, rk, fun ne => go 0 (no e0 (fun z => ne z.2)), fun e2 => go 1 ⟨fun z => by omega, fun _ => ⟨k.toNat, by omega, e1, e2⟩⟩⟩⟩⟩⟩
      obtain ⟨j, g1, g2⟩ := ht.2 ne
      exact ⟨j, by omega, g2⟩
