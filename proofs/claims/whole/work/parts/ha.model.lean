/-! the model's reading: PARTS, POINTS -/
theorem P_a_part {M : e_M} {x : Nat} {D : v_D} {a b : Int} (h : P_a M x D) : P_a M x (qd_part a b D) ∧ (qd_part a b D).1 7 = D.1 7 := by
  unfold qd_part
  split
  · unfold P_a at *
    dsimp only
    rw [s_fu_ne (by omega), s_fu_ne (by omega), s_fu_ne (by omega), s_fu_ne (by omega), s_fu_ne (by omega), s_fu_ne (by omega), s_fu_ne (by omega), s_fu_ne (by omega)]
    exact ⟨h, rfl⟩
  · exact ⟨h, rfl⟩
theorem P_a_pt {M : e_M} {x : Nat} {D : v_D} {a b : Int} (h : P_a M x D) : P_a M x (qd_pt a b D) ∧ (qd_pt a b D).1 7 = D.1 7 := by
  unfold qd_pt
  split
  · unfold P_a at *
    dsimp only
    rw [s_fu_ne (by omega), s_fu_ne (by omega), s_fu_ne (by omega), s_fu_ne (by omega), s_fu_ne (by omega), s_fu_ne (by omega), s_fu_ne (by omega), s_fu_ne (by omega)]
    exact ⟨h, rfl⟩
  · exact ⟨h, rfl⟩
theorem L_add {M : e_M} {x : Nat} {D : v_D} {j i a b : Int} (h : L_pt M x D j i) (hi : i < 6) (hq : L_q M x i.toNat (a, b)) : L_pt M x (qd_part a b D) j (i + 1) := by
  obtain ⟨h1, ⟨h2, h2'⟩, h3, h4, y1, y2⟩ := h
  unfold qd_part
  rw [if_pos (by omega)]
  unfold L_pt P_y
  dsimp only
  rw [s_fu_eq, s_fu_ne (by omega), List.length_append]
  refine ⟨h1, by omega, by rw [List.length_singleton]; omega, fun k q hk => ?_, y1, y2⟩
  by_cases g : k < D.2.2.2.1.length
  · rw [List.getElem?_append_left g] at hk
    exact h4 k q hk
  · rw [List.getElem?_append_right (by omega)] at hk
    by_cases g2 : k = D.2.2.2.1.length
    · rw [g2, Nat.sub_self] at hk
      have hk : (a, b) = q := Option.some.inj hk
      rw [← hk, g2, show D.2.2.2.1.length = i.toNat by omega]
      exact hq
    · rw [List.getElem?_eq_none (by rw [List.length_singleton]; omega)] at hk
      exact absurd hk (by simp)
/-- the two cells of a PART written -/
theorem nd_cell {B M M1 M2 : e_M} {T : q_Tk} {E : Nat → Int} {n x : Nat} {j i a b : Int} {c : Int} {s : q_S} (h : n_co B M T E n x c s) (hL : L_pt M x s.2.2.2 j i) (hi : i < 6) (e1 : M1 = e_up M 4472 (6 * x + i.toNat) a) (e2 : M2 = e_up M1 4473 (6 * x + i.toNat) b) : n_co B M2 T E n x c s ∧ L_pt M2 x s.2.2.2 j i ∧ M2 4472 (6 * x + i.toNat) = a ∧ M2 4473 (6 * x + i.toNat) = b := by
  have o : ∀ b, b ≠ 4472 → b ≠ 4473 → M2 b = M b := fun b a1 a2 => by rw [e2, e_up_row a2, e1, e_up_row a1]
  have z2 : M2 4472 = s_fu (M 4472) (6 * x + i.toNat) a := by rw [e2, e_up_row (by omega), e1, s_fu_up]
  have z3 : M2 4473 = s_fu (M 4473) (6 * x + i.toNat) b := by rw [e2, s_fu_up, e1, e_up_row (by omega)]
  obtain ⟨h1, ⟨h2, h2'⟩, h3, h4, y1, y2⟩ := hL
  refine ⟨n_co_i h (fun b hb => o b (by omega) (by omega)) (fun f => by rw [e2, e1]; exact n_fx_1 (n_fx_1 f (by omega) (by omega)) (by omega) (by omega)), ⟨by rw [o 4471 (by omega) (by omega)]; exact h1, ⟨h2, h2'⟩, h3, fun k q hk => ?_, ?_⟩, by rw [z2, s_fu_eq], by rw [z3, s_fu_eq]⟩
  · have hk' : k < s.2.2.2.2.2.2.1.length := by
      by_cases g : k < s.2.2.2.2.2.2.1.length
      · exact g
      · rw [List.getElem?_eq_none (by omega)] at hk
        exact absurd hk (by simp)
    unfold L_q
    rw [z2, z3, s_fu_ne (by omega), s_fu_ne (by omega)]
    exact h4 k q hk
  · unfold P_y j_ps at *
    rw [o 4474 (by omega) (by omega), o 4475 (by omega) (by omega), o 4476 (by omega) (by omega)]
    exact ⟨y1, y2⟩
theorem nd_parts {B M : e_M} {T : q_Tk} {E : Nat → Int} {n x : Nat} {j : Int} {s r : q_S} {Q : Int → e_M → Prop} (hn : n_hn B T E n) (h : n_rd B M T E n x j 0 s) (hj : 0 ≤ j ∧ j ≤ 2) (l : q_le (q_parts T n s) r) (q0 : ∀ M', n_dd B M' x r → Q 0 M') (q1 : ∀ M' i, 1 ≤ i → i ≤ 6 → n_rd B M' T E n x (j + i) i (q_parts T n s) → Q 1 M') : WX12_mustParts M Q := by
  obtain ⟨ex, hx⟩ := h.1.2.1
  generalize hy : q_ps T n 7 s = y
  have ey : q_parts T n s = q_D qd_fix y := by unfold q_parts; rw [hy]
  rw [ey] at l q1
  have ly : q_le y r := fun z => l z
  have key : ∀ (m : Nat) (M' : e_M) (s' : q_S) (i : Int), m ≤ 6 → i = 6 - m → n_co B M' T E n x (j + i) s' → L_pt M' x s'.2.2.2 j i → q_ps T n (m + 1) s' = y → WX12_mustParts_22 Q (m + 2) i 1 M' := by
    intro m
    induction m with
    | zero =>
      intro M' s' i _ hi h' _ e
      have tk := h'.1.2.1.2.2.2
      have al := h'.1.1
      refine ⟨fun z => absurd z (by decide), fun _ => n_isName tk (fun e4 => ⟨fun z => absurd z (by decide), fun _ => ⟨fun z => absurd hi (by omega), fun _ => ?_⟩⟩) (fun e4 => ⟨fun _ => ?_, fun z => absurd rfl z⟩)⟩
      · refine co_name4 h' (by omega) e4 (r := r) ?_ (fun M2 a => nc0 (q0 M2 a))
        have a := (q_ps_le (T := T) (n := n) (m := 0) (s := s')).1
        rw [e, q_p4_y ⟨rfl, by rw [q_tk0 al]; exact e4⟩] at a
        exact q_le_t (q_le_t (q_le_s q_named_dd q_le_r) a) ly
      · refine co_nameN 1 h' e4 (r := r) ?_ (fun M2 a => nc0 (q0 M2 a))
        have a := (q_ps_le (T := T) (n := n) (m := 0) (s := s')).1
        rw [e, q_p4_n (fun z => e4 (by have := z.2; rw [q_tk0 al] at this; exact this))] at a
        exact q_le_t a ly
    | succ m ih =>
      intro M' s' i hm hi h' hL e
      have tk := h'.1.2.1.2.2.2
      obtain ⟨a1, a2⟩ := q_ps_le (T := T) (n := n) (m := m + 1) (s := s')
      rw [e, q_p4_n (by omega)] at a1 a2
      have wi : e_w32 (e_w32 ((6 : Int) * x) + i) = 6 * x + i := by rw [show e_w32 ((6 : Int) * x) = 6 * x from e_w32_id ⟨by omega, by omega⟩]; exact e_w32_id ⟨by omega, by omega⟩
      have wn : (6 * (x : Int) + i).toNat = 6 * x + i.toNat := by omega
      unfold q_ps at e
      rw [q_p4_n (by omega)] at e
      have fin : ∀ M5, n_co B M5 T E n x (j + i + 1) (q_part T n (q_named T n 1 s')) → L_pt M5 x (q_part T n (q_named T n 1 s')).2.2.2 j (i + 1) → WX12_mustParts_136 (WX12_mustParts_22 Q (m + 2)) Q i M5 := by
        intro M5 h5 hL5
        have t5 := q_tk0 (T := T) h5.1.1
        have h5 : n_co B M5 T E n x (j + (i + 1)) (q_part T n (q_named T n 1 s')) := by rw [← Int.add_assoc]; exact h5
        unfold WX12_mustParts_136 VX12_mustParts_136
        rw [show e_w32 (i + 1) = i + 1 from e_w32_id ⟨by omega, by omega⟩]
        refine n_isSign (k := 44) h5.1.2.1.2.2.2 (by unfold q_sg; omega) rfl (fun e44 => ⟨fun z => absurd z (by decide), fun _ => ?_⟩) (fun e44 => ⟨fun _ => ?_, fun z => absurd rfl z⟩)
        · rw [if_pos (by rw [t5]; exact e44)] at e
          refine co_good0 (r := r) hn h5 (by omega) ?_ (fun M3 a => nc0 (q0 M3 a)) (fun M3 h3 z3 => nc1 ?_)
          · refine q_le_t (q_le_s (q_ps_dd (T := T) (n := n) (m := m + 1)) q_le_r) ?_
            rw [e]
            exact ly
          · exact ih M3 _ (i + 1) (by omega) (by omega) h3 (L_pt_st hL5 z3 (q_sm_D q_take_D)) e
        · rw [if_neg (by rw [t5]; exact e44)] at e
          have := nd_fix (Q := Q) h5 hL5 (by omega) (fun M6 h6 => q1 M6 (i + 1) (by omega) (by omega) (e ▸ h6))
          exact ⟨fun _ => this.1 rfl, fun z => absurd rfl z⟩
      have go : WX12_mustParts_45 (WX12_mustParts_22 Q (m + 2)) Q i 0 M' := by
        refine co_name 1 hn h' (by omega) (q_le_t a1 ly) (fun M2 a => nc0 (q0 M2 a)) (fun M2 h2 z2 => nc1 ?_)
        have L2 := L_pt_st hL z2 (q_sm_named (T := T) (n := n) (w := 1))
        rw [h2.2.1.1, wi, wn]
        refine ⟨by omega, fun M3 e3 => ?_⟩
        rw [show M3 4456 35 = x by rw [e3, e_up_row (by omega)]; exact h2.2.1.1, wi, wn]
        refine ⟨by omega, fun M4 e4 => ?_⟩
        obtain ⟨h4, L4, c1, c2⟩ := nd_cell h2 L2 (by omega) e3 e4
        have tk4 := h4.1.2.1.2.2.2
        have t4 := q_tk0 (T := T) h4.1.1
        refine ⟨fun g => ?_, fun g => ?_⟩
        · have e3 : (T (q_named T n 1 s').1).1 ≠ 3 := fun z => g ((n_kd tk4).2.2.1.mpr z)
          have eq : q_part T n (q_named T n 1 s') = q_D (qd_part 0 1) (q_named T n 1 s') := if_neg (by rw [t4]; exact e3)
          rw [eq] at fin
          refine fin M4 (n_co_up h4 (fun _ _ => rfl) (fun f => f) (P_a_part h4.2.2.1).1 ((P_a_part h4.2.2.1).2.trans h4.2.2.2.1)) (L_add L4 (by omega) (Or.inl ⟨rfl, c2⟩))
        · have e3 : (T (q_named T n 1 s').1).1 = 3 := (n_kd tk4).2.2.1.mp g
          have eq : q_part T n (q_named T n 1 s') = q_D (qd_part (q_sv T n (q_named T n 1 s')).1 (q_sv T n (q_named T n 1 s')).2) (q_share T n (q_named T n 1 s')) := if_pos (by rw [t4]; exact e3)
          rw [eq] at fin a2
          refine co_share hn h4 (q_le_t (fun z => a2 z) ly) (fun M5 a => nc0 (q0 M5 a)) (fun M5 h5 z5 u5 d5 => nc1 ?_)
          have L5 := L_pt_st L4 z5 (q_sm_D (q_sm_share (T := T) (n := n)))
          rw [h5.2.1.1, wi, wn]
          refine ⟨by omega, fun M6 e6 => ?_⟩
          rw [show M6 4456 35 = x by rw [e6, e_up_row (by omega)]; exact h5.2.1.1, show M6 4456 37 = M5 4456 37 by rw [e6, e_up_row (by omega)], wi, wn]
          refine ⟨by omega, fun M7 e7 => ?_⟩
          obtain ⟨h7, L7, c3, c4⟩ := nd_cell h5 L5 (by omega) e6 e7
          have i5 := q_share_in h5.1.1
          have gp := s_gcd_pos (a := q_val T (q_named T n 1 s')) (b := q_val T (q_s2 T n (q_named T n 1 s')))
          have l1 := s_gcd_le (b := q_val T (q_s2 T n (q_named T n 1 s'))) i5.1.1
          have l2 : s_gcd (q_val T (q_named T n 1 s')) (q_val T (q_s2 T n (q_named T n 1 s'))) ≤ q_val T (q_s2 T n (q_named T n 1 s')) := by
            have := s_gcd_le (b := q_val T (q_named T n 1 s')) i5.2.1
            unfold s_gcd at *
            rw [Int.gcd_comm]
            exact this
          have b1 := (s_div_rng i5.1.1 i5.1.2 gp l1).2.1
          have b2 := (s_div_rng i5.2.1 i5.2.2 gp l2).2.1
          refine fin M7 (n_co_up h7 (fun _ _ => rfl) (fun f => f) (P_a_part h7.2.2.1).1 ((P_a_part h7.2.2.1).2.trans h7.2.2.2.1)) (L_add L7 (by omega) (Or.inr ⟨b1, b2, c3.trans u5, c4.trans d5⟩))
      refine ⟨fun z => absurd z (by decide), fun _ => n_isName tk (fun e4 => ⟨fun z => absurd z (by decide), fun _ => ⟨fun _ => go, fun z => absurd z (by omega)⟩⟩) (fun e4 => ⟨fun _ => go, fun z => absurd rfl z⟩)⟩
  unfold WX12_mustParts VX12_mustParts
  rw [ex, show ((x : Nat) : Int).toNat = x from rfl]
  refine ⟨by omega, by omega, fun M1 e1 => ⟨8, ?_⟩⟩
  obtain ⟨hc, ⟨z1, z2, z3⟩, hy2, hp⟩ := h
  have hc1 := n_co_i (M' := M1) hc (fun b hb => by rw [e1, e_up_row (by omega)]) (fun f => by rw [e1]; exact n_fx_1 f (by omega) (by omega))
  have emp : s.2.2.2.2.2.2.1 = [] := by
    rw [← z2]
    unfold j_pts
    rw [z1, hp]
    rfl
  refine key 6 M1 s 0 (by omega) (by omega) (by rw [Int.add_zero]; exact hc1) ⟨?_, ⟨hp, by omega⟩, by rw [emp]; rfl, fun k q hk => ?_, ?_⟩ hy
  · rw [e1, e_up_eq, hc.2.2.1.1.2.2.1, hc.2.2.2.1]
  · rw [emp] at hk
    exact absurd hk (by simp)
  · unfold P_y j_ps at *
    rw [e1, e_up_row (by omega), e_up_row (by omega), e_up_row (by omega)]
    exact hy2
