/-! the model's reading: names, PARTS -/
theorem co_nameN {B M : e_M} {T : q_Tk} {E : Nat → Int} {n x : Nat} {j : Int} {s r : q_S} (w : Int) {Q : Int → e_M → Prop} (h : n_co B M T E n x j s) (e : (T s.1).1 ≠ 4) (l : q_le (q_named T n w s) r) (q0 : ∀ M', n_dd B M' x r → Q 0 M') : WX12_mustName 0 M Q := by
  have tk := h.1.2.1.2.2.2
  have e1 : (q_D (qd_name (q_val T s) w) s).2.1 = 0 := h.1.1
  unfold WX12_mustName VX12_mustName
  refine n_isName tk (fun e' => absurd e' e) (fun _ => ⟨fun z => absurd rfl z, fun _ => ?_⟩)
  have eq : q_named T n w s = q_note T 1 (q_D (qd_name (q_val T s) w) s) := if_neg (by rw [q_tk0 e1]; exact e)
  rw [eq] at l
  exact n_wrong (s := q_D (qd_name (q_val T s) w) s) ⟨e1, h.1.2⟩ (by decide) (fun M' a f => nz0 (q0 M' (n_dd_l ⟨a, n_fx_t h.2.2.2.2 f⟩ l)))
theorem q_p4_n {T : q_Tk} {m : Nat} {s : q_S} (h : ¬ (m = 0 ∧ q_tk T s = 4)) : q_p4 T m s = s := if_neg h
theorem q_p4_y {T : q_Tk} {m : Nat} {s : q_S} (h : m = 0 ∧ q_tk T s = 4) : q_p4 T m s = q_note T 4 s := if_pos h
theorem q_ls_le {T : q_Tk} {n m : Nat} {s : q_S} : q_le (q_named T n 0 (q_p4 T m s)) (q_ls T n (m + 1) s) := by
  unfold q_ls
  split
  · exact q_le_s q_ls_dd (q_le_s q_take_dd q_le_r)
  · exact q_le_r
theorem nd_names {B M : e_M} {T : q_Tk} {E : Nat → Int} {n x : Nat} {j : Int} {s r : q_S} {Q : Int → e_M → Prop} (hn : n_hn B T E n) (h : n_rd B M T E n x j 0 s) (hj : 0 ≤ j ∧ j ≤ 2) (l : q_le (q_ls T n 7 s) r) (q0 : ∀ M', n_dd B M' x r → Q 0 M') (q1 : ∀ M' j', j + 1 ≤ j' → j' ≤ j + 6 → n_rd B M' T E n x j' 0 (q_ls T n 7 s) → Q 1 M') : WX12_mustNames M Q := by
  generalize hr : q_ls T n 7 s = r0 at l q1
  have key : ∀ (m : Nat) (M' : e_M) (s' : q_S) (i : Int), m ≤ 6 → i = 6 - m → n_rd B M' T E n x (j + i) 0 s' → q_ls T n (m + 1) s' = r0 → WX12_mustNames_4 Q (m + 2) i 1 M' := by
    intro m
    induction m with
    | zero =>
      intro M' s' i _ hi h' e
      have tk := h'.1.1.2.1.2.2.2
      have al := h'.1.1.1
      refine ⟨fun z => absurd z (by decide), fun _ => n_isName tk (fun e4 => ⟨fun z => absurd z (by decide), fun _ => ⟨fun z => absurd hi (by omega), fun _ => ?_⟩⟩) (fun e4 => ⟨fun _ => ?_, fun z => absurd rfl z⟩)⟩
      · refine co_name4 h'.1 (by omega) e4 (r := r) ?_ (fun M2 a => nc0 (q0 M2 a))
        have a := q_ls_le (T := T) (n := n) (m := 0) (s := s')
        rw [e, q_p4_y ⟨rfl, by rw [q_tk0 al]; exact e4⟩] at a
        intro z
        have b := q_named_dd (T := T) (n := n) (w := 0) _ z
        have c := a (by rw [b.1]; exact z)
        have d := l (by rw [c.1, b.1]; exact z)
        exact ⟨d.1.trans (c.1.trans b.1), d.2.trans (c.2.trans b.2.1)⟩
      · refine co_nameN 0 h'.1 e4 (r := r) ?_ (fun M2 a => nc0 (q0 M2 a))
        have a := q_ls_le (T := T) (n := n) (m := 0) (s := s')
        rw [e, q_p4_n (fun z => e4 (by have := z.2; rw [q_tk0 al] at this; exact this))] at a
        intro z
        have c := a z
        have d := l (by rw [c.1]; exact z)
        exact ⟨d.1.trans c.1, d.2.trans c.2⟩
    | succ m ih =>
      intro M' s' i hm hi h' e
      have tk := h'.1.1.2.1.2.2.2
      have al := h'.1.1.1
      have a := q_ls_le (T := T) (n := n) (m := m + 1) (s := s')
      rw [e, q_p4_n (by omega)] at a
      have l2 : q_le (q_named T n 0 s') r := fun z => by
        have c := a z
        have d := l (by rw [c.1]; exact z)
        exact ⟨d.1.trans c.1, d.2.trans c.2⟩
      have go : WX12_mustNames_27 (WX12_mustNames_4 Q (m + 2)) Q i 0 M' := by
        refine nd_name 0 hn h' (by omega) l2 (fun M2 a => nc0 (q0 M2 a)) (fun M2 h2 => nc1 ?_)
        unfold q_ls at e
        rw [q_p4_n (by omega)] at e
        rw [show e_w32 (i + 1) = i + 1 from e_w32_id ⟨by omega, by omega⟩]
        have t2 := q_tk0 (T := T) h2.1.1.1
        refine n_isSign (k := 44) h2.1.1.2.1.2.2.2 (by unfold q_sg; omega) rfl (fun e44 => ⟨fun z => absurd z (by decide), fun _ => ?_⟩) (fun e44 => ⟨fun _ => ?_, fun z => absurd rfl z⟩)
        · rw [if_pos (by rw [t2]; exact e44)] at e
          refine nd_good0 (r := r) hn h2 (by omega) (fun z => ?_) (fun M3 a => nc0 (q0 M3 a)) (fun M3 h3 => nc1 ?_)
          · have b := q_ls_dd (T := T) (n := n) (m := m + 1) _ z
            have d := l (by rw [← e, b.1]; exact z)
            rw [← e] at d
            exact ⟨d.1.trans b.1, d.2.trans b.2.1⟩
          · exact ih M3 _ (i + 1) (by omega) (by omega) (by rw [← Int.add_assoc]; exact h3) e
        · rw [if_neg (by rw [t2]; exact e44)] at e
          exact ⟨fun _ => q1 M2 (j + i + 1) (by omega) (by omega) (e ▸ h2), fun z => absurd rfl z⟩
      refine ⟨fun z => absurd z (by decide), fun _ => n_isName tk (fun e4 => ⟨fun z => absurd z (by decide), fun _ => ⟨fun _ => go, fun z => absurd z (by omega)⟩⟩) (fun e4 => ⟨fun _ => go, fun z => absurd rfl z⟩)⟩
  exact ⟨8, key 6 M s 0 (by omega) (by omega) (by rw [Int.add_zero]; exact h) hr⟩
/-- PARTS as far as they are read -/
def L_q (M : e_M) (x k : Nat) (q : Int × Int) : Prop := (q = (0, 1) ∧ M 4473 (6 * x + k) = 0) ∨ (1 ≤ q.1 ∧ 1 ≤ q.2 ∧ M 4472 (6 * x + k) = q.1 ∧ M 4473 (6 * x + k) = q.2)
def L_pt (M : e_M) (x : Nat) (D : v_D) (j i : Int) : Prop := M 4471 x = j ∧ (D.1 15 = i ∧ 0 ≤ i) ∧ (D.2.2.2.1.length : Int) = i ∧ (∀ k q, D.2.2.2.1[k]? = some q → L_q M x k q) ∧ P_y M x D
theorem L_pt_st {M M' : e_M} {x : Nat} {s s' : q_S} {j i : Int} (h : L_pt M x s.2.2.2 j i) (z : n_pz M M') (e : q_sm2 s s') : L_pt M' x s'.2.2.2 j i := by
  obtain ⟨h1, h2, h3, h4, y1, y2⟩ := h
  obtain ⟨e1, e2, e3, e4⟩ := e
  unfold L_pt P_y j_ps at *
  rw [e1, e2, e3, e4, z 4471 (by omega) (by omega), z 4474 (by omega) (by omega), z 4475 (by omega) (by omega), z 4476 (by omega) (by omega)]
  refine ⟨h1, h2, h3, fun k q hk => ?_, y1, y2⟩
  unfold L_q
  rw [z 4472 (by omega) (by omega), z 4473 (by omega) (by omega)]
  exact h4 k q hk
theorem q_sm_share {T : q_Tk} {n : Nat} {s : q_S} : (q_share T n s).2.2.2 = s.2.2.2 := by
  have c : ∀ y, (q_chk T y).2.2.2 = y.2.2.2 := fun y => by
    unfold q_chk
    split
    · exact q_note_D
    · rfl
  unfold q_share q_s2
  rw [q_exp_D, c, q_exp_D, q_exp_D, c]
theorem n_co_i {B M M' : e_M} {T : q_Tk} {E : Nat → Int} {n x : Nat} {j : Int} {s : q_S} (h : n_co B M T E n x j s) (hb : ∀ b, (b < 4470 ∨ 4476 < b) → M' b = M b) (hf : n_fx B M x → n_fx B M' x) : n_co B M' T E n x j s :=
  n_co_up (f := fun D => D) h (fun b b1 => hb b (by omega)) hf (P_a_congr h.2.2.1 (fun b b1 b2 => hb b (by omega))) h.2.2.2.1
theorem q_ps_le {T : q_Tk} {n m : Nat} {s : q_S} : q_le (q_named T n 1 (q_p4 T m s)) (q_ps T n (m + 1) s) ∧ q_le (q_part T n (q_named T n 1 (q_p4 T m s))) (q_ps T n (m + 1) s) := by
  have a : q_le (q_part T n (q_named T n 1 (q_p4 T m s))) (q_ps T n (m + 1) s) := by
    unfold q_ps
    split
    · exact q_le_s q_ps_dd (q_le_s q_take_dd q_le_r)
    · exact q_le_r
  refine ⟨fun z => ?_, a⟩
  have b := q_part_dd (T := T) (n := n) _ z
  have c := a (by rw [b.1]; exact z)
  exact ⟨c.1.trans b.1, c.2.trans b.2.1⟩
theorem q_le_t {s y r : q_S} (h : q_le s y) (g : q_le y r) : q_le s r := fun z => by
  have a := h z
  have b := g (by rw [a.1]; exact z)
  exact ⟨b.1.trans a.1, b.2.trans a.2⟩
theorem nd_fix {B M : e_M} {T : q_Tk} {E : Nat → Int} {n x : Nat} {j i : Int} {s : q_S} {Q : Int → e_M → Prop} (h : n_co B M T E n x (j + i) s) (hL : L_pt M x s.2.2.2 j i) (hi : 1 ≤ i ∧ i ≤ 6) (q1 : ∀ M', n_rd B M' T E n x (j + i) i (q_D qd_fix s) → Q 1 M') : WX12_mustParts_22 Q 1 i 0 M := by
  obtain ⟨ex, hx⟩ := h.2.1
  obtain ⟨c1, ⟨c2, c3⟩, c4, c5, c6⟩ := hL
  refine ⟨fun _ => ?_, fun z => absurd rfl z⟩
  rw [ex, show ((x : Nat) : Int).toNat = x from rfl]
  refine ⟨by omega, fun M1 e1 => ?_⟩
  have o1 : ∀ b, b ≠ 4470 → M1 b = M b := fun b hb => by rw [e1, e_up_row hb]
  have f1 : n_fx B M x → n_fx B M1 x := fun f => by rw [e1]; exact n_fx_1 f (by omega) (by omega)
  refine s_up (σ := e_M) (P := fun d k M' => WX12_mustParts_172 Q d i k M') (n := i) (i0 := 0) (s := M1) (fun k M' => (∀ b, b ≠ 4472 → b ≠ 4473 → M' b = M1 b) ∧ (n_fx B M x → n_fx B M' x) ∧ ∀ (u : Nat) (q : Int × Int), s.2.2.2.2.2.2.1[u]? = some q → ((u : Int) < k → M' 4472 (6 * x + u) = (if q.1 = 0 then (1, i) else q).1 ∧ M' 4473 (6 * x + u) = (if q.1 = 0 then (1, i) else q).2) ∧ (k ≤ u → L_q M' x u q)) (by omega) ⟨fun _ _ _ => rfl, f1, fun u q hu => ⟨fun z => by omega, fun _ => ?_⟩⟩ ?_ ?_
  · unfold L_q
    rw [o1 4472 (by omega), o1 4473 (by omega)]
    exact c5 u q hu
  · intro d M' ⟨i1, i2, i3⟩
    refine ⟨fun _ => q1 M' ?_, fun z => by omega⟩
    have oo : ∀ b, b ≠ 4470 → b ≠ 4472 → b ≠ 4473 → M' b = M b := fun b a1 a2 a3 => by rw [i1 b a2 a3, o1 b a1]
    have hc := n_co_i h (fun b hb => oo b (by omega) (by omega) (by omega)) i2
    refine ⟨⟨hc.1, hc.2.1, hc.2.2.1, hc.2.2.2.1, hc.2.2.2.2⟩, ⟨?_, ?_, fun _ => ?_⟩, ?_, c2⟩
    · show M' 4470 x = s.2.2.2.1 15
      rw [i1 4470 (by omega) (by omega), e1, e_up_eq, c2]
    · show j_pts M' x = s.2.2.2.2.2.2.1.map (fun q => if q.1 = 0 then (1, s.2.2.2.1 15) else q)
      unfold j_pts
      rw [i1 4470 (by omega) (by omega), e1, e_up_eq, c2]
      refine s_ar_ext (by rw [List.length_map]; omega) (fun u hu => ?_)
      have hl : u < s.2.2.2.2.2.2.1.length := by omega
      have hg : s.2.2.2.2.2.2.1[u]? = some s.2.2.2.2.2.2.1[u] := List.getElem?_eq_getElem hl
      rw [List.getElem?_map, hg]
      obtain ⟨t1, t2⟩ := (i3 u _ hg).1 (by omega)
      show some _ = some _
      rw [t1, t2]
    · show M' 4471 x = s.2.2.2.1 7 - s.2.2.2.1 15
      rw [oo 4471 (by omega) (by omega) (by omega), c1, c2, h.2.2.2.1]
      omega
    · obtain ⟨y1, y2⟩ := c6
      unfold P_y j_ps
      rw [oo 4474 (by omega) (by omega) (by omega), oo 4475 (by omega) (by omega) (by omega), oo 4476 (by omega) (by omega) (by omega)]
      exact ⟨y1, y2⟩
  · intro d k M' k0 k1 ⟨i1, i2, i3⟩ ih
    have r35 : M' 4456 35 = x := by rw [i1 4456 (by omega) (by omega), o1 4456 (by omega)]; exact ex
    have wk : e_w32 (e_w32 ((6 : Int) * x) + k) = 6 * x + k := by rw [show e_w32 ((6 : Int) * x) = 6 * x from e_w32_id ⟨by omega, by omega⟩]; exact e_w32_id ⟨by omega, by omega⟩
    have wn : (6 * (x : Int) + k).toNat = 6 * x + k.toNat := by omega
    have hl : k.toNat < s.2.2.2.2.2.2.1.length := by omega
    have hg : s.2.2.2.2.2.2.1[k.toNat]? = some s.2.2.2.2.2.2.1[k.toNat] := List.getElem?_eq_getElem hl
    generalize s.2.2.2.2.2.2.1[k.toNat] = q at hg
    have hq := (i3 _ _ hg).2 (by omega)
    unfold WX12_mustParts_172 VX12_mustParts_172
    rw [r35, wk, wn]
    refine ⟨fun z => by omega, fun _ => ⟨by omega, fun g => ⟨by omega, fun M2 e2 => ?_⟩, fun g => ?_⟩⟩
    · have r35' : M2 4456 35 = x := by rw [e2, e_up_row (by omega)]; exact r35
      rw [r35', wk, wn]
      refine ⟨by omega, fun M3 e3 => ?_⟩
      unfold WX12_mustParts_227 VX12_mustParts_227
      rw [show e_w32 (k + 1) = k + 1 from e_w32_id ⟨by omega, by omega⟩]
      have q0 : q = (0, 1) := by
        rcases hq with ⟨a, b⟩ | ⟨a, b, c, d⟩
        · exact a
        · omega
      have z2 : M3 4472 = s_fu (M' 4472) (6 * x + k.toNat) 1 := by rw [e3, e_up_row (by omega), e2, s_fu_up]
      have z3 : M3 4473 = s_fu (M' 4473) (6 * x + k.toNat) i := by rw [e3, s_fu_up, e2, e_up_row (by omega)]
      refine ih M3 ⟨fun b a1 a2 => by rw [e3, e_up_row a2, e2, e_up_row a1]; exact i1 b a1 a2, fun f => by rw [e3, e2]; exact n_fx_1 (n_fx_1 (i2 f) (by omega) (by omega)) (by omega) (by omega), fun u q' hu => ?_⟩
      by_cases g2 : u = k.toNat
      · subst g2
        rw [hg] at hu
        have hu : q = q' := Option.some.inj hu
        rw [← hu, q0, z2, z3, s_fu_eq, s_fu_eq]
        exact ⟨fun _ => ⟨rfl, rfl⟩, fun z => by omega⟩
      · unfold L_q
        rw [z2, z3, s_fu_ne (by omega), s_fu_ne (by omega)]
        exact ⟨fun z => (i3 u q' hu).1 (by omega), fun z => (i3 u q' hu).2 (by omega)⟩
    · unfold WX12_mustParts_227 VX12_mustParts_227
      rw [show e_w32 (k + 1) = k + 1 from e_w32_id ⟨by omega, by omega⟩]
      refine ih M' ⟨i1, i2, fun u q' hu => ?_⟩
      by_cases g2 : u = k.toNat
      · subst g2
        rw [hg] at hu
        have hu : q = q' := Option.some.inj hu
        rcases hq with ⟨a, b⟩ | ⟨a, b, c, d⟩
        · omega
        · rw [← hu, if_neg (by omega)]
          exact ⟨fun _ => ⟨c, d⟩, fun z => by omega⟩
      · exact ⟨fun z => (i3 u q' hu).1 (by omega), fun z => (i3 u q' hu).2 (by omega)⟩
