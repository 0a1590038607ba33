/-! the class's World: its beginning; ORDERS; the DEEDS in order -/
theorem w_own {M M' : e_M} {w : Nat} (h : w_ok M w) (hf : ∀ b, b ≠ w → b ≠ w + 24 → M' b = M b) (hz : ∀ s, s < 8 → 0 ≤ M' (w + 24) s ∧ M' (w + 24) s ≤ w_mx s) : w_ok M' w ∧ w_of M' w = (M' (w + 24), (w_of M w).2.1, (w_of M w).2.2.1, M' w 11) := by
  obtain ⟨⟨h1, h2⟩, h3, h4, h5⟩ := h
  refine ⟨⟨⟨fun k hk => ?_, fun j hj => ?_⟩, hz, fun k hk => ?_, fun j hj => ?_⟩, ?_⟩
  · rw [hf _ (by omega) (by omega)]; exact h1 k hk
  · rw [hf _ (by omega) (by omega)]; exact h2 j hj
  · have := h4 k hk
    unfold w_lok s_fok s_rok s_ook w_al at *
    rw [hf _ (by omega) (by omega), hf _ (by omega) (by omega), hf _ (by omega) (by omega)]
    exact this
  · have := h5 j hj
    unfold w_tok s_rok w_at at *
    rw [hf _ (by omega) (by omega), hf _ (by omega) (by omega), hf _ (by omega) (by omega)]
    exact this
  · refine w_of_ext rfl (fun k hk => ?_) (fun k hk => (w_of_ln hk).symm) (fun j hj => ?_) (fun j hj => (w_of_tn hj).symm) rfl
    · show _ = (w_of M w).2.1 k
      rw [w_of_l hk]
      exact x_lot_congr (fun b b1 b2 => hf b (by unfold w_al at b1; omega) (by unfold w_al at b1; omega))
    · show _ = (w_of M w).2.2.1 j
      rw [w_of_t hj]
      exact x_th_congr (fun b b1 b2 => hf b (by unfold w_at at b1; omega) (by unfold w_at at b1; omega))
def w_land : w_L := (fun k => if k = 0 then 7809644604612935680 else 0, [(0, 0), (1000, 0), (1000, 1000), (0, 1000)], [], [(0, 1, 1)])
def t_crown (f : Nat → Int) : Nat → Int := s_fu f 7 1
def w_sz0 (f : Nat → Int) : Nat → Int := fun s => if s < 2 then 1 else if s < 8 then 0 else f s
/-- what a World holds before all DEEDS, over what it held -/
def w_0 (S : w_S) (d : Int) : w_S := (w_sz0 S.1, s_fu S.2.1 0 w_land, s_fu S.2.2.1 0 (t_crown (t_new 7165912515837165568 d 0 (S.2.2.1 0).1), [], []), 0)
theorem s_min {a b : Int} : e_min a b = if b < a then b else a := rfl
theorem k_begin {M : e_M} {w : Nat} {day known n : Int} {Q : e_M → Prop} (h : w_ok M w) (hq : ∀ M', w_ok M' w → w_of M' w = w_0 (w_of M w) ((M (w + 12) 11).toNat) → (M' w 12 = day ∧ M' w 13 = known ∧ M' w 14 = e_min n 150 ∧ M' w 10 = 0 ∧ M' w 9 = 0) → (∀ k, k ≠ 9 → k ≠ 10 → k ≠ 11 → k ≠ 12 → k ≠ 13 → k ≠ 14 → M' w k = M w k) → (∀ b, b ≠ w → b ≠ w + 24 → (b < w + 29 ∨ w + 2199 ≤ b) → M' b = M b) → Q M') : WX10_begin w day known n M Q := by
  unfold WX10_begin VX10_begin
  intro M1 e1 M2 e2 M3 e3 M4 e4 M5 e5 M6 e6
  have o6 : ∀ b, b ≠ w → M6 b = M b := fun b hb => by rw [e6, e_up_row hb, e5, e_up_row hb, e4, e_up_row hb, e3, e_up_row hb, e2, e_up_row hb, e1, e_up_row hb]
  have r6 : ∀ k, M6 w k = if k = 9 then 0 else if k = 10 then 0 else if k = 11 then 0 else if k = 14 then e_min n 150 else if k = 13 then known else if k = 12 then day else M w k := fun k => by
    rw [e6, e_up_at, e5, e_up_at, e4, e_up_at, e3, e_up_at, e2, e_up_at, e1, e_up_at]
  refine s_up (P := fun d i N => WX10_begin_39 Q d w i N) (n := 8) (fun i N => (∀ b, b ≠ w + 24 → N b = M6 b) ∧ ∀ s : Nat, N (w + 24) s = if (s : Int) < i then 0 else M (w + 24) s) (by omega) ⟨fun _ _ => rfl, fun s => by rw [o6 _ (by omega), if_neg (by omega)]⟩ ?_ ?_
  · intro d N ⟨hN, hz⟩
    refine ⟨fun _ => ?_, fun z => by omega⟩
    have b6 : ∀ b, b ≠ w → b ≠ w + 24 → N b = M b := fun b hb hb2 => by rw [hN b hb2, o6 b hb]
    have hz8 : ∀ s, s < 8 → N (w + 24) s = 0 := fun s hs => by rw [hz, if_pos (by omega)]
    obtain ⟨n1, n2⟩ := w_own h b6 (fun s hs => by rw [hz8 s hs]; omega)
    have z1 : N (w + 24) 1 = 0 := hz8 1 (by omega)
    have z0 : N (w + 24) 0 = 0 := hz8 0 (by omega)
    have d11 : N w 11 = 0 := by rw [hN _ (by omega), r6]; rfl
    rw [b6 (w + 12) (by omega) (by omega)]
    refine k_add (s := 1) n1 (by omega) (by show N (w + 24) 1 < (40 : Int); omega) (fun A a1 a2 a3 => ?_)
    rw [show (1 : Int).toNat = 1 from rfl, z1] at a2
    have az : A (w + 24) = s_fu (N (w + 24)) 1 1 := congrArg (fun S : w_S => S.1) a2
    have ez : w_at w (w_F (1 : Int).toNat + (0 : Int).toNat) = w_at w 0 := rfl
    refine k_at a1 (by omega) (by omega) (by show (0 : Int) < A (w + 24) 1; rw [az, s_fu_eq]; omega) ?_
    rw [ez]
    intro B eb
    have hB : ∀ b, b ≠ w_at w 0 → B b = A b := fun b hb => by rw [eb, e_up_row hb]
    have ha0 : w_at w 0 = w + 749 := rfl
    have tk := a1.2.2.2 0 (by omega)
    have tb : w_tok B (w_at w 0) := by
      unfold w_tok s_rok at *
      rw [hB _ (by omega), hB _ (by omega), eb, e_up_ne (by omega), e_up_ne (by omega)]
      exact tk
    obtain ⟨u1, u2, u3⟩ := w_upT a1 (j := 0) (by omega) (M' := B) (fun b hb => hB b (by omega)) tb
    have bz : B (w + 24) = A (w + 24) := hB _ (by omega)
    have bz0 : B (w + 24) 0 = 0 := by rw [bz, az, s_fu_ne (by omega), z0]
    refine k_addLot u1 (by rw [bz0]; omega) (fun C c1 c2 c3 => ?_)
    rw [bz0] at c2 ⊢
    have cz : C (w + 24) = s_fu (B (w + 24)) 0 1 := congrArg (fun S : w_S => S.1) c2
    refine k_lot c1 (by omega) (by rw [cz, s_fu_eq]; omega) ?_
    have hl0 : w_al w (0 : Int).toNat = w + 29 := rfl
    rw [hl0]
    have lk := c1.2.2.1 0 (by omega)
    have hl0' : w_al w 0 = w + 29 := rfl
    rw [hl0'] at lk
    have cl : x_lot C (w + 29) = l_new 7809644604612935680 := by
      have := congrFun (congrArg (fun S : w_S => S.2.1) c2) 0
      rw [w_of_l (by omega)] at this
      exact this
    have cf : s_fig C (w + 29 + 1) = [] := congrArg (fun l : w_L => l.2.1) cl
    refine c_own (fun D d1 d2 d3 d4 => ?_)
    have f0 : s_fig D (w + 29 + 1) = [] := by rw [← cf]; unfold s_fig; rw [d4 _ (by omega) (by omega) (by omega) (by omega), d4 _ (by omega) (by omega) (by omega) (by omega), d4 _ (by omega) (by omega) (by omega) (by omega)]
    have k0 : s_fok D (w + 29 + 1) := by unfold s_fok; rw [d4 _ (by omega) (by omega) (by omega) (by omega)]; exact lk.1
    refine c_fadd k0 (fun E1 g1 g2 g3 g4 => c_fadd g2 (fun E2 i1 i2 i3 i4 => c_fadd i2 (fun E3 j1 j2 j3 j4 => c_fadd j2 (fun E4 l1 l2 l3 l4 => ?_))))
    have fe : s_fig E4 (w + 29 + 1) = [(0, 0), (1000, 0), (1000, 1000), (0, 1000)] := by
      rw [l1, j1, i1, g1, f0]; rfl
    have fr : ∀ b, b < w + 29 ∨ w + 29 + 9 ≤ b → E4 b = C b := fun b hb => by rw [l4 b (by omega) (by omega) (by omega), j4 b (by omega) (by omega) (by omega), i4 b (by omega) (by omega) (by omega), g4 b (by omega) (by omega) (by omega), d4 b (by omega) (by omega) (by omega) (by omega)]
    have fx : ∀ b, b ≠ w + 29 + 1 → b ≠ w + 29 + 1 + 1 → b ≠ w + 29 + 1 + 2 → E4 b = D b := fun b b0 b1 b2 => by rw [l4 b b0 b1 b2, j4 b b0 b1 b2, i4 b b0 b1 b2, g4 b b0 b1 b2]
    have lk4 : w_lok E4 (w_al w 0) := by
      rw [hl0']
      refine ⟨l2, ?_, ?_⟩
      · unfold s_rok; rw [fx _ (by omega) (by omega) (by omega), d4 _ (by omega) (by omega) (by omega) (by omega)]; exact lk.2.1
      · unfold s_ook; rw [fx _ (by omega) (by omega) (by omega)]; exact d2
    obtain ⟨v1, v2, v3⟩ := w_upL c1 (i := 0) (by omega) (M' := E4) (fun b hb => fr b (by unfold w_al at hb; omega)) lk4
    have lot0 : x_lot E4 (w_al w 0) = w_land := by
      rw [hl0']
      have r1 : s_row E4 (w + 29 + 4) = [] := by
        have c4 : s_row C (w + 29 + 4) = [] := congrArg (fun l : w_L => l.2.2.1) cl
        rw [← c4]
        exact s_row_congr (by rw [fx _ (by omega) (by omega) (by omega), d4 _ (by omega) (by omega) (by omega) (by omega)]) (by rw [fx _ (by omega) (by omega) (by omega), d4 _ (by omega) (by omega) (by omega) (by omega)])
      have o1 : s_own E4 (w + 29) = [(0, 1, 1)] := by
        rw [← d1]
        exact s_own_congr (by rw [fx _ (by omega) (by omega) (by omega)]) (fx _ (by omega) (by omega) (by omega)) (fx _ (by omega) (by omega) (by omega)) (fx _ (by omega) (by omega) (by omega))
      unfold x_lot w_land
      rw [fe, r1, o1]
      refine Prod.ext (funext fun k => ?_) rfl
      show (if k < 3 then E4 (w + 29) k else 0) = _
      have := congrFun (congrArg (fun l : w_L => l.1) cl) k
      change (if k < 3 then C (w + 29) k else 0) = if k = 0 then 7809644604612935680 else 0 at this
      refine Eq.trans ?_ this
      rw [fx _ (by omega) (by omega) (by omega)]
      split
      · rw [d3 k (by omega)]
      · rfl
    have own4 : E4 w = M6 w := by rw [fr w (by omega), c3 w (by omega) (by omega), hB w (by omega), a3 w (by omega) (by omega), hN w (by omega)]
    refine hq E4 v1 ?_ ?_ ?_ ?_
    · rw [v2, c2, u2, a2, n2, lot0]
      refine Prod.ext (funext fun s => ?_) (Prod.ext (funext fun i => ?_) (Prod.ext (funext fun j => ?_) ?_))
      · show s_fu (B (w + 24)) 0 1 s = w_sz0 (M (w + 24)) s
        unfold w_sz0
        rw [bz, az]
        unfold s_fu
        have := hz s
        by_cases c0 : s = 0
        · subst c0; rfl
        · rw [if_neg c0]
          by_cases c1 : s = 1
          · subst c1; rfl
          · rw [if_neg c1, if_neg (by omega), this]
            by_cases c8 : s < 8
            · rw [if_pos (by omega), if_pos c8]
            · rw [if_neg (by omega), if_neg c8]
      · show s_fu (s_fu _ (0 : Int).toNat _) 0 w_land i = s_fu _ 0 w_land i
        by_cases c : i = 0
        · subst c; rw [s_fu_eq, s_fu_eq]
        · rw [s_fu_ne c, s_fu_ne c, s_fu_ne (by omega)]; rfl
      · show s_fu (s_fu _ (w_F 1 + (0 : Int).toNat) _) 0 (x_th B (w_at w 0)) j = s_fu _ 0 _ j
        by_cases c : j = 0
        · subst c
          rw [s_fu_eq, s_fu_eq]
          have xa : x_th A (w_at w 0) = (t_new 7165912515837165568 ((M (w + 12) 11).toNat) 0 (N (w_at w 0)), [], []) := by
            have := congrFun (congrArg (fun S : w_S => S.2.2.1) a2) 0
            rw [w_of_t (by omega)] at this
            exact this
          have xb : x_th B (w_at w 0) = (s_fu (A (w_at w 0)) 7 1, s_row A (w_at w 0 + 1), s_row A (w_at w 0 + 3)) := by
            unfold x_th
            rw [s_row_congr (M := A) (M' := B) (hB _ (by omega)) (hB _ (by omega)), s_row_congr (M := A) (M' := B) (a := w_at w 0 + 3) (hB _ (by omega)) (hB _ (by omega)), eb, s_fu_up]
          rw [xb, show A (w_at w 0) = t_new 7165912515837165568 ((M (w + 12) 11).toNat) 0 (N (w_at w 0)) from congrArg (fun t : w_T => t.1) xa, show s_row A (w_at w 0 + 1) = [] from congrArg (fun t : w_T => t.2.1) xa, show s_row A (w_at w 0 + 3) = [] from congrArg (fun t : w_T => t.2.2) xa, b6 _ (by omega) (by omega)]
          rfl
        · rw [s_fu_ne c, s_fu_ne c, s_fu_ne (show j ≠ w_F 1 + (0 : Int).toNat from c)]
      · show N w 11 = 0
        exact d11
    · rw [own4]
      refine ⟨?_, ?_, ?_, ?_, ?_⟩ <;> rw [r6] <;> rfl
    · intro k k9 k10 k11 k12 k13 k14
      rw [own4, r6, if_neg k9, if_neg k10, if_neg k11, if_neg k14, if_neg k13, if_neg k12]
    · intro b b0 b24 hb
      rw [fr b (by omega), c3 b b24 hb, hB b (by omega), a3 b b24 hb, hN b b24, o6 b b0]
  · intro d i N k1 k2 ⟨hN, hz⟩ ih
    refine ⟨fun z => by omega, fun _ => ⟨⟨k1, k2⟩, fun M13 e13 => ?_⟩⟩
    rw [s_w (by omega) (by omega)]
    refine ih M13 ⟨fun b hb => by rw [e13, e_up_row hb, hN b hb], fun s => ?_⟩
    rw [e13, e_up_at, hz]
    by_cases c : s = i.toNat
    · rw [if_pos c, if_pos (by omega)]
    · rw [if_neg c]
      by_cases c2 : (s : Int) < i
      · rw [if_pos c2, if_pos (by omega)]
      · rw [if_neg c2, if_neg (by omega)]
