/-! the class's World: what it holds, and its leaves -/
abbrev w_L : Type := (Nat → Int) × s_Fig × List Int × s_Own
abbrev w_T : Type := (Nat → Int) × List Int × List Int
/-- sizes, LOTS, things, DAY -/
abbrev w_S : Type := (Nat → Int) × (Nat → w_L) × (Nat → w_T) × Int
def w_F (s : Nat) : Nat := if s ≤ 1 then 0 else if s = 2 then 40 else if s = 3 then 80 else if s = 4 then 120 else if s = 5 then 160 else if s = 6 then 200 else 230
def w_mx (s : Nat) : Nat := if s = 0 then 80 else if s ≤ 5 then 40 else if s = 6 then 30 else 60
theorem w_Fk : ∀ s, s < 8 → f_kt 1000002 s = (w_F s : Int) := by decide +kernel
theorem w_mxk : ∀ s, s < 8 → f_kt 1000001 s = (w_mx s : Int) := by decide +kernel
theorem w_F_lt : ∀ s, s < 8 → 1 ≤ s → w_F s + w_mx s ≤ 290 := by decide +kernel
theorem w_F_ne {s r i j : Nat} (hs : 1 ≤ s ∧ s < 8) (hr : 1 ≤ r ∧ r < 8) (hi : i < w_mx s) (hj : j < w_mx r) (h : w_F s + i = w_F r + j) : s = r ∧ i = j := by
  have cs : s = 1 ∨ s = 2 ∨ s = 3 ∨ s = 4 ∨ s = 5 ∨ s = 6 ∨ s = 7 := by omega
  have cr : r = 1 ∨ r = 2 ∨ r = 3 ∨ r = 4 ∨ r = 5 ∨ r = 6 ∨ r = 7 := by omega
  have f1 : w_F 1 = 0 := rfl
  have f2 : w_F 2 = 40 := rfl
  have f3 : w_F 3 = 80 := rfl
  have f4 : w_F 4 = 120 := rfl
  have f5 : w_F 5 = 160 := rfl
  have f6 : w_F 6 = 200 := rfl
  have f7 : w_F 7 = 230 := rfl
  have m1 : w_mx 1 = 40 := rfl
  have m2 : w_mx 2 = 40 := rfl
  have m3 : w_mx 3 = 40 := rfl
  have m4 : w_mx 4 = 40 := rfl
  have m5 : w_mx 5 = 40 := rfl
  have m6 : w_mx 6 = 30 := rfl
  have m7 : w_mx 7 = 60 := rfl
  rcases cs with e | e | e | e | e | e | e <;> rcases cr with g | g | g | g | g | g | g <;> subst e <;> subst g <;> omega
def s_fu {α : Type} (f : Nat → α) (i : Nat) (v : α) : Nat → α := fun k => if k = i then v else f k
theorem s_fu_eq {α : Type} {f : Nat → α} {i : Nat} {v : α} : s_fu f i v i = v := if_pos rfl
theorem s_fu_ne {α : Type} {f : Nat → α} {i k : Nat} {v : α} (h : k ≠ i) : s_fu f i v k = f k := if_neg h
theorem s_fu_up {M : e_M} {a k : Nat} {v : Int} : e_up M a k v a = s_fu (M a) k v := by funext j; rw [e_up_at]; rfl
def x_lot (M : e_M) (a : Nat) : w_L := (fun k => if k < 3 then M a k else 0, s_fig M (a + 1), s_row M (a + 4), s_own M a)
def x_th (M : e_M) (t : Nat) : w_T := (M t, s_row M (t + 1), s_row M (t + 3))
theorem x_lot_congr {M M' : e_M} {a : Nat} (h : ∀ b, a ≤ b → b < a + 9 → M' b = M b) : x_lot M' a = x_lot M a := by
  unfold x_lot s_fig s_row s_own
  rw [h a (by omega) (by omega), h (a + 1) (by omega) (by omega), h (a + 1 + 1) (by omega) (by omega), h (a + 1 + 2) (by omega) (by omega), h (a + 4) (by omega) (by omega), h (a + 4 + 1) (by omega) (by omega), h (a + 6) (by omega) (by omega), h (a + 7) (by omega) (by omega), h (a + 8) (by omega) (by omega)]
theorem x_th_congr {M M' : e_M} {t : Nat} (h : ∀ b, t ≤ b → b < t + 5 → M' b = M b) : x_th M' t = x_th M t := by
  unfold x_th s_row
  rw [h t (by omega) (by omega), h (t + 1) (by omega) (by omega), h (t + 1 + 1) (by omega) (by omega), h (t + 3) (by omega) (by omega), h (t + 3 + 1) (by omega) (by omega)]
def w_al (w i : Nat) : Nat := w + 29 + 9 * i
def w_at (w j : Nat) : Nat := w + 749 + 5 * j
def w_Ln : w_L := (fun _ => 0, [], [], [])
def w_Tn : w_T := (fun _ => 0, [], [])
def w_of (M : e_M) (w : Nat) : w_S := (M (w + 24), fun i => if i < 80 then x_lot M (w_al w i) else w_Ln, fun j => if j < 290 then x_th M (w_at w j) else w_Tn, M w 11)
theorem w_of_l {M : e_M} {w i : Nat} (h : i < 80) : (w_of M w).2.1 i = x_lot M (w_al w i) := if_pos h
theorem w_of_t {M : e_M} {w j : Nat} (h : j < 290) : (w_of M w).2.2.1 j = x_th M (w_at w j) := if_pos h
theorem w_of_ext {M' : e_M} {w : Nat} {S : w_S} (h0 : M' (w + 24) = S.1) (h1 : ∀ i, i < 80 → x_lot M' (w_al w i) = S.2.1 i) (h1n : ∀ i, 80 ≤ i → w_Ln = S.2.1 i) (h2 : ∀ j, j < 290 → x_th M' (w_at w j) = S.2.2.1 j) (h2n : ∀ j, 290 ≤ j → w_Tn = S.2.2.1 j) (h3 : M' w 11 = S.2.2.2) : w_of M' w = S := by
  refine Prod.ext h0 (Prod.ext (funext fun i => ?_) (Prod.ext (funext fun j => ?_) h3))
  · show (if i < 80 then _ else _) = _
    split
    · exact h1 i (by assumption)
    · exact h1n i (by omega)
  · show (if j < 290 then _ else _) = _
    split
    · exact h2 j (by assumption)
    · exact h2n j (by omega)
theorem w_of_ln {M : e_M} {w i : Nat} (h : 80 ≤ i) : (w_of M w).2.1 i = w_Ln := if_neg (by omega)
theorem w_of_tn {M : e_M} {w j : Nat} (h : 290 ≤ j) : (w_of M w).2.2.1 j = w_Tn := if_neg (by omega)
def w_z (S : w_S) (s : Nat) : Int := S.1 s
def w_l (S : w_S) (i : Nat) : w_L := S.2.1 i
def w_t (S : w_S) (s i : Nat) : w_T := S.2.2.1 (w_F s + i)
def w_d (S : w_S) : Int := S.2.2.2
def w_setL (S : w_S) (i : Nat) (l : w_L) : w_S := (S.1, s_fu S.2.1 i l, S.2.2)
def w_setT (S : w_S) (j : Nat) (t : w_T) : w_S := (S.1, S.2.1, s_fu S.2.2.1 j t, S.2.2.2)
def w_lok (M : e_M) (a : Nat) : Prop := s_fok M (a + 1) ∧ s_rok M (a + 4) ∧ s_ook M a
def w_tok (M : e_M) (t : Nat) : Prop := (s_rok M (t + 1) ∧ s_rok M (t + 3)) ∧ M t 9 = ((t + 1 : Nat) : Int) ∧ M t 10 = ((t + 3 : Nat) : Int)
def w_ok (M : e_M) (w : Nat) : Prop := ((∀ i, i < 80 → M (w + 1) i = ((w_al w i : Nat) : Int)) ∧ ∀ j, j < 290 → M (w + 2) j = ((w_at w j : Nat) : Int)) ∧ (∀ s, s < 8 → 0 ≤ M (w + 24) s ∧ M (w + 24) s ≤ w_mx s) ∧ (∀ i, i < 80 → w_lok M (w_al w i)) ∧ ∀ j, j < 290 → w_tok M (w_at w j)
/-- the cells that may have changed are those of what the World holds -/
def w_fr (M M' : e_M) (w : Nat) : Prop := ∀ b, b ≠ w + 24 → (b < w + 29 ∨ w + 2199 ≤ b) → M' b = M b
theorem w_fr_refl {M : e_M} {w : Nat} : w_fr M M w := fun _ _ _ => rfl
theorem w_fr_trans {M N L : e_M} {w : Nat} (h1 : w_fr M N w) (h2 : w_fr N L w) : w_fr M L w := fun b b1 b2 => by rw [h2 b b1 b2, h1 b b1 b2]
theorem w_upL {M M' : e_M} {w i : Nat} (h : w_ok M w) (hi : i < 80) (hf : ∀ b, b < w_al w i ∨ w_al w i + 9 ≤ b → M' b = M b) (ho : w_lok M' (w_al w i)) : w_ok M' w ∧ w_of M' w = w_setL (w_of M w) i (x_lot M' (w_al w i)) ∧ w_fr M M' w := by
  unfold w_al at *
  obtain ⟨⟨h1, h2⟩, h3, h4, h5⟩ := h
  refine ⟨⟨⟨fun k hk => ?_, fun j hj => ?_⟩, fun s hs => ?_, fun k hk => ?_, fun j hj => ?_⟩, ?_, fun b b1 b2 => hf b (by omega)⟩
  · rw [hf _ (by omega)]; exact h1 k hk
  · rw [hf _ (by omega)]; exact h2 j hj
  · rw [hf _ (by omega)]; exact h3 s hs
  · by_cases e : k = i
    · subst e; exact ho
    · have := h4 k hk
      unfold w_lok s_fok s_rok s_ook w_al at *
      rw [hf _ (by omega), hf _ (by omega), hf _ (by omega)]
      exact this
  · have := h5 j hj
    unfold w_tok s_rok w_at at *
    rw [hf _ (by omega), hf _ (by omega), hf _ (by omega)]
    exact this
  · refine w_of_ext (hf _ (by omega)) (fun k hk => ?_) (fun k hk => ?_) (fun j hj => ?_) (fun j hj => ?_) (by show M' w 11 = M w 11; rw [hf w (by omega)])
    · show _ = s_fu _ _ _ k
      by_cases e : k = i
      · subst e; rw [s_fu_eq]; rfl
      · rw [s_fu_ne e, w_of_l hk]
        exact x_lot_congr (fun b b1 b2 => hf b (by unfold w_al at b1 b2; omega))
    · show _ = s_fu _ _ _ k
      rw [s_fu_ne (by omega), w_of_ln hk]
    · show _ = (w_of M w).2.2.1 j
      rw [w_of_t hj]
      exact x_th_congr (fun b b1 b2 => hf b (by unfold w_at at b1 b2; omega))
    · show _ = (w_of M w).2.2.1 j
      rw [w_of_tn hj]
theorem w_upT {M M' : e_M} {w j : Nat} (h : w_ok M w) (hj : j < 290) (hf : ∀ b, b < w_at w j ∨ w_at w j + 5 ≤ b → M' b = M b) (ho : w_tok M' (w_at w j)) : w_ok M' w ∧ w_of M' w = w_setT (w_of M w) j (x_th M' (w_at w j)) ∧ w_fr M M' w := by
  unfold w_at at *
  obtain ⟨⟨h1, h2⟩, h3, h4, h5⟩ := h
  refine ⟨⟨⟨fun k hk => ?_, fun j hj => ?_⟩, fun s hs => ?_, fun k hk => ?_, fun k hk => ?_⟩, ?_, fun b b1 b2 => hf b (by omega)⟩
  · rw [hf _ (by omega)]; exact h1 k hk
  · rw [hf _ (by omega)]; exact h2 j hj
  · rw [hf _ (by omega)]; exact h3 s hs
  · have := h4 k hk
    unfold w_lok s_fok s_rok s_ook w_al at *
    rw [hf _ (by omega), hf _ (by omega), hf _ (by omega)]
    exact this
  · by_cases e : k = j
    · subst e; exact ho
    · have := h5 k hk
      unfold w_tok s_rok w_at at *
      rw [hf _ (by omega), hf _ (by omega), hf _ (by omega)]
      exact this
  · refine w_of_ext (hf _ (by omega)) (fun k hk => ?_) (fun k hk => ?_) (fun k hk => ?_) (fun k hk => ?_) (by show M' w 11 = M w 11; rw [hf w (by omega)])
    · show _ = (w_of M w).2.1 k
      rw [w_of_l hk]
      exact x_lot_congr (fun b b1 b2 => hf b (by unfold w_al at b1 b2; omega))
    · show _ = (w_of M w).2.1 k
      rw [w_of_ln hk]
    · show _ = s_fu _ _ _ k
      by_cases e : k = j
      · subst e; rw [s_fu_eq]; rfl
      · rw [s_fu_ne e, w_of_t hk]
        exact x_th_congr (fun b b1 b2 => hf b (by unfold w_at at b1 b2; omega))
    · show _ = s_fu _ _ _ k
      rw [s_fu_ne (by omega), w_of_tn hk]
theorem k_lot {M : e_M} {w : Nat} {n : Int} {Q : Nat → Prop} (h : w_ok M w) (h0 : 0 ≤ n) (h1 : n < M (w + 24) 0) (hq : Q (w_al w n.toNat)) : WX10_lot w n M Q := by
  have hz := h.2.1 0 (by omega)
  have hm : w_mx 0 = 80 := rfl
  refine ⟨fun e => by omega, fun _ => ⟨by omega, fun e => absurd h1 (Int.not_lt.mpr e), fun _ => ⟨by omega, ?_⟩⟩⟩
  rw [h.1.1 n.toNat (by omega)]
  exact hq
theorem k_at {M : e_M} {w : Nat} {s n : Int} {Q : Nat → Prop} (h : w_ok M w) (hs : 1 ≤ s ∧ s < 8) (h0 : 0 ≤ n) (h1 : n < M (w + 24) s.toNat) (hq : Q (w_at w (w_F s.toNat + n.toNat))) : WX10_at w s n M Q := by
  have hz := h.2.1 s.toNat (by omega)
  have hm := w_F_lt s.toNat (by omega) (by omega)
  refine ⟨fun e => by omega, fun _ => ⟨fun e => by omega, fun _ => ⟨fun e => by omega, fun _ => ⟨by omega, fun _ => ⟨by omega, ?_⟩, fun e => by omega⟩⟩⟩⟩
  rw [w_Fk s.toNat (by omega), s_w (by omega) (by omega), h.1.2 _ (by omega), show ((w_F s.toNat : Int) + n).toNat = w_F s.toNat + n.toNat by omega]
  exact ⟨by omega, hq⟩
theorem k_isFull {M : e_M} {w : Nat} {s : Int} {Q : Int → Prop} (hs : 0 ≤ s ∧ s < 8) (q1 : (w_mx s.toNat : Int) ≤ M (w + 24) s.toNat → Q 1) (q0 : M (w + 24) s.toNat < w_mx s.toNat → Q 0) : WX10_isFull w s M Q := by
  refine ⟨hs, hs, ?_⟩
  rw [w_mxk s.toNat (by omega)]
  exact ⟨q0, q1⟩
def l_new (called : Int) : w_L := (fun k => if k = 0 then called else 0, [], [], [])
theorem k_addLot {M : e_M} {w : Nat} {called : Int} {Q : Int → e_M → Prop} (h : w_ok M w) (h1 : M (w + 24) 0 < 80) (hq : ∀ M', w_ok M' w → w_of M' w = (s_fu (M (w + 24)) 0 (M (w + 24) 0 + 1), s_fu (w_of M w).2.1 (M (w + 24) 0).toNat (l_new called), (w_of M w).2.2) → w_fr M M' w → Q (M (w + 24) 0) M') : WX10_addLot w called M Q := by
  have hz := h.2.1 0 (by omega)
  have hm : w_mx 0 = 80 := rfl
  unfold WX10_addLot VX10_addLot
  refine k_isFull (s := 0) (by omega) (fun e => absurd h1 (by have : (80 : Int) ≤ M (w + 24) 0 := e; omega)) (fun e => ⟨fun _ => ⟨by omega, ⟨hz.1, h1⟩, ?_⟩, fun z => absurd rfl z⟩)
  rw [show (M (w + 1) (M (w + 24) (0 : Int).toNat).toNat).toNat = w_al w (M (w + 24) 0).toNat by
    rw [h.1.1 _ (by show (M (w + 24) 0).toNat < 80; omega)]; rfl]
  have ha : w_al w (M (w + 24) 0).toNat = w + 29 + 9 * (M (w + 24) 0).toNat := rfl
  refine c_lbegin (fun M2 q1 q2 q3 q4 q5 q6 q7 q8 q9 q10 q11 => ⟨by omega, by omega, fun M3 e3 => ⟨by omega, ?_⟩⟩)
  have z2 : M2 (w + 24) = M (w + 24) := q11 _ (by omega) (by omega) (by omega)
  have z3 : M3 (w + 24) = s_fu (M (w + 24)) 0 (M (w + 24) 0 + 1) := by
    rw [e3, show (0 : Int).toNat = 0 from rfl, z2, s_w (by omega) (by omega), s_fu_up, z2]
  obtain ⟨u1, u2, u3⟩ := w_upL h (show (M (w + 24) 0).toNat < 80 by omega) (M' := M2) (fun b hb => q11 b (by omega) (by omega) (by omega)) ⟨q5, q7, q3⟩
  have o3 : ∀ b, b ≠ w + 24 → M3 b = M2 b := fun b hb => by rw [e3, e_up_row hb]
  rw [show M3 (w + 24) (0 : Int).toNat = M (w + 24) 0 + 1 by rw [z3]; rfl, show M (w + 24) 0 + 1 - 1 = M (w + 24) 0 by omega, s_w (by omega) (by omega)]
  refine hq M3 ⟨⟨fun k hk => ?_, fun j hj => ?_⟩, fun s hs => ?_, fun k hk => ?_, fun j hj => ?_⟩ ?_ (fun b b1 b2 => by rw [o3 b b1]; exact u3 b b1 b2)
  · rw [o3 _ (by omega)]; exact u1.1.1 k hk
  · rw [o3 _ (by omega)]; exact u1.1.2 j hj
  · rw [z3]
    by_cases e : s = 0
    · subst e; rw [s_fu_eq]; omega
    · rw [s_fu_ne e]; exact h.2.1 s hs
  · have := u1.2.2.1 k hk
    unfold w_lok s_fok s_rok s_ook w_al at *
    rw [o3 _ (by omega), o3 _ (by omega), o3 _ (by omega)]
    exact this
  · have := u1.2.2.2 j hj
    unfold w_tok s_rok w_at at *
    rw [o3 _ (by omega), o3 _ (by omega), o3 _ (by omega)]
    exact this
  · refine w_of_ext z3 (fun k hk => ?_) (fun k hk => ?_) (fun j hj => ?_) (fun j hj => ?_) ?_
    · rw [x_lot_congr (M := M2) (fun b b1 b2 => o3 b (by unfold w_al at b1; omega))]
      have := congrFun (congrArg (fun S : w_S => S.2.1) u2) k
      rw [w_of_l hk] at this
      refine this.trans ?_
      show s_fu _ _ _ k = s_fu _ _ _ k
      by_cases e : k = (M (w + 24) 0).toNat
      · rw [e, s_fu_eq, s_fu_eq]
        unfold x_lot l_new
        rw [q2, q4, q6]
        refine Prod.ext (funext fun j => ?_) rfl
        show (if j < 3 then _ else _) = if j = 0 then called else 0
        by_cases c : j < 3
        · rw [if_pos c]
          have : j = 0 ∨ j = 1 ∨ j = 2 := by omega
          rcases this with e | e | e <;> subst e
          · rw [q1.1]; rfl
          · rw [q1.2.1]; rfl
          · rw [q1.2.2]; rfl
        · rw [if_neg c, if_neg (by omega)]
      · rw [s_fu_ne e, s_fu_ne e]
    · show _ = s_fu _ _ _ k
      rw [s_fu_ne (by omega), w_of_ln hk]
    · rw [x_th_congr (M := M2) (fun b b1 b2 => o3 b (by unfold w_at at b1; omega))]
      have := congrFun (congrArg (fun S : w_S => S.2.2.1) u2) j
      rw [w_of_t hj] at this
      exact this
    · show _ = (w_of M w).2.2.1 j
      rw [w_of_tn hj]
    · show M3 w 11 = M w 11
      rw [o3 _ (by omega), q11 _ (by omega) (by omega) (by omega)]
theorem k_add {M : e_M} {w d : Nat} {s called made : Int} {Q : Nat → e_M → Prop} (h : w_ok M w) (hs : 1 ≤ s ∧ s < 8) (h1 : M (w + 24) s.toNat < w_mx s.toNat) (hq : ∀ M', w_ok M' w → w_of M' w = (s_fu (M (w + 24)) s.toNat (M (w + 24) s.toNat + 1), (w_of M w).2.1, s_fu (w_of M w).2.2.1 (w_F s.toNat + (M (w + 24) s.toNat).toNat) (t_new called d made (M (w_at w (w_F s.toNat + (M (w + 24) s.toNat).toNat))), [], []), (w_of M w).2.2.2) → w_fr M M' w → Q (w_at w (w_F s.toNat + (M (w + 24) s.toNat).toNat)) M') : WX10_add w s called d made M Q := by
  have hz := h.2.1 s.toNat (by omega)
  have hm := w_F_lt s.toNat (by omega) (by omega)
  have hs2 : 0 ≤ s ∧ s < 8 := by omega
  have hj : w_F s.toNat + (M (w + 24) s.toNat).toNat < 290 := by omega
  unfold WX10_add VX10_add
  refine k_isFull hs2 (fun e => by omega) (fun e => ⟨fun _ => ⟨hs2, hs2, ?_⟩, fun z => absurd rfl z⟩)
  rw [w_Fk s.toNat (by omega), s_w (x := (w_F s.toNat : Int) + M (w + 24) s.toNat) (by omega) (by omega), show ((w_F s.toNat : Int) + M (w + 24) s.toNat).toNat = w_F s.toNat + (M (w + 24) s.toNat).toNat by omega, h.1.2 _ hj]
  generalize hJ : w_F s.toNat + (M (w + 24) s.toNat).toNat = J at *
  have hT : ((w_at w J : Nat) : Int).toNat = w_at w J := by omega
  rw [hT]
  have ha : w_at w J = w + 749 + 5 * J := rfl
  obtain ⟨⟨k1, k3⟩, k9, k10⟩ := h.2.2.2 J hj
  refine ⟨by omega, c_tbegin k9 k10 (fun M2 q1 q2 q3 q4 q5 q6 => ⟨hs2, hs2, fun M3 e3 => ?_⟩)⟩
  have z2 : M2 (w + 24) = M (w + 24) := q6 _ (by omega) (by omega) (by omega)
  have z3 : M3 (w + 24) = s_fu (M (w + 24)) s.toNat (M (w + 24) s.toNat + 1) := by
    have : w_mx s.toNat ≤ 290 := by omega
    rw [e3, z2, s_w (by omega) (by omega), s_fu_up, z2]
  have tk : w_tok M2 (w_at w J) := by
    refine ⟨⟨?_, ?_⟩, ?_, ?_⟩
    · unfold s_rok; rw [q2]; omega
    · unfold s_rok; rw [q3]; omega
    · rw [q1]; show M (w_at w J) 9 = _; exact k9
    · rw [q1]; show M (w_at w J) 10 = _; exact k10
  obtain ⟨u1, u2, u3⟩ := w_upT h hj (M' := M2) (fun b hb => q6 b (by omega) (by omega) (by omega)) tk
  have o3 : ∀ b, b ≠ w + 24 → M3 b = M2 b := fun b hb => by rw [e3, e_up_row hb]
  refine hq M3 ⟨⟨fun k hk => ?_, fun j hj => ?_⟩, fun r hr => ?_, fun k hk => ?_, fun j hj => ?_⟩ ?_ (fun b b1 b2 => by rw [o3 b b1]; exact u3 b b1 b2)
  · rw [o3 _ (by omega)]; exact u1.1.1 k hk
  · rw [o3 _ (by omega)]; exact u1.1.2 j hj
  · rw [z3]
    by_cases e : r = s.toNat
    · subst e; rw [s_fu_eq]; omega
    · rw [s_fu_ne e]; exact h.2.1 r hr
  · have := u1.2.2.1 k hk
    unfold w_lok s_fok s_rok s_ook w_al at *
    rw [o3 _ (by omega), o3 _ (by omega), o3 _ (by omega)]
    exact this
  · have := u1.2.2.2 j hj
    unfold w_tok s_rok at *
    have hb : w_at w j = w + 749 + 5 * j := rfl
    rw [o3 _ (by omega), o3 _ (by omega), o3 _ (by omega)]
    exact this
  · refine w_of_ext z3 (fun k hk => ?_) (fun k hk => ?_) (fun j hj => ?_) (fun j hj => ?_) ?_
    · rw [x_lot_congr (M := M2) (fun b b1 b2 => o3 b (by unfold w_al at b1; omega))]
      have := congrFun (congrArg (fun S : w_S => S.2.1) u2) k
      rw [w_of_l hk] at this
      exact this
    · show _ = (w_of M w).2.1 k
      rw [w_of_ln hk]
    · rw [x_th_congr (M := M2) (fun b b1 b2 => o3 b (by unfold w_at at b1; omega))]
      have := congrFun (congrArg (fun S : w_S => S.2.2.1) u2) j
      rw [w_of_t hj] at this
      refine this.trans ?_
      show s_fu _ _ _ j = s_fu _ _ _ j
      by_cases e : j = J
      · rw [e, s_fu_eq, s_fu_eq]
        unfold x_th s_row
        rw [q1, q2, q3]; rfl
      · rw [s_fu_ne e, s_fu_ne e]
    · show _ = s_fu _ _ _ j
      rw [s_fu_ne (by omega), w_of_tn hj]
    · show M3 w 11 = M w 11
      rw [o3 _ (by omega), q6 _ (by omega) (by omega) (by omega)]
