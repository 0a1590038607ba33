/-! the reading of a tape: a pure reader, and the class's words -/
abbrev q_S : Type := Nat × Int × Int × v_D
abbrev q_Tk : Type := Nat → Int × Int × Int
def q_tk (T : q_Tk) (s : q_S) : Int := if s.2.1 = 0 then (T s.1).1 else 5
def q_val (T : q_Tk) (s : q_S) : Int := (T s.1).2.2
def q_note (T : q_Tk) (k : Int) (s : q_S) : q_S := if s.2.1 = 0 then (s.1, k, (T s.1).2.1, s.2.2.2) else s
def q_take (T : q_Tk) (n : Nat) (s : q_S) : q_S := if s.2.1 = 0 then (if 600 ≤ (T s.1).2.1 then (s.1, 4, (T s.1).2.1, s.2.2.2) else if s.1 + 1 < n then (s.1 + 1, s.2) else s) else s
def q_exp (T : q_Tk) (n : Nat) (k : Int) (s : q_S) : q_S := if q_tk T s = k then q_take T n s else q_note T 1 s
def q_D (f : v_D → v_D) (s : q_S) : q_S := (s.1, s.2.1, s.2.2.1, f s.2.2.2)
def qd_set (k : Nat) (v : Int) (D : v_D) : v_D := (s_fu D.1 k v, D.2)
def qd_name (v w : Int) (D : v_D) : v_D := if D.1 7 < 8 then (s_fu D.1 7 (D.1 7 + 1), s_fu D.2.1 (D.1 7).toNat v, s_fu D.2.2.1 (D.1 7).toNat w, D.2.2.2) else D
def qd_part (a b : Int) (D : v_D) : v_D := if D.1 15 < 6 then (s_fu D.1 15 (D.1 15 + 1), D.2.1, D.2.2.1, D.2.2.2.1 ++ [(a, b)], D.2.2.2.2) else D
def qd_pt (a b : Int) (D : v_D) : v_D := if D.1 18 < 12 then (s_fu D.1 18 (D.1 18 + 1), D.2.1, D.2.2.1, D.2.2.2.1, D.2.2.2.2 ++ [(a, b)]) else D
def qd_fix (D : v_D) : v_D := (D.1, D.2.1, D.2.2.1, D.2.2.2.1.map (fun q => if q.1 = 0 then (1, D.1 15) else q), D.2.2.2.2)
def qd_clear (D : v_D) : v_D := (s_fu (s_fu (s_fu (s_fu (s_fu (s_fu (s_fu (s_fu (s_fu (s_fu (s_fu (s_fu (s_fu D.1 0 0) 1 0) 2 0) 3 0) 4 0) 7 0) 8 0) 9 0) 10 0) 11 0) 12 1) 15 0) 18 0, D.2.1, D.2.2.1, [], [])
/-- the Reader at hand -/
def c_rs (M : e_M) (T : q_Tk) (n : Nat) (s : q_S) : Prop := (M 10 5 = s.1 ∧ M 10 4 = n ∧ s.1 < n ∧ n ≤ 641) ∧ (∀ k, k < n → T k = (M 12 k, M 13 k, M 14 k)) ∧ M 10 6 = q_tk T s ∧ M 10 7 = s.2.1 ∧ M 10 8 = s.2.2.1
def q_rf (M M' : e_M) : Prop := (∀ b, b ≠ 10 → M' b = M b) ∧ ∀ k, (k < 5 ∨ 8 < k) → M' 10 k = M 10 k
/-- the Reader at hand with the DEED that it reads into; B: the memory before -/
def c_rd (B M : e_M) (T : q_Tk) (n d : Nat) (s : q_S) : Prop := c_rs M T n s ∧ (M 10 9 = d ∧ (d + 6 < 10 ∨ 22 ≤ d)) ∧ ((s.2.1 = 0 → v_of M d = s.2.2.2) ∧ s_dok M d) ∧ (∀ b, b ≠ 10 → (b < d ∨ d + 6 < b) → M b = B b) ∧ ∀ k, (k < 5 ∨ k = 9 ∨ 11 < k) → M 10 k = B 10 k
theorem c_rs_b {M : e_M} {T : q_Tk} {n : Nat} {s : q_S} (h : c_rs M T n s) : (0 ≤ M 10 5 ∧ M 10 5 < 641) ∧ (M 10 5).toNat = s.1 ∧ (M 12 s.1 = (T s.1).1 ∧ M 13 s.1 = (T s.1).2.1 ∧ M 14 s.1 = (T s.1).2.2) := by
  obtain ⟨⟨h1, h2, h3, h4⟩, h5, h6⟩ := h
  refine ⟨by omega, by omega, ?_⟩
  rw [h5 _ h3]
  exact ⟨rfl, rfl, rfl⟩
theorem q_tk0 {T : q_Tk} {s : q_S} (h : s.2.1 = 0) : q_tk T s = (T s.1).1 := if_pos h
theorem q_tk5 {T : q_Tk} {s : q_S} (h : s.2.1 ≠ 0) : q_tk T s = 5 := if_neg h
theorem rk_note {M : e_M} {T : q_Tk} {n : Nat} {s : q_S} {k : Int} {Q : e_M → Prop} (h : c_rs M T n s) (hk : k ≠ 0) (hq : ∀ M', c_rs M' T n (q_note T k s) → q_rf M M' → Q M') : WX7_note k M Q := by
  obtain ⟨b1, b2, b3⟩ := c_rs_b h
  obtain ⟨⟨h1, h2, h3, h4⟩, h5, h6, h7, h8⟩ := h
  refine ⟨fun g => ?_, fun g => ?_⟩
  · have e : q_note T k s = s := if_neg (by rw [← h7]; exact g)
    exact hq M (by rw [e]; exact ⟨⟨h1, h2, h3, h4⟩, h5, h6, h7, h8⟩) ⟨fun _ _ => rfl, fun _ _ => rfl⟩
  · intro M1 e1
    have r1 : M1 10 5 = M 10 5 := by rw [e1, e_up_ne (by omega)]
    refine ⟨by rw [r1]; exact b1, fun M2 e2 M3 e3 => ?_⟩
    have e : q_note T k s = (s.1, k, (T s.1).2.1, s.2.2.2) := if_pos (by rw [← h7]; exact g)
    have o1 : ∀ b, b ≠ 10 → M3 b = M b := fun b hb => by rw [e3, e_up_row hb, e2, e_up_row hb, e1, e_up_row hb]
    refine hq M3 ?_ ⟨o1, fun j hj => ?_⟩
    · rw [e]
      refine ⟨⟨?_, ?_, h3, h4⟩, fun j hj => ?_, ?_, ?_, ?_⟩
      · rw [e3, e_up_ne (by omega), e2, e_up_ne (by omega), r1]; exact h1
      · rw [e3, e_up_ne (by omega), e2, e_up_ne (by omega), e1, e_up_ne (by omega)]; exact h2
      · rw [o1 12 (by omega), o1 13 (by omega), o1 14 (by omega)]; exact h5 j hj
      · rw [e3, e_up_eq, q_tk5 hk]
      · rw [e3, e_up_ne (by omega), e2, e_up_ne (by omega), e1, e_up_eq]
      · rw [e3, e_up_ne (by omega), e2, e_up_eq, r1, b2, e1, e_up_row (by omega), b3.2.1]
    · rw [e3, e_up_ne (by omega), e2, e_up_ne (by omega), e1, e_up_ne (by omega)]
theorem rk_take {M : e_M} {T : q_Tk} {n : Nat} {s : q_S} {Q : e_M → Prop} (h : c_rs M T n s) (hq : ∀ M', c_rs M' T n (q_take T n s) → q_rf M M' → Q M') : WX7_take M Q := by
  obtain ⟨b1, b2, b3⟩ := c_rs_b h
  have h0 := h
  obtain ⟨⟨h1, h2, h3, h4⟩, h5, h6, h7, h8⟩ := h
  unfold q_take at hq
  refine ⟨fun g => ?_, fun g => ?_⟩
  · rw [if_pos (by rw [← h7]; exact g)] at hq
    refine ⟨b1, fun g1 => ?_, fun g1 => ?_⟩
    · rw [b2, b3.2.1] at g1
      rw [if_neg (by omega)] at hq
      have w : e_w32 (M 10 5 + 1) = M 10 5 + 1 := e_w32_id ⟨by omega, by omega⟩
      rw [w]
      refine ⟨fun g2 => ?_, fun g2 M1 e1 => ?_⟩
      · rw [if_neg (by omega)] at hq
        exact hq M h0 ⟨fun _ _ => rfl, fun _ _ => rfl⟩
      · rw [if_pos (by omega)] at hq
        have r1 : M1 10 5 = M 10 5 + 1 := by rw [e1, e_up_eq]
        refine ⟨by rw [r1]; omega, fun M2 e2 => ?_⟩
        have o1 : ∀ b, b ≠ 10 → M2 b = M b := fun b hb => by rw [e2, e_up_row hb, e1, e_up_row hb]
        refine hq M2 ⟨⟨?_, ?_, by show s.1 + 1 < n; omega, h4⟩, fun j hj => ?_, ?_, ?_, ?_⟩ ⟨o1, fun j hj => ?_⟩
        · rw [e2, e_up_ne (by omega), r1]; show M 10 5 + 1 = ((s.1 + 1 : Nat) : Int); omega
        · rw [e2, e_up_ne (by omega), e1, e_up_ne (by omega)]; exact h2
        · rw [o1 12 (by omega), o1 13 (by omega), o1 14 (by omega)]; exact h5 j hj
        · rw [e2, e_up_eq, r1, e1, e_up_row (by omega), q_tk0 (by show s.2.1 = 0; rw [← h7]; exact g), show (M 10 5 + 1).toNat = s.1 + 1 by omega, h5 (s.1 + 1) (by omega)]
        · rw [e2, e_up_ne (by omega), e1, e_up_ne (by omega)]; exact h7
        · rw [e2, e_up_ne (by omega), e1, e_up_ne (by omega)]; exact h8
        · rw [e2, e_up_ne (by omega), e1, e_up_ne (by omega)]
    · rw [b2, b3.2.1] at g1
      rw [if_pos (by omega)] at hq
      intro M1 e1
      have r1 : M1 10 5 = M 10 5 := by rw [e1, e_up_ne (by omega)]
      refine ⟨by rw [r1]; exact b1, fun M2 e2 M3 e3 => ?_⟩
      have o1 : ∀ b, b ≠ 10 → M3 b = M b := fun b hb => by rw [e3, e_up_row hb, e2, e_up_row hb, e1, e_up_row hb]
      refine hq M3 ⟨⟨?_, ?_, h3, h4⟩, fun j hj => ?_, ?_, ?_, ?_⟩ ⟨o1, fun j hj => ?_⟩
      · rw [e3, e_up_ne (by omega), e2, e_up_ne (by omega), r1]; exact h1
      · rw [e3, e_up_ne (by omega), e2, e_up_ne (by omega), e1, e_up_ne (by omega)]; exact h2
      · rw [o1 12 (by omega), o1 13 (by omega), o1 14 (by omega)]; exact h5 j hj
      · rw [e3, e_up_eq, q_tk5 (by show (4 : Int) ≠ 0; decide)]
      · rw [e3, e_up_ne (by omega), e2, e_up_ne (by omega), e1, e_up_eq]
      · rw [e3, e_up_ne (by omega), e2, e_up_eq, r1, b2, e1, e_up_row (by omega), b3.2.1]
      · rw [e3, e_up_ne (by omega), e2, e_up_ne (by omega), e1, e_up_ne (by omega)]
  · rw [if_neg (by rw [← h7]; exact g)] at hq
    exact hq M h0 ⟨fun _ _ => rfl, fun _ _ => rfl⟩
theorem rk_exp {M : e_M} {T : q_Tk} {n : Nat} {s : q_S} {k : Int} {Q : e_M → Prop} (h : c_rs M T n s) (hq : ∀ M', c_rs M' T n (q_exp T n k s) → q_rf M M' → Q M') : WX7_expect k M Q := by
  unfold q_exp at hq
  refine ⟨fun g => ?_, fun g => ?_⟩
  · rw [if_neg (by rw [← h.2.2.1]; exact g)] at hq
    exact rk_note h (by decide) hq
  · rw [if_pos (by rw [← h.2.2.1]; exact g)] at hq
    exact rk_take h hq
theorem q_note_D {T : q_Tk} {k : Int} {s : q_S} : (q_note T k s).2.2.2 = s.2.2.2 := by unfold q_note; split <;> rfl
theorem q_take_D {T : q_Tk} {n : Nat} {s : q_S} : (q_take T n s).2.2.2 = s.2.2.2 := by unfold q_take; repeat' split <;> first | rfl | skip
theorem q_exp_D {T : q_Tk} {n : Nat} {k : Int} {s : q_S} : (q_exp T n k s).2.2.2 = s.2.2.2 := by
  unfold q_exp
  split
  · exact q_take_D
  · exact q_note_D
/-- dead stays dead -/
def q_dd (p : q_S → q_S) : Prop := ∀ s : q_S, s.2.1 ≠ 0 → (p s).2.1 = s.2.1 ∧ (p s).2.2.1 = s.2.2.1 ∧ (p s).1 = s.1
theorem q_dd0 {p : q_S → q_S} (h : q_dd p) {s : q_S} (e : (p s).2.1 = 0) : s.2.1 = 0 := by
  by_cases g : s.2.1 = 0
  · exact g
  · rw [(h s g).1] at e; exact e
theorem q_note_dd {T : q_Tk} {k : Int} : q_dd (q_note T k) := fun s h => by unfold q_note; rw [if_neg h]; exact ⟨rfl, rfl, rfl⟩
theorem q_take_dd {T : q_Tk} {n : Nat} : q_dd (q_take T n) := fun s h => by unfold q_take; rw [if_neg h]; exact ⟨rfl, rfl, rfl⟩
theorem q_exp_dd {T : q_Tk} {n : Nat} {k : Int} : q_dd (q_exp T n k) := fun s h => by
  unfold q_exp
  split
  · exact q_take_dd s h
  · exact q_note_dd s h
theorem c_rd_of {B M M' : e_M} {T : q_Tk} {n d : Nat} {s s' : q_S} (h : c_rd B M T n d s) (h' : c_rs M' T n s') (fr : q_rf M M') (eD : s'.2.2.2 = s.2.2.2) (e0 : s'.2.1 = 0 → s.2.1 = 0) : c_rd B M' T n d s' := by
  obtain ⟨h1, h2, h3, h4, h5⟩ := h
  have er : ∀ j, j < 7 → M' (d + j) = M (d + j) := fun j hj => fr.1 _ (by omega)
  have ed : M' d = M d := er 0 (by omega)
  refine ⟨h', ⟨by rw [fr.2 9 (by omega)]; exact h2.1, h2.2⟩, ⟨fun e => ?_, ?_⟩, fun b hb hb2 => by rw [fr.1 b hb]; exact h4 b hb hb2, fun k hk => ?_⟩
  · rw [eD, ← h3.1 (e0 e)]
    unfold v_of s_dpt s_dps
    rw [ed, er 1 (by omega), er 2 (by omega), er 3 (by omega), er 4 (by omega), er 5 (by omega), er 6 (by omega)]
  · unfold s_dok
    rw [ed]
    exact h3.2
  · by_cases g : 8 < k ∨ k < 5
    · rw [fr.2 k (by omega)]; exact h5 k hk
    · omega
theorem rd_note {B M : e_M} {T : q_Tk} {n d : Nat} {s : q_S} {k : Int} {Q : e_M → Prop} (h : c_rd B M T n d s) (hk : k ≠ 0) (hq : ∀ M', c_rd B M' T n d (q_note T k s) → Q M') : WX7_note k M Q :=
  rk_note h.1 hk (fun M' h' fr => hq M' (c_rd_of h h' fr q_note_D (q_dd0 q_note_dd)))
theorem rd_take {B M : e_M} {T : q_Tk} {n d : Nat} {s : q_S} {Q : e_M → Prop} (h : c_rd B M T n d s) (hq : ∀ M', c_rd B M' T n d (q_take T n s) → Q M') : WX7_take M Q :=
  rk_take h.1 (fun M' h' fr => hq M' (c_rd_of h h' fr q_take_D (q_dd0 q_take_dd)))
theorem rd_exp {B M : e_M} {T : q_Tk} {n d : Nat} {s : q_S} {k : Int} {Q : e_M → Prop} (h : c_rd B M T n d s) (hq : ∀ M', c_rd B M' T n d (q_exp T n k s) → Q M') : WX7_expect k M Q :=
  rk_exp h.1 (fun M' h' fr => hq M' (c_rd_of h h' fr q_exp_D (q_dd0 q_exp_dd)))
theorem rd_num {B M : e_M} {T : q_Tk} {n d : Nat} {s : q_S} {Q : Int → e_M → Prop} (h : c_rd B M T n d s) (hq : ∀ M', c_rd B M' T n d (q_exp T n 3 s) → Q (e_w32 (q_val T s)) M') : WX7_takeNumber M Q := by
  obtain ⟨b1, b2, b3⟩ := c_rs_b h.1
  refine ⟨b1, ?_⟩
  rw [b2, b3.2.2]
  exact rd_exp h hq
def q_date (T : q_Tk) (n : Nat) (s : q_S) : q_S := q_exp T n 2 (if q_tk T s = 2 ∧ e_w32 (q_val T s) < 0 then q_note T 2 s else s)
theorem rd_date {B M : e_M} {T : q_Tk} {n d : Nat} {s : q_S} {Q : Int → e_M → Prop} (h : c_rd B M T n d s) (hq : ∀ M', c_rd B M' T n d (q_date T n s) → Q (e_w32 (q_val T s)) M') : WX7_takeDate M Q := by
  obtain ⟨b1, b2, b3⟩ := c_rs_b h.1
  have ht := h.1.2.2.1
  unfold q_date at hq
  refine ⟨b1, ?_⟩
  rw [b2, b3.2.2, ht]
  refine ⟨fun g => ?_, fun g => ⟨fun g2 => ?_, fun g2 => ?_⟩⟩
  · rw [if_neg (fun z => g z.1)] at hq
    exact rd_exp h hq
  · rw [if_neg (fun z => by have := z.2; unfold q_val at this; omega)] at hq
    exact rd_exp h hq
  · rw [if_pos ⟨g, g2⟩] at hq
    exact rd_note h (by decide) (fun M' h' => rd_exp h' hq)
theorem rd_up {B M : e_M} {T : q_Tk} {n d c k : Nat} {v : Int} {s : q_S} {f : v_D → v_D} (h : c_rd B M T n d s) (hc : d ≤ c ∧ c ≤ d + 6) (hf : s.2.1 = 0 → v_of (e_up M c k v) d = f s.2.2.2) (hd : s_dok (e_up M c k v) d) : c_rd B (e_up M c k v) T n d (q_D f s) := by
  obtain ⟨⟨h1, h6, h7, h8, h9⟩, h2, h3, h4, h5⟩ := h
  have r : ∀ b, 10 ≤ b → b ≤ 14 → e_up M c k v b = M b := fun b hb hb2 => e_up_row (by omega)
  refine ⟨⟨?_, fun j hj => ?_, ?_, ?_, ?_⟩, ⟨?_, h2.2⟩, ⟨hf, hd⟩, fun b hb hb2 => ?_, fun j hj => ?_⟩
  · rw [r 10 (by omega) (by omega)]; exact h1
  · rw [r 12 (by omega) (by omega), r 13 (by omega) (by omega), r 14 (by omega) (by omega)]; exact h6 j hj
  · rw [r 10 (by omega) (by omega)]; exact h7
  · rw [r 10 (by omega) (by omega)]; exact h8
  · rw [r 10 (by omega) (by omega)]; exact h9
  · rw [r 10 (by omega) (by omega)]; exact h2.1
  · rw [e_up_row (by omega)]; exact h4 b hb hb2
  · rw [r 10 (by omega) (by omega)]; exact h5 j hj
theorem rd_set {B M : e_M} {T : q_Tk} {n d k : Nat} {v : Int} {s : q_S} (h : c_rd B M T n d s) (hk : k ≠ 7 ∧ k ≠ 15 ∧ k ≠ 18) : c_rd B (e_up M d k v) T n d (q_D (qd_set k v) s) := by
  refine rd_up h (by omega) (fun e => ?_) ?_
  · unfold qd_set
    rw [← h.2.2.1.1 e]
    unfold v_of s_dpt s_dps
    rw [s_fu_up, s_fu_ne (by omega), s_fu_ne (by omega), e_up_row (by omega), e_up_row (by omega), e_up_row (by omega), e_up_row (by omega), e_up_row (by omega), e_up_row (by omega)]
  · unfold s_dok
    rw [s_fu_up, s_fu_ne (by omega), s_fu_ne (by omega), s_fu_ne (by omega)]
    exact h.2.2.1.2
