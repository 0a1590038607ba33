/-! the class's words of a DEED read -/
theorem rd_any {B M M' : e_M} {T : q_Tk} {n d : Nat} {s : q_S} {f : v_D → v_D} (h : c_rd B M T n d s) (hM : ∀ b, (b < d ∨ d + 6 < b) → M' b = M b) (hf : s.2.1 = 0 → v_of M' d = f s.2.2.2) (hd : s_dok M' d) : c_rd B M' T n d (q_D f s) := by
  obtain ⟨⟨h1, h6, h7, h8, h9⟩, h2, h3, h4, h5⟩ := h
  have r : ∀ b, 10 ≤ b → b ≤ 14 → M' b = M b := fun b hb hb2 => hM _ (by omega)
  refine ⟨⟨?_, fun j hj => ?_, ?_, ?_, ?_⟩, ⟨?_, h2.2⟩, ⟨hf, hd⟩, fun b hb hb2 => ?_, fun j hj => ?_⟩
  · rw [r 10 (by omega) (by omega)]; exact h1
  · rw [r 12 (by omega) (by omega), r 13 (by omega) (by omega), r 14 (by omega) (by omega)]; exact h6 j hj
  · rw [r 10 (by omega) (by omega)]; exact h7
  · rw [r 10 (by omega) (by omega)]; exact h8
  · rw [r 10 (by omega) (by omega)]; exact h9
  · rw [r 10 (by omega) (by omega)]; exact h2.1
  · rw [hM b hb2]; exact h4 b hb hb2
  · rw [r 10 (by omega) (by omega)]; exact h5 j hj
theorem rd_setv {B M : e_M} {T : q_Tk} {n d k : Nat} {v v' : Int} {s : q_S} (h : c_rd B M T n d s) (hk : k ≠ 7 ∧ k ≠ 15 ∧ k ≠ 18) (hv : s.2.1 = 0 → v = v') : c_rd B (e_up M d k v) T n d (q_D (qd_set k v') s) := by
  refine rd_any h (fun b hb => e_up_row (by omega)) (fun e => ?_) (rd_set h hk).2.2.1.2
  rw [(rd_set h hk).2.2.1.1 e, hv e]
  rfl
theorem rd_id {B M : e_M} {T : q_Tk} {n d : Nat} {s : q_S} {f : v_D → v_D} (h : c_rd B M T n d s) (hf : s.2.1 = 0 → f s.2.2.2 = s.2.2.2) : c_rd B M T n d (q_D f s) :=
  rd_any h (fun _ _ => rfl) (fun e => by rw [hf e]; exact h.2.2.1.1 e) h.2.2.1.2
theorem rd_v {B M : e_M} {T : q_Tk} {n d : Nat} {s : q_S} (h : c_rd B M T n d s) (e : s.2.1 = 0) (k : Nat) : M d k = s.2.2.2.1 k := by
  rw [← h.2.2.1.1 e]
  rfl
theorem rd_dd {B M : e_M} {T : q_Tk} {n d : Nat} {s s' : q_S} (h : c_rd B M T n d s) (e : s.2.1 ≠ 0) (e' : s'.2.1 = s.2.1 ∧ s'.2.2.1 = s.2.2.1 ∧ s'.1 = s.1) : c_rd B M T n d s' := by
  obtain ⟨⟨h1, h6, h7, h8, h9⟩, h2, h3, h4, h5⟩ := h
  refine ⟨⟨by rw [e'.2.2]; exact h1, h6, ?_, by rw [e'.1]; exact h8, by rw [e'.2.1]; exact h9⟩, h2, ⟨fun z => absurd (e'.1 ▸ z) e, h3.2⟩, h4, h5⟩
  rw [h7, q_tk5 e, q_tk5 (by rw [e'.1]; exact e)]
theorem q_dd_c {p q : q_S → q_S} (hp : q_dd p) (hq : q_dd q) : q_dd (fun s => q (p s)) := fun s h => by
  have a := hp s h
  have b := hq (p s) (by rw [a.1]; exact h)
  exact ⟨b.1.trans a.1, b.2.1.trans a.2.1, b.2.2.trans a.2.2⟩
theorem q_dd_D {f : v_D → v_D} : q_dd (q_D f) := fun _ _ => ⟨rfl, rfl, rfl⟩
theorem q_dd_i : q_dd (fun s => s) := fun _ _ => ⟨rfl, rfl, rfl⟩
theorem q_dd_v {f : q_S → v_D → v_D} {p : q_S → q_S} (hp : q_dd p) : q_dd (fun s => q_D (f s) (p s)) := fun s h => hp s h
theorem q_dd_if {c : q_S → Prop} [∀ s, Decidable (c s)] {p q : q_S → q_S} (hp : q_dd p) (hq : q_dd q) : q_dd (fun s => if c s then p s else q s) := fun s h => by
  dsimp only
  split
  · exact hp s h
  · exact hq s h
theorem q_date_dd {T : q_Tk} {n : Nat} : q_dd (q_date T n) := q_dd_c (p := fun s => if q_tk T s = 2 ∧ e_w32 (q_val T s) < 0 then q_note T 2 s else s) (q_dd_if q_note_dd q_dd_i) q_exp_dd
/- the DEED's lists -/
theorem rd_addName {B M : e_M} {T : q_Tk} {n d : Nat} {s : q_S} {v w : Int} {Q : e_M → Prop} (h : c_rd B M T n d s) (hq : ∀ M', c_rd B M' T n d (q_D (qd_name v w) s) → Q M') : WX2_addName d v w M Q := by
  have hd := h.2.2.1.2
  refine ⟨fun g => hq M (rd_id h (fun e => ?_)), fun g => ?_⟩
  · unfold qd_name
    rw [if_neg (by rw [← rd_v h e 7]; omega)]
  · have k0 := hd.1
    refine ⟨by omega, fun M1 e1 => ?_⟩
    have r1 : M1 d = M d := by rw [e1, e_up_row (by omega)]
    rw [r1]
    refine ⟨by omega, fun M2 e2 M3 e3 => ?_⟩
    have r2 : M2 d = M d := by rw [e2, e_up_row (by omega), r1]
    have w1 : e_w32 (M d 7 + 1) = M d 7 + 1 := e_w32_id ⟨by omega, by omega⟩
    rw [r2, w1] at e3
    have r3 : M3 d = s_fu (M d) 7 (M d 7 + 1) := by rw [e3, s_fu_up, r2]
    have rr : ∀ b, b ≠ d → b ≠ d + 1 → b ≠ d + 2 → M3 b = M b := fun b g1 g2 g3 => by rw [e3, e_up_row g1, e2, e_up_row g3, e1, e_up_row g2]
    refine hq M3 (rd_any h (fun b hb => rr b (by omega) (by omega) (by omega)) (fun e => ?_) ?_)
    · unfold qd_name
      rw [if_pos (by rw [← rd_v h e 7]; exact g)]
      rw [← h.2.2.1.1 e]
      have a1 : M3 (d + 1) = s_fu (M (d + 1)) (M d 7).toNat v := by rw [e3, e_up_row (by omega), e2, e_up_row (by omega), e1, s_fu_up]
      have a2 : M3 (d + 2) = s_fu (M (d + 2)) (M d 7).toNat w := by rw [e3, e_up_row (by omega), e2, s_fu_up, e1, e_up_row (by omega)]
      unfold v_of s_dpt s_dps
      rw [r3, a1, a2, rr (d + 3) (by omega) (by omega) (by omega), rr (d + 4) (by omega) (by omega) (by omega), rr (d + 5) (by omega) (by omega) (by omega), rr (d + 6) (by omega) (by omega) (by omega), s_fu_ne (by omega), s_fu_ne (by omega)]
    · unfold s_dok
      rw [r3, s_fu_eq, s_fu_ne (by omega), s_fu_ne (by omega)]
      exact ⟨by omega, hd.2⟩
theorem rd_addPart {B M : e_M} {T : q_Tk} {n d : Nat} {s : q_S} {v w v' w' : Int} {Q : e_M → Prop} (h : c_rd B M T n d s) (hv : s.2.1 = 0 → v = v' ∧ w = w') (hq : ∀ M', c_rd B M' T n d (q_D (qd_part v' w') s) → Q M') : WX2_addPart d v w M Q := by
  have hd := h.2.2.1.2
  refine ⟨fun g => hq M (rd_id h (fun e => ?_)), fun g => ?_⟩
  · unfold qd_part
    rw [if_neg (by rw [← rd_v h e 15]; omega)]
  · have k0 := hd.2.1
    refine ⟨by omega, fun M1 e1 => ?_⟩
    have r1 : M1 d = M d := by rw [e1, e_up_row (by omega)]
    rw [r1]
    refine ⟨by omega, fun M2 e2 M3 e3 => ?_⟩
    have r2 : M2 d = M d := by rw [e2, e_up_row (by omega), r1]
    have w1 : e_w32 (M d 15 + 1) = M d 15 + 1 := e_w32_id ⟨by omega, by omega⟩
    rw [r2, w1] at e3
    have r3 : M3 d = s_fu (M d) 15 (M d 15 + 1) := by rw [e3, s_fu_up, r2]
    have rr : ∀ b, b ≠ d → b ≠ d + 3 → b ≠ d + 4 → M3 b = M b := fun b g1 g2 g3 => by rw [e3, e_up_row g1, e2, e_up_row g3, e1, e_up_row g2]
    refine hq M3 (rd_any h (fun b hb => rr b (by omega) (by omega) (by omega)) (fun e => ?_) ?_)
    · unfold qd_part
      rw [if_pos (by rw [← rd_v h e 15]; exact g)]
      rw [← h.2.2.1.1 e]
      have a1 : M3 (d + 3) = s_fu (M (d + 3)) (M d 15).toNat v := by rw [e3, e_up_row (by omega), e2, e_up_row (by omega), e1, s_fu_up]
      have a2 : M3 (d + 4) = s_fu (M (d + 4)) (M d 15).toNat w := by rw [e3, e_up_row (by omega), e2, s_fu_up, e1, e_up_row (by omega)]
      unfold v_of s_dpt s_dps
      rw [r3, a1, a2, rr (d + 1) (by omega) (by omega) (by omega), rr (d + 2) (by omega) (by omega) (by omega), rr (d + 5) (by omega) (by omega) (by omega), rr (d + 6) (by omega) (by omega) (by omega), s_fu_eq, s_fu_ne (by omega), s_ar_succ k0.1, s_fu_eq, s_fu_eq, (hv e).1, (hv e).2]
      have : s_ar (fun k => (s_fu (M (d + 3)) (M d 15).toNat v' k, s_fu (M (d + 4)) (M d 15).toNat w' k)) (M d 15) = s_ar (fun k => (M (d + 3) k, M (d + 4) k)) (M d 15) := s_ar_congr (fun i hi => by rw [s_fu_ne (by omega), s_fu_ne (by omega)])
      rw [this]
    · unfold s_dok
      rw [r3, s_fu_eq, s_fu_ne (by omega), s_fu_ne (by omega)]
      exact ⟨hd.1, by omega, hd.2.2⟩
theorem rd_addPoint {B M : e_M} {T : q_Tk} {n d : Nat} {s : q_S} {v w : Int} {Q : e_M → Prop} (h : c_rd B M T n d s) (hq : ∀ M', c_rd B M' T n d (q_D (qd_pt v w) s) → Q M') : WX2_addPoint d v w M Q := by
  have hd := h.2.2.1.2
  refine ⟨fun g => hq M (rd_id h (fun e => ?_)), fun g => ?_⟩
  · unfold qd_pt
    rw [if_neg (by rw [← rd_v h e 18]; omega)]
  · have k0 := hd.2.2
    refine ⟨by omega, fun M1 e1 => ?_⟩
    have r1 : M1 d = M d := by rw [e1, e_up_row (by omega)]
    rw [r1]
    refine ⟨by omega, fun M2 e2 M3 e3 => ?_⟩
    have r2 : M2 d = M d := by rw [e2, e_up_row (by omega), r1]
    have w1 : e_w32 (M d 18 + 1) = M d 18 + 1 := e_w32_id ⟨by omega, by omega⟩
    rw [r2, w1] at e3
    have r3 : M3 d = s_fu (M d) 18 (M d 18 + 1) := by rw [e3, s_fu_up, r2]
    have rr : ∀ b, b ≠ d → b ≠ d + 5 → b ≠ d + 6 → M3 b = M b := fun b g1 g2 g3 => by rw [e3, e_up_row g1, e2, e_up_row g3, e1, e_up_row g2]
    refine hq M3 (rd_any h (fun b hb => rr b (by omega) (by omega) (by omega)) (fun e => ?_) ?_)
    · unfold qd_pt
      rw [if_pos (by rw [← rd_v h e 18]; exact g)]
      rw [← h.2.2.1.1 e]
      have a1 : M3 (d + 5) = s_fu (M (d + 5)) (M d 18).toNat v := by rw [e3, e_up_row (by omega), e2, e_up_row (by omega), e1, s_fu_up]
      have a2 : M3 (d + 6) = s_fu (M (d + 6)) (M d 18).toNat w := by rw [e3, e_up_row (by omega), e2, s_fu_up, e1, e_up_row (by omega)]
      unfold v_of s_dpt s_dps
      rw [r3, a1, a2, rr (d + 1) (by omega) (by omega) (by omega), rr (d + 2) (by omega) (by omega) (by omega), rr (d + 3) (by omega) (by omega) (by omega), rr (d + 4) (by omega) (by omega) (by omega), s_fu_eq, s_fu_ne (by omega), s_ar_succ k0.1, s_fu_eq, s_fu_eq]
      have : s_ar (fun k => (s_fu (M (d + 5)) (M d 18).toNat v k, s_fu (M (d + 6)) (M d 18).toNat w k)) (M d 18) = s_ar (fun k => (M (d + 5) k, M (d + 6) k)) (M d 18) := s_ar_congr (fun i hi => by rw [s_fu_ne (by omega), s_fu_ne (by omega)])
      rw [this]
    · unfold s_dok
      rw [r3, s_fu_eq, s_fu_ne (by omega), s_fu_ne (by omega)]
      exact ⟨hd.1, hd.2.1, by omega⟩
theorem rd_clear {B M : e_M} {T : q_Tk} {n d : Nat} {s : q_S} {Q : e_M → Prop} (h : c_rd B M T n d s) (hq : ∀ M', c_rd B M' T n d (q_D qd_clear s) → Q M') : WX2_clear d M Q := by
  intro M1 e1 M2 e2 M3 e3 M4 e4 M5 e5 M6 e6 M7 e7 M8 e8 M9 e9 M10 e10 M11 e11 M12 e12 M13 e13
  have rr : ∀ b, b ≠ d → M13 b = M b := fun b g => by rw [e13, e_up_row g, e12, e_up_row g, e11, e_up_row g, e10, e_up_row g, e9, e_up_row g, e8, e_up_row g, e7, e_up_row g, e6, e_up_row g, e5, e_up_row g, e4, e_up_row g, e3, e_up_row g, e2, e_up_row g, e1, e_up_row g]
  have r3 : M13 d = s_fu (s_fu (s_fu (s_fu (s_fu (s_fu (s_fu (s_fu (s_fu (s_fu (s_fu (s_fu (s_fu (M d) 0 0) 1 0) 2 0) 3 0) 4 0) 7 0) 8 0) 9 0) 10 0) 11 0) 12 1) 15 0) 18 0 := by
    rw [e13, s_fu_up, e12, s_fu_up, e11, s_fu_up, e10, s_fu_up, e9, s_fu_up, e8, s_fu_up, e7, s_fu_up, e6, s_fu_up, e5, s_fu_up, e4, s_fu_up, e3, s_fu_up, e2, s_fu_up, e1, s_fu_up]
  have z7 : M13 d 7 = 0 := by rw [r3]; rfl
  have z15 : M13 d 15 = 0 := by rw [r3]; rfl
  have z18 : M13 d 18 = 0 := by rw [r3]; rfl
  refine hq M13 (rd_any h (fun b hb => rr b (by omega)) (fun e => ?_) (by unfold s_dok; omega))
  unfold qd_clear
  rw [← h.2.2.1.1 e]
  unfold v_of s_dpt s_dps
  rw [z15, z18, r3, rr (d + 1) (by omega), rr (d + 2) (by omega)]
  rfl
theorem rd_d {B M : e_M} {T : q_Tk} {n d : Nat} {s : q_S} (h : c_rd B M T n d s) : (M 10 9).toNat = d := by have := h.2.1.1; omega
def q_named (T : q_Tk) (n : Nat) (w : Int) (s : q_S) : q_S := q_exp T n 4 (q_D (qd_name (q_val T s) w) s)
theorem q_named_dd {T : q_Tk} {n : Nat} {w : Int} : q_dd (q_named T n w) := q_dd_c (p := fun s => q_D (qd_name (q_val T s) w) s) (fun _ _ => ⟨rfl, rfl, rfl⟩) q_exp_dd
theorem rd_named {B M : e_M} {T : q_Tk} {n d : Nat} {s : q_S} {w : Int} {Q : e_M → Prop} (h : c_rd B M T n d s) (hq : ∀ M', c_rd B M' T n d (q_named T n w s) → Q M') : WX7_named w M Q := by
  obtain ⟨b1, b2, b3⟩ := c_rs_b h.1
  refine ⟨b1, ?_⟩
  rw [b2, b3.2.2, rd_d h]
  exact rd_addName h (fun M1 h1 => rd_exp h1 hq)
def q_amt (T : q_Tk) (n : Nat) (s : q_S) : q_S := q_D (qd_set 9 (e_w32 (q_val T s))) (q_exp T n 3 s)
def q_price (T : q_Tk) (n : Nat) (s : q_S) : q_S := q_amt T n (q_exp T n 229 s)
def q_day (T : q_Tk) (n : Nat) (k : Nat) (s : q_S) : q_S := q_D (qd_set k (e_w32 (q_val T s))) (q_date T n s)
theorem q_amt_dd {T : q_Tk} {n : Nat} : q_dd (q_amt T n) := fun s h => q_exp_dd (n := n) (k := 3) s h
theorem q_price_dd {T : q_Tk} {n : Nat} : q_dd (q_price T n) := q_dd_c (p := q_exp T n 229) (q := q_amt T n) q_exp_dd q_amt_dd
theorem q_day_dd {T : q_Tk} {n k : Nat} : q_dd (q_day T n k) := fun s h => q_date_dd (n := n) s h
theorem rd_price {B M : e_M} {T : q_Tk} {n d : Nat} {s : q_S} {Q : e_M → Prop} (h : c_rd B M T n d s) (hq : ∀ M', c_rd B M' T n d (q_price T n s) → Q M') : WX7_readPrice M Q := by
  refine rd_exp h (fun M1 h1 => rd_num h1 (fun M2 h2 M3 e3 => hq M3 ?_))
  rw [rd_d h1] at e3
  rw [e3]
  exact rd_set h2 (by omega)
def q_chk (T : q_Tk) (s : q_S) : q_S := if q_tk T s = 3 ∧ (q_val T s < 1 ∨ 1000 < q_val T s) then q_note T 2 s else s
theorem q_chk_dd {T : q_Tk} : q_dd (q_chk T) := q_dd_if (c := fun s => q_tk T s = 3 ∧ (q_val T s < 1 ∨ 1000 < q_val T s)) (p := q_note T 2) q_note_dd q_dd_i
theorem rd_chk {B M : e_M} {T : q_Tk} {n d : Nat} {s : q_S} {Q : e_M → Prop} (h : c_rd B M T n d s) (hq : ∀ M', c_rd B M' T n d (q_chk T s) → Q M') : WX7_checkShareNumber M Q := by
  obtain ⟨b1, b2, b3⟩ := c_rs_b h.1
  have ht := h.1.2.2.1
  unfold q_chk at hq
  unfold WX7_checkShareNumber VX7_checkShareNumber
  rw [b2, b3.2.2, ht]
  refine ⟨fun g => ?_, fun g => ⟨b1, fun g2 => ?_, fun g2 => ⟨b1, fun g3 => ?_, fun g3 => ?_⟩⟩⟩
  · rw [if_neg (fun z => g z.1)] at hq
    exact hq M h
  · rw [if_pos ⟨g, Or.inl g2⟩] at hq
    exact rd_note h (by decide) hq
  · rw [if_neg (fun z => by have := z.2; unfold q_val at this; omega)] at hq
    exact hq M h
  · rw [if_pos ⟨g, Or.inr g3⟩] at hq
    exact rd_note h (by decide) hq
