/-! the class's words of a DEED read: shares, PARTS, POINTS, LOTS -/
def q_s2 (T : q_Tk) (n : Nat) (s : q_S) : q_S := q_exp T n 47 (q_exp T n 3 (q_chk T s))
def q_share (T : q_Tk) (n : Nat) (s : q_S) : q_S := q_exp T n 3 (q_chk T (q_s2 T n s))
def q_sv (T : q_Tk) (n : Nat) (s : q_S) : Int × Int := (q_val T s / s_gcd (q_val T s) (q_val T (q_s2 T n s)), q_val T (q_s2 T n s) / s_gcd (q_val T s) (q_val T (q_s2 T n s)))
theorem q_s2_dd {T : q_Tk} {n : Nat} : q_dd (q_s2 T n) := q_dd_c (p := fun s => q_exp T n 3 (q_chk T s)) (q := q_exp T n 47) (q_dd_c (p := q_chk T) (q := q_exp T n 3) q_chk_dd q_exp_dd) q_exp_dd
theorem q_share_dd {T : q_Tk} {n : Nat} : q_dd (q_share T n) := q_dd_c (p := fun s => q_chk T (q_s2 T n s)) (q := q_exp T n 3) (q_dd_c (p := q_s2 T n) (q := q_chk T) q_s2_dd q_chk_dd) q_exp_dd
theorem q_exp_tk {T : q_Tk} {n : Nat} {k : Int} {s : q_S} (h : (q_exp T n k s).2.1 = 0) : s.2.1 = 0 ∧ q_tk T s = k := by
  have h0 := q_dd0 q_exp_dd h
  refine ⟨h0, ?_⟩
  unfold q_exp at h
  split at h
  · assumption
  · unfold q_note at h
    rw [if_pos h0] at h
    exact absurd h (by show (1 : Int) ≠ 0; decide)
theorem q_chk_in {T : q_Tk} {s : q_S} (h : (q_chk T s).2.1 = 0) (ht : q_tk T (q_chk T s) = 3) : q_chk T s = s ∧ 1 ≤ q_val T s ∧ q_val T s ≤ 1000 := by
  have h0 := q_dd0 q_chk_dd h
  by_cases g : q_tk T s = 3 ∧ (q_val T s < 1 ∨ 1000 < q_val T s)
  · unfold q_chk q_note at h
    rw [if_pos g, if_pos h0] at h
    exact absurd h (by show (2 : Int) ≠ 0; decide)
  · have e : q_chk T s = s := if_neg g
    rw [e] at ht
    exact ⟨e, by have : ¬ (q_val T s < 1 ∨ 1000 < q_val T s) := fun z => g ⟨ht, z⟩
                 omega⟩
theorem q_share_in {T : q_Tk} {n : Nat} {s : q_S} (h : (q_share T n s).2.1 = 0) : (1 ≤ q_val T s ∧ q_val T s ≤ 1000) ∧ 1 ≤ q_val T (q_s2 T n s) ∧ q_val T (q_s2 T n s) ≤ 1000 := by
  obtain ⟨a1, a2⟩ := q_exp_tk h
  obtain ⟨b1, b2⟩ := q_chk_in a1 a2
  rw [b1] at a1
  obtain ⟨c1, c2⟩ := q_exp_tk a1
  obtain ⟨d1, d2⟩ := q_exp_tk c1
  exact ⟨(q_chk_in d1 d2).2, b2⟩
theorem s_gcd_le {a b : Int} (ha : 1 ≤ a) : s_gcd a b ≤ a := by
  unfold s_gcd
  split
  · exact ha
  · exact Int.le_of_dvd (by omega) (Int.gcd_dvd_left a b)
theorem s_div_rng {a g : Int} (ha : 1 ≤ a) (ha2 : a ≤ 1000) (hg : 0 < g) (hg2 : g ≤ a) : e_w64 (a.tdiv g) = a / g ∧ 1 ≤ a / g ∧ a / g ≤ 1000 := by
  have e : a.tdiv g = a / g := Int.tdiv_eq_ediv_of_nonneg (by omega)
  have h1 : 1 ≤ a / g := by
    have := Int.ediv_le_ediv hg hg2
    rw [Int.ediv_self (by omega)] at this
    exact this
  have h2 : a / g ≤ a := Int.ediv_le_self g (by omega)
  rw [e]
  exact ⟨e_w64_id ⟨by omega, by omega⟩, h1, by omega⟩
theorem rd_share {B M : e_M} {T : q_Tk} {n d : Nat} {s : q_S} {Q : e_M → Prop} (h : c_rd B M T n d s) (hq : ∀ M', c_rd B M' T n d (q_share T n s) → ((q_share T n s).2.1 = 0 → M' 10 10 = (q_sv T n s).1 ∧ M' 10 11 = (q_sv T n s).2) → Q M') : WX7_readShare M Q := by
  obtain ⟨b1, b2, b3⟩ := c_rs_b h.1
  refine ⟨b1, ?_⟩
  rw [b2, b3.2.2]
  refine rd_chk h (fun M1 h1 => rd_exp h1 (fun M2 h2 => rd_exp h2 (fun M3 h3 => ?_)))
  obtain ⟨c1, c2, c3⟩ := c_rs_b h3.1
  refine ⟨c1, ?_⟩
  rw [c2, c3.2.2]
  refine rd_chk h3 (fun M4 h4 => rd_exp h4 (fun M5 h5 => ?_))
  have fin : ∀ r : Int, r ≠ 0 → ((q_share T n s).2.1 = 0 → r = s_gcd (q_val T s) (q_val T (q_s2 T n s))) → (¬ r = 0 ∧ (∀ M7 : e_M, M7 = e_up M5 10 10 (e_w64 (((T s.1).2.2).tdiv r)) → (¬ r = 0 ∧ (∀ M8 : e_M, M8 = e_up M7 10 11 (e_w64 (((T (q_s2 T n s).1).2.2).tdiv r)) → (Q M8))))) := by
    intro r hr hv
    refine ⟨hr, fun M7 e7 => ⟨hr, fun M8 e8 => hq M8 ?_ (fun e => ?_)⟩⟩
    · obtain ⟨⟨p1, p6, p7, p8, p9⟩, p2, p3, p4, p5⟩ := h5
      have o : ∀ b, b ≠ 10 → M8 b = M5 b := fun b hb => by rw [e8, e_up_row hb, e7, e_up_row hb]
      have o2 : ∀ k, k ≠ 10 → k ≠ 11 → M8 10 k = M5 10 k := fun k g1 g2 => by rw [e8, e_up_ne (by omega), e7, e_up_ne (by omega)]
      have er : ∀ j, j < 7 → M8 (d + j) = M5 (d + j) := fun j hj => o _ (by omega)
      have ed : M8 d = M5 d := er 0 (by omega)
      refine ⟨⟨⟨by rw [o2 5 (by omega) (by omega)]; exact p1.1, by rw [o2 4 (by omega) (by omega)]; exact p1.2.1, p1.2.2⟩, fun k hk => by rw [o 12 (by omega), o 13 (by omega), o 14 (by omega)]; exact p6 k hk, by rw [o2 6 (by omega) (by omega)]; exact p7, by rw [o2 7 (by omega) (by omega)]; exact p8, by rw [o2 8 (by omega) (by omega)]; exact p9⟩, ⟨by rw [o2 9 (by omega) (by omega)]; exact p2.1, p2.2⟩, ⟨fun e => ?_, by unfold s_dok; rw [ed]; exact p3.2⟩, fun b hb hb2 => by rw [o b hb]; exact p4 b hb hb2, fun k hk => by rw [o2 k (by omega) (by omega)]; exact p5 k hk⟩
      refine Eq.trans ?_ (p3.1 e)
      unfold v_of s_dpt s_dps
      rw [ed, er 1 (by omega), er 2 (by omega), er 3 (by omega), er 4 (by omega), er 5 (by omega), er 6 (by omega)]
    · obtain ⟨i1, i2⟩ := q_share_in e
      have hr2 := hv e
      have hg := s_gcd_pos (a := q_val T s) (b := q_val T (q_s2 T n s))
      have l1 := s_gcd_le (b := q_val T (q_s2 T n s)) i1.1
      have l2 : s_gcd (q_val T s) (q_val T (q_s2 T n s)) ≤ q_val T (q_s2 T n s) := by
        have := s_gcd_le (b := q_val T s) i2.1
        unfold s_gcd at *
        rw [Int.gcd_comm]
        exact this
      rw [← hr2] at hg l1 l2
      unfold q_sv
      rw [← hr2]
      exact ⟨by rw [e8, e_up_ne (by omega), e7, e_up_eq]; exact (s_div_rng i1.1 i1.2 hg l1).1, by rw [e8, e_up_eq]; exact (s_div_rng i2.1 i2.2 hg l2).1⟩
  by_cases e : (q_share T n s).2.1 = 0
  · obtain ⟨i1, i2⟩ := q_share_in e
    refine c_gcd (a := q_val T s) (b := q_val T (q_s2 T n s)) (by omega) (by omega) (by omega) (by omega) ?_
    exact fin _ (by have := s_gcd_pos (a := q_val T s) (b := q_val T (q_s2 T n s)); omega) (fun _ => rfl)
  · exact c_gcd_any (fun r hr => fin r hr (fun z => absurd z e))
def q_part (T : q_Tk) (n : Nat) (s : q_S) : q_S := if q_tk T s = 3 then q_D (qd_part (q_sv T n s).1 (q_sv T n s).2) (q_share T n s) else q_D (qd_part 0 1) s
def q_p4 (T : q_Tk) (m : Nat) (s : q_S) : q_S := if m = 0 ∧ q_tk T s = 4 then q_note T 4 s else s
def q_ps (T : q_Tk) (n : Nat) : Nat → q_S → q_S
  | 0, s => s
  | m + 1, s => if q_tk T (q_part T n (q_named T n 1 (q_p4 T m s))) = 44 then q_ps T n m (q_take T n (q_part T n (q_named T n 1 (q_p4 T m s)))) else q_part T n (q_named T n 1 (q_p4 T m s))
def q_parts (T : q_Tk) (n : Nat) (s : q_S) : q_S := q_D qd_fix (q_ps T n 7 s)
def q_ls (T : q_Tk) (n : Nat) : Nat → q_S → q_S
  | 0, s => s
  | m + 1, s => if q_tk T (q_named T n 0 (q_p4 T m s)) = 44 then q_ls T n m (q_take T n (q_named T n 0 (q_p4 T m s))) else q_named T n 0 (q_p4 T m s)
/-- one POINT: with the sign that opens it -/
def q_pa (T : q_Tk) (n m : Nat) (s : q_S) : q_S := q_exp T n 40 (if m = 0 then q_note T 4 s else s)
def q_pb (T : q_Tk) (n m : Nat) (s : q_S) : q_S := q_exp T n 44 (q_exp T n 3 (q_pa T n m s))
def q_pc (T : q_Tk) (n m : Nat) (s : q_S) : q_S := q_exp T n 41 (q_D (qd_pt (e_w32 (q_val T (q_pa T n m s))) (e_w32 (q_val T (q_pb T n m s)))) (q_exp T n 3 (q_pb T n m s)))
def q_pts (T : q_Tk) (n : Nat) : Nat → q_S → q_S
  | 0, s => s
  | m + 1, s => if m < 12 ∧ q_tk T s ≠ 40 then s else q_pts T n m (q_pc T n m s)
theorem q_p4_dd {T : q_Tk} {m : Nat} : q_dd (q_p4 T m) := q_dd_if (c := fun s => m = 0 ∧ q_tk T s = 4) (p := q_note T 4) q_note_dd q_dd_i
theorem q_part_dd {T : q_Tk} {n : Nat} : q_dd (q_part T n) := q_dd_if (c := fun s => q_tk T s = 3) (p := fun s => q_D (qd_part (q_sv T n s).1 (q_sv T n s).2) (q_share T n s)) (q := q_D (qd_part 0 1)) (fun s h => q_share_dd (n := n) s h) q_dd_D
theorem q_ps_dd {T : q_Tk} {n m : Nat} : q_dd (q_ps T n m) := by
  induction m with
  | zero => exact q_dd_i
  | succ m ih =>
    have a : q_dd (fun s => q_part T n (q_named T n 1 (q_p4 T m s))) := q_dd_c (p := fun s => q_named T n 1 (q_p4 T m s)) (q := q_part T n) (q_dd_c (p := q_p4 T m) (q := q_named T n 1) q_p4_dd q_named_dd) q_part_dd
    exact q_dd_if (c := fun s => q_tk T (q_part T n (q_named T n 1 (q_p4 T m s))) = 44) (p := fun s => q_ps T n m (q_take T n (q_part T n (q_named T n 1 (q_p4 T m s))))) (q := fun s => q_part T n (q_named T n 1 (q_p4 T m s))) (q_dd_c (p := fun s => q_take T n (q_part T n (q_named T n 1 (q_p4 T m s)))) (q := q_ps T n m) (q_dd_c (p := fun s => q_part T n (q_named T n 1 (q_p4 T m s))) (q := q_take T n) a q_take_dd) ih) a
theorem q_parts_dd {T : q_Tk} {n : Nat} : q_dd (q_parts T n) := fun s h => q_ps_dd (n := n) (m := 7) s h
theorem q_ls_dd {T : q_Tk} {n m : Nat} : q_dd (q_ls T n m) := by
  induction m with
  | zero => exact q_dd_i
  | succ m ih =>
    have a : q_dd (fun s => q_named T n 0 (q_p4 T m s)) := q_dd_c (p := q_p4 T m) (q := q_named T n 0) q_p4_dd q_named_dd
    exact q_dd_if (c := fun s => q_tk T (q_named T n 0 (q_p4 T m s)) = 44) (p := fun s => q_ls T n m (q_take T n (q_named T n 0 (q_p4 T m s)))) (q := fun s => q_named T n 0 (q_p4 T m s)) (q_dd_c (p := fun s => q_take T n (q_named T n 0 (q_p4 T m s))) (q := q_ls T n m) (q_dd_c (p := fun s => q_named T n 0 (q_p4 T m s)) (q := q_take T n) a q_take_dd) ih) a
theorem q_pa_dd {T : q_Tk} {n m : Nat} : q_dd (q_pa T n m) := q_dd_c (p := fun s => if m = 0 then q_note T 4 s else s) (q := q_exp T n 40) (q_dd_if (c := fun _ => m = 0) (p := q_note T 4) q_note_dd q_dd_i) q_exp_dd
theorem q_pb_dd {T : q_Tk} {n m : Nat} : q_dd (q_pb T n m) := q_dd_c (p := fun s => q_exp T n 3 (q_pa T n m s)) (q := q_exp T n 44) (q_dd_c (p := q_pa T n m) (q := q_exp T n 3) q_pa_dd q_exp_dd) q_exp_dd
theorem q_pc_dd {T : q_Tk} {n m : Nat} : q_dd (q_pc T n m) := q_dd_c (p := fun s => q_D (qd_pt (e_w32 (q_val T (q_pa T n m s))) (e_w32 (q_val T (q_pb T n m s)))) (q_exp T n 3 (q_pb T n m s))) (q := q_exp T n 41) (fun s h => (q_dd_c (p := q_pb T n m) (q := q_exp T n 3) q_pb_dd q_exp_dd) s h) q_exp_dd
theorem q_pts_dd {T : q_Tk} {n m : Nat} : q_dd (q_pts T n m) := by
  induction m with
  | zero => exact q_dd_i
  | succ m ih => exact q_dd_if (c := fun s => m < 12 ∧ q_tk T s ≠ 40) (p := fun s => s) (q := fun s => q_pts T n m (q_pc T n m s)) q_dd_i (q_dd_c (p := q_pc T n m) (q := q_pts T n m) q_pc_dd ih)
theorem rd_part {B M : e_M} {T : q_Tk} {n d : Nat} {s : q_S} {K : e_M → Prop} (h : c_rd B M T n d s) (hq : ∀ M', c_rd B M' T n d (q_part T n s) → K M') : (¬ (M 10 6) = 3 → WX2_addPart ((M 10 9).toNat) 0 1 M K) ∧ ((M 10 6) = 3 → WX7_readShare M (fun M3 => WX2_addPart ((M3 10 9).toNat) (M3 10 10) (M3 10 11) M3 K)) := by
  unfold q_part at hq
  rw [h.1.2.2.1, rd_d h]
  refine ⟨fun g => ?_, fun g => ?_⟩
  · rw [if_neg g] at hq
    exact rd_addPart h (fun _ => ⟨rfl, rfl⟩) hq
  · rw [if_pos g] at hq
    refine rd_share h (fun M1 h1 v1 => ?_)
    rw [rd_d h1]
    exact rd_addPart h1 v1 hq
theorem rd_fix {B M : e_M} {T : q_Tk} {n d : Nat} {s : q_S} {Q : e_M → Prop} (h : c_rd B M T n d s) (hq : ∀ M', c_rd B M' T n d (q_D qd_fix s) → Q M') : ∃ j, WX7_readParts_95 Q j 0 M := by
  have hd := h.2.2.1.2
  have ht := rd_d h
  have gz : ∀ M' : e_M, (∀ b, b ≠ d + 3 → b ≠ d + 4 → M' b = M b) → (M' 10 9).toNat = d ∧ M' d = M d := fun M' g => by
    rcases h.2.1.2 with z | z
    · exact ⟨by rw [g 10 (by omega) (by omega)]; exact ht, g d (by omega) (by omega)⟩
    · exact ⟨by rw [g 10 (by omega) (by omega)]; exact ht, g d (by omega) (by omega)⟩
  refine s_up (P := fun m i (M' : e_M) => WX7_readParts_95 Q m i M') (n := M d 15) (s := M) (fun i M' => (∀ b, b ≠ d + 3 → b ≠ d + 4 → M' b = M b) ∧ ∀ k : Nat, M' (d + 3) k = (if (k : Int) < i ∧ M (d + 3) k = 0 then 1 else M (d + 3) k) ∧ M' (d + 4) k = (if (k : Int) < i ∧ M (d + 3) k = 0 then M d 15 else M (d + 4) k)) hd.2.1.1 ⟨fun _ _ _ => rfl, fun k => ⟨by rw [if_neg (by omega)], by rw [if_neg (by omega)]⟩⟩ ?_ ?_
  · intro m M' ⟨i1, i2⟩
    obtain ⟨z1, z2⟩ := gz M' i1
    unfold WX7_readParts_95 VX7_readParts_95
    rw [z1, z2]
    refine ⟨fun _ => hq M' (rd_any h (fun b hb => i1 b (by omega) (by omega)) (fun e => ?_) (by unfold s_dok; rw [z2]; exact hd)), fun z => by omega⟩
    rw [← h.2.2.1.1 e]
    unfold qd_fix v_of s_dpt s_dps
    rw [z2, i1 (d + 1) (by omega) (by omega), i1 (d + 2) (by omega) (by omega), i1 (d + 5) (by omega) (by omega), i1 (d + 6) (by omega) (by omega)]
    dsimp only
    rw [s_ar_map]
    have : s_ar (fun k => (M' (d + 3) k, M' (d + 4) k)) (M d 15) = s_ar (fun i => if (M (d + 3) i, M (d + 4) i).1 = 0 then (1, M d 15) else (M (d + 3) i, M (d + 4) i)) (M d 15) := by
      refine s_ar_congr (fun k hk => ?_)
      rw [(i2 k).1, (i2 k).2]
      by_cases g : M (d + 3) k = 0
      · rw [if_pos ⟨by omega, g⟩, if_pos ⟨by omega, g⟩, if_pos (by exact g)]
      · rw [if_neg (fun z => g z.2), if_neg (fun z => g z.2), if_neg (by exact g)]
    rw [this]
  · intro m i M' i0 iN ⟨i1, i2⟩ ih
    obtain ⟨z1, z2⟩ := gz M' i1
    unfold WX7_readParts_95 VX7_readParts_95
    rw [z1, z2]
    have w : e_w32 (i + 1) = i + 1 := e_w32_id ⟨by omega, by have := hd.2.1.2; omega⟩
    have b6 : 0 ≤ i ∧ i < 6 := ⟨i0, by have := hd.2.1.2; omega⟩
    refine ⟨fun z => by omega, fun _ => ⟨b6, ?_⟩⟩
    rw [(i2 i.toNat).1, if_neg (by omega)]
    refine ⟨fun g => ?_, fun g => ⟨b6, fun M1 e1 => ⟨b6, fun M2 e2 => ?_⟩⟩⟩
    · unfold WX7_readParts_147 VX7_readParts_147
      rw [w]
      refine ih M' ⟨i1, fun k => ?_⟩
      rw [(i2 k).1, (i2 k).2]
      by_cases gk : k = i.toNat
      · subst gk
        rw [if_neg (fun z => g z.2), if_neg (fun z => g z.2), if_neg (fun z => g z.2), if_neg (fun z => g z.2)]
        exact ⟨rfl, rfl⟩
      · by_cases gl : (k : Int) < i
        · have : (k : Int) < i + 1 := by omega
          simp only [gl, this, true_and]
        · have : ¬ (k : Int) < i + 1 := by omega
          simp only [gl, this, false_and]; exact ⟨trivial, trivial⟩
    · have o1 : M1 10 = M' 10 := by
        have := h.2.1.2
        rw [e1, e_up_row (by omega)]
      have o2 : M1 d = M d := by rw [e1, e_up_row (by omega), z2]
      rw [o1, z1, o2] at e2
      unfold WX7_readParts_147 VX7_readParts_147
      rw [w]
      refine ih M2 ⟨fun b g1 g2 => by rw [e2, e_up_row g2, e1, e_up_row g1]; exact i1 b g1 g2, fun k => ?_⟩
      rw [e2, e_up_row (by omega), s_fu_up, e1, s_fu_up, e_up_row (by omega)]
      by_cases gk : k = i.toNat
      · subst gk
        rw [s_fu_eq, s_fu_eq, if_pos ⟨by omega, g⟩, if_pos ⟨by omega, g⟩]
        exact ⟨rfl, rfl⟩
      · rw [s_fu_ne gk, s_fu_ne gk, (i2 k).1, (i2 k).2]
        by_cases gl : (k : Int) < i
        · have : (k : Int) < i + 1 := by omega
          simp only [gl, this, true_and]
        · have : ¬ (k : Int) < i + 1 := by omega
          simp only [gl, this, false_and]; exact ⟨trivial, trivial⟩
theorem rd_parts {B M : e_M} {T : q_Tk} {n d : Nat} {s : q_S} {Q : e_M → Prop} (h : c_rd B M T n d s) (hq : ∀ M', c_rd B M' T n d (q_parts T n s) → Q M') : WX7_readParts M Q := by
  have fin : ∀ (M' : e_M) (s' : q_S), c_rd B M' T n d s' → q_D qd_fix s' = q_parts T n s → WX7_readParts_93 Q M' := fun M' s' h' e => rd_fix h' (fun M2 h2 => hq M2 (e ▸ h2))
  have key : ∀ (m : Nat) (M' : e_M) (s' : q_S), m ≤ 7 → c_rd B M' T n d s' → q_D qd_fix (q_ps T n m s') = q_parts T n s → WX7_readParts_2 Q (m + 1) (7 - m) M' := by
    intro m
    induction m with
    | zero =>
      intro M' s' _ h' e
      exact ⟨fun _ => fin M' s' h' e, fun z => by omega⟩
    | succ m ih =>
      intro M' s' hm h' e
      unfold q_ps at e
      refine ⟨fun z => by omega, fun _ => ?_⟩
      have go : ∀ M1, c_rd B M1 T n d (q_p4 T m s') → WX7_readParts_27 (WX7_readParts_2 Q (m + 1)) Q (7 - ((m + 1 : Nat) : Int)) M1 := by
        intro M1 h1
        refine rd_named h1 (fun M2 h2 => rd_part h2 (fun M3 h3 => ?_))
        unfold WX7_readParts_71 VX7_readParts_71
        rw [h3.1.2.2.1]
        refine ⟨fun g => rd_take h3 (fun M4 h4 => ?_), fun g => ?_⟩
        · rw [if_pos g] at e
          rw [show e_w32 (7 - ((m + 1 : Nat) : Int) + 1) = 7 - (m : Int) from by rw [show (7 - ((m + 1 : Nat) : Int) + 1) = 7 - (m : Int) by omega]; exact e_w32_id ⟨by omega, by omega⟩]
          exact ih M4 _ (by omega) h4 e
        · rw [if_neg g] at e
          exact fin M3 _ h3 e
      have ht := h'.1.2.2.1
      rw [ht]
      refine ⟨fun g => go M' ?_, fun g => ⟨fun g2 => go M' ?_, fun g2 => rd_note h' (by decide) (fun M1 h1 => go M1 ?_)⟩⟩
      · unfold q_p4
        rw [if_neg (fun z => g (by omega))]
        exact h'
      · unfold q_p4
        rw [if_neg (fun z => g2 z.2)]
        exact h'
      · unfold q_p4
        rw [if_pos ⟨by omega, g2⟩]
        exact h1
  exact ⟨8, key 7 M s (by omega) h rfl⟩
theorem rd_lots {B M : e_M} {T : q_Tk} {n d : Nat} {s : q_S} {Q : e_M → Prop} (h : c_rd B M T n d s) (hq : ∀ M', c_rd B M' T n d (q_ls T n 7 s) → Q M') : WX7_readLots M Q := by
  generalize hr : q_ls T n 7 s = r at hq
  have key : ∀ (m : Nat) (M' : e_M) (s' : q_S), m ≤ 7 → c_rd B M' T n d s' → q_ls T n m s' = r → WX7_readLots_2 Q (m + 1) (7 - m) M' := by
    intro m
    induction m with
    | zero =>
      intro M' s' _ h' e
      exact ⟨fun _ => hq M' (e ▸ h'), fun z => by omega⟩
    | succ m ih =>
      intro M' s' hm h' e
      unfold q_ls at e
      refine ⟨fun z => by omega, fun _ => ?_⟩
      have go : ∀ M1, c_rd B M1 T n d (q_p4 T m s') → WX7_readLots_27 (WX7_readLots_2 Q (m + 1)) Q (7 - ((m + 1 : Nat) : Int)) M1 := by
        intro M1 h1
        refine rd_named h1 (fun M3 h3 => ?_)
        rw [h3.1.2.2.1]
        refine ⟨fun g => rd_take h3 (fun M4 h4 => ?_), fun g => ?_⟩
        · rw [if_pos g] at e
          rw [show e_w32 (7 - ((m + 1 : Nat) : Int) + 1) = 7 - (m : Int) from by rw [show (7 - ((m + 1 : Nat) : Int) + 1) = 7 - (m : Int) by omega]; exact e_w32_id ⟨by omega, by omega⟩]
          exact ih M4 _ (by omega) h4 e
        · rw [if_neg g] at e
          exact hq M3 (e ▸ h3)
      have ht := h'.1.2.2.1
      rw [ht]
      refine ⟨fun g => go M' ?_, fun g => ⟨fun g2 => go M' ?_, fun g2 => rd_note h' (by decide) (fun M1 h1 => go M1 ?_)⟩⟩
      · unfold q_p4
        rw [if_neg (fun z => g (by omega))]
        exact h'
      · unfold q_p4
        rw [if_neg (fun z => g2 z.2)]
        exact h'
      · unfold q_p4
        rw [if_pos ⟨by omega, g2⟩]
        exact h1
  exact ⟨8, key 7 M s (by omega) h hr⟩
theorem rd_points {B M : e_M} {T : q_Tk} {n d : Nat} {s : q_S} {Q : e_M → Prop} (h : c_rd B M T n d s) (hq : ∀ M', c_rd B M' T n d (q_pts T n 13 s) → Q M') : WX7_readPoints M Q := by
  generalize hr : q_pts T n 13 s = r at hq
  have key : ∀ (m : Nat) (M' : e_M) (s' : q_S), m ≤ 13 → c_rd B M' T n d s' → q_pts T n m s' = r → WX7_readPoints_2 Q (m + 1) (13 - m) M' := by
    intro m
    induction m with
    | zero =>
      intro M' s' _ h' e
      exact ⟨fun _ => hq M' (e ▸ h'), fun z => by omega⟩
    | succ m ih =>
      intro M' s' hm h' e
      unfold q_pts at e
      refine ⟨fun z => by omega, fun _ => ?_⟩
      have go : ∀ M1, c_rd B M1 T n d (if m = 0 then q_note T 4 s' else s') → ¬ (m < 12 ∧ q_tk T s' ≠ 40) → WX7_readPoints_35 (WX7_readPoints_2 Q (m + 1)) Q (13 - ((m + 1 : Nat) : Int)) M1 := by
        intro M1 h1 hn
        rw [if_neg hn] at e
        refine rd_exp h1 (fun M2 h2 => rd_num h2 (fun M3 h3 => rd_exp h3 (fun M4 h4 => rd_num h4 (fun M5 h5 => ?_))))
        rw [rd_d h4]
        refine rd_addPoint h5 (fun M6 h6 => rd_exp h6 (fun M7 h7 => ?_))
        rw [show e_w32 (13 - ((m + 1 : Nat) : Int) + 1) = 13 - (m : Int) from by rw [show (13 - ((m + 1 : Nat) : Int) + 1) = 13 - (m : Int) by omega]; exact e_w32_id ⟨by omega, by omega⟩]
        exact ih M7 _ (by omega) h7 e
      have go2 : ¬ (m < 12 ∧ q_tk T s' ≠ 40) → WX7_readPoints_24 (WX7_readPoints_2 Q (m + 1)) Q (13 - ((m + 1 : Nat) : Int)) M' := by
        intro hn
        refine ⟨fun g => go M' (by rw [if_neg (by omega)]; exact h') hn, fun g => rd_note h' (by decide) (fun M1 h1 => go M1 (by rw [if_pos (by omega)]; exact h1) hn)⟩
      have ht := h'.1.2.2.1
      rw [ht]
      refine ⟨fun g => go2 (fun z => by omega), fun g => ⟨fun g2 => go2 (fun z => z.2 g2), fun g2 => ?_⟩⟩
      rw [if_pos ⟨by omega, g2⟩] at e
      exact hq M' (e ▸ h')
  exact ⟨14, key 13 M s (by omega) h hr⟩
