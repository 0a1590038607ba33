/-! the class's words of a DEED read: the other ACTS, the ENTRY -/
theorem rd_lotsA {B M : e_M} {T : q_Tk} {n d : Nat} {s : q_S} {a : Int} {Q : e_M → Prop} (h : c_rd B M T n d s) (ha : 205 ≤ a ∧ a ≤ 208) (hq : ∀ M', c_rd B M' T n d (q_act T n a s) → Q M') : WX7_readOfLots a M Q := by
  unfold q_act at hq
  rw [if_neg (by omega), if_neg (by omega), if_neg (by omega), if_neg (by omega), if_neg (by omega)] at hq
  refine rd_named h (fun M1 h1 => ⟨fun g5 => ⟨fun g6 => ?_, fun g6 => ?_⟩, fun g5 => ?_⟩)
  · rw [if_neg g5, if_neg g6] at hq
    refine rd_exp h1 (fun M2 h2 => rd_named h2 (fun M3 h3 => ⟨fun g7 => ?_, fun g7 => ?_⟩))
    · rw [if_neg g7, if_pos (by omega)] at hq
      exact rd_exp h3 (fun M4 h4 => rd_points h4 hq)
    · rw [if_pos g7] at hq
      exact rd_exp h3 (fun M4 h4 => rd_named h4 hq)
  · rw [if_neg g5, if_pos g6] at hq
    exact rd_exp h1 (fun M2 h2 => rd_points h2 (fun M3 h3 => rd_exp h3 (fun M4 h4 => rd_named h4 (fun M5 h5 => rd_exp h5 (fun M6 h6 => rd_named h6 hq)))))
  · rw [if_pos g5] at hq
    refine rd_exp h1 (fun M2 h2 => rd_named h2 (fun M3 h3 => ?_))
    have fin : ∀ M4, c_rd B M4 T n d (q_sold T n (q_named T n 1 (q_exp T n 228 (q_named T n 0 s)))) → WX7_readOfLots_58 Q M4 := fun M4 h4 => rd_exp h4 (fun M5 h5 => rd_parts h5 (fun M6 h6 => rd_price h6 hq))
    rw [h3.1.2.2.1]
    unfold q_sold at fin
    refine ⟨fun g => ?_, fun g => ?_⟩
    · rw [if_neg g] at fin
      exact fin M3 h3
    · rw [if_pos g] at fin
      refine rd_share h3 (fun M4 h4 v4 M5 e5 M6 e6 => fin M6 ?_)
      rw [rd_d h4] at e5
      have h5 := rd_setv (k := 11) (v := M4 10 10) (v' := (q_sv T n (q_named T n 1 (q_exp T n 228 (q_named T n 0 s)))).1) h4 (by omega) (fun e => (v4 e).1)
      rw [← e5] at h5
      rw [rd_d h5] at e6
      rw [e6]
      refine rd_setv h5 (by omega) (fun e => ?_)
      have := h.2.1.2
      rw [e5, e_up_row (by omega)]
      exact (v4 e).2
theorem rd_charges {B M : e_M} {T : q_Tk} {n d : Nat} {s : q_S} {a : Int} {Q : e_M → Prop} (h : c_rd B M T n d s) (ha : 209 ≤ a ∧ a ≤ 214) (hq : ∀ M', c_rd B M' T n d (q_act T n a s) → Q M') : WX7_readOfCharges a M Q := by
  unfold q_act at hq
  rw [if_neg (by omega), if_neg (by omega), if_neg (by omega), if_neg (by omega), if_neg (by omega), if_neg (by omega), if_neg (by omega), if_neg (by omega), if_neg (by omega)] at hq
  refine ⟨fun g9 => ⟨fun g10 => ⟨fun g11 => ⟨fun g12 => ⟨fun g13 => ?_, fun g13 => ?_⟩, fun g12 => ?_⟩, fun g11 => ?_⟩, fun g10 => ?_⟩, fun g9 => ?_⟩
  · rw [if_neg g9, if_neg g10, if_neg g11, if_neg g12, if_neg g13, if_pos (by omega)] at hq
    exact rd_named h (fun M1 h1 => rd_exp h1 (fun M2 h2 => rd_named h2 (fun M3 h3 => rd_exp h3 (fun M4 h4 => rd_named h4 (fun M5 h5 => rd_price h5 hq)))))
  · rw [if_neg g9, if_neg g10, if_neg g11, if_neg g12, if_pos g13] at hq
    exact rd_named h (fun M1 h1 => rd_exp h1 (fun M2 h2 => rd_named h2 hq))
  · rw [if_neg g9, if_neg g10, if_neg g11, if_pos g12] at hq
    exact rd_named h (fun M1 h1 => rd_exp h1 (fun M2 h2 => rd_named h2 (fun M3 h3 => rd_exp h3 (fun M4 h4 => rd_named h4 hq))))
  · rw [if_neg g9, if_neg g10, if_pos g11] at hq
    exact rd_named h (fun M1 h1 => rd_exp h1 (fun M2 h2 => rd_named h2 hq))
  · rw [if_neg g9, if_pos g10] at hq
    exact rd_named h (fun M1 h1 => rd_price h1 hq)
  · rw [if_pos g9] at hq
    exact rd_named h (fun M1 h1 => rd_exp h1 (fun M2 h2 => rd_lots h2 (fun M3 h3 => rd_exp h3 (fun M4 h4 => rd_named h4 (fun M5 h5 => rd_price h5 hq)))))
theorem rd_serves {B M : e_M} {T : q_Tk} {n d : Nat} {s : q_S} {a : Int} {Q : e_M → Prop} (h : c_rd B M T n d s) (ha : 215 ≤ a ∧ a ≤ 216) (hq : ∀ M', c_rd B M' T n d (q_act T n a s) → Q M') : WX7_readOfServes a M Q := by
  unfold q_act at hq
  rw [if_neg (by omega), if_neg (by omega), if_neg (by omega), if_neg (by omega), if_neg (by omega), if_neg (by omega), if_neg (by omega), if_neg (by omega), if_neg (by omega), if_neg (by omega), if_neg (by omega), if_neg (by omega), if_neg (by omega), if_neg (by omega), if_neg (by omega)] at hq
  refine ⟨fun g => ?_, fun g => ?_⟩
  · rw [if_pos (by omega)] at hq
    refine rd_named h (fun M1 h1 => ?_)
    have go : ∀ M2, c_rd B M2 T n d (q_k1 T (q_named T n 10 s)) → WX7_readOfServes_44 Q M2 := by
      intro M2 h2 M3 e3
      rw [rd_d h2, h2.1.2.2.1] at e3
      have h3 := rd_set (k := 10) (v := e_w32 (q_tk T (q_k1 T (q_named T n 10 s)) - 236)) h2 (by omega)
      rw [← e3] at h3
      exact rd_take h3 (fun M4 h4 => rd_exp h4 (fun M5 h5 => rd_named h5 (fun M6 h6 => rd_exp h6 (fun M7 h7 => rd_named h7 (fun M8 h8 => rd_exp h8 (fun M9 h9 => rd_points h9 hq))))))
    unfold q_k1 at go
    rw [h1.1.2.2.1]
    refine ⟨fun g1 => ?_, fun g1 => ⟨fun g2 => ?_, fun g2 => ?_⟩⟩
    · rw [if_pos (Or.inl g1)] at go
      exact rd_note h1 (by decide) go
    · rw [if_neg (by omega)] at go
      exact go M1 h1
    · rw [if_pos (Or.inr g2)] at go
      exact rd_note h1 (by decide) go
  · rw [if_neg (by omega), if_pos g] at hq
    exact rd_named h hq
theorem rd_terms {B M : e_M} {T : q_Tk} {n d : Nat} {s : q_S} {a : Int} {Q : e_M → Prop} (h : c_rd B M T n d s) (ha : 217 ≤ a ∧ a ≤ 221) (hq : ∀ M', c_rd B M' T n d (q_act T n a s) → Q M') : WX7_readOfTerms a M Q := by
  unfold q_act at hq
  rw [if_neg (by omega), if_neg (by omega), if_neg (by omega), if_neg (by omega), if_neg (by omega), if_neg (by omega), if_neg (by omega), if_neg (by omega), if_neg (by omega), if_neg (by omega), if_neg (by omega), if_neg (by omega), if_neg (by omega), if_neg (by omega), if_neg (by omega), if_neg (by omega), if_neg (by omega)] at hq
  have e14 : a = 220 ∨ a = 221 → WX7_readOfTerms_14 Q a M := by
    intro z
    rw [if_neg (by omega), if_neg (by omega), if_neg (by omega)] at hq
    refine ⟨fun g => ?_, fun g => ?_⟩
    · rw [if_neg (by omega)] at hq
      exact rd_named h hq
    · rw [if_pos g] at hq
      exact rd_named h hq
  refine ⟨fun g => e14 (Or.inl g), fun g0 => ⟨fun g1 => ?_, fun g => e14 (Or.inr g)⟩⟩
  refine rd_named h (fun M1 h1 => rd_exp h1 (fun M2 h2 => rd_named h2 (fun M3 h3 => ⟨fun g => ?_, fun g => ?_⟩)))
  · refine rd_exp h3 (fun M4 h4 => rd_named h4 (fun M5 h5 => ⟨fun z => absurd z g, fun _ => rd_exp h5 (fun M6 h6 => rd_day (k := 8) h6 (by omega) (fun M7 h7 => ?_))⟩))
    refine ⟨fun g2 => ?_, fun g2 => ?_⟩
    · rw [if_neg g2, if_neg g, if_pos (by omega)] at hq
      exact hq M7 h7
    · rw [if_pos g2] at hq
      exact rd_price h7 hq
  · rw [if_neg (by omega), if_pos g] at hq
    exact rd_exp h3 (fun M4 h4 => rd_named h4 (fun M5 h5 => ⟨fun _ => ⟨fun _ => hq M5 h5, fun z => by omega⟩, fun z => absurd g z⟩))
theorem rd_deed {B M : e_M} {T : q_Tk} {n d : Nat} {s : q_S} {Q : e_M → Prop} (h : c_rd B M T n d s) (hq : ∀ M', c_rd B M' T n d (q_deed T n s) → Q M') : WX7_readDeed M Q := by
  unfold q_deed at hq
  refine rd_exp h (fun M1 h1 => rd_day (k := 4) h1 (by omega) (fun M2 h2 => ?_))
  have h2 : c_rd B M2 T n d (q_a0 T n s) := h2
  have ht := h2.1.2.2.1
  rw [ht]
  have e37 : q_tk T (q_a0 T n s) < 200 ∨ 221 < q_tk T (q_a0 T n s) → WX7_readDeed_37 Q M2 := by
    intro z
    rw [if_pos z] at hq
    exact rd_note h2 (by decide) hq
  refine ⟨fun g => e37 (Or.inl g), fun g => ⟨fun g2 M3 e3 => ?_, fun g2 => e37 (Or.inr g2)⟩⟩
  rw [if_neg (by omega)] at hq
  rw [rd_d h2] at e3
  have h3 := rd_set (k := 3) (v := q_tk T (q_a0 T n s)) h2 (by omega)
  rw [← e3] at h3
  refine rd_take h3 (fun M4 h4 => ?_)
  refine ⟨fun p1 => ⟨fun p2 => ⟨fun p3 => ⟨fun p4 => ?_, fun p4 => ?_⟩, fun p3 => ?_⟩, fun p2 => ?_⟩, fun p1 => ?_⟩
  · exact rd_terms h4 (by omega) hq
  · exact rd_serves h4 (by omega) hq
  · exact rd_charges h4 (by omega) hq
  · exact rd_lotsA h4 (by omega) hq
  · exact rd_persons h4 (by omega) hq
/-- what the tokens are: kinds at 12, places at 13, values at 14 -/
def q_tok (T : q_Tk) : Prop := ∀ k, ((T k).1 = 3 → 0 ≤ (T k).2.2 ∧ (T k).2.2 ≤ 999999) ∧ ((T k).1 = 2 → -1 ≤ (T k).2.2 ∧ (T k).2.2 ≤ 219144)
theorem rd_target {B M : e_M} {T : q_Tk} {n d e : Nat} {x : Int} {s : q_S} {ord : Nat → Int} {Q : e_M → Prop} (h : c_rd B M T n d s) (hT : q_tok T) (hx : x ≤ 150) (he : (e < 10 ∧ d + 6 < e ∨ 22 ≤ e ∨ e < d) ∧ e ≠ 10 ∧ (e < d ∨ d + 6 < e)) (hord : ∀ i : Nat, (i : Int) < x → ord i = B (M e i).toNat 1 ∧ ((M e i).toNat ≠ 10 ∧ ((M e i).toNat < d ∨ d + 6 < (M e i).toNat))) (hq : ∀ M', c_rd B M' T n d (q_tg T n ord x s) → Q M') : WX7_readTarget e x M Q := by
  obtain ⟨b1, b2, b3⟩ := c_rs_b h.1
  have ht := h.1.2.2.1
  have fin : ∀ M1, c_rd B M1 T n d (q_tg0 T ord x s) → WX7_readTarget_69 Q (T s.1).2.2 M1 := by
    intro M1 h1 M2 e2
    rw [rd_d h1] at e2
    have h2 := rd_set (k := 2) (v := e_w32 (T s.1).2.2) h1 (by omega)
    rw [← e2] at h2
    exact rd_exp h2 hq
  unfold q_tg0 at fin
  unfold WX7_readTarget VX7_readTarget
  rw [b2, b3.2.2, ht, rd_d h]
  refine ⟨b1, fun g => ?_, fun g => ?_⟩
  · rw [if_neg (fun z => g z.1)] at fin
    exact fin M h
  · have f0 : s.2.1 = 0 := by
      by_cases z : s.2.1 = 0
      · exact z
      · rw [q_tk5 z] at g; omega
    have hv := (hT s.1).1 (by rw [← q_tk0 f0]; exact g)
    have e31 : q_val T s < 1 ∨ x < q_val T s → WX7_readTarget_31 Q (T s.1).2.2 M := by
      intro z
      rw [if_pos ⟨g, by omega⟩] at fin
      exact rd_note h (by decide) fin
    refine ⟨fun g1 => e31 (Or.inl g1), fun g1 => ⟨fun g2 => ?_, fun g2 => e31 (Or.inr g2)⟩⟩
    have ev : q_val T s = (T s.1).2.2 := rfl
    have w1 : e_w32 (T s.1).2.2 = (T s.1).2.2 := e_w32_id ⟨by omega, by omega⟩
    have w2 : e_w32 ((T s.1).2.2 - 1) = (T s.1).2.2 - 1 := e_w32_id ⟨by omega, by omega⟩
    rw [w1, w2, rd_v h f0 1]
    refine ⟨fun g3 => ?_, fun g3 => ⟨by omega, fun g4 => ?_, fun g4 => ?_⟩⟩
    · rw [if_neg (fun z => by have := z.2; omega)] at fin
      exact fin M h
    · obtain ⟨o1, o2, o3⟩ := hord ((T s.1).2.2 - 1).toNat (by omega)
      rw [h.2.2.2.1 _ o2 o3, ← o1] at g4
      rw [if_neg (fun z => by rw [ev] at z; have := z.2; omega)] at fin
      exact fin M h
    · obtain ⟨o1, o2, o3⟩ := hord ((T s.1).2.2 - 1).toNat (by omega)
      rw [h.2.2.2.1 _ o2 o3, ← o1] at g4
      rw [if_pos ⟨g, Or.inr (Or.inr ⟨g3, by rw [ev]; exact g4⟩)⟩] at fin
      exact rd_note h (by decide) fin
theorem rd_alone {B M : e_M} {T : q_Tk} {n d : Nat} {s : q_S} {Q : Int → e_M → Prop} (h : c_rd B (e_up M 10 9 (d : Int)) T n d s) (hq : ∀ M', c_rd B M' T n d (q_fin T (q_deed T n (q_D qd_clear s))) → Q (if (q_fin T (q_deed T n (q_D qd_clear s))).2.1 = 0 then 1 else 0) M') : WX7_readDeedAlone d M Q := by
  intro M1 e1
  rw [← e1] at h
  rw [rd_d h]
  refine rd_clear h (fun M2 h2 => rd_deed h2 (fun M3 h3 => rd_fin h3 (fun M4 h4 => ?_)))
  have hq := hq M4 h4
  rw [h4.1.2.2.2.1]
  refine ⟨fun g => ?_, fun g => ?_⟩
  · rw [if_neg g] at hq; exact hq
  · rw [if_pos g] at hq; exact hq
theorem q_keep1 {T : q_Tk} {n : Nat} {ord : Nat → Int} {x : Int} {s : q_S} : (q_e1 T n ord x s).2.2.2.1 1 = q_tk T s := by
  have a1 : ∀ s' : q_S, (q_tg0 T ord x s').2.2.2 = s'.2.2.2 := fun s' => by
    unfold q_tg0
    split
    · exact q_note_D
    · rfl
  unfold q_e1 q_tg
  rw [q_exp_D]
  show s_fu (q_tg0 T ord x (q_exp T n 35 (q_take T n (q_D (qd_set 1 (q_tk T s)) s)))).2.2.2.1 2 (e_w32 (q_val T (q_exp T n 35 (q_take T n (q_D (qd_set 1 (q_tk T s)) s))))) 1 = _
  rw [s_fu_ne (by omega), a1, q_exp_D, q_take_D]
  show s_fu s.2.2.2.1 1 (q_tk T s) 1 = _
  exact s_fu_eq
theorem rd_entry {B M : e_M} {T : q_Tk} {n d e : Nat} {x : Int} {s : q_S} {ord : Nat → Int} {Q : Int → e_M → Prop} (h : c_rd B (e_up M 10 9 (d : Int)) T n d s) (hT : q_tok T) (hx : 0 ≤ x ∧ x ≤ 150) (he : (e < 10 ∧ d + 6 < e ∨ 22 ≤ e ∨ e < d) ∧ e ≠ 10 ∧ (e < d ∨ d + 6 < e)) (hord : ∀ i : Nat, (i : Int) < x → ord i = B (B e i).toNat 1 ∧ ((B e i).toNat ≠ 10 ∧ ((B e i).toNat < d ∨ d + 6 < (B e i).toNat))) (hq : ∀ M', c_rd B M' T n d (q_entry T n ord x (q_D qd_clear s)) → Q (if (q_entry T n ord x (q_D qd_clear s)).2.1 = 0 then 1 else 0) M') : WX7_readEntry d e x M Q := by
  intro M1 e1
  rw [← e1] at h
  rw [rd_d h]
  refine rd_clear h (fun M2 h2 => ?_)
  generalize q_D qd_clear s = s0 at hq h2
  have ht := h2.1.2.2.1
  rw [ht]
  have fin : ∀ (M' : e_M) (s' : q_S), c_rd B M' T n d s' → q_fin T s' = q_entry T n ord x s0 → WX7_readEntry_95 Q M' := by
    intro M' s' h' e'
    unfold WX7_readEntry_95 VX7_readEntry_95
    refine rd_fin h' (fun M3 h3 => ?_)
    rw [e'] at h3
    have hq := hq M3 h3
    rw [h3.1.2.2.2.1]
    refine ⟨fun g => ?_, fun g => ?_⟩
    · rw [if_neg g] at hq; exact hq
    · rw [if_pos g] at hq; exact hq
  have e32 : q_tk T s0 = 222 ∨ q_tk T s0 = 223 → WX7_readEntry_32 Q e x M2 := by
    intro z M3 e3
    rw [rd_d h2, ht] at e3
    have h3 := rd_set (k := 1) (v := q_tk T s0) h2 (by omega)
    rw [← e3] at h3
    refine rd_take h3 (fun M4 h4 => rd_exp h4 (fun M5 h5 => ?_))
    have em : e_min x 150 = x := by unfold e_min; split <;> omega
    rw [em]
    refine rd_target (ord := ord) h5 hT hx.2 he (fun i hi => ?_) (fun M6 h6 => ?_)
    · rw [h5.2.2.2.1 e he.2.1 he.2.2]
      exact hord i hi
    · have h6 : c_rd B M6 T n d (q_e1 T n ord x s0) := h6
      rw [rd_d h6]
      unfold q_entry at fin
      by_cases f0 : (q_e1 T n ord x s0).2.1 = 0
      · rw [rd_v h6 f0 1, q_keep1]
        refine ⟨fun g => fin M6 _ h6 ?_, fun g => rd_exp h6 (fun M7 h7 => rd_deed h7 (fun M8 h8 => fin M8 _ h8 ?_))⟩
        · rw [if_pos (by omega)]
        · rw [if_neg (by omega), if_pos g]
      · have d1 := (q_dd_c (p := q_exp T n 225) (q := q_deed T n) q_exp_dd q_deed_dd) _ f0
        have dead : ∀ M', c_rd B M' T n d (q_e1 T n ord x s0) → WX7_readEntry_95 Q M' := by
          intro M' h'
          by_cases g : q_tk T s0 = 222
          · exact fin M' _ h' (by rw [if_pos g])
          · exact fin M' _ (rd_dd h' f0 d1) (by rw [if_neg g, if_pos (by omega)])
        refine ⟨fun _ => dead M6 h6, fun _ => rd_exp h6 (fun M7 h7 => rd_deed h7 (fun M8 h8 => dead M8 ?_))⟩
        exact rd_dd h8 (by rw [d1.1]; exact f0) ⟨d1.1.symm, d1.2.1.symm, d1.2.2.symm⟩
  refine ⟨fun g => e32 (Or.inl g), fun g => ⟨fun g2 => ?_, fun g2 => e32 (Or.inr g2)⟩⟩
  refine rd_deed h2 (fun M3 h3 => fin M3 _ h3 ?_)
  unfold q_entry
  rw [if_neg g, if_neg g2]
