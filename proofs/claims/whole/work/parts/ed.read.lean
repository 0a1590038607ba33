/-! the class's words of a DEED read: the ACTS, the ENTRY -/
def q_sold (T : q_Tk) (n : Nat) (s : q_S) : q_S := if q_tk T s = 3 then q_D (qd_set 12 (q_sv T n s).2) (q_D (qd_set 11 (q_sv T n s).1) (q_share T n s)) else s
def q_heir (T : q_Tk) (n : Nat) (s : q_S) : q_S := if q_tk T s = 225 then q_parts T n (q_take T n s) else s
def q_k1 (T : q_Tk) (s : q_S) : q_S := if q_tk T s < 236 ∨ 238 < q_tk T s then q_note T 1 s else s
def q_kind (T : q_Tk) (n : Nat) (s : q_S) : q_S := q_take T n (q_D (qd_set 10 (e_w32 (q_tk T (q_k1 T s) - 236))) (q_k1 T s))
theorem q_sold_dd {T : q_Tk} {n : Nat} : q_dd (q_sold T n) := q_dd_if (c := fun s => q_tk T s = 3) (p := fun s => q_D (qd_set 12 (q_sv T n s).2) (q_D (qd_set 11 (q_sv T n s).1) (q_share T n s))) (q := fun s => s) (fun s h => q_share_dd (n := n) s h) q_dd_i
theorem q_heir_dd {T : q_Tk} {n : Nat} : q_dd (q_heir T n) := q_dd_if (c := fun s => q_tk T s = 225) (p := fun s => q_parts T n (q_take T n s)) (q := fun s => s) (q_dd_c (p := q_take T n) (q := q_parts T n) q_take_dd q_parts_dd) q_dd_i
theorem q_k1_dd {T : q_Tk} : q_dd (q_k1 T) := q_dd_if (c := fun s => q_tk T s < 236 ∨ 238 < q_tk T s) (p := q_note T 1) q_note_dd q_dd_i
theorem q_kind_dd {T : q_Tk} {n : Nat} : q_dd (q_kind T n) := q_dd_c (p := fun s => q_D (qd_set 10 (e_w32 (q_tk T (q_k1 T s) - 236))) (q_k1 T s)) (q := q_take T n) (fun s h => q_k1_dd s h) q_take_dd
def q_onTo (T : q_Tk) (n : Nat) (s : q_S) : q_S := q_named T n 1 (q_exp T n 225 (q_named T n 0 (q_exp T n 224 (q_named T n 10 s))))
def q_act (T : q_Tk) (n : Nat) (a : Int) (s : q_S) : q_S :=
  if a = 200 then q_day T n 8 (q_exp T n 226 (q_named T n 10 s))
  else if a = 201 then q_named T n 11 (q_exp T n 227 (q_named T n 10 s))
  else if a = 202 then q_named T n 11 (q_exp T n 227 (q_named T n 11 s))
  else if a = 203 then q_heir T n (q_named T n 11 s)
  else if a = 204 then q_named T n 12 s
  else if a = 205 then q_price T n (q_parts T n (q_exp T n 225 (q_sold T n (q_named T n 1 (q_exp T n 228 (q_named T n 0 s))))))
  else if a = 206 then q_named T n 10 (q_exp T n 44 (q_named T n 10 (q_exp T n 230 (q_pts T n 13 (q_exp T n 227 (q_named T n 0 s))))))
  else if a = 207 then q_named T n 10 (q_exp T n 230 (q_named T n 0 (q_exp T n 44 (q_named T n 0 s))))
  else if a = 208 then q_pts T n 13 (q_exp T n 227 (q_named T n 0 (q_exp T n 44 (q_named T n 0 s))))
  else if a = 209 then q_price T n (q_named T n 1 (q_exp T n 225 (q_ls T n 7 (q_exp T n 224 (q_named T n 10 s)))))
  else if a = 210 then q_price T n (q_named T n 2 s)
  else if a = 211 then q_named T n 1 (q_exp T n 225 (q_named T n 2 s))
  else if a = 212 then q_named T n 0 (q_exp T n 224 (q_named T n 2 (q_exp T n 231 (q_named T n 2 s))))
  else if a = 213 then q_named T n 2 (q_exp T n 228 (q_named T n 0 s))
  else if a = 214 then q_price T n (q_named T n 1 (q_exp T n 225 (q_named T n 2 (q_exp T n 227 (q_named T n 0 s)))))
  else if a = 215 then q_pts T n 13 (q_exp T n 234 (q_named T n 0 (q_exp T n 233 (q_named T n 0 (q_exp T n 232 (q_kind T n (q_named T n 10 s)))))))
  else if a = 216 then q_named T n 3 s
  else if a = 217 then q_price T n (q_day T n 8 (q_exp T n 235 (q_onTo T n s)))
  else if a = 218 then q_named T n 1 (q_exp T n 227 (q_named T n 0 (q_exp T n 224 (q_named T n 10 s))))
  else if a = 219 then q_day T n 8 (q_exp T n 235 (q_onTo T n s))
  else if a = 220 then q_named T n 6 s
  else q_named T n 13 s
def q_a0 (T : q_Tk) (n : Nat) (s : q_S) : q_S := q_day T n 4 (q_exp T n 224 s)
def q_a1 (T : q_Tk) (n : Nat) (s : q_S) : q_S := q_take T n (q_D (qd_set 3 (q_tk T (q_a0 T n s))) (q_a0 T n s))
def q_deed (T : q_Tk) (n : Nat) (s : q_S) : q_S := if q_tk T (q_a0 T n s) < 200 ∨ 221 < q_tk T (q_a0 T n s) then q_note T 1 (q_a0 T n s) else q_act T n (q_tk T (q_a0 T n s)) (q_a1 T n s)
def q_fin (T : q_Tk) (s : q_S) : q_S := if q_tk T s = 0 then (if (T s.1).2.1 ≤ 600 then s else q_note T 4 s) else q_note T 1 s
def q_tg0 (T : q_Tk) (ord : Nat → Int) (cnt : Int) (s : q_S) : q_S := if q_tk T s = 3 ∧ (q_val T s < 1 ∨ cnt < q_val T s ∨ (s.2.2.2.1 1 = 223 ∧ ord (q_val T s - 1).toNat ≠ 0)) then q_note T 3 s else s
def q_tg (T : q_Tk) (n : Nat) (ord : Nat → Int) (cnt : Int) (s : q_S) : q_S := q_exp T n 3 (q_D (qd_set 2 (e_w32 (q_val T s))) (q_tg0 T ord cnt s))
def q_e1 (T : q_Tk) (n : Nat) (ord : Nat → Int) (cnt : Int) (s : q_S) : q_S := q_tg T n ord cnt (q_exp T n 35 (q_take T n (q_D (qd_set 1 (q_tk T s)) s)))
def q_entry (T : q_Tk) (n : Nat) (ord : Nat → Int) (cnt : Int) (s : q_S) : q_S := q_fin T (if q_tk T s = 222 then q_e1 T n ord cnt s else if q_tk T s = 223 then q_deed T n (q_exp T n 225 (q_e1 T n ord cnt s)) else q_deed T n s)
theorem q_act_dd {T : q_Tk} {n : Nat} {a : Int} : q_dd (q_act T n a) := by
  have N : ∀ {w : Int}, q_dd (q_named T n w) := q_named_dd
  have E : ∀ {k : Int}, q_dd (q_exp T n k) := q_exp_dd
  have NE : ∀ {w k : Int}, q_dd (fun s => q_exp T n k (q_named T n w s)) := fun {w k} => q_dd_c (p := q_named T n w) (q := q_exp T n k) N E
  have NEN : ∀ {w k v : Int}, q_dd (fun s => q_named T n v (q_exp T n k (q_named T n w s))) := fun {w k v} => q_dd_c (p := fun s => q_exp T n k (q_named T n w s)) (q := q_named T n v) NE N
  have NENE : ∀ {w k v l : Int}, q_dd (fun s => q_exp T n l (q_named T n v (q_exp T n k (q_named T n w s)))) := fun {w k v l} => q_dd_c (p := fun s => q_named T n v (q_exp T n k (q_named T n w s))) (q := q_exp T n l) NEN E
  have NENEN : ∀ {w k v l u : Int}, q_dd (fun s => q_named T n u (q_exp T n l (q_named T n v (q_exp T n k (q_named T n w s))))) := fun {w k v l u} => q_dd_c (p := fun s => q_exp T n l (q_named T n v (q_exp T n k (q_named T n w s)))) (q := q_named T n u) NENE N
  have O : q_dd (fun s => q_day T n 8 (q_exp T n 235 (q_onTo T n s))) := q_dd_c (p := fun s => q_exp T n 235 (q_onTo T n s)) (q := q_day T n 8) (q_dd_c (p := q_onTo T n) (q := q_exp T n 235) NENEN E) q_day_dd
  unfold q_act
  refine q_dd_if (c := fun _ => a = 200) (q_dd_c (p := fun s => q_exp T n 226 (q_named T n 10 s)) (q := q_day T n 8) NE q_day_dd) ?_
  refine q_dd_if (c := fun _ => a = 201) NEN ?_
  refine q_dd_if (c := fun _ => a = 202) NEN ?_
  refine q_dd_if (c := fun _ => a = 203) (q_dd_c (p := q_named T n 11) (q := q_heir T n) N q_heir_dd) ?_
  refine q_dd_if (c := fun _ => a = 204) N ?_
  refine q_dd_if (c := fun _ => a = 205) (q_dd_c (p := fun s => q_parts T n (q_exp T n 225 (q_sold T n (q_named T n 1 (q_exp T n 228 (q_named T n 0 s)))))) (q := q_price T n) (q_dd_c (p := fun s => q_exp T n 225 (q_sold T n (q_named T n 1 (q_exp T n 228 (q_named T n 0 s))))) (q := q_parts T n) (q_dd_c (p := fun s => q_sold T n (q_named T n 1 (q_exp T n 228 (q_named T n 0 s)))) (q := q_exp T n 225) (q_dd_c (p := fun s => q_named T n 1 (q_exp T n 228 (q_named T n 0 s))) (q := q_sold T n) NEN q_sold_dd) E) q_parts_dd) q_price_dd) ?_
  refine q_dd_if (c := fun _ => a = 206) (q_dd_c (p := fun s => q_exp T n 44 (q_named T n 10 (q_exp T n 230 (q_pts T n 13 (q_exp T n 227 (q_named T n 0 s)))))) (q := q_named T n 10) (q_dd_c (p := fun s => q_named T n 10 (q_exp T n 230 (q_pts T n 13 (q_exp T n 227 (q_named T n 0 s))))) (q := q_exp T n 44) (q_dd_c (p := fun s => q_exp T n 230 (q_pts T n 13 (q_exp T n 227 (q_named T n 0 s)))) (q := q_named T n 10) (q_dd_c (p := fun s => q_pts T n 13 (q_exp T n 227 (q_named T n 0 s))) (q := q_exp T n 230) (q_dd_c (p := fun s => q_exp T n 227 (q_named T n 0 s)) (q := q_pts T n 13) NE q_pts_dd) E) N) E) N) ?_
  refine q_dd_if (c := fun _ => a = 207) NENEN ?_
  refine q_dd_if (c := fun _ => a = 208) (q_dd_c (p := fun s => q_exp T n 227 (q_named T n 0 (q_exp T n 44 (q_named T n 0 s)))) (q := q_pts T n 13) NENE q_pts_dd) ?_
  refine q_dd_if (c := fun _ => a = 209) (q_dd_c (p := fun s => q_named T n 1 (q_exp T n 225 (q_ls T n 7 (q_exp T n 224 (q_named T n 10 s))))) (q := q_price T n) (q_dd_c (p := fun s => q_exp T n 225 (q_ls T n 7 (q_exp T n 224 (q_named T n 10 s)))) (q := q_named T n 1) (q_dd_c (p := fun s => q_ls T n 7 (q_exp T n 224 (q_named T n 10 s))) (q := q_exp T n 225) (q_dd_c (p := fun s => q_exp T n 224 (q_named T n 10 s)) (q := q_ls T n 7) NE q_ls_dd) E) N) q_price_dd) ?_
  refine q_dd_if (c := fun _ => a = 210) (q_dd_c (p := q_named T n 2) (q := q_price T n) N q_price_dd) ?_
  refine q_dd_if (c := fun _ => a = 211) NEN ?_
  refine q_dd_if (c := fun _ => a = 212) NENEN ?_
  refine q_dd_if (c := fun _ => a = 213) NEN ?_
  refine q_dd_if (c := fun _ => a = 214) (q_dd_c (p := fun s => q_named T n 1 (q_exp T n 225 (q_named T n 2 (q_exp T n 227 (q_named T n 0 s))))) (q := q_price T n) NENEN q_price_dd) ?_
  refine q_dd_if (c := fun _ => a = 215) (q_dd_c (p := fun s => q_exp T n 234 (q_named T n 0 (q_exp T n 233 (q_named T n 0 (q_exp T n 232 (q_kind T n (q_named T n 10 s))))))) (q := q_pts T n 13) (q_dd_c (p := fun s => q_exp T n 232 (q_kind T n (q_named T n 10 s))) (q := fun s => q_exp T n 234 (q_named T n 0 (q_exp T n 233 (q_named T n 0 s)))) (q_dd_c (p := fun s => q_kind T n (q_named T n 10 s)) (q := q_exp T n 232) (q_dd_c (p := q_named T n 10) (q := q_kind T n) N q_kind_dd) E) NENE) q_pts_dd) ?_
  refine q_dd_if (c := fun _ => a = 216) N ?_
  refine q_dd_if (c := fun _ => a = 217) (q_dd_c (p := fun s => q_day T n 8 (q_exp T n 235 (q_onTo T n s))) (q := q_price T n) O q_price_dd) ?_
  refine q_dd_if (c := fun _ => a = 218) NENEN ?_
  refine q_dd_if (c := fun _ => a = 219) O ?_
  exact q_dd_if (c := fun _ => a = 220) N N
theorem q_a0_dd {T : q_Tk} {n : Nat} : q_dd (q_a0 T n) := q_dd_c (p := q_exp T n 224) (q := q_day T n 4) q_exp_dd q_day_dd
theorem q_a1_dd {T : q_Tk} {n : Nat} : q_dd (q_a1 T n) := q_dd_c (p := fun s => q_D (qd_set 3 (q_tk T (q_a0 T n s))) (q_a0 T n s)) (q := q_take T n) (fun s h => q_a0_dd (n := n) s h) q_take_dd
theorem q_deed_dd {T : q_Tk} {n : Nat} : q_dd (q_deed T n) := fun s h => by
  unfold q_deed
  split
  · exact (q_dd_c (p := q_a0 T n) (q := q_note T 1) q_a0_dd q_note_dd) s h
  · exact (q_dd_c (p := q_a1 T n) (q := q_act T n (q_tk T (q_a0 T n s))) q_a1_dd q_act_dd) s h
theorem q_fin_dd {T : q_Tk} : q_dd (q_fin T) := q_dd_if (c := fun s => q_tk T s = 0) (p := fun s => if (T s.1).2.1 ≤ 600 then s else q_note T 4 s) (q := q_note T 1) (q_dd_if (c := fun s => (T s.1).2.1 ≤ 600) (p := fun s => s) (q := q_note T 4) q_dd_i q_note_dd) q_note_dd
theorem q_tg_dd {T : q_Tk} {n : Nat} {ord : Nat → Int} {cnt : Int} : q_dd (q_tg T n ord cnt) := q_dd_c (p := fun s => q_D (qd_set 2 (e_w32 (q_val T s))) (q_tg0 T ord cnt s)) (q := q_exp T n 3) (fun s h => (q_dd_if (c := fun s => q_tk T s = 3 ∧ (q_val T s < 1 ∨ cnt < q_val T s ∨ (s.2.2.2.1 1 = 223 ∧ ord (q_val T s - 1).toNat ≠ 0))) (p := q_note T 3) (q := fun s => s) q_note_dd q_dd_i) s h) q_exp_dd
theorem q_e1_dd {T : q_Tk} {n : Nat} {ord : Nat → Int} {cnt : Int} : q_dd (q_e1 T n ord cnt) := q_dd_c (p := fun s => q_exp T n 35 (q_take T n (q_D (qd_set 1 (q_tk T s)) s))) (q := q_tg T n ord cnt) (q_dd_c (p := fun s => q_take T n (q_D (qd_set 1 (q_tk T s)) s)) (q := q_exp T n 35) (q_dd_c (p := fun s => q_D (qd_set 1 (q_tk T s)) s) (q := q_take T n) (fun _ _ => ⟨rfl, rfl, rfl⟩) q_take_dd) q_exp_dd) q_tg_dd
theorem rd_fin {B M : e_M} {T : q_Tk} {n d : Nat} {s : q_S} {Q : e_M → Prop} (h : c_rd B M T n d s) (hq : ∀ M', c_rd B M' T n d (q_fin T s) → Q M') : WX7_finish M Q := by
  obtain ⟨b1, b2, b3⟩ := c_rs_b h.1
  have ht := h.1.2.2.1
  unfold q_fin at hq
  unfold WX7_finish VX7_finish
  rw [b2, b3.2.1, ht]
  refine ⟨fun g => ⟨b1, fun g2 => ?_, fun g2 => ?_⟩, fun g => ?_⟩
  · rw [if_pos g, if_pos g2] at hq
    exact hq M h
  · rw [if_pos g, if_neg (by omega)] at hq
    exact rd_note h (by decide) hq
  · rw [if_neg g] at hq
    exact rd_note h (by decide) hq
theorem rd_day {B M : e_M} {T : q_Tk} {n d k : Nat} {s : q_S} {Q : e_M → Prop} (h : c_rd B M T n d s) (hk : k ≠ 7 ∧ k ≠ 15 ∧ k ≠ 18) (hq : ∀ M', c_rd B M' T n d (q_day T n k s) → Q M') : WX7_takeDate M (fun r M' => ∀ M6 : e_M, M6 = e_up M' ((M 10 9).toNat) k r → Q M6) := by
  refine rd_date h (fun M1 h1 M2 e2 => hq M2 ?_)
  rw [rd_d h] at e2
  rw [e2]
  exact rd_set h1 hk
theorem rd_persons {B M : e_M} {T : q_Tk} {n d : Nat} {s : q_S} {a : Int} {Q : e_M → Prop} (h : c_rd B M T n d s) (ha : 200 ≤ a ∧ a ≤ 204) (hq : ∀ M', c_rd B M' T n d (q_act T n a s) → Q M') : WX7_readOfPersons a M Q := by
  unfold q_act at hq
  refine ⟨fun g0 => ⟨fun g1 => ⟨fun g2 => ⟨fun g3 => ?_, fun g3 => ?_⟩, fun g2 => ?_⟩, fun g1 => ?_⟩, fun g0 => ?_⟩
  · rw [if_neg g0, if_neg g1, if_neg g2, if_neg g3, if_pos (by omega)] at hq
    exact rd_named h hq
  · rw [if_neg g0, if_neg g1, if_neg g2, if_pos g3] at hq
    refine rd_named h (fun M1 h1 => ?_)
    rw [h1.1.2.2.1]
    unfold q_heir at hq
    refine ⟨fun g => ?_, fun g => ?_⟩
    · rw [if_neg g] at hq
      exact hq M1 h1
    · rw [if_pos g] at hq
      exact rd_take h1 (fun M2 h2 => rd_parts h2 hq)
  · rw [if_neg g0, if_neg g1, if_pos g2] at hq
    exact rd_named h (fun M1 h1 => rd_exp h1 (fun M2 h2 => rd_named h2 hq))
  · rw [if_neg g0, if_pos g1] at hq
    exact rd_named h (fun M1 h1 => rd_exp h1 (fun M2 h2 => rd_named h2 hq))
  · rw [if_pos g0] at hq
    exact rd_named h (fun M1 h1 => rd_exp h1 (fun M2 h2 => rd_day h2 (by omega) hq))
