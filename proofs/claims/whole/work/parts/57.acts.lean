/-! Acts: what they go by, and their smaller helpers -/
def a_cx (M : e_M) (w d : Nat) (at_ : Int) : Prop := (M 4423 0).toNat = w ∧ (M 4423 1).toNat = d ∧ M 4423 2 = at_
theorem a_cx_congr {M M' : e_M} {w d : Nat} {at_ : Int} (h : a_cx M w d at_) (e : M' 4423 = M 4423) : a_cx M' w d at_ := by unfold a_cx; rw [e]; exact h
/-- the cells that may have changed are those of what the World holds and those of the Acts -/
def a_fr (M M' : e_M) (w : Nat) : Prop := ∀ b, b ≠ w + 24 → (b < w + 29 ∨ w + 2199 ≤ b) → (b < 4424 ∨ 4452 ≤ b) → M' b = M b
theorem a_fr_of {M M' : e_M} {w : Nat} (h : w_fr M M' w) : a_fr M M' w := fun b b1 b2 _ => h b b1 b2
theorem a_fr_trans {M N L : e_M} {w : Nat} (h1 : a_fr M N w) (h2 : a_fr N L w) : a_fr M L w := fun b b1 b2 b3 => by rw [h2 b b1 b2 b3, h1 b b1 b2 b3]
theorem a_fr_refl {M : e_M} {w : Nat} : a_fr M M w := fun _ _ _ _ => rfl
/-- where a World lies -/
def a_w (w : Nat) : Prop := 24 < w ∧ w + 2199 ≤ 4423
/-- where a Deed lies: outside -/
def a_d (w d : Nat) : Prop := (d + 6 < w ∨ w + 2199 ≤ d) ∧ (d + 6 < 4423 ∨ 4452 ≤ d)
theorem k_tset {M : e_M} {w j k : Nat} {v : Int} (h : w_ok M w) (hj : j < 290) (h9 : k ≠ 9) (h10 : k ≠ 10) : w_ok (e_up M (w_at w j) k v) w ∧ w_of (e_up M (w_at w j) k v) w = w_setT (w_of M w) j (s_fu (M (w_at w j)) k v, ((w_of M w).2.2.1 j).2) ∧ w_fr M (e_up M (w_at w j) k v) w := by
  have ho : w_tok (e_up M (w_at w j) k v) (w_at w j) := by
    have := h.2.2.2 j hj
    unfold w_tok s_rok at *
    rw [e_up_row (by omega), e_up_row (by omega), e_up_ne (fun z => h9 z.2.symm), e_up_ne (fun z => h10 z.2.symm)]
    exact this
  obtain ⟨u1, u2, u3⟩ := w_upT h hj (M' := e_up M (w_at w j) k v) (fun b hb => e_up_row (by omega)) ho
  refine ⟨u1, ?_, u3⟩
  rw [u2, w_of_t hj]
  unfold x_th
  rw [s_fu_up, s_row_congr (M := M) (a := w_at w j + 1) (e_up_row (by omega)) (e_up_row (by omega)), s_row_congr (M := M) (a := w_at w j + 3) (e_up_row (by omega)) (e_up_row (by omega))]
/-- a thing put behind those of its sort -/
def w_addT (S : w_S) (s : Nat) (t : w_T) : w_S := (s_fu S.1 s (S.1 s + 1), S.2.1, s_fu S.2.2.1 (w_F s + (S.1 s).toNat) t, S.2.2.2)
/-- the thing that a DEED makes -/
def w_new (S : w_S) (s : Nat) (called d at_ : Int) : w_T := (s_fu (t_new called d at_ (w_t S s (S.1 s).toNat).1) 4 S.2.2.2, [], [])
theorem w_setT_setT {S : w_S} {j : Nat} {t u : w_T} : w_setT (w_setT S j t) j u = w_setT S j u := by
  unfold w_setT
  refine Prod.ext rfl (Prod.ext rfl (Prod.ext (funext fun k => ?_) rfl))
  show s_fu (s_fu _ j t) j u k = s_fu _ j u k
  unfold s_fu
  split <;> rfl
theorem w_setT_addT {S : w_S} {s : Nat} {t u : w_T} : w_setT (w_addT S s t) (w_F s + (S.1 s).toNat) u = w_addT S s u := by
  unfold w_setT w_addT
  refine Prod.ext rfl (Prod.ext rfl (Prod.ext (funext fun k => ?_) rfl))
  show s_fu (s_fu _ _ t) _ u k = s_fu _ _ u k
  unfold s_fu
  split <;> rfl
theorem k_make {M : e_M} {w d : Nat} {at_ s : Int} {Q : Nat → e_M → Prop} (h : w_ok M w) (hw : a_w w) (cx : a_cx M w d at_) (hd : a_d w d) (hday : M d 4 = M w 11) (hs : 1 ≤ s ∧ s < 8) (h1 : M (w + 24) s.toNat < w_mx s.toNat) (hq : ∀ M', w_ok M' w → w_of M' w = w_addT (w_of M w) s.toNat (w_new (w_of M w) s.toNat (M (d + 1) 0) d at_) → w_fr M M' w → Q (w_at w (w_F s.toNat + (M (w + 24) s.toNat).toNat)) M') : WX0_make s M Q := by
  unfold WX0_make VX0_make
  rw [cx.1, cx.2.1, cx.2.2]
  have hz := w_zb h (show s.toNat < 8 by omega)
  have hm := w_F_lt s.toNat (by omega) (by omega)
  have hJ : w_F s.toNat + (M (w + 24) s.toNat).toNat < 290 := by omega
  unfold a_w at hw
  unfold a_d at hd
  refine ⟨by omega, k_add h hs h1 (fun N n1 n2 n3 => fun M3 e3 => ?_)⟩
  have x4423 : N 4423 = M 4423 := n3 _ (by omega) (by omega)
  rw [x4423, cx.2.1, n3 d (by omega) (by omega), hday] at e3
  obtain ⟨u1, u2, u3⟩ := k_tset n1 hJ (k := 4) (v := M w 11) (by omega) (by omega)
  rw [e3]
  refine hq _ u1 ?_ (w_fr_trans n3 u3)
  have ex : x_th N (w_at w (w_F s.toNat + (M (w + 24) s.toNat).toNat)) = (t_new (M (d + 1) 0) d at_ (M (w_at w (w_F s.toNat + (M (w + 24) s.toNat).toNat))), [], []) := by
    have := congrFun (congrArg (fun S : w_S => S.2.2.1) n2) (w_F s.toNat + (M (w + 24) s.toNat).toNat)
    rw [w_of_t hJ] at this
    refine this.trans ?_
    show s_fu _ _ _ _ = _
    rw [s_fu_eq]; rfl
  rw [u2, w_of_t hJ, ex, show N (w_at w (w_F s.toNat + (M (w + 24) s.toNat).toNat)) = t_new (M (d + 1) 0) d at_ (M (w_at w (w_F s.toNat + (M (w + 24) s.toNat).toNat))) from congrArg (fun t : w_T => t.1) ex, n2]
  have e2 : (w_t (w_of M w) s.toNat ((w_of M w).1 s.toNat).toNat).1 = M (w_at w (w_F s.toNat + (M (w + 24) s.toNat).toNat)) := by
    show ((w_of M w).2.2.1 (w_F s.toNat + (M (w + 24) s.toNat).toNat)).1 = _
    rw [w_of_t hJ]; rfl
  unfold w_new
  rw [e2]
  exact w_setT_addT (S := w_of M w) (s := s.toNat)
/-! what is asked before an act -/
def w_bar (S : w_S) (l : Int) (but : Int) : Prop := ∃ i : Nat, (i : Int) < w_z S 5 ∧ w_thr S 5 i = true ∧ l ∈ (w_t S 5 i).2.1 ∧ (w_t S 5 i).1 5 ≠ but
theorem k_thr_t {M : e_M} {w s i : Nat} {Q : Int → Prop} (h : w_ok M w) (hs : 1 ≤ s ∧ s < 8) (hi : (i : Int) < M (w + 24) s) (q1 : w_thr (w_of M w) s i = true → Q 1) (q0 : w_thr (w_of M w) s i = false → Q 0) : WX9_isThere (w_at w (w_F s + i)) (M w 11) M Q := by
  have hin := w_in h hs hi
  unfold w_thr at q1 q0
  rw [if_neg (by omega)] at q1 q0
  unfold t_thr at q1 q0
  rw [w_t_k hin, w_t_k hin] at q1 q0
  change ((decide _ && decide (M w 11 < _)) = true → _) at q1
  change ((decide _ && decide (M w 11 < _)) = false → _) at q0
  refine c_tthere (fun e1 e2 => q1 ?_) (fun ne => q0 ?_)
  · rw [decide_eq_true e1, decide_eq_true e2]; rfl
  · by_cases c : M (w_at w (w_F s + i)) 2 = 0
    · rw [decide_eq_false (p := M w 11 < _) (fun z => ne ⟨c, z⟩), Bool.and_false]
    · rw [decide_eq_false c, Bool.false_and]
theorem w_t_row {M : e_M} {w s i : Nat} (h : w_F s + i < 290) : (w_t (w_of M w) s i).2.1 = s_row M (w_at w (w_F s + i) + 1) ∧ (w_t (w_of M w) s i).2.2 = s_row M (w_at w (w_F s + i) + 3) := by
  rw [w_t_e h]; exact ⟨rfl, rfl⟩
theorem w_ref {M : e_M} {w j : Nat} (h : w_ok M w) (hj : j < 290) : (M (w_at w j) 9).toNat = w_at w j + 1 ∧ (M (w_at w j) 10).toNat = w_at w j + 3 := by
  have := (h.2.2.2 j hj).2
  rw [this.1, this.2]
  omega
theorem k_barred {M : e_M} {w d : Nat} {at_ l but : Int} {Q : Int → Prop} (h : w_ok M w) (cx : a_cx M w d at_) (q1 : w_bar (w_of M w) l but → Q 1) (q0 : ¬ w_bar (w_of M w) l but → Q 0) : WX0_isBarred l but M Q := by
  have hz := w_zb h (show 5 < 8 by omega)
  have hm : w_mx 5 = 40 := rfl
  unfold WX0_isBarred VX0_isBarred
  refine s_up (P := fun d i (_ : Unit) => WX0_isBarred_2 M Q d l but i) (n := M (w + 24) 5) (s := ()) (fun k _ => ∀ i : Nat, (i : Int) < k → ¬ (w_thr (w_of M w) 5 i = true ∧ l ∈ (w_t (w_of M w) 5 i).2.1 ∧ (w_t (w_of M w) 5 i).1 5 ≠ but)) hz.1 (fun j hj => by omega) ?_ ?_
  · intro d2 _ hi
    unfold WX0_isBarred_2 VX0_isBarred_2
    rw [cx.1]
    refine ⟨by omega, fun _ => q0 (fun ⟨i, h1, h2⟩ => hi i h1 h2), fun z => absurd z (Int.lt_irrefl _)⟩
  · intro d2 i _ k1 k2 hi ih
    unfold WX0_isBarred_2 VX0_isBarred_2
    rw [cx.1]
    have hin := w_in (s := 5) (i := i.toNat) h (by omega) (by omega)
    have tr := w_t_row (M := M) (w := w) hin
    have rf := w_ref h hin
    have go : ¬ (w_thr (w_of M w) 5 i.toNat = true ∧ l ∈ (w_t (w_of M w) 5 i.toNat).2.1 ∧ (w_t (w_of M w) 5 i.toNat).1 5 ≠ but) → WX0_isBarred_64 M (WX0_isBarred_2 M Q d2) Q l but i := by
      intro ne
      show WX0_isBarred_2 M Q d2 l but (e_w32 (i + 1))
      rw [s_w (by omega) (by omega)]
      refine ih () (fun j hj => ?_)
      by_cases c : (j : Int) = i
      · rw [show j = i.toNat by omega]; exact ne
      · exact hi j (by omega)
    refine ⟨by omega, fun z => absurd k2 (Int.not_lt.mpr z), fun _ => k_at h (by omega) k1 k2 ?_⟩
    rw [show (5 : Int).toNat = 5 from rfl]
    refine k_thr_t h (by omega) (by omega) (fun t => ⟨fun z => by omega, fun _ => ?_⟩) (fun t => ⟨fun _ => go (fun z => by rw [t] at z; cases z.1), fun z => absurd rfl z⟩)
    rw [rf.1]
    rw [tr.1, w_t_k hin] at go
    refine c_has (h.2.2.2 _ hin).1.1 (fun m => ⟨fun z => by omega, fun _ => ⟨fun e => go (fun z => z.2.2 e), fun ne => q1 ⟨i.toNat, by show (i.toNat : Int) < M (w + 24) 5; omega, t, by rw [tr.1]; exact m, by rw [w_t_k hin]; exact ne⟩⟩⟩) (fun m => ⟨fun _ => go (fun z => m z.2.1), fun z => absurd rfl z⟩)
def w_oab (S : w_S) (l : Nat) : Prop := ∀ q ∈ (w_l S l).2.2.2, w_abl S q.1.toNat = true
theorem k_ownersAble {M : e_M} {w d : Nat} {at_ l : Int} {Q : Int → Prop} (h : w_ok M w) (hr : w_rg (w_of M w)) (cx : a_cx M w d at_) (hl : 0 ≤ l ∧ l < M (w + 24) 0) (q1 : w_oab (w_of M w) l.toNat → Q 1) (q0 : ¬ w_oab (w_of M w) l.toNat → Q 0) : WX0_areOwnersAble l M Q := by
  have hi80 : l.toNat < 80 := w_in0 h (by omega)
  have hrl := (hr.1 l.toNat (by show (l.toNat : Int) < M (w + 24) 0; omega)).2.2.1
  unfold w_oab at q1 q0
  rw [w_l_e hi80] at q1 q0 hrl
  have ho := (h.2.2.1 _ hi80).2.2
  obtain ⟨o1, o2⟩ := id ho
  unfold WX0_areOwnersAble VX0_areOwnersAble
  rw [cx.1]
  refine k_lot h hl.1 hl.2 ?_
  refine s_up (P := fun d i (_ : Unit) => WX0_areOwnersAble_11 M Q d (w_al w l.toNat) i) (n := M (w_al w l.toNat) 8) (s := ()) (fun k _ => ∀ i : Nat, (i : Int) < k → w_abl (w_of M w) (M (w_al w l.toNat + 6) i).toNat = true) o1 (fun j hj => by omega) ?_ ?_
  · intro d2 _ hi
    refine ⟨fun _ => q1 (fun q hq => ?_), fun z => by omega⟩
    obtain ⟨j, hj, e⟩ := s_ar_mem.mp hq
    rw [← e]
    exact hi j (by omega)
  · intro d2 i _ k1 k2 hi ih
    unfold WX0_areOwnersAble_11 VX0_areOwnersAble_11
    rw [cx.1]
    have hm := List.mem_of_getElem? (s_own_at (M := M) (a := w_al w l.toNat) (i := i.toNat) (by omega))
    have hp := hrl _ hm
    change 0 ≤ M (w_al w l.toNat + 6) i.toNat ∧ M (w_al w l.toNat + 6) i.toNat < M (w + 24) 1 at hp
    have hw := (hr.2 1 (M (w_al w l.toNat + 6) i.toNat).toNat (by omega) (by omega) (by show ((M (w_al w l.toNat + 6) i.toNat).toNat : Int) < M (w + 24) 1; omega)).1.1
    refine ⟨fun z => by omega, fun _ => ⟨⟨k1, by omega⟩, k_able h hp hw (fun a => ⟨fun _ => ?_, fun z => by omega⟩) (fun a => ⟨fun z => absurd rfl z, fun _ => q0 (fun z => ?_)⟩)⟩⟩
    · rw [s_w (by omega) (by omega)]
      refine ih () (fun j hj => ?_)
      by_cases c : (j : Int) = i
      · rw [show j = i.toNat by omega]; exact a
      · exact hi j (by omega)
    · have := z _ hm
      rw [show w_abl (w_of M w) (M (w_al w l.toNat + 6) i.toNat).toNat = false from a] at this
      cases this
/-- among the PARTS: one is told that may not, or one twice -/
def a_mixed (r : Nat → Int) (from_ told : Int) (p : Int) : Prop := ∃ i : Nat, from_ ≤ i ∧ (i : Int) < told ∧ (r i = p ∨ ∃ j : Nat, from_ ≤ j ∧ j < i ∧ r i = r j)
theorem k_mixed {M : e_M} {w d : Nat} {at_ from_ p : Int} {Q : Int → Prop} (cx : a_cx M w d at_) (h0 : 0 ≤ from_) (hd : from_ ≤ M d 7 ∧ M d 7 ≤ 8) (q1 : a_mixed (M 4425) from_ (M d 7) p → Q 1) (q0 : ¬ a_mixed (M 4425) from_ (M d 7) p → Q 0) : WX0_arePartsMixed from_ p M Q := by
  unfold WX0_arePartsMixed VX0_arePartsMixed
  refine s_up (P := fun d i (_ : Unit) => WX0_arePartsMixed_2 M Q d from_ p i) (n := M d 7) (s := ()) (fun k _ => ∀ i : Nat, from_ ≤ i → (i : Int) < k → ¬ (M 4425 i = p ∨ ∃ j : Nat, from_ ≤ j ∧ j < i ∧ M 4425 i = M 4425 j)) hd.1 (fun j hj1 hj2 => by omega) ?_ ?_
  · intro d2 _ hi
    unfold WX0_arePartsMixed_2 VX0_arePartsMixed_2
    rw [cx.2.1]
    exact ⟨fun _ => q0 (fun ⟨i, h1, h2, h3⟩ => hi i h1 h2 h3), fun z => by omega⟩
  · intro d2 i _ k1 k2 hi ih
    unfold WX0_arePartsMixed_2 VX0_arePartsMixed_2
    rw [cx.2.1]
    have ri : 0 ≤ i ∧ i < 8 := by omega
    refine ⟨fun z => by omega, fun _ => ⟨ri, fun ne => ?_, fun e => q1 ⟨i.toNat, by omega, by omega, Or.inl e⟩⟩⟩
    refine s_up (P := fun d3 j (_ : Unit) => WX0_arePartsMixed_28 M (WX0_arePartsMixed_2 M Q d2) Q d3 from_ p i j) (n := i) (s := ()) (fun k _ => ∀ j : Nat, from_ ≤ j → (j : Int) < k → M 4425 i.toNat ≠ M 4425 j) k1 (fun j hj1 hj2 => by omega) ?_ ?_
    · intro d3 _ hj
      refine ⟨fun _ => ?_, fun z => by omega⟩
      rw [s_w (by omega) (by omega)]
      refine ih () (fun k hk1 hk2 => ?_)
      by_cases c : (k : Int) = i
      · rw [show k = i.toNat by omega]
        rintro (z | ⟨j, z1, z2, z3⟩)
        · exact ne z
        · exact hj j z1 (by omega) z3
      · exact hi k hk1 (by omega)
    · intro d3 j _ j1 j2 hj ih2
      refine ⟨fun z => by omega, fun _ => ⟨ri, by omega, fun ne2 => ?_, fun e => q1 ⟨i.toNat, by omega, by omega, Or.inr ⟨j.toNat, by omega, by omega, e⟩⟩⟩⟩
      rw [s_w (by omega) (by omega)]
      refine ih2 () (fun k hk1 hk2 => ?_)
      by_cases c : (k : Int) = j
      · rw [show k = j.toNat by omega]; exact ne2
      · exact hj k hk1 (by omega)
