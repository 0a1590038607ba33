/-! the class's World: what is asked of it -/
theorem w_l_e {M : e_M} {w i : Nat} (h : i < 80) : w_l (w_of M w) i = x_lot M (w_al w i) := w_of_l h
theorem w_t_e {M : e_M} {w s i : Nat} (h : w_F s + i < 290) : w_t (w_of M w) s i = x_th M (w_at w (w_F s + i)) := w_of_t h
theorem w_l_k {M : e_M} {w i k : Nat} (h : i < 80) (hk : k < 3) : (w_l (w_of M w) i).1 k = M (w_al w i) k := by rw [w_l_e h]; exact if_pos hk
theorem w_t_k {M : e_M} {w s i k : Nat} (h : w_F s + i < 290) : (w_t (w_of M w) s i).1 k = M (w_at w (w_F s + i)) k := by rw [w_t_e h]; rfl
theorem w_zb {M : e_M} {w s : Nat} (h : w_ok M w) (hs : s < 8) : 0 ≤ M (w + 24) s ∧ M (w + 24) s ≤ w_mx s := h.2.1 s hs
theorem w_in {M : e_M} {w s i : Nat} (h : w_ok M w) (hs : 1 ≤ s ∧ s < 8) (hi : (i : Int) < M (w + 24) s) : w_F s + i < 290 := by
  have h1 := w_zb h hs.2
  have h2 := w_F_lt s hs.2 hs.1
  omega
theorem w_in0 {M : e_M} {w i : Nat} (h : w_ok M w) (hi : (i : Int) < M (w + 24) 0) : i < 80 := by
  have h1 := w_zb h (show 0 < 8 by omega)
  have h2 : w_mx 0 = 80 := rfl
  omega
def t_thr (t : w_T) (day : Int) : Bool := decide (t.1 2 = 0) && decide (day < t.1 3)
def w_thr (S : w_S) (s i : Nat) : Bool := if s = 0 then decide ((w_l S i).1 1 = 0) else t_thr (w_t S s i) (w_d S)
def w_nm (S : w_S) (s i : Nat) : Int := if s = 0 then (w_l S i).1 0 else (w_t S s i).1 0
theorem k_there {M : e_M} {w : Nat} {s n : Int} {Q : Int → Prop} (h : w_ok M w) (hs : 0 ≤ s ∧ s < 8) (hn : 0 ≤ n ∧ n < M (w + 24) s.toNat) (q1 : w_thr (w_of M w) s.toNat n.toNat = true → Q 1) (q0 : w_thr (w_of M w) s.toNat n.toNat = false → Q 0) : WX10_isThere w s n M Q := by
  unfold WX10_isThere VX10_isThere
  unfold w_thr at q1 q0
  refine ⟨fun ne => ?_, fun e => ?_⟩
  · have hi := w_in (s := s.toNat) (i := n.toNat) h (by omega) (by omega)
    rw [if_neg (by omega)] at q1 q0
    unfold t_thr at q1 q0
    rw [w_t_k hi, w_t_k hi] at q1 q0
    refine k_at h (by omega) hn.1 hn.2 (c_tthere (fun e1 e2 => ⟨Or.inr rfl, q1 ?_⟩) (fun ne => ⟨Or.inl rfl, q0 ?_⟩))
    · show (decide _ && decide (M w 11 < _)) = true
      rw [decide_eq_true e1, decide_eq_true e2]; rfl
    · show (decide _ && decide (M w 11 < _)) = false
      by_cases c : M (w_at w (w_F s.toNat + n.toNat)) 2 = 0
      · rw [decide_eq_false (p := M w 11 < _) (fun z => ne ⟨c, z⟩), Bool.and_false]
      · rw [decide_eq_false c, Bool.false_and]
  · subst e
    have hi : n.toNat < 80 := w_in0 h (by have : n < M (w + 24) 0 := hn.2; omega)
    rw [show (0 : Int).toNat = 0 from rfl, if_pos rfl, w_l_k hi (by omega)] at q1 q0
    refine k_lot h hn.1 hn.2 ⟨fun ne => ⟨Or.inl rfl, q0 (decide_eq_false ne)⟩, fun e => ⟨Or.inr rfl, q1 (decide_eq_true e)⟩⟩
theorem k_nameOf {M : e_M} {w : Nat} {s n : Int} {Q : Int → Prop} (h : w_ok M w) (hs : 0 ≤ s ∧ s < 8) (hn : 0 ≤ n ∧ n < M (w + 24) s.toNat) (hq : Q (w_nm (w_of M w) s.toNat n.toNat)) : WX10_nameOf w s n M Q := by
  unfold WX10_nameOf VX10_nameOf
  unfold w_nm at hq
  refine ⟨fun ne => ?_, fun e => ?_⟩
  · have hi := w_in (s := s.toNat) (i := n.toNat) h (by omega) (by omega)
    rw [if_neg (by omega), w_t_k hi] at hq
    exact k_at h (by omega) hn.1 hn.2 hq
  · subst e
    have hi : n.toNat < 80 := w_in0 h (by have : n < M (w + 24) 0 := hn.2; omega)
    rw [show (0 : Int).toNat = 0 from rfl, if_pos rfl, w_l_k hi (by omega)] at hq
    exact k_lot h hn.1 hn.2 hq
theorem k_find {M : e_M} {w : Nat} {x : Int} {Q : Int → Prop} (h : w_ok M w) (hq : ∀ r : Int, ((r = -1 ∧ ∀ s i : Nat, s < 7 → (i : Int) < w_z (w_of M w) s → w_nm (w_of M w) s i ≠ x) ∨ ∃ s i : Nat, s < 7 ∧ (i : Int) < w_z (w_of M w) s ∧ w_nm (w_of M w) s i = x ∧ r = 100 * s + i) → Q r) : WX10_find w x M Q := by
  have hz0 := w_zb h (show 0 < 8 by omega)
  have hm0 : w_mx 0 = 80 := rfl
  unfold WX10_find VX10_find
  refine s_up (P := fun d i (_ : Unit) => WX10_find_2 M Q d w x i) (n := M (w + 24) 0) (s := ()) (fun k _ => ∀ i : Nat, (i : Int) < k → w_nm (w_of M w) 0 i ≠ x) hz0.1 (fun j hj => by omega) ?_ ?_
  · intro d _ hi
    refine ⟨by omega, fun _ => ?_, fun z => absurd z (Int.lt_irrefl _)⟩
    refine s_up (P := fun d i (_ : Unit) => WX10_find_38 M Q d w x i) (n := 7) (s := ()) (fun k _ => ∀ s i : Nat, (s : Int) < k → (i : Int) < w_z (w_of M w) s → w_nm (w_of M w) s i ≠ x) (by omega) (fun s i hs hii => ?_) ?_ ?_
    · rw [show s = 0 by omega] at hii ⊢; exact hi i hii
    · intro d _ hi
      exact ⟨fun _ => hq (-1) (Or.inl ⟨rfl, fun s i hs => hi s i (by omega)⟩), fun z => by omega⟩
    · intro d s _ g1 g2 hi2 ih
      refine ⟨fun z => by omega, fun _ => ?_⟩
      have hz := w_zb h (show s.toNat < 8 by omega)
      refine s_up (P := fun d2 i (_ : Unit) => WX10_find_47 M (WX10_find_38 M Q d) Q d2 w x s i) (n := M (w + 24) s.toNat) (s := ()) (fun k _ => ∀ i : Nat, (i : Int) < k → w_nm (w_of M w) s.toNat i ≠ x) hz.1 (fun j hj => by omega) ?_ ?_
      · intro d2 _ hi3
        refine ⟨by omega, fun _ => ?_, fun z => absurd z (Int.lt_irrefl _)⟩
        rw [s_w (by omega) (by omega)]
        refine ih () (fun r i hr hii => ?_)
        by_cases c : (r : Int) = s
        · rw [show r = s.toNat by omega] at hii ⊢; exact hi3 i hii
        · exact hi2 r i (by omega) hii
      · intro d2 i _ k1 k2 hi3 ih2
        have hj := w_in (s := s.toNat) (i := i.toNat) h (by omega) (by omega)
        refine ⟨by omega, fun z => by omega, fun _ => ⟨by omega, ?_⟩⟩
        rw [w_Fk s.toNat (by omega), s_w (x := (w_F s.toNat : Int) + i) (by omega) (by omega), show ((w_F s.toNat : Int) + i).toNat = w_F s.toNat + i.toNat by omega, h.1.2 _ hj, show (((w_at w (w_F s.toNat + i.toNat)) : Nat) : Int).toNat = w_at w (w_F s.toNat + i.toNat) by omega]
        have en : w_nm (w_of M w) s.toNat i.toNat = M (w_at w (w_F s.toNat + i.toNat)) 0 := by unfold w_nm; rw [if_neg (by omega), w_t_k hj]
        refine ⟨by omega, fun ne => ?_, fun e => hq _ (Or.inr ⟨s.toNat, i.toNat, by omega, by show (i.toNat : Int) < M (w + 24) s.toNat; omega, by rw [en]; exact e, ?_⟩)⟩
        · rw [s_w (by omega) (by omega)]
          refine ih2 () (fun j hj2 => ?_)
          by_cases c : (j : Int) = i
          · rw [show j = i.toNat by omega, en]; exact ne
          · exact hi3 j (by omega)
        · have : w_mx s.toNat ≤ 290 := by have := w_F_lt s.toNat (by omega) (by omega); omega
          rw [s_w (x := s * 100) (by omega) (by omega), s_w (by omega) (by omega)]
          omega
  · intro d i _ k1 k2 hi ih
    have hj : i.toNat < 80 := by omega
    refine ⟨by omega, fun z => absurd k2 (Int.not_lt.mpr z), fun _ => ⟨by omega, ?_⟩⟩
    rw [h.1.1 _ hj, show (((w_al w i.toNat) : Nat) : Int).toNat = w_al w i.toNat by omega]
    have en : w_nm (w_of M w) 0 i.toNat = M (w_al w i.toNat) 0 := by unfold w_nm; rw [if_pos rfl, w_l_k hj (by omega)]
    refine ⟨fun ne => ?_, fun e => hq _ (Or.inr ⟨0, i.toNat, by omega, by show (i.toNat : Int) < M (w + 24) 0; omega, by rw [en]; exact e, ?_⟩)⟩
    · rw [s_w (by omega) (by omega)]
      refine ih () (fun j hj2 => ?_)
      by_cases c : (j : Int) = i
      · rw [show j = i.toNat by omega, en]; exact ne
      · exact hi j (by omega)
    · rw [s_w (by omega) (by omega)]; omega
def g_cnt (f : Nat → Bool) : Nat → Nat
  | 0 => 0
  | k + 1 => g_cnt f k + (if f k = true then 1 else 0)
theorem g_cnt_le {f : Nat → Bool} : ∀ {n : Nat}, g_cnt f n ≤ n
  | 0 => Nat.le_refl 0
  | n + 1 => by
    have := g_cnt_le (f := f) (n := n)
    unfold g_cnt
    split <;> omega
theorem k_howMany {M : e_M} {w : Nat} {s : Int} {Q : Int → Prop} (h : w_ok M w) (hs : 0 ≤ s ∧ s < 8) (hq : Q (g_cnt (w_thr (w_of M w) s.toNat) (M (w + 24) s.toNat).toNat)) : WX10_howMany w s M Q := by
  have hz := w_zb h (show s.toNat < 8 by omega)
  have hm : w_mx s.toNat ≤ 80 := by unfold w_mx; (repeat' split) <;> omega
  unfold WX10_howMany VX10_howMany
  refine s_up (P := fun d i s' => WX10_howMany_4 M Q d w s s' i) (n := M (w + 24) s.toNat) (fun i (m : Int) => m = g_cnt (w_thr (w_of M w) s.toNat) i.toNat) hz.1 rfl ?_ ?_
  · intro d m e
    refine ⟨hs, fun _ => by rw [e]; exact hq, fun z => absurd z (Int.lt_irrefl _)⟩
  · intro d i m k1 k2 e ih
    have hle := g_cnt_le (f := w_thr (w_of M w) s.toNat) (n := i.toNat)
    refine ⟨hs, fun z => by omega, fun _ => k_there h hs ⟨k1, k2⟩ (fun t => ⟨fun z => by omega, fun _ => ?_⟩) (fun t => ⟨fun _ => ?_, fun z => absurd rfl z⟩)⟩
    · show WX10_howMany_4 M Q d w s (e_w32 (m + 1)) (e_w32 (i + 1))
      rw [s_w (by omega) (by omega), s_w (by omega) (by omega)]
      refine ih _ ?_
      rw [show (i + 1).toNat = i.toNat + 1 by omega]
      unfold g_cnt
      rw [if_pos t]; omega
    · show WX10_howMany_4 M Q d w s (e_w32 (m + 0)) (e_w32 (i + 1))
      rw [s_w (by omega) (by omega), s_w (by omega) (by omega)]
      refine ih _ ?_
      rw [show (i + 1).toNat = i.toNat + 1 by omega]
      unfold g_cnt
      rw [if_neg (by rw [t]; exact Bool.false_ne_true)]; omega
/-- the number of the one that has k ahead of it among those that are so -/
def g_kth (f : Nat → Bool) (n : Nat) (k r : Int) : Prop := (r = -1 ∧ (g_cnt f n : Int) ≤ k) ∨ ∃ i : Nat, i < n ∧ r = i ∧ f i = true ∧ (g_cnt f i : Int) = k
theorem k_numberOf {M : e_M} {w : Nat} {s k : Int} {Q : Int → Prop} (h : w_ok M w) (q0 : ¬ (0 ≤ s ∧ s < 7 ∧ 0 ≤ k) → Q (-1)) (hq : 0 ≤ s → s < 7 → 0 ≤ k → ∀ r, g_kth (w_thr (w_of M w) s.toNat) (M (w + 24) s.toNat).toNat k r → Q r) : WX10_numberOf w s k M Q := by
  unfold WX10_numberOf VX10_numberOf
  refine ⟨fun e => q0 (by omega), fun hs0 => ⟨fun e => q0 (by omega), fun hs7 => ⟨fun hk => ?_, fun e => q0 (by omega)⟩⟩⟩
  have hz := w_zb h (show s.toNat < 8 by omega)
  have hm : w_mx s.toNat ≤ 80 := by unfold w_mx; (repeat' split) <;> omega
  have hs : 0 ≤ s ∧ s < 8 := by omega
  replace hq := hq hs0 hs7 hk
  refine s_up (P := fun d i s' => WX10_numberOf_21 M Q d w s k s' i) (n := M (w + 24) s.toNat) (fun i (m : Int) => m = g_cnt (w_thr (w_of M w) s.toNat) i.toNat ∧ m ≤ k) hz.1 ⟨rfl, hk⟩ ?_ ?_
  · intro d m ⟨e, l⟩
    refine ⟨hs, fun _ => hq (-1) (Or.inl ⟨rfl, by omega⟩), fun z => absurd z (Int.lt_irrefl _)⟩
  · intro d i m k1 k2 ⟨e, l⟩ ih
    have hle := g_cnt_le (f := w_thr (w_of M w) s.toNat) (n := i.toNat)
    have step : ∀ m', m' = (g_cnt (w_thr (w_of M w) s.toNat) (i.toNat + 1) : Int) → m' ≤ k → WX10_numberOf_53 M (WX10_numberOf_21 M Q d) Q w s k m' i := by
      intro m' e' l'
      show WX10_numberOf_21 M Q d w s k m' (e_w32 (i + 1))
      rw [s_w (by omega) (by omega)]
      exact ih m' ⟨by rw [e', show (i + 1).toNat = i.toNat + 1 by omega], l'⟩
    refine ⟨hs, fun z => by omega, fun _ => k_there h hs ⟨k1, k2⟩ (fun t => ⟨fun z => by omega, fun _ => ⟨fun ne => ?_, fun e2 => hq i (Or.inr ⟨i.toNat, by omega, by omega, t, by omega⟩)⟩⟩) (fun t => ⟨fun _ => step m ?_ l, fun z => absurd rfl z⟩)⟩
    · rw [s_w (by omega) (by omega)]
      refine step _ ?_ (by omega)
      unfold g_cnt
      rw [if_pos t]; omega
    · unfold g_cnt
      rw [if_neg (by rw [t]; exact Bool.false_ne_true)]; omega
def w_age (S : w_S) (p : Nat) : Bool := decide ((w_t S 1 p).1 7 = 1) || decide ((w_t S 1 p).1 6 ≤ w_d S)
theorem k_age {M : e_M} {w : Nat} {p : Int} {Q : Int → Prop} (h : w_ok M w) (hp : 0 ≤ p ∧ p < M (w + 24) 1) (q1 : w_age (w_of M w) p.toNat = true → Q 1) (q0 : w_age (w_of M w) p.toNat = false → Q 0) : WX10_isOfAge w p M Q := by
  have hi := w_in (s := 1) (i := p.toNat) h (by omega) (by omega)
  unfold w_age at q1 q0
  rw [w_t_k hi, w_t_k hi] at q1 q0
  unfold WX10_isOfAge VX10_isOfAge
  refine k_at h (by omega) hp.1 hp.2 ?_
  rw [show (1 : Int).toNat = 1 from rfl]
  refine ⟨fun e => q1 ?_, fun ne => ⟨fun lt => q0 ?_, fun le => q1 ?_⟩⟩
  · rw [decide_eq_true e]; rfl
  · show (decide _ || decide (_ ≤ M w 11)) = false
    rw [decide_eq_false ne, Bool.false_or]
    exact decide_eq_false (Int.not_le.mpr lt)
  · show (decide _ || decide (_ ≤ M w 11)) = true
    rw [decide_eq_false ne, Bool.false_or]
    exact decide_eq_true le
def w_abl (S : w_S) (p : Nat) : Bool := decide (p = 0) || (decide ((w_t S 1 p).1 7 = 0) && w_age S p) || (decide (0 ≤ (w_t S 1 p).1 5) && (w_thr S 1 ((w_t S 1 p).1 5).toNat && w_age S ((w_t S 1 p).1 5).toNat))
theorem k_able {M : e_M} {w : Nat} {p : Int} {Q : Int → Prop} (h : w_ok M w) (hp : 0 ≤ p ∧ p < M (w + 24) 1) (hw : (w_t (w_of M w) 1 p.toNat).1 5 < M (w + 24) 1) (q1 : w_abl (w_of M w) p.toNat = true → Q 1) (q0 : w_abl (w_of M w) p.toNat = false → Q 0) : WX10_isAble w p M Q := by
  have hi := w_in (s := 1) (i := p.toNat) h (by omega) (by omega)
  unfold w_abl at q1 q0
  rw [w_t_k hi, w_t_k hi] at q1 q0
  rw [w_t_k hi] at hw
  unfold WX10_isAble VX10_isAble
  have p28 : (decide (p.toNat = 0) || (decide (M (w_at w (w_F 1 + p.toNat)) 7 = 0) && w_age (w_of M w) p.toNat)) = false → WX10_isAble_28 M Q w (w_at w (w_F 1 + p.toNat)) := by
    intro ef
    rw [ef, Bool.false_or] at q1 q0
    unfold WX10_isAble_28 VX10_isAble_28
    refine ⟨fun lt => q0 ?_, fun ge => k_at h (by omega) ge hw ?_⟩
    · rw [decide_eq_false (Int.not_le.mpr lt)]; rfl
    rw [show (1 : Int).toNat = 1 from rfl]
    refine (c_tthere (fun e1 e2 => ⟨fun z => by omega, fun _ => k_age h ⟨ge, hw⟩ (fun a => ⟨fun z => by omega, fun _ => q1 ?_⟩) (fun a => ⟨fun _ => q0 ?_, fun z => absurd rfl z⟩)⟩) (fun ne => ⟨fun _ => q0 ?_, fun z => absurd rfl z⟩))
    · have hj := w_in (s := 1) (i := (M (w_at w (w_F 1 + p.toNat)) 5).toNat) h (by omega) (by omega)
      rw [a, decide_eq_true ge]
      show (w_thr _ 1 _ && true) = true
      rw [Bool.and_true]
      unfold w_thr t_thr
      rw [if_neg (by omega), w_t_k hj, w_t_k hj]
      show (decide _ && decide (M w 11 < _)) = true
      rw [decide_eq_true e1, decide_eq_true e2]; rfl
    · rw [a, Bool.and_false, Bool.and_false]
    · have hj := w_in (s := 1) (i := (M (w_at w (w_F 1 + p.toNat)) 5).toNat) h (by omega) (by omega)
      have : w_thr (w_of M w) 1 (M (w_at w (w_F 1 + p.toNat)) 5).toNat = false := by
        unfold w_thr t_thr
        rw [if_neg (by omega), w_t_k hj, w_t_k hj]
        show (decide _ && decide (M w 11 < _)) = false
        by_cases c : M (w_at w (w_F 1 + (M (w_at w (w_F 1 + p.toNat)) 5).toNat)) 2 = 0
        · rw [decide_eq_false (p := M w 11 < _) (fun z => ne ⟨c, z⟩), Bool.and_false]
        · rw [decide_eq_false c, Bool.false_and]
      rw [this, Bool.false_and, Bool.and_false]
  refine k_at h (by omega) hp.1 hp.2 ?_
  rw [show (1 : Int).toNat = 1 from rfl]
  refine ⟨fun e => q1 ?_, fun ne => ⟨fun ne2 => p28 ?_, fun e2 => k_age h hp (fun a => ⟨fun z => by omega, fun _ => q1 ?_⟩) (fun a => ⟨fun _ => p28 ?_, fun z => absurd rfl z⟩)⟩⟩
  · rw [e]; rfl
  · rw [decide_eq_false ne2, Bool.false_and, Bool.or_false]; exact decide_eq_false (by omega)
  · rw [a, show decide (M (w_at w (w_F 1 + p.toNat)) 7 = 0) = true from decide_eq_true e2]; simp
  · rw [a, Bool.and_false, Bool.or_false]; exact decide_eq_false (by omega)
theorem k_lotsAt {M : e_M} {w : Nat} {px py wanted : Int} {Q : Int → Prop} (h : w_ok M w) (hf : ∀ i : Nat, (i : Int) < M (w + 24) 0 → s_fb (w_l (w_of M w) i).2.1) (hx : 0 ≤ px ∧ px ≤ 1000) (hy : 0 ≤ py ∧ py ≤ 1000) (hq : Q (g_cnt (fun i => w_thr (w_of M w) 0 i && decide (g_where (w_l (w_of M w) i).2.1 px py 1 = wanted)) (M (w + 24) 0).toNat)) : WX10_lotsAt w px py wanted M Q := by
  have hz := w_zb h (show 0 < 8 by omega)
  have hm : w_mx 0 = 80 := rfl
  generalize hF : (fun i => w_thr (w_of M w) 0 i && decide (g_where (w_l (w_of M w) i).2.1 px py 1 = wanted)) = F at *
  unfold WX10_lotsAt VX10_lotsAt
  refine s_up (P := fun d i s' => WX10_lotsAt_6 M Q d w px py wanted s' i) (n := M (w + 24) 0) (fun i (m : Int) => m = g_cnt F i.toNat) hz.1 rfl ?_ ?_
  · intro d m e
    refine ⟨by omega, fun _ => by rw [e]; exact hq, fun z => absurd z (Int.lt_irrefl _)⟩
  · intro d i m k1 k2 e ih
    have hle := g_cnt_le (f := F) (n := i.toNat)
    have hj : i.toNat < 80 := by omega
    have step : ∀ m', m' = (g_cnt F (i.toNat + 1) : Int) → WX10_lotsAt_55 M (WX10_lotsAt_6 M Q d) Q w px py wanted m' i := by
      intro m' e'
      show WX10_lotsAt_6 M Q d w px py wanted m' (e_w32 (i + 1))
      rw [s_w (by omega) (by omega)]
      exact ih m' (by rw [e', show (i + 1).toNat = i.toNat + 1 by omega])
    have no : F i.toNat = false → WX10_lotsAt_55 M (WX10_lotsAt_6 M Q d) Q w px py wanted m i := fun t => step m (by
      unfold g_cnt
      rw [if_neg (by rw [t]; exact Bool.false_ne_true)]; omega)
    have eF : F i.toNat = (decide (M (w_al w i.toNat) 1 = 0) && decide (g_where (s_fig M (w_al w i.toNat + 1)) px py 1 = wanted)) := by
      rw [← hF]
      show (w_thr _ 0 _ && _) = _
      unfold w_thr
      rw [if_pos rfl, w_l_k hj (by omega), w_l_e hj]; rfl
    have hfi := hf i.toNat (by omega)
    rw [w_l_e hj] at hfi
    refine ⟨by omega, fun z => absurd k2 (Int.not_lt.mpr z), fun _ => ⟨by omega, ?_⟩⟩
    rw [h.1.1 _ hj, show (((w_al w i.toNat) : Nat) : Int).toNat = w_al w i.toNat by omega]
    refine ⟨fun ne => no ?_, fun e1 => ⟨by omega, c_where (h.2.2.1 _ hj).1 hfi (by omega) (by omega) (by omega) ⟨fun ne => no ?_, fun e2 => ?_⟩⟩⟩
    · rw [eF, decide_eq_false ne]; rfl
    · rw [eF, decide_eq_false ne, Bool.and_false]
    · rw [s_w (by omega) (by omega)]
      refine step _ ?_
      unfold g_cnt
      rw [if_pos (by rw [eF, decide_eq_true e1, decide_eq_true e2]; rfl)]; omega
