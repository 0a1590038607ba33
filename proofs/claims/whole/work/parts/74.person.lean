/-! the calendar's words; Acts: person -/
def cal_of (x0 : Int) : Int :=
  let y1 := e_w32 ((e_w32 (x0 + 620853)).tdiv 146097)
  let y2 := e_w32 ((e_w32 (x0 + 620853)) - (e_w32 (y1 * 146097)))
  let y3 := e_w32 ((e_w32 ((e_w32 ((e_w32 (y2 - (e_w32 (y2.tdiv 1460)))) + (e_w32 (y2.tdiv 36524)))) - (e_w32 (y2.tdiv 146096)))).tdiv 365)
  let y4 := e_w32 (y2 - (e_w32 ((e_w32 ((e_w32 (y3 * 365)) + (e_w32 (y3.tdiv 4)))) - (e_w32 (y3.tdiv 100)))))
  let y5 := e_w32 ((e_w32 ((e_w32 (5 * y4)) + 2)).tdiv 153)
  let y6 := e_w32 ((e_w32 (y4 - (e_w32 ((e_w32 ((e_w32 (153 * y5)) + 2)).tdiv 5)))) + 1)
  let x8 := if 10 ≤ y5 then e_w32 (y5 - 9) else e_w32 (y5 + 3)
  let xs := if 3 ≤ x8 then 0 else 1
  e_w32 ((e_w32 ((e_w32 ((e_w32 ((e_w32 (y3 + (e_w32 (y1 * 400)))) + xs)) * 10000)) + (e_w32 (x8 * 100)))) + y6)
theorem c_dateOf {M : e_M} {x0 : Int} {Q : Int → Prop} (hq : Q (cal_of x0)) : WX11_dateOf x0 M Q := by
  unfold WX11_dateOf VX11_dateOf
  unfold cal_of at hq
  dsimp only at hq
  have n1 : ¬ (146097 : Int) = 0 := by decide
  refine ⟨n1, fun y1 e1 y2 e2 => ⟨by decide, by decide, by decide, by decide, fun y3 e3 => ⟨by decide, by decide, fun y4 e4 => ⟨by decide, fun y5 e5 => ⟨by decide, fun y6 e6 => ?_⟩⟩⟩⟩⟩
  rw [← e1] at hq
  rw [← e2] at hq
  rw [← e3] at hq
  rw [← e4] at hq
  rw [← e5] at hq
  rw [← e6] at hq
  have k114 : ∀ x8, x8 = (if 10 ≤ y5 then e_w32 (y5 - 9) else e_w32 (y5 + 3)) → WX11_dateOf_114 M Q y1 y3 y6 x8 := by
    intro x8 e8
    rw [← e8] at hq
    unfold WX11_dateOf_114 VX11_dateOf_114
    refine ⟨fun g => ?_, fun l => ?_⟩
    · rw [if_pos g] at hq; exact hq
    · rw [if_neg (Int.not_le.mpr l)] at hq; exact hq
  exact ⟨fun g => k114 _ (by rw [if_pos g]), fun l => k114 _ (by rw [if_neg (Int.not_le.mpr l)])⟩
def cal_day60 (x0 x1 x2 x3 xs0 : Int) : Int :=
  let y1 := e_w32 ((e_w32 ((e_w32 ((e_w32 ((e_w32 ((e_w32 ((e_w32 ((e_w32 (x3 * 365)) + (e_w32 (x3.tdiv 4)))) - (e_w32 (x3.tdiv 100)))) + (e_w32 (x3.tdiv 400)))) + (e_w32 ((e_w32 ((e_w32 (153 * xs0)) + 2)).tdiv 5)))) + x2)) - 1)) - 620853)
  if cal_of y1 = (e_w32 ((e_w32 ((e_w32 (x0 * 10000)) + (e_w32 (x1 * 100)))) + x2)) then y1 else -1
def cal_day (x0 x1 x2 : Int) : Int :=
  if x0 < 1700 then -1 else if 2299 < x0 then -1 else if x1 < 1 then -1 else if 12 < x1 then -1 else if x2 < 1 then -1 else
  cal_day60 x0 x1 x2 (if x1 < 3 then e_w32 (x0 - 1) else x0) (if x1 < 3 then e_w32 (x1 + 9) else e_w32 (x1 - 3))
theorem c_dayOf {M : e_M} {x0 x1 x2 : Int} {Q : Int → Prop} (hq : Q (cal_day x0 x1 x2)) : WX11_dayOf x0 x1 x2 M Q := by
  unfold cal_day at hq
  have k60 : ∀ x3 xs0, Q (cal_day60 x0 x1 x2 x3 xs0) → WX11_dayOf_60 M Q x0 x1 x2 x3 xs0 := by
    intro x3 xs0 hq
    unfold cal_day60 at hq
    dsimp only at hq
    unfold WX11_dayOf_60 VX11_dayOf_60
    refine ⟨by decide, by decide, by decide, by decide, fun y1 e1 => c_dateOf ⟨fun ne => ?_, fun e => ?_⟩⟩
    · rw [← e1, if_neg ne] at hq; exact hq
    · rw [← e1, if_pos e] at hq; exact hq
  unfold WX11_dayOf VX11_dayOf
  refine ⟨fun l => by rw [if_pos l] at hq; exact hq, fun g => ?_⟩
  rw [if_neg (Int.not_lt.mpr g)] at hq
  refine ⟨fun l => by rw [if_pos l] at hq; exact hq, fun g2 => ?_⟩
  rw [if_neg (Int.not_lt.mpr g2)] at hq
  refine ⟨fun l => by rw [if_pos l] at hq; exact hq, fun g3 => ?_⟩
  rw [if_neg (Int.not_lt.mpr g3)] at hq
  refine ⟨fun l => by rw [if_pos l] at hq; exact hq, fun g4 => ?_⟩
  rw [if_neg (Int.not_lt.mpr g4)] at hq
  refine ⟨fun g5 => ?_, fun l => by rw [if_pos l] at hq; exact hq⟩
  rw [if_neg (Int.not_lt.mpr g5)] at hq
  have k44 : ∀ xs0, xs0 = (if x1 < 3 then e_w32 (x0 - 1) else x0) → WX11_dayOf_44 M Q x0 x1 x2 xs0 := by
    intro xs0 e
    rw [← e] at hq
    unfold WX11_dayOf_44 VX11_dayOf_44
    refine ⟨fun g => k60 _ _ ?_, fun l => k60 _ _ ?_⟩
    · rw [if_neg (Int.not_lt.mpr g)] at hq; exact hq
    · rw [if_pos l] at hq; exact hq
  exact ⟨fun g => k44 _ (by rw [if_neg (Int.not_lt.mpr g)]), fun l => k44 _ (by rw [if_pos l])⟩
def cal_full (x0 : Int) : Int :=
  let r1 := cal_of x0
  let y2 := e_w32 ((e_w32 (r1.tdiv 10000)) + 18)
  let r3 := cal_day y2 ((e_w32 (r1.tdiv 100)).tmod 100) (r1.tmod 100)
  let r4 := if 0 ≤ r3 then r3 else cal_day y2 3 1
  if 0 ≤ r4 then r4 else 1000000
theorem c_fullAge {M : e_M} {x0 : Int} {Q : Int → Prop} (hq : Q (cal_full x0)) : WX11_fullAgeOf x0 M Q := by
  unfold cal_full at hq
  dsimp only at hq
  unfold WX11_fullAgeOf VX11_fullAgeOf
  have k41 : ∀ x3, Q (if 0 ≤ x3 then x3 else 1000000) → WX11_fullAgeOf_41 M Q x3 := by
    intro x3 hq
    unfold WX11_fullAgeOf_41 VX11_fullAgeOf_41
    refine ⟨fun g => ?_, fun l => ?_⟩
    · rw [if_pos g] at hq; exact hq
    · rw [if_neg (Int.not_le.mpr l)] at hq; exact hq
  refine c_dateOf ⟨by decide, fun y2 e2 => ⟨by decide, by decide, by decide, c_dayOf ?_⟩⟩
  rw [← e2] at hq
  refine ⟨fun g => k41 _ ?_, fun l => c_dayOf (k41 _ ?_)⟩
  · rw [if_pos g] at hq; exact hq
  · rw [if_neg (Int.not_le.mpr l)] at hq; exact hq
def cal_yrs (x0 x1 : Int) : Int := e_w32 ((e_w32 (cal_of x1 - cal_of x0)).tdiv 10000)
theorem c_years {M : e_M} {x0 x1 : Int} {Q : Int → Prop} (hq : Q (cal_yrs x0 x1)) : WX11_yearsBetween x0 x1 M Q := by
  unfold WX11_yearsBetween VX11_yearsBetween
  exact c_dateOf (c_dateOf ⟨by decide, hq⟩)
theorem k_makePerson {M : e_M} {w d : Nat} {at_ : Int} {Q : Int → e_M → Prop} (h : w_ok M w) (hw : a_w w) (cx : a_cx M w d at_) (hd : a_d w d) (hday : M d 4 = M w 11)
    (q8 : M d 4 < M d 8 → a_q M w Q 8 (w_of M w))
    (q7 : M d 8 ≤ M d 4 → 40 ≤ M (w + 24) 1 → a_q M w Q 7 (w_of M w))
    (q0 : M d 8 ≤ M d 4 → M (w + 24) 1 < 40 → a_q M w Q 0 (w_addT (w_of M w) 1 (s_fu (s_fu (w_new (w_of M w) 1 (M (d + 1) 0) d at_).1 4 (M d 8)) 6 (cal_full (M d 8)), [], []))) : WX0_makePerson M Q := by
  have hz := w_zb h (show 1 < 8 by omega)
  have hm : w_mx 1 = 40 := rfl
  have hw' := hw
  unfold a_w at hw'
  have hd' := hd
  unfold a_d at hd'
  unfold WX0_makePerson VX0_makePerson
  rw [cx.1, cx.2.1]
  refine ⟨fun le => k_isFull (s := 1) (by omega) (fun f => ⟨fun z => by omega, fun _ => a_q_no h (q7 le f)⟩) (fun f => ⟨fun _ => k_make h hw cx hd hday (by omega) f (fun N n1 n2 n3 => fun M4 e4 => ?_), fun z => absurd rfl z⟩), fun lt => a_q_no h (q8 lt)⟩
  have f' : M (w + 24) 1 < 40 := f
  rw [show (1 : Int).toNat = 1 from rfl] at n2 e4 ⊢
  have hin : w_F 1 + (M (w + 24) 1).toNat < 290 := by have : w_F 1 = 0 := rfl; omega
  have hJ' : w_F 1 + (M (w + 24) 1).toNat = w_F 1 + ((w_of M w).1 1).toNat := rfl
  generalize hJ : w_F 1 + (M (w + 24) 1).toNat = J at *
  rw [n3 4423 (by omega) (by omega), cx.2.1, n3 d (by omega) (by omega)] at e4
  obtain ⟨u1, u2, u3⟩ := k_put n1 hin (k := 4) (v := M d 8) (by omega) (by omega)
  rw [← e4] at u1 u2 u3
  have f4 := w_fr_trans n3 u3
  rw [f4 4423 (by omega) (by omega), cx.2.1, f4 d (by omega) (by omega)]
  refine c_fullAge (fun M6 e6 => ?_)
  obtain ⟨v1, v2, v3⟩ := k_put u1 hin (k := 6) (v := cal_full (M d 8)) (by omega) (by omega)
  rw [e6]
  refine q0 le f' _ v1 ?_ (a_fr_of (w_fr_trans f4 v3))
  rw [v2, u2, n2, hJ', w_put_addT, w_put_addT]
  rfl
