/-! methods as words over the memory, part 34a -/
def VX12_leaps_21 (Q : Int → Prop) (M : e_M) : Prop :=
  (Q 1)
def VX12_leaps (k21 : Prop) (Q : Int → Prop) (x0 : Int) (M : e_M) : Prop :=
  (¬ (4 : Int) = 0 ∧ ((¬ (x0.tmod 4) = 0 → (Q 0)) ∧ ((x0.tmod 4) = 0 → (¬ (100 : Int) = 0 ∧ ((¬ (x0.tmod 100) = 0 → (k21)) ∧ ((x0.tmod 100) = 0 → (¬ (400 : Int) = 0 ∧ ((¬ (x0.tmod 400) = 0 → (Q 0)) ∧ ((x0.tmod 400) = 0 → (k21))))))))))
def yX12_leaps (i : Nat) : e_Y := x_get YX12_leaps [] i
def pX12_leapsf : List x_I := [(0, 2, 1, 0, 0, 0, []), (1, 0, 1, 0, 0, 4, []), (2, 9, 0, 4, 0, 0, []), (3, 17, 25, 1, 16, 0, []), (6, 2, 1, 0, 0, 0, []), (7, 0, 2, 0, 0, 100, []), (9, 9, 0, 4, 0, 0, []), (10, 17, 21, 1, 13, 0, []), (13, 2, 1, 0, 0, 0, []), (14, 0, 3, 0, 0, 400, []), (17, 9, 0, 4, 0, 0, []), (18, 17, 25, 1, 16, 0, []), (21, 49, 0, 0, 0, 0, []), (21, 0, 1, 0, 0, 1, []), (22, 19, 26, 0, 17, 0, []), (25, 0, 1, 0, 0, 0, []), (26, 48, 0, 0, 0, 0, [])]
set_option maxRecDepth 20000 in
theorem qX12_leapsf : f_all yX12_leaps YX12_leaps pX12_leapsf :=
  ⟨f_iload_n (n := 0) (e_dx DX12_leaps_0 0 rfl) rfl,
  f_iconst (e_dx DX12_leaps_0 1 rfl) ⟨by decide, by decide⟩,
  f_irem (e_dx DX12_leaps_0 2 rfl),
  f_if_ne (e_dx DX12_leaps_0 3 rfl) rfl,
  f_iload_n (n := 0) (e_dx DX12_leaps_0 4 rfl) rfl,
  f_bipush (e_dx DX12_leaps_0 5 rfl) ⟨by decide, by decide⟩,
  f_irem (e_dx DX12_leaps_0 6 rfl),
  f_if_ne (e_dx DX12_leaps_0 7 rfl) rfl,
  f_iload_n (n := 0) (e_dx DX12_leaps_0 8 rfl) rfl,
  f_sipush (e_dx DX12_leaps_0 9 rfl) ⟨by decide, by decide⟩,
  f_irem (e_dx DX12_leaps_0 10 rfl),
  f_if_ne (e_dx DX12_leaps_0 11 rfl) rfl,
  trivial,
  f_iconst (e_dx DX12_leaps_0 12 rfl) ⟨by decide, by decide⟩,
  f_g19 (e_dx DX12_leaps_0 13 rfl) rfl,
  f_iconst (e_dx DX12_leaps_0 14 rfl) ⟨by decide, by decide⟩,
  ⟨(e_dx DX12_leaps_0 15 rfl), rfl⟩, trivial⟩
def lX12_leaps : List (Nat × f_Wt) := []
set_option maxRecDepth 20000 in
theorem BX12_leaps_21 {sh : Nat → Nat × Nat} {t : Nat} {rm : Nat × Nat × Nat} {cs : Nat × Nat} {R : f_Rt} {M : e_M} (C : f_Hy sh t yX12_leaps rm cs 4 (lX12_leaps) R) (h : VX12_leaps_21 (fun r => R (some (.inl r)) M) M) : f_E sh t YX12_leaps rm cs (f_Q sh t R) 21 [.inr (.inr (.inr ()))] [] M :=
  f_go (KC := f_kc []) C qX12_leapsf f_kc_nil 19 13 h
set_option maxRecDepth 20000 in
theorem BX12_leaps {sh : Nat → Nat × Nat} {t : Nat} {rm : Nat × Nat × Nat} {cs : Nat × Nat} {R : f_Rt} {k21 : Prop} {x0 : Int} {M : e_M} (C : f_Hy sh t yX12_leaps rm cs 4 (lX12_leaps) R) (h21 : k21 → f_E sh t YX12_leaps rm cs (f_Q sh t R) 21 [.inr (.inr (.inr ()))] [] M) (h : VX12_leaps k21 (fun r => R (some (.inl r)) M) x0 M) : f_E sh t YX12_leaps rm cs (f_Q sh t R) 0 [.inl x0] [] M := by
  rw [f_kk0 M k21] at h
  exact f_go (KC := f_kc [(21, f_pl [(0, 0, 0)] [] (fun ls st M2 => M2 = M ∧ (k21)))]) C qX12_leapsf (f_kc_cons (f_pl_ok rfl (fun ls st M2 ⟨e, hh⟩ => by subst e; exact h21  hh)) f_kc_nil) 19 0 h
def WX12_leaps_21 (M : e_M) (Q : Int → Prop) : Prop :=
  VX12_leaps_21 Q M
def WX12_leaps (x0 : Int) (M : e_M) (Q : Int → Prop) : Prop :=
  VX12_leaps (WX12_leaps_21 M Q) Q x0 M
theorem PX12_leaps_21 {sh : Nat → Nat × Nat} {t : Nat} {rm : Nat × Nat × Nat} {cs : Nat × Nat} {R : f_Rt} {M : e_M} (C : f_Hy sh t yX12_leaps rm cs 4 (lX12_leaps) R) (h : WX12_leaps_21 M (fun r => R (some (.inl r)) M)) : f_E sh t YX12_leaps rm cs (f_Q sh t R) 21 [.inr (.inr (.inr ()))] [] M :=
  BX12_leaps_21 C h
theorem PX12_leaps {sh : Nat → Nat × Nat} {t : Nat} {rm : Nat × Nat × Nat} {cs : Nat × Nat} {R : f_Rt} {x0 : Int} {M : e_M} (C : f_Hy sh t yX12_leaps rm cs 4 (lX12_leaps) R) (h : WX12_leaps x0 M (fun r => R (some (.inl r)) M)) : f_E sh t YX12_leaps rm cs (f_Q sh t R) 0 [.inl x0] [] M :=
  BX12_leaps C (fun h => PX12_leaps_21 C h) h
def wX12_leaps : f_Wt := f_wm [(1, 0, 0)] (fun ar M R => WX12_leaps (f_vi (f_nth ar 0)) M (fun r => R (some (.inl r)) M))
theorem TX12_leaps {sh : Nat → Nat × Nat} {t : Nat} : f_Mt sh t YX12_leaps 4 (wX12_leaps) :=
  f_Mt_of (k := 0) (Nat.le_of_ble_eq_true rfl) rfl rfl (fun ar M R rm cs h1 h2 h3 hX h => PX12_leaps ⟨Nat.le_of_ble_eq_true rfl, h1, h2, h3, trivial, hX⟩ h)
def VX12_dayOf_27 (c_X12_leaps : Int → e_M → (Int → Prop) → Prop) (Q : Int → Prop) (x2 : Int) (x3 : Int) (xs2 : Int) (xs0 : Int) (M : e_M) : Prop :=
  ((0 ≤ (e_w32 ((e_w32 (xs2 + x2)) - 1)) ∧ (e_w32 ((e_w32 (xs2 + x2)) - 1)) < 26) ∧ (Q (e_w32 ((e_w32 ((e_w32 (xs0 + (M 4458 ((e_w32 ((e_w32 (xs2 + x2)) - 1)).toNat)))) + x3)) - 1))))
def VX12_dayOf (c_X12_leaps : Int → e_M → (Int → Prop) → Prop) (k27 : Int → Int → Int → Int → Prop) (Q : Int → Prop) (x1 : Int) (x2 : Int) (x3 : Int) (M : e_M) : Prop :=
  ((0 ≤ (e_w32 (x1 - 1700)) ∧ (e_w32 (x1 - 1700)) < 640) ∧ (c_X12_leaps x1 M (fun r1 => ((r1 = 0 → (k27 x2 x3 0 (M 4457 ((e_w32 (x1 - 1700)).toNat)))) ∧ (¬ r1 = 0 → (k27 x2 x3 13 (M 4457 ((e_w32 (x1 - 1700)).toNat))))))))
def yX12_dayOf (i : Nat) : e_Y := x_get YX12_dayOf [YX12_leaps] i
def pX12_dayOff : List x_I := [(0, 4, 1, 0, 0, 0, []), (1, 25, 12, 0, 4, 0, [(0, 20, 640), (0, 1, 1)]), (4, 2, 1, 1, 0, 0, []), (5, 0, 3, 0, 0, 1700, []), (8, 9, 0, 1, 0, 0, []), (9, 27, 0, 0, 0, 0, []), (10, 4, 1, 0, 0, 0, []), (11, 25, 12, 1, 4, 0, [(0, 20, 26), (0, 1, 2)]), (14, 2, 1, 1, 0, 0, []), (15, 40, 0, 1, 0, 0, []), (18, 17, 26, 0, 14, 0, []), (21, 0, 2, 0, 0, 13, []), (23, 19, 27, 0, 15, 0, []), (26, 0, 1, 0, 0, 0, []), (27, 49, 0, 0, 0, 0, []), (27, 2, 1, 2, 0, 0, []), (28, 9, 0, 0, 0, 0, []), (29, 0, 1, 0, 0, 1, []), (30, 9, 0, 1, 0, 0, []), (31, 27, 0, 0, 0, 0, []), (32, 9, 0, 0, 0, 0, []), (33, 2, 1, 3, 0, 0, []), (34, 9, 0, 0, 0, 0, []), (35, 0, 1, 0, 0, 1, []), (36, 9, 0, 1, 0, 0, []), (37, 41, 0, 0, 0, 0, [])]
set_option maxRecDepth 20000 in
theorem qX12_dayOff : f_all yX12_dayOf YX12_dayOf pX12_dayOff :=
  ⟨f_aload_n (n := 0) (e_dx DX12_dayOf_0 0 rfl) rfl,
  f_getA (e_dx DX12_dayOf_0 1 rfl) fX12_7 rfl (by decide) (Nat.le_of_ble_eq_true rfl) rfl (by decide),
  f_iload_n (n := 1) (e_dx DX12_dayOf_0 2 rfl) rfl,
  f_sipush (e_dx DX12_dayOf_0 3 rfl) ⟨by decide, by decide⟩,
  f_isub (e_dx DX12_dayOf_0 4 rfl),
  f_iaload (e_dx DX12_dayOf_0 5 rfl),
  f_aload_n (n := 0) (e_dx DX12_dayOf_0 6 rfl) rfl,
  f_getA (e_dx DX12_dayOf_0 7 rfl) fX12_13 rfl (by decide) (Nat.le_of_ble_eq_true rfl) rfl (by decide),
  f_iload_n (n := 1) (e_dx DX12_dayOf_0 8 rfl) rfl,
  x_callS (e_dx DX12_dayOf_0 9 rfl) mwX12_leaps cX12_251 swX12_leaps rfl,
  f_if_eq (e_dx DX12_dayOf_0 10 rfl) rfl,
  f_bipush (e_dx DX12_dayOf_0 11 rfl) ⟨by decide, by decide⟩,
  f_g19 (e_dx DX12_dayOf_0 12 rfl) rfl,
  f_iconst (e_dx DX12_dayOf_0 13 rfl) ⟨by decide, by decide⟩,
  trivial,
  f_iload_n (n := 2) (e_dx DX12_dayOf_0 14 rfl) rfl,
  f_iadd (e_dx DX12_dayOf_0 15 rfl),
  f_iconst (e_dx DX12_dayOf_0 16 rfl) ⟨by decide, by decide⟩,
  f_isub (e_dx DX12_dayOf_0 17 rfl),
  f_iaload (e_dx DX12_dayOf_0 18 rfl),
  f_iadd (e_dx DX12_dayOf_0 19 rfl),
  f_iload_n (n := 3) (e_dx DX12_dayOf_0 20 rfl) rfl,
  f_iadd (e_dx DX12_dayOf_0 21 rfl),
  f_iconst (e_dx DX12_dayOf_0 22 rfl) ⟨by decide, by decide⟩,
  f_isub (e_dx DX12_dayOf_0 23 rfl),
  ⟨(e_dx DX12_dayOf_0 24 rfl), rfl⟩, trivial⟩
def lX12_dayOf (c_X12_leaps : Int → e_M → (Int → Prop) → Prop) : List (Nat × f_Wt) := [(0, f_wm [(1, 0, 0)] (fun ar M R => c_X12_leaps (f_vi (f_nth ar 0)) M (fun r => R (some (.inl r)) M)))]
set_option maxRecDepth 20000 in
theorem BX12_dayOf_27 {sh : Nat → Nat × Nat} {t : Nat} {rm : Nat × Nat × Nat} {cs : Nat × Nat} {R : f_Rt} {c_X12_leaps : Int → e_M → (Int → Prop) → Prop} {x2 : Int} {x3 : Int} {xs2 : Int} {xs0 : Int} {M : e_M} (C : f_Hy sh t yX12_dayOf rm cs 5 (lX12_dayOf c_X12_leaps) R) (h : VX12_dayOf_27 c_X12_leaps (fun r => R (some (.inl r)) M) x2 x3 xs2 xs0 M) : f_E sh t YX12_dayOf rm cs (f_Q sh t R) 27 [.inr (.inr (.inr ())), .inr (.inr (.inr ())), .inl x2, .inl x3] [.inl xs2, .inr (.inr (.inl (20, 26, 4458))), .inl xs0] M :=
  f_go (KC := f_kc []) C qX12_dayOff f_kc_nil 28 15 h
set_option maxRecDepth 20000 in
theorem BX12_dayOf {sh : Nat → Nat × Nat} {t : Nat} {rm : Nat × Nat × Nat} {cs : Nat × Nat} {R : f_Rt} {c_X12_leaps : Int → e_M → (Int → Prop) → Prop} {k27 : Int → Int → Int → Int → Prop} {x1 : Int} {x2 : Int} {x3 : Int} {M : e_M} (C : f_Hy sh t yX12_dayOf rm cs 5 (lX12_dayOf c_X12_leaps) R) (h27 : ∀ (x2 : Int) (x3 : Int) (xs2 : Int) (xs0 : Int), k27 x2 x3 xs2 xs0 → f_E sh t YX12_dayOf rm cs (f_Q sh t R) 27 [.inr (.inr (.inr ())), .inr (.inr (.inr ())), .inl x2, .inl x3] [.inl xs2, .inr (.inr (.inl (20, 26, 4458))), .inl xs0] M) (h : VX12_dayOf c_X12_leaps k27 (fun r => R (some (.inl r)) M) x1 x2 x3 M) : f_E sh t YX12_dayOf rm cs (f_Q sh t R) 0 [.inr (.inr (.inl (12, 123, 4456))), .inl x1, .inl x2, .inl x3] [] M := by
  rw [f_kk4 M k27] at h
  exact f_go (KC := f_kc [(27, f_pl [(0, 0, 0), (0, 0, 0), (1, 0, 0), (1, 0, 0)] [(1, 0, 0), (4468, 20, 26), (1, 0, 0)] (fun ls st M2 => M2 = M ∧ (k27 (f_vi (f_nth ls 2)) (f_vi (f_nth ls 3)) (f_vi (f_nth st 0)) (f_vi (f_nth st 2)))))]) C qX12_dayOff (f_kc_cons (f_pl_ok rfl (fun ls st M2 ⟨e, hh⟩ => by subst e; exact h27 _ _ _ _ hh)) f_kc_nil) 28 0 h
def WX12_dayOf_27 (M : e_M) (Q : Int → Prop) (x2 : Int) (x3 : Int) (xs2 : Int) (xs0 : Int) : Prop :=
  VX12_dayOf_27 WX12_leaps Q x2 x3 xs2 xs0 M
def WX12_dayOf (x1 : Int) (x2 : Int) (x3 : Int) (M : e_M) (Q : Int → Prop) : Prop :=
  VX12_dayOf WX12_leaps (WX12_dayOf_27 M Q) Q x1 x2 x3 M
theorem PX12_dayOf_27 {sh : Nat → Nat × Nat} {t : Nat} {rm : Nat × Nat × Nat} {cs : Nat × Nat} {R : f_Rt} {x2 : Int} {x3 : Int} {xs2 : Int} {xs0 : Int} {M : e_M} (C : f_Hy sh t yX12_dayOf rm cs 5 (lX12_dayOf WX12_leaps) R) (h : WX12_dayOf_27 M (fun r => R (some (.inl r)) M) x2 x3 xs2 xs0) : f_E sh t YX12_dayOf rm cs (f_Q sh t R) 27 [.inr (.inr (.inr ())), .inr (.inr (.inr ())), .inl x2, .inl x3] [.inl xs2, .inr (.inr (.inl (20, 26, 4458))), .inl xs0] M :=
  BX12_dayOf_27 C h
theorem PX12_dayOf {sh : Nat → Nat × Nat} {t : Nat} {rm : Nat × Nat × Nat} {cs : Nat × Nat} {R : f_Rt} {x1 : Int} {x2 : Int} {x3 : Int} {M : e_M} (C : f_Hy sh t yX12_dayOf rm cs 5 (lX12_dayOf WX12_leaps) R) (h : WX12_dayOf x1 x2 x3 M (fun r => R (some (.inl r)) M)) : f_E sh t YX12_dayOf rm cs (f_Q sh t R) 0 [.inr (.inr (.inl (12, 123, 4456))), .inl x1, .inl x2, .inl x3] [] M :=
  BX12_dayOf C (fun x2 x3 xs2 xs0 h => PX12_dayOf_27 C h) h
def wX12_dayOf : f_Wt := f_wm [(4466, 12, 123), (1, 0, 0), (1, 0, 0), (1, 0, 0)] (fun ar M R => WX12_dayOf (f_vi (f_nth ar 1)) (f_vi (f_nth ar 2)) (f_vi (f_nth ar 3)) M (fun r => R (some (.inl r)) M))
theorem TX12_dayOf {sh : Nat → Nat × Nat} {t : Nat} : f_Mt sh t YX12_dayOf 5 (wX12_dayOf) :=
  f_Mt_of (k := 0) (Nat.le_of_ble_eq_true rfl) rfl rfl (fun ar M R rm cs h1 h2 h3 hX h => PX12_dayOf ⟨Nat.le_of_ble_eq_true rfl, h1, h2, h3, ⟨(f_Mt.up (Nat.le_of_ble_eq_true rfl) TX12_leaps), trivial⟩, hX⟩ h)
def VX12_daysIn_45 (c_X12_leaps : Int → e_M → (Int → Prop) → Prop) (Q : Int → Prop) (M : e_M) : Prop :=
  (Q 30)
def VX12_daysIn (c_X12_leaps : Int → e_M → (Int → Prop) → Prop) (k45 : Prop) (Q : Int → Prop) (x0 : Int) (x1 : Int) (M : e_M) : Prop :=
  ((¬ x1 = 2 → ((x1 = 4 → (k45)) ∧ (¬ x1 = 4 → ((x1 = 6 → (k45)) ∧ (¬ x1 = 6 → ((x1 = 9 → (k45)) ∧ (¬ x1 = 9 → ((¬ x1 = 11 → (Q 31)) ∧ (x1 = 11 → (k45)))))))))) ∧ (x1 = 2 → (c_X12_leaps x0 M (fun r1 => ((r1 = 0 → (Q 28)) ∧ (¬ r1 = 0 → (Q 29)))))))
def yX12_daysIn (i : Nat) : e_Y := x_get YX12_daysIn [YX12_leaps] i
def pX12_daysInf : List x_I := [(0, 2, 1, 1, 0, 0, []), (1, 0, 1, 0, 0, 2, []), (2, 18, 22, 1, 11, 0, []), (5, 2, 1, 0, 0, 0, []), (6, 40, 0, 1, 0, 0, []), (9, 17, 17, 0, 9, 0, []), (12, 0, 2, 0, 0, 29, []), (14, 19, 52, 0, 27, 0, []), (17, 0, 2, 0, 0, 28, []), (19, 19, 52, 0, 27, 0, []), (22, 2, 1, 1, 0, 0, []), (23, 0, 1, 0, 0, 4, []), (24, 18, 45, 0, 23, 0, []), (27, 2, 1, 1, 0, 0, []), (28, 0, 2, 0, 0, 6, []), (30, 18, 45, 0, 23, 0, []), (33, 2, 1, 1, 0, 0, []), (34, 0, 2, 0, 0, 9, []), (36, 18, 45, 0, 23, 0, []), (39, 2, 1, 1, 0, 0, []), (40, 0, 2, 0, 0, 11, []), (42, 18, 50, 1, 26, 0, []), (45, 49, 0, 0, 0, 0, []), (45, 0, 2, 0, 0, 30, []), (47, 19, 52, 0, 27, 0, []), (50, 0, 2, 0, 0, 31, []), (52, 41, 0, 0, 0, 0, [])]
set_option maxRecDepth 20000 in
theorem qX12_daysInf : f_all yX12_daysIn YX12_daysIn pX12_daysInf :=
  ⟨f_iload_n (n := 1) (e_dx DX12_daysIn_0 0 rfl) rfl,
  f_iconst (e_dx DX12_daysIn_0 1 rfl) ⟨by decide, by decide⟩,
  f_icmp_ne (e_dx DX12_daysIn_0 2 rfl) rfl,
  f_iload_n (n := 0) (e_dx DX12_daysIn_0 3 rfl) rfl,
  x_callS (e_dx DX12_daysIn_0 4 rfl) mwX12_leaps cX12_251 swX12_leaps rfl,
  f_if_eq (e_dx DX12_daysIn_0 5 rfl) rfl,
  f_bipush (e_dx DX12_daysIn_0 6 rfl) ⟨by decide, by decide⟩,
  f_g19 (e_dx DX12_daysIn_0 7 rfl) rfl,
  f_bipush (e_dx DX12_daysIn_0 8 rfl) ⟨by decide, by decide⟩,
  f_g19 (e_dx DX12_daysIn_0 9 rfl) rfl,
  f_iload_n (n := 1) (e_dx DX12_daysIn_0 10 rfl) rfl,
  f_iconst (e_dx DX12_daysIn_0 11 rfl) ⟨by decide, by decide⟩,
  f_icmp_eq (e_dx DX12_daysIn_0 12 rfl) rfl,
  f_iload_n (n := 1) (e_dx DX12_daysIn_0 13 rfl) rfl,
  f_bipush (e_dx DX12_daysIn_0 14 rfl) ⟨by decide, by decide⟩,
  f_icmp_eq (e_dx DX12_daysIn_0 15 rfl) rfl,
  f_iload_n (n := 1) (e_dx DX12_daysIn_0 16 rfl) rfl,
  f_bipush (e_dx DX12_daysIn_0 17 rfl) ⟨by decide, by decide⟩,
  f_icmp_eq (e_dx DX12_daysIn_0 18 rfl) rfl,
  f_iload_n (n := 1) (e_dx DX12_daysIn_0 19 rfl) rfl,
  f_bipush (e_dx DX12_daysIn_0 20 rfl) ⟨by decide, by decide⟩,
  f_icmp_ne (e_dx DX12_daysIn_0 21 rfl) rfl,
  trivial,
  f_bipush (e_dx DX12_daysIn_0 22 rfl) ⟨by decide, by decide⟩,
  f_g19 (e_dx DX12_daysIn_0 23 rfl) rfl,
  f_bipush (e_dx DX12_daysIn_0 24 rfl) ⟨by decide, by decide⟩,
  ⟨(e_dx DX12_daysIn_0 25 rfl), rfl⟩, trivial⟩
def lX12_daysIn (c_X12_leaps : Int → e_M → (Int → Prop) → Prop) : List (Nat × f_Wt) := [(0, f_wm [(1, 0, 0)] (fun ar M R => c_X12_leaps (f_vi (f_nth ar 0)) M (fun r => R (some (.inl r)) M)))]
set_option maxRecDepth 20000 in
theorem BX12_daysIn_45 {sh : Nat → Nat × Nat} {t : Nat} {rm : Nat × Nat × Nat} {cs : Nat × Nat} {R : f_Rt} {c_X12_leaps : Int → e_M → (Int → Prop) → Prop} {M : e_M} (C : f_Hy sh t yX12_daysIn rm cs 5 (lX12_daysIn c_X12_leaps) R) (h : VX12_daysIn_45 c_X12_leaps (fun r => R (some (.inl r)) M) M) : f_E sh t YX12_daysIn rm cs (f_Q sh t R) 45 [.inr (.inr (.inr ())), .inr (.inr (.inr ()))] [] M :=
  f_go (KC := f_kc []) C qX12_daysInf f_kc_nil 29 23 h
set_option maxRecDepth 20000 in
theorem BX12_daysIn {sh : Nat → Nat × Nat} {t : Nat} {rm : Nat × Nat × Nat} {cs : Nat × Nat} {R : f_Rt} {c_X12_leaps : Int → e_M → (Int → Prop) → Prop} {k45 : Prop} {x0 : Int} {x1 : Int} {M : e_M} (C : f_Hy sh t yX12_daysIn rm cs 5 (lX12_daysIn c_X12_leaps) R) (h45 : k45 → f_E sh t YX12_daysIn rm cs (f_Q sh t R) 45 [.inr (.inr (.inr ())), .inr (.inr (.inr ()))] [] M) (h : VX12_daysIn c_X12_leaps k45 (fun r => R (some (.inl r)) M) x0 x1 M) : f_E sh t YX12_daysIn rm cs (f_Q sh t R) 0 [.inl x0, .inl x1] [] M := by
  rw [f_kk0 M k45] at h
  exact f_go (KC := f_kc [(45, f_pl [(0, 0, 0), (0, 0, 0)] [] (fun ls st M2 => M2 = M ∧ (k45)))]) C qX12_daysInf (f_kc_cons (f_pl_ok rfl (fun ls st M2 ⟨e, hh⟩ => by subst e; exact h45  hh)) f_kc_nil) 29 0 h
def WX12_daysIn_45 (M : e_M) (Q : Int → Prop) : Prop :=
  VX12_daysIn_45 WX12_leaps Q M
def WX12_daysIn (x0 : Int) (x1 : Int) (M : e_M) (Q : Int → Prop) : Prop :=
  VX12_daysIn WX12_leaps (WX12_daysIn_45 M Q) Q x0 x1 M
theorem PX12_daysIn_45 {sh : Nat → Nat × Nat} {t : Nat} {rm : Nat × Nat × Nat} {cs : Nat × Nat} {R : f_Rt} {M : e_M} (C : f_Hy sh t yX12_daysIn rm cs 5 (lX12_daysIn WX12_leaps) R) (h : WX12_daysIn_45 M (fun r => R (some (.inl r)) M)) : f_E sh t YX12_daysIn rm cs (f_Q sh t R) 45 [.inr (.inr (.inr ())), .inr (.inr (.inr ()))] [] M :=
  BX12_daysIn_45 C h
theorem PX12_daysIn {sh : Nat → Nat × Nat} {t : Nat} {rm : Nat × Nat × Nat} {cs : Nat × Nat} {R : f_Rt} {x0 : Int} {x1 : Int} {M : e_M} (C : f_Hy sh t yX12_daysIn rm cs 5 (lX12_daysIn WX12_leaps) R) (h : WX12_daysIn x0 x1 M (fun r => R (some (.inl r)) M)) : f_E sh t YX12_daysIn rm cs (f_Q sh t R) 0 [.inl x0, .inl x1] [] M :=
  BX12_daysIn C (fun h => PX12_daysIn_45 C h) h
def wX12_daysIn : f_Wt := f_wm [(1, 0, 0), (1, 0, 0)] (fun ar M R => WX12_daysIn (f_vi (f_nth ar 0)) (f_vi (f_nth ar 1)) M (fun r => R (some (.inl r)) M))
theorem TX12_daysIn {sh : Nat → Nat × Nat} {t : Nat} : f_Mt sh t YX12_daysIn 5 (wX12_daysIn) :=
  f_Mt_of (k := 0) (Nat.le_of_ble_eq_true rfl) rfl rfl (fun ar M R rm cs h1 h2 h3 hX h => PX12_daysIn ⟨Nat.le_of_ble_eq_true rfl, h1, h2, h3, ⟨(f_Mt.up (Nat.le_of_ble_eq_true rfl) TX12_leaps), trivial⟩, hX⟩ h)
def VX12_yearOf_6 (k6 : Int → Int → Prop) (Q : Int → Prop) (x1 : Int) (x2 : Int) (M : e_M) : Prop :=
  ((0 ≤ (e_w32 (x2 + 1)) ∧ (e_w32 (x2 + 1)) < 640) ∧ ((x1 < (M 4457 ((e_w32 (x2 + 1)).toNat)) → (Q (e_w32 (x2 + 1700)))) ∧ ((M 4457 ((e_w32 (x2 + 1)).toNat)) ≤ x1 → (k6 x1 (e_w32 (x2 + 1))))))
def VX12_yearOf (k6 : Int → Int → Prop) (Q : Int → Prop) (x1 : Int) (M : e_M) : Prop :=
  (¬ (366 : Int) = 0 ∧ (k6 x1 (e_w32 (x1.tdiv 366))))
def yX12_yearOf (i : Nat) : e_Y := x_get YX12_yearOf [] i
def pX12_yearOff : List x_I := [(0, 2, 1, 1, 0, 0, []), (1, 0, 3, 0, 0, 366, []), (4, 9, 0, 3, 0, 0, []), (5, 5, 1, 2, 0, 0, []), (6, 49, 0, 0, 0, 0, []), (6, 4, 1, 0, 0, 0, []), (7, 25, 12, 0, 4, 0, [(0, 20, 640), (0, 1, 1)]), (10, 2, 1, 2, 0, 0, []), (11, 0, 1, 0, 0, 1, []), (12, 9, 0, 0, 0, 0, []), (13, 27, 0, 0, 0, 0, []), (14, 2, 1, 1, 0, 0, []), (15, 18, 24, 4, 16, 0, []), (18, 8, 0, 2, 0, 1, []), (21, 19, 6, 0, 5, 0, []), (24, 2, 1, 2, 0, 0, []), (25, 0, 3, 0, 0, 1700, []), (28, 9, 0, 0, 0, 0, []), (29, 41, 0, 0, 0, 0, [])]
set_option maxRecDepth 20000 in
theorem qX12_yearOff : f_all yX12_yearOf YX12_yearOf pX12_yearOff :=
  ⟨f_iload_n (n := 1) (e_dx DX12_yearOf_0 0 rfl) rfl,
  f_sipush (e_dx DX12_yearOf_0 1 rfl) ⟨by decide, by decide⟩,
  f_idiv (e_dx DX12_yearOf_0 2 rfl),
  f_istore_n (n := 2) (e_dx DX12_yearOf_0 3 rfl) rfl (by decide),
  trivial,
  f_aload_n (n := 0) (e_dx DX12_yearOf_0 4 rfl) rfl,
  f_getA (e_dx DX12_yearOf_0 5 rfl) fX12_7 rfl (by decide) (Nat.le_of_ble_eq_true rfl) rfl (by decide),
  f_iload_n (n := 2) (e_dx DX12_yearOf_0 6 rfl) rfl,
  f_iconst (e_dx DX12_yearOf_0 7 rfl) ⟨by decide, by decide⟩,
  f_iadd (e_dx DX12_yearOf_0 8 rfl),
  f_iaload (e_dx DX12_yearOf_0 9 rfl),
  f_iload_n (n := 1) (e_dx DX12_yearOf_0 10 rfl) rfl,
  f_icmp_gt (e_dx DX12_yearOf_0 11 rfl) rfl,
  f_g8 (e_dx DX12_yearOf_0 12 rfl) ⟨by decide, by decide⟩,
  f_g19 (e_dx DX12_yearOf_0 13 rfl) rfl,
  f_iload_n (n := 2) (e_dx DX12_yearOf_0 14 rfl) rfl,
  f_sipush (e_dx DX12_yearOf_0 15 rfl) ⟨by decide, by decide⟩,
  f_iadd (e_dx DX12_yearOf_0 16 rfl),
  ⟨(e_dx DX12_yearOf_0 17 rfl), rfl⟩, trivial⟩
def lX12_yearOf : List (Nat × f_Wt) := []
set_option maxRecDepth 20000 in
theorem BX12_yearOf_6 {sh : Nat → Nat × Nat} {t : Nat} {rm : Nat × Nat × Nat} {cs : Nat × Nat} {R : f_Rt} {k6 : Int → Int → Prop} {x1 : Int} {x2 : Int} {M : e_M} (C : f_Hy sh t yX12_yearOf rm cs 4 (lX12_yearOf) R) (h6 : ∀ (x1 : Int) (x2 : Int), k6 x1 x2 → f_E sh t YX12_yearOf rm cs (f_Q sh t R) 6 [.inr (.inr (.inl (12, 123, 4456))), .inl x1, .inl x2] [] M) (h : VX12_yearOf_6 k6 (fun r => R (some (.inl r)) M) x1 x2 M) : f_E sh t YX12_yearOf rm cs (f_Q sh t R) 6 [.inr (.inr (.inl (12, 123, 4456))), .inl x1, .inl x2] [] M := by
  rw [f_kk2 M k6] at h
  exact f_go (KC := f_kc [(6, f_pl [(4466, 12, 123), (1, 0, 0), (1, 0, 0)] [] (fun ls st M2 => M2 = M ∧ (k6 (f_vi (f_nth ls 1)) (f_vi (f_nth ls 2)))))]) C qX12_yearOff (f_kc_cons (f_pl_ok rfl (fun ls st M2 ⟨e, hh⟩ => by subst e; exact h6 _ _ hh)) f_kc_nil) 21 5 h
set_option maxRecDepth 20000 in
theorem BX12_yearOf {sh : Nat → Nat × Nat} {t : Nat} {rm : Nat × Nat × Nat} {cs : Nat × Nat} {R : f_Rt} {k6 : Int → Int → Prop} {x1 : Int} {M : e_M} (C : f_Hy sh t yX12_yearOf rm cs 4 (lX12_yearOf) R) (h6 : ∀ (x1 : Int) (x2 : Int), k6 x1 x2 → f_E sh t YX12_yearOf rm cs (f_Q sh t R) 6 [.inr (.inr (.inl (12, 123, 4456))), .inl x1, .inl x2] [] M) (h : VX12_yearOf k6 (fun r => R (some (.inl r)) M) x1 M) : f_E sh t YX12_yearOf rm cs (f_Q sh t R) 0 [.inr (.inr (.inl (12, 123, 4456))), .inl x1, .inr (.inr (.inr ()))] [] M := by
  rw [f_kk2 M k6] at h
  exact f_go (KC := f_kc [(6, f_pl [(4466, 12, 123), (1, 0, 0), (1, 0, 0)] [] (fun ls st M2 => M2 = M ∧ (k6 (f_vi (f_nth ls 1)) (f_vi (f_nth ls 2)))))]) C qX12_yearOff (f_kc_cons (f_pl_ok rfl (fun ls st M2 ⟨e, hh⟩ => by subst e; exact h6 _ _ hh)) f_kc_nil) 21 0 h
def WX12_yearOf_6 (M : e_M) (Q : Int → Prop) : Nat → Int → Int → Prop
  | 0, _, _ => False
  | n + 1, x1, x2 =>
    VX12_yearOf_6 (WX12_yearOf_6 M Q n) Q x1 x2 M
def WX12_yearOf (x1 : Int) (M : e_M) (Q : Int → Prop) : Prop :=
  VX12_yearOf (fun x1 x2 => ∃ j, WX12_yearOf_6 M Q j x1 x2) Q x1 M
theorem PX12_yearOf_6 {sh : Nat → Nat × Nat} {t : Nat} {rm : Nat × Nat × Nat} {cs : Nat × Nat} {R : f_Rt} {M : e_M} (C : f_Hy sh t yX12_yearOf rm cs 4 (lX12_yearOf) R) : ∀ (n : Nat) (x1 : Int) (x2 : Int), WX12_yearOf_6 M (fun r => R (some (.inl r)) M) n x1 x2 → f_E sh t YX12_yearOf rm cs (f_Q sh t R) 6 [.inr (.inr (.inl (12, 123, 4456))), .inl x1, .inl x2] [] M := by
  intro n
  induction n with
  | zero => intro x1 x2 h; exact h.elim
  | succ n ih => intro x1 x2 h; exact BX12_yearOf_6 C ih h
theorem PX12_yearOf {sh : Nat → Nat × Nat} {t : Nat} {rm : Nat × Nat × Nat} {cs : Nat × Nat} {R : f_Rt} {x1 : Int} {M : e_M} (C : f_Hy sh t yX12_yearOf rm cs 4 (lX12_yearOf) R) (h : WX12_yearOf x1 M (fun r => R (some (.inl r)) M)) : f_E sh t YX12_yearOf rm cs (f_Q sh t R) 0 [.inr (.inr (.inl (12, 123, 4456))), .inl x1, .inr (.inr (.inr ()))] [] M :=
  BX12_yearOf C (fun x1 x2 ⟨j, h⟩ => PX12_yearOf_6 C j _ _ h) h
def wX12_yearOf : f_Wt := f_wm [(4466, 12, 123), (1, 0, 0)] (fun ar M R => WX12_yearOf (f_vi (f_nth ar 1)) M (fun r => R (some (.inl r)) M))
theorem TX12_yearOf {sh : Nat → Nat × Nat} {t : Nat} : f_Mt sh t YX12_yearOf 4 (wX12_yearOf) :=
  f_Mt_of (k := 1) (Nat.le_of_ble_eq_true rfl) rfl rfl (fun ar M R rm cs h1 h2 h3 hX h => PX12_yearOf ⟨Nat.le_of_ble_eq_true rfl, h1, h2, h3, trivial, hX⟩ h)
def VX12_monthOf_22 (c_X12_yearOf : Int → e_M → (Int → Prop) → Prop) (c_X12_leaps : Int → e_M → (Int → Prop) → Prop) (k39 : Int → Int → Int → Int → Prop) (Q : Int → Prop) (x2 : Int) (x3 : Int) (x4 : Int) (M : e_M) : Prop :=
  (c_X12_leaps x2 M (fun r1 => ((r1 = 0 → (k39 x2 x3 x4 0)) ∧ (¬ r1 = 0 → (k39 x2 x3 x4 13)))))
def VX12_monthOf_39 (c_X12_yearOf : Int → e_M → (Int → Prop) → Prop) (c_X12_leaps : Int → e_M → (Int → Prop) → Prop) (k22 : Int → Int → Int → Prop) (Q : Int → Prop) (x2 : Int) (x3 : Int) (x4 : Int) (xs1 : Int) (M : e_M) : Prop :=
  ((0 ≤ (e_w32 (xs1 + x4)) ∧ (e_w32 (xs1 + x4)) < 26) ∧ ((x3 < (M 4458 ((e_w32 (xs1 + x4)).toNat)) → (Q x4)) ∧ ((M 4458 ((e_w32 (xs1 + x4)).toNat)) ≤ x3 → (k22 x2 x3 (e_w32 (x4 + 1))))))
def VX12_monthOf (c_X12_yearOf : Int → e_M → (Int → Prop) → Prop) (c_X12_leaps : Int → e_M → (Int → Prop) → Prop) (k22 : Int → Int → Int → Prop) (Q : Int → Prop) (x1 : Int) (M : e_M) : Prop :=
  (c_X12_yearOf x1 M (fun r1 => ((0 ≤ (e_w32 (r1 - 1700)) ∧ (e_w32 (r1 - 1700)) < 640) ∧ (∀ y2 : Int, y2 = e_w32 (x1 - (M 4457 ((e_w32 (r1 - 1700)).toNat))) → (k22 r1 y2 1)))))
def yX12_monthOf (i : Nat) : e_Y := x_get YX12_monthOf [YX12_yearOf, YX12_leaps] i
def pX12_monthOff : List x_I := [(0, 4, 1, 0, 0, 0, []), (1, 2, 1, 1, 0, 0, []), (2, 40, 0, 2, 14, 0, []), (5, 5, 1, 2, 0, 0, []), (6, 2, 1, 1, 0, 0, []), (7, 4, 1, 0, 0, 0, []), (8, 25, 12, 0, 4, 0, [(0, 20, 640), (0, 1, 1)]), (11, 2, 1, 2, 0, 0, []), (12, 0, 3, 0, 0, 1700, []), (15, 9, 0, 1, 0, 0, []), (16, 27, 0, 0, 0, 0, []), (17, 9, 0, 1, 0, 0, []), (18, 33, 0, 0, 0, 0, []), (18, 5, 1, 3, 0, 0, []), (19, 0, 1, 0, 0, 1, []), (20, 5, 2, 4, 0, 0, []), (22, 49, 0, 0, 0, 0, []), (22, 4, 1, 0, 0, 0, []), (23, 25, 12, 1, 4, 0, [(0, 20, 26), (0, 1, 2)]), (26, 2, 1, 2, 0, 0, []), (27, 40, 1, 1, 0, 0, []), (30, 17, 38, 0, 25, 0, []), (33, 0, 2, 0, 0, 13, []), (35, 19, 39, 0, 26, 0, []), (38, 0, 1, 0, 0, 0, []), (39, 49, 0, 0, 0, 0, []), (39, 2, 2, 4, 0, 0, []), (41, 9, 0, 0, 0, 0, []), (42, 27, 0, 0, 0, 0, []), (43, 2, 1, 3, 0, 0, []), (44, 18, 53, 4, 34, 0, []), (47, 8, 0, 4, 0, 1, []), (50, 19, 22, 0, 17, 0, []), (53, 2, 2, 4, 0, 0, []), (55, 41, 0, 0, 0, 0, [])]
set_option maxRecDepth 20000 in
theorem qX12_monthOff : f_all yX12_monthOf YX12_monthOf pX12_monthOff :=
  ⟨f_aload_n (n := 0) (e_dx DX12_monthOf_0 0 rfl) rfl,
  f_iload_n (n := 1) (e_dx DX12_monthOf_0 1 rfl) rfl,
  x_callV (e_dx DX12_monthOf_0 2 rfl) mwX12_yearOf vwX12_yearOf cX12_270 rfl,
  f_istore_n (n := 2) (e_dx DX12_monthOf_0 3 rfl) rfl (by decide),
  f_iload_n (n := 1) (e_dx DX12_monthOf_0 4 rfl) rfl,
  f_aload_n (n := 0) (e_dx DX12_monthOf_0 5 rfl) rfl,
  f_getA (e_dx DX12_monthOf_0 6 rfl) fX12_7 rfl (by decide) (Nat.le_of_ble_eq_true rfl) rfl (by decide),
  f_iload_n (n := 2) (e_dx DX12_monthOf_0 7 rfl) rfl,
  f_sipush (e_dx DX12_monthOf_0 8 rfl) ⟨by decide, by decide⟩,
  f_isub (e_dx DX12_monthOf_0 9 rfl),
  f_iaload (e_dx DX12_monthOf_0 10 rfl),
  f_isub (e_dx DX12_monthOf_0 11 rfl),
  f_g33,
  f_istore_n (n := 3) (e_dx DX12_monthOf_0 12 rfl) rfl (by decide),
  f_iconst (e_dx DX12_monthOf_0 13 rfl) ⟨by decide, by decide⟩,
  f_istore (e_dx DX12_monthOf_0 14 rfl) (by decide),
  trivial,
  f_aload_n (n := 0) (e_dx DX12_monthOf_0 15 rfl) rfl,
  f_getA (e_dx DX12_monthOf_0 16 rfl) fX12_13 rfl (by decide) (Nat.le_of_ble_eq_true rfl) rfl (by decide),
  f_iload_n (n := 2) (e_dx DX12_monthOf_0 17 rfl) rfl,
  x_callS (e_dx DX12_monthOf_0 18 rfl) mwX12_leaps cX12_251 swX12_leaps rfl,
  f_if_eq (e_dx DX12_monthOf_0 19 rfl) rfl,
  f_bipush (e_dx DX12_monthOf_0 20 rfl) ⟨by decide, by decide⟩,
  f_g19 (e_dx DX12_monthOf_0 21 rfl) rfl,
  f_iconst (e_dx DX12_monthOf_0 22 rfl) ⟨by decide, by decide⟩,
  trivial,
  f_iload (e_dx DX12_monthOf_0 23 rfl),
  f_iadd (e_dx DX12_monthOf_0 24 rfl),
  f_iaload (e_dx DX12_monthOf_0 25 rfl),
  f_iload_n (n := 3) (e_dx DX12_monthOf_0 26 rfl) rfl,
  f_icmp_gt (e_dx DX12_monthOf_0 27 rfl) rfl,
  f_g8 (e_dx DX12_monthOf_0 28 rfl) ⟨by decide, by decide⟩,
  f_g19 (e_dx DX12_monthOf_0 29 rfl) rfl,
  f_iload (e_dx DX12_monthOf_0 30 rfl),
  ⟨(e_dx DX12_monthOf_0 31 rfl), rfl⟩, trivial⟩
def lX12_monthOf (c_X12_yearOf : Int → e_M → (Int → Prop) → Prop) (c_X12_leaps : Int → e_M → (Int → Prop) → Prop) : List (Nat × f_Wt) := [(0, f_wm [(4466, 12, 123), (1, 0, 0)] (fun ar M R => c_X12_yearOf (f_vi (f_nth ar 1)) M (fun r => R (some (.inl r)) M))), (1, f_wm [(1, 0, 0)] (fun ar M R => c_X12_leaps (f_vi (f_nth ar 0)) M (fun r => R (some (.inl r)) M)))]
set_option maxRecDepth 20000 in
theorem BX12_monthOf_22 {sh : Nat → Nat × Nat} {t : Nat} {rm : Nat × Nat × Nat} {cs : Nat × Nat} {R : f_Rt} {c_X12_yearOf : Int → e_M → (Int → Prop) → Prop} {c_X12_leaps : Int → e_M → (Int → Prop) → Prop} {k39 : Int → Int → Int → Int → Prop} {x2 : Int} {x3 : Int} {x4 : Int} {M : e_M} (C : f_Hy sh t yX12_monthOf rm cs 5 (lX12_monthOf c_X12_yearOf c_X12_leaps) R) (h39 : ∀ (x2 : Int) (x3 : Int) (x4 : Int) (xs1 : Int), k39 x2 x3 x4 xs1 → f_E sh t YX12_monthOf rm cs (f_Q sh t R) 39 [.inr (.inr (.inl (12, 123, 4456))), .inr (.inr (.inr ())), .inl x2, .inl x3, .inl x4] [.inl xs1, .inr (.inr (.inl (20, 26, 4458)))] M) (h : VX12_monthOf_22 c_X12_yearOf c_X12_leaps k39 (fun r => R (some (.inl r)) M) x2 x3 x4 M) : f_E sh t YX12_monthOf rm cs (f_Q sh t R) 22 [.inr (.inr (.inl (12, 123, 4456))), .inr (.inr (.inr ())), .inl x2, .inl x3, .inl x4] [] M := by
  rw [f_kk4 M k39] at h
  exact f_go (KC := f_kc [(39, f_pl [(4466, 12, 123), (0, 0, 0), (1, 0, 0), (1, 0, 0), (1, 0, 0)] [(1, 0, 0), (4468, 20, 26)] (fun ls st M2 => M2 = M ∧ (k39 (f_vi (f_nth ls 2)) (f_vi (f_nth ls 3)) (f_vi (f_nth ls 4)) (f_vi (f_nth st 0)))))]) C qX12_monthOff (f_kc_cons (f_pl_ok rfl (fun ls st M2 ⟨e, hh⟩ => by subst e; exact h39 _ _ _ _ hh)) f_kc_nil) 37 17 h
set_option maxRecDepth 20000 in
theorem BX12_monthOf_39 {sh : Nat → Nat × Nat} {t : Nat} {rm : Nat × Nat × Nat} {cs : Nat × Nat} {R : f_Rt} {c_X12_yearOf : Int → e_M → (Int → Prop) → Prop} {c_X12_leaps : Int → e_M → (Int → Prop) → Prop} {k22 : Int → Int → Int → Prop} {x2 : Int} {x3 : Int} {x4 : Int} {xs1 : Int} {M : e_M} (C : f_Hy sh t yX12_monthOf rm cs 5 (lX12_monthOf c_X12_yearOf c_X12_leaps) R) (h22 : ∀ (x2 : Int) (x3 : Int) (x4 : Int), k22 x2 x3 x4 → f_E sh t YX12_monthOf rm cs (f_Q sh t R) 22 [.inr (.inr (.inl (12, 123, 4456))), .inr (.inr (.inr ())), .inl x2, .inl x3, .inl x4] [] M) (h : VX12_monthOf_39 c_X12_yearOf c_X12_leaps k22 (fun r => R (some (.inl r)) M) x2 x3 x4 xs1 M) : f_E sh t YX12_monthOf rm cs (f_Q sh t R) 39 [.inr (.inr (.inl (12, 123, 4456))), .inr (.inr (.inr ())), .inl x2, .inl x3, .inl x4] [.inl xs1, .inr (.inr (.inl (20, 26, 4458)))] M := by
  rw [f_kk3 M k22] at h
  exact f_go (KC := f_kc [(22, f_pl [(4466, 12, 123), (0, 0, 0), (1, 0, 0), (1, 0, 0), (1, 0, 0)] [] (fun ls st M2 => M2 = M ∧ (k22 (f_vi (f_nth ls 2)) (f_vi (f_nth ls 3)) (f_vi (f_nth ls 4)))))]) C qX12_monthOff (f_kc_cons (f_pl_ok rfl (fun ls st M2 ⟨e, hh⟩ => by subst e; exact h22 _ _ _ hh)) f_kc_nil) 37 26 h
set_option maxRecDepth 20000 in
theorem BX12_monthOf {sh : Nat → Nat × Nat} {t : Nat} {rm : Nat × Nat × Nat} {cs : Nat × Nat} {R : f_Rt} {c_X12_yearOf : Int → e_M → (Int → Prop) → Prop} {c_X12_leaps : Int → e_M → (Int → Prop) → Prop} {k22 : Int → Int → Int → Prop} {x1 : Int} {M : e_M} (C : f_Hy sh t yX12_monthOf rm cs 5 (lX12_monthOf c_X12_yearOf c_X12_leaps) R) (h22 : ∀ (x2 : Int) (x3 : Int) (x4 : Int), k22 x2 x3 x4 → f_E sh t YX12_monthOf rm cs (f_Q sh t R) 22 [.inr (.inr (.inl (12, 123, 4456))), .inr (.inr (.inr ())), .inl x2, .inl x3, .inl x4] [] M) (h : VX12_monthOf c_X12_yearOf c_X12_leaps k22 (fun r => R (some (.inl r)) M) x1 M) : f_E sh t YX12_monthOf rm cs (f_Q sh t R) 0 [.inr (.inr (.inl (12, 123, 4456))), .inl x1, .inr (.inr (.inr ())), .inr (.inr (.inr ())), .inr (.inr (.inr ()))] [] M := by
  rw [f_kk3 M k22] at h
  exact f_go (KC := f_kc [(22, f_pl [(4466, 12, 123), (0, 0, 0), (1, 0, 0), (1, 0, 0), (1, 0, 0)] [] (fun ls st M2 => M2 = M ∧ (k22 (f_vi (f_nth ls 2)) (f_vi (f_nth ls 3)) (f_vi (f_nth ls 4)))))]) C qX12_monthOff (f_kc_cons (f_pl_ok rfl (fun ls st M2 ⟨e, hh⟩ => by subst e; exact h22 _ _ _ hh)) f_kc_nil) 37 0 h
def WX12_monthOf_39 (M : e_M) (H22 : Int → Int → Int → Prop) (Q : Int → Prop) (x2 : Int) (x3 : Int) (x4 : Int) (xs1 : Int) : Prop :=
  VX12_monthOf_39 WX12_yearOf WX12_leaps H22 Q x2 x3 x4 xs1 M
def WX12_monthOf_22 (M : e_M) (Q : Int → Prop) : Nat → Int → Int → Int → Prop
  | 0, _, _, _ => False
  | n + 1, x2, x3, x4 =>
    VX12_monthOf_22 WX12_yearOf WX12_leaps (WX12_monthOf_39 M (WX12_monthOf_22 M Q n) Q) Q x2 x3 x4 M
def WX12_monthOf (x1 : Int) (M : e_M) (Q : Int → Prop) : Prop :=
  VX12_monthOf WX12_yearOf WX12_leaps (fun x2 x3 x4 => ∃ j, WX12_monthOf_22 M Q j x2 x3 x4) Q x1 M
theorem PX12_monthOf_39 {sh : Nat → Nat × Nat} {t : Nat} {rm : Nat × Nat × Nat} {cs : Nat × Nat} {R : f_Rt} {H22 : Int → Int → Int → Prop} {x2 : Int} {x3 : Int} {x4 : Int} {xs1 : Int} {M : e_M} (C : f_Hy sh t yX12_monthOf rm cs 5 (lX12_monthOf WX12_yearOf WX12_leaps) R) (g22 : ∀ (x2 : Int) (x3 : Int) (x4 : Int), H22 x2 x3 x4 → f_E sh t YX12_monthOf rm cs (f_Q sh t R) 22 [.inr (.inr (.inl (12, 123, 4456))), .inr (.inr (.inr ())), .inl x2, .inl x3, .inl x4] [] M) (h : WX12_monthOf_39 M H22 (fun r => R (some (.inl r)) M) x2 x3 x4 xs1) : f_E sh t YX12_monthOf rm cs (f_Q sh t R) 39 [.inr (.inr (.inl (12, 123, 4456))), .inr (.inr (.inr ())), .inl x2, .inl x3, .inl x4] [.inl xs1, .inr (.inr (.inl (20, 26, 4458)))] M :=
  BX12_monthOf_39 C g22 h
theorem PX12_monthOf_22 {sh : Nat → Nat × Nat} {t : Nat} {rm : Nat × Nat × Nat} {cs : Nat × Nat} {R : f_Rt} {M : e_M} (C : f_Hy sh t yX12_monthOf rm cs 5 (lX12_monthOf WX12_yearOf WX12_leaps) R) : ∀ (n : Nat) (x2 : Int) (x3 : Int) (x4 : Int), WX12_monthOf_22 M (fun r => R (some (.inl r)) M) n x2 x3 x4 → f_E sh t YX12_monthOf rm cs (f_Q sh t R) 22 [.inr (.inr (.inl (12, 123, 4456))), .inr (.inr (.inr ())), .inl x2, .inl x3, .inl x4] [] M := by
  intro n
  induction n with
  | zero => intro x2 x3 x4 h; exact h.elim
  | succ n ih => intro x2 x3 x4 h; exact BX12_monthOf_22 C (fun x2 x3 x4 xs1 h => PX12_monthOf_39 C ih h) h
theorem PX12_monthOf {sh : Nat → Nat × Nat} {t : Nat} {rm : Nat × Nat × Nat} {cs : Nat × Nat} {R : f_Rt} {x1 : Int} {M : e_M} (C : f_Hy sh t yX12_monthOf rm cs 5 (lX12_monthOf WX12_yearOf WX12_leaps) R) (h : WX12_monthOf x1 M (fun r => R (some (.inl r)) M)) : f_E sh t YX12_monthOf rm cs (f_Q sh t R) 0 [.inr (.inr (.inl (12, 123, 4456))), .inl x1, .inr (.inr (.inr ())), .inr (.inr (.inr ())), .inr (.inr (.inr ()))] [] M :=
  BX12_monthOf C (fun x2 x3 x4 ⟨j, h⟩ => PX12_monthOf_22 C j _ _ _ h) h
def wX12_monthOf : f_Wt := f_wm [(4466, 12, 123), (1, 0, 0)] (fun ar M R => WX12_monthOf (f_vi (f_nth ar 1)) M (fun r => R (some (.inl r)) M))
theorem TX12_monthOf {sh : Nat → Nat × Nat} {t : Nat} : f_Mt sh t YX12_monthOf 5 (wX12_monthOf) :=
  f_Mt_of (k := 3) (Nat.le_of_ble_eq_true rfl) rfl rfl (fun ar M R rm cs h1 h2 h3 hX h => PX12_monthOf ⟨Nat.le_of_ble_eq_true rfl, h1, h2, h3, ⟨(f_Mt.up (Nat.le_of_ble_eq_true rfl) TX12_yearOf), (f_Mt.up (Nat.le_of_ble_eq_true rfl) TX12_leaps), trivial⟩, hX⟩ h)
def VX12_dateOf_35 (c_X12_yearOf : Int → e_M → (Int → Prop) → Prop) (c_X12_leaps : Int → e_M → (Int → Prop) → Prop) (c_X12_monthOf : Int → e_M → (Int → Prop) → Prop) (Q : Int → Prop) (x1 : Int) (xs2 : Int) (xs0 : Int) (M : e_M) : Prop :=
  (c_X12_monthOf x1 M (fun r1 => ((0 ≤ (e_w32 ((e_w32 (xs2 + r1)) - 1)) ∧ (e_w32 ((e_w32 (xs2 + r1)) - 1)) < 26) ∧ (Q (e_w32 ((e_w32 (xs0 - (M 4458 ((e_w32 ((e_w32 (xs2 + r1)) - 1)).toNat)))) + 1))))))
def VX12_dateOf (c_X12_yearOf : Int → e_M → (Int → Prop) → Prop) (c_X12_leaps : Int → e_M → (Int → Prop) → Prop) (c_X12_monthOf : Int → e_M → (Int → Prop) → Prop) (k35 : Int → Int → Int → Prop) (Q : Int → Prop) (x1 : Int) (M : e_M) : Prop :=
  (c_X12_yearOf x1 M (fun r1 => ((0 ≤ (e_w32 (r1 - 1700)) ∧ (e_w32 (r1 - 1700)) < 640) ∧ (c_X12_leaps r1 M (fun r2 => ((r2 = 0 → (k35 x1 0 (e_w32 (x1 - (M 4457 ((e_w32 (r1 - 1700)).toNat)))))) ∧ (¬ r2 = 0 → (k35 x1 13 (e_w32 (x1 - (M 4457 ((e_w32 (r1 - 1700)).toNat))))))))))))
def yX12_dateOf (i : Nat) : e_Y := x_get YX12_dateOf [YX12_yearOf, YX12_leaps, YX12_monthOf] i
def pX12_dateOff : List x_I := [(0, 4, 1, 0, 0, 0, []), (1, 2, 1, 1, 0, 0, []), (2, 40, 0, 2, 14, 0, []), (5, 5, 1, 2, 0, 0, []), (6, 2, 1, 1, 0, 0, []), (7, 4, 1, 0, 0, 0, []), (8, 25, 12, 0, 4, 0, [(0, 20, 640), (0, 1, 1)]), (11, 2, 1, 2, 0, 0, []), (12, 0, 3, 0, 0, 1700, []), (15, 9, 0, 1, 0, 0, []), (16, 27, 0, 0, 0, 0, []), (17, 9, 0, 1, 0, 0, []), (18, 4, 1, 0, 0, 0, []), (19, 25, 12, 1, 4, 0, [(0, 20, 26), (0, 1, 2)]), (22, 2, 1, 2, 0, 0, []), (23, 40, 1, 1, 0, 0, []), (26, 17, 34, 0, 20, 0, []), (29, 0, 2, 0, 0, 13, []), (31, 19, 35, 0, 21, 0, []), (34, 0, 1, 0, 0, 0, []), (35, 49, 0, 0, 0, 0, []), (35, 4, 1, 0, 0, 0, []), (36, 2, 1, 1, 0, 0, []), (37, 40, 2, 2, 14, 0, []), (40, 9, 0, 0, 0, 0, []), (41, 0, 1, 0, 0, 1, []), (42, 9, 0, 1, 0, 0, []), (43, 27, 0, 0, 0, 0, []), (44, 9, 0, 1, 0, 0, []), (45, 0, 1, 0, 0, 1, []), (46, 9, 0, 0, 0, 0, []), (47, 41, 0, 0, 0, 0, [])]
set_option maxRecDepth 20000 in
theorem qX12_dateOff : f_all yX12_dateOf YX12_dateOf pX12_dateOff :=
  ⟨f_aload_n (n := 0) (e_dx DX12_dateOf_0 0 rfl) rfl,
  f_iload_n (n := 1) (e_dx DX12_dateOf_0 1 rfl) rfl,
  x_callV (e_dx DX12_dateOf_0 2 rfl) mwX12_yearOf vwX12_yearOf cX12_270 rfl,
  f_istore_n (n := 2) (e_dx DX12_dateOf_0 3 rfl) rfl (by decide),
  f_iload_n (n := 1) (e_dx DX12_dateOf_0 4 rfl) rfl,
  f_aload_n (n := 0) (e_dx DX12_dateOf_0 5 rfl) rfl,
  f_getA (e_dx DX12_dateOf_0 6 rfl) fX12_7 rfl (by decide) (Nat.le_of_ble_eq_true rfl) rfl (by decide),
  f_iload_n (n := 2) (e_dx DX12_dateOf_0 7 rfl) rfl,
  f_sipush (e_dx DX12_dateOf_0 8 rfl) ⟨by decide, by decide⟩,
  f_isub (e_dx DX12_dateOf_0 9 rfl),
  f_iaload (e_dx DX12_dateOf_0 10 rfl),
  f_isub (e_dx DX12_dateOf_0 11 rfl),
  f_aload_n (n := 0) (e_dx DX12_dateOf_0 12 rfl) rfl,
  f_getA (e_dx DX12_dateOf_0 13 rfl) fX12_13 rfl (by decide) (Nat.le_of_ble_eq_true rfl) rfl (by decide),
  f_iload_n (n := 2) (e_dx DX12_dateOf_0 14 rfl) rfl,
  x_callS (e_dx DX12_dateOf_0 15 rfl) mwX12_leaps cX12_251 swX12_leaps rfl,
  f_if_eq (e_dx DX12_dateOf_0 16 rfl) rfl,
  f_bipush (e_dx DX12_dateOf_0 17 rfl) ⟨by decide, by decide⟩,
  f_g19 (e_dx DX12_dateOf_0 18 rfl) rfl,
  f_iconst (e_dx DX12_dateOf_0 19 rfl) ⟨by decide, by decide⟩,
  trivial,
  f_aload_n (n := 0) (e_dx DX12_dateOf_0 20 rfl) rfl,
  f_iload_n (n := 1) (e_dx DX12_dateOf_0 21 rfl) rfl,
  x_callV (e_dx DX12_dateOf_0 22 rfl) mwX12_monthOf vwX12_monthOf cX12_274 rfl,
  f_iadd (e_dx DX12_dateOf_0 23 rfl),
  f_iconst (e_dx DX12_dateOf_0 24 rfl) ⟨by decide, by decide⟩,
  f_isub (e_dx DX12_dateOf_0 25 rfl),
  f_iaload (e_dx DX12_dateOf_0 26 rfl),
  f_isub (e_dx DX12_dateOf_0 27 rfl),
  f_iconst (e_dx DX12_dateOf_0 28 rfl) ⟨by decide, by decide⟩,
  f_iadd (e_dx DX12_dateOf_0 29 rfl),
  ⟨(e_dx DX12_dateOf_0 30 rfl), rfl⟩, trivial⟩
def lX12_dateOf (c_X12_yearOf : Int → e_M → (Int → Prop) → Prop) (c_X12_leaps : Int → e_M → (Int → Prop) → Prop) (c_X12_monthOf : Int → e_M → (Int → Prop) → Prop) : List (Nat × f_Wt) := [(0, f_wm [(4466, 12, 123), (1, 0, 0)] (fun ar M R => c_X12_yearOf (f_vi (f_nth ar 1)) M (fun r => R (some (.inl r)) M))), (1, f_wm [(1, 0, 0)] (fun ar M R => c_X12_leaps (f_vi (f_nth ar 0)) M (fun r => R (some (.inl r)) M))), (2, f_wm [(4466, 12, 123), (1, 0, 0)] (fun ar M R => c_X12_monthOf (f_vi (f_nth ar 1)) M (fun r => R (some (.inl r)) M)))]
set_option maxRecDepth 20000 in
theorem BX12_dateOf_35 {sh : Nat → Nat × Nat} {t : Nat} {rm : Nat × Nat × Nat} {cs : Nat × Nat} {R : f_Rt} {c_X12_yearOf : Int → e_M → (Int → Prop) → Prop} {c_X12_leaps : Int → e_M → (Int → Prop) → Prop} {c_X12_monthOf : Int → e_M → (Int → Prop) → Prop} {x1 : Int} {xs2 : Int} {xs0 : Int} {M : e_M} (C : f_Hy sh t yX12_dateOf rm cs 6 (lX12_dateOf c_X12_yearOf c_X12_leaps c_X12_monthOf) R) (h : VX12_dateOf_35 c_X12_yearOf c_X12_leaps c_X12_monthOf (fun r => R (some (.inl r)) M) x1 xs2 xs0 M) : f_E sh t YX12_dateOf rm cs (f_Q sh t R) 35 [.inr (.inr (.inl (12, 123, 4456))), .inl x1, .inr (.inr (.inr ()))] [.inl xs2, .inr (.inr (.inl (20, 26, 4458))), .inl xs0] M :=
  f_go (KC := f_kc []) C qX12_dateOff f_kc_nil 34 21 h
set_option maxRecDepth 20000 in
theorem BX12_dateOf {sh : Nat → Nat × Nat} {t : Nat} {rm : Nat × Nat × Nat} {cs : Nat × Nat} {R : f_Rt} {c_X12_yearOf : Int → e_M → (Int → Prop) → Prop} {c_X12_leaps : Int → e_M → (Int → Prop) → Prop} {c_X12_monthOf : Int → e_M → (Int → Prop) → Prop} {k35 : Int → Int → Int → Prop} {x1 : Int} {M : e_M} (C : f_Hy sh t yX12_dateOf rm cs 6 (lX12_dateOf c_X12_yearOf c_X12_leaps c_X12_monthOf) R) (h35 : ∀ (x1 : Int) (xs2 : Int) (xs0 : Int), k35 x1 xs2 xs0 → f_E sh t YX12_dateOf rm cs (f_Q sh t R) 35 [.inr (.inr (.inl (12, 123, 4456))), .inl x1, .inr (.inr (.inr ()))] [.inl xs2, .inr (.inr (.inl (20, 26, 4458))), .inl xs0] M) (h : VX12_dateOf c_X12_yearOf c_X12_leaps c_X12_monthOf k35 (fun r => R (some (.inl r)) M) x1 M) : f_E sh t YX12_dateOf rm cs (f_Q sh t R) 0 [.inr (.inr (.inl (12, 123, 4456))), .inl x1, .inr (.inr (.inr ()))] [] M := by
  rw [f_kk3 M k35] at h
  exact f_go (KC := f_kc [(35, f_pl [(4466, 12, 123), (1, 0, 0), (0, 0, 0)] [(1, 0, 0), (4468, 20, 26), (1, 0, 0)] (fun ls st M2 => M2 = M ∧ (k35 (f_vi (f_nth ls 1)) (f_vi (f_nth st 0)) (f_vi (f_nth st 2)))))]) C qX12_dateOff (f_kc_cons (f_pl_ok rfl (fun ls st M2 ⟨e, hh⟩ => by subst e; exact h35 _ _ _ hh)) f_kc_nil) 34 0 h
def WX12_dateOf_35 (M : e_M) (Q : Int → Prop) (x1 : Int) (xs2 : Int) (xs0 : Int) : Prop :=
  VX12_dateOf_35 WX12_yearOf WX12_leaps WX12_monthOf Q x1 xs2 xs0 M
def WX12_dateOf (x1 : Int) (M : e_M) (Q : Int → Prop) : Prop :=
  VX12_dateOf WX12_yearOf WX12_leaps WX12_monthOf (WX12_dateOf_35 M Q) Q x1 M
theorem PX12_dateOf_35 {sh : Nat → Nat × Nat} {t : Nat} {rm : Nat × Nat × Nat} {cs : Nat × Nat} {R : f_Rt} {x1 : Int} {xs2 : Int} {xs0 : Int} {M : e_M} (C : f_Hy sh t yX12_dateOf rm cs 6 (lX12_dateOf WX12_yearOf WX12_leaps WX12_monthOf) R) (h : WX12_dateOf_35 M (fun r => R (some (.inl r)) M) x1 xs2 xs0) : f_E sh t YX12_dateOf rm cs (f_Q sh t R) 35 [.inr (.inr (.inl (12, 123, 4456))), .inl x1, .inr (.inr (.inr ()))] [.inl xs2, .inr (.inr (.inl (20, 26, 4458))), .inl xs0] M :=
  BX12_dateOf_35 C h
theorem PX12_dateOf {sh : Nat → Nat × Nat} {t : Nat} {rm : Nat × Nat × Nat} {cs : Nat × Nat} {R : f_Rt} {x1 : Int} {M : e_M} (C : f_Hy sh t yX12_dateOf rm cs 6 (lX12_dateOf WX12_yearOf WX12_leaps WX12_monthOf) R) (h : WX12_dateOf x1 M (fun r => R (some (.inl r)) M)) : f_E sh t YX12_dateOf rm cs (f_Q sh t R) 0 [.inr (.inr (.inl (12, 123, 4456))), .inl x1, .inr (.inr (.inr ()))] [] M :=
  BX12_dateOf C (fun x1 xs2 xs0 h => PX12_dateOf_35 C h) h
def wX12_dateOf : f_Wt := f_wm [(4466, 12, 123), (1, 0, 0)] (fun ar M R => WX12_dateOf (f_vi (f_nth ar 1)) M (fun r => R (some (.inl r)) M))
theorem TX12_dateOf {sh : Nat → Nat × Nat} {t : Nat} : f_Mt sh t YX12_dateOf 6 (wX12_dateOf) :=
  f_Mt_of (k := 1) (Nat.le_of_ble_eq_true rfl) rfl rfl (fun ar M R rm cs h1 h2 h3 hX h => PX12_dateOf ⟨Nat.le_of_ble_eq_true rfl, h1, h2, h3, ⟨(f_Mt.up (Nat.le_of_ble_eq_true rfl) TX12_yearOf), (f_Mt.up (Nat.le_of_ble_eq_true rfl) TX12_leaps), (f_Mt.up (Nat.le_of_ble_eq_true rfl) TX12_monthOf), trivial⟩, hX⟩ h)
def VX12_anniversary_40 (c_X12_monthOf : Int → e_M → (Int → Prop) → Prop) (c_X12_dateOf : Int → e_M → (Int → Prop) → Prop) (c_X12_leaps : Int → e_M → (Int → Prop) → Prop) (c_X12_dayOf : Int → Int → Int → e_M → (Int → Prop) → Prop) (Q : Int → Prop) (x2 : Int) (x3 : Int) (x4 : Int) (M : e_M) : Prop :=
  (c_X12_dayOf x2 x3 x4 M (fun r1 => (Q r1)))
def VX12_anniversary (c_X12_monthOf : Int → e_M → (Int → Prop) → Prop) (c_X12_dateOf : Int → e_M → (Int → Prop) → Prop) (c_X12_leaps : Int → e_M → (Int → Prop) → Prop) (c_X12_dayOf : Int → Int → Int → e_M → (Int → Prop) → Prop) (k40 : Int → Int → Int → Prop) (Q : Int → Prop) (x1 : Int) (x2 : Int) (M : e_M) : Prop :=
  (c_X12_monthOf x1 M (fun r1 => (c_X12_dateOf x1 M (fun r2 => ((¬ r1 = 2 → (k40 x2 r1 r2)) ∧ (r1 = 2 → ((¬ r2 = 29 → (k40 x2 r1 r2)) ∧ (r2 = 29 → (c_X12_leaps x2 M (fun r3 => ((¬ r3 = 0 → (k40 x2 r1 r2)) ∧ (r3 = 0 → (c_X12_dayOf x2 3 1 M (fun r4 => (Q r4)))))))))))))))
def yX12_anniversary (i : Nat) : e_Y := x_get YX12_anniversary [YX12_monthOf, YX12_dateOf, YX12_leaps, YX12_dayOf] i
def pX12_anniversaryf : List x_I := [(0, 4, 1, 0, 0, 0, []), (1, 2, 1, 1, 0, 0, []), (2, 40, 0, 2, 14, 0, []), (5, 5, 1, 3, 0, 0, []), (6, 4, 1, 0, 0, 0, []), (7, 2, 1, 1, 0, 0, []), (8, 40, 1, 2, 14, 0, []), (11, 5, 2, 4, 0, 0, []), (13, 2, 1, 3, 0, 0, []), (14, 0, 1, 0, 0, 2, []), (15, 18, 40, 1, 24, 0, []), (18, 2, 2, 4, 0, 0, []), (20, 0, 2, 0, 0, 29, []), (22, 18, 40, 1, 24, 0, []), (25, 2, 1, 2, 0, 0, []), (26, 40, 2, 1, 0, 0, []), (29, 17, 40, 1, 24, 0, []), (32, 4, 1, 0, 0, 0, []), (33, 2, 1, 2, 0, 0, []), (34, 0, 1, 0, 0, 3, []), (35, 0, 1, 0, 0, 1, []), (36, 40, 3, 4, 14, 0, []), (39, 41, 0, 0, 0, 0, []), (40, 49, 0, 0, 0, 0, []), (40, 4, 1, 0, 0, 0, []), (41, 2, 1, 2, 0, 0, []), (42, 2, 1, 3, 0, 0, []), (43, 2, 2, 4, 0, 0, []), (45, 40, 3, 4, 14, 0, []), (48, 41, 0, 0, 0, 0, [])]
set_option maxRecDepth 20000 in
theorem qX12_anniversaryf : f_all yX12_anniversary YX12_anniversary pX12_anniversaryf :=
  ⟨f_aload_n (n := 0) (e_dx DX12_anniversary_0 0 rfl) rfl,
  f_iload_n (n := 1) (e_dx DX12_anniversary_0 1 rfl) rfl,
  x_callV (e_dx DX12_anniversary_0 2 rfl) mwX12_monthOf vwX12_monthOf cX12_274 rfl,
  f_istore_n (n := 3) (e_dx DX12_anniversary_0 3 rfl) rfl (by decide),
  f_aload_n (n := 0) (e_dx DX12_anniversary_0 4 rfl) rfl,
  f_iload_n (n := 1) (e_dx DX12_anniversary_0 5 rfl) rfl,
  x_callV (e_dx DX12_anniversary_0 6 rfl) mwX12_dateOf vwX12_dateOf cX12_277 rfl,
  f_istore (e_dx DX12_anniversary_0 7 rfl) (by decide),
  f_iload_n (n := 3) (e_dx DX12_anniversary_0 8 rfl) rfl,
  f_iconst (e_dx DX12_anniversary_0 9 rfl) ⟨by decide, by decide⟩,
  f_icmp_ne (e_dx DX12_anniversary_0 10 rfl) rfl,
  f_iload (e_dx DX12_anniversary_0 11 rfl),
  f_bipush (e_dx DX12_anniversary_0 12 rfl) ⟨by decide, by decide⟩,
  f_icmp_ne (e_dx DX12_anniversary_0 13 rfl) rfl,
  f_iload_n (n := 2) (e_dx DX12_anniversary_0 14 rfl) rfl,
  x_callS (e_dx DX12_anniversary_0 15 rfl) mwX12_leaps cX12_251 swX12_leaps rfl,
  f_if_ne (e_dx DX12_anniversary_0 16 rfl) rfl,
  f_aload_n (n := 0) (e_dx DX12_anniversary_0 17 rfl) rfl,
  f_iload_n (n := 2) (e_dx DX12_anniversary_0 18 rfl) rfl,
  f_iconst (e_dx DX12_anniversary_0 19 rfl) ⟨by decide, by decide⟩,
  f_iconst (e_dx DX12_anniversary_0 20 rfl) ⟨by decide, by decide⟩,
  x_callV (e_dx DX12_anniversary_0 21 rfl) mwX12_dayOf vwX12_dayOf cX12_280 rfl,
  ⟨(e_dx DX12_anniversary_0 22 rfl), rfl⟩,
  trivial,
  f_aload_n (n := 0) (e_dx DX12_anniversary_0 23 rfl) rfl,
  f_iload_n (n := 2) (e_dx DX12_anniversary_0 24 rfl) rfl,
  f_iload_n (n := 3) (e_dx DX12_anniversary_0 25 rfl) rfl,
  f_iload (e_dx DX12_anniversary_0 26 rfl),
  x_callV (e_dx DX12_anniversary_0 27 rfl) mwX12_dayOf vwX12_dayOf cX12_280 rfl,
  ⟨(e_dx DX12_anniversary_0 28 rfl), rfl⟩, trivial⟩
def lX12_anniversary (c_X12_monthOf : Int → e_M → (Int → Prop) → Prop) (c_X12_dateOf : Int → e_M → (Int → Prop) → Prop) (c_X12_leaps : Int → e_M → (Int → Prop) → Prop) (c_X12_dayOf : Int → Int → Int → e_M → (Int → Prop) → Prop) : List (Nat × f_Wt) := [(0, f_wm [(4466, 12, 123), (1, 0, 0)] (fun ar M R => c_X12_monthOf (f_vi (f_nth ar 1)) M (fun r => R (some (.inl r)) M))), (1, f_wm [(4466, 12, 123), (1, 0, 0)] (fun ar M R => c_X12_dateOf (f_vi (f_nth ar 1)) M (fun r => R (some (.inl r)) M))), (2, f_wm [(1, 0, 0)] (fun ar M R => c_X12_leaps (f_vi (f_nth ar 0)) M (fun r => R (some (.inl r)) M))), (3, f_wm [(4466, 12, 123), (1, 0, 0), (1, 0, 0), (1, 0, 0)] (fun ar M R => c_X12_dayOf (f_vi (f_nth ar 1)) (f_vi (f_nth ar 2)) (f_vi (f_nth ar 3)) M (fun r => R (some (.inl r)) M)))]
set_option maxRecDepth 20000 in
theorem BX12_anniversary_40 {sh : Nat → Nat × Nat} {t : Nat} {rm : Nat × Nat × Nat} {cs : Nat × Nat} {R : f_Rt} {c_X12_monthOf : Int → e_M → (Int → Prop) → Prop} {c_X12_dateOf : Int → e_M → (Int → Prop) → Prop} {c_X12_leaps : Int → e_M → (Int → Prop) → Prop} {c_X12_dayOf : Int → Int → Int → e_M → (Int → Prop) → Prop} {x2 : Int} {x3 : Int} {x4 : Int} {M : e_M} (C : f_Hy sh t yX12_anniversary rm cs 7 (lX12_anniversary c_X12_monthOf c_X12_dateOf c_X12_leaps c_X12_dayOf) R) (h : VX12_anniversary_40 c_X12_monthOf c_X12_dateOf c_X12_leaps c_X12_dayOf (fun r => R (some (.inl r)) M) x2 x3 x4 M) : f_E sh t YX12_anniversary rm cs (f_Q sh t R) 40 [.inr (.inr (.inl (12, 123, 4456))), .inr (.inr (.inr ())), .inl x2, .inl x3, .inl x4] [] M :=
  f_go (KC := f_kc []) C qX12_anniversaryf f_kc_nil 32 24 h
set_option maxRecDepth 20000 in
theorem BX12_anniversary {sh : Nat → Nat × Nat} {t : Nat} {rm : Nat × Nat × Nat} {cs : Nat × Nat} {R : f_Rt} {c_X12_monthOf : Int → e_M → (Int → Prop) → Prop} {c_X12_dateOf : Int → e_M → (Int → Prop) → Prop} {c_X12_leaps : Int → e_M → (Int → Prop) → Prop} {c_X12_dayOf : Int → Int → Int → e_M → (Int → Prop) → Prop} {k40 : Int → Int → Int → Prop} {x1 : Int} {x2 : Int} {M : e_M} (C : f_Hy sh t yX12_anniversary rm cs 7 (lX12_anniversary c_X12_monthOf c_X12_dateOf c_X12_leaps c_X12_dayOf) R) (h40 : ∀ (x2 : Int) (x3 : Int) (x4 : Int), k40 x2 x3 x4 → f_E sh t YX12_anniversary rm cs (f_Q sh t R) 40 [.inr (.inr (.inl (12, 123, 4456))), .inr (.inr (.inr ())), .inl x2, .inl x3, .inl x4] [] M) (h : VX12_anniversary c_X12_monthOf c_X12_dateOf c_X12_leaps c_X12_dayOf k40 (fun r => R (some (.inl r)) M) x1 x2 M) : f_E sh t YX12_anniversary rm cs (f_Q sh t R) 0 [.inr (.inr (.inl (12, 123, 4456))), .inl x1, .inl x2, .inr (.inr (.inr ())), .inr (.inr (.inr ()))] [] M := by
  rw [f_kk3 M k40] at h
  exact f_go (KC := f_kc [(40, f_pl [(4466, 12, 123), (0, 0, 0), (1, 0, 0), (1, 0, 0), (1, 0, 0)] [] (fun ls st M2 => M2 = M ∧ (k40 (f_vi (f_nth ls 2)) (f_vi (f_nth ls 3)) (f_vi (f_nth ls 4)))))]) C qX12_anniversaryf (f_kc_cons (f_pl_ok rfl (fun ls st M2 ⟨e, hh⟩ => by subst e; exact h40 _ _ _ hh)) f_kc_nil) 32 0 h
def WX12_anniversary_40 (M : e_M) (Q : Int → Prop) (x2 : Int) (x3 : Int) (x4 : Int) : Prop :=
  VX12_anniversary_40 WX12_monthOf WX12_dateOf WX12_leaps WX12_dayOf Q x2 x3 x4 M
def WX12_anniversary (x1 : Int) (x2 : Int) (M : e_M) (Q : Int → Prop) : Prop :=
  VX12_anniversary WX12_monthOf WX12_dateOf WX12_leaps WX12_dayOf (WX12_anniversary_40 M Q) Q x1 x2 M
theorem PX12_anniversary_40 {sh : Nat → Nat × Nat} {t : Nat} {rm : Nat × Nat × Nat} {cs : Nat × Nat} {R : f_Rt} {x2 : Int} {x3 : Int} {x4 : Int} {M : e_M} (C : f_Hy sh t yX12_anniversary rm cs 7 (lX12_anniversary WX12_monthOf WX12_dateOf WX12_leaps WX12_dayOf) R) (h : WX12_anniversary_40 M (fun r => R (some (.inl r)) M) x2 x3 x4) : f_E sh t YX12_anniversary rm cs (f_Q sh t R) 40 [.inr (.inr (.inl (12, 123, 4456))), .inr (.inr (.inr ())), .inl x2, .inl x3, .inl x4] [] M :=
  BX12_anniversary_40 C h
theorem PX12_anniversary {sh : Nat → Nat × Nat} {t : Nat} {rm : Nat × Nat × Nat} {cs : Nat × Nat} {R : f_Rt} {x1 : Int} {x2 : Int} {M : e_M} (C : f_Hy sh t yX12_anniversary rm cs 7 (lX12_anniversary WX12_monthOf WX12_dateOf WX12_leaps WX12_dayOf) R) (h : WX12_anniversary x1 x2 M (fun r => R (some (.inl r)) M)) : f_E sh t YX12_anniversary rm cs (f_Q sh t R) 0 [.inr (.inr (.inl (12, 123, 4456))), .inl x1, .inl x2, .inr (.inr (.inr ())), .inr (.inr (.inr ()))] [] M :=
  BX12_anniversary C (fun x2 x3 x4 h => PX12_anniversary_40 C h) h
def wX12_anniversary : f_Wt := f_wm [(4466, 12, 123), (1, 0, 0), (1, 0, 0)] (fun ar M R => WX12_anniversary (f_vi (f_nth ar 1)) (f_vi (f_nth ar 2)) M (fun r => R (some (.inl r)) M))
theorem TX12_anniversary {sh : Nat → Nat × Nat} {t : Nat} : f_Mt sh t YX12_anniversary 7 (wX12_anniversary) :=
  f_Mt_of (k := 2) (Nat.le_of_ble_eq_true rfl) rfl rfl (fun ar M R rm cs h1 h2 h3 hX h => PX12_anniversary ⟨Nat.le_of_ble_eq_true rfl, h1, h2, h3, ⟨(f_Mt.up (Nat.le_of_ble_eq_true rfl) TX12_monthOf), (f_Mt.up (Nat.le_of_ble_eq_true rfl) TX12_dateOf), (f_Mt.up (Nat.le_of_ble_eq_true rfl) TX12_leaps), (f_Mt.up (Nat.le_of_ble_eq_true rfl) TX12_dayOf), trivial⟩, hX⟩ h)
def VX12_fullYears_28 (c_X12_yearOf : Int → e_M → (Int → Prop) → Prop) (c_X12_anniversary : Int → Int → e_M → (Int → Prop) → Prop) (Q : Int → Prop) (xs1 : Int) (xs0 : Int) (M : e_M) : Prop :=
  (Q (e_w32 (xs0 - xs1)))
def VX12_fullYears (c_X12_yearOf : Int → e_M → (Int → Prop) → Prop) (c_X12_anniversary : Int → Int → e_M → (Int → Prop) → Prop) (k28 : Int → Int → Prop) (Q : Int → Prop) (x1 : Int) (x2 : Int) (M : e_M) : Prop :=
  (c_X12_yearOf x2 M (fun r1 => (c_X12_yearOf x1 M (fun r2 => (c_X12_anniversary x1 r1 M (fun r3 => ((r3 ≤ x2 → (k28 0 (e_w32 (r1 - r2)))) ∧ (x2 < r3 → (k28 1 (e_w32 (r1 - r2)))))))))))
def yX12_fullYears (i : Nat) : e_Y := x_get YX12_fullYears [YX12_yearOf, YX12_anniversary] i
def pX12_fullYearsf : List x_I := [(0, 4, 1, 0, 0, 0, []), (1, 2, 1, 2, 0, 0, []), (2, 40, 0, 2, 14, 0, []), (5, 5, 1, 3, 0, 0, []), (6, 2, 1, 3, 0, 0, []), (7, 4, 1, 0, 0, 0, []), (8, 2, 1, 1, 0, 0, []), (9, 40, 0, 2, 14, 0, []), (12, 9, 0, 1, 0, 0, []), (13, 2, 1, 2, 0, 0, []), (14, 4, 1, 0, 0, 0, []), (15, 2, 1, 1, 0, 0, []), (16, 2, 1, 3, 0, 0, []), (17, 40, 1, 3, 14, 0, []), (20, 18, 27, 3, 18, 0, []), (23, 0, 1, 0, 0, 1, []), (24, 19, 28, 0, 19, 0, []), (27, 0, 1, 0, 0, 0, []), (28, 49, 0, 0, 0, 0, []), (28, 9, 0, 1, 0, 0, []), (29, 41, 0, 0, 0, 0, [])]
set_option maxRecDepth 20000 in
theorem qX12_fullYearsf : f_all yX12_fullYears YX12_fullYears pX12_fullYearsf :=
  ⟨f_aload_n (n := 0) (e_dx DX12_fullYears_0 0 rfl) rfl,
  f_iload_n (n := 2) (e_dx DX12_fullYears_0 1 rfl) rfl,
  x_callV (e_dx DX12_fullYears_0 2 rfl) mwX12_yearOf vwX12_yearOf cX12_270 rfl,
  f_istore_n (n := 3) (e_dx DX12_fullYears_0 3 rfl) rfl (by decide),
  f_iload_n (n := 3) (e_dx DX12_fullYears_0 4 rfl) rfl,
  f_aload_n (n := 0) (e_dx DX12_fullYears_0 5 rfl) rfl,
  f_iload_n (n := 1) (e_dx DX12_fullYears_0 6 rfl) rfl,
  x_callV (e_dx DX12_fullYears_0 7 rfl) mwX12_yearOf vwX12_yearOf cX12_270 rfl,
  f_isub (e_dx DX12_fullYears_0 8 rfl),
  f_iload_n (n := 2) (e_dx DX12_fullYears_0 9 rfl) rfl,
  f_aload_n (n := 0) (e_dx DX12_fullYears_0 10 rfl) rfl,
  f_iload_n (n := 1) (e_dx DX12_fullYears_0 11 rfl) rfl,
  f_iload_n (n := 3) (e_dx DX12_fullYears_0 12 rfl) rfl,
  x_callV (e_dx DX12_fullYears_0 13 rfl) mwX12_anniversary vwX12_anniversary cX12_284 rfl,
  f_icmp_ge (e_dx DX12_fullYears_0 14 rfl) rfl,
  f_iconst (e_dx DX12_fullYears_0 15 rfl) ⟨by decide, by decide⟩,
  f_g19 (e_dx DX12_fullYears_0 16 rfl) rfl,
  f_iconst (e_dx DX12_fullYears_0 17 rfl) ⟨by decide, by decide⟩,
  trivial,
  f_isub (e_dx DX12_fullYears_0 18 rfl),
  ⟨(e_dx DX12_fullYears_0 19 rfl), rfl⟩, trivial⟩
def lX12_fullYears (c_X12_yearOf : Int → e_M → (Int → Prop) → Prop) (c_X12_anniversary : Int → Int → e_M → (Int → Prop) → Prop) : List (Nat × f_Wt) := [(0, f_wm [(4466, 12, 123), (1, 0, 0)] (fun ar M R => c_X12_yearOf (f_vi (f_nth ar 1)) M (fun r => R (some (.inl r)) M))), (1, f_wm [(4466, 12, 123), (1, 0, 0), (1, 0, 0)] (fun ar M R => c_X12_anniversary (f_vi (f_nth ar 1)) (f_vi (f_nth ar 2)) M (fun r => R (some (.inl r)) M)))]
set_option maxRecDepth 20000 in
theorem BX12_fullYears_28 {sh : Nat → Nat × Nat} {t : Nat} {rm : Nat × Nat × Nat} {cs : Nat × Nat} {R : f_Rt} {c_X12_yearOf : Int → e_M → (Int → Prop) → Prop} {c_X12_anniversary : Int → Int → e_M → (Int → Prop) → Prop} {xs1 : Int} {xs0 : Int} {M : e_M} (C : f_Hy sh t yX12_fullYears rm cs 8 (lX12_fullYears c_X12_yearOf c_X12_anniversary) R) (h : VX12_fullYears_28 c_X12_yearOf c_X12_anniversary (fun r => R (some (.inl r)) M) xs1 xs0 M) : f_E sh t YX12_fullYears rm cs (f_Q sh t R) 28 [.inr (.inr (.inr ())), .inr (.inr (.inr ())), .inr (.inr (.inr ())), .inr (.inr (.inr ()))] [.inl xs1, .inl xs0] M :=
  f_go (KC := f_kc []) C qX12_fullYearsf f_kc_nil 23 19 h
set_option maxRecDepth 20000 in
theorem BX12_fullYears {sh : Nat → Nat × Nat} {t : Nat} {rm : Nat × Nat × Nat} {cs : Nat × Nat} {R : f_Rt} {c_X12_yearOf : Int → e_M → (Int → Prop) → Prop} {c_X12_anniversary : Int → Int → e_M → (Int → Prop) → Prop} {k28 : Int → Int → Prop} {x1 : Int} {x2 : Int} {M : e_M} (C : f_Hy sh t yX12_fullYears rm cs 8 (lX12_fullYears c_X12_yearOf c_X12_anniversary) R) (h28 : ∀ (xs1 : Int) (xs0 : Int), k28 xs1 xs0 → f_E sh t YX12_fullYears rm cs (f_Q sh t R) 28 [.inr (.inr (.inr ())), .inr (.inr (.inr ())), .inr (.inr (.inr ())), .inr (.inr (.inr ()))] [.inl xs1, .inl xs0] M) (h : VX12_fullYears c_X12_yearOf c_X12_anniversary k28 (fun r => R (some (.inl r)) M) x1 x2 M) : f_E sh t YX12_fullYears rm cs (f_Q sh t R) 0 [.inr (.inr (.inl (12, 123, 4456))), .inl x1, .inl x2, .inr (.inr (.inr ()))] [] M := by
  rw [f_kk2 M k28] at h
  exact f_go (KC := f_kc [(28, f_pl [(0, 0, 0), (0, 0, 0), (0, 0, 0), (0, 0, 0)] [(1, 0, 0), (1, 0, 0)] (fun ls st M2 => M2 = M ∧ (k28 (f_vi (f_nth st 0)) (f_vi (f_nth st 1)))))]) C qX12_fullYearsf (f_kc_cons (f_pl_ok rfl (fun ls st M2 ⟨e, hh⟩ => by subst e; exact h28 _ _ hh)) f_kc_nil) 23 0 h
def WX12_fullYears_28 (M : e_M) (Q : Int → Prop) (xs1 : Int) (xs0 : Int) : Prop :=
  VX12_fullYears_28 WX12_yearOf WX12_anniversary Q xs1 xs0 M
def WX12_fullYears (x1 : Int) (x2 : Int) (M : e_M) (Q : Int → Prop) : Prop :=
  VX12_fullYears WX12_yearOf WX12_anniversary (WX12_fullYears_28 M Q) Q x1 x2 M
theorem PX12_fullYears_28 {sh : Nat → Nat × Nat} {t : Nat} {rm : Nat × Nat × Nat} {cs : Nat × Nat} {R : f_Rt} {xs1 : Int} {xs0 : Int} {M : e_M} (C : f_Hy sh t yX12_fullYears rm cs 8 (lX12_fullYears WX12_yearOf WX12_anniversary) R) (h : WX12_fullYears_28 M (fun r => R (some (.inl r)) M) xs1 xs0) : f_E sh t YX12_fullYears rm cs (f_Q sh t R) 28 [.inr (.inr (.inr ())), .inr (.inr (.inr ())), .inr (.inr (.inr ())), .inr (.inr (.inr ()))] [.inl xs1, .inl xs0] M :=
  BX12_fullYears_28 C h
theorem PX12_fullYears {sh : Nat → Nat × Nat} {t : Nat} {rm : Nat × Nat × Nat} {cs : Nat × Nat} {R : f_Rt} {x1 : Int} {x2 : Int} {M : e_M} (C : f_Hy sh t yX12_fullYears rm cs 8 (lX12_fullYears WX12_yearOf WX12_anniversary) R) (h : WX12_fullYears x1 x2 M (fun r => R (some (.inl r)) M)) : f_E sh t YX12_fullYears rm cs (f_Q sh t R) 0 [.inr (.inr (.inl (12, 123, 4456))), .inl x1, .inl x2, .inr (.inr (.inr ()))] [] M :=
  BX12_fullYears C (fun xs1 xs0 h => PX12_fullYears_28 C h) h
def wX12_fullYears : f_Wt := f_wm [(4466, 12, 123), (1, 0, 0), (1, 0, 0)] (fun ar M R => WX12_fullYears (f_vi (f_nth ar 1)) (f_vi (f_nth ar 2)) M (fun r => R (some (.inl r)) M))
theorem TX12_fullYears {sh : Nat → Nat × Nat} {t : Nat} : f_Mt sh t YX12_fullYears 8 (wX12_fullYears) :=
  f_Mt_of (k := 1) (Nat.le_of_ble_eq_true rfl) rfl rfl (fun ar M R rm cs h1 h2 h3 hX h => PX12_fullYears ⟨Nat.le_of_ble_eq_true rfl, h1, h2, h3, ⟨(f_Mt.up (Nat.le_of_ble_eq_true rfl) TX12_yearOf), (f_Mt.up (Nat.le_of_ble_eq_true rfl) TX12_anniversary), trivial⟩, hX⟩ h)
def VX12_byteAt (Q : Int → Prop) (x1 : Int) (M : e_M) : Prop :=
  (((M 4456 5) ≤ x1 → (Q (-1))) ∧ (x1 < (M 4456 5) → ((0 ≤ x1 ∧ x1 < 640) ∧ (Q (f_and (M 4460 (x1.toNat)) 255)))))
def yX12_byteAt (i : Nat) : e_Y := x_get YX12_byteAt [] i
def pX12_byteAtf : List x_I := [(0, 2, 1, 1, 0, 0, []), (1, 4, 1, 0, 0, 0, []), (2, 25, 12, 5, 0, 0, []), (5, 18, 21, 3, 12, 0, []), (8, 4, 1, 0, 0, 0, []), (9, 25, 12, 3, 4, 0, [(0, 22, 640), (0, 1, 4)]), (12, 2, 1, 1, 0, 0, []), (13, 27, 0, 2, 0, 0, []), (14, 0, 3, 0, 0, 255, []), (17, 9, 0, 5, 0, 0, []), (18, 19, 22, 0, 13, 0, []), (21, 0, 1, 0, 0, (-1), []), (22, 41, 0, 0, 0, 0, [])]
set_option maxRecDepth 20000 in
theorem qX12_byteAtf : f_all yX12_byteAt YX12_byteAt pX12_byteAtf :=
  ⟨f_iload_n (n := 1) (e_dx DX12_byteAt_0 0 rfl) rfl,
  f_aload_n (n := 0) (e_dx DX12_byteAt_0 1 rfl) rfl,
  f_getf (e_dx DX12_byteAt_0 2 rfl) fX12_288 rfl (by decide) (by decide) (by decide),
  f_icmp_ge (e_dx DX12_byteAt_0 3 rfl) rfl,
  f_aload_n (n := 0) (e_dx DX12_byteAt_0 4 rfl) rfl,
  f_getA (e_dx DX12_byteAt_0 5 rfl) fX12_20 rfl (by decide) (Nat.le_of_ble_eq_true rfl) rfl (by decide),
  f_iload_n (n := 1) (e_dx DX12_byteAt_0 6 rfl) rfl,
  f_baload (e_dx DX12_byteAt_0 7 rfl),
  f_sipush (e_dx DX12_byteAt_0 8 rfl) ⟨by decide, by decide⟩,
  f_iand (e_dx DX12_byteAt_0 9 rfl),
  f_g19 (e_dx DX12_byteAt_0 10 rfl) rfl,
  f_iconst (e_dx DX12_byteAt_0 11 rfl) ⟨by decide, by decide⟩,
  ⟨(e_dx DX12_byteAt_0 12 rfl), rfl⟩, trivial⟩
def lX12_byteAt : List (Nat × f_Wt) := []
set_option maxRecDepth 20000 in
theorem BX12_byteAt {sh : Nat → Nat × Nat} {t : Nat} {rm : Nat × Nat × Nat} {cs : Nat × Nat} {R : f_Rt} {x1 : Int} {M : e_M} (C : f_Hy sh t yX12_byteAt rm cs 4 (lX12_byteAt) R) (h : VX12_byteAt (fun r => R (some (.inl r)) M) x1 M) : f_E sh t YX12_byteAt rm cs (f_Q sh t R) 0 [.inr (.inr (.inl (12, 123, 4456))), .inl x1] [] M :=
  f_go (KC := f_kc []) C qX12_byteAtf f_kc_nil 15 0 h
def WX12_byteAt (x1 : Int) (M : e_M) (Q : Int → Prop) : Prop :=
  VX12_byteAt Q x1 M
theorem PX12_byteAt {sh : Nat → Nat × Nat} {t : Nat} {rm : Nat × Nat × Nat} {cs : Nat × Nat} {R : f_Rt} {x1 : Int} {M : e_M} (C : f_Hy sh t yX12_byteAt rm cs 4 (lX12_byteAt) R) (h : WX12_byteAt x1 M (fun r => R (some (.inl r)) M)) : f_E sh t YX12_byteAt rm cs (f_Q sh t R) 0 [.inr (.inr (.inl (12, 123, 4456))), .inl x1] [] M :=
  BX12_byteAt C h
def wX12_byteAt : f_Wt := f_wm [(4466, 12, 123), (1, 0, 0)] (fun ar M R => WX12_byteAt (f_vi (f_nth ar 1)) M (fun r => R (some (.inl r)) M))
theorem TX12_byteAt {sh : Nat → Nat × Nat} {t : Nat} : f_Mt sh t YX12_byteAt 4 (wX12_byteAt) :=
  f_Mt_of (k := 0) (Nat.le_of_ble_eq_true rfl) rfl rfl (fun ar M R rm cs h1 h2 h3 hX h => PX12_byteAt ⟨Nat.le_of_ble_eq_true rfl, h1, h2, h3, trivial, hX⟩ h)
def VX12_isSmall (Q : Int → Prop) (x0 : Int) (M : e_M) : Prop :=
  ((x0 < 97 → (Q 0)) ∧ (97 ≤ x0 → ((122 < x0 → (Q 0)) ∧ (x0 ≤ 122 → (Q 1)))))
def yX12_isSmall (i : Nat) : e_Y := x_get YX12_isSmall [] i
def pX12_isSmallf : List x_I := [(0, 2, 1, 0, 0, 0, []), (1, 0, 2, 0, 0, 97, []), (3, 18, 16, 2, 9, 0, []), (6, 2, 1, 0, 0, 0, []), (7, 0, 2, 0, 0, 122, []), (9, 18, 16, 4, 9, 0, []), (12, 0, 1, 0, 0, 1, []), (13, 19, 17, 0, 10, 0, []), (16, 0, 1, 0, 0, 0, []), (17, 48, 0, 0, 0, 0, [])]
set_option maxRecDepth 20000 in
theorem qX12_isSmallf : f_all yX12_isSmall YX12_isSmall pX12_isSmallf :=
  ⟨f_iload_n (n := 0) (e_dx DX12_isSmall_0 0 rfl) rfl,
  f_bipush (e_dx DX12_isSmall_0 1 rfl) ⟨by decide, by decide⟩,
  f_icmp_lt (e_dx DX12_isSmall_0 2 rfl) rfl,
  f_iload_n (n := 0) (e_dx DX12_isSmall_0 3 rfl) rfl,
  f_bipush (e_dx DX12_isSmall_0 4 rfl) ⟨by decide, by decide⟩,
  f_icmp_gt (e_dx DX12_isSmall_0 5 rfl) rfl,
  f_iconst (e_dx DX12_isSmall_0 6 rfl) ⟨by decide, by decide⟩,
  f_g19 (e_dx DX12_isSmall_0 7 rfl) rfl,
  f_iconst (e_dx DX12_isSmall_0 8 rfl) ⟨by decide, by decide⟩,
  ⟨(e_dx DX12_isSmall_0 9 rfl), rfl⟩, trivial⟩
def lX12_isSmall : List (Nat × f_Wt) := []
set_option maxRecDepth 20000 in
theorem BX12_isSmall {sh : Nat → Nat × Nat} {t : Nat} {rm : Nat × Nat × Nat} {cs : Nat × Nat} {R : f_Rt} {x0 : Int} {M : e_M} (C : f_Hy sh t yX12_isSmall rm cs 4 (lX12_isSmall) R) (h : VX12_isSmall (fun r => R (some (.inl r)) M) x0 M) : f_E sh t YX12_isSmall rm cs (f_Q sh t R) 0 [.inl x0] [] M :=
  f_go (KC := f_kc []) C qX12_isSmallf f_kc_nil 12 0 h
def WX12_isSmall (x0 : Int) (M : e_M) (Q : Int → Prop) : Prop :=
  VX12_isSmall Q x0 M
theorem PX12_isSmall {sh : Nat → Nat × Nat} {t : Nat} {rm : Nat × Nat × Nat} {cs : Nat × Nat} {R : f_Rt} {x0 : Int} {M : e_M} (C : f_Hy sh t yX12_isSmall rm cs 4 (lX12_isSmall) R) (h : WX12_isSmall x0 M (fun r => R (some (.inl r)) M)) : f_E sh t YX12_isSmall rm cs (f_Q sh t R) 0 [.inl x0] [] M :=
  BX12_isSmall C h
def wX12_isSmall : f_Wt := f_wm [(1, 0, 0)] (fun ar M R => WX12_isSmall (f_vi (f_nth ar 0)) M (fun r => R (some (.inl r)) M))
theorem TX12_isSmall {sh : Nat → Nat × Nat} {t : Nat} : f_Mt sh t YX12_isSmall 4 (wX12_isSmall) :=
  f_Mt_of (k := 0) (Nat.le_of_ble_eq_true rfl) rfl rfl (fun ar M R rm cs h1 h2 h3 hX h => PX12_isSmall ⟨Nat.le_of_ble_eq_true rfl, h1, h2, h3, trivial, hX⟩ h)
def VX12_isDigit (Q : Int → Prop) (x0 : Int) (M : e_M) : Prop :=
  ((x0 < 48 → (Q 0)) ∧ (48 ≤ x0 → ((57 < x0 → (Q 0)) ∧ (x0 ≤ 57 → (Q 1)))))
def yX12_isDigit (i : Nat) : e_Y := x_get YX12_isDigit [] i
def pX12_isDigitf : List x_I := [(0, 2, 1, 0, 0, 0, []), (1, 0, 2, 0, 0, 48, []), (3, 18, 16, 2, 9, 0, []), (6, 2, 1, 0, 0, 0, []), (7, 0, 2, 0, 0, 57, []), (9, 18, 16, 4, 9, 0, []), (12, 0, 1, 0, 0, 1, []), (13, 19, 17, 0, 10, 0, []), (16, 0, 1, 0, 0, 0, []), (17, 48, 0, 0, 0, 0, [])]
set_option maxRecDepth 20000 in
theorem qX12_isDigitf : f_all yX12_isDigit YX12_isDigit pX12_isDigitf :=
  ⟨f_iload_n (n := 0) (e_dx DX12_isDigit_0 0 rfl) rfl,
  f_bipush (e_dx DX12_isDigit_0 1 rfl) ⟨by decide, by decide⟩,
  f_icmp_lt (e_dx DX12_isDigit_0 2 rfl) rfl,
  f_iload_n (n := 0) (e_dx DX12_isDigit_0 3 rfl) rfl,
  f_bipush (e_dx DX12_isDigit_0 4 rfl) ⟨by decide, by decide⟩,
  f_icmp_gt (e_dx DX12_isDigit_0 5 rfl) rfl,
  f_iconst (e_dx DX12_isDigit_0 6 rfl) ⟨by decide, by decide⟩,
  f_g19 (e_dx DX12_isDigit_0 7 rfl) rfl,
  f_iconst (e_dx DX12_isDigit_0 8 rfl) ⟨by decide, by decide⟩,
  ⟨(e_dx DX12_isDigit_0 9 rfl), rfl⟩, trivial⟩
def lX12_isDigit : List (Nat × f_Wt) := []
set_option maxRecDepth 20000 in
theorem BX12_isDigit {sh : Nat → Nat × Nat} {t : Nat} {rm : Nat × Nat × Nat} {cs : Nat × Nat} {R : f_Rt} {x0 : Int} {M : e_M} (C : f_Hy sh t yX12_isDigit rm cs 4 (lX12_isDigit) R) (h : VX12_isDigit (fun r => R (some (.inl r)) M) x0 M) : f_E sh t YX12_isDigit rm cs (f_Q sh t R) 0 [.inl x0] [] M :=
  f_go (KC := f_kc []) C qX12_isDigitf f_kc_nil 12 0 h
def WX12_isDigit (x0 : Int) (M : e_M) (Q : Int → Prop) : Prop :=
  VX12_isDigit Q x0 M
theorem PX12_isDigit {sh : Nat → Nat × Nat} {t : Nat} {rm : Nat × Nat × Nat} {cs : Nat × Nat} {R : f_Rt} {x0 : Int} {M : e_M} (C : f_Hy sh t yX12_isDigit rm cs 4 (lX12_isDigit) R) (h : WX12_isDigit x0 M (fun r => R (some (.inl r)) M)) : f_E sh t YX12_isDigit rm cs (f_Q sh t R) 0 [.inl x0] [] M :=
  BX12_isDigit C h
def wX12_isDigit : f_Wt := f_wm [(1, 0, 0)] (fun ar M R => WX12_isDigit (f_vi (f_nth ar 0)) M (fun r => R (some (.inl r)) M))
theorem TX12_isDigit {sh : Nat → Nat × Nat} {t : Nat} : f_Mt sh t YX12_isDigit 4 (wX12_isDigit) :=
  f_Mt_of (k := 0) (Nat.le_of_ble_eq_true rfl) rfl rfl (fun ar M R rm cs h1 h2 h3 hX h => PX12_isDigit ⟨Nat.le_of_ble_eq_true rfl, h1, h2, h3, trivial, hX⟩ h)
def VX12_isDate_2 (c_X12_byteAt : Int → e_M → (Int → Prop) → Prop) (c_X12_isDigit : Int → e_M → (Int → Prop) → Prop) (c_X12_isSmall : Int → e_M → (Int → Prop) → Prop) (k27 : Int → Int → Int → Prop) (k45 : Int → Int → Prop) (Q : Int → Prop) (x1 : Int) (x2 : Int) (M : e_M) : Prop :=
  ((10 ≤ x2 → (c_X12_byteAt (e_w32 (x1 + 10)) M (fun r1 => (c_X12_isSmall r1 M (fun r2 => ((¬ r2 = 0 → (Q 0)) ∧ (r2 = 0 → (c_X12_byteAt (e_w32 (x1 + 10)) M (fun r3 => (c_X12_isDigit r3 M (fun r4 => ((¬ r4 = 0 → (Q 0)) ∧ (r4 = 0 → (Q 1)))))))))))))) ∧ (x2 < 10 → (c_X12_byteAt (e_w32 (x1 + x2)) M (fun r5 => ((x2 = 4 → (k27 x1 x2 r5)) ∧ (¬ x2 = 4 → ((¬ x2 = 7 → (c_X12_isDigit r5 M (fun r6 => ((¬ r6 = 0 → (k45 x1 x2)) ∧ (r6 = 0 → (Q 0)))))) ∧ (x2 = 7 → (k27 x1 x2 r5)))))))))
def VX12_isDate_27 (c_X12_byteAt : Int → e_M → (Int → Prop) → Prop) (c_X12_isDigit : Int → e_M → (Int → Prop) → Prop) (c_X12_isSmall : Int → e_M → (Int → Prop) → Prop) (k45 : Int → Int → Prop) (Q : Int → Prop) (x1 : Int) (x2 : Int) (x3 : Int) (M : e_M) : Prop :=
  ((x3 = 45 → (k45 x1 x2)) ∧ (¬ x3 = 45 → (Q 0)))
def VX12_isDate_45 (c_X12_byteAt : Int → e_M → (Int → Prop) → Prop) (c_X12_isDigit : Int → e_M → (Int → Prop) → Prop) (c_X12_isSmall : Int → e_M → (Int → Prop) → Prop) (k2 : Int → Int → Prop) (Q : Int → Prop) (x1 : Int) (x2 : Int) (M : e_M) : Prop :=
  (k2 x1 (e_w32 (x2 + 1)))
def VX12_isDate (c_X12_byteAt : Int → e_M → (Int → Prop) → Prop) (c_X12_isDigit : Int → e_M → (Int → Prop) → Prop) (c_X12_isSmall : Int → e_M → (Int → Prop) → Prop) (k2 : Int → Int → Prop) (Q : Int → Prop) (x1 : Int) (M : e_M) : Prop :=
  (k2 x1 0)
def yX12_isDate (i : Nat) : e_Y := x_get YX12_isDate [YX12_byteAt, YX12_isDigit, YX12_isSmall] i
def pX12_isDatef : List x_I := [(0, 0, 1, 0, 0, 0, []), (1, 5, 1, 2, 0, 0, []), (2, 49, 0, 0, 0, 0, []), (2, 2, 1, 2, 0, 0, []), (3, 0, 2, 0, 0, 10, []), (5, 18, 51, 3, 32, 0, []), (8, 4, 1, 0, 0, 0, []), (9, 2, 1, 1, 0, 0, []), (10, 2, 1, 2, 0, 0, []), (11, 9, 0, 0, 0, 0, []), (12, 40, 0, 2, 14, 0, []), (15, 5, 1, 3, 0, 0, []), (16, 2, 1, 2, 0, 0, []), (17, 0, 1, 0, 0, 4, []), (18, 18, 27, 0, 19, 0, []), (21, 2, 1, 2, 0, 0, []), (22, 0, 2, 0, 0, 7, []), (24, 18, 36, 1, 24, 0, []), (27, 49, 0, 0, 0, 0, []), (27, 2, 1, 3, 0, 0, []), (28, 0, 2, 0, 0, 45, []), (30, 18, 45, 0, 29, 0, []), (33, 19, 43, 0, 27, 0, []), (36, 2, 1, 3, 0, 0, []), (37, 40, 1, 1, 0, 0, []), (40, 17, 45, 1, 29, 0, []), (43, 0, 1, 0, 0, 0, []), (44, 48, 0, 0, 0, 0, []), (45, 49, 0, 0, 0, 0, []), (45, 8, 0, 2, 0, 1, []), (48, 19, 2, 0, 3, 0, []), (51, 4, 1, 0, 0, 0, []), (52, 2, 1, 1, 0, 0, []), (53, 0, 2, 0, 0, 10, []), (55, 9, 0, 0, 0, 0, []), (56, 40, 0, 2, 14, 0, []), (59, 40, 2, 1, 0, 0, []), (62, 17, 83, 1, 48, 0, []), (65, 4, 1, 0, 0, 0, []), (66, 2, 1, 1, 0, 0, []), (67, 0, 2, 0, 0, 10, []), (69, 9, 0, 0, 0, 0, []), (70, 40, 0, 2, 14, 0, []), (73, 40, 1, 1, 0, 0, []), (76, 17, 83, 1, 48, 0, []), (79, 0, 1, 0, 0, 1, []), (80, 19, 84, 0, 49, 0, []), (83, 0, 1, 0, 0, 0, []), (84, 48, 0, 0, 0, 0, [])]
set_option maxRecDepth 20000 in
theorem qX12_isDatef : f_all yX12_isDate YX12_isDate pX12_isDatef :=
  ⟨f_iconst (e_dx DX12_isDate_0 0 rfl) ⟨by decide, by decide⟩,
  f_istore_n (n := 2) (e_dx DX12_isDate_0 1 rfl) rfl (by decide),
  trivial,
  f_iload_n (n := 2) (e_dx DX12_isDate_0 2 rfl) rfl,
  f_bipush (e_dx DX12_isDate_0 3 rfl) ⟨by decide, by decide⟩,
  f_icmp_ge (e_dx DX12_isDate_0 4 rfl) rfl,
  f_aload_n (n := 0) (e_dx DX12_isDate_0 5 rfl) rfl,
  f_iload_n (n := 1) (e_dx DX12_isDate_0 6 rfl) rfl,
  f_iload_n (n := 2) (e_dx DX12_isDate_0 7 rfl) rfl,
  f_iadd (e_dx DX12_isDate_0 8 rfl),
  x_callV (e_dx DX12_isDate_0 9 rfl) mwX12_byteAt vwX12_byteAt cX12_291 rfl,
  f_istore_n (n := 3) (e_dx DX12_isDate_0 10 rfl) rfl (by decide),
  f_iload_n (n := 2) (e_dx DX12_isDate_0 11 rfl) rfl,
  f_iconst (e_dx DX12_isDate_0 12 rfl) ⟨by decide, by decide⟩,
  f_icmp_eq (e_dx DX12_isDate_0 13 rfl) rfl,
  f_iload_n (n := 2) (e_dx DX12_isDate_0 14 rfl) rfl,
  f_bipush (e_dx DX12_isDate_0 15 rfl) ⟨by decide, by decide⟩,
  f_icmp_ne (e_dx DX12_isDate_0 16 rfl) rfl,
  trivial,
  f_iload_n (n := 3) (e_dx DX12_isDate_0 17 rfl) rfl,
  f_bipush (e_dx DX12_isDate_0 18 rfl) ⟨by decide, by decide⟩,
  f_icmp_eq (e_dx DX12_isDate_0 19 rfl) rfl,
  f_g19 (e_dx DX12_isDate_0 20 rfl) rfl,
  f_iload_n (n := 3) (e_dx DX12_isDate_0 21 rfl) rfl,
  x_callS (e_dx DX12_isDate_0 22 rfl) mwX12_isDigit cX12_294 swX12_isDigit rfl,
  f_if_ne (e_dx DX12_isDate_0 23 rfl) rfl,
  f_iconst (e_dx DX12_isDate_0 24 rfl) ⟨by decide, by decide⟩,
  ⟨(e_dx DX12_isDate_0 25 rfl), rfl⟩,
  trivial,
  f_g8 (e_dx DX12_isDate_0 26 rfl) ⟨by decide, by decide⟩,
  f_g19 (e_dx DX12_isDate_0 27 rfl) rfl,
  f_aload_n (n := 0) (e_dx DX12_isDate_0 28 rfl) rfl,
  f_iload_n (n := 1) (e_dx DX12_isDate_0 29 rfl) rfl,
  f_bipush (e_dx DX12_isDate_0 30 rfl) ⟨by decide, by decide⟩,
  f_iadd (e_dx DX12_isDate_0 31 rfl),
  x_callV (e_dx DX12_isDate_0 32 rfl) mwX12_byteAt vwX12_byteAt cX12_291 rfl,
  x_callS (e_dx DX12_isDate_0 33 rfl) mwX12_isSmall cX12_297 swX12_isSmall rfl,
  f_if_ne (e_dx DX12_isDate_0 34 rfl) rfl,
  f_aload_n (n := 0) (e_dx DX12_isDate_0 35 rfl) rfl,
  f_iload_n (n := 1) (e_dx DX12_isDate_0 36 rfl) rfl,
  f_bipush (e_dx DX12_isDate_0 37 rfl) ⟨by decide, by decide⟩,
  f_iadd (e_dx DX12_isDate_0 38 rfl),
  x_callV (e_dx DX12_isDate_0 39 rfl) mwX12_byteAt vwX12_byteAt cX12_291 rfl,
  x_callS (e_dx DX12_isDate_1 0 rfl) mwX12_isDigit cX12_294 swX12_isDigit rfl,
  f_if_ne (e_dx DX12_isDate_1 1 rfl) rfl,
  f_iconst (e_dx DX12_isDate_1 2 rfl) ⟨by decide, by decide⟩,
  f_g19 (e_dx DX12_isDate_1 3 rfl) rfl,
  f_iconst (e_dx DX12_isDate_1 4 rfl) ⟨by decide, by decide⟩,
  ⟨(e_dx DX12_isDate_1 5 rfl), rfl⟩, trivial⟩
def lX12_isDate (c_X12_byteAt : Int → e_M → (Int → Prop) → Prop) (c_X12_isDigit : Int → e_M → (Int → Prop) → Prop) (c_X12_isSmall : Int → e_M → (Int → Prop) → Prop) : List (Nat × f_Wt) := [(0, f_wm [(4466, 12, 123), (1, 0, 0)] (fun ar M R => c_X12_byteAt (f_vi (f_nth ar 1)) M (fun r => R (some (.inl r)) M))), (1, f_wm [(1, 0, 0)] (fun ar M R => c_X12_isDigit (f_vi (f_nth ar 0)) M (fun r => R (some (.inl r)) M))), (2, f_wm [(1, 0, 0)] (fun ar M R => c_X12_isSmall (f_vi (f_nth ar 0)) M (fun r => R (some (.inl r)) M)))]
set_option maxRecDepth 20000 in
theorem BX12_isDate_2 {sh : Nat → Nat × Nat} {t : Nat} {rm : Nat × Nat × Nat} {cs : Nat × Nat} {R : f_Rt} {c_X12_byteAt : Int → e_M → (Int → Prop) → Prop} {c_X12_isDigit : Int → e_M → (Int → Prop) → Prop} {c_X12_isSmall : Int → e_M → (Int → Prop) → Prop} {k27 : Int → Int → Int → Prop} {k45 : Int → Int → Prop} {x1 : Int} {x2 : Int} {M : e_M} (C : f_Hy sh t yX12_isDate rm cs 5 (lX12_isDate c_X12_byteAt c_X12_isDigit c_X12_isSmall) R) (h27 : ∀ (x1 : Int) (x2 : Int) (x3 : Int), k27 x1 x2 x3 → f_E sh t YX12_isDate rm cs (f_Q sh t R) 27 [.inr (.inr (.inl (12, 123, 4456))), .inl x1, .inl x2, .inl x3] [] M) (h45 : ∀ (x1 : Int) (x2 : Int), k45 x1 x2 → f_E sh t YX12_isDate rm cs (f_Q sh t R) 45 [.inr (.inr (.inl (12, 123, 4456))), .inl x1, .inl x2, .inr (.inr (.inr ()))] [] M) (h : VX12_isDate_2 c_X12_byteAt c_X12_isDigit c_X12_isSmall k27 k45 (fun r => R (some (.inl r)) M) x1 x2 M) : f_E sh t YX12_isDate rm cs (f_Q sh t R) 2 [.inr (.inr (.inl (12, 123, 4456))), .inl x1, .inl x2, .inr (.inr (.inr ()))] [] M := by
  rw [f_kk3 M k27] at h
  rw [f_kk2 M k45] at h
  exact f_go (KC := f_kc [(27, f_pl [(4466, 12, 123), (1, 0, 0), (1, 0, 0), (1, 0, 0)] [] (fun ls st M2 => M2 = M ∧ (k27 (f_vi (f_nth ls 1)) (f_vi (f_nth ls 2)) (f_vi (f_nth ls 3))))), (45, f_pl [(4466, 12, 123), (1, 0, 0), (1, 0, 0), (0, 0, 0)] [] (fun ls st M2 => M2 = M ∧ (k45 (f_vi (f_nth ls 1)) (f_vi (f_nth ls 2)))))]) C qX12_isDatef (f_kc_cons (f_pl_ok rfl (fun ls st M2 ⟨e, hh⟩ => by subst e; exact h27 _ _ _ hh)) (f_kc_cons (f_pl_ok rfl (fun ls st M2 ⟨e, hh⟩ => by subst e; exact h45 _ _ hh)) f_kc_nil)) 51 3 h
set_option maxRecDepth 20000 in
theorem BX12_isDate_27 {sh : Nat → Nat × Nat} {t : Nat} {rm : Nat × Nat × Nat} {cs : Nat × Nat} {R : f_Rt} {c_X12_byteAt : Int → e_M → (Int → Prop) → Prop} {c_X12_isDigit : Int → e_M → (Int → Prop) → Prop} {c_X12_isSmall : Int → e_M → (Int → Prop) → Prop} {k45 : Int → Int → Prop} {x1 : Int} {x2 : Int} {x3 : Int} {M : e_M} (C : f_Hy sh t yX12_isDate rm cs 5 (lX12_isDate c_X12_byteAt c_X12_isDigit c_X12_isSmall) R) (h45 : ∀ (x1 : Int) (x2 : Int), k45 x1 x2 → f_E sh t YX12_isDate rm cs (f_Q sh t R) 45 [.inr (.inr (.inl (12, 123, 4456))), .inl x1, .inl x2, .inr (.inr (.inr ()))] [] M) (h : VX12_isDate_27 c_X12_byteAt c_X12_isDigit c_X12_isSmall k45 (fun r => R (some (.inl r)) M) x1 x2 x3 M) : f_E sh t YX12_isDate rm cs (f_Q sh t R) 27 [.inr (.inr (.inl (12, 123, 4456))), .inl x1, .inl x2, .inl x3] [] M := by
  rw [f_kk2 M k45] at h
  exact f_go (KC := f_kc [(45, f_pl [(4466, 12, 123), (1, 0, 0), (1, 0, 0), (0, 0, 0)] [] (fun ls st M2 => M2 = M ∧ (k45 (f_vi (f_nth ls 1)) (f_vi (f_nth ls 2)))))]) C qX12_isDatef (f_kc_cons (f_pl_ok rfl (fun ls st M2 ⟨e, hh⟩ => by subst e; exact h45 _ _ hh)) f_kc_nil) 51 19 h
set_option maxRecDepth 20000 in
theorem BX12_isDate_45 {sh : Nat → Nat × Nat} {t : Nat} {rm : Nat × Nat × Nat} {cs : Nat × Nat} {R : f_Rt} {c_X12_byteAt : Int → e_M → (Int → Prop) → Prop} {c_X12_isDigit : Int → e_M → (Int → Prop) → Prop} {c_X12_isSmall : Int → e_M → (Int → Prop) → Prop} {k2 : Int → Int → Prop} {x1 : Int} {x2 : Int} {M : e_M} (C : f_Hy sh t yX12_isDate rm cs 5 (lX12_isDate c_X12_byteAt c_X12_isDigit c_X12_isSmall) R) (h2 : ∀ (x1 : Int) (x2 : Int), k2 x1 x2 → f_E sh t YX12_isDate rm cs (f_Q sh t R) 2 [.inr (.inr (.inl (12, 123, 4456))), .inl x1, .inl x2, .inr (.inr (.inr ()))] [] M) (h : VX12_isDate_45 c_X12_byteAt c_X12_isDigit c_X12_isSmall k2 (fun r => R (some (.inl r)) M) x1 x2 M) : f_E sh t YX12_isDate rm cs (f_Q sh t R) 45 [.inr (.inr (.inl (12, 123, 4456))), .inl x1, .inl x2, .inr (.inr (.inr ()))] [] M := by
  rw [f_kk2 M k2] at h
  exact f_go (KC := f_kc [(2, f_pl [(4466, 12, 123), (1, 0, 0), (1, 0, 0), (0, 0, 0)] [] (fun ls st M2 => M2 = M ∧ (k2 (f_vi (f_nth ls 1)) (f_vi (f_nth ls 2)))))]) C qX12_isDatef (f_kc_cons (f_pl_ok rfl (fun ls st M2 ⟨e, hh⟩ => by subst e; exact h2 _ _ hh)) f_kc_nil) 51 29 h
set_option maxRecDepth 20000 in
theorem BX12_isDate {sh : Nat → Nat × Nat} {t : Nat} {rm : Nat × Nat × Nat} {cs : Nat × Nat} {R : f_Rt} {c_X12_byteAt : Int → e_M → (Int → Prop) → Prop} {c_X12_isDigit : Int → e_M → (Int → Prop) → Prop} {c_X12_isSmall : Int → e_M → (Int → Prop) → Prop} {k2 : Int → Int → Prop} {x1 : Int} {M : e_M} (C : f_Hy sh t yX12_isDate rm cs 5 (lX12_isDate c_X12_byteAt c_X12_isDigit c_X12_isSmall) R) (h2 : ∀ (x1 : Int) (x2 : Int), k2 x1 x2 → f_E sh t YX12_isDate rm cs (f_Q sh t R) 2 [.inr (.inr (.inl (12, 123, 4456))), .inl x1, .inl x2, .inr (.inr (.inr ()))] [] M) (h : VX12_isDate c_X12_byteAt c_X12_isDigit c_X12_isSmall k2 (fun r => R (some (.inl r)) M) x1 M) : f_E sh t YX12_isDate rm cs (f_Q sh t R) 0 [.inr (.inr (.inl (12, 123, 4456))), .inl x1, .inr (.inr (.inr ())), .inr (.inr (.inr ()))] [] M := by
  rw [f_kk2 M k2] at h
  exact f_go (KC := f_kc [(2, f_pl [(4466, 12, 123), (1, 0, 0), (1, 0, 0), (0, 0, 0)] [] (fun ls st M2 => M2 = M ∧ (k2 (f_vi (f_nth ls 1)) (f_vi (f_nth ls 2)))))]) C qX12_isDatef (f_kc_cons (f_pl_ok rfl (fun ls st M2 ⟨e, hh⟩ => by subst e; exact h2 _ _ hh)) f_kc_nil) 51 0 h
def WX12_isDate_45 (M : e_M) (H2 : Int → Int → Prop) (Q : Int → Prop) (x1 : Int) (x2 : Int) : Prop :=
  VX12_isDate_45 WX12_byteAt WX12_isDigit WX12_isSmall H2 Q x1 x2 M
def WX12_isDate_27 (M : e_M) (H2 : Int → Int → Prop) (Q : Int → Prop) (x1 : Int) (x2 : Int) (x3 : Int) : Prop :=
  VX12_isDate_27 WX12_byteAt WX12_isDigit WX12_isSmall (WX12_isDate_45 M H2 Q) Q x1 x2 x3 M
def WX12_isDate_2 (M : e_M) (Q : Int → Prop) : Nat → Int → Int → Prop
  | 0, _, _ => False
  | n + 1, x1, x2 =>
    VX12_isDate_2 WX12_byteAt WX12_isDigit WX12_isSmall (WX12_isDate_27 M (WX12_isDate_2 M Q n) Q) (WX12_isDate_45 M (WX12_isDate_2 M Q n) Q) Q x1 x2 M
def WX12_isDate (x1 : Int) (M : e_M) (Q : Int → Prop) : Prop :=
  VX12_isDate WX12_byteAt WX12_isDigit WX12_isSmall (fun x1 x2 => ∃ j, WX12_isDate_2 M Q j x1 x2) Q x1 M
theorem PX12_isDate_45 {sh : Nat → Nat × Nat} {t : Nat} {rm : Nat × Nat × Nat} {cs : Nat × Nat} {R : f_Rt} {H2 : Int → Int → Prop} {x1 : Int} {x2 : Int} {M : e_M} (C : f_Hy sh t yX12_isDate rm cs 5 (lX12_isDate WX12_byteAt WX12_isDigit WX12_isSmall) R) (g2 : ∀ (x1 : Int) (x2 : Int), H2 x1 x2 → f_E sh t YX12_isDate rm cs (f_Q sh t R) 2 [.inr (.inr (.inl (12, 123, 4456))), .inl x1, .inl x2, .inr (.inr (.inr ()))] [] M) (h : WX12_isDate_45 M H2 (fun r => R (some (.inl r)) M) x1 x2) : f_E sh t YX12_isDate rm cs (f_Q sh t R) 45 [.inr (.inr (.inl (12, 123, 4456))), .inl x1, .inl x2, .inr (.inr (.inr ()))] [] M :=
  BX12_isDate_45 C g2 h
theorem PX12_isDate_27 {sh : Nat → Nat × Nat} {t : Nat} {rm : Nat × Nat × Nat} {cs : Nat × Nat} {R : f_Rt} {H2 : Int → Int → Prop} {x1 : Int} {x2 : Int} {x3 : Int} {M : e_M} (C : f_Hy sh t yX12_isDate rm cs 5 (lX12_isDate WX12_byteAt WX12_isDigit WX12_isSmall) R) (g2 : ∀ (x1 : Int) (x2 : Int), H2 x1 x2 → f_E sh t YX12_isDate rm cs (f_Q sh t R) 2 [.inr (.inr (.inl (12, 123, 4456))), .inl x1, .inl x2, .inr (.inr (.inr ()))] [] M) (h : WX12_isDate_27 M H2 (fun r => R (some (.inl r)) M) x1 x2 x3) : f_E sh t YX12_isDate rm cs (f_Q sh t R) 27 [.inr (.inr (.inl (12, 123, 4456))), .inl x1, .inl x2, .inl x3] [] M :=
  BX12_isDate_27 C (fun x1 x2 h => PX12_isDate_45 C g2 h) h
theorem PX12_isDate_2 {sh : Nat → Nat × Nat} {t : Nat} {rm : Nat × Nat × Nat} {cs : Nat × Nat} {R : f_Rt} {M : e_M} (C : f_Hy sh t yX12_isDate rm cs 5 (lX12_isDate WX12_byteAt WX12_isDigit WX12_isSmall) R) : ∀ (n : Nat) (x1 : Int) (x2 : Int), WX12_isDate_2 M (fun r => R (some (.inl r)) M) n x1 x2 → f_E sh t YX12_isDate rm cs (f_Q sh t R) 2 [.inr (.inr (.inl (12, 123, 4456))), .inl x1, .inl x2, .inr (.inr (.inr ()))] [] M := by
  intro n
  induction n with
  | zero => intro x1 x2 h; exact h.elim
  | succ n ih => intro x1 x2 h; exact BX12_isDate_2 C (fun x1 x2 x3 h => PX12_isDate_27 C ih h) (fun x1 x2 h => PX12_isDate_45 C ih h) h
theorem PX12_isDate {sh : Nat → Nat × Nat} {t : Nat} {rm : Nat × Nat × Nat} {cs : Nat × Nat} {R : f_Rt} {x1 : Int} {M : e_M} (C : f_Hy sh t yX12_isDate rm cs 5 (lX12_isDate WX12_byteAt WX12_isDigit WX12_isSmall) R) (h : WX12_isDate x1 M (fun r => R (some (.inl r)) M)) : f_E sh t YX12_isDate rm cs (f_Q sh t R) 0 [.inr (.inr (.inl (12, 123, 4456))), .inl x1, .inr (.inr (.inr ())), .inr (.inr (.inr ()))] [] M :=
  BX12_isDate C (fun x1 x2 ⟨j, h⟩ => PX12_isDate_2 C j _ _ h) h
def wX12_isDate : f_Wt := f_wm [(4466, 12, 123), (1, 0, 0)] (fun ar M R => WX12_isDate (f_vi (f_nth ar 1)) M (fun r => R (some (.inl r)) M))
theorem TX12_isDate {sh : Nat → Nat × Nat} {t : Nat} : f_Mt sh t YX12_isDate 5 (wX12_isDate) :=
  f_Mt_of (k := 2) (Nat.le_of_ble_eq_true rfl) rfl rfl (fun ar M R rm cs h1 h2 h3 hX h => PX12_isDate ⟨Nat.le_of_ble_eq_true rfl, h1, h2, h3, ⟨(f_Mt.up (Nat.le_of_ble_eq_true rfl) TX12_byteAt), (f_Mt.up (Nat.le_of_ble_eq_true rfl) TX12_isDigit), (f_Mt.up (Nat.le_of_ble_eq_true rfl) TX12_isSmall), trivial⟩, hX⟩ h)
def VX12_digits_5 (c_X12_byteAt : Int → e_M → (Int → Prop) → Prop) (k5 : Int → Int → Int → Int → Prop) (Q : Int → Prop) (x1 : Int) (x2 : Int) (x3 : Int) (x4 : Int) (M : e_M) : Prop :=
  ((x2 ≤ x4 → (Q x3)) ∧ (x4 < x2 → (c_X12_byteAt (e_w32 (x1 + x4)) M (fun r1 => (∀ y2 : Int, y2 = e_w32 ((e_w32 ((e_w32 ((10 : Int) * x3)) + r1)) - 48) → (k5 x1 x2 y2 (e_w32 (x4 + 1))))))))
def VX12_digits (c_X12_byteAt : Int → e_M → (Int → Prop) → Prop) (k5 : Int → Int → Int → Int → Prop) (Q : Int → Prop) (x1 : Int) (x2 : Int) (M : e_M) : Prop :=
  (k5 x1 x2 0 0)
def yX12_digits (i : Nat) : e_Y := x_get YX12_digits [YX12_byteAt] i
def pX12_digitsf : List x_I := [(0, 0, 1, 0, 0, 0, []), (1, 5, 1, 3, 0, 0, []), (2, 0, 1, 0, 0, 0, []), (3, 5, 2, 4, 0, 0, []), (5, 49, 0, 0, 0, 0, []), (5, 2, 2, 4, 0, 0, []), (7, 2, 1, 2, 0, 0, []), (8, 18, 34, 3, 24, 0, []), (11, 0, 2, 0, 0, 10, []), (13, 2, 1, 3, 0, 0, []), (14, 9, 0, 2, 0, 0, []), (15, 4, 1, 0, 0, 0, []), (16, 2, 1, 1, 0, 0, []), (17, 2, 2, 4, 0, 0, []), (19, 9, 0, 0, 0, 0, []), (20, 40, 0, 2, 14, 0, []), (23, 9, 0, 0, 0, 0, []), (24, 0, 2, 0, 0, 48, []), (26, 9, 0, 1, 0, 0, []), (27, 33, 0, 0, 0, 0, []), (27, 5, 1, 3, 0, 0, []), (28, 8, 0, 4, 0, 1, []), (31, 19, 5, 0, 5, 0, []), (34, 2, 1, 3, 0, 0, []), (35, 41, 0, 0, 0, 0, [])]
set_option maxRecDepth 20000 in
theorem qX12_digitsf : f_all yX12_digits YX12_digits pX12_digitsf :=
  ⟨f_iconst (e_dx DX12_digits_0 0 rfl) ⟨by decide, by decide⟩,
  f_istore_n (n := 3) (e_dx DX12_digits_0 1 rfl) rfl (by decide),
  f_iconst (e_dx DX12_digits_0 2 rfl) ⟨by decide, by decide⟩,
  f_istore (e_dx DX12_digits_0 3 rfl) (by decide),
  trivial,
  f_iload (e_dx DX12_digits_0 4 rfl),
  f_iload_n (n := 2) (e_dx DX12_digits_0 5 rfl) rfl,
  f_icmp_ge (e_dx DX12_digits_0 6 rfl) rfl,
  f_bipush (e_dx DX12_digits_0 7 rfl) ⟨by decide, by decide⟩,
  f_iload_n (n := 3) (e_dx DX12_digits_0 8 rfl) rfl,
  f_imul (e_dx DX12_digits_0 9 rfl),
  f_aload_n (n := 0) (e_dx DX12_digits_0 10 rfl) rfl,
  f_iload_n (n := 1) (e_dx DX12_digits_0 11 rfl) rfl,
  f_iload (e_dx DX12_digits_0 12 rfl),
  f_iadd (e_dx DX12_digits_0 13 rfl),
  x_callV (e_dx DX12_digits_0 14 rfl) mwX12_byteAt vwX12_byteAt cX12_291 rfl,
  f_iadd (e_dx DX12_digits_0 15 rfl),
  f_bipush (e_dx DX12_digits_0 16 rfl) ⟨by decide, by decide⟩,
  f_isub (e_dx DX12_digits_0 17 rfl),
  f_g33,
  f_istore_n (n := 3) (e_dx DX12_digits_0 18 rfl) rfl (by decide),
  f_g8 (e_dx DX12_digits_0 19 rfl) ⟨by decide, by decide⟩,
  f_g19 (e_dx DX12_digits_0 20 rfl) rfl,
  f_iload_n (n := 3) (e_dx DX12_digits_0 21 rfl) rfl,
  ⟨(e_dx DX12_digits_0 22 rfl), rfl⟩, trivial⟩
def lX12_digits (c_X12_byteAt : Int → e_M → (Int → Prop) → Prop) : List (Nat × f_Wt) := [(0, f_wm [(4466, 12, 123), (1, 0, 0)] (fun ar M R => c_X12_byteAt (f_vi (f_nth ar 1)) M (fun r => R (some (.inl r)) M)))]
set_option maxRecDepth 20000 in
theorem BX12_digits_5 {sh : Nat → Nat × Nat} {t : Nat} {rm : Nat × Nat × Nat} {cs : Nat × Nat} {R : f_Rt} {c_X12_byteAt : Int → e_M → (Int → Prop) → Prop} {k5 : Int → Int → Int → Int → Prop} {x1 : Int} {x2 : Int} {x3 : Int} {x4 : Int} {M : e_M} (C : f_Hy sh t yX12_digits rm cs 5 (lX12_digits c_X12_byteAt) R) (h5 : ∀ (x1 : Int) (x2 : Int) (x3 : Int) (x4 : Int), k5 x1 x2 x3 x4 → f_E sh t YX12_digits rm cs (f_Q sh t R) 5 [.inr (.inr (.inl (12, 123, 4456))), .inl x1, .inl x2, .inl x3, .inl x4] [] M) (h : VX12_digits_5 c_X12_byteAt k5 (fun r => R (some (.inl r)) M) x1 x2 x3 x4 M) : f_E sh t YX12_digits rm cs (f_Q sh t R) 5 [.inr (.inr (.inl (12, 123, 4456))), .inl x1, .inl x2, .inl x3, .inl x4] [] M := by
  rw [f_kk4 M k5] at h
  exact f_go (KC := f_kc [(5, f_pl [(4466, 12, 123), (1, 0, 0), (1, 0, 0), (1, 0, 0), (1, 0, 0)] [] (fun ls st M2 => M2 = M ∧ (k5 (f_vi (f_nth ls 1)) (f_vi (f_nth ls 2)) (f_vi (f_nth ls 3)) (f_vi (f_nth ls 4)))))]) C qX12_digitsf (f_kc_cons (f_pl_ok rfl (fun ls st M2 ⟨e, hh⟩ => by subst e; exact h5 _ _ _ _ hh)) f_kc_nil) 27 5 h
set_option maxRecDepth 20000 in
theorem BX12_digits {sh : Nat → Nat × Nat} {t : Nat} {rm : Nat × Nat × Nat} {cs : Nat × Nat} {R : f_Rt} {c_X12_byteAt : Int → e_M → (Int → Prop) → Prop} {k5 : Int → Int → Int → Int → Prop} {x1 : Int} {x2 : Int} {M : e_M} (C : f_Hy sh t yX12_digits rm cs 5 (lX12_digits c_X12_byteAt) R) (h5 : ∀ (x1 : Int) (x2 : Int) (x3 : Int) (x4 : Int), k5 x1 x2 x3 x4 → f_E sh t YX12_digits rm cs (f_Q sh t R) 5 [.inr (.inr (.inl (12, 123, 4456))), .inl x1, .inl x2, .inl x3, .inl x4] [] M) (h : VX12_digits c_X12_byteAt k5 (fun r => R (some (.inl r)) M) x1 x2 M) : f_E sh t YX12_digits rm cs (f_Q sh t R) 0 [.inr (.inr (.inl (12, 123, 4456))), .inl x1, .inl x2, .inr (.inr (.inr ())), .inr (.inr (.inr ()))] [] M := by
  rw [f_kk4 M k5] at h
  exact f_go (KC := f_kc [(5, f_pl [(4466, 12, 123), (1, 0, 0), (1, 0, 0), (1, 0, 0), (1, 0, 0)] [] (fun ls st M2 => M2 = M ∧ (k5 (f_vi (f_nth ls 1)) (f_vi (f_nth ls 2)) (f_vi (f_nth ls 3)) (f_vi (f_nth ls 4)))))]) C qX12_digitsf (f_kc_cons (f_pl_ok rfl (fun ls st M2 ⟨e, hh⟩ => by subst e; exact h5 _ _ _ _ hh)) f_kc_nil) 27 0 h
def WX12_digits_5 (M : e_M) (Q : Int → Prop) : Nat → Int → Int → Int → Int → Prop
  | 0, _, _, _, _ => False
  | n + 1, x1, x2, x3, x4 =>
    VX12_digits_5 WX12_byteAt (WX12_digits_5 M Q n) Q x1 x2 x3 x4 M
def WX12_digits (x1 : Int) (x2 : Int) (M : e_M) (Q : Int → Prop) : Prop :=
  VX12_digits WX12_byteAt (fun x1 x2 x3 x4 => ∃ j, WX12_digits_5 M Q j x1 x2 x3 x4) Q x1 x2 M
theorem PX12_digits_5 {sh : Nat → Nat × Nat} {t : Nat} {rm : Nat × Nat × Nat} {cs : Nat × Nat} {R : f_Rt} {M : e_M} (C : f_Hy sh t yX12_digits rm cs 5 (lX12_digits WX12_byteAt) R) : ∀ (n : Nat) (x1 : Int) (x2 : Int) (x3 : Int) (x4 : Int), WX12_digits_5 M (fun r => R (some (.inl r)) M) n x1 x2 x3 x4 → f_E sh t YX12_digits rm cs (f_Q sh t R) 5 [.inr (.inr (.inl (12, 123, 4456))), .inl x1, .inl x2, .inl x3, .inl x4] [] M := by
  intro n
  induction n with
  | zero => intro x1 x2 x3 x4 h; exact h.elim
  | succ n ih => intro x1 x2 x3 x4 h; exact BX12_digits_5 C ih h
theorem PX12_digits {sh : Nat → Nat × Nat} {t : Nat} {rm : Nat × Nat × Nat} {cs : Nat × Nat} {R : f_Rt} {x1 : Int} {x2 : Int} {M : e_M} (C : f_Hy sh t yX12_digits rm cs 5 (lX12_digits WX12_byteAt) R) (h : WX12_digits x1 x2 M (fun r => R (some (.inl r)) M)) : f_E sh t YX12_digits rm cs (f_Q sh t R) 0 [.inr (.inr (.inl (12, 123, 4456))), .inl x1, .inl x2, .inr (.inr (.inr ())), .inr (.inr (.inr ()))] [] M :=
  BX12_digits C (fun x1 x2 x3 x4 ⟨j, h⟩ => PX12_digits_5 C j _ _ _ _ h) h
def wX12_digits : f_Wt := f_wm [(4466, 12, 123), (1, 0, 0), (1, 0, 0)] (fun ar M R => WX12_digits (f_vi (f_nth ar 1)) (f_vi (f_nth ar 2)) M (fun r => R (some (.inl r)) M))
theorem TX12_digits {sh : Nat → Nat × Nat} {t : Nat} : f_Mt sh t YX12_digits 5 (wX12_digits) :=
  f_Mt_of (k := 2) (Nat.le_of_ble_eq_true rfl) rfl rfl (fun ar M R rm cs h1 h2 h3 hX h => PX12_digits ⟨Nat.le_of_ble_eq_true rfl, h1, h2, h3, ⟨(f_Mt.up (Nat.le_of_ble_eq_true rfl) TX12_byteAt), trivial⟩, hX⟩ h)
def VX12_run_9 (c_X12_byteAt : Int → e_M → (Int → Prop) → Prop) (c_X12_isSmall : Int → e_M → (Int → Prop) → Prop) (c_X12_isDigit : Int → e_M → (Int → Prop) → Prop) (c_X12_digits : Int → Int → e_M → (Int → Prop) → Prop) (k41 : Int → Int → Int → e_M → Prop) (k130 : Int → Int → e_M → Prop) (k123 : Int → Int → Int → Int → e_M → Prop) (Q : e_M → Prop) (x1 : Int) (x2 : Int) (x3 : Int) (M : e_M) : Prop :=
  (c_X12_byteAt (e_w32 ((M 4456 6) + x2)) M (fun r1 => (c_X12_isSmall r1 M (fun r2 => ((¬ r2 = 0 → (k41 x1 x2 x3 M)) ∧ (r2 = 0 → (c_X12_byteAt (e_w32 ((M 4456 6) + x2)) M (fun r3 => (c_X12_isDigit r3 M (fun r4 => ((r4 = 0 → ((x3 = 0 → (k130 x1 x2 M)) ∧ (¬ x3 = 0 → ((x1 = 0 → (k123 x1 x2 8 x2 M)) ∧ (¬ x1 = 0 → (k123 x1 x2 6 x2 M)))))) ∧ (¬ r4 = 0 → (k41 x1 x2 x3 M)))))))))))))
def VX12_run_41 (c_X12_byteAt : Int → e_M → (Int → Prop) → Prop) (c_X12_isSmall : Int → e_M → (Int → Prop) → Prop) (c_X12_isDigit : Int → e_M → (Int → Prop) → Prop) (c_X12_digits : Int → Int → e_M → (Int → Prop) → Prop) (k73 : Int → Int → Int → e_M → Prop) (k69 : Int → Int → Int → e_M → Prop) (Q : e_M → Prop) (x1 : Int) (x2 : Int) (x3 : Int) (M : e_M) : Prop :=
  (c_X12_byteAt (e_w32 ((M 4456 6) + x2)) M (fun r1 => ((x3 = 0 → (k73 x1 x2 r1 M)) ∧ (¬ x3 = 0 → ((x1 = 0 → (k69 x1 x2 r1 M)) ∧ (¬ x1 = 0 → (c_X12_isDigit r1 M (fun r2 => ((r2 = 0 → (k73 x1 x2 r1 M)) ∧ (¬ r2 = 0 → (k69 x1 x2 r1 M)))))))))))
def VX12_run_69 (c_X12_byteAt : Int → e_M → (Int → Prop) → Prop) (c_X12_isSmall : Int → e_M → (Int → Prop) → Prop) (c_X12_isDigit : Int → e_M → (Int → Prop) → Prop) (c_X12_digits : Int → Int → e_M → (Int → Prop) → Prop) (k74 : Int → Int → Int → Int → e_M → Prop) (Q : e_M → Prop) (x1 : Int) (x2 : Int) (x4 : Int) (M : e_M) : Prop :=
  (k74 x1 x2 x4 1 M)
def VX12_run_73 (c_X12_byteAt : Int → e_M → (Int → Prop) → Prop) (c_X12_isSmall : Int → e_M → (Int → Prop) → Prop) (c_X12_isDigit : Int → e_M → (Int → Prop) → Prop) (c_X12_digits : Int → Int → e_M → (Int → Prop) → Prop) (k74 : Int → Int → Int → Int → e_M → Prop) (Q : e_M → Prop) (x1 : Int) (x2 : Int) (x4 : Int) (M : e_M) : Prop :=
  (k74 x1 x2 x4 0 M)
def VX12_run_74 (c_X12_byteAt : Int → e_M → (Int → Prop) → Prop) (c_X12_isSmall : Int → e_M → (Int → Prop) → Prop) (c_X12_isDigit : Int → e_M → (Int → Prop) → Prop) (c_X12_digits : Int → Int → e_M → (Int → Prop) → Prop) (k101 : Int → Int → Int → e_M → Prop) (Q : e_M → Prop) (x1 : Int) (x2 : Int) (x4 : Int) (xs0 : Int) (M : e_M) : Prop :=
  ((8 ≤ x2 → (k101 x1 x2 xs0 M)) ∧ (x2 < 8 → (∀ M1 : e_M, M1 = e_up M 4456 11 (f_orJ (M 4456 11) (f_shlJ x4 (e_w32 ((56 : Int) - (e_w32 ((8 : Int) * x2)))))) → (k101 x1 x2 xs0 M1))))
def VX12_run_101 (c_X12_byteAt : Int → e_M → (Int → Prop) → Prop) (c_X12_isSmall : Int → e_M → (Int → Prop) → Prop) (c_X12_isDigit : Int → e_M → (Int → Prop) → Prop) (c_X12_digits : Int → Int → e_M → (Int → Prop) → Prop) (k9 : Int → Int → Int → e_M → Prop) (Q : e_M → Prop) (x1 : Int) (x2 : Int) (x3 : Int) (M : e_M) : Prop :=
  (k9 x1 (e_w32 (x2 + 1)) x3 M)
def VX12_run_123 (c_X12_byteAt : Int → e_M → (Int → Prop) → Prop) (c_X12_isSmall : Int → e_M → (Int → Prop) → Prop) (c_X12_isDigit : Int → e_M → (Int → Prop) → Prop) (c_X12_digits : Int → Int → e_M → (Int → Prop) → Prop) (k130 : Int → Int → e_M → Prop) (k131 : Int → Int → Int → e_M → Prop) (Q : e_M → Prop) (x1 : Int) (x2 : Int) (xs1 : Int) (xs0 : Int) (M : e_M) : Prop :=
  ((xs1 < xs0 → (k130 x1 x2 M)) ∧ (xs0 ≤ xs1 → (k131 x1 x2 1 M)))
def VX12_run_130 (c_X12_byteAt : Int → e_M → (Int → Prop) → Prop) (c_X12_isSmall : Int → e_M → (Int → Prop) → Prop) (c_X12_isDigit : Int → e_M → (Int → Prop) → Prop) (c_X12_digits : Int → Int → e_M → (Int → Prop) → Prop) (k131 : Int → Int → Int → e_M → Prop) (Q : e_M → Prop) (x1 : Int) (x2 : Int) (M : e_M) : Prop :=
  (k131 x1 x2 0 M)
def VX12_run_131 (c_X12_byteAt : Int → e_M → (Int → Prop) → Prop) (c_X12_isSmall : Int → e_M → (Int → Prop) → Prop) (c_X12_isDigit : Int → e_M → (Int → Prop) → Prop) (c_X12_digits : Int → Int → e_M → (Int → Prop) → Prop) (k150 : Int → Int → Int → Int → e_M → Prop) (Q : e_M → Prop) (x1 : Int) (x2 : Int) (xs0 : Int) (M : e_M) : Prop :=
  ((¬ xs0 = 0 → ((x1 = 0 → (k150 x1 x2 xs0 3 M)) ∧ (¬ x1 = 0 → (k150 x1 x2 xs0 2 M)))) ∧ (xs0 = 0 → (k150 x1 x2 xs0 5 M)))
def VX12_run_150 (c_X12_byteAt : Int → e_M → (Int → Prop) → Prop) (c_X12_isSmall : Int → e_M → (Int → Prop) → Prop) (c_X12_isDigit : Int → e_M → (Int → Prop) → Prop) (c_X12_digits : Int → Int → e_M → (Int → Prop) → Prop) (k174 : Int → Int → Int → e_M → Prop) (Q : e_M → Prop) (x1 : Int) (x2 : Int) (x3 : Int) (xs1 : Int) (M : e_M) : Prop :=
  (∀ M1 : e_M, M1 = e_up M 4456 7 xs1 → ((x3 = 0 → (k174 x1 x2 x3 M1)) ∧ (¬ x3 = 0 → ((x1 = 0 → (k174 x1 x2 x3 M1)) ∧ (¬ x1 = 0 → (c_X12_digits (M1 4456 6) x2 M1 (fun r2 => (∀ M3 : e_M, M3 = e_up M1 4456 9 r2 → (k174 x1 x2 x3 M3)))))))))
def VX12_run_174 (c_X12_byteAt : Int → e_M → (Int → Prop) → Prop) (c_X12_isSmall : Int → e_M → (Int → Prop) → Prop) (c_X12_isDigit : Int → e_M → (Int → Prop) → Prop) (c_X12_digits : Int → Int → e_M → (Int → Prop) → Prop) (k219 : Int → e_M → Prop) (k185 : Int → Int → e_M → Prop) (Q : e_M → Prop) (x1 : Int) (x2 : Int) (x3 : Int) (M : e_M) : Prop :=
  ((x3 = 0 → (k219 x2 M)) ∧ (¬ x3 = 0 → ((¬ x1 = 0 → (k219 x2 M)) ∧ (x1 = 0 → (k185 x2 0 M)))))
def VX12_run_185 (c_X12_byteAt : Int → e_M → (Int → Prop) → Prop) (c_X12_isSmall : Int → e_M → (Int → Prop) → Prop) (c_X12_isDigit : Int → e_M → (Int → Prop) → Prop) (c_X12_digits : Int → Int → e_M → (Int → Prop) → Prop) (k219 : Int → e_M → Prop) (k213 : Int → Int → e_M → Prop) (Q : e_M → Prop) (x2 : Int) (x4 : Int) (M : e_M) : Prop :=
  ((71 ≤ x4 → (k219 x2 M)) ∧ (x4 < 71 → ((0 ≤ x4 ∧ x4 < 71) ∧ ((¬ (M 4459 (x4.toNat)) = (M 4456 11) → (k213 x2 x4 M)) ∧ ((M 4459 (x4.toNat)) = (M 4456 11) → (∀ M1 : e_M, M1 = e_up M 4456 10 x4 → (k213 x2 x4 M1)))))))
def VX12_run_213 (c_X12_byteAt : Int → e_M → (Int → Prop) → Prop) (c_X12_isSmall : Int → e_M → (Int → Prop) → Prop) (c_X12_isDigit : Int → e_M → (Int → Prop) → Prop) (c_X12_digits : Int → Int → e_M → (Int → Prop) → Prop) (k185 : Int → Int → e_M → Prop) (Q : e_M → Prop) (x2 : Int) (x4 : Int) (M : e_M) : Prop :=
  (k185 x2 (e_w32 (x4 + 1)) M)
def VX12_run_219 (c_X12_byteAt : Int → e_M → (Int → Prop) → Prop) (c_X12_isSmall : Int → e_M → (Int → Prop) → Prop) (c_X12_isDigit : Int → e_M → (Int → Prop) → Prop) (c_X12_digits : Int → Int → e_M → (Int → Prop) → Prop) (Q : e_M → Prop) (x2 : Int) (M : e_M) : Prop :=
  (∀ M1 : e_M, M1 = e_up M 4456 6 (e_w32 ((M 4456 6) + x2)) → (Q M1))
def VX12_run (c_X12_byteAt : Int → e_M → (Int → Prop) → Prop) (c_X12_isSmall : Int → e_M → (Int → Prop) → Prop) (c_X12_isDigit : Int → e_M → (Int → Prop) → Prop) (c_X12_digits : Int → Int → e_M → (Int → Prop) → Prop) (k9 : Int → Int → Int → e_M → Prop) (Q : e_M → Prop) (x1 : Int) (M : e_M) : Prop :=
  (∀ M1 : e_M, M1 = e_up M 4456 11 0 → (k9 x1 0 1 M1))
def yX12_run (i : Nat) : e_Y := x_get YX12_run [YX12_byteAt, YX12_isSmall, YX12_isDigit, YX12_digits] i
def pX12_runf : List x_I := [(0, 0, 1, 0, 0, 0, []), (1, 5, 1, 2, 0, 0, []), (2, 0, 1, 0, 0, 1, []), (3, 5, 1, 3, 0, 0, []), (4, 4, 1, 0, 0, 0, []), (5, 1, 1, 0, 0, 0, []), (6, 26, 12, 11, 3, 0, []), (9, 49, 0, 0, 0, 0, []), (9, 4, 1, 0, 0, 0, []), (10, 4, 1, 0, 0, 0, []), (11, 25, 12, 6, 0, 0, []), (14, 2, 1, 2, 0, 0, []), (15, 9, 0, 0, 0, 0, []), (16, 40, 0, 2, 14, 0, []), (19, 40, 1, 1, 0, 0, []), (22, 17, 41, 1, 25, 0, []), (25, 4, 1, 0, 0, 0, []), (26, 4, 1, 0, 0, 0, []), (27, 25, 12, 6, 0, 0, []), (30, 2, 1, 2, 0, 0, []), (31, 9, 0, 0, 0, 0, []), (32, 40, 0, 2, 14, 0, []), (35, 40, 2, 1, 0, 0, []), (38, 17, 107, 0, 66, 0, []), (41, 49, 0, 0, 0, 0, []), (41, 4, 1, 0, 0, 0, []), (42, 4, 1, 0, 0, 0, []), (43, 25, 12, 6, 0, 0, []), (46, 2, 1, 2, 0, 0, []), (47, 9, 0, 0, 0, 0, []), (48, 40, 0, 2, 14, 0, []), (51, 5, 2, 4, 0, 0, []), (53, 2, 1, 3, 0, 0, []), (54, 17, 73, 0, 43, 0, []), (57, 2, 1, 1, 0, 0, []), (58, 17, 69, 0, 40, 0, []), (61, 2, 2, 4, 0, 0, []), (63, 40, 2, 1, 0, 0, []), (66, 17, 73, 0, 43, 0, []), (69, 49, 0, 0, 0, 0, []), (69, 0, 1, 0, 0, 1, []), (70, 19, 74, 0, 45, 0, []), (73, 49, 0, 0, 0, 0, []), (73, 0, 1, 0, 0, 0, []), (74, 49, 0, 0, 0, 0, []), (74, 5, 1, 3, 0, 0, []), (75, 2, 1, 2, 0, 0, []), (76, 0, 2, 0, 0, 8, []), (78, 18, 101, 3, 63, 0, []), (81, 4, 1, 0, 0, 0, []), (82, 20, 0, 0, 0, 0, []), (83, 25, 12, 11, 3, 0, []), (86, 2, 2, 4, 0, 0, []), (88, 14, 0, 0, 0, 0, []), (89, 0, 2, 0, 0, 56, []), (91, 0, 2, 0, 0, 8, []), (93, 2, 1, 2, 0, 0, []), (94, 9, 0, 2, 0, 0, []), (95, 9, 0, 1, 0, 0, []), (96, 11, 0, 0, 0, 0, []), (97, 10, 0, 6, 0, 0, []), (98, 26, 12, 11, 3, 0, []), (101, 49, 0, 0, 0, 0, []), (101, 8, 0, 2, 0, 1, []), (104, 19, 9, 0, 8, 0, []), (107, 2, 1, 3, 0, 0, []), (108, 17, 130, 0, 78, 0, []), (111, 2, 1, 2, 0, 0, []), (112, 2, 1, 1, 0, 0, []), (113, 17, 121, 0, 73, 0, []), (116, 0, 2, 0, 0, 6, []), (118, 19, 123, 0, 74, 0, []), (121, 0, 2, 0, 0, 8, []), (123, 49, 0, 0, 0, 0, []), (123, 18, 130, 4, 78, 0, []), (126, 0, 1, 0, 0, 1, []), (127, 19, 131, 0, 80, 0, []), (130, 49, 0, 0, 0, 0, []), (130, 0, 1, 0, 0, 0, []), (131, 49, 0, 0, 0, 0, []), (131, 5, 1, 3, 0, 0, []), (132, 4, 1, 0, 0, 0, []), (133, 2, 1, 3, 0, 0, []), (134, 17, 141, 1, 87, 0, []), (137, 0, 1, 0, 0, 5, []), (138, 19, 150, 0, 92, 0, []), (141, 2, 1, 1, 0, 0, []), (142, 17, 149, 0, 91, 0, []), (145, 0, 1, 0, 0, 2, []), (146, 19, 150, 0, 92, 0, []), (149, 0, 1, 0, 0, 3, []), (150, 49, 0, 0, 0, 0, []), (150, 26, 12, 7, 0, 0, []), (153, 2, 1, 3, 0, 0, []), (154, 17, 174, 0, 105, 0, []), (157, 2, 1, 1, 0, 0, []), (158, 17, 174, 0, 105, 0, []), (161, 4, 1, 0, 0, 0, []), (162, 4, 1, 0, 0, 0, []), (163, 4, 1, 0, 0, 0, []), (164, 25, 12, 6, 0, 0, []), (167, 2, 1, 2, 0, 0, []), (168, 40, 3, 3, 14, 0, []), (171, 26, 12, 9, 0, 0, []), (174, 49, 0, 0, 0, 0, []), (174, 2, 1, 3, 0, 0, []), (175, 17, 219, 0, 129, 0, []), (178, 2, 1, 1, 0, 0, []), (179, 17, 219, 1, 129, 0, []), (182, 0, 1, 0, 0, 0, []), (183, 5, 2, 4, 0, 0, []), (185, 49, 0, 0, 0, 0, []), (185, 2, 2, 4, 0, 0, []), (187, 0, 2, 0, 0, 71, []), (189, 18, 219, 3, 129, 0, []), (192, 4, 1, 0, 0, 0, []), (193, 25, 12, 2, 4, 0, [(0, 23, 71), (0, 1, 3)]), (196, 2, 2, 4, 0, 0, []), (198, 27, 0, 1, 0, 0, []), (199, 4, 1, 0, 0, 0, []), (200, 25, 12, 11, 3, 0, []), (203, 32, 213, 1, 126, 0, []), (207, 4, 1, 0, 0, 0, []), (208, 2, 2, 4, 0, 0, []), (210, 26, 12, 10, 0, 0, []), (213, 49, 0, 0, 0, 0, []), (213, 8, 0, 4, 0, 1, []), (216, 19, 185, 0, 112, 0, []), (219, 49, 0, 0, 0, 0, []), (219, 4, 1, 0, 0, 0, []), (220, 20, 0, 0, 0, 0, []), (221, 25, 12, 6, 0, 0, []), (224, 2, 1, 2, 0, 0, []), (225, 9, 0, 0, 0, 0, []), (226, 26, 12, 6, 0, 0, []), (229, 44, 0, 0, 0, 0, [])]
set_option maxRecDepth 20000 in
theorem qX12_runf : f_all yX12_run YX12_run pX12_runf :=
  ⟨f_iconst (e_dx DX12_run_0 0 rfl) ⟨by decide, by decide⟩,
  f_istore_n (n := 2) (e_dx DX12_run_0 1 rfl) rfl (by decide),
  f_iconst (e_dx DX12_run_0 2 rfl) ⟨by decide, by decide⟩,
  f_istore_n (n := 3) (e_dx DX12_run_0 3 rfl) rfl (by decide),
  f_aload_n (n := 0) (e_dx DX12_run_0 4 rfl) rfl,
  f_lconst (n := 0) (e_dx DX12_run_0 5 rfl) rfl,
  f_putn (e_dx DX12_run_0 6 rfl) fX12_332 (fun q hq => by cases hq; rfl) rfl (Or.inr (Or.inr rfl)) (by decide),
  trivial,
  f_aload_n (n := 0) (e_dx DX12_run_0 7 rfl) rfl,
  f_aload_n (n := 0) (e_dx DX12_run_0 8 rfl) rfl,
  f_getf (e_dx DX12_run_0 9 rfl) fX12_300 rfl (by decide) (by decide) (by decide),
  f_iload_n (n := 2) (e_dx DX12_run_0 10 rfl) rfl,
  f_iadd (e_dx DX12_run_0 11 rfl),
  x_callV (e_dx DX12_run_0 12 rfl) mwX12_byteAt vwX12_byteAt cX12_291 rfl,
  x_callS (e_dx DX12_run_0 13 rfl) mwX12_isSmall cX12_297 swX12_isSmall rfl,
  f_if_ne (e_dx DX12_run_0 14 rfl) rfl,
  f_aload_n (n := 0) (e_dx DX12_run_0 15 rfl) rfl,
  f_aload_n (n := 0) (e_dx DX12_run_0 16 rfl) rfl,
  f_getf (e_dx DX12_run_0 17 rfl) fX12_300 rfl (by decide) (by decide) (by decide),
  f_iload_n (n := 2) (e_dx DX12_run_0 18 rfl) rfl,
  f_iadd (e_dx DX12_run_0 19 rfl),
  x_callV (e_dx DX12_run_0 20 rfl) mwX12_byteAt vwX12_byteAt cX12_291 rfl,
  x_callS (e_dx DX12_run_0 21 rfl) mwX12_isDigit cX12_294 swX12_isDigit rfl,
  f_if_eq (e_dx DX12_run_0 22 rfl) rfl,
  trivial,
  f_aload_n (n := 0) (e_dx DX12_run_0 23 rfl) rfl,
  f_aload_n (n := 0) (e_dx DX12_run_0 24 rfl) rfl,
  f_getf (e_dx DX12_run_0 25 rfl) fX12_300 rfl (by decide) (by decide) (by decide),
  f_iload_n (n := 2) (e_dx DX12_run_0 26 rfl) rfl,
  f_iadd (e_dx DX12_run_0 27 rfl),
  x_callV (e_dx DX12_run_0 28 rfl) mwX12_byteAt vwX12_byteAt cX12_291 rfl,
  f_istore (e_dx DX12_run_0 29 rfl) (by decide),
  f_iload_n (n := 3) (e_dx DX12_run_0 30 rfl) rfl,
  f_if_eq (e_dx DX12_run_0 31 rfl) rfl,
  f_iload_n (n := 1) (e_dx DX12_run_0 32 rfl) rfl,
  f_if_eq (e_dx DX12_run_0 33 rfl) rfl,
  f_iload (e_dx DX12_run_0 34 rfl),
  x_callS (e_dx DX12_run_0 35 rfl) mwX12_isDigit cX12_294 swX12_isDigit rfl,
  f_if_eq (e_dx DX12_run_0 36 rfl) rfl,
  trivial,
  f_iconst (e_dx DX12_run_0 37 rfl) ⟨by decide, by decide⟩,
  f_g19 (e_dx DX12_run_0 38 rfl) rfl,
  trivial,
  f_iconst (e_dx DX12_run_0 39 rfl) ⟨by decide, by decide⟩,
  trivial,
  f_istore_n (n := 3) (e_dx DX12_run_1 0 rfl) rfl (by decide),
  f_iload_n (n := 2) (e_dx DX12_run_1 1 rfl) rfl,
  f_bipush (e_dx DX12_run_1 2 rfl) ⟨by decide, by decide⟩,
  f_icmp_ge (e_dx DX12_run_1 3 rfl) rfl,
  f_aload_n (n := 0) (e_dx DX12_run_1 4 rfl) rfl,
  f_g20 (e_dx DX12_run_1 5 rfl),
  f_getL (e_dx DX12_run_1 6 rfl) fX12_332 rfl (by decide),
  f_iload (e_dx DX12_run_1 7 rfl),
  f_g14 (e_dx DX12_run_1 8 rfl),
  f_bipush (e_dx DX12_run_1 9 rfl) ⟨by decide, by decide⟩,
  f_bipush (e_dx DX12_run_1 10 rfl) ⟨by decide, by decide⟩,
  f_iload_n (n := 2) (e_dx DX12_run_1 11 rfl) rfl,
  f_imul (e_dx DX12_run_1 12 rfl),
  f_isub (e_dx DX12_run_1 13 rfl),
  f_lshl (e_dx DX12_run_1 14 rfl),
  f_lor (e_dx DX12_run_1 15 rfl),
  f_putn (e_dx DX12_run_1 16 rfl) fX12_332 (fun q hq => by cases hq; rfl) rfl (Or.inr (Or.inr rfl)) (by decide),
  trivial,
  f_g8 (e_dx DX12_run_1 17 rfl) ⟨by decide, by decide⟩,
  f_g19 (e_dx DX12_run_1 18 rfl) rfl,
  f_iload_n (n := 3) (e_dx DX12_run_1 19 rfl) rfl,
  f_if_eq (e_dx DX12_run_1 20 rfl) rfl,
  f_iload_n (n := 2) (e_dx DX12_run_1 21 rfl) rfl,
  f_iload_n (n := 1) (e_dx DX12_run_1 22 rfl) rfl,
  f_if_eq (e_dx DX12_run_1 23 rfl) rfl,
  f_bipush (e_dx DX12_run_1 24 rfl) ⟨by decide, by decide⟩,
  f_g19 (e_dx DX12_run_1 25 rfl) rfl,
  f_bipush (e_dx DX12_run_1 26 rfl) ⟨by decide, by decide⟩,
  trivial,
  f_icmp_gt (e_dx DX12_run_1 27 rfl) rfl,
  f_iconst (e_dx DX12_run_1 28 rfl) ⟨by decide, by decide⟩,
  f_g19 (e_dx DX12_run_1 29 rfl) rfl,
  trivial,
  f_iconst (e_dx DX12_run_1 30 rfl) ⟨by decide, by decide⟩,
  trivial,
  f_istore_n (n := 3) (e_dx DX12_run_1 31 rfl) rfl (by decide),
  f_aload_n (n := 0) (e_dx DX12_run_1 32 rfl) rfl,
  f_iload_n (n := 3) (e_dx DX12_run_1 33 rfl) rfl,
  f_if_ne (e_dx DX12_run_1 34 rfl) rfl,
  f_iconst (e_dx DX12_run_1 35 rfl) ⟨by decide, by decide⟩,
  f_g19 (e_dx DX12_run_1 36 rfl) rfl,
  f_iload_n (n := 1) (e_dx DX12_run_1 37 rfl) rfl,
  f_if_eq (e_dx DX12_run_1 38 rfl) rfl,
  f_iconst (e_dx DX12_run_1 39 rfl) ⟨by decide, by decide⟩,
  f_g19 (e_dx DX12_run_2 0 rfl) rfl,
  f_iconst (e_dx DX12_run_2 1 rfl) ⟨by decide, by decide⟩,
  trivial,
  f_putn (e_dx DX12_run_2 2 rfl) fX12_309 (fun q hq => by cases hq; rfl) rfl (Or.inl rfl) (by decide),
  f_iload_n (n := 3) (e_dx DX12_run_2 3 rfl) rfl,
  f_if_eq (e_dx DX12_run_2 4 rfl) rfl,
  f_iload_n (n := 1) (e_dx DX12_run_2 5 rfl) rfl,
  f_if_eq (e_dx DX12_run_2 6 rfl) rfl,
  f_aload_n (n := 0) (e_dx DX12_run_2 7 rfl) rfl,
  f_aload_n (n := 0) (e_dx DX12_run_2 8 rfl) rfl,
  f_aload_n (n := 0) (e_dx DX12_run_2 9 rfl) rfl,
  f_getf (e_dx DX12_run_2 10 rfl) fX12_300 rfl (by decide) (by decide) (by decide),
  f_iload_n (n := 2) (e_dx DX12_run_2 11 rfl) rfl,
  x_callV (e_dx DX12_run_2 12 rfl) mwX12_digits vwX12_digits cX12_315 rfl,
  f_putn (e_dx DX12_run_2 13 rfl) fX12_321 (fun q hq => by cases hq; rfl) rfl (Or.inl rfl) (by decide),
  trivial,
  f_iload_n (n := 3) (e_dx DX12_run_2 14 rfl) rfl,
  f_if_eq (e_dx DX12_run_2 15 rfl) rfl,
  f_iload_n (n := 1) (e_dx DX12_run_2 16 rfl) rfl,
  f_if_ne (e_dx DX12_run_2 17 rfl) rfl,
  f_iconst (e_dx DX12_run_2 18 rfl) ⟨by decide, by decide⟩,
  f_istore (e_dx DX12_run_2 19 rfl) (by decide),
  trivial,
  f_iload (e_dx DX12_run_2 20 rfl),
  f_bipush (e_dx DX12_run_2 21 rfl) ⟨by decide, by decide⟩,
  f_icmp_ge (e_dx DX12_run_2 22 rfl) rfl,
  f_aload_n (n := 0) (e_dx DX12_run_2 23 rfl) rfl,
  f_getA (e_dx DX12_run_2 24 rfl) fX12_16 rfl (by decide) (Nat.le_of_ble_eq_true rfl) rfl (by decide),
  f_iload (e_dx DX12_run_2 25 rfl),
  f_laload (e_dx DX12_run_2 26 rfl),
  f_aload_n (n := 0) (e_dx DX12_run_2 27 rfl) rfl,
  f_getL (e_dx DX12_run_2 28 rfl) fX12_332 rfl (by decide),
  f_lif_ne (e_dx DX12_run_2 29 rfl) (e_dx DX12_run_2 30 rfl) rfl,
  f_aload_n (n := 0) (e_dx DX12_run_2 31 rfl) rfl,
  f_iload (e_dx DX12_run_2 32 rfl),
  f_putn (e_dx DX12_run_2 33 rfl) fX12_306 (fun q hq => by cases hq; rfl) rfl (Or.inl rfl) (by decide),
  trivial,
  f_g8 (e_dx DX12_run_2 34 rfl) ⟨by decide, by decide⟩,
  f_g19 (e_dx DX12_run_2 35 rfl) rfl,
  trivial,
  f_aload_n (n := 0) (e_dx DX12_run_2 36 rfl) rfl,
  f_g20 (e_dx DX12_run_2 37 rfl),
  f_getf (e_dx DX12_run_2 38 rfl) fX12_300 rfl (by decide) (by decide) (by decide),
  f_iload_n (n := 2) (e_dx DX12_run_2 39 rfl) rfl,
  f_iadd (e_dx DX12_run_3 0 rfl),
  f_putn (e_dx DX12_run_3 1 rfl) fX12_300 (fun q hq => by cases hq; rfl) rfl (Or.inl rfl) (by decide),
  ⟨(e_dx DX12_run_3 2 rfl), rfl⟩, trivial⟩
def lX12_run (c_X12_byteAt : Int → e_M → (Int → Prop) → Prop) (c_X12_isSmall : Int → e_M → (Int → Prop) → Prop) (c_X12_isDigit : Int → e_M → (Int → Prop) → Prop) (c_X12_digits : Int → Int → e_M → (Int → Prop) → Prop) : List (Nat × f_Wt) := [(0, f_wm [(4466, 12, 123), (1, 0, 0)] (fun ar M R => c_X12_byteAt (f_vi (f_nth ar 1)) M (fun r => R (some (.inl r)) M))), (1, f_wm [(1, 0, 0)] (fun ar M R => c_X12_isSmall (f_vi (f_nth ar 0)) M (fun r => R (some (.inl r)) M))), (2, f_wm [(1, 0, 0)] (fun ar M R => c_X12_isDigit (f_vi (f_nth ar 0)) M (fun r => R (some (.inl r)) M))), (3, f_wm [(4466, 12, 123), (1, 0, 0), (1, 0, 0)] (fun ar M R => c_X12_digits (f_vi (f_nth ar 1)) (f_vi (f_nth ar 2)) M (fun r => R (some (.inl r)) M)))]
set_option maxRecDepth 20000 in
theorem BX12_run_9 {sh : Nat → Nat × Nat} {t : Nat} {rm : Nat × Nat × Nat} {cs : Nat × Nat} {R : f_Rt} {c_X12_byteAt : Int → e_M → (Int → Prop) → Prop} {c_X12_isSmall : Int → e_M → (Int → Prop) → Prop} {c_X12_isDigit : Int → e_M → (Int → Prop) → Prop} {c_X12_digits : Int → Int → e_M → (Int → Prop) → Prop} {k41 : Int → Int → Int → e_M → Prop} {k130 : Int → Int → e_M → Prop} {k123 : Int → Int → Int → Int → e_M → Prop} {x1 : Int} {x2 : Int} {x3 : Int} {M : e_M} (C : f_Hy sh t yX12_run rm cs 6 (lX12_run c_X12_byteAt c_X12_isSmall c_X12_isDigit c_X12_digits) R) (h41 : ∀ (x1 : Int) (x2 : Int) (x3 : Int) (M : e_M), k41 x1 x2 x3 M → f_E sh t YX12_run rm cs (f_Q sh t R) 41 [.inr (.inr (.inl (12, 123, 4456))), .inl x1, .inl x2, .inl x3, .inr (.inr (.inr ()))] [] M) (h130 : ∀ (x1 : Int) (x2 : Int) (M : e_M), k130 x1 x2 M → f_E sh t YX12_run rm cs (f_Q sh t R) 130 [.inr (.inr (.inl (12, 123, 4456))), .inl x1, .inl x2, .inr (.inr (.inr ())), .inr (.inr (.inr ()))] [] M) (h123 : ∀ (x1 : Int) (x2 : Int) (xs1 : Int) (xs0 : Int) (M : e_M), k123 x1 x2 xs1 xs0 M → f_E sh t YX12_run rm cs (f_Q sh t R) 123 [.inr (.inr (.inl (12, 123, 4456))), .inl x1, .inl x2, .inr (.inr (.inr ())), .inr (.inr (.inr ()))] [.inl xs1, .inl xs0] M) (h : VX12_run_9 c_X12_byteAt c_X12_isSmall c_X12_isDigit c_X12_digits k41 k130 k123 (fun M => R none M) x1 x2 x3 M) : f_E sh t YX12_run rm cs (f_Q sh t R) 9 [.inr (.inr (.inl (12, 123, 4456))), .inl x1, .inl x2, .inl x3, .inr (.inr (.inr ()))] [] M :=
  f_go (KC := f_kc [(41, f_pl [(4466, 12, 123), (1, 0, 0), (1, 0, 0), (1, 0, 0), (0, 0, 0)] [] (fun ls st M => k41 (f_vi (f_nth ls 1)) (f_vi (f_nth ls 2)) (f_vi (f_nth ls 3)) M)), (130, f_pl [(4466, 12, 123), (1, 0, 0), (1, 0, 0), (0, 0, 0), (0, 0, 0)] [] (fun ls st M => k130 (f_vi (f_nth ls 1)) (f_vi (f_nth ls 2)) M)), (123, f_pl [(4466, 12, 123), (1, 0, 0), (1, 0, 0), (0, 0, 0), (0, 0, 0)] [(1, 0, 0), (1, 0, 0)] (fun ls st M => k123 (f_vi (f_nth ls 1)) (f_vi (f_nth ls 2)) (f_vi (f_nth st 0)) (f_vi (f_nth st 1)) M))]) C qX12_runf (f_kc_cons (f_pl_ok rfl (fun ls st M h => h41 _ _ _ M h)) (f_kc_cons (f_pl_ok rfl (fun ls st M h => h130 _ _ M h)) (f_kc_cons (f_pl_ok rfl (fun ls st M h => h123 _ _ _ _ M h)) f_kc_nil))) 138 8 h
set_option maxRecDepth 20000 in
theorem BX12_run_41 {sh : Nat → Nat × Nat} {t : Nat} {rm : Nat × Nat × Nat} {cs : Nat × Nat} {R : f_Rt} {c_X12_byteAt : Int → e_M → (Int → Prop) → Prop} {c_X12_isSmall : Int → e_M → (Int → Prop) → Prop} {c_X12_isDigit : Int → e_M → (Int → Prop) → Prop} {c_X12_digits : Int → Int → e_M → (Int → Prop) → Prop} {k73 : Int → Int → Int → e_M → Prop} {k69 : Int → Int → Int → e_M → Prop} {x1 : Int} {x2 : Int} {x3 : Int} {M : e_M} (C : f_Hy sh t yX12_run rm cs 6 (lX12_run c_X12_byteAt c_X12_isSmall c_X12_isDigit c_X12_digits) R) (h73 : ∀ (x1 : Int) (x2 : Int) (x4 : Int) (M : e_M), k73 x1 x2 x4 M → f_E sh t YX12_run rm cs (f_Q sh t R) 73 [.inr (.inr (.inl (12, 123, 4456))), .inl x1, .inl x2, .inr (.inr (.inr ())), .inl x4] [] M) (h69 : ∀ (x1 : Int) (x2 : Int) (x4 : Int) (M : e_M), k69 x1 x2 x4 M → f_E sh t YX12_run rm cs (f_Q sh t R) 69 [.inr (.inr (.inl (12, 123, 4456))), .inl x1, .inl x2, .inr (.inr (.inr ())), .inl x4] [] M) (h : VX12_run_41 c_X12_byteAt c_X12_isSmall c_X12_isDigit c_X12_digits k73 k69 (fun M => R none M) x1 x2 x3 M) : f_E sh t YX12_run rm cs (f_Q sh t R) 41 [.inr (.inr (.inl (12, 123, 4456))), .inl x1, .inl x2, .inl x3, .inr (.inr (.inr ()))] [] M :=
  f_go (KC := f_kc [(73, f_pl [(4466, 12, 123), (1, 0, 0), (1, 0, 0), (0, 0, 0), (1, 0, 0)] [] (fun ls st M => k73 (f_vi (f_nth ls 1)) (f_vi (f_nth ls 2)) (f_vi (f_nth ls 4)) M)), (69, f_pl [(4466, 12, 123), (1, 0, 0), (1, 0, 0), (0, 0, 0), (1, 0, 0)] [] (fun ls st M => k69 (f_vi (f_nth ls 1)) (f_vi (f_nth ls 2)) (f_vi (f_nth ls 4)) M))]) C qX12_runf (f_kc_cons (f_pl_ok rfl (fun ls st M h => h73 _ _ _ M h)) (f_kc_cons (f_pl_ok rfl (fun ls st M h => h69 _ _ _ M h)) f_kc_nil)) 138 25 h
set_option maxRecDepth 20000 in
theorem BX12_run_69 {sh : Nat → Nat × Nat} {t : Nat} {rm : Nat × Nat × Nat} {cs : Nat × Nat} {R : f_Rt} {c_X12_byteAt : Int → e_M → (Int → Prop) → Prop} {c_X12_isSmall : Int → e_M → (Int → Prop) → Prop} {c_X12_isDigit : Int → e_M → (Int → Prop) → Prop} {c_X12_digits : Int → Int → e_M → (Int → Prop) → Prop} {k74 : Int → Int → Int → Int → e_M → Prop} {x1 : Int} {x2 : Int} {x4 : Int} {M : e_M} (C : f_Hy sh t yX12_run rm cs 6 (lX12_run c_X12_byteAt c_X12_isSmall c_X12_isDigit c_X12_digits) R) (h74 : ∀ (x1 : Int) (x2 : Int) (x4 : Int) (xs0 : Int) (M : e_M), k74 x1 x2 x4 xs0 M → f_E sh t YX12_run rm cs (f_Q sh t R) 74 [.inr (.inr (.inl (12, 123, 4456))), .inl x1, .inl x2, .inr (.inr (.inr ())), .inl x4] [.inl xs0] M) (h : VX12_run_69 c_X12_byteAt c_X12_isSmall c_X12_isDigit c_X12_digits k74 (fun M => R none M) x1 x2 x4 M) : f_E sh t YX12_run rm cs (f_Q sh t R) 69 [.inr (.inr (.inl (12, 123, 4456))), .inl x1, .inl x2, .inr (.inr (.inr ())), .inl x4] [] M :=
  f_go (KC := f_kc [(74, f_pl [(4466, 12, 123), (1, 0, 0), (1, 0, 0), (0, 0, 0), (1, 0, 0)] [(1, 0, 0)] (fun ls st M => k74 (f_vi (f_nth ls 1)) (f_vi (f_nth ls 2)) (f_vi (f_nth ls 4)) (f_vi (f_nth st 0)) M))]) C qX12_runf (f_kc_cons (f_pl_ok rfl (fun ls st M h => h74 _ _ _ _ M h)) f_kc_nil) 138 40 h
set_option maxRecDepth 20000 in
theorem BX12_run_73 {sh : Nat → Nat × Nat} {t : Nat} {rm : Nat × Nat × Nat} {cs : Nat × Nat} {R : f_Rt} {c_X12_byteAt : Int → e_M → (Int → Prop) → Prop} {c_X12_isSmall : Int → e_M → (Int → Prop) → Prop} {c_X12_isDigit : Int → e_M → (Int → Prop) → Prop} {c_X12_digits : Int → Int → e_M → (Int → Prop) → Prop} {k74 : Int → Int → Int → Int → e_M → Prop} {x1 : Int} {x2 : Int} {x4 : Int} {M : e_M} (C : f_Hy sh t yX12_run rm cs 6 (lX12_run c_X12_byteAt c_X12_isSmall c_X12_isDigit c_X12_digits) R) (h74 : ∀ (x1 : Int) (x2 : Int) (x4 : Int) (xs0 : Int) (M : e_M), k74 x1 x2 x4 xs0 M → f_E sh t YX12_run rm cs (f_Q sh t R) 74 [.inr (.inr (.inl (12, 123, 4456))), .inl x1, .inl x2, .inr (.inr (.inr ())), .inl x4] [.inl xs0] M) (h : VX12_run_73 c_X12_byteAt c_X12_isSmall c_X12_isDigit c_X12_digits k74 (fun M => R none M) x1 x2 x4 M) : f_E sh t YX12_run rm cs (f_Q sh t R) 73 [.inr (.inr (.inl (12, 123, 4456))), .inl x1, .inl x2, .inr (.inr (.inr ())), .inl x4] [] M :=
  f_go (KC := f_kc [(74, f_pl [(4466, 12, 123), (1, 0, 0), (1, 0, 0), (0, 0, 0), (1, 0, 0)] [(1, 0, 0)] (fun ls st M => k74 (f_vi (f_nth ls 1)) (f_vi (f_nth ls 2)) (f_vi (f_nth ls 4)) (f_vi (f_nth st 0)) M))]) C qX12_runf (f_kc_cons (f_pl_ok rfl (fun ls st M h => h74 _ _ _ _ M h)) f_kc_nil) 138 43 h
set_option maxRecDepth 20000 in
theorem BX12_run_74 {sh : Nat → Nat × Nat} {t : Nat} {rm : Nat × Nat × Nat} {cs : Nat × Nat} {R : f_Rt} {c_X12_byteAt : Int → e_M → (Int → Prop) → Prop} {c_X12_isSmall : Int → e_M → (Int → Prop) → Prop} {c_X12_isDigit : Int → e_M → (Int → Prop) → Prop} {c_X12_digits : Int → Int → e_M → (Int → Prop) → Prop} {k101 : Int → Int → Int → e_M → Prop} {x1 : Int} {x2 : Int} {x4 : Int} {xs0 : Int} {M : e_M} (C : f_Hy sh t yX12_run rm cs 6 (lX12_run c_X12_byteAt c_X12_isSmall c_X12_isDigit c_X12_digits) R) (h101 : ∀ (x1 : Int) (x2 : Int) (x3 : Int) (M : e_M), k101 x1 x2 x3 M → f_E sh t YX12_run rm cs (f_Q sh t R) 101 [.inr (.inr (.inl (12, 123, 4456))), .inl x1, .inl x2, .inl x3, .inr (.inr (.inr ()))] [] M) (h : VX12_run_74 c_X12_byteAt c_X12_isSmall c_X12_isDigit c_X12_digits k101 (fun M => R none M) x1 x2 x4 xs0 M) : f_E sh t YX12_run rm cs (f_Q sh t R) 74 [.inr (.inr (.inl (12, 123, 4456))), .inl x1, .inl x2, .inr (.inr (.inr ())), .inl x4] [.inl xs0] M :=
  f_go (KC := f_kc [(101, f_pl [(4466, 12, 123), (1, 0, 0), (1, 0, 0), (1, 0, 0), (0, 0, 0)] [] (fun ls st M => k101 (f_vi (f_nth ls 1)) (f_vi (f_nth ls 2)) (f_vi (f_nth ls 3)) M))]) C qX12_runf (f_kc_cons (f_pl_ok rfl (fun ls st M h => h101 _ _ _ M h)) f_kc_nil) 138 45 h
set_option maxRecDepth 20000 in
theorem BX12_run_101 {sh : Nat → Nat × Nat} {t : Nat} {rm : Nat × Nat × Nat} {cs : Nat × Nat} {R : f_Rt} {c_X12_byteAt : Int → e_M → (Int → Prop) → Prop} {c_X12_isSmall : Int → e_M → (Int → Prop) → Prop} {c_X12_isDigit : Int → e_M → (Int → Prop) → Prop} {c_X12_digits : Int → Int → e_M → (Int → Prop) → Prop} {k9 : Int → Int → Int → e_M → Prop} {x1 : Int} {x2 : Int} {x3 : Int} {M : e_M} (C : f_Hy sh t yX12_run rm cs 6 (lX12_run c_X12_byteAt c_X12_isSmall c_X12_isDigit c_X12_digits) R) (h9 : ∀ (x1 : Int) (x2 : Int) (x3 : Int) (M : e_M), k9 x1 x2 x3 M → f_E sh t YX12_run rm cs (f_Q sh t R) 9 [.inr (.inr (.inl (12, 123, 4456))), .inl x1, .inl x2, .inl x3, .inr (.inr (.inr ()))] [] M) (h : VX12_run_101 c_X12_byteAt c_X12_isSmall c_X12_isDigit c_X12_digits k9 (fun M => R none M) x1 x2 x3 M) : f_E sh t YX12_run rm cs (f_Q sh t R) 101 [.inr (.inr (.inl (12, 123, 4456))), .inl x1, .inl x2, .inl x3, .inr (.inr (.inr ()))] [] M :=
  f_go (KC := f_kc [(9, f_pl [(4466, 12, 123), (1, 0, 0), (1, 0, 0), (1, 0, 0), (0, 0, 0)] [] (fun ls st M => k9 (f_vi (f_nth ls 1)) (f_vi (f_nth ls 2)) (f_vi (f_nth ls 3)) M))]) C qX12_runf (f_kc_cons (f_pl_ok rfl (fun ls st M h => h9 _ _ _ M h)) f_kc_nil) 138 63 h
set_option maxRecDepth 20000 in
theorem BX12_run_123 {sh : Nat → Nat × Nat} {t : Nat} {rm : Nat × Nat × Nat} {cs : Nat × Nat} {R : f_Rt} {c_X12_byteAt : Int → e_M → (Int → Prop) → Prop} {c_X12_isSmall : Int → e_M → (Int → Prop) → Prop} {c_X12_isDigit : Int → e_M → (Int → Prop) → Prop} {c_X12_digits : Int → Int → e_M → (Int → Prop) → Prop} {k130 : Int → Int → e_M → Prop} {k131 : Int → Int → Int → e_M → Prop} {x1 : Int} {x2 : Int} {xs1 : Int} {xs0 : Int} {M : e_M} (C : f_Hy sh t yX12_run rm cs 6 (lX12_run c_X12_byteAt c_X12_isSmall c_X12_isDigit c_X12_digits) R) (h130 : ∀ (x1 : Int) (x2 : Int) (M : e_M), k130 x1 x2 M → f_E sh t YX12_run rm cs (f_Q sh t R) 130 [.inr (.inr (.inl (12, 123, 4456))), .inl x1, .inl x2, .inr (.inr (.inr ())), .inr (.inr (.inr ()))] [] M) (h131 : ∀ (x1 : Int) (x2 : Int) (xs0 : Int) (M : e_M), k131 x1 x2 xs0 M → f_E sh t YX12_run rm cs (f_Q sh t R) 131 [.inr (.inr (.inl (12, 123, 4456))), .inl x1, .inl x2, .inr (.inr (.inr ())), .inr (.inr (.inr ()))] [.inl xs0] M) (h : VX12_run_123 c_X12_byteAt c_X12_isSmall c_X12_isDigit c_X12_digits k130 k131 (fun M => R none M) x1 x2 xs1 xs0 M) : f_E sh t YX12_run rm cs (f_Q sh t R) 123 [.inr (.inr (.inl (12, 123, 4456))), .inl x1, .inl x2, .inr (.inr (.inr ())), .inr (.inr (.inr ()))] [.inl xs1, .inl xs0] M :=
  f_go (KC := f_kc [(130, f_pl [(4466, 12, 123), (1, 0, 0), (1, 0, 0), (0, 0, 0), (0, 0, 0)] [] (fun ls st M => k130 (f_vi (f_nth ls 1)) (f_vi (f_nth ls 2)) M)), (131, f_pl [(4466, 12, 123), (1, 0, 0), (1, 0, 0), (0, 0, 0), (0, 0, 0)] [(1, 0, 0)] (fun ls st M => k131 (f_vi (f_nth ls 1)) (f_vi (f_nth ls 2)) (f_vi (f_nth st 0)) M))]) C qX12_runf (f_kc_cons (f_pl_ok rfl (fun ls st M h => h130 _ _ M h)) (f_kc_cons (f_pl_ok rfl (fun ls st M h => h131 _ _ _ M h)) f_kc_nil)) 138 74 h
set_option maxRecDepth 20000 in
theorem BX12_run_130 {sh : Nat → Nat × Nat} {t : Nat} {rm : Nat × Nat × Nat} {cs : Nat × Nat} {R : f_Rt} {c_X12_byteAt : Int → e_M → (Int → Prop) → Prop} {c_X12_isSmall : Int → e_M → (Int → Prop) → Prop} {c_X12_isDigit : Int → e_M → (Int → Prop) → Prop} {c_X12_digits : Int → Int → e_M → (Int → Prop) → Prop} {k131 : Int → Int → Int → e_M → Prop} {x1 : Int} {x2 : Int} {M : e_M} (C : f_Hy sh t yX12_run rm cs 6 (lX12_run c_X12_byteAt c_X12_isSmall c_X12_isDigit c_X12_digits) R) (h131 : ∀ (x1 : Int) (x2 : Int) (xs0 : Int) (M : e_M), k131 x1 x2 xs0 M → f_E sh t YX12_run rm cs (f_Q sh t R) 131 [.inr (.inr (.inl (12, 123, 4456))), .inl x1, .inl x2, .inr (.inr (.inr ())), .inr (.inr (.inr ()))] [.inl xs0] M) (h : VX12_run_130 c_X12_byteAt c_X12_isSmall c_X12_isDigit c_X12_digits k131 (fun M => R none M) x1 x2 M) : f_E sh t YX12_run rm cs (f_Q sh t R) 130 [.inr (.inr (.inl (12, 123, 4456))), .inl x1, .inl x2, .inr (.inr (.inr ())), .inr (.inr (.inr ()))] [] M :=
  f_go (KC := f_kc [(131, f_pl [(4466, 12, 123), (1, 0, 0), (1, 0, 0), (0, 0, 0), (0, 0, 0)] [(1, 0, 0)] (fun ls st M => k131 (f_vi (f_nth ls 1)) (f_vi (f_nth ls 2)) (f_vi (f_nth st 0)) M))]) C qX12_runf (f_kc_cons (f_pl_ok rfl (fun ls st M h => h131 _ _ _ M h)) f_kc_nil) 138 78 h
set_option maxRecDepth 20000 in
theorem BX12_run_131 {sh : Nat → Nat × Nat} {t : Nat} {rm : Nat × Nat × Nat} {cs : Nat × Nat} {R : f_Rt} {c_X12_byteAt : Int → e_M → (Int → Prop) → Prop} {c_X12_isSmall : Int → e_M → (Int → Prop) → Prop} {c_X12_isDigit : Int → e_M → (Int → Prop) → Prop} {c_X12_digits : Int → Int → e_M → (Int → Prop) → Prop} {k150 : Int → Int → Int → Int → e_M → Prop} {x1 : Int} {x2 : Int} {xs0 : Int} {M : e_M} (C : f_Hy sh t yX12_run rm cs 6 (lX12_run c_X12_byteAt c_X12_isSmall c_X12_isDigit c_X12_digits) R) (h150 : ∀ (x1 : Int) (x2 : Int) (x3 : Int) (xs1 : Int) (M : e_M), k150 x1 x2 x3 xs1 M → f_E sh t YX12_run rm cs (f_Q sh t R) 150 [.inr (.inr (.inl (12, 123, 4456))), .inl x1, .inl x2, .inl x3, .inr (.inr (.inr ()))] [.inl xs1, .inr (.inr (.inl (12, 123, 4456)))] M) (h : VX12_run_131 c_X12_byteAt c_X12_isSmall c_X12_isDigit c_X12_digits k150 (fun M => R none M) x1 x2 xs0 M) : f_E sh t YX12_run rm cs (f_Q sh t R) 131 [.inr (.inr (.inl (12, 123, 4456))), .inl x1, .inl x2, .inr (.inr (.inr ())), .inr (.inr (.inr ()))] [.inl xs0] M :=
  f_go (KC := f_kc [(150, f_pl [(4466, 12, 123), (1, 0, 0), (1, 0, 0), (1, 0, 0), (0, 0, 0)] [(1, 0, 0), (4466, 12, 123)] (fun ls st M => k150 (f_vi (f_nth ls 1)) (f_vi (f_nth ls 2)) (f_vi (f_nth ls 3)) (f_vi (f_nth st 0)) M))]) C qX12_runf (f_kc_cons (f_pl_ok rfl (fun ls st M h => h150 _ _ _ _ M h)) f_kc_nil) 138 80 h
set_option maxRecDepth 20000 in
theorem BX12_run_150 {sh : Nat → Nat × Nat} {t : Nat} {rm : Nat × Nat × Nat} {cs : Nat × Nat} {R : f_Rt} {c_X12_byteAt : Int → e_M → (Int → Prop) → Prop} {c_X12_isSmall : Int → e_M → (Int → Prop) → Prop} {c_X12_isDigit : Int → e_M → (Int → Prop) → Prop} {c_X12_digits : Int → Int → e_M → (Int → Prop) → Prop} {k174 : Int → Int → Int → e_M → Prop} {x1 : Int} {x2 : Int} {x3 : Int} {xs1 : Int} {M : e_M} (C : f_Hy sh t yX12_run rm cs 6 (lX12_run c_X12_byteAt c_X12_isSmall c_X12_isDigit c_X12_digits) R) (h174 : ∀ (x1 : Int) (x2 : Int) (x3 : Int) (M : e_M), k174 x1 x2 x3 M → f_E sh t YX12_run rm cs (f_Q sh t R) 174 [.inr (.inr (.inl (12, 123, 4456))), .inl x1, .inl x2, .inl x3, .inr (.inr (.inr ()))] [] M) (h : VX12_run_150 c_X12_byteAt c_X12_isSmall c_X12_isDigit c_X12_digits k174 (fun M => R none M) x1 x2 x3 xs1 M) : f_E sh t YX12_run rm cs (f_Q sh t R) 150 [.inr (.inr (.inl (12, 123, 4456))), .inl x1, .inl x2, .inl x3, .inr (.inr (.inr ()))] [.inl xs1, .inr (.inr (.inl (12, 123, 4456)))] M :=
  f_go (KC := f_kc [(174, f_pl [(4466, 12, 123), (1, 0, 0), (1, 0, 0), (1, 0, 0), (0, 0, 0)] [] (fun ls st M => k174 (f_vi (f_nth ls 1)) (f_vi (f_nth ls 2)) (f_vi (f_nth ls 3)) M))]) C qX12_runf (f_kc_cons (f_pl_ok rfl (fun ls st M h => h174 _ _ _ M h)) f_kc_nil) 138 92 h
set_option maxRecDepth 20000 in
theorem BX12_run_174 {sh : Nat → Nat × Nat} {t : Nat} {rm : Nat × Nat × Nat} {cs : Nat × Nat} {R : f_Rt} {c_X12_byteAt : Int → e_M → (Int → Prop) → Prop} {c_X12_isSmall : Int → e_M → (Int → Prop) → Prop} {c_X12_isDigit : Int → e_M → (Int → Prop) → Prop} {c_X12_digits : Int → Int → e_M → (Int → Prop) → Prop} {k219 : Int → e_M → Prop} {k185 : Int → Int → e_M → Prop} {x1 : Int} {x2 : Int} {x3 : Int} {M : e_M} (C : f_Hy sh t yX12_run rm cs 6 (lX12_run c_X12_byteAt c_X12_isSmall c_X12_isDigit c_X12_digits) R) (h219 : ∀ (x2 : Int) (M : e_M), k219 x2 M → f_E sh t YX12_run rm cs (f_Q sh t R) 219 [.inr (.inr (.inl (12, 123, 4456))), .inr (.inr (.inr ())), .inl x2, .inr (.inr (.inr ())), .inr (.inr (.inr ()))] [] M) (h185 : ∀ (x2 : Int) (x4 : Int) (M : e_M), k185 x2 x4 M → f_E sh t YX12_run rm cs (f_Q sh t R) 185 [.inr (.inr (.inl (12, 123, 4456))), .inr (.inr (.inr ())), .inl x2, .inr (.inr (.inr ())), .inl x4] [] M) (h : VX12_run_174 c_X12_byteAt c_X12_isSmall c_X12_isDigit c_X12_digits k219 k185 (fun M => R none M) x1 x2 x3 M) : f_E sh t YX12_run rm cs (f_Q sh t R) 174 [.inr (.inr (.inl (12, 123, 4456))), .inl x1, .inl x2, .inl x3, .inr (.inr (.inr ()))] [] M :=
  f_go (KC := f_kc [(219, f_pl [(4466, 12, 123), (0, 0, 0), (1, 0, 0), (0, 0, 0), (0, 0, 0)] [] (fun ls st M => k219 (f_vi (f_nth ls 2)) M)), (185, f_pl [(4466, 12, 123), (0, 0, 0), (1, 0, 0), (0, 0, 0), (1, 0, 0)] [] (fun ls st M => k185 (f_vi (f_nth ls 2)) (f_vi (f_nth ls 4)) M))]) C qX12_runf (f_kc_cons (f_pl_ok rfl (fun ls st M h => h219 _ M h)) (f_kc_cons (f_pl_ok rfl (fun ls st M h => h185 _ _ M h)) f_kc_nil)) 138 105 h
set_option maxRecDepth 20000 in
theorem BX12_run_185 {sh : Nat → Nat × Nat} {t : Nat} {rm : Nat × Nat × Nat} {cs : Nat × Nat} {R : f_Rt} {c_X12_byteAt : Int → e_M → (Int → Prop) → Prop} {c_X12_isSmall : Int → e_M → (Int → Prop) → Prop} {c_X12_isDigit : Int → e_M → (Int → Prop) → Prop} {c_X12_digits : Int → Int → e_M → (Int → Prop) → Prop} {k219 : Int → e_M → Prop} {k213 : Int → Int → e_M → Prop} {x2 : Int} {x4 : Int} {M : e_M} (C : f_Hy sh t yX12_run rm cs 6 (lX12_run c_X12_byteAt c_X12_isSmall c_X12_isDigit c_X12_digits) R) (h219 : ∀ (x2 : Int) (M : e_M), k219 x2 M → f_E sh t YX12_run rm cs (f_Q sh t R) 219 [.inr (.inr (.inl (12, 123, 4456))), .inr (.inr (.inr ())), .inl x2, .inr (.inr (.inr ())), .inr (.inr (.inr ()))] [] M) (h213 : ∀ (x2 : Int) (x4 : Int) (M : e_M), k213 x2 x4 M → f_E sh t YX12_run rm cs (f_Q sh t R) 213 [.inr (.inr (.inl (12, 123, 4456))), .inr (.inr (.inr ())), .inl x2, .inr (.inr (.inr ())), .inl x4] [] M) (h : VX12_run_185 c_X12_byteAt c_X12_isSmall c_X12_isDigit c_X12_digits k219 k213 (fun M => R none M) x2 x4 M) : f_E sh t YX12_run rm cs (f_Q sh t R) 185 [.inr (.inr (.inl (12, 123, 4456))), .inr (.inr (.inr ())), .inl x2, .inr (.inr (.inr ())), .inl x4] [] M :=
  f_go (KC := f_kc [(219, f_pl [(4466, 12, 123), (0, 0, 0), (1, 0, 0), (0, 0, 0), (0, 0, 0)] [] (fun ls st M => k219 (f_vi (f_nth ls 2)) M)), (213, f_pl [(4466, 12, 123), (0, 0, 0), (1, 0, 0), (0, 0, 0), (1, 0, 0)] [] (fun ls st M => k213 (f_vi (f_nth ls 2)) (f_vi (f_nth ls 4)) M))]) C qX12_runf (f_kc_cons (f_pl_ok rfl (fun ls st M h => h219 _ M h)) (f_kc_cons (f_pl_ok rfl (fun ls st M h => h213 _ _ M h)) f_kc_nil)) 138 112 h
set_option maxRecDepth 20000 in
theorem BX12_run_213 {sh : Nat → Nat × Nat} {t : Nat} {rm : Nat × Nat × Nat} {cs : Nat × Nat} {R : f_Rt} {c_X12_byteAt : Int → e_M → (Int → Prop) → Prop} {c_X12_isSmall : Int → e_M → (Int → Prop) → Prop} {c_X12_isDigit : Int → e_M → (Int → Prop) → Prop} {c_X12_digits : Int → Int → e_M → (Int → Prop) → Prop} {k185 : Int → Int → e_M → Prop} {x2 : Int} {x4 : Int} {M : e_M} (C : f_Hy sh t yX12_run rm cs 6 (lX12_run c_X12_byteAt c_X12_isSmall c_X12_isDigit c_X12_digits) R) (h185 : ∀ (x2 : Int) (x4 : Int) (M : e_M), k185 x2 x4 M → f_E sh t YX12_run rm cs (f_Q sh t R) 185 [.inr (.inr (.inl (12, 123, 4456))), .inr (.inr (.inr ())), .inl x2, .inr (.inr (.inr ())), .inl x4] [] M) (h : VX12_run_213 c_X12_byteAt c_X12_isSmall c_X12_isDigit c_X12_digits k185 (fun M => R none M) x2 x4 M) : f_E sh t YX12_run rm cs (f_Q sh t R) 213 [.inr (.inr (.inl (12, 123, 4456))), .inr (.inr (.inr ())), .inl x2, .inr (.inr (.inr ())), .inl x4] [] M :=
  f_go (KC := f_kc [(185, f_pl [(4466, 12, 123), (0, 0, 0), (1, 0, 0), (0, 0, 0), (1, 0, 0)] [] (fun ls st M => k185 (f_vi (f_nth ls 2)) (f_vi (f_nth ls 4)) M))]) C qX12_runf (f_kc_cons (f_pl_ok rfl (fun ls st M h => h185 _ _ M h)) f_kc_nil) 138 126 h
set_option maxRecDepth 20000 in
theorem BX12_run_219 {sh : Nat → Nat × Nat} {t : Nat} {rm : Nat × Nat × Nat} {cs : Nat × Nat} {R : f_Rt} {c_X12_byteAt : Int → e_M → (Int → Prop) → Prop} {c_X12_isSmall : Int → e_M → (Int → Prop) → Prop} {c_X12_isDigit : Int → e_M → (Int → Prop) → Prop} {c_X12_digits : Int → Int → e_M → (Int → Prop) → Prop} {x2 : Int} {M : e_M} (C : f_Hy sh t yX12_run rm cs 6 (lX12_run c_X12_byteAt c_X12_isSmall c_X12_isDigit c_X12_digits) R) (h : VX12_run_219 c_X12_byteAt c_X12_isSmall c_X12_isDigit c_X12_digits (fun M => R none M) x2 M) : f_E sh t YX12_run rm cs (f_Q sh t R) 219 [.inr (.inr (.inl (12, 123, 4456))), .inr (.inr (.inr ())), .inl x2, .inr (.inr (.inr ())), .inr (.inr (.inr ()))] [] M :=
  f_go (KC := f_kc []) C qX12_runf f_kc_nil 138 129 h
set_option maxRecDepth 20000 in
theorem BX12_run {sh : Nat → Nat × Nat} {t : Nat} {rm : Nat × Nat × Nat} {cs : Nat × Nat} {R : f_Rt} {c_X12_byteAt : Int → e_M → (Int → Prop) → Prop} {c_X12_isSmall : Int → e_M → (Int → Prop) → Prop} {c_X12_isDigit : Int → e_M → (Int → Prop) → Prop} {c_X12_digits : Int → Int → e_M → (Int → Prop) → Prop} {k9 : Int → Int → Int → e_M → Prop} {x1 : Int} {M : e_M} (C : f_Hy sh t yX12_run rm cs 6 (lX12_run c_X12_byteAt c_X12_isSmall c_X12_isDigit c_X12_digits) R) (h9 : ∀ (x1 : Int) (x2 : Int) (x3 : Int) (M : e_M), k9 x1 x2 x3 M → f_E sh t YX12_run rm cs (f_Q sh t R) 9 [.inr (.inr (.inl (12, 123, 4456))), .inl x1, .inl x2, .inl x3, .inr (.inr (.inr ()))] [] M) (h : VX12_run c_X12_byteAt c_X12_isSmall c_X12_isDigit c_X12_digits k9 (fun M => R none M) x1 M) : f_E sh t YX12_run rm cs (f_Q sh t R) 0 [.inr (.inr (.inl (12, 123, 4456))), .inl x1, .inr (.inr (.inr ())), .inr (.inr (.inr ())), .inr (.inr (.inr ()))] [] M :=
  f_go (KC := f_kc [(9, f_pl [(4466, 12, 123), (1, 0, 0), (1, 0, 0), (1, 0, 0), (0, 0, 0)] [] (fun ls st M => k9 (f_vi (f_nth ls 1)) (f_vi (f_nth ls 2)) (f_vi (f_nth ls 3)) M))]) C qX12_runf (f_kc_cons (f_pl_ok rfl (fun ls st M h => h9 _ _ _ M h)) f_kc_nil) 138 0 h
def WX12_run_219 (Q : e_M → Prop) (x2 : Int) (M : e_M) : Prop :=
  VX12_run_219 WX12_byteAt WX12_isSmall WX12_isDigit WX12_digits Q x2 M
def WX12_run_213 (H185 : Int → Int → e_M → Prop) (Q : e_M → Prop) (x2 : Int) (x4 : Int) (M : e_M) : Prop :=
  VX12_run_213 WX12_byteAt WX12_isSmall WX12_isDigit WX12_digits H185 Q x2 x4 M
def WX12_run_185 (Q : e_M → Prop) : Nat → Int → Int → e_M → Prop
  | 0, _, _, _ => False
  | n + 1, x2, x4, M =>
    VX12_run_185 WX12_byteAt WX12_isSmall WX12_isDigit WX12_digits (WX12_run_219 Q) (WX12_run_213 (WX12_run_185 Q n) Q) Q x2 x4 M
def WX12_run_174 (Q : e_M → Prop) (x1 : Int) (x2 : Int) (x3 : Int) (M : e_M) : Prop :=
  VX12_run_174 WX12_byteAt WX12_isSmall WX12_isDigit WX12_digits (WX12_run_219 Q) (fun x2 x4 M => ∃ j, WX12_run_185 Q j x2 x4 M) Q x1 x2 x3 M
def WX12_run_150 (Q : e_M → Prop) (x1 : Int) (x2 : Int) (x3 : Int) (xs1 : Int) (M : e_M) : Prop :=
  VX12_run_150 WX12_byteAt WX12_isSmall WX12_isDigit WX12_digits (WX12_run_174 Q) Q x1 x2 x3 xs1 M
def WX12_run_131 (Q : e_M → Prop) (x1 : Int) (x2 : Int) (xs0 : Int) (M : e_M) : Prop :=
  VX12_run_131 WX12_byteAt WX12_isSmall WX12_isDigit WX12_digits (WX12_run_150 Q) Q x1 x2 xs0 M
def WX12_run_130 (Q : e_M → Prop) (x1 : Int) (x2 : Int) (M : e_M) : Prop :=
  VX12_run_130 WX12_byteAt WX12_isSmall WX12_isDigit WX12_digits (WX12_run_131 Q) Q x1 x2 M
def WX12_run_123 (Q : e_M → Prop) (x1 : Int) (x2 : Int) (xs1 : Int) (xs0 : Int) (M : e_M) : Prop :=
  VX12_run_123 WX12_byteAt WX12_isSmall WX12_isDigit WX12_digits (WX12_run_130 Q) (WX12_run_131 Q) Q x1 x2 xs1 xs0 M
def WX12_run_101 (H9 : Int → Int → Int → e_M → Prop) (Q : e_M → Prop) (x1 : Int) (x2 : Int) (x3 : Int) (M : e_M) : Prop :=
  VX12_run_101 WX12_byteAt WX12_isSmall WX12_isDigit WX12_digits H9 Q x1 x2 x3 M
def WX12_run_74 (H9 : Int → Int → Int → e_M → Prop) (Q : e_M → Prop) (x1 : Int) (x2 : Int) (x4 : Int) (xs0 : Int) (M : e_M) : Prop :=
  VX12_run_74 WX12_byteAt WX12_isSmall WX12_isDigit WX12_digits (WX12_run_101 H9 Q) Q x1 x2 x4 xs0 M
def WX12_run_69 (H9 : Int → Int → Int → e_M → Prop) (Q : e_M → Prop) (x1 : Int) (x2 : Int) (x4 : Int) (M : e_M) : Prop :=
  VX12_run_69 WX12_byteAt WX12_isSmall WX12_isDigit WX12_digits (WX12_run_74 H9 Q) Q x1 x2 x4 M
def WX12_run_73 (H9 : Int → Int → Int → e_M → Prop) (Q : e_M → Prop) (x1 : Int) (x2 : Int) (x4 : Int) (M : e_M) : Prop :=
  VX12_run_73 WX12_byteAt WX12_isSmall WX12_isDigit WX12_digits (WX12_run_74 H9 Q) Q x1 x2 x4 M
def WX12_run_41 (H9 : Int → Int → Int → e_M → Prop) (Q : e_M → Prop) (x1 : Int) (x2 : Int) (x3 : Int) (M : e_M) : Prop :=
  VX12_run_41 WX12_byteAt WX12_isSmall WX12_isDigit WX12_digits (WX12_run_73 H9 Q) (WX12_run_69 H9 Q) Q x1 x2 x3 M
def WX12_run_9 (Q : e_M → Prop) : Nat → Int → Int → Int → e_M → Prop
  | 0, _, _, _, _ => False
  | n + 1, x1, x2, x3, M =>
    VX12_run_9 WX12_byteAt WX12_isSmall WX12_isDigit WX12_digits (WX12_run_41 (WX12_run_9 Q n) Q) (WX12_run_130 Q) (WX12_run_123 Q) Q x1 x2 x3 M
def WX12_run (x1 : Int) (M : e_M) (Q : e_M → Prop) : Prop :=
  VX12_run WX12_byteAt WX12_isSmall WX12_isDigit WX12_digits (fun x1 x2 x3 M => ∃ j, WX12_run_9 Q j x1 x2 x3 M) Q x1 M
theorem PX12_run_219 {sh : Nat → Nat × Nat} {t : Nat} {rm : Nat × Nat × Nat} {cs : Nat × Nat} {R : f_Rt} {x2 : Int} {M : e_M} (C : f_Hy sh t yX12_run rm cs 6 (lX12_run WX12_byteAt WX12_isSmall WX12_isDigit WX12_digits) R) (h : WX12_run_219 (fun M => R none M) x2 M) : f_E sh t YX12_run rm cs (f_Q sh t R) 219 [.inr (.inr (.inl (12, 123, 4456))), .inr (.inr (.inr ())), .inl x2, .inr (.inr (.inr ())), .inr (.inr (.inr ()))] [] M :=
  BX12_run_219 C h
theorem PX12_run_213 {sh : Nat → Nat × Nat} {t : Nat} {rm : Nat × Nat × Nat} {cs : Nat × Nat} {R : f_Rt} {H185 : Int → Int → e_M → Prop} {x2 : Int} {x4 : Int} {M : e_M} (C : f_Hy sh t yX12_run rm cs 6 (lX12_run WX12_byteAt WX12_isSmall WX12_isDigit WX12_digits) R) (g185 : ∀ (x2 : Int) (x4 : Int) (M : e_M), H185 x2 x4 M → f_E sh t YX12_run rm cs (f_Q sh t R) 185 [.inr (.inr (.inl (12, 123, 4456))), .inr (.inr (.inr ())), .inl x2, .inr (.inr (.inr ())), .inl x4] [] M) (h : WX12_run_213 H185 (fun M => R none M) x2 x4 M) : f_E sh t YX12_run rm cs (f_Q sh t R) 213 [.inr (.inr (.inl (12, 123, 4456))), .inr (.inr (.inr ())), .inl x2, .inr (.inr (.inr ())), .inl x4] [] M :=
  BX12_run_213 C g185 h
theorem PX12_run_185 {sh : Nat → Nat × Nat} {t : Nat} {rm : Nat × Nat × Nat} {cs : Nat × Nat} {R : f_Rt} (C : f_Hy sh t yX12_run rm cs 6 (lX12_run WX12_byteAt WX12_isSmall WX12_isDigit WX12_digits) R) : ∀ (n : Nat) (x2 : Int) (x4 : Int) (M : e_M), WX12_run_185 (fun M => R none M) n x2 x4 M → f_E sh t YX12_run rm cs (f_Q sh t R) 185 [.inr (.inr (.inl (12, 123, 4456))), .inr (.inr (.inr ())), .inl x2, .inr (.inr (.inr ())), .inl x4] [] M := by
  intro n
  induction n with
  | zero => intro x2 x4 M h; exact h.elim
  | succ n ih => intro x2 x4 M h; exact BX12_run_185 C (fun x2 M h => PX12_run_219 C h) (fun x2 x4 M h => PX12_run_213 C ih h) h
theorem PX12_run_174 {sh : Nat → Nat × Nat} {t : Nat} {rm : Nat × Nat × Nat} {cs : Nat × Nat} {R : f_Rt} {x1 : Int} {x2 : Int} {x3 : Int} {M : e_M} (C : f_Hy sh t yX12_run rm cs 6 (lX12_run WX12_byteAt WX12_isSmall WX12_isDigit WX12_digits) R) (h : WX12_run_174 (fun M => R none M) x1 x2 x3 M) : f_E sh t YX12_run rm cs (f_Q sh t R) 174 [.inr (.inr (.inl (12, 123, 4456))), .inl x1, .inl x2, .inl x3, .inr (.inr (.inr ()))] [] M :=
  BX12_run_174 C (fun x2 M h => PX12_run_219 C h) (fun x2 x4 M ⟨j, h⟩ => PX12_run_185 C j _ _ _ h) h
theorem PX12_run_150 {sh : Nat → Nat × Nat} {t : Nat} {rm : Nat × Nat × Nat} {cs : Nat × Nat} {R : f_Rt} {x1 : Int} {x2 : Int} {x3 : Int} {xs1 : Int} {M : e_M} (C : f_Hy sh t yX12_run rm cs 6 (lX12_run WX12_byteAt WX12_isSmall WX12_isDigit WX12_digits) R) (h : WX12_run_150 (fun M => R none M) x1 x2 x3 xs1 M) : f_E sh t YX12_run rm cs (f_Q sh t R) 150 [.inr (.inr (.inl (12, 123, 4456))), .inl x1, .inl x2, .inl x3, .inr (.inr (.inr ()))] [.inl xs1, .inr (.inr (.inl (12, 123, 4456)))] M :=
  BX12_run_150 C (fun x1 x2 x3 M h => PX12_run_174 C h) h
theorem PX12_run_131 {sh : Nat → Nat × Nat} {t : Nat} {rm : Nat × Nat × Nat} {cs : Nat × Nat} {R : f_Rt} {x1 : Int} {x2 : Int} {xs0 : Int} {M : e_M} (C : f_Hy sh t yX12_run rm cs 6 (lX12_run WX12_byteAt WX12_isSmall WX12_isDigit WX12_digits) R) (h : WX12_run_131 (fun M => R none M) x1 x2 xs0 M) : f_E sh t YX12_run rm cs (f_Q sh t R) 131 [.inr (.inr (.inl (12, 123, 4456))), .inl x1, .inl x2, .inr (.inr (.inr ())), .inr (.inr (.inr ()))] [.inl xs0] M :=
  BX12_run_131 C (fun x1 x2 x3 xs1 M h => PX12_run_150 C h) h
theorem PX12_run_130 {sh : Nat → Nat × Nat} {t : Nat} {rm : Nat × Nat × Nat} {cs : Nat × Nat} {R : f_Rt} {x1 : Int} {x2 : Int} {M : e_M} (C : f_Hy sh t yX12_run rm cs 6 (lX12_run WX12_byteAt WX12_isSmall WX12_isDigit WX12_digits) R) (h : WX12_run_130 (fun M => R none M) x1 x2 M) : f_E sh t YX12_run rm cs (f_Q sh t R) 130 [.inr (.inr (.inl (12, 123, 4456))), .inl x1, .inl x2, .inr (.inr (.inr ())), .inr (.inr (.inr ()))] [] M :=
  BX12_run_130 C (fun x1 x2 xs0 M h => PX12_run_131 C h) h
theorem PX12_run_123 {sh : Nat → Nat × Nat} {t : Nat} {rm : Nat × Nat × Nat} {cs : Nat × Nat} {R : f_Rt} {x1 : Int} {x2 : Int} {xs1 : Int} {xs0 : Int} {M : e_M} (C : f_Hy sh t yX12_run rm cs 6 (lX12_run WX12_byteAt WX12_isSmall WX12_isDigit WX12_digits) R) (h : WX12_run_123 (fun M => R none M) x1 x2 xs1 xs0 M) : f_E sh t YX12_run rm cs (f_Q sh t R) 123 [.inr (.inr (.inl (12, 123, 4456))), .inl x1, .inl x2, .inr (.inr (.inr ())), .inr (.inr (.inr ()))] [.inl xs1, .inl xs0] M :=
  BX12_run_123 C (fun x1 x2 M h => PX12_run_130 C h) (fun x1 x2 xs0 M h => PX12_run_131 C h) h
theorem PX12_run_101 {sh : Nat → Nat × Nat} {t : Nat} {rm : Nat × Nat × Nat} {cs : Nat × Nat} {R : f_Rt} {H9 : Int → Int → Int → e_M → Prop} {x1 : Int} {x2 : Int} {x3 : Int} {M : e_M} (C : f_Hy sh t yX12_run rm cs 6 (lX12_run WX12_byteAt WX12_isSmall WX12_isDigit WX12_digits) R) (g9 : ∀ (x1 : Int) (x2 : Int) (x3 : Int) (M : e_M), H9 x1 x2 x3 M → f_E sh t YX12_run rm cs (f_Q sh t R) 9 [.inr (.inr (.inl (12, 123, 4456))), .inl x1, .inl x2, .inl x3, .inr (.inr (.inr ()))] [] M) (h : WX12_run_101 H9 (fun M => R none M) x1 x2 x3 M) : f_E sh t YX12_run rm cs (f_Q sh t R) 101 [.inr (.inr (.inl (12, 123, 4456))), .inl x1, .inl x2, .inl x3, .inr (.inr (.inr ()))] [] M :=
  BX12_run_101 C g9 h
theorem PX12_run_74 {sh : Nat → Nat × Nat} {t : Nat} {rm : Nat × Nat × Nat} {cs : Nat × Nat} {R : f_Rt} {H9 : Int → Int → Int → e_M → Prop} {x1 : Int} {x2 : Int} {x4 : Int} {xs0 : Int} {M : e_M} (C : f_Hy sh t yX12_run rm cs 6 (lX12_run WX12_byteAt WX12_isSmall WX12_isDigit WX12_digits) R) (g9 : ∀ (x1 : Int) (x2 : Int) (x3 : Int) (M : e_M), H9 x1 x2 x3 M → f_E sh t YX12_run rm cs (f_Q sh t R) 9 [.inr (.inr (.inl (12, 123, 4456))), .inl x1, .inl x2, .inl x3, .inr (.inr (.inr ()))] [] M) (h : WX12_run_74 H9 (fun M => R none M) x1 x2 x4 xs0 M) : f_E sh t YX12_run rm cs (f_Q sh t R) 74 [.inr (.inr (.inl (12, 123, 4456))), .inl x1, .inl x2, .inr (.inr (.inr ())), .inl x4] [.inl xs0] M :=
  BX12_run_74 C (fun x1 x2 x3 M h => PX12_run_101 C g9 h) h
theorem PX12_run_69 {sh : Nat → Nat × Nat} {t : Nat} {rm : Nat × Nat × Nat} {cs : Nat × Nat} {R : f_Rt} {H9 : Int → Int → Int → e_M → Prop} {x1 : Int} {x2 : Int} {x4 : Int} {M : e_M} (C : f_Hy sh t yX12_run rm cs 6 (lX12_run WX12_byteAt WX12_isSmall WX12_isDigit WX12_digits) R) (g9 : ∀ (x1 : Int) (x2 : Int) (x3 : Int) (M : e_M), H9 x1 x2 x3 M → f_E sh t YX12_run rm cs (f_Q sh t R) 9 [.inr (.inr (.inl (12, 123, 4456))), .inl x1, .inl x2, .inl x3, .inr (.inr (.inr ()))] [] M) (h : WX12_run_69 H9 (fun M => R none M) x1 x2 x4 M) : f_E sh t YX12_run rm cs (f_Q sh t R) 69 [.inr (.inr (.inl (12, 123, 4456))), .inl x1, .inl x2, .inr (.inr (.inr ())), .inl x4] [] M :=
  BX12_run_69 C (fun x1 x2 x4 xs0 M h => PX12_run_74 C g9 h) h
theorem PX12_run_73 {sh : Nat → Nat × Nat} {t : Nat} {rm : Nat × Nat × Nat} {cs : Nat × Nat} {R : f_Rt} {H9 : Int → Int → Int → e_M → Prop} {x1 : Int} {x2 : Int} {x4 : Int} {M : e_M} (C : f_Hy sh t yX12_run rm cs 6 (lX12_run WX12_byteAt WX12_isSmall WX12_isDigit WX12_digits) R) (g9 : ∀ (x1 : Int) (x2 : Int) (x3 : Int) (M : e_M), H9 x1 x2 x3 M → f_E sh t YX12_run rm cs (f_Q sh t R) 9 [.inr (.inr (.inl (12, 123, 4456))), .inl x1, .inl x2, .inl x3, .inr (.inr (.inr ()))] [] M) (h : WX12_run_73 H9 (fun M => R none M) x1 x2 x4 M) : f_E sh t YX12_run rm cs (f_Q sh t R) 73 [.inr (.inr (.inl (12, 123, 4456))), .inl x1, .inl x2, .inr (.inr (.inr ())), .inl x4] [] M :=
  BX12_run_73 C (fun x1 x2 x4 xs0 M h => PX12_run_74 C g9 h) h
theorem PX12_run_41 {sh : Nat → Nat × Nat} {t : Nat} {rm : Nat × Nat × Nat} {cs : Nat × Nat} {R : f_Rt} {H9 : Int → Int → Int → e_M → Prop} {x1 : Int} {x2 : Int} {x3 : Int} {M : e_M} (C : f_Hy sh t yX12_run rm cs 6 (lX12_run WX12_byteAt WX12_isSmall WX12_isDigit WX12_digits) R) (g9 : ∀ (x1 : Int) (x2 : Int) (x3 : Int) (M : e_M), H9 x1 x2 x3 M → f_E sh t YX12_run rm cs (f_Q sh t R) 9 [.inr (.inr (.inl (12, 123, 4456))), .inl x1, .inl x2, .inl x3, .inr (.inr (.inr ()))] [] M) (h : WX12_run_41 H9 (fun M => R none M) x1 x2 x3 M) : f_E sh t YX12_run rm cs (f_Q sh t R) 41 [.inr (.inr (.inl (12, 123, 4456))), .inl x1, .inl x2, .inl x3, .inr (.inr (.inr ()))] [] M :=
  BX12_run_41 C (fun x1 x2 x4 M h => PX12_run_73 C g9 h) (fun x1 x2 x4 M h => PX12_run_69 C g9 h) h
theorem PX12_run_9 {sh : Nat → Nat × Nat} {t : Nat} {rm : Nat × Nat × Nat} {cs : Nat × Nat} {R : f_Rt} (C : f_Hy sh t yX12_run rm cs 6 (lX12_run WX12_byteAt WX12_isSmall WX12_isDigit WX12_digits) R) : ∀ (n : Nat) (x1 : Int) (x2 : Int) (x3 : Int) (M : e_M), WX12_run_9 (fun M => R none M) n x1 x2 x3 M → f_E sh t YX12_run rm cs (f_Q sh t R) 9 [.inr (.inr (.inl (12, 123, 4456))), .inl x1, .inl x2, .inl x3, .inr (.inr (.inr ()))] [] M := by
  intro n
  induction n with
  | zero => intro x1 x2 x3 M h; exact h.elim
  | succ n ih => intro x1 x2 x3 M h; exact BX12_run_9 C (fun x1 x2 x3 M h => PX12_run_41 C ih h) (fun x1 x2 M h => PX12_run_130 C h) (fun x1 x2 xs1 xs0 M h => PX12_run_123 C h) h
theorem PX12_run {sh : Nat → Nat × Nat} {t : Nat} {rm : Nat × Nat × Nat} {cs : Nat × Nat} {R : f_Rt} {x1 : Int} {M : e_M} (C : f_Hy sh t yX12_run rm cs 6 (lX12_run WX12_byteAt WX12_isSmall WX12_isDigit WX12_digits) R) (h : WX12_run x1 M (fun M => R none M)) : f_E sh t YX12_run rm cs (f_Q sh t R) 0 [.inr (.inr (.inl (12, 123, 4456))), .inl x1, .inr (.inr (.inr ())), .inr (.inr (.inr ())), .inr (.inr (.inr ()))] [] M :=
  BX12_run C (fun x1 x2 x3 M ⟨j, h⟩ => PX12_run_9 C j _ _ _ _ h) h
def wX12_run : f_Wt := f_wm [(4466, 12, 123), (1, 0, 0)] (fun ar M R => WX12_run (f_vi (f_nth ar 1)) M (fun M => R none M))
theorem TX12_run {sh : Nat → Nat × Nat} {t : Nat} : f_Mt sh t YX12_run 6 (wX12_run) :=
  f_Mt_of (k := 3) (Nat.le_of_ble_eq_true rfl) rfl rfl (fun ar M R rm cs h1 h2 h3 hX h => PX12_run ⟨Nat.le_of_ble_eq_true rfl, h1, h2, h3, ⟨(f_Mt.up (Nat.le_of_ble_eq_true rfl) TX12_byteAt), (f_Mt.up (Nat.le_of_ble_eq_true rfl) TX12_isSmall), (f_Mt.up (Nat.le_of_ble_eq_true rfl) TX12_isDigit), (f_Mt.up (Nat.le_of_ble_eq_true rfl) TX12_digits), trivial⟩, hX⟩ h)
def VX12_sign_20 (c_X12_byteAt : Int → e_M → (Int → Prop) → Prop) (k99 : Int → Int → e_M → Prop) (k104 : Int → Int → Int → e_M → Prop) (Q : e_M → Prop) (x1 : Int) (xs0 : Int) (M : e_M) : Prop :=
  ((x1 = 40 → (k99 x1 xs0 M)) ∧ (¬ x1 = 40 → ((x1 = 41 → (k99 x1 xs0 M)) ∧ (¬ x1 = 41 → ((x1 = 123 → (k99 x1 xs0 M)) ∧ (¬ x1 = 123 → ((x1 = 125 → (k99 x1 xs0 M)) ∧ (¬ x1 = 125 → ((x1 = 44 → (k99 x1 xs0 M)) ∧ (¬ x1 = 44 → ((x1 = 47 → (k99 x1 xs0 M)) ∧ (¬ x1 = 47 → ((x1 = 35 → (k99 x1 xs0 M)) ∧ (¬ x1 = 35 → ((x1 = 43 → (k99 x1 xs0 M)) ∧ (¬ x1 = 43 → ((x1 = 45 → (k99 x1 xs0 M)) ∧ (¬ x1 = 45 → ((x1 = 42 → (k99 x1 xs0 M)) ∧ (¬ x1 = 42 → ((x1 = 61 → (k99 x1 xs0 M)) ∧ (¬ x1 = 61 → ((x1 = 60 → (k99 x1 xs0 M)) ∧ (¬ x1 = 60 → ((¬ x1 = 62 → (k104 x1 xs0 0 M)) ∧ (x1 = 62 → (k99 x1 xs0 M)))))))))))))))))))))))))))
def VX12_sign_99 (c_X12_byteAt : Int → e_M → (Int → Prop) → Prop) (k104 : Int → Int → Int → e_M → Prop) (Q : e_M → Prop) (x1 : Int) (x2 : Int) (M : e_M) : Prop :=
  (k104 x1 x2 1 M)
def VX12_sign_104 (c_X12_byteAt : Int → e_M → (Int → Prop) → Prop) (k131 : Int → Int → e_M → Prop) (k127 : Int → Int → e_M → Prop) (Q : e_M → Prop) (x1 : Int) (x2 : Int) (xs0 : Int) (M : e_M) : Prop :=
  ((x2 = 0 → (k131 x1 xs0 M)) ∧ (¬ x2 = 0 → ((x1 = 33 → (k127 x1 xs0 M)) ∧ (¬ x1 = 33 → ((x1 = 60 → (k127 x1 xs0 M)) ∧ (¬ x1 = 60 → ((¬ x1 = 62 → (k131 x1 xs0 M)) ∧ (x1 = 62 → (k127 x1 xs0 M)))))))))
def VX12_sign_127 (c_X12_byteAt : Int → e_M → (Int → Prop) → Prop) (k132 : Int → Int → Int → e_M → Prop) (Q : e_M → Prop) (x1 : Int) (x3 : Int) (M : e_M) : Prop :=
  (k132 x1 x3 1 M)
def VX12_sign_131 (c_X12_byteAt : Int → e_M → (Int → Prop) → Prop) (k132 : Int → Int → Int → e_M → Prop) (Q : e_M → Prop) (x1 : Int) (x3 : Int) (M : e_M) : Prop :=
  (k132 x1 x3 0 M)
def VX12_sign_132 (c_X12_byteAt : Int → e_M → (Int → Prop) → Prop) (k144 : Int → Int → e_M → Prop) (k149 : Int → Int → Int → e_M → Prop) (Q : e_M → Prop) (x1 : Int) (x3 : Int) (xs0 : Int) (M : e_M) : Prop :=
  ((¬ x3 = 0 → (k144 x1 xs0 M)) ∧ (x3 = 0 → ((xs0 = 0 → (k149 x1 xs0 5 M)) ∧ (¬ xs0 = 0 → (k144 x1 xs0 M)))))
def VX12_sign_144 (c_X12_byteAt : Int → e_M → (Int → Prop) → Prop) (k149 : Int → Int → Int → e_M → Prop) (Q : e_M → Prop) (x1 : Int) (x4 : Int) (M : e_M) : Prop :=
  (k149 x1 x4 4 M)
def VX12_sign_149 (c_X12_byteAt : Int → e_M → (Int → Prop) → Prop) (k167 : Int → Int → e_M → Prop) (Q : e_M → Prop) (x1 : Int) (x4 : Int) (xs1 : Int) (M : e_M) : Prop :=
  (∀ M1 : e_M, M1 = e_up M 4456 7 xs1 → ((x4 = 0 → (k167 x4 x1 M1)) ∧ (¬ x4 = 0 → (k167 x4 (e_w32 ((256 : Int) + x1)) M1))))
def VX12_sign_167 (c_X12_byteAt : Int → e_M → (Int → Prop) → Prop) (k185 : Int → Int → e_M → Prop) (Q : e_M → Prop) (x4 : Int) (xs1 : Int) (M : e_M) : Prop :=
  (∀ M1 : e_M, M1 = e_up M 4456 9 xs1 → ((x4 = 0 → (k185 1 (M1 4456 6) M1)) ∧ (¬ x4 = 0 → (k185 2 (M1 4456 6) M1))))
def VX12_sign_185 (c_X12_byteAt : Int → e_M → (Int → Prop) → Prop) (Q : e_M → Prop) (xs2 : Int) (xs1 : Int) (M : e_M) : Prop :=
  (∀ M1 : e_M, M1 = e_up M 4456 6 (e_w32 (xs1 + xs2)) → (Q M1))
def VX12_sign (c_X12_byteAt : Int → e_M → (Int → Prop) → Prop) (k20 : Int → Int → e_M → Prop) (Q : e_M → Prop) (x1 : Int) (M : e_M) : Prop :=
  (c_X12_byteAt (e_w32 ((M 4456 6) + 1)) M (fun r1 => ((¬ r1 = 61 → (k20 x1 0 M)) ∧ (r1 = 61 → (k20 x1 1 M)))))
def yX12_sign (i : Nat) : e_Y := x_get YX12_sign [YX12_byteAt] i
def pX12_signf : List x_I := [(0, 4, 1, 0, 0, 0, []), (1, 4, 1, 0, 0, 0, []), (2, 25, 12, 6, 0, 0, []), (5, 0, 1, 0, 0, 1, []), (6, 9, 0, 0, 0, 0, []), (7, 40, 0, 2, 14, 0, []), (10, 0, 2, 0, 0, 61, []), (12, 18, 19, 1, 11, 0, []), (15, 0, 1, 0, 0, 1, []), (16, 19, 20, 0, 12, 0, []), (19, 0, 1, 0, 0, 0, []), (20, 49, 0, 0, 0, 0, []), (20, 5, 1, 2, 0, 0, []), (21, 2, 1, 1, 0, 0, []), (22, 0, 2, 0, 0, 40, []), (24, 18, 99, 0, 53, 0, []), (27, 2, 1, 1, 0, 0, []), (28, 0, 2, 0, 0, 41, []), (30, 18, 99, 0, 53, 0, []), (33, 2, 1, 1, 0, 0, []), (34, 0, 2, 0, 0, 123, []), (36, 18, 99, 0, 53, 0, []), (39, 2, 1, 1, 0, 0, []), (40, 0, 2, 0, 0, 125, []), (42, 18, 99, 0, 53, 0, []), (45, 2, 1, 1, 0, 0, []), (46, 0, 2, 0, 0, 44, []), (48, 18, 99, 0, 53, 0, []), (51, 2, 1, 1, 0, 0, []), (52, 0, 2, 0, 0, 47, []), (54, 18, 99, 0, 53, 0, []), (57, 2, 1, 1, 0, 0, []), (58, 0, 2, 0, 0, 35, []), (60, 18, 99, 0, 53, 0, []), (63, 2, 1, 1, 0, 0, []), (64, 0, 2, 0, 0, 43, []), (66, 18, 99, 0, 53, 0, []), (69, 2, 1, 1, 0, 0, []), (70, 0, 2, 0, 0, 45, []), (72, 18, 99, 0, 53, 0, []), (75, 2, 1, 1, 0, 0, []), (76, 0, 2, 0, 0, 42, []), (78, 18, 99, 0, 53, 0, []), (81, 2, 1, 1, 0, 0, []), (82, 0, 2, 0, 0, 61, []), (84, 18, 99, 0, 53, 0, []), (87, 2, 1, 1, 0, 0, []), (88, 0, 2, 0, 0, 60, []), (90, 18, 99, 0, 53, 0, []), (93, 2, 1, 1, 0, 0, []), (94, 0, 2, 0, 0, 62, []), (96, 18, 103, 1, 56, 0, []), (99, 49, 0, 0, 0, 0, []), (99, 0, 1, 0, 0, 1, []), (100, 19, 104, 0, 57, 0, []), (103, 0, 1, 0, 0, 0, []), (104, 49, 0, 0, 0, 0, []), (104, 5, 1, 3, 0, 0, []), (105, 2, 1, 2, 0, 0, []), (106, 17, 131, 0, 73, 0, []), (109, 2, 1, 1, 0, 0, []), (110, 0, 2, 0, 0, 33, []), (112, 18, 127, 0, 70, 0, []), (115, 2, 1, 1, 0, 0, []), (116, 0, 2, 0, 0, 60, []), (118, 18, 127, 0, 70, 0, []), (121, 2, 1, 1, 0, 0, []), (122, 0, 2, 0, 0, 62, []), (124, 18, 131, 1, 73, 0, []), (127, 49, 0, 0, 0, 0, []), (127, 0, 1, 0, 0, 1, []), (128, 19, 132, 0, 75, 0, []), (131, 49, 0, 0, 0, 0, []), (131, 0, 1, 0, 0, 0, []), (132, 49, 0, 0, 0, 0, []), (132, 5, 2, 4, 0, 0, []), (134, 4, 1, 0, 0, 0, []), (135, 2, 1, 3, 0, 0, []), (136, 17, 144, 1, 82, 0, []), (139, 2, 2, 4, 0, 0, []), (141, 17, 148, 0, 85, 0, []), (144, 49, 0, 0, 0, 0, []), (144, 0, 1, 0, 0, 4, []), (145, 19, 149, 0, 86, 0, []), (148, 0, 1, 0, 0, 5, []), (149, 49, 0, 0, 0, 0, []), (149, 26, 12, 7, 0, 0, []), (152, 4, 1, 0, 0, 0, []), (153, 2, 2, 4, 0, 0, []), (155, 17, 166, 0, 95, 0, []), (158, 0, 3, 0, 0, 256, []), (161, 2, 1, 1, 0, 0, []), (162, 9, 0, 0, 0, 0, []), (163, 19, 167, 0, 96, 0, []), (166, 2, 1, 1, 0, 0, []), (167, 49, 0, 0, 0, 0, []), (167, 26, 12, 9, 0, 0, []), (170, 4, 1, 0, 0, 0, []), (171, 20, 0, 0, 0, 0, []), (172, 25, 12, 6, 0, 0, []), (175, 2, 2, 4, 0, 0, []), (177, 17, 184, 0, 105, 0, []), (180, 0, 1, 0, 0, 2, []), (181, 19, 185, 0, 106, 0, []), (184, 0, 1, 0, 0, 1, []), (185, 49, 0, 0, 0, 0, []), (185, 9, 0, 0, 0, 0, []), (186, 26, 12, 6, 0, 0, []), (189, 44, 0, 0, 0, 0, [])]
set_option maxRecDepth 20000 in
theorem qX12_signf : f_all yX12_sign YX12_sign pX12_signf :=
  ⟨f_aload_n (n := 0) (e_dx DX12_sign_0 0 rfl) rfl,
  f_aload_n (n := 0) (e_dx DX12_sign_0 1 rfl) rfl,
  f_getf (e_dx DX12_sign_0 2 rfl) fX12_300 rfl (by decide) (by decide) (by decide),
  f_iconst (e_dx DX12_sign_0 3 rfl) ⟨by decide, by decide⟩,
  f_iadd (e_dx DX12_sign_0 4 rfl),
  x_callV (e_dx DX12_sign_0 5 rfl) mwX12_byteAt vwX12_byteAt cX12_291 rfl,
  f_bipush (e_dx DX12_sign_0 6 rfl) ⟨by decide, by decide⟩,
  f_icmp_ne (e_dx DX12_sign_0 7 rfl) rfl,
  f_iconst (e_dx DX12_sign_0 8 rfl) ⟨by decide, by decide⟩,
  f_g19 (e_dx DX12_sign_0 9 rfl) rfl,
  f_iconst (e_dx DX12_sign_0 10 rfl) ⟨by decide, by decide⟩,
  trivial,
  f_istore_n (n := 2) (e_dx DX12_sign_0 11 rfl) rfl (by decide),
  f_iload_n (n := 1) (e_dx DX12_sign_0 12 rfl) rfl,
  f_bipush (e_dx DX12_sign_0 13 rfl) ⟨by decide, by decide⟩,
  f_icmp_eq (e_dx DX12_sign_0 14 rfl) rfl,
  f_iload_n (n := 1) (e_dx DX12_sign_0 15 rfl) rfl,
  f_bipush (e_dx DX12_sign_0 16 rfl) ⟨by decide, by decide⟩,
  f_icmp_eq (e_dx DX12_sign_0 17 rfl) rfl,
  f_iload_n (n := 1) (e_dx DX12_sign_0 18 rfl) rfl,
  f_bipush (e_dx DX12_sign_0 19 rfl) ⟨by decide, by decide⟩,
  f_icmp_eq (e_dx DX12_sign_0 20 rfl) rfl,
  f_iload_n (n := 1) (e_dx DX12_sign_0 21 rfl) rfl,
  f_bipush (e_dx DX12_sign_0 22 rfl) ⟨by decide, by decide⟩,
  f_icmp_eq (e_dx DX12_sign_0 23 rfl) rfl,
  f_iload_n (n := 1) (e_dx DX12_sign_0 24 rfl) rfl,
  f_bipush (e_dx DX12_sign_0 25 rfl) ⟨by decide, by decide⟩,
  f_icmp_eq (e_dx DX12_sign_0 26 rfl) rfl,
  f_iload_n (n := 1) (e_dx DX12_sign_0 27 rfl) rfl,
  f_bipush (e_dx DX12_sign_0 28 rfl) ⟨by decide, by decide⟩,
  f_icmp_eq (e_dx DX12_sign_0 29 rfl) rfl,
  f_iload_n (n := 1) (e_dx DX12_sign_0 30 rfl) rfl,
  f_bipush (e_dx DX12_sign_0 31 rfl) ⟨by decide, by decide⟩,
  f_icmp_eq (e_dx DX12_sign_0 32 rfl) rfl,
  f_iload_n (n := 1) (e_dx DX12_sign_0 33 rfl) rfl,
  f_bipush (e_dx DX12_sign_0 34 rfl) ⟨by decide, by decide⟩,
  f_icmp_eq (e_dx DX12_sign_0 35 rfl) rfl,
  f_iload_n (n := 1) (e_dx DX12_sign_0 36 rfl) rfl,
  f_bipush (e_dx DX12_sign_0 37 rfl) ⟨by decide, by decide⟩,
  f_icmp_eq (e_dx DX12_sign_0 38 rfl) rfl,
  f_iload_n (n := 1) (e_dx DX12_sign_0 39 rfl) rfl,
  f_bipush (e_dx DX12_sign_1 0 rfl) ⟨by decide, by decide⟩,
  f_icmp_eq (e_dx DX12_sign_1 1 rfl) rfl,
  f_iload_n (n := 1) (e_dx DX12_sign_1 2 rfl) rfl,
  f_bipush (e_dx DX12_sign_1 3 rfl) ⟨by decide, by decide⟩,
  f_icmp_eq (e_dx DX12_sign_1 4 rfl) rfl,
  f_iload_n (n := 1) (e_dx DX12_sign_1 5 rfl) rfl,
  f_bipush (e_dx DX12_sign_1 6 rfl) ⟨by decide, by decide⟩,
  f_icmp_eq (e_dx DX12_sign_1 7 rfl) rfl,
  f_iload_n (n := 1) (e_dx DX12_sign_1 8 rfl) rfl,
  f_bipush (e_dx DX12_sign_1 9 rfl) ⟨by decide, by decide⟩,
  f_icmp_ne (e_dx DX12_sign_1 10 rfl) rfl,
  trivial,
  f_iconst (e_dx DX12_sign_1 11 rfl) ⟨by decide, by decide⟩,
  f_g19 (e_dx DX12_sign_1 12 rfl) rfl,
  f_iconst (e_dx DX12_sign_1 13 rfl) ⟨by decide, by decide⟩,
  trivial,
  f_istore_n (n := 3) (e_dx DX12_sign_1 14 rfl) rfl (by decide),
  f_iload_n (n := 2) (e_dx DX12_sign_1 15 rfl) rfl,
  f_if_eq (e_dx DX12_sign_1 16 rfl) rfl,
  f_iload_n (n := 1) (e_dx DX12_sign_1 17 rfl) rfl,
  f_bipush (e_dx DX12_sign_1 18 rfl) ⟨by decide, by decide⟩,
  f_icmp_eq (e_dx DX12_sign_1 19 rfl) rfl,
  f_iload_n (n := 1) (e_dx DX12_sign_1 20 rfl) rfl,
  f_bipush (e_dx DX12_sign_1 21 rfl) ⟨by decide, by decide⟩,
  f_icmp_eq (e_dx DX12_sign_1 22 rfl) rfl,
  f_iload_n (n := 1) (e_dx DX12_sign_1 23 rfl) rfl,
  f_bipush (e_dx DX12_sign_1 24 rfl) ⟨by decide, by decide⟩,
  f_icmp_ne (e_dx DX12_sign_1 25 rfl) rfl,
  trivial,
  f_iconst (e_dx DX12_sign_1 26 rfl) ⟨by decide, by decide⟩,
  f_g19 (e_dx DX12_sign_1 27 rfl) rfl,
  trivial,
  f_iconst (e_dx DX12_sign_1 28 rfl) ⟨by decide, by decide⟩,
  trivial,
  f_istore (e_dx DX12_sign_1 29 rfl) (by decide),
  f_aload_n (n := 0) (e_dx DX12_sign_1 30 rfl) rfl,
  f_iload_n (n := 3) (e_dx DX12_sign_1 31 rfl) rfl,
  f_if_ne (e_dx DX12_sign_1 32 rfl) rfl,
  f_iload (e_dx DX12_sign_1 33 rfl),
  f_if_eq (e_dx DX12_sign_1 34 rfl) rfl,
  trivial,
  f_iconst (e_dx DX12_sign_1 35 rfl) ⟨by decide, by decide⟩,
  f_g19 (e_dx DX12_sign_1 36 rfl) rfl,
  f_iconst (e_dx DX12_sign_1 37 rfl) ⟨by decide, by decide⟩,
  trivial,
  f_putn (e_dx DX12_sign_1 38 rfl) fX12_309 (fun q hq => by cases hq; rfl) rfl (Or.inl rfl) (by decide),
  f_aload_n (n := 0) (e_dx DX12_sign_1 39 rfl) rfl,
  f_iload (e_dx DX12_sign_2 0 rfl),
  f_if_eq (e_dx DX12_sign_2 1 rfl) rfl,
  f_sipush (e_dx DX12_sign_2 2 rfl) ⟨by decide, by decide⟩,
  f_iload_n (n := 1) (e_dx DX12_sign_2 3 rfl) rfl,
  f_iadd (e_dx DX12_sign_2 4 rfl),
  f_g19 (e_dx DX12_sign_2 5 rfl) rfl,
  f_iload_n (n := 1) (e_dx DX12_sign_2 6 rfl) rfl,
  trivial,
  f_putn (e_dx DX12_sign_2 7 rfl) fX12_321 (fun q hq => by cases hq; rfl) rfl (Or.inl rfl) (by decide),
  f_aload_n (n := 0) (e_dx DX12_sign_2 8 rfl) rfl,
  f_g20 (e_dx DX12_sign_2 9 rfl),
  f_getf (e_dx DX12_sign_2 10 rfl) fX12_300 rfl (by decide) (by decide) (by decide),
  f_iload (e_dx DX12_sign_2 11 rfl),
  f_if_eq (e_dx DX12_sign_2 12 rfl) rfl,
  f_iconst (e_dx DX12_sign_2 13 rfl) ⟨by decide, by decide⟩,
  f_g19 (e_dx DX12_sign_2 14 rfl) rfl,
  f_iconst (e_dx DX12_sign_2 15 rfl) ⟨by decide, by decide⟩,
  trivial,
  f_iadd (e_dx DX12_sign_2 16 rfl),
  f_putn (e_dx DX12_sign_2 17 rfl) fX12_300 (fun q hq => by cases hq; rfl) rfl (Or.inl rfl) (by decide),
  ⟨(e_dx DX12_sign_2 18 rfl), rfl⟩, trivial⟩
def lX12_sign (c_X12_byteAt : Int → e_M → (Int → Prop) → Prop) : List (Nat × f_Wt) := [(0, f_wm [(4466, 12, 123), (1, 0, 0)] (fun ar M R => c_X12_byteAt (f_vi (f_nth ar 1)) M (fun r => R (some (.inl r)) M)))]
set_option maxRecDepth 20000 in
theorem BX12_sign_20 {sh : Nat → Nat × Nat} {t : Nat} {rm : Nat × Nat × Nat} {cs : Nat × Nat} {R : f_Rt} {c_X12_byteAt : Int → e_M → (Int → Prop) → Prop} {k99 : Int → Int → e_M → Prop} {k104 : Int → Int → Int → e_M → Prop} {x1 : Int} {xs0 : Int} {M : e_M} (C : f_Hy sh t yX12_sign rm cs 5 (lX12_sign c_X12_byteAt) R) (h99 : ∀ (x1 : Int) (x2 : Int) (M : e_M), k99 x1 x2 M → f_E sh t YX12_sign rm cs (f_Q sh t R) 99 [.inr (.inr (.inl (12, 123, 4456))), .inl x1, .inl x2, .inr (.inr (.inr ())), .inr (.inr (.inr ()))] [] M) (h104 : ∀ (x1 : Int) (x2 : Int) (xs0 : Int) (M : e_M), k104 x1 x2 xs0 M → f_E sh t YX12_sign rm cs (f_Q sh t R) 104 [.inr (.inr (.inl (12, 123, 4456))), .inl x1, .inl x2, .inr (.inr (.inr ())), .inr (.inr (.inr ()))] [.inl xs0] M) (h : VX12_sign_20 c_X12_byteAt k99 k104 (fun M => R none M) x1 xs0 M) : f_E sh t YX12_sign rm cs (f_Q sh t R) 20 [.inr (.inr (.inl (12, 123, 4456))), .inl x1, .inr (.inr (.inr ())), .inr (.inr (.inr ())), .inr (.inr (.inr ()))] [.inl xs0] M :=
  f_go (KC := f_kc [(99, f_pl [(4466, 12, 123), (1, 0, 0), (1, 0, 0), (0, 0, 0), (0, 0, 0)] [] (fun ls st M => k99 (f_vi (f_nth ls 1)) (f_vi (f_nth ls 2)) M)), (104, f_pl [(4466, 12, 123), (1, 0, 0), (1, 0, 0), (0, 0, 0), (0, 0, 0)] [(1, 0, 0)] (fun ls st M => k104 (f_vi (f_nth ls 1)) (f_vi (f_nth ls 2)) (f_vi (f_nth st 0)) M))]) C qX12_signf (f_kc_cons (f_pl_ok rfl (fun ls st M h => h99 _ _ M h)) (f_kc_cons (f_pl_ok rfl (fun ls st M h => h104 _ _ _ M h)) f_kc_nil)) 111 12 h
set_option maxRecDepth 20000 in
theorem BX12_sign_99 {sh : Nat → Nat × Nat} {t : Nat} {rm : Nat × Nat × Nat} {cs : Nat × Nat} {R : f_Rt} {c_X12_byteAt : Int → e_M → (Int → Prop) → Prop} {k104 : Int → Int → Int → e_M → Prop} {x1 : Int} {x2 : Int} {M : e_M} (C : f_Hy sh t yX12_sign rm cs 5 (lX12_sign c_X12_byteAt) R) (h104 : ∀ (x1 : Int) (x2 : Int) (xs0 : Int) (M : e_M), k104 x1 x2 xs0 M → f_E sh t YX12_sign rm cs (f_Q sh t R) 104 [.inr (.inr (.inl (12, 123, 4456))), .inl x1, .inl x2, .inr (.inr (.inr ())), .inr (.inr (.inr ()))] [.inl xs0] M) (h : VX12_sign_99 c_X12_byteAt k104 (fun M => R none M) x1 x2 M) : f_E sh t YX12_sign rm cs (f_Q sh t R) 99 [.inr (.inr (.inl (12, 123, 4456))), .inl x1, .inl x2, .inr (.inr (.inr ())), .inr (.inr (.inr ()))] [] M :=
  f_go (KC := f_kc [(104, f_pl [(4466, 12, 123), (1, 0, 0), (1, 0, 0), (0, 0, 0), (0, 0, 0)] [(1, 0, 0)] (fun ls st M => k104 (f_vi (f_nth ls 1)) (f_vi (f_nth ls 2)) (f_vi (f_nth st 0)) M))]) C qX12_signf (f_kc_cons (f_pl_ok rfl (fun ls st M h => h104 _ _ _ M h)) f_kc_nil) 111 53 h
set_option maxRecDepth 20000 in
theorem BX12_sign_104 {sh : Nat → Nat × Nat} {t : Nat} {rm : Nat × Nat × Nat} {cs : Nat × Nat} {R : f_Rt} {c_X12_byteAt : Int → e_M → (Int → Prop) → Prop} {k131 : Int → Int → e_M → Prop} {k127 : Int → Int → e_M → Prop} {x1 : Int} {x2 : Int} {xs0 : Int} {M : e_M} (C : f_Hy sh t yX12_sign rm cs 5 (lX12_sign c_X12_byteAt) R) (h131 : ∀ (x1 : Int) (x3 : Int) (M : e_M), k131 x1 x3 M → f_E sh t YX12_sign rm cs (f_Q sh t R) 131 [.inr (.inr (.inl (12, 123, 4456))), .inl x1, .inr (.inr (.inr ())), .inl x3, .inr (.inr (.inr ()))] [] M) (h127 : ∀ (x1 : Int) (x3 : Int) (M : e_M), k127 x1 x3 M → f_E sh t YX12_sign rm cs (f_Q sh t R) 127 [.inr (.inr (.inl (12, 123, 4456))), .inl x1, .inr (.inr (.inr ())), .inl x3, .inr (.inr (.inr ()))] [] M) (h : VX12_sign_104 c_X12_byteAt k131 k127 (fun M => R none M) x1 x2 xs0 M) : f_E sh t YX12_sign rm cs (f_Q sh t R) 104 [.inr (.inr (.inl (12, 123, 4456))), .inl x1, .inl x2, .inr (.inr (.inr ())), .inr (.inr (.inr ()))] [.inl xs0] M :=
  f_go (KC := f_kc [(131, f_pl [(4466, 12, 123), (1, 0, 0), (0, 0, 0), (1, 0, 0), (0, 0, 0)] [] (fun ls st M => k131 (f_vi (f_nth ls 1)) (f_vi (f_nth ls 3)) M)), (127, f_pl [(4466, 12, 123), (1, 0, 0), (0, 0, 0), (1, 0, 0), (0, 0, 0)] [] (fun ls st M => k127 (f_vi (f_nth ls 1)) (f_vi (f_nth ls 3)) M))]) C qX12_signf (f_kc_cons (f_pl_ok rfl (fun ls st M h => h131 _ _ M h)) (f_kc_cons (f_pl_ok rfl (fun ls st M h => h127 _ _ M h)) f_kc_nil)) 111 57 h
set_option maxRecDepth 20000 in
theorem BX12_sign_127 {sh : Nat → Nat × Nat} {t : Nat} {rm : Nat × Nat × Nat} {cs : Nat × Nat} {R : f_Rt} {c_X12_byteAt : Int → e_M → (Int → Prop) → Prop} {k132 : Int → Int → Int → e_M → Prop} {x1 : Int} {x3 : Int} {M : e_M} (C : f_Hy sh t yX12_sign rm cs 5 (lX12_sign c_X12_byteAt) R) (h132 : ∀ (x1 : Int) (x3 : Int) (xs0 : Int) (M : e_M), k132 x1 x3 xs0 M → f_E sh t YX12_sign rm cs (f_Q sh t R) 132 [.inr (.inr (.inl (12, 123, 4456))), .inl x1, .inr (.inr (.inr ())), .inl x3, .inr (.inr (.inr ()))] [.inl xs0] M) (h : VX12_sign_127 c_X12_byteAt k132 (fun M => R none M) x1 x3 M) : f_E sh t YX12_sign rm cs (f_Q sh t R) 127 [.inr (.inr (.inl (12, 123, 4456))), .inl x1, .inr (.inr (.inr ())), .inl x3, .inr (.inr (.inr ()))] [] M :=
  f_go (KC := f_kc [(132, f_pl [(4466, 12, 123), (1, 0, 0), (0, 0, 0), (1, 0, 0), (0, 0, 0)] [(1, 0, 0)] (fun ls st M => k132 (f_vi (f_nth ls 1)) (f_vi (f_nth ls 3)) (f_vi (f_nth st 0)) M))]) C qX12_signf (f_kc_cons (f_pl_ok rfl (fun ls st M h => h132 _ _ _ M h)) f_kc_nil) 111 70 h
set_option maxRecDepth 20000 in
theorem BX12_sign_131 {sh : Nat → Nat × Nat} {t : Nat} {rm : Nat × Nat × Nat} {cs : Nat × Nat} {R : f_Rt} {c_X12_byteAt : Int → e_M → (Int → Prop) → Prop} {k132 : Int → Int → Int → e_M → Prop} {x1 : Int} {x3 : Int} {M : e_M} (C : f_Hy sh t yX12_sign rm cs 5 (lX12_sign c_X12_byteAt) R) (h132 : ∀ (x1 : Int) (x3 : Int) (xs0 : Int) (M : e_M), k132 x1 x3 xs0 M → f_E sh t YX12_sign rm cs (f_Q sh t R) 132 [.inr (.inr (.inl (12, 123, 4456))), .inl x1, .inr (.inr (.inr ())), .inl x3, .inr (.inr (.inr ()))] [.inl xs0] M) (h : VX12_sign_131 c_X12_byteAt k132 (fun M => R none M) x1 x3 M) : f_E sh t YX12_sign rm cs (f_Q sh t R) 131 [.inr (.inr (.inl (12, 123, 4456))), .inl x1, .inr (.inr (.inr ())), .inl x3, .inr (.inr (.inr ()))] [] M :=
  f_go (KC := f_kc [(132, f_pl [(4466, 12, 123), (1, 0, 0), (0, 0, 0), (1, 0, 0), (0, 0, 0)] [(1, 0, 0)] (fun ls st M => k132 (f_vi (f_nth ls 1)) (f_vi (f_nth ls 3)) (f_vi (f_nth st 0)) M))]) C qX12_signf (f_kc_cons (f_pl_ok rfl (fun ls st M h => h132 _ _ _ M h)) f_kc_nil) 111 73 h
set_option maxRecDepth 20000 in
theorem BX12_sign_132 {sh : Nat → Nat × Nat} {t : Nat} {rm : Nat × Nat × Nat} {cs : Nat × Nat} {R : f_Rt} {c_X12_byteAt : Int → e_M → (Int → Prop) → Prop} {k144 : Int → Int → e_M → Prop} {k149 : Int → Int → Int → e_M → Prop} {x1 : Int} {x3 : Int} {xs0 : Int} {M : e_M} (C : f_Hy sh t yX12_sign rm cs 5 (lX12_sign c_X12_byteAt) R) (h144 : ∀ (x1 : Int) (x4 : Int) (M : e_M), k144 x1 x4 M → f_E sh t YX12_sign rm cs (f_Q sh t R) 144 [.inr (.inr (.inl (12, 123, 4456))), .inl x1, .inr (.inr (.inr ())), .inr (.inr (.inr ())), .inl x4] [.inr (.inr (.inl (12, 123, 4456)))] M) (h149 : ∀ (x1 : Int) (x4 : Int) (xs1 : Int) (M : e_M), k149 x1 x4 xs1 M → f_E sh t YX12_sign rm cs (f_Q sh t R) 149 [.inr (.inr (.inl (12, 123, 4456))), .inl x1, .inr (.inr (.inr ())), .inr (.inr (.inr ())), .inl x4] [.inl xs1, .inr (.inr (.inl (12, 123, 4456)))] M) (h : VX12_sign_132 c_X12_byteAt k144 k149 (fun M => R none M) x1 x3 xs0 M) : f_E sh t YX12_sign rm cs (f_Q sh t R) 132 [.inr (.inr (.inl (12, 123, 4456))), .inl x1, .inr (.inr (.inr ())), .inl x3, .inr (.inr (.inr ()))] [.inl xs0] M :=
  f_go (KC := f_kc [(144, f_pl [(4466, 12, 123), (1, 0, 0), (0, 0, 0), (0, 0, 0), (1, 0, 0)] [(4466, 12, 123)] (fun ls st M => k144 (f_vi (f_nth ls 1)) (f_vi (f_nth ls 4)) M)), (149, f_pl [(4466, 12, 123), (1, 0, 0), (0, 0, 0), (0, 0, 0), (1, 0, 0)] [(1, 0, 0), (4466, 12, 123)] (fun ls st M => k149 (f_vi (f_nth ls 1)) (f_vi (f_nth ls 4)) (f_vi (f_nth st 0)) M))]) C qX12_signf (f_kc_cons (f_pl_ok rfl (fun ls st M h => h144 _ _ M h)) (f_kc_cons (f_pl_ok rfl (fun ls st M h => h149 _ _ _ M h)) f_kc_nil)) 111 75 h
set_option maxRecDepth 20000 in
theorem BX12_sign_144 {sh : Nat → Nat × Nat} {t : Nat} {rm : Nat × Nat × Nat} {cs : Nat × Nat} {R : f_Rt} {c_X12_byteAt : Int → e_M → (Int → Prop) → Prop} {k149 : Int → Int → Int → e_M → Prop} {x1 : Int} {x4 : Int} {M : e_M} (C : f_Hy sh t yX12_sign rm cs 5 (lX12_sign c_X12_byteAt) R) (h149 : ∀ (x1 : Int) (x4 : Int) (xs1 : Int) (M : e_M), k149 x1 x4 xs1 M → f_E sh t YX12_sign rm cs (f_Q sh t R) 149 [.inr (.inr (.inl (12, 123, 4456))), .inl x1, .inr (.inr (.inr ())), .inr (.inr (.inr ())), .inl x4] [.inl xs1, .inr (.inr (.inl (12, 123, 4456)))] M) (h : VX12_sign_144 c_X12_byteAt k149 (fun M => R none M) x1 x4 M) : f_E sh t YX12_sign rm cs (f_Q sh t R) 144 [.inr (.inr (.inl (12, 123, 4456))), .inl x1, .inr (.inr (.inr ())), .inr (.inr (.inr ())), .inl x4] [.inr (.inr (.inl (12, 123, 4456)))] M :=
  f_go (KC := f_kc [(149, f_pl [(4466, 12, 123), (1, 0, 0), (0, 0, 0), (0, 0, 0), (1, 0, 0)] [(1, 0, 0), (4466, 12, 123)] (fun ls st M => k149 (f_vi (f_nth ls 1)) (f_vi (f_nth ls 4)) (f_vi (f_nth st 0)) M))]) C qX12_signf (f_kc_cons (f_pl_ok rfl (fun ls st M h => h149 _ _ _ M h)) f_kc_nil) 111 82 h
set_option maxRecDepth 20000 in
theorem BX12_sign_149 {sh : Nat → Nat × Nat} {t : Nat} {rm : Nat × Nat × Nat} {cs : Nat × Nat} {R : f_Rt} {c_X12_byteAt : Int → e_M → (Int → Prop) → Prop} {k167 : Int → Int → e_M → Prop} {x1 : Int} {x4 : Int} {xs1 : Int} {M : e_M} (C : f_Hy sh t yX12_sign rm cs 5 (lX12_sign c_X12_byteAt) R) (h167 : ∀ (x4 : Int) (xs1 : Int) (M : e_M), k167 x4 xs1 M → f_E sh t YX12_sign rm cs (f_Q sh t R) 167 [.inr (.inr (.inl (12, 123, 4456))), .inr (.inr (.inr ())), .inr (.inr (.inr ())), .inr (.inr (.inr ())), .inl x4] [.inl xs1, .inr (.inr (.inl (12, 123, 4456)))] M) (h : VX12_sign_149 c_X12_byteAt k167 (fun M => R none M) x1 x4 xs1 M) : f_E sh t YX12_sign rm cs (f_Q sh t R) 149 [.inr (.inr (.inl (12, 123, 4456))), .inl x1, .inr (.inr (.inr ())), .inr (.inr (.inr ())), .inl x4] [.inl xs1, .inr (.inr (.inl (12, 123, 4456)))] M :=
  f_go (KC := f_kc [(167, f_pl [(4466, 12, 123), (0, 0, 0), (0, 0, 0), (0, 0, 0), (1, 0, 0)] [(1, 0, 0), (4466, 12, 123)] (fun ls st M => k167 (f_vi (f_nth ls 4)) (f_vi (f_nth st 0)) M))]) C qX12_signf (f_kc_cons (f_pl_ok rfl (fun ls st M h => h167 _ _ M h)) f_kc_nil) 111 86 h
set_option maxRecDepth 20000 in
theorem BX12_sign_167 {sh : Nat → Nat × Nat} {t : Nat} {rm : Nat × Nat × Nat} {cs : Nat × Nat} {R : f_Rt} {c_X12_byteAt : Int → e_M → (Int → Prop) → Prop} {k185 : Int → Int → e_M → Prop} {x4 : Int} {xs1 : Int} {M : e_M} (C : f_Hy sh t yX12_sign rm cs 5 (lX12_sign c_X12_byteAt) R) (h185 : ∀ (xs2 : Int) (xs1 : Int) (M : e_M), k185 xs2 xs1 M → f_E sh t YX12_sign rm cs (f_Q sh t R) 185 [.inr (.inr (.inr ())), .inr (.inr (.inr ())), .inr (.inr (.inr ())), .inr (.inr (.inr ())), .inr (.inr (.inr ()))] [.inl xs2, .inl xs1, .inr (.inr (.inl (12, 123, 4456)))] M) (h : VX12_sign_167 c_X12_byteAt k185 (fun M => R none M) x4 xs1 M) : f_E sh t YX12_sign rm cs (f_Q sh t R) 167 [.inr (.inr (.inl (12, 123, 4456))), .inr (.inr (.inr ())), .inr (.inr (.inr ())), .inr (.inr (.inr ())), .inl x4] [.inl xs1, .inr (.inr (.inl (12, 123, 4456)))] M :=
  f_go (KC := f_kc [(185, f_pl [(0, 0, 0), (0, 0, 0), (0, 0, 0), (0, 0, 0), (0, 0, 0)] [(1, 0, 0), (1, 0, 0), (4466, 12, 123)] (fun ls st M => k185 (f_vi (f_nth st 0)) (f_vi (f_nth st 1)) M))]) C qX12_signf (f_kc_cons (f_pl_ok rfl (fun ls st M h => h185 _ _ M h)) f_kc_nil) 111 96 h
set_option maxRecDepth 20000 in
theorem BX12_sign_185 {sh : Nat → Nat × Nat} {t : Nat} {rm : Nat × Nat × Nat} {cs : Nat × Nat} {R : f_Rt} {c_X12_byteAt : Int → e_M → (Int → Prop) → Prop} {xs2 : Int} {xs1 : Int} {M : e_M} (C : f_Hy sh t yX12_sign rm cs 5 (lX12_sign c_X12_byteAt) R) (h : VX12_sign_185 c_X12_byteAt (fun M => R none M) xs2 xs1 M) : f_E sh t YX12_sign rm cs (f_Q sh t R) 185 [.inr (.inr (.inr ())), .inr (.inr (.inr ())), .inr (.inr (.inr ())), .inr (.inr (.inr ())), .inr (.inr (.inr ()))] [.inl xs2, .inl xs1, .inr (.inr (.inl (12, 123, 4456)))] M :=
  f_go (KC := f_kc []) C qX12_signf f_kc_nil 111 106 h
set_option maxRecDepth 20000 in
theorem BX12_sign {sh : Nat → Nat × Nat} {t : Nat} {rm : Nat × Nat × Nat} {cs : Nat × Nat} {R : f_Rt} {c_X12_byteAt : Int → e_M → (Int → Prop) → Prop} {k20 : Int → Int → e_M → Prop} {x1 : Int} {M : e_M} (C : f_Hy sh t yX12_sign rm cs 5 (lX12_sign c_X12_byteAt) R) (h20 : ∀ (x1 : Int) (xs0 : Int) (M : e_M), k20 x1 xs0 M → f_E sh t YX12_sign rm cs (f_Q sh t R) 20 [.inr (.inr (.inl (12, 123, 4456))), .inl x1, .inr (.inr (.inr ())), .inr (.inr (.inr ())), .inr (.inr (.inr ()))] [.inl xs0] M) (h : VX12_sign c_X12_byteAt k20 (fun M => R none M) x1 M) : f_E sh t YX12_sign rm cs (f_Q sh t R) 0 [.inr (.inr (.inl (12, 123, 4456))), .inl x1, .inr (.inr (.inr ())), .inr (.inr (.inr ())), .inr (.inr (.inr ()))] [] M :=
  f_go (KC := f_kc [(20, f_pl [(4466, 12, 123), (1, 0, 0), (0, 0, 0), (0, 0, 0), (0, 0, 0)] [(1, 0, 0)] (fun ls st M => k20 (f_vi (f_nth ls 1)) (f_vi (f_nth st 0)) M))]) C qX12_signf (f_kc_cons (f_pl_ok rfl (fun ls st M h => h20 _ _ M h)) f_kc_nil) 111 0 h
def WX12_sign_185 (Q : e_M → Prop) (xs2 : Int) (xs1 : Int) (M : e_M) : Prop :=
  VX12_sign_185 WX12_byteAt Q xs2 xs1 M
def WX12_sign_167 (Q : e_M → Prop) (x4 : Int) (xs1 : Int) (M : e_M) : Prop :=
  VX12_sign_167 WX12_byteAt (WX12_sign_185 Q) Q x4 xs1 M
def WX12_sign_149 (Q : e_M → Prop) (x1 : Int) (x4 : Int) (xs1 : Int) (M : e_M) : Prop :=
  VX12_sign_149 WX12_byteAt (WX12_sign_167 Q) Q x1 x4 xs1 M
def WX12_sign_144 (Q : e_M → Prop) (x1 : Int) (x4 : Int) (M : e_M) : Prop :=
  VX12_sign_144 WX12_byteAt (WX12_sign_149 Q) Q x1 x4 M
def WX12_sign_132 (Q : e_M → Prop) (x1 : Int) (x3 : Int) (xs0 : Int) (M : e_M) : Prop :=
  VX12_sign_132 WX12_byteAt (WX12_sign_144 Q) (WX12_sign_149 Q) Q x1 x3 xs0 M
def WX12_sign_131 (Q : e_M → Prop) (x1 : Int) (x3 : Int) (M : e_M) : Prop :=
  VX12_sign_131 WX12_byteAt (WX12_sign_132 Q) Q x1 x3 M
def WX12_sign_127 (Q : e_M → Prop) (x1 : Int) (x3 : Int) (M : e_M) : Prop :=
  VX12_sign_127 WX12_byteAt (WX12_sign_132 Q) Q x1 x3 M
def WX12_sign_104 (Q : e_M → Prop) (x1 : Int) (x2 : Int) (xs0 : Int) (M : e_M) : Prop :=
  VX12_sign_104 WX12_byteAt (WX12_sign_131 Q) (WX12_sign_127 Q) Q x1 x2 xs0 M
def WX12_sign_99 (Q : e_M → Prop) (x1 : Int) (x2 : Int) (M : e_M) : Prop :=
  VX12_sign_99 WX12_byteAt (WX12_sign_104 Q) Q x1 x2 M
def WX12_sign_20 (Q : e_M → Prop) (x1 : Int) (xs0 : Int) (M : e_M) : Prop :=
  VX12_sign_20 WX12_byteAt (WX12_sign_99 Q) (WX12_sign_104 Q) Q x1 xs0 M
def WX12_sign (x1 : Int) (M : e_M) (Q : e_M → Prop) : Prop :=
  VX12_sign WX12_byteAt (WX12_sign_20 Q) Q x1 M
theorem PX12_sign_185 {sh : Nat → Nat × Nat} {t : Nat} {rm : Nat × Nat × Nat} {cs : Nat × Nat} {R : f_Rt} {xs2 : Int} {xs1 : Int} {M : e_M} (C : f_Hy sh t yX12_sign rm cs 5 (lX12_sign WX12_byteAt) R) (h : WX12_sign_185 (fun M => R none M) xs2 xs1 M) : f_E sh t YX12_sign rm cs (f_Q sh t R) 185 [.inr (.inr (.inr ())), .inr (.inr (.inr ())), .inr (.inr (.inr ())), .inr (.inr (.inr ())), .inr (.inr (.inr ()))] [.inl xs2, .inl xs1, .inr (.inr (.inl (12, 123, 4456)))] M :=
  BX12_sign_185 C h
theorem PX12_sign_167 {sh : Nat → Nat × Nat} {t : Nat} {rm : Nat × Nat × Nat} {cs : Nat × Nat} {R : f_Rt} {x4 : Int} {xs1 : Int} {M : e_M} (C : f_Hy sh t yX12_sign rm cs 5 (lX12_sign WX12_byteAt) R) (h : WX12_sign_167 (fun M => R none M) x4 xs1 M) : f_E sh t YX12_sign rm cs (f_Q sh t R) 167 [.inr (.inr (.inl (12, 123, 4456))), .inr (.inr (.inr ())), .inr (.inr (.inr ())), .inr (.inr (.inr ())), .inl x4] [.inl xs1, .inr (.inr (.inl (12, 123, 4456)))] M :=
  BX12_sign_167 C (fun xs2 xs1 M h => PX12_sign_185 C h) h
theorem PX12_sign_149 {sh : Nat → Nat × Nat} {t : Nat} {rm : Nat × Nat × Nat} {cs : Nat × Nat} {R : f_Rt} {x1 : Int} {x4 : Int} {xs1 : Int} {M : e_M} (C : f_Hy sh t yX12_sign rm cs 5 (lX12_sign WX12_byteAt) R) (h : WX12_sign_149 (fun M => R none M) x1 x4 xs1 M) : f_E sh t YX12_sign rm cs (f_Q sh t R) 149 [.inr (.inr (.inl (12, 123, 4456))), .inl x1, .inr (.inr (.inr ())), .inr (.inr (.inr ())), .inl x4] [.inl xs1, .inr (.inr (.inl (12, 123, 4456)))] M :=
  BX12_sign_149 C (fun x4 xs1 M h => PX12_sign_167 C h) h
theorem PX12_sign_144 {sh : Nat → Nat × Nat} {t : Nat} {rm : Nat × Nat × Nat} {cs : Nat × Nat} {R : f_Rt} {x1 : Int} {x4 : Int} {M : e_M} (C : f_Hy sh t yX12_sign rm cs 5 (lX12_sign WX12_byteAt) R) (h : WX12_sign_144 (fun M => R none M) x1 x4 M) : f_E sh t YX12_sign rm cs (f_Q sh t R) 144 [.inr (.inr (.inl (12, 123, 4456))), .inl x1, .inr (.inr (.inr ())), .inr (.inr (.inr ())), .inl x4] [.inr (.inr (.inl (12, 123, 4456)))] M :=
  BX12_sign_144 C (fun x1 x4 xs1 M h => PX12_sign_149 C h) h
theorem PX12_sign_132 {sh : Nat → Nat × Nat} {t : Nat} {rm : Nat × Nat × Nat} {cs : Nat × Nat} {R : f_Rt} {x1 : Int} {x3 : Int} {xs0 : Int} {M : e_M} (C : f_Hy sh t yX12_sign rm cs 5 (lX12_sign WX12_byteAt) R) (h : WX12_sign_132 (fun M => R none M) x1 x3 xs0 M) : f_E sh t YX12_sign rm cs (f_Q sh t R) 132 [.inr (.inr (.inl (12, 123, 4456))), .inl x1, .inr (.inr (.inr ())), .inl x3, .inr (.inr (.inr ()))] [.inl xs0] M :=
  BX12_sign_132 C (fun x1 x4 M h => PX12_sign_144 C h) (fun x1 x4 xs1 M h => PX12_sign_149 C h) h
theorem PX12_sign_131 {sh : Nat → Nat × Nat} {t : Nat} {rm : Nat × Nat × Nat} {cs : Nat × Nat} {R : f_Rt} {x1 : Int} {x3 : Int} {M : e_M} (C : f_Hy sh t yX12_sign rm cs 5 (lX12_sign WX12_byteAt) R) (h : WX12_sign_131 (fun M => R none M) x1 x3 M) : f_E sh t YX12_sign rm cs (f_Q sh t R) 131 [.inr (.inr (.inl (12, 123, 4456))), .inl x1, .inr (.inr (.inr ())), .inl x3, .inr (.inr (.inr ()))] [] M :=
  BX12_sign_131 C (fun x1 x3 xs0 M h => PX12_sign_132 C h) h
theorem PX12_sign_127 {sh : Nat → Nat × Nat} {t : Nat} {rm : Nat × Nat × Nat} {cs : Nat × Nat} {R : f_Rt} {x1 : Int} {x3 : Int} {M : e_M} (C : f_Hy sh t yX12_sign rm cs 5 (lX12_sign WX12_byteAt) R) (h : WX12_sign_127 (fun M => R none M) x1 x3 M) : f_E sh t YX12_sign rm cs (f_Q sh t R) 127 [.inr (.inr (.inl (12, 123, 4456))), .inl x1, .inr (.inr (.inr ())), .inl x3, .inr (.inr (.inr ()))] [] M :=
  BX12_sign_127 C (fun x1 x3 xs0 M h => PX12_sign_132 C h) h
theorem PX12_sign_104 {sh : Nat → Nat × Nat} {t : Nat} {rm : Nat × Nat × Nat} {cs : Nat × Nat} {R : f_Rt} {x1 : Int} {x2 : Int} {xs0 : Int} {M : e_M} (C : f_Hy sh t yX12_sign rm cs 5 (lX12_sign WX12_byteAt) R) (h : WX12_sign_104 (fun M => R none M) x1 x2 xs0 M) : f_E sh t YX12_sign rm cs (f_Q sh t R) 104 [.inr (.inr (.inl (12, 123, 4456))), .inl x1, .inl x2, .inr (.inr (.inr ())), .inr (.inr (.inr ()))] [.inl xs0] M :=
  BX12_sign_104 C (fun x1 x3 M h => PX12_sign_131 C h) (fun x1 x3 M h => PX12_sign_127 C h) h
theorem PX12_sign_99 {sh : Nat → Nat × Nat} {t : Nat} {rm : Nat × Nat × Nat} {cs : Nat × Nat} {R : f_Rt} {x1 : Int} {x2 : Int} {M : e_M} (C : f_Hy sh t yX12_sign rm cs 5 (lX12_sign WX12_byteAt) R) (h : WX12_sign_99 (fun M => R none M) x1 x2 M) : f_E sh t YX12_sign rm cs (f_Q sh t R) 99 [.inr (.inr (.inl (12, 123, 4456))), .inl x1, .inl x2, .inr (.inr (.inr ())), .inr (.inr (.inr ()))] [] M :=
  BX12_sign_99 C (fun x1 x2 xs0 M h => PX12_sign_104 C h) h
theorem PX12_sign_20 {sh : Nat → Nat × Nat} {t : Nat} {rm : Nat × Nat × Nat} {cs : Nat × Nat} {R : f_Rt} {x1 : Int} {xs0 : Int} {M : e_M} (C : f_Hy sh t yX12_sign rm cs 5 (lX12_sign WX12_byteAt) R) (h : WX12_sign_20 (fun M => R none M) x1 xs0 M) : f_E sh t YX12_sign rm cs (f_Q sh t R) 20 [.inr (.inr (.inl (12, 123, 4456))), .inl x1, .inr (.inr (.inr ())), .inr (.inr (.inr ())), .inr (.inr (.inr ()))] [.inl xs0] M :=
  BX12_sign_20 C (fun x1 x2 M h => PX12_sign_99 C h) (fun x1 x2 xs0 M h => PX12_sign_104 C h) h
theorem PX12_sign {sh : Nat → Nat × Nat} {t : Nat} {rm : Nat × Nat × Nat} {cs : Nat × Nat} {R : f_Rt} {x1 : Int} {M : e_M} (C : f_Hy sh t yX12_sign rm cs 5 (lX12_sign WX12_byteAt) R) (h : WX12_sign x1 M (fun M => R none M)) : f_E sh t YX12_sign rm cs (f_Q sh t R) 0 [.inr (.inr (.inl (12, 123, 4456))), .inl x1, .inr (.inr (.inr ())), .inr (.inr (.inr ())), .inr (.inr (.inr ()))] [] M :=
  BX12_sign C (fun x1 xs0 M h => PX12_sign_20 C h) h
def wX12_sign : f_Wt := f_wm [(4466, 12, 123), (1, 0, 0)] (fun ar M R => WX12_sign (f_vi (f_nth ar 1)) M (fun M => R none M))
theorem TX12_sign {sh : Nat → Nat × Nat} {t : Nat} : f_Mt sh t YX12_sign 5 (wX12_sign) :=
  f_Mt_of (k := 3) (Nat.le_of_ble_eq_true rfl) rfl rfl (fun ar M R rm cs h1 h2 h3 hX h => PX12_sign ⟨Nat.le_of_ble_eq_true rfl, h1, h2, h3, ⟨(f_Mt.up (Nat.le_of_ble_eq_true rfl) TX12_byteAt), trivial⟩, hX⟩ h)
def VX12_next_0 (c_X12_byteAt : Int → e_M → (Int → Prop) → Prop) (c_X12_isDigit : Int → e_M → (Int → Prop) → Prop) (c_X12_isDate : Int → e_M → (Int → Prop) → Prop) (c_X12_digits : Int → Int → e_M → (Int → Prop) → Prop) (c_X12_daysIn : Int → Int → e_M → (Int → Prop) → Prop) (c_X12_dayOf : Int → Int → Int → e_M → (Int → Prop) → Prop) (c_X12_isSmall : Int → e_M → (Int → Prop) → Prop) (c_X12_run : Int → e_M → (e_M → Prop) → Prop) (c_X12_sign : Int → e_M → (e_M → Prop) → Prop) (k26 : e_M → Prop) (k216 : Int → e_M → Prop) (k178 : Int → Int → Int → e_M → Prop) (k179 : Int → Int → Int → Int → e_M → Prop) (Q : e_M → Prop) (M : e_M) : Prop :=
  (c_X12_byteAt (M 4456 6) M (fun r1 => ((r1 = 32 → (k26 M)) ∧ (¬ r1 = 32 → (c_X12_byteAt (M 4456 6) M (fun r2 => ((¬ r2 = 10 → (∀ M3 : e_M, M3 = e_up M 4456 8 (M 4456 6) → (c_X12_byteAt (M3 4456 6) M3 (fun r4 => (∀ M5 : e_M, M5 = e_up M3 4456 10 (-1) → ((¬ r4 = (-1) → (c_X12_isDigit r4 M5 (fun r6 => ((r6 = 0 → (k216 r4 M5)) ∧ (¬ r6 = 0 → (c_X12_isDate (M5 4456 6) M5 (fun r7 => ((r7 = 0 → (k216 r4 M5)) ∧ (¬ r7 = 0 → (∀ M8 : e_M, M8 = e_up M5 4456 7 1 → (c_X12_digits (M8 4456 6) 4 M8 (fun r9 => (c_X12_digits (e_w32 ((M8 4456 6) + 5)) 2 M8 (fun r10 => (c_X12_digits (e_w32 ((M8 4456 6) + 8)) 2 M8 (fun r11 => ((r9 < 1700 → (k178 r9 r10 r11 M8)) ∧ (1700 ≤ r9 → ((2299 < r9 → (k178 r9 r10 r11 M8)) ∧ (r9 ≤ 2299 → ((r10 < 1 → (k178 r9 r10 r11 M8)) ∧ (1 ≤ r10 → ((12 < r10 → (k178 r9 r10 r11 M8)) ∧ (r10 ≤ 12 → ((r11 < 1 → (k178 r9 r10 r11 M8)) ∧ (1 ≤ r11 → (c_X12_daysIn r9 r10 M8 (fun r12 => ((r12 < r11 → (k178 r9 r10 r11 M8)) ∧ (r11 ≤ r12 → (k179 r9 r10 r11 1 M8))))))))))))))))))))))))))))))) ∧ (r4 = (-1) → (∀ M13 : e_M, M13 = e_up M5 4456 7 0 → (Q M13))))))))) ∧ (r2 = 10 → (k26 M)))))))))
def VX12_next_26 (c_X12_byteAt : Int → e_M → (Int → Prop) → Prop) (c_X12_isDigit : Int → e_M → (Int → Prop) → Prop) (c_X12_isDate : Int → e_M → (Int → Prop) → Prop) (c_X12_digits : Int → Int → e_M → (Int → Prop) → Prop) (c_X12_daysIn : Int → Int → e_M → (Int → Prop) → Prop) (c_X12_dayOf : Int → Int → Int → e_M → (Int → Prop) → Prop) (c_X12_isSmall : Int → e_M → (Int → Prop) → Prop) (c_X12_run : Int → e_M → (e_M → Prop) → Prop) (c_X12_sign : Int → e_M → (e_M → Prop) → Prop) (k0 : e_M → Prop) (Q : e_M → Prop) (M : e_M) : Prop :=
  (∀ M1 : e_M, M1 = e_up M 4456 6 (e_w32 ((M 4456 6) + 1)) → (k0 M1))
def VX12_next_178 (c_X12_byteAt : Int → e_M → (Int → Prop) → Prop) (c_X12_isDigit : Int → e_M → (Int → Prop) → Prop) (c_X12_isDate : Int → e_M → (Int → Prop) → Prop) (c_X12_digits : Int → Int → e_M → (Int → Prop) → Prop) (c_X12_daysIn : Int → Int → e_M → (Int → Prop) → Prop) (c_X12_dayOf : Int → Int → Int → e_M → (Int → Prop) → Prop) (c_X12_isSmall : Int → e_M → (Int → Prop) → Prop) (c_X12_run : Int → e_M → (e_M → Prop) → Prop) (c_X12_sign : Int → e_M → (e_M → Prop) → Prop) (k179 : Int → Int → Int → Int → e_M → Prop) (Q : e_M → Prop) (x2 : Int) (x3 : Int) (x4 : Int) (M : e_M) : Prop :=
  (k179 x2 x3 x4 0 M)
def VX12_next_179 (c_X12_byteAt : Int → e_M → (Int → Prop) → Prop) (c_X12_isDigit : Int → e_M → (Int → Prop) → Prop) (c_X12_isDate : Int → e_M → (Int → Prop) → Prop) (c_X12_digits : Int → Int → e_M → (Int → Prop) → Prop) (c_X12_daysIn : Int → Int → e_M → (Int → Prop) → Prop) (c_X12_dayOf : Int → Int → Int → e_M → (Int → Prop) → Prop) (c_X12_isSmall : Int → e_M → (Int → Prop) → Prop) (c_X12_run : Int → e_M → (e_M → Prop) → Prop) (c_X12_sign : Int → e_M → (e_M → Prop) → Prop) (k199 : Int → e_M → Prop) (Q : e_M → Prop) (x2 : Int) (x3 : Int) (x4 : Int) (xs0 : Int) (M : e_M) : Prop :=
  ((xs0 = 0 → (k199 (-1) M)) ∧ (¬ xs0 = 0 → (c_X12_dayOf x2 x3 x4 M (fun r1 => (k199 r1 M)))))
def VX12_next_199 (c_X12_byteAt : Int → e_M → (Int → Prop) → Prop) (c_X12_isDigit : Int → e_M → (Int → Prop) → Prop) (c_X12_isDate : Int → e_M → (Int → Prop) → Prop) (c_X12_digits : Int → Int → e_M → (Int → Prop) → Prop) (c_X12_daysIn : Int → Int → e_M → (Int → Prop) → Prop) (c_X12_dayOf : Int → Int → Int → e_M → (Int → Prop) → Prop) (c_X12_isSmall : Int → e_M → (Int → Prop) → Prop) (c_X12_run : Int → e_M → (e_M → Prop) → Prop) (c_X12_sign : Int → e_M → (e_M → Prop) → Prop) (Q : e_M → Prop) (xs1 : Int) (M : e_M) : Prop :=
  (∀ M1 : e_M, M1 = e_up M 4456 9 xs1 → (∀ M2 : e_M, M2 = e_up M1 4456 6 (e_w32 ((M1 4456 6) + 10)) → (Q M2)))
def VX12_next_216 (c_X12_byteAt : Int → e_M → (Int → Prop) → Prop) (c_X12_isDigit : Int → e_M → (Int → Prop) → Prop) (c_X12_isDate : Int → e_M → (Int → Prop) → Prop) (c_X12_digits : Int → Int → e_M → (Int → Prop) → Prop) (c_X12_daysIn : Int → Int → e_M → (Int → Prop) → Prop) (c_X12_dayOf : Int → Int → Int → e_M → (Int → Prop) → Prop) (c_X12_isSmall : Int → e_M → (Int → Prop) → Prop) (c_X12_run : Int → e_M → (e_M → Prop) → Prop) (c_X12_sign : Int → e_M → (e_M → Prop) → Prop) (k230 : Int → e_M → Prop) (Q : e_M → Prop) (x1 : Int) (M : e_M) : Prop :=
  (c_X12_isDigit x1 M (fun r1 => ((¬ r1 = 0 → (k230 x1 M)) ∧ (r1 = 0 → (c_X12_isSmall x1 M (fun r2 => ((r2 = 0 → (c_X12_sign x1 M (fun M3 => (Q M3)))) ∧ (¬ r2 = 0 → (k230 x1 M)))))))))
def VX12_next_230 (c_X12_byteAt : Int → e_M → (Int → Prop) → Prop) (c_X12_isDigit : Int → e_M → (Int → Prop) → Prop) (c_X12_isDate : Int → e_M → (Int → Prop) → Prop) (c_X12_digits : Int → Int → e_M → (Int → Prop) → Prop) (c_X12_daysIn : Int → Int → e_M → (Int → Prop) → Prop) (c_X12_dayOf : Int → Int → Int → e_M → (Int → Prop) → Prop) (c_X12_isSmall : Int → e_M → (Int → Prop) → Prop) (c_X12_run : Int → e_M → (e_M → Prop) → Prop) (c_X12_sign : Int → e_M → (e_M → Prop) → Prop) (Q : e_M → Prop) (x1 : Int) (M : e_M) : Prop :=
  (c_X12_isDigit x1 M (fun r1 => (c_X12_run r1 M (fun M2 => (Q M2)))))
def VX12_next (c_X12_byteAt : Int → e_M → (Int → Prop) → Prop) (c_X12_isDigit : Int → e_M → (Int → Prop) → Prop) (c_X12_isDate : Int → e_M → (Int → Prop) → Prop) (c_X12_digits : Int → Int → e_M → (Int → Prop) → Prop) (c_X12_daysIn : Int → Int → e_M → (Int → Prop) → Prop) (c_X12_dayOf : Int → Int → Int → e_M → (Int → Prop) → Prop) (c_X12_isSmall : Int → e_M → (Int → Prop) → Prop) (c_X12_run : Int → e_M → (e_M → Prop) → Prop) (c_X12_sign : Int → e_M → (e_M → Prop) → Prop) (k0 : e_M → Prop) (Q : e_M → Prop) (M : e_M) : Prop :=
  (k0 M)
def yX12_next (i : Nat) : e_Y := x_get YX12_next [YX12_byteAt, YX12_isDigit, YX12_isDate, YX12_digits, YX12_daysIn, YX12_dayOf, YX12_isSmall, YX12_run, YX12_sign] i
def pX12_nextf : List x_I := [(0, 49, 0, 0, 0, 0, []), (0, 4, 1, 0, 0, 0, []), (1, 4, 1, 0, 0, 0, []), (2, 25, 12, 6, 0, 0, []), (5, 40, 0, 2, 14, 0, []), (8, 0, 2, 0, 0, 32, []), (10, 18, 26, 0, 14, 0, []), (13, 4, 1, 0, 0, 0, []), (14, 4, 1, 0, 0, 0, []), (15, 25, 12, 6, 0, 0, []), (18, 40, 0, 2, 14, 0, []), (21, 0, 2, 0, 0, 10, []), (23, 18, 39, 1, 22, 0, []), (26, 49, 0, 0, 0, 0, []), (26, 4, 1, 0, 0, 0, []), (27, 20, 0, 0, 0, 0, []), (28, 25, 12, 6, 0, 0, []), (31, 0, 1, 0, 0, 1, []), (32, 9, 0, 0, 0, 0, []), (33, 26, 12, 6, 0, 0, []), (36, 19, 0, 0, 1, 0, []), (39, 4, 1, 0, 0, 0, []), (40, 4, 1, 0, 0, 0, []), (41, 25, 12, 6, 0, 0, []), (44, 26, 12, 8, 0, 0, []), (47, 4, 1, 0, 0, 0, []), (48, 4, 1, 0, 0, 0, []), (49, 25, 12, 6, 0, 0, []), (52, 40, 0, 2, 14, 0, []), (55, 5, 1, 1, 0, 0, []), (56, 4, 1, 0, 0, 0, []), (57, 0, 1, 0, 0, (-1), []), (58, 26, 12, 10, 0, 0, []), (61, 2, 1, 1, 0, 0, []), (62, 0, 1, 0, 0, (-1), []), (63, 18, 74, 1, 41, 0, []), (66, 4, 1, 0, 0, 0, []), (67, 0, 1, 0, 0, 0, []), (68, 26, 12, 7, 0, 0, []), (71, 19, 246, 0, 135, 0, []), (74, 2, 1, 1, 0, 0, []), (75, 40, 1, 1, 0, 0, []), (78, 17, 216, 0, 119, 0, []), (81, 4, 1, 0, 0, 0, []), (82, 4, 1, 0, 0, 0, []), (83, 25, 12, 6, 0, 0, []), (86, 40, 2, 2, 14, 0, []), (89, 17, 216, 0, 119, 0, []), (92, 4, 1, 0, 0, 0, []), (93, 0, 1, 0, 0, 1, []), (94, 26, 12, 7, 0, 0, []), (97, 4, 1, 0, 0, 0, []), (98, 4, 1, 0, 0, 0, []), (99, 25, 12, 6, 0, 0, []), (102, 0, 1, 0, 0, 4, []), (103, 40, 3, 3, 14, 0, []), (106, 5, 1, 2, 0, 0, []), (107, 4, 1, 0, 0, 0, []), (108, 4, 1, 0, 0, 0, []), (109, 25, 12, 6, 0, 0, []), (112, 0, 1, 0, 0, 5, []), (113, 9, 0, 0, 0, 0, []), (114, 0, 1, 0, 0, 2, []), (115, 40, 3, 3, 14, 0, []), (118, 5, 1, 3, 0, 0, []), (119, 4, 1, 0, 0, 0, []), (120, 4, 1, 0, 0, 0, []), (121, 25, 12, 6, 0, 0, []), (124, 0, 2, 0, 0, 8, []), (126, 9, 0, 0, 0, 0, []), (127, 0, 1, 0, 0, 2, []), (128, 40, 3, 3, 14, 0, []), (131, 5, 2, 4, 0, 0, []), (133, 2, 1, 2, 0, 0, []), (134, 0, 3, 0, 0, 1700, []), (137, 18, 178, 2, 96, 0, []), (140, 2, 1, 2, 0, 0, []), (141, 0, 3, 0, 0, 2299, []), (144, 18, 178, 4, 96, 0, []), (147, 2, 1, 3, 0, 0, []), (148, 0, 1, 0, 0, 1, []), (149, 18, 178, 2, 96, 0, []), (152, 2, 1, 3, 0, 0, []), (153, 0, 2, 0, 0, 12, []), (155, 18, 178, 4, 96, 0, []), (158, 2, 2, 4, 0, 0, []), (160, 0, 1, 0, 0, 1, []), (161, 18, 178, 2, 96, 0, []), (164, 2, 2, 4, 0, 0, []), (166, 2, 1, 2, 0, 0, []), (167, 2, 1, 3, 0, 0, []), (168, 40, 4, 2, 0, 0, []), (171, 18, 178, 4, 96, 0, []), (174, 0, 1, 0, 0, 1, []), (175, 19, 179, 0, 98, 0, []), (178, 49, 0, 0, 0, 0, []), (178, 0, 1, 0, 0, 0, []), (179, 49, 0, 0, 0, 0, []), (179, 5, 2, 5, 0, 0, []), (181, 4, 1, 0, 0, 0, []), (182, 2, 2, 5, 0, 0, []), (184, 17, 198, 0, 109, 0, []), (187, 4, 1, 0, 0, 0, []), (188, 2, 1, 2, 0, 0, []), (189, 2, 1, 3, 0, 0, []), (190, 2, 2, 4, 0, 0, []), (192, 40, 5, 4, 14, 0, []), (195, 19, 199, 0, 110, 0, []), (198, 0, 1, 0, 0, (-1), []), (199, 49, 0, 0, 0, 0, []), (199, 26, 12, 9, 0, 0, []), (202, 4, 1, 0, 0, 0, []), (203, 20, 0, 0, 0, 0, []), (204, 25, 12, 6, 0, 0, []), (207, 0, 2, 0, 0, 10, []), (209, 9, 0, 0, 0, 0, []), (210, 26, 12, 6, 0, 0, []), (213, 19, 246, 0, 135, 0, []), (216, 49, 0, 0, 0, 0, []), (216, 2, 1, 1, 0, 0, []), (217, 40, 1, 1, 0, 0, []), (220, 17, 230, 1, 126, 0, []), (223, 2, 1, 1, 0, 0, []), (224, 40, 6, 1, 0, 0, []), (227, 17, 241, 0, 132, 0, []), (230, 49, 0, 0, 0, 0, []), (230, 4, 1, 0, 0, 0, []), (231, 2, 1, 1, 0, 0, []), (232, 40, 1, 1, 0, 0, []), (235, 40, 7, 2, 14, 0, []), (238, 19, 246, 0, 135, 0, []), (241, 4, 1, 0, 0, 0, []), (242, 2, 1, 1, 0, 0, []), (243, 40, 8, 2, 14, 0, []), (246, 44, 0, 0, 0, 0, [])]
set_option maxRecDepth 20000 in
theorem qX12_nextf : f_all yX12_next YX12_next pX12_nextf :=
  ⟨trivial,
  f_aload_n (n := 0) (e_dx DX12_next_0 0 rfl) rfl,
  f_aload_n (n := 0) (e_dx DX12_next_0 1 rfl) rfl,
  f_getf (e_dx DX12_next_0 2 rfl) fX12_300 rfl (by decide) (by decide) (by decide),
  x_callV (e_dx DX12_next_0 3 rfl) mwX12_byteAt vwX12_byteAt cX12_291 rfl,
  f_bipush (e_dx DX12_next_0 4 rfl) ⟨by decide, by decide⟩,
  f_icmp_eq (e_dx DX12_next_0 5 rfl) rfl,
  f_aload_n (n := 0) (e_dx DX12_next_0 6 rfl) rfl,
  f_aload_n (n := 0) (e_dx DX12_next_0 7 rfl) rfl,
  f_getf (e_dx DX12_next_0 8 rfl) fX12_300 rfl (by decide) (by decide) (by decide),
  x_callV (e_dx DX12_next_0 9 rfl) mwX12_byteAt vwX12_byteAt cX12_291 rfl,
  f_bipush (e_dx DX12_next_0 10 rfl) ⟨by decide, by decide⟩,
  f_icmp_ne (e_dx DX12_next_0 11 rfl) rfl,
  trivial,
  f_aload_n (n := 0) (e_dx DX12_next_0 12 rfl) rfl,
  f_g20 (e_dx DX12_next_0 13 rfl),
  f_getf (e_dx DX12_next_0 14 rfl) fX12_300 rfl (by decide) (by decide) (by decide),
  f_iconst (e_dx DX12_next_0 15 rfl) ⟨by decide, by decide⟩,
  f_iadd (e_dx DX12_next_0 16 rfl),
  f_putn (e_dx DX12_next_0 17 rfl) fX12_300 (fun q hq => by cases hq; rfl) rfl (Or.inl rfl) (by decide),
  f_g19 (e_dx DX12_next_0 18 rfl) rfl,
  f_aload_n (n := 0) (e_dx DX12_next_0 19 rfl) rfl,
  f_aload_n (n := 0) (e_dx DX12_next_0 20 rfl) rfl,
  f_getf (e_dx DX12_next_0 21 rfl) fX12_300 rfl (by decide) (by decide) (by decide),
  f_putn (e_dx DX12_next_0 22 rfl) fX12_303 (fun q hq => by cases hq; rfl) rfl (Or.inl rfl) (by decide),
  f_aload_n (n := 0) (e_dx DX12_next_0 23 rfl) rfl,
  f_aload_n (n := 0) (e_dx DX12_next_0 24 rfl) rfl,
  f_getf (e_dx DX12_next_0 25 rfl) fX12_300 rfl (by decide) (by decide) (by decide),
  x_callV (e_dx DX12_next_0 26 rfl) mwX12_byteAt vwX12_byteAt cX12_291 rfl,
  f_istore_n (n := 1) (e_dx DX12_next_0 27 rfl) rfl (by decide),
  f_aload_n (n := 0) (e_dx DX12_next_0 28 rfl) rfl,
  f_iconst (e_dx DX12_next_0 29 rfl) ⟨by decide, by decide⟩,
  f_putn (e_dx DX12_next_0 30 rfl) fX12_306 (fun q hq => by cases hq; rfl) rfl (Or.inl rfl) (by decide),
  f_iload_n (n := 1) (e_dx DX12_next_0 31 rfl) rfl,
  f_iconst (e_dx DX12_next_0 32 rfl) ⟨by decide, by decide⟩,
  f_icmp_ne (e_dx DX12_next_0 33 rfl) rfl,
  f_aload_n (n := 0) (e_dx DX12_next_0 34 rfl) rfl,
  f_iconst (e_dx DX12_next_0 35 rfl) ⟨by decide, by decide⟩,
  f_putn (e_dx DX12_next_0 36 rfl) fX12_309 (fun q hq => by cases hq; rfl) rfl (Or.inl rfl) (by decide),
  f_g19 (e_dx DX12_next_0 37 rfl) rfl,
  f_iload_n (n := 1) (e_dx DX12_next_0 38 rfl) rfl,
  x_callS (e_dx DX12_next_0 39 rfl) mwX12_isDigit cX12_294 swX12_isDigit rfl,
  f_if_eq (e_dx DX12_next_1 0 rfl) rfl,
  f_aload_n (n := 0) (e_dx DX12_next_1 1 rfl) rfl,
  f_aload_n (n := 0) (e_dx DX12_next_1 2 rfl) rfl,
  f_getf (e_dx DX12_next_1 3 rfl) fX12_300 rfl (by decide) (by decide) (by decide),
  x_callV (e_dx DX12_next_1 4 rfl) mwX12_isDate vwX12_isDate cX12_312 rfl,
  f_if_eq (e_dx DX12_next_1 5 rfl) rfl,
  f_aload_n (n := 0) (e_dx DX12_next_1 6 rfl) rfl,
  f_iconst (e_dx DX12_next_1 7 rfl) ⟨by decide, by decide⟩,
  f_putn (e_dx DX12_next_1 8 rfl) fX12_309 (fun q hq => by cases hq; rfl) rfl (Or.inl rfl) (by decide),
  f_aload_n (n := 0) (e_dx DX12_next_1 9 rfl) rfl,
  f_aload_n (n := 0) (e_dx DX12_next_1 10 rfl) rfl,
  f_getf (e_dx DX12_next_1 11 rfl) fX12_300 rfl (by decide) (by decide) (by decide),
  f_iconst (e_dx DX12_next_1 12 rfl) ⟨by decide, by decide⟩,
  x_callV (e_dx DX12_next_1 13 rfl) mwX12_digits vwX12_digits cX12_315 rfl,
  f_istore_n (n := 2) (e_dx DX12_next_1 14 rfl) rfl (by decide),
  f_aload_n (n := 0) (e_dx DX12_next_1 15 rfl) rfl,
  f_aload_n (n := 0) (e_dx DX12_next_1 16 rfl) rfl,
  f_getf (e_dx DX12_next_1 17 rfl) fX12_300 rfl (by decide) (by decide) (by decide),
  f_iconst (e_dx DX12_next_1 18 rfl) ⟨by decide, by decide⟩,
  f_iadd (e_dx DX12_next_1 19 rfl),
  f_iconst (e_dx DX12_next_1 20 rfl) ⟨by decide, by decide⟩,
  x_callV (e_dx DX12_next_1 21 rfl) mwX12_digits vwX12_digits cX12_315 rfl,
  f_istore_n (n := 3) (e_dx DX12_next_1 22 rfl) rfl (by decide),
  f_aload_n (n := 0) (e_dx DX12_next_1 23 rfl) rfl,
  f_aload_n (n := 0) (e_dx DX12_next_1 24 rfl) rfl,
  f_getf (e_dx DX12_next_1 25 rfl) fX12_300 rfl (by decide) (by decide) (by decide),
  f_bipush (e_dx DX12_next_1 26 rfl) ⟨by decide, by decide⟩,
  f_iadd (e_dx DX12_next_1 27 rfl),
  f_iconst (e_dx DX12_next_1 28 rfl) ⟨by decide, by decide⟩,
  x_callV (e_dx DX12_next_1 29 rfl) mwX12_digits vwX12_digits cX12_315 rfl,
  f_istore (e_dx DX12_next_1 30 rfl) (by decide),
  f_iload_n (n := 2) (e_dx DX12_next_1 31 rfl) rfl,
  f_sipush (e_dx DX12_next_1 32 rfl) ⟨by decide, by decide⟩,
  f_icmp_lt (e_dx DX12_next_1 33 rfl) rfl,
  f_iload_n (n := 2) (e_dx DX12_next_1 34 rfl) rfl,
  f_sipush (e_dx DX12_next_1 35 rfl) ⟨by decide, by decide⟩,
  f_icmp_gt (e_dx DX12_next_1 36 rfl) rfl,
  f_iload_n (n := 3) (e_dx DX12_next_1 37 rfl) rfl,
  f_iconst (e_dx DX12_next_1 38 rfl) ⟨by decide, by decide⟩,
  f_icmp_lt (e_dx DX12_next_1 39 rfl) rfl,
  f_iload_n (n := 3) (e_dx DX12_next_2 0 rfl) rfl,
  f_bipush (e_dx DX12_next_2 1 rfl) ⟨by decide, by decide⟩,
  f_icmp_gt (e_dx DX12_next_2 2 rfl) rfl,
  f_iload (e_dx DX12_next_2 3 rfl),
  f_iconst (e_dx DX12_next_2 4 rfl) ⟨by decide, by decide⟩,
  f_icmp_lt (e_dx DX12_next_2 5 rfl) rfl,
  f_iload (e_dx DX12_next_2 6 rfl),
  f_iload_n (n := 2) (e_dx DX12_next_2 7 rfl) rfl,
  f_iload_n (n := 3) (e_dx DX12_next_2 8 rfl) rfl,
  x_callS (e_dx DX12_next_2 9 rfl) mwX12_daysIn cX12_318 swX12_daysIn rfl,
  f_icmp_gt (e_dx DX12_next_2 10 rfl) rfl,
  f_iconst (e_dx DX12_next_2 11 rfl) ⟨by decide, by decide⟩,
  f_g19 (e_dx DX12_next_2 12 rfl) rfl,
  trivial,
  f_iconst (e_dx DX12_next_2 13 rfl) ⟨by decide, by decide⟩,
  trivial,
  f_istore (e_dx DX12_next_2 14 rfl) (by decide),
  f_aload_n (n := 0) (e_dx DX12_next_2 15 rfl) rfl,
  f_iload (e_dx DX12_next_2 16 rfl),
  f_if_eq (e_dx DX12_next_2 17 rfl) rfl,
  f_aload_n (n := 0) (e_dx DX12_next_2 18 rfl) rfl,
  f_iload_n (n := 2) (e_dx DX12_next_2 19 rfl) rfl,
  f_iload_n (n := 3) (e_dx DX12_next_2 20 rfl) rfl,
  f_iload (e_dx DX12_next_2 21 rfl),
  x_callV (e_dx DX12_next_2 22 rfl) mwX12_dayOf vwX12_dayOf cX12_280 rfl,
  f_g19 (e_dx DX12_next_2 23 rfl) rfl,
  f_iconst (e_dx DX12_next_2 24 rfl) ⟨by decide, by decide⟩,
  trivial,
  f_putn (e_dx DX12_next_2 25 rfl) fX12_321 (fun q hq => by cases hq; rfl) rfl (Or.inl rfl) (by decide),
  f_aload_n (n := 0) (e_dx DX12_next_2 26 rfl) rfl,
  f_g20 (e_dx DX12_next_2 27 rfl),
  f_getf (e_dx DX12_next_2 28 rfl) fX12_300 rfl (by decide) (by decide) (by decide),
  f_bipush (e_dx DX12_next_2 29 rfl) ⟨by decide, by decide⟩,
  f_iadd (e_dx DX12_next_2 30 rfl),
  f_putn (e_dx DX12_next_2 31 rfl) fX12_300 (fun q hq => by cases hq; rfl) rfl (Or.inl rfl) (by decide),
  f_g19 (e_dx DX12_next_2 32 rfl) rfl,
  trivial,
  f_iload_n (n := 1) (e_dx DX12_next_2 33 rfl) rfl,
  x_callS (e_dx DX12_next_2 34 rfl) mwX12_isDigit cX12_294 swX12_isDigit rfl,
  f_if_ne (e_dx DX12_next_2 35 rfl) rfl,
  f_iload_n (n := 1) (e_dx DX12_next_2 36 rfl) rfl,
  x_callS (e_dx DX12_next_2 37 rfl) mwX12_isSmall cX12_297 swX12_isSmall rfl,
  f_if_eq (e_dx DX12_next_2 38 rfl) rfl,
  trivial,
  f_aload_n (n := 0) (e_dx DX12_next_2 39 rfl) rfl,
  f_iload_n (n := 1) (e_dx DX12_next_3 0 rfl) rfl,
  x_callS (e_dx DX12_next_3 1 rfl) mwX12_isDigit cX12_294 swX12_isDigit rfl,
  x_callV (e_dx DX12_next_3 2 rfl) mwX12_run vwX12_run cX12_324 rfl,
  f_g19 (e_dx DX12_next_3 3 rfl) rfl,
  f_aload_n (n := 0) (e_dx DX12_next_3 4 rfl) rfl,
  f_iload_n (n := 1) (e_dx DX12_next_3 5 rfl) rfl,
  x_callV (e_dx DX12_next_3 6 rfl) mwX12_sign vwX12_sign cX12_328 rfl,
  ⟨(e_dx DX12_next_3 7 rfl), rfl⟩, trivial⟩
def lX12_next (c_X12_byteAt : Int → e_M → (Int → Prop) → Prop) (c_X12_isDigit : Int → e_M → (Int → Prop) → Prop) (c_X12_isDate : Int → e_M → (Int → Prop) → Prop) (c_X12_digits : Int → Int → e_M → (Int → Prop) → Prop) (c_X12_daysIn : Int → Int → e_M → (Int → Prop) → Prop) (c_X12_dayOf : Int → Int → Int → e_M → (Int → Prop) → Prop) (c_X12_isSmall : Int → e_M → (Int → Prop) → Prop) (c_X12_run : Int → e_M → (e_M → Prop) → Prop) (c_X12_sign : Int → e_M → (e_M → Prop) → Prop) : List (Nat × f_Wt) := [(0, f_wm [(4466, 12, 123), (1, 0, 0)] (fun ar M R => c_X12_byteAt (f_vi (f_nth ar 1)) M (fun r => R (some (.inl r)) M))), (1, f_wm [(1, 0, 0)] (fun ar M R => c_X12_isDigit (f_vi (f_nth ar 0)) M (fun r => R (some (.inl r)) M))), (2, f_wm [(4466, 12, 123), (1, 0, 0)] (fun ar M R => c_X12_isDate (f_vi (f_nth ar 1)) M (fun r => R (some (.inl r)) M))), (3, f_wm [(4466, 12, 123), (1, 0, 0), (1, 0, 0)] (fun ar M R => c_X12_digits (f_vi (f_nth ar 1)) (f_vi (f_nth ar 2)) M (fun r => R (some (.inl r)) M))), (4, f_wm [(1, 0, 0), (1, 0, 0)] (fun ar M R => c_X12_daysIn (f_vi (f_nth ar 0)) (f_vi (f_nth ar 1)) M (fun r => R (some (.inl r)) M))), (5, f_wm [(4466, 12, 123), (1, 0, 0), (1, 0, 0), (1, 0, 0)] (fun ar M R => c_X12_dayOf (f_vi (f_nth ar 1)) (f_vi (f_nth ar 2)) (f_vi (f_nth ar 3)) M (fun r => R (some (.inl r)) M))), (6, f_wm [(1, 0, 0)] (fun ar M R => c_X12_isSmall (f_vi (f_nth ar 0)) M (fun r => R (some (.inl r)) M))), (7, f_wm [(4466, 12, 123), (1, 0, 0)] (fun ar M R => c_X12_run (f_vi (f_nth ar 1)) M (fun M => R none M))), (8, f_wm [(4466, 12, 123), (1, 0, 0)] (fun ar M R => c_X12_sign (f_vi (f_nth ar 1)) M (fun M => R none M)))]
set_option maxRecDepth 20000 in
theorem BX12_next_0 {sh : Nat → Nat × Nat} {t : Nat} {rm : Nat × Nat × Nat} {cs : Nat × Nat} {R : f_Rt} {c_X12_byteAt : Int → e_M → (Int → Prop) → Prop} {c_X12_isDigit : Int → e_M → (Int → Prop) → Prop} {c_X12_isDate : Int → e_M → (Int → Prop) → Prop} {c_X12_digits : Int → Int → e_M → (Int → Prop) → Prop} {c_X12_daysIn : Int → Int → e_M → (Int → Prop) → Prop} {c_X12_dayOf : Int → Int → Int → e_M → (Int → Prop) → Prop} {c_X12_isSmall : Int → e_M → (Int → Prop) → Prop} {c_X12_run : Int → e_M → (e_M → Prop) → Prop} {c_X12_sign : Int → e_M → (e_M → Prop) → Prop} {k26 : e_M → Prop} {k216 : Int → e_M → Prop} {k178 : Int → Int → Int → e_M → Prop} {k179 : Int → Int → Int → Int → e_M → Prop} {M : e_M} (C : f_Hy sh t yX12_next rm cs 7 (lX12_next c_X12_byteAt c_X12_isDigit c_X12_isDate c_X12_digits c_X12_daysIn c_X12_dayOf c_X12_isSmall c_X12_run c_X12_sign) R) (h26 : ∀ (M : e_M), k26 M → f_E sh t YX12_next rm cs (f_Q sh t R) 26 [.inr (.inr (.inl (12, 123, 4456))), .inr (.inr (.inr ())), .inr (.inr (.inr ())), .inr (.inr (.inr ())), .inr (.inr (.inr ())), .inr (.inr (.inr ()))] [] M) (h216 : ∀ (x1 : Int) (M : e_M), k216 x1 M → f_E sh t YX12_next rm cs (f_Q sh t R) 216 [.inr (.inr (.inl (12, 123, 4456))), .inl x1, .inr (.inr (.inr ())), .inr (.inr (.inr ())), .inr (.inr (.inr ())), .inr (.inr (.inr ()))] [] M) (h178 : ∀ (x2 : Int) (x3 : Int) (x4 : Int) (M : e_M), k178 x2 x3 x4 M → f_E sh t YX12_next rm cs (f_Q sh t R) 178 [.inr (.inr (.inl (12, 123, 4456))), .inr (.inr (.inr ())), .inl x2, .inl x3, .inl x4, .inr (.inr (.inr ()))] [] M) (h179 : ∀ (x2 : Int) (x3 : Int) (x4 : Int) (xs0 : Int) (M : e_M), k179 x2 x3 x4 xs0 M → f_E sh t YX12_next rm cs (f_Q sh t R) 179 [.inr (.inr (.inl (12, 123, 4456))), .inr (.inr (.inr ())), .inl x2, .inl x3, .inl x4, .inr (.inr (.inr ()))] [.inl xs0] M) (h : VX12_next_0 c_X12_byteAt c_X12_isDigit c_X12_isDate c_X12_digits c_X12_daysIn c_X12_dayOf c_X12_isSmall c_X12_run c_X12_sign k26 k216 k178 k179 (fun M => R none M) M) : f_E sh t YX12_next rm cs (f_Q sh t R) 0 [.inr (.inr (.inl (12, 123, 4456))), .inr (.inr (.inr ())), .inr (.inr (.inr ())), .inr (.inr (.inr ())), .inr (.inr (.inr ())), .inr (.inr (.inr ()))] [] M :=
  f_go (KC := f_kc [(26, f_pl [(4466, 12, 123), (0, 0, 0), (0, 0, 0), (0, 0, 0), (0, 0, 0), (0, 0, 0)] [] (fun ls st M => k26 M)), (216, f_pl [(4466, 12, 123), (1, 0, 0), (0, 0, 0), (0, 0, 0), (0, 0, 0), (0, 0, 0)] [] (fun ls st M => k216 (f_vi (f_nth ls 1)) M)), (178, f_pl [(4466, 12, 123), (0, 0, 0), (1, 0, 0), (1, 0, 0), (1, 0, 0), (0, 0, 0)] [] (fun ls st M => k178 (f_vi (f_nth ls 2)) (f_vi (f_nth ls 3)) (f_vi (f_nth ls 4)) M)), (179, f_pl [(4466, 12, 123), (0, 0, 0), (1, 0, 0), (1, 0, 0), (1, 0, 0), (0, 0, 0)] [(1, 0, 0)] (fun ls st M => k179 (f_vi (f_nth ls 2)) (f_vi (f_nth ls 3)) (f_vi (f_nth ls 4)) (f_vi (f_nth st 0)) M))]) C qX12_nextf (f_kc_cons (f_pl_ok rfl (fun ls st M h => h26  M h)) (f_kc_cons (f_pl_ok rfl (fun ls st M h => h216 _ M h)) (f_kc_cons (f_pl_ok rfl (fun ls st M h => h178 _ _ _ M h)) (f_kc_cons (f_pl_ok rfl (fun ls st M h => h179 _ _ _ _ M h)) f_kc_nil)))) 137 1 h
set_option maxRecDepth 20000 in
theorem BX12_next_26 {sh : Nat → Nat × Nat} {t : Nat} {rm : Nat × Nat × Nat} {cs : Nat × Nat} {R : f_Rt} {c_X12_byteAt : Int → e_M → (Int → Prop) → Prop} {c_X12_isDigit : Int → e_M → (Int → Prop) → Prop} {c_X12_isDate : Int → e_M → (Int → Prop) → Prop} {c_X12_digits : Int → Int → e_M → (Int → Prop) → Prop} {c_X12_daysIn : Int → Int → e_M → (Int → Prop) → Prop} {c_X12_dayOf : Int → Int → Int → e_M → (Int → Prop) → Prop} {c_X12_isSmall : Int → e_M → (Int → Prop) → Prop} {c_X12_run : Int → e_M → (e_M → Prop) → Prop} {c_X12_sign : Int → e_M → (e_M → Prop) → Prop} {k0 : e_M → Prop} {M : e_M} (C : f_Hy sh t yX12_next rm cs 7 (lX12_next c_X12_byteAt c_X12_isDigit c_X12_isDate c_X12_digits c_X12_daysIn c_X12_dayOf c_X12_isSmall c_X12_run c_X12_sign) R) (h0 : ∀ (M : e_M), k0 M → f_E sh t YX12_next rm cs (f_Q sh t R) 0 [.inr (.inr (.inl (12, 123, 4456))), .inr (.inr (.inr ())), .inr (.inr (.inr ())), .inr (.inr (.inr ())), .inr (.inr (.inr ())), .inr (.inr (.inr ()))] [] M) (h : VX12_next_26 c_X12_byteAt c_X12_isDigit c_X12_isDate c_X12_digits c_X12_daysIn c_X12_dayOf c_X12_isSmall c_X12_run c_X12_sign k0 (fun M => R none M) M) : f_E sh t YX12_next rm cs (f_Q sh t R) 26 [.inr (.inr (.inl (12, 123, 4456))), .inr (.inr (.inr ())), .inr (.inr (.inr ())), .inr (.inr (.inr ())), .inr (.inr (.inr ())), .inr (.inr (.inr ()))] [] M :=
  f_go (KC := f_kc [(0, f_pl [(4466, 12, 123), (0, 0, 0), (0, 0, 0), (0, 0, 0), (0, 0, 0), (0, 0, 0)] [] (fun ls st M => k0 M))]) C qX12_nextf (f_kc_cons (f_pl_ok rfl (fun ls st M h => h0  M h)) f_kc_nil) 137 14 h
set_option maxRecDepth 20000 in
theorem BX12_next_178 {sh : Nat → Nat × Nat} {t : Nat} {rm : Nat × Nat × Nat} {cs : Nat × Nat} {R : f_Rt} {c_X12_byteAt : Int → e_M → (Int → Prop) → Prop} {c_X12_isDigit : Int → e_M → (Int → Prop) → Prop} {c_X12_isDate : Int → e_M → (Int → Prop) → Prop} {c_X12_digits : Int → Int → e_M → (Int → Prop) → Prop} {c_X12_daysIn : Int → Int → e_M → (Int → Prop) → Prop} {c_X12_dayOf : Int → Int → Int → e_M → (Int → Prop) → Prop} {c_X12_isSmall : Int → e_M → (Int → Prop) → Prop} {c_X12_run : Int → e_M → (e_M → Prop) → Prop} {c_X12_sign : Int → e_M → (e_M → Prop) → Prop} {k179 : Int → Int → Int → Int → e_M → Prop} {x2 : Int} {x3 : Int} {x4 : Int} {M : e_M} (C : f_Hy sh t yX12_next rm cs 7 (lX12_next c_X12_byteAt c_X12_isDigit c_X12_isDate c_X12_digits c_X12_daysIn c_X12_dayOf c_X12_isSmall c_X12_run c_X12_sign) R) (h179 : ∀ (x2 : Int) (x3 : Int) (x4 : Int) (xs0 : Int) (M : e_M), k179 x2 x3 x4 xs0 M → f_E sh t YX12_next rm cs (f_Q sh t R) 179 [.inr (.inr (.inl (12, 123, 4456))), .inr (.inr (.inr ())), .inl x2, .inl x3, .inl x4, .inr (.inr (.inr ()))] [.inl xs0] M) (h : VX12_next_178 c_X12_byteAt c_X12_isDigit c_X12_isDate c_X12_digits c_X12_daysIn c_X12_dayOf c_X12_isSmall c_X12_run c_X12_sign k179 (fun M => R none M) x2 x3 x4 M) : f_E sh t YX12_next rm cs (f_Q sh t R) 178 [.inr (.inr (.inl (12, 123, 4456))), .inr (.inr (.inr ())), .inl x2, .inl x3, .inl x4, .inr (.inr (.inr ()))] [] M :=
  f_go (KC := f_kc [(179, f_pl [(4466, 12, 123), (0, 0, 0), (1, 0, 0), (1, 0, 0), (1, 0, 0), (0, 0, 0)] [(1, 0, 0)] (fun ls st M => k179 (f_vi (f_nth ls 2)) (f_vi (f_nth ls 3)) (f_vi (f_nth ls 4)) (f_vi (f_nth st 0)) M))]) C qX12_nextf (f_kc_cons (f_pl_ok rfl (fun ls st M h => h179 _ _ _ _ M h)) f_kc_nil) 137 96 h
set_option maxRecDepth 20000 in
theorem BX12_next_179 {sh : Nat → Nat × Nat} {t : Nat} {rm : Nat × Nat × Nat} {cs : Nat × Nat} {R : f_Rt} {c_X12_byteAt : Int → e_M → (Int → Prop) → Prop} {c_X12_isDigit : Int → e_M → (Int → Prop) → Prop} {c_X12_isDate : Int → e_M → (Int → Prop) → Prop} {c_X12_digits : Int → Int → e_M → (Int → Prop) → Prop} {c_X12_daysIn : Int → Int → e_M → (Int → Prop) → Prop} {c_X12_dayOf : Int → Int → Int → e_M → (Int → Prop) → Prop} {c_X12_isSmall : Int → e_M → (Int → Prop) → Prop} {c_X12_run : Int → e_M → (e_M → Prop) → Prop} {c_X12_sign : Int → e_M → (e_M → Prop) → Prop} {k199 : Int → e_M → Prop} {x2 : Int} {x3 : Int} {x4 : Int} {xs0 : Int} {M : e_M} (C : f_Hy sh t yX12_next rm cs 7 (lX12_next c_X12_byteAt c_X12_isDigit c_X12_isDate c_X12_digits c_X12_daysIn c_X12_dayOf c_X12_isSmall c_X12_run c_X12_sign) R) (h199 : ∀ (xs1 : Int) (M : e_M), k199 xs1 M → f_E sh t YX12_next rm cs (f_Q sh t R) 199 [.inr (.inr (.inl (12, 123, 4456))), .inr (.inr (.inr ())), .inr (.inr (.inr ())), .inr (.inr (.inr ())), .inr (.inr (.inr ())), .inr (.inr (.inr ()))] [.inl xs1, .inr (.inr (.inl (12, 123, 4456)))] M) (h : VX12_next_179 c_X12_byteAt c_X12_isDigit c_X12_isDate c_X12_digits c_X12_daysIn c_X12_dayOf c_X12_isSmall c_X12_run c_X12_sign k199 (fun M => R none M) x2 x3 x4 xs0 M) : f_E sh t YX12_next rm cs (f_Q sh t R) 179 [.inr (.inr (.inl (12, 123, 4456))), .inr (.inr (.inr ())), .inl x2, .inl x3, .inl x4, .inr (.inr (.inr ()))] [.inl xs0] M :=
  f_go (KC := f_kc [(199, f_pl [(4466, 12, 123), (0, 0, 0), (0, 0, 0), (0, 0, 0), (0, 0, 0), (0, 0, 0)] [(1, 0, 0), (4466, 12, 123)] (fun ls st M => k199 (f_vi (f_nth st 0)) M))]) C qX12_nextf (f_kc_cons (f_pl_ok rfl (fun ls st M h => h199 _ M h)) f_kc_nil) 137 98 h
set_option maxRecDepth 20000 in
theorem BX12_next_199 {sh : Nat → Nat × Nat} {t : Nat} {rm : Nat × Nat × Nat} {cs : Nat × Nat} {R : f_Rt} {c_X12_byteAt : Int → e_M → (Int → Prop) → Prop} {c_X12_isDigit : Int → e_M → (Int → Prop) → Prop} {c_X12_isDate : Int → e_M → (Int → Prop) → Prop} {c_X12_digits : Int → Int → e_M → (Int → Prop) → Prop} {c_X12_daysIn : Int → Int → e_M → (Int → Prop) → Prop} {c_X12_dayOf : Int → Int → Int → e_M → (Int → Prop) → Prop} {c_X12_isSmall : Int → e_M → (Int → Prop) → Prop} {c_X12_run : Int → e_M → (e_M → Prop) → Prop} {c_X12_sign : Int → e_M → (e_M → Prop) → Prop} {xs1 : Int} {M : e_M} (C : f_Hy sh t yX12_next rm cs 7 (lX12_next c_X12_byteAt c_X12_isDigit c_X12_isDate c_X12_digits c_X12_daysIn c_X12_dayOf c_X12_isSmall c_X12_run c_X12_sign) R) (h : VX12_next_199 c_X12_byteAt c_X12_isDigit c_X12_isDate c_X12_digits c_X12_daysIn c_X12_dayOf c_X12_isSmall c_X12_run c_X12_sign (fun M => R none M) xs1 M) : f_E sh t YX12_next rm cs (f_Q sh t R) 199 [.inr (.inr (.inl (12, 123, 4456))), .inr (.inr (.inr ())), .inr (.inr (.inr ())), .inr (.inr (.inr ())), .inr (.inr (.inr ())), .inr (.inr (.inr ()))] [.inl xs1, .inr (.inr (.inl (12, 123, 4456)))] M :=
  f_go (KC := f_kc []) C qX12_nextf f_kc_nil 137 110 h
set_option maxRecDepth 20000 in
theorem BX12_next_216 {sh : Nat → Nat × Nat} {t : Nat} {rm : Nat × Nat × Nat} {cs : Nat × Nat} {R : f_Rt} {c_X12_byteAt : Int → e_M → (Int → Prop) → Prop} {c_X12_isDigit : Int → e_M → (Int → Prop) → Prop} {c_X12_isDate : Int → e_M → (Int → Prop) → Prop} {c_X12_digits : Int → Int → e_M → (Int → Prop) → Prop} {c_X12_daysIn : Int → Int → e_M → (Int → Prop) → Prop} {c_X12_dayOf : Int → Int → Int → e_M → (Int → Prop) → Prop} {c_X12_isSmall : Int → e_M → (Int → Prop) → Prop} {c_X12_run : Int → e_M → (e_M → Prop) → Prop} {c_X12_sign : Int → e_M → (e_M → Prop) → Prop} {k230 : Int → e_M → Prop} {x1 : Int} {M : e_M} (C : f_Hy sh t yX12_next rm cs 7 (lX12_next c_X12_byteAt c_X12_isDigit c_X12_isDate c_X12_digits c_X12_daysIn c_X12_dayOf c_X12_isSmall c_X12_run c_X12_sign) R) (h230 : ∀ (x1 : Int) (M : e_M), k230 x1 M → f_E sh t YX12_next rm cs (f_Q sh t R) 230 [.inr (.inr (.inl (12, 123, 4456))), .inl x1, .inr (.inr (.inr ())), .inr (.inr (.inr ())), .inr (.inr (.inr ())), .inr (.inr (.inr ()))] [] M) (h : VX12_next_216 c_X12_byteAt c_X12_isDigit c_X12_isDate c_X12_digits c_X12_daysIn c_X12_dayOf c_X12_isSmall c_X12_run c_X12_sign k230 (fun M => R none M) x1 M) : f_E sh t YX12_next rm cs (f_Q sh t R) 216 [.inr (.inr (.inl (12, 123, 4456))), .inl x1, .inr (.inr (.inr ())), .inr (.inr (.inr ())), .inr (.inr (.inr ())), .inr (.inr (.inr ()))] [] M :=
  f_go (KC := f_kc [(230, f_pl [(4466, 12, 123), (1, 0, 0), (0, 0, 0), (0, 0, 0), (0, 0, 0), (0, 0, 0)] [] (fun ls st M => k230 (f_vi (f_nth ls 1)) M))]) C qX12_nextf (f_kc_cons (f_pl_ok rfl (fun ls st M h => h230 _ M h)) f_kc_nil) 137 119 h
set_option maxRecDepth 20000 in
theorem BX12_next_230 {sh : Nat → Nat × Nat} {t : Nat} {rm : Nat × Nat × Nat} {cs : Nat × Nat} {R : f_Rt} {c_X12_byteAt : Int → e_M → (Int → Prop) → Prop} {c_X12_isDigit : Int → e_M → (Int → Prop) → Prop} {c_X12_isDate : Int → e_M → (Int → Prop) → Prop} {c_X12_digits : Int → Int → e_M → (Int → Prop) → Prop} {c_X12_daysIn : Int → Int → e_M → (Int → Prop) → Prop} {c_X12_dayOf : Int → Int → Int → e_M → (Int → Prop) → Prop} {c_X12_isSmall : Int → e_M → (Int → Prop) → Prop} {c_X12_run : Int → e_M → (e_M → Prop) → Prop} {c_X12_sign : Int → e_M → (e_M → Prop) → Prop} {x1 : Int} {M : e_M} (C : f_Hy sh t yX12_next rm cs 7 (lX12_next c_X12_byteAt c_X12_isDigit c_X12_isDate c_X12_digits c_X12_daysIn c_X12_dayOf c_X12_isSmall c_X12_run c_X12_sign) R) (h : VX12_next_230 c_X12_byteAt c_X12_isDigit c_X12_isDate c_X12_digits c_X12_daysIn c_X12_dayOf c_X12_isSmall c_X12_run c_X12_sign (fun M => R none M) x1 M) : f_E sh t YX12_next rm cs (f_Q sh t R) 230 [.inr (.inr (.inl (12, 123, 4456))), .inl x1, .inr (.inr (.inr ())), .inr (.inr (.inr ())), .inr (.inr (.inr ())), .inr (.inr (.inr ()))] [] M :=
  f_go (KC := f_kc []) C qX12_nextf f_kc_nil 137 126 h
set_option maxRecDepth 20000 in
theorem BX12_next {sh : Nat → Nat × Nat} {t : Nat} {rm : Nat × Nat × Nat} {cs : Nat × Nat} {R : f_Rt} {c_X12_byteAt : Int → e_M → (Int → Prop) → Prop} {c_X12_isDigit : Int → e_M → (Int → Prop) → Prop} {c_X12_isDate : Int → e_M → (Int → Prop) → Prop} {c_X12_digits : Int → Int → e_M → (Int → Prop) → Prop} {c_X12_daysIn : Int → Int → e_M → (Int → Prop) → Prop} {c_X12_dayOf : Int → Int → Int → e_M → (Int → Prop) → Prop} {c_X12_isSmall : Int → e_M → (Int → Prop) → Prop} {c_X12_run : Int → e_M → (e_M → Prop) → Prop} {c_X12_sign : Int → e_M → (e_M → Prop) → Prop} {k0 : e_M → Prop} {M : e_M} (C : f_Hy sh t yX12_next rm cs 7 (lX12_next c_X12_byteAt c_X12_isDigit c_X12_isDate c_X12_digits c_X12_daysIn c_X12_dayOf c_X12_isSmall c_X12_run c_X12_sign) R) (h0 : ∀ (M : e_M), k0 M → f_E sh t YX12_next rm cs (f_Q sh t R) 0 [.inr (.inr (.inl (12, 123, 4456))), .inr (.inr (.inr ())), .inr (.inr (.inr ())), .inr (.inr (.inr ())), .inr (.inr (.inr ())), .inr (.inr (.inr ()))] [] M) (h : VX12_next c_X12_byteAt c_X12_isDigit c_X12_isDate c_X12_digits c_X12_daysIn c_X12_dayOf c_X12_isSmall c_X12_run c_X12_sign k0 (fun M => R none M) M) : f_E sh t YX12_next rm cs (f_Q sh t R) 0 [.inr (.inr (.inl (12, 123, 4456))), .inr (.inr (.inr ())), .inr (.inr (.inr ())), .inr (.inr (.inr ())), .inr (.inr (.inr ())), .inr (.inr (.inr ()))] [] M :=
  f_go (KC := f_kc [(0, f_pl [(4466, 12, 123), (0, 0, 0), (0, 0, 0), (0, 0, 0), (0, 0, 0), (0, 0, 0)] [] (fun ls st M => k0 M))]) C qX12_nextf (f_kc_cons (f_pl_ok rfl (fun ls st M h => h0  M h)) f_kc_nil) 137 0 h
def WX12_next_230 (Q : e_M → Prop) (x1 : Int) (M : e_M) : Prop :=
  VX12_next_230 WX12_byteAt WX12_isDigit WX12_isDate WX12_digits WX12_daysIn WX12_dayOf WX12_isSmall WX12_run WX12_sign Q x1 M
def WX12_next_216 (Q : e_M → Prop) (x1 : Int) (M : e_M) : Prop :=
  VX12_next_216 WX12_byteAt WX12_isDigit WX12_isDate WX12_digits WX12_daysIn WX12_dayOf WX12_isSmall WX12_run WX12_sign (WX12_next_230 Q) Q x1 M
def WX12_next_199 (Q : e_M → Prop) (xs1 : Int) (M : e_M) : Prop :=
  VX12_next_199 WX12_byteAt WX12_isDigit WX12_isDate WX12_digits WX12_daysIn WX12_dayOf WX12_isSmall WX12_run WX12_sign Q xs1 M
def WX12_next_179 (Q : e_M → Prop) (x2 : Int) (x3 : Int) (x4 : Int) (xs0 : Int) (M : e_M) : Prop :=
  VX12_next_179 WX12_byteAt WX12_isDigit WX12_isDate WX12_digits WX12_daysIn WX12_dayOf WX12_isSmall WX12_run WX12_sign (WX12_next_199 Q) Q x2 x3 x4 xs0 M
def WX12_next_178 (Q : e_M → Prop) (x2 : Int) (x3 : Int) (x4 : Int) (M : e_M) : Prop :=
  VX12_next_178 WX12_byteAt WX12_isDigit WX12_isDate WX12_digits WX12_daysIn WX12_dayOf WX12_isSmall WX12_run WX12_sign (WX12_next_179 Q) Q x2 x3 x4 M
def WX12_next_26 (H0 : e_M → Prop) (Q : e_M → Prop) (M : e_M) : Prop :=
  VX12_next_26 WX12_byteAt WX12_isDigit WX12_isDate WX12_digits WX12_daysIn WX12_dayOf WX12_isSmall WX12_run WX12_sign H0 Q M
def WX12_next_0 (Q : e_M → Prop) : Nat → e_M → Prop
  | 0, _ => False
  | n + 1, M =>
    VX12_next_0 WX12_byteAt WX12_isDigit WX12_isDate WX12_digits WX12_daysIn WX12_dayOf WX12_isSmall WX12_run WX12_sign (WX12_next_26 (WX12_next_0 Q n) Q) (WX12_next_216 Q) (WX12_next_178 Q) (WX12_next_179 Q) Q M
def WX12_next (M : e_M) (Q : e_M → Prop) : Prop :=
  VX12_next WX12_byteAt WX12_isDigit WX12_isDate WX12_digits WX12_daysIn WX12_dayOf WX12_isSmall WX12_run WX12_sign (fun M => ∃ j, WX12_next_0 Q j M) Q M
theorem PX12_next_230 {sh : Nat → Nat × Nat} {t : Nat} {rm : Nat × Nat × Nat} {cs : Nat × Nat} {R : f_Rt} {x1 : Int} {M : e_M} (C : f_Hy sh t yX12_next rm cs 7 (lX12_next WX12_byteAt WX12_isDigit WX12_isDate WX12_digits WX12_daysIn WX12_dayOf WX12_isSmall WX12_run WX12_sign) R) (h : WX12_next_230 (fun M => R none M) x1 M) : f_E sh t YX12_next rm cs (f_Q sh t R) 230 [.inr (.inr (.inl (12, 123, 4456))), .inl x1, .inr (.inr (.inr ())), .inr (.inr (.inr ())), .inr (.inr (.inr ())), .inr (.inr (.inr ()))] [] M :=
  BX12_next_230 C h
theorem PX12_next_216 {sh : Nat → Nat × Nat} {t : Nat} {rm : Nat × Nat × Nat} {cs : Nat × Nat} {R : f_Rt} {x1 : Int} {M : e_M} (C : f_Hy sh t yX12_next rm cs 7 (lX12_next WX12_byteAt WX12_isDigit WX12_isDate WX12_digits WX12_daysIn WX12_dayOf WX12_isSmall WX12_run WX12_sign) R) (h : WX12_next_216 (fun M => R none M) x1 M) : f_E sh t YX12_next rm cs (f_Q sh t R) 216 [.inr (.inr (.inl (12, 123, 4456))), .inl x1, .inr (.inr (.inr ())), .inr (.inr (.inr ())), .inr (.inr (.inr ())), .inr (.inr (.inr ()))] [] M :=
  BX12_next_216 C (fun x1 M h => PX12_next_230 C h) h
theorem PX12_next_199 {sh : Nat → Nat × Nat} {t : Nat} {rm : Nat × Nat × Nat} {cs : Nat × Nat} {R : f_Rt} {xs1 : Int} {M : e_M} (C : f_Hy sh t yX12_next rm cs 7 (lX12_next WX12_byteAt WX12_isDigit WX12_isDate WX12_digits WX12_daysIn WX12_dayOf WX12_isSmall WX12_run WX12_sign) R) (h : WX12_next_199 (fun M => R none M) xs1 M) : f_E sh t YX12_next rm cs (f_Q sh t R) 199 [.inr (.inr (.inl (12, 123, 4456))), .inr (.inr (.inr ())), .inr (.inr (.inr ())), .inr (.inr (.inr ())), .inr (.inr (.inr ())), .inr (.inr (.inr ()))] [.inl xs1, .inr (.inr (.inl (12, 123, 4456)))] M :=
  BX12_next_199 C h
theorem PX12_next_179 {sh : Nat → Nat × Nat} {t : Nat} {rm : Nat × Nat × Nat} {cs : Nat × Nat} {R : f_Rt} {x2 : Int} {x3 : Int} {x4 : Int} {xs0 : Int} {M : e_M} (C : f_Hy sh t yX12_next rm cs 7 (lX12_next WX12_byteAt WX12_isDigit WX12_isDate WX12_digits WX12_daysIn WX12_dayOf WX12_isSmall WX12_run WX12_sign) R) (h : WX12_next_179 (fun M => R none M) x2 x3 x4 xs0 M) : f_E sh t YX12_next rm cs (f_Q sh t R) 179 [.inr (.inr (.inl (12, 123, 4456))), .inr (.inr (.inr ())), .inl x2, .inl x3, .inl x4, .inr (.inr (.inr ()))] [.inl xs0] M :=
  BX12_next_179 C (fun xs1 M h => PX12_next_199 C h) h
theorem PX12_next_178 {sh : Nat → Nat × Nat} {t : Nat} {rm : Nat × Nat × Nat} {cs : Nat × Nat} {R : f_Rt} {x2 : Int} {x3 : Int} {x4 : Int} {M : e_M} (C : f_Hy sh t yX12_next rm cs 7 (lX12_next WX12_byteAt WX12_isDigit WX12_isDate WX12_digits WX12_daysIn WX12_dayOf WX12_isSmall WX12_run WX12_sign) R) (h : WX12_next_178 (fun M => R none M) x2 x3 x4 M) : f_E sh t YX12_next rm cs (f_Q sh t R) 178 [.inr (.inr (.inl (12, 123, 4456))), .inr (.inr (.inr ())), .inl x2, .inl x3, .inl x4, .inr (.inr (.inr ()))] [] M :=
  BX12_next_178 C (fun x2 x3 x4 xs0 M h => PX12_next_179 C h) h
theorem PX12_next_26 {sh : Nat → Nat × Nat} {t : Nat} {rm : Nat × Nat × Nat} {cs : Nat × Nat} {R : f_Rt} {H0 : e_M → Prop} {M : e_M} (C : f_Hy sh t yX12_next rm cs 7 (lX12_next WX12_byteAt WX12_isDigit WX12_isDate WX12_digits WX12_daysIn WX12_dayOf WX12_isSmall WX12_run WX12_sign) R) (g0 : ∀ (M : e_M), H0 M → f_E sh t YX12_next rm cs (f_Q sh t R) 0 [.inr (.inr (.inl (12, 123, 4456))), .inr (.inr (.inr ())), .inr (.inr (.inr ())), .inr (.inr (.inr ())), .inr (.inr (.inr ())), .inr (.inr (.inr ()))] [] M) (h : WX12_next_26 H0 (fun M => R none M) M) : f_E sh t YX12_next rm cs (f_Q sh t R) 26 [.inr (.inr (.inl (12, 123, 4456))), .inr (.inr (.inr ())), .inr (.inr (.inr ())), .inr (.inr (.inr ())), .inr (.inr (.inr ())), .inr (.inr (.inr ()))] [] M :=
  BX12_next_26 C g0 h
theorem PX12_next_0 {sh : Nat → Nat × Nat} {t : Nat} {rm : Nat × Nat × Nat} {cs : Nat × Nat} {R : f_Rt} (C : f_Hy sh t yX12_next rm cs 7 (lX12_next WX12_byteAt WX12_isDigit WX12_isDate WX12_digits WX12_daysIn WX12_dayOf WX12_isSmall WX12_run WX12_sign) R) : ∀ (n : Nat) (M : e_M), WX12_next_0 (fun M => R none M) n M → f_E sh t YX12_next rm cs (f_Q sh t R) 0 [.inr (.inr (.inl (12, 123, 4456))), .inr (.inr (.inr ())), .inr (.inr (.inr ())), .inr (.inr (.inr ())), .inr (.inr (.inr ())), .inr (.inr (.inr ()))] [] M := by
  intro n
  induction n with
  | zero => intro M h; exact h.elim
  | succ n ih => intro M h; exact BX12_next_0 C (fun M h => PX12_next_26 C ih h) (fun x1 M h => PX12_next_216 C h) (fun x2 x3 x4 M h => PX12_next_178 C h) (fun x2 x3 x4 xs0 M h => PX12_next_179 C h) h
theorem PX12_next {sh : Nat → Nat × Nat} {t : Nat} {rm : Nat × Nat × Nat} {cs : Nat × Nat} {R : f_Rt} {M : e_M} (C : f_Hy sh t yX12_next rm cs 7 (lX12_next WX12_byteAt WX12_isDigit WX12_isDate WX12_digits WX12_daysIn WX12_dayOf WX12_isSmall WX12_run WX12_sign) R) (h : WX12_next M (fun M => R none M)) : f_E sh t YX12_next rm cs (f_Q sh t R) 0 [.inr (.inr (.inl (12, 123, 4456))), .inr (.inr (.inr ())), .inr (.inr (.inr ())), .inr (.inr (.inr ())), .inr (.inr (.inr ())), .inr (.inr (.inr ()))] [] M :=
  BX12_next C (fun M ⟨j, h⟩ => PX12_next_0 C j _ h) h
def wX12_next : f_Wt := f_wm [(4466, 12, 123)] (fun ar M R => WX12_next M (fun M => R none M))
theorem TX12_next {sh : Nat → Nat × Nat} {t : Nat} : f_Mt sh t YX12_next 7 (wX12_next) :=
  f_Mt_of (k := 5) (Nat.le_of_ble_eq_true rfl) rfl rfl (fun ar M R rm cs h1 h2 h3 hX h => PX12_next ⟨Nat.le_of_ble_eq_true rfl, h1, h2, h3, ⟨(f_Mt.up (Nat.le_of_ble_eq_true rfl) TX12_byteAt), (f_Mt.up (Nat.le_of_ble_eq_true rfl) TX12_isDigit), (f_Mt.up (Nat.le_of_ble_eq_true rfl) TX12_isDate), (f_Mt.up (Nat.le_of_ble_eq_true rfl) TX12_digits), (f_Mt.up (Nat.le_of_ble_eq_true rfl) TX12_daysIn), (f_Mt.up (Nat.le_of_ble_eq_true rfl) TX12_dayOf), (f_Mt.up (Nat.le_of_ble_eq_true rfl) TX12_isSmall), (f_Mt.up (Nat.le_of_ble_eq_true rfl) TX12_run), (f_Mt.up (Nat.le_of_ble_eq_true rfl) TX12_sign), trivial⟩, hX⟩ h)
def VX12_wrong (Q : Int → e_M → Prop) (x1 : Int) (M : e_M) : Prop :=
  ((¬ (M 4456 12) = 0 → (Q 0 M)) ∧ ((M 4456 12) = 0 → (∀ M1 : e_M, M1 = e_up M 4456 12 x1 → (∀ M2 : e_M, M2 = e_up M1 4456 13 (M1 4456 8) → (Q 0 M2)))))
def yX12_wrong (i : Nat) : e_Y := x_get YX12_wrong [] i
def pX12_wrongf : List x_I := [(0, 4, 1, 0, 0, 0, []), (1, 25, 12, 12, 0, 0, []), (4, 17, 20, 1, 11, 0, []), (7, 4, 1, 0, 0, 0, []), (8, 2, 1, 1, 0, 0, []), (9, 26, 12, 12, 0, 0, []), (12, 4, 1, 0, 0, 0, []), (13, 4, 1, 0, 0, 0, []), (14, 25, 12, 8, 0, 0, []), (17, 26, 12, 13, 0, 0, []), (20, 0, 1, 0, 0, 0, []), (21, 48, 0, 0, 0, 0, [])]
set_option maxRecDepth 20000 in
theorem qX12_wrongf : f_all yX12_wrong YX12_wrong pX12_wrongf :=
  ⟨f_aload_n (n := 0) (e_dx DX12_wrong_0 0 rfl) rfl,
  f_getf (e_dx DX12_wrong_0 1 rfl) fX12_336 rfl (by decide) (by decide) (by decide),
  f_if_ne (e_dx DX12_wrong_0 2 rfl) rfl,
  f_aload_n (n := 0) (e_dx DX12_wrong_0 3 rfl) rfl,
  f_iload_n (n := 1) (e_dx DX12_wrong_0 4 rfl) rfl,
  f_putn (e_dx DX12_wrong_0 5 rfl) fX12_336 (fun q hq => by cases hq; rfl) rfl (Or.inl rfl) (by decide),
  f_aload_n (n := 0) (e_dx DX12_wrong_0 6 rfl) rfl,
  f_aload_n (n := 0) (e_dx DX12_wrong_0 7 rfl) rfl,
  f_getf (e_dx DX12_wrong_0 8 rfl) fX12_303 rfl (by decide) (by decide) (by decide),
  f_putn (e_dx DX12_wrong_0 9 rfl) fX12_339 (fun q hq => by cases hq; rfl) rfl (Or.inl rfl) (by decide),
  f_iconst (e_dx DX12_wrong_0 10 rfl) ⟨by decide, by decide⟩,
  ⟨(e_dx DX12_wrong_0 11 rfl), rfl⟩, trivial⟩
def lX12_wrong : List (Nat × f_Wt) := []
set_option maxRecDepth 20000 in
theorem BX12_wrong {sh : Nat → Nat × Nat} {t : Nat} {rm : Nat × Nat × Nat} {cs : Nat × Nat} {R : f_Rt} {x1 : Int} {M : e_M} (C : f_Hy sh t yX12_wrong rm cs 4 (lX12_wrong) R) (h : VX12_wrong (fun r M => R (some (.inl r)) M) x1 M) : f_E sh t YX12_wrong rm cs (f_Q sh t R) 0 [.inr (.inr (.inl (12, 123, 4456))), .inl x1] [] M :=
  f_go (KC := f_kc []) C qX12_wrongf f_kc_nil 14 0 h
def WX12_wrong (x1 : Int) (M : e_M) (Q : Int → e_M → Prop) : Prop :=
  VX12_wrong Q x1 M
theorem PX12_wrong {sh : Nat → Nat × Nat} {t : Nat} {rm : Nat × Nat × Nat} {cs : Nat × Nat} {R : f_Rt} {x1 : Int} {M : e_M} (C : f_Hy sh t yX12_wrong rm cs 4 (lX12_wrong) R) (h : WX12_wrong x1 M (fun r M => R (some (.inl r)) M)) : f_E sh t YX12_wrong rm cs (f_Q sh t R) 0 [.inr (.inr (.inl (12, 123, 4456))), .inl x1] [] M :=
  BX12_wrong C h
def wX12_wrong : f_Wt := f_wm [(4466, 12, 123), (1, 0, 0)] (fun ar M R => WX12_wrong (f_vi (f_nth ar 1)) M (fun r M => R (some (.inl r)) M))
theorem TX12_wrong {sh : Nat → Nat × Nat} {t : Nat} : f_Mt sh t YX12_wrong 4 (wX12_wrong) :=
  f_Mt_of (k := 0) (Nat.le_of_ble_eq_true rfl) rfl rfl (fun ar M R rm cs h1 h2 h3 hX h => PX12_wrong ⟨Nat.le_of_ble_eq_true rfl, h1, h2, h3, trivial, hX⟩ h)
def VX12_good_19 (c_X12_wrong : Int → e_M → (Int → e_M → Prop) → Prop) (c_X12_next : e_M → (e_M → Prop) → Prop) (k24 : Int → e_M → Prop) (Q : Int → e_M → Prop) (M : e_M) : Prop :=
  (k24 4 M)
def VX12_good_23 (c_X12_wrong : Int → e_M → (Int → e_M → Prop) → Prop) (c_X12_next : e_M → (e_M → Prop) → Prop) (k24 : Int → e_M → Prop) (Q : Int → e_M → Prop) (x1 : Int) (M : e_M) : Prop :=
  (k24 x1 M)
def VX12_good_24 (c_X12_wrong : Int → e_M → (Int → e_M → Prop) → Prop) (c_X12_next : e_M → (e_M → Prop) → Prop) (Q : Int → e_M → Prop) (xs0 : Int) (M : e_M) : Prop :=
  ((xs0 ≤ 0 → (c_X12_next M (fun M1 => (Q 1 M1)))) ∧ (0 < xs0 → (c_X12_wrong xs0 M (fun r2 M3 => ((r2 = 0 ∨ r2 = 1) ∧ Q r2 M3)))))
def VX12_good (c_X12_wrong : Int → e_M → (Int → e_M → Prop) → Prop) (c_X12_next : e_M → (e_M → Prop) → Prop) (k23 : Int → e_M → Prop) (k19 : e_M → Prop) (Q : Int → e_M → Prop) (x1 : Int) (M : e_M) : Prop :=
  (((M 4456 8) < 600 → (k23 x1 M)) ∧ (600 ≤ (M 4456 8) → ((x1 = 0 → (k19 M)) ∧ (¬ x1 = 0 → ((x1 ≤ 4 → (k23 x1 M)) ∧ (4 < x1 → (k19 M)))))))
def yX12_good (i : Nat) : e_Y := x_get YX12_good [YX12_wrong, YX12_next] i
def pX12_goodf : List x_I := [(0, 4, 1, 0, 0, 0, []), (1, 25, 12, 8, 0, 0, []), (4, 0, 3, 0, 0, 600, []), (7, 18, 23, 2, 13, 0, []), (10, 2, 1, 1, 0, 0, []), (11, 17, 19, 0, 10, 0, []), (14, 2, 1, 1, 0, 0, []), (15, 0, 1, 0, 0, 4, []), (16, 18, 23, 5, 13, 0, []), (19, 49, 0, 0, 0, 0, []), (19, 0, 1, 0, 0, 4, []), (20, 19, 24, 0, 15, 0, []), (23, 49, 0, 0, 0, 0, []), (23, 2, 1, 1, 0, 0, []), (24, 49, 0, 0, 0, 0, []), (24, 5, 1, 2, 0, 0, []), (25, 2, 1, 2, 0, 0, []), (26, 17, 35, 5, 23, 0, []), (29, 4, 1, 0, 0, 0, []), (30, 2, 1, 2, 0, 0, []), (31, 40, 0, 2, 14, 0, []), (34, 42, 0, 0, 0, 0, []), (35, 4, 1, 0, 0, 0, []), (36, 40, 1, 1, 14, 0, []), (39, 0, 1, 0, 0, 1, []), (40, 48, 0, 0, 0, 0, [])]
set_option maxRecDepth 20000 in
theorem qX12_goodf : f_all yX12_good YX12_good pX12_goodf :=
  ⟨f_aload_n (n := 0) (e_dx DX12_good_0 0 rfl) rfl,
  f_getf (e_dx DX12_good_0 1 rfl) fX12_303 rfl (by decide) (by decide) (by decide),
  f_sipush (e_dx DX12_good_0 2 rfl) ⟨by decide, by decide⟩,
  f_icmp_lt (e_dx DX12_good_0 3 rfl) rfl,
  f_iload_n (n := 1) (e_dx DX12_good_0 4 rfl) rfl,
  f_if_eq (e_dx DX12_good_0 5 rfl) rfl,
  f_iload_n (n := 1) (e_dx DX12_good_0 6 rfl) rfl,
  f_iconst (e_dx DX12_good_0 7 rfl) ⟨by decide, by decide⟩,
  f_icmp_le (e_dx DX12_good_0 8 rfl) rfl,
  trivial,
  f_iconst (e_dx DX12_good_0 9 rfl) ⟨by decide, by decide⟩,
  f_g19 (e_dx DX12_good_0 10 rfl) rfl,
  trivial,
  f_iload_n (n := 1) (e_dx DX12_good_0 11 rfl) rfl,
  trivial,
  f_istore_n (n := 2) (e_dx DX12_good_0 12 rfl) rfl (by decide),
  f_iload_n (n := 2) (e_dx DX12_good_0 13 rfl) rfl,
  f_if_le (e_dx DX12_good_0 14 rfl) rfl,
  f_aload_n (n := 0) (e_dx DX12_good_0 15 rfl) rfl,
  f_iload_n (n := 2) (e_dx DX12_good_0 16 rfl) rfl,
  x_callV (e_dx DX12_good_0 17 rfl) mwX12_wrong vwX12_wrong cX12_342 rfl,
  ⟨(e_dx DX12_good_0 18 rfl), rfl⟩,
  f_aload_n (n := 0) (e_dx DX12_good_0 19 rfl) rfl,
  x_callV (e_dx DX12_good_0 20 rfl) mwX12_next vwX12_next cX12_345 rfl,
  f_iconst (e_dx DX12_good_0 21 rfl) ⟨by decide, by decide⟩,
  ⟨(e_dx DX12_good_0 22 rfl), rfl⟩, trivial⟩
def lX12_good (c_X12_wrong : Int → e_M → (Int → e_M → Prop) → Prop) (c_X12_next : e_M → (e_M → Prop) → Prop) : List (Nat × f_Wt) := [(0, f_wm [(4466, 12, 123), (1, 0, 0)] (fun ar M R => c_X12_wrong (f_vi (f_nth ar 1)) M (fun r M => R (some (.inl r)) M))), (1, f_wm [(4466, 12, 123)] (fun ar M R => c_X12_next  M (fun M => R none M)))]
set_option maxRecDepth 20000 in
theorem BX12_good_19 {sh : Nat → Nat × Nat} {t : Nat} {rm : Nat × Nat × Nat} {cs : Nat × Nat} {R : f_Rt} {c_X12_wrong : Int → e_M → (Int → e_M → Prop) → Prop} {c_X12_next : e_M → (e_M → Prop) → Prop} {k24 : Int → e_M → Prop} {M : e_M} (C : f_Hy sh t yX12_good rm cs 8 (lX12_good c_X12_wrong c_X12_next) R) (h24 : ∀ (xs0 : Int) (M : e_M), k24 xs0 M → f_E sh t YX12_good rm cs (f_Q sh t R) 24 [.inr (.inr (.inl (12, 123, 4456))), .inr (.inr (.inr ())), .inr (.inr (.inr ()))] [.inl xs0] M) (h : VX12_good_19 c_X12_wrong c_X12_next k24 (fun r M => R (some (.inl r)) M) M) : f_E sh t YX12_good rm cs (f_Q sh t R) 19 [.inr (.inr (.inl (12, 123, 4456))), .inr (.inr (.inr ())), .inr (.inr (.inr ()))] [] M :=
  f_go (KC := f_kc [(24, f_pl [(4466, 12, 123), (0, 0, 0), (0, 0, 0)] [(1, 0, 0)] (fun ls st M => k24 (f_vi (f_nth st 0)) M))]) C qX12_goodf (f_kc_cons (f_pl_ok rfl (fun ls st M h => h24 _ M h)) f_kc_nil) 28 10 h
set_option maxRecDepth 20000 in
theorem BX12_good_23 {sh : Nat → Nat × Nat} {t : Nat} {rm : Nat × Nat × Nat} {cs : Nat × Nat} {R : f_Rt} {c_X12_wrong : Int → e_M → (Int → e_M → Prop) → Prop} {c_X12_next : e_M → (e_M → Prop) → Prop} {k24 : Int → e_M → Prop} {x1 : Int} {M : e_M} (C : f_Hy sh t yX12_good rm cs 8 (lX12_good c_X12_wrong c_X12_next) R) (h24 : ∀ (xs0 : Int) (M : e_M), k24 xs0 M → f_E sh t YX12_good rm cs (f_Q sh t R) 24 [.inr (.inr (.inl (12, 123, 4456))), .inr (.inr (.inr ())), .inr (.inr (.inr ()))] [.inl xs0] M) (h : VX12_good_23 c_X12_wrong c_X12_next k24 (fun r M => R (some (.inl r)) M) x1 M) : f_E sh t YX12_good rm cs (f_Q sh t R) 23 [.inr (.inr (.inl (12, 123, 4456))), .inl x1, .inr (.inr (.inr ()))] [] M :=
  f_go (KC := f_kc [(24, f_pl [(4466, 12, 123), (0, 0, 0), (0, 0, 0)] [(1, 0, 0)] (fun ls st M => k24 (f_vi (f_nth st 0)) M))]) C qX12_goodf (f_kc_cons (f_pl_ok rfl (fun ls st M h => h24 _ M h)) f_kc_nil) 28 13 h
set_option maxRecDepth 20000 in
theorem BX12_good_24 {sh : Nat → Nat × Nat} {t : Nat} {rm : Nat × Nat × Nat} {cs : Nat × Nat} {R : f_Rt} {c_X12_wrong : Int → e_M → (Int → e_M → Prop) → Prop} {c_X12_next : e_M → (e_M → Prop) → Prop} {xs0 : Int} {M : e_M} (C : f_Hy sh t yX12_good rm cs 8 (lX12_good c_X12_wrong c_X12_next) R) (h : VX12_good_24 c_X12_wrong c_X12_next (fun r M => R (some (.inl r)) M) xs0 M) : f_E sh t YX12_good rm cs (f_Q sh t R) 24 [.inr (.inr (.inl (12, 123, 4456))), .inr (.inr (.inr ())), .inr (.inr (.inr ()))] [.inl xs0] M :=
  f_go (KC := f_kc []) C qX12_goodf f_kc_nil 28 15 h
set_option maxRecDepth 20000 in
theorem BX12_good {sh : Nat → Nat × Nat} {t : Nat} {rm : Nat × Nat × Nat} {cs : Nat × Nat} {R : f_Rt} {c_X12_wrong : Int → e_M → (Int → e_M → Prop) → Prop} {c_X12_next : e_M → (e_M → Prop) → Prop} {k23 : Int → e_M → Prop} {k19 : e_M → Prop} {x1 : Int} {M : e_M} (C : f_Hy sh t yX12_good rm cs 8 (lX12_good c_X12_wrong c_X12_next) R) (h23 : ∀ (x1 : Int) (M : e_M), k23 x1 M → f_E sh t YX12_good rm cs (f_Q sh t R) 23 [.inr (.inr (.inl (12, 123, 4456))), .inl x1, .inr (.inr (.inr ()))] [] M) (h19 : ∀ (M : e_M), k19 M → f_E sh t YX12_good rm cs (f_Q sh t R) 19 [.inr (.inr (.inl (12, 123, 4456))), .inr (.inr (.inr ())), .inr (.inr (.inr ()))] [] M) (h : VX12_good c_X12_wrong c_X12_next k23 k19 (fun r M => R (some (.inl r)) M) x1 M) : f_E sh t YX12_good rm cs (f_Q sh t R) 0 [.inr (.inr (.inl (12, 123, 4456))), .inl x1, .inr (.inr (.inr ()))] [] M :=
  f_go (KC := f_kc [(23, f_pl [(4466, 12, 123), (1, 0, 0), (0, 0, 0)] [] (fun ls st M => k23 (f_vi (f_nth ls 1)) M)), (19, f_pl [(4466, 12, 123), (0, 0, 0), (0, 0, 0)] [] (fun ls st M => k19 M))]) C qX12_goodf (f_kc_cons (f_pl_ok rfl (fun ls st M h => h23 _ M h)) (f_kc_cons (f_pl_ok rfl (fun ls st M h => h19  M h)) f_kc_nil)) 28 0 h
def WX12_good_24 (Q : Int → e_M → Prop) (xs0 : Int) (M : e_M) : Prop :=
  VX12_good_24 WX12_wrong WX12_next Q xs0 M
def WX12_good_19 (Q : Int → e_M → Prop) (M : e_M) : Prop :=
  VX12_good_19 WX12_wrong WX12_next (WX12_good_24 Q) Q M
def WX12_good_23 (Q : Int → e_M → Prop) (x1 : Int) (M : e_M) : Prop :=
  VX12_good_23 WX12_wrong WX12_next (WX12_good_24 Q) Q x1 M
def WX12_good (x1 : Int) (M : e_M) (Q : Int → e_M → Prop) : Prop :=
  VX12_good WX12_wrong WX12_next (WX12_good_23 Q) (WX12_good_19 Q) Q x1 M
theorem PX12_good_24 {sh : Nat → Nat × Nat} {t : Nat} {rm : Nat × Nat × Nat} {cs : Nat × Nat} {R : f_Rt} {xs0 : Int} {M : e_M} (C : f_Hy sh t yX12_good rm cs 8 (lX12_good WX12_wrong WX12_next) R) (h : WX12_good_24 (fun r M => R (some (.inl r)) M) xs0 M) : f_E sh t YX12_good rm cs (f_Q sh t R) 24 [.inr (.inr (.inl (12, 123, 4456))), .inr (.inr (.inr ())), .inr (.inr (.inr ()))] [.inl xs0] M :=
  BX12_good_24 C h
theorem PX12_good_19 {sh : Nat → Nat × Nat} {t : Nat} {rm : Nat × Nat × Nat} {cs : Nat × Nat} {R : f_Rt} {M : e_M} (C : f_Hy sh t yX12_good rm cs 8 (lX12_good WX12_wrong WX12_next) R) (h : WX12_good_19 (fun r M => R (some (.inl r)) M) M) : f_E sh t YX12_good rm cs (f_Q sh t R) 19 [.inr (.inr (.inl (12, 123, 4456))), .inr (.inr (.inr ())), .inr (.inr (.inr ()))] [] M :=
  BX12_good_19 C (fun xs0 M h => PX12_good_24 C h) h
theorem PX12_good_23 {sh : Nat → Nat × Nat} {t : Nat} {rm : Nat × Nat × Nat} {cs : Nat × Nat} {R : f_Rt} {x1 : Int} {M : e_M} (C : f_Hy sh t yX12_good rm cs 8 (lX12_good WX12_wrong WX12_next) R) (h : WX12_good_23 (fun r M => R (some (.inl r)) M) x1 M) : f_E sh t YX12_good rm cs (f_Q sh t R) 23 [.inr (.inr (.inl (12, 123, 4456))), .inl x1, .inr (.inr (.inr ()))] [] M :=
  BX12_good_23 C (fun xs0 M h => PX12_good_24 C h) h
theorem PX12_good {sh : Nat → Nat × Nat} {t : Nat} {rm : Nat × Nat × Nat} {cs : Nat × Nat} {R : f_Rt} {x1 : Int} {M : e_M} (C : f_Hy sh t yX12_good rm cs 8 (lX12_good WX12_wrong WX12_next) R) (h : WX12_good x1 M (fun r M => R (some (.inl r)) M)) : f_E sh t YX12_good rm cs (f_Q sh t R) 0 [.inr (.inr (.inl (12, 123, 4456))), .inl x1, .inr (.inr (.inr ()))] [] M :=
  BX12_good C (fun x1 M h => PX12_good_23 C h) (fun M h => PX12_good_19 C h) h
def wX12_good : f_Wt := f_wm [(4466, 12, 123), (1, 0, 0)] (fun ar M R => WX12_good (f_vi (f_nth ar 1)) M (fun r M => R (some (.inl r)) M))
theorem TX12_good {sh : Nat → Nat × Nat} {t : Nat} : f_Mt sh t YX12_good 8 (wX12_good) :=
  f_Mt_of (k := 1) (Nat.le_of_ble_eq_true rfl) rfl rfl (fun ar M R rm cs h1 h2 h3 hX h => PX12_good ⟨Nat.le_of_ble_eq_true rfl, h1, h2, h3, ⟨(f_Mt.up (Nat.le_of_ble_eq_true rfl) TX12_wrong), (f_Mt.up (Nat.le_of_ble_eq_true rfl) TX12_next), trivial⟩, hX⟩ h)
def VX12_isWord (Q : Int → Prop) (x1 : Int) (M : e_M) : Prop :=
  ((¬ (M 4456 7) = 3 → (Q 0)) ∧ ((M 4456 7) = 3 → ((¬ (M 4456 10) = x1 → (Q 0)) ∧ ((M 4456 10) = x1 → (Q 1)))))
def yX12_isWord (i : Nat) : e_Y := x_get YX12_isWord [] i
def pX12_isWordf : List x_I := [(0, 4, 1, 0, 0, 0, []), (1, 25, 12, 7, 0, 0, []), (4, 0, 1, 0, 0, 3, []), (5, 18, 20, 1, 11, 0, []), (8, 4, 1, 0, 0, 0, []), (9, 25, 12, 10, 0, 0, []), (12, 2, 1, 1, 0, 0, []), (13, 18, 20, 1, 11, 0, []), (16, 0, 1, 0, 0, 1, []), (17, 19, 21, 0, 12, 0, []), (20, 0, 1, 0, 0, 0, []), (21, 48, 0, 0, 0, 0, [])]
set_option maxRecDepth 20000 in
theorem qX12_isWordf : f_all yX12_isWord YX12_isWord pX12_isWordf :=
  ⟨f_aload_n (n := 0) (e_dx DX12_isWord_0 0 rfl) rfl,
  f_getf (e_dx DX12_isWord_0 1 rfl) fX12_309 rfl (by decide) (by decide) (by decide),
  f_iconst (e_dx DX12_isWord_0 2 rfl) ⟨by decide, by decide⟩,
  f_icmp_ne (e_dx DX12_isWord_0 3 rfl) rfl,
  f_aload_n (n := 0) (e_dx DX12_isWord_0 4 rfl) rfl,
  f_getf (e_dx DX12_isWord_0 5 rfl) fX12_306 rfl (by decide) (by decide) (by decide),
  f_iload_n (n := 1) (e_dx DX12_isWord_0 6 rfl) rfl,
  f_icmp_ne (e_dx DX12_isWord_0 7 rfl) rfl,
  f_iconst (e_dx DX12_isWord_0 8 rfl) ⟨by decide, by decide⟩,
  f_g19 (e_dx DX12_isWord_0 9 rfl) rfl,
  f_iconst (e_dx DX12_isWord_0 10 rfl) ⟨by decide, by decide⟩,
  ⟨(e_dx DX12_isWord_0 11 rfl), rfl⟩, trivial⟩
def lX12_isWord : List (Nat × f_Wt) := []
set_option maxRecDepth 20000 in
theorem BX12_isWord {sh : Nat → Nat × Nat} {t : Nat} {rm : Nat × Nat × Nat} {cs : Nat × Nat} {R : f_Rt} {x1 : Int} {M : e_M} (C : f_Hy sh t yX12_isWord rm cs 4 (lX12_isWord) R) (h : VX12_isWord (fun r => R (some (.inl r)) M) x1 M) : f_E sh t YX12_isWord rm cs (f_Q sh t R) 0 [.inr (.inr (.inl (12, 123, 4456))), .inl x1] [] M :=
  f_go (KC := f_kc []) C qX12_isWordf f_kc_nil 14 0 h
def WX12_isWord (x1 : Int) (M : e_M) (Q : Int → Prop) : Prop :=
  VX12_isWord Q x1 M
theorem PX12_isWord {sh : Nat → Nat × Nat} {t : Nat} {rm : Nat × Nat × Nat} {cs : Nat × Nat} {R : f_Rt} {x1 : Int} {M : e_M} (C : f_Hy sh t yX12_isWord rm cs 4 (lX12_isWord) R) (h : WX12_isWord x1 M (fun r => R (some (.inl r)) M)) : f_E sh t YX12_isWord rm cs (f_Q sh t R) 0 [.inr (.inr (.inl (12, 123, 4456))), .inl x1] [] M :=
  BX12_isWord C h
def wX12_isWord : f_Wt := f_wm [(4466, 12, 123), (1, 0, 0)] (fun ar M R => WX12_isWord (f_vi (f_nth ar 1)) M (fun r => R (some (.inl r)) M))
theorem TX12_isWord {sh : Nat → Nat × Nat} {t : Nat} : f_Mt sh t YX12_isWord 4 (wX12_isWord) :=
  f_Mt_of (k := 0) (Nat.le_of_ble_eq_true rfl) rfl rfl (fun ar M R rm cs h1 h2 h3 hX h => PX12_isWord ⟨Nat.le_of_ble_eq_true rfl, h1, h2, h3, trivial, hX⟩ h)
def VX12_isSign (Q : Int → Prop) (x1 : Int) (M : e_M) : Prop :=
  ((¬ (M 4456 7) = 4 → (Q 0)) ∧ ((M 4456 7) = 4 → ((¬ (M 4456 9) = x1 → (Q 0)) ∧ ((M 4456 9) = x1 → (Q 1)))))
def yX12_isSign (i : Nat) : e_Y := x_get YX12_isSign [] i
def pX12_isSignf : List x_I := [(0, 4, 1, 0, 0, 0, []), (1, 25, 12, 7, 0, 0, []), (4, 0, 1, 0, 0, 4, []), (5, 18, 20, 1, 11, 0, []), (8, 4, 1, 0, 0, 0, []), (9, 25, 12, 9, 0, 0, []), (12, 2, 1, 1, 0, 0, []), (13, 18, 20, 1, 11, 0, []), (16, 0, 1, 0, 0, 1, []), (17, 19, 21, 0, 12, 0, []), (20, 0, 1, 0, 0, 0, []), (21, 48, 0, 0, 0, 0, [])]
set_option maxRecDepth 20000 in
theorem qX12_isSignf : f_all yX12_isSign YX12_isSign pX12_isSignf :=
  ⟨f_aload_n (n := 0) (e_dx DX12_isSign_0 0 rfl) rfl,
  f_getf (e_dx DX12_isSign_0 1 rfl) fX12_309 rfl (by decide) (by decide) (by decide),
  f_iconst (e_dx DX12_isSign_0 2 rfl) ⟨by decide, by decide⟩,
  f_icmp_ne (e_dx DX12_isSign_0 3 rfl) rfl,
  f_aload_n (n := 0) (e_dx DX12_isSign_0 4 rfl) rfl,
  f_getf (e_dx DX12_isSign_0 5 rfl) fX12_321 rfl (by decide) (by decide) (by decide),
  f_iload_n (n := 1) (e_dx DX12_isSign_0 6 rfl) rfl,
  f_icmp_ne (e_dx DX12_isSign_0 7 rfl) rfl,
  f_iconst (e_dx DX12_isSign_0 8 rfl) ⟨by decide, by decide⟩,
  f_g19 (e_dx DX12_isSign_0 9 rfl) rfl,
  f_iconst (e_dx DX12_isSign_0 10 rfl) ⟨by decide, by decide⟩,
  ⟨(e_dx DX12_isSign_0 11 rfl), rfl⟩, trivial⟩
def lX12_isSign : List (Nat × f_Wt) := []
set_option maxRecDepth 20000 in
theorem BX12_isSign {sh : Nat → Nat × Nat} {t : Nat} {rm : Nat × Nat × Nat} {cs : Nat × Nat} {R : f_Rt} {x1 : Int} {M : e_M} (C : f_Hy sh t yX12_isSign rm cs 4 (lX12_isSign) R) (h : VX12_isSign (fun r => R (some (.inl r)) M) x1 M) : f_E sh t YX12_isSign rm cs (f_Q sh t R) 0 [.inr (.inr (.inl (12, 123, 4456))), .inl x1] [] M :=
  f_go (KC := f_kc []) C qX12_isSignf f_kc_nil 14 0 h
def WX12_isSign (x1 : Int) (M : e_M) (Q : Int → Prop) : Prop :=
  VX12_isSign Q x1 M
theorem PX12_isSign {sh : Nat → Nat × Nat} {t : Nat} {rm : Nat × Nat × Nat} {cs : Nat × Nat} {R : f_Rt} {x1 : Int} {M : e_M} (C : f_Hy sh t yX12_isSign rm cs 4 (lX12_isSign) R) (h : WX12_isSign x1 M (fun r => R (some (.inl r)) M)) : f_E sh t YX12_isSign rm cs (f_Q sh t R) 0 [.inr (.inr (.inl (12, 123, 4456))), .inl x1] [] M :=
  BX12_isSign C h
def wX12_isSign : f_Wt := f_wm [(4466, 12, 123), (1, 0, 0)] (fun ar M R => WX12_isSign (f_vi (f_nth ar 1)) M (fun r => R (some (.inl r)) M))
theorem TX12_isSign {sh : Nat → Nat × Nat} {t : Nat} : f_Mt sh t YX12_isSign 4 (wX12_isSign) :=
  f_Mt_of (k := 0) (Nat.le_of_ble_eq_true rfl) rfl rfl (fun ar M R rm cs h1 h2 h3 hX h => PX12_isSign ⟨Nat.le_of_ble_eq_true rfl, h1, h2, h3, trivial, hX⟩ h)
def VX12_must (c_X12_isWord : Int → e_M → (Int → Prop) → Prop) (c_X12_good : Int → e_M → (Int → e_M → Prop) → Prop) (c_X12_wrong : Int → e_M → (Int → e_M → Prop) → Prop) (Q : Int → e_M → Prop) (x1 : Int) (M : e_M) : Prop :=
  (c_X12_isWord x1 M (fun r1 => ((r1 = 0 → (c_X12_wrong 1 M (fun r2 M3 => ((r2 = 0 ∨ r2 = 1) ∧ Q r2 M3)))) ∧ (¬ r1 = 0 → (c_X12_good 0 M (fun r4 M5 => ((r4 = 0 ∨ r4 = 1) ∧ Q r4 M5)))))))
def yX12_must (i : Nat) : e_Y := x_get YX12_must [YX12_isWord, YX12_good, YX12_wrong] i
def pX12_mustf : List x_I := [(0, 4, 1, 0, 0, 0, []), (1, 2, 1, 1, 0, 0, []), (2, 40, 0, 2, 14, 0, []), (5, 17, 16, 0, 9, 0, []), (8, 4, 1, 0, 0, 0, []), (9, 0, 1, 0, 0, 0, []), (10, 40, 1, 2, 14, 0, []), (13, 19, 21, 0, 12, 0, []), (16, 4, 1, 0, 0, 0, []), (17, 0, 1, 0, 0, 1, []), (18, 40, 2, 2, 14, 0, []), (21, 42, 0, 0, 0, 0, [])]
set_option maxRecDepth 20000 in
theorem qX12_mustf : f_all yX12_must YX12_must pX12_mustf :=
  ⟨f_aload_n (n := 0) (e_dx DX12_must_0 0 rfl) rfl,
  f_iload_n (n := 1) (e_dx DX12_must_0 1 rfl) rfl,
  x_callV (e_dx DX12_must_0 2 rfl) mwX12_isWord vwX12_isWord cX12_348 rfl,
  f_if_eq (e_dx DX12_must_0 3 rfl) rfl,
  f_aload_n (n := 0) (e_dx DX12_must_0 4 rfl) rfl,
  f_iconst (e_dx DX12_must_0 5 rfl) ⟨by decide, by decide⟩,
  x_callV (e_dx DX12_must_0 6 rfl) mwX12_good vwX12_good cX12_351 rfl,
  f_g19 (e_dx DX12_must_0 7 rfl) rfl,
  f_aload_n (n := 0) (e_dx DX12_must_0 8 rfl) rfl,
  f_iconst (e_dx DX12_must_0 9 rfl) ⟨by decide, by decide⟩,
  x_callV (e_dx DX12_must_0 10 rfl) mwX12_wrong vwX12_wrong cX12_342 rfl,
  ⟨(e_dx DX12_must_0 11 rfl), rfl⟩, trivial⟩
def lX12_must (c_X12_isWord : Int → e_M → (Int → Prop) → Prop) (c_X12_good : Int → e_M → (Int → e_M → Prop) → Prop) (c_X12_wrong : Int → e_M → (Int → e_M → Prop) → Prop) : List (Nat × f_Wt) := [(0, f_wm [(4466, 12, 123), (1, 0, 0)] (fun ar M R => c_X12_isWord (f_vi (f_nth ar 1)) M (fun r => R (some (.inl r)) M))), (1, f_wm [(4466, 12, 123), (1, 0, 0)] (fun ar M R => c_X12_good (f_vi (f_nth ar 1)) M (fun r M => R (some (.inl r)) M))), (2, f_wm [(4466, 12, 123), (1, 0, 0)] (fun ar M R => c_X12_wrong (f_vi (f_nth ar 1)) M (fun r M => R (some (.inl r)) M)))]
set_option maxRecDepth 20000 in
theorem BX12_must {sh : Nat → Nat × Nat} {t : Nat} {rm : Nat × Nat × Nat} {cs : Nat × Nat} {R : f_Rt} {c_X12_isWord : Int → e_M → (Int → Prop) → Prop} {c_X12_good : Int → e_M → (Int → e_M → Prop) → Prop} {c_X12_wrong : Int → e_M → (Int → e_M → Prop) → Prop} {x1 : Int} {M : e_M} (C : f_Hy sh t yX12_must rm cs 9 (lX12_must c_X12_isWord c_X12_good c_X12_wrong) R) (h : VX12_must c_X12_isWord c_X12_good c_X12_wrong (fun r M => R (some (.inl r)) M) x1 M) : f_E sh t YX12_must rm cs (f_Q sh t R) 0 [.inr (.inr (.inl (12, 123, 4456))), .inl x1] [] M :=
  f_go (KC := f_kc []) C qX12_mustf f_kc_nil 14 0 h
def WX12_must (x1 : Int) (M : e_M) (Q : Int → e_M → Prop) : Prop :=
  VX12_must WX12_isWord WX12_good WX12_wrong Q x1 M
theorem PX12_must {sh : Nat → Nat × Nat} {t : Nat} {rm : Nat × Nat × Nat} {cs : Nat × Nat} {R : f_Rt} {x1 : Int} {M : e_M} (C : f_Hy sh t yX12_must rm cs 9 (lX12_must WX12_isWord WX12_good WX12_wrong) R) (h : WX12_must x1 M (fun r M => R (some (.inl r)) M)) : f_E sh t YX12_must rm cs (f_Q sh t R) 0 [.inr (.inr (.inl (12, 123, 4456))), .inl x1] [] M :=
  BX12_must C h
def wX12_must : f_Wt := f_wm [(4466, 12, 123), (1, 0, 0)] (fun ar M R => WX12_must (f_vi (f_nth ar 1)) M (fun r M => R (some (.inl r)) M))
theorem TX12_must {sh : Nat → Nat × Nat} {t : Nat} : f_Mt sh t YX12_must 9 (wX12_must) :=
  f_Mt_of (k := 0) (Nat.le_of_ble_eq_true rfl) rfl rfl (fun ar M R rm cs h1 h2 h3 hX h => PX12_must ⟨Nat.le_of_ble_eq_true rfl, h1, h2, h3, ⟨(f_Mt.up (Nat.le_of_ble_eq_true rfl) TX12_isWord), (f_Mt.up (Nat.le_of_ble_eq_true rfl) TX12_good), (f_Mt.up (Nat.le_of_ble_eq_true rfl) TX12_wrong), trivial⟩, hX⟩ h)
def VX12_mustSign (c_X12_isSign : Int → e_M → (Int → Prop) → Prop) (c_X12_good : Int → e_M → (Int → e_M → Prop) → Prop) (c_X12_wrong : Int → e_M → (Int → e_M → Prop) → Prop) (Q : Int → e_M → Prop) (x1 : Int) (M : e_M) : Prop :=
  (c_X12_isSign x1 M (fun r1 => ((r1 = 0 → (c_X12_wrong 1 M (fun r2 M3 => ((r2 = 0 ∨ r2 = 1) ∧ Q r2 M3)))) ∧ (¬ r1 = 0 → (c_X12_good 0 M (fun r4 M5 => ((r4 = 0 ∨ r4 = 1) ∧ Q r4 M5)))))))
def yX12_mustSign (i : Nat) : e_Y := x_get YX12_mustSign [YX12_isSign, YX12_good, YX12_wrong] i
def pX12_mustSignf : List x_I := [(0, 4, 1, 0, 0, 0, []), (1, 2, 1, 1, 0, 0, []), (2, 40, 0, 2, 14, 0, []), (5, 17, 16, 0, 9, 0, []), (8, 4, 1, 0, 0, 0, []), (9, 0, 1, 0, 0, 0, []), (10, 40, 1, 2, 14, 0, []), (13, 19, 21, 0, 12, 0, []), (16, 4, 1, 0, 0, 0, []), (17, 0, 1, 0, 0, 1, []), (18, 40, 2, 2, 14, 0, []), (21, 42, 0, 0, 0, 0, [])]
set_option maxRecDepth 20000 in
theorem qX12_mustSignf : f_all yX12_mustSign YX12_mustSign pX12_mustSignf :=
  ⟨f_aload_n (n := 0) (e_dx DX12_mustSign_0 0 rfl) rfl,
  f_iload_n (n := 1) (e_dx DX12_mustSign_0 1 rfl) rfl,
  x_callV (e_dx DX12_mustSign_0 2 rfl) mwX12_isSign vwX12_isSign cX12_354 rfl,
  f_if_eq (e_dx DX12_mustSign_0 3 rfl) rfl,
  f_aload_n (n := 0) (e_dx DX12_mustSign_0 4 rfl) rfl,
  f_iconst (e_dx DX12_mustSign_0 5 rfl) ⟨by decide, by decide⟩,
  x_callV (e_dx DX12_mustSign_0 6 rfl) mwX12_good vwX12_good cX12_351 rfl,
  f_g19 (e_dx DX12_mustSign_0 7 rfl) rfl,
  f_aload_n (n := 0) (e_dx DX12_mustSign_0 8 rfl) rfl,
  f_iconst (e_dx DX12_mustSign_0 9 rfl) ⟨by decide, by decide⟩,
  x_callV (e_dx DX12_mustSign_0 10 rfl) mwX12_wrong vwX12_wrong cX12_342 rfl,
  ⟨(e_dx DX12_mustSign_0 11 rfl), rfl⟩, trivial⟩
def lX12_mustSign (c_X12_isSign : Int → e_M → (Int → Prop) → Prop) (c_X12_good : Int → e_M → (Int → e_M → Prop) → Prop) (c_X12_wrong : Int → e_M → (Int → e_M → Prop) → Prop) : List (Nat × f_Wt) := [(0, f_wm [(4466, 12, 123), (1, 0, 0)] (fun ar M R => c_X12_isSign (f_vi (f_nth ar 1)) M (fun r => R (some (.inl r)) M))), (1, f_wm [(4466, 12, 123), (1, 0, 0)] (fun ar M R => c_X12_good (f_vi (f_nth ar 1)) M (fun r M => R (some (.inl r)) M))), (2, f_wm [(4466, 12, 123), (1, 0, 0)] (fun ar M R => c_X12_wrong (f_vi (f_nth ar 1)) M (fun r M => R (some (.inl r)) M)))]
set_option maxRecDepth 20000 in
theorem BX12_mustSign {sh : Nat → Nat × Nat} {t : Nat} {rm : Nat × Nat × Nat} {cs : Nat × Nat} {R : f_Rt} {c_X12_isSign : Int → e_M → (Int → Prop) → Prop} {c_X12_good : Int → e_M → (Int → e_M → Prop) → Prop} {c_X12_wrong : Int → e_M → (Int → e_M → Prop) → Prop} {x1 : Int} {M : e_M} (C : f_Hy sh t yX12_mustSign rm cs 9 (lX12_mustSign c_X12_isSign c_X12_good c_X12_wrong) R) (h : VX12_mustSign c_X12_isSign c_X12_good c_X12_wrong (fun r M => R (some (.inl r)) M) x1 M) : f_E sh t YX12_mustSign rm cs (f_Q sh t R) 0 [.inr (.inr (.inl (12, 123, 4456))), .inl x1] [] M :=
  f_go (KC := f_kc []) C qX12_mustSignf f_kc_nil 14 0 h
def WX12_mustSign (x1 : Int) (M : e_M) (Q : Int → e_M → Prop) : Prop :=
  VX12_mustSign WX12_isSign WX12_good WX12_wrong Q x1 M
theorem PX12_mustSign {sh : Nat → Nat × Nat} {t : Nat} {rm : Nat × Nat × Nat} {cs : Nat × Nat} {R : f_Rt} {x1 : Int} {M : e_M} (C : f_Hy sh t yX12_mustSign rm cs 9 (lX12_mustSign WX12_isSign WX12_good WX12_wrong) R) (h : WX12_mustSign x1 M (fun r M => R (some (.inl r)) M)) : f_E sh t YX12_mustSign rm cs (f_Q sh t R) 0 [.inr (.inr (.inl (12, 123, 4456))), .inl x1] [] M :=
  BX12_mustSign C h
def wX12_mustSign : f_Wt := f_wm [(4466, 12, 123), (1, 0, 0)] (fun ar M R => WX12_mustSign (f_vi (f_nth ar 1)) M (fun r M => R (some (.inl r)) M))
theorem TX12_mustSign {sh : Nat → Nat × Nat} {t : Nat} : f_Mt sh t YX12_mustSign 9 (wX12_mustSign) :=
  f_Mt_of (k := 0) (Nat.le_of_ble_eq_true rfl) rfl rfl (fun ar M R rm cs h1 h2 h3 hX h => PX12_mustSign ⟨Nat.le_of_ble_eq_true rfl, h1, h2, h3, ⟨(f_Mt.up (Nat.le_of_ble_eq_true rfl) TX12_isSign), (f_Mt.up (Nat.le_of_ble_eq_true rfl) TX12_good), (f_Mt.up (Nat.le_of_ble_eq_true rfl) TX12_wrong), trivial⟩, hX⟩ h)
def VX12_isName (Q : Int → Prop) (M : e_M) : Prop :=
  ((¬ (M 4456 7) = 3 → (Q 0)) ∧ ((M 4456 7) = 3 → ((0 ≤ (M 4456 10) → (Q 0)) ∧ ((M 4456 10) < 0 → (Q 1)))))
def yX12_isName (i : Nat) : e_Y := x_get YX12_isName [] i
def pX12_isNamef : List x_I := [(0, 4, 1, 0, 0, 0, []), (1, 25, 12, 7, 0, 0, []), (4, 0, 1, 0, 0, 3, []), (5, 18, 19, 1, 10, 0, []), (8, 4, 1, 0, 0, 0, []), (9, 25, 12, 10, 0, 0, []), (12, 17, 19, 3, 10, 0, []), (15, 0, 1, 0, 0, 1, []), (16, 19, 20, 0, 11, 0, []), (19, 0, 1, 0, 0, 0, []), (20, 48, 0, 0, 0, 0, [])]
set_option maxRecDepth 20000 in
theorem qX12_isNamef : f_all yX12_isName YX12_isName pX12_isNamef :=
  ⟨f_aload_n (n := 0) (e_dx DX12_isName_0 0 rfl) rfl,
  f_getf (e_dx DX12_isName_0 1 rfl) fX12_309 rfl (by decide) (by decide) (by decide),
  f_iconst (e_dx DX12_isName_0 2 rfl) ⟨by decide, by decide⟩,
  f_icmp_ne (e_dx DX12_isName_0 3 rfl) rfl,
  f_aload_n (n := 0) (e_dx DX12_isName_0 4 rfl) rfl,
  f_getf (e_dx DX12_isName_0 5 rfl) fX12_306 rfl (by decide) (by decide) (by decide),
  f_if_ge (e_dx DX12_isName_0 6 rfl) rfl,
  f_iconst (e_dx DX12_isName_0 7 rfl) ⟨by decide, by decide⟩,
  f_g19 (e_dx DX12_isName_0 8 rfl) rfl,
  f_iconst (e_dx DX12_isName_0 9 rfl) ⟨by decide, by decide⟩,
  ⟨(e_dx DX12_isName_0 10 rfl), rfl⟩, trivial⟩
def lX12_isName : List (Nat × f_Wt) := []
set_option maxRecDepth 20000 in
theorem BX12_isName {sh : Nat → Nat × Nat} {t : Nat} {rm : Nat × Nat × Nat} {cs : Nat × Nat} {R : f_Rt} {M : e_M} (C : f_Hy sh t yX12_isName rm cs 4 (lX12_isName) R) (h : VX12_isName (fun r => R (some (.inl r)) M) M) : f_E sh t YX12_isName rm cs (f_Q sh t R) 0 [.inr (.inr (.inl (12, 123, 4456)))] [] M :=
  f_go (KC := f_kc []) C qX12_isNamef f_kc_nil 13 0 h
def WX12_isName (M : e_M) (Q : Int → Prop) : Prop :=
  VX12_isName Q M
theorem PX12_isName {sh : Nat → Nat × Nat} {t : Nat} {rm : Nat × Nat × Nat} {cs : Nat × Nat} {R : f_Rt} {M : e_M} (C : f_Hy sh t yX12_isName rm cs 4 (lX12_isName) R) (h : WX12_isName M (fun r => R (some (.inl r)) M)) : f_E sh t YX12_isName rm cs (f_Q sh t R) 0 [.inr (.inr (.inl (12, 123, 4456)))] [] M :=
  BX12_isName C h
def wX12_isName : f_Wt := f_wm [(4466, 12, 123)] (fun ar M R => WX12_isName M (fun r => R (some (.inl r)) M))
theorem TX12_isName {sh : Nat → Nat × Nat} {t : Nat} : f_Mt sh t YX12_isName 4 (wX12_isName) :=
  f_Mt_of (k := 0) (Nat.le_of_ble_eq_true rfl) rfl rfl (fun ar M R rm cs h1 h2 h3 hX h => PX12_isName ⟨Nat.le_of_ble_eq_true rfl, h1, h2, h3, trivial, hX⟩ h)
def VX12_stops_31 (c_X12_wrong : Int → e_M → (Int → e_M → Prop) → Prop) (Q : Int → e_M → Prop) (M : e_M) : Prop :=
  (Q 1 M)
def VX12_stops (c_X12_wrong : Int → e_M → (Int → e_M → Prop) → Prop) (k31 : e_M → Prop) (Q : Int → e_M → Prop) (M : e_M) : Prop :=
  (((M 4456 7) = 0 → (((M 4456 5) ≤ 600 → (k31 M)) ∧ (600 < (M 4456 5) → (c_X12_wrong 4 M (fun r1 M2 => ((r1 = 0 → (Q 0 M2)) ∧ (¬ r1 = 0 → (k31 M2)))))))) ∧ (¬ (M 4456 7) = 0 → (c_X12_wrong 1 M (fun r3 M4 => ((r3 = 0 ∨ r3 = 1) ∧ Q r3 M4)))))
def yX12_stops (i : Nat) : e_Y := x_get YX12_stops [YX12_wrong] i
def pX12_stopsf : List x_I := [(0, 4, 1, 0, 0, 0, []), (1, 25, 12, 7, 0, 0, []), (4, 17, 13, 0, 8, 0, []), (7, 4, 1, 0, 0, 0, []), (8, 0, 1, 0, 0, 1, []), (9, 40, 0, 2, 14, 0, []), (12, 42, 0, 0, 0, 0, []), (13, 4, 1, 0, 0, 0, []), (14, 25, 12, 5, 0, 0, []), (17, 0, 3, 0, 0, 600, []), (20, 18, 31, 5, 16, 0, []), (23, 4, 1, 0, 0, 0, []), (24, 0, 1, 0, 0, 4, []), (25, 40, 0, 2, 14, 0, []), (28, 17, 35, 0, 19, 0, []), (31, 49, 0, 0, 0, 0, []), (31, 0, 1, 0, 0, 1, []), (32, 19, 36, 0, 20, 0, []), (35, 0, 1, 0, 0, 0, []), (36, 48, 0, 0, 0, 0, [])]
set_option maxRecDepth 20000 in
theorem qX12_stopsf : f_all yX12_stops YX12_stops pX12_stopsf :=
  ⟨f_aload_n (n := 0) (e_dx DX12_stops_0 0 rfl) rfl,
  f_getf (e_dx DX12_stops_0 1 rfl) fX12_309 rfl (by decide) (by decide) (by decide),
  f_if_eq (e_dx DX12_stops_0 2 rfl) rfl,
  f_aload_n (n := 0) (e_dx DX12_stops_0 3 rfl) rfl,
  f_iconst (e_dx DX12_stops_0 4 rfl) ⟨by decide, by decide⟩,
  x_callV (e_dx DX12_stops_0 5 rfl) mwX12_wrong vwX12_wrong cX12_342 rfl,
  ⟨(e_dx DX12_stops_0 6 rfl), rfl⟩,
  f_aload_n (n := 0) (e_dx DX12_stops_0 7 rfl) rfl,
  f_getf (e_dx DX12_stops_0 8 rfl) fX12_288 rfl (by decide) (by decide) (by decide),
  f_sipush (e_dx DX12_stops_0 9 rfl) ⟨by decide, by decide⟩,
  f_icmp_le (e_dx DX12_stops_0 10 rfl) rfl,
  f_aload_n (n := 0) (e_dx DX12_stops_0 11 rfl) rfl,
  f_iconst (e_dx DX12_stops_0 12 rfl) ⟨by decide, by decide⟩,
  x_callV (e_dx DX12_stops_0 13 rfl) mwX12_wrong vwX12_wrong cX12_342 rfl,
  f_if_eq (e_dx DX12_stops_0 14 rfl) rfl,
  trivial,
  f_iconst (e_dx DX12_stops_0 15 rfl) ⟨by decide, by decide⟩,
  f_g19 (e_dx DX12_stops_0 16 rfl) rfl,
  f_iconst (e_dx DX12_stops_0 17 rfl) ⟨by decide, by decide⟩,
  ⟨(e_dx DX12_stops_0 18 rfl), rfl⟩, trivial⟩
def lX12_stops (c_X12_wrong : Int → e_M → (Int → e_M → Prop) → Prop) : List (Nat × f_Wt) := [(0, f_wm [(4466, 12, 123), (1, 0, 0)] (fun ar M R => c_X12_wrong (f_vi (f_nth ar 1)) M (fun r M => R (some (.inl r)) M)))]
set_option maxRecDepth 20000 in
theorem BX12_stops_31 {sh : Nat → Nat × Nat} {t : Nat} {rm : Nat × Nat × Nat} {cs : Nat × Nat} {R : f_Rt} {c_X12_wrong : Int → e_M → (Int → e_M → Prop) → Prop} {M : e_M} (C : f_Hy sh t yX12_stops rm cs 5 (lX12_stops c_X12_wrong) R) (h : VX12_stops_31 c_X12_wrong (fun r M => R (some (.inl r)) M) M) : f_E sh t YX12_stops rm cs (f_Q sh t R) 31 [.inr (.inr (.inr ()))] [] M :=
  f_go (KC := f_kc []) C qX12_stopsf f_kc_nil 22 16 h
set_option maxRecDepth 20000 in
theorem BX12_stops {sh : Nat → Nat × Nat} {t : Nat} {rm : Nat × Nat × Nat} {cs : Nat × Nat} {R : f_Rt} {c_X12_wrong : Int → e_M → (Int → e_M → Prop) → Prop} {k31 : e_M → Prop} {M : e_M} (C : f_Hy sh t yX12_stops rm cs 5 (lX12_stops c_X12_wrong) R) (h31 : ∀ (M : e_M), k31 M → f_E sh t YX12_stops rm cs (f_Q sh t R) 31 [.inr (.inr (.inr ()))] [] M) (h : VX12_stops c_X12_wrong k31 (fun r M => R (some (.inl r)) M) M) : f_E sh t YX12_stops rm cs (f_Q sh t R) 0 [.inr (.inr (.inl (12, 123, 4456)))] [] M :=
  f_go (KC := f_kc [(31, f_pl [(0, 0, 0)] [] (fun ls st M => k31 M))]) C qX12_stopsf (f_kc_cons (f_pl_ok rfl (fun ls st M h => h31  M h)) f_kc_nil) 22 0 h
def WX12_stops_31 (Q : Int → e_M → Prop) (M : e_M) : Prop :=
  VX12_stops_31 WX12_wrong Q M
def WX12_stops (M : e_M) (Q : Int → e_M → Prop) : Prop :=
  VX12_stops WX12_wrong (WX12_stops_31 Q) Q M
theorem PX12_stops_31 {sh : Nat → Nat × Nat} {t : Nat} {rm : Nat × Nat × Nat} {cs : Nat × Nat} {R : f_Rt} {M : e_M} (C : f_Hy sh t yX12_stops rm cs 5 (lX12_stops WX12_wrong) R) (h : WX12_stops_31 (fun r M => R (some (.inl r)) M) M) : f_E sh t YX12_stops rm cs (f_Q sh t R) 31 [.inr (.inr (.inr ()))] [] M :=
  BX12_stops_31 C h
theorem PX12_stops {sh : Nat → Nat × Nat} {t : Nat} {rm : Nat × Nat × Nat} {cs : Nat × Nat} {R : f_Rt} {M : e_M} (C : f_Hy sh t yX12_stops rm cs 5 (lX12_stops WX12_wrong) R) (h : WX12_stops M (fun r M => R (some (.inl r)) M)) : f_E sh t YX12_stops rm cs (f_Q sh t R) 0 [.inr (.inr (.inl (12, 123, 4456)))] [] M :=
  BX12_stops C (fun M h => PX12_stops_31 C h) h
def wX12_stops : f_Wt := f_wm [(4466, 12, 123)] (fun ar M R => WX12_stops M (fun r M => R (some (.inl r)) M))
theorem TX12_stops {sh : Nat → Nat × Nat} {t : Nat} : f_Mt sh t YX12_stops 5 (wX12_stops) :=
  f_Mt_of (k := 0) (Nat.le_of_ble_eq_true rfl) rfl rfl (fun ar M R rm cs h1 h2 h3 hX h => PX12_stops ⟨Nat.le_of_ble_eq_true rfl, h1, h2, h3, ⟨(f_Mt.up (Nat.le_of_ble_eq_true rfl) TX12_wrong), trivial⟩, hX⟩ h)
def VX12_begins (c_X12_next : e_M → (e_M → Prop) → Prop) (Q : e_M → Prop) (M : e_M) : Prop :=
  (∀ M1 : e_M, M1 = e_up M 4456 5 (M 4456 4) → (∀ M2 : e_M, M2 = e_up M1 4456 4 0 → (∀ M3 : e_M, M3 = e_up M2 4456 6 0 → (∀ M4 : e_M, M4 = e_up M3 4456 12 0 → (c_X12_next M4 (fun M5 => (Q M5)))))))
def yX12_begins (i : Nat) : e_Y := x_get YX12_begins [YX12_next] i
def pX12_beginsf : List x_I := [(0, 4, 1, 0, 0, 0, []), (1, 4, 1, 0, 0, 0, []), (2, 25, 12, 4, 0, 0, []), (5, 26, 12, 5, 0, 0, []), (8, 4, 1, 0, 0, 0, []), (9, 0, 1, 0, 0, 0, []), (10, 26, 12, 4, 0, 0, []), (13, 4, 1, 0, 0, 0, []), (14, 0, 1, 0, 0, 0, []), (15, 26, 12, 6, 0, 0, []), (18, 4, 1, 0, 0, 0, []), (19, 0, 1, 0, 0, 0, []), (20, 26, 12, 12, 0, 0, []), (23, 4, 1, 0, 0, 0, []), (24, 40, 0, 1, 14, 0, []), (27, 44, 0, 0, 0, 0, [])]
set_option maxRecDepth 20000 in
theorem qX12_beginsf : f_all yX12_begins YX12_begins pX12_beginsf :=
  ⟨f_aload_n (n := 0) (e_dx DX12_begins_0 0 rfl) rfl,
  f_aload_n (n := 0) (e_dx DX12_begins_0 1 rfl) rfl,
  f_getf (e_dx DX12_begins_0 2 rfl) fX12_357 rfl (by decide) (by decide) (by decide),
  f_putn (e_dx DX12_begins_0 3 rfl) fX12_288 (fun q hq => by cases hq; rfl) rfl (Or.inl rfl) (by decide),
  f_aload_n (n := 0) (e_dx DX12_begins_0 4 rfl) rfl,
  f_iconst (e_dx DX12_begins_0 5 rfl) ⟨by decide, by decide⟩,
  f_putn (e_dx DX12_begins_0 6 rfl) fX12_357 (fun q hq => by cases hq; rfl) rfl (Or.inl rfl) (by decide),
  f_aload_n (n := 0) (e_dx DX12_begins_0 7 rfl) rfl,
  f_iconst (e_dx DX12_begins_0 8 rfl) ⟨by decide, by decide⟩,
  f_putn (e_dx DX12_begins_0 9 rfl) fX12_300 (fun q hq => by cases hq; rfl) rfl (Or.inl rfl) (by decide),
  f_aload_n (n := 0) (e_dx DX12_begins_0 10 rfl) rfl,
  f_iconst (e_dx DX12_begins_0 11 rfl) ⟨by decide, by decide⟩,
  f_putn (e_dx DX12_begins_0 12 rfl) fX12_336 (fun q hq => by cases hq; rfl) rfl (Or.inl rfl) (by decide),
  f_aload_n (n := 0) (e_dx DX12_begins_0 13 rfl) rfl,
  x_callV (e_dx DX12_begins_0 14 rfl) mwX12_next vwX12_next cX12_345 rfl,
  ⟨(e_dx DX12_begins_0 15 rfl), rfl⟩, trivial⟩
def lX12_begins (c_X12_next : e_M → (e_M → Prop) → Prop) : List (Nat × f_Wt) := [(0, f_wm [(4466, 12, 123)] (fun ar M R => c_X12_next  M (fun M => R none M)))]
set_option maxRecDepth 20000 in
theorem BX12_begins {sh : Nat → Nat × Nat} {t : Nat} {rm : Nat × Nat × Nat} {cs : Nat × Nat} {R : f_Rt} {c_X12_next : e_M → (e_M → Prop) → Prop} {M : e_M} (C : f_Hy sh t yX12_begins rm cs 8 (lX12_begins c_X12_next) R) (h : VX12_begins c_X12_next (fun M => R none M) M) : f_E sh t YX12_begins rm cs (f_Q sh t R) 0 [.inr (.inr (.inl (12, 123, 4456)))] [] M :=
  f_go (KC := f_kc []) C qX12_beginsf f_kc_nil 18 0 h
def WX12_begins (M : e_M) (Q : e_M → Prop) : Prop :=
  VX12_begins WX12_next Q M
theorem PX12_begins {sh : Nat → Nat × Nat} {t : Nat} {rm : Nat × Nat × Nat} {cs : Nat × Nat} {R : f_Rt} {M : e_M} (C : f_Hy sh t yX12_begins rm cs 8 (lX12_begins WX12_next) R) (h : WX12_begins M (fun M => R none M)) : f_E sh t YX12_begins rm cs (f_Q sh t R) 0 [.inr (.inr (.inl (12, 123, 4456)))] [] M :=
  BX12_begins C h
def wX12_begins : f_Wt := f_wm [(4466, 12, 123)] (fun ar M R => WX12_begins M (fun M => R none M))
theorem TX12_begins {sh : Nat → Nat × Nat} {t : Nat} : f_Mt sh t YX12_begins 8 (wX12_begins) :=
  f_Mt_of (k := 0) (Nat.le_of_ble_eq_true rfl) rfl rfl (fun ar M R rm cs h1 h2 h3 hX h => PX12_begins ⟨Nat.le_of_ble_eq_true rfl, h1, h2, h3, ⟨(f_Mt.up (Nat.le_of_ble_eq_true rfl) TX12_next), trivial⟩, hX⟩ h)
def VX12_mustName_56 (c_X12_isName : e_M → (Int → Prop) → Prop) (c_X12_wrong : Int → e_M → (Int → e_M → Prop) → Prop) (c_X12_good : Int → e_M → (Int → e_M → Prop) → Prop) (Q : Int → e_M → Prop) (x1 : Int) (M : e_M) : Prop :=
  (c_X12_good x1 M (fun r1 M2 => ((r1 = 0 ∨ r1 = 1) ∧ Q r1 M2)))
def VX12_mustName (c_X12_isName : e_M → (Int → Prop) → Prop) (c_X12_wrong : Int → e_M → (Int → e_M → Prop) → Prop) (c_X12_good : Int → e_M → (Int → e_M → Prop) → Prop) (k56 : Int → e_M → Prop) (Q : Int → e_M → Prop) (x1 : Int) (M : e_M) : Prop :=
  (c_X12_isName M (fun r1 => ((¬ r1 = 0 → ((0 ≤ (M 4456 35) ∧ (M 4456 35) < 152) ∧ ((0 ≤ (e_w32 ((e_w32 ((10 : Int) * (M 4456 35))) + (M 4463 ((M 4456 35).toNat)))) ∧ (e_w32 ((e_w32 ((10 : Int) * (M 4456 35))) + (M 4463 ((M 4456 35).toNat)))) < 1520) ∧ (∀ M2 : e_M, M2 = e_up M 4467 ((e_w32 ((e_w32 ((10 : Int) * (M 4456 35))) + (M 4463 ((M 4456 35).toNat)))).toNat) (M 4456 11) → ((¬ x1 = 0 → (k56 x1 M2)) ∧ (x1 = 0 → ((0 ≤ (M2 4456 35) ∧ (M2 4456 35) < 152) ∧ ((0 ≤ (M2 4456 35) ∧ (M2 4456 35) < 152) ∧ (∀ M3 : e_M, M3 = e_up M2 4463 ((M2 4456 35).toNat) (e_w32 ((M2 4463 ((M2 4456 35).toNat)) + 1)) → (k56 x1 M3)))))))))) ∧ (r1 = 0 → (c_X12_wrong 1 M (fun r4 M5 => ((r4 = 0 ∨ r4 = 1) ∧ Q r4 M5)))))))
def yX12_mustName (i : Nat) : e_Y := x_get YX12_mustName [YX12_isName, YX12_wrong, YX12_good] i
def pX12_mustNamef : List x_I := [(0, 4, 1, 0, 0, 0, []), (1, 40, 0, 1, 14, 0, []), (4, 17, 13, 1, 8, 0, []), (7, 4, 1, 0, 0, 0, []), (8, 0, 1, 0, 0, 1, []), (9, 40, 1, 2, 14, 0, []), (12, 42, 0, 0, 0, 0, []), (13, 4, 1, 0, 0, 0, []), (14, 25, 12, 20, 4, 0, [(0, 23, 1520), (0, 1, 11)]), (17, 0, 2, 0, 0, 10, []), (19, 4, 1, 0, 0, 0, []), (20, 25, 12, 35, 0, 0, []), (23, 9, 0, 2, 0, 0, []), (24, 4, 1, 0, 0, 0, []), (25, 25, 12, 16, 4, 0, [(0, 20, 152), (0, 1, 7)]), (28, 4, 1, 0, 0, 0, []), (29, 25, 12, 35, 0, 0, []), (32, 27, 0, 0, 0, 0, []), (33, 9, 0, 0, 0, 0, []), (34, 4, 1, 0, 0, 0, []), (35, 25, 12, 11, 3, 0, []), (38, 28, 0, 1, 0, 0, []), (39, 2, 1, 1, 0, 0, []), (40, 17, 56, 1, 34, 0, []), (43, 4, 1, 0, 0, 0, []), (44, 25, 12, 16, 4, 0, [(0, 20, 152), (0, 1, 7)]), (47, 4, 1, 0, 0, 0, []), (48, 25, 12, 35, 0, 0, []), (51, 23, 0, 0, 0, 0, []), (52, 27, 0, 0, 0, 0, []), (53, 0, 1, 0, 0, 1, []), (54, 9, 0, 0, 0, 0, []), (55, 28, 0, 0, 0, 0, []), (56, 49, 0, 0, 0, 0, []), (56, 4, 1, 0, 0, 0, []), (57, 2, 1, 1, 0, 0, []), (58, 40, 2, 2, 14, 0, []), (61, 42, 0, 0, 0, 0, [])]
set_option maxRecDepth 20000 in
theorem qX12_mustNamef : f_all yX12_mustName YX12_mustName pX12_mustNamef :=
  ⟨f_aload_n (n := 0) (e_dx DX12_mustName_0 0 rfl) rfl,
  x_callV (e_dx DX12_mustName_0 1 rfl) mwX12_isName vwX12_isName cX12_359 rfl,
  f_if_ne (e_dx DX12_mustName_0 2 rfl) rfl,
  f_aload_n (n := 0) (e_dx DX12_mustName_0 3 rfl) rfl,
  f_iconst (e_dx DX12_mustName_0 4 rfl) ⟨by decide, by decide⟩,
  x_callV (e_dx DX12_mustName_0 5 rfl) mwX12_wrong vwX12_wrong cX12_342 rfl,
  ⟨(e_dx DX12_mustName_0 6 rfl), rfl⟩,
  f_aload_n (n := 0) (e_dx DX12_mustName_0 7 rfl) rfl,
  f_getA (e_dx DX12_mustName_0 8 rfl) fX12_42 rfl (by decide) (Nat.le_of_ble_eq_true rfl) rfl (by decide),
  f_bipush (e_dx DX12_mustName_0 9 rfl) ⟨by decide, by decide⟩,
  f_aload_n (n := 0) (e_dx DX12_mustName_0 10 rfl) rfl,
  f_getf (e_dx DX12_mustName_0 11 rfl) fX12_363 rfl (by decide) (by decide) (by decide),
  f_imul (e_dx DX12_mustName_0 12 rfl),
  f_aload_n (n := 0) (e_dx DX12_mustName_0 13 rfl) rfl,
  f_getA (e_dx DX12_mustName_0 14 rfl) fX12_30 rfl (by decide) (Nat.le_of_ble_eq_true rfl) rfl (by decide),
  f_aload_n (n := 0) (e_dx DX12_mustName_0 15 rfl) rfl,
  f_getf (e_dx DX12_mustName_0 16 rfl) fX12_363 rfl (by decide) (by decide) (by decide),
  f_iaload (e_dx DX12_mustName_0 17 rfl),
  f_iadd (e_dx DX12_mustName_0 18 rfl),
  f_aload_n (n := 0) (e_dx DX12_mustName_0 19 rfl) rfl,
  f_getL (e_dx DX12_mustName_0 20 rfl) fX12_332 rfl (by decide),
  f_lastore (e_dx DX12_mustName_0 21 rfl),
  f_iload_n (n := 1) (e_dx DX12_mustName_0 22 rfl) rfl,
  f_if_ne (e_dx DX12_mustName_0 23 rfl) rfl,
  f_aload_n (n := 0) (e_dx DX12_mustName_0 24 rfl) rfl,
  f_getA (e_dx DX12_mustName_0 25 rfl) fX12_30 rfl (by decide) (Nat.le_of_ble_eq_true rfl) rfl (by decide),
  f_aload_n (n := 0) (e_dx DX12_mustName_0 26 rfl) rfl,
  f_getf (e_dx DX12_mustName_0 27 rfl) fX12_363 rfl (by decide) (by decide) (by decide),
  f_g23 (e_dx DX12_mustName_0 28 rfl),
  f_iaload (e_dx DX12_mustName_0 29 rfl),
  f_iconst (e_dx DX12_mustName_0 30 rfl) ⟨by decide, by decide⟩,
  f_iadd (e_dx DX12_mustName_0 31 rfl),
  f_iastore (e_dx DX12_mustName_0 32 rfl),
  trivial,
  f_aload_n (n := 0) (e_dx DX12_mustName_0 33 rfl) rfl,
  f_iload_n (n := 1) (e_dx DX12_mustName_0 34 rfl) rfl,
  x_callV (e_dx DX12_mustName_0 35 rfl) mwX12_good vwX12_good cX12_351 rfl,
  ⟨(e_dx DX12_mustName_0 36 rfl), rfl⟩, trivial⟩
def lX12_mustName (c_X12_isName : e_M → (Int → Prop) → Prop) (c_X12_wrong : Int → e_M → (Int → e_M → Prop) → Prop) (c_X12_good : Int → e_M → (Int → e_M → Prop) → Prop) : List (Nat × f_Wt) := [(0, f_wm [(4466, 12, 123)] (fun ar M R => c_X12_isName  M (fun r => R (some (.inl r)) M))), (1, f_wm [(4466, 12, 123), (1, 0, 0)] (fun ar M R => c_X12_wrong (f_vi (f_nth ar 1)) M (fun r M => R (some (.inl r)) M))), (2, f_wm [(4466, 12, 123), (1, 0, 0)] (fun ar M R => c_X12_good (f_vi (f_nth ar 1)) M (fun r M => R (some (.inl r)) M)))]
set_option maxRecDepth 20000 in
theorem BX12_mustName_56 {sh : Nat → Nat × Nat} {t : Nat} {rm : Nat × Nat × Nat} {cs : Nat × Nat} {R : f_Rt} {c_X12_isName : e_M → (Int → Prop) → Prop} {c_X12_wrong : Int → e_M → (Int → e_M → Prop) → Prop} {c_X12_good : Int → e_M → (Int → e_M → Prop) → Prop} {x1 : Int} {M : e_M} (C : f_Hy sh t yX12_mustName rm cs 9 (lX12_mustName c_X12_isName c_X12_wrong c_X12_good) R) (h : VX12_mustName_56 c_X12_isName c_X12_wrong c_X12_good (fun r M => R (some (.inl r)) M) x1 M) : f_E sh t YX12_mustName rm cs (f_Q sh t R) 56 [.inr (.inr (.inl (12, 123, 4456))), .inl x1] [] M :=
  f_go (KC := f_kc []) C qX12_mustNamef f_kc_nil 40 34 h
set_option maxRecDepth 20000 in
theorem BX12_mustName {sh : Nat → Nat × Nat} {t : Nat} {rm : Nat × Nat × Nat} {cs : Nat × Nat} {R : f_Rt} {c_X12_isName : e_M → (Int → Prop) → Prop} {c_X12_wrong : Int → e_M → (Int → e_M → Prop) → Prop} {c_X12_good : Int → e_M → (Int → e_M → Prop) → Prop} {k56 : Int → e_M → Prop} {x1 : Int} {M : e_M} (C : f_Hy sh t yX12_mustName rm cs 9 (lX12_mustName c_X12_isName c_X12_wrong c_X12_good) R) (h56 : ∀ (x1 : Int) (M : e_M), k56 x1 M → f_E sh t YX12_mustName rm cs (f_Q sh t R) 56 [.inr (.inr (.inl (12, 123, 4456))), .inl x1] [] M) (h : VX12_mustName c_X12_isName c_X12_wrong c_X12_good k56 (fun r M => R (some (.inl r)) M) x1 M) : f_E sh t YX12_mustName rm cs (f_Q sh t R) 0 [.inr (.inr (.inl (12, 123, 4456))), .inl x1] [] M :=
  f_go (KC := f_kc [(56, f_pl [(4466, 12, 123), (1, 0, 0)] [] (fun ls st M => k56 (f_vi (f_nth ls 1)) M))]) C qX12_mustNamef (f_kc_cons (f_pl_ok rfl (fun ls st M h => h56 _ M h)) f_kc_nil) 40 0 h
def WX12_mustName_56 (Q : Int → e_M → Prop) (x1 : Int) (M : e_M) : Prop :=
  VX12_mustName_56 WX12_isName WX12_wrong WX12_good Q x1 M
def WX12_mustName (x1 : Int) (M : e_M) (Q : Int → e_M → Prop) : Prop :=
  VX12_mustName WX12_isName WX12_wrong WX12_good (WX12_mustName_56 Q) Q x1 M
theorem PX12_mustName_56 {sh : Nat → Nat × Nat} {t : Nat} {rm : Nat × Nat × Nat} {cs : Nat × Nat} {R : f_Rt} {x1 : Int} {M : e_M} (C : f_Hy sh t yX12_mustName rm cs 9 (lX12_mustName WX12_isName WX12_wrong WX12_good) R) (h : WX12_mustName_56 (fun r M => R (some (.inl r)) M) x1 M) : f_E sh t YX12_mustName rm cs (f_Q sh t R) 56 [.inr (.inr (.inl (12, 123, 4456))), .inl x1] [] M :=
  BX12_mustName_56 C h
theorem PX12_mustName {sh : Nat → Nat × Nat} {t : Nat} {rm : Nat × Nat × Nat} {cs : Nat × Nat} {R : f_Rt} {x1 : Int} {M : e_M} (C : f_Hy sh t yX12_mustName rm cs 9 (lX12_mustName WX12_isName WX12_wrong WX12_good) R) (h : WX12_mustName x1 M (fun r M => R (some (.inl r)) M)) : f_E sh t YX12_mustName rm cs (f_Q sh t R) 0 [.inr (.inr (.inl (12, 123, 4456))), .inl x1] [] M :=
  BX12_mustName C (fun x1 M h => PX12_mustName_56 C h) h
def wX12_mustName : f_Wt := f_wm [(4466, 12, 123), (1, 0, 0)] (fun ar M R => WX12_mustName (f_vi (f_nth ar 1)) M (fun r M => R (some (.inl r)) M))
theorem TX12_mustName {sh : Nat → Nat × Nat} {t : Nat} : f_Mt sh t YX12_mustName 9 (wX12_mustName) :=
  f_Mt_of (k := 0) (Nat.le_of_ble_eq_true rfl) rfl rfl (fun ar M R rm cs h1 h2 h3 hX h => PX12_mustName ⟨Nat.le_of_ble_eq_true rfl, h1, h2, h3, ⟨(f_Mt.up (Nat.le_of_ble_eq_true rfl) TX12_isName), (f_Mt.up (Nat.le_of_ble_eq_true rfl) TX12_wrong), (f_Mt.up (Nat.le_of_ble_eq_true rfl) TX12_good), trivial⟩, hX⟩ h)
def VX12_mustDate_40 (c_X12_wrong : Int → e_M → (Int → e_M → Prop) → Prop) (c_X12_good : Int → e_M → (Int → e_M → Prop) → Prop) (Q : Int → e_M → Prop) (xs1 : Int) (M : e_M) : Prop :=
  (c_X12_good xs1 M (fun r1 M2 => ((r1 = 0 ∨ r1 = 1) ∧ Q r1 M2)))
def VX12_mustDate (c_X12_wrong : Int → e_M → (Int → e_M → Prop) → Prop) (c_X12_good : Int → e_M → (Int → e_M → Prop) → Prop) (k40 : Int → e_M → Prop) (Q : Int → e_M → Prop) (M : e_M) : Prop :=
  (((M 4456 7) = 1 → ((0 ≤ (M 4456 35) ∧ (M 4456 35) < 152) ∧ (∀ M1 : e_M, M1 = e_up M 4465 ((M 4456 35).toNat) (M 4456 9) → ((0 ≤ (M1 4456 9) → (k40 0 M1)) ∧ ((M1 4456 9) < 0 → (k40 2 M1)))))) ∧ (¬ (M 4456 7) = 1 → (c_X12_wrong 1 M (fun r2 M3 => ((r2 = 0 ∨ r2 = 1) ∧ Q r2 M3)))))
def yX12_mustDate (i : Nat) : e_Y := x_get YX12_mustDate [YX12_wrong, YX12_good] i
def pX12_mustDatef : List x_I := [(0, 4, 1, 0, 0, 0, []), (1, 25, 12, 7, 0, 0, []), (4, 0, 1, 0, 0, 1, []), (5, 18, 14, 0, 9, 0, []), (8, 4, 1, 0, 0, 0, []), (9, 0, 1, 0, 0, 1, []), (10, 40, 0, 2, 14, 0, []), (13, 42, 0, 0, 0, 0, []), (14, 4, 1, 0, 0, 0, []), (15, 25, 12, 18, 4, 0, [(0, 20, 152), (0, 1, 9)]), (18, 4, 1, 0, 0, 0, []), (19, 25, 12, 35, 0, 0, []), (22, 4, 1, 0, 0, 0, []), (23, 25, 12, 9, 0, 0, []), (26, 28, 0, 0, 0, 0, []), (27, 4, 1, 0, 0, 0, []), (28, 4, 1, 0, 0, 0, []), (29, 25, 12, 9, 0, 0, []), (32, 17, 39, 3, 22, 0, []), (35, 0, 1, 0, 0, 2, []), (36, 19, 40, 0, 23, 0, []), (39, 0, 1, 0, 0, 0, []), (40, 49, 0, 0, 0, 0, []), (40, 40, 1, 2, 14, 0, []), (43, 42, 0, 0, 0, 0, [])]
set_option maxRecDepth 20000 in
theorem qX12_mustDatef : f_all yX12_mustDate YX12_mustDate pX12_mustDatef :=
  ⟨f_aload_n (n := 0) (e_dx DX12_mustDate_0 0 rfl) rfl,
  f_getf (e_dx DX12_mustDate_0 1 rfl) fX12_309 rfl (by decide) (by decide) (by decide),
  f_iconst (e_dx DX12_mustDate_0 2 rfl) ⟨by decide, by decide⟩,
  f_icmp_eq (e_dx DX12_mustDate_0 3 rfl) rfl,
  f_aload_n (n := 0) (e_dx DX12_mustDate_0 4 rfl) rfl,
  f_iconst (e_dx DX12_mustDate_0 5 rfl) ⟨by decide, by decide⟩,
  x_callV (e_dx DX12_mustDate_0 6 rfl) mwX12_wrong vwX12_wrong cX12_342 rfl,
  ⟨(e_dx DX12_mustDate_0 7 rfl), rfl⟩,
  f_aload_n (n := 0) (e_dx DX12_mustDate_0 8 rfl) rfl,
  f_getA (e_dx DX12_mustDate_0 9 rfl) fX12_36 rfl (by decide) (Nat.le_of_ble_eq_true rfl) rfl (by decide),
  f_aload_n (n := 0) (e_dx DX12_mustDate_0 10 rfl) rfl,
  f_getf (e_dx DX12_mustDate_0 11 rfl) fX12_363 rfl (by decide) (by decide) (by decide),
  f_aload_n (n := 0) (e_dx DX12_mustDate_0 12 rfl) rfl,
  f_getf (e_dx DX12_mustDate_0 13 rfl) fX12_321 rfl (by decide) (by decide) (by decide),
  f_iastore (e_dx DX12_mustDate_0 14 rfl),
  f_aload_n (n := 0) (e_dx DX12_mustDate_0 15 rfl) rfl,
  f_aload_n (n := 0) (e_dx DX12_mustDate_0 16 rfl) rfl,
  f_getf (e_dx DX12_mustDate_0 17 rfl) fX12_321 rfl (by decide) (by decide) (by decide),
  f_if_ge (e_dx DX12_mustDate_0 18 rfl) rfl,
  f_iconst (e_dx DX12_mustDate_0 19 rfl) ⟨by decide, by decide⟩,
  f_g19 (e_dx DX12_mustDate_0 20 rfl) rfl,
  f_iconst (e_dx DX12_mustDate_0 21 rfl) ⟨by decide, by decide⟩,
  trivial,
  x_callV (e_dx DX12_mustDate_0 22 rfl) mwX12_good vwX12_good cX12_351 rfl,
  ⟨(e_dx DX12_mustDate_0 23 rfl), rfl⟩, trivial⟩
def lX12_mustDate (c_X12_wrong : Int → e_M → (Int → e_M → Prop) → Prop) (c_X12_good : Int → e_M → (Int → e_M → Prop) → Prop) : List (Nat × f_Wt) := [(0, f_wm [(4466, 12, 123), (1, 0, 0)] (fun ar M R => c_X12_wrong (f_vi (f_nth ar 1)) M (fun r M => R (some (.inl r)) M))), (1, f_wm [(4466, 12, 123), (1, 0, 0)] (fun ar M R => c_X12_good (f_vi (f_nth ar 1)) M (fun r M => R (some (.inl r)) M)))]
set_option maxRecDepth 20000 in
theorem BX12_mustDate_40 {sh : Nat → Nat × Nat} {t : Nat} {rm : Nat × Nat × Nat} {cs : Nat × Nat} {R : f_Rt} {c_X12_wrong : Int → e_M → (Int → e_M → Prop) → Prop} {c_X12_good : Int → e_M → (Int → e_M → Prop) → Prop} {xs1 : Int} {M : e_M} (C : f_Hy sh t yX12_mustDate rm cs 9 (lX12_mustDate c_X12_wrong c_X12_good) R) (h : VX12_mustDate_40 c_X12_wrong c_X12_good (fun r M => R (some (.inl r)) M) xs1 M) : f_E sh t YX12_mustDate rm cs (f_Q sh t R) 40 [.inr (.inr (.inr ()))] [.inl xs1, .inr (.inr (.inl (12, 123, 4456)))] M :=
  f_go (KC := f_kc []) C qX12_mustDatef f_kc_nil 27 23 h
set_option maxRecDepth 20000 in
theorem BX12_mustDate {sh : Nat → Nat × Nat} {t : Nat} {rm : Nat × Nat × Nat} {cs : Nat × Nat} {R : f_Rt} {c_X12_wrong : Int → e_M → (Int → e_M → Prop) → Prop} {c_X12_good : Int → e_M → (Int → e_M → Prop) → Prop} {k40 : Int → e_M → Prop} {M : e_M} (C : f_Hy sh t yX12_mustDate rm cs 9 (lX12_mustDate c_X12_wrong c_X12_good) R) (h40 : ∀ (xs1 : Int) (M : e_M), k40 xs1 M → f_E sh t YX12_mustDate rm cs (f_Q sh t R) 40 [.inr (.inr (.inr ()))] [.inl xs1, .inr (.inr (.inl (12, 123, 4456)))] M) (h : VX12_mustDate c_X12_wrong c_X12_good k40 (fun r M => R (some (.inl r)) M) M) : f_E sh t YX12_mustDate rm cs (f_Q sh t R) 0 [.inr (.inr (.inl (12, 123, 4456)))] [] M :=
  f_go (KC := f_kc [(40, f_pl [(0, 0, 0)] [(1, 0, 0), (4466, 12, 123)] (fun ls st M => k40 (f_vi (f_nth st 0)) M))]) C qX12_mustDatef (f_kc_cons (f_pl_ok rfl (fun ls st M h => h40 _ M h)) f_kc_nil) 27 0 h
def WX12_mustDate_40 (Q : Int → e_M → Prop) (xs1 : Int) (M : e_M) : Prop :=
  VX12_mustDate_40 WX12_wrong WX12_good Q xs1 M
def WX12_mustDate (M : e_M) (Q : Int → e_M → Prop) : Prop :=
  VX12_mustDate WX12_wrong WX12_good (WX12_mustDate_40 Q) Q M
theorem PX12_mustDate_40 {sh : Nat → Nat × Nat} {t : Nat} {rm : Nat × Nat × Nat} {cs : Nat × Nat} {R : f_Rt} {xs1 : Int} {M : e_M} (C : f_Hy sh t yX12_mustDate rm cs 9 (lX12_mustDate WX12_wrong WX12_good) R) (h : WX12_mustDate_40 (fun r M => R (some (.inl r)) M) xs1 M) : f_E sh t YX12_mustDate rm cs (f_Q sh t R) 40 [.inr (.inr (.inr ()))] [.inl xs1, .inr (.inr (.inl (12, 123, 4456)))] M :=
  BX12_mustDate_40 C h
theorem PX12_mustDate {sh : Nat → Nat × Nat} {t : Nat} {rm : Nat × Nat × Nat} {cs : Nat × Nat} {R : f_Rt} {M : e_M} (C : f_Hy sh t yX12_mustDate rm cs 9 (lX12_mustDate WX12_wrong WX12_good) R) (h : WX12_mustDate M (fun r M => R (some (.inl r)) M)) : f_E sh t YX12_mustDate rm cs (f_Q sh t R) 0 [.inr (.inr (.inl (12, 123, 4456)))] [] M :=
  BX12_mustDate C (fun xs1 M h => PX12_mustDate_40 C h) h
def wX12_mustDate : f_Wt := f_wm [(4466, 12, 123)] (fun ar M R => WX12_mustDate M (fun r M => R (some (.inl r)) M))
theorem TX12_mustDate {sh : Nat → Nat × Nat} {t : Nat} : f_Mt sh t YX12_mustDate 9 (wX12_mustDate) :=
  f_Mt_of (k := 0) (Nat.le_of_ble_eq_true rfl) rfl rfl (fun ar M R rm cs h1 h2 h3 hX h => PX12_mustDate ⟨Nat.le_of_ble_eq_true rfl, h1, h2, h3, ⟨(f_Mt.up (Nat.le_of_ble_eq_true rfl) TX12_wrong), (f_Mt.up (Nat.le_of_ble_eq_true rfl) TX12_good), trivial⟩, hX⟩ h)
def VX12_mustAmount (c_X12_wrong : Int → e_M → (Int → e_M → Prop) → Prop) (c_X12_good : Int → e_M → (Int → e_M → Prop) → Prop) (Q : Int → e_M → Prop) (M : e_M) : Prop :=
  (((M 4456 7) = 2 → ((0 ≤ (M 4456 35) ∧ (M 4456 35) < 152) ∧ (∀ M1 : e_M, M1 = e_up M 4464 ((M 4456 35).toNat) (M 4456 9) → (c_X12_good 0 M1 (fun r2 M3 => ((r2 = 0 ∨ r2 = 1) ∧ Q r2 M3)))))) ∧ (¬ (M 4456 7) = 2 → (c_X12_wrong 1 M (fun r4 M5 => ((r4 = 0 ∨ r4 = 1) ∧ Q r4 M5)))))
def yX12_mustAmount (i : Nat) : e_Y := x_get YX12_mustAmount [YX12_wrong, YX12_good] i
def pX12_mustAmountf : List x_I := [(0, 4, 1, 0, 0, 0, []), (1, 25, 12, 7, 0, 0, []), (4, 0, 1, 0, 0, 2, []), (5, 18, 14, 0, 9, 0, []), (8, 4, 1, 0, 0, 0, []), (9, 0, 1, 0, 0, 1, []), (10, 40, 0, 2, 14, 0, []), (13, 42, 0, 0, 0, 0, []), (14, 4, 1, 0, 0, 0, []), (15, 25, 12, 17, 4, 0, [(0, 20, 152), (0, 1, 8)]), (18, 4, 1, 0, 0, 0, []), (19, 25, 12, 35, 0, 0, []), (22, 4, 1, 0, 0, 0, []), (23, 25, 12, 9, 0, 0, []), (26, 28, 0, 0, 0, 0, []), (27, 4, 1, 0, 0, 0, []), (28, 0, 1, 0, 0, 0, []), (29, 40, 1, 2, 14, 0, []), (32, 42, 0, 0, 0, 0, [])]
set_option maxRecDepth 20000 in
theorem qX12_mustAmountf : f_all yX12_mustAmount YX12_mustAmount pX12_mustAmountf :=
  ⟨f_aload_n (n := 0) (e_dx DX12_mustAmount_0 0 rfl) rfl,
  f_getf (e_dx DX12_mustAmount_0 1 rfl) fX12_309 rfl (by decide) (by decide) (by decide),
  f_iconst (e_dx DX12_mustAmount_0 2 rfl) ⟨by decide, by decide⟩,
  f_icmp_eq (e_dx DX12_mustAmount_0 3 rfl) rfl,
  f_aload_n (n := 0) (e_dx DX12_mustAmount_0 4 rfl) rfl,
  f_iconst (e_dx DX12_mustAmount_0 5 rfl) ⟨by decide, by decide⟩,
  x_callV (e_dx DX12_mustAmount_0 6 rfl) mwX12_wrong vwX12_wrong cX12_342 rfl,
  ⟨(e_dx DX12_mustAmount_0 7 rfl), rfl⟩,
  f_aload_n (n := 0) (e_dx DX12_mustAmount_0 8 rfl) rfl,
  f_getA (e_dx DX12_mustAmount_0 9 rfl) fX12_33 rfl (by decide) (Nat.le_of_ble_eq_true rfl) rfl (by decide),
  f_aload_n (n := 0) (e_dx DX12_mustAmount_0 10 rfl) rfl,
  f_getf (e_dx DX12_mustAmount_0 11 rfl) fX12_363 rfl (by decide) (by decide) (by decide),
  f_aload_n (n := 0) (e_dx DX12_mustAmount_0 12 rfl) rfl,
  f_getf (e_dx DX12_mustAmount_0 13 rfl) fX12_321 rfl (by decide) (by decide) (by decide),
  f_iastore (e_dx DX12_mustAmount_0 14 rfl),
  f_aload_n (n := 0) (e_dx DX12_mustAmount_0 15 rfl) rfl,
  f_iconst (e_dx DX12_mustAmount_0 16 rfl) ⟨by decide, by decide⟩,
  x_callV (e_dx DX12_mustAmount_0 17 rfl) mwX12_good vwX12_good cX12_351 rfl,
  ⟨(e_dx DX12_mustAmount_0 18 rfl), rfl⟩, trivial⟩
def lX12_mustAmount (c_X12_wrong : Int → e_M → (Int → e_M → Prop) → Prop) (c_X12_good : Int → e_M → (Int → e_M → Prop) → Prop) : List (Nat × f_Wt) := [(0, f_wm [(4466, 12, 123), (1, 0, 0)] (fun ar M R => c_X12_wrong (f_vi (f_nth ar 1)) M (fun r M => R (some (.inl r)) M))), (1, f_wm [(4466, 12, 123), (1, 0, 0)] (fun ar M R => c_X12_good (f_vi (f_nth ar 1)) M (fun r M => R (some (.inl r)) M)))]
set_option maxRecDepth 20000 in
theorem BX12_mustAmount {sh : Nat → Nat × Nat} {t : Nat} {rm : Nat × Nat × Nat} {cs : Nat × Nat} {R : f_Rt} {c_X12_wrong : Int → e_M → (Int → e_M → Prop) → Prop} {c_X12_good : Int → e_M → (Int → e_M → Prop) → Prop} {M : e_M} (C : f_Hy sh t yX12_mustAmount rm cs 9 (lX12_mustAmount c_X12_wrong c_X12_good) R) (h : VX12_mustAmount c_X12_wrong c_X12_good (fun r M => R (some (.inl r)) M) M) : f_E sh t YX12_mustAmount rm cs (f_Q sh t R) 0 [.inr (.inr (.inl (12, 123, 4456)))] [] M :=
  f_go (KC := f_kc []) C qX12_mustAmountf f_kc_nil 21 0 h
def WX12_mustAmount (M : e_M) (Q : Int → e_M → Prop) : Prop :=
  VX12_mustAmount WX12_wrong WX12_good Q M
theorem PX12_mustAmount {sh : Nat → Nat × Nat} {t : Nat} {rm : Nat × Nat × Nat} {cs : Nat × Nat} {R : f_Rt} {M : e_M} (C : f_Hy sh t yX12_mustAmount rm cs 9 (lX12_mustAmount WX12_wrong WX12_good) R) (h : WX12_mustAmount M (fun r M => R (some (.inl r)) M)) : f_E sh t YX12_mustAmount rm cs (f_Q sh t R) 0 [.inr (.inr (.inl (12, 123, 4456)))] [] M :=
  BX12_mustAmount C h
def wX12_mustAmount : f_Wt := f_wm [(4466, 12, 123)] (fun ar M R => WX12_mustAmount M (fun r M => R (some (.inl r)) M))
theorem TX12_mustAmount {sh : Nat → Nat × Nat} {t : Nat} : f_Mt sh t YX12_mustAmount 9 (wX12_mustAmount) :=
  f_Mt_of (k := 0) (Nat.le_of_ble_eq_true rfl) rfl rfl (fun ar M R rm cs h1 h2 h3 hX h => PX12_mustAmount ⟨Nat.le_of_ble_eq_true rfl, h1, h2, h3, ⟨(f_Mt.up (Nat.le_of_ble_eq_true rfl) TX12_wrong), (f_Mt.up (Nat.le_of_ble_eq_true rfl) TX12_good), trivial⟩, hX⟩ h)
def VX12_divisor_6 (k6 : Int → Int → Prop) (Q : Int → Prop) (x4 : Int) (x6 : Int) (M : e_M) : Prop :=
  ((x6 = 0 → (Q x4)) ∧ (¬ x6 = 0 → (¬ x6 = 0 ∧ (k6 x6 (x4.tmod x6)))))
def VX12_divisor (k6 : Int → Int → Prop) (Q : Int → Prop) (x0 : Int) (x2 : Int) (M : e_M) : Prop :=
  (k6 x0 x2)
def yX12_divisor (i : Nat) : e_Y := x_get YX12_divisor [] i
def pX12_divisorf : List x_I := [(0, 3, 1, 0, 0, 0, []), (1, 6, 2, 4, 0, 0, []), (3, 3, 1, 2, 0, 0, []), (4, 6, 2, 6, 0, 0, []), (6, 49, 0, 0, 0, 0, []), (6, 3, 2, 6, 0, 0, []), (8, 1, 1, 0, 0, 0, []), (9, 32, 31, 0, 18, 0, []), (13, 3, 2, 4, 0, 0, []), (15, 3, 2, 6, 0, 0, []), (17, 10, 0, 4, 0, 0, []), (18, 6, 2, 8, 0, 0, []), (20, 3, 2, 6, 0, 0, []), (22, 6, 2, 4, 0, 0, []), (24, 3, 2, 8, 0, 0, []), (26, 6, 2, 6, 0, 0, []), (28, 19, 6, 0, 5, 0, []), (31, 3, 2, 4, 0, 0, []), (33, 43, 0, 0, 0, 0, [])]
set_option maxRecDepth 20000 in
theorem qX12_divisorf : f_all yX12_divisor YX12_divisor pX12_divisorf :=
  ⟨f_lload_n (n := 0) (e_dx DX12_divisor_0 0 rfl) rfl,
  f_lstore (e_dx DX12_divisor_0 1 rfl) (by decide),
  f_lload_n (n := 2) (e_dx DX12_divisor_0 2 rfl) rfl,
  f_lstore (e_dx DX12_divisor_0 3 rfl) (by decide),
  trivial,
  f_lload (e_dx DX12_divisor_0 4 rfl),
  f_lconst (n := 0) (e_dx DX12_divisor_0 5 rfl) rfl,
  f_lif_eq (e_dx DX12_divisor_0 6 rfl) (e_dx DX12_divisor_0 7 rfl) rfl,
  f_lload (e_dx DX12_divisor_0 8 rfl),
  f_lload (e_dx DX12_divisor_0 9 rfl),
  f_lrem (e_dx DX12_divisor_0 10 rfl),
  f_lstore (e_dx DX12_divisor_0 11 rfl) (by decide),
  f_lload (e_dx DX12_divisor_0 12 rfl),
  f_lstore (e_dx DX12_divisor_0 13 rfl) (by decide),
  f_lload (e_dx DX12_divisor_0 14 rfl),
  f_lstore (e_dx DX12_divisor_0 15 rfl) (by decide),
  f_g19 (e_dx DX12_divisor_0 16 rfl) rfl,
  f_lload (e_dx DX12_divisor_0 17 rfl),
  ⟨(e_dx DX12_divisor_0 18 rfl), rfl⟩, trivial⟩
def lX12_divisor : List (Nat × f_Wt) := []
set_option maxRecDepth 20000 in
theorem BX12_divisor_6 {sh : Nat → Nat × Nat} {t : Nat} {rm : Nat × Nat × Nat} {cs : Nat × Nat} {R : f_Rt} {k6 : Int → Int → Prop} {x4 : Int} {x6 : Int} {M : e_M} (C : f_Hy sh t yX12_divisor rm cs 4 (lX12_divisor) R) (h6 : ∀ (x4 : Int) (x6 : Int), k6 x4 x6 → f_E sh t YX12_divisor rm cs (f_Q sh t R) 6 [.inr (.inr (.inr ())), .inr (.inr (.inr ())), .inr (.inr (.inr ())), .inr (.inr (.inr ())), .inr (.inl x4), .inr (.inr (.inr ())), .inr (.inl x6), .inr (.inr (.inr ())), .inr (.inr (.inr ())), .inr (.inr (.inr ()))] [] M) (h : VX12_divisor_6 k6 (fun r => R (some (.inr (.inl r))) M) x4 x6 M) : f_E sh t YX12_divisor rm cs (f_Q sh t R) 6 [.inr (.inr (.inr ())), .inr (.inr (.inr ())), .inr (.inr (.inr ())), .inr (.inr (.inr ())), .inr (.inl x4), .inr (.inr (.inr ())), .inr (.inl x6), .inr (.inr (.inr ())), .inr (.inr (.inr ())), .inr (.inr (.inr ()))] [] M := by
  rw [f_kk2 M k6] at h
  exact f_go (KC := f_kc [(6, f_pl [(0, 0, 0), (0, 0, 0), (0, 0, 0), (0, 0, 0), (2, 0, 0), (0, 0, 0), (2, 0, 0), (0, 0, 0), (0, 0, 0), (0, 0, 0)] [] (fun ls st M2 => M2 = M ∧ (k6 (f_vi (f_nth ls 4)) (f_vi (f_nth ls 6)))))]) C qX12_divisorf (f_kc_cons (f_pl_ok rfl (fun ls st M2 ⟨e, hh⟩ => by subst e; exact h6 _ _ hh)) f_kc_nil) 21 5 h
set_option maxRecDepth 20000 in
theorem BX12_divisor {sh : Nat → Nat × Nat} {t : Nat} {rm : Nat × Nat × Nat} {cs : Nat × Nat} {R : f_Rt} {k6 : Int → Int → Prop} {x0 : Int} {x2 : Int} {M : e_M} (C : f_Hy sh t yX12_divisor rm cs 4 (lX12_divisor) R) (h6 : ∀ (x4 : Int) (x6 : Int), k6 x4 x6 → f_E sh t YX12_divisor rm cs (f_Q sh t R) 6 [.inr (.inr (.inr ())), .inr (.inr (.inr ())), .inr (.inr (.inr ())), .inr (.inr (.inr ())), .inr (.inl x4), .inr (.inr (.inr ())), .inr (.inl x6), .inr (.inr (.inr ())), .inr (.inr (.inr ())), .inr (.inr (.inr ()))] [] M) (h : VX12_divisor k6 (fun r => R (some (.inr (.inl r))) M) x0 x2 M) : f_E sh t YX12_divisor rm cs (f_Q sh t R) 0 [.inr (.inl x0), .inr (.inr (.inr ())), .inr (.inl x2), .inr (.inr (.inr ())), .inr (.inr (.inr ())), .inr (.inr (.inr ())), .inr (.inr (.inr ())), .inr (.inr (.inr ())), .inr (.inr (.inr ())), .inr (.inr (.inr ()))] [] M := by
  rw [f_kk2 M k6] at h
  exact f_go (KC := f_kc [(6, f_pl [(0, 0, 0), (0, 0, 0), (0, 0, 0), (0, 0, 0), (2, 0, 0), (0, 0, 0), (2, 0, 0), (0, 0, 0), (0, 0, 0), (0, 0, 0)] [] (fun ls st M2 => M2 = M ∧ (k6 (f_vi (f_nth ls 4)) (f_vi (f_nth ls 6)))))]) C qX12_divisorf (f_kc_cons (f_pl_ok rfl (fun ls st M2 ⟨e, hh⟩ => by subst e; exact h6 _ _ hh)) f_kc_nil) 21 0 h
def WX12_divisor_6 (M : e_M) (Q : Int → Prop) : Nat → Int → Int → Prop
  | 0, _, _ => False
  | n + 1, x4, x6 =>
    VX12_divisor_6 (WX12_divisor_6 M Q n) Q x4 x6 M
def WX12_divisor (x0 : Int) (x2 : Int) (M : e_M) (Q : Int → Prop) : Prop :=
  VX12_divisor (fun x4 x6 => ∃ j, WX12_divisor_6 M Q j x4 x6) Q x0 x2 M
theorem PX12_divisor_6 {sh : Nat → Nat × Nat} {t : Nat} {rm : Nat × Nat × Nat} {cs : Nat × Nat} {R : f_Rt} {M : e_M} (C : f_Hy sh t yX12_divisor rm cs 4 (lX12_divisor) R) : ∀ (n : Nat) (x4 : Int) (x6 : Int), WX12_divisor_6 M (fun r => R (some (.inr (.inl r))) M) n x4 x6 → f_E sh t YX12_divisor rm cs (f_Q sh t R) 6 [.inr (.inr (.inr ())), .inr (.inr (.inr ())), .inr (.inr (.inr ())), .inr (.inr (.inr ())), .inr (.inl x4), .inr (.inr (.inr ())), .inr (.inl x6), .inr (.inr (.inr ())), .inr (.inr (.inr ())), .inr (.inr (.inr ()))] [] M := by
  intro n
  induction n with
  | zero => intro x4 x6 h; exact h.elim
  | succ n ih => intro x4 x6 h; exact BX12_divisor_6 C ih h
theorem PX12_divisor {sh : Nat → Nat × Nat} {t : Nat} {rm : Nat × Nat × Nat} {cs : Nat × Nat} {R : f_Rt} {x0 : Int} {x2 : Int} {M : e_M} (C : f_Hy sh t yX12_divisor rm cs 4 (lX12_divisor) R) (h : WX12_divisor x0 x2 M (fun r => R (some (.inr (.inl r))) M)) : f_E sh t YX12_divisor rm cs (f_Q sh t R) 0 [.inr (.inl x0), .inr (.inr (.inr ())), .inr (.inl x2), .inr (.inr (.inr ())), .inr (.inr (.inr ())), .inr (.inr (.inr ())), .inr (.inr (.inr ())), .inr (.inr (.inr ())), .inr (.inr (.inr ())), .inr (.inr (.inr ()))] [] M :=
  BX12_divisor C (fun x4 x6 ⟨j, h⟩ => PX12_divisor_6 C j _ _ h) h
def wX12_divisor : f_Wt := f_wm [(2, 0, 0), (2, 0, 0)] (fun ar M R => WX12_divisor (f_vi (f_nth ar 0)) (f_vi (f_nth ar 1)) M (fun r => R (some (.inr (.inl r))) M))
theorem TX12_divisor {sh : Nat → Nat × Nat} {t : Nat} : f_Mt sh t YX12_divisor 4 (wX12_divisor) :=
  f_Mt_of (k := 6) (Nat.le_of_ble_eq_true rfl) rfl rfl (fun ar M R rm cs h1 h2 h3 hX h => PX12_divisor ⟨Nat.le_of_ble_eq_true rfl, h1, h2, h3, trivial, hX⟩ h)
def VX12_mustShare_40 (c_X12_wrong : Int → e_M → (Int → e_M → Prop) → Prop) (c_X12_good : Int → e_M → (Int → e_M → Prop) → Prop) (c_X12_mustSign : Int → e_M → (Int → e_M → Prop) → Prop) (c_X12_divisor : Int → Int → e_M → (Int → Prop) → Prop) (k45 : Int → e_M → Prop) (Q : Int → e_M → Prop) (M : e_M) : Prop :=
  (k45 2 M)
def VX12_mustShare_45 (c_X12_wrong : Int → e_M → (Int → e_M → Prop) → Prop) (c_X12_good : Int → e_M → (Int → e_M → Prop) → Prop) (c_X12_mustSign : Int → e_M → (Int → e_M → Prop) → Prop) (c_X12_divisor : Int → Int → e_M → (Int → Prop) → Prop) (k102 : e_M → Prop) (k107 : Int → e_M → Prop) (Q : Int → e_M → Prop) (xs1 : Int) (M : e_M) : Prop :=
  (c_X12_good xs1 M (fun r1 M2 => ((r1 = 0 → (Q 0 M2)) ∧ (¬ r1 = 0 → (c_X12_mustSign 47 M2 (fun r3 M4 => ((¬ r3 = 0 → (((M4 4456 7) = 2 → (∀ M5 : e_M, M5 = e_up M4 4456 37 (M4 4456 9) → (((M5 4456 37) = 0 → (k102 M5)) ∧ (¬ (M5 4456 37) = 0 → (((M5 4456 37) ≤ 1000 → (k107 0 M5)) ∧ (1000 < (M5 4456 37) → (k102 M5))))))) ∧ (¬ (M4 4456 7) = 2 → (c_X12_wrong 1 M4 (fun r6 M7 => ((r6 = 0 ∨ r6 = 1) ∧ Q r6 M7)))))) ∧ (r3 = 0 → (Q 0 M4)))))))))
def VX12_mustShare_102 (c_X12_wrong : Int → e_M → (Int → e_M → Prop) → Prop) (c_X12_good : Int → e_M → (Int → e_M → Prop) → Prop) (c_X12_mustSign : Int → e_M → (Int → e_M → Prop) → Prop) (c_X12_divisor : Int → Int → e_M → (Int → Prop) → Prop) (k107 : Int → e_M → Prop) (Q : Int → e_M → Prop) (M : e_M) : Prop :=
  (k107 2 M)
def VX12_mustShare_107 (c_X12_wrong : Int → e_M → (Int → e_M → Prop) → Prop) (c_X12_good : Int → e_M → (Int → e_M → Prop) → Prop) (c_X12_mustSign : Int → e_M → (Int → e_M → Prop) → Prop) (c_X12_divisor : Int → Int → e_M → (Int → Prop) → Prop) (Q : Int → e_M → Prop) (xs1 : Int) (M : e_M) : Prop :=
  (c_X12_good xs1 M (fun r1 M2 => ((¬ r1 = 0 → (c_X12_divisor (M2 4456 36) (M2 4456 37) M2 (fun r3 => (¬ (e_w32 r3) = 0 ∧ (∀ M4 : e_M, M4 = e_up M2 4456 36 (e_w32 ((M2 4456 36).tdiv (e_w32 r3))) → (¬ (e_w32 r3) = 0 ∧ (∀ M5 : e_M, M5 = e_up M4 4456 37 (e_w32 ((M4 4456 37).tdiv (e_w32 r3))) → (Q 1 M5)))))))) ∧ (r1 = 0 → (Q 0 M2)))))
def VX12_mustShare (c_X12_wrong : Int → e_M → (Int → e_M → Prop) → Prop) (c_X12_good : Int → e_M → (Int → e_M → Prop) → Prop) (c_X12_mustSign : Int → e_M → (Int → e_M → Prop) → Prop) (c_X12_divisor : Int → Int → e_M → (Int → Prop) → Prop) (k40 : e_M → Prop) (k45 : Int → e_M → Prop) (Q : Int → e_M → Prop) (M : e_M) : Prop :=
  (((M 4456 7) = 2 → (∀ M1 : e_M, M1 = e_up M 4456 36 (M 4456 9) → (((M1 4456 36) = 0 → (k40 M1)) ∧ (¬ (M1 4456 36) = 0 → (((M1 4456 36) ≤ 1000 → (k45 0 M1)) ∧ (1000 < (M1 4456 36) → (k40 M1))))))) ∧ (¬ (M 4456 7) = 2 → (c_X12_wrong 1 M (fun r2 M3 => ((r2 = 0 ∨ r2 = 1) ∧ Q r2 M3)))))
def yX12_mustShare (i : Nat) : e_Y := x_get YX12_mustShare [YX12_wrong, YX12_good, YX12_mustSign, YX12_divisor] i
def pX12_mustSharef : List x_I := [(0, 4, 1, 0, 0, 0, []), (1, 25, 12, 7, 0, 0, []), (4, 0, 1, 0, 0, 2, []), (5, 18, 14, 0, 9, 0, []), (8, 4, 1, 0, 0, 0, []), (9, 0, 1, 0, 0, 1, []), (10, 40, 0, 2, 14, 0, []), (13, 42, 0, 0, 0, 0, []), (14, 4, 1, 0, 0, 0, []), (15, 4, 1, 0, 0, 0, []), (16, 25, 12, 9, 0, 0, []), (19, 26, 12, 36, 0, 0, []), (22, 4, 1, 0, 0, 0, []), (23, 4, 1, 0, 0, 0, []), (24, 25, 12, 36, 0, 0, []), (27, 17, 40, 0, 21, 0, []), (30, 4, 1, 0, 0, 0, []), (31, 25, 12, 36, 0, 0, []), (34, 0, 3, 0, 0, 1000, []), (37, 18, 44, 5, 24, 0, []), (40, 49, 0, 0, 0, 0, []), (40, 0, 1, 0, 0, 2, []), (41, 19, 45, 0, 25, 0, []), (44, 0, 1, 0, 0, 0, []), (45, 49, 0, 0, 0, 0, []), (45, 40, 1, 2, 14, 0, []), (48, 17, 60, 0, 32, 0, []), (51, 4, 1, 0, 0, 0, []), (52, 0, 2, 0, 0, 47, []), (54, 40, 2, 2, 14, 0, []), (57, 17, 62, 1, 34, 0, []), (60, 0, 1, 0, 0, 0, []), (61, 48, 0, 0, 0, 0, []), (62, 4, 1, 0, 0, 0, []), (63, 25, 12, 7, 0, 0, []), (66, 0, 1, 0, 0, 2, []), (67, 18, 76, 0, 42, 0, []), (70, 4, 1, 0, 0, 0, []), (71, 0, 1, 0, 0, 1, []), (72, 40, 0, 2, 14, 0, []), (75, 42, 0, 0, 0, 0, []), (76, 4, 1, 0, 0, 0, []), (77, 4, 1, 0, 0, 0, []), (78, 25, 12, 9, 0, 0, []), (81, 26, 12, 37, 0, 0, []), (84, 4, 1, 0, 0, 0, []), (85, 4, 1, 0, 0, 0, []), (86, 25, 12, 37, 0, 0, []), (89, 17, 102, 0, 54, 0, []), (92, 4, 1, 0, 0, 0, []), (93, 25, 12, 37, 0, 0, []), (96, 0, 3, 0, 0, 1000, []), (99, 18, 106, 5, 57, 0, []), (102, 49, 0, 0, 0, 0, []), (102, 0, 1, 0, 0, 2, []), (103, 19, 107, 0, 58, 0, []), (106, 0, 1, 0, 0, 0, []), (107, 49, 0, 0, 0, 0, []), (107, 40, 1, 2, 14, 0, []), (110, 17, 115, 1, 63, 0, []), (113, 0, 1, 0, 0, 0, []), (114, 48, 0, 0, 0, 0, []), (115, 4, 1, 0, 0, 0, []), (116, 25, 12, 36, 0, 0, []), (119, 14, 0, 0, 0, 0, []), (120, 4, 1, 0, 0, 0, []), (121, 25, 12, 37, 0, 0, []), (124, 14, 0, 0, 0, 0, []), (125, 40, 3, 2, 0, 0, []), (128, 15, 0, 0, 0, 0, []), (129, 5, 1, 1, 0, 0, []), (130, 4, 1, 0, 0, 0, []), (131, 20, 0, 0, 0, 0, []), (132, 25, 12, 36, 0, 0, []), (135, 2, 1, 1, 0, 0, []), (136, 9, 0, 3, 0, 0, []), (137, 26, 12, 36, 0, 0, []), (140, 4, 1, 0, 0, 0, []), (141, 20, 0, 0, 0, 0, []), (142, 25, 12, 37, 0, 0, []), (145, 2, 1, 1, 0, 0, []), (146, 9, 0, 3, 0, 0, []), (147, 26, 12, 37, 0, 0, []), (150, 0, 1, 0, 0, 1, []), (151, 48, 0, 0, 0, 0, [])]
set_option maxRecDepth 20000 in
theorem qX12_mustSharef : f_all yX12_mustShare YX12_mustShare pX12_mustSharef :=
  ⟨f_aload_n (n := 0) (e_dx DX12_mustShare_0 0 rfl) rfl,
  f_getf (e_dx DX12_mustShare_0 1 rfl) fX12_309 rfl (by decide) (by decide) (by decide),
  f_iconst (e_dx DX12_mustShare_0 2 rfl) ⟨by decide, by decide⟩,
  f_icmp_eq (e_dx DX12_mustShare_0 3 rfl) rfl,
  f_aload_n (n := 0) (e_dx DX12_mustShare_0 4 rfl) rfl,
  f_iconst (e_dx DX12_mustShare_0 5 rfl) ⟨by decide, by decide⟩,
  x_callV (e_dx DX12_mustShare_0 6 rfl) mwX12_wrong vwX12_wrong cX12_342 rfl,
  ⟨(e_dx DX12_mustShare_0 7 rfl), rfl⟩,
  f_aload_n (n := 0) (e_dx DX12_mustShare_0 8 rfl) rfl,
  f_aload_n (n := 0) (e_dx DX12_mustShare_0 9 rfl) rfl,
  f_getf (e_dx DX12_mustShare_0 10 rfl) fX12_321 rfl (by decide) (by decide) (by decide),
  f_putn (e_dx DX12_mustShare_0 11 rfl) fX12_366 (fun q hq => by cases hq; rfl) rfl (Or.inl rfl) (by decide),
  f_aload_n (n := 0) (e_dx DX12_mustShare_0 12 rfl) rfl,
  f_aload_n (n := 0) (e_dx DX12_mustShare_0 13 rfl) rfl,
  f_getf (e_dx DX12_mustShare_0 14 rfl) fX12_366 rfl (by decide) (by decide) (by decide),
  f_if_eq (e_dx DX12_mustShare_0 15 rfl) rfl,
  f_aload_n (n := 0) (e_dx DX12_mustShare_0 16 rfl) rfl,
  f_getf (e_dx DX12_mustShare_0 17 rfl) fX12_366 rfl (by decide) (by decide) (by decide),
  f_sipush (e_dx DX12_mustShare_0 18 rfl) ⟨by decide, by decide⟩,
  f_icmp_le (e_dx DX12_mustShare_0 19 rfl) rfl,
  trivial,
  f_iconst (e_dx DX12_mustShare_0 20 rfl) ⟨by decide, by decide⟩,
  f_g19 (e_dx DX12_mustShare_0 21 rfl) rfl,
  f_iconst (e_dx DX12_mustShare_0 22 rfl) ⟨by decide, by decide⟩,
  trivial,
  x_callV (e_dx DX12_mustShare_0 23 rfl) mwX12_good vwX12_good cX12_351 rfl,
  f_if_eq (e_dx DX12_mustShare_0 24 rfl) rfl,
  f_aload_n (n := 0) (e_dx DX12_mustShare_0 25 rfl) rfl,
  f_bipush (e_dx DX12_mustShare_0 26 rfl) ⟨by decide, by decide⟩,
  x_callV (e_dx DX12_mustShare_0 27 rfl) mwX12_mustSign vwX12_mustSign cX12_369 rfl,
  f_if_ne (e_dx DX12_mustShare_0 28 rfl) rfl,
  f_iconst (e_dx DX12_mustShare_0 29 rfl) ⟨by decide, by decide⟩,
  ⟨(e_dx DX12_mustShare_0 30 rfl), rfl⟩,
  f_aload_n (n := 0) (e_dx DX12_mustShare_0 31 rfl) rfl,
  f_getf (e_dx DX12_mustShare_0 32 rfl) fX12_309 rfl (by decide) (by decide) (by decide),
  f_iconst (e_dx DX12_mustShare_0 33 rfl) ⟨by decide, by decide⟩,
  f_icmp_eq (e_dx DX12_mustShare_0 34 rfl) rfl,
  f_aload_n (n := 0) (e_dx DX12_mustShare_0 35 rfl) rfl,
  f_iconst (e_dx DX12_mustShare_0 36 rfl) ⟨by decide, by decide⟩,
  x_callV (e_dx DX12_mustShare_0 37 rfl) mwX12_wrong vwX12_wrong cX12_342 rfl,
  ⟨(e_dx DX12_mustShare_0 38 rfl), rfl⟩,
  f_aload_n (n := 0) (e_dx DX12_mustShare_0 39 rfl) rfl,
  f_aload_n (n := 0) (e_dx DX12_mustShare_1 0 rfl) rfl,
  f_getf (e_dx DX12_mustShare_1 1 rfl) fX12_321 rfl (by decide) (by decide) (by decide),
  f_putn (e_dx DX12_mustShare_1 2 rfl) fX12_372 (fun q hq => by cases hq; rfl) rfl (Or.inl rfl) (by decide),
  f_aload_n (n := 0) (e_dx DX12_mustShare_1 3 rfl) rfl,
  f_aload_n (n := 0) (e_dx DX12_mustShare_1 4 rfl) rfl,
  f_getf (e_dx DX12_mustShare_1 5 rfl) fX12_372 rfl (by decide) (by decide) (by decide),
  f_if_eq (e_dx DX12_mustShare_1 6 rfl) rfl,
  f_aload_n (n := 0) (e_dx DX12_mustShare_1 7 rfl) rfl,
  f_getf (e_dx DX12_mustShare_1 8 rfl) fX12_372 rfl (by decide) (by decide) (by decide),
  f_sipush (e_dx DX12_mustShare_1 9 rfl) ⟨by decide, by decide⟩,
  f_icmp_le (e_dx DX12_mustShare_1 10 rfl) rfl,
  trivial,
  f_iconst (e_dx DX12_mustShare_1 11 rfl) ⟨by decide, by decide⟩,
  f_g19 (e_dx DX12_mustShare_1 12 rfl) rfl,
  f_iconst (e_dx DX12_mustShare_1 13 rfl) ⟨by decide, by decide⟩,
  trivial,
  x_callV (e_dx DX12_mustShare_1 14 rfl) mwX12_good vwX12_good cX12_351 rfl,
  f_if_ne (e_dx DX12_mustShare_1 15 rfl) rfl,
  f_iconst (e_dx DX12_mustShare_1 16 rfl) ⟨by decide, by decide⟩,
  ⟨(e_dx DX12_mustShare_1 17 rfl), rfl⟩,
  f_aload_n (n := 0) (e_dx DX12_mustShare_1 18 rfl) rfl,
  f_getf (e_dx DX12_mustShare_1 19 rfl) fX12_366 rfl (by decide) (by decide) (by decide),
  f_g14 (e_dx DX12_mustShare_1 20 rfl),
  f_aload_n (n := 0) (e_dx DX12_mustShare_1 21 rfl) rfl,
  f_getf (e_dx DX12_mustShare_1 22 rfl) fX12_372 rfl (by decide) (by decide) (by decide),
  f_g14 (e_dx DX12_mustShare_1 23 rfl),
  x_callS (e_dx DX12_mustShare_1 24 rfl) mwX12_divisor cX12_375 swX12_divisor rfl,
  f_g15 (e_dx DX12_mustShare_1 25 rfl),
  f_istore_n (n := 1) (e_dx DX12_mustShare_1 26 rfl) rfl (by decide),
  f_aload_n (n := 0) (e_dx DX12_mustShare_1 27 rfl) rfl,
  f_g20 (e_dx DX12_mustShare_1 28 rfl),
  f_getf (e_dx DX12_mustShare_1 29 rfl) fX12_366 rfl (by decide) (by decide) (by decide),
  f_iload_n (n := 1) (e_dx DX12_mustShare_1 30 rfl) rfl,
  f_idiv (e_dx DX12_mustShare_1 31 rfl),
  f_putn (e_dx DX12_mustShare_1 32 rfl) fX12_366 (fun q hq => by cases hq; rfl) rfl (Or.inl rfl) (by decide),
  f_aload_n (n := 0) (e_dx DX12_mustShare_1 33 rfl) rfl,
  f_g20 (e_dx DX12_mustShare_1 34 rfl),
  f_getf (e_dx DX12_mustShare_1 35 rfl) fX12_372 rfl (by decide) (by decide) (by decide),
  f_iload_n (n := 1) (e_dx DX12_mustShare_1 36 rfl) rfl,
  f_idiv (e_dx DX12_mustShare_1 37 rfl),
  f_putn (e_dx DX12_mustShare_1 38 rfl) fX12_372 (fun q hq => by cases hq; rfl) rfl (Or.inl rfl) (by decide),
  f_iconst (e_dx DX12_mustShare_1 39 rfl) ⟨by decide, by decide⟩,
  ⟨(e_dx DX12_mustShare_2 0 rfl), rfl⟩, trivial⟩
def lX12_mustShare (c_X12_wrong : Int → e_M → (Int → e_M → Prop) → Prop) (c_X12_good : Int → e_M → (Int → e_M → Prop) → Prop) (c_X12_mustSign : Int → e_M → (Int → e_M → Prop) → Prop) (c_X12_divisor : Int → Int → e_M → (Int → Prop) → Prop) : List (Nat × f_Wt) := [(0, f_wm [(4466, 12, 123), (1, 0, 0)] (fun ar M R => c_X12_wrong (f_vi (f_nth ar 1)) M (fun r M => R (some (.inl r)) M))), (1, f_wm [(4466, 12, 123), (1, 0, 0)] (fun ar M R => c_X12_good (f_vi (f_nth ar 1)) M (fun r M => R (some (.inl r)) M))), (2, f_wm [(4466, 12, 123), (1, 0, 0)] (fun ar M R => c_X12_mustSign (f_vi (f_nth ar 1)) M (fun r M => R (some (.inl r)) M))), (3, f_wm [(2, 0, 0), (2, 0, 0)] (fun ar M R => c_X12_divisor (f_vi (f_nth ar 0)) (f_vi (f_nth ar 1)) M (fun r => R (some (.inr (.inl r))) M)))]
set_option maxRecDepth 20000 in
theorem BX12_mustShare_40 {sh : Nat → Nat × Nat} {t : Nat} {rm : Nat × Nat × Nat} {cs : Nat × Nat} {R : f_Rt} {c_X12_wrong : Int → e_M → (Int → e_M → Prop) → Prop} {c_X12_good : Int → e_M → (Int → e_M → Prop) → Prop} {c_X12_mustSign : Int → e_M → (Int → e_M → Prop) → Prop} {c_X12_divisor : Int → Int → e_M → (Int → Prop) → Prop} {k45 : Int → e_M → Prop} {M : e_M} (C : f_Hy sh t yX12_mustShare rm cs 10 (lX12_mustShare c_X12_wrong c_X12_good c_X12_mustSign c_X12_divisor) R) (h45 : ∀ (xs1 : Int) (M : e_M), k45 xs1 M → f_E sh t YX12_mustShare rm cs (f_Q sh t R) 45 [.inr (.inr (.inl (12, 123, 4456))), .inr (.inr (.inr ()))] [.inl xs1, .inr (.inr (.inl (12, 123, 4456)))] M) (h : VX12_mustShare_40 c_X12_wrong c_X12_good c_X12_mustSign c_X12_divisor k45 (fun r M => R (some (.inl r)) M) M) : f_E sh t YX12_mustShare rm cs (f_Q sh t R) 40 [.inr (.inr (.inl (12, 123, 4456))), .inr (.inr (.inr ()))] [.inr (.inr (.inl (12, 123, 4456)))] M :=
  f_go (KC := f_kc [(45, f_pl [(4466, 12, 123), (0, 0, 0)] [(1, 0, 0), (4466, 12, 123)] (fun ls st M => k45 (f_vi (f_nth st 0)) M))]) C qX12_mustSharef (f_kc_cons (f_pl_ok rfl (fun ls st M h => h45 _ M h)) f_kc_nil) 87 21 h
set_option maxRecDepth 20000 in
theorem BX12_mustShare_45 {sh : Nat → Nat × Nat} {t : Nat} {rm : Nat × Nat × Nat} {cs : Nat × Nat} {R : f_Rt} {c_X12_wrong : Int → e_M → (Int → e_M → Prop) → Prop} {c_X12_good : Int → e_M → (Int → e_M → Prop) → Prop} {c_X12_mustSign : Int → e_M → (Int → e_M → Prop) → Prop} {c_X12_divisor : Int → Int → e_M → (Int → Prop) → Prop} {k102 : e_M → Prop} {k107 : Int → e_M → Prop} {xs1 : Int} {M : e_M} (C : f_Hy sh t yX12_mustShare rm cs 10 (lX12_mustShare c_X12_wrong c_X12_good c_X12_mustSign c_X12_divisor) R) (h102 : ∀ (M : e_M), k102 M → f_E sh t YX12_mustShare rm cs (f_Q sh t R) 102 [.inr (.inr (.inl (12, 123, 4456))), .inr (.inr (.inr ()))] [.inr (.inr (.inl (12, 123, 4456)))] M) (h107 : ∀ (xs1 : Int) (M : e_M), k107 xs1 M → f_E sh t YX12_mustShare rm cs (f_Q sh t R) 107 [.inr (.inr (.inl (12, 123, 4456))), .inr (.inr (.inr ()))] [.inl xs1, .inr (.inr (.inl (12, 123, 4456)))] M) (h : VX12_mustShare_45 c_X12_wrong c_X12_good c_X12_mustSign c_X12_divisor k102 k107 (fun r M => R (some (.inl r)) M) xs1 M) : f_E sh t YX12_mustShare rm cs (f_Q sh t R) 45 [.inr (.inr (.inl (12, 123, 4456))), .inr (.inr (.inr ()))] [.inl xs1, .inr (.inr (.inl (12, 123, 4456)))] M :=
  f_go (KC := f_kc [(102, f_pl [(4466, 12, 123), (0, 0, 0)] [(4466, 12, 123)] (fun ls st M => k102 M)), (107, f_pl [(4466, 12, 123), (0, 0, 0)] [(1, 0, 0), (4466, 12, 123)] (fun ls st M => k107 (f_vi (f_nth st 0)) M))]) C qX12_mustSharef (f_kc_cons (f_pl_ok rfl (fun ls st M h => h102  M h)) (f_kc_cons (f_pl_ok rfl (fun ls st M h => h107 _ M h)) f_kc_nil)) 87 25 h
set_option maxRecDepth 20000 in
theorem BX12_mustShare_102 {sh : Nat → Nat × Nat} {t : Nat} {rm : Nat × Nat × Nat} {cs : Nat × Nat} {R : f_Rt} {c_X12_wrong : Int → e_M → (Int → e_M → Prop) → Prop} {c_X12_good : Int → e_M → (Int → e_M → Prop) → Prop} {c_X12_mustSign : Int → e_M → (Int → e_M → Prop) → Prop} {c_X12_divisor : Int → Int → e_M → (Int → Prop) → Prop} {k107 : Int → e_M → Prop} {M : e_M} (C : f_Hy sh t yX12_mustShare rm cs 10 (lX12_mustShare c_X12_wrong c_X12_good c_X12_mustSign c_X12_divisor) R) (h107 : ∀ (xs1 : Int) (M : e_M), k107 xs1 M → f_E sh t YX12_mustShare rm cs (f_Q sh t R) 107 [.inr (.inr (.inl (12, 123, 4456))), .inr (.inr (.inr ()))] [.inl xs1, .inr (.inr (.inl (12, 123, 4456)))] M) (h : VX12_mustShare_102 c_X12_wrong c_X12_good c_X12_mustSign c_X12_divisor k107 (fun r M => R (some (.inl r)) M) M) : f_E sh t YX12_mustShare rm cs (f_Q sh t R) 102 [.inr (.inr (.inl (12, 123, 4456))), .inr (.inr (.inr ()))] [.inr (.inr (.inl (12, 123, 4456)))] M :=
  f_go (KC := f_kc [(107, f_pl [(4466, 12, 123), (0, 0, 0)] [(1, 0, 0), (4466, 12, 123)] (fun ls st M => k107 (f_vi (f_nth st 0)) M))]) C qX12_mustSharef (f_kc_cons (f_pl_ok rfl (fun ls st M h => h107 _ M h)) f_kc_nil) 87 54 h
set_option maxRecDepth 20000 in
theorem BX12_mustShare_107 {sh : Nat → Nat × Nat} {t : Nat} {rm : Nat × Nat × Nat} {cs : Nat × Nat} {R : f_Rt} {c_X12_wrong : Int → e_M → (Int → e_M → Prop) → Prop} {c_X12_good : Int → e_M → (Int → e_M → Prop) → Prop} {c_X12_mustSign : Int → e_M → (Int → e_M → Prop) → Prop} {c_X12_divisor : Int → Int → e_M → (Int → Prop) → Prop} {xs1 : Int} {M : e_M} (C : f_Hy sh t yX12_mustShare rm cs 10 (lX12_mustShare c_X12_wrong c_X12_good c_X12_mustSign c_X12_divisor) R) (h : VX12_mustShare_107 c_X12_wrong c_X12_good c_X12_mustSign c_X12_divisor (fun r M => R (some (.inl r)) M) xs1 M) : f_E sh t YX12_mustShare rm cs (f_Q sh t R) 107 [.inr (.inr (.inl (12, 123, 4456))), .inr (.inr (.inr ()))] [.inl xs1, .inr (.inr (.inl (12, 123, 4456)))] M :=
  f_go (KC := f_kc []) C qX12_mustSharef f_kc_nil 87 58 h
set_option maxRecDepth 20000 in
theorem BX12_mustShare {sh : Nat → Nat × Nat} {t : Nat} {rm : Nat × Nat × Nat} {cs : Nat × Nat} {R : f_Rt} {c_X12_wrong : Int → e_M → (Int → e_M → Prop) → Prop} {c_X12_good : Int → e_M → (Int → e_M → Prop) → Prop} {c_X12_mustSign : Int → e_M → (Int → e_M → Prop) → Prop} {c_X12_divisor : Int → Int → e_M → (Int → Prop) → Prop} {k40 : e_M → Prop} {k45 : Int → e_M → Prop} {M : e_M} (C : f_Hy sh t yX12_mustShare rm cs 10 (lX12_mustShare c_X12_wrong c_X12_good c_X12_mustSign c_X12_divisor) R) (h40 : ∀ (M : e_M), k40 M → f_E sh t YX12_mustShare rm cs (f_Q sh t R) 40 [.inr (.inr (.inl (12, 123, 4456))), .inr (.inr (.inr ()))] [.inr (.inr (.inl (12, 123, 4456)))] M) (h45 : ∀ (xs1 : Int) (M : e_M), k45 xs1 M → f_E sh t YX12_mustShare rm cs (f_Q sh t R) 45 [.inr (.inr (.inl (12, 123, 4456))), .inr (.inr (.inr ()))] [.inl xs1, .inr (.inr (.inl (12, 123, 4456)))] M) (h : VX12_mustShare c_X12_wrong c_X12_good c_X12_mustSign c_X12_divisor k40 k45 (fun r M => R (some (.inl r)) M) M) : f_E sh t YX12_mustShare rm cs (f_Q sh t R) 0 [.inr (.inr (.inl (12, 123, 4456))), .inr (.inr (.inr ()))] [] M :=
  f_go (KC := f_kc [(40, f_pl [(4466, 12, 123), (0, 0, 0)] [(4466, 12, 123)] (fun ls st M => k40 M)), (45, f_pl [(4466, 12, 123), (0, 0, 0)] [(1, 0, 0), (4466, 12, 123)] (fun ls st M => k45 (f_vi (f_nth st 0)) M))]) C qX12_mustSharef (f_kc_cons (f_pl_ok rfl (fun ls st M h => h40  M h)) (f_kc_cons (f_pl_ok rfl (fun ls st M h => h45 _ M h)) f_kc_nil)) 87 0 h
def WX12_mustShare_107 (Q : Int → e_M → Prop) (xs1 : Int) (M : e_M) : Prop :=
  VX12_mustShare_107 WX12_wrong WX12_good WX12_mustSign WX12_divisor Q xs1 M
def WX12_mustShare_102 (Q : Int → e_M → Prop) (M : e_M) : Prop :=
  VX12_mustShare_102 WX12_wrong WX12_good WX12_mustSign WX12_divisor (WX12_mustShare_107 Q) Q M
def WX12_mustShare_45 (Q : Int → e_M → Prop) (xs1 : Int) (M : e_M) : Prop :=
  VX12_mustShare_45 WX12_wrong WX12_good WX12_mustSign WX12_divisor (WX12_mustShare_102 Q) (WX12_mustShare_107 Q) Q xs1 M
def WX12_mustShare_40 (Q : Int → e_M → Prop) (M : e_M) : Prop :=
  VX12_mustShare_40 WX12_wrong WX12_good WX12_mustSign WX12_divisor (WX12_mustShare_45 Q) Q M
def WX12_mustShare (M : e_M) (Q : Int → e_M → Prop) : Prop :=
  VX12_mustShare WX12_wrong WX12_good WX12_mustSign WX12_divisor (WX12_mustShare_40 Q) (WX12_mustShare_45 Q) Q M
theorem PX12_mustShare_107 {sh : Nat → Nat × Nat} {t : Nat} {rm : Nat × Nat × Nat} {cs : Nat × Nat} {R : f_Rt} {xs1 : Int} {M : e_M} (C : f_Hy sh t yX12_mustShare rm cs 10 (lX12_mustShare WX12_wrong WX12_good WX12_mustSign WX12_divisor) R) (h : WX12_mustShare_107 (fun r M => R (some (.inl r)) M) xs1 M) : f_E sh t YX12_mustShare rm cs (f_Q sh t R) 107 [.inr (.inr (.inl (12, 123, 4456))), .inr (.inr (.inr ()))] [.inl xs1, .inr (.inr (.inl (12, 123, 4456)))] M :=
  BX12_mustShare_107 C h
theorem PX12_mustShare_102 {sh : Nat → Nat × Nat} {t : Nat} {rm : Nat × Nat × Nat} {cs : Nat × Nat} {R : f_Rt} {M : e_M} (C : f_Hy sh t yX12_mustShare rm cs 10 (lX12_mustShare WX12_wrong WX12_good WX12_mustSign WX12_divisor) R) (h : WX12_mustShare_102 (fun r M => R (some (.inl r)) M) M) : f_E sh t YX12_mustShare rm cs (f_Q sh t R) 102 [.inr (.inr (.inl (12, 123, 4456))), .inr (.inr (.inr ()))] [.inr (.inr (.inl (12, 123, 4456)))] M :=
  BX12_mustShare_102 C (fun xs1 M h => PX12_mustShare_107 C h) h
theorem PX12_mustShare_45 {sh : Nat → Nat × Nat} {t : Nat} {rm : Nat × Nat × Nat} {cs : Nat × Nat} {R : f_Rt} {xs1 : Int} {M : e_M} (C : f_Hy sh t yX12_mustShare rm cs 10 (lX12_mustShare WX12_wrong WX12_good WX12_mustSign WX12_divisor) R) (h : WX12_mustShare_45 (fun r M => R (some (.inl r)) M) xs1 M) : f_E sh t YX12_mustShare rm cs (f_Q sh t R) 45 [.inr (.inr (.inl (12, 123, 4456))), .inr (.inr (.inr ()))] [.inl xs1, .inr (.inr (.inl (12, 123, 4456)))] M :=
  BX12_mustShare_45 C (fun M h => PX12_mustShare_102 C h) (fun xs1 M h => PX12_mustShare_107 C h) h
theorem PX12_mustShare_40 {sh : Nat → Nat × Nat} {t : Nat} {rm : Nat × Nat × Nat} {cs : Nat × Nat} {R : f_Rt} {M : e_M} (C : f_Hy sh t yX12_mustShare rm cs 10 (lX12_mustShare WX12_wrong WX12_good WX12_mustSign WX12_divisor) R) (h : WX12_mustShare_40 (fun r M => R (some (.inl r)) M) M) : f_E sh t YX12_mustShare rm cs (f_Q sh t R) 40 [.inr (.inr (.inl (12, 123, 4456))), .inr (.inr (.inr ()))] [.inr (.inr (.inl (12, 123, 4456)))] M :=
  BX12_mustShare_40 C (fun xs1 M h => PX12_mustShare_45 C h) h
theorem PX12_mustShare {sh : Nat → Nat × Nat} {t : Nat} {rm : Nat × Nat × Nat} {cs : Nat × Nat} {R : f_Rt} {M : e_M} (C : f_Hy sh t yX12_mustShare rm cs 10 (lX12_mustShare WX12_wrong WX12_good WX12_mustSign WX12_divisor) R) (h : WX12_mustShare M (fun r M => R (some (.inl r)) M)) : f_E sh t YX12_mustShare rm cs (f_Q sh t R) 0 [.inr (.inr (.inl (12, 123, 4456))), .inr (.inr (.inr ()))] [] M :=
  BX12_mustShare C (fun M h => PX12_mustShare_40 C h) (fun xs1 M h => PX12_mustShare_45 C h) h
def wX12_mustShare : f_Wt := f_wm [(4466, 12, 123)] (fun ar M R => WX12_mustShare M (fun r M => R (some (.inl r)) M))
theorem TX12_mustShare {sh : Nat → Nat × Nat} {t : Nat} : f_Mt sh t YX12_mustShare 10 (wX12_mustShare) :=
  f_Mt_of (k := 1) (Nat.le_of_ble_eq_true rfl) rfl rfl (fun ar M R rm cs h1 h2 h3 hX h => PX12_mustShare ⟨Nat.le_of_ble_eq_true rfl, h1, h2, h3, ⟨(f_Mt.up (Nat.le_of_ble_eq_true rfl) TX12_wrong), (f_Mt.up (Nat.le_of_ble_eq_true rfl) TX12_good), (f_Mt.up (Nat.le_of_ble_eq_true rfl) TX12_mustSign), (f_Mt.up (Nat.le_of_ble_eq_true rfl) TX12_divisor), trivial⟩, hX⟩ h)
def VX12_mustParts_22 (c_X12_isName : e_M → (Int → Prop) → Prop) (c_X12_mustName : Int → e_M → (Int → e_M → Prop) → Prop) (c_X12_mustShare : e_M → (Int → e_M → Prop) → Prop) (c_X12_isSign : Int → e_M → (Int → Prop) → Prop) (c_X12_good : Int → e_M → (Int → e_M → Prop) → Prop) (k172 : Int → Int → e_M → Prop) (k44 : Int → e_M → Prop) (k45 : Int → Int → e_M → Prop) (Q : Int → e_M → Prop) (x1 : Int) (x2 : Int) (M : e_M) : Prop :=
  ((x2 = 0 → ((0 ≤ (M 4456 35) ∧ (M 4456 35) < 152) ∧ (∀ M1 : e_M, M1 = e_up M 4470 ((M 4456 35).toNat) x1 → (k172 x1 0 M1)))) ∧ (¬ x2 = 0 → (c_X12_isName M (fun r2 => ((r2 = 0 → (k44 x1 M)) ∧ (¬ r2 = 0 → ((¬ x1 = 6 → (k44 x1 M)) ∧ (x1 = 6 → (k45 x1 4 M)))))))))
def VX12_mustParts_44 (c_X12_isName : e_M → (Int → Prop) → Prop) (c_X12_mustName : Int → e_M → (Int → e_M → Prop) → Prop) (c_X12_mustShare : e_M → (Int → e_M → Prop) → Prop) (c_X12_isSign : Int → e_M → (Int → Prop) → Prop) (c_X12_good : Int → e_M → (Int → e_M → Prop) → Prop) (k45 : Int → Int → e_M → Prop) (Q : Int → e_M → Prop) (x1 : Int) (M : e_M) : Prop :=
  (k45 x1 0 M)
def VX12_mustParts_45 (c_X12_isName : e_M → (Int → Prop) → Prop) (c_X12_mustName : Int → e_M → (Int → e_M → Prop) → Prop) (c_X12_mustShare : e_M → (Int → e_M → Prop) → Prop) (c_X12_isSign : Int → e_M → (Int → Prop) → Prop) (c_X12_good : Int → e_M → (Int → e_M → Prop) → Prop) (k136 : Int → e_M → Prop) (Q : Int → e_M → Prop) (x1 : Int) (xs1 : Int) (M : e_M) : Prop :=
  (c_X12_mustName xs1 M (fun r1 M2 => ((¬ r1 = 0 → ((0 ≤ (e_w32 ((e_w32 ((6 : Int) * (M2 4456 35))) + x1)) ∧ (e_w32 ((e_w32 ((6 : Int) * (M2 4456 35))) + x1)) < 912) ∧ (∀ M3 : e_M, M3 = e_up M2 4472 ((e_w32 ((e_w32 ((6 : Int) * (M2 4456 35))) + x1)).toNat) 0 → ((0 ≤ (e_w32 ((e_w32 ((6 : Int) * (M3 4456 35))) + x1)) ∧ (e_w32 ((e_w32 ((6 : Int) * (M3 4456 35))) + x1)) < 912) ∧ (∀ M4 : e_M, M4 = e_up M3 4473 ((e_w32 ((e_w32 ((6 : Int) * (M3 4456 35))) + x1)).toNat) 0 → ((¬ (M4 4456 7) = 2 → (k136 x1 M4)) ∧ ((M4 4456 7) = 2 → (c_X12_mustShare M4 (fun r5 M6 => ((¬ r5 = 0 → ((0 ≤ (e_w32 ((e_w32 ((6 : Int) * (M6 4456 35))) + x1)) ∧ (e_w32 ((e_w32 ((6 : Int) * (M6 4456 35))) + x1)) < 912) ∧ (∀ M7 : e_M, M7 = e_up M6 4472 ((e_w32 ((e_w32 ((6 : Int) * (M6 4456 35))) + x1)).toNat) (M6 4456 36) → ((0 ≤ (e_w32 ((e_w32 ((6 : Int) * (M7 4456 35))) + x1)) ∧ (e_w32 ((e_w32 ((6 : Int) * (M7 4456 35))) + x1)) < 912) ∧ (∀ M8 : e_M, M8 = e_up M7 4473 ((e_w32 ((e_w32 ((6 : Int) * (M7 4456 35))) + x1)).toNat) (M7 4456 37) → (k136 x1 M8)))))) ∧ (r5 = 0 → (Q 0 M6)))))))))))) ∧ (r1 = 0 → (Q 0 M2)))))
def VX12_mustParts_136 (c_X12_isName : e_M → (Int → Prop) → Prop) (c_X12_mustName : Int → e_M → (Int → e_M → Prop) → Prop) (c_X12_mustShare : e_M → (Int → e_M → Prop) → Prop) (c_X12_isSign : Int → e_M → (Int → Prop) → Prop) (c_X12_good : Int → e_M → (Int → e_M → Prop) → Prop) (k22 : Int → Int → e_M → Prop) (Q : Int → e_M → Prop) (x1 : Int) (M : e_M) : Prop :=
  (c_X12_isSign 44 M (fun r1 => ((r1 = 0 → (k22 (e_w32 (x1 + 1)) r1 M)) ∧ (¬ r1 = 0 → (c_X12_good 0 M (fun r2 M3 => ((¬ r2 = 0 → (k22 (e_w32 (x1 + 1)) r1 M3)) ∧ (r2 = 0 → (Q 0 M3)))))))))
def VX12_mustParts_172 (c_X12_isName : e_M → (Int → Prop) → Prop) (c_X12_mustName : Int → e_M → (Int → e_M → Prop) → Prop) (c_X12_mustShare : e_M → (Int → e_M → Prop) → Prop) (c_X12_isSign : Int → e_M → (Int → Prop) → Prop) (c_X12_good : Int → e_M → (Int → e_M → Prop) → Prop) (k227 : Int → Int → e_M → Prop) (Q : Int → e_M → Prop) (x1 : Int) (x3 : Int) (M : e_M) : Prop :=
  ((x1 ≤ x3 → (Q 1 M)) ∧ (x3 < x1 → ((0 ≤ (e_w32 ((e_w32 ((6 : Int) * (M 4456 35))) + x3)) ∧ (e_w32 ((e_w32 ((6 : Int) * (M 4456 35))) + x3)) < 912) ∧ (((M 4473 ((e_w32 ((e_w32 ((6 : Int) * (M 4456 35))) + x3)).toNat)) ≤ 0 → ((0 ≤ (e_w32 ((e_w32 ((6 : Int) * (M 4456 35))) + x3)) ∧ (e_w32 ((e_w32 ((6 : Int) * (M 4456 35))) + x3)) < 912) ∧ (∀ M1 : e_M, M1 = e_up M 4472 ((e_w32 ((e_w32 ((6 : Int) * (M 4456 35))) + x3)).toNat) 1 → ((0 ≤ (e_w32 ((e_w32 ((6 : Int) * (M1 4456 35))) + x3)) ∧ (e_w32 ((e_w32 ((6 : Int) * (M1 4456 35))) + x3)) < 912) ∧ (∀ M2 : e_M, M2 = e_up M1 4473 ((e_w32 ((e_w32 ((6 : Int) * (M1 4456 35))) + x3)).toNat) x1 → (k227 x1 x3 M2)))))) ∧ (0 < (M 4473 ((e_w32 ((e_w32 ((6 : Int) * (M 4456 35))) + x3)).toNat)) → (k227 x1 x3 M))))))
def VX12_mustParts_227 (c_X12_isName : e_M → (Int → Prop) → Prop) (c_X12_mustName : Int → e_M → (Int → e_M → Prop) → Prop) (c_X12_mustShare : e_M → (Int → e_M → Prop) → Prop) (c_X12_isSign : Int → e_M → (Int → Prop) → Prop) (c_X12_good : Int → e_M → (Int → e_M → Prop) → Prop) (k172 : Int → Int → e_M → Prop) (Q : Int → e_M → Prop) (x1 : Int) (x3 : Int) (M : e_M) : Prop :=
  (k172 x1 (e_w32 (x3 + 1)) M)
def VX12_mustParts (c_X12_isName : e_M → (Int → Prop) → Prop) (c_X12_mustName : Int → e_M → (Int → e_M → Prop) → Prop) (c_X12_mustShare : e_M → (Int → e_M → Prop) → Prop) (c_X12_isSign : Int → e_M → (Int → Prop) → Prop) (c_X12_good : Int → e_M → (Int → e_M → Prop) → Prop) (k22 : Int → Int → e_M → Prop) (Q : Int → e_M → Prop) (M : e_M) : Prop :=
  ((0 ≤ (M 4456 35) ∧ (M 4456 35) < 152) ∧ ((0 ≤ (M 4456 35) ∧ (M 4456 35) < 152) ∧ (∀ M1 : e_M, M1 = e_up M 4471 ((M 4456 35).toNat) (M 4463 ((M 4456 35).toNat)) → (k22 0 1 M1))))
def yX12_mustParts (i : Nat) : e_Y := x_get YX12_mustParts [YX12_isName, YX12_mustName, YX12_mustShare, YX12_isSign, YX12_good] i
def pX12_mustPartsf : List x_I := [(0, 4, 1, 0, 0, 0, []), (1, 25, 12, 24, 4, 0, [(0, 20, 152), (0, 1, 15)]), (4, 4, 1, 0, 0, 0, []), (5, 25, 12, 35, 0, 0, []), (8, 4, 1, 0, 0, 0, []), (9, 25, 12, 16, 4, 0, [(0, 20, 152), (0, 1, 7)]), (12, 4, 1, 0, 0, 0, []), (13, 25, 12, 35, 0, 0, []), (16, 27, 0, 0, 0, 0, []), (17, 28, 0, 0, 0, 0, []), (18, 0, 1, 0, 0, 0, []), (19, 5, 1, 1, 0, 0, []), (20, 0, 1, 0, 0, 1, []), (21, 5, 1, 2, 0, 0, []), (22, 49, 0, 0, 0, 0, []), (22, 2, 1, 2, 0, 0, []), (23, 17, 160, 0, 99, 0, []), (26, 4, 1, 0, 0, 0, []), (27, 4, 1, 0, 0, 0, []), (28, 40, 0, 1, 14, 0, []), (31, 17, 44, 0, 27, 0, []), (34, 2, 1, 1, 0, 0, []), (35, 0, 2, 0, 0, 6, []), (37, 18, 44, 1, 27, 0, []), (40, 0, 1, 0, 0, 4, []), (41, 19, 45, 0, 29, 0, []), (44, 49, 0, 0, 0, 0, []), (44, 0, 1, 0, 0, 0, []), (45, 49, 0, 0, 0, 0, []), (45, 40, 1, 2, 14, 0, []), (48, 17, 53, 1, 34, 0, []), (51, 0, 1, 0, 0, 0, []), (52, 48, 0, 0, 0, 0, []), (53, 4, 1, 0, 0, 0, []), (54, 25, 12, 25, 4, 0, [(0, 20, 912), (0, 1, 16)]), (57, 0, 2, 0, 0, 6, []), (59, 4, 1, 0, 0, 0, []), (60, 25, 12, 35, 0, 0, []), (63, 9, 0, 2, 0, 0, []), (64, 2, 1, 1, 0, 0, []), (65, 9, 0, 0, 0, 0, []), (66, 0, 1, 0, 0, 0, []), (67, 28, 0, 0, 0, 0, []), (68, 4, 1, 0, 0, 0, []), (69, 25, 12, 26, 4, 0, [(0, 20, 912), (0, 1, 17)]), (72, 0, 2, 0, 0, 6, []), (74, 4, 1, 0, 0, 0, []), (75, 25, 12, 35, 0, 0, []), (78, 9, 0, 2, 0, 0, []), (79, 2, 1, 1, 0, 0, []), (80, 9, 0, 0, 0, 0, []), (81, 0, 1, 0, 0, 0, []), (82, 28, 0, 0, 0, 0, []), (83, 4, 1, 0, 0, 0, []), (84, 25, 12, 7, 0, 0, []), (87, 0, 1, 0, 0, 2, []), (88, 18, 136, 1, 85, 0, []), (91, 4, 1, 0, 0, 0, []), (92, 40, 2, 1, 14, 0, []), (95, 17, 100, 1, 63, 0, []), (98, 0, 1, 0, 0, 0, []), (99, 48, 0, 0, 0, 0, []), (100, 4, 1, 0, 0, 0, []), (101, 25, 12, 25, 4, 0, [(0, 20, 912), (0, 1, 16)]), (104, 0, 2, 0, 0, 6, []), (106, 4, 1, 0, 0, 0, []), (107, 25, 12, 35, 0, 0, []), (110, 9, 0, 2, 0, 0, []), (111, 2, 1, 1, 0, 0, []), (112, 9, 0, 0, 0, 0, []), (113, 4, 1, 0, 0, 0, []), (114, 25, 12, 36, 0, 0, []), (117, 28, 0, 0, 0, 0, []), (118, 4, 1, 0, 0, 0, []), (119, 25, 12, 26, 4, 0, [(0, 20, 912), (0, 1, 17)]), (122, 0, 2, 0, 0, 6, []), (124, 4, 1, 0, 0, 0, []), (125, 25, 12, 35, 0, 0, []), (128, 9, 0, 2, 0, 0, []), (129, 2, 1, 1, 0, 0, []), (130, 9, 0, 0, 0, 0, []), (131, 4, 1, 0, 0, 0, []), (132, 25, 12, 37, 0, 0, []), (135, 28, 0, 0, 0, 0, []), (136, 49, 0, 0, 0, 0, []), (136, 8, 0, 1, 0, 1, []), (139, 4, 1, 0, 0, 0, []), (140, 0, 2, 0, 0, 44, []), (142, 40, 3, 2, 14, 0, []), (145, 5, 1, 2, 0, 0, []), (146, 2, 1, 2, 0, 0, []), (147, 17, 22, 0, 15, 0, []), (150, 4, 1, 0, 0, 0, []), (151, 0, 1, 0, 0, 0, []), (152, 40, 4, 2, 14, 0, []), (155, 17, 22, 1, 15, 0, []), (158, 0, 1, 0, 0, 0, []), (159, 48, 0, 0, 0, 0, []), (160, 4, 1, 0, 0, 0, []), (161, 25, 12, 23, 4, 0, [(0, 20, 152), (0, 1, 14)]), (164, 4, 1, 0, 0, 0, []), (165, 25, 12, 35, 0, 0, []), (168, 2, 1, 1, 0, 0, []), (169, 28, 0, 0, 0, 0, []), (170, 0, 1, 0, 0, 0, []), (171, 5, 1, 3, 0, 0, []), (172, 49, 0, 0, 0, 0, []), (172, 2, 1, 3, 0, 0, []), (173, 2, 1, 1, 0, 0, []), (174, 18, 233, 3, 145, 0, []), (177, 4, 1, 0, 0, 0, []), (178, 25, 12, 26, 4, 0, [(0, 20, 912), (0, 1, 17)]), (181, 0, 2, 0, 0, 6, []), (183, 4, 1, 0, 0, 0, []), (184, 25, 12, 35, 0, 0, []), (187, 9, 0, 2, 0, 0, []), (188, 2, 1, 3, 0, 0, []), (189, 9, 0, 0, 0, 0, []), (190, 27, 0, 0, 0, 0, []), (191, 17, 197, 5, 122, 0, []), (194, 19, 227, 0, 142, 0, []), (197, 4, 1, 0, 0, 0, []), (198, 25, 12, 25, 4, 0, [(0, 20, 912), (0, 1, 16)]), (201, 0, 2, 0, 0, 6, []), (203, 4, 1, 0, 0, 0, []), (204, 25, 12, 35, 0, 0, []), (207, 9, 0, 2, 0, 0, []), (208, 2, 1, 3, 0, 0, []), (209, 9, 0, 0, 0, 0, []), (210, 0, 1, 0, 0, 1, []), (211, 28, 0, 0, 0, 0, []), (212, 4, 1, 0, 0, 0, []), (213, 25, 12, 26, 4, 0, [(0, 20, 912), (0, 1, 17)]), (216, 0, 2, 0, 0, 6, []), (218, 4, 1, 0, 0, 0, []), (219, 25, 12, 35, 0, 0, []), (222, 9, 0, 2, 0, 0, []), (223, 2, 1, 3, 0, 0, []), (224, 9, 0, 0, 0, 0, []), (225, 2, 1, 1, 0, 0, []), (226, 28, 0, 0, 0, 0, []), (227, 49, 0, 0, 0, 0, []), (227, 8, 0, 3, 0, 1, []), (230, 19, 172, 0, 107, 0, []), (233, 0, 1, 0, 0, 1, []), (234, 48, 0, 0, 0, 0, [])]
set_option maxRecDepth 20000 in
theorem qX12_mustPartsf : f_all yX12_mustParts YX12_mustParts pX12_mustPartsf :=
  ⟨f_aload_n (n := 0) (e_dx DX12_mustParts_0 0 rfl) rfl,
  f_getA (e_dx DX12_mustParts_0 1 rfl) fX12_54 rfl (by decide) (Nat.le_of_ble_eq_true rfl) rfl (by decide),
  f_aload_n (n := 0) (e_dx DX12_mustParts_0 2 rfl) rfl,
  f_getf (e_dx DX12_mustParts_0 3 rfl) fX12_363 rfl (by decide) (by decide) (by decide),
  f_aload_n (n := 0) (e_dx DX12_mustParts_0 4 rfl) rfl,
  f_getA (e_dx DX12_mustParts_0 5 rfl) fX12_30 rfl (by decide) (Nat.le_of_ble_eq_true rfl) rfl (by decide),
  f_aload_n (n := 0) (e_dx DX12_mustParts_0 6 rfl) rfl,
  f_getf (e_dx DX12_mustParts_0 7 rfl) fX12_363 rfl (by decide) (by decide) (by decide),
  f_iaload (e_dx DX12_mustParts_0 8 rfl),
  f_iastore (e_dx DX12_mustParts_0 9 rfl),
  f_iconst (e_dx DX12_mustParts_0 10 rfl) ⟨by decide, by decide⟩,
  f_istore_n (n := 1) (e_dx DX12_mustParts_0 11 rfl) rfl (by decide),
  f_iconst (e_dx DX12_mustParts_0 12 rfl) ⟨by decide, by decide⟩,
  f_istore_n (n := 2) (e_dx DX12_mustParts_0 13 rfl) rfl (by decide),
  trivial,
  f_iload_n (n := 2) (e_dx DX12_mustParts_0 14 rfl) rfl,
  f_if_eq (e_dx DX12_mustParts_0 15 rfl) rfl,
  f_aload_n (n := 0) (e_dx DX12_mustParts_0 16 rfl) rfl,
  f_aload_n (n := 0) (e_dx DX12_mustParts_0 17 rfl) rfl,
  x_callV (e_dx DX12_mustParts_0 18 rfl) mwX12_isName vwX12_isName cX12_359 rfl,
  f_if_eq (e_dx DX12_mustParts_0 19 rfl) rfl,
  f_iload_n (n := 1) (e_dx DX12_mustParts_0 20 rfl) rfl,
  f_bipush (e_dx DX12_mustParts_0 21 rfl) ⟨by decide, by decide⟩,
  f_icmp_ne (e_dx DX12_mustParts_0 22 rfl) rfl,
  f_iconst (e_dx DX12_mustParts_0 23 rfl) ⟨by decide, by decide⟩,
  f_g19 (e_dx DX12_mustParts_0 24 rfl) rfl,
  trivial,
  f_iconst (e_dx DX12_mustParts_0 25 rfl) ⟨by decide, by decide⟩,
  trivial,
  x_callV (e_dx DX12_mustParts_0 26 rfl) mwX12_mustName vwX12_mustName cX12_379 rfl,
  f_if_ne (e_dx DX12_mustParts_0 27 rfl) rfl,
  f_iconst (e_dx DX12_mustParts_0 28 rfl) ⟨by decide, by decide⟩,
  ⟨(e_dx DX12_mustParts_0 29 rfl), rfl⟩,
  f_aload_n (n := 0) (e_dx DX12_mustParts_0 30 rfl) rfl,
  f_getA (e_dx DX12_mustParts_0 31 rfl) fX12_57 rfl (by decide) (Nat.le_of_ble_eq_true rfl) rfl (by decide),
  f_bipush (e_dx DX12_mustParts_0 32 rfl) ⟨by decide, by decide⟩,
  f_aload_n (n := 0) (e_dx DX12_mustParts_0 33 rfl) rfl,
  f_getf (e_dx DX12_mustParts_0 34 rfl) fX12_363 rfl (by decide) (by decide) (by decide),
  f_imul (e_dx DX12_mustParts_0 35 rfl),
  f_iload_n (n := 1) (e_dx DX12_mustParts_0 36 rfl) rfl,
  f_iadd (e_dx DX12_mustParts_0 37 rfl),
  f_iconst (e_dx DX12_mustParts_0 38 rfl) ⟨by decide, by decide⟩,
  f_iastore (e_dx DX12_mustParts_0 39 rfl),
  f_aload_n (n := 0) (e_dx DX12_mustParts_1 0 rfl) rfl,
  f_getA (e_dx DX12_mustParts_1 1 rfl) fX12_60 rfl (by decide) (Nat.le_of_ble_eq_true rfl) rfl (by decide),
  f_bipush (e_dx DX12_mustParts_1 2 rfl) ⟨by decide, by decide⟩,
  f_aload_n (n := 0) (e_dx DX12_mustParts_1 3 rfl) rfl,
  f_getf (e_dx DX12_mustParts_1 4 rfl) fX12_363 rfl (by decide) (by decide) (by decide),
  f_imul (e_dx DX12_mustParts_1 5 rfl),
  f_iload_n (n := 1) (e_dx DX12_mustParts_1 6 rfl) rfl,
  f_iadd (e_dx DX12_mustParts_1 7 rfl),
  f_iconst (e_dx DX12_mustParts_1 8 rfl) ⟨by decide, by decide⟩,
  f_iastore (e_dx DX12_mustParts_1 9 rfl),
  f_aload_n (n := 0) (e_dx DX12_mustParts_1 10 rfl) rfl,
  f_getf (e_dx DX12_mustParts_1 11 rfl) fX12_309 rfl (by decide) (by decide) (by decide),
  f_iconst (e_dx DX12_mustParts_1 12 rfl) ⟨by decide, by decide⟩,
  f_icmp_ne (e_dx DX12_mustParts_1 13 rfl) rfl,
  f_aload_n (n := 0) (e_dx DX12_mustParts_1 14 rfl) rfl,
  x_callV (e_dx DX12_mustParts_1 15 rfl) mwX12_mustShare vwX12_mustShare cX12_382 rfl,
  f_if_ne (e_dx DX12_mustParts_1 16 rfl) rfl,
  f_iconst (e_dx DX12_mustParts_1 17 rfl) ⟨by decide, by decide⟩,
  ⟨(e_dx DX12_mustParts_1 18 rfl), rfl⟩,
  f_aload_n (n := 0) (e_dx DX12_mustParts_1 19 rfl) rfl,
  f_getA (e_dx DX12_mustParts_1 20 rfl) fX12_57 rfl (by decide) (Nat.le_of_ble_eq_true rfl) rfl (by decide),
  f_bipush (e_dx DX12_mustParts_1 21 rfl) ⟨by decide, by decide⟩,
  f_aload_n (n := 0) (e_dx DX12_mustParts_1 22 rfl) rfl,
  f_getf (e_dx DX12_mustParts_1 23 rfl) fX12_363 rfl (by decide) (by decide) (by decide),
  f_imul (e_dx DX12_mustParts_1 24 rfl),
  f_iload_n (n := 1) (e_dx DX12_mustParts_1 25 rfl) rfl,
  f_iadd (e_dx DX12_mustParts_1 26 rfl),
  f_aload_n (n := 0) (e_dx DX12_mustParts_1 27 rfl) rfl,
  f_getf (e_dx DX12_mustParts_1 28 rfl) fX12_366 rfl (by decide) (by decide) (by decide),
  f_iastore (e_dx DX12_mustParts_1 29 rfl),
  f_aload_n (n := 0) (e_dx DX12_mustParts_1 30 rfl) rfl,
  f_getA (e_dx DX12_mustParts_1 31 rfl) fX12_60 rfl (by decide) (Nat.le_of_ble_eq_true rfl) rfl (by decide),
  f_bipush (e_dx DX12_mustParts_1 32 rfl) ⟨by decide, by decide⟩,
  f_aload_n (n := 0) (e_dx DX12_mustParts_1 33 rfl) rfl,
  f_getf (e_dx DX12_mustParts_1 34 rfl) fX12_363 rfl (by decide) (by decide) (by decide),
  f_imul (e_dx DX12_mustParts_1 35 rfl),
  f_iload_n (n := 1) (e_dx DX12_mustParts_1 36 rfl) rfl,
  f_iadd (e_dx DX12_mustParts_1 37 rfl),
  f_aload_n (n := 0) (e_dx DX12_mustParts_1 38 rfl) rfl,
  f_getf (e_dx DX12_mustParts_1 39 rfl) fX12_372 rfl (by decide) (by decide) (by decide),
  f_iastore (e_dx DX12_mustParts_2 0 rfl),
  trivial,
  f_g8 (e_dx DX12_mustParts_2 1 rfl) ⟨by decide, by decide⟩,
  f_aload_n (n := 0) (e_dx DX12_mustParts_2 2 rfl) rfl,
  f_bipush (e_dx DX12_mustParts_2 3 rfl) ⟨by decide, by decide⟩,
  x_callV (e_dx DX12_mustParts_2 4 rfl) mwX12_isSign vwX12_isSign cX12_354 rfl,
  f_istore_n (n := 2) (e_dx DX12_mustParts_2 5 rfl) rfl (by decide),
  f_iload_n (n := 2) (e_dx DX12_mustParts_2 6 rfl) rfl,
  f_if_eq (e_dx DX12_mustParts_2 7 rfl) rfl,
  f_aload_n (n := 0) (e_dx DX12_mustParts_2 8 rfl) rfl,
  f_iconst (e_dx DX12_mustParts_2 9 rfl) ⟨by decide, by decide⟩,
  x_callV (e_dx DX12_mustParts_2 10 rfl) mwX12_good vwX12_good cX12_351 rfl,
  f_if_ne (e_dx DX12_mustParts_2 11 rfl) rfl,
  f_iconst (e_dx DX12_mustParts_2 12 rfl) ⟨by decide, by decide⟩,
  ⟨(e_dx DX12_mustParts_2 13 rfl), rfl⟩,
  f_aload_n (n := 0) (e_dx DX12_mustParts_2 14 rfl) rfl,
  f_getA (e_dx DX12_mustParts_2 15 rfl) fX12_51 rfl (by decide) (Nat.le_of_ble_eq_true rfl) rfl (by decide),
  f_aload_n (n := 0) (e_dx DX12_mustParts_2 16 rfl) rfl,
  f_getf (e_dx DX12_mustParts_2 17 rfl) fX12_363 rfl (by decide) (by decide) (by decide),
  f_iload_n (n := 1) (e_dx DX12_mustParts_2 18 rfl) rfl,
  f_iastore (e_dx DX12_mustParts_2 19 rfl),
  f_iconst (e_dx DX12_mustParts_2 20 rfl) ⟨by decide, by decide⟩,
  f_istore_n (n := 3) (e_dx DX12_mustParts_2 21 rfl) rfl (by decide),
  trivial,
  f_iload_n (n := 3) (e_dx DX12_mustParts_2 22 rfl) rfl,
  f_iload_n (n := 1) (e_dx DX12_mustParts_2 23 rfl) rfl,
  f_icmp_ge (e_dx DX12_mustParts_2 24 rfl) rfl,
  f_aload_n (n := 0) (e_dx DX12_mustParts_2 25 rfl) rfl,
  f_getA (e_dx DX12_mustParts_2 26 rfl) fX12_60 rfl (by decide) (Nat.le_of_ble_eq_true rfl) rfl (by decide),
  f_bipush (e_dx DX12_mustParts_2 27 rfl) ⟨by decide, by decide⟩,
  f_aload_n (n := 0) (e_dx DX12_mustParts_2 28 rfl) rfl,
  f_getf (e_dx DX12_mustParts_2 29 rfl) fX12_363 rfl (by decide) (by decide) (by decide),
  f_imul (e_dx DX12_mustParts_2 30 rfl),
  f_iload_n (n := 3) (e_dx DX12_mustParts_2 31 rfl) rfl,
  f_iadd (e_dx DX12_mustParts_2 32 rfl),
  f_iaload (e_dx DX12_mustParts_2 33 rfl),
  f_if_le (e_dx DX12_mustParts_2 34 rfl) rfl,
  f_g19 (e_dx DX12_mustParts_2 35 rfl) rfl,
  f_aload_n (n := 0) (e_dx DX12_mustParts_2 36 rfl) rfl,
  f_getA (e_dx DX12_mustParts_2 37 rfl) fX12_57 rfl (by decide) (Nat.le_of_ble_eq_true rfl) rfl (by decide),
  f_bipush (e_dx DX12_mustParts_2 38 rfl) ⟨by decide, by decide⟩,
  f_aload_n (n := 0) (e_dx DX12_mustParts_2 39 rfl) rfl,
  f_getf (e_dx DX12_mustParts_3 0 rfl) fX12_363 rfl (by decide) (by decide) (by decide),
  f_imul (e_dx DX12_mustParts_3 1 rfl),
  f_iload_n (n := 3) (e_dx DX12_mustParts_3 2 rfl) rfl,
  f_iadd (e_dx DX12_mustParts_3 3 rfl),
  f_iconst (e_dx DX12_mustParts_3 4 rfl) ⟨by decide, by decide⟩,
  f_iastore (e_dx DX12_mustParts_3 5 rfl),
  f_aload_n (n := 0) (e_dx DX12_mustParts_3 6 rfl) rfl,
  f_getA (e_dx DX12_mustParts_3 7 rfl) fX12_60 rfl (by decide) (Nat.le_of_ble_eq_true rfl) rfl (by decide),
  f_bipush (e_dx DX12_mustParts_3 8 rfl) ⟨by decide, by decide⟩,
  f_aload_n (n := 0) (e_dx DX12_mustParts_3 9 rfl) rfl,
  f_getf (e_dx DX12_mustParts_3 10 rfl) fX12_363 rfl (by decide) (by decide) (by decide),
  f_imul (e_dx DX12_mustParts_3 11 rfl),
  f_iload_n (n := 3) (e_dx DX12_mustParts_3 12 rfl) rfl,
  f_iadd (e_dx DX12_mustParts_3 13 rfl),
  f_iload_n (n := 1) (e_dx DX12_mustParts_3 14 rfl) rfl,
  f_iastore (e_dx DX12_mustParts_3 15 rfl),
  trivial,
  f_g8 (e_dx DX12_mustParts_3 16 rfl) ⟨by decide, by decide⟩,
  f_g19 (e_dx DX12_mustParts_3 17 rfl) rfl,
  f_iconst (e_dx DX12_mustParts_3 18 rfl) ⟨by decide, by decide⟩,
  ⟨(e_dx DX12_mustParts_3 19 rfl), rfl⟩, trivial⟩
def lX12_mustParts (c_X12_isName : e_M → (Int → Prop) → Prop) (c_X12_mustName : Int → e_M → (Int → e_M → Prop) → Prop) (c_X12_mustShare : e_M → (Int → e_M → Prop) → Prop) (c_X12_isSign : Int → e_M → (Int → Prop) → Prop) (c_X12_good : Int → e_M → (Int → e_M → Prop) → Prop) : List (Nat × f_Wt) := [(0, f_wm [(4466, 12, 123)] (fun ar M R => c_X12_isName  M (fun r => R (some (.inl r)) M))), (1, f_wm [(4466, 12, 123), (1, 0, 0)] (fun ar M R => c_X12_mustName (f_vi (f_nth ar 1)) M (fun r M => R (some (.inl r)) M))), (2, f_wm [(4466, 12, 123)] (fun ar M R => c_X12_mustShare  M (fun r M => R (some (.inl r)) M))), (3, f_wm [(4466, 12, 123), (1, 0, 0)] (fun ar M R => c_X12_isSign (f_vi (f_nth ar 1)) M (fun r => R (some (.inl r)) M))), (4, f_wm [(4466, 12, 123), (1, 0, 0)] (fun ar M R => c_X12_good (f_vi (f_nth ar 1)) M (fun r M => R (some (.inl r)) M)))]
set_option maxRecDepth 20000 in
theorem BX12_mustParts_22 {sh : Nat → Nat × Nat} {t : Nat} {rm : Nat × Nat × Nat} {cs : Nat × Nat} {R : f_Rt} {c_X12_isName : e_M → (Int → Prop) → Prop} {c_X12_mustName : Int → e_M → (Int → e_M → Prop) → Prop} {c_X12_mustShare : e_M → (Int → e_M → Prop) → Prop} {c_X12_isSign : Int → e_M → (Int → Prop) → Prop} {c_X12_good : Int → e_M → (Int → e_M → Prop) → Prop} {k172 : Int → Int → e_M → Prop} {k44 : Int → e_M → Prop} {k45 : Int → Int → e_M → Prop} {x1 : Int} {x2 : Int} {M : e_M} (C : f_Hy sh t yX12_mustParts rm cs 11 (lX12_mustParts c_X12_isName c_X12_mustName c_X12_mustShare c_X12_isSign c_X12_good) R) (h172 : ∀ (x1 : Int) (x3 : Int) (M : e_M), k172 x1 x3 M → f_E sh t YX12_mustParts rm cs (f_Q sh t R) 172 [.inr (.inr (.inl (12, 123, 4456))), .inl x1, .inr (.inr (.inr ())), .inl x3] [] M) (h44 : ∀ (x1 : Int) (M : e_M), k44 x1 M → f_E sh t YX12_mustParts rm cs (f_Q sh t R) 44 [.inr (.inr (.inl (12, 123, 4456))), .inl x1, .inr (.inr (.inr ())), .inr (.inr (.inr ()))] [.inr (.inr (.inl (12, 123, 4456)))] M) (h45 : ∀ (x1 : Int) (xs1 : Int) (M : e_M), k45 x1 xs1 M → f_E sh t YX12_mustParts rm cs (f_Q sh t R) 45 [.inr (.inr (.inl (12, 123, 4456))), .inl x1, .inr (.inr (.inr ())), .inr (.inr (.inr ()))] [.inl xs1, .inr (.inr (.inl (12, 123, 4456)))] M) (h : VX12_mustParts_22 c_X12_isName c_X12_mustName c_X12_mustShare c_X12_isSign c_X12_good k172 k44 k45 (fun r M => R (some (.inl r)) M) x1 x2 M) : f_E sh t YX12_mustParts rm cs (f_Q sh t R) 22 [.inr (.inr (.inl (12, 123, 4456))), .inl x1, .inl x2, .inr (.inr (.inr ()))] [] M :=
  f_go (KC := f_kc [(172, f_pl [(4466, 12, 123), (1, 0, 0), (0, 0, 0), (1, 0, 0)] [] (fun ls st M => k172 (f_vi (f_nth ls 1)) (f_vi (f_nth ls 3)) M)), (44, f_pl [(4466, 12, 123), (1, 0, 0), (0, 0, 0), (0, 0, 0)] [(4466, 12, 123)] (fun ls st M => k44 (f_vi (f_nth ls 1)) M)), (45, f_pl [(4466, 12, 123), (1, 0, 0), (0, 0, 0), (0, 0, 0)] [(1, 0, 0), (4466, 12, 123)] (fun ls st M => k45 (f_vi (f_nth ls 1)) (f_vi (f_nth st 0)) M))]) C qX12_mustPartsf (f_kc_cons (f_pl_ok rfl (fun ls st M h => h172 _ _ M h)) (f_kc_cons (f_pl_ok rfl (fun ls st M h => h44 _ M h)) (f_kc_cons (f_pl_ok rfl (fun ls st M h => h45 _ _ M h)) f_kc_nil))) 148 15 h
set_option maxRecDepth 20000 in
theorem BX12_mustParts_44 {sh : Nat → Nat × Nat} {t : Nat} {rm : Nat × Nat × Nat} {cs : Nat × Nat} {R : f_Rt} {c_X12_isName : e_M → (Int → Prop) → Prop} {c_X12_mustName : Int → e_M → (Int → e_M → Prop) → Prop} {c_X12_mustShare : e_M → (Int → e_M → Prop) → Prop} {c_X12_isSign : Int → e_M → (Int → Prop) → Prop} {c_X12_good : Int → e_M → (Int → e_M → Prop) → Prop} {k45 : Int → Int → e_M → Prop} {x1 : Int} {M : e_M} (C : f_Hy sh t yX12_mustParts rm cs 11 (lX12_mustParts c_X12_isName c_X12_mustName c_X12_mustShare c_X12_isSign c_X12_good) R) (h45 : ∀ (x1 : Int) (xs1 : Int) (M : e_M), k45 x1 xs1 M → f_E sh t YX12_mustParts rm cs (f_Q sh t R) 45 [.inr (.inr (.inl (12, 123, 4456))), .inl x1, .inr (.inr (.inr ())), .inr (.inr (.inr ()))] [.inl xs1, .inr (.inr (.inl (12, 123, 4456)))] M) (h : VX12_mustParts_44 c_X12_isName c_X12_mustName c_X12_mustShare c_X12_isSign c_X12_good k45 (fun r M => R (some (.inl r)) M) x1 M) : f_E sh t YX12_mustParts rm cs (f_Q sh t R) 44 [.inr (.inr (.inl (12, 123, 4456))), .inl x1, .inr (.inr (.inr ())), .inr (.inr (.inr ()))] [.inr (.inr (.inl (12, 123, 4456)))] M :=
  f_go (KC := f_kc [(45, f_pl [(4466, 12, 123), (1, 0, 0), (0, 0, 0), (0, 0, 0)] [(1, 0, 0), (4466, 12, 123)] (fun ls st M => k45 (f_vi (f_nth ls 1)) (f_vi (f_nth st 0)) M))]) C qX12_mustPartsf (f_kc_cons (f_pl_ok rfl (fun ls st M h => h45 _ _ M h)) f_kc_nil) 148 27 h
set_option maxRecDepth 20000 in
theorem BX12_mustParts_45 {sh : Nat → Nat × Nat} {t : Nat} {rm : Nat × Nat × Nat} {cs : Nat × Nat} {R : f_Rt} {c_X12_isName : e_M → (Int → Prop) → Prop} {c_X12_mustName : Int → e_M → (Int → e_M → Prop) → Prop} {c_X12_mustShare : e_M → (Int → e_M → Prop) → Prop} {c_X12_isSign : Int → e_M → (Int → Prop) → Prop} {c_X12_good : Int → e_M → (Int → e_M → Prop) → Prop} {k136 : Int → e_M → Prop} {x1 : Int} {xs1 : Int} {M : e_M} (C : f_Hy sh t yX12_mustParts rm cs 11 (lX12_mustParts c_X12_isName c_X12_mustName c_X12_mustShare c_X12_isSign c_X12_good) R) (h136 : ∀ (x1 : Int) (M : e_M), k136 x1 M → f_E sh t YX12_mustParts rm cs (f_Q sh t R) 136 [.inr (.inr (.inl (12, 123, 4456))), .inl x1, .inr (.inr (.inr ())), .inr (.inr (.inr ()))] [] M) (h : VX12_mustParts_45 c_X12_isName c_X12_mustName c_X12_mustShare c_X12_isSign c_X12_good k136 (fun r M => R (some (.inl r)) M) x1 xs1 M) : f_E sh t YX12_mustParts rm cs (f_Q sh t R) 45 [.inr (.inr (.inl (12, 123, 4456))), .inl x1, .inr (.inr (.inr ())), .inr (.inr (.inr ()))] [.inl xs1, .inr (.inr (.inl (12, 123, 4456)))] M :=
  f_go (KC := f_kc [(136, f_pl [(4466, 12, 123), (1, 0, 0), (0, 0, 0), (0, 0, 0)] [] (fun ls st M => k136 (f_vi (f_nth ls 1)) M))]) C qX12_mustPartsf (f_kc_cons (f_pl_ok rfl (fun ls st M h => h136 _ M h)) f_kc_nil) 148 29 h
set_option maxRecDepth 20000 in
theorem BX12_mustParts_136 {sh : Nat → Nat × Nat} {t : Nat} {rm : Nat × Nat × Nat} {cs : Nat × Nat} {R : f_Rt} {c_X12_isName : e_M → (Int → Prop) → Prop} {c_X12_mustName : Int → e_M → (Int → e_M → Prop) → Prop} {c_X12_mustShare : e_M → (Int → e_M → Prop) → Prop} {c_X12_isSign : Int → e_M → (Int → Prop) → Prop} {c_X12_good : Int → e_M → (Int → e_M → Prop) → Prop} {k22 : Int → Int → e_M → Prop} {x1 : Int} {M : e_M} (C : f_Hy sh t yX12_mustParts rm cs 11 (lX12_mustParts c_X12_isName c_X12_mustName c_X12_mustShare c_X12_isSign c_X12_good) R) (h22 : ∀ (x1 : Int) (x2 : Int) (M : e_M), k22 x1 x2 M → f_E sh t YX12_mustParts rm cs (f_Q sh t R) 22 [.inr (.inr (.inl (12, 123, 4456))), .inl x1, .inl x2, .inr (.inr (.inr ()))] [] M) (h : VX12_mustParts_136 c_X12_isName c_X12_mustName c_X12_mustShare c_X12_isSign c_X12_good k22 (fun r M => R (some (.inl r)) M) x1 M) : f_E sh t YX12_mustParts rm cs (f_Q sh t R) 136 [.inr (.inr (.inl (12, 123, 4456))), .inl x1, .inr (.inr (.inr ())), .inr (.inr (.inr ()))] [] M :=
  f_go (KC := f_kc [(22, f_pl [(4466, 12, 123), (1, 0, 0), (1, 0, 0), (0, 0, 0)] [] (fun ls st M => k22 (f_vi (f_nth ls 1)) (f_vi (f_nth ls 2)) M))]) C qX12_mustPartsf (f_kc_cons (f_pl_ok rfl (fun ls st M h => h22 _ _ M h)) f_kc_nil) 148 85 h
set_option maxRecDepth 20000 in
theorem BX12_mustParts_172 {sh : Nat → Nat × Nat} {t : Nat} {rm : Nat × Nat × Nat} {cs : Nat × Nat} {R : f_Rt} {c_X12_isName : e_M → (Int → Prop) → Prop} {c_X12_mustName : Int → e_M → (Int → e_M → Prop) → Prop} {c_X12_mustShare : e_M → (Int → e_M → Prop) → Prop} {c_X12_isSign : Int → e_M → (Int → Prop) → Prop} {c_X12_good : Int → e_M → (Int → e_M → Prop) → Prop} {k227 : Int → Int → e_M → Prop} {x1 : Int} {x3 : Int} {M : e_M} (C : f_Hy sh t yX12_mustParts rm cs 11 (lX12_mustParts c_X12_isName c_X12_mustName c_X12_mustShare c_X12_isSign c_X12_good) R) (h227 : ∀ (x1 : Int) (x3 : Int) (M : e_M), k227 x1 x3 M → f_E sh t YX12_mustParts rm cs (f_Q sh t R) 227 [.inr (.inr (.inl (12, 123, 4456))), .inl x1, .inr (.inr (.inr ())), .inl x3] [] M) (h : VX12_mustParts_172 c_X12_isName c_X12_mustName c_X12_mustShare c_X12_isSign c_X12_good k227 (fun r M => R (some (.inl r)) M) x1 x3 M) : f_E sh t YX12_mustParts rm cs (f_Q sh t R) 172 [.inr (.inr (.inl (12, 123, 4456))), .inl x1, .inr (.inr (.inr ())), .inl x3] [] M :=
  f_go (KC := f_kc [(227, f_pl [(4466, 12, 123), (1, 0, 0), (0, 0, 0), (1, 0, 0)] [] (fun ls st M => k227 (f_vi (f_nth ls 1)) (f_vi (f_nth ls 3)) M))]) C qX12_mustPartsf (f_kc_cons (f_pl_ok rfl (fun ls st M h => h227 _ _ M h)) f_kc_nil) 148 107 h
set_option maxRecDepth 20000 in
theorem BX12_mustParts_227 {sh : Nat → Nat × Nat} {t : Nat} {rm : Nat × Nat × Nat} {cs : Nat × Nat} {R : f_Rt} {c_X12_isName : e_M → (Int → Prop) → Prop} {c_X12_mustName : Int → e_M → (Int → e_M → Prop) → Prop} {c_X12_mustShare : e_M → (Int → e_M → Prop) → Prop} {c_X12_isSign : Int → e_M → (Int → Prop) → Prop} {c_X12_good : Int → e_M → (Int → e_M → Prop) → Prop} {k172 : Int → Int → e_M → Prop} {x1 : Int} {x3 : Int} {M : e_M} (C : f_Hy sh t yX12_mustParts rm cs 11 (lX12_mustParts c_X12_isName c_X12_mustName c_X12_mustShare c_X12_isSign c_X12_good) R) (h172 : ∀ (x1 : Int) (x3 : Int) (M : e_M), k172 x1 x3 M → f_E sh t YX12_mustParts rm cs (f_Q sh t R) 172 [.inr (.inr (.inl (12, 123, 4456))), .inl x1, .inr (.inr (.inr ())), .inl x3] [] M) (h : VX12_mustParts_227 c_X12_isName c_X12_mustName c_X12_mustShare c_X12_isSign c_X12_good k172 (fun r M => R (some (.inl r)) M) x1 x3 M) : f_E sh t YX12_mustParts rm cs (f_Q sh t R) 227 [.inr (.inr (.inl (12, 123, 4456))), .inl x1, .inr (.inr (.inr ())), .inl x3] [] M :=
  f_go (KC := f_kc [(172, f_pl [(4466, 12, 123), (1, 0, 0), (0, 0, 0), (1, 0, 0)] [] (fun ls st M => k172 (f_vi (f_nth ls 1)) (f_vi (f_nth ls 3)) M))]) C qX12_mustPartsf (f_kc_cons (f_pl_ok rfl (fun ls st M h => h172 _ _ M h)) f_kc_nil) 148 142 h
set_option maxRecDepth 20000 in
theorem BX12_mustParts {sh : Nat → Nat × Nat} {t : Nat} {rm : Nat × Nat × Nat} {cs : Nat × Nat} {R : f_Rt} {c_X12_isName : e_M → (Int → Prop) → Prop} {c_X12_mustName : Int → e_M → (Int → e_M → Prop) → Prop} {c_X12_mustShare : e_M → (Int → e_M → Prop) → Prop} {c_X12_isSign : Int → e_M → (Int → Prop) → Prop} {c_X12_good : Int → e_M → (Int → e_M → Prop) → Prop} {k22 : Int → Int → e_M → Prop} {M : e_M} (C : f_Hy sh t yX12_mustParts rm cs 11 (lX12_mustParts c_X12_isName c_X12_mustName c_X12_mustShare c_X12_isSign c_X12_good) R) (h22 : ∀ (x1 : Int) (x2 : Int) (M : e_M), k22 x1 x2 M → f_E sh t YX12_mustParts rm cs (f_Q sh t R) 22 [.inr (.inr (.inl (12, 123, 4456))), .inl x1, .inl x2, .inr (.inr (.inr ()))] [] M) (h : VX12_mustParts c_X12_isName c_X12_mustName c_X12_mustShare c_X12_isSign c_X12_good k22 (fun r M => R (some (.inl r)) M) M) : f_E sh t YX12_mustParts rm cs (f_Q sh t R) 0 [.inr (.inr (.inl (12, 123, 4456))), .inr (.inr (.inr ())), .inr (.inr (.inr ())), .inr (.inr (.inr ()))] [] M :=
  f_go (KC := f_kc [(22, f_pl [(4466, 12, 123), (1, 0, 0), (1, 0, 0), (0, 0, 0)] [] (fun ls st M => k22 (f_vi (f_nth ls 1)) (f_vi (f_nth ls 2)) M))]) C qX12_mustPartsf (f_kc_cons (f_pl_ok rfl (fun ls st M h => h22 _ _ M h)) f_kc_nil) 148 0 h
def WX12_mustParts_227 (H172 : Int → Int → e_M → Prop) (Q : Int → e_M → Prop) (x1 : Int) (x3 : Int) (M : e_M) : Prop :=
  VX12_mustParts_227 WX12_isName WX12_mustName WX12_mustShare WX12_isSign WX12_good H172 Q x1 x3 M
def WX12_mustParts_172 (Q : Int → e_M → Prop) : Nat → Int → Int → e_M → Prop
  | 0, _, _, _ => False
  | n + 1, x1, x3, M =>
    VX12_mustParts_172 WX12_isName WX12_mustName WX12_mustShare WX12_isSign WX12_good (WX12_mustParts_227 (WX12_mustParts_172 Q n) Q) Q x1 x3 M
def WX12_mustParts_136 (H22 : Int → Int → e_M → Prop) (Q : Int → e_M → Prop) (x1 : Int) (M : e_M) : Prop :=
  VX12_mustParts_136 WX12_isName WX12_mustName WX12_mustShare WX12_isSign WX12_good H22 Q x1 M
def WX12_mustParts_45 (H22 : Int → Int → e_M → Prop) (Q : Int → e_M → Prop) (x1 : Int) (xs1 : Int) (M : e_M) : Prop :=
  VX12_mustParts_45 WX12_isName WX12_mustName WX12_mustShare WX12_isSign WX12_good (WX12_mustParts_136 H22 Q) Q x1 xs1 M
def WX12_mustParts_44 (H22 : Int → Int → e_M → Prop) (Q : Int → e_M → Prop) (x1 : Int) (M : e_M) : Prop :=
  VX12_mustParts_44 WX12_isName WX12_mustName WX12_mustShare WX12_isSign WX12_good (WX12_mustParts_45 H22 Q) Q x1 M
def WX12_mustParts_22 (Q : Int → e_M → Prop) : Nat → Int → Int → e_M → Prop
  | 0, _, _, _ => False
  | n + 1, x1, x2, M =>
    VX12_mustParts_22 WX12_isName WX12_mustName WX12_mustShare WX12_isSign WX12_good (fun x1 x3 M => ∃ j, WX12_mustParts_172 Q j x1 x3 M) (WX12_mustParts_44 (WX12_mustParts_22 Q n) Q) (WX12_mustParts_45 (WX12_mustParts_22 Q n) Q) Q x1 x2 M
def WX12_mustParts (M : e_M) (Q : Int → e_M → Prop) : Prop :=
  VX12_mustParts WX12_isName WX12_mustName WX12_mustShare WX12_isSign WX12_good (fun x1 x2 M => ∃ j, WX12_mustParts_22 Q j x1 x2 M) Q M
theorem PX12_mustParts_227 {sh : Nat → Nat × Nat} {t : Nat} {rm : Nat × Nat × Nat} {cs : Nat × Nat} {R : f_Rt} {H172 : Int → Int → e_M → Prop} {x1 : Int} {x3 : Int} {M : e_M} (C : f_Hy sh t yX12_mustParts rm cs 11 (lX12_mustParts WX12_isName WX12_mustName WX12_mustShare WX12_isSign WX12_good) R) (g172 : ∀ (x1 : Int) (x3 : Int) (M : e_M), H172 x1 x3 M → f_E sh t YX12_mustParts rm cs (f_Q sh t R) 172 [.inr (.inr (.inl (12, 123, 4456))), .inl x1, .inr (.inr (.inr ())), .inl x3] [] M) (h : WX12_mustParts_227 H172 (fun r M => R (some (.inl r)) M) x1 x3 M) : f_E sh t YX12_mustParts rm cs (f_Q sh t R) 227 [.inr (.inr (.inl (12, 123, 4456))), .inl x1, .inr (.inr (.inr ())), .inl x3] [] M :=
  BX12_mustParts_227 C g172 h
theorem PX12_mustParts_172 {sh : Nat → Nat × Nat} {t : Nat} {rm : Nat × Nat × Nat} {cs : Nat × Nat} {R : f_Rt} (C : f_Hy sh t yX12_mustParts rm cs 11 (lX12_mustParts WX12_isName WX12_mustName WX12_mustShare WX12_isSign WX12_good) R) : ∀ (n : Nat) (x1 : Int) (x3 : Int) (M : e_M), WX12_mustParts_172 (fun r M => R (some (.inl r)) M) n x1 x3 M → f_E sh t YX12_mustParts rm cs (f_Q sh t R) 172 [.inr (.inr (.inl (12, 123, 4456))), .inl x1, .inr (.inr (.inr ())), .inl x3] [] M := by
  intro n
  induction n with
  | zero => intro x1 x3 M h; exact h.elim
  | succ n ih => intro x1 x3 M h; exact BX12_mustParts_172 C (fun x1 x3 M h => PX12_mustParts_227 C ih h) h
theorem PX12_mustParts_136 {sh : Nat → Nat × Nat} {t : Nat} {rm : Nat × Nat × Nat} {cs : Nat × Nat} {R : f_Rt} {H22 : Int → Int → e_M → Prop} {x1 : Int} {M : e_M} (C : f_Hy sh t yX12_mustParts rm cs 11 (lX12_mustParts WX12_isName WX12_mustName WX12_mustShare WX12_isSign WX12_good) R) (g22 : ∀ (x1 : Int) (x2 : Int) (M : e_M), H22 x1 x2 M → f_E sh t YX12_mustParts rm cs (f_Q sh t R) 22 [.inr (.inr (.inl (12, 123, 4456))), .inl x1, .inl x2, .inr (.inr (.inr ()))] [] M) (h : WX12_mustParts_136 H22 (fun r M => R (some (.inl r)) M) x1 M) : f_E sh t YX12_mustParts rm cs (f_Q sh t R) 136 [.inr (.inr (.inl (12, 123, 4456))), .inl x1, .inr (.inr (.inr ())), .inr (.inr (.inr ()))] [] M :=
  BX12_mustParts_136 C g22 h
theorem PX12_mustParts_45 {sh : Nat → Nat × Nat} {t : Nat} {rm : Nat × Nat × Nat} {cs : Nat × Nat} {R : f_Rt} {H22 : Int → Int → e_M → Prop} {x1 : Int} {xs1 : Int} {M : e_M} (C : f_Hy sh t yX12_mustParts rm cs 11 (lX12_mustParts WX12_isName WX12_mustName WX12_mustShare WX12_isSign WX12_good) R) (g22 : ∀ (x1 : Int) (x2 : Int) (M : e_M), H22 x1 x2 M → f_E sh t YX12_mustParts rm cs (f_Q sh t R) 22 [.inr (.inr (.inl (12, 123, 4456))), .inl x1, .inl x2, .inr (.inr (.inr ()))] [] M) (h : WX12_mustParts_45 H22 (fun r M => R (some (.inl r)) M) x1 xs1 M) : f_E sh t YX12_mustParts rm cs (f_Q sh t R) 45 [.inr (.inr (.inl (12, 123, 4456))), .inl x1, .inr (.inr (.inr ())), .inr (.inr (.inr ()))] [.inl xs1, .inr (.inr (.inl (12, 123, 4456)))] M :=
  BX12_mustParts_45 C (fun x1 M h => PX12_mustParts_136 C g22 h) h
theorem PX12_mustParts_44 {sh : Nat → Nat × Nat} {t : Nat} {rm : Nat × Nat × Nat} {cs : Nat × Nat} {R : f_Rt} {H22 : Int → Int → e_M → Prop} {x1 : Int} {M : e_M} (C : f_Hy sh t yX12_mustParts rm cs 11 (lX12_mustParts WX12_isName WX12_mustName WX12_mustShare WX12_isSign WX12_good) R) (g22 : ∀ (x1 : Int) (x2 : Int) (M : e_M), H22 x1 x2 M → f_E sh t YX12_mustParts rm cs (f_Q sh t R) 22 [.inr (.inr (.inl (12, 123, 4456))), .inl x1, .inl x2, .inr (.inr (.inr ()))] [] M) (h : WX12_mustParts_44 H22 (fun r M => R (some (.inl r)) M) x1 M) : f_E sh t YX12_mustParts rm cs (f_Q sh t R) 44 [.inr (.inr (.inl (12, 123, 4456))), .inl x1, .inr (.inr (.inr ())), .inr (.inr (.inr ()))] [.inr (.inr (.inl (12, 123, 4456)))] M :=
  BX12_mustParts_44 C (fun x1 xs1 M h => PX12_mustParts_45 C g22 h) h
theorem PX12_mustParts_22 {sh : Nat → Nat × Nat} {t : Nat} {rm : Nat × Nat × Nat} {cs : Nat × Nat} {R : f_Rt} (C : f_Hy sh t yX12_mustParts rm cs 11 (lX12_mustParts WX12_isName WX12_mustName WX12_mustShare WX12_isSign WX12_good) R) : ∀ (n : Nat) (x1 : Int) (x2 : Int) (M : e_M), WX12_mustParts_22 (fun r M => R (some (.inl r)) M) n x1 x2 M → f_E sh t YX12_mustParts rm cs (f_Q sh t R) 22 [.inr (.inr (.inl (12, 123, 4456))), .inl x1, .inl x2, .inr (.inr (.inr ()))] [] M := by
  intro n
  induction n with
  | zero => intro x1 x2 M h; exact h.elim
  | succ n ih => intro x1 x2 M h; exact BX12_mustParts_22 C (fun x1 x3 M ⟨j, h⟩ => PX12_mustParts_172 C j _ _ _ h) (fun x1 M h => PX12_mustParts_44 C ih h) (fun x1 xs1 M h => PX12_mustParts_45 C ih h) h
theorem PX12_mustParts {sh : Nat → Nat × Nat} {t : Nat} {rm : Nat × Nat × Nat} {cs : Nat × Nat} {R : f_Rt} {M : e_M} (C : f_Hy sh t yX12_mustParts rm cs 11 (lX12_mustParts WX12_isName WX12_mustName WX12_mustShare WX12_isSign WX12_good) R) (h : WX12_mustParts M (fun r M => R (some (.inl r)) M)) : f_E sh t YX12_mustParts rm cs (f_Q sh t R) 0 [.inr (.inr (.inl (12, 123, 4456))), .inr (.inr (.inr ())), .inr (.inr (.inr ())), .inr (.inr (.inr ()))] [] M :=
  BX12_mustParts C (fun x1 x2 M ⟨j, h⟩ => PX12_mustParts_22 C j _ _ _ h) h
def wX12_mustParts : f_Wt := f_wm [(4466, 12, 123)] (fun ar M R => WX12_mustParts M (fun r M => R (some (.inl r)) M))
theorem TX12_mustParts {sh : Nat → Nat × Nat} {t : Nat} : f_Mt sh t YX12_mustParts 11 (wX12_mustParts) :=
  f_Mt_of (k := 3) (Nat.le_of_ble_eq_true rfl) rfl rfl (fun ar M R rm cs h1 h2 h3 hX h => PX12_mustParts ⟨Nat.le_of_ble_eq_true rfl, h1, h2, h3, ⟨(f_Mt.up (Nat.le_of_ble_eq_true rfl) TX12_isName), (f_Mt.up (Nat.le_of_ble_eq_true rfl) TX12_mustName), (f_Mt.up (Nat.le_of_ble_eq_true rfl) TX12_mustShare), (f_Mt.up (Nat.le_of_ble_eq_true rfl) TX12_isSign), (f_Mt.up (Nat.le_of_ble_eq_true rfl) TX12_good), trivial⟩, hX⟩ h)
def VX12_mustNames_4 (c_X12_isName : e_M → (Int → Prop) → Prop) (c_X12_mustName : Int → e_M → (Int → e_M → Prop) → Prop) (c_X12_isSign : Int → e_M → (Int → Prop) → Prop) (c_X12_good : Int → e_M → (Int → e_M → Prop) → Prop) (k26 : Int → e_M → Prop) (k27 : Int → Int → e_M → Prop) (Q : Int → e_M → Prop) (x1 : Int) (x2 : Int) (M : e_M) : Prop :=
  ((x2 = 0 → (Q 1 M)) ∧ (¬ x2 = 0 → (c_X12_isName M (fun r1 => ((r1 = 0 → (k26 x1 M)) ∧ (¬ r1 = 0 → ((¬ x1 = 6 → (k26 x1 M)) ∧ (x1 = 6 → (k27 x1 4 M)))))))))
def VX12_mustNames_26 (c_X12_isName : e_M → (Int → Prop) → Prop) (c_X12_mustName : Int → e_M → (Int → e_M → Prop) → Prop) (c_X12_isSign : Int → e_M → (Int → Prop) → Prop) (c_X12_good : Int → e_M → (Int → e_M → Prop) → Prop) (k27 : Int → Int → e_M → Prop) (Q : Int → e_M → Prop) (x1 : Int) (M : e_M) : Prop :=
  (k27 x1 0 M)
def VX12_mustNames_27 (c_X12_isName : e_M → (Int → Prop) → Prop) (c_X12_mustName : Int → e_M → (Int → e_M → Prop) → Prop) (c_X12_isSign : Int → e_M → (Int → Prop) → Prop) (c_X12_good : Int → e_M → (Int → e_M → Prop) → Prop) (k4 : Int → Int → e_M → Prop) (Q : Int → e_M → Prop) (x1 : Int) (xs1 : Int) (M : e_M) : Prop :=
  (c_X12_mustName xs1 M (fun r1 M2 => ((¬ r1 = 0 → (c_X12_isSign 44 M2 (fun r3 => ((r3 = 0 → (k4 (e_w32 (x1 + 1)) r3 M2)) ∧ (¬ r3 = 0 → (c_X12_good 0 M2 (fun r4 M5 => ((¬ r4 = 0 → (k4 (e_w32 (x1 + 1)) r3 M5)) ∧ (r4 = 0 → (Q 0 M5)))))))))) ∧ (r1 = 0 → (Q 0 M2)))))
def VX12_mustNames (c_X12_isName : e_M → (Int → Prop) → Prop) (c_X12_mustName : Int → e_M → (Int → e_M → Prop) → Prop) (c_X12_isSign : Int → e_M → (Int → Prop) → Prop) (c_X12_good : Int → e_M → (Int → e_M → Prop) → Prop) (k4 : Int → Int → e_M → Prop) (Q : Int → e_M → Prop) (M : e_M) : Prop :=
  (k4 0 1 M)
def yX12_mustNames (i : Nat) : e_Y := x_get YX12_mustNames [YX12_isName, YX12_mustName, YX12_isSign, YX12_good] i
def pX12_mustNamesf : List x_I := [(0, 0, 1, 0, 0, 0, []), (1, 5, 1, 1, 0, 0, []), (2, 0, 1, 0, 0, 1, []), (3, 5, 1, 2, 0, 0, []), (4, 49, 0, 0, 0, 0, []), (4, 2, 1, 2, 0, 0, []), (5, 17, 59, 0, 37, 0, []), (8, 4, 1, 0, 0, 0, []), (9, 4, 1, 0, 0, 0, []), (10, 40, 0, 1, 14, 0, []), (13, 17, 26, 0, 17, 0, []), (16, 2, 1, 1, 0, 0, []), (17, 0, 2, 0, 0, 6, []), (19, 18, 26, 1, 17, 0, []), (22, 0, 1, 0, 0, 4, []), (23, 19, 27, 0, 19, 0, []), (26, 49, 0, 0, 0, 0, []), (26, 0, 1, 0, 0, 0, []), (27, 49, 0, 0, 0, 0, []), (27, 40, 1, 2, 14, 0, []), (30, 17, 35, 1, 24, 0, []), (33, 0, 1, 0, 0, 0, []), (34, 48, 0, 0, 0, 0, []), (35, 8, 0, 1, 0, 1, []), (38, 4, 1, 0, 0, 0, []), (39, 0, 2, 0, 0, 44, []), (41, 40, 2, 2, 14, 0, []), (44, 5, 1, 2, 0, 0, []), (45, 2, 1, 2, 0, 0, []), (46, 17, 4, 0, 5, 0, []), (49, 4, 1, 0, 0, 0, []), (50, 0, 1, 0, 0, 0, []), (51, 40, 3, 2, 14, 0, []), (54, 17, 4, 1, 5, 0, []), (57, 0, 1, 0, 0, 0, []), (58, 48, 0, 0, 0, 0, []), (59, 0, 1, 0, 0, 1, []), (60, 48, 0, 0, 0, 0, [])]
set_option maxRecDepth 20000 in
theorem qX12_mustNamesf : f_all yX12_mustNames YX12_mustNames pX12_mustNamesf :=
  ⟨f_iconst (e_dx DX12_mustNames_0 0 rfl) ⟨by decide, by decide⟩,
  f_istore_n (n := 1) (e_dx DX12_mustNames_0 1 rfl) rfl (by decide),
  f_iconst (e_dx DX12_mustNames_0 2 rfl) ⟨by decide, by decide⟩,
  f_istore_n (n := 2) (e_dx DX12_mustNames_0 3 rfl) rfl (by decide),
  trivial,
  f_iload_n (n := 2) (e_dx DX12_mustNames_0 4 rfl) rfl,
  f_if_eq (e_dx DX12_mustNames_0 5 rfl) rfl,
  f_aload_n (n := 0) (e_dx DX12_mustNames_0 6 rfl) rfl,
  f_aload_n (n := 0) (e_dx DX12_mustNames_0 7 rfl) rfl,
  x_callV (e_dx DX12_mustNames_0 8 rfl) mwX12_isName vwX12_isName cX12_359 rfl,
  f_if_eq (e_dx DX12_mustNames_0 9 rfl) rfl,
  f_iload_n (n := 1) (e_dx DX12_mustNames_0 10 rfl) rfl,
  f_bipush (e_dx DX12_mustNames_0 11 rfl) ⟨by decide, by decide⟩,
  f_icmp_ne (e_dx DX12_mustNames_0 12 rfl) rfl,
  f_iconst (e_dx DX12_mustNames_0 13 rfl) ⟨by decide, by decide⟩,
  f_g19 (e_dx DX12_mustNames_0 14 rfl) rfl,
  trivial,
  f_iconst (e_dx DX12_mustNames_0 15 rfl) ⟨by decide, by decide⟩,
  trivial,
  x_callV (e_dx DX12_mustNames_0 16 rfl) mwX12_mustName vwX12_mustName cX12_379 rfl,
  f_if_ne (e_dx DX12_mustNames_0 17 rfl) rfl,
  f_iconst (e_dx DX12_mustNames_0 18 rfl) ⟨by decide, by decide⟩,
  ⟨(e_dx DX12_mustNames_0 19 rfl), rfl⟩,
  f_g8 (e_dx DX12_mustNames_0 20 rfl) ⟨by decide, by decide⟩,
  f_aload_n (n := 0) (e_dx DX12_mustNames_0 21 rfl) rfl,
  f_bipush (e_dx DX12_mustNames_0 22 rfl) ⟨by decide, by decide⟩,
  x_callV (e_dx DX12_mustNames_0 23 rfl) mwX12_isSign vwX12_isSign cX12_354 rfl,
  f_istore_n (n := 2) (e_dx DX12_mustNames_0 24 rfl) rfl (by decide),
  f_iload_n (n := 2) (e_dx DX12_mustNames_0 25 rfl) rfl,
  f_if_eq (e_dx DX12_mustNames_0 26 rfl) rfl,
  f_aload_n (n := 0) (e_dx DX12_mustNames_0 27 rfl) rfl,
  f_iconst (e_dx DX12_mustNames_0 28 rfl) ⟨by decide, by decide⟩,
  x_callV (e_dx DX12_mustNames_0 29 rfl) mwX12_good vwX12_good cX12_351 rfl,
  f_if_ne (e_dx DX12_mustNames_0 30 rfl) rfl,
  f_iconst (e_dx DX12_mustNames_0 31 rfl) ⟨by decide, by decide⟩,
  ⟨(e_dx DX12_mustNames_0 32 rfl), rfl⟩,
  f_iconst (e_dx DX12_mustNames_0 33 rfl) ⟨by decide, by decide⟩,
  ⟨(e_dx DX12_mustNames_0 34 rfl), rfl⟩, trivial⟩
def lX12_mustNames (c_X12_isName : e_M → (Int → Prop) → Prop) (c_X12_mustName : Int → e_M → (Int → e_M → Prop) → Prop) (c_X12_isSign : Int → e_M → (Int → Prop) → Prop) (c_X12_good : Int → e_M → (Int → e_M → Prop) → Prop) : List (Nat × f_Wt) := [(0, f_wm [(4466, 12, 123)] (fun ar M R => c_X12_isName  M (fun r => R (some (.inl r)) M))), (1, f_wm [(4466, 12, 123), (1, 0, 0)] (fun ar M R => c_X12_mustName (f_vi (f_nth ar 1)) M (fun r M => R (some (.inl r)) M))), (2, f_wm [(4466, 12, 123), (1, 0, 0)] (fun ar M R => c_X12_isSign (f_vi (f_nth ar 1)) M (fun r => R (some (.inl r)) M))), (3, f_wm [(4466, 12, 123), (1, 0, 0)] (fun ar M R => c_X12_good (f_vi (f_nth ar 1)) M (fun r M => R (some (.inl r)) M)))]
set_option maxRecDepth 20000 in
theorem BX12_mustNames_4 {sh : Nat → Nat × Nat} {t : Nat} {rm : Nat × Nat × Nat} {cs : Nat × Nat} {R : f_Rt} {c_X12_isName : e_M → (Int → Prop) → Prop} {c_X12_mustName : Int → e_M → (Int → e_M → Prop) → Prop} {c_X12_isSign : Int → e_M → (Int → Prop) → Prop} {c_X12_good : Int → e_M → (Int → e_M → Prop) → Prop} {k26 : Int → e_M → Prop} {k27 : Int → Int → e_M → Prop} {x1 : Int} {x2 : Int} {M : e_M} (C : f_Hy sh t yX12_mustNames rm cs 10 (lX12_mustNames c_X12_isName c_X12_mustName c_X12_isSign c_X12_good) R) (h26 : ∀ (x1 : Int) (M : e_M), k26 x1 M → f_E sh t YX12_mustNames rm cs (f_Q sh t R) 26 [.inr (.inr (.inl (12, 123, 4456))), .inl x1, .inr (.inr (.inr ()))] [.inr (.inr (.inl (12, 123, 4456)))] M) (h27 : ∀ (x1 : Int) (xs1 : Int) (M : e_M), k27 x1 xs1 M → f_E sh t YX12_mustNames rm cs (f_Q sh t R) 27 [.inr (.inr (.inl (12, 123, 4456))), .inl x1, .inr (.inr (.inr ()))] [.inl xs1, .inr (.inr (.inl (12, 123, 4456)))] M) (h : VX12_mustNames_4 c_X12_isName c_X12_mustName c_X12_isSign c_X12_good k26 k27 (fun r M => R (some (.inl r)) M) x1 x2 M) : f_E sh t YX12_mustNames rm cs (f_Q sh t R) 4 [.inr (.inr (.inl (12, 123, 4456))), .inl x1, .inl x2] [] M :=
  f_go (KC := f_kc [(26, f_pl [(4466, 12, 123), (1, 0, 0), (0, 0, 0)] [(4466, 12, 123)] (fun ls st M => k26 (f_vi (f_nth ls 1)) M)), (27, f_pl [(4466, 12, 123), (1, 0, 0), (0, 0, 0)] [(1, 0, 0), (4466, 12, 123)] (fun ls st M => k27 (f_vi (f_nth ls 1)) (f_vi (f_nth st 0)) M))]) C qX12_mustNamesf (f_kc_cons (f_pl_ok rfl (fun ls st M h => h26 _ M h)) (f_kc_cons (f_pl_ok rfl (fun ls st M h => h27 _ _ M h)) f_kc_nil)) 40 5 h
set_option maxRecDepth 20000 in
theorem BX12_mustNames_26 {sh : Nat → Nat × Nat} {t : Nat} {rm : Nat × Nat × Nat} {cs : Nat × Nat} {R : f_Rt} {c_X12_isName : e_M → (Int → Prop) → Prop} {c_X12_mustName : Int → e_M → (Int → e_M → Prop) → Prop} {c_X12_isSign : Int → e_M → (Int → Prop) → Prop} {c_X12_good : Int → e_M → (Int → e_M → Prop) → Prop} {k27 : Int → Int → e_M → Prop} {x1 : Int} {M : e_M} (C : f_Hy sh t yX12_mustNames rm cs 10 (lX12_mustNames c_X12_isName c_X12_mustName c_X12_isSign c_X12_good) R) (h27 : ∀ (x1 : Int) (xs1 : Int) (M : e_M), k27 x1 xs1 M → f_E sh t YX12_mustNames rm cs (f_Q sh t R) 27 [.inr (.inr (.inl (12, 123, 4456))), .inl x1, .inr (.inr (.inr ()))] [.inl xs1, .inr (.inr (.inl (12, 123, 4456)))] M) (h : VX12_mustNames_26 c_X12_isName c_X12_mustName c_X12_isSign c_X12_good k27 (fun r M => R (some (.inl r)) M) x1 M) : f_E sh t YX12_mustNames rm cs (f_Q sh t R) 26 [.inr (.inr (.inl (12, 123, 4456))), .inl x1, .inr (.inr (.inr ()))] [.inr (.inr (.inl (12, 123, 4456)))] M :=
  f_go (KC := f_kc [(27, f_pl [(4466, 12, 123), (1, 0, 0), (0, 0, 0)] [(1, 0, 0), (4466, 12, 123)] (fun ls st M => k27 (f_vi (f_nth ls 1)) (f_vi (f_nth st 0)) M))]) C qX12_mustNamesf (f_kc_cons (f_pl_ok rfl (fun ls st M h => h27 _ _ M h)) f_kc_nil) 40 17 h
set_option maxRecDepth 20000 in
theorem BX12_mustNames_27 {sh : Nat → Nat × Nat} {t : Nat} {rm : Nat × Nat × Nat} {cs : Nat × Nat} {R : f_Rt} {c_X12_isName : e_M → (Int → Prop) → Prop} {c_X12_mustName : Int → e_M → (Int → e_M → Prop) → Prop} {c_X12_isSign : Int → e_M → (Int → Prop) → Prop} {c_X12_good : Int → e_M → (Int → e_M → Prop) → Prop} {k4 : Int → Int → e_M → Prop} {x1 : Int} {xs1 : Int} {M : e_M} (C : f_Hy sh t yX12_mustNames rm cs 10 (lX12_mustNames c_X12_isName c_X12_mustName c_X12_isSign c_X12_good) R) (h4 : ∀ (x1 : Int) (x2 : Int) (M : e_M), k4 x1 x2 M → f_E sh t YX12_mustNames rm cs (f_Q sh t R) 4 [.inr (.inr (.inl (12, 123, 4456))), .inl x1, .inl x2] [] M) (h : VX12_mustNames_27 c_X12_isName c_X12_mustName c_X12_isSign c_X12_good k4 (fun r M => R (some (.inl r)) M) x1 xs1 M) : f_E sh t YX12_mustNames rm cs (f_Q sh t R) 27 [.inr (.inr (.inl (12, 123, 4456))), .inl x1, .inr (.inr (.inr ()))] [.inl xs1, .inr (.inr (.inl (12, 123, 4456)))] M :=
  f_go (KC := f_kc [(4, f_pl [(4466, 12, 123), (1, 0, 0), (1, 0, 0)] [] (fun ls st M => k4 (f_vi (f_nth ls 1)) (f_vi (f_nth ls 2)) M))]) C qX12_mustNamesf (f_kc_cons (f_pl_ok rfl (fun ls st M h => h4 _ _ M h)) f_kc_nil) 40 19 h
set_option maxRecDepth 20000 in
theorem BX12_mustNames {sh : Nat → Nat × Nat} {t : Nat} {rm : Nat × Nat × Nat} {cs : Nat × Nat} {R : f_Rt} {c_X12_isName : e_M → (Int → Prop) → Prop} {c_X12_mustName : Int → e_M → (Int → e_M → Prop) → Prop} {c_X12_isSign : Int → e_M → (Int → Prop) → Prop} {c_X12_good : Int → e_M → (Int → e_M → Prop) → Prop} {k4 : Int → Int → e_M → Prop} {M : e_M} (C : f_Hy sh t yX12_mustNames rm cs 10 (lX12_mustNames c_X12_isName c_X12_mustName c_X12_isSign c_X12_good) R) (h4 : ∀ (x1 : Int) (x2 : Int) (M : e_M), k4 x1 x2 M → f_E sh t YX12_mustNames rm cs (f_Q sh t R) 4 [.inr (.inr (.inl (12, 123, 4456))), .inl x1, .inl x2] [] M) (h : VX12_mustNames c_X12_isName c_X12_mustName c_X12_isSign c_X12_good k4 (fun r M => R (some (.inl r)) M) M) : f_E sh t YX12_mustNames rm cs (f_Q sh t R) 0 [.inr (.inr (.inl (12, 123, 4456))), .inr (.inr (.inr ())), .inr (.inr (.inr ()))] [] M :=
  f_go (KC := f_kc [(4, f_pl [(4466, 12, 123), (1, 0, 0), (1, 0, 0)] [] (fun ls st M => k4 (f_vi (f_nth ls 1)) (f_vi (f_nth ls 2)) M))]) C qX12_mustNamesf (f_kc_cons (f_pl_ok rfl (fun ls st M h => h4 _ _ M h)) f_kc_nil) 40 0 h
def WX12_mustNames_27 (H4 : Int → Int → e_M → Prop) (Q : Int → e_M → Prop) (x1 : Int) (xs1 : Int) (M : e_M) : Prop :=
  VX12_mustNames_27 WX12_isName WX12_mustName WX12_isSign WX12_good H4 Q x1 xs1 M
def WX12_mustNames_26 (H4 : Int → Int → e_M → Prop) (Q : Int → e_M → Prop) (x1 : Int) (M : e_M) : Prop :=
  VX12_mustNames_26 WX12_isName WX12_mustName WX12_isSign WX12_good (WX12_mustNames_27 H4 Q) Q x1 M
def WX12_mustNames_4 (Q : Int → e_M → Prop) : Nat → Int → Int → e_M → Prop
  | 0, _, _, _ => False
  | n + 1, x1, x2, M =>
    VX12_mustNames_4 WX12_isName WX12_mustName WX12_isSign WX12_good (WX12_mustNames_26 (WX12_mustNames_4 Q n) Q) (WX12_mustNames_27 (WX12_mustNames_4 Q n) Q) Q x1 x2 M
def WX12_mustNames (M : e_M) (Q : Int → e_M → Prop) : Prop :=
  VX12_mustNames WX12_isName WX12_mustName WX12_isSign WX12_good (fun x1 x2 M => ∃ j, WX12_mustNames_4 Q j x1 x2 M) Q M
theorem PX12_mustNames_27 {sh : Nat → Nat × Nat} {t : Nat} {rm : Nat × Nat × Nat} {cs : Nat × Nat} {R : f_Rt} {H4 : Int → Int → e_M → Prop} {x1 : Int} {xs1 : Int} {M : e_M} (C : f_Hy sh t yX12_mustNames rm cs 10 (lX12_mustNames WX12_isName WX12_mustName WX12_isSign WX12_good) R) (g4 : ∀ (x1 : Int) (x2 : Int) (M : e_M), H4 x1 x2 M → f_E sh t YX12_mustNames rm cs (f_Q sh t R) 4 [.inr (.inr (.inl (12, 123, 4456))), .inl x1, .inl x2] [] M) (h : WX12_mustNames_27 H4 (fun r M => R (some (.inl r)) M) x1 xs1 M) : f_E sh t YX12_mustNames rm cs (f_Q sh t R) 27 [.inr (.inr (.inl (12, 123, 4456))), .inl x1, .inr (.inr (.inr ()))] [.inl xs1, .inr (.inr (.inl (12, 123, 4456)))] M :=
  BX12_mustNames_27 C g4 h
theorem PX12_mustNames_26 {sh : Nat → Nat × Nat} {t : Nat} {rm : Nat × Nat × Nat} {cs : Nat × Nat} {R : f_Rt} {H4 : Int → Int → e_M → Prop} {x1 : Int} {M : e_M} (C : f_Hy sh t yX12_mustNames rm cs 10 (lX12_mustNames WX12_isName WX12_mustName WX12_isSign WX12_good) R) (g4 : ∀ (x1 : Int) (x2 : Int) (M : e_M), H4 x1 x2 M → f_E sh t YX12_mustNames rm cs (f_Q sh t R) 4 [.inr (.inr (.inl (12, 123, 4456))), .inl x1, .inl x2] [] M) (h : WX12_mustNames_26 H4 (fun r M => R (some (.inl r)) M) x1 M) : f_E sh t YX12_mustNames rm cs (f_Q sh t R) 26 [.inr (.inr (.inl (12, 123, 4456))), .inl x1, .inr (.inr (.inr ()))] [.inr (.inr (.inl (12, 123, 4456)))] M :=
  BX12_mustNames_26 C (fun x1 xs1 M h => PX12_mustNames_27 C g4 h) h
theorem PX12_mustNames_4 {sh : Nat → Nat × Nat} {t : Nat} {rm : Nat × Nat × Nat} {cs : Nat × Nat} {R : f_Rt} (C : f_Hy sh t yX12_mustNames rm cs 10 (lX12_mustNames WX12_isName WX12_mustName WX12_isSign WX12_good) R) : ∀ (n : Nat) (x1 : Int) (x2 : Int) (M : e_M), WX12_mustNames_4 (fun r M => R (some (.inl r)) M) n x1 x2 M → f_E sh t YX12_mustNames rm cs (f_Q sh t R) 4 [.inr (.inr (.inl (12, 123, 4456))), .inl x1, .inl x2] [] M := by
  intro n
  induction n with
  | zero => intro x1 x2 M h; exact h.elim
  | succ n ih => intro x1 x2 M h; exact BX12_mustNames_4 C (fun x1 M h => PX12_mustNames_26 C ih h) (fun x1 xs1 M h => PX12_mustNames_27 C ih h) h
theorem PX12_mustNames {sh : Nat → Nat × Nat} {t : Nat} {rm : Nat × Nat × Nat} {cs : Nat × Nat} {R : f_Rt} {M : e_M} (C : f_Hy sh t yX12_mustNames rm cs 10 (lX12_mustNames WX12_isName WX12_mustName WX12_isSign WX12_good) R) (h : WX12_mustNames M (fun r M => R (some (.inl r)) M)) : f_E sh t YX12_mustNames rm cs (f_Q sh t R) 0 [.inr (.inr (.inl (12, 123, 4456))), .inr (.inr (.inr ())), .inr (.inr (.inr ()))] [] M :=
  BX12_mustNames C (fun x1 x2 M ⟨j, h⟩ => PX12_mustNames_4 C j _ _ _ h) h
def wX12_mustNames : f_Wt := f_wm [(4466, 12, 123)] (fun ar M R => WX12_mustNames M (fun r M => R (some (.inl r)) M))
theorem TX12_mustNames {sh : Nat → Nat × Nat} {t : Nat} : f_Mt sh t YX12_mustNames 10 (wX12_mustNames) :=
  f_Mt_of (k := 2) (Nat.le_of_ble_eq_true rfl) rfl rfl (fun ar M R rm cs h1 h2 h3 hX h => PX12_mustNames ⟨Nat.le_of_ble_eq_true rfl, h1, h2, h3, ⟨(f_Mt.up (Nat.le_of_ble_eq_true rfl) TX12_isName), (f_Mt.up (Nat.le_of_ble_eq_true rfl) TX12_mustName), (f_Mt.up (Nat.le_of_ble_eq_true rfl) TX12_isSign), (f_Mt.up (Nat.le_of_ble_eq_true rfl) TX12_good), trivial⟩, hX⟩ h)
def VX12_mustAmount2 (c_X12_wrong : Int → e_M → (Int → e_M → Prop) → Prop) (c_X12_good : Int → e_M → (Int → e_M → Prop) → Prop) (Q : Int → e_M → Prop) (a1 : Nat) (x2 : Int) (M : e_M) : Prop :=
  (((M 4456 7) = 2 → ((0 ≤ (e_w32 ((e_w32 ((12 : Int) * (M 4456 35))) + x2)) ∧ (e_w32 ((e_w32 ((12 : Int) * (M 4456 35))) + x2)) < 1824) ∧ (∀ M1 : e_M, M1 = e_up M a1 ((e_w32 ((e_w32 ((12 : Int) * (M 4456 35))) + x2)).toNat) (M 4456 9) → (c_X12_good 0 M1 (fun r2 M3 => ((r2 = 0 ∨ r2 = 1) ∧ Q r2 M3)))))) ∧ (¬ (M 4456 7) = 2 → (c_X12_wrong 1 M (fun r4 M5 => ((r4 = 0 ∨ r4 = 1) ∧ Q r4 M5)))))
def yX12_mustAmount2 (i : Nat) : e_Y := x_get YX12_mustAmount2 [YX12_wrong, YX12_good] i
def pX12_mustAmount2f : List x_I := [(0, 4, 1, 0, 0, 0, []), (1, 25, 12, 7, 0, 0, []), (4, 0, 1, 0, 0, 2, []), (5, 18, 14, 0, 9, 0, []), (8, 4, 1, 0, 0, 0, []), (9, 0, 1, 0, 0, 1, []), (10, 40, 0, 2, 14, 0, []), (13, 42, 0, 0, 0, 0, []), (14, 4, 1, 1, 0, 0, []), (15, 0, 2, 0, 0, 12, []), (17, 4, 1, 0, 0, 0, []), (18, 25, 12, 35, 0, 0, []), (21, 9, 0, 2, 0, 0, []), (22, 2, 1, 2, 0, 0, []), (23, 9, 0, 0, 0, 0, []), (24, 4, 1, 0, 0, 0, []), (25, 25, 12, 9, 0, 0, []), (28, 28, 0, 0, 0, 0, []), (29, 4, 1, 0, 0, 0, []), (30, 0, 1, 0, 0, 0, []), (31, 40, 1, 2, 14, 0, []), (34, 42, 0, 0, 0, 0, [])]
set_option maxRecDepth 20000 in
theorem qX12_mustAmount2f : f_all yX12_mustAmount2 YX12_mustAmount2 pX12_mustAmount2f :=
  ⟨f_aload_n (n := 0) (e_dx DX12_mustAmount2_0 0 rfl) rfl,
  f_getf (e_dx DX12_mustAmount2_0 1 rfl) fX12_309 rfl (by decide) (by decide) (by decide),
  f_iconst (e_dx DX12_mustAmount2_0 2 rfl) ⟨by decide, by decide⟩,
  f_icmp_eq (e_dx DX12_mustAmount2_0 3 rfl) rfl,
  f_aload_n (n := 0) (e_dx DX12_mustAmount2_0 4 rfl) rfl,
  f_iconst (e_dx DX12_mustAmount2_0 5 rfl) ⟨by decide, by decide⟩,
  x_callV (e_dx DX12_mustAmount2_0 6 rfl) mwX12_wrong vwX12_wrong cX12_342 rfl,
  ⟨(e_dx DX12_mustAmount2_0 7 rfl), rfl⟩,
  f_aload_n (n := 1) (e_dx DX12_mustAmount2_0 8 rfl) rfl,
  f_bipush (e_dx DX12_mustAmount2_0 9 rfl) ⟨by decide, by decide⟩,
  f_aload_n (n := 0) (e_dx DX12_mustAmount2_0 10 rfl) rfl,
  f_getf (e_dx DX12_mustAmount2_0 11 rfl) fX12_363 rfl (by decide) (by decide) (by decide),
  f_imul (e_dx DX12_mustAmount2_0 12 rfl),
  f_iload_n (n := 2) (e_dx DX12_mustAmount2_0 13 rfl) rfl,
  f_iadd (e_dx DX12_mustAmount2_0 14 rfl),
  f_aload_n (n := 0) (e_dx DX12_mustAmount2_0 15 rfl) rfl,
  f_getf (e_dx DX12_mustAmount2_0 16 rfl) fX12_321 rfl (by decide) (by decide) (by decide),
  f_iastore (e_dx DX12_mustAmount2_0 17 rfl),
  f_aload_n (n := 0) (e_dx DX12_mustAmount2_0 18 rfl) rfl,
  f_iconst (e_dx DX12_mustAmount2_0 19 rfl) ⟨by decide, by decide⟩,
  x_callV (e_dx DX12_mustAmount2_0 20 rfl) mwX12_good vwX12_good cX12_351 rfl,
  ⟨(e_dx DX12_mustAmount2_0 21 rfl), rfl⟩, trivial⟩
def lX12_mustAmount2 (c_X12_wrong : Int → e_M → (Int → e_M → Prop) → Prop) (c_X12_good : Int → e_M → (Int → e_M → Prop) → Prop) : List (Nat × f_Wt) := [(0, f_wm [(4466, 12, 123), (1, 0, 0)] (fun ar M R => c_X12_wrong (f_vi (f_nth ar 1)) M (fun r M => R (some (.inl r)) M))), (1, f_wm [(4466, 12, 123), (1, 0, 0)] (fun ar M R => c_X12_good (f_vi (f_nth ar 1)) M (fun r M => R (some (.inl r)) M)))]
set_option maxRecDepth 20000 in
theorem BX12_mustAmount2 {sh : Nat → Nat × Nat} {t : Nat} {rm : Nat × Nat × Nat} {cs : Nat × Nat} {R : f_Rt} {c_X12_wrong : Int → e_M → (Int → e_M → Prop) → Prop} {c_X12_good : Int → e_M → (Int → e_M → Prop) → Prop} {a1 : Nat} {x2 : Int} {M : e_M} (C : f_Hy sh t yX12_mustAmount2 rm cs 9 (lX12_mustAmount2 c_X12_wrong c_X12_good) R) (h : VX12_mustAmount2 c_X12_wrong c_X12_good (fun r M => R (some (.inl r)) M) a1 x2 M) : f_E sh t YX12_mustAmount2 rm cs (f_Q sh t R) 0 [.inr (.inr (.inl (12, 123, 4456))), .inr (.inr (.inl (20, 1824, a1))), .inl x2] [] M :=
  f_go (KC := f_kc []) C qX12_mustAmount2f f_kc_nil 24 0 h
def WX12_mustAmount2 (a1 : Nat) (x2 : Int) (M : e_M) (Q : Int → e_M → Prop) : Prop :=
  VX12_mustAmount2 WX12_wrong WX12_good Q a1 x2 M
theorem PX12_mustAmount2 {sh : Nat → Nat × Nat} {t : Nat} {rm : Nat × Nat × Nat} {cs : Nat × Nat} {R : f_Rt} {a1 : Nat} {x2 : Int} {M : e_M} (C : f_Hy sh t yX12_mustAmount2 rm cs 9 (lX12_mustAmount2 WX12_wrong WX12_good) R) (h : WX12_mustAmount2 a1 x2 M (fun r M => R (some (.inl r)) M)) : f_E sh t YX12_mustAmount2 rm cs (f_Q sh t R) 0 [.inr (.inr (.inl (12, 123, 4456))), .inr (.inr (.inl (20, 1824, a1))), .inl x2] [] M :=
  BX12_mustAmount2 C h
def wX12_mustAmount2 : f_Wt := f_wm [(4466, 12, 123), (3, 20, 1824), (1, 0, 0)] (fun ar M R => WX12_mustAmount2 (f_va (f_nth ar 1)) (f_vi (f_nth ar 2)) M (fun r M => R (some (.inl r)) M))
theorem TX12_mustAmount2 {sh : Nat → Nat × Nat} {t : Nat} : f_Mt sh t YX12_mustAmount2 9 (wX12_mustAmount2) :=
  f_Mt_of (k := 0) (Nat.le_of_ble_eq_true rfl) rfl rfl (fun ar M R rm cs h1 h2 h3 hX h => PX12_mustAmount2 ⟨Nat.le_of_ble_eq_true rfl, h1, h2, h3, ⟨(f_Mt.up (Nat.le_of_ble_eq_true rfl) TX12_wrong), (f_Mt.up (Nat.le_of_ble_eq_true rfl) TX12_good), trivial⟩, hX⟩ h)
def VX12_mustPoints_4 (c_X12_isSign : Int → e_M → (Int → Prop) → Prop) (c_X12_wrong : Int → e_M → (Int → e_M → Prop) → Prop) (c_X12_good : Int → e_M → (Int → e_M → Prop) → Prop) (c_X12_mustAmount2 : Nat → Int → e_M → (Int → e_M → Prop) → Prop) (c_X12_mustSign : Int → e_M → (Int → e_M → Prop) → Prop) (k35 : Int → Int → e_M → Prop) (Q : Int → e_M → Prop) (x1 : Int) (x2 : Int) (M : e_M) : Prop :=
  ((x2 = 0 → ((0 ≤ (M 4456 35) ∧ (M 4456 35) < 152) ∧ (∀ M1 : e_M, M1 = e_up M 4474 ((M 4456 35).toNat) x1 → (Q 1 M1)))) ∧ (¬ x2 = 0 → (c_X12_isSign 40 M (fun r2 => ((¬ r2 = 0 → ((¬ x1 = 12 → (k35 x1 0 M)) ∧ (x1 = 12 → (k35 x1 4 M)))) ∧ (r2 = 0 → (c_X12_wrong 1 M (fun r3 M4 => ((r3 = 0 ∨ r3 = 1) ∧ Q r3 M4)))))))))
def VX12_mustPoints_35 (c_X12_isSign : Int → e_M → (Int → Prop) → Prop) (c_X12_wrong : Int → e_M → (Int → e_M → Prop) → Prop) (c_X12_good : Int → e_M → (Int → e_M → Prop) → Prop) (c_X12_mustAmount2 : Nat → Int → e_M → (Int → e_M → Prop) → Prop) (c_X12_mustSign : Int → e_M → (Int → e_M → Prop) → Prop) (k4 : Int → Int → e_M → Prop) (Q : Int → e_M → Prop) (x1 : Int) (xs1 : Int) (M : e_M) : Prop :=
  (c_X12_good xs1 M (fun r1 M2 => ((¬ r1 = 0 → (c_X12_mustAmount2 4475 x1 M2 (fun r3 M4 => ((r3 = 0 → (Q 0 M4)) ∧ (¬ r3 = 0 → (c_X12_mustSign 44 M4 (fun r5 M6 => ((r5 = 0 → (Q 0 M6)) ∧ (¬ r5 = 0 → (c_X12_mustAmount2 4476 x1 M6 (fun r7 M8 => ((r7 = 0 → (Q 0 M8)) ∧ (¬ r7 = 0 → (c_X12_mustSign 41 M8 (fun r9 M10 => ((¬ r9 = 0 → (c_X12_isSign 40 M10 (fun r11 => (k4 (e_w32 (x1 + 1)) r11 M10)))) ∧ (r9 = 0 → (Q 0 M10)))))))))))))))))) ∧ (r1 = 0 → (Q 0 M2)))))
def VX12_mustPoints (c_X12_isSign : Int → e_M → (Int → Prop) → Prop) (c_X12_wrong : Int → e_M → (Int → e_M → Prop) → Prop) (c_X12_good : Int → e_M → (Int → e_M → Prop) → Prop) (c_X12_mustAmount2 : Nat → Int → e_M → (Int → e_M → Prop) → Prop) (c_X12_mustSign : Int → e_M → (Int → e_M → Prop) → Prop) (k4 : Int → Int → e_M → Prop) (Q : Int → e_M → Prop) (M : e_M) : Prop :=
  (k4 0 1 M)
def yX12_mustPoints (i : Nat) : e_Y := x_get YX12_mustPoints [YX12_isSign, YX12_wrong, YX12_good, YX12_mustAmount2, YX12_mustSign] i
def pX12_mustPointsf : List x_I := [(0, 0, 1, 0, 0, 0, []), (1, 5, 1, 1, 0, 0, []), (2, 0, 1, 0, 0, 1, []), (3, 5, 1, 2, 0, 0, []), (4, 49, 0, 0, 0, 0, []), (4, 2, 1, 2, 0, 0, []), (5, 17, 100, 0, 56, 0, []), (8, 4, 1, 0, 0, 0, []), (9, 0, 2, 0, 0, 40, []), (11, 40, 0, 2, 14, 0, []), (14, 17, 23, 1, 16, 0, []), (17, 4, 1, 0, 0, 0, []), (18, 0, 1, 0, 0, 1, []), (19, 40, 1, 2, 14, 0, []), (22, 42, 0, 0, 0, 0, []), (23, 4, 1, 0, 0, 0, []), (24, 2, 1, 1, 0, 0, []), (25, 0, 2, 0, 0, 12, []), (27, 18, 34, 1, 22, 0, []), (30, 0, 1, 0, 0, 4, []), (31, 19, 35, 0, 23, 0, []), (34, 0, 1, 0, 0, 0, []), (35, 49, 0, 0, 0, 0, []), (35, 40, 2, 2, 14, 0, []), (38, 17, 43, 1, 28, 0, []), (41, 0, 1, 0, 0, 0, []), (42, 48, 0, 0, 0, 0, []), (43, 4, 1, 0, 0, 0, []), (44, 4, 1, 0, 0, 0, []), (45, 25, 12, 28, 4, 0, [(0, 20, 1824), (0, 1, 19)]), (48, 2, 1, 1, 0, 0, []), (49, 40, 3, 3, 14, 0, []), (52, 17, 85, 0, 48, 0, []), (55, 4, 1, 0, 0, 0, []), (56, 0, 2, 0, 0, 44, []), (58, 40, 4, 2, 14, 0, []), (61, 17, 85, 0, 48, 0, []), (64, 4, 1, 0, 0, 0, []), (65, 4, 1, 0, 0, 0, []), (66, 25, 12, 29, 4, 0, [(0, 20, 1824), (0, 1, 20)]), (69, 2, 1, 1, 0, 0, []), (70, 40, 3, 3, 14, 0, []), (73, 17, 85, 0, 48, 0, []), (76, 4, 1, 0, 0, 0, []), (77, 0, 2, 0, 0, 41, []), (79, 40, 4, 2, 14, 0, []), (82, 17, 87, 1, 50, 0, []), (85, 0, 1, 0, 0, 0, []), (86, 48, 0, 0, 0, 0, []), (87, 8, 0, 1, 0, 1, []), (90, 4, 1, 0, 0, 0, []), (91, 0, 2, 0, 0, 40, []), (93, 40, 0, 2, 14, 0, []), (96, 5, 1, 2, 0, 0, []), (97, 19, 4, 0, 5, 0, []), (100, 4, 1, 0, 0, 0, []), (101, 25, 12, 27, 4, 0, [(0, 20, 152), (0, 1, 18)]), (104, 4, 1, 0, 0, 0, []), (105, 25, 12, 35, 0, 0, []), (108, 2, 1, 1, 0, 0, []), (109, 28, 0, 0, 0, 0, []), (110, 0, 1, 0, 0, 1, []), (111, 48, 0, 0, 0, 0, [])]
set_option maxRecDepth 20000 in
theorem qX12_mustPointsf : f_all yX12_mustPoints YX12_mustPoints pX12_mustPointsf :=
  ⟨f_iconst (e_dx DX12_mustPoints_0 0 rfl) ⟨by decide, by decide⟩,
  f_istore_n (n := 1) (e_dx DX12_mustPoints_0 1 rfl) rfl (by decide),
  f_iconst (e_dx DX12_mustPoints_0 2 rfl) ⟨by decide, by decide⟩,
  f_istore_n (n := 2) (e_dx DX12_mustPoints_0 3 rfl) rfl (by decide),
  trivial,
  f_iload_n (n := 2) (e_dx DX12_mustPoints_0 4 rfl) rfl,
  f_if_eq (e_dx DX12_mustPoints_0 5 rfl) rfl,
  f_aload_n (n := 0) (e_dx DX12_mustPoints_0 6 rfl) rfl,
  f_bipush (e_dx DX12_mustPoints_0 7 rfl) ⟨by decide, by decide⟩,
  x_callV (e_dx DX12_mustPoints_0 8 rfl) mwX12_isSign vwX12_isSign cX12_354 rfl,
  f_if_ne (e_dx DX12_mustPoints_0 9 rfl) rfl,
  f_aload_n (n := 0) (e_dx DX12_mustPoints_0 10 rfl) rfl,
  f_iconst (e_dx DX12_mustPoints_0 11 rfl) ⟨by decide, by decide⟩,
  x_callV (e_dx DX12_mustPoints_0 12 rfl) mwX12_wrong vwX12_wrong cX12_342 rfl,
  ⟨(e_dx DX12_mustPoints_0 13 rfl), rfl⟩,
  f_aload_n (n := 0) (e_dx DX12_mustPoints_0 14 rfl) rfl,
  f_iload_n (n := 1) (e_dx DX12_mustPoints_0 15 rfl) rfl,
  f_bipush (e_dx DX12_mustPoints_0 16 rfl) ⟨by decide, by decide⟩,
  f_icmp_ne (e_dx DX12_mustPoints_0 17 rfl) rfl,
  f_iconst (e_dx DX12_mustPoints_0 18 rfl) ⟨by decide, by decide⟩,
  f_g19 (e_dx DX12_mustPoints_0 19 rfl) rfl,
  f_iconst (e_dx DX12_mustPoints_0 20 rfl) ⟨by decide, by decide⟩,
  trivial,
  x_callV (e_dx DX12_mustPoints_0 21 rfl) mwX12_good vwX12_good cX12_351 rfl,
  f_if_ne (e_dx DX12_mustPoints_0 22 rfl) rfl,
  f_iconst (e_dx DX12_mustPoints_0 23 rfl) ⟨by decide, by decide⟩,
  ⟨(e_dx DX12_mustPoints_0 24 rfl), rfl⟩,
  f_aload_n (n := 0) (e_dx DX12_mustPoints_0 25 rfl) rfl,
  f_aload_n (n := 0) (e_dx DX12_mustPoints_0 26 rfl) rfl,
  f_getA (e_dx DX12_mustPoints_0 27 rfl) fX12_66 rfl (by decide) (Nat.le_of_ble_eq_true rfl) rfl (by decide),
  f_iload_n (n := 1) (e_dx DX12_mustPoints_0 28 rfl) rfl,
  x_callV (e_dx DX12_mustPoints_0 29 rfl) mwX12_mustAmount2 vwX12_mustAmount2 cX12_385 rfl,
  f_if_eq (e_dx DX12_mustPoints_0 30 rfl) rfl,
  f_aload_n (n := 0) (e_dx DX12_mustPoints_0 31 rfl) rfl,
  f_bipush (e_dx DX12_mustPoints_0 32 rfl) ⟨by decide, by decide⟩,
  x_callV (e_dx DX12_mustPoints_0 33 rfl) mwX12_mustSign vwX12_mustSign cX12_369 rfl,
  f_if_eq (e_dx DX12_mustPoints_0 34 rfl) rfl,
  f_aload_n (n := 0) (e_dx DX12_mustPoints_0 35 rfl) rfl,
  f_aload_n (n := 0) (e_dx DX12_mustPoints_0 36 rfl) rfl,
  f_getA (e_dx DX12_mustPoints_0 37 rfl) fX12_69 rfl (by decide) (Nat.le_of_ble_eq_true rfl) rfl (by decide),
  f_iload_n (n := 1) (e_dx DX12_mustPoints_0 38 rfl) rfl,
  x_callV (e_dx DX12_mustPoints_0 39 rfl) mwX12_mustAmount2 vwX12_mustAmount2 cX12_385 rfl,
  f_if_eq (e_dx DX12_mustPoints_1 0 rfl) rfl,
  f_aload_n (n := 0) (e_dx DX12_mustPoints_1 1 rfl) rfl,
  f_bipush (e_dx DX12_mustPoints_1 2 rfl) ⟨by decide, by decide⟩,
  x_callV (e_dx DX12_mustPoints_1 3 rfl) mwX12_mustSign vwX12_mustSign cX12_369 rfl,
  f_if_ne (e_dx DX12_mustPoints_1 4 rfl) rfl,
  f_iconst (e_dx DX12_mustPoints_1 5 rfl) ⟨by decide, by decide⟩,
  ⟨(e_dx DX12_mustPoints_1 6 rfl), rfl⟩,
  f_g8 (e_dx DX12_mustPoints_1 7 rfl) ⟨by decide, by decide⟩,
  f_aload_n (n := 0) (e_dx DX12_mustPoints_1 8 rfl) rfl,
  f_bipush (e_dx DX12_mustPoints_1 9 rfl) ⟨by decide, by decide⟩,
  x_callV (e_dx DX12_mustPoints_1 10 rfl) mwX12_isSign vwX12_isSign cX12_354 rfl,
  f_istore_n (n := 2) (e_dx DX12_mustPoints_1 11 rfl) rfl (by decide),
  f_g19 (e_dx DX12_mustPoints_1 12 rfl) rfl,
  f_aload_n (n := 0) (e_dx DX12_mustPoints_1 13 rfl) rfl,
  f_getA (e_dx DX12_mustPoints_1 14 rfl) fX12_63 rfl (by decide) (Nat.le_of_ble_eq_true rfl) rfl (by decide),
  f_aload_n (n := 0) (e_dx DX12_mustPoints_1 15 rfl) rfl,
  f_getf (e_dx DX12_mustPoints_1 16 rfl) fX12_363 rfl (by decide) (by decide) (by decide),
  f_iload_n (n := 1) (e_dx DX12_mustPoints_1 17 rfl) rfl,
  f_iastore (e_dx DX12_mustPoints_1 18 rfl),
  f_iconst (e_dx DX12_mustPoints_1 19 rfl) ⟨by decide, by decide⟩,
  ⟨(e_dx DX12_mustPoints_1 20 rfl), rfl⟩, trivial⟩
def lX12_mustPoints (c_X12_isSign : Int → e_M → (Int → Prop) → Prop) (c_X12_wrong : Int → e_M → (Int → e_M → Prop) → Prop) (c_X12_good : Int → e_M → (Int → e_M → Prop) → Prop) (c_X12_mustAmount2 : Nat → Int → e_M → (Int → e_M → Prop) → Prop) (c_X12_mustSign : Int → e_M → (Int → e_M → Prop) → Prop) : List (Nat × f_Wt) := [(0, f_wm [(4466, 12, 123), (1, 0, 0)] (fun ar M R => c_X12_isSign (f_vi (f_nth ar 1)) M (fun r => R (some (.inl r)) M))), (1, f_wm [(4466, 12, 123), (1, 0, 0)] (fun ar M R => c_X12_wrong (f_vi (f_nth ar 1)) M (fun r M => R (some (.inl r)) M))), (2, f_wm [(4466, 12, 123), (1, 0, 0)] (fun ar M R => c_X12_good (f_vi (f_nth ar 1)) M (fun r M => R (some (.inl r)) M))), (3, f_wm [(4466, 12, 123), (3, 20, 1824), (1, 0, 0)] (fun ar M R => c_X12_mustAmount2 (f_va (f_nth ar 1)) (f_vi (f_nth ar 2)) M (fun r M => R (some (.inl r)) M))), (4, f_wm [(4466, 12, 123), (1, 0, 0)] (fun ar M R => c_X12_mustSign (f_vi (f_nth ar 1)) M (fun r M => R (some (.inl r)) M)))]
set_option maxRecDepth 20000 in
theorem BX12_mustPoints_4 {sh : Nat → Nat × Nat} {t : Nat} {rm : Nat × Nat × Nat} {cs : Nat × Nat} {R : f_Rt} {c_X12_isSign : Int → e_M → (Int → Prop) → Prop} {c_X12_wrong : Int → e_M → (Int → e_M → Prop) → Prop} {c_X12_good : Int → e_M → (Int → e_M → Prop) → Prop} {c_X12_mustAmount2 : Nat → Int → e_M → (Int → e_M → Prop) → Prop} {c_X12_mustSign : Int → e_M → (Int → e_M → Prop) → Prop} {k35 : Int → Int → e_M → Prop} {x1 : Int} {x2 : Int} {M : e_M} (C : f_Hy sh t yX12_mustPoints rm cs 10 (lX12_mustPoints c_X12_isSign c_X12_wrong c_X12_good c_X12_mustAmount2 c_X12_mustSign) R) (h35 : ∀ (x1 : Int) (xs1 : Int) (M : e_M), k35 x1 xs1 M → f_E sh t YX12_mustPoints rm cs (f_Q sh t R) 35 [.inr (.inr (.inl (12, 123, 4456))), .inl x1, .inr (.inr (.inr ()))] [.inl xs1, .inr (.inr (.inl (12, 123, 4456)))] M) (h : VX12_mustPoints_4 c_X12_isSign c_X12_wrong c_X12_good c_X12_mustAmount2 c_X12_mustSign k35 (fun r M => R (some (.inl r)) M) x1 x2 M) : f_E sh t YX12_mustPoints rm cs (f_Q sh t R) 4 [.inr (.inr (.inl (12, 123, 4456))), .inl x1, .inl x2] [] M :=
  f_go (KC := f_kc [(35, f_pl [(4466, 12, 123), (1, 0, 0), (0, 0, 0)] [(1, 0, 0), (4466, 12, 123)] (fun ls st M => k35 (f_vi (f_nth ls 1)) (f_vi (f_nth st 0)) M))]) C qX12_mustPointsf (f_kc_cons (f_pl_ok rfl (fun ls st M h => h35 _ _ M h)) f_kc_nil) 65 5 h
set_option maxRecDepth 20000 in
theorem BX12_mustPoints_35 {sh : Nat → Nat × Nat} {t : Nat} {rm : Nat × Nat × Nat} {cs : Nat × Nat} {R : f_Rt} {c_X12_isSign : Int → e_M → (Int → Prop) → Prop} {c_X12_wrong : Int → e_M → (Int → e_M → Prop) → Prop} {c_X12_good : Int → e_M → (Int → e_M → Prop) → Prop} {c_X12_mustAmount2 : Nat → Int → e_M → (Int → e_M → Prop) → Prop} {c_X12_mustSign : Int → e_M → (Int → e_M → Prop) → Prop} {k4 : Int → Int → e_M → Prop} {x1 : Int} {xs1 : Int} {M : e_M} (C : f_Hy sh t yX12_mustPoints rm cs 10 (lX12_mustPoints c_X12_isSign c_X12_wrong c_X12_good c_X12_mustAmount2 c_X12_mustSign) R) (h4 : ∀ (x1 : Int) (x2 : Int) (M : e_M), k4 x1 x2 M → f_E sh t YX12_mustPoints rm cs (f_Q sh t R) 4 [.inr (.inr (.inl (12, 123, 4456))), .inl x1, .inl x2] [] M) (h : VX12_mustPoints_35 c_X12_isSign c_X12_wrong c_X12_good c_X12_mustAmount2 c_X12_mustSign k4 (fun r M => R (some (.inl r)) M) x1 xs1 M) : f_E sh t YX12_mustPoints rm cs (f_Q sh t R) 35 [.inr (.inr (.inl (12, 123, 4456))), .inl x1, .inr (.inr (.inr ()))] [.inl xs1, .inr (.inr (.inl (12, 123, 4456)))] M :=
  f_go (KC := f_kc [(4, f_pl [(4466, 12, 123), (1, 0, 0), (1, 0, 0)] [] (fun ls st M => k4 (f_vi (f_nth ls 1)) (f_vi (f_nth ls 2)) M))]) C qX12_mustPointsf (f_kc_cons (f_pl_ok rfl (fun ls st M h => h4 _ _ M h)) f_kc_nil) 65 23 h
set_option maxRecDepth 20000 in
theorem BX12_mustPoints {sh : Nat → Nat × Nat} {t : Nat} {rm : Nat × Nat × Nat} {cs : Nat × Nat} {R : f_Rt} {c_X12_isSign : Int → e_M → (Int → Prop) → Prop} {c_X12_wrong : Int → e_M → (Int → e_M → Prop) → Prop} {c_X12_good : Int → e_M → (Int → e_M → Prop) → Prop} {c_X12_mustAmount2 : Nat → Int → e_M → (Int → e_M → Prop) → Prop} {c_X12_mustSign : Int → e_M → (Int → e_M → Prop) → Prop} {k4 : Int → Int → e_M → Prop} {M : e_M} (C : f_Hy sh t yX12_mustPoints rm cs 10 (lX12_mustPoints c_X12_isSign c_X12_wrong c_X12_good c_X12_mustAmount2 c_X12_mustSign) R) (h4 : ∀ (x1 : Int) (x2 : Int) (M : e_M), k4 x1 x2 M → f_E sh t YX12_mustPoints rm cs (f_Q sh t R) 4 [.inr (.inr (.inl (12, 123, 4456))), .inl x1, .inl x2] [] M) (h : VX12_mustPoints c_X12_isSign c_X12_wrong c_X12_good c_X12_mustAmount2 c_X12_mustSign k4 (fun r M => R (some (.inl r)) M) M) : f_E sh t YX12_mustPoints rm cs (f_Q sh t R) 0 [.inr (.inr (.inl (12, 123, 4456))), .inr (.inr (.inr ())), .inr (.inr (.inr ()))] [] M :=
  f_go (KC := f_kc [(4, f_pl [(4466, 12, 123), (1, 0, 0), (1, 0, 0)] [] (fun ls st M => k4 (f_vi (f_nth ls 1)) (f_vi (f_nth ls 2)) M))]) C qX12_mustPointsf (f_kc_cons (f_pl_ok rfl (fun ls st M h => h4 _ _ M h)) f_kc_nil) 65 0 h
def WX12_mustPoints_35 (H4 : Int → Int → e_M → Prop) (Q : Int → e_M → Prop) (x1 : Int) (xs1 : Int) (M : e_M) : Prop :=
  VX12_mustPoints_35 WX12_isSign WX12_wrong WX12_good WX12_mustAmount2 WX12_mustSign H4 Q x1 xs1 M
def WX12_mustPoints_4 (Q : Int → e_M → Prop) : Nat → Int → Int → e_M → Prop
  | 0, _, _, _ => False
  | n + 1, x1, x2, M =>
    VX12_mustPoints_4 WX12_isSign WX12_wrong WX12_good WX12_mustAmount2 WX12_mustSign (WX12_mustPoints_35 (WX12_mustPoints_4 Q n) Q) Q x1 x2 M
def WX12_mustPoints (M : e_M) (Q : Int → e_M → Prop) : Prop :=
  VX12_mustPoints WX12_isSign WX12_wrong WX12_good WX12_mustAmount2 WX12_mustSign (fun x1 x2 M => ∃ j, WX12_mustPoints_4 Q j x1 x2 M) Q M
theorem PX12_mustPoints_35 {sh : Nat → Nat × Nat} {t : Nat} {rm : Nat × Nat × Nat} {cs : Nat × Nat} {R : f_Rt} {H4 : Int → Int → e_M → Prop} {x1 : Int} {xs1 : Int} {M : e_M} (C : f_Hy sh t yX12_mustPoints rm cs 10 (lX12_mustPoints WX12_isSign WX12_wrong WX12_good WX12_mustAmount2 WX12_mustSign) R) (g4 : ∀ (x1 : Int) (x2 : Int) (M : e_M), H4 x1 x2 M → f_E sh t YX12_mustPoints rm cs (f_Q sh t R) 4 [.inr (.inr (.inl (12, 123, 4456))), .inl x1, .inl x2] [] M) (h : WX12_mustPoints_35 H4 (fun r M => R (some (.inl r)) M) x1 xs1 M) : f_E sh t YX12_mustPoints rm cs (f_Q sh t R) 35 [.inr (.inr (.inl (12, 123, 4456))), .inl x1, .inr (.inr (.inr ()))] [.inl xs1, .inr (.inr (.inl (12, 123, 4456)))] M :=
  BX12_mustPoints_35 C g4 h
theorem PX12_mustPoints_4 {sh : Nat → Nat × Nat} {t : Nat} {rm : Nat × Nat × Nat} {cs : Nat × Nat} {R : f_Rt} (C : f_Hy sh t yX12_mustPoints rm cs 10 (lX12_mustPoints WX12_isSign WX12_wrong WX12_good WX12_mustAmount2 WX12_mustSign) R) : ∀ (n : Nat) (x1 : Int) (x2 : Int) (M : e_M), WX12_mustPoints_4 (fun r M => R (some (.inl r)) M) n x1 x2 M → f_E sh t YX12_mustPoints rm cs (f_Q sh t R) 4 [.inr (.inr (.inl (12, 123, 4456))), .inl x1, .inl x2] [] M := by
  intro n
  induction n with
  | zero => intro x1 x2 M h; exact h.elim
  | succ n ih => intro x1 x2 M h; exact BX12_mustPoints_4 C (fun x1 xs1 M h => PX12_mustPoints_35 C ih h) h
theorem PX12_mustPoints {sh : Nat → Nat × Nat} {t : Nat} {rm : Nat × Nat × Nat} {cs : Nat × Nat} {R : f_Rt} {M : e_M} (C : f_Hy sh t yX12_mustPoints rm cs 10 (lX12_mustPoints WX12_isSign WX12_wrong WX12_good WX12_mustAmount2 WX12_mustSign) R) (h : WX12_mustPoints M (fun r M => R (some (.inl r)) M)) : f_E sh t YX12_mustPoints rm cs (f_Q sh t R) 0 [.inr (.inr (.inl (12, 123, 4456))), .inr (.inr (.inr ())), .inr (.inr (.inr ()))] [] M :=
  BX12_mustPoints C (fun x1 x2 M ⟨j, h⟩ => PX12_mustPoints_4 C j _ _ _ h) h
def wX12_mustPoints : f_Wt := f_wm [(4466, 12, 123)] (fun ar M R => WX12_mustPoints M (fun r M => R (some (.inl r)) M))
theorem TX12_mustPoints {sh : Nat → Nat × Nat} {t : Nat} : f_Mt sh t YX12_mustPoints 10 (wX12_mustPoints) :=
  f_Mt_of (k := 2) (Nat.le_of_ble_eq_true rfl) rfl rfl (fun ar M R rm cs h1 h2 h3 hX h => PX12_mustPoints ⟨Nat.le_of_ble_eq_true rfl, h1, h2, h3, ⟨(f_Mt.up (Nat.le_of_ble_eq_true rfl) TX12_isSign), (f_Mt.up (Nat.le_of_ble_eq_true rfl) TX12_wrong), (f_Mt.up (Nat.le_of_ble_eq_true rfl) TX12_good), (f_Mt.up (Nat.le_of_ble_eq_true rfl) TX12_mustAmount2), (f_Mt.up (Nat.le_of_ble_eq_true rfl) TX12_mustSign), trivial⟩, hX⟩ h)
def VX12_isAct_23 (k77 : Prop) (k41 : Int → Prop) (Q : Int → Prop) (x0 : Int) (M : e_M) : Prop :=
  ((x0 = 14 → (k77)) ∧ (¬ x0 = 14 → ((x0 < 16 → (k41 x0)) ∧ (16 ≤ x0 → ((x0 ≤ 21 → (k77)) ∧ (21 < x0 → (k41 x0)))))))
def VX12_isAct_41 (k53 : Int → Prop) (k77 : Prop) (Q : Int → Prop) (x0 : Int) (M : e_M) : Prop :=
  ((x0 < 23 → (k53 x0)) ∧ (23 ≤ x0 → ((x0 ≤ 25 → (k77)) ∧ (25 < x0 → (k53 x0)))))
def VX12_isAct_53 (k77 : Prop) (Q : Int → Prop) (x0 : Int) (M : e_M) : Prop :=
  ((x0 = 29 → (k77)) ∧ (¬ x0 = 29 → ((x0 = 30 → (k77)) ∧ (¬ x0 = 30 → ((x0 < 32 → (Q 0)) ∧ (32 ≤ x0 → ((35 < x0 → (Q 0)) ∧ (x0 ≤ 35 → (k77)))))))))
def VX12_isAct_77 (Q : Int → Prop) (M : e_M) : Prop :=
  (Q 1)
def VX12_isAct (k77 : Prop) (k23 : Int → Prop) (Q : Int → Prop) (x0 : Int) (M : e_M) : Prop :=
  ((x0 = 4 → (k77)) ∧ (¬ x0 = 4 → ((x0 = 6 → (k77)) ∧ (¬ x0 = 6 → ((x0 < 8 → (k23 x0)) ∧ (8 ≤ x0 → ((x0 ≤ 11 → (k77)) ∧ (11 < x0 → (k23 x0)))))))))
def yX12_isAct (i : Nat) : e_Y := x_get YX12_isAct [] i
def pX12_isActf : List x_I := [(0, 2, 1, 0, 0, 0, []), (1, 0, 1, 0, 0, 4, []), (2, 18, 77, 0, 43, 0, []), (5, 2, 1, 0, 0, 0, []), (6, 0, 2, 0, 0, 6, []), (8, 18, 77, 0, 43, 0, []), (11, 2, 1, 0, 0, 0, []), (12, 0, 2, 0, 0, 8, []), (14, 18, 23, 2, 13, 0, []), (17, 2, 1, 0, 0, 0, []), (18, 0, 2, 0, 0, 11, []), (20, 18, 77, 5, 43, 0, []), (23, 49, 0, 0, 0, 0, []), (23, 2, 1, 0, 0, 0, []), (24, 0, 2, 0, 0, 14, []), (26, 18, 77, 0, 43, 0, []), (29, 2, 1, 0, 0, 0, []), (30, 0, 2, 0, 0, 16, []), (32, 18, 41, 2, 23, 0, []), (35, 2, 1, 0, 0, 0, []), (36, 0, 2, 0, 0, 21, []), (38, 18, 77, 5, 43, 0, []), (41, 49, 0, 0, 0, 0, []), (41, 2, 1, 0, 0, 0, []), (42, 0, 2, 0, 0, 23, []), (44, 18, 53, 2, 30, 0, []), (47, 2, 1, 0, 0, 0, []), (48, 0, 2, 0, 0, 25, []), (50, 18, 77, 5, 43, 0, []), (53, 49, 0, 0, 0, 0, []), (53, 2, 1, 0, 0, 0, []), (54, 0, 2, 0, 0, 29, []), (56, 18, 77, 0, 43, 0, []), (59, 2, 1, 0, 0, 0, []), (60, 0, 2, 0, 0, 30, []), (62, 18, 77, 0, 43, 0, []), (65, 2, 1, 0, 0, 0, []), (66, 0, 2, 0, 0, 32, []), (68, 18, 81, 2, 46, 0, []), (71, 2, 1, 0, 0, 0, []), (72, 0, 2, 0, 0, 35, []), (74, 18, 81, 4, 46, 0, []), (77, 49, 0, 0, 0, 0, []), (77, 0, 1, 0, 0, 1, []), (78, 19, 82, 0, 47, 0, []), (81, 0, 1, 0, 0, 0, []), (82, 48, 0, 0, 0, 0, [])]
set_option maxRecDepth 20000 in
theorem qX12_isActf : f_all yX12_isAct YX12_isAct pX12_isActf :=
  ⟨f_iload_n (n := 0) (e_dx DX12_isAct_0 0 rfl) rfl,
  f_iconst (e_dx DX12_isAct_0 1 rfl) ⟨by decide, by decide⟩,
  f_icmp_eq (e_dx DX12_isAct_0 2 rfl) rfl,
  f_iload_n (n := 0) (e_dx DX12_isAct_0 3 rfl) rfl,
  f_bipush (e_dx DX12_isAct_0 4 rfl) ⟨by decide, by decide⟩,
  f_icmp_eq (e_dx DX12_isAct_0 5 rfl) rfl,
  f_iload_n (n := 0) (e_dx DX12_isAct_0 6 rfl) rfl,
  f_bipush (e_dx DX12_isAct_0 7 rfl) ⟨by decide, by decide⟩,
  f_icmp_lt (e_dx DX12_isAct_0 8 rfl) rfl,
  f_iload_n (n := 0) (e_dx DX12_isAct_0 9 rfl) rfl,
  f_bipush (e_dx DX12_isAct_0 10 rfl) ⟨by decide, by decide⟩,
  f_icmp_le (e_dx DX12_isAct_0 11 rfl) rfl,
  trivial,
  f_iload_n (n := 0) (e_dx DX12_isAct_0 12 rfl) rfl,
  f_bipush (e_dx DX12_isAct_0 13 rfl) ⟨by decide, by decide⟩,
  f_icmp_eq (e_dx DX12_isAct_0 14 rfl) rfl,
  f_iload_n (n := 0) (e_dx DX12_isAct_0 15 rfl) rfl,
  f_bipush (e_dx DX12_isAct_0 16 rfl) ⟨by decide, by decide⟩,
  f_icmp_lt (e_dx DX12_isAct_0 17 rfl) rfl,
  f_iload_n (n := 0) (e_dx DX12_isAct_0 18 rfl) rfl,
  f_bipush (e_dx DX12_isAct_0 19 rfl) ⟨by decide, by decide⟩,
  f_icmp_le (e_dx DX12_isAct_0 20 rfl) rfl,
  trivial,
  f_iload_n (n := 0) (e_dx DX12_isAct_0 21 rfl) rfl,
  f_bipush (e_dx DX12_isAct_0 22 rfl) ⟨by decide, by decide⟩,
  f_icmp_lt (e_dx DX12_isAct_0 23 rfl) rfl,
  f_iload_n (n := 0) (e_dx DX12_isAct_0 24 rfl) rfl,
  f_bipush (e_dx DX12_isAct_0 25 rfl) ⟨by decide, by decide⟩,
  f_icmp_le (e_dx DX12_isAct_0 26 rfl) rfl,
  trivial,
  f_iload_n (n := 0) (e_dx DX12_isAct_0 27 rfl) rfl,
  f_bipush (e_dx DX12_isAct_0 28 rfl) ⟨by decide, by decide⟩,
  f_icmp_eq (e_dx DX12_isAct_0 29 rfl) rfl,
  f_iload_n (n := 0) (e_dx DX12_isAct_0 30 rfl) rfl,
  f_bipush (e_dx DX12_isAct_0 31 rfl) ⟨by decide, by decide⟩,
  f_icmp_eq (e_dx DX12_isAct_0 32 rfl) rfl,
  f_iload_n (n := 0) (e_dx DX12_isAct_0 33 rfl) rfl,
  f_bipush (e_dx DX12_isAct_0 34 rfl) ⟨by decide, by decide⟩,
  f_icmp_lt (e_dx DX12_isAct_0 35 rfl) rfl,
  f_iload_n (n := 0) (e_dx DX12_isAct_0 36 rfl) rfl,
  f_bipush (e_dx DX12_isAct_0 37 rfl) ⟨by decide, by decide⟩,
  f_icmp_gt (e_dx DX12_isAct_0 38 rfl) rfl,
  trivial,
  f_iconst (e_dx DX12_isAct_0 39 rfl) ⟨by decide, by decide⟩,
  f_g19 (e_dx DX12_isAct_1 0 rfl) rfl,
  f_iconst (e_dx DX12_isAct_1 1 rfl) ⟨by decide, by decide⟩,
  ⟨(e_dx DX12_isAct_1 2 rfl), rfl⟩, trivial⟩
def lX12_isAct : List (Nat × f_Wt) := []
set_option maxRecDepth 20000 in
theorem BX12_isAct_23 {sh : Nat → Nat × Nat} {t : Nat} {rm : Nat × Nat × Nat} {cs : Nat × Nat} {R : f_Rt} {k77 : Prop} {k41 : Int → Prop} {x0 : Int} {M : e_M} (C : f_Hy sh t yX12_isAct rm cs 4 (lX12_isAct) R) (h77 : k77 → f_E sh t YX12_isAct rm cs (f_Q sh t R) 77 [.inr (.inr (.inr ()))] [] M) (h41 : ∀ (x0 : Int), k41 x0 → f_E sh t YX12_isAct rm cs (f_Q sh t R) 41 [.inl x0] [] M) (h : VX12_isAct_23 k77 k41 (fun r => R (some (.inl r)) M) x0 M) : f_E sh t YX12_isAct rm cs (f_Q sh t R) 23 [.inl x0] [] M := by
  rw [f_kk0 M k77] at h
  rw [f_kk1 M k41] at h
  exact f_go (KC := f_kc [(77, f_pl [(0, 0, 0)] [] (fun ls st M2 => M2 = M ∧ (k77))), (41, f_pl [(1, 0, 0)] [] (fun ls st M2 => M2 = M ∧ (k41 (f_vi (f_nth ls 0)))))]) C qX12_isActf (f_kc_cons (f_pl_ok rfl (fun ls st M2 ⟨e, hh⟩ => by subst e; exact h77  hh)) (f_kc_cons (f_pl_ok rfl (fun ls st M2 ⟨e, hh⟩ => by subst e; exact h41 _ hh)) f_kc_nil)) 49 13 h
set_option maxRecDepth 20000 in
theorem BX12_isAct_41 {sh : Nat → Nat × Nat} {t : Nat} {rm : Nat × Nat × Nat} {cs : Nat × Nat} {R : f_Rt} {k53 : Int → Prop} {k77 : Prop} {x0 : Int} {M : e_M} (C : f_Hy sh t yX12_isAct rm cs 4 (lX12_isAct) R) (h53 : ∀ (x0 : Int), k53 x0 → f_E sh t YX12_isAct rm cs (f_Q sh t R) 53 [.inl x0] [] M) (h77 : k77 → f_E sh t YX12_isAct rm cs (f_Q sh t R) 77 [.inr (.inr (.inr ()))] [] M) (h : VX12_isAct_41 k53 k77 (fun r => R (some (.inl r)) M) x0 M) : f_E sh t YX12_isAct rm cs (f_Q sh t R) 41 [.inl x0] [] M := by
  rw [f_kk1 M k53] at h
  rw [f_kk0 M k77] at h
  exact f_go (KC := f_kc [(53, f_pl [(1, 0, 0)] [] (fun ls st M2 => M2 = M ∧ (k53 (f_vi (f_nth ls 0))))), (77, f_pl [(0, 0, 0)] [] (fun ls st M2 => M2 = M ∧ (k77)))]) C qX12_isActf (f_kc_cons (f_pl_ok rfl (fun ls st M2 ⟨e, hh⟩ => by subst e; exact h53 _ hh)) (f_kc_cons (f_pl_ok rfl (fun ls st M2 ⟨e, hh⟩ => by subst e; exact h77  hh)) f_kc_nil)) 49 23 h
set_option maxRecDepth 20000 in
theorem BX12_isAct_53 {sh : Nat → Nat × Nat} {t : Nat} {rm : Nat × Nat × Nat} {cs : Nat × Nat} {R : f_Rt} {k77 : Prop} {x0 : Int} {M : e_M} (C : f_Hy sh t yX12_isAct rm cs 4 (lX12_isAct) R) (h77 : k77 → f_E sh t YX12_isAct rm cs (f_Q sh t R) 77 [.inr (.inr (.inr ()))] [] M) (h : VX12_isAct_53 k77 (fun r => R (some (.inl r)) M) x0 M) : f_E sh t YX12_isAct rm cs (f_Q sh t R) 53 [.inl x0] [] M := by
  rw [f_kk0 M k77] at h
  exact f_go (KC := f_kc [(77, f_pl [(0, 0, 0)] [] (fun ls st M2 => M2 = M ∧ (k77)))]) C qX12_isActf (f_kc_cons (f_pl_ok rfl (fun ls st M2 ⟨e, hh⟩ => by subst e; exact h77  hh)) f_kc_nil) 49 30 h
set_option maxRecDepth 20000 in
theorem BX12_isAct_77 {sh : Nat → Nat × Nat} {t : Nat} {rm : Nat × Nat × Nat} {cs : Nat × Nat} {R : f_Rt} {M : e_M} (C : f_Hy sh t yX12_isAct rm cs 4 (lX12_isAct) R) (h : VX12_isAct_77 (fun r => R (some (.inl r)) M) M) : f_E sh t YX12_isAct rm cs (f_Q sh t R) 77 [.inr (.inr (.inr ()))] [] M :=
  f_go (KC := f_kc []) C qX12_isActf f_kc_nil 49 43 h
set_option maxRecDepth 20000 in
theorem BX12_isAct {sh : Nat → Nat × Nat} {t : Nat} {rm : Nat × Nat × Nat} {cs : Nat × Nat} {R : f_Rt} {k77 : Prop} {k23 : Int → Prop} {x0 : Int} {M : e_M} (C : f_Hy sh t yX12_isAct rm cs 4 (lX12_isAct) R) (h77 : k77 → f_E sh t YX12_isAct rm cs (f_Q sh t R) 77 [.inr (.inr (.inr ()))] [] M) (h23 : ∀ (x0 : Int), k23 x0 → f_E sh t YX12_isAct rm cs (f_Q sh t R) 23 [.inl x0] [] M) (h : VX12_isAct k77 k23 (fun r => R (some (.inl r)) M) x0 M) : f_E sh t YX12_isAct rm cs (f_Q sh t R) 0 [.inl x0] [] M := by
  rw [f_kk0 M k77] at h
  rw [f_kk1 M k23] at h
  exact f_go (KC := f_kc [(77, f_pl [(0, 0, 0)] [] (fun ls st M2 => M2 = M ∧ (k77))), (23, f_pl [(1, 0, 0)] [] (fun ls st M2 => M2 = M ∧ (k23 (f_vi (f_nth ls 0)))))]) C qX12_isActf (f_kc_cons (f_pl_ok rfl (fun ls st M2 ⟨e, hh⟩ => by subst e; exact h77  hh)) (f_kc_cons (f_pl_ok rfl (fun ls st M2 ⟨e, hh⟩ => by subst e; exact h23 _ hh)) f_kc_nil)) 49 0 h
def WX12_isAct_77 (M : e_M) (Q : Int → Prop) : Prop :=
  VX12_isAct_77 Q M
def WX12_isAct_53 (M : e_M) (Q : Int → Prop) (x0 : Int) : Prop :=
  VX12_isAct_53 (WX12_isAct_77 M Q) Q x0 M
def WX12_isAct_41 (M : e_M) (Q : Int → Prop) (x0 : Int) : Prop :=
  VX12_isAct_41 (WX12_isAct_53 M Q) (WX12_isAct_77 M Q) Q x0 M
def WX12_isAct_23 (M : e_M) (Q : Int → Prop) (x0 : Int) : Prop :=
  VX12_isAct_23 (WX12_isAct_77 M Q) (WX12_isAct_41 M Q) Q x0 M
def WX12_isAct (x0 : Int) (M : e_M) (Q : Int → Prop) : Prop :=
  VX12_isAct (WX12_isAct_77 M Q) (WX12_isAct_23 M Q) Q x0 M
theorem PX12_isAct_77 {sh : Nat → Nat × Nat} {t : Nat} {rm : Nat × Nat × Nat} {cs : Nat × Nat} {R : f_Rt} {M : e_M} (C : f_Hy sh t yX12_isAct rm cs 4 (lX12_isAct) R) (h : WX12_isAct_77 M (fun r => R (some (.inl r)) M)) : f_E sh t YX12_isAct rm cs (f_Q sh t R) 77 [.inr (.inr (.inr ()))] [] M :=
  BX12_isAct_77 C h
theorem PX12_isAct_53 {sh : Nat → Nat × Nat} {t : Nat} {rm : Nat × Nat × Nat} {cs : Nat × Nat} {R : f_Rt} {x0 : Int} {M : e_M} (C : f_Hy sh t yX12_isAct rm cs 4 (lX12_isAct) R) (h : WX12_isAct_53 M (fun r => R (some (.inl r)) M) x0) : f_E sh t YX12_isAct rm cs (f_Q sh t R) 53 [.inl x0] [] M :=
  BX12_isAct_53 C (fun h => PX12_isAct_77 C h) h
theorem PX12_isAct_41 {sh : Nat → Nat × Nat} {t : Nat} {rm : Nat × Nat × Nat} {cs : Nat × Nat} {R : f_Rt} {x0 : Int} {M : e_M} (C : f_Hy sh t yX12_isAct rm cs 4 (lX12_isAct) R) (h : WX12_isAct_41 M (fun r => R (some (.inl r)) M) x0) : f_E sh t YX12_isAct rm cs (f_Q sh t R) 41 [.inl x0] [] M :=
  BX12_isAct_41 C (fun x0 h => PX12_isAct_53 C h) (fun h => PX12_isAct_77 C h) h
theorem PX12_isAct_23 {sh : Nat → Nat × Nat} {t : Nat} {rm : Nat × Nat × Nat} {cs : Nat × Nat} {R : f_Rt} {x0 : Int} {M : e_M} (C : f_Hy sh t yX12_isAct rm cs 4 (lX12_isAct) R) (h : WX12_isAct_23 M (fun r => R (some (.inl r)) M) x0) : f_E sh t YX12_isAct rm cs (f_Q sh t R) 23 [.inl x0] [] M :=
  BX12_isAct_23 C (fun h => PX12_isAct_77 C h) (fun x0 h => PX12_isAct_41 C h) h
theorem PX12_isAct {sh : Nat → Nat × Nat} {t : Nat} {rm : Nat × Nat × Nat} {cs : Nat × Nat} {R : f_Rt} {x0 : Int} {M : e_M} (C : f_Hy sh t yX12_isAct rm cs 4 (lX12_isAct) R) (h : WX12_isAct x0 M (fun r => R (some (.inl r)) M)) : f_E sh t YX12_isAct rm cs (f_Q sh t R) 0 [.inl x0] [] M :=
  BX12_isAct C (fun h => PX12_isAct_77 C h) (fun x0 h => PX12_isAct_23 C h) h
def wX12_isAct : f_Wt := f_wm [(1, 0, 0)] (fun ar M R => WX12_isAct (f_vi (f_nth ar 0)) M (fun r => R (some (.inl r)) M))
theorem TX12_isAct {sh : Nat → Nat × Nat} {t : Nat} : f_Mt sh t YX12_isAct 4 (wX12_isAct) :=
  f_Mt_of (k := 0) (Nat.le_of_ble_eq_true rfl) rfl rfl (fun ar M R rm cs h1 h2 h3 hX h => PX12_isAct ⟨Nat.le_of_ble_eq_true rfl, h1, h2, h3, trivial, hX⟩ h)
def VX12_first_219 (c_X12_mustName : Int → e_M → (Int → e_M → Prop) → Prop) (c_X12_must : Int → e_M → (Int → e_M → Prop) → Prop) (c_X12_mustDate : e_M → (Int → e_M → Prop) → Prop) (c_X12_isWord : Int → e_M → (Int → Prop) → Prop) (c_X12_mustParts : e_M → (Int → e_M → Prop) → Prop) (c_X12_mustShare : e_M → (Int → e_M → Prop) → Prop) (c_X12_mustAmount : e_M → (Int → e_M → Prop) → Prop) (c_X12_mustPoints : e_M → (Int → e_M → Prop) → Prop) (c_X12_mustSign : Int → e_M → (Int → e_M → Prop) → Prop) (c_X12_mustNames : e_M → (Int → e_M → Prop) → Prop) (c_X12_wrong : Int → e_M → (Int → e_M → Prop) → Prop) (c_X12_good : Int → e_M → (Int → e_M → Prop) → Prop) (Q : Int → e_M → Prop) (M : e_M) : Prop :=
  (Q 1 M)
def VX12_first_289 (c_X12_mustName : Int → e_M → (Int → e_M → Prop) → Prop) (c_X12_must : Int → e_M → (Int → e_M → Prop) → Prop) (c_X12_mustDate : e_M → (Int → e_M → Prop) → Prop) (c_X12_isWord : Int → e_M → (Int → Prop) → Prop) (c_X12_mustParts : e_M → (Int → e_M → Prop) → Prop) (c_X12_mustShare : e_M → (Int → e_M → Prop) → Prop) (c_X12_mustAmount : e_M → (Int → e_M → Prop) → Prop) (c_X12_mustPoints : e_M → (Int → e_M → Prop) → Prop) (c_X12_mustSign : Int → e_M → (Int → e_M → Prop) → Prop) (c_X12_mustNames : e_M → (Int → e_M → Prop) → Prop) (c_X12_wrong : Int → e_M → (Int → e_M → Prop) → Prop) (c_X12_good : Int → e_M → (Int → e_M → Prop) → Prop) (Q : Int → e_M → Prop) (M : e_M) : Prop :=
  (c_X12_must 3 M (fun r1 M2 => ((r1 = 0 → (Q 0 M2)) ∧ (¬ r1 = 0 → (c_X12_mustParts M2 (fun r3 M4 => ((r3 = 0 → (Q 0 M4)) ∧ (¬ r3 = 0 → (c_X12_must 13 M4 (fun r5 M6 => ((r5 = 0 → (Q 0 M6)) ∧ (¬ r5 = 0 → (c_X12_mustAmount M6 (fun r7 M8 => ((r7 = 0 → (Q 0 M8)) ∧ (¬ r7 = 0 → (Q 1 M8)))))))))))))))))
def VX12_first_701 (c_X12_mustName : Int → e_M → (Int → e_M → Prop) → Prop) (c_X12_must : Int → e_M → (Int → e_M → Prop) → Prop) (c_X12_mustDate : e_M → (Int → e_M → Prop) → Prop) (c_X12_isWord : Int → e_M → (Int → Prop) → Prop) (c_X12_mustParts : e_M → (Int → e_M → Prop) → Prop) (c_X12_mustShare : e_M → (Int → e_M → Prop) → Prop) (c_X12_mustAmount : e_M → (Int → e_M → Prop) → Prop) (c_X12_mustPoints : e_M → (Int → e_M → Prop) → Prop) (c_X12_mustSign : Int → e_M → (Int → e_M → Prop) → Prop) (c_X12_mustNames : e_M → (Int → e_M → Prop) → Prop) (c_X12_wrong : Int → e_M → (Int → e_M → Prop) → Prop) (c_X12_good : Int → e_M → (Int → e_M → Prop) → Prop) (Q : Int → e_M → Prop) (M : e_M) : Prop :=
  (c_X12_wrong 1 M (fun r1 M2 => ((r1 = 0 ∨ r1 = 1) ∧ Q r1 M2)))
def VX12_first (c_X12_mustName : Int → e_M → (Int → e_M → Prop) → Prop) (c_X12_must : Int → e_M → (Int → e_M → Prop) → Prop) (c_X12_mustDate : e_M → (Int → e_M → Prop) → Prop) (c_X12_isWord : Int → e_M → (Int → Prop) → Prop) (c_X12_mustParts : e_M → (Int → e_M → Prop) → Prop) (c_X12_mustShare : e_M → (Int → e_M → Prop) → Prop) (c_X12_mustAmount : e_M → (Int → e_M → Prop) → Prop) (c_X12_mustPoints : e_M → (Int → e_M → Prop) → Prop) (c_X12_mustSign : Int → e_M → (Int → e_M → Prop) → Prop) (c_X12_mustNames : e_M → (Int → e_M → Prop) → Prop) (c_X12_wrong : Int → e_M → (Int → e_M → Prop) → Prop) (c_X12_good : Int → e_M → (Int → e_M → Prop) → Prop) (k701 : e_M → Prop) (k289 : e_M → Prop) (k219 : e_M → Prop) (Q : Int → e_M → Prop) (x1 : Int) (M : e_M) : Prop :=
  (c_X12_mustName 0 M (fun r1 M2 => ((¬ r1 = 0 → ((x1 = 4 → (c_X12_must 5 M2 (fun r279 M280 => ((r279 = 0 → (Q 0 M280)) ∧ (¬ r279 = 0 → (c_X12_mustDate M280 (fun r281 M282 => ((r281 = 0 → (Q 0 M282)) ∧ (¬ r281 = 0 → (Q 1 M282)))))))))) ∧ (¬ x1 = 4 → ((x1 = 5 → (c_X12_must 0 M2 (fun r267 M268 => ((r267 = 0 → (Q 0 M268)) ∧ (¬ r267 = 0 → (c_X12_mustName 0 M268 (fun r269 M270 => ((r269 = 0 → (Q 0 M270)) ∧ (¬ r269 = 0 → (c_X12_must 3 M270 (fun r271 M272 => ((r271 = 0 → (Q 0 M272)) ∧ (¬ r271 = 0 → (c_X12_mustName 0 M272 (fun r273 M274 => ((r273 = 0 → (Q 0 M274)) ∧ (¬ r273 = 0 → (c_X12_must 31 M274 (fun r275 M276 => ((r275 = 0 → (Q 0 M276)) ∧ (¬ r275 = 0 → (c_X12_mustDate M276 (fun r277 M278 => ((r277 = 0 → (Q 0 M278)) ∧ (¬ r277 = 0 → (Q 1 M278)))))))))))))))))))))))))) ∧ (¬ x1 = 5 → ((x1 = 6 → (c_X12_must 7 M2 (fun r263 M264 => ((r263 = 0 → (Q 0 M264)) ∧ (¬ r263 = 0 → (c_X12_mustName 0 M264 (fun r265 M266 => ((r265 = 0 → (Q 0 M266)) ∧ (¬ r265 = 0 → (Q 1 M266)))))))))) ∧ (¬ x1 = 6 → ((x1 = 7 → (c_X12_must 0 M2 (fun r251 M252 => ((r251 = 0 → (Q 0 M252)) ∧ (¬ r251 = 0 → (c_X12_mustName 0 M252 (fun r253 M254 => ((r253 = 0 → (Q 0 M254)) ∧ (¬ r253 = 0 → (c_X12_must 3 M254 (fun r255 M256 => ((r255 = 0 → (Q 0 M256)) ∧ (¬ r255 = 0 → (c_X12_mustName 0 M256 (fun r257 M258 => ((r257 = 0 → (Q 0 M258)) ∧ (¬ r257 = 0 → (c_X12_must 31 M258 (fun r259 M260 => ((r259 = 0 → (Q 0 M260)) ∧ (¬ r259 = 0 → (c_X12_mustDate M260 (fun r261 M262 => ((r261 = 0 → (Q 0 M262)) ∧ (¬ r261 = 0 → (Q 1 M262)))))))))))))))))))))))))) ∧ (¬ x1 = 7 → ((x1 = 8 → (c_X12_must 7 M2 (fun r247 M248 => ((r247 = 0 → (Q 0 M248)) ∧ (¬ r247 = 0 → (c_X12_mustName 0 M248 (fun r249 M250 => ((r249 = 0 → (Q 0 M250)) ∧ (¬ r249 = 0 → (Q 1 M250)))))))))) ∧ (¬ x1 = 8 → ((x1 = 9 → (c_X12_isWord 3 M2 (fun r242 => ((r242 = 0 → (k219 M2)) ∧ (¬ r242 = 0 → (c_X12_must 3 M2 (fun r243 M244 => ((r243 = 0 → (Q 0 M244)) ∧ (¬ r243 = 0 → (c_X12_mustParts M244 (fun r245 M246 => ((r245 = 0 → (Q 0 M246)) ∧ (¬ r245 = 0 → (k219 M246)))))))))))))) ∧ (¬ x1 = 9 → ((x1 = 10 → (Q 1 M2)) ∧ (¬ x1 = 10 → ((x1 = 11 → (c_X12_must 12 M2 (fun r234 M235 => ((r234 = 0 → (Q 0 M235)) ∧ (¬ r234 = 0 → (c_X12_mustName 0 M235 (fun r236 M237 => ((¬ r236 = 0 → ((¬ (M237 4456 7) = 2 → (k289 M237)) ∧ ((M237 4456 7) = 2 → (c_X12_mustShare M237 (fun r238 M239 => ((¬ r238 = 0 → ((0 ≤ (M239 4456 35) ∧ (M239 4456 35) < 152) ∧ (∀ M240 : e_M, M240 = e_up M239 4468 ((M239 4456 35).toNat) (M239 4456 36) → ((0 ≤ (M240 4456 35) ∧ (M240 4456 35) < 152) ∧ (∀ M241 : e_M, M241 = e_up M240 4469 ((M240 4456 35).toNat) (M240 4456 37) → (k289 M241)))))) ∧ (r238 = 0 → (Q 0 M239)))))))) ∧ (r236 = 0 → (Q 0 M237)))))))))) ∧ (¬ x1 = 11 → ((x1 = 12 → (c_X12_must 0 M2 (fun r222 M223 => ((r222 = 0 → (Q 0 M223)) ∧ (¬ r222 = 0 → (c_X12_mustName 0 M223 (fun r224 M225 => ((r224 = 0 → (Q 0 M225)) ∧ (¬ r224 = 0 → (c_X12_must 3 M225 (fun r226 M227 => ((r226 = 0 → (Q 0 M227)) ∧ (¬ r226 = 0 → (c_X12_mustName 0 M227 (fun r228 M229 => ((r228 = 0 → (Q 0 M229)) ∧ (¬ r228 = 0 → (c_X12_must 31 M229 (fun r230 M231 => ((r230 = 0 → (Q 0 M231)) ∧ (¬ r230 = 0 → (c_X12_mustDate M231 (fun r232 M233 => ((r232 = 0 → (Q 0 M233)) ∧ (¬ r232 = 0 → (Q 1 M233)))))))))))))))))))))))))) ∧ (¬ x1 = 12 → ((x1 = 13 → (c_X12_must 0 M2 (fun r210 M211 => ((r210 = 0 → (Q 0 M211)) ∧ (¬ r210 = 0 → (c_X12_mustName 0 M211 (fun r212 M213 => ((r212 = 0 → (Q 0 M213)) ∧ (¬ r212 = 0 → (c_X12_must 3 M213 (fun r214 M215 => ((r214 = 0 → (Q 0 M215)) ∧ (¬ r214 = 0 → (c_X12_mustName 0 M215 (fun r216 M217 => ((r216 = 0 → (Q 0 M217)) ∧ (¬ r216 = 0 → (c_X12_must 31 M217 (fun r218 M219 => ((r218 = 0 → (Q 0 M219)) ∧ (¬ r218 = 0 → (c_X12_mustDate M219 (fun r220 M221 => ((r220 = 0 → (Q 0 M221)) ∧ (¬ r220 = 0 → (Q 1 M221)))))))))))))))))))))))))) ∧ (¬ x1 = 13 → ((x1 = 14 → (c_X12_must 7 M2 (fun r198 M199 => ((r198 = 0 → (Q 0 M199)) ∧ (¬ r198 = 0 → (c_X12_mustPoints M199 (fun r200 M201 => ((r200 = 0 → (Q 0 M201)) ∧ (¬ r200 = 0 → (c_X12_must 15 M201 (fun r202 M203 => ((r202 = 0 → (Q 0 M203)) ∧ (¬ r202 = 0 → (c_X12_mustName 0 M203 (fun r204 M205 => ((r204 = 0 → (Q 0 M205)) ∧ (¬ r204 = 0 → (c_X12_mustSign 44 M205 (fun r206 M207 => ((r206 = 0 → (Q 0 M207)) ∧ (¬ r206 = 0 → (c_X12_mustName 0 M207 (fun r208 M209 => ((r208 = 0 → (Q 0 M209)) ∧ (¬ r208 = 0 → (Q 1 M209)))))))))))))))))))))))))) ∧ (¬ x1 = 14 → ((x1 = 15 → (c_X12_must 0 M2 (fun r186 M187 => ((r186 = 0 → (Q 0 M187)) ∧ (¬ r186 = 0 → (c_X12_mustName 0 M187 (fun r188 M189 => ((r188 = 0 → (Q 0 M189)) ∧ (¬ r188 = 0 → (c_X12_must 3 M189 (fun r190 M191 => ((r190 = 0 → (Q 0 M191)) ∧ (¬ r190 = 0 → (c_X12_mustName 0 M191 (fun r192 M193 => ((r192 = 0 → (Q 0 M193)) ∧ (¬ r192 = 0 → (c_X12_must 31 M193 (fun r194 M195 => ((r194 = 0 → (Q 0 M195)) ∧ (¬ r194 = 0 → (c_X12_mustDate M195 (fun r196 M197 => ((r196 = 0 → (Q 0 M197)) ∧ (¬ r196 = 0 → (Q 1 M197)))))))))))))))))))))))))) ∧ (¬ x1 = 15 → ((x1 = 16 → (c_X12_mustSign 44 M2 (fun r178 M179 => ((r178 = 0 → (Q 0 M179)) ∧ (¬ r178 = 0 → (c_X12_mustName 0 M179 (fun r180 M181 => ((r180 = 0 → (Q 0 M181)) ∧ (¬ r180 = 0 → (c_X12_must 15 M181 (fun r182 M183 => ((r182 = 0 → (Q 0 M183)) ∧ (¬ r182 = 0 → (c_X12_mustName 0 M183 (fun r184 M185 => ((r184 = 0 → (Q 0 M185)) ∧ (¬ r184 = 0 → (Q 1 M185)))))))))))))))))) ∧ (¬ x1 = 16 → ((x1 = 17 → (c_X12_mustSign 44 M2 (fun r170 M171 => ((r170 = 0 → (Q 0 M171)) ∧ (¬ r170 = 0 → (c_X12_mustName 0 M171 (fun r172 M173 => ((r172 = 0 → (Q 0 M173)) ∧ (¬ r172 = 0 → (c_X12_must 7 M173 (fun r174 M175 => ((r174 = 0 → (Q 0 M175)) ∧ (¬ r174 = 0 → (c_X12_mustPoints M175 (fun r176 M177 => ((r176 = 0 → (Q 0 M177)) ∧ (¬ r176 = 0 → (Q 1 M177)))))))))))))))))) ∧ (¬ x1 = 17 → ((x1 = 18 → (c_X12_must 0 M2 (fun r158 M159 => ((r158 = 0 → (Q 0 M159)) ∧ (¬ r158 = 0 → (c_X12_mustNames M159 (fun r160 M161 => ((r160 = 0 → (Q 0 M161)) ∧ (¬ r160 = 0 → (c_X12_must 3 M161 (fun r162 M163 => ((r162 = 0 → (Q 0 M163)) ∧ (¬ r162 = 0 → (c_X12_mustName 0 M163 (fun r164 M165 => ((r164 = 0 → (Q 0 M165)) ∧ (¬ r164 = 0 → (c_X12_must 13 M165 (fun r166 M167 => ((r166 = 0 → (Q 0 M167)) ∧ (¬ r166 = 0 → (c_X12_mustAmount M167 (fun r168 M169 => ((r168 = 0 → (Q 0 M169)) ∧ (¬ r168 = 0 → (Q 1 M169)))))))))))))))))))))))))) ∧ (¬ x1 = 18 → ((x1 = 19 → (c_X12_must 13 M2 (fun r154 M155 => ((r154 = 0 → (Q 0 M155)) ∧ (¬ r154 = 0 → (c_X12_mustAmount M155 (fun r156 M157 => ((r156 = 0 → (Q 0 M157)) ∧ (¬ r156 = 0 → (Q 1 M157)))))))))) ∧ (¬ x1 = 19 → ((x1 = 20 → (c_X12_must 3 M2 (fun r150 M151 => ((r150 = 0 → (Q 0 M151)) ∧ (¬ r150 = 0 → (c_X12_mustName 0 M151 (fun r152 M153 => ((r152 = 0 → (Q 0 M153)) ∧ (¬ r152 = 0 → (Q 1 M153)))))))))) ∧ (¬ x1 = 20 → ((x1 = 21 → (c_X12_must 22 M2 (fun r142 M143 => ((r142 = 0 → (Q 0 M143)) ∧ (¬ r142 = 0 → (c_X12_mustName 0 M143 (fun r144 M145 => ((r144 = 0 → (Q 0 M145)) ∧ (¬ r144 = 0 → (c_X12_must 0 M145 (fun r146 M147 => ((r146 = 0 → (Q 0 M147)) ∧ (¬ r146 = 0 → (c_X12_mustName 0 M147 (fun r148 M149 => ((r148 = 0 → (Q 0 M149)) ∧ (¬ r148 = 0 → (Q 1 M149)))))))))))))))))) ∧ (¬ x1 = 21 → ((x1 = 22 → (c_X12_must 0 M2 (fun r130 M131 => ((r130 = 0 → (Q 0 M131)) ∧ (¬ r130 = 0 → (c_X12_mustName 0 M131 (fun r132 M133 => ((r132 = 0 → (Q 0 M133)) ∧ (¬ r132 = 0 → (c_X12_must 3 M133 (fun r134 M135 => ((r134 = 0 → (Q 0 M135)) ∧ (¬ r134 = 0 → (c_X12_mustName 0 M135 (fun r136 M137 => ((r136 = 0 → (Q 0 M137)) ∧ (¬ r136 = 0 → (c_X12_must 31 M137 (fun r138 M139 => ((r138 = 0 → (Q 0 M139)) ∧ (¬ r138 = 0 → (c_X12_mustDate M139 (fun r140 M141 => ((r140 = 0 → (Q 0 M141)) ∧ (¬ r140 = 0 → (Q 1 M141)))))))))))))))))))))))))) ∧ (¬ x1 = 22 → ((x1 = 23 → (c_X12_must 12 M2 (fun r126 M127 => ((r126 = 0 → (Q 0 M127)) ∧ (¬ r126 = 0 → (c_X12_mustName 0 M127 (fun r128 M129 => ((r128 = 0 → (Q 0 M129)) ∧ (¬ r128 = 0 → (Q 1 M129)))))))))) ∧ (¬ x1 = 23 → ((x1 = 24 → (c_X12_must 7 M2 (fun r114 M115 => ((r114 = 0 → (Q 0 M115)) ∧ (¬ r114 = 0 → (c_X12_mustName 0 M115 (fun r116 M117 => ((r116 = 0 → (Q 0 M117)) ∧ (¬ r116 = 0 → (c_X12_must 3 M117 (fun r118 M119 => ((r118 = 0 → (Q 0 M119)) ∧ (¬ r118 = 0 → (c_X12_mustName 0 M119 (fun r120 M121 => ((r120 = 0 → (Q 0 M121)) ∧ (¬ r120 = 0 → (c_X12_must 13 M121 (fun r122 M123 => ((r122 = 0 → (Q 0 M123)) ∧ (¬ r122 = 0 → (c_X12_mustAmount M123 (fun r124 M125 => ((r124 = 0 → (Q 0 M125)) ∧ (¬ r124 = 0 → (Q 1 M125)))))))))))))))))))))))))) ∧ (¬ x1 = 24 → ((x1 = 25 → ((¬ (M2 4456 7) = 3 → (k701 M2)) ∧ ((M2 4456 7) = 3 → (((M2 4456 10) < 36 → (k701 M2)) ∧ (36 ≤ (M2 4456 10) → (((M2 4456 10) ≤ 38 → ((0 ≤ (M2 4456 35) ∧ (M2 4456 35) < 152) ∧ (∀ M99 : e_M, M99 = e_up M2 4466 ((M2 4456 35).toNat) (e_w32 ((M2 4456 10) - 36)) → (c_X12_good 0 M99 (fun r100 M101 => ((r100 = 0 → (Q 0 M101)) ∧ (¬ r100 = 0 → (c_X12_must 26 M101 (fun r102 M103 => ((r102 = 0 → (Q 0 M103)) ∧ (¬ r102 = 0 → (c_X12_mustName 0 M103 (fun r104 M105 => ((r104 = 0 → (Q 0 M105)) ∧ (¬ r104 = 0 → (c_X12_must 27 M105 (fun r106 M107 => ((r106 = 0 → (Q 0 M107)) ∧ (¬ r106 = 0 → (c_X12_mustName 0 M107 (fun r108 M109 => ((r108 = 0 → (Q 0 M109)) ∧ (¬ r108 = 0 → (c_X12_must 28 M109 (fun r110 M111 => ((r110 = 0 → (Q 0 M111)) ∧ (¬ r110 = 0 → (c_X12_mustPoints M111 (fun r112 M113 => ((r112 = 0 → (Q 0 M113)) ∧ (¬ r112 = 0 → (Q 1 M113)))))))))))))))))))))))))))))))) ∧ (38 < (M2 4456 10) → (k701 M2)))))))) ∧ (¬ x1 = 25 → ((x1 = 26 → (c_X12_must 0 M2 (fun r87 M88 => ((r87 = 0 → (Q 0 M88)) ∧ (¬ r87 = 0 → (c_X12_mustName 0 M88 (fun r89 M90 => ((r89 = 0 → (Q 0 M90)) ∧ (¬ r89 = 0 → (c_X12_must 3 M90 (fun r91 M92 => ((r91 = 0 → (Q 0 M92)) ∧ (¬ r91 = 0 → (c_X12_mustName 0 M92 (fun r93 M94 => ((r93 = 0 → (Q 0 M94)) ∧ (¬ r93 = 0 → (c_X12_must 31 M94 (fun r95 M96 => ((r95 = 0 → (Q 0 M96)) ∧ (¬ r95 = 0 → (c_X12_mustDate M96 (fun r97 M98 => ((r97 = 0 → (Q 0 M98)) ∧ (¬ r97 = 0 → (Q 1 M98)))))))))))))))))))))))))) ∧ (¬ x1 = 26 → ((x1 = 27 → (c_X12_must 0 M2 (fun r75 M76 => ((r75 = 0 → (Q 0 M76)) ∧ (¬ r75 = 0 → (c_X12_mustName 0 M76 (fun r77 M78 => ((r77 = 0 → (Q 0 M78)) ∧ (¬ r77 = 0 → (c_X12_must 3 M78 (fun r79 M80 => ((r79 = 0 → (Q 0 M80)) ∧ (¬ r79 = 0 → (c_X12_mustName 0 M80 (fun r81 M82 => ((r81 = 0 → (Q 0 M82)) ∧ (¬ r81 = 0 → (c_X12_must 31 M82 (fun r83 M84 => ((r83 = 0 → (Q 0 M84)) ∧ (¬ r83 = 0 → (c_X12_mustDate M84 (fun r85 M86 => ((r85 = 0 → (Q 0 M86)) ∧ (¬ r85 = 0 → (Q 1 M86)))))))))))))))))))))))))) ∧ (¬ x1 = 27 → ((x1 = 28 → (c_X12_must 0 M2 (fun r63 M64 => ((r63 = 0 → (Q 0 M64)) ∧ (¬ r63 = 0 → (c_X12_mustName 0 M64 (fun r65 M66 => ((r65 = 0 → (Q 0 M66)) ∧ (¬ r65 = 0 → (c_X12_must 3 M66 (fun r67 M68 => ((r67 = 0 → (Q 0 M68)) ∧ (¬ r67 = 0 → (c_X12_mustName 0 M68 (fun r69 M70 => ((r69 = 0 → (Q 0 M70)) ∧ (¬ r69 = 0 → (c_X12_must 31 M70 (fun r71 M72 => ((r71 = 0 → (Q 0 M72)) ∧ (¬ r71 = 0 → (c_X12_mustDate M72 (fun r73 M74 => ((r73 = 0 → (Q 0 M74)) ∧ (¬ r73 = 0 → (Q 1 M74)))))))))))))))))))))))))) ∧ (¬ x1 = 28 → ((x1 = 29 → (Q 1 M2)) ∧ (¬ x1 = 29 → ((x1 = 30 → (c_X12_must 0 M2 (fun r47 M48 => ((r47 = 0 → (Q 0 M48)) ∧ (¬ r47 = 0 → (c_X12_mustName 0 M48 (fun r49 M50 => ((r49 = 0 → (Q 0 M50)) ∧ (¬ r49 = 0 → (c_X12_must 3 M50 (fun r51 M52 => ((r51 = 0 → (Q 0 M52)) ∧ (¬ r51 = 0 → (c_X12_mustName 0 M52 (fun r53 M54 => ((r53 = 0 → (Q 0 M54)) ∧ (¬ r53 = 0 → (c_X12_must 31 M54 (fun r55 M56 => ((r55 = 0 → (Q 0 M56)) ∧ (¬ r55 = 0 → (c_X12_mustDate M56 (fun r57 M58 => ((r57 = 0 → (Q 0 M58)) ∧ (¬ r57 = 0 → (c_X12_must 13 M58 (fun r59 M60 => ((r59 = 0 → (Q 0 M60)) ∧ (¬ r59 = 0 → (c_X12_mustAmount M60 (fun r61 M62 => ((r61 = 0 → (Q 0 M62)) ∧ (¬ r61 = 0 → (Q 1 M62)))))))))))))))))))))))))))))))))) ∧ (¬ x1 = 30 → ((x1 = 31 → (c_X12_must 0 M2 (fun r35 M36 => ((r35 = 0 → (Q 0 M36)) ∧ (¬ r35 = 0 → (c_X12_mustName 0 M36 (fun r37 M38 => ((r37 = 0 → (Q 0 M38)) ∧ (¬ r37 = 0 → (c_X12_must 3 M38 (fun r39 M40 => ((r39 = 0 → (Q 0 M40)) ∧ (¬ r39 = 0 → (c_X12_mustName 0 M40 (fun r41 M42 => ((r41 = 0 → (Q 0 M42)) ∧ (¬ r41 = 0 → (c_X12_must 31 M42 (fun r43 M44 => ((r43 = 0 → (Q 0 M44)) ∧ (¬ r43 = 0 → (c_X12_mustDate M44 (fun r45 M46 => ((r45 = 0 → (Q 0 M46)) ∧ (¬ r45 = 0 → (Q 1 M46)))))))))))))))))))))))))) ∧ (¬ x1 = 31 → ((x1 = 32 → (c_X12_must 0 M2 (fun r27 M28 => ((r27 = 0 → (Q 0 M28)) ∧ (¬ r27 = 0 → (c_X12_mustName 0 M28 (fun r29 M30 => ((r29 = 0 → (Q 0 M30)) ∧ (¬ r29 = 0 → (c_X12_must 7 M30 (fun r31 M32 => ((r31 = 0 → (Q 0 M32)) ∧ (¬ r31 = 0 → (c_X12_mustName 0 M32 (fun r33 M34 => ((r33 = 0 → (Q 0 M34)) ∧ (¬ r33 = 0 → (Q 1 M34)))))))))))))))))) ∧ (¬ x1 = 32 → ((x1 = 33 → (c_X12_must 0 M2 (fun r15 M16 => ((r15 = 0 → (Q 0 M16)) ∧ (¬ r15 = 0 → (c_X12_mustName 0 M16 (fun r17 M18 => ((r17 = 0 → (Q 0 M18)) ∧ (¬ r17 = 0 → (c_X12_must 3 M18 (fun r19 M20 => ((r19 = 0 → (Q 0 M20)) ∧ (¬ r19 = 0 → (c_X12_mustName 0 M20 (fun r21 M22 => ((r21 = 0 → (Q 0 M22)) ∧ (¬ r21 = 0 → (c_X12_must 31 M22 (fun r23 M24 => ((r23 = 0 → (Q 0 M24)) ∧ (¬ r23 = 0 → (c_X12_mustDate M24 (fun r25 M26 => ((r25 = 0 → (Q 0 M26)) ∧ (¬ r25 = 0 → (Q 1 M26)))))))))))))))))))))))))) ∧ (¬ x1 = 33 → ((x1 = 34 → (Q 1 M2)) ∧ (¬ x1 = 34 → ((x1 = 35 → (Q 1 M2)) ∧ (¬ x1 = 35 → (c_X12_must 0 M2 (fun r3 M4 => ((r3 = 0 → (Q 0 M4)) ∧ (¬ r3 = 0 → (c_X12_mustName 0 M4 (fun r5 M6 => ((r5 = 0 → (Q 0 M6)) ∧ (¬ r5 = 0 → (c_X12_must 3 M6 (fun r7 M8 => ((r7 = 0 → (Q 0 M8)) ∧ (¬ r7 = 0 → (c_X12_mustName 0 M8 (fun r9 M10 => ((r9 = 0 → (Q 0 M10)) ∧ (¬ r9 = 0 → (c_X12_must 31 M10 (fun r11 M12 => ((r11 = 0 → (Q 0 M12)) ∧ (¬ r11 = 0 → (c_X12_mustDate M12 (fun r13 M14 => ((r13 = 0 → (Q 0 M14)) ∧ (¬ r13 = 0 → (Q 1 M14)))))))))))))))))))))))))))))))))))))))))))))))))))))))))))))))))))))))))))))))))))))))))) ∧ (r1 = 0 → (Q 0 M2)))))
def yX12_first (i : Nat) : e_Y := x_get YX12_first [YX12_mustName, YX12_must, YX12_mustDate, YX12_isWord, YX12_mustParts, YX12_mustShare, YX12_mustAmount, YX12_mustPoints, YX12_mustSign, YX12_mustNames, YX12_wrong, YX12_good] i
def pX12_firstf : List x_I := [(0, 4, 1, 0, 0, 0, []), (1, 0, 1, 0, 0, 0, []), (2, 40, 0, 2, 14, 0, []), (5, 17, 10, 1, 7, 0, []), (8, 0, 1, 0, 0, 0, []), (9, 48, 0, 0, 0, 0, []), (10, 2, 1, 1, 0, 0, []), (11, 24, 896, 0, 387, 0, [(4, 152, 9), (5, 896, 387), (6, 173, 20), (7, 896, 387), (8, 173, 20), (9, 196, 32), (10, 225, 48), (11, 227, 50), (12, 896, 387), (13, 896, 387), (14, 326, 102), (15, 896, 387), (16, 382, 129), (17, 422, 149), (18, 461, 168), (19, 514, 194), (20, 536, 205), (21, 558, 217), (22, 896, 387), (23, 597, 237), (24, 620, 249), (25, 675, 276), (26, 896, 387), (27, 896, 387), (28, 896, 387), (29, 225, 48), (30, 787, 333), (31, 896, 387), (32, 857, 367), (33, 896, 387), (34, 225, 48), (35, 225, 48)]), (152, 4, 1, 0, 0, 0, []), (153, 0, 1, 0, 0, 5, []), (154, 40, 1, 2, 14, 0, []), (157, 17, 171, 0, 18, 0, []), (160, 4, 1, 0, 0, 0, []), (161, 40, 2, 1, 14, 0, []), (164, 17, 171, 0, 18, 0, []), (167, 0, 1, 0, 0, 1, []), (168, 19, 172, 0, 19, 0, []), (171, 0, 1, 0, 0, 0, []), (172, 48, 0, 0, 0, 0, []), (173, 4, 1, 0, 0, 0, []), (174, 0, 2, 0, 0, 7, []), (176, 40, 1, 2, 14, 0, []), (179, 17, 194, 0, 30, 0, []), (182, 4, 1, 0, 0, 0, []), (183, 0, 1, 0, 0, 0, []), (184, 40, 0, 2, 14, 0, []), (187, 17, 194, 0, 30, 0, []), (190, 0, 1, 0, 0, 1, []), (191, 19, 195, 0, 31, 0, []), (194, 0, 1, 0, 0, 0, []), (195, 48, 0, 0, 0, 0, []), (196, 4, 1, 0, 0, 0, []), (197, 0, 1, 0, 0, 3, []), (198, 40, 3, 2, 14, 0, []), (201, 17, 219, 0, 43, 0, []), (204, 4, 1, 0, 0, 0, []), (205, 0, 1, 0, 0, 3, []), (206, 40, 1, 2, 14, 0, []), (209, 17, 223, 0, 46, 0, []), (212, 4, 1, 0, 0, 0, []), (213, 40, 4, 1, 14, 0, []), (216, 17, 223, 0, 46, 0, []), (219, 49, 0, 0, 0, 0, []), (219, 0, 1, 0, 0, 1, []), (220, 19, 224, 0, 47, 0, []), (223, 0, 1, 0, 0, 0, []), (224, 48, 0, 0, 0, 0, []), (225, 0, 1, 0, 0, 1, []), (226, 48, 0, 0, 0, 0, []), (227, 4, 1, 0, 0, 0, []), (228, 0, 2, 0, 0, 12, []), (230, 40, 1, 2, 14, 0, []), (233, 17, 244, 0, 58, 0, []), (236, 4, 1, 0, 0, 0, []), (237, 0, 1, 0, 0, 0, []), (238, 40, 0, 2, 14, 0, []), (241, 17, 246, 1, 60, 0, []), (244, 0, 1, 0, 0, 0, []), (245, 48, 0, 0, 0, 0, []), (246, 4, 1, 0, 0, 0, []), (247, 25, 12, 7, 0, 0, []), (250, 0, 1, 0, 0, 2, []), (251, 18, 289, 1, 83, 0, []), (254, 4, 1, 0, 0, 0, []), (255, 40, 5, 1, 14, 0, []), (258, 17, 263, 1, 69, 0, []), (261, 0, 1, 0, 0, 0, []), (262, 48, 0, 0, 0, 0, []), (263, 4, 1, 0, 0, 0, []), (264, 25, 12, 21, 4, 0, [(0, 20, 152), (0, 1, 12)]), (267, 4, 1, 0, 0, 0, []), (268, 25, 12, 35, 0, 0, []), (271, 4, 1, 0, 0, 0, []), (272, 25, 12, 36, 0, 0, []), (275, 28, 0, 0, 0, 0, []), (276, 4, 1, 0, 0, 0, []), (277, 25, 12, 22, 4, 0, [(0, 20, 152), (0, 1, 13)]), (280, 4, 1, 0, 0, 0, []), (281, 25, 12, 35, 0, 0, []), (284, 4, 1, 0, 0, 0, []), (285, 25, 12, 37, 0, 0, []), (288, 28, 0, 0, 0, 0, []), (289, 49, 0, 0, 0, 0, []), (289, 4, 1, 0, 0, 0, []), (290, 0, 1, 0, 0, 3, []), (291, 40, 1, 2, 14, 0, []), (294, 17, 324, 0, 100, 0, []), (297, 4, 1, 0, 0, 0, []), (298, 40, 4, 1, 14, 0, []), (301, 17, 324, 0, 100, 0, []), (304, 4, 1, 0, 0, 0, []), (305, 0, 2, 0, 0, 13, []), (307, 40, 1, 2, 14, 0, []), (310, 17, 324, 0, 100, 0, []), (313, 4, 1, 0, 0, 0, []), (314, 40, 6, 1, 14, 0, []), (317, 17, 324, 0, 100, 0, []), (320, 0, 1, 0, 0, 1, []), (321, 19, 325, 0, 101, 0, []), (324, 0, 1, 0, 0, 0, []), (325, 48, 0, 0, 0, 0, []), (326, 4, 1, 0, 0, 0, []), (327, 0, 2, 0, 0, 7, []), (329, 40, 1, 2, 14, 0, []), (332, 17, 380, 0, 127, 0, []), (335, 4, 1, 0, 0, 0, []), (336, 40, 7, 1, 14, 0, []), (339, 17, 380, 0, 127, 0, []), (342, 4, 1, 0, 0, 0, []), (343, 0, 2, 0, 0, 15, []), (345, 40, 1, 2, 14, 0, []), (348, 17, 380, 0, 127, 0, []), (351, 4, 1, 0, 0, 0, []), (352, 0, 1, 0, 0, 0, []), (353, 40, 0, 2, 14, 0, []), (356, 17, 380, 0, 127, 0, []), (359, 4, 1, 0, 0, 0, []), (360, 0, 2, 0, 0, 44, []), (362, 40, 8, 2, 14, 0, []), (365, 17, 380, 0, 127, 0, []), (368, 4, 1, 0, 0, 0, []), (369, 0, 1, 0, 0, 0, []), (370, 40, 0, 2, 14, 0, []), (373, 17, 380, 0, 127, 0, []), (376, 0, 1, 0, 0, 1, []), (377, 19, 381, 0, 128, 0, []), (380, 0, 1, 0, 0, 0, []), (381, 48, 0, 0, 0, 0, []), (382, 4, 1, 0, 0, 0, []), (383, 0, 2, 0, 0, 44, []), (385, 40, 8, 2, 14, 0, []), (388, 17, 420, 0, 147, 0, []), (391, 4, 1, 0, 0, 0, []), (392, 0, 1, 0, 0, 0, []), (393, 40, 0, 2, 14, 0, []), (396, 17, 420, 0, 147, 0, []), (399, 4, 1, 0, 0, 0, []), (400, 0, 2, 0, 0, 15, []), (402, 40, 1, 2, 14, 0, []), (405, 17, 420, 0, 147, 0, []), (408, 4, 1, 0, 0, 0, []), (409, 0, 1, 0, 0, 0, []), (410, 40, 0, 2, 14, 0, []), (413, 17, 420, 0, 147, 0, []), (416, 0, 1, 0, 0, 1, []), (417, 19, 421, 0, 148, 0, []), (420, 0, 1, 0, 0, 0, []), (421, 48, 0, 0, 0, 0, []), (422, 4, 1, 0, 0, 0, []), (423, 0, 2, 0, 0, 44, []), (425, 40, 8, 2, 14, 0, []), (428, 17, 459, 0, 166, 0, []), (431, 4, 1, 0, 0, 0, []), (432, 0, 1, 0, 0, 0, []), (433, 40, 0, 2, 14, 0, []), (436, 17, 459, 0, 166, 0, []), (439, 4, 1, 0, 0, 0, []), (440, 0, 2, 0, 0, 7, []), (442, 40, 1, 2, 14, 0, []), (445, 17, 459, 0, 166, 0, []), (448, 4, 1, 0, 0, 0, []), (449, 40, 7, 1, 14, 0, []), (452, 17, 459, 0, 166, 0, []), (455, 0, 1, 0, 0, 1, []), (456, 19, 460, 0, 167, 0, []), (459, 0, 1, 0, 0, 0, []), (460, 48, 0, 0, 0, 0, []), (461, 4, 1, 0, 0, 0, []), (462, 0, 1, 0, 0, 0, []), (463, 40, 1, 2, 14, 0, []), (466, 17, 512, 0, 192, 0, []), (469, 4, 1, 0, 0, 0, []), (470, 40, 9, 1, 14, 0, []), (473, 17, 512, 0, 192, 0, []), (476, 4, 1, 0, 0, 0, []), (477, 0, 1, 0, 0, 3, []), (478, 40, 1, 2, 14, 0, []), (481, 17, 512, 0, 192, 0, []), (484, 4, 1, 0, 0, 0, []), (485, 0, 1, 0, 0, 0, []), (486, 40, 0, 2, 14, 0, []), (489, 17, 512, 0, 192, 0, []), (492, 4, 1, 0, 0, 0, []), (493, 0, 2, 0, 0, 13, []), (495, 40, 1, 2, 14, 0, []), (498, 17, 512, 0, 192, 0, []), (501, 4, 1, 0, 0, 0, []), (502, 40, 6, 1, 14, 0, []), (505, 17, 512, 0, 192, 0, []), (508, 0, 1, 0, 0, 1, []), (509, 19, 513, 0, 193, 0, []), (512, 0, 1, 0, 0, 0, []), (513, 48, 0, 0, 0, 0, []), (514, 4, 1, 0, 0, 0, []), (515, 0, 2, 0, 0, 13, []), (517, 40, 1, 2, 14, 0, []), (520, 17, 534, 0, 203, 0, []), (523, 4, 1, 0, 0, 0, []), (524, 40, 6, 1, 14, 0, []), (527, 17, 534, 0, 203, 0, []), (530, 0, 1, 0, 0, 1, []), (531, 19, 535, 0, 204, 0, []), (534, 0, 1, 0, 0, 0, []), (535, 48, 0, 0, 0, 0, []), (536, 4, 1, 0, 0, 0, []), (537, 0, 1, 0, 0, 3, []), (538, 40, 1, 2, 14, 0, []), (541, 17, 556, 0, 215, 0, []), (544, 4, 1, 0, 0, 0, []), (545, 0, 1, 0, 0, 0, []), (546, 40, 0, 2, 14, 0, []), (549, 17, 556, 0, 215, 0, []), (552, 0, 1, 0, 0, 1, []), (553, 19, 557, 0, 216, 0, []), (556, 0, 1, 0, 0, 0, []), (557, 48, 0, 0, 0, 0, []), (558, 4, 1, 0, 0, 0, []), (559, 0, 2, 0, 0, 22, []), (561, 40, 1, 2, 14, 0, []), (564, 17, 595, 0, 235, 0, []), (567, 4, 1, 0, 0, 0, []), (568, 0, 1, 0, 0, 0, []), (569, 40, 0, 2, 14, 0, []), (572, 17, 595, 0, 235, 0, []), (575, 4, 1, 0, 0, 0, []), (576, 0, 1, 0, 0, 0, []), (577, 40, 1, 2, 14, 0, []), (580, 17, 595, 0, 235, 0, []), (583, 4, 1, 0, 0, 0, []), (584, 0, 1, 0, 0, 0, []), (585, 40, 0, 2, 14, 0, []), (588, 17, 595, 0, 235, 0, []), (591, 0, 1, 0, 0, 1, []), (592, 19, 596, 0, 236, 0, []), (595, 0, 1, 0, 0, 0, []), (596, 48, 0, 0, 0, 0, []), (597, 4, 1, 0, 0, 0, []), (598, 0, 2, 0, 0, 12, []), (600, 40, 1, 2, 14, 0, []), (603, 17, 618, 0, 247, 0, []), (606, 4, 1, 0, 0, 0, []), (607, 0, 1, 0, 0, 0, []), (608, 40, 0, 2, 14, 0, []), (611, 17, 618, 0, 247, 0, []), (614, 0, 1, 0, 0, 1, []), (615, 19, 619, 0, 248, 0, []), (618, 0, 1, 0, 0, 0, []), (619, 48, 0, 0, 0, 0, []), (620, 4, 1, 0, 0, 0, []), (621, 0, 2, 0, 0, 7, []), (623, 40, 1, 2, 14, 0, []), (626, 17, 673, 0, 274, 0, []), (629, 4, 1, 0, 0, 0, []), (630, 0, 1, 0, 0, 0, []), (631, 40, 0, 2, 14, 0, []), (634, 17, 673, 0, 274, 0, []), (637, 4, 1, 0, 0, 0, []), (638, 0, 1, 0, 0, 3, []), (639, 40, 1, 2, 14, 0, []), (642, 17, 673, 0, 274, 0, []), (645, 4, 1, 0, 0, 0, []), (646, 0, 1, 0, 0, 0, []), (647, 40, 0, 2, 14, 0, []), (650, 17, 673, 0, 274, 0, []), (653, 4, 1, 0, 0, 0, []), (654, 0, 2, 0, 0, 13, []), (656, 40, 1, 2, 14, 0, []), (659, 17, 673, 0, 274, 0, []), (662, 4, 1, 0, 0, 0, []), (663, 40, 6, 1, 14, 0, []), (666, 17, 673, 0, 274, 0, []), (669, 0, 1, 0, 0, 1, []), (670, 19, 674, 0, 275, 0, []), (673, 0, 1, 0, 0, 0, []), (674, 48, 0, 0, 0, 0, []), (675, 4, 1, 0, 0, 0, []), (676, 25, 12, 7, 0, 0, []), (679, 0, 1, 0, 0, 3, []), (680, 18, 701, 1, 288, 0, []), (683, 4, 1, 0, 0, 0, []), (684, 25, 12, 10, 0, 0, []), (687, 0, 2, 0, 0, 36, []), (689, 18, 701, 2, 288, 0, []), (692, 4, 1, 0, 0, 0, []), (693, 25, 12, 10, 0, 0, []), (696, 0, 2, 0, 0, 38, []), (698, 18, 707, 5, 293, 0, []), (701, 49, 0, 0, 0, 0, []), (701, 4, 1, 0, 0, 0, []), (702, 0, 1, 0, 0, 1, []), (703, 40, 10, 2, 14, 0, []), (706, 42, 0, 0, 0, 0, []), (707, 4, 1, 0, 0, 0, []), (708, 25, 12, 19, 4, 0, [(0, 20, 152), (0, 1, 10)]), (711, 4, 1, 0, 0, 0, []), (712, 25, 12, 35, 0, 0, []), (715, 4, 1, 0, 0, 0, []), (716, 25, 12, 10, 0, 0, []), (719, 0, 2, 0, 0, 36, []), (721, 9, 0, 1, 0, 0, []), (722, 28, 0, 0, 0, 0, []), (723, 4, 1, 0, 0, 0, []), (724, 0, 1, 0, 0, 0, []), (725, 40, 11, 2, 14, 0, []), (728, 17, 785, 0, 331, 0, []), (731, 4, 1, 0, 0, 0, []), (732, 0, 2, 0, 0, 26, []), (734, 40, 1, 2, 14, 0, []), (737, 17, 785, 0, 331, 0, []), (740, 4, 1, 0, 0, 0, []), (741, 0, 1, 0, 0, 0, []), (742, 40, 0, 2, 14, 0, []), (745, 17, 785, 0, 331, 0, []), (748, 4, 1, 0, 0, 0, []), (749, 0, 2, 0, 0, 27, []), (751, 40, 1, 2, 14, 0, []), (754, 17, 785, 0, 331, 0, []), (757, 4, 1, 0, 0, 0, []), (758, 0, 1, 0, 0, 0, []), (759, 40, 0, 2, 14, 0, []), (762, 17, 785, 0, 331, 0, []), (765, 4, 1, 0, 0, 0, []), (766, 0, 2, 0, 0, 28, []), (768, 40, 1, 2, 14, 0, []), (771, 17, 785, 0, 331, 0, []), (774, 4, 1, 0, 0, 0, []), (775, 40, 7, 1, 14, 0, []), (778, 17, 785, 0, 331, 0, []), (781, 0, 1, 0, 0, 1, []), (782, 19, 786, 0, 332, 0, []), (785, 0, 1, 0, 0, 0, []), (786, 48, 0, 0, 0, 0, []), (787, 4, 1, 0, 0, 0, []), (788, 0, 1, 0, 0, 0, []), (789, 40, 1, 2, 14, 0, []), (792, 17, 855, 0, 365, 0, []), (795, 4, 1, 0, 0, 0, []), (796, 0, 1, 0, 0, 0, []), (797, 40, 0, 2, 14, 0, []), (800, 17, 855, 0, 365, 0, []), (803, 4, 1, 0, 0, 0, []), (804, 0, 1, 0, 0, 3, []), (805, 40, 1, 2, 14, 0, []), (808, 17, 855, 0, 365, 0, []), (811, 4, 1, 0, 0, 0, []), (812, 0, 1, 0, 0, 0, []), (813, 40, 0, 2, 14, 0, []), (816, 17, 855, 0, 365, 0, []), (819, 4, 1, 0, 0, 0, []), (820, 0, 2, 0, 0, 31, []), (822, 40, 1, 2, 14, 0, []), (825, 17, 855, 0, 365, 0, []), (828, 4, 1, 0, 0, 0, []), (829, 40, 2, 1, 14, 0, []), (832, 17, 855, 0, 365, 0, []), (835, 4, 1, 0, 0, 0, []), (836, 0, 2, 0, 0, 13, []), (838, 40, 1, 2, 14, 0, []), (841, 17, 855, 0, 365, 0, []), (844, 4, 1, 0, 0, 0, []), (845, 40, 6, 1, 14, 0, []), (848, 17, 855, 0, 365, 0, []), (851, 0, 1, 0, 0, 1, []), (852, 19, 856, 0, 366, 0, []), (855, 0, 1, 0, 0, 0, []), (856, 48, 0, 0, 0, 0, []), (857, 4, 1, 0, 0, 0, []), (858, 0, 1, 0, 0, 0, []), (859, 40, 1, 2, 14, 0, []), (862, 17, 894, 0, 385, 0, []), (865, 4, 1, 0, 0, 0, []), (866, 0, 1, 0, 0, 0, []), (867, 40, 0, 2, 14, 0, []), (870, 17, 894, 0, 385, 0, []), (873, 4, 1, 0, 0, 0, []), (874, 0, 2, 0, 0, 7, []), (876, 40, 1, 2, 14, 0, []), (879, 17, 894, 0, 385, 0, []), (882, 4, 1, 0, 0, 0, []), (883, 0, 1, 0, 0, 0, []), (884, 40, 0, 2, 14, 0, []), (887, 17, 894, 0, 385, 0, []), (890, 0, 1, 0, 0, 1, []), (891, 19, 895, 0, 386, 0, []), (894, 0, 1, 0, 0, 0, []), (895, 48, 0, 0, 0, 0, []), (896, 4, 1, 0, 0, 0, []), (897, 0, 1, 0, 0, 0, []), (898, 40, 1, 2, 14, 0, []), (901, 17, 948, 0, 412, 0, []), (904, 4, 1, 0, 0, 0, []), (905, 0, 1, 0, 0, 0, []), (906, 40, 0, 2, 14, 0, []), (909, 17, 948, 0, 412, 0, []), (912, 4, 1, 0, 0, 0, []), (913, 0, 1, 0, 0, 3, []), (914, 40, 1, 2, 14, 0, []), (917, 17, 948, 0, 412, 0, []), (920, 4, 1, 0, 0, 0, []), (921, 0, 1, 0, 0, 0, []), (922, 40, 0, 2, 14, 0, []), (925, 17, 948, 0, 412, 0, []), (928, 4, 1, 0, 0, 0, []), (929, 0, 2, 0, 0, 31, []), (931, 40, 1, 2, 14, 0, []), (934, 17, 948, 0, 412, 0, []), (937, 4, 1, 0, 0, 0, []), (938, 40, 2, 1, 14, 0, []), (941, 17, 948, 0, 412, 0, []), (944, 0, 1, 0, 0, 1, []), (945, 19, 949, 0, 413, 0, []), (948, 0, 1, 0, 0, 0, []), (949, 48, 0, 0, 0, 0, [])]
set_option maxRecDepth 20000 in
theorem qX12_firstf : f_all yX12_first YX12_first pX12_firstf :=
  ⟨f_aload_n (n := 0) (e_dx DX12_first_0 0 rfl) rfl,
  f_iconst (e_dx DX12_first_0 1 rfl) ⟨by decide, by decide⟩,
  x_callV (e_dx DX12_first_0 2 rfl) mwX12_mustName vwX12_mustName cX12_379 rfl,
  f_if_ne (e_dx DX12_first_0 3 rfl) rfl,
  f_iconst (e_dx DX12_first_0 4 rfl) ⟨by decide, by decide⟩,
  ⟨(e_dx DX12_first_0 5 rfl), rfl⟩,
  f_iload_n (n := 1) (e_dx DX12_first_0 6 rfl) rfl,
  f_tsw (e_dx DX12_first_0 7 rfl) rfl rfl (by decide) rfl,
  f_aload_n (n := 0) (e_dx DX12_first_0 8 rfl) rfl,
  f_iconst (e_dx DX12_first_0 9 rfl) ⟨by decide, by decide⟩,
  x_callV (e_dx DX12_first_0 10 rfl) mwX12_must vwX12_must cX12_389 rfl,
  f_if_eq (e_dx DX12_first_0 11 rfl) rfl,
  f_aload_n (n := 0) (e_dx DX12_first_0 12 rfl) rfl,
  x_callV (e_dx DX12_first_0 13 rfl) mwX12_mustDate vwX12_mustDate cX12_398 rfl,
  f_if_eq (e_dx DX12_first_0 14 rfl) rfl,
  f_iconst (e_dx DX12_first_0 15 rfl) ⟨by decide, by decide⟩,
  f_g19 (e_dx DX12_first_0 16 rfl) rfl,
  f_iconst (e_dx DX12_first_0 17 rfl) ⟨by decide, by decide⟩,
  ⟨(e_dx DX12_first_0 18 rfl), rfl⟩,
  f_aload_n (n := 0) (e_dx DX12_first_0 19 rfl) rfl,
  f_bipush (e_dx DX12_first_0 20 rfl) ⟨by decide, by decide⟩,
  x_callV (e_dx DX12_first_0 21 rfl) mwX12_must vwX12_must cX12_389 rfl,
  f_if_eq (e_dx DX12_first_0 22 rfl) rfl,
  f_aload_n (n := 0) (e_dx DX12_first_0 23 rfl) rfl,
  f_iconst (e_dx DX12_first_0 24 rfl) ⟨by decide, by decide⟩,
  x_callV (e_dx DX12_first_0 25 rfl) mwX12_mustName vwX12_mustName cX12_379 rfl,
  f_if_eq (e_dx DX12_first_0 26 rfl) rfl,
  f_iconst (e_dx DX12_first_0 27 rfl) ⟨by decide, by decide⟩,
  f_g19 (e_dx DX12_first_0 28 rfl) rfl,
  f_iconst (e_dx DX12_first_0 29 rfl) ⟨by decide, by decide⟩,
  ⟨(e_dx DX12_first_0 30 rfl), rfl⟩,
  f_aload_n (n := 0) (e_dx DX12_first_0 31 rfl) rfl,
  f_iconst (e_dx DX12_first_0 32 rfl) ⟨by decide, by decide⟩,
  x_callV (e_dx DX12_first_0 33 rfl) mwX12_isWord vwX12_isWord cX12_348 rfl,
  f_if_eq (e_dx DX12_first_0 34 rfl) rfl,
  f_aload_n (n := 0) (e_dx DX12_first_0 35 rfl) rfl,
  f_iconst (e_dx DX12_first_0 36 rfl) ⟨by decide, by decide⟩,
  x_callV (e_dx DX12_first_0 37 rfl) mwX12_must vwX12_must cX12_389 rfl,
  f_if_eq (e_dx DX12_first_0 38 rfl) rfl,
  f_aload_n (n := 0) (e_dx DX12_first_0 39 rfl) rfl,
  x_callV (e_dx DX12_first_1 0 rfl) mwX12_mustParts vwX12_mustParts cX12_401 rfl,
  f_if_eq (e_dx DX12_first_1 1 rfl) rfl,
  trivial,
  f_iconst (e_dx DX12_first_1 2 rfl) ⟨by decide, by decide⟩,
  f_g19 (e_dx DX12_first_1 3 rfl) rfl,
  f_iconst (e_dx DX12_first_1 4 rfl) ⟨by decide, by decide⟩,
  ⟨(e_dx DX12_first_1 5 rfl), rfl⟩,
  f_iconst (e_dx DX12_first_1 6 rfl) ⟨by decide, by decide⟩,
  ⟨(e_dx DX12_first_1 7 rfl), rfl⟩,
  f_aload_n (n := 0) (e_dx DX12_first_1 8 rfl) rfl,
  f_bipush (e_dx DX12_first_1 9 rfl) ⟨by decide, by decide⟩,
  x_callV (e_dx DX12_first_1 10 rfl) mwX12_must vwX12_must cX12_389 rfl,
  f_if_eq (e_dx DX12_first_1 11 rfl) rfl,
  f_aload_n (n := 0) (e_dx DX12_first_1 12 rfl) rfl,
  f_iconst (e_dx DX12_first_1 13 rfl) ⟨by decide, by decide⟩,
  x_callV (e_dx DX12_first_1 14 rfl) mwX12_mustName vwX12_mustName cX12_379 rfl,
  f_if_ne (e_dx DX12_first_1 15 rfl) rfl,
  f_iconst (e_dx DX12_first_1 16 rfl) ⟨by decide, by decide⟩,
  ⟨(e_dx DX12_first_1 17 rfl), rfl⟩,
  f_aload_n (n := 0) (e_dx DX12_first_1 18 rfl) rfl,
  f_getf (e_dx DX12_first_1 19 rfl) fX12_309 rfl (by decide) (by decide) (by decide),
  f_iconst (e_dx DX12_first_1 20 rfl) ⟨by decide, by decide⟩,
  f_icmp_ne (e_dx DX12_first_1 21 rfl) rfl,
  f_aload_n (n := 0) (e_dx DX12_first_1 22 rfl) rfl,
  x_callV (e_dx DX12_first_1 23 rfl) mwX12_mustShare vwX12_mustShare cX12_382 rfl,
  f_if_ne (e_dx DX12_first_1 24 rfl) rfl,
  f_iconst (e_dx DX12_first_1 25 rfl) ⟨by decide, by decide⟩,
  ⟨(e_dx DX12_first_1 26 rfl), rfl⟩,
  f_aload_n (n := 0) (e_dx DX12_first_1 27 rfl) rfl,
  f_getA (e_dx DX12_first_1 28 rfl) fX12_45 rfl (by decide) (Nat.le_of_ble_eq_true rfl) rfl (by decide),
  f_aload_n (n := 0) (e_dx DX12_first_1 29 rfl) rfl,
  f_getf (e_dx DX12_first_1 30 rfl) fX12_363 rfl (by decide) (by decide) (by decide),
  f_aload_n (n := 0) (e_dx DX12_first_1 31 rfl) rfl,
  f_getf (e_dx DX12_first_1 32 rfl) fX12_366 rfl (by decide) (by decide) (by decide),
  f_iastore (e_dx DX12_first_1 33 rfl),
  f_aload_n (n := 0) (e_dx DX12_first_1 34 rfl) rfl,
  f_getA (e_dx DX12_first_1 35 rfl) fX12_48 rfl (by decide) (Nat.le_of_ble_eq_true rfl) rfl (by decide),
  f_aload_n (n := 0) (e_dx DX12_first_1 36 rfl) rfl,
  f_getf (e_dx DX12_first_1 37 rfl) fX12_363 rfl (by decide) (by decide) (by decide),
  f_aload_n (n := 0) (e_dx DX12_first_1 38 rfl) rfl,
  f_getf (e_dx DX12_first_1 39 rfl) fX12_372 rfl (by decide) (by decide) (by decide),
  f_iastore (e_dx DX12_first_2 0 rfl),
  trivial,
  f_aload_n (n := 0) (e_dx DX12_first_2 1 rfl) rfl,
  f_iconst (e_dx DX12_first_2 2 rfl) ⟨by decide, by decide⟩,
  x_callV (e_dx DX12_first_2 3 rfl) mwX12_must vwX12_must cX12_389 rfl,
  f_if_eq (e_dx DX12_first_2 4 rfl) rfl,
  f_aload_n (n := 0) (e_dx DX12_first_2 5 rfl) rfl,
  x_callV (e_dx DX12_first_2 6 rfl) mwX12_mustParts vwX12_mustParts cX12_401 rfl,
  f_if_eq (e_dx DX12_first_2 7 rfl) rfl,
  f_aload_n (n := 0) (e_dx DX12_first_2 8 rfl) rfl,
  f_bipush (e_dx DX12_first_2 9 rfl) ⟨by decide, by decide⟩,
  x_callV (e_dx DX12_first_2 10 rfl) mwX12_must vwX12_must cX12_389 rfl,
  f_if_eq (e_dx DX12_first_2 11 rfl) rfl,
  f_aload_n (n := 0) (e_dx DX12_first_2 12 rfl) rfl,
  x_callV (e_dx DX12_first_2 13 rfl) mwX12_mustAmount vwX12_mustAmount cX12_404 rfl,
  f_if_eq (e_dx DX12_first_2 14 rfl) rfl,
  f_iconst (e_dx DX12_first_2 15 rfl) ⟨by decide, by decide⟩,
  f_g19 (e_dx DX12_first_2 16 rfl) rfl,
  f_iconst (e_dx DX12_first_2 17 rfl) ⟨by decide, by decide⟩,
  ⟨(e_dx DX12_first_2 18 rfl), rfl⟩,
  f_aload_n (n := 0) (e_dx DX12_first_2 19 rfl) rfl,
  f_bipush (e_dx DX12_first_2 20 rfl) ⟨by decide, by decide⟩,
  x_callV (e_dx DX12_first_2 21 rfl) mwX12_must vwX12_must cX12_389 rfl,
  f_if_eq (e_dx DX12_first_2 22 rfl) rfl,
  f_aload_n (n := 0) (e_dx DX12_first_2 23 rfl) rfl,
  x_callV (e_dx DX12_first_2 24 rfl) mwX12_mustPoints vwX12_mustPoints cX12_407 rfl,
  f_if_eq (e_dx DX12_first_2 25 rfl) rfl,
  f_aload_n (n := 0) (e_dx DX12_first_2 26 rfl) rfl,
  f_bipush (e_dx DX12_first_2 27 rfl) ⟨by decide, by decide⟩,
  x_callV (e_dx DX12_first_2 28 rfl) mwX12_must vwX12_must cX12_389 rfl,
  f_if_eq (e_dx DX12_first_2 29 rfl) rfl,
  f_aload_n (n := 0) (e_dx DX12_first_2 30 rfl) rfl,
  f_iconst (e_dx DX12_first_2 31 rfl) ⟨by decide, by decide⟩,
  x_callV (e_dx DX12_first_2 32 rfl) mwX12_mustName vwX12_mustName cX12_379 rfl,
  f_if_eq (e_dx DX12_first_2 33 rfl) rfl,
  f_aload_n (n := 0) (e_dx DX12_first_2 34 rfl) rfl,
  f_bipush (e_dx DX12_first_2 35 rfl) ⟨by decide, by decide⟩,
  x_callV (e_dx DX12_first_2 36 rfl) mwX12_mustSign vwX12_mustSign cX12_369 rfl,
  f_if_eq (e_dx DX12_first_2 37 rfl) rfl,
  f_aload_n (n := 0) (e_dx DX12_first_2 38 rfl) rfl,
  f_iconst (e_dx DX12_first_2 39 rfl) ⟨by decide, by decide⟩,
  x_callV (e_dx DX12_first_3 0 rfl) mwX12_mustName vwX12_mustName cX12_379 rfl,
  f_if_eq (e_dx DX12_first_3 1 rfl) rfl,
  f_iconst (e_dx DX12_first_3 2 rfl) ⟨by decide, by decide⟩,
  f_g19 (e_dx DX12_first_3 3 rfl) rfl,
  f_iconst (e_dx DX12_first_3 4 rfl) ⟨by decide, by decide⟩,
  ⟨(e_dx DX12_first_3 5 rfl), rfl⟩,
  f_aload_n (n := 0) (e_dx DX12_first_3 6 rfl) rfl,
  f_bipush (e_dx DX12_first_3 7 rfl) ⟨by decide, by decide⟩,
  x_callV (e_dx DX12_first_3 8 rfl) mwX12_mustSign vwX12_mustSign cX12_369 rfl,
  f_if_eq (e_dx DX12_first_3 9 rfl) rfl,
  f_aload_n (n := 0) (e_dx DX12_first_3 10 rfl) rfl,
  f_iconst (e_dx DX12_first_3 11 rfl) ⟨by decide, by decide⟩,
  x_callV (e_dx DX12_first_3 12 rfl) mwX12_mustName vwX12_mustName cX12_379 rfl,
  f_if_eq (e_dx DX12_first_3 13 rfl) rfl,
  f_aload_n (n := 0) (e_dx DX12_first_3 14 rfl) rfl,
  f_bipush (e_dx DX12_first_3 15 rfl) ⟨by decide, by decide⟩,
  x_callV (e_dx DX12_first_3 16 rfl) mwX12_must vwX12_must cX12_389 rfl,
  f_if_eq (e_dx DX12_first_3 17 rfl) rfl,
  f_aload_n (n := 0) (e_dx DX12_first_3 18 rfl) rfl,
  f_iconst (e_dx DX12_first_3 19 rfl) ⟨by decide, by decide⟩,
  x_callV (e_dx DX12_first_3 20 rfl) mwX12_mustName vwX12_mustName cX12_379 rfl,
  f_if_eq (e_dx DX12_first_3 21 rfl) rfl,
  f_iconst (e_dx DX12_first_3 22 rfl) ⟨by decide, by decide⟩,
  f_g19 (e_dx DX12_first_3 23 rfl) rfl,
  f_iconst (e_dx DX12_first_3 24 rfl) ⟨by decide, by decide⟩,
  ⟨(e_dx DX12_first_3 25 rfl), rfl⟩,
  f_aload_n (n := 0) (e_dx DX12_first_3 26 rfl) rfl,
  f_bipush (e_dx DX12_first_3 27 rfl) ⟨by decide, by decide⟩,
  x_callV (e_dx DX12_first_3 28 rfl) mwX12_mustSign vwX12_mustSign cX12_369 rfl,
  f_if_eq (e_dx DX12_first_3 29 rfl) rfl,
  f_aload_n (n := 0) (e_dx DX12_first_3 30 rfl) rfl,
  f_iconst (e_dx DX12_first_3 31 rfl) ⟨by decide, by decide⟩,
  x_callV (e_dx DX12_first_3 32 rfl) mwX12_mustName vwX12_mustName cX12_379 rfl,
  f_if_eq (e_dx DX12_first_3 33 rfl) rfl,
  f_aload_n (n := 0) (e_dx DX12_first_3 34 rfl) rfl,
  f_bipush (e_dx DX12_first_3 35 rfl) ⟨by decide, by decide⟩,
  x_callV (e_dx DX12_first_3 36 rfl) mwX12_must vwX12_must cX12_389 rfl,
  f_if_eq (e_dx DX12_first_3 37 rfl) rfl,
  f_aload_n (n := 0) (e_dx DX12_first_3 38 rfl) rfl,
  x_callV (e_dx DX12_first_3 39 rfl) mwX12_mustPoints vwX12_mustPoints cX12_407 rfl,
  f_if_eq (e_dx DX12_first_4 0 rfl) rfl,
  f_iconst (e_dx DX12_first_4 1 rfl) ⟨by decide, by decide⟩,
  f_g19 (e_dx DX12_first_4 2 rfl) rfl,
  f_iconst (e_dx DX12_first_4 3 rfl) ⟨by decide, by decide⟩,
  ⟨(e_dx DX12_first_4 4 rfl), rfl⟩,
  f_aload_n (n := 0) (e_dx DX12_first_4 5 rfl) rfl,
  f_iconst (e_dx DX12_first_4 6 rfl) ⟨by decide, by decide⟩,
  x_callV (e_dx DX12_first_4 7 rfl) mwX12_must vwX12_must cX12_389 rfl,
  f_if_eq (e_dx DX12_first_4 8 rfl) rfl,
  f_aload_n (n := 0) (e_dx DX12_first_4 9 rfl) rfl,
  x_callV (e_dx DX12_first_4 10 rfl) mwX12_mustNames vwX12_mustNames cX12_410 rfl,
  f_if_eq (e_dx DX12_first_4 11 rfl) rfl,
  f_aload_n (n := 0) (e_dx DX12_first_4 12 rfl) rfl,
  f_iconst (e_dx DX12_first_4 13 rfl) ⟨by decide, by decide⟩,
  x_callV (e_dx DX12_first_4 14 rfl) mwX12_must vwX12_must cX12_389 rfl,
  f_if_eq (e_dx DX12_first_4 15 rfl) rfl,
  f_aload_n (n := 0) (e_dx DX12_first_4 16 rfl) rfl,
  f_iconst (e_dx DX12_first_4 17 rfl) ⟨by decide, by decide⟩,
  x_callV (e_dx DX12_first_4 18 rfl) mwX12_mustName vwX12_mustName cX12_379 rfl,
  f_if_eq (e_dx DX12_first_4 19 rfl) rfl,
  f_aload_n (n := 0) (e_dx DX12_first_4 20 rfl) rfl,
  f_bipush (e_dx DX12_first_4 21 rfl) ⟨by decide, by decide⟩,
  x_callV (e_dx DX12_first_4 22 rfl) mwX12_must vwX12_must cX12_389 rfl,
  f_if_eq (e_dx DX12_first_4 23 rfl) rfl,
  f_aload_n (n := 0) (e_dx DX12_first_4 24 rfl) rfl,
  x_callV (e_dx DX12_first_4 25 rfl) mwX12_mustAmount vwX12_mustAmount cX12_404 rfl,
  f_if_eq (e_dx DX12_first_4 26 rfl) rfl,
  f_iconst (e_dx DX12_first_4 27 rfl) ⟨by decide, by decide⟩,
  f_g19 (e_dx DX12_first_4 28 rfl) rfl,
  f_iconst (e_dx DX12_first_4 29 rfl) ⟨by decide, by decide⟩,
  ⟨(e_dx DX12_first_4 30 rfl), rfl⟩,
  f_aload_n (n := 0) (e_dx DX12_first_4 31 rfl) rfl,
  f_bipush (e_dx DX12_first_4 32 rfl) ⟨by decide, by decide⟩,
  x_callV (e_dx DX12_first_4 33 rfl) mwX12_must vwX12_must cX12_389 rfl,
  f_if_eq (e_dx DX12_first_4 34 rfl) rfl,
  f_aload_n (n := 0) (e_dx DX12_first_4 35 rfl) rfl,
  x_callV (e_dx DX12_first_4 36 rfl) mwX12_mustAmount vwX12_mustAmount cX12_404 rfl,
  f_if_eq (e_dx DX12_first_4 37 rfl) rfl,
  f_iconst (e_dx DX12_first_4 38 rfl) ⟨by decide, by decide⟩,
  f_g19 (e_dx DX12_first_4 39 rfl) rfl,
  f_iconst (e_dx DX12_first_5 0 rfl) ⟨by decide, by decide⟩,
  ⟨(e_dx DX12_first_5 1 rfl), rfl⟩,
  f_aload_n (n := 0) (e_dx DX12_first_5 2 rfl) rfl,
  f_iconst (e_dx DX12_first_5 3 rfl) ⟨by decide, by decide⟩,
  x_callV (e_dx DX12_first_5 4 rfl) mwX12_must vwX12_must cX12_389 rfl,
  f_if_eq (e_dx DX12_first_5 5 rfl) rfl,
  f_aload_n (n := 0) (e_dx DX12_first_5 6 rfl) rfl,
  f_iconst (e_dx DX12_first_5 7 rfl) ⟨by decide, by decide⟩,
  x_callV (e_dx DX12_first_5 8 rfl) mwX12_mustName vwX12_mustName cX12_379 rfl,
  f_if_eq (e_dx DX12_first_5 9 rfl) rfl,
  f_iconst (e_dx DX12_first_5 10 rfl) ⟨by decide, by decide⟩,
  f_g19 (e_dx DX12_first_5 11 rfl) rfl,
  f_iconst (e_dx DX12_first_5 12 rfl) ⟨by decide, by decide⟩,
  ⟨(e_dx DX12_first_5 13 rfl), rfl⟩,
  f_aload_n (n := 0) (e_dx DX12_first_5 14 rfl) rfl,
  f_bipush (e_dx DX12_first_5 15 rfl) ⟨by decide, by decide⟩,
  x_callV (e_dx DX12_first_5 16 rfl) mwX12_must vwX12_must cX12_389 rfl,
  f_if_eq (e_dx DX12_first_5 17 rfl) rfl,
  f_aload_n (n := 0) (e_dx DX12_first_5 18 rfl) rfl,
  f_iconst (e_dx DX12_first_5 19 rfl) ⟨by decide, by decide⟩,
  x_callV (e_dx DX12_first_5 20 rfl) mwX12_mustName vwX12_mustName cX12_379 rfl,
  f_if_eq (e_dx DX12_first_5 21 rfl) rfl,
  f_aload_n (n := 0) (e_dx DX12_first_5 22 rfl) rfl,
  f_iconst (e_dx DX12_first_5 23 rfl) ⟨by decide, by decide⟩,
  x_callV (e_dx DX12_first_5 24 rfl) mwX12_must vwX12_must cX12_389 rfl,
  f_if_eq (e_dx DX12_first_5 25 rfl) rfl,
  f_aload_n (n := 0) (e_dx DX12_first_5 26 rfl) rfl,
  f_iconst (e_dx DX12_first_5 27 rfl) ⟨by decide, by decide⟩,
  x_callV (e_dx DX12_first_5 28 rfl) mwX12_mustName vwX12_mustName cX12_379 rfl,
  f_if_eq (e_dx DX12_first_5 29 rfl) rfl,
  f_iconst (e_dx DX12_first_5 30 rfl) ⟨by decide, by decide⟩,
  f_g19 (e_dx DX12_first_5 31 rfl) rfl,
  f_iconst (e_dx DX12_first_5 32 rfl) ⟨by decide, by decide⟩,
  ⟨(e_dx DX12_first_5 33 rfl), rfl⟩,
  f_aload_n (n := 0) (e_dx DX12_first_5 34 rfl) rfl,
  f_bipush (e_dx DX12_first_5 35 rfl) ⟨by decide, by decide⟩,
  x_callV (e_dx DX12_first_5 36 rfl) mwX12_must vwX12_must cX12_389 rfl,
  f_if_eq (e_dx DX12_first_5 37 rfl) rfl,
  f_aload_n (n := 0) (e_dx DX12_first_5 38 rfl) rfl,
  f_iconst (e_dx DX12_first_5 39 rfl) ⟨by decide, by decide⟩,
  x_callV (e_dx DX12_first_6 0 rfl) mwX12_mustName vwX12_mustName cX12_379 rfl,
  f_if_eq (e_dx DX12_first_6 1 rfl) rfl,
  f_iconst (e_dx DX12_first_6 2 rfl) ⟨by decide, by decide⟩,
  f_g19 (e_dx DX12_first_6 3 rfl) rfl,
  f_iconst (e_dx DX12_first_6 4 rfl) ⟨by decide, by decide⟩,
  ⟨(e_dx DX12_first_6 5 rfl), rfl⟩,
  f_aload_n (n := 0) (e_dx DX12_first_6 6 rfl) rfl,
  f_bipush (e_dx DX12_first_6 7 rfl) ⟨by decide, by decide⟩,
  x_callV (e_dx DX12_first_6 8 rfl) mwX12_must vwX12_must cX12_389 rfl,
  f_if_eq (e_dx DX12_first_6 9 rfl) rfl,
  f_aload_n (n := 0) (e_dx DX12_first_6 10 rfl) rfl,
  f_iconst (e_dx DX12_first_6 11 rfl) ⟨by decide, by decide⟩,
  x_callV (e_dx DX12_first_6 12 rfl) mwX12_mustName vwX12_mustName cX12_379 rfl,
  f_if_eq (e_dx DX12_first_6 13 rfl) rfl,
  f_aload_n (n := 0) (e_dx DX12_first_6 14 rfl) rfl,
  f_iconst (e_dx DX12_first_6 15 rfl) ⟨by decide, by decide⟩,
  x_callV (e_dx DX12_first_6 16 rfl) mwX12_must vwX12_must cX12_389 rfl,
  f_if_eq (e_dx DX12_first_6 17 rfl) rfl,
  f_aload_n (n := 0) (e_dx DX12_first_6 18 rfl) rfl,
  f_iconst (e_dx DX12_first_6 19 rfl) ⟨by decide, by decide⟩,
  x_callV (e_dx DX12_first_6 20 rfl) mwX12_mustName vwX12_mustName cX12_379 rfl,
  f_if_eq (e_dx DX12_first_6 21 rfl) rfl,
  f_aload_n (n := 0) (e_dx DX12_first_6 22 rfl) rfl,
  f_bipush (e_dx DX12_first_6 23 rfl) ⟨by decide, by decide⟩,
  x_callV (e_dx DX12_first_6 24 rfl) mwX12_must vwX12_must cX12_389 rfl,
  f_if_eq (e_dx DX12_first_6 25 rfl) rfl,
  f_aload_n (n := 0) (e_dx DX12_first_6 26 rfl) rfl,
  x_callV (e_dx DX12_first_6 27 rfl) mwX12_mustAmount vwX12_mustAmount cX12_404 rfl,
  f_if_eq (e_dx DX12_first_6 28 rfl) rfl,
  f_iconst (e_dx DX12_first_6 29 rfl) ⟨by decide, by decide⟩,
  f_g19 (e_dx DX12_first_6 30 rfl) rfl,
  f_iconst (e_dx DX12_first_6 31 rfl) ⟨by decide, by decide⟩,
  ⟨(e_dx DX12_first_6 32 rfl), rfl⟩,
  f_aload_n (n := 0) (e_dx DX12_first_6 33 rfl) rfl,
  f_getf (e_dx DX12_first_6 34 rfl) fX12_309 rfl (by decide) (by decide) (by decide),
  f_iconst (e_dx DX12_first_6 35 rfl) ⟨by decide, by decide⟩,
  f_icmp_ne (e_dx DX12_first_6 36 rfl) rfl,
  f_aload_n (n := 0) (e_dx DX12_first_6 37 rfl) rfl,
  f_getf (e_dx DX12_first_6 38 rfl) fX12_306 rfl (by decide) (by decide) (by decide),
  f_bipush (e_dx DX12_first_6 39 rfl) ⟨by decide, by decide⟩,
  f_icmp_lt (e_dx DX12_first_7 0 rfl) rfl,
  f_aload_n (n := 0) (e_dx DX12_first_7 1 rfl) rfl,
  f_getf (e_dx DX12_first_7 2 rfl) fX12_306 rfl (by decide) (by decide) (by decide),
  f_bipush (e_dx DX12_first_7 3 rfl) ⟨by decide, by decide⟩,
  f_icmp_le (e_dx DX12_first_7 4 rfl) rfl,
  trivial,
  f_aload_n (n := 0) (e_dx DX12_first_7 5 rfl) rfl,
  f_iconst (e_dx DX12_first_7 6 rfl) ⟨by decide, by decide⟩,
  x_callV (e_dx DX12_first_7 7 rfl) mwX12_wrong vwX12_wrong cX12_342 rfl,
  ⟨(e_dx DX12_first_7 8 rfl), rfl⟩,
  f_aload_n (n := 0) (e_dx DX12_first_7 9 rfl) rfl,
  f_getA (e_dx DX12_first_7 10 rfl) fX12_39 rfl (by decide) (Nat.le_of_ble_eq_true rfl) rfl (by decide),
  f_aload_n (n := 0) (e_dx DX12_first_7 11 rfl) rfl,
  f_getf (e_dx DX12_first_7 12 rfl) fX12_363 rfl (by decide) (by decide) (by decide),
  f_aload_n (n := 0) (e_dx DX12_first_7 13 rfl) rfl,
  f_getf (e_dx DX12_first_7 14 rfl) fX12_306 rfl (by decide) (by decide) (by decide),
  f_bipush (e_dx DX12_first_7 15 rfl) ⟨by decide, by decide⟩,
  f_isub (e_dx DX12_first_7 16 rfl),
  f_iastore (e_dx DX12_first_7 17 rfl),
  f_aload_n (n := 0) (e_dx DX12_first_7 18 rfl) rfl,
  f_iconst (e_dx DX12_first_7 19 rfl) ⟨by decide, by decide⟩,
  x_callV (e_dx DX12_first_7 20 rfl) mwX12_good vwX12_good cX12_351 rfl,
  f_if_eq (e_dx DX12_first_7 21 rfl) rfl,
  f_aload_n (n := 0) (e_dx DX12_first_7 22 rfl) rfl,
  f_bipush (e_dx DX12_first_7 23 rfl) ⟨by decide, by decide⟩,
  x_callV (e_dx DX12_first_7 24 rfl) mwX12_must vwX12_must cX12_389 rfl,
  f_if_eq (e_dx DX12_first_7 25 rfl) rfl,
  f_aload_n (n := 0) (e_dx DX12_first_7 26 rfl) rfl,
  f_iconst (e_dx DX12_first_7 27 rfl) ⟨by decide, by decide⟩,
  x_callV (e_dx DX12_first_7 28 rfl) mwX12_mustName vwX12_mustName cX12_379 rfl,
  f_if_eq (e_dx DX12_first_7 29 rfl) rfl,
  f_aload_n (n := 0) (e_dx DX12_first_7 30 rfl) rfl,
  f_bipush (e_dx DX12_first_7 31 rfl) ⟨by decide, by decide⟩,
  x_callV (e_dx DX12_first_7 32 rfl) mwX12_must vwX12_must cX12_389 rfl,
  f_if_eq (e_dx DX12_first_7 33 rfl) rfl,
  f_aload_n (n := 0) (e_dx DX12_first_7 34 rfl) rfl,
  f_iconst (e_dx DX12_first_7 35 rfl) ⟨by decide, by decide⟩,
  x_callV (e_dx DX12_first_7 36 rfl) mwX12_mustName vwX12_mustName cX12_379 rfl,
  f_if_eq (e_dx DX12_first_7 37 rfl) rfl,
  f_aload_n (n := 0) (e_dx DX12_first_7 38 rfl) rfl,
  f_bipush (e_dx DX12_first_7 39 rfl) ⟨by decide, by decide⟩,
  x_callV (e_dx DX12_first_8 0 rfl) mwX12_must vwX12_must cX12_389 rfl,
  f_if_eq (e_dx DX12_first_8 1 rfl) rfl,
  f_aload_n (n := 0) (e_dx DX12_first_8 2 rfl) rfl,
  x_callV (e_dx DX12_first_8 3 rfl) mwX12_mustPoints vwX12_mustPoints cX12_407 rfl,
  f_if_eq (e_dx DX12_first_8 4 rfl) rfl,
  f_iconst (e_dx DX12_first_8 5 rfl) ⟨by decide, by decide⟩,
  f_g19 (e_dx DX12_first_8 6 rfl) rfl,
  f_iconst (e_dx DX12_first_8 7 rfl) ⟨by decide, by decide⟩,
  ⟨(e_dx DX12_first_8 8 rfl), rfl⟩,
  f_aload_n (n := 0) (e_dx DX12_first_8 9 rfl) rfl,
  f_iconst (e_dx DX12_first_8 10 rfl) ⟨by decide, by decide⟩,
  x_callV (e_dx DX12_first_8 11 rfl) mwX12_must vwX12_must cX12_389 rfl,
  f_if_eq (e_dx DX12_first_8 12 rfl) rfl,
  f_aload_n (n := 0) (e_dx DX12_first_8 13 rfl) rfl,
  f_iconst (e_dx DX12_first_8 14 rfl) ⟨by decide, by decide⟩,
  x_callV (e_dx DX12_first_8 15 rfl) mwX12_mustName vwX12_mustName cX12_379 rfl,
  f_if_eq (e_dx DX12_first_8 16 rfl) rfl,
  f_aload_n (n := 0) (e_dx DX12_first_8 17 rfl) rfl,
  f_iconst (e_dx DX12_first_8 18 rfl) ⟨by decide, by decide⟩,
  x_callV (e_dx DX12_first_8 19 rfl) mwX12_must vwX12_must cX12_389 rfl,
  f_if_eq (e_dx DX12_first_8 20 rfl) rfl,
  f_aload_n (n := 0) (e_dx DX12_first_8 21 rfl) rfl,
  f_iconst (e_dx DX12_first_8 22 rfl) ⟨by decide, by decide⟩,
  x_callV (e_dx DX12_first_8 23 rfl) mwX12_mustName vwX12_mustName cX12_379 rfl,
  f_if_eq (e_dx DX12_first_8 24 rfl) rfl,
  f_aload_n (n := 0) (e_dx DX12_first_8 25 rfl) rfl,
  f_bipush (e_dx DX12_first_8 26 rfl) ⟨by decide, by decide⟩,
  x_callV (e_dx DX12_first_8 27 rfl) mwX12_must vwX12_must cX12_389 rfl,
  f_if_eq (e_dx DX12_first_8 28 rfl) rfl,
  f_aload_n (n := 0) (e_dx DX12_first_8 29 rfl) rfl,
  x_callV (e_dx DX12_first_8 30 rfl) mwX12_mustDate vwX12_mustDate cX12_398 rfl,
  f_if_eq (e_dx DX12_first_8 31 rfl) rfl,
  f_aload_n (n := 0) (e_dx DX12_first_8 32 rfl) rfl,
  f_bipush (e_dx DX12_first_8 33 rfl) ⟨by decide, by decide⟩,
  x_callV (e_dx DX12_first_8 34 rfl) mwX12_must vwX12_must cX12_389 rfl,
  f_if_eq (e_dx DX12_first_8 35 rfl) rfl,
  f_aload_n (n := 0) (e_dx DX12_first_8 36 rfl) rfl,
  x_callV (e_dx DX12_first_8 37 rfl) mwX12_mustAmount vwX12_mustAmount cX12_404 rfl,
  f_if_eq (e_dx DX12_first_8 38 rfl) rfl,
  f_iconst (e_dx DX12_first_8 39 rfl) ⟨by decide, by decide⟩,
  f_g19 (e_dx DX12_first_9 0 rfl) rfl,
  f_iconst (e_dx DX12_first_9 1 rfl) ⟨by decide, by decide⟩,
  ⟨(e_dx DX12_first_9 2 rfl), rfl⟩,
  f_aload_n (n := 0) (e_dx DX12_first_9 3 rfl) rfl,
  f_iconst (e_dx DX12_first_9 4 rfl) ⟨by decide, by decide⟩,
  x_callV (e_dx DX12_first_9 5 rfl) mwX12_must vwX12_must cX12_389 rfl,
  f_if_eq (e_dx DX12_first_9 6 rfl) rfl,
  f_aload_n (n := 0) (e_dx DX12_first_9 7 rfl) rfl,
  f_iconst (e_dx DX12_first_9 8 rfl) ⟨by decide, by decide⟩,
  x_callV (e_dx DX12_first_9 9 rfl) mwX12_mustName vwX12_mustName cX12_379 rfl,
  f_if_eq (e_dx DX12_first_9 10 rfl) rfl,
  f_aload_n (n := 0) (e_dx DX12_first_9 11 rfl) rfl,
  f_bipush (e_dx DX12_first_9 12 rfl) ⟨by decide, by decide⟩,
  x_callV (e_dx DX12_first_9 13 rfl) mwX12_must vwX12_must cX12_389 rfl,
  f_if_eq (e_dx DX12_first_9 14 rfl) rfl,
  f_aload_n (n := 0) (e_dx DX12_first_9 15 rfl) rfl,
  f_iconst (e_dx DX12_first_9 16 rfl) ⟨by decide, by decide⟩,
  x_callV (e_dx DX12_first_9 17 rfl) mwX12_mustName vwX12_mustName cX12_379 rfl,
  f_if_eq (e_dx DX12_first_9 18 rfl) rfl,
  f_iconst (e_dx DX12_first_9 19 rfl) ⟨by decide, by decide⟩,
  f_g19 (e_dx DX12_first_9 20 rfl) rfl,
  f_iconst (e_dx DX12_first_9 21 rfl) ⟨by decide, by decide⟩,
  ⟨(e_dx DX12_first_9 22 rfl), rfl⟩,
  f_aload_n (n := 0) (e_dx DX12_first_9 23 rfl) rfl,
  f_iconst (e_dx DX12_first_9 24 rfl) ⟨by decide, by decide⟩,
  x_callV (e_dx DX12_first_9 25 rfl) mwX12_must vwX12_must cX12_389 rfl,
  f_if_eq (e_dx DX12_first_9 26 rfl) rfl,
  f_aload_n (n := 0) (e_dx DX12_first_9 27 rfl) rfl,
  f_iconst (e_dx DX12_first_9 28 rfl) ⟨by decide, by decide⟩,
  x_callV (e_dx DX12_first_9 29 rfl) mwX12_mustName vwX12_mustName cX12_379 rfl,
  f_if_eq (e_dx DX12_first_9 30 rfl) rfl,
  f_aload_n (n := 0) (e_dx DX12_first_9 31 rfl) rfl,
  f_iconst (e_dx DX12_first_9 32 rfl) ⟨by decide, by decide⟩,
  x_callV (e_dx DX12_first_9 33 rfl) mwX12_must vwX12_must cX12_389 rfl,
  f_if_eq (e_dx DX12_first_9 34 rfl) rfl,
  f_aload_n (n := 0) (e_dx DX12_first_9 35 rfl) rfl,
  f_iconst (e_dx DX12_first_9 36 rfl) ⟨by decide, by decide⟩,
  x_callV (e_dx DX12_first_9 37 rfl) mwX12_mustName vwX12_mustName cX12_379 rfl,
  f_if_eq (e_dx DX12_first_9 38 rfl) rfl,
  f_aload_n (n := 0) (e_dx DX12_first_9 39 rfl) rfl,
  f_bipush (e_dx DX12_first_10 0 rfl) ⟨by decide, by decide⟩,
  x_callV (e_dx DX12_first_10 1 rfl) mwX12_must vwX12_must cX12_389 rfl,
  f_if_eq (e_dx DX12_first_10 2 rfl) rfl,
  f_aload_n (n := 0) (e_dx DX12_first_10 3 rfl) rfl,
  x_callV (e_dx DX12_first_10 4 rfl) mwX12_mustDate vwX12_mustDate cX12_398 rfl,
  f_if_eq (e_dx DX12_first_10 5 rfl) rfl,
  f_iconst (e_dx DX12_first_10 6 rfl) ⟨by decide, by decide⟩,
  f_g19 (e_dx DX12_first_10 7 rfl) rfl,
  f_iconst (e_dx DX12_first_10 8 rfl) ⟨by decide, by decide⟩,
  ⟨(e_dx DX12_first_10 9 rfl), rfl⟩, trivial⟩
def lX12_first (c_X12_mustName : Int → e_M → (Int → e_M → Prop) → Prop) (c_X12_must : Int → e_M → (Int → e_M → Prop) → Prop) (c_X12_mustDate : e_M → (Int → e_M → Prop) → Prop) (c_X12_isWord : Int → e_M → (Int → Prop) → Prop) (c_X12_mustParts : e_M → (Int → e_M → Prop) → Prop) (c_X12_mustShare : e_M → (Int → e_M → Prop) → Prop) (c_X12_mustAmount : e_M → (Int → e_M → Prop) → Prop) (c_X12_mustPoints : e_M → (Int → e_M → Prop) → Prop) (c_X12_mustSign : Int → e_M → (Int → e_M → Prop) → Prop) (c_X12_mustNames : e_M → (Int → e_M → Prop) → Prop) (c_X12_wrong : Int → e_M → (Int → e_M → Prop) → Prop) (c_X12_good : Int → e_M → (Int → e_M → Prop) → Prop) : List (Nat × f_Wt) := [(0, f_wm [(4466, 12, 123), (1, 0, 0)] (fun ar M R => c_X12_mustName (f_vi (f_nth ar 1)) M (fun r M => R (some (.inl r)) M))), (1, f_wm [(4466, 12, 123), (1, 0, 0)] (fun ar M R => c_X12_must (f_vi (f_nth ar 1)) M (fun r M => R (some (.inl r)) M))), (2, f_wm [(4466, 12, 123)] (fun ar M R => c_X12_mustDate  M (fun r M => R (some (.inl r)) M))), (3, f_wm [(4466, 12, 123), (1, 0, 0)] (fun ar M R => c_X12_isWord (f_vi (f_nth ar 1)) M (fun r => R (some (.inl r)) M))), (4, f_wm [(4466, 12, 123)] (fun ar M R => c_X12_mustParts  M (fun r M => R (some (.inl r)) M))), (5, f_wm [(4466, 12, 123)] (fun ar M R => c_X12_mustShare  M (fun r M => R (some (.inl r)) M))), (6, f_wm [(4466, 12, 123)] (fun ar M R => c_X12_mustAmount  M (fun r M => R (some (.inl r)) M))), (7, f_wm [(4466, 12, 123)] (fun ar M R => c_X12_mustPoints  M (fun r M => R (some (.inl r)) M))), (8, f_wm [(4466, 12, 123), (1, 0, 0)] (fun ar M R => c_X12_mustSign (f_vi (f_nth ar 1)) M (fun r M => R (some (.inl r)) M))), (9, f_wm [(4466, 12, 123)] (fun ar M R => c_X12_mustNames  M (fun r M => R (some (.inl r)) M))), (10, f_wm [(4466, 12, 123), (1, 0, 0)] (fun ar M R => c_X12_wrong (f_vi (f_nth ar 1)) M (fun r M => R (some (.inl r)) M))), (11, f_wm [(4466, 12, 123), (1, 0, 0)] (fun ar M R => c_X12_good (f_vi (f_nth ar 1)) M (fun r M => R (some (.inl r)) M)))]
set_option maxRecDepth 20000 in
theorem BX12_first_219 {sh : Nat → Nat × Nat} {t : Nat} {rm : Nat × Nat × Nat} {cs : Nat × Nat} {R : f_Rt} {c_X12_mustName : Int → e_M → (Int → e_M → Prop) → Prop} {c_X12_must : Int → e_M → (Int → e_M → Prop) → Prop} {c_X12_mustDate : e_M → (Int → e_M → Prop) → Prop} {c_X12_isWord : Int → e_M → (Int → Prop) → Prop} {c_X12_mustParts : e_M → (Int → e_M → Prop) → Prop} {c_X12_mustShare : e_M → (Int → e_M → Prop) → Prop} {c_X12_mustAmount : e_M → (Int → e_M → Prop) → Prop} {c_X12_mustPoints : e_M → (Int → e_M → Prop) → Prop} {c_X12_mustSign : Int → e_M → (Int → e_M → Prop) → Prop} {c_X12_mustNames : e_M → (Int → e_M → Prop) → Prop} {c_X12_wrong : Int → e_M → (Int → e_M → Prop) → Prop} {c_X12_good : Int → e_M → (Int → e_M → Prop) → Prop} {M : e_M} (C : f_Hy sh t yX12_first rm cs 12 (lX12_first c_X12_mustName c_X12_must c_X12_mustDate c_X12_isWord c_X12_mustParts c_X12_mustShare c_X12_mustAmount c_X12_mustPoints c_X12_mustSign c_X12_mustNames c_X12_wrong c_X12_good) R) (h : VX12_first_219 c_X12_mustName c_X12_must c_X12_mustDate c_X12_isWord c_X12_mustParts c_X12_mustShare c_X12_mustAmount c_X12_mustPoints c_X12_mustSign c_X12_mustNames c_X12_wrong c_X12_good (fun r M => R (some (.inl r)) M) M) : f_E sh t YX12_first rm cs (f_Q sh t R) 219 [.inr (.inr (.inr ())), .inr (.inr (.inr ()))] [] M :=
  f_go (KC := f_kc []) C qX12_firstf f_kc_nil 415 43 h
set_option maxRecDepth 20000 in
theorem BX12_first_289 {sh : Nat → Nat × Nat} {t : Nat} {rm : Nat × Nat × Nat} {cs : Nat × Nat} {R : f_Rt} {c_X12_mustName : Int → e_M → (Int → e_M → Prop) → Prop} {c_X12_must : Int → e_M → (Int → e_M → Prop) → Prop} {c_X12_mustDate : e_M → (Int → e_M → Prop) → Prop} {c_X12_isWord : Int → e_M → (Int → Prop) → Prop} {c_X12_mustParts : e_M → (Int → e_M → Prop) → Prop} {c_X12_mustShare : e_M → (Int → e_M → Prop) → Prop} {c_X12_mustAmount : e_M → (Int → e_M → Prop) → Prop} {c_X12_mustPoints : e_M → (Int → e_M → Prop) → Prop} {c_X12_mustSign : Int → e_M → (Int → e_M → Prop) → Prop} {c_X12_mustNames : e_M → (Int → e_M → Prop) → Prop} {c_X12_wrong : Int → e_M → (Int → e_M → Prop) → Prop} {c_X12_good : Int → e_M → (Int → e_M → Prop) → Prop} {M : e_M} (C : f_Hy sh t yX12_first rm cs 12 (lX12_first c_X12_mustName c_X12_must c_X12_mustDate c_X12_isWord c_X12_mustParts c_X12_mustShare c_X12_mustAmount c_X12_mustPoints c_X12_mustSign c_X12_mustNames c_X12_wrong c_X12_good) R) (h : VX12_first_289 c_X12_mustName c_X12_must c_X12_mustDate c_X12_isWord c_X12_mustParts c_X12_mustShare c_X12_mustAmount c_X12_mustPoints c_X12_mustSign c_X12_mustNames c_X12_wrong c_X12_good (fun r M => R (some (.inl r)) M) M) : f_E sh t YX12_first rm cs (f_Q sh t R) 289 [.inr (.inr (.inl (12, 123, 4456))), .inr (.inr (.inr ()))] [] M :=
  f_go (KC := f_kc []) C qX12_firstf f_kc_nil 415 83 h
set_option maxRecDepth 20000 in
theorem BX12_first_701 {sh : Nat → Nat × Nat} {t : Nat} {rm : Nat × Nat × Nat} {cs : Nat × Nat} {R : f_Rt} {c_X12_mustName : Int → e_M → (Int → e_M → Prop) → Prop} {c_X12_must : Int → e_M → (Int → e_M → Prop) → Prop} {c_X12_mustDate : e_M → (Int → e_M → Prop) → Prop} {c_X12_isWord : Int → e_M → (Int → Prop) → Prop} {c_X12_mustParts : e_M → (Int → e_M → Prop) → Prop} {c_X12_mustShare : e_M → (Int → e_M → Prop) → Prop} {c_X12_mustAmount : e_M → (Int → e_M → Prop) → Prop} {c_X12_mustPoints : e_M → (Int → e_M → Prop) → Prop} {c_X12_mustSign : Int → e_M → (Int → e_M → Prop) → Prop} {c_X12_mustNames : e_M → (Int → e_M → Prop) → Prop} {c_X12_wrong : Int → e_M → (Int → e_M → Prop) → Prop} {c_X12_good : Int → e_M → (Int → e_M → Prop) → Prop} {M : e_M} (C : f_Hy sh t yX12_first rm cs 12 (lX12_first c_X12_mustName c_X12_must c_X12_mustDate c_X12_isWord c_X12_mustParts c_X12_mustShare c_X12_mustAmount c_X12_mustPoints c_X12_mustSign c_X12_mustNames c_X12_wrong c_X12_good) R) (h : VX12_first_701 c_X12_mustName c_X12_must c_X12_mustDate c_X12_isWord c_X12_mustParts c_X12_mustShare c_X12_mustAmount c_X12_mustPoints c_X12_mustSign c_X12_mustNames c_X12_wrong c_X12_good (fun r M => R (some (.inl r)) M) M) : f_E sh t YX12_first rm cs (f_Q sh t R) 701 [.inr (.inr (.inl (12, 123, 4456))), .inr (.inr (.inr ()))] [] M :=
  f_go (KC := f_kc []) C qX12_firstf f_kc_nil 415 288 h
set_option maxRecDepth 20000 in
theorem BX12_first {sh : Nat → Nat × Nat} {t : Nat} {rm : Nat × Nat × Nat} {cs : Nat × Nat} {R : f_Rt} {c_X12_mustName : Int → e_M → (Int → e_M → Prop) → Prop} {c_X12_must : Int → e_M → (Int → e_M → Prop) → Prop} {c_X12_mustDate : e_M → (Int → e_M → Prop) → Prop} {c_X12_isWord : Int → e_M → (Int → Prop) → Prop} {c_X12_mustParts : e_M → (Int → e_M → Prop) → Prop} {c_X12_mustShare : e_M → (Int → e_M → Prop) → Prop} {c_X12_mustAmount : e_M → (Int → e_M → Prop) → Prop} {c_X12_mustPoints : e_M → (Int → e_M → Prop) → Prop} {c_X12_mustSign : Int → e_M → (Int → e_M → Prop) → Prop} {c_X12_mustNames : e_M → (Int → e_M → Prop) → Prop} {c_X12_wrong : Int → e_M → (Int → e_M → Prop) → Prop} {c_X12_good : Int → e_M → (Int → e_M → Prop) → Prop} {k701 : e_M → Prop} {k289 : e_M → Prop} {k219 : e_M → Prop} {x1 : Int} {M : e_M} (C : f_Hy sh t yX12_first rm cs 12 (lX12_first c_X12_mustName c_X12_must c_X12_mustDate c_X12_isWord c_X12_mustParts c_X12_mustShare c_X12_mustAmount c_X12_mustPoints c_X12_mustSign c_X12_mustNames c_X12_wrong c_X12_good) R) (h701 : ∀ (M : e_M), k701 M → f_E sh t YX12_first rm cs (f_Q sh t R) 701 [.inr (.inr (.inl (12, 123, 4456))), .inr (.inr (.inr ()))] [] M) (h289 : ∀ (M : e_M), k289 M → f_E sh t YX12_first rm cs (f_Q sh t R) 289 [.inr (.inr (.inl (12, 123, 4456))), .inr (.inr (.inr ()))] [] M) (h219 : ∀ (M : e_M), k219 M → f_E sh t YX12_first rm cs (f_Q sh t R) 219 [.inr (.inr (.inr ())), .inr (.inr (.inr ()))] [] M) (h : VX12_first c_X12_mustName c_X12_must c_X12_mustDate c_X12_isWord c_X12_mustParts c_X12_mustShare c_X12_mustAmount c_X12_mustPoints c_X12_mustSign c_X12_mustNames c_X12_wrong c_X12_good k701 k289 k219 (fun r M => R (some (.inl r)) M) x1 M) : f_E sh t YX12_first rm cs (f_Q sh t R) 0 [.inr (.inr (.inl (12, 123, 4456))), .inl x1] [] M :=
  f_go (KC := f_kc [(701, f_pl [(4466, 12, 123), (0, 0, 0)] [] (fun ls st M => k701 M)), (289, f_pl [(4466, 12, 123), (0, 0, 0)] [] (fun ls st M => k289 M)), (219, f_pl [(0, 0, 0), (0, 0, 0)] [] (fun ls st M => k219 M))]) C qX12_firstf (f_kc_cons (f_pl_ok rfl (fun ls st M h => h701  M h)) (f_kc_cons (f_pl_ok rfl (fun ls st M h => h289  M h)) (f_kc_cons (f_pl_ok rfl (fun ls st M h => h219  M h)) f_kc_nil))) 415 0 h
def WX12_first_219 (Q : Int → e_M → Prop) (M : e_M) : Prop :=
  VX12_first_219 WX12_mustName WX12_must WX12_mustDate WX12_isWord WX12_mustParts WX12_mustShare WX12_mustAmount WX12_mustPoints WX12_mustSign WX12_mustNames WX12_wrong WX12_good Q M
def WX12_first_289 (Q : Int → e_M → Prop) (M : e_M) : Prop :=
  VX12_first_289 WX12_mustName WX12_must WX12_mustDate WX12_isWord WX12_mustParts WX12_mustShare WX12_mustAmount WX12_mustPoints WX12_mustSign WX12_mustNames WX12_wrong WX12_good Q M
def WX12_first_701 (Q : Int → e_M → Prop) (M : e_M) : Prop :=
  VX12_first_701 WX12_mustName WX12_must WX12_mustDate WX12_isWord WX12_mustParts WX12_mustShare WX12_mustAmount WX12_mustPoints WX12_mustSign WX12_mustNames WX12_wrong WX12_good Q M
def WX12_first (x1 : Int) (M : e_M) (Q : Int → e_M → Prop) : Prop :=
  VX12_first WX12_mustName WX12_must WX12_mustDate WX12_isWord WX12_mustParts WX12_mustShare WX12_mustAmount WX12_mustPoints WX12_mustSign WX12_mustNames WX12_wrong WX12_good (WX12_first_701 Q) (WX12_first_289 Q) (WX12_first_219 Q) Q x1 M
theorem PX12_first_219 {sh : Nat → Nat × Nat} {t : Nat} {rm : Nat × Nat × Nat} {cs : Nat × Nat} {R : f_Rt} {M : e_M} (C : f_Hy sh t yX12_first rm cs 12 (lX12_first WX12_mustName WX12_must WX12_mustDate WX12_isWord WX12_mustParts WX12_mustShare WX12_mustAmount WX12_mustPoints WX12_mustSign WX12_mustNames WX12_wrong WX12_good) R) (h : WX12_first_219 (fun r M => R (some (.inl r)) M) M) : f_E sh t YX12_first rm cs (f_Q sh t R) 219 [.inr (.inr (.inr ())), .inr (.inr (.inr ()))] [] M :=
  BX12_first_219 C h
theorem PX12_first_289 {sh : Nat → Nat × Nat} {t : Nat} {rm : Nat × Nat × Nat} {cs : Nat × Nat} {R : f_Rt} {M : e_M} (C : f_Hy sh t yX12_first rm cs 12 (lX12_first WX12_mustName WX12_must WX12_mustDate WX12_isWord WX12_mustParts WX12_mustShare WX12_mustAmount WX12_mustPoints WX12_mustSign WX12_mustNames WX12_wrong WX12_good) R) (h : WX12_first_289 (fun r M => R (some (.inl r)) M) M) : f_E sh t YX12_first rm cs (f_Q sh t R) 289 [.inr (.inr (.inl (12, 123, 4456))), .inr (.inr (.inr ()))] [] M :=
  BX12_first_289 C h
theorem PX12_first_701 {sh : Nat → Nat × Nat} {t : Nat} {rm : Nat × Nat × Nat} {cs : Nat × Nat} {R : f_Rt} {M : e_M} (C : f_Hy sh t yX12_first rm cs 12 (lX12_first WX12_mustName WX12_must WX12_mustDate WX12_isWord WX12_mustParts WX12_mustShare WX12_mustAmount WX12_mustPoints WX12_mustSign WX12_mustNames WX12_wrong WX12_good) R) (h : WX12_first_701 (fun r M => R (some (.inl r)) M) M) : f_E sh t YX12_first rm cs (f_Q sh t R) 701 [.inr (.inr (.inl (12, 123, 4456))), .inr (.inr (.inr ()))] [] M :=
  BX12_first_701 C h
theorem PX12_first {sh : Nat → Nat × Nat} {t : Nat} {rm : Nat × Nat × Nat} {cs : Nat × Nat} {R : f_Rt} {x1 : Int} {M : e_M} (C : f_Hy sh t yX12_first rm cs 12 (lX12_first WX12_mustName WX12_must WX12_mustDate WX12_isWord WX12_mustParts WX12_mustShare WX12_mustAmount WX12_mustPoints WX12_mustSign WX12_mustNames WX12_wrong WX12_good) R) (h : WX12_first x1 M (fun r M => R (some (.inl r)) M)) : f_E sh t YX12_first rm cs (f_Q sh t R) 0 [.inr (.inr (.inl (12, 123, 4456))), .inl x1] [] M :=
  BX12_first C (fun M h => PX12_first_701 C h) (fun M h => PX12_first_289 C h) (fun M h => PX12_first_219 C h) h
def wX12_first : f_Wt := f_wm [(4466, 12, 123), (1, 0, 0)] (fun ar M R => WX12_first (f_vi (f_nth ar 1)) M (fun r M => R (some (.inl r)) M))
theorem TX12_first {sh : Nat → Nat × Nat} {t : Nat} : f_Mt sh t YX12_first 12 (wX12_first) :=
  f_Mt_of (k := 0) (Nat.le_of_ble_eq_true rfl) rfl rfl (fun ar M R rm cs h1 h2 h3 hX h => PX12_first ⟨Nat.le_of_ble_eq_true rfl, h1, h2, h3, ⟨(f_Mt.up (Nat.le_of_ble_eq_true rfl) TX12_mustName), (f_Mt.up (Nat.le_of_ble_eq_true rfl) TX12_must), (f_Mt.up (Nat.le_of_ble_eq_true rfl) TX12_mustDate), (f_Mt.up (Nat.le_of_ble_eq_true rfl) TX12_isWord), (f_Mt.up (Nat.le_of_ble_eq_true rfl) TX12_mustParts), (f_Mt.up (Nat.le_of_ble_eq_true rfl) TX12_mustShare), (f_Mt.up (Nat.le_of_ble_eq_true rfl) TX12_mustAmount), (f_Mt.up (Nat.le_of_ble_eq_true rfl) TX12_mustPoints), (f_Mt.up (Nat.le_of_ble_eq_true rfl) TX12_mustSign), (f_Mt.up (Nat.le_of_ble_eq_true rfl) TX12_mustNames), (f_Mt.up (Nat.le_of_ble_eq_true rfl) TX12_wrong), (f_Mt.up (Nat.le_of_ble_eq_true rfl) TX12_good), trivial⟩, hX⟩ h)
def VX12_mustDeed_108 (c_X12_must : Int → e_M → (Int → e_M → Prop) → Prop) (c_X12_wrong : Int → e_M → (Int → e_M → Prop) → Prop) (c_X12_good : Int → e_M → (Int → e_M → Prop) → Prop) (c_X12_isAct : Int → e_M → (Int → Prop) → Prop) (c_X12_first : Int → e_M → (Int → e_M → Prop) → Prop) (k134 : e_M → Prop) (Q : Int → e_M → Prop) (x1 : Int) (xs1 : Int) (M : e_M) : Prop :=
  (c_X12_good xs1 M (fun r1 M2 => ((¬ r1 = 0 → ((¬ (M2 4456 7) = 3 → (k134 M2)) ∧ ((M2 4456 7) = 3 → (c_X12_isAct (M2 4456 10) M2 (fun r3 => ((¬ r3 = 0 → ((0 ≤ x1 ∧ x1 < 152) ∧ (∀ M4 : e_M, M4 = e_up M2 4461 (x1.toNat) (M2 4456 10) → (c_X12_good 0 M4 (fun r5 M6 => ((¬ r5 = 0 → ((0 ≤ x1 ∧ x1 < 152) ∧ (c_X12_first (M6 4461 (x1.toNat)) M6 (fun r7 M8 => ((r7 = 0 ∨ r7 = 1) ∧ Q r7 M8))))) ∧ (r5 = 0 → (Q 0 M6)))))))) ∧ (r3 = 0 → (k134 M2)))))))) ∧ (r1 = 0 → (Q 0 M2)))))
def VX12_mustDeed_134 (c_X12_must : Int → e_M → (Int → e_M → Prop) → Prop) (c_X12_wrong : Int → e_M → (Int → e_M → Prop) → Prop) (c_X12_good : Int → e_M → (Int → e_M → Prop) → Prop) (c_X12_isAct : Int → e_M → (Int → Prop) → Prop) (c_X12_first : Int → e_M → (Int → e_M → Prop) → Prop) (Q : Int → e_M → Prop) (M : e_M) : Prop :=
  (c_X12_wrong 1 M (fun r1 M2 => ((r1 = 0 ∨ r1 = 1) ∧ Q r1 M2)))
def VX12_mustDeed (c_X12_must : Int → e_M → (Int → e_M → Prop) → Prop) (c_X12_wrong : Int → e_M → (Int → e_M → Prop) → Prop) (c_X12_good : Int → e_M → (Int → e_M → Prop) → Prop) (c_X12_isAct : Int → e_M → (Int → Prop) → Prop) (c_X12_first : Int → e_M → (Int → e_M → Prop) → Prop) (k108 : Int → Int → e_M → Prop) (Q : Int → e_M → Prop) (x1 : Int) (M : e_M) : Prop :=
  (∀ M1 : e_M, M1 = e_up M 4456 35 x1 → ((0 ≤ x1 ∧ x1 < 152) ∧ (∀ M2 : e_M, M2 = e_up M1 4463 (x1.toNat) 0 → ((0 ≤ x1 ∧ x1 < 152) ∧ (∀ M3 : e_M, M3 = e_up M2 4470 (x1.toNat) 0 → ((0 ≤ x1 ∧ x1 < 152) ∧ (∀ M4 : e_M, M4 = e_up M3 4474 (x1.toNat) 0 → ((0 ≤ x1 ∧ x1 < 152) ∧ (∀ M5 : e_M, M5 = e_up M4 4464 (x1.toNat) 0 → ((0 ≤ x1 ∧ x1 < 152) ∧ (∀ M6 : e_M, M6 = e_up M5 4465 (x1.toNat) 0 → ((0 ≤ x1 ∧ x1 < 152) ∧ (∀ M7 : e_M, M7 = e_up M6 4468 (x1.toNat) 0 → ((0 ≤ x1 ∧ x1 < 152) ∧ (∀ M8 : e_M, M8 = e_up M7 4469 (x1.toNat) 0 → ((0 ≤ x1 ∧ x1 < 152) ∧ (∀ M9 : e_M, M9 = e_up M8 4466 (x1.toNat) 0 → (c_X12_must 0 M9 (fun r10 M11 => ((¬ r10 = 0 → (((M11 4456 7) = 1 → ((0 ≤ x1 ∧ x1 < 152) ∧ (∀ M12 : e_M, M12 = e_up M11 4462 (x1.toNat) (M11 4456 9) → ((0 ≤ (M12 4456 9) → (k108 x1 0 M12)) ∧ ((M12 4456 9) < 0 → (k108 x1 2 M12)))))) ∧ (¬ (M11 4456 7) = 1 → (c_X12_wrong 1 M11 (fun r13 M14 => ((r13 = 0 ∨ r13 = 1) ∧ Q r13 M14)))))) ∧ (r10 = 0 → (Q 0 M11))))))))))))))))))))))
def yX12_mustDeed (i : Nat) : e_Y := x_get YX12_mustDeed [YX12_must, YX12_wrong, YX12_good, YX12_isAct, YX12_first] i
def pX12_mustDeedf : List x_I := [(0, 4, 1, 0, 0, 0, []), (1, 2, 1, 1, 0, 0, []), (2, 26, 12, 35, 0, 0, []), (5, 4, 1, 0, 0, 0, []), (6, 25, 12, 16, 4, 0, [(0, 20, 152), (0, 1, 7)]), (9, 2, 1, 1, 0, 0, []), (10, 0, 1, 0, 0, 0, []), (11, 28, 0, 0, 0, 0, []), (12, 4, 1, 0, 0, 0, []), (13, 25, 12, 23, 4, 0, [(0, 20, 152), (0, 1, 14)]), (16, 2, 1, 1, 0, 0, []), (17, 0, 1, 0, 0, 0, []), (18, 28, 0, 0, 0, 0, []), (19, 4, 1, 0, 0, 0, []), (20, 25, 12, 27, 4, 0, [(0, 20, 152), (0, 1, 18)]), (23, 2, 1, 1, 0, 0, []), (24, 0, 1, 0, 0, 0, []), (25, 28, 0, 0, 0, 0, []), (26, 4, 1, 0, 0, 0, []), (27, 25, 12, 17, 4, 0, [(0, 20, 152), (0, 1, 8)]), (30, 2, 1, 1, 0, 0, []), (31, 0, 1, 0, 0, 0, []), (32, 28, 0, 0, 0, 0, []), (33, 4, 1, 0, 0, 0, []), (34, 25, 12, 18, 4, 0, [(0, 20, 152), (0, 1, 9)]), (37, 2, 1, 1, 0, 0, []), (38, 0, 1, 0, 0, 0, []), (39, 28, 0, 0, 0, 0, []), (40, 4, 1, 0, 0, 0, []), (41, 25, 12, 21, 4, 0, [(0, 20, 152), (0, 1, 12)]), (44, 2, 1, 1, 0, 0, []), (45, 0, 1, 0, 0, 0, []), (46, 28, 0, 0, 0, 0, []), (47, 4, 1, 0, 0, 0, []), (48, 25, 12, 22, 4, 0, [(0, 20, 152), (0, 1, 13)]), (51, 2, 1, 1, 0, 0, []), (52, 0, 1, 0, 0, 0, []), (53, 28, 0, 0, 0, 0, []), (54, 4, 1, 0, 0, 0, []), (55, 25, 12, 19, 4, 0, [(0, 20, 152), (0, 1, 10)]), (58, 2, 1, 1, 0, 0, []), (59, 0, 1, 0, 0, 0, []), (60, 28, 0, 0, 0, 0, []), (61, 4, 1, 0, 0, 0, []), (62, 0, 1, 0, 0, 0, []), (63, 40, 0, 2, 14, 0, []), (66, 17, 71, 1, 50, 0, []), (69, 0, 1, 0, 0, 0, []), (70, 48, 0, 0, 0, 0, []), (71, 4, 1, 0, 0, 0, []), (72, 25, 12, 7, 0, 0, []), (75, 0, 1, 0, 0, 1, []), (76, 18, 85, 0, 58, 0, []), (79, 4, 1, 0, 0, 0, []), (80, 0, 1, 0, 0, 1, []), (81, 40, 1, 2, 14, 0, []), (84, 42, 0, 0, 0, 0, []), (85, 4, 1, 0, 0, 0, []), (86, 25, 12, 15, 4, 0, [(0, 20, 152), (0, 1, 6)]), (89, 2, 1, 1, 0, 0, []), (90, 4, 1, 0, 0, 0, []), (91, 25, 12, 9, 0, 0, []), (94, 28, 0, 0, 0, 0, []), (95, 4, 1, 0, 0, 0, []), (96, 4, 1, 0, 0, 0, []), (97, 25, 12, 9, 0, 0, []), (100, 17, 107, 3, 70, 0, []), (103, 0, 1, 0, 0, 2, []), (104, 19, 108, 0, 71, 0, []), (107, 0, 1, 0, 0, 0, []), (108, 49, 0, 0, 0, 0, []), (108, 40, 2, 2, 14, 0, []), (111, 17, 116, 1, 76, 0, []), (114, 0, 1, 0, 0, 0, []), (115, 48, 0, 0, 0, 0, []), (116, 4, 1, 0, 0, 0, []), (117, 25, 12, 7, 0, 0, []), (120, 0, 1, 0, 0, 3, []), (121, 18, 134, 1, 84, 0, []), (124, 4, 1, 0, 0, 0, []), (125, 25, 12, 10, 0, 0, []), (128, 40, 3, 1, 0, 0, []), (131, 17, 140, 1, 89, 0, []), (134, 49, 0, 0, 0, 0, []), (134, 4, 1, 0, 0, 0, []), (135, 0, 1, 0, 0, 1, []), (136, 40, 1, 2, 14, 0, []), (139, 42, 0, 0, 0, 0, []), (140, 4, 1, 0, 0, 0, []), (141, 25, 12, 14, 4, 0, [(0, 20, 152), (0, 1, 5)]), (144, 2, 1, 1, 0, 0, []), (145, 4, 1, 0, 0, 0, []), (146, 25, 12, 10, 0, 0, []), (149, 28, 0, 0, 0, 0, []), (150, 4, 1, 0, 0, 0, []), (151, 0, 1, 0, 0, 0, []), (152, 40, 2, 2, 14, 0, []), (155, 17, 160, 1, 101, 0, []), (158, 0, 1, 0, 0, 0, []), (159, 48, 0, 0, 0, 0, []), (160, 4, 1, 0, 0, 0, []), (161, 4, 1, 0, 0, 0, []), (162, 25, 12, 14, 4, 0, [(0, 20, 152), (0, 1, 5)]), (165, 2, 1, 1, 0, 0, []), (166, 27, 0, 0, 0, 0, []), (167, 40, 4, 2, 14, 0, []), (170, 42, 0, 0, 0, 0, [])]
set_option maxRecDepth 20000 in
theorem qX12_mustDeedf : f_all yX12_mustDeed YX12_mustDeed pX12_mustDeedf :=
  ⟨f_aload_n (n := 0) (e_dx DX12_mustDeed_0 0 rfl) rfl,
  f_iload_n (n := 1) (e_dx DX12_mustDeed_0 1 rfl) rfl,
  f_putn (e_dx DX12_mustDeed_0 2 rfl) fX12_363 (fun q hq => by cases hq; rfl) rfl (Or.inl rfl) (by decide),
  f_aload_n (n := 0) (e_dx DX12_mustDeed_0 3 rfl) rfl,
  f_getA (e_dx DX12_mustDeed_0 4 rfl) fX12_30 rfl (by decide) (Nat.le_of_ble_eq_true rfl) rfl (by decide),
  f_iload_n (n := 1) (e_dx DX12_mustDeed_0 5 rfl) rfl,
  f_iconst (e_dx DX12_mustDeed_0 6 rfl) ⟨by decide, by decide⟩,
  f_iastore (e_dx DX12_mustDeed_0 7 rfl),
  f_aload_n (n := 0) (e_dx DX12_mustDeed_0 8 rfl) rfl,
  f_getA (e_dx DX12_mustDeed_0 9 rfl) fX12_51 rfl (by decide) (Nat.le_of_ble_eq_true rfl) rfl (by decide),
  f_iload_n (n := 1) (e_dx DX12_mustDeed_0 10 rfl) rfl,
  f_iconst (e_dx DX12_mustDeed_0 11 rfl) ⟨by decide, by decide⟩,
  f_iastore (e_dx DX12_mustDeed_0 12 rfl),
  f_aload_n (n := 0) (e_dx DX12_mustDeed_0 13 rfl) rfl,
  f_getA (e_dx DX12_mustDeed_0 14 rfl) fX12_63 rfl (by decide) (Nat.le_of_ble_eq_true rfl) rfl (by decide),
  f_iload_n (n := 1) (e_dx DX12_mustDeed_0 15 rfl) rfl,
  f_iconst (e_dx DX12_mustDeed_0 16 rfl) ⟨by decide, by decide⟩,
  f_iastore (e_dx DX12_mustDeed_0 17 rfl),
  f_aload_n (n := 0) (e_dx DX12_mustDeed_0 18 rfl) rfl,
  f_getA (e_dx DX12_mustDeed_0 19 rfl) fX12_33 rfl (by decide) (Nat.le_of_ble_eq_true rfl) rfl (by decide),
  f_iload_n (n := 1) (e_dx DX12_mustDeed_0 20 rfl) rfl,
  f_iconst (e_dx DX12_mustDeed_0 21 rfl) ⟨by decide, by decide⟩,
  f_iastore (e_dx DX12_mustDeed_0 22 rfl),
  f_aload_n (n := 0) (e_dx DX12_mustDeed_0 23 rfl) rfl,
  f_getA (e_dx DX12_mustDeed_0 24 rfl) fX12_36 rfl (by decide) (Nat.le_of_ble_eq_true rfl) rfl (by decide),
  f_iload_n (n := 1) (e_dx DX12_mustDeed_0 25 rfl) rfl,
  f_iconst (e_dx DX12_mustDeed_0 26 rfl) ⟨by decide, by decide⟩,
  f_iastore (e_dx DX12_mustDeed_0 27 rfl),
  f_aload_n (n := 0) (e_dx DX12_mustDeed_0 28 rfl) rfl,
  f_getA (e_dx DX12_mustDeed_0 29 rfl) fX12_45 rfl (by decide) (Nat.le_of_ble_eq_true rfl) rfl (by decide),
  f_iload_n (n := 1) (e_dx DX12_mustDeed_0 30 rfl) rfl,
  f_iconst (e_dx DX12_mustDeed_0 31 rfl) ⟨by decide, by decide⟩,
  f_iastore (e_dx DX12_mustDeed_0 32 rfl),
  f_aload_n (n := 0) (e_dx DX12_mustDeed_0 33 rfl) rfl,
  f_getA (e_dx DX12_mustDeed_0 34 rfl) fX12_48 rfl (by decide) (Nat.le_of_ble_eq_true rfl) rfl (by decide),
  f_iload_n (n := 1) (e_dx DX12_mustDeed_0 35 rfl) rfl,
  f_iconst (e_dx DX12_mustDeed_0 36 rfl) ⟨by decide, by decide⟩,
  f_iastore (e_dx DX12_mustDeed_0 37 rfl),
  f_aload_n (n := 0) (e_dx DX12_mustDeed_0 38 rfl) rfl,
  f_getA (e_dx DX12_mustDeed_0 39 rfl) fX12_39 rfl (by decide) (Nat.le_of_ble_eq_true rfl) rfl (by decide),
  f_iload_n (n := 1) (e_dx DX12_mustDeed_1 0 rfl) rfl,
  f_iconst (e_dx DX12_mustDeed_1 1 rfl) ⟨by decide, by decide⟩,
  f_iastore (e_dx DX12_mustDeed_1 2 rfl),
  f_aload_n (n := 0) (e_dx DX12_mustDeed_1 3 rfl) rfl,
  f_iconst (e_dx DX12_mustDeed_1 4 rfl) ⟨by decide, by decide⟩,
  x_callV (e_dx DX12_mustDeed_1 5 rfl) mwX12_must vwX12_must cX12_389 rfl,
  f_if_ne (e_dx DX12_mustDeed_1 6 rfl) rfl,
  f_iconst (e_dx DX12_mustDeed_1 7 rfl) ⟨by decide, by decide⟩,
  ⟨(e_dx DX12_mustDeed_1 8 rfl), rfl⟩,
  f_aload_n (n := 0) (e_dx DX12_mustDeed_1 9 rfl) rfl,
  f_getf (e_dx DX12_mustDeed_1 10 rfl) fX12_309 rfl (by decide) (by decide) (by decide),
  f_iconst (e_dx DX12_mustDeed_1 11 rfl) ⟨by decide, by decide⟩,
  f_icmp_eq (e_dx DX12_mustDeed_1 12 rfl) rfl,
  f_aload_n (n := 0) (e_dx DX12_mustDeed_1 13 rfl) rfl,
  f_iconst (e_dx DX12_mustDeed_1 14 rfl) ⟨by decide, by decide⟩,
  x_callV (e_dx DX12_mustDeed_1 15 rfl) mwX12_wrong vwX12_wrong cX12_342 rfl,
  ⟨(e_dx DX12_mustDeed_1 16 rfl), rfl⟩,
  f_aload_n (n := 0) (e_dx DX12_mustDeed_1 17 rfl) rfl,
  f_getA (e_dx DX12_mustDeed_1 18 rfl) fX12_27 rfl (by decide) (Nat.le_of_ble_eq_true rfl) rfl (by decide),
  f_iload_n (n := 1) (e_dx DX12_mustDeed_1 19 rfl) rfl,
  f_aload_n (n := 0) (e_dx DX12_mustDeed_1 20 rfl) rfl,
  f_getf (e_dx DX12_mustDeed_1 21 rfl) fX12_321 rfl (by decide) (by decide) (by decide),
  f_iastore (e_dx DX12_mustDeed_1 22 rfl),
  f_aload_n (n := 0) (e_dx DX12_mustDeed_1 23 rfl) rfl,
  f_aload_n (n := 0) (e_dx DX12_mustDeed_1 24 rfl) rfl,
  f_getf (e_dx DX12_mustDeed_1 25 rfl) fX12_321 rfl (by decide) (by decide) (by decide),
  f_if_ge (e_dx DX12_mustDeed_1 26 rfl) rfl,
  f_iconst (e_dx DX12_mustDeed_1 27 rfl) ⟨by decide, by decide⟩,
  f_g19 (e_dx DX12_mustDeed_1 28 rfl) rfl,
  f_iconst (e_dx DX12_mustDeed_1 29 rfl) ⟨by decide, by decide⟩,
  trivial,
  x_callV (e_dx DX12_mustDeed_1 30 rfl) mwX12_good vwX12_good cX12_351 rfl,
  f_if_ne (e_dx DX12_mustDeed_1 31 rfl) rfl,
  f_iconst (e_dx DX12_mustDeed_1 32 rfl) ⟨by decide, by decide⟩,
  ⟨(e_dx DX12_mustDeed_1 33 rfl), rfl⟩,
  f_aload_n (n := 0) (e_dx DX12_mustDeed_1 34 rfl) rfl,
  f_getf (e_dx DX12_mustDeed_1 35 rfl) fX12_309 rfl (by decide) (by decide) (by decide),
  f_iconst (e_dx DX12_mustDeed_1 36 rfl) ⟨by decide, by decide⟩,
  f_icmp_ne (e_dx DX12_mustDeed_1 37 rfl) rfl,
  f_aload_n (n := 0) (e_dx DX12_mustDeed_1 38 rfl) rfl,
  f_getf (e_dx DX12_mustDeed_1 39 rfl) fX12_306 rfl (by decide) (by decide) (by decide),
  x_callS (e_dx DX12_mustDeed_2 0 rfl) mwX12_isAct cX12_392 swX12_isAct rfl,
  f_if_ne (e_dx DX12_mustDeed_2 1 rfl) rfl,
  trivial,
  f_aload_n (n := 0) (e_dx DX12_mustDeed_2 2 rfl) rfl,
  f_iconst (e_dx DX12_mustDeed_2 3 rfl) ⟨by decide, by decide⟩,
  x_callV (e_dx DX12_mustDeed_2 4 rfl) mwX12_wrong vwX12_wrong cX12_342 rfl,
  ⟨(e_dx DX12_mustDeed_2 5 rfl), rfl⟩,
  f_aload_n (n := 0) (e_dx DX12_mustDeed_2 6 rfl) rfl,
  f_getA (e_dx DX12_mustDeed_2 7 rfl) fX12_24 rfl (by decide) (Nat.le_of_ble_eq_true rfl) rfl (by decide),
  f_iload_n (n := 1) (e_dx DX12_mustDeed_2 8 rfl) rfl,
  f_aload_n (n := 0) (e_dx DX12_mustDeed_2 9 rfl) rfl,
  f_getf (e_dx DX12_mustDeed_2 10 rfl) fX12_306 rfl (by decide) (by decide) (by decide),
  f_iastore (e_dx DX12_mustDeed_2 11 rfl),
  f_aload_n (n := 0) (e_dx DX12_mustDeed_2 12 rfl) rfl,
  f_iconst (e_dx DX12_mustDeed_2 13 rfl) ⟨by decide, by decide⟩,
  x_callV (e_dx DX12_mustDeed_2 14 rfl) mwX12_good vwX12_good cX12_351 rfl,
  f_if_ne (e_dx DX12_mustDeed_2 15 rfl) rfl,
  f_iconst (e_dx DX12_mustDeed_2 16 rfl) ⟨by decide, by decide⟩,
  ⟨(e_dx DX12_mustDeed_2 17 rfl), rfl⟩,
  f_aload_n (n := 0) (e_dx DX12_mustDeed_2 18 rfl) rfl,
  f_aload_n (n := 0) (e_dx DX12_mustDeed_2 19 rfl) rfl,
  f_getA (e_dx DX12_mustDeed_2 20 rfl) fX12_24 rfl (by decide) (Nat.le_of_ble_eq_true rfl) rfl (by decide),
  f_iload_n (n := 1) (e_dx DX12_mustDeed_2 21 rfl) rfl,
  f_iaload (e_dx DX12_mustDeed_2 22 rfl),
  x_callV (e_dx DX12_mustDeed_2 23 rfl) mwX12_first vwX12_first cX12_395 rfl,
  ⟨(e_dx DX12_mustDeed_2 24 rfl), rfl⟩, trivial⟩
def lX12_mustDeed (c_X12_must : Int → e_M → (Int → e_M → Prop) → Prop) (c_X12_wrong : Int → e_M → (Int → e_M → Prop) → Prop) (c_X12_good : Int → e_M → (Int → e_M → Prop) → Prop) (c_X12_isAct : Int → e_M → (Int → Prop) → Prop) (c_X12_first : Int → e_M → (Int → e_M → Prop) → Prop) : List (Nat × f_Wt) := [(0, f_wm [(4466, 12, 123), (1, 0, 0)] (fun ar M R => c_X12_must (f_vi (f_nth ar 1)) M (fun r M => R (some (.inl r)) M))), (1, f_wm [(4466, 12, 123), (1, 0, 0)] (fun ar M R => c_X12_wrong (f_vi (f_nth ar 1)) M (fun r M => R (some (.inl r)) M))), (2, f_wm [(4466, 12, 123), (1, 0, 0)] (fun ar M R => c_X12_good (f_vi (f_nth ar 1)) M (fun r M => R (some (.inl r)) M))), (3, f_wm [(1, 0, 0)] (fun ar M R => c_X12_isAct (f_vi (f_nth ar 0)) M (fun r => R (some (.inl r)) M))), (4, f_wm [(4466, 12, 123), (1, 0, 0)] (fun ar M R => c_X12_first (f_vi (f_nth ar 1)) M (fun r M => R (some (.inl r)) M)))]
set_option maxRecDepth 20000 in
theorem BX12_mustDeed_108 {sh : Nat → Nat × Nat} {t : Nat} {rm : Nat × Nat × Nat} {cs : Nat × Nat} {R : f_Rt} {c_X12_must : Int → e_M → (Int → e_M → Prop) → Prop} {c_X12_wrong : Int → e_M → (Int → e_M → Prop) → Prop} {c_X12_good : Int → e_M → (Int → e_M → Prop) → Prop} {c_X12_isAct : Int → e_M → (Int → Prop) → Prop} {c_X12_first : Int → e_M → (Int → e_M → Prop) → Prop} {k134 : e_M → Prop} {x1 : Int} {xs1 : Int} {M : e_M} (C : f_Hy sh t yX12_mustDeed rm cs 13 (lX12_mustDeed c_X12_must c_X12_wrong c_X12_good c_X12_isAct c_X12_first) R) (h134 : ∀ (M : e_M), k134 M → f_E sh t YX12_mustDeed rm cs (f_Q sh t R) 134 [.inr (.inr (.inl (12, 123, 4456))), .inr (.inr (.inr ()))] [] M) (h : VX12_mustDeed_108 c_X12_must c_X12_wrong c_X12_good c_X12_isAct c_X12_first k134 (fun r M => R (some (.inl r)) M) x1 xs1 M) : f_E sh t YX12_mustDeed rm cs (f_Q sh t R) 108 [.inr (.inr (.inl (12, 123, 4456))), .inl x1] [.inl xs1, .inr (.inr (.inl (12, 123, 4456)))] M :=
  f_go (KC := f_kc [(134, f_pl [(4466, 12, 123), (0, 0, 0)] [] (fun ls st M => k134 M))]) C qX12_mustDeedf (f_kc_cons (f_pl_ok rfl (fun ls st M h => h134  M h)) f_kc_nil) 109 71 h
set_option maxRecDepth 20000 in
theorem BX12_mustDeed_134 {sh : Nat → Nat × Nat} {t : Nat} {rm : Nat × Nat × Nat} {cs : Nat × Nat} {R : f_Rt} {c_X12_must : Int → e_M → (Int → e_M → Prop) → Prop} {c_X12_wrong : Int → e_M → (Int → e_M → Prop) → Prop} {c_X12_good : Int → e_M → (Int → e_M → Prop) → Prop} {c_X12_isAct : Int → e_M → (Int → Prop) → Prop} {c_X12_first : Int → e_M → (Int → e_M → Prop) → Prop} {M : e_M} (C : f_Hy sh t yX12_mustDeed rm cs 13 (lX12_mustDeed c_X12_must c_X12_wrong c_X12_good c_X12_isAct c_X12_first) R) (h : VX12_mustDeed_134 c_X12_must c_X12_wrong c_X12_good c_X12_isAct c_X12_first (fun r M => R (some (.inl r)) M) M) : f_E sh t YX12_mustDeed rm cs (f_Q sh t R) 134 [.inr (.inr (.inl (12, 123, 4456))), .inr (.inr (.inr ()))] [] M :=
  f_go (KC := f_kc []) C qX12_mustDeedf f_kc_nil 109 84 h
set_option maxRecDepth 20000 in
theorem BX12_mustDeed {sh : Nat → Nat × Nat} {t : Nat} {rm : Nat × Nat × Nat} {cs : Nat × Nat} {R : f_Rt} {c_X12_must : Int → e_M → (Int → e_M → Prop) → Prop} {c_X12_wrong : Int → e_M → (Int → e_M → Prop) → Prop} {c_X12_good : Int → e_M → (Int → e_M → Prop) → Prop} {c_X12_isAct : Int → e_M → (Int → Prop) → Prop} {c_X12_first : Int → e_M → (Int → e_M → Prop) → Prop} {k108 : Int → Int → e_M → Prop} {x1 : Int} {M : e_M} (C : f_Hy sh t yX12_mustDeed rm cs 13 (lX12_mustDeed c_X12_must c_X12_wrong c_X12_good c_X12_isAct c_X12_first) R) (h108 : ∀ (x1 : Int) (xs1 : Int) (M : e_M), k108 x1 xs1 M → f_E sh t YX12_mustDeed rm cs (f_Q sh t R) 108 [.inr (.inr (.inl (12, 123, 4456))), .inl x1] [.inl xs1, .inr (.inr (.inl (12, 123, 4456)))] M) (h : VX12_mustDeed c_X12_must c_X12_wrong c_X12_good c_X12_isAct c_X12_first k108 (fun r M => R (some (.inl r)) M) x1 M) : f_E sh t YX12_mustDeed rm cs (f_Q sh t R) 0 [.inr (.inr (.inl (12, 123, 4456))), .inl x1] [] M :=
  f_go (KC := f_kc [(108, f_pl [(4466, 12, 123), (1, 0, 0)] [(1, 0, 0), (4466, 12, 123)] (fun ls st M => k108 (f_vi (f_nth ls 1)) (f_vi (f_nth st 0)) M))]) C qX12_mustDeedf (f_kc_cons (f_pl_ok rfl (fun ls st M h => h108 _ _ M h)) f_kc_nil) 109 0 h
def WX12_mustDeed_134 (Q : Int → e_M → Prop) (M : e_M) : Prop :=
  VX12_mustDeed_134 WX12_must WX12_wrong WX12_good WX12_isAct WX12_first Q M
def WX12_mustDeed_108 (Q : Int → e_M → Prop) (x1 : Int) (xs1 : Int) (M : e_M) : Prop :=
  VX12_mustDeed_108 WX12_must WX12_wrong WX12_good WX12_isAct WX12_first (WX12_mustDeed_134 Q) Q x1 xs1 M
def WX12_mustDeed (x1 : Int) (M : e_M) (Q : Int → e_M → Prop) : Prop :=
  VX12_mustDeed WX12_must WX12_wrong WX12_good WX12_isAct WX12_first (WX12_mustDeed_108 Q) Q x1 M
theorem PX12_mustDeed_134 {sh : Nat → Nat × Nat} {t : Nat} {rm : Nat × Nat × Nat} {cs : Nat × Nat} {R : f_Rt} {M : e_M} (C : f_Hy sh t yX12_mustDeed rm cs 13 (lX12_mustDeed WX12_must WX12_wrong WX12_good WX12_isAct WX12_first) R) (h : WX12_mustDeed_134 (fun r M => R (some (.inl r)) M) M) : f_E sh t YX12_mustDeed rm cs (f_Q sh t R) 134 [.inr (.inr (.inl (12, 123, 4456))), .inr (.inr (.inr ()))] [] M :=
  BX12_mustDeed_134 C h
theorem PX12_mustDeed_108 {sh : Nat → Nat × Nat} {t : Nat} {rm : Nat × Nat × Nat} {cs : Nat × Nat} {R : f_Rt} {x1 : Int} {xs1 : Int} {M : e_M} (C : f_Hy sh t yX12_mustDeed rm cs 13 (lX12_mustDeed WX12_must WX12_wrong WX12_good WX12_isAct WX12_first) R) (h : WX12_mustDeed_108 (fun r M => R (some (.inl r)) M) x1 xs1 M) : f_E sh t YX12_mustDeed rm cs (f_Q sh t R) 108 [.inr (.inr (.inl (12, 123, 4456))), .inl x1] [.inl xs1, .inr (.inr (.inl (12, 123, 4456)))] M :=
  BX12_mustDeed_108 C (fun M h => PX12_mustDeed_134 C h) h
theorem PX12_mustDeed {sh : Nat → Nat × Nat} {t : Nat} {rm : Nat × Nat × Nat} {cs : Nat × Nat} {R : f_Rt} {x1 : Int} {M : e_M} (C : f_Hy sh t yX12_mustDeed rm cs 13 (lX12_mustDeed WX12_must WX12_wrong WX12_good WX12_isAct WX12_first) R) (h : WX12_mustDeed x1 M (fun r M => R (some (.inl r)) M)) : f_E sh t YX12_mustDeed rm cs (f_Q sh t R) 0 [.inr (.inr (.inl (12, 123, 4456))), .inl x1] [] M :=
  BX12_mustDeed C (fun x1 xs1 M h => PX12_mustDeed_108 C h) h
def wX12_mustDeed : f_Wt := f_wm [(4466, 12, 123), (1, 0, 0)] (fun ar M R => WX12_mustDeed (f_vi (f_nth ar 1)) M (fun r M => R (some (.inl r)) M))
theorem TX12_mustDeed {sh : Nat → Nat × Nat} {t : Nat} : f_Mt sh t YX12_mustDeed 13 (wX12_mustDeed) :=
  f_Mt_of (k := 0) (Nat.le_of_ble_eq_true rfl) rfl rfl (fun ar M R rm cs h1 h2 h3 hX h => PX12_mustDeed ⟨Nat.le_of_ble_eq_true rfl, h1, h2, h3, ⟨(f_Mt.up (Nat.le_of_ble_eq_true rfl) TX12_must), (f_Mt.up (Nat.le_of_ble_eq_true rfl) TX12_wrong), (f_Mt.up (Nat.le_of_ble_eq_true rfl) TX12_good), (f_Mt.up (Nat.le_of_ble_eq_true rfl) TX12_isAct), (f_Mt.up (Nat.le_of_ble_eq_true rfl) TX12_first), trivial⟩, hX⟩ h)
def VX12_fraction (c_X12_divisor : Int → Int → e_M → (Int → Prop) → Prop) (Q : e_M → Prop) (x1 : Int) (x3 : Int) (M : e_M) : Prop :=
  (c_X12_divisor x1 x3 M (fun r1 => (¬ r1 = 0 ∧ (∀ M2 : e_M, M2 = e_up M 4456 38 (e_w64 (x1.tdiv r1)) → (¬ r1 = 0 ∧ (∀ M3 : e_M, M3 = e_up M2 4456 39 (e_w64 (x3.tdiv r1)) → (Q M3)))))))
def yX12_fraction (i : Nat) : e_Y := x_get YX12_fraction [YX12_divisor] i
def pX12_fractionf : List x_I := [(0, 3, 1, 1, 0, 0, []), (1, 3, 1, 3, 0, 0, []), (2, 40, 0, 2, 0, 0, []), (5, 6, 2, 5, 0, 0, []), (7, 4, 1, 0, 0, 0, []), (8, 3, 1, 1, 0, 0, []), (9, 3, 2, 5, 0, 0, []), (11, 10, 0, 3, 0, 0, []), (12, 26, 12, 38, 3, 0, []), (15, 4, 1, 0, 0, 0, []), (16, 3, 1, 3, 0, 0, []), (17, 3, 2, 5, 0, 0, []), (19, 10, 0, 3, 0, 0, []), (20, 26, 12, 39, 3, 0, []), (23, 44, 0, 0, 0, 0, [])]
set_option maxRecDepth 20000 in
theorem qX12_fractionf : f_all yX12_fraction YX12_fraction pX12_fractionf :=
  ⟨f_lload_n (n := 1) (e_dx DX12_fraction_0 0 rfl) rfl,
  f_lload_n (n := 3) (e_dx DX12_fraction_0 1 rfl) rfl,
  x_callS (e_dx DX12_fraction_0 2 rfl) mwX12_divisor cX12_375 swX12_divisor rfl,
  f_lstore (e_dx DX12_fraction_0 3 rfl) (by decide),
  f_aload_n (n := 0) (e_dx DX12_fraction_0 4 rfl) rfl,
  f_lload_n (n := 1) (e_dx DX12_fraction_0 5 rfl) rfl,
  f_lload (e_dx DX12_fraction_0 6 rfl),
  f_ldiv (e_dx DX12_fraction_0 7 rfl),
  f_putn (e_dx DX12_fraction_0 8 rfl) fX12_413 (fun q hq => by cases hq; rfl) rfl (Or.inr (Or.inr rfl)) (by decide),
  f_aload_n (n := 0) (e_dx DX12_fraction_0 9 rfl) rfl,
  f_lload_n (n := 3) (e_dx DX12_fraction_0 10 rfl) rfl,
  f_lload (e_dx DX12_fraction_0 11 rfl),
  f_ldiv (e_dx DX12_fraction_0 12 rfl),
  f_putn (e_dx DX12_fraction_0 13 rfl) fX12_416 (fun q hq => by cases hq; rfl) rfl (Or.inr (Or.inr rfl)) (by decide),
  ⟨(e_dx DX12_fraction_0 14 rfl), rfl⟩, trivial⟩
def lX12_fraction (c_X12_divisor : Int → Int → e_M → (Int → Prop) → Prop) : List (Nat × f_Wt) := [(0, f_wm [(2, 0, 0), (2, 0, 0)] (fun ar M R => c_X12_divisor (f_vi (f_nth ar 0)) (f_vi (f_nth ar 1)) M (fun r => R (some (.inr (.inl r))) M)))]
set_option maxRecDepth 20000 in
theorem BX12_fraction {sh : Nat → Nat × Nat} {t : Nat} {rm : Nat × Nat × Nat} {cs : Nat × Nat} {R : f_Rt} {c_X12_divisor : Int → Int → e_M → (Int → Prop) → Prop} {x1 : Int} {x3 : Int} {M : e_M} (C : f_Hy sh t yX12_fraction rm cs 5 (lX12_fraction c_X12_divisor) R) (h : VX12_fraction c_X12_divisor (fun M => R none M) x1 x3 M) : f_E sh t YX12_fraction rm cs (f_Q sh t R) 0 [.inr (.inr (.inl (12, 123, 4456))), .inr (.inl x1), .inr (.inr (.inr ())), .inr (.inl x3), .inr (.inr (.inr ())), .inr (.inr (.inr ())), .inr (.inr (.inr ()))] [] M :=
  f_go (KC := f_kc []) C qX12_fractionf f_kc_nil 17 0 h
def WX12_fraction (x1 : Int) (x3 : Int) (M : e_M) (Q : e_M → Prop) : Prop :=
  VX12_fraction WX12_divisor Q x1 x3 M
theorem PX12_fraction {sh : Nat → Nat × Nat} {t : Nat} {rm : Nat × Nat × Nat} {cs : Nat × Nat} {R : f_Rt} {x1 : Int} {x3 : Int} {M : e_M} (C : f_Hy sh t yX12_fraction rm cs 5 (lX12_fraction WX12_divisor) R) (h : WX12_fraction x1 x3 M (fun M => R none M)) : f_E sh t YX12_fraction rm cs (f_Q sh t R) 0 [.inr (.inr (.inl (12, 123, 4456))), .inr (.inl x1), .inr (.inr (.inr ())), .inr (.inl x3), .inr (.inr (.inr ())), .inr (.inr (.inr ())), .inr (.inr (.inr ()))] [] M :=
  BX12_fraction C h
def wX12_fraction : f_Wt := f_wm [(4466, 12, 123), (2, 0, 0), (2, 0, 0)] (fun ar M R => WX12_fraction (f_vi (f_nth ar 1)) (f_vi (f_nth ar 2)) M (fun M => R none M))
theorem TX12_fraction {sh : Nat → Nat × Nat} {t : Nat} : f_Mt sh t YX12_fraction 5 (wX12_fraction) :=
  f_Mt_of (k := 2) (Nat.le_of_ble_eq_true rfl) rfl rfl (fun ar M R rm cs h1 h2 h3 hX h => PX12_fraction ⟨Nat.le_of_ble_eq_true rfl, h1, h2, h3, ⟨(f_Mt.up (Nat.le_of_ble_eq_true rfl) TX12_divisor), trivial⟩, hX⟩ h)
def VX12_plus (c_X12_fraction : Int → Int → e_M → (e_M → Prop) → Prop) (Q : e_M → Prop) (x1 : Int) (x3 : Int) (x5 : Int) (x7 : Int) (M : e_M) : Prop :=
  (c_X12_fraction (e_w64 ((e_w64 (x1 * x7)) + (e_w64 (x5 * x3)))) (e_w64 (x3 * x7)) M (fun M1 => (Q M1)))
def yX12_plus (i : Nat) : e_Y := x_get YX12_plus [YX12_fraction] i
def pX12_plusf : List x_I := [(0, 4, 1, 0, 0, 0, []), (1, 3, 1, 1, 0, 0, []), (2, 3, 2, 7, 0, 0, []), (4, 10, 0, 2, 0, 0, []), (5, 3, 2, 5, 0, 0, []), (7, 3, 1, 3, 0, 0, []), (8, 10, 0, 2, 0, 0, []), (9, 10, 0, 0, 0, 0, []), (10, 3, 1, 3, 0, 0, []), (11, 3, 2, 7, 0, 0, []), (13, 10, 0, 2, 0, 0, []), (14, 40, 0, 3, 14, 0, []), (17, 44, 0, 0, 0, 0, [])]
set_option maxRecDepth 20000 in
theorem qX12_plusf : f_all yX12_plus YX12_plus pX12_plusf :=
  ⟨f_aload_n (n := 0) (e_dx DX12_plus_0 0 rfl) rfl,
  f_lload_n (n := 1) (e_dx DX12_plus_0 1 rfl) rfl,
  f_lload (e_dx DX12_plus_0 2 rfl),
  f_lmul (e_dx DX12_plus_0 3 rfl),
  f_lload (e_dx DX12_plus_0 4 rfl),
  f_lload_n (n := 3) (e_dx DX12_plus_0 5 rfl) rfl,
  f_lmul (e_dx DX12_plus_0 6 rfl),
  f_ladd (e_dx DX12_plus_0 7 rfl),
  f_lload_n (n := 3) (e_dx DX12_plus_0 8 rfl) rfl,
  f_lload (e_dx DX12_plus_0 9 rfl),
  f_lmul (e_dx DX12_plus_0 10 rfl),
  x_callV (e_dx DX12_plus_0 11 rfl) mwX12_fraction vwX12_fraction cX12_419 rfl,
  ⟨(e_dx DX12_plus_0 12 rfl), rfl⟩, trivial⟩
def lX12_plus (c_X12_fraction : Int → Int → e_M → (e_M → Prop) → Prop) : List (Nat × f_Wt) := [(0, f_wm [(4466, 12, 123), (2, 0, 0), (2, 0, 0)] (fun ar M R => c_X12_fraction (f_vi (f_nth ar 1)) (f_vi (f_nth ar 2)) M (fun M => R none M)))]
set_option maxRecDepth 20000 in
theorem BX12_plus {sh : Nat → Nat × Nat} {t : Nat} {rm : Nat × Nat × Nat} {cs : Nat × Nat} {R : f_Rt} {c_X12_fraction : Int → Int → e_M → (e_M → Prop) → Prop} {x1 : Int} {x3 : Int} {x5 : Int} {x7 : Int} {M : e_M} (C : f_Hy sh t yX12_plus rm cs 6 (lX12_plus c_X12_fraction) R) (h : VX12_plus c_X12_fraction (fun M => R none M) x1 x3 x5 x7 M) : f_E sh t YX12_plus rm cs (f_Q sh t R) 0 [.inr (.inr (.inl (12, 123, 4456))), .inr (.inl x1), .inr (.inr (.inr ())), .inr (.inl x3), .inr (.inr (.inr ())), .inr (.inl x5), .inr (.inr (.inr ())), .inr (.inl x7), .inr (.inr (.inr ()))] [] M :=
  f_go (KC := f_kc []) C qX12_plusf f_kc_nil 15 0 h
def WX12_plus (x1 : Int) (x3 : Int) (x5 : Int) (x7 : Int) (M : e_M) (Q : e_M → Prop) : Prop :=
  VX12_plus WX12_fraction Q x1 x3 x5 x7 M
theorem PX12_plus {sh : Nat → Nat × Nat} {t : Nat} {rm : Nat × Nat × Nat} {cs : Nat × Nat} {R : f_Rt} {x1 : Int} {x3 : Int} {x5 : Int} {x7 : Int} {M : e_M} (C : f_Hy sh t yX12_plus rm cs 6 (lX12_plus WX12_fraction) R) (h : WX12_plus x1 x3 x5 x7 M (fun M => R none M)) : f_E sh t YX12_plus rm cs (f_Q sh t R) 0 [.inr (.inr (.inl (12, 123, 4456))), .inr (.inl x1), .inr (.inr (.inr ())), .inr (.inl x3), .inr (.inr (.inr ())), .inr (.inl x5), .inr (.inr (.inr ())), .inr (.inl x7), .inr (.inr (.inr ()))] [] M :=
  BX12_plus C h
def wX12_plus : f_Wt := f_wm [(4466, 12, 123), (2, 0, 0), (2, 0, 0), (2, 0, 0), (2, 0, 0)] (fun ar M R => WX12_plus (f_vi (f_nth ar 1)) (f_vi (f_nth ar 2)) (f_vi (f_nth ar 3)) (f_vi (f_nth ar 4)) M (fun M => R none M))
theorem TX12_plus {sh : Nat → Nat × Nat} {t : Nat} : f_Mt sh t YX12_plus 6 (wX12_plus) :=
  f_Mt_of (k := 0) (Nat.le_of_ble_eq_true rfl) rfl rfl (fun ar M R rm cs h1 h2 h3 hX h => PX12_plus ⟨Nat.le_of_ble_eq_true rfl, h1, h2, h3, ⟨(f_Mt.up (Nat.le_of_ble_eq_true rfl) TX12_fraction), trivial⟩, hX⟩ h)
def VX12_less (c_X12_fraction : Int → Int → e_M → (e_M → Prop) → Prop) (Q : e_M → Prop) (x1 : Int) (x3 : Int) (x5 : Int) (x7 : Int) (M : e_M) : Prop :=
  (c_X12_fraction (e_w64 ((e_w64 (x1 * x7)) - (e_w64 (x5 * x3)))) (e_w64 (x3 * x7)) M (fun M1 => (Q M1)))
def yX12_less (i : Nat) : e_Y := x_get YX12_less [YX12_fraction] i
def pX12_lessf : List x_I := [(0, 4, 1, 0, 0, 0, []), (1, 3, 1, 1, 0, 0, []), (2, 3, 2, 7, 0, 0, []), (4, 10, 0, 2, 0, 0, []), (5, 3, 2, 5, 0, 0, []), (7, 3, 1, 3, 0, 0, []), (8, 10, 0, 2, 0, 0, []), (9, 10, 0, 1, 0, 0, []), (10, 3, 1, 3, 0, 0, []), (11, 3, 2, 7, 0, 0, []), (13, 10, 0, 2, 0, 0, []), (14, 40, 0, 3, 14, 0, []), (17, 44, 0, 0, 0, 0, [])]
set_option maxRecDepth 20000 in
theorem qX12_lessf : f_all yX12_less YX12_less pX12_lessf :=
  ⟨f_aload_n (n := 0) (e_dx DX12_less_0 0 rfl) rfl,
  f_lload_n (n := 1) (e_dx DX12_less_0 1 rfl) rfl,
  f_lload (e_dx DX12_less_0 2 rfl),
  f_lmul (e_dx DX12_less_0 3 rfl),
  f_lload (e_dx DX12_less_0 4 rfl),
  f_lload_n (n := 3) (e_dx DX12_less_0 5 rfl) rfl,
  f_lmul (e_dx DX12_less_0 6 rfl),
  f_lsub (e_dx DX12_less_0 7 rfl),
  f_lload_n (n := 3) (e_dx DX12_less_0 8 rfl) rfl,
  f_lload (e_dx DX12_less_0 9 rfl),
  f_lmul (e_dx DX12_less_0 10 rfl),
  x_callV (e_dx DX12_less_0 11 rfl) mwX12_fraction vwX12_fraction cX12_419 rfl,
  ⟨(e_dx DX12_less_0 12 rfl), rfl⟩, trivial⟩
def lX12_less (c_X12_fraction : Int → Int → e_M → (e_M → Prop) → Prop) : List (Nat × f_Wt) := [(0, f_wm [(4466, 12, 123), (2, 0, 0), (2, 0, 0)] (fun ar M R => c_X12_fraction (f_vi (f_nth ar 1)) (f_vi (f_nth ar 2)) M (fun M => R none M)))]
set_option maxRecDepth 20000 in
theorem BX12_less {sh : Nat → Nat × Nat} {t : Nat} {rm : Nat × Nat × Nat} {cs : Nat × Nat} {R : f_Rt} {c_X12_fraction : Int → Int → e_M → (e_M → Prop) → Prop} {x1 : Int} {x3 : Int} {x5 : Int} {x7 : Int} {M : e_M} (C : f_Hy sh t yX12_less rm cs 6 (lX12_less c_X12_fraction) R) (h : VX12_less c_X12_fraction (fun M => R none M) x1 x3 x5 x7 M) : f_E sh t YX12_less rm cs (f_Q sh t R) 0 [.inr (.inr (.inl (12, 123, 4456))), .inr (.inl x1), .inr (.inr (.inr ())), .inr (.inl x3), .inr (.inr (.inr ())), .inr (.inl x5), .inr (.inr (.inr ())), .inr (.inl x7), .inr (.inr (.inr ()))] [] M :=
  f_go (KC := f_kc []) C qX12_lessf f_kc_nil 15 0 h
def WX12_less (x1 : Int) (x3 : Int) (x5 : Int) (x7 : Int) (M : e_M) (Q : e_M → Prop) : Prop :=
  VX12_less WX12_fraction Q x1 x3 x5 x7 M
theorem PX12_less {sh : Nat → Nat × Nat} {t : Nat} {rm : Nat × Nat × Nat} {cs : Nat × Nat} {R : f_Rt} {x1 : Int} {x3 : Int} {x5 : Int} {x7 : Int} {M : e_M} (C : f_Hy sh t yX12_less rm cs 6 (lX12_less WX12_fraction) R) (h : WX12_less x1 x3 x5 x7 M (fun M => R none M)) : f_E sh t YX12_less rm cs (f_Q sh t R) 0 [.inr (.inr (.inl (12, 123, 4456))), .inr (.inl x1), .inr (.inr (.inr ())), .inr (.inl x3), .inr (.inr (.inr ())), .inr (.inl x5), .inr (.inr (.inr ())), .inr (.inl x7), .inr (.inr (.inr ()))] [] M :=
  BX12_less C h
def wX12_less : f_Wt := f_wm [(4466, 12, 123), (2, 0, 0), (2, 0, 0), (2, 0, 0), (2, 0, 0)] (fun ar M R => WX12_less (f_vi (f_nth ar 1)) (f_vi (f_nth ar 2)) (f_vi (f_nth ar 3)) (f_vi (f_nth ar 4)) M (fun M => R none M))
theorem TX12_less {sh : Nat → Nat × Nat} {t : Nat} : f_Mt sh t YX12_less 6 (wX12_less) :=
  f_Mt_of (k := 0) (Nat.le_of_ble_eq_true rfl) rfl rfl (fun ar M R rm cs h1 h2 h3 hX h => PX12_less ⟨Nat.le_of_ble_eq_true rfl, h1, h2, h3, ⟨(f_Mt.up (Nat.le_of_ble_eq_true rfl) TX12_fraction), trivial⟩, hX⟩ h)
def VX12_times (c_X12_fraction : Int → Int → e_M → (e_M → Prop) → Prop) (Q : e_M → Prop) (x1 : Int) (x3 : Int) (x5 : Int) (x7 : Int) (M : e_M) : Prop :=
  (c_X12_fraction (e_w64 (x1 * x5)) (e_w64 (x3 * x7)) M (fun M1 => (Q M1)))
def yX12_times (i : Nat) : e_Y := x_get YX12_times [YX12_fraction] i
def pX12_timesf : List x_I := [(0, 4, 1, 0, 0, 0, []), (1, 3, 1, 1, 0, 0, []), (2, 3, 2, 5, 0, 0, []), (4, 10, 0, 2, 0, 0, []), (5, 3, 1, 3, 0, 0, []), (6, 3, 2, 7, 0, 0, []), (8, 10, 0, 2, 0, 0, []), (9, 40, 0, 3, 14, 0, []), (12, 44, 0, 0, 0, 0, [])]
set_option maxRecDepth 20000 in
theorem qX12_timesf : f_all yX12_times YX12_times pX12_timesf :=
  ⟨f_aload_n (n := 0) (e_dx DX12_times_0 0 rfl) rfl,
  f_lload_n (n := 1) (e_dx DX12_times_0 1 rfl) rfl,
  f_lload (e_dx DX12_times_0 2 rfl),
  f_lmul (e_dx DX12_times_0 3 rfl),
  f_lload_n (n := 3) (e_dx DX12_times_0 4 rfl) rfl,
  f_lload (e_dx DX12_times_0 5 rfl),
  f_lmul (e_dx DX12_times_0 6 rfl),
  x_callV (e_dx DX12_times_0 7 rfl) mwX12_fraction vwX12_fraction cX12_419 rfl,
  ⟨(e_dx DX12_times_0 8 rfl), rfl⟩, trivial⟩
def lX12_times (c_X12_fraction : Int → Int → e_M → (e_M → Prop) → Prop) : List (Nat × f_Wt) := [(0, f_wm [(4466, 12, 123), (2, 0, 0), (2, 0, 0)] (fun ar M R => c_X12_fraction (f_vi (f_nth ar 1)) (f_vi (f_nth ar 2)) M (fun M => R none M)))]
set_option maxRecDepth 20000 in
theorem BX12_times {sh : Nat → Nat × Nat} {t : Nat} {rm : Nat × Nat × Nat} {cs : Nat × Nat} {R : f_Rt} {c_X12_fraction : Int → Int → e_M → (e_M → Prop) → Prop} {x1 : Int} {x3 : Int} {x5 : Int} {x7 : Int} {M : e_M} (C : f_Hy sh t yX12_times rm cs 6 (lX12_times c_X12_fraction) R) (h : VX12_times c_X12_fraction (fun M => R none M) x1 x3 x5 x7 M) : f_E sh t YX12_times rm cs (f_Q sh t R) 0 [.inr (.inr (.inl (12, 123, 4456))), .inr (.inl x1), .inr (.inr (.inr ())), .inr (.inl x3), .inr (.inr (.inr ())), .inr (.inl x5), .inr (.inr (.inr ())), .inr (.inl x7), .inr (.inr (.inr ()))] [] M :=
  f_go (KC := f_kc []) C qX12_timesf f_kc_nil 11 0 h
def WX12_times (x1 : Int) (x3 : Int) (x5 : Int) (x7 : Int) (M : e_M) (Q : e_M → Prop) : Prop :=
  VX12_times WX12_fraction Q x1 x3 x5 x7 M
theorem PX12_times {sh : Nat → Nat × Nat} {t : Nat} {rm : Nat × Nat × Nat} {cs : Nat × Nat} {R : f_Rt} {x1 : Int} {x3 : Int} {x5 : Int} {x7 : Int} {M : e_M} (C : f_Hy sh t yX12_times rm cs 6 (lX12_times WX12_fraction) R) (h : WX12_times x1 x3 x5 x7 M (fun M => R none M)) : f_E sh t YX12_times rm cs (f_Q sh t R) 0 [.inr (.inr (.inl (12, 123, 4456))), .inr (.inl x1), .inr (.inr (.inr ())), .inr (.inl x3), .inr (.inr (.inr ())), .inr (.inl x5), .inr (.inr (.inr ())), .inr (.inl x7), .inr (.inr (.inr ()))] [] M :=
  BX12_times C h
def wX12_times : f_Wt := f_wm [(4466, 12, 123), (2, 0, 0), (2, 0, 0), (2, 0, 0), (2, 0, 0)] (fun ar M R => WX12_times (f_vi (f_nth ar 1)) (f_vi (f_nth ar 2)) (f_vi (f_nth ar 3)) (f_vi (f_nth ar 4)) M (fun M => R none M))
theorem TX12_times {sh : Nat → Nat × Nat} {t : Nat} : f_Mt sh t YX12_times 6 (wX12_times) :=
  f_Mt_of (k := 0) (Nat.le_of_ble_eq_true rfl) rfl rfl (fun ar M R rm cs h1 h2 h3 hX h => PX12_times ⟨Nat.le_of_ble_eq_true rfl, h1, h2, h3, ⟨(f_Mt.up (Nat.le_of_ble_eq_true rfl) TX12_fraction), trivial⟩, hX⟩ h)
def VX12_isOne_8 (c_X12_plus : Int → Int → Int → Int → e_M → (e_M → Prop) → Prop) (k8 : Int → Int → Int → Int → e_M → Prop) (Q : Int → e_M → Prop) (x1 : Int) (x2 : Int) (x4 : Int) (x6 : Int) (M : e_M) : Prop :=
  ((0 ≤ x1 ∧ x1 < 152) ∧ (((M 4470 (x1.toNat)) ≤ x6 → ((¬ x2 = x4 → (Q 0 M)) ∧ (x2 = x4 → (Q 1 M)))) ∧ (x6 < (M 4470 (x1.toNat)) → ((0 ≤ (e_w32 ((e_w32 ((6 : Int) * x1)) + x6)) ∧ (e_w32 ((e_w32 ((6 : Int) * x1)) + x6)) < 912) ∧ ((0 ≤ (e_w32 ((e_w32 ((6 : Int) * x1)) + x6)) ∧ (e_w32 ((e_w32 ((6 : Int) * x1)) + x6)) < 912) ∧ (c_X12_plus x2 x4 (M 4472 ((e_w32 ((e_w32 ((6 : Int) * x1)) + x6)).toNat)) (M 4473 ((e_w32 ((e_w32 ((6 : Int) * x1)) + x6)).toNat)) M (fun M1 => (((M1 4456 38) ≤ (M1 4456 39) → (k8 x1 (M1 4456 38) (M1 4456 39) (e_w32 (x6 + 1)) M1)) ∧ ((M1 4456 39) < (M1 4456 38) → (Q 0 M1))))))))))
def VX12_isOne (c_X12_plus : Int → Int → Int → Int → e_M → (e_M → Prop) → Prop) (k8 : Int → Int → Int → Int → e_M → Prop) (Q : Int → e_M → Prop) (x1 : Int) (M : e_M) : Prop :=
  (k8 x1 0 1 0 M)
def yX12_isOne (i : Nat) : e_Y := x_get YX12_isOne [YX12_plus] i
def pX12_isOnef : List x_I := [(0, 1, 1, 0, 0, 0, []), (1, 6, 1, 2, 0, 0, []), (2, 1, 1, 0, 0, 1, []), (3, 6, 2, 4, 0, 0, []), (5, 0, 1, 0, 0, 0, []), (6, 5, 2, 6, 0, 0, []), (8, 49, 0, 0, 0, 0, []), (8, 2, 2, 6, 0, 0, []), (10, 4, 1, 0, 0, 0, []), (11, 25, 12, 23, 4, 0, [(0, 20, 152), (0, 1, 14)]), (14, 2, 1, 1, 0, 0, []), (15, 27, 0, 0, 0, 0, []), (16, 18, 78, 3, 49, 0, []), (19, 4, 1, 0, 0, 0, []), (20, 3, 1, 2, 0, 0, []), (21, 3, 2, 4, 0, 0, []), (23, 4, 1, 0, 0, 0, []), (24, 25, 12, 25, 4, 0, [(0, 20, 912), (0, 1, 16)]), (27, 0, 2, 0, 0, 6, []), (29, 2, 1, 1, 0, 0, []), (30, 9, 0, 2, 0, 0, []), (31, 2, 2, 6, 0, 0, []), (33, 9, 0, 0, 0, 0, []), (34, 27, 0, 0, 0, 0, []), (35, 14, 0, 0, 0, 0, []), (36, 4, 1, 0, 0, 0, []), (37, 25, 12, 26, 4, 0, [(0, 20, 912), (0, 1, 17)]), (40, 0, 2, 0, 0, 6, []), (42, 2, 1, 1, 0, 0, []), (43, 9, 0, 2, 0, 0, []), (44, 2, 2, 6, 0, 0, []), (46, 9, 0, 0, 0, 0, []), (47, 27, 0, 0, 0, 0, []), (48, 14, 0, 0, 0, 0, []), (49, 40, 0, 5, 14, 0, []), (52, 4, 1, 0, 0, 0, []), (53, 25, 12, 38, 3, 0, []), (56, 6, 1, 2, 0, 0, []), (57, 4, 1, 0, 0, 0, []), (58, 25, 12, 39, 3, 0, []), (61, 6, 2, 4, 0, 0, []), (63, 3, 1, 2, 0, 0, []), (64, 3, 2, 4, 0, 0, []), (66, 32, 72, 5, 47, 0, []), (70, 0, 1, 0, 0, 0, []), (71, 48, 0, 0, 0, 0, []), (72, 8, 0, 6, 0, 1, []), (75, 19, 8, 0, 7, 0, []), (78, 3, 1, 2, 0, 0, []), (79, 3, 2, 4, 0, 0, []), (81, 32, 89, 1, 54, 0, []), (85, 0, 1, 0, 0, 1, []), (86, 19, 90, 0, 55, 0, []), (89, 0, 1, 0, 0, 0, []), (90, 48, 0, 0, 0, 0, [])]
set_option maxRecDepth 20000 in
theorem qX12_isOnef : f_all yX12_isOne YX12_isOne pX12_isOnef :=
  ⟨f_lconst (n := 0) (e_dx DX12_isOne_0 0 rfl) rfl,
  f_lstore_n (n := 2) (e_dx DX12_isOne_0 1 rfl) rfl (by decide),
  f_lconst (n := 1) (e_dx DX12_isOne_0 2 rfl) rfl,
  f_lstore (e_dx DX12_isOne_0 3 rfl) (by decide),
  f_iconst (e_dx DX12_isOne_0 4 rfl) ⟨by decide, by decide⟩,
  f_istore (e_dx DX12_isOne_0 5 rfl) (by decide),
  trivial,
  f_iload (e_dx DX12_isOne_0 6 rfl),
  f_aload_n (n := 0) (e_dx DX12_isOne_0 7 rfl) rfl,
  f_getA (e_dx DX12_isOne_0 8 rfl) fX12_51 rfl (by decide) (Nat.le_of_ble_eq_true rfl) rfl (by decide),
  f_iload_n (n := 1) (e_dx DX12_isOne_0 9 rfl) rfl,
  f_iaload (e_dx DX12_isOne_0 10 rfl),
  f_icmp_ge (e_dx DX12_isOne_0 11 rfl) rfl,
  f_aload_n (n := 0) (e_dx DX12_isOne_0 12 rfl) rfl,
  f_lload_n (n := 2) (e_dx DX12_isOne_0 13 rfl) rfl,
  f_lload (e_dx DX12_isOne_0 14 rfl),
  f_aload_n (n := 0) (e_dx DX12_isOne_0 15 rfl) rfl,
  f_getA (e_dx DX12_isOne_0 16 rfl) fX12_57 rfl (by decide) (Nat.le_of_ble_eq_true rfl) rfl (by decide),
  f_bipush (e_dx DX12_isOne_0 17 rfl) ⟨by decide, by decide⟩,
  f_iload_n (n := 1) (e_dx DX12_isOne_0 18 rfl) rfl,
  f_imul (e_dx DX12_isOne_0 19 rfl),
  f_iload (e_dx DX12_isOne_0 20 rfl),
  f_iadd (e_dx DX12_isOne_0 21 rfl),
  f_iaload (e_dx DX12_isOne_0 22 rfl),
  f_g14 (e_dx DX12_isOne_0 23 rfl),
  f_aload_n (n := 0) (e_dx DX12_isOne_0 24 rfl) rfl,
  f_getA (e_dx DX12_isOne_0 25 rfl) fX12_60 rfl (by decide) (Nat.le_of_ble_eq_true rfl) rfl (by decide),
  f_bipush (e_dx DX12_isOne_0 26 rfl) ⟨by decide, by decide⟩,
  f_iload_n (n := 1) (e_dx DX12_isOne_0 27 rfl) rfl,
  f_imul (e_dx DX12_isOne_0 28 rfl),
  f_iload (e_dx DX12_isOne_0 29 rfl),
  f_iadd (e_dx DX12_isOne_0 30 rfl),
  f_iaload (e_dx DX12_isOne_0 31 rfl),
  f_g14 (e_dx DX12_isOne_0 32 rfl),
  x_callV (e_dx DX12_isOne_0 33 rfl) mwX12_plus vwX12_plus cX12_423 rfl,
  f_aload_n (n := 0) (e_dx DX12_isOne_0 34 rfl) rfl,
  f_getL (e_dx DX12_isOne_0 35 rfl) fX12_413 rfl (by decide),
  f_lstore_n (n := 2) (e_dx DX12_isOne_0 36 rfl) rfl (by decide),
  f_aload_n (n := 0) (e_dx DX12_isOne_0 37 rfl) rfl,
  f_getL (e_dx DX12_isOne_0 38 rfl) fX12_416 rfl (by decide),
  f_lstore (e_dx DX12_isOne_0 39 rfl) (by decide),
  f_lload_n (n := 2) (e_dx DX12_isOne_1 0 rfl) rfl,
  f_lload (e_dx DX12_isOne_1 1 rfl),
  f_lif_le (e_dx DX12_isOne_1 2 rfl) (e_dx DX12_isOne_1 3 rfl) rfl,
  f_iconst (e_dx DX12_isOne_1 4 rfl) ⟨by decide, by decide⟩,
  ⟨(e_dx DX12_isOne_1 5 rfl), rfl⟩,
  f_g8 (e_dx DX12_isOne_1 6 rfl) ⟨by decide, by decide⟩,
  f_g19 (e_dx DX12_isOne_1 7 rfl) rfl,
  f_lload_n (n := 2) (e_dx DX12_isOne_1 8 rfl) rfl,
  f_lload (e_dx DX12_isOne_1 9 rfl),
  f_lif_ne (e_dx DX12_isOne_1 10 rfl) (e_dx DX12_isOne_1 11 rfl) rfl,
  f_iconst (e_dx DX12_isOne_1 12 rfl) ⟨by decide, by decide⟩,
  f_g19 (e_dx DX12_isOne_1 13 rfl) rfl,
  f_iconst (e_dx DX12_isOne_1 14 rfl) ⟨by decide, by decide⟩,
  ⟨(e_dx DX12_isOne_1 15 rfl), rfl⟩, trivial⟩
def lX12_isOne (c_X12_plus : Int → Int → Int → Int → e_M → (e_M → Prop) → Prop) : List (Nat × f_Wt) := [(0, f_wm [(4466, 12, 123), (2, 0, 0), (2, 0, 0), (2, 0, 0), (2, 0, 0)] (fun ar M R => c_X12_plus (f_vi (f_nth ar 1)) (f_vi (f_nth ar 2)) (f_vi (f_nth ar 3)) (f_vi (f_nth ar 4)) M (fun M => R none M)))]
set_option maxRecDepth 20000 in
theorem BX12_isOne_8 {sh : Nat → Nat × Nat} {t : Nat} {rm : Nat × Nat × Nat} {cs : Nat × Nat} {R : f_Rt} {c_X12_plus : Int → Int → Int → Int → e_M → (e_M → Prop) → Prop} {k8 : Int → Int → Int → Int → e_M → Prop} {x1 : Int} {x2 : Int} {x4 : Int} {x6 : Int} {M : e_M} (C : f_Hy sh t yX12_isOne rm cs 7 (lX12_isOne c_X12_plus) R) (h8 : ∀ (x1 : Int) (x2 : Int) (x4 : Int) (x6 : Int) (M : e_M), k8 x1 x2 x4 x6 M → f_E sh t YX12_isOne rm cs (f_Q sh t R) 8 [.inr (.inr (.inl (12, 123, 4456))), .inl x1, .inr (.inl x2), .inr (.inr (.inr ())), .inr (.inl x4), .inr (.inr (.inr ())), .inl x6] [] M) (h : VX12_isOne_8 c_X12_plus k8 (fun r M => R (some (.inl r)) M) x1 x2 x4 x6 M) : f_E sh t YX12_isOne rm cs (f_Q sh t R) 8 [.inr (.inr (.inl (12, 123, 4456))), .inl x1, .inr (.inl x2), .inr (.inr (.inr ())), .inr (.inl x4), .inr (.inr (.inr ())), .inl x6] [] M :=
  f_go (KC := f_kc [(8, f_pl [(4466, 12, 123), (1, 0, 0), (2, 0, 0), (0, 0, 0), (2, 0, 0), (0, 0, 0), (1, 0, 0)] [] (fun ls st M => k8 (f_vi (f_nth ls 1)) (f_vi (f_nth ls 2)) (f_vi (f_nth ls 4)) (f_vi (f_nth ls 6)) M))]) C qX12_isOnef (f_kc_cons (f_pl_ok rfl (fun ls st M h => h8 _ _ _ _ M h)) f_kc_nil) 57 7 h
set_option maxRecDepth 20000 in
theorem BX12_isOne {sh : Nat → Nat × Nat} {t : Nat} {rm : Nat × Nat × Nat} {cs : Nat × Nat} {R : f_Rt} {c_X12_plus : Int → Int → Int → Int → e_M → (e_M → Prop) → Prop} {k8 : Int → Int → Int → Int → e_M → Prop} {x1 : Int} {M : e_M} (C : f_Hy sh t yX12_isOne rm cs 7 (lX12_isOne c_X12_plus) R) (h8 : ∀ (x1 : Int) (x2 : Int) (x4 : Int) (x6 : Int) (M : e_M), k8 x1 x2 x4 x6 M → f_E sh t YX12_isOne rm cs (f_Q sh t R) 8 [.inr (.inr (.inl (12, 123, 4456))), .inl x1, .inr (.inl x2), .inr (.inr (.inr ())), .inr (.inl x4), .inr (.inr (.inr ())), .inl x6] [] M) (h : VX12_isOne c_X12_plus k8 (fun r M => R (some (.inl r)) M) x1 M) : f_E sh t YX12_isOne rm cs (f_Q sh t R) 0 [.inr (.inr (.inl (12, 123, 4456))), .inl x1, .inr (.inr (.inr ())), .inr (.inr (.inr ())), .inr (.inr (.inr ())), .inr (.inr (.inr ())), .inr (.inr (.inr ()))] [] M :=
  f_go (KC := f_kc [(8, f_pl [(4466, 12, 123), (1, 0, 0), (2, 0, 0), (0, 0, 0), (2, 0, 0), (0, 0, 0), (1, 0, 0)] [] (fun ls st M => k8 (f_vi (f_nth ls 1)) (f_vi (f_nth ls 2)) (f_vi (f_nth ls 4)) (f_vi (f_nth ls 6)) M))]) C qX12_isOnef (f_kc_cons (f_pl_ok rfl (fun ls st M h => h8 _ _ _ _ M h)) f_kc_nil) 57 0 h
def WX12_isOne_8 (Q : Int → e_M → Prop) : Nat → Int → Int → Int → Int → e_M → Prop
  | 0, _, _, _, _, _ => False
  | n + 1, x1, x2, x4, x6, M =>
    VX12_isOne_8 WX12_plus (WX12_isOne_8 Q n) Q x1 x2 x4 x6 M
def WX12_isOne (x1 : Int) (M : e_M) (Q : Int → e_M → Prop) : Prop :=
  VX12_isOne WX12_plus (fun x1 x2 x4 x6 M => ∃ j, WX12_isOne_8 Q j x1 x2 x4 x6 M) Q x1 M
theorem PX12_isOne_8 {sh : Nat → Nat × Nat} {t : Nat} {rm : Nat × Nat × Nat} {cs : Nat × Nat} {R : f_Rt} (C : f_Hy sh t yX12_isOne rm cs 7 (lX12_isOne WX12_plus) R) : ∀ (n : Nat) (x1 : Int) (x2 : Int) (x4 : Int) (x6 : Int) (M : e_M), WX12_isOne_8 (fun r M => R (some (.inl r)) M) n x1 x2 x4 x6 M → f_E sh t YX12_isOne rm cs (f_Q sh t R) 8 [.inr (.inr (.inl (12, 123, 4456))), .inl x1, .inr (.inl x2), .inr (.inr (.inr ())), .inr (.inl x4), .inr (.inr (.inr ())), .inl x6] [] M := by
  intro n
  induction n with
  | zero => intro x1 x2 x4 x6 M h; exact h.elim
  | succ n ih => intro x1 x2 x4 x6 M h; exact BX12_isOne_8 C ih h
theorem PX12_isOne {sh : Nat → Nat × Nat} {t : Nat} {rm : Nat × Nat × Nat} {cs : Nat × Nat} {R : f_Rt} {x1 : Int} {M : e_M} (C : f_Hy sh t yX12_isOne rm cs 7 (lX12_isOne WX12_plus) R) (h : WX12_isOne x1 M (fun r M => R (some (.inl r)) M)) : f_E sh t YX12_isOne rm cs (f_Q sh t R) 0 [.inr (.inr (.inl (12, 123, 4456))), .inl x1, .inr (.inr (.inr ())), .inr (.inr (.inr ())), .inr (.inr (.inr ())), .inr (.inr (.inr ())), .inr (.inr (.inr ()))] [] M :=
  BX12_isOne C (fun x1 x2 x4 x6 M ⟨j, h⟩ => PX12_isOne_8 C j _ _ _ _ _ h) h
def wX12_isOne : f_Wt := f_wm [(4466, 12, 123), (1, 0, 0)] (fun ar M R => WX12_isOne (f_vi (f_nth ar 1)) M (fun r M => R (some (.inl r)) M))
theorem TX12_isOne {sh : Nat → Nat × Nat} {t : Nat} : f_Mt sh t YX12_isOne 7 (wX12_isOne) :=
  f_Mt_of (k := 5) (Nat.le_of_ble_eq_true rfl) rfl rfl (fun ar M R rm cs h1 h2 h3 hX h => PX12_isOne ⟨Nat.le_of_ble_eq_true rfl, h1, h2, h3, ⟨(f_Mt.up (Nat.le_of_ble_eq_true rfl) TX12_plus), trivial⟩, hX⟩ h)
def VX12_turn (Q : Int → Prop) (x0 : Int) (x2 : Int) (x4 : Int) (x6 : Int) (x8 : Int) (x10 : Int) (M : e_M) : Prop :=
  (Q (e_w64 ((e_w64 ((e_w64 (x4 - x0)) * (e_w64 (x10 - x2)))) - (e_w64 ((e_w64 (x6 - x2)) * (e_w64 (x8 - x0)))))))
def yX12_turn (i : Nat) : e_Y := x_get YX12_turn [] i
def pX12_turnf : List x_I := [(0, 3, 2, 4, 0, 0, []), (2, 3, 1, 0, 0, 0, []), (3, 10, 0, 1, 0, 0, []), (4, 3, 2, 10, 0, 0, []), (6, 3, 1, 2, 0, 0, []), (7, 10, 0, 1, 0, 0, []), (8, 10, 0, 2, 0, 0, []), (9, 3, 2, 6, 0, 0, []), (11, 3, 1, 2, 0, 0, []), (12, 10, 0, 1, 0, 0, []), (13, 3, 2, 8, 0, 0, []), (15, 3, 1, 0, 0, 0, []), (16, 10, 0, 1, 0, 0, []), (17, 10, 0, 2, 0, 0, []), (18, 10, 0, 1, 0, 0, []), (19, 43, 0, 0, 0, 0, [])]
set_option maxRecDepth 20000 in
theorem qX12_turnf : f_all yX12_turn YX12_turn pX12_turnf :=
  ⟨f_lload (e_dx DX12_turn_0 0 rfl),
  f_lload_n (n := 0) (e_dx DX12_turn_0 1 rfl) rfl,
  f_lsub (e_dx DX12_turn_0 2 rfl),
  f_lload (e_dx DX12_turn_0 3 rfl),
  f_lload_n (n := 2) (e_dx DX12_turn_0 4 rfl) rfl,
  f_lsub (e_dx DX12_turn_0 5 rfl),
  f_lmul (e_dx DX12_turn_0 6 rfl),
  f_lload (e_dx DX12_turn_0 7 rfl),
  f_lload_n (n := 2) (e_dx DX12_turn_0 8 rfl) rfl,
  f_lsub (e_dx DX12_turn_0 9 rfl),
  f_lload (e_dx DX12_turn_0 10 rfl),
  f_lload_n (n := 0) (e_dx DX12_turn_0 11 rfl) rfl,
  f_lsub (e_dx DX12_turn_0 12 rfl),
  f_lmul (e_dx DX12_turn_0 13 rfl),
  f_lsub (e_dx DX12_turn_0 14 rfl),
  ⟨(e_dx DX12_turn_0 15 rfl), rfl⟩, trivial⟩
def lX12_turn : List (Nat × f_Wt) := []
set_option maxRecDepth 20000 in
theorem BX12_turn {sh : Nat → Nat × Nat} {t : Nat} {rm : Nat × Nat × Nat} {cs : Nat × Nat} {R : f_Rt} {x0 : Int} {x2 : Int} {x4 : Int} {x6 : Int} {x8 : Int} {x10 : Int} {M : e_M} (C : f_Hy sh t yX12_turn rm cs 4 (lX12_turn) R) (h : VX12_turn (fun r => R (some (.inr (.inl r))) M) x0 x2 x4 x6 x8 x10 M) : f_E sh t YX12_turn rm cs (f_Q sh t R) 0 [.inr (.inl x0), .inr (.inr (.inr ())), .inr (.inl x2), .inr (.inr (.inr ())), .inr (.inl x4), .inr (.inr (.inr ())), .inr (.inl x6), .inr (.inr (.inr ())), .inr (.inl x8), .inr (.inr (.inr ())), .inr (.inl x10), .inr (.inr (.inr ()))] [] M :=
  f_go (KC := f_kc []) C qX12_turnf f_kc_nil 18 0 h
def WX12_turn (x0 : Int) (x2 : Int) (x4 : Int) (x6 : Int) (x8 : Int) (x10 : Int) (M : e_M) (Q : Int → Prop) : Prop :=
  VX12_turn Q x0 x2 x4 x6 x8 x10 M
theorem PX12_turn {sh : Nat → Nat × Nat} {t : Nat} {rm : Nat × Nat × Nat} {cs : Nat × Nat} {R : f_Rt} {x0 : Int} {x2 : Int} {x4 : Int} {x6 : Int} {x8 : Int} {x10 : Int} {M : e_M} (C : f_Hy sh t yX12_turn rm cs 4 (lX12_turn) R) (h : WX12_turn x0 x2 x4 x6 x8 x10 M (fun r => R (some (.inr (.inl r))) M)) : f_E sh t YX12_turn rm cs (f_Q sh t R) 0 [.inr (.inl x0), .inr (.inr (.inr ())), .inr (.inl x2), .inr (.inr (.inr ())), .inr (.inl x4), .inr (.inr (.inr ())), .inr (.inl x6), .inr (.inr (.inr ())), .inr (.inl x8), .inr (.inr (.inr ())), .inr (.inl x10), .inr (.inr (.inr ()))] [] M :=
  BX12_turn C h
def wX12_turn : f_Wt := f_wm [(2, 0, 0), (2, 0, 0), (2, 0, 0), (2, 0, 0), (2, 0, 0), (2, 0, 0)] (fun ar M R => WX12_turn (f_vi (f_nth ar 0)) (f_vi (f_nth ar 1)) (f_vi (f_nth ar 2)) (f_vi (f_nth ar 3)) (f_vi (f_nth ar 4)) (f_vi (f_nth ar 5)) M (fun r => R (some (.inr (.inl r))) M))
theorem TX12_turn {sh : Nat → Nat × Nat} {t : Nat} : f_Mt sh t YX12_turn 4 (wX12_turn) :=
  f_Mt_of (k := 0) (Nat.le_of_ble_eq_true rfl) rfl rfl (fun ar M R rm cs h1 h2 h3 hX h => PX12_turn ⟨Nat.le_of_ble_eq_true rfl, h1, h2, h3, trivial, hX⟩ h)
def VX12_within_24 (Q : Int → Prop) (M : e_M) : Prop :=
  (Q 0)
def VX12_within (k24 : Prop) (Q : Int → Prop) (x0 : Int) (x2 : Int) (x4 : Int) (M : e_M) : Prop :=
  ((x2 ≤ x0 → ((x4 < x2 → (Q 0)) ∧ (x2 ≤ x4 → ((x0 < x4 → (Q 0)) ∧ (x4 ≤ x0 → (Q 1)))))) ∧ (x0 < x2 → ((x4 < x0 → (k24)) ∧ (x0 ≤ x4 → ((x2 < x4 → (k24)) ∧ (x4 ≤ x2 → (Q 1)))))))
def yX12_within (i : Nat) : e_Y := x_get YX12_within [] i
def pX12_withinf : List x_I := [(0, 3, 1, 0, 0, 0, []), (1, 3, 1, 2, 0, 0, []), (2, 32, 28, 3, 15, 0, []), (6, 3, 1, 0, 0, 0, []), (7, 3, 2, 4, 0, 0, []), (9, 32, 24, 4, 12, 0, []), (13, 3, 2, 4, 0, 0, []), (15, 3, 1, 2, 0, 0, []), (16, 32, 24, 4, 12, 0, []), (20, 0, 1, 0, 0, 1, []), (21, 19, 47, 0, 24, 0, []), (24, 49, 0, 0, 0, 0, []), (24, 0, 1, 0, 0, 0, []), (25, 19, 47, 0, 24, 0, []), (28, 3, 1, 2, 0, 0, []), (29, 3, 2, 4, 0, 0, []), (31, 32, 46, 4, 23, 0, []), (35, 3, 2, 4, 0, 0, []), (37, 3, 1, 0, 0, 0, []), (38, 32, 46, 4, 23, 0, []), (42, 0, 1, 0, 0, 1, []), (43, 19, 47, 0, 24, 0, []), (46, 0, 1, 0, 0, 0, []), (47, 48, 0, 0, 0, 0, [])]
set_option maxRecDepth 20000 in
theorem qX12_withinf : f_all yX12_within YX12_within pX12_withinf :=
  ⟨f_lload_n (n := 0) (e_dx DX12_within_0 0 rfl) rfl,
  f_lload_n (n := 2) (e_dx DX12_within_0 1 rfl) rfl,
  f_lif_ge (e_dx DX12_within_0 2 rfl) (e_dx DX12_within_0 3 rfl) rfl,
  f_lload_n (n := 0) (e_dx DX12_within_0 4 rfl) rfl,
  f_lload (e_dx DX12_within_0 5 rfl),
  f_lif_gt (e_dx DX12_within_0 6 rfl) (e_dx DX12_within_0 7 rfl) rfl,
  f_lload (e_dx DX12_within_0 8 rfl),
  f_lload_n (n := 2) (e_dx DX12_within_0 9 rfl) rfl,
  f_lif_gt (e_dx DX12_within_0 10 rfl) (e_dx DX12_within_0 11 rfl) rfl,
  f_iconst (e_dx DX12_within_0 12 rfl) ⟨by decide, by decide⟩,
  f_g19 (e_dx DX12_within_0 13 rfl) rfl,
  trivial,
  f_iconst (e_dx DX12_within_0 14 rfl) ⟨by decide, by decide⟩,
  f_g19 (e_dx DX12_within_0 15 rfl) rfl,
  f_lload_n (n := 2) (e_dx DX12_within_0 16 rfl) rfl,
  f_lload (e_dx DX12_within_0 17 rfl),
  f_lif_gt (e_dx DX12_within_0 18 rfl) (e_dx DX12_within_0 19 rfl) rfl,
  f_lload (e_dx DX12_within_0 20 rfl),
  f_lload_n (n := 0) (e_dx DX12_within_0 21 rfl) rfl,
  f_lif_gt (e_dx DX12_within_0 22 rfl) (e_dx DX12_within_0 23 rfl) rfl,
  f_iconst (e_dx DX12_within_0 24 rfl) ⟨by decide, by decide⟩,
  f_g19 (e_dx DX12_within_0 25 rfl) rfl,
  f_iconst (e_dx DX12_within_0 26 rfl) ⟨by decide, by decide⟩,
  ⟨(e_dx DX12_within_0 27 rfl), rfl⟩, trivial⟩
def lX12_within : List (Nat × f_Wt) := []
set_option maxRecDepth 20000 in
theorem BX12_within_24 {sh : Nat → Nat × Nat} {t : Nat} {rm : Nat × Nat × Nat} {cs : Nat × Nat} {R : f_Rt} {M : e_M} (C : f_Hy sh t yX12_within rm cs 4 (lX12_within) R) (h : VX12_within_24 (fun r => R (some (.inl r)) M) M) : f_E sh t YX12_within rm cs (f_Q sh t R) 24 [.inr (.inr (.inr ())), .inr (.inr (.inr ())), .inr (.inr (.inr ())), .inr (.inr (.inr ())), .inr (.inr (.inr ())), .inr (.inr (.inr ()))] [] M :=
  f_go (KC := f_kc []) C qX12_withinf f_kc_nil 26 12 h
set_option maxRecDepth 20000 in
theorem BX12_within {sh : Nat → Nat × Nat} {t : Nat} {rm : Nat × Nat × Nat} {cs : Nat × Nat} {R : f_Rt} {k24 : Prop} {x0 : Int} {x2 : Int} {x4 : Int} {M : e_M} (C : f_Hy sh t yX12_within rm cs 4 (lX12_within) R) (h24 : k24 → f_E sh t YX12_within rm cs (f_Q sh t R) 24 [.inr (.inr (.inr ())), .inr (.inr (.inr ())), .inr (.inr (.inr ())), .inr (.inr (.inr ())), .inr (.inr (.inr ())), .inr (.inr (.inr ()))] [] M) (h : VX12_within k24 (fun r => R (some (.inl r)) M) x0 x2 x4 M) : f_E sh t YX12_within rm cs (f_Q sh t R) 0 [.inr (.inl x0), .inr (.inr (.inr ())), .inr (.inl x2), .inr (.inr (.inr ())), .inr (.inl x4), .inr (.inr (.inr ()))] [] M := by
  rw [f_kk0 M k24] at h
  exact f_go (KC := f_kc [(24, f_pl [(0, 0, 0), (0, 0, 0), (0, 0, 0), (0, 0, 0), (0, 0, 0), (0, 0, 0)] [] (fun ls st M2 => M2 = M ∧ (k24)))]) C qX12_withinf (f_kc_cons (f_pl_ok rfl (fun ls st M2 ⟨e, hh⟩ => by subst e; exact h24  hh)) f_kc_nil) 26 0 h
def WX12_within_24 (M : e_M) (Q : Int → Prop) : Prop :=
  VX12_within_24 Q M
def WX12_within (x0 : Int) (x2 : Int) (x4 : Int) (M : e_M) (Q : Int → Prop) : Prop :=
  VX12_within (WX12_within_24 M Q) Q x0 x2 x4 M
theorem PX12_within_24 {sh : Nat → Nat × Nat} {t : Nat} {rm : Nat × Nat × Nat} {cs : Nat × Nat} {R : f_Rt} {M : e_M} (C : f_Hy sh t yX12_within rm cs 4 (lX12_within) R) (h : WX12_within_24 M (fun r => R (some (.inl r)) M)) : f_E sh t YX12_within rm cs (f_Q sh t R) 24 [.inr (.inr (.inr ())), .inr (.inr (.inr ())), .inr (.inr (.inr ())), .inr (.inr (.inr ())), .inr (.inr (.inr ())), .inr (.inr (.inr ()))] [] M :=
  BX12_within_24 C h
theorem PX12_within {sh : Nat → Nat × Nat} {t : Nat} {rm : Nat × Nat × Nat} {cs : Nat × Nat} {R : f_Rt} {x0 : Int} {x2 : Int} {x4 : Int} {M : e_M} (C : f_Hy sh t yX12_within rm cs 4 (lX12_within) R) (h : WX12_within x0 x2 x4 M (fun r => R (some (.inl r)) M)) : f_E sh t YX12_within rm cs (f_Q sh t R) 0 [.inr (.inl x0), .inr (.inr (.inr ())), .inr (.inl x2), .inr (.inr (.inr ())), .inr (.inl x4), .inr (.inr (.inr ()))] [] M :=
  BX12_within C (fun h => PX12_within_24 C h) h
def wX12_within : f_Wt := f_wm [(2, 0, 0), (2, 0, 0), (2, 0, 0)] (fun ar M R => WX12_within (f_vi (f_nth ar 0)) (f_vi (f_nth ar 1)) (f_vi (f_nth ar 2)) M (fun r => R (some (.inl r)) M))
theorem TX12_within {sh : Nat → Nat × Nat} {t : Nat} : f_Mt sh t YX12_within 4 (wX12_within) :=
  f_Mt_of (k := 0) (Nat.le_of_ble_eq_true rfl) rfl rfl (fun ar M R rm cs h1 h2 h3 hX h => PX12_within ⟨Nat.le_of_ble_eq_true rfl, h1, h2, h3, trivial, hX⟩ h)
def VX12_lies (c_X12_turn : Int → Int → Int → Int → Int → Int → e_M → (Int → Prop) → Prop) (c_X12_within : Int → Int → Int → e_M → (Int → Prop) → Prop) (Q : Int → Prop) (x0 : Int) (x2 : Int) (x4 : Int) (x6 : Int) (x8 : Int) (x10 : Int) (M : e_M) : Prop :=
  (c_X12_turn x0 x2 x4 x6 x8 x10 M (fun r1 => ((¬ r1 = 0 → (Q 0)) ∧ (r1 = 0 → (c_X12_within x0 x4 x8 M (fun r2 => ((r2 = 0 → (Q 0)) ∧ (¬ r2 = 0 → (c_X12_within x2 x6 x10 M (fun r3 => ((r3 = 0 → (Q 0)) ∧ (¬ r3 = 0 → (Q 1)))))))))))))
def yX12_lies (i : Nat) : e_Y := x_get YX12_lies [YX12_turn, YX12_within] i
def pX12_liesf : List x_I := [(0, 3, 1, 0, 0, 0, []), (1, 3, 1, 2, 0, 0, []), (2, 3, 2, 4, 0, 0, []), (4, 3, 2, 6, 0, 0, []), (6, 3, 2, 8, 0, 0, []), (8, 3, 2, 10, 0, 0, []), (10, 40, 0, 6, 0, 0, []), (13, 1, 1, 0, 0, 0, []), (14, 32, 44, 1, 22, 0, []), (18, 3, 1, 0, 0, 0, []), (19, 3, 2, 4, 0, 0, []), (21, 3, 2, 8, 0, 0, []), (23, 40, 1, 3, 0, 0, []), (26, 17, 44, 0, 22, 0, []), (29, 3, 1, 2, 0, 0, []), (30, 3, 2, 6, 0, 0, []), (32, 3, 2, 10, 0, 0, []), (34, 40, 1, 3, 0, 0, []), (37, 17, 44, 0, 22, 0, []), (40, 0, 1, 0, 0, 1, []), (41, 19, 45, 0, 23, 0, []), (44, 0, 1, 0, 0, 0, []), (45, 48, 0, 0, 0, 0, [])]
set_option maxRecDepth 20000 in
theorem qX12_liesf : f_all yX12_lies YX12_lies pX12_liesf :=
  ⟨f_lload_n (n := 0) (e_dx DX12_lies_0 0 rfl) rfl,
  f_lload_n (n := 2) (e_dx DX12_lies_0 1 rfl) rfl,
  f_lload (e_dx DX12_lies_0 2 rfl),
  f_lload (e_dx DX12_lies_0 3 rfl),
  f_lload (e_dx DX12_lies_0 4 rfl),
  f_lload (e_dx DX12_lies_0 5 rfl),
  x_callS (e_dx DX12_lies_0 6 rfl) mwX12_turn cX12_427 swX12_turn rfl,
  f_lconst (n := 0) (e_dx DX12_lies_0 7 rfl) rfl,
  f_lif_ne (e_dx DX12_lies_0 8 rfl) (e_dx DX12_lies_0 9 rfl) rfl,
  f_lload_n (n := 0) (e_dx DX12_lies_0 10 rfl) rfl,
  f_lload (e_dx DX12_lies_0 11 rfl),
  f_lload (e_dx DX12_lies_0 12 rfl),
  x_callS (e_dx DX12_lies_0 13 rfl) mwX12_within cX12_431 swX12_within rfl,
  f_if_eq (e_dx DX12_lies_0 14 rfl) rfl,
  f_lload_n (n := 2) (e_dx DX12_lies_0 15 rfl) rfl,
  f_lload (e_dx DX12_lies_0 16 rfl),
  f_lload (e_dx DX12_lies_0 17 rfl),
  x_callS (e_dx DX12_lies_0 18 rfl) mwX12_within cX12_431 swX12_within rfl,
  f_if_eq (e_dx DX12_lies_0 19 rfl) rfl,
  f_iconst (e_dx DX12_lies_0 20 rfl) ⟨by decide, by decide⟩,
  f_g19 (e_dx DX12_lies_0 21 rfl) rfl,
  f_iconst (e_dx DX12_lies_0 22 rfl) ⟨by decide, by decide⟩,
  ⟨(e_dx DX12_lies_0 23 rfl), rfl⟩, trivial⟩
def lX12_lies (c_X12_turn : Int → Int → Int → Int → Int → Int → e_M → (Int → Prop) → Prop) (c_X12_within : Int → Int → Int → e_M → (Int → Prop) → Prop) : List (Nat × f_Wt) := [(0, f_wm [(2, 0, 0), (2, 0, 0), (2, 0, 0), (2, 0, 0), (2, 0, 0), (2, 0, 0)] (fun ar M R => c_X12_turn (f_vi (f_nth ar 0)) (f_vi (f_nth ar 1)) (f_vi (f_nth ar 2)) (f_vi (f_nth ar 3)) (f_vi (f_nth ar 4)) (f_vi (f_nth ar 5)) M (fun r => R (some (.inr (.inl r))) M))), (1, f_wm [(2, 0, 0), (2, 0, 0), (2, 0, 0)] (fun ar M R => c_X12_within (f_vi (f_nth ar 0)) (f_vi (f_nth ar 1)) (f_vi (f_nth ar 2)) M (fun r => R (some (.inl r)) M)))]
set_option maxRecDepth 20000 in
theorem BX12_lies {sh : Nat → Nat × Nat} {t : Nat} {rm : Nat × Nat × Nat} {cs : Nat × Nat} {R : f_Rt} {c_X12_turn : Int → Int → Int → Int → Int → Int → e_M → (Int → Prop) → Prop} {c_X12_within : Int → Int → Int → e_M → (Int → Prop) → Prop} {x0 : Int} {x2 : Int} {x4 : Int} {x6 : Int} {x8 : Int} {x10 : Int} {M : e_M} (C : f_Hy sh t yX12_lies rm cs 5 (lX12_lies c_X12_turn c_X12_within) R) (h : VX12_lies c_X12_turn c_X12_within (fun r => R (some (.inl r)) M) x0 x2 x4 x6 x8 x10 M) : f_E sh t YX12_lies rm cs (f_Q sh t R) 0 [.inr (.inl x0), .inr (.inr (.inr ())), .inr (.inl x2), .inr (.inr (.inr ())), .inr (.inl x4), .inr (.inr (.inr ())), .inr (.inl x6), .inr (.inr (.inr ())), .inr (.inl x8), .inr (.inr (.inr ())), .inr (.inl x10), .inr (.inr (.inr ()))] [] M :=
  f_go (KC := f_kc []) C qX12_liesf f_kc_nil 25 0 h
def WX12_lies (x0 : Int) (x2 : Int) (x4 : Int) (x6 : Int) (x8 : Int) (x10 : Int) (M : e_M) (Q : Int → Prop) : Prop :=
  VX12_lies WX12_turn WX12_within Q x0 x2 x4 x6 x8 x10 M
theorem PX12_lies {sh : Nat → Nat × Nat} {t : Nat} {rm : Nat × Nat × Nat} {cs : Nat × Nat} {R : f_Rt} {x0 : Int} {x2 : Int} {x4 : Int} {x6 : Int} {x8 : Int} {x10 : Int} {M : e_M} (C : f_Hy sh t yX12_lies rm cs 5 (lX12_lies WX12_turn WX12_within) R) (h : WX12_lies x0 x2 x4 x6 x8 x10 M (fun r => R (some (.inl r)) M)) : f_E sh t YX12_lies rm cs (f_Q sh t R) 0 [.inr (.inl x0), .inr (.inr (.inr ())), .inr (.inl x2), .inr (.inr (.inr ())), .inr (.inl x4), .inr (.inr (.inr ())), .inr (.inl x6), .inr (.inr (.inr ())), .inr (.inl x8), .inr (.inr (.inr ())), .inr (.inl x10), .inr (.inr (.inr ()))] [] M :=
  BX12_lies C h
def wX12_lies : f_Wt := f_wm [(2, 0, 0), (2, 0, 0), (2, 0, 0), (2, 0, 0), (2, 0, 0), (2, 0, 0)] (fun ar M R => WX12_lies (f_vi (f_nth ar 0)) (f_vi (f_nth ar 1)) (f_vi (f_nth ar 2)) (f_vi (f_nth ar 3)) (f_vi (f_nth ar 4)) (f_vi (f_nth ar 5)) M (fun r => R (some (.inl r)) M))
theorem TX12_lies {sh : Nat → Nat × Nat} {t : Nat} : f_Mt sh t YX12_lies 5 (wX12_lies) :=
  f_Mt_of (k := 0) (Nat.le_of_ble_eq_true rfl) rfl rfl (fun ar M R rm cs h1 h2 h3 hX h => PX12_lies ⟨Nat.le_of_ble_eq_true rfl, h1, h2, h3, ⟨(f_Mt.up (Nat.le_of_ble_eq_true rfl) TX12_turn), (f_Mt.up (Nat.le_of_ble_eq_true rfl) TX12_within), trivial⟩, hX⟩ h)
def VX12_lieAt_6 (c_X12_lies : Int → Int → Int → Int → Int → Int → e_M → (Int → Prop) → Prop) (c_X12_turn : Int → Int → Int → Int → Int → Int → e_M → (Int → Prop) → Prop) (k139 : Int → Int → Int → Int → Int → Int → Int → Int → Int → Int → Int → Prop) (Q : Int → Prop) (x1 : Int) (x2 : Int) (x3 : Int) (x5 : Int) (x7 : Int) (x8 : Int) (x9 : Int) (M : e_M) : Prop :=
  ((x2 ≤ x9 → ((¬ x8 = 0 → (Q 2)) ∧ (x8 = 0 → (Q 0)))) ∧ (x9 < x2 → (¬ x2 = 0 ∧ (∀ y1 : Int, y1 = e_w32 (x1 + ((e_w32 (x9 + 1)).tmod x2)) → ((0 ≤ (e_w32 (x1 + x9)) ∧ (e_w32 (x1 + x9)) < 4800) ∧ (∀ y2 : Int, y2 = e_w64 (x7 * (M 4480 ((e_w32 (x1 + x9)).toNat))) → ((0 ≤ (e_w32 (x1 + x9)) ∧ (e_w32 (x1 + x9)) < 4800) ∧ (∀ y3 : Int, y3 = e_w64 (x7 * (M 4481 ((e_w32 (x1 + x9)).toNat))) → ((0 ≤ y1 ∧ y1 < 4800) ∧ ((0 ≤ y1 ∧ y1 < 4800) ∧ (c_X12_lies y2 y3 (e_w64 (x7 * (M 4480 (y1.toNat)))) (e_w64 (x7 * (M 4481 (y1.toNat)))) x3 x5 M (fun r4 => ((r4 = 0 → ((x5 < y3 → (k139 x1 x2 x3 x5 x7 x8 x9 y2 y3 (e_w64 (x7 * (M 4480 (y1.toNat)))) (e_w64 (x7 * (M 4481 (y1.toNat)))))) ∧ (y3 ≤ x5 → (((e_w64 (x7 * (M 4481 (y1.toNat)))) ≤ x5 → (k139 x1 x2 x3 x5 x7 x8 x9 y2 y3 (e_w64 (x7 * (M 4480 (y1.toNat)))) (e_w64 (x7 * (M 4481 (y1.toNat)))))) ∧ (x5 < (e_w64 (x7 * (M 4481 (y1.toNat)))) → (c_X12_turn y2 y3 (e_w64 (x7 * (M 4480 (y1.toNat)))) (e_w64 (x7 * (M 4481 (y1.toNat)))) x3 x5 M (fun r5 => ((r5 ≤ 0 → (k139 x1 x2 x3 x5 x7 x8 x9 y2 y3 (e_w64 (x7 * (M 4480 (y1.toNat)))) (e_w64 (x7 * (M 4481 (y1.toNat)))))) ∧ (0 < r5 → (k139 x1 x2 x3 x5 x7 (e_w32 (x8 + 1)) x9 y2 y3 (e_w64 (x7 * (M 4480 (y1.toNat)))) (e_w64 (x7 * (M 4481 (y1.toNat)))))))))))))) ∧ (¬ r4 = 0 → (Q 1)))))))))))))))
def VX12_lieAt_139 (c_X12_lies : Int → Int → Int → Int → Int → Int → e_M → (Int → Prop) → Prop) (c_X12_turn : Int → Int → Int → Int → Int → Int → e_M → (Int → Prop) → Prop) (k177 : Int → Int → Int → Int → Int → Int → Int → Prop) (Q : Int → Prop) (x1 : Int) (x2 : Int) (x3 : Int) (x5 : Int) (x7 : Int) (x8 : Int) (x9 : Int) (x11 : Int) (x13 : Int) (x15 : Int) (x17 : Int) (M : e_M) : Prop :=
  ((x13 ≤ x5 → (k177 x1 x2 x3 x5 x7 x8 x9)) ∧ (x5 < x13 → ((x5 < x17 → (k177 x1 x2 x3 x5 x7 x8 x9)) ∧ (x17 ≤ x5 → (c_X12_turn x11 x13 x15 x17 x3 x5 M (fun r1 => ((0 ≤ r1 → (k177 x1 x2 x3 x5 x7 x8 x9)) ∧ (r1 < 0 → (k177 x1 x2 x3 x5 x7 (e_w32 (x8 + (-1))) x9)))))))))
def VX12_lieAt_177 (c_X12_lies : Int → Int → Int → Int → Int → Int → e_M → (Int → Prop) → Prop) (c_X12_turn : Int → Int → Int → Int → Int → Int → e_M → (Int → Prop) → Prop) (k6 : Int → Int → Int → Int → Int → Int → Int → Prop) (Q : Int → Prop) (x1 : Int) (x2 : Int) (x3 : Int) (x5 : Int) (x7 : Int) (x8 : Int) (x9 : Int) (M : e_M) : Prop :=
  (k6 x1 x2 x3 x5 x7 x8 (e_w32 (x9 + 1)))
def VX12_lieAt (c_X12_lies : Int → Int → Int → Int → Int → Int → e_M → (Int → Prop) → Prop) (c_X12_turn : Int → Int → Int → Int → Int → Int → e_M → (Int → Prop) → Prop) (k6 : Int → Int → Int → Int → Int → Int → Int → Prop) (Q : Int → Prop) (x1 : Int) (x2 : Int) (x3 : Int) (x5 : Int) (x7 : Int) (M : e_M) : Prop :=
  (k6 x1 x2 x3 x5 x7 0 0)
def yX12_lieAt (i : Nat) : e_Y := x_get YX12_lieAt [YX12_lies, YX12_turn] i
def pX12_lieAtf : List x_I := [(0, 0, 1, 0, 0, 0, []), (1, 5, 2, 8, 0, 0, []), (3, 0, 1, 0, 0, 0, []), (4, 5, 2, 9, 0, 0, []), (6, 49, 0, 0, 0, 0, []), (6, 2, 2, 9, 0, 0, []), (8, 2, 1, 2, 0, 0, []), (9, 18, 183, 3, 106, 0, []), (12, 2, 1, 1, 0, 0, []), (13, 2, 2, 9, 0, 0, []), (15, 0, 1, 0, 0, 1, []), (16, 9, 0, 0, 0, 0, []), (17, 2, 1, 2, 0, 0, []), (18, 9, 0, 4, 0, 0, []), (19, 9, 0, 0, 0, 0, []), (20, 33, 0, 0, 0, 0, []), (20, 5, 2, 10, 0, 0, []), (22, 2, 2, 7, 0, 0, []), (24, 14, 0, 0, 0, 0, []), (25, 4, 1, 0, 0, 0, []), (26, 25, 12, 40, 4, 0, [(0, 20, 4800), (0, 1, 24)]), (29, 2, 1, 1, 0, 0, []), (30, 2, 2, 9, 0, 0, []), (32, 9, 0, 0, 0, 0, []), (33, 27, 0, 0, 0, 0, []), (34, 14, 0, 0, 0, 0, []), (35, 10, 0, 2, 0, 0, []), (36, 33, 0, 0, 0, 0, []), (36, 6, 2, 11, 0, 0, []), (38, 2, 2, 7, 0, 0, []), (40, 14, 0, 0, 0, 0, []), (41, 4, 1, 0, 0, 0, []), (42, 25, 12, 41, 4, 0, [(0, 20, 4800), (0, 1, 25)]), (45, 2, 1, 1, 0, 0, []), (46, 2, 2, 9, 0, 0, []), (48, 9, 0, 0, 0, 0, []), (49, 27, 0, 0, 0, 0, []), (50, 14, 0, 0, 0, 0, []), (51, 10, 0, 2, 0, 0, []), (52, 33, 0, 0, 0, 0, []), (52, 6, 2, 13, 0, 0, []), (54, 2, 2, 7, 0, 0, []), (56, 14, 0, 0, 0, 0, []), (57, 4, 1, 0, 0, 0, []), (58, 25, 12, 40, 4, 0, [(0, 20, 4800), (0, 1, 24)]), (61, 2, 2, 10, 0, 0, []), (63, 27, 0, 0, 0, 0, []), (64, 14, 0, 0, 0, 0, []), (65, 10, 0, 2, 0, 0, []), (66, 6, 2, 15, 0, 0, []), (68, 2, 2, 7, 0, 0, []), (70, 14, 0, 0, 0, 0, []), (71, 4, 1, 0, 0, 0, []), (72, 25, 12, 41, 4, 0, [(0, 20, 4800), (0, 1, 25)]), (75, 2, 2, 10, 0, 0, []), (77, 27, 0, 0, 0, 0, []), (78, 14, 0, 0, 0, 0, []), (79, 10, 0, 2, 0, 0, []), (80, 6, 2, 17, 0, 0, []), (82, 3, 2, 11, 0, 0, []), (84, 3, 2, 13, 0, 0, []), (86, 3, 2, 15, 0, 0, []), (88, 3, 2, 17, 0, 0, []), (90, 3, 1, 3, 0, 0, []), (91, 3, 2, 5, 0, 0, []), (93, 40, 0, 6, 0, 0, []), (96, 17, 101, 0, 70, 0, []), (99, 0, 1, 0, 0, 1, []), (100, 41, 0, 0, 0, 0, []), (101, 3, 2, 13, 0, 0, []), (103, 3, 2, 5, 0, 0, []), (105, 32, 139, 4, 86, 0, []), (109, 3, 2, 17, 0, 0, []), (111, 3, 2, 5, 0, 0, []), (113, 32, 139, 5, 86, 0, []), (117, 3, 2, 11, 0, 0, []), (119, 3, 2, 13, 0, 0, []), (121, 3, 2, 15, 0, 0, []), (123, 3, 2, 17, 0, 0, []), (125, 3, 1, 3, 0, 0, []), (126, 3, 2, 5, 0, 0, []), (128, 40, 1, 6, 0, 0, []), (131, 1, 1, 0, 0, 0, []), (132, 32, 139, 5, 86, 0, []), (136, 8, 0, 8, 0, 1, []), (139, 49, 0, 0, 0, 0, []), (139, 3, 2, 13, 0, 0, []), (141, 3, 2, 5, 0, 0, []), (143, 32, 177, 5, 103, 0, []), (147, 3, 2, 17, 0, 0, []), (149, 3, 2, 5, 0, 0, []), (151, 32, 177, 4, 103, 0, []), (155, 3, 2, 11, 0, 0, []), (157, 3, 2, 13, 0, 0, []), (159, 3, 2, 15, 0, 0, []), (161, 3, 2, 17, 0, 0, []), (163, 3, 1, 3, 0, 0, []), (164, 3, 2, 5, 0, 0, []), (166, 40, 1, 6, 0, 0, []), (169, 1, 1, 0, 0, 0, []), (170, 32, 177, 3, 103, 0, []), (174, 8, 0, 8, 0, (-1), []), (177, 49, 0, 0, 0, 0, []), (177, 8, 0, 9, 0, 1, []), (180, 19, 6, 0, 5, 0, []), (183, 2, 2, 8, 0, 0, []), (185, 17, 192, 1, 110, 0, []), (188, 0, 1, 0, 0, 0, []), (189, 19, 193, 0, 111, 0, []), (192, 0, 1, 0, 0, 2, []), (193, 41, 0, 0, 0, 0, [])]
set_option maxRecDepth 20000 in
theorem qX12_lieAtf : f_all yX12_lieAt YX12_lieAt pX12_lieAtf :=
  ⟨f_iconst (e_dx DX12_lieAt_0 0 rfl) ⟨by decide, by decide⟩,
  f_istore (e_dx DX12_lieAt_0 1 rfl) (by decide),
  f_iconst (e_dx DX12_lieAt_0 2 rfl) ⟨by decide, by decide⟩,
  f_istore (e_dx DX12_lieAt_0 3 rfl) (by decide),
  trivial,
  f_iload (e_dx DX12_lieAt_0 4 rfl),
  f_iload_n (n := 2) (e_dx DX12_lieAt_0 5 rfl) rfl,
  f_icmp_ge (e_dx DX12_lieAt_0 6 rfl) rfl,
  f_iload_n (n := 1) (e_dx DX12_lieAt_0 7 rfl) rfl,
  f_iload (e_dx DX12_lieAt_0 8 rfl),
  f_iconst (e_dx DX12_lieAt_0 9 rfl) ⟨by decide, by decide⟩,
  f_iadd (e_dx DX12_lieAt_0 10 rfl),
  f_iload_n (n := 2) (e_dx DX12_lieAt_0 11 rfl) rfl,
  f_irem (e_dx DX12_lieAt_0 12 rfl),
  f_iadd (e_dx DX12_lieAt_0 13 rfl),
  f_g33,
  f_istore (e_dx DX12_lieAt_0 14 rfl) (by decide),
  f_iload (e_dx DX12_lieAt_0 15 rfl),
  f_g14 (e_dx DX12_lieAt_0 16 rfl),
  f_aload_n (n := 0) (e_dx DX12_lieAt_0 17 rfl) rfl,
  f_getA (e_dx DX12_lieAt_0 18 rfl) fX12_82 rfl (by decide) (Nat.le_of_ble_eq_true rfl) rfl (by decide),
  f_iload_n (n := 1) (e_dx DX12_lieAt_0 19 rfl) rfl,
  f_iload (e_dx DX12_lieAt_0 20 rfl),
  f_iadd (e_dx DX12_lieAt_0 21 rfl),
  f_iaload (e_dx DX12_lieAt_0 22 rfl),
  f_g14 (e_dx DX12_lieAt_0 23 rfl),
  f_lmul (e_dx DX12_lieAt_0 24 rfl),
  f_g33,
  f_lstore (e_dx DX12_lieAt_0 25 rfl) (by decide),
  f_iload (e_dx DX12_lieAt_0 26 rfl),
  f_g14 (e_dx DX12_lieAt_0 27 rfl),
  f_aload_n (n := 0) (e_dx DX12_lieAt_0 28 rfl) rfl,
  f_getA (e_dx DX12_lieAt_0 29 rfl) fX12_85 rfl (by decide) (Nat.le_of_ble_eq_true rfl) rfl (by decide),
  f_iload_n (n := 1) (e_dx DX12_lieAt_0 30 rfl) rfl,
  f_iload (e_dx DX12_lieAt_0 31 rfl),
  f_iadd (e_dx DX12_lieAt_0 32 rfl),
  f_iaload (e_dx DX12_lieAt_0 33 rfl),
  f_g14 (e_dx DX12_lieAt_0 34 rfl),
  f_lmul (e_dx DX12_lieAt_0 35 rfl),
  f_g33,
  f_lstore (e_dx DX12_lieAt_0 36 rfl) (by decide),
  f_iload (e_dx DX12_lieAt_0 37 rfl),
  f_g14 (e_dx DX12_lieAt_0 38 rfl),
  f_aload_n (n := 0) (e_dx DX12_lieAt_0 39 rfl) rfl,
  f_getA (e_dx DX12_lieAt_1 0 rfl) fX12_82 rfl (by decide) (Nat.le_of_ble_eq_true rfl) rfl (by decide),
  f_iload (e_dx DX12_lieAt_1 1 rfl),
  f_iaload (e_dx DX12_lieAt_1 2 rfl),
  f_g14 (e_dx DX12_lieAt_1 3 rfl),
  f_lmul (e_dx DX12_lieAt_1 4 rfl),
  f_lstore (e_dx DX12_lieAt_1 5 rfl) (by decide),
  f_iload (e_dx DX12_lieAt_1 6 rfl),
  f_g14 (e_dx DX12_lieAt_1 7 rfl),
  f_aload_n (n := 0) (e_dx DX12_lieAt_1 8 rfl) rfl,
  f_getA (e_dx DX12_lieAt_1 9 rfl) fX12_85 rfl (by decide) (Nat.le_of_ble_eq_true rfl) rfl (by decide),
  f_iload (e_dx DX12_lieAt_1 10 rfl),
  f_iaload (e_dx DX12_lieAt_1 11 rfl),
  f_g14 (e_dx DX12_lieAt_1 12 rfl),
  f_lmul (e_dx DX12_lieAt_1 13 rfl),
  f_lstore (e_dx DX12_lieAt_1 14 rfl) (by decide),
  f_lload (e_dx DX12_lieAt_1 15 rfl),
  f_lload (e_dx DX12_lieAt_1 16 rfl),
  f_lload (e_dx DX12_lieAt_1 17 rfl),
  f_lload (e_dx DX12_lieAt_1 18 rfl),
  f_lload_n (n := 3) (e_dx DX12_lieAt_1 19 rfl) rfl,
  f_lload (e_dx DX12_lieAt_1 20 rfl),
  x_callS (e_dx DX12_lieAt_1 21 rfl) mwX12_lies cX12_435 swX12_lies rfl,
  f_if_eq (e_dx DX12_lieAt_1 22 rfl) rfl,
  f_iconst (e_dx DX12_lieAt_1 23 rfl) ⟨by decide, by decide⟩,
  ⟨(e_dx DX12_lieAt_1 24 rfl), rfl⟩,
  f_lload (e_dx DX12_lieAt_1 25 rfl),
  f_lload (e_dx DX12_lieAt_1 26 rfl),
  f_lif_gt (e_dx DX12_lieAt_1 27 rfl) (e_dx DX12_lieAt_1 28 rfl) rfl,
  f_lload (e_dx DX12_lieAt_1 29 rfl),
  f_lload (e_dx DX12_lieAt_1 30 rfl),
  f_lif_le (e_dx DX12_lieAt_1 31 rfl) (e_dx DX12_lieAt_1 32 rfl) rfl,
  f_lload (e_dx DX12_lieAt_1 33 rfl),
  f_lload (e_dx DX12_lieAt_1 34 rfl),
  f_lload (e_dx DX12_lieAt_1 35 rfl),
  f_lload (e_dx DX12_lieAt_1 36 rfl),
  f_lload_n (n := 3) (e_dx DX12_lieAt_1 37 rfl) rfl,
  f_lload (e_dx DX12_lieAt_1 38 rfl),
  x_callS (e_dx DX12_lieAt_1 39 rfl) mwX12_turn cX12_427 swX12_turn rfl,
  f_lconst (n := 0) (e_dx DX12_lieAt_2 0 rfl) rfl,
  f_lif_le (e_dx DX12_lieAt_2 1 rfl) (e_dx DX12_lieAt_2 2 rfl) rfl,
  f_g8 (e_dx DX12_lieAt_2 3 rfl) ⟨by decide, by decide⟩,
  trivial,
  f_lload (e_dx DX12_lieAt_2 4 rfl),
  f_lload (e_dx DX12_lieAt_2 5 rfl),
  f_lif_le (e_dx DX12_lieAt_2 6 rfl) (e_dx DX12_lieAt_2 7 rfl) rfl,
  f_lload (e_dx DX12_lieAt_2 8 rfl),
  f_lload (e_dx DX12_lieAt_2 9 rfl),
  f_lif_gt (e_dx DX12_lieAt_2 10 rfl) (e_dx DX12_lieAt_2 11 rfl) rfl,
  f_lload (e_dx DX12_lieAt_2 12 rfl),
  f_lload (e_dx DX12_lieAt_2 13 rfl),
  f_lload (e_dx DX12_lieAt_2 14 rfl),
  f_lload (e_dx DX12_lieAt_2 15 rfl),
  f_lload_n (n := 3) (e_dx DX12_lieAt_2 16 rfl) rfl,
  f_lload (e_dx DX12_lieAt_2 17 rfl),
  x_callS (e_dx DX12_lieAt_2 18 rfl) mwX12_turn cX12_427 swX12_turn rfl,
  f_lconst (n := 0) (e_dx DX12_lieAt_2 19 rfl) rfl,
  f_lif_ge (e_dx DX12_lieAt_2 20 rfl) (e_dx DX12_lieAt_2 21 rfl) rfl,
  f_g8 (e_dx DX12_lieAt_2 22 rfl) ⟨by decide, by decide⟩,
  trivial,
  f_g8 (e_dx DX12_lieAt_2 23 rfl) ⟨by decide, by decide⟩,
  f_g19 (e_dx DX12_lieAt_2 24 rfl) rfl,
  f_iload (e_dx DX12_lieAt_2 25 rfl),
  f_if_ne (e_dx DX12_lieAt_2 26 rfl) rfl,
  f_iconst (e_dx DX12_lieAt_2 27 rfl) ⟨by decide, by decide⟩,
  f_g19 (e_dx DX12_lieAt_2 28 rfl) rfl,
  f_iconst (e_dx DX12_lieAt_2 29 rfl) ⟨by decide, by decide⟩,
  ⟨(e_dx DX12_lieAt_2 30 rfl), rfl⟩, trivial⟩
def lX12_lieAt (c_X12_lies : Int → Int → Int → Int → Int → Int → e_M → (Int → Prop) → Prop) (c_X12_turn : Int → Int → Int → Int → Int → Int → e_M → (Int → Prop) → Prop) : List (Nat × f_Wt) := [(0, f_wm [(2, 0, 0), (2, 0, 0), (2, 0, 0), (2, 0, 0), (2, 0, 0), (2, 0, 0)] (fun ar M R => c_X12_lies (f_vi (f_nth ar 0)) (f_vi (f_nth ar 1)) (f_vi (f_nth ar 2)) (f_vi (f_nth ar 3)) (f_vi (f_nth ar 4)) (f_vi (f_nth ar 5)) M (fun r => R (some (.inl r)) M))), (1, f_wm [(2, 0, 0), (2, 0, 0), (2, 0, 0), (2, 0, 0), (2, 0, 0), (2, 0, 0)] (fun ar M R => c_X12_turn (f_vi (f_nth ar 0)) (f_vi (f_nth ar 1)) (f_vi (f_nth ar 2)) (f_vi (f_nth ar 3)) (f_vi (f_nth ar 4)) (f_vi (f_nth ar 5)) M (fun r => R (some (.inr (.inl r))) M)))]
set_option maxRecDepth 20000 in
theorem BX12_lieAt_6 {sh : Nat → Nat × Nat} {t : Nat} {rm : Nat × Nat × Nat} {cs : Nat × Nat} {R : f_Rt} {c_X12_lies : Int → Int → Int → Int → Int → Int → e_M → (Int → Prop) → Prop} {c_X12_turn : Int → Int → Int → Int → Int → Int → e_M → (Int → Prop) → Prop} {k139 : Int → Int → Int → Int → Int → Int → Int → Int → Int → Int → Int → Prop} {x1 : Int} {x2 : Int} {x3 : Int} {x5 : Int} {x7 : Int} {x8 : Int} {x9 : Int} {M : e_M} (C : f_Hy sh t yX12_lieAt rm cs 6 (lX12_lieAt c_X12_lies c_X12_turn) R) (h139 : ∀ (x1 : Int) (x2 : Int) (x3 : Int) (x5 : Int) (x7 : Int) (x8 : Int) (x9 : Int) (x11 : Int) (x13 : Int) (x15 : Int) (x17 : Int), k139 x1 x2 x3 x5 x7 x8 x9 x11 x13 x15 x17 → f_E sh t YX12_lieAt rm cs (f_Q sh t R) 139 [.inr (.inr (.inl (12, 123, 4456))), .inl x1, .inl x2, .inr (.inl x3), .inr (.inr (.inr ())), .inr (.inl x5), .inr (.inr (.inr ())), .inl x7, .inl x8, .inl x9, .inr (.inr (.inr ())), .inr (.inl x11), .inr (.inr (.inr ())), .inr (.inl x13), .inr (.inr (.inr ())), .inr (.inl x15), .inr (.inr (.inr ())), .inr (.inl x17), .inr (.inr (.inr ()))] [] M) (h : VX12_lieAt_6 c_X12_lies c_X12_turn k139 (fun r => R (some (.inl r)) M) x1 x2 x3 x5 x7 x8 x9 M) : f_E sh t YX12_lieAt rm cs (f_Q sh t R) 6 [.inr (.inr (.inl (12, 123, 4456))), .inl x1, .inl x2, .inr (.inl x3), .inr (.inr (.inr ())), .inr (.inl x5), .inr (.inr (.inr ())), .inl x7, .inl x8, .inl x9, .inr (.inr (.inr ())), .inr (.inr (.inr ())), .inr (.inr (.inr ())), .inr (.inr (.inr ())), .inr (.inr (.inr ())), .inr (.inr (.inr ())), .inr (.inr (.inr ())), .inr (.inr (.inr ())), .inr (.inr (.inr ()))] [] M := by
  rw [f_kk11 M k139] at h
  exact f_go (KC := f_kc [(139, f_pl [(4466, 12, 123), (1, 0, 0), (1, 0, 0), (2, 0, 0), (0, 0, 0), (2, 0, 0), (0, 0, 0), (1, 0, 0), (1, 0, 0), (1, 0, 0), (0, 0, 0), (2, 0, 0), (0, 0, 0), (2, 0, 0), (0, 0, 0), (2, 0, 0), (0, 0, 0), (2, 0, 0), (0, 0, 0)] [] (fun ls st M2 => M2 = M ∧ (k139 (f_vi (f_nth ls 1)) (f_vi (f_nth ls 2)) (f_vi (f_nth ls 3)) (f_vi (f_nth ls 5)) (f_vi (f_nth ls 7)) (f_vi (f_nth ls 8)) (f_vi (f_nth ls 9)) (f_vi (f_nth ls 11)) (f_vi (f_nth ls 13)) (f_vi (f_nth ls 15)) (f_vi (f_nth ls 17)))))]) C qX12_lieAtf (f_kc_cons (f_pl_ok rfl (fun ls st M2 ⟨e, hh⟩ => by subst e; exact h139 _ _ _ _ _ _ _ _ _ _ _ hh)) f_kc_nil) 113 5 h
set_option maxRecDepth 20000 in
theorem BX12_lieAt_139 {sh : Nat → Nat × Nat} {t : Nat} {rm : Nat × Nat × Nat} {cs : Nat × Nat} {R : f_Rt} {c_X12_lies : Int → Int → Int → Int → Int → Int → e_M → (Int → Prop) → Prop} {c_X12_turn : Int → Int → Int → Int → Int → Int → e_M → (Int → Prop) → Prop} {k177 : Int → Int → Int → Int → Int → Int → Int → Prop} {x1 : Int} {x2 : Int} {x3 : Int} {x5 : Int} {x7 : Int} {x8 : Int} {x9 : Int} {x11 : Int} {x13 : Int} {x15 : Int} {x17 : Int} {M : e_M} (C : f_Hy sh t yX12_lieAt rm cs 6 (lX12_lieAt c_X12_lies c_X12_turn) R) (h177 : ∀ (x1 : Int) (x2 : Int) (x3 : Int) (x5 : Int) (x7 : Int) (x8 : Int) (x9 : Int), k177 x1 x2 x3 x5 x7 x8 x9 → f_E sh t YX12_lieAt rm cs (f_Q sh t R) 177 [.inr (.inr (.inl (12, 123, 4456))), .inl x1, .inl x2, .inr (.inl x3), .inr (.inr (.inr ())), .inr (.inl x5), .inr (.inr (.inr ())), .inl x7, .inl x8, .inl x9, .inr (.inr (.inr ())), .inr (.inr (.inr ())), .inr (.inr (.inr ())), .inr (.inr (.inr ())), .inr (.inr (.inr ())), .inr (.inr (.inr ())), .inr (.inr (.inr ())), .inr (.inr (.inr ())), .inr (.inr (.inr ()))] [] M) (h : VX12_lieAt_139 c_X12_lies c_X12_turn k177 (fun r => R (some (.inl r)) M) x1 x2 x3 x5 x7 x8 x9 x11 x13 x15 x17 M) : f_E sh t YX12_lieAt rm cs (f_Q sh t R) 139 [.inr (.inr (.inl (12, 123, 4456))), .inl x1, .inl x2, .inr (.inl x3), .inr (.inr (.inr ())), .inr (.inl x5), .inr (.inr (.inr ())), .inl x7, .inl x8, .inl x9, .inr (.inr (.inr ())), .inr (.inl x11), .inr (.inr (.inr ())), .inr (.inl x13), .inr (.inr (.inr ())), .inr (.inl x15), .inr (.inr (.inr ())), .inr (.inl x17), .inr (.inr (.inr ()))] [] M := by
  rw [f_kk7 M k177] at h
  exact f_go (KC := f_kc [(177, f_pl [(4466, 12, 123), (1, 0, 0), (1, 0, 0), (2, 0, 0), (0, 0, 0), (2, 0, 0), (0, 0, 0), (1, 0, 0), (1, 0, 0), (1, 0, 0), (0, 0, 0), (0, 0, 0), (0, 0, 0), (0, 0, 0), (0, 0, 0), (0, 0, 0), (0, 0, 0), (0, 0, 0), (0, 0, 0)] [] (fun ls st M2 => M2 = M ∧ (k177 (f_vi (f_nth ls 1)) (f_vi (f_nth ls 2)) (f_vi (f_nth ls 3)) (f_vi (f_nth ls 5)) (f_vi (f_nth ls 7)) (f_vi (f_nth ls 8)) (f_vi (f_nth ls 9)))))]) C qX12_lieAtf (f_kc_cons (f_pl_ok rfl (fun ls st M2 ⟨e, hh⟩ => by subst e; exact h177 _ _ _ _ _ _ _ hh)) f_kc_nil) 113 86 h
set_option maxRecDepth 20000 in
theorem BX12_lieAt_177 {sh : Nat → Nat × Nat} {t : Nat} {rm : Nat × Nat × Nat} {cs : Nat × Nat} {R : f_Rt} {c_X12_lies : Int → Int → Int → Int → Int → Int → e_M → (Int → Prop) → Prop} {c_X12_turn : Int → Int → Int → Int → Int → Int → e_M → (Int → Prop) → Prop} {k6 : Int → Int → Int → Int → Int → Int → Int → Prop} {x1 : Int} {x2 : Int} {x3 : Int} {x5 : Int} {x7 : Int} {x8 : Int} {x9 : Int} {M : e_M} (C : f_Hy sh t yX12_lieAt rm cs 6 (lX12_lieAt c_X12_lies c_X12_turn) R) (h6 : ∀ (x1 : Int) (x2 : Int) (x3 : Int) (x5 : Int) (x7 : Int) (x8 : Int) (x9 : Int), k6 x1 x2 x3 x5 x7 x8 x9 → f_E sh t YX12_lieAt rm cs (f_Q sh t R) 6 [.inr (.inr (.inl (12, 123, 4456))), .inl x1, .inl x2, .inr (.inl x3), .inr (.inr (.inr ())), .inr (.inl x5), .inr (.inr (.inr ())), .inl x7, .inl x8, .inl x9, .inr (.inr (.inr ())), .inr (.inr (.inr ())), .inr (.inr (.inr ())), .inr (.inr (.inr ())), .inr (.inr (.inr ())), .inr (.inr (.inr ())), .inr (.inr (.inr ())), .inr (.inr (.inr ())), .inr (.inr (.inr ()))] [] M) (h : VX12_lieAt_177 c_X12_lies c_X12_turn k6 (fun r => R (some (.inl r)) M) x1 x2 x3 x5 x7 x8 x9 M) : f_E sh t YX12_lieAt rm cs (f_Q sh t R) 177 [.inr (.inr (.inl (12, 123, 4456))), .inl x1, .inl x2, .inr (.inl x3), .inr (.inr (.inr ())), .inr (.inl x5), .inr (.inr (.inr ())), .inl x7, .inl x8, .inl x9, .inr (.inr (.inr ())), .inr (.inr (.inr ())), .inr (.inr (.inr ())), .inr (.inr (.inr ())), .inr (.inr (.inr ())), .inr (.inr (.inr ())), .inr (.inr (.inr ())), .inr (.inr (.inr ())), .inr (.inr (.inr ()))] [] M := by
  rw [f_kk7 M k6] at h
  exact f_go (KC := f_kc [(6, f_pl [(4466, 12, 123), (1, 0, 0), (1, 0, 0), (2, 0, 0), (0, 0, 0), (2, 0, 0), (0, 0, 0), (1, 0, 0), (1, 0, 0), (1, 0, 0), (0, 0, 0), (0, 0, 0), (0, 0, 0), (0, 0, 0), (0, 0, 0), (0, 0, 0), (0, 0, 0), (0, 0, 0), (0, 0, 0)] [] (fun ls st M2 => M2 = M ∧ (k6 (f_vi (f_nth ls 1)) (f_vi (f_nth ls 2)) (f_vi (f_nth ls 3)) (f_vi (f_nth ls 5)) (f_vi (f_nth ls 7)) (f_vi (f_nth ls 8)) (f_vi (f_nth ls 9)))))]) C qX12_lieAtf (f_kc_cons (f_pl_ok rfl (fun ls st M2 ⟨e, hh⟩ => by subst e; exact h6 _ _ _ _ _ _ _ hh)) f_kc_nil) 113 103 h
set_option maxRecDepth 20000 in
theorem BX12_lieAt {sh : Nat → Nat × Nat} {t : Nat} {rm : Nat × Nat × Nat} {cs : Nat × Nat} {R : f_Rt} {c_X12_lies : Int → Int → Int → Int → Int → Int → e_M → (Int → Prop) → Prop} {c_X12_turn : Int → Int → Int → Int → Int → Int → e_M → (Int → Prop) → Prop} {k6 : Int → Int → Int → Int → Int → Int → Int → Prop} {x1 : Int} {x2 : Int} {x3 : Int} {x5 : Int} {x7 : Int} {M : e_M} (C : f_Hy sh t yX12_lieAt rm cs 6 (lX12_lieAt c_X12_lies c_X12_turn) R) (h6 : ∀ (x1 : Int) (x2 : Int) (x3 : Int) (x5 : Int) (x7 : Int) (x8 : Int) (x9 : Int), k6 x1 x2 x3 x5 x7 x8 x9 → f_E sh t YX12_lieAt rm cs (f_Q sh t R) 6 [.inr (.inr (.inl (12, 123, 4456))), .inl x1, .inl x2, .inr (.inl x3), .inr (.inr (.inr ())), .inr (.inl x5), .inr (.inr (.inr ())), .inl x7, .inl x8, .inl x9, .inr (.inr (.inr ())), .inr (.inr (.inr ())), .inr (.inr (.inr ())), .inr (.inr (.inr ())), .inr (.inr (.inr ())), .inr (.inr (.inr ())), .inr (.inr (.inr ())), .inr (.inr (.inr ())), .inr (.inr (.inr ()))] [] M) (h : VX12_lieAt c_X12_lies c_X12_turn k6 (fun r => R (some (.inl r)) M) x1 x2 x3 x5 x7 M) : f_E sh t YX12_lieAt rm cs (f_Q sh t R) 0 [.inr (.inr (.inl (12, 123, 4456))), .inl x1, .inl x2, .inr (.inl x3), .inr (.inr (.inr ())), .inr (.inl x5), .inr (.inr (.inr ())), .inl x7, .inr (.inr (.inr ())), .inr (.inr (.inr ())), .inr (.inr (.inr ())), .inr (.inr (.inr ())), .inr (.inr (.inr ())), .inr (.inr (.inr ())), .inr (.inr (.inr ())), .inr (.inr (.inr ())), .inr (.inr (.inr ())), .inr (.inr (.inr ())), .inr (.inr (.inr ()))] [] M := by
  rw [f_kk7 M k6] at h
  exact f_go (KC := f_kc [(6, f_pl [(4466, 12, 123), (1, 0, 0), (1, 0, 0), (2, 0, 0), (0, 0, 0), (2, 0, 0), (0, 0, 0), (1, 0, 0), (1, 0, 0), (1, 0, 0), (0, 0, 0), (0, 0, 0), (0, 0, 0), (0, 0, 0), (0, 0, 0), (0, 0, 0), (0, 0, 0), (0, 0, 0), (0, 0, 0)] [] (fun ls st M2 => M2 = M ∧ (k6 (f_vi (f_nth ls 1)) (f_vi (f_nth ls 2)) (f_vi (f_nth ls 3)) (f_vi (f_nth ls 5)) (f_vi (f_nth ls 7)) (f_vi (f_nth ls 8)) (f_vi (f_nth ls 9)))))]) C qX12_lieAtf (f_kc_cons (f_pl_ok rfl (fun ls st M2 ⟨e, hh⟩ => by subst e; exact h6 _ _ _ _ _ _ _ hh)) f_kc_nil) 113 0 h
def WX12_lieAt_177 (M : e_M) (H6 : Int → Int → Int → Int → Int → Int → Int → Prop) (Q : Int → Prop) (x1 : Int) (x2 : Int) (x3 : Int) (x5 : Int) (x7 : Int) (x8 : Int) (x9 : Int) : Prop :=
  VX12_lieAt_177 WX12_lies WX12_turn H6 Q x1 x2 x3 x5 x7 x8 x9 M
def WX12_lieAt_139 (M : e_M) (H6 : Int → Int → Int → Int → Int → Int → Int → Prop) (Q : Int → Prop) (x1 : Int) (x2 : Int) (x3 : Int) (x5 : Int) (x7 : Int) (x8 : Int) (x9 : Int) (x11 : Int) (x13 : Int) (x15 : Int) (x17 : Int) : Prop :=
  VX12_lieAt_139 WX12_lies WX12_turn (WX12_lieAt_177 M H6 Q) Q x1 x2 x3 x5 x7 x8 x9 x11 x13 x15 x17 M
def WX12_lieAt_6 (M : e_M) (Q : Int → Prop) : Nat → Int → Int → Int → Int → Int → Int → Int → Prop
  | 0, _, _, _, _, _, _, _ => False
  | n + 1, x1, x2, x3, x5, x7, x8, x9 =>
    VX12_lieAt_6 WX12_lies WX12_turn (WX12_lieAt_139 M (WX12_lieAt_6 M Q n) Q) Q x1 x2 x3 x5 x7 x8 x9 M
def WX12_lieAt (x1 : Int) (x2 : Int) (x3 : Int) (x5 : Int) (x7 : Int) (M : e_M) (Q : Int → Prop) : Prop :=
  VX12_lieAt WX12_lies WX12_turn (fun x1 x2 x3 x5 x7 x8 x9 => ∃ j, WX12_lieAt_6 M Q j x1 x2 x3 x5 x7 x8 x9) Q x1 x2 x3 x5 x7 M
theorem PX12_lieAt_177 {sh : Nat → Nat × Nat} {t : Nat} {rm : Nat × Nat × Nat} {cs : Nat × Nat} {R : f_Rt} {H6 : Int → Int → Int → Int → Int → Int → Int → Prop} {x1 : Int} {x2 : Int} {x3 : Int} {x5 : Int} {x7 : Int} {x8 : Int} {x9 : Int} {M : e_M} (C : f_Hy sh t yX12_lieAt rm cs 6 (lX12_lieAt WX12_lies WX12_turn) R) (g6 : ∀ (x1 : Int) (x2 : Int) (x3 : Int) (x5 : Int) (x7 : Int) (x8 : Int) (x9 : Int), H6 x1 x2 x3 x5 x7 x8 x9 → f_E sh t YX12_lieAt rm cs (f_Q sh t R) 6 [.inr (.inr (.inl (12, 123, 4456))), .inl x1, .inl x2, .inr (.inl x3), .inr (.inr (.inr ())), .inr (.inl x5), .inr (.inr (.inr ())), .inl x7, .inl x8, .inl x9, .inr (.inr (.inr ())), .inr (.inr (.inr ())), .inr (.inr (.inr ())), .inr (.inr (.inr ())), .inr (.inr (.inr ())), .inr (.inr (.inr ())), .inr (.inr (.inr ())), .inr (.inr (.inr ())), .inr (.inr (.inr ()))] [] M) (h : WX12_lieAt_177 M H6 (fun r => R (some (.inl r)) M) x1 x2 x3 x5 x7 x8 x9) : f_E sh t YX12_lieAt rm cs (f_Q sh t R) 177 [.inr (.inr (.inl (12, 123, 4456))), .inl x1, .inl x2, .inr (.inl x3), .inr (.inr (.inr ())), .inr (.inl x5), .inr (.inr (.inr ())), .inl x7, .inl x8, .inl x9, .inr (.inr (.inr ())), .inr (.inr (.inr ())), .inr (.inr (.inr ())), .inr (.inr (.inr ())), .inr (.inr (.inr ())), .inr (.inr (.inr ())), .inr (.inr (.inr ())), .inr (.inr (.inr ())), .inr (.inr (.inr ()))] [] M :=
  BX12_lieAt_177 C g6 h
theorem PX12_lieAt_139 {sh : Nat → Nat × Nat} {t : Nat} {rm : Nat × Nat × Nat} {cs : Nat × Nat} {R : f_Rt} {H6 : Int → Int → Int → Int → Int → Int → Int → Prop} {x1 : Int} {x2 : Int} {x3 : Int} {x5 : Int} {x7 : Int} {x8 : Int} {x9 : Int} {x11 : Int} {x13 : Int} {x15 : Int} {x17 : Int} {M : e_M} (C : f_Hy sh t yX12_lieAt rm cs 6 (lX12_lieAt WX12_lies WX12_turn) R) (g6 : ∀ (x1 : Int) (x2 : Int) (x3 : Int) (x5 : Int) (x7 : Int) (x8 : Int) (x9 : Int), H6 x1 x2 x3 x5 x7 x8 x9 → f_E sh t YX12_lieAt rm cs (f_Q sh t R) 6 [.inr (.inr (.inl (12, 123, 4456))), .inl x1, .inl x2, .inr (.inl x3), .inr (.inr (.inr ())), .inr (.inl x5), .inr (.inr (.inr ())), .inl x7, .inl x8, .inl x9, .inr (.inr (.inr ())), .inr (.inr (.inr ())), .inr (.inr (.inr ())), .inr (.inr (.inr ())), .inr (.inr (.inr ())), .inr (.inr (.inr ())), .inr (.inr (.inr ())), .inr (.inr (.inr ())), .inr (.inr (.inr ()))] [] M) (h : WX12_lieAt_139 M H6 (fun r => R (some (.inl r)) M) x1 x2 x3 x5 x7 x8 x9 x11 x13 x15 x17) : f_E sh t YX12_lieAt rm cs (f_Q sh t R) 139 [.inr (.inr (.inl (12, 123, 4456))), .inl x1, .inl x2, .inr (.inl x3), .inr (.inr (.inr ())), .inr (.inl x5), .inr (.inr (.inr ())), .inl x7, .inl x8, .inl x9, .inr (.inr (.inr ())), .inr (.inl x11), .inr (.inr (.inr ())), .inr (.inl x13), .inr (.inr (.inr ())), .inr (.inl x15), .inr (.inr (.inr ())), .inr (.inl x17), .inr (.inr (.inr ()))] [] M :=
  BX12_lieAt_139 C (fun x1 x2 x3 x5 x7 x8 x9 h => PX12_lieAt_177 C g6 h) h
theorem PX12_lieAt_6 {sh : Nat → Nat × Nat} {t : Nat} {rm : Nat × Nat × Nat} {cs : Nat × Nat} {R : f_Rt} {M : e_M} (C : f_Hy sh t yX12_lieAt rm cs 6 (lX12_lieAt WX12_lies WX12_turn) R) : ∀ (n : Nat) (x1 : Int) (x2 : Int) (x3 : Int) (x5 : Int) (x7 : Int) (x8 : Int) (x9 : Int), WX12_lieAt_6 M (fun r => R (some (.inl r)) M) n x1 x2 x3 x5 x7 x8 x9 → f_E sh t YX12_lieAt rm cs (f_Q sh t R) 6 [.inr (.inr (.inl (12, 123, 4456))), .inl x1, .inl x2, .inr (.inl x3), .inr (.inr (.inr ())), .inr (.inl x5), .inr (.inr (.inr ())), .inl x7, .inl x8, .inl x9, .inr (.inr (.inr ())), .inr (.inr (.inr ())), .inr (.inr (.inr ())), .inr (.inr (.inr ())), .inr (.inr (.inr ())), .inr (.inr (.inr ())), .inr (.inr (.inr ())), .inr (.inr (.inr ())), .inr (.inr (.inr ()))] [] M := by
  intro n
  induction n with
  | zero => intro x1 x2 x3 x5 x7 x8 x9 h; exact h.elim
  | succ n ih => intro x1 x2 x3 x5 x7 x8 x9 h; exact BX12_lieAt_6 C (fun x1 x2 x3 x5 x7 x8 x9 x11 x13 x15 x17 h => PX12_lieAt_139 C ih h) h
theorem PX12_lieAt {sh : Nat → Nat × Nat} {t : Nat} {rm : Nat × Nat × Nat} {cs : Nat × Nat} {R : f_Rt} {x1 : Int} {x2 : Int} {x3 : Int} {x5 : Int} {x7 : Int} {M : e_M} (C : f_Hy sh t yX12_lieAt rm cs 6 (lX12_lieAt WX12_lies WX12_turn) R) (h : WX12_lieAt x1 x2 x3 x5 x7 M (fun r => R (some (.inl r)) M)) : f_E sh t YX12_lieAt rm cs (f_Q sh t R) 0 [.inr (.inr (.inl (12, 123, 4456))), .inl x1, .inl x2, .inr (.inl x3), .inr (.inr (.inr ())), .inr (.inl x5), .inr (.inr (.inr ())), .inl x7, .inr (.inr (.inr ())), .inr (.inr (.inr ())), .inr (.inr (.inr ())), .inr (.inr (.inr ())), .inr (.inr (.inr ())), .inr (.inr (.inr ())), .inr (.inr (.inr ())), .inr (.inr (.inr ())), .inr (.inr (.inr ())), .inr (.inr (.inr ())), .inr (.inr (.inr ()))] [] M :=
  BX12_lieAt C (fun x1 x2 x3 x5 x7 x8 x9 ⟨j, h⟩ => PX12_lieAt_6 C j _ _ _ _ _ _ _ h) h
def wX12_lieAt : f_Wt := f_wm [(4466, 12, 123), (1, 0, 0), (1, 0, 0), (2, 0, 0), (2, 0, 0), (1, 0, 0)] (fun ar M R => WX12_lieAt (f_vi (f_nth ar 1)) (f_vi (f_nth ar 2)) (f_vi (f_nth ar 3)) (f_vi (f_nth ar 4)) (f_vi (f_nth ar 5)) M (fun r => R (some (.inl r)) M))
theorem TX12_lieAt {sh : Nat → Nat × Nat} {t : Nat} : f_Mt sh t YX12_lieAt 6 (wX12_lieAt) :=
  f_Mt_of (k := 11) (Nat.le_of_ble_eq_true rfl) rfl rfl (fun ar M R rm cs h1 h2 h3 hX h => PX12_lieAt ⟨Nat.le_of_ble_eq_true rfl, h1, h2, h3, ⟨(f_Mt.up (Nat.le_of_ble_eq_true rfl) TX12_lies), (f_Mt.up (Nat.le_of_ble_eq_true rfl) TX12_turn), trivial⟩, hX⟩ h)
def VX12_areaOf_5 (k5 : Int → Int → Int → Int → Prop) (Q : Int → Prop) (x1 : Int) (x2 : Int) (x3 : Int) (x5 : Int) (M : e_M) : Prop :=
  ((x2 ≤ x5 → (Q x3)) ∧ (x5 < x2 → (¬ x2 = 0 ∧ (∀ y1 : Int, y1 = e_w32 (x1 + ((e_w32 (x5 + 1)).tmod x2)) → ((0 ≤ (e_w32 (x1 + x5)) ∧ (e_w32 (x1 + x5)) < 4800) ∧ ((0 ≤ y1 ∧ y1 < 4800) ∧ ((0 ≤ y1 ∧ y1 < 4800) ∧ ((0 ≤ (e_w32 (x1 + x5)) ∧ (e_w32 (x1 + x5)) < 4800) ∧ (∀ y2 : Int, y2 = e_w64 (x3 + (e_w64 ((e_w64 ((M 4480 ((e_w32 (x1 + x5)).toNat)) * (M 4481 (y1.toNat)))) - (e_w64 ((M 4480 (y1.toNat)) * (M 4481 ((e_w32 (x1 + x5)).toNat))))))) → (k5 x1 x2 y2 (e_w32 (x5 + 1))))))))))))
def VX12_areaOf (k5 : Int → Int → Int → Int → Prop) (Q : Int → Prop) (x1 : Int) (x2 : Int) (M : e_M) : Prop :=
  (k5 x1 x2 0 0)
def yX12_areaOf (i : Nat) : e_Y := x_get YX12_areaOf [] i
def pX12_areaOff : List x_I := [(0, 1, 1, 0, 0, 0, []), (1, 6, 1, 3, 0, 0, []), (2, 0, 1, 0, 0, 0, []), (3, 5, 2, 5, 0, 0, []), (5, 49, 0, 0, 0, 0, []), (5, 2, 2, 5, 0, 0, []), (7, 2, 1, 2, 0, 0, []), (8, 18, 69, 3, 51, 0, []), (11, 2, 1, 1, 0, 0, []), (12, 2, 2, 5, 0, 0, []), (14, 0, 1, 0, 0, 1, []), (15, 9, 0, 0, 0, 0, []), (16, 2, 1, 2, 0, 0, []), (17, 9, 0, 4, 0, 0, []), (18, 9, 0, 0, 0, 0, []), (19, 33, 0, 0, 0, 0, []), (19, 5, 2, 6, 0, 0, []), (21, 3, 1, 3, 0, 0, []), (22, 4, 1, 0, 0, 0, []), (23, 25, 12, 40, 4, 0, [(0, 20, 4800), (0, 1, 24)]), (26, 2, 1, 1, 0, 0, []), (27, 2, 2, 5, 0, 0, []), (29, 9, 0, 0, 0, 0, []), (30, 27, 0, 0, 0, 0, []), (31, 14, 0, 0, 0, 0, []), (32, 4, 1, 0, 0, 0, []), (33, 25, 12, 41, 4, 0, [(0, 20, 4800), (0, 1, 25)]), (36, 2, 2, 6, 0, 0, []), (38, 27, 0, 0, 0, 0, []), (39, 14, 0, 0, 0, 0, []), (40, 10, 0, 2, 0, 0, []), (41, 4, 1, 0, 0, 0, []), (42, 25, 12, 40, 4, 0, [(0, 20, 4800), (0, 1, 24)]), (45, 2, 2, 6, 0, 0, []), (47, 27, 0, 0, 0, 0, []), (48, 14, 0, 0, 0, 0, []), (49, 4, 1, 0, 0, 0, []), (50, 25, 12, 41, 4, 0, [(0, 20, 4800), (0, 1, 25)]), (53, 2, 1, 1, 0, 0, []), (54, 2, 2, 5, 0, 0, []), (56, 9, 0, 0, 0, 0, []), (57, 27, 0, 0, 0, 0, []), (58, 14, 0, 0, 0, 0, []), (59, 10, 0, 2, 0, 0, []), (60, 10, 0, 1, 0, 0, []), (61, 10, 0, 0, 0, 0, []), (62, 33, 0, 0, 0, 0, []), (62, 6, 1, 3, 0, 0, []), (63, 8, 0, 5, 0, 1, []), (66, 19, 5, 0, 5, 0, []), (69, 3, 1, 3, 0, 0, []), (70, 43, 0, 0, 0, 0, [])]
set_option maxRecDepth 20000 in
theorem qX12_areaOff : f_all yX12_areaOf YX12_areaOf pX12_areaOff :=
  ⟨f_lconst (n := 0) (e_dx DX12_areaOf_0 0 rfl) rfl,
  f_lstore_n (n := 3) (e_dx DX12_areaOf_0 1 rfl) rfl (by decide),
  f_iconst (e_dx DX12_areaOf_0 2 rfl) ⟨by decide, by decide⟩,
  f_istore (e_dx DX12_areaOf_0 3 rfl) (by decide),
  trivial,
  f_iload (e_dx DX12_areaOf_0 4 rfl),
  f_iload_n (n := 2) (e_dx DX12_areaOf_0 5 rfl) rfl,
  f_icmp_ge (e_dx DX12_areaOf_0 6 rfl) rfl,
  f_iload_n (n := 1) (e_dx DX12_areaOf_0 7 rfl) rfl,
  f_iload (e_dx DX12_areaOf_0 8 rfl),
  f_iconst (e_dx DX12_areaOf_0 9 rfl) ⟨by decide, by decide⟩,
  f_iadd (e_dx DX12_areaOf_0 10 rfl),
  f_iload_n (n := 2) (e_dx DX12_areaOf_0 11 rfl) rfl,
  f_irem (e_dx DX12_areaOf_0 12 rfl),
  f_iadd (e_dx DX12_areaOf_0 13 rfl),
  f_g33,
  f_istore (e_dx DX12_areaOf_0 14 rfl) (by decide),
  f_lload_n (n := 3) (e_dx DX12_areaOf_0 15 rfl) rfl,
  f_aload_n (n := 0) (e_dx DX12_areaOf_0 16 rfl) rfl,
  f_getA (e_dx DX12_areaOf_0 17 rfl) fX12_82 rfl (by decide) (Nat.le_of_ble_eq_true rfl) rfl (by decide),
  f_iload_n (n := 1) (e_dx DX12_areaOf_0 18 rfl) rfl,
  f_iload (e_dx DX12_areaOf_0 19 rfl),
  f_iadd (e_dx DX12_areaOf_0 20 rfl),
  f_iaload (e_dx DX12_areaOf_0 21 rfl),
  f_g14 (e_dx DX12_areaOf_0 22 rfl),
  f_aload_n (n := 0) (e_dx DX12_areaOf_0 23 rfl) rfl,
  f_getA (e_dx DX12_areaOf_0 24 rfl) fX12_85 rfl (by decide) (Nat.le_of_ble_eq_true rfl) rfl (by decide),
  f_iload (e_dx DX12_areaOf_0 25 rfl),
  f_iaload (e_dx DX12_areaOf_0 26 rfl),
  f_g14 (e_dx DX12_areaOf_0 27 rfl),
  f_lmul (e_dx DX12_areaOf_0 28 rfl),
  f_aload_n (n := 0) (e_dx DX12_areaOf_0 29 rfl) rfl,
  f_getA (e_dx DX12_areaOf_0 30 rfl) fX12_82 rfl (by decide) (Nat.le_of_ble_eq_true rfl) rfl (by decide),
  f_iload (e_dx DX12_areaOf_0 31 rfl),
  f_iaload (e_dx DX12_areaOf_0 32 rfl),
  f_g14 (e_dx DX12_areaOf_0 33 rfl),
  f_aload_n (n := 0) (e_dx DX12_areaOf_0 34 rfl) rfl,
  f_getA (e_dx DX12_areaOf_0 35 rfl) fX12_85 rfl (by decide) (Nat.le_of_ble_eq_true rfl) rfl (by decide),
  f_iload_n (n := 1) (e_dx DX12_areaOf_0 36 rfl) rfl,
  f_iload (e_dx DX12_areaOf_0 37 rfl),
  f_iadd (e_dx DX12_areaOf_0 38 rfl),
  f_iaload (e_dx DX12_areaOf_0 39 rfl),
  f_g14 (e_dx DX12_areaOf_1 0 rfl),
  f_lmul (e_dx DX12_areaOf_1 1 rfl),
  f_lsub (e_dx DX12_areaOf_1 2 rfl),
  f_ladd (e_dx DX12_areaOf_1 3 rfl),
  f_g33,
  f_lstore_n (n := 3) (e_dx DX12_areaOf_1 4 rfl) rfl (by decide),
  f_g8 (e_dx DX12_areaOf_1 5 rfl) ⟨by decide, by decide⟩,
  f_g19 (e_dx DX12_areaOf_1 6 rfl) rfl,
  f_lload_n (n := 3) (e_dx DX12_areaOf_1 7 rfl) rfl,
  ⟨(e_dx DX12_areaOf_1 8 rfl), rfl⟩, trivial⟩
def lX12_areaOf : List (Nat × f_Wt) := []
set_option maxRecDepth 20000 in
theorem BX12_areaOf_5 {sh : Nat → Nat × Nat} {t : Nat} {rm : Nat × Nat × Nat} {cs : Nat × Nat} {R : f_Rt} {k5 : Int → Int → Int → Int → Prop} {x1 : Int} {x2 : Int} {x3 : Int} {x5 : Int} {M : e_M} (C : f_Hy sh t yX12_areaOf rm cs 4 (lX12_areaOf) R) (h5 : ∀ (x1 : Int) (x2 : Int) (x3 : Int) (x5 : Int), k5 x1 x2 x3 x5 → f_E sh t YX12_areaOf rm cs (f_Q sh t R) 5 [.inr (.inr (.inl (12, 123, 4456))), .inl x1, .inl x2, .inr (.inl x3), .inr (.inr (.inr ())), .inl x5, .inr (.inr (.inr ()))] [] M) (h : VX12_areaOf_5 k5 (fun r => R (some (.inr (.inl r))) M) x1 x2 x3 x5 M) : f_E sh t YX12_areaOf rm cs (f_Q sh t R) 5 [.inr (.inr (.inl (12, 123, 4456))), .inl x1, .inl x2, .inr (.inl x3), .inr (.inr (.inr ())), .inl x5, .inr (.inr (.inr ()))] [] M := by
  rw [f_kk4 M k5] at h
  exact f_go (KC := f_kc [(5, f_pl [(4466, 12, 123), (1, 0, 0), (1, 0, 0), (2, 0, 0), (0, 0, 0), (1, 0, 0), (0, 0, 0)] [] (fun ls st M2 => M2 = M ∧ (k5 (f_vi (f_nth ls 1)) (f_vi (f_nth ls 2)) (f_vi (f_nth ls 3)) (f_vi (f_nth ls 5)))))]) C qX12_areaOff (f_kc_cons (f_pl_ok rfl (fun ls st M2 ⟨e, hh⟩ => by subst e; exact h5 _ _ _ _ hh)) f_kc_nil) 54 5 h
set_option maxRecDepth 20000 in
theorem BX12_areaOf {sh : Nat → Nat × Nat} {t : Nat} {rm : Nat × Nat × Nat} {cs : Nat × Nat} {R : f_Rt} {k5 : Int → Int → Int → Int → Prop} {x1 : Int} {x2 : Int} {M : e_M} (C : f_Hy sh t yX12_areaOf rm cs 4 (lX12_areaOf) R) (h5 : ∀ (x1 : Int) (x2 : Int) (x3 : Int) (x5 : Int), k5 x1 x2 x3 x5 → f_E sh t YX12_areaOf rm cs (f_Q sh t R) 5 [.inr (.inr (.inl (12, 123, 4456))), .inl x1, .inl x2, .inr (.inl x3), .inr (.inr (.inr ())), .inl x5, .inr (.inr (.inr ()))] [] M) (h : VX12_areaOf k5 (fun r => R (some (.inr (.inl r))) M) x1 x2 M) : f_E sh t YX12_areaOf rm cs (f_Q sh t R) 0 [.inr (.inr (.inl (12, 123, 4456))), .inl x1, .inl x2, .inr (.inr (.inr ())), .inr (.inr (.inr ())), .inr (.inr (.inr ())), .inr (.inr (.inr ()))] [] M := by
  rw [f_kk4 M k5] at h
  exact f_go (KC := f_kc [(5, f_pl [(4466, 12, 123), (1, 0, 0), (1, 0, 0), (2, 0, 0), (0, 0, 0), (1, 0, 0), (0, 0, 0)] [] (fun ls st M2 => M2 = M ∧ (k5 (f_vi (f_nth ls 1)) (f_vi (f_nth ls 2)) (f_vi (f_nth ls 3)) (f_vi (f_nth ls 5)))))]) C qX12_areaOff (f_kc_cons (f_pl_ok rfl (fun ls st M2 ⟨e, hh⟩ => by subst e; exact h5 _ _ _ _ hh)) f_kc_nil) 54 0 h
def WX12_areaOf_5 (M : e_M) (Q : Int → Prop) : Nat → Int → Int → Int → Int → Prop
  | 0, _, _, _, _ => False
  | n + 1, x1, x2, x3, x5 =>
    VX12_areaOf_5 (WX12_areaOf_5 M Q n) Q x1 x2 x3 x5 M
def WX12_areaOf (x1 : Int) (x2 : Int) (M : e_M) (Q : Int → Prop) : Prop :=
  VX12_areaOf (fun x1 x2 x3 x5 => ∃ j, WX12_areaOf_5 M Q j x1 x2 x3 x5) Q x1 x2 M
theorem PX12_areaOf_5 {sh : Nat → Nat × Nat} {t : Nat} {rm : Nat × Nat × Nat} {cs : Nat × Nat} {R : f_Rt} {M : e_M} (C : f_Hy sh t yX12_areaOf rm cs 4 (lX12_areaOf) R) : ∀ (n : Nat) (x1 : Int) (x2 : Int) (x3 : Int) (x5 : Int), WX12_areaOf_5 M (fun r => R (some (.inr (.inl r))) M) n x1 x2 x3 x5 → f_E sh t YX12_areaOf rm cs (f_Q sh t R) 5 [.inr (.inr (.inl (12, 123, 4456))), .inl x1, .inl x2, .inr (.inl x3), .inr (.inr (.inr ())), .inl x5, .inr (.inr (.inr ()))] [] M := by
  intro n
  induction n with
  | zero => intro x1 x2 x3 x5 h; exact h.elim
  | succ n ih => intro x1 x2 x3 x5 h; exact BX12_areaOf_5 C ih h
theorem PX12_areaOf {sh : Nat → Nat × Nat} {t : Nat} {rm : Nat × Nat × Nat} {cs : Nat × Nat} {R : f_Rt} {x1 : Int} {x2 : Int} {M : e_M} (C : f_Hy sh t yX12_areaOf rm cs 4 (lX12_areaOf) R) (h : WX12_areaOf x1 x2 M (fun r => R (some (.inr (.inl r))) M)) : f_E sh t YX12_areaOf rm cs (f_Q sh t R) 0 [.inr (.inr (.inl (12, 123, 4456))), .inl x1, .inl x2, .inr (.inr (.inr ())), .inr (.inr (.inr ())), .inr (.inr (.inr ())), .inr (.inr (.inr ()))] [] M :=
  BX12_areaOf C (fun x1 x2 x3 x5 ⟨j, h⟩ => PX12_areaOf_5 C j _ _ _ _ h) h
def wX12_areaOf : f_Wt := f_wm [(4466, 12, 123), (1, 0, 0), (1, 0, 0)] (fun ar M R => WX12_areaOf (f_vi (f_nth ar 1)) (f_vi (f_nth ar 2)) M (fun r => R (some (.inr (.inl r))) M))
theorem TX12_areaOf {sh : Nat → Nat × Nat} {t : Nat} : f_Mt sh t YX12_areaOf 4 (wX12_areaOf) :=
  f_Mt_of (k := 4) (Nat.le_of_ble_eq_true rfl) rfl rfl (fun ar M R rm cs h1 h2 h3 hX h => PX12_areaOf ⟨Nat.le_of_ble_eq_true rfl, h1, h2, h3, trivial, hX⟩ h)
def VX12_tidy_5 (c_X12_turn : Int → Int → Int → Int → Int → Int → e_M → (Int → Prop) → Prop) (k191 : Int → Int → Int → Int → e_M → Prop) (k16 : Int → Int → Int → Int → e_M → Prop) (Q : Int → e_M → Prop) (x1 : Int) (x3 : Int) (x4 : Int) (M : e_M) : Prop :=
  ((x4 = 0 → (k191 x1 x3 0 1 M)) ∧ (¬ x4 = 0 → (k16 x1 x3 0 0 M)))
def VX12_tidy_16 (c_X12_turn : Int → Int → Int → Int → Int → Int → e_M → (Int → Prop) → Prop) (k182 : Int → Int → Int → e_M → Prop) (k116 : Int → Int → Int → Int → e_M → Prop) (k176 : Int → Int → Int → Int → e_M → Prop) (Q : Int → e_M → Prop) (x1 : Int) (x3 : Int) (x4 : Int) (x5 : Int) (M : e_M) : Prop :=
  ((x3 ≤ x5 → (k182 x1 x3 x4 M)) ∧ (x5 < x3 → ((x3 ≤ 2 → (k182 x1 x3 x4 M)) ∧ (2 < x3 → (¬ x3 = 0 ∧ (∀ y1 : Int, y1 = e_w32 (x1 + ((e_w32 ((e_w32 (x5 + x3)) - 1)).tmod x3)) → (¬ x3 = 0 ∧ (∀ y2 : Int, y2 = e_w32 (x1 + ((e_w32 (x5 + 1)).tmod x3)) → ((0 ≤ y1 ∧ y1 < 4800) ∧ ((0 ≤ y1 ∧ y1 < 4800) ∧ ((0 ≤ (e_w32 (x1 + x5)) ∧ (e_w32 (x1 + x5)) < 4800) ∧ ((0 ≤ (e_w32 (x1 + x5)) ∧ (e_w32 (x1 + x5)) < 4800) ∧ ((0 ≤ y2 ∧ y2 < 4800) ∧ ((0 ≤ y2 ∧ y2 < 4800) ∧ (c_X12_turn (M 4480 (y1.toNat)) (M 4481 (y1.toNat)) (M 4480 ((e_w32 (x1 + x5)).toNat)) (M 4481 ((e_w32 (x1 + x5)).toNat)) (M 4480 (y2.toNat)) (M 4481 (y2.toNat)) M (fun r3 => ((r3 = 0 → (k116 x1 x3 x5 x5 M)) ∧ (¬ r3 = 0 → (k176 x1 x3 x4 x5 M)))))))))))))))))))
def VX12_tidy_116 (c_X12_turn : Int → Int → Int → Int → Int → Int → e_M → (Int → Prop) → Prop) (k176 : Int → Int → Int → Int → e_M → Prop) (k116 : Int → Int → Int → Int → e_M → Prop) (Q : Int → e_M → Prop) (x1 : Int) (x3 : Int) (x5 : Int) (x8 : Int) (M : e_M) : Prop :=
  (((e_w32 (x3 - 1)) ≤ x8 → (k176 x1 (e_w32 (x3 + (-1))) 1 x5 M)) ∧ (x8 < (e_w32 (x3 - 1)) → ((0 ≤ (e_w32 ((e_w32 (x1 + x8)) + 1)) ∧ (e_w32 ((e_w32 (x1 + x8)) + 1)) < 4800) ∧ ((0 ≤ (e_w32 (x1 + x8)) ∧ (e_w32 (x1 + x8)) < 4800) ∧ (∀ M1 : e_M, M1 = e_up M 4480 ((e_w32 (x1 + x8)).toNat) (M 4480 ((e_w32 ((e_w32 (x1 + x8)) + 1)).toNat)) → ((0 ≤ (e_w32 ((e_w32 (x1 + x8)) + 1)) ∧ (e_w32 ((e_w32 (x1 + x8)) + 1)) < 4800) ∧ ((0 ≤ (e_w32 (x1 + x8)) ∧ (e_w32 (x1 + x8)) < 4800) ∧ (∀ M2 : e_M, M2 = e_up M1 4481 ((e_w32 (x1 + x8)).toNat) (M1 4481 ((e_w32 ((e_w32 (x1 + x8)) + 1)).toNat)) → (k116 x1 x3 x5 (e_w32 (x8 + 1)) M2)))))))))
def VX12_tidy_176 (c_X12_turn : Int → Int → Int → Int → Int → Int → e_M → (Int → Prop) → Prop) (k16 : Int → Int → Int → Int → e_M → Prop) (Q : Int → e_M → Prop) (x1 : Int) (x3 : Int) (x4 : Int) (x5 : Int) (M : e_M) : Prop :=
  (k16 x1 x3 x4 (e_w32 (x5 + 1)) M)
def VX12_tidy_182 (c_X12_turn : Int → Int → Int → Int → Int → Int → e_M → (Int → Prop) → Prop) (k5 : Int → Int → Int → e_M → Prop) (Q : Int → e_M → Prop) (x1 : Int) (x3 : Int) (x4 : Int) (M : e_M) : Prop :=
  (k5 x1 x3 x4 M)
def VX12_tidy_191 (c_X12_turn : Int → Int → Int → Int → Int → Int → e_M → (Int → Prop) → Prop) (k273 : Int → Int → Int → Int → e_M → Prop) (k260 : Int → Int → Int → e_M → Prop) (k264 : Int → Int → Int → Int → e_M → Prop) (Q : Int → e_M → Prop) (x1 : Int) (x3 : Int) (x5 : Int) (x6 : Int) (M : e_M) : Prop :=
  ((x3 ≤ x6 → (k273 x1 x3 x5 0 M)) ∧ (x6 < x3 → ((0 ≤ (e_w32 (x1 + x6)) ∧ (e_w32 (x1 + x6)) < 4800) ∧ ((0 ≤ (e_w32 (x1 + x5)) ∧ (e_w32 (x1 + x5)) < 4800) ∧ (((M 4481 ((e_w32 (x1 + x6)).toNat)) < (M 4481 ((e_w32 (x1 + x5)).toNat)) → (k260 x1 x3 x6 M)) ∧ ((M 4481 ((e_w32 (x1 + x5)).toNat)) ≤ (M 4481 ((e_w32 (x1 + x6)).toNat)) → ((0 ≤ (e_w32 (x1 + x6)) ∧ (e_w32 (x1 + x6)) < 4800) ∧ ((0 ≤ (e_w32 (x1 + x5)) ∧ (e_w32 (x1 + x5)) < 4800) ∧ ((¬ (M 4481 ((e_w32 (x1 + x6)).toNat)) = (M 4481 ((e_w32 (x1 + x5)).toNat)) → (k264 x1 x3 x5 x6 M)) ∧ ((M 4481 ((e_w32 (x1 + x6)).toNat)) = (M 4481 ((e_w32 (x1 + x5)).toNat)) → ((0 ≤ (e_w32 (x1 + x6)) ∧ (e_w32 (x1 + x6)) < 4800) ∧ ((0 ≤ (e_w32 (x1 + x5)) ∧ (e_w32 (x1 + x5)) < 4800) ∧ (((M 4480 ((e_w32 (x1 + x5)).toNat)) ≤ (M 4480 ((e_w32 (x1 + x6)).toNat)) → (k264 x1 x3 x5 x6 M)) ∧ ((M 4480 ((e_w32 (x1 + x6)).toNat)) < (M 4480 ((e_w32 (x1 + x5)).toNat)) → (k260 x1 x3 x6 M)))))))))))))))
def VX12_tidy_260 (c_X12_turn : Int → Int → Int → Int → Int → Int → e_M → (Int → Prop) → Prop) (k264 : Int → Int → Int → Int → e_M → Prop) (Q : Int → e_M → Prop) (x1 : Int) (x3 : Int) (x6 : Int) (M : e_M) : Prop :=
  (k264 x1 x3 x6 x6 M)
def VX12_tidy_264 (c_X12_turn : Int → Int → Int → Int → Int → Int → e_M → (Int → Prop) → Prop) (k191 : Int → Int → Int → Int → e_M → Prop) (Q : Int → e_M → Prop) (x1 : Int) (x3 : Int) (x5 : Int) (x6 : Int) (M : e_M) : Prop :=
  (k191 x1 x3 x5 (e_w32 (x6 + 1)) M)
def VX12_tidy_273 (c_X12_turn : Int → Int → Int → Int → Int → Int → e_M → (Int → Prop) → Prop) (k299 : Int → Int → Int → Int → Int → Int → Int → e_M → Prop) (Q : Int → e_M → Prop) (x1 : Int) (x3 : Int) (x5 : Int) (x6 : Int) (M : e_M) : Prop :=
  ((x5 ≤ x6 → (Q x3 M)) ∧ (x6 < x5 → ((0 ≤ x1 ∧ x1 < 4800) ∧ ((0 ≤ x1 ∧ x1 < 4800) ∧ (k299 x1 x3 x5 x6 (M 4480 (x1.toNat)) (M 4481 (x1.toNat)) 0 M)))))
def VX12_tidy_299 (c_X12_turn : Int → Int → Int → Int → Int → Int → e_M → (Int → Prop) → Prop) (k273 : Int → Int → Int → Int → e_M → Prop) (k299 : Int → Int → Int → Int → Int → Int → Int → e_M → Prop) (Q : Int → e_M → Prop) (x1 : Int) (x3 : Int) (x5 : Int) (x6 : Int) (x7 : Int) (x8 : Int) (x9 : Int) (M : e_M) : Prop :=
  (((e_w32 (x3 - 1)) ≤ x9 → ((0 ≤ (e_w32 ((e_w32 (x1 + x3)) - 1)) ∧ (e_w32 ((e_w32 (x1 + x3)) - 1)) < 4800) ∧ (∀ M1 : e_M, M1 = e_up M 4480 ((e_w32 ((e_w32 (x1 + x3)) - 1)).toNat) x7 → ((0 ≤ (e_w32 ((e_w32 (x1 + x3)) - 1)) ∧ (e_w32 ((e_w32 (x1 + x3)) - 1)) < 4800) ∧ (∀ M2 : e_M, M2 = e_up M1 4481 ((e_w32 ((e_w32 (x1 + x3)) - 1)).toNat) x8 → (k273 x1 x3 x5 (e_w32 (x6 + 1)) M2)))))) ∧ (x9 < (e_w32 (x3 - 1)) → ((0 ≤ (e_w32 ((e_w32 (x1 + x9)) + 1)) ∧ (e_w32 ((e_w32 (x1 + x9)) + 1)) < 4800) ∧ ((0 ≤ (e_w32 (x1 + x9)) ∧ (e_w32 (x1 + x9)) < 4800) ∧ (∀ M3 : e_M, M3 = e_up M 4480 ((e_w32 (x1 + x9)).toNat) (M 4480 ((e_w32 ((e_w32 (x1 + x9)) + 1)).toNat)) → ((0 ≤ (e_w32 ((e_w32 (x1 + x9)) + 1)) ∧ (e_w32 ((e_w32 (x1 + x9)) + 1)) < 4800) ∧ ((0 ≤ (e_w32 (x1 + x9)) ∧ (e_w32 (x1 + x9)) < 4800) ∧ (∀ M4 : e_M, M4 = e_up M3 4481 ((e_w32 (x1 + x9)).toNat) (M3 4481 ((e_w32 ((e_w32 (x1 + x9)) + 1)).toNat)) → (k299 x1 x3 x5 x6 x7 x8 (e_w32 (x9 + 1)) M4)))))))))
def VX12_tidy (c_X12_turn : Int → Int → Int → Int → Int → Int → e_M → (Int → Prop) → Prop) (k5 : Int → Int → Int → e_M → Prop) (Q : Int → e_M → Prop) (x1 : Int) (x2 : Int) (M : e_M) : Prop :=
  (k5 x1 x2 1 M)
def yX12_tidy (i : Nat) : e_Y := x_get YX12_tidy [YX12_turn] i
def pX12_tidyf : List x_I := [(0, 2, 1, 2, 0, 0, []), (1, 5, 1, 3, 0, 0, []), (2, 0, 1, 0, 0, 1, []), (3, 5, 2, 4, 0, 0, []), (5, 49, 0, 0, 0, 0, []), (5, 2, 2, 4, 0, 0, []), (7, 17, 185, 0, 123, 0, []), (10, 0, 1, 0, 0, 0, []), (11, 5, 2, 4, 0, 0, []), (13, 0, 1, 0, 0, 0, []), (14, 5, 2, 5, 0, 0, []), (16, 49, 0, 0, 0, 0, []), (16, 2, 2, 5, 0, 0, []), (18, 2, 1, 3, 0, 0, []), (19, 18, 182, 3, 121, 0, []), (22, 2, 1, 3, 0, 0, []), (23, 0, 1, 0, 0, 2, []), (24, 18, 182, 5, 121, 0, []), (27, 2, 1, 1, 0, 0, []), (28, 2, 2, 5, 0, 0, []), (30, 2, 1, 3, 0, 0, []), (31, 9, 0, 0, 0, 0, []), (32, 0, 1, 0, 0, 1, []), (33, 9, 0, 1, 0, 0, []), (34, 2, 1, 3, 0, 0, []), (35, 9, 0, 4, 0, 0, []), (36, 9, 0, 0, 0, 0, []), (37, 33, 0, 0, 0, 0, []), (37, 5, 2, 6, 0, 0, []), (39, 2, 1, 1, 0, 0, []), (40, 2, 2, 5, 0, 0, []), (42, 0, 1, 0, 0, 1, []), (43, 9, 0, 0, 0, 0, []), (44, 2, 1, 3, 0, 0, []), (45, 9, 0, 4, 0, 0, []), (46, 9, 0, 0, 0, 0, []), (47, 33, 0, 0, 0, 0, []), (47, 5, 2, 7, 0, 0, []), (49, 4, 1, 0, 0, 0, []), (50, 25, 12, 40, 4, 0, [(0, 20, 4800), (0, 1, 24)]), (53, 2, 2, 6, 0, 0, []), (55, 27, 0, 0, 0, 0, []), (56, 14, 0, 0, 0, 0, []), (57, 4, 1, 0, 0, 0, []), (58, 25, 12, 41, 4, 0, [(0, 20, 4800), (0, 1, 25)]), (61, 2, 2, 6, 0, 0, []), (63, 27, 0, 0, 0, 0, []), (64, 14, 0, 0, 0, 0, []), (65, 4, 1, 0, 0, 0, []), (66, 25, 12, 40, 4, 0, [(0, 20, 4800), (0, 1, 24)]), (69, 2, 1, 1, 0, 0, []), (70, 2, 2, 5, 0, 0, []), (72, 9, 0, 0, 0, 0, []), (73, 27, 0, 0, 0, 0, []), (74, 14, 0, 0, 0, 0, []), (75, 4, 1, 0, 0, 0, []), (76, 25, 12, 41, 4, 0, [(0, 20, 4800), (0, 1, 25)]), (79, 2, 1, 1, 0, 0, []), (80, 2, 2, 5, 0, 0, []), (82, 9, 0, 0, 0, 0, []), (83, 27, 0, 0, 0, 0, []), (84, 14, 0, 0, 0, 0, []), (85, 4, 1, 0, 0, 0, []), (86, 25, 12, 40, 4, 0, [(0, 20, 4800), (0, 1, 24)]), (89, 2, 2, 7, 0, 0, []), (91, 27, 0, 0, 0, 0, []), (92, 14, 0, 0, 0, 0, []), (93, 4, 1, 0, 0, 0, []), (94, 25, 12, 41, 4, 0, [(0, 20, 4800), (0, 1, 25)]), (97, 2, 2, 7, 0, 0, []), (99, 27, 0, 0, 0, 0, []), (100, 14, 0, 0, 0, 0, []), (101, 40, 0, 6, 0, 0, []), (104, 1, 1, 0, 0, 0, []), (105, 32, 112, 0, 77, 0, []), (109, 19, 176, 0, 118, 0, []), (112, 2, 2, 5, 0, 0, []), (114, 5, 2, 8, 0, 0, []), (116, 49, 0, 0, 0, 0, []), (116, 2, 2, 8, 0, 0, []), (118, 2, 1, 3, 0, 0, []), (119, 0, 1, 0, 0, 1, []), (120, 9, 0, 1, 0, 0, []), (121, 18, 170, 3, 115, 0, []), (124, 4, 1, 0, 0, 0, []), (125, 25, 12, 40, 4, 0, [(0, 20, 4800), (0, 1, 24)]), (128, 2, 1, 1, 0, 0, []), (129, 2, 2, 8, 0, 0, []), (131, 9, 0, 0, 0, 0, []), (132, 4, 1, 0, 0, 0, []), (133, 25, 12, 40, 4, 0, [(0, 20, 4800), (0, 1, 24)]), (136, 2, 1, 1, 0, 0, []), (137, 2, 2, 8, 0, 0, []), (139, 9, 0, 0, 0, 0, []), (140, 0, 1, 0, 0, 1, []), (141, 9, 0, 0, 0, 0, []), (142, 27, 0, 0, 0, 0, []), (143, 28, 0, 0, 0, 0, []), (144, 4, 1, 0, 0, 0, []), (145, 25, 12, 41, 4, 0, [(0, 20, 4800), (0, 1, 25)]), (148, 2, 1, 1, 0, 0, []), (149, 2, 2, 8, 0, 0, []), (151, 9, 0, 0, 0, 0, []), (152, 4, 1, 0, 0, 0, []), (153, 25, 12, 41, 4, 0, [(0, 20, 4800), (0, 1, 25)]), (156, 2, 1, 1, 0, 0, []), (157, 2, 2, 8, 0, 0, []), (159, 9, 0, 0, 0, 0, []), (160, 0, 1, 0, 0, 1, []), (161, 9, 0, 0, 0, 0, []), (162, 27, 0, 0, 0, 0, []), (163, 28, 0, 0, 0, 0, []), (164, 8, 0, 8, 0, 1, []), (167, 19, 116, 0, 79, 0, []), (170, 8, 0, 3, 0, (-1), []), (173, 0, 1, 0, 0, 1, []), (174, 5, 2, 4, 0, 0, []), (176, 49, 0, 0, 0, 0, []), (176, 8, 0, 5, 0, 1, []), (179, 19, 16, 0, 12, 0, []), (182, 49, 0, 0, 0, 0, []), (182, 19, 5, 0, 5, 0, []), (185, 0, 1, 0, 0, 0, []), (186, 5, 2, 5, 0, 0, []), (188, 0, 1, 0, 0, 1, []), (189, 5, 2, 6, 0, 0, []), (191, 49, 0, 0, 0, 0, []), (191, 2, 2, 6, 0, 0, []), (193, 2, 1, 3, 0, 0, []), (194, 18, 270, 3, 176, 0, []), (197, 4, 1, 0, 0, 0, []), (198, 25, 12, 41, 4, 0, [(0, 20, 4800), (0, 1, 25)]), (201, 2, 1, 1, 0, 0, []), (202, 2, 2, 6, 0, 0, []), (204, 9, 0, 0, 0, 0, []), (205, 27, 0, 0, 0, 0, []), (206, 4, 1, 0, 0, 0, []), (207, 25, 12, 41, 4, 0, [(0, 20, 4800), (0, 1, 25)]), (210, 2, 1, 1, 0, 0, []), (211, 2, 2, 5, 0, 0, []), (213, 9, 0, 0, 0, 0, []), (214, 27, 0, 0, 0, 0, []), (215, 18, 260, 2, 170, 0, []), (218, 4, 1, 0, 0, 0, []), (219, 25, 12, 41, 4, 0, [(0, 20, 4800), (0, 1, 25)]), (222, 2, 1, 1, 0, 0, []), (223, 2, 2, 6, 0, 0, []), (225, 9, 0, 0, 0, 0, []), (226, 27, 0, 0, 0, 0, []), (227, 4, 1, 0, 0, 0, []), (228, 25, 12, 41, 4, 0, [(0, 20, 4800), (0, 1, 25)]), (231, 2, 1, 1, 0, 0, []), (232, 2, 2, 5, 0, 0, []), (234, 9, 0, 0, 0, 0, []), (235, 27, 0, 0, 0, 0, []), (236, 18, 264, 1, 173, 0, []), (239, 4, 1, 0, 0, 0, []), (240, 25, 12, 40, 4, 0, [(0, 20, 4800), (0, 1, 24)]), (243, 2, 1, 1, 0, 0, []), (244, 2, 2, 6, 0, 0, []), (246, 9, 0, 0, 0, 0, []), (247, 27, 0, 0, 0, 0, []), (248, 4, 1, 0, 0, 0, []), (249, 25, 12, 40, 4, 0, [(0, 20, 4800), (0, 1, 24)]), (252, 2, 1, 1, 0, 0, []), (253, 2, 2, 5, 0, 0, []), (255, 9, 0, 0, 0, 0, []), (256, 27, 0, 0, 0, 0, []), (257, 18, 264, 3, 173, 0, []), (260, 49, 0, 0, 0, 0, []), (260, 2, 2, 6, 0, 0, []), (262, 5, 2, 5, 0, 0, []), (264, 49, 0, 0, 0, 0, []), (264, 8, 0, 6, 0, 1, []), (267, 19, 191, 0, 127, 0, []), (270, 0, 1, 0, 0, 0, []), (271, 5, 2, 6, 0, 0, []), (273, 49, 0, 0, 0, 0, []), (273, 2, 2, 6, 0, 0, []), (275, 2, 2, 5, 0, 0, []), (277, 18, 383, 3, 250, 0, []), (280, 4, 1, 0, 0, 0, []), (281, 25, 12, 40, 4, 0, [(0, 20, 4800), (0, 1, 24)]), (284, 2, 1, 1, 0, 0, []), (285, 27, 0, 0, 0, 0, []), (286, 5, 2, 7, 0, 0, []), (288, 4, 1, 0, 0, 0, []), (289, 25, 12, 41, 4, 0, [(0, 20, 4800), (0, 1, 25)]), (292, 2, 1, 1, 0, 0, []), (293, 27, 0, 0, 0, 0, []), (294, 5, 2, 8, 0, 0, []), (296, 0, 1, 0, 0, 0, []), (297, 5, 2, 9, 0, 0, []), (299, 49, 0, 0, 0, 0, []), (299, 2, 2, 9, 0, 0, []), (301, 2, 1, 3, 0, 0, []), (302, 0, 1, 0, 0, 1, []), (303, 9, 0, 1, 0, 0, []), (304, 18, 353, 3, 230, 0, []), (307, 4, 1, 0, 0, 0, []), (308, 25, 12, 40, 4, 0, [(0, 20, 4800), (0, 1, 24)]), (311, 2, 1, 1, 0, 0, []), (312, 2, 2, 9, 0, 0, []), (314, 9, 0, 0, 0, 0, []), (315, 4, 1, 0, 0, 0, []), (316, 25, 12, 40, 4, 0, [(0, 20, 4800), (0, 1, 24)]), (319, 2, 1, 1, 0, 0, []), (320, 2, 2, 9, 0, 0, []), (322, 9, 0, 0, 0, 0, []), (323, 0, 1, 0, 0, 1, []), (324, 9, 0, 0, 0, 0, []), (325, 27, 0, 0, 0, 0, []), (326, 28, 0, 0, 0, 0, []), (327, 4, 1, 0, 0, 0, []), (328, 25, 12, 41, 4, 0, [(0, 20, 4800), (0, 1, 25)]), (331, 2, 1, 1, 0, 0, []), (332, 2, 2, 9, 0, 0, []), (334, 9, 0, 0, 0, 0, []), (335, 4, 1, 0, 0, 0, []), (336, 25, 12, 41, 4, 0, [(0, 20, 4800), (0, 1, 25)]), (339, 2, 1, 1, 0, 0, []), (340, 2, 2, 9, 0, 0, []), (342, 9, 0, 0, 0, 0, []), (343, 0, 1, 0, 0, 1, []), (344, 9, 0, 0, 0, 0, []), (345, 27, 0, 0, 0, 0, []), (346, 28, 0, 0, 0, 0, []), (347, 8, 0, 9, 0, 1, []), (350, 19, 299, 0, 194, 0, []), (353, 4, 1, 0, 0, 0, []), (354, 25, 12, 40, 4, 0, [(0, 20, 4800), (0, 1, 24)]), (357, 2, 1, 1, 0, 0, []), (358, 2, 1, 3, 0, 0, []), (359, 9, 0, 0, 0, 0, []), (360, 0, 1, 0, 0, 1, []), (361, 9, 0, 1, 0, 0, []), (362, 2, 2, 7, 0, 0, []), (364, 28, 0, 0, 0, 0, []), (365, 4, 1, 0, 0, 0, []), (366, 25, 12, 41, 4, 0, [(0, 20, 4800), (0, 1, 25)]), (369, 2, 1, 1, 0, 0, []), (370, 2, 1, 3, 0, 0, []), (371, 9, 0, 0, 0, 0, []), (372, 0, 1, 0, 0, 1, []), (373, 9, 0, 1, 0, 0, []), (374, 2, 2, 8, 0, 0, []), (376, 28, 0, 0, 0, 0, []), (377, 8, 0, 6, 0, 1, []), (380, 19, 273, 0, 178, 0, []), (383, 2, 1, 3, 0, 0, []), (384, 41, 0, 0, 0, 0, [])]
set_option maxRecDepth 20000 in
theorem qX12_tidyf : f_all yX12_tidy YX12_tidy pX12_tidyf :=
  ⟨f_iload_n (n := 2) (e_dx DX12_tidy_0 0 rfl) rfl,
  f_istore_n (n := 3) (e_dx DX12_tidy_0 1 rfl) rfl (by decide),
  f_iconst (e_dx DX12_tidy_0 2 rfl) ⟨by decide, by decide⟩,
  f_istore (e_dx DX12_tidy_0 3 rfl) (by decide),
  trivial,
  f_iload (e_dx DX12_tidy_0 4 rfl),
  f_if_eq (e_dx DX12_tidy_0 5 rfl) rfl,
  f_iconst (e_dx DX12_tidy_0 6 rfl) ⟨by decide, by decide⟩,
  f_istore (e_dx DX12_tidy_0 7 rfl) (by decide),
  f_iconst (e_dx DX12_tidy_0 8 rfl) ⟨by decide, by decide⟩,
  f_istore (e_dx DX12_tidy_0 9 rfl) (by decide),
  trivial,
  f_iload (e_dx DX12_tidy_0 10 rfl),
  f_iload_n (n := 3) (e_dx DX12_tidy_0 11 rfl) rfl,
  f_icmp_ge (e_dx DX12_tidy_0 12 rfl) rfl,
  f_iload_n (n := 3) (e_dx DX12_tidy_0 13 rfl) rfl,
  f_iconst (e_dx DX12_tidy_0 14 rfl) ⟨by decide, by decide⟩,
  f_icmp_le (e_dx DX12_tidy_0 15 rfl) rfl,
  f_iload_n (n := 1) (e_dx DX12_tidy_0 16 rfl) rfl,
  f_iload (e_dx DX12_tidy_0 17 rfl),
  f_iload_n (n := 3) (e_dx DX12_tidy_0 18 rfl) rfl,
  f_iadd (e_dx DX12_tidy_0 19 rfl),
  f_iconst (e_dx DX12_tidy_0 20 rfl) ⟨by decide, by decide⟩,
  f_isub (e_dx DX12_tidy_0 21 rfl),
  f_iload_n (n := 3) (e_dx DX12_tidy_0 22 rfl) rfl,
  f_irem (e_dx DX12_tidy_0 23 rfl),
  f_iadd (e_dx DX12_tidy_0 24 rfl),
  f_g33,
  f_istore (e_dx DX12_tidy_0 25 rfl) (by decide),
  f_iload_n (n := 1) (e_dx DX12_tidy_0 26 rfl) rfl,
  f_iload (e_dx DX12_tidy_0 27 rfl),
  f_iconst (e_dx DX12_tidy_0 28 rfl) ⟨by decide, by decide⟩,
  f_iadd (e_dx DX12_tidy_0 29 rfl),
  f_iload_n (n := 3) (e_dx DX12_tidy_0 30 rfl) rfl,
  f_irem (e_dx DX12_tidy_0 31 rfl),
  f_iadd (e_dx DX12_tidy_0 32 rfl),
  f_g33,
  f_istore (e_dx DX12_tidy_0 33 rfl) (by decide),
  f_aload_n (n := 0) (e_dx DX12_tidy_0 34 rfl) rfl,
  f_getA (e_dx DX12_tidy_0 35 rfl) fX12_82 rfl (by decide) (Nat.le_of_ble_eq_true rfl) rfl (by decide),
  f_iload (e_dx DX12_tidy_0 36 rfl),
  f_iaload (e_dx DX12_tidy_0 37 rfl),
  f_g14 (e_dx DX12_tidy_0 38 rfl),
  f_aload_n (n := 0) (e_dx DX12_tidy_0 39 rfl) rfl,
  f_getA (e_dx DX12_tidy_1 0 rfl) fX12_85 rfl (by decide) (Nat.le_of_ble_eq_true rfl) rfl (by decide),
  f_iload (e_dx DX12_tidy_1 1 rfl),
  f_iaload (e_dx DX12_tidy_1 2 rfl),
  f_g14 (e_dx DX12_tidy_1 3 rfl),
  f_aload_n (n := 0) (e_dx DX12_tidy_1 4 rfl) rfl,
  f_getA (e_dx DX12_tidy_1 5 rfl) fX12_82 rfl (by decide) (Nat.le_of_ble_eq_true rfl) rfl (by decide),
  f_iload_n (n := 1) (e_dx DX12_tidy_1 6 rfl) rfl,
  f_iload (e_dx DX12_tidy_1 7 rfl),
  f_iadd (e_dx DX12_tidy_1 8 rfl),
  f_iaload (e_dx DX12_tidy_1 9 rfl),
  f_g14 (e_dx DX12_tidy_1 10 rfl),
  f_aload_n (n := 0) (e_dx DX12_tidy_1 11 rfl) rfl,
  f_getA (e_dx DX12_tidy_1 12 rfl) fX12_85 rfl (by decide) (Nat.le_of_ble_eq_true rfl) rfl (by decide),
  f_iload_n (n := 1) (e_dx DX12_tidy_1 13 rfl) rfl,
  f_iload (e_dx DX12_tidy_1 14 rfl),
  f_iadd (e_dx DX12_tidy_1 15 rfl),
  f_iaload (e_dx DX12_tidy_1 16 rfl),
  f_g14 (e_dx DX12_tidy_1 17 rfl),
  f_aload_n (n := 0) (e_dx DX12_tidy_1 18 rfl) rfl,
  f_getA (e_dx DX12_tidy_1 19 rfl) fX12_82 rfl (by decide) (Nat.le_of_ble_eq_true rfl) rfl (by decide),
  f_iload (e_dx DX12_tidy_1 20 rfl),
  f_iaload (e_dx DX12_tidy_1 21 rfl),
  f_g14 (e_dx DX12_tidy_1 22 rfl),
  f_aload_n (n := 0) (e_dx DX12_tidy_1 23 rfl) rfl,
  f_getA (e_dx DX12_tidy_1 24 rfl) fX12_85 rfl (by decide) (Nat.le_of_ble_eq_true rfl) rfl (by decide),
  f_iload (e_dx DX12_tidy_1 25 rfl),
  f_iaload (e_dx DX12_tidy_1 26 rfl),
  f_g14 (e_dx DX12_tidy_1 27 rfl),
  x_callS (e_dx DX12_tidy_1 28 rfl) mwX12_turn cX12_427 swX12_turn rfl,
  f_lconst (n := 0) (e_dx DX12_tidy_1 29 rfl) rfl,
  f_lif_eq (e_dx DX12_tidy_1 30 rfl) (e_dx DX12_tidy_1 31 rfl) rfl,
  f_g19 (e_dx DX12_tidy_1 32 rfl) rfl,
  f_iload (e_dx DX12_tidy_1 33 rfl),
  f_istore (e_dx DX12_tidy_1 34 rfl) (by decide),
  trivial,
  f_iload (e_dx DX12_tidy_1 35 rfl),
  f_iload_n (n := 3) (e_dx DX12_tidy_1 36 rfl) rfl,
  f_iconst (e_dx DX12_tidy_1 37 rfl) ⟨by decide, by decide⟩,
  f_isub (e_dx DX12_tidy_1 38 rfl),
  f_icmp_ge (e_dx DX12_tidy_1 39 rfl) rfl,
  f_aload_n (n := 0) (e_dx DX12_tidy_2 0 rfl) rfl,
  f_getA (e_dx DX12_tidy_2 1 rfl) fX12_82 rfl (by decide) (Nat.le_of_ble_eq_true rfl) rfl (by decide),
  f_iload_n (n := 1) (e_dx DX12_tidy_2 2 rfl) rfl,
  f_iload (e_dx DX12_tidy_2 3 rfl),
  f_iadd (e_dx DX12_tidy_2 4 rfl),
  f_aload_n (n := 0) (e_dx DX12_tidy_2 5 rfl) rfl,
  f_getA (e_dx DX12_tidy_2 6 rfl) fX12_82 rfl (by decide) (Nat.le_of_ble_eq_true rfl) rfl (by decide),
  f_iload_n (n := 1) (e_dx DX12_tidy_2 7 rfl) rfl,
  f_iload (e_dx DX12_tidy_2 8 rfl),
  f_iadd (e_dx DX12_tidy_2 9 rfl),
  f_iconst (e_dx DX12_tidy_2 10 rfl) ⟨by decide, by decide⟩,
  f_iadd (e_dx DX12_tidy_2 11 rfl),
  f_iaload (e_dx DX12_tidy_2 12 rfl),
  f_iastore (e_dx DX12_tidy_2 13 rfl),
  f_aload_n (n := 0) (e_dx DX12_tidy_2 14 rfl) rfl,
  f_getA (e_dx DX12_tidy_2 15 rfl) fX12_85 rfl (by decide) (Nat.le_of_ble_eq_true rfl) rfl (by decide),
  f_iload_n (n := 1) (e_dx DX12_tidy_2 16 rfl) rfl,
  f_iload (e_dx DX12_tidy_2 17 rfl),
  f_iadd (e_dx DX12_tidy_2 18 rfl),
  f_aload_n (n := 0) (e_dx DX12_tidy_2 19 rfl) rfl,
  f_getA (e_dx DX12_tidy_2 20 rfl) fX12_85 rfl (by decide) (Nat.le_of_ble_eq_true rfl) rfl (by decide),
  f_iload_n (n := 1) (e_dx DX12_tidy_2 21 rfl) rfl,
  f_iload (e_dx DX12_tidy_2 22 rfl),
  f_iadd (e_dx DX12_tidy_2 23 rfl),
  f_iconst (e_dx DX12_tidy_2 24 rfl) ⟨by decide, by decide⟩,
  f_iadd (e_dx DX12_tidy_2 25 rfl),
  f_iaload (e_dx DX12_tidy_2 26 rfl),
  f_iastore (e_dx DX12_tidy_2 27 rfl),
  f_g8 (e_dx DX12_tidy_2 28 rfl) ⟨by decide, by decide⟩,
  f_g19 (e_dx DX12_tidy_2 29 rfl) rfl,
  f_g8 (e_dx DX12_tidy_2 30 rfl) ⟨by decide, by decide⟩,
  f_iconst (e_dx DX12_tidy_2 31 rfl) ⟨by decide, by decide⟩,
  f_istore (e_dx DX12_tidy_2 32 rfl) (by decide),
  trivial,
  f_g8 (e_dx DX12_tidy_2 33 rfl) ⟨by decide, by decide⟩,
  f_g19 (e_dx DX12_tidy_2 34 rfl) rfl,
  trivial,
  f_g19 (e_dx DX12_tidy_2 35 rfl) rfl,
  f_iconst (e_dx DX12_tidy_2 36 rfl) ⟨by decide, by decide⟩,
  f_istore (e_dx DX12_tidy_2 37 rfl) (by decide),
  f_iconst (e_dx DX12_tidy_2 38 rfl) ⟨by decide, by decide⟩,
  f_istore (e_dx DX12_tidy_2 39 rfl) (by decide),
  trivial,
  f_iload (e_dx DX12_tidy_3 0 rfl),
  f_iload_n (n := 3) (e_dx DX12_tidy_3 1 rfl) rfl,
  f_icmp_ge (e_dx DX12_tidy_3 2 rfl) rfl,
  f_aload_n (n := 0) (e_dx DX12_tidy_3 3 rfl) rfl,
  f_getA (e_dx DX12_tidy_3 4 rfl) fX12_85 rfl (by decide) (Nat.le_of_ble_eq_true rfl) rfl (by decide),
  f_iload_n (n := 1) (e_dx DX12_tidy_3 5 rfl) rfl,
  f_iload (e_dx DX12_tidy_3 6 rfl),
  f_iadd (e_dx DX12_tidy_3 7 rfl),
  f_iaload (e_dx DX12_tidy_3 8 rfl),
  f_aload_n (n := 0) (e_dx DX12_tidy_3 9 rfl) rfl,
  f_getA (e_dx DX12_tidy_3 10 rfl) fX12_85 rfl (by decide) (Nat.le_of_ble_eq_true rfl) rfl (by decide),
  f_iload_n (n := 1) (e_dx DX12_tidy_3 11 rfl) rfl,
  f_iload (e_dx DX12_tidy_3 12 rfl),
  f_iadd (e_dx DX12_tidy_3 13 rfl),
  f_iaload (e_dx DX12_tidy_3 14 rfl),
  f_icmp_lt (e_dx DX12_tidy_3 15 rfl) rfl,
  f_aload_n (n := 0) (e_dx DX12_tidy_3 16 rfl) rfl,
  f_getA (e_dx DX12_tidy_3 17 rfl) fX12_85 rfl (by decide) (Nat.le_of_ble_eq_true rfl) rfl (by decide),
  f_iload_n (n := 1) (e_dx DX12_tidy_3 18 rfl) rfl,
  f_iload (e_dx DX12_tidy_3 19 rfl),
  f_iadd (e_dx DX12_tidy_3 20 rfl),
  f_iaload (e_dx DX12_tidy_3 21 rfl),
  f_aload_n (n := 0) (e_dx DX12_tidy_3 22 rfl) rfl,
  f_getA (e_dx DX12_tidy_3 23 rfl) fX12_85 rfl (by decide) (Nat.le_of_ble_eq_true rfl) rfl (by decide),
  f_iload_n (n := 1) (e_dx DX12_tidy_3 24 rfl) rfl,
  f_iload (e_dx DX12_tidy_3 25 rfl),
  f_iadd (e_dx DX12_tidy_3 26 rfl),
  f_iaload (e_dx DX12_tidy_3 27 rfl),
  f_icmp_ne (e_dx DX12_tidy_3 28 rfl) rfl,
  f_aload_n (n := 0) (e_dx DX12_tidy_3 29 rfl) rfl,
  f_getA (e_dx DX12_tidy_3 30 rfl) fX12_82 rfl (by decide) (Nat.le_of_ble_eq_true rfl) rfl (by decide),
  f_iload_n (n := 1) (e_dx DX12_tidy_3 31 rfl) rfl,
  f_iload (e_dx DX12_tidy_3 32 rfl),
  f_iadd (e_dx DX12_tidy_3 33 rfl),
  f_iaload (e_dx DX12_tidy_3 34 rfl),
  f_aload_n (n := 0) (e_dx DX12_tidy_3 35 rfl) rfl,
  f_getA (e_dx DX12_tidy_3 36 rfl) fX12_82 rfl (by decide) (Nat.le_of_ble_eq_true rfl) rfl (by decide),
  f_iload_n (n := 1) (e_dx DX12_tidy_3 37 rfl) rfl,
  f_iload (e_dx DX12_tidy_3 38 rfl),
  f_iadd (e_dx DX12_tidy_3 39 rfl),
  f_iaload (e_dx DX12_tidy_4 0 rfl),
  f_icmp_ge (e_dx DX12_tidy_4 1 rfl) rfl,
  trivial,
  f_iload (e_dx DX12_tidy_4 2 rfl),
  f_istore (e_dx DX12_tidy_4 3 rfl) (by decide),
  trivial,
  f_g8 (e_dx DX12_tidy_4 4 rfl) ⟨by decide, by decide⟩,
  f_g19 (e_dx DX12_tidy_4 5 rfl) rfl,
  f_iconst (e_dx DX12_tidy_4 6 rfl) ⟨by decide, by decide⟩,
  f_istore (e_dx DX12_tidy_4 7 rfl) (by decide),
  trivial,
  f_iload (e_dx DX12_tidy_4 8 rfl),
  f_iload (e_dx DX12_tidy_4 9 rfl),
  f_icmp_ge (e_dx DX12_tidy_4 10 rfl) rfl,
  f_aload_n (n := 0) (e_dx DX12_tidy_4 11 rfl) rfl,
  f_getA (e_dx DX12_tidy_4 12 rfl) fX12_82 rfl (by decide) (Nat.le_of_ble_eq_true rfl) rfl (by decide),
  f_iload_n (n := 1) (e_dx DX12_tidy_4 13 rfl) rfl,
  f_iaload (e_dx DX12_tidy_4 14 rfl),
  f_istore (e_dx DX12_tidy_4 15 rfl) (by decide),
  f_aload_n (n := 0) (e_dx DX12_tidy_4 16 rfl) rfl,
  f_getA (e_dx DX12_tidy_4 17 rfl) fX12_85 rfl (by decide) (Nat.le_of_ble_eq_true rfl) rfl (by decide),
  f_iload_n (n := 1) (e_dx DX12_tidy_4 18 rfl) rfl,
  f_iaload (e_dx DX12_tidy_4 19 rfl),
  f_istore (e_dx DX12_tidy_4 20 rfl) (by decide),
  f_iconst (e_dx DX12_tidy_4 21 rfl) ⟨by decide, by decide⟩,
  f_istore (e_dx DX12_tidy_4 22 rfl) (by decide),
  trivial,
  f_iload (e_dx DX12_tidy_4 23 rfl),
  f_iload_n (n := 3) (e_dx DX12_tidy_4 24 rfl) rfl,
  f_iconst (e_dx DX12_tidy_4 25 rfl) ⟨by decide, by decide⟩,
  f_isub (e_dx DX12_tidy_4 26 rfl),
  f_icmp_ge (e_dx DX12_tidy_4 27 rfl) rfl,
  f_aload_n (n := 0) (e_dx DX12_tidy_4 28 rfl) rfl,
  f_getA (e_dx DX12_tidy_4 29 rfl) fX12_82 rfl (by decide) (Nat.le_of_ble_eq_true rfl) rfl (by decide),
  f_iload_n (n := 1) (e_dx DX12_tidy_4 30 rfl) rfl,
  f_iload (e_dx DX12_tidy_4 31 rfl),
  f_iadd (e_dx DX12_tidy_4 32 rfl),
  f_aload_n (n := 0) (e_dx DX12_tidy_4 33 rfl) rfl,
  f_getA (e_dx DX12_tidy_4 34 rfl) fX12_82 rfl (by decide) (Nat.le_of_ble_eq_true rfl) rfl (by decide),
  f_iload_n (n := 1) (e_dx DX12_tidy_4 35 rfl) rfl,
  f_iload (e_dx DX12_tidy_4 36 rfl),
  f_iadd (e_dx DX12_tidy_4 37 rfl),
  f_iconst (e_dx DX12_tidy_4 38 rfl) ⟨by decide, by decide⟩,
  f_iadd (e_dx DX12_tidy_4 39 rfl),
  f_iaload (e_dx DX12_tidy_5 0 rfl),
  f_iastore (e_dx DX12_tidy_5 1 rfl),
  f_aload_n (n := 0) (e_dx DX12_tidy_5 2 rfl) rfl,
  f_getA (e_dx DX12_tidy_5 3 rfl) fX12_85 rfl (by decide) (Nat.le_of_ble_eq_true rfl) rfl (by decide),
  f_iload_n (n := 1) (e_dx DX12_tidy_5 4 rfl) rfl,
  f_iload (e_dx DX12_tidy_5 5 rfl),
  f_iadd (e_dx DX12_tidy_5 6 rfl),
  f_aload_n (n := 0) (e_dx DX12_tidy_5 7 rfl) rfl,
  f_getA (e_dx DX12_tidy_5 8 rfl) fX12_85 rfl (by decide) (Nat.le_of_ble_eq_true rfl) rfl (by decide),
  f_iload_n (n := 1) (e_dx DX12_tidy_5 9 rfl) rfl,
  f_iload (e_dx DX12_tidy_5 10 rfl),
  f_iadd (e_dx DX12_tidy_5 11 rfl),
  f_iconst (e_dx DX12_tidy_5 12 rfl) ⟨by decide, by decide⟩,
  f_iadd (e_dx DX12_tidy_5 13 rfl),
  f_iaload (e_dx DX12_tidy_5 14 rfl),
  f_iastore (e_dx DX12_tidy_5 15 rfl),
  f_g8 (e_dx DX12_tidy_5 16 rfl) ⟨by decide, by decide⟩,
  f_g19 (e_dx DX12_tidy_5 17 rfl) rfl,
  f_aload_n (n := 0) (e_dx DX12_tidy_5 18 rfl) rfl,
  f_getA (e_dx DX12_tidy_5 19 rfl) fX12_82 rfl (by decide) (Nat.le_of_ble_eq_true rfl) rfl (by decide),
  f_iload_n (n := 1) (e_dx DX12_tidy_5 20 rfl) rfl,
  f_iload_n (n := 3) (e_dx DX12_tidy_5 21 rfl) rfl,
  f_iadd (e_dx DX12_tidy_5 22 rfl),
  f_iconst (e_dx DX12_tidy_5 23 rfl) ⟨by decide, by decide⟩,
  f_isub (e_dx DX12_tidy_5 24 rfl),
  f_iload (e_dx DX12_tidy_5 25 rfl),
  f_iastore (e_dx DX12_tidy_5 26 rfl),
  f_aload_n (n := 0) (e_dx DX12_tidy_5 27 rfl) rfl,
  f_getA (e_dx DX12_tidy_5 28 rfl) fX12_85 rfl (by decide) (Nat.le_of_ble_eq_true rfl) rfl (by decide),
  f_iload_n (n := 1) (e_dx DX12_tidy_5 29 rfl) rfl,
  f_iload_n (n := 3) (e_dx DX12_tidy_5 30 rfl) rfl,
  f_iadd (e_dx DX12_tidy_5 31 rfl),
  f_iconst (e_dx DX12_tidy_5 32 rfl) ⟨by decide, by decide⟩,
  f_isub (e_dx DX12_tidy_5 33 rfl),
  f_iload (e_dx DX12_tidy_5 34 rfl),
  f_iastore (e_dx DX12_tidy_5 35 rfl),
  f_g8 (e_dx DX12_tidy_5 36 rfl) ⟨by decide, by decide⟩,
  f_g19 (e_dx DX12_tidy_5 37 rfl) rfl,
  f_iload_n (n := 3) (e_dx DX12_tidy_5 38 rfl) rfl,
  ⟨(e_dx DX12_tidy_5 39 rfl), rfl⟩, trivial⟩
def lX12_tidy (c_X12_turn : Int → Int → Int → Int → Int → Int → e_M → (Int → Prop) → Prop) : List (Nat × f_Wt) := [(0, f_wm [(2, 0, 0), (2, 0, 0), (2, 0, 0), (2, 0, 0), (2, 0, 0), (2, 0, 0)] (fun ar M R => c_X12_turn (f_vi (f_nth ar 0)) (f_vi (f_nth ar 1)) (f_vi (f_nth ar 2)) (f_vi (f_nth ar 3)) (f_vi (f_nth ar 4)) (f_vi (f_nth ar 5)) M (fun r => R (some (.inr (.inl r))) M)))]
set_option maxRecDepth 20000 in
theorem BX12_tidy_5 {sh : Nat → Nat × Nat} {t : Nat} {rm : Nat × Nat × Nat} {cs : Nat × Nat} {R : f_Rt} {c_X12_turn : Int → Int → Int → Int → Int → Int → e_M → (Int → Prop) → Prop} {k191 : Int → Int → Int → Int → e_M → Prop} {k16 : Int → Int → Int → Int → e_M → Prop} {x1 : Int} {x3 : Int} {x4 : Int} {M : e_M} (C : f_Hy sh t yX12_tidy rm cs 5 (lX12_tidy c_X12_turn) R) (h191 : ∀ (x1 : Int) (x3 : Int) (x5 : Int) (x6 : Int) (M : e_M), k191 x1 x3 x5 x6 M → f_E sh t YX12_tidy rm cs (f_Q sh t R) 191 [.inr (.inr (.inl (12, 123, 4456))), .inl x1, .inr (.inr (.inr ())), .inl x3, .inr (.inr (.inr ())), .inl x5, .inl x6, .inr (.inr (.inr ())), .inr (.inr (.inr ())), .inr (.inr (.inr ()))] [] M) (h16 : ∀ (x1 : Int) (x3 : Int) (x4 : Int) (x5 : Int) (M : e_M), k16 x1 x3 x4 x5 M → f_E sh t YX12_tidy rm cs (f_Q sh t R) 16 [.inr (.inr (.inl (12, 123, 4456))), .inl x1, .inr (.inr (.inr ())), .inl x3, .inl x4, .inl x5, .inr (.inr (.inr ())), .inr (.inr (.inr ())), .inr (.inr (.inr ())), .inr (.inr (.inr ()))] [] M) (h : VX12_tidy_5 c_X12_turn k191 k16 (fun r M => R (some (.inl r)) M) x1 x3 x4 M) : f_E sh t YX12_tidy rm cs (f_Q sh t R) 5 [.inr (.inr (.inl (12, 123, 4456))), .inl x1, .inr (.inr (.inr ())), .inl x3, .inl x4, .inr (.inr (.inr ())), .inr (.inr (.inr ())), .inr (.inr (.inr ())), .inr (.inr (.inr ())), .inr (.inr (.inr ()))] [] M :=
  f_go (KC := f_kc [(191, f_pl [(4466, 12, 123), (1, 0, 0), (0, 0, 0), (1, 0, 0), (0, 0, 0), (1, 0, 0), (1, 0, 0), (0, 0, 0), (0, 0, 0), (0, 0, 0)] [] (fun ls st M => k191 (f_vi (f_nth ls 1)) (f_vi (f_nth ls 3)) (f_vi (f_nth ls 5)) (f_vi (f_nth ls 6)) M)), (16, f_pl [(4466, 12, 123), (1, 0, 0), (0, 0, 0), (1, 0, 0), (1, 0, 0), (1, 0, 0), (0, 0, 0), (0, 0, 0), (0, 0, 0), (0, 0, 0)] [] (fun ls st M => k16 (f_vi (f_nth ls 1)) (f_vi (f_nth ls 3)) (f_vi (f_nth ls 4)) (f_vi (f_nth ls 5)) M))]) C qX12_tidyf (f_kc_cons (f_pl_ok rfl (fun ls st M h => h191 _ _ _ _ M h)) (f_kc_cons (f_pl_ok rfl (fun ls st M h => h16 _ _ _ _ M h)) f_kc_nil)) 253 5 h
set_option maxRecDepth 20000 in
theorem BX12_tidy_16 {sh : Nat → Nat × Nat} {t : Nat} {rm : Nat × Nat × Nat} {cs : Nat × Nat} {R : f_Rt} {c_X12_turn : Int → Int → Int → Int → Int → Int → e_M → (Int → Prop) → Prop} {k182 : Int → Int → Int → e_M → Prop} {k116 : Int → Int → Int → Int → e_M → Prop} {k176 : Int → Int → Int → Int → e_M → Prop} {x1 : Int} {x3 : Int} {x4 : Int} {x5 : Int} {M : e_M} (C : f_Hy sh t yX12_tidy rm cs 5 (lX12_tidy c_X12_turn) R) (h182 : ∀ (x1 : Int) (x3 : Int) (x4 : Int) (M : e_M), k182 x1 x3 x4 M → f_E sh t YX12_tidy rm cs (f_Q sh t R) 182 [.inr (.inr (.inl (12, 123, 4456))), .inl x1, .inr (.inr (.inr ())), .inl x3, .inl x4, .inr (.inr (.inr ())), .inr (.inr (.inr ())), .inr (.inr (.inr ())), .inr (.inr (.inr ())), .inr (.inr (.inr ()))] [] M) (h116 : ∀ (x1 : Int) (x3 : Int) (x5 : Int) (x8 : Int) (M : e_M), k116 x1 x3 x5 x8 M → f_E sh t YX12_tidy rm cs (f_Q sh t R) 116 [.inr (.inr (.inl (12, 123, 4456))), .inl x1, .inr (.inr (.inr ())), .inl x3, .inr (.inr (.inr ())), .inl x5, .inr (.inr (.inr ())), .inr (.inr (.inr ())), .inl x8, .inr (.inr (.inr ()))] [] M) (h176 : ∀ (x1 : Int) (x3 : Int) (x4 : Int) (x5 : Int) (M : e_M), k176 x1 x3 x4 x5 M → f_E sh t YX12_tidy rm cs (f_Q sh t R) 176 [.inr (.inr (.inl (12, 123, 4456))), .inl x1, .inr (.inr (.inr ())), .inl x3, .inl x4, .inl x5, .inr (.inr (.inr ())), .inr (.inr (.inr ())), .inr (.inr (.inr ())), .inr (.inr (.inr ()))] [] M) (h : VX12_tidy_16 c_X12_turn k182 k116 k176 (fun r M => R (some (.inl r)) M) x1 x3 x4 x5 M) : f_E sh t YX12_tidy rm cs (f_Q sh t R) 16 [.inr (.inr (.inl (12, 123, 4456))), .inl x1, .inr (.inr (.inr ())), .inl x3, .inl x4, .inl x5, .inr (.inr (.inr ())), .inr (.inr (.inr ())), .inr (.inr (.inr ())), .inr (.inr (.inr ()))] [] M :=
  f_go (KC := f_kc [(182, f_pl [(4466, 12, 123), (1, 0, 0), (0, 0, 0), (1, 0, 0), (1, 0, 0), (0, 0, 0), (0, 0, 0), (0, 0, 0), (0, 0, 0), (0, 0, 0)] [] (fun ls st M => k182 (f_vi (f_nth ls 1)) (f_vi (f_nth ls 3)) (f_vi (f_nth ls 4)) M)), (116, f_pl [(4466, 12, 123), (1, 0, 0), (0, 0, 0), (1, 0, 0), (0, 0, 0), (1, 0, 0), (0, 0, 0), (0, 0, 0), (1, 0, 0), (0, 0, 0)] [] (fun ls st M => k116 (f_vi (f_nth ls 1)) (f_vi (f_nth ls 3)) (f_vi (f_nth ls 5)) (f_vi (f_nth ls 8)) M)), (176, f_pl [(4466, 12, 123), (1, 0, 0), (0, 0, 0), (1, 0, 0), (1, 0, 0), (1, 0, 0), (0, 0, 0), (0, 0, 0), (0, 0, 0), (0, 0, 0)] [] (fun ls st M => k176 (f_vi (f_nth ls 1)) (f_vi (f_nth ls 3)) (f_vi (f_nth ls 4)) (f_vi (f_nth ls 5)) M))]) C qX12_tidyf (f_kc_cons (f_pl_ok rfl (fun ls st M h => h182 _ _ _ M h)) (f_kc_cons (f_pl_ok rfl (fun ls st M h => h116 _ _ _ _ M h)) (f_kc_cons (f_pl_ok rfl (fun ls st M h => h176 _ _ _ _ M h)) f_kc_nil))) 253 12 h
set_option maxRecDepth 20000 in
theorem BX12_tidy_116 {sh : Nat → Nat × Nat} {t : Nat} {rm : Nat × Nat × Nat} {cs : Nat × Nat} {R : f_Rt} {c_X12_turn : Int → Int → Int → Int → Int → Int → e_M → (Int → Prop) → Prop} {k176 : Int → Int → Int → Int → e_M → Prop} {k116 : Int → Int → Int → Int → e_M → Prop} {x1 : Int} {x3 : Int} {x5 : Int} {x8 : Int} {M : e_M} (C : f_Hy sh t yX12_tidy rm cs 5 (lX12_tidy c_X12_turn) R) (h176 : ∀ (x1 : Int) (x3 : Int) (x4 : Int) (x5 : Int) (M : e_M), k176 x1 x3 x4 x5 M → f_E sh t YX12_tidy rm cs (f_Q sh t R) 176 [.inr (.inr (.inl (12, 123, 4456))), .inl x1, .inr (.inr (.inr ())), .inl x3, .inl x4, .inl x5, .inr (.inr (.inr ())), .inr (.inr (.inr ())), .inr (.inr (.inr ())), .inr (.inr (.inr ()))] [] M) (h116 : ∀ (x1 : Int) (x3 : Int) (x5 : Int) (x8 : Int) (M : e_M), k116 x1 x3 x5 x8 M → f_E sh t YX12_tidy rm cs (f_Q sh t R) 116 [.inr (.inr (.inl (12, 123, 4456))), .inl x1, .inr (.inr (.inr ())), .inl x3, .inr (.inr (.inr ())), .inl x5, .inr (.inr (.inr ())), .inr (.inr (.inr ())), .inl x8, .inr (.inr (.inr ()))] [] M) (h : VX12_tidy_116 c_X12_turn k176 k116 (fun r M => R (some (.inl r)) M) x1 x3 x5 x8 M) : f_E sh t YX12_tidy rm cs (f_Q sh t R) 116 [.inr (.inr (.inl (12, 123, 4456))), .inl x1, .inr (.inr (.inr ())), .inl x3, .inr (.inr (.inr ())), .inl x5, .inr (.inr (.inr ())), .inr (.inr (.inr ())), .inl x8, .inr (.inr (.inr ()))] [] M :=
  f_go (KC := f_kc [(176, f_pl [(4466, 12, 123), (1, 0, 0), (0, 0, 0), (1, 0, 0), (1, 0, 0), (1, 0, 0), (0, 0, 0), (0, 0, 0), (0, 0, 0), (0, 0, 0)] [] (fun ls st M => k176 (f_vi (f_nth ls 1)) (f_vi (f_nth ls 3)) (f_vi (f_nth ls 4)) (f_vi (f_nth ls 5)) M)), (116, f_pl [(4466, 12, 123), (1, 0, 0), (0, 0, 0), (1, 0, 0), (0, 0, 0), (1, 0, 0), (0, 0, 0), (0, 0, 0), (1, 0, 0), (0, 0, 0)] [] (fun ls st M => k116 (f_vi (f_nth ls 1)) (f_vi (f_nth ls 3)) (f_vi (f_nth ls 5)) (f_vi (f_nth ls 8)) M))]) C qX12_tidyf (f_kc_cons (f_pl_ok rfl (fun ls st M h => h176 _ _ _ _ M h)) (f_kc_cons (f_pl_ok rfl (fun ls st M h => h116 _ _ _ _ M h)) f_kc_nil)) 253 79 h
set_option maxRecDepth 20000 in
theorem BX12_tidy_176 {sh : Nat → Nat × Nat} {t : Nat} {rm : Nat × Nat × Nat} {cs : Nat × Nat} {R : f_Rt} {c_X12_turn : Int → Int → Int → Int → Int → Int → e_M → (Int → Prop) → Prop} {k16 : Int → Int → Int → Int → e_M → Prop} {x1 : Int} {x3 : Int} {x4 : Int} {x5 : Int} {M : e_M} (C : f_Hy sh t yX12_tidy rm cs 5 (lX12_tidy c_X12_turn) R) (h16 : ∀ (x1 : Int) (x3 : Int) (x4 : Int) (x5 : Int) (M : e_M), k16 x1 x3 x4 x5 M → f_E sh t YX12_tidy rm cs (f_Q sh t R) 16 [.inr (.inr (.inl (12, 123, 4456))), .inl x1, .inr (.inr (.inr ())), .inl x3, .inl x4, .inl x5, .inr (.inr (.inr ())), .inr (.inr (.inr ())), .inr (.inr (.inr ())), .inr (.inr (.inr ()))] [] M) (h : VX12_tidy_176 c_X12_turn k16 (fun r M => R (some (.inl r)) M) x1 x3 x4 x5 M) : f_E sh t YX12_tidy rm cs (f_Q sh t R) 176 [.inr (.inr (.inl (12, 123, 4456))), .inl x1, .inr (.inr (.inr ())), .inl x3, .inl x4, .inl x5, .inr (.inr (.inr ())), .inr (.inr (.inr ())), .inr (.inr (.inr ())), .inr (.inr (.inr ()))] [] M :=
  f_go (KC := f_kc [(16, f_pl [(4466, 12, 123), (1, 0, 0), (0, 0, 0), (1, 0, 0), (1, 0, 0), (1, 0, 0), (0, 0, 0), (0, 0, 0), (0, 0, 0), (0, 0, 0)] [] (fun ls st M => k16 (f_vi (f_nth ls 1)) (f_vi (f_nth ls 3)) (f_vi (f_nth ls 4)) (f_vi (f_nth ls 5)) M))]) C qX12_tidyf (f_kc_cons (f_pl_ok rfl (fun ls st M h => h16 _ _ _ _ M h)) f_kc_nil) 253 118 h
set_option maxRecDepth 20000 in
theorem BX12_tidy_182 {sh : Nat → Nat × Nat} {t : Nat} {rm : Nat × Nat × Nat} {cs : Nat × Nat} {R : f_Rt} {c_X12_turn : Int → Int → Int → Int → Int → Int → e_M → (Int → Prop) → Prop} {k5 : Int → Int → Int → e_M → Prop} {x1 : Int} {x3 : Int} {x4 : Int} {M : e_M} (C : f_Hy sh t yX12_tidy rm cs 5 (lX12_tidy c_X12_turn) R) (h5 : ∀ (x1 : Int) (x3 : Int) (x4 : Int) (M : e_M), k5 x1 x3 x4 M → f_E sh t YX12_tidy rm cs (f_Q sh t R) 5 [.inr (.inr (.inl (12, 123, 4456))), .inl x1, .inr (.inr (.inr ())), .inl x3, .inl x4, .inr (.inr (.inr ())), .inr (.inr (.inr ())), .inr (.inr (.inr ())), .inr (.inr (.inr ())), .inr (.inr (.inr ()))] [] M) (h : VX12_tidy_182 c_X12_turn k5 (fun r M => R (some (.inl r)) M) x1 x3 x4 M) : f_E sh t YX12_tidy rm cs (f_Q sh t R) 182 [.inr (.inr (.inl (12, 123, 4456))), .inl x1, .inr (.inr (.inr ())), .inl x3, .inl x4, .inr (.inr (.inr ())), .inr (.inr (.inr ())), .inr (.inr (.inr ())), .inr (.inr (.inr ())), .inr (.inr (.inr ()))] [] M :=
  f_go (KC := f_kc [(5, f_pl [(4466, 12, 123), (1, 0, 0), (0, 0, 0), (1, 0, 0), (1, 0, 0), (0, 0, 0), (0, 0, 0), (0, 0, 0), (0, 0, 0), (0, 0, 0)] [] (fun ls st M => k5 (f_vi (f_nth ls 1)) (f_vi (f_nth ls 3)) (f_vi (f_nth ls 4)) M))]) C qX12_tidyf (f_kc_cons (f_pl_ok rfl (fun ls st M h => h5 _ _ _ M h)) f_kc_nil) 253 121 h
set_option maxRecDepth 20000 in
theorem BX12_tidy_191 {sh : Nat → Nat × Nat} {t : Nat} {rm : Nat × Nat × Nat} {cs : Nat × Nat} {R : f_Rt} {c_X12_turn : Int → Int → Int → Int → Int → Int → e_M → (Int → Prop) → Prop} {k273 : Int → Int → Int → Int → e_M → Prop} {k260 : Int → Int → Int → e_M → Prop} {k264 : Int → Int → Int → Int → e_M → Prop} {x1 : Int} {x3 : Int} {x5 : Int} {x6 : Int} {M : e_M} (C : f_Hy sh t yX12_tidy rm cs 5 (lX12_tidy c_X12_turn) R) (h273 : ∀ (x1 : Int) (x3 : Int) (x5 : Int) (x6 : Int) (M : e_M), k273 x1 x3 x5 x6 M → f_E sh t YX12_tidy rm cs (f_Q sh t R) 273 [.inr (.inr (.inl (12, 123, 4456))), .inl x1, .inr (.inr (.inr ())), .inl x3, .inr (.inr (.inr ())), .inl x5, .inl x6, .inr (.inr (.inr ())), .inr (.inr (.inr ())), .inr (.inr (.inr ()))] [] M) (h260 : ∀ (x1 : Int) (x3 : Int) (x6 : Int) (M : e_M), k260 x1 x3 x6 M → f_E sh t YX12_tidy rm cs (f_Q sh t R) 260 [.inr (.inr (.inl (12, 123, 4456))), .inl x1, .inr (.inr (.inr ())), .inl x3, .inr (.inr (.inr ())), .inr (.inr (.inr ())), .inl x6, .inr (.inr (.inr ())), .inr (.inr (.inr ())), .inr (.inr (.inr ()))] [] M) (h264 : ∀ (x1 : Int) (x3 : Int) (x5 : Int) (x6 : Int) (M : e_M), k264 x1 x3 x5 x6 M → f_E sh t YX12_tidy rm cs (f_Q sh t R) 264 [.inr (.inr (.inl (12, 123, 4456))), .inl x1, .inr (.inr (.inr ())), .inl x3, .inr (.inr (.inr ())), .inl x5, .inl x6, .inr (.inr (.inr ())), .inr (.inr (.inr ())), .inr (.inr (.inr ()))] [] M) (h : VX12_tidy_191 c_X12_turn k273 k260 k264 (fun r M => R (some (.inl r)) M) x1 x3 x5 x6 M) : f_E sh t YX12_tidy rm cs (f_Q sh t R) 191 [.inr (.inr (.inl (12, 123, 4456))), .inl x1, .inr (.inr (.inr ())), .inl x3, .inr (.inr (.inr ())), .inl x5, .inl x6, .inr (.inr (.inr ())), .inr (.inr (.inr ())), .inr (.inr (.inr ()))] [] M :=
  f_go (KC := f_kc [(273, f_pl [(4466, 12, 123), (1, 0, 0), (0, 0, 0), (1, 0, 0), (0, 0, 0), (1, 0, 0), (1, 0, 0), (0, 0, 0), (0, 0, 0), (0, 0, 0)] [] (fun ls st M => k273 (f_vi (f_nth ls 1)) (f_vi (f_nth ls 3)) (f_vi (f_nth ls 5)) (f_vi (f_nth ls 6)) M)), (260, f_pl [(4466, 12, 123), (1, 0, 0), (0, 0, 0), (1, 0, 0), (0, 0, 0), (0, 0, 0), (1, 0, 0), (0, 0, 0), (0, 0, 0), (0, 0, 0)] [] (fun ls st M => k260 (f_vi (f_nth ls 1)) (f_vi (f_nth ls 3)) (f_vi (f_nth ls 6)) M)), (264, f_pl [(4466, 12, 123), (1, 0, 0), (0, 0, 0), (1, 0, 0), (0, 0, 0), (1, 0, 0), (1, 0, 0), (0, 0, 0), (0, 0, 0), (0, 0, 0)] [] (fun ls st M => k264 (f_vi (f_nth ls 1)) (f_vi (f_nth ls 3)) (f_vi (f_nth ls 5)) (f_vi (f_nth ls 6)) M))]) C qX12_tidyf (f_kc_cons (f_pl_ok rfl (fun ls st M h => h273 _ _ _ _ M h)) (f_kc_cons (f_pl_ok rfl (fun ls st M h => h260 _ _ _ M h)) (f_kc_cons (f_pl_ok rfl (fun ls st M h => h264 _ _ _ _ M h)) f_kc_nil))) 253 127 h
set_option maxRecDepth 20000 in
theorem BX12_tidy_260 {sh : Nat → Nat × Nat} {t : Nat} {rm : Nat × Nat × Nat} {cs : Nat × Nat} {R : f_Rt} {c_X12_turn : Int → Int → Int → Int → Int → Int → e_M → (Int → Prop) → Prop} {k264 : Int → Int → Int → Int → e_M → Prop} {x1 : Int} {x3 : Int} {x6 : Int} {M : e_M} (C : f_Hy sh t yX12_tidy rm cs 5 (lX12_tidy c_X12_turn) R) (h264 : ∀ (x1 : Int) (x3 : Int) (x5 : Int) (x6 : Int) (M : e_M), k264 x1 x3 x5 x6 M → f_E sh t YX12_tidy rm cs (f_Q sh t R) 264 [.inr (.inr (.inl (12, 123, 4456))), .inl x1, .inr (.inr (.inr ())), .inl x3, .inr (.inr (.inr ())), .inl x5, .inl x6, .inr (.inr (.inr ())), .inr (.inr (.inr ())), .inr (.inr (.inr ()))] [] M) (h : VX12_tidy_260 c_X12_turn k264 (fun r M => R (some (.inl r)) M) x1 x3 x6 M) : f_E sh t YX12_tidy rm cs (f_Q sh t R) 260 [.inr (.inr (.inl (12, 123, 4456))), .inl x1, .inr (.inr (.inr ())), .inl x3, .inr (.inr (.inr ())), .inr (.inr (.inr ())), .inl x6, .inr (.inr (.inr ())), .inr (.inr (.inr ())), .inr (.inr (.inr ()))] [] M :=
  f_go (KC := f_kc [(264, f_pl [(4466, 12, 123), (1, 0, 0), (0, 0, 0), (1, 0, 0), (0, 0, 0), (1, 0, 0), (1, 0, 0), (0, 0, 0), (0, 0, 0), (0, 0, 0)] [] (fun ls st M => k264 (f_vi (f_nth ls 1)) (f_vi (f_nth ls 3)) (f_vi (f_nth ls 5)) (f_vi (f_nth ls 6)) M))]) C qX12_tidyf (f_kc_cons (f_pl_ok rfl (fun ls st M h => h264 _ _ _ _ M h)) f_kc_nil) 253 170 h
set_option maxRecDepth 20000 in
theorem BX12_tidy_264 {sh : Nat → Nat × Nat} {t : Nat} {rm : Nat × Nat × Nat} {cs : Nat × Nat} {R : f_Rt} {c_X12_turn : Int → Int → Int → Int → Int → Int → e_M → (Int → Prop) → Prop} {k191 : Int → Int → Int → Int → e_M → Prop} {x1 : Int} {x3 : Int} {x5 : Int} {x6 : Int} {M : e_M} (C : f_Hy sh t yX12_tidy rm cs 5 (lX12_tidy c_X12_turn) R) (h191 : ∀ (x1 : Int) (x3 : Int) (x5 : Int) (x6 : Int) (M : e_M), k191 x1 x3 x5 x6 M → f_E sh t YX12_tidy rm cs (f_Q sh t R) 191 [.inr (.inr (.inl (12, 123, 4456))), .inl x1, .inr (.inr (.inr ())), .inl x3, .inr (.inr (.inr ())), .inl x5, .inl x6, .inr (.inr (.inr ())), .inr (.inr (.inr ())), .inr (.inr (.inr ()))] [] M) (h : VX12_tidy_264 c_X12_turn k191 (fun r M => R (some (.inl r)) M) x1 x3 x5 x6 M) : f_E sh t YX12_tidy rm cs (f_Q sh t R) 264 [.inr (.inr (.inl (12, 123, 4456))), .inl x1, .inr (.inr (.inr ())), .inl x3, .inr (.inr (.inr ())), .inl x5, .inl x6, .inr (.inr (.inr ())), .inr (.inr (.inr ())), .inr (.inr (.inr ()))] [] M :=
  f_go (KC := f_kc [(191, f_pl [(4466, 12, 123), (1, 0, 0), (0, 0, 0), (1, 0, 0), (0, 0, 0), (1, 0, 0), (1, 0, 0), (0, 0, 0), (0, 0, 0), (0, 0, 0)] [] (fun ls st M => k191 (f_vi (f_nth ls 1)) (f_vi (f_nth ls 3)) (f_vi (f_nth ls 5)) (f_vi (f_nth ls 6)) M))]) C qX12_tidyf (f_kc_cons (f_pl_ok rfl (fun ls st M h => h191 _ _ _ _ M h)) f_kc_nil) 253 173 h
set_option maxRecDepth 20000 in
theorem BX12_tidy_273 {sh : Nat → Nat × Nat} {t : Nat} {rm : Nat × Nat × Nat} {cs : Nat × Nat} {R : f_Rt} {c_X12_turn : Int → Int → Int → Int → Int → Int → e_M → (Int → Prop) → Prop} {k299 : Int → Int → Int → Int → Int → Int → Int → e_M → Prop} {x1 : Int} {x3 : Int} {x5 : Int} {x6 : Int} {M : e_M} (C : f_Hy sh t yX12_tidy rm cs 5 (lX12_tidy c_X12_turn) R) (h299 : ∀ (x1 : Int) (x3 : Int) (x5 : Int) (x6 : Int) (x7 : Int) (x8 : Int) (x9 : Int) (M : e_M), k299 x1 x3 x5 x6 x7 x8 x9 M → f_E sh t YX12_tidy rm cs (f_Q sh t R) 299 [.inr (.inr (.inl (12, 123, 4456))), .inl x1, .inr (.inr (.inr ())), .inl x3, .inr (.inr (.inr ())), .inl x5, .inl x6, .inl x7, .inl x8, .inl x9] [] M) (h : VX12_tidy_273 c_X12_turn k299 (fun r M => R (some (.inl r)) M) x1 x3 x5 x6 M) : f_E sh t YX12_tidy rm cs (f_Q sh t R) 273 [.inr (.inr (.inl (12, 123, 4456))), .inl x1, .inr (.inr (.inr ())), .inl x3, .inr (.inr (.inr ())), .inl x5, .inl x6, .inr (.inr (.inr ())), .inr (.inr (.inr ())), .inr (.inr (.inr ()))] [] M :=
  f_go (KC := f_kc [(299, f_pl [(4466, 12, 123), (1, 0, 0), (0, 0, 0), (1, 0, 0), (0, 0, 0), (1, 0, 0), (1, 0, 0), (1, 0, 0), (1, 0, 0), (1, 0, 0)] [] (fun ls st M => k299 (f_vi (f_nth ls 1)) (f_vi (f_nth ls 3)) (f_vi (f_nth ls 5)) (f_vi (f_nth ls 6)) (f_vi (f_nth ls 7)) (f_vi (f_nth ls 8)) (f_vi (f_nth ls 9)) M))]) C qX12_tidyf (f_kc_cons (f_pl_ok rfl (fun ls st M h => h299 _ _ _ _ _ _ _ M h)) f_kc_nil) 253 178 h
set_option maxRecDepth 20000 in
theorem BX12_tidy_299 {sh : Nat → Nat × Nat} {t : Nat} {rm : Nat × Nat × Nat} {cs : Nat × Nat} {R : f_Rt} {c_X12_turn : Int → Int → Int → Int → Int → Int → e_M → (Int → Prop) → Prop} {k273 : Int → Int → Int → Int → e_M → Prop} {k299 : Int → Int → Int → Int → Int → Int → Int → e_M → Prop} {x1 : Int} {x3 : Int} {x5 : Int} {x6 : Int} {x7 : Int} {x8 : Int} {x9 : Int} {M : e_M} (C : f_Hy sh t yX12_tidy rm cs 5 (lX12_tidy c_X12_turn) R) (h273 : ∀ (x1 : Int) (x3 : Int) (x5 : Int) (x6 : Int) (M : e_M), k273 x1 x3 x5 x6 M → f_E sh t YX12_tidy rm cs (f_Q sh t R) 273 [.inr (.inr (.inl (12, 123, 4456))), .inl x1, .inr (.inr (.inr ())), .inl x3, .inr (.inr (.inr ())), .inl x5, .inl x6, .inr (.inr (.inr ())), .inr (.inr (.inr ())), .inr (.inr (.inr ()))] [] M) (h299 : ∀ (x1 : Int) (x3 : Int) (x5 : Int) (x6 : Int) (x7 : Int) (x8 : Int) (x9 : Int) (M : e_M), k299 x1 x3 x5 x6 x7 x8 x9 M → f_E sh t YX12_tidy rm cs (f_Q sh t R) 299 [.inr (.inr (.inl (12, 123, 4456))), .inl x1, .inr (.inr (.inr ())), .inl x3, .inr (.inr (.inr ())), .inl x5, .inl x6, .inl x7, .inl x8, .inl x9] [] M) (h : VX12_tidy_299 c_X12_turn k273 k299 (fun r M => R (some (.inl r)) M) x1 x3 x5 x6 x7 x8 x9 M) : f_E sh t YX12_tidy rm cs (f_Q sh t R) 299 [.inr (.inr (.inl (12, 123, 4456))), .inl x1, .inr (.inr (.inr ())), .inl x3, .inr (.inr (.inr ())), .inl x5, .inl x6, .inl x7, .inl x8, .inl x9] [] M :=
  f_go (KC := f_kc [(273, f_pl [(4466, 12, 123), (1, 0, 0), (0, 0, 0), (1, 0, 0), (0, 0, 0), (1, 0, 0), (1, 0, 0), (0, 0, 0), (0, 0, 0), (0, 0, 0)] [] (fun ls st M => k273 (f_vi (f_nth ls 1)) (f_vi (f_nth ls 3)) (f_vi (f_nth ls 5)) (f_vi (f_nth ls 6)) M)), (299, f_pl [(4466, 12, 123), (1, 0, 0), (0, 0, 0), (1, 0, 0), (0, 0, 0), (1, 0, 0), (1, 0, 0), (1, 0, 0), (1, 0, 0), (1, 0, 0)] [] (fun ls st M => k299 (f_vi (f_nth ls 1)) (f_vi (f_nth ls 3)) (f_vi (f_nth ls 5)) (f_vi (f_nth ls 6)) (f_vi (f_nth ls 7)) (f_vi (f_nth ls 8)) (f_vi (f_nth ls 9)) M))]) C qX12_tidyf (f_kc_cons (f_pl_ok rfl (fun ls st M h => h273 _ _ _ _ M h)) (f_kc_cons (f_pl_ok rfl (fun ls st M h => h299 _ _ _ _ _ _ _ M h)) f_kc_nil)) 253 194 h
set_option maxRecDepth 20000 in
theorem BX12_tidy {sh : Nat → Nat × Nat} {t : Nat} {rm : Nat × Nat × Nat} {cs : Nat × Nat} {R : f_Rt} {c_X12_turn : Int → Int → Int → Int → Int → Int → e_M → (Int → Prop) → Prop} {k5 : Int → Int → Int → e_M → Prop} {x1 : Int} {x2 : Int} {M : e_M} (C : f_Hy sh t yX12_tidy rm cs 5 (lX12_tidy c_X12_turn) R) (h5 : ∀ (x1 : Int) (x3 : Int) (x4 : Int) (M : e_M), k5 x1 x3 x4 M → f_E sh t YX12_tidy rm cs (f_Q sh t R) 5 [.inr (.inr (.inl (12, 123, 4456))), .inl x1, .inr (.inr (.inr ())), .inl x3, .inl x4, .inr (.inr (.inr ())), .inr (.inr (.inr ())), .inr (.inr (.inr ())), .inr (.inr (.inr ())), .inr (.inr (.inr ()))] [] M) (h : VX12_tidy c_X12_turn k5 (fun r M => R (some (.inl r)) M) x1 x2 M) : f_E sh t YX12_tidy rm cs (f_Q sh t R) 0 [.inr (.inr (.inl (12, 123, 4456))), .inl x1, .inl x2, .inr (.inr (.inr ())), .inr (.inr (.inr ())), .inr (.inr (.inr ())), .inr (.inr (.inr ())), .inr (.inr (.inr ())), .inr (.inr (.inr ())), .inr (.inr (.inr ()))] [] M :=
  f_go (KC := f_kc [(5, f_pl [(4466, 12, 123), (1, 0, 0), (0, 0, 0), (1, 0, 0), (1, 0, 0), (0, 0, 0), (0, 0, 0), (0, 0, 0), (0, 0, 0), (0, 0, 0)] [] (fun ls st M => k5 (f_vi (f_nth ls 1)) (f_vi (f_nth ls 3)) (f_vi (f_nth ls 4)) M))]) C qX12_tidyf (f_kc_cons (f_pl_ok rfl (fun ls st M h => h5 _ _ _ M h)) f_kc_nil) 253 0 h
def WX12_tidy_299 (H273 : Int → Int → Int → Int → e_M → Prop) (Q : Int → e_M → Prop) : Nat → Int → Int → Int → Int → Int → Int → Int → e_M → Prop
  | 0, _, _, _, _, _, _, _, _ => False
  | n + 1, x1, x3, x5, x6, x7, x8, x9, M =>
    VX12_tidy_299 WX12_turn H273 (WX12_tidy_299 H273 Q n) Q x1 x3 x5 x6 x7 x8 x9 M
def WX12_tidy_273 (Q : Int → e_M → Prop) : Nat → Int → Int → Int → Int → e_M → Prop
  | 0, _, _, _, _, _ => False
  | n + 1, x1, x3, x5, x6, M =>
    VX12_tidy_273 WX12_turn (fun x1 x3 x5 x6 x7 x8 x9 M => ∃ j, WX12_tidy_299 (WX12_tidy_273 Q n) Q j x1 x3 x5 x6 x7 x8 x9 M) Q x1 x3 x5 x6 M
def WX12_tidy_264 (H191 : Int → Int → Int → Int → e_M → Prop) (Q : Int → e_M → Prop) (x1 : Int) (x3 : Int) (x5 : Int) (x6 : Int) (M : e_M) : Prop :=
  VX12_tidy_264 WX12_turn H191 Q x1 x3 x5 x6 M
def WX12_tidy_260 (H191 : Int → Int → Int → Int → e_M → Prop) (Q : Int → e_M → Prop) (x1 : Int) (x3 : Int) (x6 : Int) (M : e_M) : Prop :=
  VX12_tidy_260 WX12_turn (WX12_tidy_264 H191 Q) Q x1 x3 x6 M
def WX12_tidy_191 (Q : Int → e_M → Prop) : Nat → Int → Int → Int → Int → e_M → Prop
  | 0, _, _, _, _, _ => False
  | n + 1, x1, x3, x5, x6, M =>
    VX12_tidy_191 WX12_turn (fun x1 x3 x5 x6 M => ∃ j, WX12_tidy_273 Q j x1 x3 x5 x6 M) (WX12_tidy_260 (WX12_tidy_191 Q n) Q) (WX12_tidy_264 (WX12_tidy_191 Q n) Q) Q x1 x3 x5 x6 M
def WX12_tidy_182 (H5 : Int → Int → Int → e_M → Prop) (Q : Int → e_M → Prop) (x1 : Int) (x3 : Int) (x4 : Int) (M : e_M) : Prop :=
  VX12_tidy_182 WX12_turn H5 Q x1 x3 x4 M
def WX12_tidy_176 (H5 : Int → Int → Int → e_M → Prop) (H16 : Int → Int → Int → Int → e_M → Prop) (Q : Int → e_M → Prop) (x1 : Int) (x3 : Int) (x4 : Int) (x5 : Int) (M : e_M) : Prop :=
  VX12_tidy_176 WX12_turn H16 Q x1 x3 x4 x5 M
def WX12_tidy_116 (H5 : Int → Int → Int → e_M → Prop) (H16 : Int → Int → Int → Int → e_M → Prop) (Q : Int → e_M → Prop) : Nat → Int → Int → Int → Int → e_M → Prop
  | 0, _, _, _, _, _ => False
  | n + 1, x1, x3, x5, x8, M =>
    VX12_tidy_116 WX12_turn (WX12_tidy_176 H5 H16 Q) (WX12_tidy_116 H5 H16 Q n) Q x1 x3 x5 x8 M
def WX12_tidy_16 (H5 : Int → Int → Int → e_M → Prop) (Q : Int → e_M → Prop) : Nat → Int → Int → Int → Int → e_M → Prop
  | 0, _, _, _, _, _ => False
  | n + 1, x1, x3, x4, x5, M =>
    VX12_tidy_16 WX12_turn (WX12_tidy_182 H5 Q) (fun x1 x3 x5 x8 M => ∃ j, WX12_tidy_116 H5 (WX12_tidy_16 H5 Q n) Q j x1 x3 x5 x8 M) (WX12_tidy_176 H5 (WX12_tidy_16 H5 Q n) Q) Q x1 x3 x4 x5 M
def WX12_tidy_5 (Q : Int → e_M → Prop) : Nat → Int → Int → Int → e_M → Prop
  | 0, _, _, _, _ => False
  | n + 1, x1, x3, x4, M =>
    VX12_tidy_5 WX12_turn (fun x1 x3 x5 x6 M => ∃ j, WX12_tidy_191 Q j x1 x3 x5 x6 M) (fun x1 x3 x4 x5 M => ∃ j, WX12_tidy_16 (WX12_tidy_5 Q n) Q j x1 x3 x4 x5 M) Q x1 x3 x4 M
def WX12_tidy (x1 : Int) (x2 : Int) (M : e_M) (Q : Int → e_M → Prop) : Prop :=
  VX12_tidy WX12_turn (fun x1 x3 x4 M => ∃ j, WX12_tidy_5 Q j x1 x3 x4 M) Q x1 x2 M
theorem PX12_tidy_299 {sh : Nat → Nat × Nat} {t : Nat} {rm : Nat × Nat × Nat} {cs : Nat × Nat} {R : f_Rt} {H273 : Int → Int → Int → Int → e_M → Prop} (C : f_Hy sh t yX12_tidy rm cs 5 (lX12_tidy WX12_turn) R) (g273 : ∀ (x1 : Int) (x3 : Int) (x5 : Int) (x6 : Int) (M : e_M), H273 x1 x3 x5 x6 M → f_E sh t YX12_tidy rm cs (f_Q sh t R) 273 [.inr (.inr (.inl (12, 123, 4456))), .inl x1, .inr (.inr (.inr ())), .inl x3, .inr (.inr (.inr ())), .inl x5, .inl x6, .inr (.inr (.inr ())), .inr (.inr (.inr ())), .inr (.inr (.inr ()))] [] M) : ∀ (n : Nat) (x1 : Int) (x3 : Int) (x5 : Int) (x6 : Int) (x7 : Int) (x8 : Int) (x9 : Int) (M : e_M), WX12_tidy_299 H273 (fun r M => R (some (.inl r)) M) n x1 x3 x5 x6 x7 x8 x9 M → f_E sh t YX12_tidy rm cs (f_Q sh t R) 299 [.inr (.inr (.inl (12, 123, 4456))), .inl x1, .inr (.inr (.inr ())), .inl x3, .inr (.inr (.inr ())), .inl x5, .inl x6, .inl x7, .inl x8, .inl x9] [] M := by
  intro n
  induction n with
  | zero => intro x1 x3 x5 x6 x7 x8 x9 M h; exact h.elim
  | succ n ih => intro x1 x3 x5 x6 x7 x8 x9 M h; exact BX12_tidy_299 C g273 ih h
theorem PX12_tidy_273 {sh : Nat → Nat × Nat} {t : Nat} {rm : Nat × Nat × Nat} {cs : Nat × Nat} {R : f_Rt} (C : f_Hy sh t yX12_tidy rm cs 5 (lX12_tidy WX12_turn) R) : ∀ (n : Nat) (x1 : Int) (x3 : Int) (x5 : Int) (x6 : Int) (M : e_M), WX12_tidy_273 (fun r M => R (some (.inl r)) M) n x1 x3 x5 x6 M → f_E sh t YX12_tidy rm cs (f_Q sh t R) 273 [.inr (.inr (.inl (12, 123, 4456))), .inl x1, .inr (.inr (.inr ())), .inl x3, .inr (.inr (.inr ())), .inl x5, .inl x6, .inr (.inr (.inr ())), .inr (.inr (.inr ())), .inr (.inr (.inr ()))] [] M := by
  intro n
  induction n with
  | zero => intro x1 x3 x5 x6 M h; exact h.elim
  | succ n ih => intro x1 x3 x5 x6 M h; exact BX12_tidy_273 C (fun x1 x3 x5 x6 x7 x8 x9 M ⟨j, h⟩ => PX12_tidy_299 C ih j _ _ _ _ _ _ _ _ h) h
theorem PX12_tidy_264 {sh : Nat → Nat × Nat} {t : Nat} {rm : Nat × Nat × Nat} {cs : Nat × Nat} {R : f_Rt} {H191 : Int → Int → Int → Int → e_M → Prop} {x1 : Int} {x3 : Int} {x5 : Int} {x6 : Int} {M : e_M} (C : f_Hy sh t yX12_tidy rm cs 5 (lX12_tidy WX12_turn) R) (g191 : ∀ (x1 : Int) (x3 : Int) (x5 : Int) (x6 : Int) (M : e_M), H191 x1 x3 x5 x6 M → f_E sh t YX12_tidy rm cs (f_Q sh t R) 191 [.inr (.inr (.inl (12, 123, 4456))), .inl x1, .inr (.inr (.inr ())), .inl x3, .inr (.inr (.inr ())), .inl x5, .inl x6, .inr (.inr (.inr ())), .inr (.inr (.inr ())), .inr (.inr (.inr ()))] [] M) (h : WX12_tidy_264 H191 (fun r M => R (some (.inl r)) M) x1 x3 x5 x6 M) : f_E sh t YX12_tidy rm cs (f_Q sh t R) 264 [.inr (.inr (.inl (12, 123, 4456))), .inl x1, .inr (.inr (.inr ())), .inl x3, .inr (.inr (.inr ())), .inl x5, .inl x6, .inr (.inr (.inr ())), .inr (.inr (.inr ())), .inr (.inr (.inr ()))] [] M :=
  BX12_tidy_264 C g191 h
theorem PX12_tidy_260 {sh : Nat → Nat × Nat} {t : Nat} {rm : Nat × Nat × Nat} {cs : Nat × Nat} {R : f_Rt} {H191 : Int → Int → Int → Int → e_M → Prop} {x1 : Int} {x3 : Int} {x6 : Int} {M : e_M} (C : f_Hy sh t yX12_tidy rm cs 5 (lX12_tidy WX12_turn) R) (g191 : ∀ (x1 : Int) (x3 : Int) (x5 : Int) (x6 : Int) (M : e_M), H191 x1 x3 x5 x6 M → f_E sh t YX12_tidy rm cs (f_Q sh t R) 191 [.inr (.inr (.inl (12, 123, 4456))), .inl x1, .inr (.inr (.inr ())), .inl x3, .inr (.inr (.inr ())), .inl x5, .inl x6, .inr (.inr (.inr ())), .inr (.inr (.inr ())), .inr (.inr (.inr ()))] [] M) (h : WX12_tidy_260 H191 (fun r M => R (some (.inl r)) M) x1 x3 x6 M) : f_E sh t YX12_tidy rm cs (f_Q sh t R) 260 [.inr (.inr (.inl (12, 123, 4456))), .inl x1, .inr (.inr (.inr ())), .inl x3, .inr (.inr (.inr ())), .inr (.inr (.inr ())), .inl x6, .inr (.inr (.inr ())), .inr (.inr (.inr ())), .inr (.inr (.inr ()))] [] M :=
  BX12_tidy_260 C (fun x1 x3 x5 x6 M h => PX12_tidy_264 C g191 h) h
theorem PX12_tidy_191 {sh : Nat → Nat × Nat} {t : Nat} {rm : Nat × Nat × Nat} {cs : Nat × Nat} {R : f_Rt} (C : f_Hy sh t yX12_tidy rm cs 5 (lX12_tidy WX12_turn) R) : ∀ (n : Nat) (x1 : Int) (x3 : Int) (x5 : Int) (x6 : Int) (M : e_M), WX12_tidy_191 (fun r M => R (some (.inl r)) M) n x1 x3 x5 x6 M → f_E sh t YX12_tidy rm cs (f_Q sh t R) 191 [.inr (.inr (.inl (12, 123, 4456))), .inl x1, .inr (.inr (.inr ())), .inl x3, .inr (.inr (.inr ())), .inl x5, .inl x6, .inr (.inr (.inr ())), .inr (.inr (.inr ())), .inr (.inr (.inr ()))] [] M := by
  intro n
  induction n with
  | zero => intro x1 x3 x5 x6 M h; exact h.elim
  | succ n ih => intro x1 x3 x5 x6 M h; exact BX12_tidy_191 C (fun x1 x3 x5 x6 M ⟨j, h⟩ => PX12_tidy_273 C j _ _ _ _ _ h) (fun x1 x3 x6 M h => PX12_tidy_260 C ih h) (fun x1 x3 x5 x6 M h => PX12_tidy_264 C ih h) h
theorem PX12_tidy_182 {sh : Nat → Nat × Nat} {t : Nat} {rm : Nat × Nat × Nat} {cs : Nat × Nat} {R : f_Rt} {H5 : Int → Int → Int → e_M → Prop} {x1 : Int} {x3 : Int} {x4 : Int} {M : e_M} (C : f_Hy sh t yX12_tidy rm cs 5 (lX12_tidy WX12_turn) R) (g5 : ∀ (x1 : Int) (x3 : Int) (x4 : Int) (M : e_M), H5 x1 x3 x4 M → f_E sh t YX12_tidy rm cs (f_Q sh t R) 5 [.inr (.inr (.inl (12, 123, 4456))), .inl x1, .inr (.inr (.inr ())), .inl x3, .inl x4, .inr (.inr (.inr ())), .inr (.inr (.inr ())), .inr (.inr (.inr ())), .inr (.inr (.inr ())), .inr (.inr (.inr ()))] [] M) (h : WX12_tidy_182 H5 (fun r M => R (some (.inl r)) M) x1 x3 x4 M) : f_E sh t YX12_tidy rm cs (f_Q sh t R) 182 [.inr (.inr (.inl (12, 123, 4456))), .inl x1, .inr (.inr (.inr ())), .inl x3, .inl x4, .inr (.inr (.inr ())), .inr (.inr (.inr ())), .inr (.inr (.inr ())), .inr (.inr (.inr ())), .inr (.inr (.inr ()))] [] M :=
  BX12_tidy_182 C g5 h
theorem PX12_tidy_176 {sh : Nat → Nat × Nat} {t : Nat} {rm : Nat × Nat × Nat} {cs : Nat × Nat} {R : f_Rt} {H5 : Int → Int → Int → e_M → Prop} {H16 : Int → Int → Int → Int → e_M → Prop} {x1 : Int} {x3 : Int} {x4 : Int} {x5 : Int} {M : e_M} (C : f_Hy sh t yX12_tidy rm cs 5 (lX12_tidy WX12_turn) R) (g5 : ∀ (x1 : Int) (x3 : Int) (x4 : Int) (M : e_M), H5 x1 x3 x4 M → f_E sh t YX12_tidy rm cs (f_Q sh t R) 5 [.inr (.inr (.inl (12, 123, 4456))), .inl x1, .inr (.inr (.inr ())), .inl x3, .inl x4, .inr (.inr (.inr ())), .inr (.inr (.inr ())), .inr (.inr (.inr ())), .inr (.inr (.inr ())), .inr (.inr (.inr ()))] [] M) (g16 : ∀ (x1 : Int) (x3 : Int) (x4 : Int) (x5 : Int) (M : e_M), H16 x1 x3 x4 x5 M → f_E sh t YX12_tidy rm cs (f_Q sh t R) 16 [.inr (.inr (.inl (12, 123, 4456))), .inl x1, .inr (.inr (.inr ())), .inl x3, .inl x4, .inl x5, .inr (.inr (.inr ())), .inr (.inr (.inr ())), .inr (.inr (.inr ())), .inr (.inr (.inr ()))] [] M) (h : WX12_tidy_176 H5 H16 (fun r M => R (some (.inl r)) M) x1 x3 x4 x5 M) : f_E sh t YX12_tidy rm cs (f_Q sh t R) 176 [.inr (.inr (.inl (12, 123, 4456))), .inl x1, .inr (.inr (.inr ())), .inl x3, .inl x4, .inl x5, .inr (.inr (.inr ())), .inr (.inr (.inr ())), .inr (.inr (.inr ())), .inr (.inr (.inr ()))] [] M :=
  BX12_tidy_176 C g16 h
theorem PX12_tidy_116 {sh : Nat → Nat × Nat} {t : Nat} {rm : Nat × Nat × Nat} {cs : Nat × Nat} {R : f_Rt} {H5 : Int → Int → Int → e_M → Prop} {H16 : Int → Int → Int → Int → e_M → Prop} (C : f_Hy sh t yX12_tidy rm cs 5 (lX12_tidy WX12_turn) R) (g5 : ∀ (x1 : Int) (x3 : Int) (x4 : Int) (M : e_M), H5 x1 x3 x4 M → f_E sh t YX12_tidy rm cs (f_Q sh t R) 5 [.inr (.inr (.inl (12, 123, 4456))), .inl x1, .inr (.inr (.inr ())), .inl x3, .inl x4, .inr (.inr (.inr ())), .inr (.inr (.inr ())), .inr (.inr (.inr ())), .inr (.inr (.inr ())), .inr (.inr (.inr ()))] [] M) (g16 : ∀ (x1 : Int) (x3 : Int) (x4 : Int) (x5 : Int) (M : e_M), H16 x1 x3 x4 x5 M → f_E sh t YX12_tidy rm cs (f_Q sh t R) 16 [.inr (.inr (.inl (12, 123, 4456))), .inl x1, .inr (.inr (.inr ())), .inl x3, .inl x4, .inl x5, .inr (.inr (.inr ())), .inr (.inr (.inr ())), .inr (.inr (.inr ())), .inr (.inr (.inr ()))] [] M) : ∀ (n : Nat) (x1 : Int) (x3 : Int) (x5 : Int) (x8 : Int) (M : e_M), WX12_tidy_116 H5 H16 (fun r M => R (some (.inl r)) M) n x1 x3 x5 x8 M → f_E sh t YX12_tidy rm cs (f_Q sh t R) 116 [.inr (.inr (.inl (12, 123, 4456))), .inl x1, .inr (.inr (.inr ())), .inl x3, .inr (.inr (.inr ())), .inl x5, .inr (.inr (.inr ())), .inr (.inr (.inr ())), .inl x8, .inr (.inr (.inr ()))] [] M := by
  intro n
  induction n with
  | zero => intro x1 x3 x5 x8 M h; exact h.elim
  | succ n ih => intro x1 x3 x5 x8 M h; exact BX12_tidy_116 C (fun x1 x3 x4 x5 M h => PX12_tidy_176 C g5 g16 h) ih h
theorem PX12_tidy_16 {sh : Nat → Nat × Nat} {t : Nat} {rm : Nat × Nat × Nat} {cs : Nat × Nat} {R : f_Rt} {H5 : Int → Int → Int → e_M → Prop} (C : f_Hy sh t yX12_tidy rm cs 5 (lX12_tidy WX12_turn) R) (g5 : ∀ (x1 : Int) (x3 : Int) (x4 : Int) (M : e_M), H5 x1 x3 x4 M → f_E sh t YX12_tidy rm cs (f_Q sh t R) 5 [.inr (.inr (.inl (12, 123, 4456))), .inl x1, .inr (.inr (.inr ())), .inl x3, .inl x4, .inr (.inr (.inr ())), .inr (.inr (.inr ())), .inr (.inr (.inr ())), .inr (.inr (.inr ())), .inr (.inr (.inr ()))] [] M) : ∀ (n : Nat) (x1 : Int) (x3 : Int) (x4 : Int) (x5 : Int) (M : e_M), WX12_tidy_16 H5 (fun r M => R (some (.inl r)) M) n x1 x3 x4 x5 M → f_E sh t YX12_tidy rm cs (f_Q sh t R) 16 [.inr (.inr (.inl (12, 123, 4456))), .inl x1, .inr (.inr (.inr ())), .inl x3, .inl x4, .inl x5, .inr (.inr (.inr ())), .inr (.inr (.inr ())), .inr (.inr (.inr ())), .inr (.inr (.inr ()))] [] M := by
  intro n
  induction n with
  | zero => intro x1 x3 x4 x5 M h; exact h.elim
  | succ n ih => intro x1 x3 x4 x5 M h; exact BX12_tidy_16 C (fun x1 x3 x4 M h => PX12_tidy_182 C g5 h) (fun x1 x3 x5 x8 M ⟨j, h⟩ => PX12_tidy_116 C g5 ih j _ _ _ _ _ h) (fun x1 x3 x4 x5 M h => PX12_tidy_176 C g5 ih h) h
theorem PX12_tidy_5 {sh : Nat → Nat × Nat} {t : Nat} {rm : Nat × Nat × Nat} {cs : Nat × Nat} {R : f_Rt} (C : f_Hy sh t yX12_tidy rm cs 5 (lX12_tidy WX12_turn) R) : ∀ (n : Nat) (x1 : Int) (x3 : Int) (x4 : Int) (M : e_M), WX12_tidy_5 (fun r M => R (some (.inl r)) M) n x1 x3 x4 M → f_E sh t YX12_tidy rm cs (f_Q sh t R) 5 [.inr (.inr (.inl (12, 123, 4456))), .inl x1, .inr (.inr (.inr ())), .inl x3, .inl x4, .inr (.inr (.inr ())), .inr (.inr (.inr ())), .inr (.inr (.inr ())), .inr (.inr (.inr ())), .inr (.inr (.inr ()))] [] M := by
  intro n
  induction n with
  | zero => intro x1 x3 x4 M h; exact h.elim
  | succ n ih => intro x1 x3 x4 M h; exact BX12_tidy_5 C (fun x1 x3 x5 x6 M ⟨j, h⟩ => PX12_tidy_191 C j _ _ _ _ _ h) (fun x1 x3 x4 x5 M ⟨j, h⟩ => PX12_tidy_16 C ih j _ _ _ _ _ h) h
theorem PX12_tidy {sh : Nat → Nat × Nat} {t : Nat} {rm : Nat × Nat × Nat} {cs : Nat × Nat} {R : f_Rt} {x1 : Int} {x2 : Int} {M : e_M} (C : f_Hy sh t yX12_tidy rm cs 5 (lX12_tidy WX12_turn) R) (h : WX12_tidy x1 x2 M (fun r M => R (some (.inl r)) M)) : f_E sh t YX12_tidy rm cs (f_Q sh t R) 0 [.inr (.inr (.inl (12, 123, 4456))), .inl x1, .inl x2, .inr (.inr (.inr ())), .inr (.inr (.inr ())), .inr (.inr (.inr ())), .inr (.inr (.inr ())), .inr (.inr (.inr ())), .inr (.inr (.inr ())), .inr (.inr (.inr ()))] [] M :=
  BX12_tidy C (fun x1 x3 x4 M ⟨j, h⟩ => PX12_tidy_5 C j _ _ _ _ h) h
def wX12_tidy : f_Wt := f_wm [(4466, 12, 123), (1, 0, 0), (1, 0, 0)] (fun ar M R => WX12_tidy (f_vi (f_nth ar 1)) (f_vi (f_nth ar 2)) M (fun r M => R (some (.inl r)) M))
theorem TX12_tidy {sh : Nat → Nat × Nat} {t : Nat} : f_Mt sh t YX12_tidy 5 (wX12_tidy) :=
  f_Mt_of (k := 7) (Nat.le_of_ble_eq_true rfl) rfl rfl (fun ar M R rm cs h1 h2 h3 hX h => PX12_tidy ⟨Nat.le_of_ble_eq_true rfl, h1, h2, h3, ⟨(f_Mt.up (Nat.le_of_ble_eq_true rfl) TX12_turn), trivial⟩, hX⟩ h)
