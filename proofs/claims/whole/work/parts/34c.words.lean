/-! methods as words over the memory, part 34c -/
def VX12_offCharge (c_X12_rankAt : Int → Int → e_M → (Int → Prop) → Prop) (c_X12_offRank : Int → Int → e_M → (e_M → Prop) → Prop) (c_X12_id : Int → Int → e_M → (Int → Prop) → Prop) (c_X12_placeOn : Int → Int → e_M → (Int → Prop) → Prop) (c_X12_offOn : Int → Int → e_M → (e_M → Prop) → Prop) (Q : e_M → Prop) (x1 : Int) (x2 : Int) (M : e_M) : Prop :=
  (c_X12_rankAt x2 x1 M (fun r1 => (c_X12_offRank x2 r1 M (fun M2 => (c_X12_id 2 x1 M2 (fun r3 => (c_X12_placeOn r3 x2 M2 (fun r4 => (c_X12_offOn r3 r4 M2 (fun M5 => ((0 ≤ r3 ∧ r3 < 560) ∧ ((¬ (M5 4492 (r3.toNat)) = 0 → (Q M5)) ∧ ((M5 4492 (r3.toNat)) = 0 → (((0 ≤ r3 ∧ r3 < 560) ∧ ((1 : Int) = 0 ∨ (1 : Int) = 1)) ∧ (∀ M6 : e_M, M6 = e_up M5 4485 (r3.toNat) 1 → (Q M6))))))))))))))))
def yX12_offCharge (i : Nat) : e_Y := x_get YX12_offCharge [YX12_rankAt, YX12_offRank, YX12_id, YX12_placeOn, YX12_offOn] i
def pX12_offChargef : List x_I := [(0, 4, 1, 0, 0, 0, []), (1, 2, 1, 2, 0, 0, []), (2, 4, 1, 0, 0, 0, []), (3, 2, 1, 2, 0, 0, []), (4, 2, 1, 1, 0, 0, []), (5, 40, 0, 3, 14, 0, []), (8, 40, 1, 3, 14, 0, []), (11, 0, 1, 0, 0, 2, []), (12, 2, 1, 1, 0, 0, []), (13, 40, 2, 2, 0, 0, []), (16, 5, 1, 3, 0, 0, []), (17, 4, 1, 0, 0, 0, []), (18, 2, 1, 3, 0, 0, []), (19, 4, 1, 0, 0, 0, []), (20, 2, 1, 3, 0, 0, []), (21, 2, 1, 2, 0, 0, []), (22, 40, 3, 3, 14, 0, []), (25, 40, 4, 3, 14, 0, []), (28, 4, 1, 0, 0, 0, []), (29, 25, 12, 59, 4, 0, [(0, 20, 560), (0, 1, 36)]), (32, 2, 1, 3, 0, 0, []), (33, 27, 0, 0, 0, 0, []), (34, 17, 44, 1, 29, 0, []), (37, 4, 1, 0, 0, 0, []), (38, 25, 12, 52, 4, 0, [(0, 21, 560), (0, 1, 29)]), (41, 2, 1, 3, 0, 0, []), (42, 0, 1, 0, 0, 1, []), (43, 29, 0, 0, 0, 0, []), (44, 44, 0, 0, 0, 0, [])]
set_option maxRecDepth 20000 in
theorem qX12_offChargef : f_all yX12_offCharge YX12_offCharge pX12_offChargef :=
  ⟨f_aload_n (n := 0) (e_dx DX12_offCharge_0 0 rfl) rfl,
  f_iload_n (n := 2) (e_dx DX12_offCharge_0 1 rfl) rfl,
  f_aload_n (n := 0) (e_dx DX12_offCharge_0 2 rfl) rfl,
  f_iload_n (n := 2) (e_dx DX12_offCharge_0 3 rfl) rfl,
  f_iload_n (n := 1) (e_dx DX12_offCharge_0 4 rfl) rfl,
  x_callV (e_dx DX12_offCharge_0 5 rfl) mwX12_rankAt vwX12_rankAt cX12_566 rfl,
  x_callV (e_dx DX12_offCharge_0 6 rfl) mwX12_offRank vwX12_offRank cX12_569 rfl,
  f_iconst (e_dx DX12_offCharge_0 7 rfl) ⟨by decide, by decide⟩,
  f_iload_n (n := 1) (e_dx DX12_offCharge_0 8 rfl) rfl,
  x_callS (e_dx DX12_offCharge_0 9 rfl) mwX12_id cX12_540 swX12_id rfl,
  f_istore_n (n := 3) (e_dx DX12_offCharge_0 10 rfl) rfl (by decide),
  f_aload_n (n := 0) (e_dx DX12_offCharge_0 11 rfl) rfl,
  f_iload_n (n := 3) (e_dx DX12_offCharge_0 12 rfl) rfl,
  f_aload_n (n := 0) (e_dx DX12_offCharge_0 13 rfl) rfl,
  f_iload_n (n := 3) (e_dx DX12_offCharge_0 14 rfl) rfl,
  f_iload_n (n := 2) (e_dx DX12_offCharge_0 15 rfl) rfl,
  x_callV (e_dx DX12_offCharge_0 16 rfl) mwX12_placeOn vwX12_placeOn cX12_573 rfl,
  x_callV (e_dx DX12_offCharge_0 17 rfl) mwX12_offOn vwX12_offOn cX12_576 rfl,
  f_aload_n (n := 0) (e_dx DX12_offCharge_0 18 rfl) rfl,
  f_getA (e_dx DX12_offCharge_0 19 rfl) fX12_118 rfl (by decide) (Nat.le_of_ble_eq_true rfl) rfl (by decide),
  f_iload_n (n := 3) (e_dx DX12_offCharge_0 20 rfl) rfl,
  f_iaload (e_dx DX12_offCharge_0 21 rfl),
  f_if_ne (e_dx DX12_offCharge_0 22 rfl) rfl,
  f_aload_n (n := 0) (e_dx DX12_offCharge_0 23 rfl) rfl,
  f_getA (e_dx DX12_offCharge_0 24 rfl) fX12_97 rfl (by decide) (Nat.le_of_ble_eq_true rfl) rfl (by decide),
  f_iload_n (n := 3) (e_dx DX12_offCharge_0 25 rfl) rfl,
  f_iconst (e_dx DX12_offCharge_0 26 rfl) ⟨by decide, by decide⟩,
  f_g29 (e_dx DX12_offCharge_0 27 rfl),
  ⟨(e_dx DX12_offCharge_0 28 rfl), rfl⟩, trivial⟩
def lX12_offCharge (c_X12_rankAt : Int → Int → e_M → (Int → Prop) → Prop) (c_X12_offRank : Int → Int → e_M → (e_M → Prop) → Prop) (c_X12_id : Int → Int → e_M → (Int → Prop) → Prop) (c_X12_placeOn : Int → Int → e_M → (Int → Prop) → Prop) (c_X12_offOn : Int → Int → e_M → (e_M → Prop) → Prop) : List (Nat × f_Wt) := [(0, f_wm [(4466, 12, 123), (1, 0, 0), (1, 0, 0)] (fun ar M R => c_X12_rankAt (f_vi (f_nth ar 1)) (f_vi (f_nth ar 2)) M (fun r => R (some (.inl r)) M))), (1, f_wm [(4466, 12, 123), (1, 0, 0), (1, 0, 0)] (fun ar M R => c_X12_offRank (f_vi (f_nth ar 1)) (f_vi (f_nth ar 2)) M (fun M => R none M))), (2, f_wm [(1, 0, 0), (1, 0, 0)] (fun ar M R => c_X12_id (f_vi (f_nth ar 0)) (f_vi (f_nth ar 1)) M (fun r => R (some (.inl r)) M))), (3, f_wm [(4466, 12, 123), (1, 0, 0), (1, 0, 0)] (fun ar M R => c_X12_placeOn (f_vi (f_nth ar 1)) (f_vi (f_nth ar 2)) M (fun r => R (some (.inl r)) M))), (4, f_wm [(4466, 12, 123), (1, 0, 0), (1, 0, 0)] (fun ar M R => c_X12_offOn (f_vi (f_nth ar 1)) (f_vi (f_nth ar 2)) M (fun M => R none M)))]
set_option maxRecDepth 20000 in
theorem BX12_offCharge {sh : Nat → Nat × Nat} {t : Nat} {rm : Nat × Nat × Nat} {cs : Nat × Nat} {R : f_Rt} {c_X12_rankAt : Int → Int → e_M → (Int → Prop) → Prop} {c_X12_offRank : Int → Int → e_M → (e_M → Prop) → Prop} {c_X12_id : Int → Int → e_M → (Int → Prop) → Prop} {c_X12_placeOn : Int → Int → e_M → (Int → Prop) → Prop} {c_X12_offOn : Int → Int → e_M → (e_M → Prop) → Prop} {x1 : Int} {x2 : Int} {M : e_M} (C : f_Hy sh t yX12_offCharge rm cs 5 (lX12_offCharge c_X12_rankAt c_X12_offRank c_X12_id c_X12_placeOn c_X12_offOn) R) (h : VX12_offCharge c_X12_rankAt c_X12_offRank c_X12_id c_X12_placeOn c_X12_offOn (fun M => R none M) x1 x2 M) : f_E sh t YX12_offCharge rm cs (f_Q sh t R) 0 [.inr (.inr (.inl (12, 123, 4456))), .inl x1, .inl x2, .inr (.inr (.inr ()))] [] M :=
  f_go (KC := f_kc []) C qX12_offChargef f_kc_nil 31 0 h
def WX12_offCharge (x1 : Int) (x2 : Int) (M : e_M) (Q : e_M → Prop) : Prop :=
  VX12_offCharge WX12_rankAt WX12_offRank WX12_id WX12_placeOn WX12_offOn Q x1 x2 M
theorem PX12_offCharge {sh : Nat → Nat × Nat} {t : Nat} {rm : Nat × Nat × Nat} {cs : Nat × Nat} {R : f_Rt} {x1 : Int} {x2 : Int} {M : e_M} (C : f_Hy sh t yX12_offCharge rm cs 5 (lX12_offCharge WX12_rankAt WX12_offRank WX12_id WX12_placeOn WX12_offOn) R) (h : WX12_offCharge x1 x2 M (fun M => R none M)) : f_E sh t YX12_offCharge rm cs (f_Q sh t R) 0 [.inr (.inr (.inl (12, 123, 4456))), .inl x1, .inl x2, .inr (.inr (.inr ()))] [] M :=
  BX12_offCharge C h
def wX12_offCharge : f_Wt := f_wm [(4466, 12, 123), (1, 0, 0), (1, 0, 0)] (fun ar M R => WX12_offCharge (f_vi (f_nth ar 1)) (f_vi (f_nth ar 2)) M (fun M => R none M))
theorem TX12_offCharge {sh : Nat → Nat × Nat} {t : Nat} : f_Mt sh t YX12_offCharge 5 (wX12_offCharge) :=
  f_Mt_of (k := 1) (Nat.le_of_ble_eq_true rfl) rfl rfl (fun ar M R rm cs h1 h2 h3 hX h => PX12_offCharge ⟨Nat.le_of_ble_eq_true rfl, h1, h2, h3, ⟨(f_Mt.up (Nat.le_of_ble_eq_true rfl) TX12_rankAt), (f_Mt.up (Nat.le_of_ble_eq_true rfl) TX12_offRank), (f_Mt.up (Nat.le_of_ble_eq_true rfl) TX12_id), (f_Mt.up (Nat.le_of_ble_eq_true rfl) TX12_placeOn), (f_Mt.up (Nat.le_of_ble_eq_true rfl) TX12_offOn), trivial⟩, hX⟩ h)
def VX12_endCharge_6 (c_X12_id : Int → Int → e_M → (Int → Prop) → Prop) (c_X12_offCharge : Int → Int → e_M → (e_M → Prop) → Prop) (k6 : Int → Int → e_M → Prop) (Q : e_M → Prop) (x1 : Int) (x2 : Int) (M : e_M) : Prop :=
  ((0 ≤ x2 ∧ x2 < 560) ∧ (((M 4492 (x2.toNat)) ≤ 0 → (((0 ≤ x2 ∧ x2 < 560) ∧ ((1 : Int) = 0 ∨ (1 : Int) = 1)) ∧ (∀ M1 : e_M, M1 = e_up M 4485 (x2.toNat) 1 → (Q M1)))) ∧ (0 < (M 4492 (x2.toNat)) → ((0 ≤ (e_w32 ((8 : Int) * x2)) ∧ (e_w32 ((8 : Int) * x2)) < 4480) ∧ (c_X12_offCharge x1 (M 4493 ((e_w32 ((8 : Int) * x2)).toNat)) M (fun M2 => (k6 x1 x2 M2)))))))
def VX12_endCharge (c_X12_id : Int → Int → e_M → (Int → Prop) → Prop) (c_X12_offCharge : Int → Int → e_M → (e_M → Prop) → Prop) (k6 : Int → Int → e_M → Prop) (Q : e_M → Prop) (x1 : Int) (M : e_M) : Prop :=
  (c_X12_id 2 x1 M (fun r1 => (k6 x1 r1 M)))
def yX12_endCharge (i : Nat) : e_Y := x_get YX12_endCharge [YX12_id, YX12_offCharge] i
def pX12_endChargef : List x_I := [(0, 0, 1, 0, 0, 2, []), (1, 2, 1, 1, 0, 0, []), (2, 40, 0, 2, 0, 0, []), (5, 5, 1, 2, 0, 0, []), (6, 49, 0, 0, 0, 0, []), (6, 4, 1, 0, 0, 0, []), (7, 25, 12, 59, 4, 0, [(0, 20, 560), (0, 1, 36)]), (10, 2, 1, 2, 0, 0, []), (11, 27, 0, 0, 0, 0, []), (12, 17, 32, 5, 21, 0, []), (15, 4, 1, 0, 0, 0, []), (16, 2, 1, 1, 0, 0, []), (17, 4, 1, 0, 0, 0, []), (18, 25, 12, 60, 4, 0, [(0, 20, 4480), (0, 1, 37)]), (21, 0, 2, 0, 0, 8, []), (23, 2, 1, 2, 0, 0, []), (24, 9, 0, 2, 0, 0, []), (25, 27, 0, 0, 0, 0, []), (26, 40, 1, 3, 14, 0, []), (29, 19, 6, 0, 5, 0, []), (32, 4, 1, 0, 0, 0, []), (33, 25, 12, 52, 4, 0, [(0, 21, 560), (0, 1, 29)]), (36, 2, 1, 2, 0, 0, []), (37, 0, 1, 0, 0, 1, []), (38, 29, 0, 0, 0, 0, []), (39, 44, 0, 0, 0, 0, [])]
set_option maxRecDepth 20000 in
theorem qX12_endChargef : f_all yX12_endCharge YX12_endCharge pX12_endChargef :=
  ⟨f_iconst (e_dx DX12_endCharge_0 0 rfl) ⟨by decide, by decide⟩,
  f_iload_n (n := 1) (e_dx DX12_endCharge_0 1 rfl) rfl,
  x_callS (e_dx DX12_endCharge_0 2 rfl) mwX12_id cX12_540 swX12_id rfl,
  f_istore_n (n := 2) (e_dx DX12_endCharge_0 3 rfl) rfl (by decide),
  trivial,
  f_aload_n (n := 0) (e_dx DX12_endCharge_0 4 rfl) rfl,
  f_getA (e_dx DX12_endCharge_0 5 rfl) fX12_118 rfl (by decide) (Nat.le_of_ble_eq_true rfl) rfl (by decide),
  f_iload_n (n := 2) (e_dx DX12_endCharge_0 6 rfl) rfl,
  f_iaload (e_dx DX12_endCharge_0 7 rfl),
  f_if_le (e_dx DX12_endCharge_0 8 rfl) rfl,
  f_aload_n (n := 0) (e_dx DX12_endCharge_0 9 rfl) rfl,
  f_iload_n (n := 1) (e_dx DX12_endCharge_0 10 rfl) rfl,
  f_aload_n (n := 0) (e_dx DX12_endCharge_0 11 rfl) rfl,
  f_getA (e_dx DX12_endCharge_0 12 rfl) fX12_121 rfl (by decide) (Nat.le_of_ble_eq_true rfl) rfl (by decide),
  f_bipush (e_dx DX12_endCharge_0 13 rfl) ⟨by decide, by decide⟩,
  f_iload_n (n := 2) (e_dx DX12_endCharge_0 14 rfl) rfl,
  f_imul (e_dx DX12_endCharge_0 15 rfl),
  f_iaload (e_dx DX12_endCharge_0 16 rfl),
  x_callV (e_dx DX12_endCharge_0 17 rfl) mwX12_offCharge vwX12_offCharge cX12_579 rfl,
  f_g19 (e_dx DX12_endCharge_0 18 rfl) rfl,
  f_aload_n (n := 0) (e_dx DX12_endCharge_0 19 rfl) rfl,
  f_getA (e_dx DX12_endCharge_0 20 rfl) fX12_97 rfl (by decide) (Nat.le_of_ble_eq_true rfl) rfl (by decide),
  f_iload_n (n := 2) (e_dx DX12_endCharge_0 21 rfl) rfl,
  f_iconst (e_dx DX12_endCharge_0 22 rfl) ⟨by decide, by decide⟩,
  f_g29 (e_dx DX12_endCharge_0 23 rfl),
  ⟨(e_dx DX12_endCharge_0 24 rfl), rfl⟩, trivial⟩
def lX12_endCharge (c_X12_id : Int → Int → e_M → (Int → Prop) → Prop) (c_X12_offCharge : Int → Int → e_M → (e_M → Prop) → Prop) : List (Nat × f_Wt) := [(0, f_wm [(1, 0, 0), (1, 0, 0)] (fun ar M R => c_X12_id (f_vi (f_nth ar 0)) (f_vi (f_nth ar 1)) M (fun r => R (some (.inl r)) M))), (1, f_wm [(4466, 12, 123), (1, 0, 0), (1, 0, 0)] (fun ar M R => c_X12_offCharge (f_vi (f_nth ar 1)) (f_vi (f_nth ar 2)) M (fun M => R none M)))]
set_option maxRecDepth 20000 in
theorem BX12_endCharge_6 {sh : Nat → Nat × Nat} {t : Nat} {rm : Nat × Nat × Nat} {cs : Nat × Nat} {R : f_Rt} {c_X12_id : Int → Int → e_M → (Int → Prop) → Prop} {c_X12_offCharge : Int → Int → e_M → (e_M → Prop) → Prop} {k6 : Int → Int → e_M → Prop} {x1 : Int} {x2 : Int} {M : e_M} (C : f_Hy sh t yX12_endCharge rm cs 6 (lX12_endCharge c_X12_id c_X12_offCharge) R) (h6 : ∀ (x1 : Int) (x2 : Int) (M : e_M), k6 x1 x2 M → f_E sh t YX12_endCharge rm cs (f_Q sh t R) 6 [.inr (.inr (.inl (12, 123, 4456))), .inl x1, .inl x2] [] M) (h : VX12_endCharge_6 c_X12_id c_X12_offCharge k6 (fun M => R none M) x1 x2 M) : f_E sh t YX12_endCharge rm cs (f_Q sh t R) 6 [.inr (.inr (.inl (12, 123, 4456))), .inl x1, .inl x2] [] M :=
  f_go (KC := f_kc [(6, f_pl [(4466, 12, 123), (1, 0, 0), (1, 0, 0)] [] (fun ls st M => k6 (f_vi (f_nth ls 1)) (f_vi (f_nth ls 2)) M))]) C qX12_endChargef (f_kc_cons (f_pl_ok rfl (fun ls st M h => h6 _ _ M h)) f_kc_nil) 28 5 h
set_option maxRecDepth 20000 in
theorem BX12_endCharge {sh : Nat → Nat × Nat} {t : Nat} {rm : Nat × Nat × Nat} {cs : Nat × Nat} {R : f_Rt} {c_X12_id : Int → Int → e_M → (Int → Prop) → Prop} {c_X12_offCharge : Int → Int → e_M → (e_M → Prop) → Prop} {k6 : Int → Int → e_M → Prop} {x1 : Int} {M : e_M} (C : f_Hy sh t yX12_endCharge rm cs 6 (lX12_endCharge c_X12_id c_X12_offCharge) R) (h6 : ∀ (x1 : Int) (x2 : Int) (M : e_M), k6 x1 x2 M → f_E sh t YX12_endCharge rm cs (f_Q sh t R) 6 [.inr (.inr (.inl (12, 123, 4456))), .inl x1, .inl x2] [] M) (h : VX12_endCharge c_X12_id c_X12_offCharge k6 (fun M => R none M) x1 M) : f_E sh t YX12_endCharge rm cs (f_Q sh t R) 0 [.inr (.inr (.inl (12, 123, 4456))), .inl x1, .inr (.inr (.inr ()))] [] M :=
  f_go (KC := f_kc [(6, f_pl [(4466, 12, 123), (1, 0, 0), (1, 0, 0)] [] (fun ls st M => k6 (f_vi (f_nth ls 1)) (f_vi (f_nth ls 2)) M))]) C qX12_endChargef (f_kc_cons (f_pl_ok rfl (fun ls st M h => h6 _ _ M h)) f_kc_nil) 28 0 h
def WX12_endCharge_6 (Q : e_M → Prop) : Nat → Int → Int → e_M → Prop
  | 0, _, _, _ => False
  | n + 1, x1, x2, M =>
    VX12_endCharge_6 WX12_id WX12_offCharge (WX12_endCharge_6 Q n) Q x1 x2 M
def WX12_endCharge (x1 : Int) (M : e_M) (Q : e_M → Prop) : Prop :=
  VX12_endCharge WX12_id WX12_offCharge (fun x1 x2 M => ∃ j, WX12_endCharge_6 Q j x1 x2 M) Q x1 M
theorem PX12_endCharge_6 {sh : Nat → Nat × Nat} {t : Nat} {rm : Nat × Nat × Nat} {cs : Nat × Nat} {R : f_Rt} (C : f_Hy sh t yX12_endCharge rm cs 6 (lX12_endCharge WX12_id WX12_offCharge) R) : ∀ (n : Nat) (x1 : Int) (x2 : Int) (M : e_M), WX12_endCharge_6 (fun M => R none M) n x1 x2 M → f_E sh t YX12_endCharge rm cs (f_Q sh t R) 6 [.inr (.inr (.inl (12, 123, 4456))), .inl x1, .inl x2] [] M := by
  intro n
  induction n with
  | zero => intro x1 x2 M h; exact h.elim
  | succ n ih => intro x1 x2 M h; exact BX12_endCharge_6 C ih h
theorem PX12_endCharge {sh : Nat → Nat × Nat} {t : Nat} {rm : Nat × Nat × Nat} {cs : Nat × Nat} {R : f_Rt} {x1 : Int} {M : e_M} (C : f_Hy sh t yX12_endCharge rm cs 6 (lX12_endCharge WX12_id WX12_offCharge) R) (h : WX12_endCharge x1 M (fun M => R none M)) : f_E sh t YX12_endCharge rm cs (f_Q sh t R) 0 [.inr (.inr (.inl (12, 123, 4456))), .inl x1, .inr (.inr (.inr ()))] [] M :=
  BX12_endCharge C (fun x1 x2 M ⟨j, h⟩ => PX12_endCharge_6 C j _ _ _ h) h
def wX12_endCharge : f_Wt := f_wm [(4466, 12, 123), (1, 0, 0)] (fun ar M R => WX12_endCharge (f_vi (f_nth ar 1)) M (fun M => R none M))
theorem TX12_endCharge {sh : Nat → Nat × Nat} {t : Nat} : f_Mt sh t YX12_endCharge 6 (wX12_endCharge) :=
  f_Mt_of (k := 1) (Nat.le_of_ble_eq_true rfl) rfl rfl (fun ar M R rm cs h1 h2 h3 hX h => PX12_endCharge ⟨Nat.le_of_ble_eq_true rfl, h1, h2, h3, ⟨(f_Mt.up (Nat.le_of_ble_eq_true rfl) TX12_id), (f_Mt.up (Nat.le_of_ble_eq_true rfl) TX12_offCharge), trivial⟩, hX⟩ h)
def VX12_offLot (c_X12_placeOn : Int → Int → e_M → (Int → Prop) → Prop) (c_X12_offOn : Int → Int → e_M → (e_M → Prop) → Prop) (Q : e_M → Prop) (x1 : Int) (x2 : Int) (M : e_M) : Prop :=
  (c_X12_placeOn x1 x2 M (fun r1 => ((0 ≤ r1 → (c_X12_offOn x1 r1 M (fun M2 => ((0 ≤ x1 ∧ x1 < 560) ∧ ((¬ (M2 4492 (x1.toNat)) = 0 → (Q M2)) ∧ ((M2 4492 (x1.toNat)) = 0 → (((0 ≤ x1 ∧ x1 < 560) ∧ ((1 : Int) = 0 ∨ (1 : Int) = 1)) ∧ (∀ M3 : e_M, M3 = e_up M2 4485 (x1.toNat) 1 → (Q M3))))))))) ∧ (r1 < 0 → (Q M)))))
def yX12_offLot (i : Nat) : e_Y := x_get YX12_offLot [YX12_placeOn, YX12_offOn] i
def pX12_offLotf : List x_I := [(0, 4, 1, 0, 0, 0, []), (1, 2, 1, 1, 0, 0, []), (2, 2, 1, 2, 0, 0, []), (3, 40, 0, 3, 14, 0, []), (6, 5, 1, 3, 0, 0, []), (7, 2, 1, 3, 0, 0, []), (8, 17, 12, 3, 9, 0, []), (11, 44, 0, 0, 0, 0, []), (12, 4, 1, 0, 0, 0, []), (13, 2, 1, 1, 0, 0, []), (14, 2, 1, 3, 0, 0, []), (15, 40, 1, 3, 14, 0, []), (18, 4, 1, 0, 0, 0, []), (19, 25, 12, 59, 4, 0, [(0, 20, 560), (0, 1, 36)]), (22, 2, 1, 1, 0, 0, []), (23, 27, 0, 0, 0, 0, []), (24, 17, 34, 1, 23, 0, []), (27, 4, 1, 0, 0, 0, []), (28, 25, 12, 52, 4, 0, [(0, 21, 560), (0, 1, 29)]), (31, 2, 1, 1, 0, 0, []), (32, 0, 1, 0, 0, 1, []), (33, 29, 0, 0, 0, 0, []), (34, 44, 0, 0, 0, 0, [])]
set_option maxRecDepth 20000 in
theorem qX12_offLotf : f_all yX12_offLot YX12_offLot pX12_offLotf :=
  ⟨f_aload_n (n := 0) (e_dx DX12_offLot_0 0 rfl) rfl,
  f_iload_n (n := 1) (e_dx DX12_offLot_0 1 rfl) rfl,
  f_iload_n (n := 2) (e_dx DX12_offLot_0 2 rfl) rfl,
  x_callV (e_dx DX12_offLot_0 3 rfl) mwX12_placeOn vwX12_placeOn cX12_573 rfl,
  f_istore_n (n := 3) (e_dx DX12_offLot_0 4 rfl) rfl (by decide),
  f_iload_n (n := 3) (e_dx DX12_offLot_0 5 rfl) rfl,
  f_if_ge (e_dx DX12_offLot_0 6 rfl) rfl,
  ⟨(e_dx DX12_offLot_0 7 rfl), rfl⟩,
  f_aload_n (n := 0) (e_dx DX12_offLot_0 8 rfl) rfl,
  f_iload_n (n := 1) (e_dx DX12_offLot_0 9 rfl) rfl,
  f_iload_n (n := 3) (e_dx DX12_offLot_0 10 rfl) rfl,
  x_callV (e_dx DX12_offLot_0 11 rfl) mwX12_offOn vwX12_offOn cX12_576 rfl,
  f_aload_n (n := 0) (e_dx DX12_offLot_0 12 rfl) rfl,
  f_getA (e_dx DX12_offLot_0 13 rfl) fX12_118 rfl (by decide) (Nat.le_of_ble_eq_true rfl) rfl (by decide),
  f_iload_n (n := 1) (e_dx DX12_offLot_0 14 rfl) rfl,
  f_iaload (e_dx DX12_offLot_0 15 rfl),
  f_if_ne (e_dx DX12_offLot_0 16 rfl) rfl,
  f_aload_n (n := 0) (e_dx DX12_offLot_0 17 rfl) rfl,
  f_getA (e_dx DX12_offLot_0 18 rfl) fX12_97 rfl (by decide) (Nat.le_of_ble_eq_true rfl) rfl (by decide),
  f_iload_n (n := 1) (e_dx DX12_offLot_0 19 rfl) rfl,
  f_iconst (e_dx DX12_offLot_0 20 rfl) ⟨by decide, by decide⟩,
  f_g29 (e_dx DX12_offLot_0 21 rfl),
  ⟨(e_dx DX12_offLot_0 22 rfl), rfl⟩, trivial⟩
def lX12_offLot (c_X12_placeOn : Int → Int → e_M → (Int → Prop) → Prop) (c_X12_offOn : Int → Int → e_M → (e_M → Prop) → Prop) : List (Nat × f_Wt) := [(0, f_wm [(4466, 12, 123), (1, 0, 0), (1, 0, 0)] (fun ar M R => c_X12_placeOn (f_vi (f_nth ar 1)) (f_vi (f_nth ar 2)) M (fun r => R (some (.inl r)) M))), (1, f_wm [(4466, 12, 123), (1, 0, 0), (1, 0, 0)] (fun ar M R => c_X12_offOn (f_vi (f_nth ar 1)) (f_vi (f_nth ar 2)) M (fun M => R none M)))]
set_option maxRecDepth 20000 in
theorem BX12_offLot {sh : Nat → Nat × Nat} {t : Nat} {rm : Nat × Nat × Nat} {cs : Nat × Nat} {R : f_Rt} {c_X12_placeOn : Int → Int → e_M → (Int → Prop) → Prop} {c_X12_offOn : Int → Int → e_M → (e_M → Prop) → Prop} {x1 : Int} {x2 : Int} {M : e_M} (C : f_Hy sh t yX12_offLot rm cs 5 (lX12_offLot c_X12_placeOn c_X12_offOn) R) (h : VX12_offLot c_X12_placeOn c_X12_offOn (fun M => R none M) x1 x2 M) : f_E sh t YX12_offLot rm cs (f_Q sh t R) 0 [.inr (.inr (.inl (12, 123, 4456))), .inl x1, .inl x2, .inr (.inr (.inr ()))] [] M :=
  f_go (KC := f_kc []) C qX12_offLotf f_kc_nil 25 0 h
def WX12_offLot (x1 : Int) (x2 : Int) (M : e_M) (Q : e_M → Prop) : Prop :=
  VX12_offLot WX12_placeOn WX12_offOn Q x1 x2 M
theorem PX12_offLot {sh : Nat → Nat × Nat} {t : Nat} {rm : Nat × Nat × Nat} {cs : Nat × Nat} {R : f_Rt} {x1 : Int} {x2 : Int} {M : e_M} (C : f_Hy sh t yX12_offLot rm cs 5 (lX12_offLot WX12_placeOn WX12_offOn) R) (h : WX12_offLot x1 x2 M (fun M => R none M)) : f_E sh t YX12_offLot rm cs (f_Q sh t R) 0 [.inr (.inr (.inl (12, 123, 4456))), .inl x1, .inl x2, .inr (.inr (.inr ()))] [] M :=
  BX12_offLot C h
def wX12_offLot : f_Wt := f_wm [(4466, 12, 123), (1, 0, 0), (1, 0, 0)] (fun ar M R => WX12_offLot (f_vi (f_nth ar 1)) (f_vi (f_nth ar 2)) M (fun M => R none M))
theorem TX12_offLot {sh : Nat → Nat × Nat} {t : Nat} : f_Mt sh t YX12_offLot 5 (wX12_offLot) :=
  f_Mt_of (k := 1) (Nat.le_of_ble_eq_true rfl) rfl rfl (fun ar M R rm cs h1 h2 h3 hX h => PX12_offLot ⟨Nat.le_of_ble_eq_true rfl, h1, h2, h3, ⟨(f_Mt.up (Nat.le_of_ble_eq_true rfl) TX12_placeOn), (f_Mt.up (Nat.le_of_ble_eq_true rfl) TX12_offOn), trivial⟩, hX⟩ h)
def VX12_isBarred_2 (c_X12_isThere : Int → Int → Int → e_M → (Int → Prop) → Prop) (c_X12_id : Int → Int → e_M → (Int → Prop) → Prop) (c_X12_placeOn : Int → Int → e_M → (Int → Prop) → Prop) (k54 : Int → Int → Int → Prop) (Q : Int → Prop) (x1 : Int) (x2 : Int) (x3 : Int) (M : e_M) : Prop :=
  ((0 ≤ (5 : Int) ∧ (5 : Int) < 7) ∧ (((M 4483 ((5 : Int).toNat)) ≤ x3 → (Q 0)) ∧ (x3 < (M 4483 ((5 : Int).toNat)) → (c_X12_isThere 5 x3 (M 4456 86) M (fun r1 => ((r1 = 0 → (k54 x1 x2 x3)) ∧ (¬ r1 = 0 → (c_X12_id 5 x3 M (fun r2 => (c_X12_placeOn r2 x1 M (fun r3 => ((r3 < 0 → (k54 x1 x2 x3)) ∧ (0 ≤ r3 → (c_X12_id 5 x3 M (fun r4 => ((0 ≤ r4 ∧ r4 < 560) ∧ (((M 4489 (r4.toNat)) = x2 → (k54 x1 x2 x3)) ∧ (¬ (M 4489 (r4.toNat)) = x2 → (Q 1)))))))))))))))))))
def VX12_isBarred_54 (c_X12_isThere : Int → Int → Int → e_M → (Int → Prop) → Prop) (c_X12_id : Int → Int → e_M → (Int → Prop) → Prop) (c_X12_placeOn : Int → Int → e_M → (Int → Prop) → Prop) (k2 : Int → Int → Int → Prop) (Q : Int → Prop) (x1 : Int) (x2 : Int) (x3 : Int) (M : e_M) : Prop :=
  (k2 x1 x2 (e_w32 (x3 + 1)))
def VX12_isBarred (c_X12_isThere : Int → Int → Int → e_M → (Int → Prop) → Prop) (c_X12_id : Int → Int → e_M → (Int → Prop) → Prop) (c_X12_placeOn : Int → Int → e_M → (Int → Prop) → Prop) (k2 : Int → Int → Int → Prop) (Q : Int → Prop) (x1 : Int) (x2 : Int) (M : e_M) : Prop :=
  (k2 x1 x2 0)
def yX12_isBarred (i : Nat) : e_Y := x_get YX12_isBarred [YX12_isThere, YX12_id, YX12_placeOn] i
def pX12_isBarredf : List x_I := [(0, 0, 1, 0, 0, 0, []), (1, 5, 1, 3, 0, 0, []), (2, 49, 0, 0, 0, 0, []), (2, 2, 1, 3, 0, 0, []), (3, 4, 1, 0, 0, 0, []), (4, 25, 12, 50, 4, 0, [(0, 20, 7), (0, 1, 27)]), (7, 0, 1, 0, 0, 5, []), (8, 27, 0, 0, 0, 0, []), (9, 18, 60, 3, 37, 0, []), (12, 4, 1, 0, 0, 0, []), (13, 0, 1, 0, 0, 5, []), (14, 2, 1, 3, 0, 0, []), (15, 4, 1, 0, 0, 0, []), (16, 25, 12, 86, 0, 0, []), (19, 40, 0, 4, 14, 0, []), (22, 17, 54, 0, 34, 0, []), (25, 4, 1, 0, 0, 0, []), (26, 0, 1, 0, 0, 5, []), (27, 2, 1, 3, 0, 0, []), (28, 40, 1, 2, 0, 0, []), (31, 2, 1, 1, 0, 0, []), (32, 40, 2, 3, 14, 0, []), (35, 17, 54, 2, 34, 0, []), (38, 4, 1, 0, 0, 0, []), (39, 25, 12, 56, 4, 0, [(0, 20, 560), (0, 1, 33)]), (42, 0, 1, 0, 0, 5, []), (43, 2, 1, 3, 0, 0, []), (44, 40, 1, 2, 0, 0, []), (47, 27, 0, 0, 0, 0, []), (48, 2, 1, 2, 0, 0, []), (49, 18, 54, 0, 34, 0, []), (52, 0, 1, 0, 0, 1, []), (53, 48, 0, 0, 0, 0, []), (54, 49, 0, 0, 0, 0, []), (54, 8, 0, 3, 0, 1, []), (57, 19, 2, 0, 3, 0, []), (60, 0, 1, 0, 0, 0, []), (61, 48, 0, 0, 0, 0, [])]
set_option maxRecDepth 20000 in
theorem qX12_isBarredf : f_all yX12_isBarred YX12_isBarred pX12_isBarredf :=
  ⟨f_iconst (e_dx DX12_isBarred_0 0 rfl) ⟨by decide, by decide⟩,
  f_istore_n (n := 3) (e_dx DX12_isBarred_0 1 rfl) rfl (by decide),
  trivial,
  f_iload_n (n := 3) (e_dx DX12_isBarred_0 2 rfl) rfl,
  f_aload_n (n := 0) (e_dx DX12_isBarred_0 3 rfl) rfl,
  f_getA (e_dx DX12_isBarred_0 4 rfl) fX12_91 rfl (by decide) (Nat.le_of_ble_eq_true rfl) rfl (by decide),
  f_iconst (e_dx DX12_isBarred_0 5 rfl) ⟨by decide, by decide⟩,
  f_iaload (e_dx DX12_isBarred_0 6 rfl),
  f_icmp_ge (e_dx DX12_isBarred_0 7 rfl) rfl,
  f_aload_n (n := 0) (e_dx DX12_isBarred_0 8 rfl) rfl,
  f_iconst (e_dx DX12_isBarred_0 9 rfl) ⟨by decide, by decide⟩,
  f_iload_n (n := 3) (e_dx DX12_isBarred_0 10 rfl) rfl,
  f_aload_n (n := 0) (e_dx DX12_isBarred_0 11 rfl) rfl,
  f_getf (e_dx DX12_isBarred_0 12 rfl) fX12_543 rfl (by decide) (by decide) (by decide),
  x_callV (e_dx DX12_isBarred_0 13 rfl) mwX12_isThere vwX12_isThere cX12_549 rfl,
  f_if_eq (e_dx DX12_isBarred_0 14 rfl) rfl,
  f_aload_n (n := 0) (e_dx DX12_isBarred_0 15 rfl) rfl,
  f_iconst (e_dx DX12_isBarred_0 16 rfl) ⟨by decide, by decide⟩,
  f_iload_n (n := 3) (e_dx DX12_isBarred_0 17 rfl) rfl,
  x_callS (e_dx DX12_isBarred_0 18 rfl) mwX12_id cX12_540 swX12_id rfl,
  f_iload_n (n := 1) (e_dx DX12_isBarred_0 19 rfl) rfl,
  x_callV (e_dx DX12_isBarred_0 20 rfl) mwX12_placeOn vwX12_placeOn cX12_573 rfl,
  f_if_lt (e_dx DX12_isBarred_0 21 rfl) rfl,
  f_aload_n (n := 0) (e_dx DX12_isBarred_0 22 rfl) rfl,
  f_getA (e_dx DX12_isBarred_0 23 rfl) fX12_109 rfl (by decide) (Nat.le_of_ble_eq_true rfl) rfl (by decide),
  f_iconst (e_dx DX12_isBarred_0 24 rfl) ⟨by decide, by decide⟩,
  f_iload_n (n := 3) (e_dx DX12_isBarred_0 25 rfl) rfl,
  x_callS (e_dx DX12_isBarred_0 26 rfl) mwX12_id cX12_540 swX12_id rfl,
  f_iaload (e_dx DX12_isBarred_0 27 rfl),
  f_iload_n (n := 2) (e_dx DX12_isBarred_0 28 rfl) rfl,
  f_icmp_eq (e_dx DX12_isBarred_0 29 rfl) rfl,
  f_iconst (e_dx DX12_isBarred_0 30 rfl) ⟨by decide, by decide⟩,
  ⟨(e_dx DX12_isBarred_0 31 rfl), rfl⟩,
  trivial,
  f_g8 (e_dx DX12_isBarred_0 32 rfl) ⟨by decide, by decide⟩,
  f_g19 (e_dx DX12_isBarred_0 33 rfl) rfl,
  f_iconst (e_dx DX12_isBarred_0 34 rfl) ⟨by decide, by decide⟩,
  ⟨(e_dx DX12_isBarred_0 35 rfl), rfl⟩, trivial⟩
def lX12_isBarred (c_X12_isThere : Int → Int → Int → e_M → (Int → Prop) → Prop) (c_X12_id : Int → Int → e_M → (Int → Prop) → Prop) (c_X12_placeOn : Int → Int → e_M → (Int → Prop) → Prop) : List (Nat × f_Wt) := [(0, f_wm [(4466, 12, 123), (1, 0, 0), (1, 0, 0), (1, 0, 0)] (fun ar M R => c_X12_isThere (f_vi (f_nth ar 1)) (f_vi (f_nth ar 2)) (f_vi (f_nth ar 3)) M (fun r => R (some (.inl r)) M))), (1, f_wm [(1, 0, 0), (1, 0, 0)] (fun ar M R => c_X12_id (f_vi (f_nth ar 0)) (f_vi (f_nth ar 1)) M (fun r => R (some (.inl r)) M))), (2, f_wm [(4466, 12, 123), (1, 0, 0), (1, 0, 0)] (fun ar M R => c_X12_placeOn (f_vi (f_nth ar 1)) (f_vi (f_nth ar 2)) M (fun r => R (some (.inl r)) M)))]
set_option maxRecDepth 20000 in
theorem BX12_isBarred_2 {sh : Nat → Nat × Nat} {t : Nat} {rm : Nat × Nat × Nat} {cs : Nat × Nat} {R : f_Rt} {c_X12_isThere : Int → Int → Int → e_M → (Int → Prop) → Prop} {c_X12_id : Int → Int → e_M → (Int → Prop) → Prop} {c_X12_placeOn : Int → Int → e_M → (Int → Prop) → Prop} {k54 : Int → Int → Int → Prop} {x1 : Int} {x2 : Int} {x3 : Int} {M : e_M} (C : f_Hy sh t yX12_isBarred rm cs 6 (lX12_isBarred c_X12_isThere c_X12_id c_X12_placeOn) R) (h54 : ∀ (x1 : Int) (x2 : Int) (x3 : Int), k54 x1 x2 x3 → f_E sh t YX12_isBarred rm cs (f_Q sh t R) 54 [.inr (.inr (.inl (12, 123, 4456))), .inl x1, .inl x2, .inl x3] [] M) (h : VX12_isBarred_2 c_X12_isThere c_X12_id c_X12_placeOn k54 (fun r => R (some (.inl r)) M) x1 x2 x3 M) : f_E sh t YX12_isBarred rm cs (f_Q sh t R) 2 [.inr (.inr (.inl (12, 123, 4456))), .inl x1, .inl x2, .inl x3] [] M := by
  rw [f_kk3 M k54] at h
  exact f_go (KC := f_kc [(54, f_pl [(4466, 12, 123), (1, 0, 0), (1, 0, 0), (1, 0, 0)] [] (fun ls st M2 => M2 = M ∧ (k54 (f_vi (f_nth ls 1)) (f_vi (f_nth ls 2)) (f_vi (f_nth ls 3)))))]) C qX12_isBarredf (f_kc_cons (f_pl_ok rfl (fun ls st M2 ⟨e, hh⟩ => by subst e; exact h54 _ _ _ hh)) f_kc_nil) 40 3 h
set_option maxRecDepth 20000 in
theorem BX12_isBarred_54 {sh : Nat → Nat × Nat} {t : Nat} {rm : Nat × Nat × Nat} {cs : Nat × Nat} {R : f_Rt} {c_X12_isThere : Int → Int → Int → e_M → (Int → Prop) → Prop} {c_X12_id : Int → Int → e_M → (Int → Prop) → Prop} {c_X12_placeOn : Int → Int → e_M → (Int → Prop) → Prop} {k2 : Int → Int → Int → Prop} {x1 : Int} {x2 : Int} {x3 : Int} {M : e_M} (C : f_Hy sh t yX12_isBarred rm cs 6 (lX12_isBarred c_X12_isThere c_X12_id c_X12_placeOn) R) (h2 : ∀ (x1 : Int) (x2 : Int) (x3 : Int), k2 x1 x2 x3 → f_E sh t YX12_isBarred rm cs (f_Q sh t R) 2 [.inr (.inr (.inl (12, 123, 4456))), .inl x1, .inl x2, .inl x3] [] M) (h : VX12_isBarred_54 c_X12_isThere c_X12_id c_X12_placeOn k2 (fun r => R (some (.inl r)) M) x1 x2 x3 M) : f_E sh t YX12_isBarred rm cs (f_Q sh t R) 54 [.inr (.inr (.inl (12, 123, 4456))), .inl x1, .inl x2, .inl x3] [] M := by
  rw [f_kk3 M k2] at h
  exact f_go (KC := f_kc [(2, f_pl [(4466, 12, 123), (1, 0, 0), (1, 0, 0), (1, 0, 0)] [] (fun ls st M2 => M2 = M ∧ (k2 (f_vi (f_nth ls 1)) (f_vi (f_nth ls 2)) (f_vi (f_nth ls 3)))))]) C qX12_isBarredf (f_kc_cons (f_pl_ok rfl (fun ls st M2 ⟨e, hh⟩ => by subst e; exact h2 _ _ _ hh)) f_kc_nil) 40 34 h
set_option maxRecDepth 20000 in
theorem BX12_isBarred {sh : Nat → Nat × Nat} {t : Nat} {rm : Nat × Nat × Nat} {cs : Nat × Nat} {R : f_Rt} {c_X12_isThere : Int → Int → Int → e_M → (Int → Prop) → Prop} {c_X12_id : Int → Int → e_M → (Int → Prop) → Prop} {c_X12_placeOn : Int → Int → e_M → (Int → Prop) → Prop} {k2 : Int → Int → Int → Prop} {x1 : Int} {x2 : Int} {M : e_M} (C : f_Hy sh t yX12_isBarred rm cs 6 (lX12_isBarred c_X12_isThere c_X12_id c_X12_placeOn) R) (h2 : ∀ (x1 : Int) (x2 : Int) (x3 : Int), k2 x1 x2 x3 → f_E sh t YX12_isBarred rm cs (f_Q sh t R) 2 [.inr (.inr (.inl (12, 123, 4456))), .inl x1, .inl x2, .inl x3] [] M) (h : VX12_isBarred c_X12_isThere c_X12_id c_X12_placeOn k2 (fun r => R (some (.inl r)) M) x1 x2 M) : f_E sh t YX12_isBarred rm cs (f_Q sh t R) 0 [.inr (.inr (.inl (12, 123, 4456))), .inl x1, .inl x2, .inr (.inr (.inr ()))] [] M := by
  rw [f_kk3 M k2] at h
  exact f_go (KC := f_kc [(2, f_pl [(4466, 12, 123), (1, 0, 0), (1, 0, 0), (1, 0, 0)] [] (fun ls st M2 => M2 = M ∧ (k2 (f_vi (f_nth ls 1)) (f_vi (f_nth ls 2)) (f_vi (f_nth ls 3)))))]) C qX12_isBarredf (f_kc_cons (f_pl_ok rfl (fun ls st M2 ⟨e, hh⟩ => by subst e; exact h2 _ _ _ hh)) f_kc_nil) 40 0 h
def WX12_isBarred_54 (M : e_M) (H2 : Int → Int → Int → Prop) (Q : Int → Prop) (x1 : Int) (x2 : Int) (x3 : Int) : Prop :=
  VX12_isBarred_54 WX12_isThere WX12_id WX12_placeOn H2 Q x1 x2 x3 M
def WX12_isBarred_2 (M : e_M) (Q : Int → Prop) : Nat → Int → Int → Int → Prop
  | 0, _, _, _ => False
  | n + 1, x1, x2, x3 =>
    VX12_isBarred_2 WX12_isThere WX12_id WX12_placeOn (WX12_isBarred_54 M (WX12_isBarred_2 M Q n) Q) Q x1 x2 x3 M
def WX12_isBarred (x1 : Int) (x2 : Int) (M : e_M) (Q : Int → Prop) : Prop :=
  VX12_isBarred WX12_isThere WX12_id WX12_placeOn (fun x1 x2 x3 => ∃ j, WX12_isBarred_2 M Q j x1 x2 x3) Q x1 x2 M
theorem PX12_isBarred_54 {sh : Nat → Nat × Nat} {t : Nat} {rm : Nat × Nat × Nat} {cs : Nat × Nat} {R : f_Rt} {H2 : Int → Int → Int → Prop} {x1 : Int} {x2 : Int} {x3 : Int} {M : e_M} (C : f_Hy sh t yX12_isBarred rm cs 6 (lX12_isBarred WX12_isThere WX12_id WX12_placeOn) R) (g2 : ∀ (x1 : Int) (x2 : Int) (x3 : Int), H2 x1 x2 x3 → f_E sh t YX12_isBarred rm cs (f_Q sh t R) 2 [.inr (.inr (.inl (12, 123, 4456))), .inl x1, .inl x2, .inl x3] [] M) (h : WX12_isBarred_54 M H2 (fun r => R (some (.inl r)) M) x1 x2 x3) : f_E sh t YX12_isBarred rm cs (f_Q sh t R) 54 [.inr (.inr (.inl (12, 123, 4456))), .inl x1, .inl x2, .inl x3] [] M :=
  BX12_isBarred_54 C g2 h
theorem PX12_isBarred_2 {sh : Nat → Nat × Nat} {t : Nat} {rm : Nat × Nat × Nat} {cs : Nat × Nat} {R : f_Rt} {M : e_M} (C : f_Hy sh t yX12_isBarred rm cs 6 (lX12_isBarred WX12_isThere WX12_id WX12_placeOn) R) : ∀ (n : Nat) (x1 : Int) (x2 : Int) (x3 : Int), WX12_isBarred_2 M (fun r => R (some (.inl r)) M) n x1 x2 x3 → f_E sh t YX12_isBarred rm cs (f_Q sh t R) 2 [.inr (.inr (.inl (12, 123, 4456))), .inl x1, .inl x2, .inl x3] [] M := by
  intro n
  induction n with
  | zero => intro x1 x2 x3 h; exact h.elim
  | succ n ih => intro x1 x2 x3 h; exact BX12_isBarred_2 C (fun x1 x2 x3 h => PX12_isBarred_54 C ih h) h
theorem PX12_isBarred {sh : Nat → Nat × Nat} {t : Nat} {rm : Nat × Nat × Nat} {cs : Nat × Nat} {R : f_Rt} {x1 : Int} {x2 : Int} {M : e_M} (C : f_Hy sh t yX12_isBarred rm cs 6 (lX12_isBarred WX12_isThere WX12_id WX12_placeOn) R) (h : WX12_isBarred x1 x2 M (fun r => R (some (.inl r)) M)) : f_E sh t YX12_isBarred rm cs (f_Q sh t R) 0 [.inr (.inr (.inl (12, 123, 4456))), .inl x1, .inl x2, .inr (.inr (.inr ()))] [] M :=
  BX12_isBarred C (fun x1 x2 x3 ⟨j, h⟩ => PX12_isBarred_2 C j _ _ _ h) h
def wX12_isBarred : f_Wt := f_wm [(4466, 12, 123), (1, 0, 0), (1, 0, 0)] (fun ar M R => WX12_isBarred (f_vi (f_nth ar 1)) (f_vi (f_nth ar 2)) M (fun r => R (some (.inl r)) M))
theorem TX12_isBarred {sh : Nat → Nat × Nat} {t : Nat} : f_Mt sh t YX12_isBarred 6 (wX12_isBarred) :=
  f_Mt_of (k := 1) (Nat.le_of_ble_eq_true rfl) rfl rfl (fun ar M R rm cs h1 h2 h3 hX h => PX12_isBarred ⟨Nat.le_of_ble_eq_true rfl, h1, h2, h3, ⟨(f_Mt.up (Nat.le_of_ble_eq_true rfl) TX12_isThere), (f_Mt.up (Nat.le_of_ble_eq_true rfl) TX12_id), (f_Mt.up (Nat.le_of_ble_eq_true rfl) TX12_placeOn), trivial⟩, hX⟩ h)
def VX12_areAble_2 (c_X12_isAble : Int → Int → e_M → (Int → Prop) → Prop) (k2 : Int → Int → Prop) (Q : Int → Prop) (x1 : Int) (x2 : Int) (M : e_M) : Prop :=
  ((0 ≤ x1 ∧ x1 < 80) ∧ (((M 4497 (x1.toNat)) ≤ x2 → (Q 1)) ∧ (x2 < (M 4497 (x1.toNat)) → ((0 ≤ (e_w32 ((e_w32 ((8 : Int) * x1)) + x2)) ∧ (e_w32 ((e_w32 ((8 : Int) * x1)) + x2)) < 640) ∧ (c_X12_isAble (M 4498 ((e_w32 ((e_w32 ((8 : Int) * x1)) + x2)).toNat)) (M 4456 86) M (fun r1 => ((¬ r1 = 0 → (k2 x1 (e_w32 (x2 + 1)))) ∧ (r1 = 0 → (Q 0)))))))))
def VX12_areAble (c_X12_isAble : Int → Int → e_M → (Int → Prop) → Prop) (k2 : Int → Int → Prop) (Q : Int → Prop) (x1 : Int) (M : e_M) : Prop :=
  (k2 x1 0)
def yX12_areAble (i : Nat) : e_Y := x_get YX12_areAble [YX12_isAble] i
def pX12_areAblef : List x_I := [(0, 0, 1, 0, 0, 0, []), (1, 5, 1, 2, 0, 0, []), (2, 49, 0, 0, 0, 0, []), (2, 2, 1, 2, 0, 0, []), (3, 4, 1, 0, 0, 0, []), (4, 25, 12, 64, 4, 0, [(0, 20, 80), (0, 1, 41)]), (7, 2, 1, 1, 0, 0, []), (8, 27, 0, 0, 0, 0, []), (9, 18, 42, 3, 27, 0, []), (12, 4, 1, 0, 0, 0, []), (13, 4, 1, 0, 0, 0, []), (14, 25, 12, 65, 4, 0, [(0, 20, 640), (0, 1, 42)]), (17, 0, 2, 0, 0, 8, []), (19, 2, 1, 1, 0, 0, []), (20, 9, 0, 2, 0, 0, []), (21, 2, 1, 2, 0, 0, []), (22, 9, 0, 0, 0, 0, []), (23, 27, 0, 0, 0, 0, []), (24, 4, 1, 0, 0, 0, []), (25, 25, 12, 86, 0, 0, []), (28, 40, 0, 3, 14, 0, []), (31, 17, 36, 1, 25, 0, []), (34, 0, 1, 0, 0, 0, []), (35, 48, 0, 0, 0, 0, []), (36, 8, 0, 2, 0, 1, []), (39, 19, 2, 0, 3, 0, []), (42, 0, 1, 0, 0, 1, []), (43, 48, 0, 0, 0, 0, [])]
set_option maxRecDepth 20000 in
theorem qX12_areAblef : f_all yX12_areAble YX12_areAble pX12_areAblef :=
  ⟨f_iconst (e_dx DX12_areAble_0 0 rfl) ⟨by decide, by decide⟩,
  f_istore_n (n := 2) (e_dx DX12_areAble_0 1 rfl) rfl (by decide),
  trivial,
  f_iload_n (n := 2) (e_dx DX12_areAble_0 2 rfl) rfl,
  f_aload_n (n := 0) (e_dx DX12_areAble_0 3 rfl) rfl,
  f_getA (e_dx DX12_areAble_0 4 rfl) fX12_133 rfl (by decide) (Nat.le_of_ble_eq_true rfl) rfl (by decide),
  f_iload_n (n := 1) (e_dx DX12_areAble_0 5 rfl) rfl,
  f_iaload (e_dx DX12_areAble_0 6 rfl),
  f_icmp_ge (e_dx DX12_areAble_0 7 rfl) rfl,
  f_aload_n (n := 0) (e_dx DX12_areAble_0 8 rfl) rfl,
  f_aload_n (n := 0) (e_dx DX12_areAble_0 9 rfl) rfl,
  f_getA (e_dx DX12_areAble_0 10 rfl) fX12_136 rfl (by decide) (Nat.le_of_ble_eq_true rfl) rfl (by decide),
  f_bipush (e_dx DX12_areAble_0 11 rfl) ⟨by decide, by decide⟩,
  f_iload_n (n := 1) (e_dx DX12_areAble_0 12 rfl) rfl,
  f_imul (e_dx DX12_areAble_0 13 rfl),
  f_iload_n (n := 2) (e_dx DX12_areAble_0 14 rfl) rfl,
  f_iadd (e_dx DX12_areAble_0 15 rfl),
  f_iaload (e_dx DX12_areAble_0 16 rfl),
  f_aload_n (n := 0) (e_dx DX12_areAble_0 17 rfl) rfl,
  f_getf (e_dx DX12_areAble_0 18 rfl) fX12_543 rfl (by decide) (by decide) (by decide),
  x_callV (e_dx DX12_areAble_0 19 rfl) mwX12_isAble vwX12_isAble cX12_582 rfl,
  f_if_ne (e_dx DX12_areAble_0 20 rfl) rfl,
  f_iconst (e_dx DX12_areAble_0 21 rfl) ⟨by decide, by decide⟩,
  ⟨(e_dx DX12_areAble_0 22 rfl), rfl⟩,
  f_g8 (e_dx DX12_areAble_0 23 rfl) ⟨by decide, by decide⟩,
  f_g19 (e_dx DX12_areAble_0 24 rfl) rfl,
  f_iconst (e_dx DX12_areAble_0 25 rfl) ⟨by decide, by decide⟩,
  ⟨(e_dx DX12_areAble_0 26 rfl), rfl⟩, trivial⟩
def lX12_areAble (c_X12_isAble : Int → Int → e_M → (Int → Prop) → Prop) : List (Nat × f_Wt) := [(0, f_wm [(4466, 12, 123), (1, 0, 0), (1, 0, 0)] (fun ar M R => c_X12_isAble (f_vi (f_nth ar 1)) (f_vi (f_nth ar 2)) M (fun r => R (some (.inl r)) M)))]
set_option maxRecDepth 20000 in
theorem BX12_areAble_2 {sh : Nat → Nat × Nat} {t : Nat} {rm : Nat × Nat × Nat} {cs : Nat × Nat} {R : f_Rt} {c_X12_isAble : Int → Int → e_M → (Int → Prop) → Prop} {k2 : Int → Int → Prop} {x1 : Int} {x2 : Int} {M : e_M} (C : f_Hy sh t yX12_areAble rm cs 10 (lX12_areAble c_X12_isAble) R) (h2 : ∀ (x1 : Int) (x2 : Int), k2 x1 x2 → f_E sh t YX12_areAble rm cs (f_Q sh t R) 2 [.inr (.inr (.inl (12, 123, 4456))), .inl x1, .inl x2] [] M) (h : VX12_areAble_2 c_X12_isAble k2 (fun r => R (some (.inl r)) M) x1 x2 M) : f_E sh t YX12_areAble rm cs (f_Q sh t R) 2 [.inr (.inr (.inl (12, 123, 4456))), .inl x1, .inl x2] [] M := by
  rw [f_kk2 M k2] at h
  exact f_go (KC := f_kc [(2, f_pl [(4466, 12, 123), (1, 0, 0), (1, 0, 0)] [] (fun ls st M2 => M2 = M ∧ (k2 (f_vi (f_nth ls 1)) (f_vi (f_nth ls 2)))))]) C qX12_areAblef (f_kc_cons (f_pl_ok rfl (fun ls st M2 ⟨e, hh⟩ => by subst e; exact h2 _ _ hh)) f_kc_nil) 30 3 h
set_option maxRecDepth 20000 in
theorem BX12_areAble {sh : Nat → Nat × Nat} {t : Nat} {rm : Nat × Nat × Nat} {cs : Nat × Nat} {R : f_Rt} {c_X12_isAble : Int → Int → e_M → (Int → Prop) → Prop} {k2 : Int → Int → Prop} {x1 : Int} {M : e_M} (C : f_Hy sh t yX12_areAble rm cs 10 (lX12_areAble c_X12_isAble) R) (h2 : ∀ (x1 : Int) (x2 : Int), k2 x1 x2 → f_E sh t YX12_areAble rm cs (f_Q sh t R) 2 [.inr (.inr (.inl (12, 123, 4456))), .inl x1, .inl x2] [] M) (h : VX12_areAble c_X12_isAble k2 (fun r => R (some (.inl r)) M) x1 M) : f_E sh t YX12_areAble rm cs (f_Q sh t R) 0 [.inr (.inr (.inl (12, 123, 4456))), .inl x1, .inr (.inr (.inr ()))] [] M := by
  rw [f_kk2 M k2] at h
  exact f_go (KC := f_kc [(2, f_pl [(4466, 12, 123), (1, 0, 0), (1, 0, 0)] [] (fun ls st M2 => M2 = M ∧ (k2 (f_vi (f_nth ls 1)) (f_vi (f_nth ls 2)))))]) C qX12_areAblef (f_kc_cons (f_pl_ok rfl (fun ls st M2 ⟨e, hh⟩ => by subst e; exact h2 _ _ hh)) f_kc_nil) 30 0 h
def WX12_areAble_2 (M : e_M) (Q : Int → Prop) : Nat → Int → Int → Prop
  | 0, _, _ => False
  | n + 1, x1, x2 =>
    VX12_areAble_2 WX12_isAble (WX12_areAble_2 M Q n) Q x1 x2 M
def WX12_areAble (x1 : Int) (M : e_M) (Q : Int → Prop) : Prop :=
  VX12_areAble WX12_isAble (fun x1 x2 => ∃ j, WX12_areAble_2 M Q j x1 x2) Q x1 M
theorem PX12_areAble_2 {sh : Nat → Nat × Nat} {t : Nat} {rm : Nat × Nat × Nat} {cs : Nat × Nat} {R : f_Rt} {M : e_M} (C : f_Hy sh t yX12_areAble rm cs 10 (lX12_areAble WX12_isAble) R) : ∀ (n : Nat) (x1 : Int) (x2 : Int), WX12_areAble_2 M (fun r => R (some (.inl r)) M) n x1 x2 → f_E sh t YX12_areAble rm cs (f_Q sh t R) 2 [.inr (.inr (.inl (12, 123, 4456))), .inl x1, .inl x2] [] M := by
  intro n
  induction n with
  | zero => intro x1 x2 h; exact h.elim
  | succ n ih => intro x1 x2 h; exact BX12_areAble_2 C ih h
theorem PX12_areAble {sh : Nat → Nat × Nat} {t : Nat} {rm : Nat × Nat × Nat} {cs : Nat × Nat} {R : f_Rt} {x1 : Int} {M : e_M} (C : f_Hy sh t yX12_areAble rm cs 10 (lX12_areAble WX12_isAble) R) (h : WX12_areAble x1 M (fun r => R (some (.inl r)) M)) : f_E sh t YX12_areAble rm cs (f_Q sh t R) 0 [.inr (.inr (.inl (12, 123, 4456))), .inl x1, .inr (.inr (.inr ()))] [] M :=
  BX12_areAble C (fun x1 x2 ⟨j, h⟩ => PX12_areAble_2 C j _ _ h) h
def wX12_areAble : f_Wt := f_wm [(4466, 12, 123), (1, 0, 0)] (fun ar M R => WX12_areAble (f_vi (f_nth ar 1)) M (fun r => R (some (.inl r)) M))
theorem TX12_areAble {sh : Nat → Nat × Nat} {t : Nat} : f_Mt sh t YX12_areAble 10 (wX12_areAble) :=
  f_Mt_of (k := 1) (Nat.le_of_ble_eq_true rfl) rfl rfl (fun ar M R rm cs h1 h2 h3 hX h => PX12_areAble ⟨Nat.le_of_ble_eq_true rfl, h1, h2, h3, ⟨(f_Mt.up (Nat.le_of_ble_eq_true rfl) TX12_isAble), trivial⟩, hX⟩ h)
def VX12_whatIs_2 (c_X12_id : Int → Int → e_M → (Int → Prop) → Prop) (k11 : Int → Int → Int → Prop) (Q : Int → Prop) (x1 : Int) (x3 : Int) (M : e_M) : Prop :=
  ((7 ≤ x3 → (Q (-1))) ∧ (x3 < 7 → (k11 x1 x3 0)))
def VX12_whatIs_11 (c_X12_id : Int → Int → e_M → (Int → Prop) → Prop) (k2 : Int → Int → Prop) (k11 : Int → Int → Int → Prop) (Q : Int → Prop) (x1 : Int) (x3 : Int) (x4 : Int) (M : e_M) : Prop :=
  ((0 ≤ x3 ∧ x3 < 7) ∧ (((M 4483 (x3.toNat)) ≤ x4 → (k2 x1 (e_w32 (x3 + 1)))) ∧ (x4 < (M 4483 (x3.toNat)) → (c_X12_id x3 x4 M (fun r1 => ((0 ≤ r1 ∧ r1 < 560) ∧ ((¬ (M 4484 (r1.toNat)) = x1 → (k11 x1 x3 (e_w32 (x4 + 1)))) ∧ ((M 4484 (r1.toNat)) = x1 → (c_X12_id x3 x4 M (fun r2 => (Q r2)))))))))))
def VX12_whatIs (c_X12_id : Int → Int → e_M → (Int → Prop) → Prop) (k2 : Int → Int → Prop) (Q : Int → Prop) (x1 : Int) (M : e_M) : Prop :=
  (k2 x1 0)
def yX12_whatIs (i : Nat) : e_Y := x_get YX12_whatIs [YX12_id] i
def pX12_whatIsf : List x_I := [(0, 0, 1, 0, 0, 0, []), (1, 5, 1, 3, 0, 0, []), (2, 49, 0, 0, 0, 0, []), (2, 2, 1, 3, 0, 0, []), (3, 0, 2, 0, 0, 7, []), (5, 18, 57, 3, 32, 0, []), (8, 0, 1, 0, 0, 0, []), (9, 5, 2, 4, 0, 0, []), (11, 49, 0, 0, 0, 0, []), (11, 2, 2, 4, 0, 0, []), (13, 4, 1, 0, 0, 0, []), (14, 25, 12, 50, 4, 0, [(0, 20, 7), (0, 1, 27)]), (17, 2, 1, 3, 0, 0, []), (18, 27, 0, 0, 0, 0, []), (19, 18, 51, 3, 30, 0, []), (22, 4, 1, 0, 0, 0, []), (23, 25, 12, 51, 4, 0, [(0, 23, 560), (0, 1, 28)]), (26, 2, 1, 3, 0, 0, []), (27, 2, 2, 4, 0, 0, []), (29, 40, 0, 2, 0, 0, []), (32, 27, 0, 1, 0, 0, []), (33, 3, 1, 1, 0, 0, []), (34, 32, 45, 1, 28, 0, []), (38, 2, 1, 3, 0, 0, []), (39, 2, 2, 4, 0, 0, []), (41, 40, 0, 2, 0, 0, []), (44, 41, 0, 0, 0, 0, []), (45, 8, 0, 4, 0, 1, []), (48, 19, 11, 0, 9, 0, []), (51, 8, 0, 3, 0, 1, []), (54, 19, 2, 0, 3, 0, []), (57, 0, 1, 0, 0, (-1), []), (58, 41, 0, 0, 0, 0, [])]
set_option maxRecDepth 20000 in
theorem qX12_whatIsf : f_all yX12_whatIs YX12_whatIs pX12_whatIsf :=
  ⟨f_iconst (e_dx DX12_whatIs_0 0 rfl) ⟨by decide, by decide⟩,
  f_istore_n (n := 3) (e_dx DX12_whatIs_0 1 rfl) rfl (by decide),
  trivial,
  f_iload_n (n := 3) (e_dx DX12_whatIs_0 2 rfl) rfl,
  f_bipush (e_dx DX12_whatIs_0 3 rfl) ⟨by decide, by decide⟩,
  f_icmp_ge (e_dx DX12_whatIs_0 4 rfl) rfl,
  f_iconst (e_dx DX12_whatIs_0 5 rfl) ⟨by decide, by decide⟩,
  f_istore (e_dx DX12_whatIs_0 6 rfl) (by decide),
  trivial,
  f_iload (e_dx DX12_whatIs_0 7 rfl),
  f_aload_n (n := 0) (e_dx DX12_whatIs_0 8 rfl) rfl,
  f_getA (e_dx DX12_whatIs_0 9 rfl) fX12_91 rfl (by decide) (Nat.le_of_ble_eq_true rfl) rfl (by decide),
  f_iload_n (n := 3) (e_dx DX12_whatIs_0 10 rfl) rfl,
  f_iaload (e_dx DX12_whatIs_0 11 rfl),
  f_icmp_ge (e_dx DX12_whatIs_0 12 rfl) rfl,
  f_aload_n (n := 0) (e_dx DX12_whatIs_0 13 rfl) rfl,
  f_getA (e_dx DX12_whatIs_0 14 rfl) fX12_94 rfl (by decide) (Nat.le_of_ble_eq_true rfl) rfl (by decide),
  f_iload_n (n := 3) (e_dx DX12_whatIs_0 15 rfl) rfl,
  f_iload (e_dx DX12_whatIs_0 16 rfl),
  x_callS (e_dx DX12_whatIs_0 17 rfl) mwX12_id cX12_540 swX12_id rfl,
  f_laload (e_dx DX12_whatIs_0 18 rfl),
  f_lload_n (n := 1) (e_dx DX12_whatIs_0 19 rfl) rfl,
  f_lif_ne (e_dx DX12_whatIs_0 20 rfl) (e_dx DX12_whatIs_0 21 rfl) rfl,
  f_iload_n (n := 3) (e_dx DX12_whatIs_0 22 rfl) rfl,
  f_iload (e_dx DX12_whatIs_0 23 rfl),
  x_callS (e_dx DX12_whatIs_0 24 rfl) mwX12_id cX12_540 swX12_id rfl,
  ⟨(e_dx DX12_whatIs_0 25 rfl), rfl⟩,
  f_g8 (e_dx DX12_whatIs_0 26 rfl) ⟨by decide, by decide⟩,
  f_g19 (e_dx DX12_whatIs_0 27 rfl) rfl,
  f_g8 (e_dx DX12_whatIs_0 28 rfl) ⟨by decide, by decide⟩,
  f_g19 (e_dx DX12_whatIs_0 29 rfl) rfl,
  f_iconst (e_dx DX12_whatIs_0 30 rfl) ⟨by decide, by decide⟩,
  ⟨(e_dx DX12_whatIs_0 31 rfl), rfl⟩, trivial⟩
def lX12_whatIs (c_X12_id : Int → Int → e_M → (Int → Prop) → Prop) : List (Nat × f_Wt) := [(0, f_wm [(1, 0, 0), (1, 0, 0)] (fun ar M R => c_X12_id (f_vi (f_nth ar 0)) (f_vi (f_nth ar 1)) M (fun r => R (some (.inl r)) M)))]
set_option maxRecDepth 20000 in
theorem BX12_whatIs_2 {sh : Nat → Nat × Nat} {t : Nat} {rm : Nat × Nat × Nat} {cs : Nat × Nat} {R : f_Rt} {c_X12_id : Int → Int → e_M → (Int → Prop) → Prop} {k11 : Int → Int → Int → Prop} {x1 : Int} {x3 : Int} {M : e_M} (C : f_Hy sh t yX12_whatIs rm cs 5 (lX12_whatIs c_X12_id) R) (h11 : ∀ (x1 : Int) (x3 : Int) (x4 : Int), k11 x1 x3 x4 → f_E sh t YX12_whatIs rm cs (f_Q sh t R) 11 [.inr (.inr (.inl (12, 123, 4456))), .inr (.inl x1), .inr (.inr (.inr ())), .inl x3, .inl x4] [] M) (h : VX12_whatIs_2 c_X12_id k11 (fun r => R (some (.inl r)) M) x1 x3 M) : f_E sh t YX12_whatIs rm cs (f_Q sh t R) 2 [.inr (.inr (.inl (12, 123, 4456))), .inr (.inl x1), .inr (.inr (.inr ())), .inl x3, .inr (.inr (.inr ()))] [] M := by
  rw [f_kk3 M k11] at h
  exact f_go (KC := f_kc [(11, f_pl [(4466, 12, 123), (2, 0, 0), (0, 0, 0), (1, 0, 0), (1, 0, 0)] [] (fun ls st M2 => M2 = M ∧ (k11 (f_vi (f_nth ls 1)) (f_vi (f_nth ls 3)) (f_vi (f_nth ls 4)))))]) C qX12_whatIsf (f_kc_cons (f_pl_ok rfl (fun ls st M2 ⟨e, hh⟩ => by subst e; exact h11 _ _ _ hh)) f_kc_nil) 35 3 h
set_option maxRecDepth 20000 in
theorem BX12_whatIs_11 {sh : Nat → Nat × Nat} {t : Nat} {rm : Nat × Nat × Nat} {cs : Nat × Nat} {R : f_Rt} {c_X12_id : Int → Int → e_M → (Int → Prop) → Prop} {k2 : Int → Int → Prop} {k11 : Int → Int → Int → Prop} {x1 : Int} {x3 : Int} {x4 : Int} {M : e_M} (C : f_Hy sh t yX12_whatIs rm cs 5 (lX12_whatIs c_X12_id) R) (h2 : ∀ (x1 : Int) (x3 : Int), k2 x1 x3 → f_E sh t YX12_whatIs rm cs (f_Q sh t R) 2 [.inr (.inr (.inl (12, 123, 4456))), .inr (.inl x1), .inr (.inr (.inr ())), .inl x3, .inr (.inr (.inr ()))] [] M) (h11 : ∀ (x1 : Int) (x3 : Int) (x4 : Int), k11 x1 x3 x4 → f_E sh t YX12_whatIs rm cs (f_Q sh t R) 11 [.inr (.inr (.inl (12, 123, 4456))), .inr (.inl x1), .inr (.inr (.inr ())), .inl x3, .inl x4] [] M) (h : VX12_whatIs_11 c_X12_id k2 k11 (fun r => R (some (.inl r)) M) x1 x3 x4 M) : f_E sh t YX12_whatIs rm cs (f_Q sh t R) 11 [.inr (.inr (.inl (12, 123, 4456))), .inr (.inl x1), .inr (.inr (.inr ())), .inl x3, .inl x4] [] M := by
  rw [f_kk2 M k2] at h
  rw [f_kk3 M k11] at h
  exact f_go (KC := f_kc [(2, f_pl [(4466, 12, 123), (2, 0, 0), (0, 0, 0), (1, 0, 0), (0, 0, 0)] [] (fun ls st M2 => M2 = M ∧ (k2 (f_vi (f_nth ls 1)) (f_vi (f_nth ls 3))))), (11, f_pl [(4466, 12, 123), (2, 0, 0), (0, 0, 0), (1, 0, 0), (1, 0, 0)] [] (fun ls st M2 => M2 = M ∧ (k11 (f_vi (f_nth ls 1)) (f_vi (f_nth ls 3)) (f_vi (f_nth ls 4)))))]) C qX12_whatIsf (f_kc_cons (f_pl_ok rfl (fun ls st M2 ⟨e, hh⟩ => by subst e; exact h2 _ _ hh)) (f_kc_cons (f_pl_ok rfl (fun ls st M2 ⟨e, hh⟩ => by subst e; exact h11 _ _ _ hh)) f_kc_nil)) 35 9 h
set_option maxRecDepth 20000 in
theorem BX12_whatIs {sh : Nat → Nat × Nat} {t : Nat} {rm : Nat × Nat × Nat} {cs : Nat × Nat} {R : f_Rt} {c_X12_id : Int → Int → e_M → (Int → Prop) → Prop} {k2 : Int → Int → Prop} {x1 : Int} {M : e_M} (C : f_Hy sh t yX12_whatIs rm cs 5 (lX12_whatIs c_X12_id) R) (h2 : ∀ (x1 : Int) (x3 : Int), k2 x1 x3 → f_E sh t YX12_whatIs rm cs (f_Q sh t R) 2 [.inr (.inr (.inl (12, 123, 4456))), .inr (.inl x1), .inr (.inr (.inr ())), .inl x3, .inr (.inr (.inr ()))] [] M) (h : VX12_whatIs c_X12_id k2 (fun r => R (some (.inl r)) M) x1 M) : f_E sh t YX12_whatIs rm cs (f_Q sh t R) 0 [.inr (.inr (.inl (12, 123, 4456))), .inr (.inl x1), .inr (.inr (.inr ())), .inr (.inr (.inr ())), .inr (.inr (.inr ()))] [] M := by
  rw [f_kk2 M k2] at h
  exact f_go (KC := f_kc [(2, f_pl [(4466, 12, 123), (2, 0, 0), (0, 0, 0), (1, 0, 0), (0, 0, 0)] [] (fun ls st M2 => M2 = M ∧ (k2 (f_vi (f_nth ls 1)) (f_vi (f_nth ls 3)))))]) C qX12_whatIsf (f_kc_cons (f_pl_ok rfl (fun ls st M2 ⟨e, hh⟩ => by subst e; exact h2 _ _ hh)) f_kc_nil) 35 0 h
def WX12_whatIs_11 (M : e_M) (H2 : Int → Int → Prop) (Q : Int → Prop) : Nat → Int → Int → Int → Prop
  | 0, _, _, _ => False
  | n + 1, x1, x3, x4 =>
    VX12_whatIs_11 WX12_id H2 (WX12_whatIs_11 M H2 Q n) Q x1 x3 x4 M
def WX12_whatIs_2 (M : e_M) (Q : Int → Prop) : Nat → Int → Int → Prop
  | 0, _, _ => False
  | n + 1, x1, x3 =>
    VX12_whatIs_2 WX12_id (fun x1 x3 x4 => ∃ j, WX12_whatIs_11 M (WX12_whatIs_2 M Q n) Q j x1 x3 x4) Q x1 x3 M
def WX12_whatIs (x1 : Int) (M : e_M) (Q : Int → Prop) : Prop :=
  VX12_whatIs WX12_id (fun x1 x3 => ∃ j, WX12_whatIs_2 M Q j x1 x3) Q x1 M
theorem PX12_whatIs_11 {sh : Nat → Nat × Nat} {t : Nat} {rm : Nat × Nat × Nat} {cs : Nat × Nat} {R : f_Rt} {H2 : Int → Int → Prop} {M : e_M} (C : f_Hy sh t yX12_whatIs rm cs 5 (lX12_whatIs WX12_id) R) (g2 : ∀ (x1 : Int) (x3 : Int), H2 x1 x3 → f_E sh t YX12_whatIs rm cs (f_Q sh t R) 2 [.inr (.inr (.inl (12, 123, 4456))), .inr (.inl x1), .inr (.inr (.inr ())), .inl x3, .inr (.inr (.inr ()))] [] M) : ∀ (n : Nat) (x1 : Int) (x3 : Int) (x4 : Int), WX12_whatIs_11 M H2 (fun r => R (some (.inl r)) M) n x1 x3 x4 → f_E sh t YX12_whatIs rm cs (f_Q sh t R) 11 [.inr (.inr (.inl (12, 123, 4456))), .inr (.inl x1), .inr (.inr (.inr ())), .inl x3, .inl x4] [] M := by
  intro n
  induction n with
  | zero => intro x1 x3 x4 h; exact h.elim
  | succ n ih => intro x1 x3 x4 h; exact BX12_whatIs_11 C g2 ih h
theorem PX12_whatIs_2 {sh : Nat → Nat × Nat} {t : Nat} {rm : Nat × Nat × Nat} {cs : Nat × Nat} {R : f_Rt} {M : e_M} (C : f_Hy sh t yX12_whatIs rm cs 5 (lX12_whatIs WX12_id) R) : ∀ (n : Nat) (x1 : Int) (x3 : Int), WX12_whatIs_2 M (fun r => R (some (.inl r)) M) n x1 x3 → f_E sh t YX12_whatIs rm cs (f_Q sh t R) 2 [.inr (.inr (.inl (12, 123, 4456))), .inr (.inl x1), .inr (.inr (.inr ())), .inl x3, .inr (.inr (.inr ()))] [] M := by
  intro n
  induction n with
  | zero => intro x1 x3 h; exact h.elim
  | succ n ih => intro x1 x3 h; exact BX12_whatIs_2 C (fun x1 x3 x4 ⟨j, h⟩ => PX12_whatIs_11 C ih j _ _ _ h) h
theorem PX12_whatIs {sh : Nat → Nat × Nat} {t : Nat} {rm : Nat × Nat × Nat} {cs : Nat × Nat} {R : f_Rt} {x1 : Int} {M : e_M} (C : f_Hy sh t yX12_whatIs rm cs 5 (lX12_whatIs WX12_id) R) (h : WX12_whatIs x1 M (fun r => R (some (.inl r)) M)) : f_E sh t YX12_whatIs rm cs (f_Q sh t R) 0 [.inr (.inr (.inl (12, 123, 4456))), .inr (.inl x1), .inr (.inr (.inr ())), .inr (.inr (.inr ())), .inr (.inr (.inr ()))] [] M :=
  BX12_whatIs C (fun x1 x3 ⟨j, h⟩ => PX12_whatIs_2 C j _ _ h) h
def wX12_whatIs : f_Wt := f_wm [(4466, 12, 123), (2, 0, 0)] (fun ar M R => WX12_whatIs (f_vi (f_nth ar 1)) M (fun r => R (some (.inl r)) M))
theorem TX12_whatIs {sh : Nat → Nat × Nat} {t : Nat} : f_Mt sh t YX12_whatIs 5 (wX12_whatIs) :=
  f_Mt_of (k := 2) (Nat.le_of_ble_eq_true rfl) rfl rfl (fun ar M R rm cs h1 h2 h3 hX h => PX12_whatIs ⟨Nat.le_of_ble_eq_true rfl, h1, h2, h3, ⟨(f_Mt.up (Nat.le_of_ble_eq_true rfl) TX12_id), trivial⟩, hX⟩ h)
def VX12_wanted (Q : Int → Prop) (x0 : Int) (x1 : Int) (x2 : Int) (M : e_M) : Prop :=
  ((x0 = 4 → (Q 7)) ∧ (¬ x0 = 4 → ((x0 = 5 → (Q 8)) ∧ (¬ x0 = 5 → ((x0 = 6 → ((¬ x1 = 0 → (Q 1)) ∧ (x1 = 0 → (Q 7)))) ∧ (¬ x0 = 6 → ((x0 = 7 → (Q 8)) ∧ (¬ x0 = 7 → ((x0 = 8 → (Q 1)) ∧ (¬ x0 = 8 → ((x0 = 9 → (Q 1)) ∧ (¬ x0 = 9 → ((x0 = 10 → (Q 1)) ∧ (¬ x0 = 10 → ((x0 = 11 → ((¬ x1 = 0 → (Q 1)) ∧ (x1 = 0 → (Q 0)))) ∧ (¬ x0 = 11 → ((x0 = 12 → (Q 8)) ∧ (¬ x0 = 12 → ((x0 = 13 → (Q 8)) ∧ (¬ x0 = 13 → ((x0 = 14 → ((¬ x1 = 0 → (Q 7)) ∧ (x1 = 0 → (Q 0)))) ∧ (¬ x0 = 14 → ((x0 = 15 → (Q 8)) ∧ (¬ x0 = 15 → ((x0 = 16 → ((¬ x1 = 2 → (Q 0)) ∧ (x1 = 2 → (Q 7)))) ∧ (¬ x0 = 16 → ((x0 = 17 → (Q 0)) ∧ (¬ x0 = 17 → ((x0 = 18 → ((¬ x1 = 0 → ((¬ x1 = (e_w32 (x2 - 1)) → (Q 0)) ∧ (x1 = (e_w32 (x2 - 1)) → (Q 1)))) ∧ (x1 = 0 → (Q 7)))) ∧ (¬ x0 = 18 → ((x0 = 19 → (Q 2)) ∧ (¬ x0 = 19 → ((x0 = 20 → ((¬ x1 = 0 → (Q 1)) ∧ (x1 = 0 → (Q 2)))) ∧ (¬ x0 = 20 → ((x0 = 21 → ((¬ x1 = 2 → (Q 2)) ∧ (x1 = 2 → (Q 0)))) ∧ (¬ x0 = 21 → ((x0 = 22 → (Q 8)) ∧ (¬ x0 = 22 → ((x0 = 23 → ((¬ x1 = 0 → (Q 2)) ∧ (x1 = 0 → (Q 0)))) ∧ (¬ x0 = 23 → ((x0 = 24 → ((¬ x1 = 0 → ((¬ x1 = 1 → (Q 1)) ∧ (x1 = 1 → (Q 2)))) ∧ (x1 = 0 → (Q 0)))) ∧ (¬ x0 = 24 → ((x0 = 25 → ((¬ x1 = 0 → (Q 0)) ∧ (x1 = 0 → (Q 7)))) ∧ (¬ x0 = 25 → ((x0 = 26 → (Q 8)) ∧ (¬ x0 = 26 → ((x0 = 27 → (Q 8)) ∧ (¬ x0 = 27 → ((x0 = 28 → (Q 8)) ∧ (¬ x0 = 28 → ((x0 = 29 → (Q 3)) ∧ (¬ x0 = 29 → ((x0 = 30 → ((¬ x1 = 0 → ((¬ x1 = 1 → (Q 1)) ∧ (x1 = 1 → (Q 0)))) ∧ (x1 = 0 → (Q 7)))) ∧ (¬ x0 = 30 → ((x0 = 31 → (Q 8)) ∧ (¬ x0 = 31 → ((x0 = 32 → ((¬ x1 = 0 → ((¬ x1 = 1 → (Q 1)) ∧ (x1 = 1 → (Q 0)))) ∧ (x1 = 0 → (Q 7)))) ∧ (¬ x0 = 32 → ((x0 = 33 → ((¬ x1 = 0 → ((¬ x1 = 1 → (Q 1)) ∧ (x1 = 1 → (Q 0)))) ∧ (x1 = 0 → (Q 7)))) ∧ (¬ x0 = 33 → ((x0 = 34 → (Q 6)) ∧ (¬ x0 = 34 → (Q 8)))))))))))))))))))))))))))))))))))))))))))))))))))))))))))))))
def yX12_wanted (i : Nat) : e_Y := x_get YX12_wanted [] i
def pX12_wantedf : List x_I := [(0, 2, 1, 0, 0, 0, []), (1, 24, 301, 0, 100, 0, [(4, 140, 3), (5, 301, 100), (6, 143, 5), (7, 301, 100), (8, 154, 11), (9, 154, 11), (10, 154, 11), (11, 156, 13), (12, 301, 100), (13, 301, 100), (14, 166, 19), (15, 301, 100), (16, 177, 25), (17, 189, 32), (18, 191, 34), (19, 213, 47), (20, 215, 49), (21, 225, 55), (22, 301, 100), (23, 236, 62), (24, 246, 68), (25, 265, 79), (26, 301, 100), (27, 301, 100), (28, 301, 100), (29, 276, 85), (30, 278, 87), (31, 301, 100), (32, 278, 87), (33, 278, 87), (34, 298, 98)]), (140, 0, 2, 0, 0, 7, []), (142, 41, 0, 0, 0, 0, []), (143, 2, 1, 1, 0, 0, []), (144, 17, 152, 1, 9, 0, []), (147, 0, 2, 0, 0, 7, []), (149, 19, 153, 0, 10, 0, []), (152, 0, 1, 0, 0, 1, []), (153, 41, 0, 0, 0, 0, []), (154, 0, 1, 0, 0, 1, []), (155, 41, 0, 0, 0, 0, []), (156, 2, 1, 1, 0, 0, []), (157, 17, 164, 1, 17, 0, []), (160, 0, 1, 0, 0, 0, []), (161, 19, 165, 0, 18, 0, []), (164, 0, 1, 0, 0, 1, []), (165, 41, 0, 0, 0, 0, []), (166, 2, 1, 1, 0, 0, []), (167, 17, 174, 1, 23, 0, []), (170, 0, 1, 0, 0, 0, []), (171, 19, 176, 0, 24, 0, []), (174, 0, 2, 0, 0, 7, []), (176, 41, 0, 0, 0, 0, []), (177, 2, 1, 1, 0, 0, []), (178, 0, 1, 0, 0, 2, []), (179, 18, 187, 1, 30, 0, []), (182, 0, 2, 0, 0, 7, []), (184, 19, 188, 0, 31, 0, []), (187, 0, 1, 0, 0, 0, []), (188, 41, 0, 0, 0, 0, []), (189, 0, 1, 0, 0, 0, []), (190, 41, 0, 0, 0, 0, []), (191, 2, 1, 1, 0, 0, []), (192, 17, 200, 1, 38, 0, []), (195, 0, 2, 0, 0, 7, []), (197, 19, 212, 0, 46, 0, []), (200, 2, 1, 1, 0, 0, []), (201, 2, 1, 2, 0, 0, []), (202, 0, 1, 0, 0, 1, []), (203, 9, 0, 1, 0, 0, []), (204, 18, 211, 1, 45, 0, []), (207, 0, 1, 0, 0, 1, []), (208, 19, 212, 0, 46, 0, []), (211, 0, 1, 0, 0, 0, []), (212, 41, 0, 0, 0, 0, []), (213, 0, 1, 0, 0, 2, []), (214, 41, 0, 0, 0, 0, []), (215, 2, 1, 1, 0, 0, []), (216, 17, 223, 1, 53, 0, []), (219, 0, 1, 0, 0, 2, []), (220, 19, 224, 0, 54, 0, []), (223, 0, 1, 0, 0, 1, []), (224, 41, 0, 0, 0, 0, []), (225, 2, 1, 1, 0, 0, []), (226, 0, 1, 0, 0, 2, []), (227, 18, 234, 1, 60, 0, []), (230, 0, 1, 0, 0, 0, []), (231, 19, 235, 0, 61, 0, []), (234, 0, 1, 0, 0, 2, []), (235, 41, 0, 0, 0, 0, []), (236, 2, 1, 1, 0, 0, []), (237, 17, 244, 1, 66, 0, []), (240, 0, 1, 0, 0, 0, []), (241, 19, 245, 0, 67, 0, []), (244, 0, 1, 0, 0, 2, []), (245, 41, 0, 0, 0, 0, []), (246, 2, 1, 1, 0, 0, []), (247, 17, 254, 1, 72, 0, []), (250, 0, 1, 0, 0, 0, []), (251, 19, 264, 0, 78, 0, []), (254, 2, 1, 1, 0, 0, []), (255, 0, 1, 0, 0, 1, []), (256, 18, 263, 1, 77, 0, []), (259, 0, 1, 0, 0, 2, []), (260, 19, 264, 0, 78, 0, []), (263, 0, 1, 0, 0, 1, []), (264, 41, 0, 0, 0, 0, []), (265, 2, 1, 1, 0, 0, []), (266, 17, 274, 1, 83, 0, []), (269, 0, 2, 0, 0, 7, []), (271, 19, 275, 0, 84, 0, []), (274, 0, 1, 0, 0, 0, []), (275, 41, 0, 0, 0, 0, []), (276, 0, 1, 0, 0, 3, []), (277, 41, 0, 0, 0, 0, []), (278, 2, 1, 1, 0, 0, []), (279, 17, 287, 1, 91, 0, []), (282, 0, 2, 0, 0, 7, []), (284, 19, 297, 0, 97, 0, []), (287, 2, 1, 1, 0, 0, []), (288, 0, 1, 0, 0, 1, []), (289, 18, 296, 1, 96, 0, []), (292, 0, 1, 0, 0, 0, []), (293, 19, 297, 0, 97, 0, []), (296, 0, 1, 0, 0, 1, []), (297, 41, 0, 0, 0, 0, []), (298, 0, 2, 0, 0, 6, []), (300, 41, 0, 0, 0, 0, []), (301, 0, 2, 0, 0, 8, []), (303, 41, 0, 0, 0, 0, [])]
set_option maxRecDepth 20000 in
theorem qX12_wantedf : f_all yX12_wanted YX12_wanted pX12_wantedf :=
  ⟨f_iload_n (n := 0) (e_dx DX12_wanted_0 0 rfl) rfl,
  f_tsw (e_dx DX12_wanted_0 1 rfl) rfl rfl (by decide) rfl,
  f_bipush (e_dx DX12_wanted_0 2 rfl) ⟨by decide, by decide⟩,
  ⟨(e_dx DX12_wanted_0 3 rfl), rfl⟩,
  f_iload_n (n := 1) (e_dx DX12_wanted_0 4 rfl) rfl,
  f_if_ne (e_dx DX12_wanted_0 5 rfl) rfl,
  f_bipush (e_dx DX12_wanted_0 6 rfl) ⟨by decide, by decide⟩,
  f_g19 (e_dx DX12_wanted_0 7 rfl) rfl,
  f_iconst (e_dx DX12_wanted_0 8 rfl) ⟨by decide, by decide⟩,
  ⟨(e_dx DX12_wanted_0 9 rfl), rfl⟩,
  f_iconst (e_dx DX12_wanted_0 10 rfl) ⟨by decide, by decide⟩,
  ⟨(e_dx DX12_wanted_0 11 rfl), rfl⟩,
  f_iload_n (n := 1) (e_dx DX12_wanted_0 12 rfl) rfl,
  f_if_ne (e_dx DX12_wanted_0 13 rfl) rfl,
  f_iconst (e_dx DX12_wanted_0 14 rfl) ⟨by decide, by decide⟩,
  f_g19 (e_dx DX12_wanted_0 15 rfl) rfl,
  f_iconst (e_dx DX12_wanted_0 16 rfl) ⟨by decide, by decide⟩,
  ⟨(e_dx DX12_wanted_0 17 rfl), rfl⟩,
  f_iload_n (n := 1) (e_dx DX12_wanted_0 18 rfl) rfl,
  f_if_ne (e_dx DX12_wanted_0 19 rfl) rfl,
  f_iconst (e_dx DX12_wanted_0 20 rfl) ⟨by decide, by decide⟩,
  f_g19 (e_dx DX12_wanted_0 21 rfl) rfl,
  f_bipush (e_dx DX12_wanted_0 22 rfl) ⟨by decide, by decide⟩,
  ⟨(e_dx DX12_wanted_0 23 rfl), rfl⟩,
  f_iload_n (n := 1) (e_dx DX12_wanted_0 24 rfl) rfl,
  f_iconst (e_dx DX12_wanted_0 25 rfl) ⟨by decide, by decide⟩,
  f_icmp_ne (e_dx DX12_wanted_0 26 rfl) rfl,
  f_bipush (e_dx DX12_wanted_0 27 rfl) ⟨by decide, by decide⟩,
  f_g19 (e_dx DX12_wanted_0 28 rfl) rfl,
  f_iconst (e_dx DX12_wanted_0 29 rfl) ⟨by decide, by decide⟩,
  ⟨(e_dx DX12_wanted_0 30 rfl), rfl⟩,
  f_iconst (e_dx DX12_wanted_0 31 rfl) ⟨by decide, by decide⟩,
  ⟨(e_dx DX12_wanted_0 32 rfl), rfl⟩,
  f_iload_n (n := 1) (e_dx DX12_wanted_0 33 rfl) rfl,
  f_if_ne (e_dx DX12_wanted_0 34 rfl) rfl,
  f_bipush (e_dx DX12_wanted_0 35 rfl) ⟨by decide, by decide⟩,
  f_g19 (e_dx DX12_wanted_0 36 rfl) rfl,
  f_iload_n (n := 1) (e_dx DX12_wanted_0 37 rfl) rfl,
  f_iload_n (n := 2) (e_dx DX12_wanted_0 38 rfl) rfl,
  f_iconst (e_dx DX12_wanted_0 39 rfl) ⟨by decide, by decide⟩,
  f_isub (e_dx DX12_wanted_1 0 rfl),
  f_icmp_ne (e_dx DX12_wanted_1 1 rfl) rfl,
  f_iconst (e_dx DX12_wanted_1 2 rfl) ⟨by decide, by decide⟩,
  f_g19 (e_dx DX12_wanted_1 3 rfl) rfl,
  f_iconst (e_dx DX12_wanted_1 4 rfl) ⟨by decide, by decide⟩,
  ⟨(e_dx DX12_wanted_1 5 rfl), rfl⟩,
  f_iconst (e_dx DX12_wanted_1 6 rfl) ⟨by decide, by decide⟩,
  ⟨(e_dx DX12_wanted_1 7 rfl), rfl⟩,
  f_iload_n (n := 1) (e_dx DX12_wanted_1 8 rfl) rfl,
  f_if_ne (e_dx DX12_wanted_1 9 rfl) rfl,
  f_iconst (e_dx DX12_wanted_1 10 rfl) ⟨by decide, by decide⟩,
  f_g19 (e_dx DX12_wanted_1 11 rfl) rfl,
  f_iconst (e_dx DX12_wanted_1 12 rfl) ⟨by decide, by decide⟩,
  ⟨(e_dx DX12_wanted_1 13 rfl), rfl⟩,
  f_iload_n (n := 1) (e_dx DX12_wanted_1 14 rfl) rfl,
  f_iconst (e_dx DX12_wanted_1 15 rfl) ⟨by decide, by decide⟩,
  f_icmp_ne (e_dx DX12_wanted_1 16 rfl) rfl,
  f_iconst (e_dx DX12_wanted_1 17 rfl) ⟨by decide, by decide⟩,
  f_g19 (e_dx DX12_wanted_1 18 rfl) rfl,
  f_iconst (e_dx DX12_wanted_1 19 rfl) ⟨by decide, by decide⟩,
  ⟨(e_dx DX12_wanted_1 20 rfl), rfl⟩,
  f_iload_n (n := 1) (e_dx DX12_wanted_1 21 rfl) rfl,
  f_if_ne (e_dx DX12_wanted_1 22 rfl) rfl,
  f_iconst (e_dx DX12_wanted_1 23 rfl) ⟨by decide, by decide⟩,
  f_g19 (e_dx DX12_wanted_1 24 rfl) rfl,
  f_iconst (e_dx DX12_wanted_1 25 rfl) ⟨by decide, by decide⟩,
  ⟨(e_dx DX12_wanted_1 26 rfl), rfl⟩,
  f_iload_n (n := 1) (e_dx DX12_wanted_1 27 rfl) rfl,
  f_if_ne (e_dx DX12_wanted_1 28 rfl) rfl,
  f_iconst (e_dx DX12_wanted_1 29 rfl) ⟨by decide, by decide⟩,
  f_g19 (e_dx DX12_wanted_1 30 rfl) rfl,
  f_iload_n (n := 1) (e_dx DX12_wanted_1 31 rfl) rfl,
  f_iconst (e_dx DX12_wanted_1 32 rfl) ⟨by decide, by decide⟩,
  f_icmp_ne (e_dx DX12_wanted_1 33 rfl) rfl,
  f_iconst (e_dx DX12_wanted_1 34 rfl) ⟨by decide, by decide⟩,
  f_g19 (e_dx DX12_wanted_1 35 rfl) rfl,
  f_iconst (e_dx DX12_wanted_1 36 rfl) ⟨by decide, by decide⟩,
  ⟨(e_dx DX12_wanted_1 37 rfl), rfl⟩,
  f_iload_n (n := 1) (e_dx DX12_wanted_1 38 rfl) rfl,
  f_if_ne (e_dx DX12_wanted_1 39 rfl) rfl,
  f_bipush (e_dx DX12_wanted_2 0 rfl) ⟨by decide, by decide⟩,
  f_g19 (e_dx DX12_wanted_2 1 rfl) rfl,
  f_iconst (e_dx DX12_wanted_2 2 rfl) ⟨by decide, by decide⟩,
  ⟨(e_dx DX12_wanted_2 3 rfl), rfl⟩,
  f_iconst (e_dx DX12_wanted_2 4 rfl) ⟨by decide, by decide⟩,
  ⟨(e_dx DX12_wanted_2 5 rfl), rfl⟩,
  f_iload_n (n := 1) (e_dx DX12_wanted_2 6 rfl) rfl,
  f_if_ne (e_dx DX12_wanted_2 7 rfl) rfl,
  f_bipush (e_dx DX12_wanted_2 8 rfl) ⟨by decide, by decide⟩,
  f_g19 (e_dx DX12_wanted_2 9 rfl) rfl,
  f_iload_n (n := 1) (e_dx DX12_wanted_2 10 rfl) rfl,
  f_iconst (e_dx DX12_wanted_2 11 rfl) ⟨by decide, by decide⟩,
  f_icmp_ne (e_dx DX12_wanted_2 12 rfl) rfl,
  f_iconst (e_dx DX12_wanted_2 13 rfl) ⟨by decide, by decide⟩,
  f_g19 (e_dx DX12_wanted_2 14 rfl) rfl,
  f_iconst (e_dx DX12_wanted_2 15 rfl) ⟨by decide, by decide⟩,
  ⟨(e_dx DX12_wanted_2 16 rfl), rfl⟩,
  f_bipush (e_dx DX12_wanted_2 17 rfl) ⟨by decide, by decide⟩,
  ⟨(e_dx DX12_wanted_2 18 rfl), rfl⟩,
  f_bipush (e_dx DX12_wanted_2 19 rfl) ⟨by decide, by decide⟩,
  ⟨(e_dx DX12_wanted_2 20 rfl), rfl⟩, trivial⟩
def lX12_wanted : List (Nat × f_Wt) := []
set_option maxRecDepth 20000 in
theorem BX12_wanted {sh : Nat → Nat × Nat} {t : Nat} {rm : Nat × Nat × Nat} {cs : Nat × Nat} {R : f_Rt} {x0 : Int} {x1 : Int} {x2 : Int} {M : e_M} (C : f_Hy sh t yX12_wanted rm cs 4 (lX12_wanted) R) (h : VX12_wanted (fun r => R (some (.inl r)) M) x0 x1 x2 M) : f_E sh t YX12_wanted rm cs (f_Q sh t R) 0 [.inl x0, .inl x1, .inl x2] [] M :=
  f_go (KC := f_kc []) C qX12_wantedf f_kc_nil 103 0 h
def WX12_wanted (x0 : Int) (x1 : Int) (x2 : Int) (M : e_M) (Q : Int → Prop) : Prop :=
  VX12_wanted Q x0 x1 x2 M
theorem PX12_wanted {sh : Nat → Nat × Nat} {t : Nat} {rm : Nat × Nat × Nat} {cs : Nat × Nat} {R : f_Rt} {x0 : Int} {x1 : Int} {x2 : Int} {M : e_M} (C : f_Hy sh t yX12_wanted rm cs 4 (lX12_wanted) R) (h : WX12_wanted x0 x1 x2 M (fun r => R (some (.inl r)) M)) : f_E sh t YX12_wanted rm cs (f_Q sh t R) 0 [.inl x0, .inl x1, .inl x2] [] M :=
  BX12_wanted C h
def wX12_wanted : f_Wt := f_wm [(1, 0, 0), (1, 0, 0), (1, 0, 0)] (fun ar M R => WX12_wanted (f_vi (f_nth ar 0)) (f_vi (f_nth ar 1)) (f_vi (f_nth ar 2)) M (fun r => R (some (.inl r)) M))
theorem TX12_wanted {sh : Nat → Nat × Nat} {t : Nat} : f_Mt sh t YX12_wanted 4 (wX12_wanted) :=
  f_Mt_of (k := 0) (Nat.le_of_ble_eq_true rfl) rfl rfl (fun ar M R rm cs h1 h2 h3 hX h => PX12_wanted ⟨Nat.le_of_ble_eq_true rfl, h1, h2, h3, trivial, hX⟩ h)
def VX12_areNamed_2 (c_X12_whatIs : Int → e_M → (Int → Prop) → Prop) (c_X12_wanted : Int → Int → Int → e_M → (Int → Prop) → Prop) (c_X12_isThere : Int → Int → Int → e_M → (Int → Prop) → Prop) (k146 : Int → Int → Int → Int → Int → Int → e_M → Prop) (k66 : Int → Int → Int → Int → e_M → Prop) (Q : Int → e_M → Prop) (x1 : Int) (x2 : Int) (M : e_M) : Prop :=
  ((0 ≤ x1 ∧ x1 < 152) ∧ (((M 4463 (x1.toNat)) ≤ x2 → (Q 1 M)) ∧ (x2 < (M 4463 (x1.toNat)) → ((0 ≤ (e_w32 ((e_w32 ((10 : Int) * x1)) + x2)) ∧ (e_w32 ((e_w32 ((10 : Int) * x1)) + x2)) < 1520) ∧ (∀ y1 : Int, y1 = M 4467 ((e_w32 ((e_w32 ((10 : Int) * x1)) + x2)).toNat) → (c_X12_whatIs y1 M (fun r2 => ((0 ≤ x1 ∧ x1 < 152) ∧ ((0 ≤ x1 ∧ x1 < 152) ∧ (c_X12_wanted (M 4461 (x1.toNat)) x2 (M 4463 (x1.toNat)) M (fun r3 => ((¬ r3 = 7 → ((0 ≤ r2 → (¬ (80 : Int) = 0 ∧ (¬ (80 : Int) = 0 ∧ ((¬ r3 = 8 → (((e_w32 (r2.tdiv 80)) = r3 → (k146 x1 x2 r2 r3 (e_w32 (r2.tdiv 80)) (r2.tmod 80) M)) ∧ (¬ (e_w32 (r2.tdiv 80)) = r3 → (Q 0 M)))) ∧ (r3 = 8 → ((4 ≤ (e_w32 (r2.tdiv 80)) → (k146 x1 x2 r2 r3 (e_w32 (r2.tdiv 80)) (r2.tmod 80) M)) ∧ ((e_w32 (r2.tdiv 80)) < 4 → (Q 0 M)))))))) ∧ (r2 < 0 → (Q 0 M)))) ∧ (r3 = 7 → ((r2 < 0 → (k66 x1 x2 y1 0 M)) ∧ (0 ≤ r2 → (Q 0 M))))))))))))))))
def VX12_areNamed_66 (c_X12_whatIs : Int → e_M → (Int → Prop) → Prop) (c_X12_wanted : Int → Int → Int → e_M → (Int → Prop) → Prop) (c_X12_isThere : Int → Int → Int → e_M → (Int → Prop) → Prop) (k183 : Int → Int → e_M → Prop) (k66 : Int → Int → Int → Int → e_M → Prop) (Q : Int → e_M → Prop) (x1 : Int) (x2 : Int) (x3 : Int) (x7 : Int) (M : e_M) : Prop :=
  ((x2 ≤ x7 → (k183 x1 x2 M)) ∧ (x7 < x2 → ((0 ≤ (e_w32 ((e_w32 ((10 : Int) * x1)) + x7)) ∧ (e_w32 ((e_w32 ((10 : Int) * x1)) + x7)) < 1520) ∧ ((¬ (M 4467 ((e_w32 ((e_w32 ((10 : Int) * x1)) + x7)).toNat)) = x3 → (k66 x1 x2 x3 (e_w32 (x7 + 1)) M)) ∧ ((M 4467 ((e_w32 ((e_w32 ((10 : Int) * x1)) + x7)).toNat)) = x3 → (Q 0 M))))))
def VX12_areNamed_146 (c_X12_whatIs : Int → e_M → (Int → Prop) → Prop) (c_X12_wanted : Int → Int → Int → e_M → (Int → Prop) → Prop) (c_X12_isThere : Int → Int → Int → e_M → (Int → Prop) → Prop) (k182 : Int → Int → Int → Int → e_M → Prop) (Q : Int → e_M → Prop) (x1 : Int) (x2 : Int) (x5 : Int) (x6 : Int) (x7 : Int) (x8 : Int) (M : e_M) : Prop :=
  (c_X12_isThere x7 x8 (M 4456 86) M (fun r1 => ((¬ r1 = 0 → ((¬ x6 = 8 → (k182 x1 x2 x8 x2 M)) ∧ (x6 = 8 → (k182 x1 x2 x5 x2 M)))) ∧ (r1 = 0 → (Q 0 M)))))
def VX12_areNamed_182 (c_X12_whatIs : Int → e_M → (Int → Prop) → Prop) (c_X12_wanted : Int → Int → Int → e_M → (Int → Prop) → Prop) (c_X12_isThere : Int → Int → Int → e_M → (Int → Prop) → Prop) (k183 : Int → Int → e_M → Prop) (Q : Int → e_M → Prop) (x1 : Int) (x2 : Int) (xs2 : Int) (xs1 : Int) (M : e_M) : Prop :=
  ((0 ≤ xs1 ∧ xs1 < 10) ∧ (∀ M1 : e_M, M1 = e_up M 4520 (xs1.toNat) xs2 → (k183 x1 x2 M1)))
def VX12_areNamed_183 (c_X12_whatIs : Int → e_M → (Int → Prop) → Prop) (c_X12_wanted : Int → Int → Int → e_M → (Int → Prop) → Prop) (c_X12_isThere : Int → Int → Int → e_M → (Int → Prop) → Prop) (k2 : Int → Int → e_M → Prop) (Q : Int → e_M → Prop) (x1 : Int) (x2 : Int) (M : e_M) : Prop :=
  (k2 x1 (e_w32 (x2 + 1)) M)
def VX12_areNamed (c_X12_whatIs : Int → e_M → (Int → Prop) → Prop) (c_X12_wanted : Int → Int → Int → e_M → (Int → Prop) → Prop) (c_X12_isThere : Int → Int → Int → e_M → (Int → Prop) → Prop) (k2 : Int → Int → e_M → Prop) (Q : Int → e_M → Prop) (x1 : Int) (M : e_M) : Prop :=
  (k2 x1 0 M)
def yX12_areNamed (i : Nat) : e_Y := x_get YX12_areNamed [YX12_whatIs, YX12_wanted, YX12_isThere] i
def pX12_areNamedf : List x_I := [(0, 0, 1, 0, 0, 0, []), (1, 5, 1, 2, 0, 0, []), (2, 49, 0, 0, 0, 0, []), (2, 2, 1, 2, 0, 0, []), (3, 4, 1, 0, 0, 0, []), (4, 25, 12, 16, 4, 0, [(0, 20, 152), (0, 1, 7)]), (7, 2, 1, 1, 0, 0, []), (8, 27, 0, 0, 0, 0, []), (9, 18, 189, 3, 111, 0, []), (12, 4, 1, 0, 0, 0, []), (13, 25, 12, 20, 4, 0, [(0, 23, 1520), (0, 1, 11)]), (16, 0, 2, 0, 0, 10, []), (18, 2, 1, 1, 0, 0, []), (19, 9, 0, 2, 0, 0, []), (20, 2, 1, 2, 0, 0, []), (21, 9, 0, 0, 0, 0, []), (22, 27, 0, 1, 0, 0, []), (23, 33, 0, 0, 0, 0, []), (23, 6, 1, 3, 0, 0, []), (24, 4, 1, 0, 0, 0, []), (25, 3, 1, 3, 0, 0, []), (26, 40, 0, 2, 14, 0, []), (29, 5, 2, 5, 0, 0, []), (31, 4, 1, 0, 0, 0, []), (32, 25, 12, 14, 4, 0, [(0, 20, 152), (0, 1, 5)]), (35, 2, 1, 1, 0, 0, []), (36, 27, 0, 0, 0, 0, []), (37, 2, 1, 2, 0, 0, []), (38, 4, 1, 0, 0, 0, []), (39, 25, 12, 16, 4, 0, [(0, 20, 152), (0, 1, 7)]), (42, 2, 1, 1, 0, 0, []), (43, 27, 0, 0, 0, 0, []), (44, 40, 1, 3, 0, 0, []), (47, 5, 2, 6, 0, 0, []), (49, 2, 2, 6, 0, 0, []), (51, 0, 2, 0, 0, 7, []), (53, 18, 100, 1, 63, 0, []), (56, 2, 2, 5, 0, 0, []), (58, 17, 63, 2, 42, 0, []), (61, 0, 1, 0, 0, 0, []), (62, 48, 0, 0, 0, 0, []), (63, 0, 1, 0, 0, 0, []), (64, 5, 2, 7, 0, 0, []), (66, 49, 0, 0, 0, 0, []), (66, 2, 2, 7, 0, 0, []), (68, 2, 1, 2, 0, 0, []), (69, 18, 97, 3, 62, 0, []), (72, 4, 1, 0, 0, 0, []), (73, 25, 12, 20, 4, 0, [(0, 23, 1520), (0, 1, 11)]), (76, 0, 2, 0, 0, 10, []), (78, 2, 1, 1, 0, 0, []), (79, 9, 0, 2, 0, 0, []), (80, 2, 2, 7, 0, 0, []), (82, 9, 0, 0, 0, 0, []), (83, 27, 0, 1, 0, 0, []), (84, 3, 1, 3, 0, 0, []), (85, 32, 91, 1, 60, 0, []), (89, 0, 1, 0, 0, 0, []), (90, 48, 0, 0, 0, 0, []), (91, 8, 0, 7, 0, 1, []), (94, 19, 66, 0, 44, 0, []), (97, 19, 183, 0, 108, 0, []), (100, 2, 2, 5, 0, 0, []), (102, 17, 107, 3, 67, 0, []), (105, 0, 1, 0, 0, 0, []), (106, 48, 0, 0, 0, 0, []), (107, 2, 2, 5, 0, 0, []), (109, 0, 2, 0, 0, 80, []), (111, 9, 0, 3, 0, 0, []), (112, 5, 2, 7, 0, 0, []), (114, 2, 2, 5, 0, 0, []), (116, 0, 2, 0, 0, 80, []), (118, 9, 0, 4, 0, 0, []), (119, 5, 2, 8, 0, 0, []), (121, 2, 2, 6, 0, 0, []), (123, 0, 2, 0, 0, 8, []), (125, 18, 137, 1, 82, 0, []), (128, 2, 2, 7, 0, 0, []), (130, 0, 1, 0, 0, 4, []), (131, 18, 146, 3, 87, 0, []), (134, 19, 144, 0, 85, 0, []), (137, 2, 2, 7, 0, 0, []), (139, 2, 2, 6, 0, 0, []), (141, 18, 146, 0, 87, 0, []), (144, 0, 1, 0, 0, 0, []), (145, 48, 0, 0, 0, 0, []), (146, 49, 0, 0, 0, 0, []), (146, 4, 1, 0, 0, 0, []), (147, 2, 2, 7, 0, 0, []), (149, 2, 2, 8, 0, 0, []), (151, 4, 1, 0, 0, 0, []), (152, 25, 12, 86, 0, 0, []), (155, 40, 2, 4, 14, 0, []), (158, 17, 163, 1, 97, 0, []), (161, 0, 1, 0, 0, 0, []), (162, 48, 0, 0, 0, 0, []), (163, 4, 1, 0, 0, 0, []), (164, 25, 12, 91, 4, 0, [(0, 20, 10), (0, 1, 64)]), (167, 2, 1, 2, 0, 0, []), (168, 2, 2, 6, 0, 0, []), (170, 0, 2, 0, 0, 8, []), (172, 18, 180, 1, 105, 0, []), (175, 2, 2, 5, 0, 0, []), (177, 19, 182, 0, 106, 0, []), (180, 2, 2, 8, 0, 0, []), (182, 49, 0, 0, 0, 0, []), (182, 28, 0, 0, 0, 0, []), (183, 49, 0, 0, 0, 0, []), (183, 8, 0, 2, 0, 1, []), (186, 19, 2, 0, 3, 0, []), (189, 0, 1, 0, 0, 1, []), (190, 48, 0, 0, 0, 0, [])]
set_option maxRecDepth 20000 in
theorem qX12_areNamedf : f_all yX12_areNamed YX12_areNamed pX12_areNamedf :=
  ⟨f_iconst (e_dx DX12_areNamed_0 0 rfl) ⟨by decide, by decide⟩,
  f_istore_n (n := 2) (e_dx DX12_areNamed_0 1 rfl) rfl (by decide),
  trivial,
  f_iload_n (n := 2) (e_dx DX12_areNamed_0 2 rfl) rfl,
  f_aload_n (n := 0) (e_dx DX12_areNamed_0 3 rfl) rfl,
  f_getA (e_dx DX12_areNamed_0 4 rfl) fX12_30 rfl (by decide) (Nat.le_of_ble_eq_true rfl) rfl (by decide),
  f_iload_n (n := 1) (e_dx DX12_areNamed_0 5 rfl) rfl,
  f_iaload (e_dx DX12_areNamed_0 6 rfl),
  f_icmp_ge (e_dx DX12_areNamed_0 7 rfl) rfl,
  f_aload_n (n := 0) (e_dx DX12_areNamed_0 8 rfl) rfl,
  f_getA (e_dx DX12_areNamed_0 9 rfl) fX12_42 rfl (by decide) (Nat.le_of_ble_eq_true rfl) rfl (by decide),
  f_bipush (e_dx DX12_areNamed_0 10 rfl) ⟨by decide, by decide⟩,
  f_iload_n (n := 1) (e_dx DX12_areNamed_0 11 rfl) rfl,
  f_imul (e_dx DX12_areNamed_0 12 rfl),
  f_iload_n (n := 2) (e_dx DX12_areNamed_0 13 rfl) rfl,
  f_iadd (e_dx DX12_areNamed_0 14 rfl),
  f_laload (e_dx DX12_areNamed_0 15 rfl),
  f_g33,
  f_lstore_n (n := 3) (e_dx DX12_areNamed_0 16 rfl) rfl (by decide),
  f_aload_n (n := 0) (e_dx DX12_areNamed_0 17 rfl) rfl,
  f_lload_n (n := 3) (e_dx DX12_areNamed_0 18 rfl) rfl,
  x_callV (e_dx DX12_areNamed_0 19 rfl) mwX12_whatIs vwX12_whatIs cX12_585 rfl,
  f_istore (e_dx DX12_areNamed_0 20 rfl) (by decide),
  f_aload_n (n := 0) (e_dx DX12_areNamed_0 21 rfl) rfl,
  f_getA (e_dx DX12_areNamed_0 22 rfl) fX12_24 rfl (by decide) (Nat.le_of_ble_eq_true rfl) rfl (by decide),
  f_iload_n (n := 1) (e_dx DX12_areNamed_0 23 rfl) rfl,
  f_iaload (e_dx DX12_areNamed_0 24 rfl),
  f_iload_n (n := 2) (e_dx DX12_areNamed_0 25 rfl) rfl,
  f_aload_n (n := 0) (e_dx DX12_areNamed_0 26 rfl) rfl,
  f_getA (e_dx DX12_areNamed_0 27 rfl) fX12_30 rfl (by decide) (Nat.le_of_ble_eq_true rfl) rfl (by decide),
  f_iload_n (n := 1) (e_dx DX12_areNamed_0 28 rfl) rfl,
  f_iaload (e_dx DX12_areNamed_0 29 rfl),
  x_callS (e_dx DX12_areNamed_0 30 rfl) mwX12_wanted cX12_588 swX12_wanted rfl,
  f_istore (e_dx DX12_areNamed_0 31 rfl) (by decide),
  f_iload (e_dx DX12_areNamed_0 32 rfl),
  f_bipush (e_dx DX12_areNamed_0 33 rfl) ⟨by decide, by decide⟩,
  f_icmp_ne (e_dx DX12_areNamed_0 34 rfl) rfl,
  f_iload (e_dx DX12_areNamed_0 35 rfl),
  f_if_lt (e_dx DX12_areNamed_0 36 rfl) rfl,
  f_iconst (e_dx DX12_areNamed_0 37 rfl) ⟨by decide, by decide⟩,
  ⟨(e_dx DX12_areNamed_0 38 rfl), rfl⟩,
  f_iconst (e_dx DX12_areNamed_0 39 rfl) ⟨by decide, by decide⟩,
  f_istore (e_dx DX12_areNamed_1 0 rfl) (by decide),
  trivial,
  f_iload (e_dx DX12_areNamed_1 1 rfl),
  f_iload_n (n := 2) (e_dx DX12_areNamed_1 2 rfl) rfl,
  f_icmp_ge (e_dx DX12_areNamed_1 3 rfl) rfl,
  f_aload_n (n := 0) (e_dx DX12_areNamed_1 4 rfl) rfl,
  f_getA (e_dx DX12_areNamed_1 5 rfl) fX12_42 rfl (by decide) (Nat.le_of_ble_eq_true rfl) rfl (by decide),
  f_bipush (e_dx DX12_areNamed_1 6 rfl) ⟨by decide, by decide⟩,
  f_iload_n (n := 1) (e_dx DX12_areNamed_1 7 rfl) rfl,
  f_imul (e_dx DX12_areNamed_1 8 rfl),
  f_iload (e_dx DX12_areNamed_1 9 rfl),
  f_iadd (e_dx DX12_areNamed_1 10 rfl),
  f_laload (e_dx DX12_areNamed_1 11 rfl),
  f_lload_n (n := 3) (e_dx DX12_areNamed_1 12 rfl) rfl,
  f_lif_ne (e_dx DX12_areNamed_1 13 rfl) (e_dx DX12_areNamed_1 14 rfl) rfl,
  f_iconst (e_dx DX12_areNamed_1 15 rfl) ⟨by decide, by decide⟩,
  ⟨(e_dx DX12_areNamed_1 16 rfl), rfl⟩,
  f_g8 (e_dx DX12_areNamed_1 17 rfl) ⟨by decide, by decide⟩,
  f_g19 (e_dx DX12_areNamed_1 18 rfl) rfl,
  f_g19 (e_dx DX12_areNamed_1 19 rfl) rfl,
  f_iload (e_dx DX12_areNamed_1 20 rfl),
  f_if_ge (e_dx DX12_areNamed_1 21 rfl) rfl,
  f_iconst (e_dx DX12_areNamed_1 22 rfl) ⟨by decide, by decide⟩,
  ⟨(e_dx DX12_areNamed_1 23 rfl), rfl⟩,
  f_iload (e_dx DX12_areNamed_1 24 rfl),
  f_bipush (e_dx DX12_areNamed_1 25 rfl) ⟨by decide, by decide⟩,
  f_idiv (e_dx DX12_areNamed_1 26 rfl),
  f_istore (e_dx DX12_areNamed_1 27 rfl) (by decide),
  f_iload (e_dx DX12_areNamed_1 28 rfl),
  f_bipush (e_dx DX12_areNamed_1 29 rfl) ⟨by decide, by decide⟩,
  f_irem (e_dx DX12_areNamed_1 30 rfl),
  f_istore (e_dx DX12_areNamed_1 31 rfl) (by decide),
  f_iload (e_dx DX12_areNamed_1 32 rfl),
  f_bipush (e_dx DX12_areNamed_1 33 rfl) ⟨by decide, by decide⟩,
  f_icmp_ne (e_dx DX12_areNamed_1 34 rfl) rfl,
  f_iload (e_dx DX12_areNamed_1 35 rfl),
  f_iconst (e_dx DX12_areNamed_1 36 rfl) ⟨by decide, by decide⟩,
  f_icmp_ge (e_dx DX12_areNamed_1 37 rfl) rfl,
  f_g19 (e_dx DX12_areNamed_1 38 rfl) rfl,
  f_iload (e_dx DX12_areNamed_1 39 rfl),
  f_iload (e_dx DX12_areNamed_2 0 rfl),
  f_icmp_eq (e_dx DX12_areNamed_2 1 rfl) rfl,
  f_iconst (e_dx DX12_areNamed_2 2 rfl) ⟨by decide, by decide⟩,
  ⟨(e_dx DX12_areNamed_2 3 rfl), rfl⟩,
  trivial,
  f_aload_n (n := 0) (e_dx DX12_areNamed_2 4 rfl) rfl,
  f_iload (e_dx DX12_areNamed_2 5 rfl),
  f_iload (e_dx DX12_areNamed_2 6 rfl),
  f_aload_n (n := 0) (e_dx DX12_areNamed_2 7 rfl) rfl,
  f_getf (e_dx DX12_areNamed_2 8 rfl) fX12_543 rfl (by decide) (by decide) (by decide),
  x_callV (e_dx DX12_areNamed_2 9 rfl) mwX12_isThere vwX12_isThere cX12_549 rfl,
  f_if_ne (e_dx DX12_areNamed_2 10 rfl) rfl,
  f_iconst (e_dx DX12_areNamed_2 11 rfl) ⟨by decide, by decide⟩,
  ⟨(e_dx DX12_areNamed_2 12 rfl), rfl⟩,
  f_aload_n (n := 0) (e_dx DX12_areNamed_2 13 rfl) rfl,
  f_getA (e_dx DX12_areNamed_2 14 rfl) fX12_202 rfl (by decide) (Nat.le_of_ble_eq_true rfl) rfl (by decide),
  f_iload_n (n := 2) (e_dx DX12_areNamed_2 15 rfl) rfl,
  f_iload (e_dx DX12_areNamed_2 16 rfl),
  f_bipush (e_dx DX12_areNamed_2 17 rfl) ⟨by decide, by decide⟩,
  f_icmp_ne (e_dx DX12_areNamed_2 18 rfl) rfl,
  f_iload (e_dx DX12_areNamed_2 19 rfl),
  f_g19 (e_dx DX12_areNamed_2 20 rfl) rfl,
  f_iload (e_dx DX12_areNamed_2 21 rfl),
  trivial,
  f_iastore (e_dx DX12_areNamed_2 22 rfl),
  trivial,
  f_g8 (e_dx DX12_areNamed_2 23 rfl) ⟨by decide, by decide⟩,
  f_g19 (e_dx DX12_areNamed_2 24 rfl) rfl,
  f_iconst (e_dx DX12_areNamed_2 25 rfl) ⟨by decide, by decide⟩,
  ⟨(e_dx DX12_areNamed_2 26 rfl), rfl⟩, trivial⟩
def lX12_areNamed (c_X12_whatIs : Int → e_M → (Int → Prop) → Prop) (c_X12_wanted : Int → Int → Int → e_M → (Int → Prop) → Prop) (c_X12_isThere : Int → Int → Int → e_M → (Int → Prop) → Prop) : List (Nat × f_Wt) := [(0, f_wm [(4466, 12, 123), (2, 0, 0)] (fun ar M R => c_X12_whatIs (f_vi (f_nth ar 1)) M (fun r => R (some (.inl r)) M))), (1, f_wm [(1, 0, 0), (1, 0, 0), (1, 0, 0)] (fun ar M R => c_X12_wanted (f_vi (f_nth ar 0)) (f_vi (f_nth ar 1)) (f_vi (f_nth ar 2)) M (fun r => R (some (.inl r)) M))), (2, f_wm [(4466, 12, 123), (1, 0, 0), (1, 0, 0), (1, 0, 0)] (fun ar M R => c_X12_isThere (f_vi (f_nth ar 1)) (f_vi (f_nth ar 2)) (f_vi (f_nth ar 3)) M (fun r => R (some (.inl r)) M)))]
set_option maxRecDepth 20000 in
theorem BX12_areNamed_2 {sh : Nat → Nat × Nat} {t : Nat} {rm : Nat × Nat × Nat} {cs : Nat × Nat} {R : f_Rt} {c_X12_whatIs : Int → e_M → (Int → Prop) → Prop} {c_X12_wanted : Int → Int → Int → e_M → (Int → Prop) → Prop} {c_X12_isThere : Int → Int → Int → e_M → (Int → Prop) → Prop} {k146 : Int → Int → Int → Int → Int → Int → e_M → Prop} {k66 : Int → Int → Int → Int → e_M → Prop} {x1 : Int} {x2 : Int} {M : e_M} (C : f_Hy sh t yX12_areNamed rm cs 6 (lX12_areNamed c_X12_whatIs c_X12_wanted c_X12_isThere) R) (h146 : ∀ (x1 : Int) (x2 : Int) (x5 : Int) (x6 : Int) (x7 : Int) (x8 : Int) (M : e_M), k146 x1 x2 x5 x6 x7 x8 M → f_E sh t YX12_areNamed rm cs (f_Q sh t R) 146 [.inr (.inr (.inl (12, 123, 4456))), .inl x1, .inl x2, .inr (.inr (.inr ())), .inr (.inr (.inr ())), .inl x5, .inl x6, .inl x7, .inl x8] [] M) (h66 : ∀ (x1 : Int) (x2 : Int) (x3 : Int) (x7 : Int) (M : e_M), k66 x1 x2 x3 x7 M → f_E sh t YX12_areNamed rm cs (f_Q sh t R) 66 [.inr (.inr (.inl (12, 123, 4456))), .inl x1, .inl x2, .inr (.inl x3), .inr (.inr (.inr ())), .inr (.inr (.inr ())), .inr (.inr (.inr ())), .inl x7, .inr (.inr (.inr ()))] [] M) (h : VX12_areNamed_2 c_X12_whatIs c_X12_wanted c_X12_isThere k146 k66 (fun r M => R (some (.inl r)) M) x1 x2 M) : f_E sh t YX12_areNamed rm cs (f_Q sh t R) 2 [.inr (.inr (.inl (12, 123, 4456))), .inl x1, .inl x2, .inr (.inr (.inr ())), .inr (.inr (.inr ())), .inr (.inr (.inr ())), .inr (.inr (.inr ())), .inr (.inr (.inr ())), .inr (.inr (.inr ()))] [] M :=
  f_go (KC := f_kc [(146, f_pl [(4466, 12, 123), (1, 0, 0), (1, 0, 0), (0, 0, 0), (0, 0, 0), (1, 0, 0), (1, 0, 0), (1, 0, 0), (1, 0, 0)] [] (fun ls st M => k146 (f_vi (f_nth ls 1)) (f_vi (f_nth ls 2)) (f_vi (f_nth ls 5)) (f_vi (f_nth ls 6)) (f_vi (f_nth ls 7)) (f_vi (f_nth ls 8)) M)), (66, f_pl [(4466, 12, 123), (1, 0, 0), (1, 0, 0), (2, 0, 0), (0, 0, 0), (0, 0, 0), (0, 0, 0), (1, 0, 0), (0, 0, 0)] [] (fun ls st M => k66 (f_vi (f_nth ls 1)) (f_vi (f_nth ls 2)) (f_vi (f_nth ls 3)) (f_vi (f_nth ls 7)) M))]) C qX12_areNamedf (f_kc_cons (f_pl_ok rfl (fun ls st M h => h146 _ _ _ _ _ _ M h)) (f_kc_cons (f_pl_ok rfl (fun ls st M h => h66 _ _ _ _ M h)) f_kc_nil)) 114 3 h
set_option maxRecDepth 20000 in
theorem BX12_areNamed_66 {sh : Nat → Nat × Nat} {t : Nat} {rm : Nat × Nat × Nat} {cs : Nat × Nat} {R : f_Rt} {c_X12_whatIs : Int → e_M → (Int → Prop) → Prop} {c_X12_wanted : Int → Int → Int → e_M → (Int → Prop) → Prop} {c_X12_isThere : Int → Int → Int → e_M → (Int → Prop) → Prop} {k183 : Int → Int → e_M → Prop} {k66 : Int → Int → Int → Int → e_M → Prop} {x1 : Int} {x2 : Int} {x3 : Int} {x7 : Int} {M : e_M} (C : f_Hy sh t yX12_areNamed rm cs 6 (lX12_areNamed c_X12_whatIs c_X12_wanted c_X12_isThere) R) (h183 : ∀ (x1 : Int) (x2 : Int) (M : e_M), k183 x1 x2 M → f_E sh t YX12_areNamed rm cs (f_Q sh t R) 183 [.inr (.inr (.inl (12, 123, 4456))), .inl x1, .inl x2, .inr (.inr (.inr ())), .inr (.inr (.inr ())), .inr (.inr (.inr ())), .inr (.inr (.inr ())), .inr (.inr (.inr ())), .inr (.inr (.inr ()))] [] M) (h66 : ∀ (x1 : Int) (x2 : Int) (x3 : Int) (x7 : Int) (M : e_M), k66 x1 x2 x3 x7 M → f_E sh t YX12_areNamed rm cs (f_Q sh t R) 66 [.inr (.inr (.inl (12, 123, 4456))), .inl x1, .inl x2, .inr (.inl x3), .inr (.inr (.inr ())), .inr (.inr (.inr ())), .inr (.inr (.inr ())), .inl x7, .inr (.inr (.inr ()))] [] M) (h : VX12_areNamed_66 c_X12_whatIs c_X12_wanted c_X12_isThere k183 k66 (fun r M => R (some (.inl r)) M) x1 x2 x3 x7 M) : f_E sh t YX12_areNamed rm cs (f_Q sh t R) 66 [.inr (.inr (.inl (12, 123, 4456))), .inl x1, .inl x2, .inr (.inl x3), .inr (.inr (.inr ())), .inr (.inr (.inr ())), .inr (.inr (.inr ())), .inl x7, .inr (.inr (.inr ()))] [] M :=
  f_go (KC := f_kc [(183, f_pl [(4466, 12, 123), (1, 0, 0), (1, 0, 0), (0, 0, 0), (0, 0, 0), (0, 0, 0), (0, 0, 0), (0, 0, 0), (0, 0, 0)] [] (fun ls st M => k183 (f_vi (f_nth ls 1)) (f_vi (f_nth ls 2)) M)), (66, f_pl [(4466, 12, 123), (1, 0, 0), (1, 0, 0), (2, 0, 0), (0, 0, 0), (0, 0, 0), (0, 0, 0), (1, 0, 0), (0, 0, 0)] [] (fun ls st M => k66 (f_vi (f_nth ls 1)) (f_vi (f_nth ls 2)) (f_vi (f_nth ls 3)) (f_vi (f_nth ls 7)) M))]) C qX12_areNamedf (f_kc_cons (f_pl_ok rfl (fun ls st M h => h183 _ _ M h)) (f_kc_cons (f_pl_ok rfl (fun ls st M h => h66 _ _ _ _ M h)) f_kc_nil)) 114 44 h
set_option maxRecDepth 20000 in
theorem BX12_areNamed_146 {sh : Nat → Nat × Nat} {t : Nat} {rm : Nat × Nat × Nat} {cs : Nat × Nat} {R : f_Rt} {c_X12_whatIs : Int → e_M → (Int → Prop) → Prop} {c_X12_wanted : Int → Int → Int → e_M → (Int → Prop) → Prop} {c_X12_isThere : Int → Int → Int → e_M → (Int → Prop) → Prop} {k182 : Int → Int → Int → Int → e_M → Prop} {x1 : Int} {x2 : Int} {x5 : Int} {x6 : Int} {x7 : Int} {x8 : Int} {M : e_M} (C : f_Hy sh t yX12_areNamed rm cs 6 (lX12_areNamed c_X12_whatIs c_X12_wanted c_X12_isThere) R) (h182 : ∀ (x1 : Int) (x2 : Int) (xs2 : Int) (xs1 : Int) (M : e_M), k182 x1 x2 xs2 xs1 M → f_E sh t YX12_areNamed rm cs (f_Q sh t R) 182 [.inr (.inr (.inl (12, 123, 4456))), .inl x1, .inl x2, .inr (.inr (.inr ())), .inr (.inr (.inr ())), .inr (.inr (.inr ())), .inr (.inr (.inr ())), .inr (.inr (.inr ())), .inr (.inr (.inr ()))] [.inl xs2, .inl xs1, .inr (.inr (.inl (20, 10, 4520)))] M) (h : VX12_areNamed_146 c_X12_whatIs c_X12_wanted c_X12_isThere k182 (fun r M => R (some (.inl r)) M) x1 x2 x5 x6 x7 x8 M) : f_E sh t YX12_areNamed rm cs (f_Q sh t R) 146 [.inr (.inr (.inl (12, 123, 4456))), .inl x1, .inl x2, .inr (.inr (.inr ())), .inr (.inr (.inr ())), .inl x5, .inl x6, .inl x7, .inl x8] [] M :=
  f_go (KC := f_kc [(182, f_pl [(4466, 12, 123), (1, 0, 0), (1, 0, 0), (0, 0, 0), (0, 0, 0), (0, 0, 0), (0, 0, 0), (0, 0, 0), (0, 0, 0)] [(1, 0, 0), (1, 0, 0), (4530, 20, 10)] (fun ls st M => k182 (f_vi (f_nth ls 1)) (f_vi (f_nth ls 2)) (f_vi (f_nth st 0)) (f_vi (f_nth st 1)) M))]) C qX12_areNamedf (f_kc_cons (f_pl_ok rfl (fun ls st M h => h182 _ _ _ _ M h)) f_kc_nil) 114 87 h
set_option maxRecDepth 20000 in
theorem BX12_areNamed_182 {sh : Nat → Nat × Nat} {t : Nat} {rm : Nat × Nat × Nat} {cs : Nat × Nat} {R : f_Rt} {c_X12_whatIs : Int → e_M → (Int → Prop) → Prop} {c_X12_wanted : Int → Int → Int → e_M → (Int → Prop) → Prop} {c_X12_isThere : Int → Int → Int → e_M → (Int → Prop) → Prop} {k183 : Int → Int → e_M → Prop} {x1 : Int} {x2 : Int} {xs2 : Int} {xs1 : Int} {M : e_M} (C : f_Hy sh t yX12_areNamed rm cs 6 (lX12_areNamed c_X12_whatIs c_X12_wanted c_X12_isThere) R) (h183 : ∀ (x1 : Int) (x2 : Int) (M : e_M), k183 x1 x2 M → f_E sh t YX12_areNamed rm cs (f_Q sh t R) 183 [.inr (.inr (.inl (12, 123, 4456))), .inl x1, .inl x2, .inr (.inr (.inr ())), .inr (.inr (.inr ())), .inr (.inr (.inr ())), .inr (.inr (.inr ())), .inr (.inr (.inr ())), .inr (.inr (.inr ()))] [] M) (h : VX12_areNamed_182 c_X12_whatIs c_X12_wanted c_X12_isThere k183 (fun r M => R (some (.inl r)) M) x1 x2 xs2 xs1 M) : f_E sh t YX12_areNamed rm cs (f_Q sh t R) 182 [.inr (.inr (.inl (12, 123, 4456))), .inl x1, .inl x2, .inr (.inr (.inr ())), .inr (.inr (.inr ())), .inr (.inr (.inr ())), .inr (.inr (.inr ())), .inr (.inr (.inr ())), .inr (.inr (.inr ()))] [.inl xs2, .inl xs1, .inr (.inr (.inl (20, 10, 4520)))] M :=
  f_go (KC := f_kc [(183, f_pl [(4466, 12, 123), (1, 0, 0), (1, 0, 0), (0, 0, 0), (0, 0, 0), (0, 0, 0), (0, 0, 0), (0, 0, 0), (0, 0, 0)] [] (fun ls st M => k183 (f_vi (f_nth ls 1)) (f_vi (f_nth ls 2)) M))]) C qX12_areNamedf (f_kc_cons (f_pl_ok rfl (fun ls st M h => h183 _ _ M h)) f_kc_nil) 114 106 h
set_option maxRecDepth 20000 in
theorem BX12_areNamed_183 {sh : Nat → Nat × Nat} {t : Nat} {rm : Nat × Nat × Nat} {cs : Nat × Nat} {R : f_Rt} {c_X12_whatIs : Int → e_M → (Int → Prop) → Prop} {c_X12_wanted : Int → Int → Int → e_M → (Int → Prop) → Prop} {c_X12_isThere : Int → Int → Int → e_M → (Int → Prop) → Prop} {k2 : Int → Int → e_M → Prop} {x1 : Int} {x2 : Int} {M : e_M} (C : f_Hy sh t yX12_areNamed rm cs 6 (lX12_areNamed c_X12_whatIs c_X12_wanted c_X12_isThere) R) (h2 : ∀ (x1 : Int) (x2 : Int) (M : e_M), k2 x1 x2 M → f_E sh t YX12_areNamed rm cs (f_Q sh t R) 2 [.inr (.inr (.inl (12, 123, 4456))), .inl x1, .inl x2, .inr (.inr (.inr ())), .inr (.inr (.inr ())), .inr (.inr (.inr ())), .inr (.inr (.inr ())), .inr (.inr (.inr ())), .inr (.inr (.inr ()))] [] M) (h : VX12_areNamed_183 c_X12_whatIs c_X12_wanted c_X12_isThere k2 (fun r M => R (some (.inl r)) M) x1 x2 M) : f_E sh t YX12_areNamed rm cs (f_Q sh t R) 183 [.inr (.inr (.inl (12, 123, 4456))), .inl x1, .inl x2, .inr (.inr (.inr ())), .inr (.inr (.inr ())), .inr (.inr (.inr ())), .inr (.inr (.inr ())), .inr (.inr (.inr ())), .inr (.inr (.inr ()))] [] M :=
  f_go (KC := f_kc [(2, f_pl [(4466, 12, 123), (1, 0, 0), (1, 0, 0), (0, 0, 0), (0, 0, 0), (0, 0, 0), (0, 0, 0), (0, 0, 0), (0, 0, 0)] [] (fun ls st M => k2 (f_vi (f_nth ls 1)) (f_vi (f_nth ls 2)) M))]) C qX12_areNamedf (f_kc_cons (f_pl_ok rfl (fun ls st M h => h2 _ _ M h)) f_kc_nil) 114 108 h
set_option maxRecDepth 20000 in
theorem BX12_areNamed {sh : Nat → Nat × Nat} {t : Nat} {rm : Nat × Nat × Nat} {cs : Nat × Nat} {R : f_Rt} {c_X12_whatIs : Int → e_M → (Int → Prop) → Prop} {c_X12_wanted : Int → Int → Int → e_M → (Int → Prop) → Prop} {c_X12_isThere : Int → Int → Int → e_M → (Int → Prop) → Prop} {k2 : Int → Int → e_M → Prop} {x1 : Int} {M : e_M} (C : f_Hy sh t yX12_areNamed rm cs 6 (lX12_areNamed c_X12_whatIs c_X12_wanted c_X12_isThere) R) (h2 : ∀ (x1 : Int) (x2 : Int) (M : e_M), k2 x1 x2 M → f_E sh t YX12_areNamed rm cs (f_Q sh t R) 2 [.inr (.inr (.inl (12, 123, 4456))), .inl x1, .inl x2, .inr (.inr (.inr ())), .inr (.inr (.inr ())), .inr (.inr (.inr ())), .inr (.inr (.inr ())), .inr (.inr (.inr ())), .inr (.inr (.inr ()))] [] M) (h : VX12_areNamed c_X12_whatIs c_X12_wanted c_X12_isThere k2 (fun r M => R (some (.inl r)) M) x1 M) : f_E sh t YX12_areNamed rm cs (f_Q sh t R) 0 [.inr (.inr (.inl (12, 123, 4456))), .inl x1, .inr (.inr (.inr ())), .inr (.inr (.inr ())), .inr (.inr (.inr ())), .inr (.inr (.inr ())), .inr (.inr (.inr ())), .inr (.inr (.inr ())), .inr (.inr (.inr ()))] [] M :=
  f_go (KC := f_kc [(2, f_pl [(4466, 12, 123), (1, 0, 0), (1, 0, 0), (0, 0, 0), (0, 0, 0), (0, 0, 0), (0, 0, 0), (0, 0, 0), (0, 0, 0)] [] (fun ls st M => k2 (f_vi (f_nth ls 1)) (f_vi (f_nth ls 2)) M))]) C qX12_areNamedf (f_kc_cons (f_pl_ok rfl (fun ls st M h => h2 _ _ M h)) f_kc_nil) 114 0 h
def WX12_areNamed_183 (H2 : Int → Int → e_M → Prop) (Q : Int → e_M → Prop) (x1 : Int) (x2 : Int) (M : e_M) : Prop :=
  VX12_areNamed_183 WX12_whatIs WX12_wanted WX12_isThere H2 Q x1 x2 M
def WX12_areNamed_66 (H2 : Int → Int → e_M → Prop) (Q : Int → e_M → Prop) : Nat → Int → Int → Int → Int → e_M → Prop
  | 0, _, _, _, _, _ => False
  | n + 1, x1, x2, x3, x7, M =>
    VX12_areNamed_66 WX12_whatIs WX12_wanted WX12_isThere (WX12_areNamed_183 H2 Q) (WX12_areNamed_66 H2 Q n) Q x1 x2 x3 x7 M
def WX12_areNamed_182 (H2 : Int → Int → e_M → Prop) (Q : Int → e_M → Prop) (x1 : Int) (x2 : Int) (xs2 : Int) (xs1 : Int) (M : e_M) : Prop :=
  VX12_areNamed_182 WX12_whatIs WX12_wanted WX12_isThere (WX12_areNamed_183 H2 Q) Q x1 x2 xs2 xs1 M
def WX12_areNamed_146 (H2 : Int → Int → e_M → Prop) (Q : Int → e_M → Prop) (x1 : Int) (x2 : Int) (x5 : Int) (x6 : Int) (x7 : Int) (x8 : Int) (M : e_M) : Prop :=
  VX12_areNamed_146 WX12_whatIs WX12_wanted WX12_isThere (WX12_areNamed_182 H2 Q) Q x1 x2 x5 x6 x7 x8 M
def WX12_areNamed_2 (Q : Int → e_M → Prop) : Nat → Int → Int → e_M → Prop
  | 0, _, _, _ => False
  | n + 1, x1, x2, M =>
    VX12_areNamed_2 WX12_whatIs WX12_wanted WX12_isThere (WX12_areNamed_146 (WX12_areNamed_2 Q n) Q) (fun x1 x2 x3 x7 M => ∃ j, WX12_areNamed_66 (WX12_areNamed_2 Q n) Q j x1 x2 x3 x7 M) Q x1 x2 M
def WX12_areNamed (x1 : Int) (M : e_M) (Q : Int → e_M → Prop) : Prop :=
  VX12_areNamed WX12_whatIs WX12_wanted WX12_isThere (fun x1 x2 M => ∃ j, WX12_areNamed_2 Q j x1 x2 M) Q x1 M
theorem PX12_areNamed_183 {sh : Nat → Nat × Nat} {t : Nat} {rm : Nat × Nat × Nat} {cs : Nat × Nat} {R : f_Rt} {H2 : Int → Int → e_M → Prop} {x1 : Int} {x2 : Int} {M : e_M} (C : f_Hy sh t yX12_areNamed rm cs 6 (lX12_areNamed WX12_whatIs WX12_wanted WX12_isThere) R) (g2 : ∀ (x1 : Int) (x2 : Int) (M : e_M), H2 x1 x2 M → f_E sh t YX12_areNamed rm cs (f_Q sh t R) 2 [.inr (.inr (.inl (12, 123, 4456))), .inl x1, .inl x2, .inr (.inr (.inr ())), .inr (.inr (.inr ())), .inr (.inr (.inr ())), .inr (.inr (.inr ())), .inr (.inr (.inr ())), .inr (.inr (.inr ()))] [] M) (h : WX12_areNamed_183 H2 (fun r M => R (some (.inl r)) M) x1 x2 M) : f_E sh t YX12_areNamed rm cs (f_Q sh t R) 183 [.inr (.inr (.inl (12, 123, 4456))), .inl x1, .inl x2, .inr (.inr (.inr ())), .inr (.inr (.inr ())), .inr (.inr (.inr ())), .inr (.inr (.inr ())), .inr (.inr (.inr ())), .inr (.inr (.inr ()))] [] M :=
  BX12_areNamed_183 C g2 h
theorem PX12_areNamed_66 {sh : Nat → Nat × Nat} {t : Nat} {rm : Nat × Nat × Nat} {cs : Nat × Nat} {R : f_Rt} {H2 : Int → Int → e_M → Prop} (C : f_Hy sh t yX12_areNamed rm cs 6 (lX12_areNamed WX12_whatIs WX12_wanted WX12_isThere) R) (g2 : ∀ (x1 : Int) (x2 : Int) (M : e_M), H2 x1 x2 M → f_E sh t YX12_areNamed rm cs (f_Q sh t R) 2 [.inr (.inr (.inl (12, 123, 4456))), .inl x1, .inl x2, .inr (.inr (.inr ())), .inr (.inr (.inr ())), .inr (.inr (.inr ())), .inr (.inr (.inr ())), .inr (.inr (.inr ())), .inr (.inr (.inr ()))] [] M) : ∀ (n : Nat) (x1 : Int) (x2 : Int) (x3 : Int) (x7 : Int) (M : e_M), WX12_areNamed_66 H2 (fun r M => R (some (.inl r)) M) n x1 x2 x3 x7 M → f_E sh t YX12_areNamed rm cs (f_Q sh t R) 66 [.inr (.inr (.inl (12, 123, 4456))), .inl x1, .inl x2, .inr (.inl x3), .inr (.inr (.inr ())), .inr (.inr (.inr ())), .inr (.inr (.inr ())), .inl x7, .inr (.inr (.inr ()))] [] M := by
  intro n
  induction n with
  | zero => intro x1 x2 x3 x7 M h; exact h.elim
  | succ n ih => intro x1 x2 x3 x7 M h; exact BX12_areNamed_66 C (fun x1 x2 M h => PX12_areNamed_183 C g2 h) ih h
theorem PX12_areNamed_182 {sh : Nat → Nat × Nat} {t : Nat} {rm : Nat × Nat × Nat} {cs : Nat × Nat} {R : f_Rt} {H2 : Int → Int → e_M → Prop} {x1 : Int} {x2 : Int} {xs2 : Int} {xs1 : Int} {M : e_M} (C : f_Hy sh t yX12_areNamed rm cs 6 (lX12_areNamed WX12_whatIs WX12_wanted WX12_isThere) R) (g2 : ∀ (x1 : Int) (x2 : Int) (M : e_M), H2 x1 x2 M → f_E sh t YX12_areNamed rm cs (f_Q sh t R) 2 [.inr (.inr (.inl (12, 123, 4456))), .inl x1, .inl x2, .inr (.inr (.inr ())), .inr (.inr (.inr ())), .inr (.inr (.inr ())), .inr (.inr (.inr ())), .inr (.inr (.inr ())), .inr (.inr (.inr ()))] [] M) (h : WX12_areNamed_182 H2 (fun r M => R (some (.inl r)) M) x1 x2 xs2 xs1 M) : f_E sh t YX12_areNamed rm cs (f_Q sh t R) 182 [.inr (.inr (.inl (12, 123, 4456))), .inl x1, .inl x2, .inr (.inr (.inr ())), .inr (.inr (.inr ())), .inr (.inr (.inr ())), .inr (.inr (.inr ())), .inr (.inr (.inr ())), .inr (.inr (.inr ()))] [.inl xs2, .inl xs1, .inr (.inr (.inl (20, 10, 4520)))] M :=
  BX12_areNamed_182 C (fun x1 x2 M h => PX12_areNamed_183 C g2 h) h
theorem PX12_areNamed_146 {sh : Nat → Nat × Nat} {t : Nat} {rm : Nat × Nat × Nat} {cs : Nat × Nat} {R : f_Rt} {H2 : Int → Int → e_M → Prop} {x1 : Int} {x2 : Int} {x5 : Int} {x6 : Int} {x7 : Int} {x8 : Int} {M : e_M} (C : f_Hy sh t yX12_areNamed rm cs 6 (lX12_areNamed WX12_whatIs WX12_wanted WX12_isThere) R) (g2 : ∀ (x1 : Int) (x2 : Int) (M : e_M), H2 x1 x2 M → f_E sh t YX12_areNamed rm cs (f_Q sh t R) 2 [.inr (.inr (.inl (12, 123, 4456))), .inl x1, .inl x2, .inr (.inr (.inr ())), .inr (.inr (.inr ())), .inr (.inr (.inr ())), .inr (.inr (.inr ())), .inr (.inr (.inr ())), .inr (.inr (.inr ()))] [] M) (h : WX12_areNamed_146 H2 (fun r M => R (some (.inl r)) M) x1 x2 x5 x6 x7 x8 M) : f_E sh t YX12_areNamed rm cs (f_Q sh t R) 146 [.inr (.inr (.inl (12, 123, 4456))), .inl x1, .inl x2, .inr (.inr (.inr ())), .inr (.inr (.inr ())), .inl x5, .inl x6, .inl x7, .inl x8] [] M :=
  BX12_areNamed_146 C (fun x1 x2 xs2 xs1 M h => PX12_areNamed_182 C g2 h) h
theorem PX12_areNamed_2 {sh : Nat → Nat × Nat} {t : Nat} {rm : Nat × Nat × Nat} {cs : Nat × Nat} {R : f_Rt} (C : f_Hy sh t yX12_areNamed rm cs 6 (lX12_areNamed WX12_whatIs WX12_wanted WX12_isThere) R) : ∀ (n : Nat) (x1 : Int) (x2 : Int) (M : e_M), WX12_areNamed_2 (fun r M => R (some (.inl r)) M) n x1 x2 M → f_E sh t YX12_areNamed rm cs (f_Q sh t R) 2 [.inr (.inr (.inl (12, 123, 4456))), .inl x1, .inl x2, .inr (.inr (.inr ())), .inr (.inr (.inr ())), .inr (.inr (.inr ())), .inr (.inr (.inr ())), .inr (.inr (.inr ())), .inr (.inr (.inr ()))] [] M := by
  intro n
  induction n with
  | zero => intro x1 x2 M h; exact h.elim
  | succ n ih => intro x1 x2 M h; exact BX12_areNamed_2 C (fun x1 x2 x5 x6 x7 x8 M h => PX12_areNamed_146 C ih h) (fun x1 x2 x3 x7 M ⟨j, h⟩ => PX12_areNamed_66 C ih j _ _ _ _ _ h) h
theorem PX12_areNamed {sh : Nat → Nat × Nat} {t : Nat} {rm : Nat × Nat × Nat} {cs : Nat × Nat} {R : f_Rt} {x1 : Int} {M : e_M} (C : f_Hy sh t yX12_areNamed rm cs 6 (lX12_areNamed WX12_whatIs WX12_wanted WX12_isThere) R) (h : WX12_areNamed x1 M (fun r M => R (some (.inl r)) M)) : f_E sh t YX12_areNamed rm cs (f_Q sh t R) 0 [.inr (.inr (.inl (12, 123, 4456))), .inl x1, .inr (.inr (.inr ())), .inr (.inr (.inr ())), .inr (.inr (.inr ())), .inr (.inr (.inr ())), .inr (.inr (.inr ())), .inr (.inr (.inr ())), .inr (.inr (.inr ()))] [] M :=
  BX12_areNamed C (fun x1 x2 M ⟨j, h⟩ => PX12_areNamed_2 C j _ _ _ h) h
def wX12_areNamed : f_Wt := f_wm [(4466, 12, 123), (1, 0, 0)] (fun ar M R => WX12_areNamed (f_vi (f_nth ar 1)) M (fun r M => R (some (.inl r)) M))
theorem TX12_areNamed {sh : Nat → Nat × Nat} {t : Nat} : f_Mt sh t YX12_areNamed 6 (wX12_areNamed) :=
  f_Mt_of (k := 7) (Nat.le_of_ble_eq_true rfl) rfl rfl (fun ar M R rm cs h1 h2 h3 hX h => PX12_areNamed ⟨Nat.le_of_ble_eq_true rfl, h1, h2, h3, ⟨(f_Mt.up (Nat.le_of_ble_eq_true rfl) TX12_whatIs), (f_Mt.up (Nat.le_of_ble_eq_true rfl) TX12_wanted), (f_Mt.up (Nat.le_of_ble_eq_true rfl) TX12_isThere), trivial⟩, hX⟩ h)
def VX12_born (c_X12_full : Int → Int → e_M → (Int → Prop) → Prop) (c_X12_make : Int → Int → e_M → (Int → e_M → Prop) → Prop) (c_X12_id : Int → Int → e_M → (Int → Prop) → Prop) (Q : Int → e_M → Prop) (x1 : Int) (M : e_M) : Prop :=
  ((0 ≤ x1 ∧ x1 < 152) ∧ (((M 4465 (x1.toNat)) ≤ (M 4456 86) → (c_X12_full 1 1 M (fun r1 => ((r1 = 0 → ((0 ≤ (e_w32 ((10 : Int) * x1)) ∧ (e_w32 ((10 : Int) * x1)) < 1520) ∧ (c_X12_make 1 (M 4467 ((e_w32 ((10 : Int) * x1)).toNat)) M (fun r2 M3 => (c_X12_id 1 r2 M3 (fun r4 => ((0 ≤ x1 ∧ x1 < 152) ∧ ((0 ≤ r4 ∧ r4 < 560) ∧ (∀ M5 : e_M, M5 = e_up M3 4486 (r4.toNat) (M3 4465 (x1.toNat)) → (Q 0 M5)))))))))) ∧ (¬ r1 = 0 → (Q 7 M)))))) ∧ ((M 4456 86) < (M 4465 (x1.toNat)) → (Q 8 M))))
def yX12_born (i : Nat) : e_Y := x_get YX12_born [YX12_full, YX12_make, YX12_id] i
def pX12_bornf : List x_I := [(0, 4, 1, 0, 0, 0, []), (1, 25, 12, 18, 4, 0, [(0, 20, 152), (0, 1, 9)]), (4, 2, 1, 1, 0, 0, []), (5, 27, 0, 0, 0, 0, []), (6, 4, 1, 0, 0, 0, []), (7, 25, 12, 86, 0, 0, []), (10, 18, 16, 5, 10, 0, []), (13, 0, 2, 0, 0, 8, []), (15, 41, 0, 0, 0, 0, []), (16, 4, 1, 0, 0, 0, []), (17, 0, 1, 0, 0, 1, []), (18, 0, 1, 0, 0, 1, []), (19, 40, 0, 3, 14, 0, []), (22, 17, 28, 0, 17, 0, []), (25, 0, 2, 0, 0, 7, []), (27, 41, 0, 0, 0, 0, []), (28, 4, 1, 0, 0, 0, []), (29, 0, 1, 0, 0, 1, []), (30, 4, 1, 0, 0, 0, []), (31, 25, 12, 20, 4, 0, [(0, 23, 1520), (0, 1, 11)]), (34, 0, 2, 0, 0, 10, []), (36, 2, 1, 1, 0, 0, []), (37, 9, 0, 2, 0, 0, []), (38, 27, 0, 1, 0, 0, []), (39, 40, 1, 3, 14, 0, []), (42, 5, 1, 2, 0, 0, []), (43, 4, 1, 0, 0, 0, []), (44, 25, 12, 53, 4, 0, [(0, 20, 560), (0, 1, 30)]), (47, 0, 1, 0, 0, 1, []), (48, 2, 1, 2, 0, 0, []), (49, 40, 2, 2, 0, 0, []), (52, 4, 1, 0, 0, 0, []), (53, 25, 12, 18, 4, 0, [(0, 20, 152), (0, 1, 9)]), (56, 2, 1, 1, 0, 0, []), (57, 27, 0, 0, 0, 0, []), (58, 28, 0, 0, 0, 0, []), (59, 0, 1, 0, 0, 0, []), (60, 41, 0, 0, 0, 0, [])]
set_option maxRecDepth 20000 in
theorem qX12_bornf : f_all yX12_born YX12_born pX12_bornf :=
  ⟨f_aload_n (n := 0) (e_dx DX12_born_0 0 rfl) rfl,
  f_getA (e_dx DX12_born_0 1 rfl) fX12_36 rfl (by decide) (Nat.le_of_ble_eq_true rfl) rfl (by decide),
  f_iload_n (n := 1) (e_dx DX12_born_0 2 rfl) rfl,
  f_iaload (e_dx DX12_born_0 3 rfl),
  f_aload_n (n := 0) (e_dx DX12_born_0 4 rfl) rfl,
  f_getf (e_dx DX12_born_0 5 rfl) fX12_543 rfl (by decide) (by decide) (by decide),
  f_icmp_le (e_dx DX12_born_0 6 rfl) rfl,
  f_bipush (e_dx DX12_born_0 7 rfl) ⟨by decide, by decide⟩,
  ⟨(e_dx DX12_born_0 8 rfl), rfl⟩,
  f_aload_n (n := 0) (e_dx DX12_born_0 9 rfl) rfl,
  f_iconst (e_dx DX12_born_0 10 rfl) ⟨by decide, by decide⟩,
  f_iconst (e_dx DX12_born_0 11 rfl) ⟨by decide, by decide⟩,
  x_callV (e_dx DX12_born_0 12 rfl) mwX12_full vwX12_full cX12_660 rfl,
  f_if_eq (e_dx DX12_born_0 13 rfl) rfl,
  f_bipush (e_dx DX12_born_0 14 rfl) ⟨by decide, by decide⟩,
  ⟨(e_dx DX12_born_0 15 rfl), rfl⟩,
  f_aload_n (n := 0) (e_dx DX12_born_0 16 rfl) rfl,
  f_iconst (e_dx DX12_born_0 17 rfl) ⟨by decide, by decide⟩,
  f_aload_n (n := 0) (e_dx DX12_born_0 18 rfl) rfl,
  f_getA (e_dx DX12_born_0 19 rfl) fX12_42 rfl (by decide) (Nat.le_of_ble_eq_true rfl) rfl (by decide),
  f_bipush (e_dx DX12_born_0 20 rfl) ⟨by decide, by decide⟩,
  f_iload_n (n := 1) (e_dx DX12_born_0 21 rfl) rfl,
  f_imul (e_dx DX12_born_0 22 rfl),
  f_laload (e_dx DX12_born_0 23 rfl),
  x_callV (e_dx DX12_born_0 24 rfl) mwX12_make vwX12_make cX12_534 rfl,
  f_istore_n (n := 2) (e_dx DX12_born_0 25 rfl) rfl (by decide),
  f_aload_n (n := 0) (e_dx DX12_born_0 26 rfl) rfl,
  f_getA (e_dx DX12_born_0 27 rfl) fX12_100 rfl (by decide) (Nat.le_of_ble_eq_true rfl) rfl (by decide),
  f_iconst (e_dx DX12_born_0 28 rfl) ⟨by decide, by decide⟩,
  f_iload_n (n := 2) (e_dx DX12_born_0 29 rfl) rfl,
  x_callS (e_dx DX12_born_0 30 rfl) mwX12_id cX12_540 swX12_id rfl,
  f_aload_n (n := 0) (e_dx DX12_born_0 31 rfl) rfl,
  f_getA (e_dx DX12_born_0 32 rfl) fX12_36 rfl (by decide) (Nat.le_of_ble_eq_true rfl) rfl (by decide),
  f_iload_n (n := 1) (e_dx DX12_born_0 33 rfl) rfl,
  f_iaload (e_dx DX12_born_0 34 rfl),
  f_iastore (e_dx DX12_born_0 35 rfl),
  f_iconst (e_dx DX12_born_0 36 rfl) ⟨by decide, by decide⟩,
  ⟨(e_dx DX12_born_0 37 rfl), rfl⟩, trivial⟩
def lX12_born (c_X12_full : Int → Int → e_M → (Int → Prop) → Prop) (c_X12_make : Int → Int → e_M → (Int → e_M → Prop) → Prop) (c_X12_id : Int → Int → e_M → (Int → Prop) → Prop) : List (Nat × f_Wt) := [(0, f_wm [(4466, 12, 123), (1, 0, 0), (1, 0, 0)] (fun ar M R => c_X12_full (f_vi (f_nth ar 1)) (f_vi (f_nth ar 2)) M (fun r => R (some (.inl r)) M))), (1, f_wm [(4466, 12, 123), (1, 0, 0), (2, 0, 0)] (fun ar M R => c_X12_make (f_vi (f_nth ar 1)) (f_vi (f_nth ar 2)) M (fun r M => R (some (.inl r)) M))), (2, f_wm [(1, 0, 0), (1, 0, 0)] (fun ar M R => c_X12_id (f_vi (f_nth ar 0)) (f_vi (f_nth ar 1)) M (fun r => R (some (.inl r)) M)))]
set_option maxRecDepth 20000 in
theorem BX12_born {sh : Nat → Nat × Nat} {t : Nat} {rm : Nat × Nat × Nat} {cs : Nat × Nat} {R : f_Rt} {c_X12_full : Int → Int → e_M → (Int → Prop) → Prop} {c_X12_make : Int → Int → e_M → (Int → e_M → Prop) → Prop} {c_X12_id : Int → Int → e_M → (Int → Prop) → Prop} {x1 : Int} {M : e_M} (C : f_Hy sh t yX12_born rm cs 6 (lX12_born c_X12_full c_X12_make c_X12_id) R) (h : VX12_born c_X12_full c_X12_make c_X12_id (fun r M => R (some (.inl r)) M) x1 M) : f_E sh t YX12_born rm cs (f_Q sh t R) 0 [.inr (.inr (.inl (12, 123, 4456))), .inl x1, .inr (.inr (.inr ()))] [] M :=
  f_go (KC := f_kc []) C qX12_bornf f_kc_nil 40 0 h
def WX12_born (x1 : Int) (M : e_M) (Q : Int → e_M → Prop) : Prop :=
  VX12_born WX12_full WX12_make WX12_id Q x1 M
theorem PX12_born {sh : Nat → Nat × Nat} {t : Nat} {rm : Nat × Nat × Nat} {cs : Nat × Nat} {R : f_Rt} {x1 : Int} {M : e_M} (C : f_Hy sh t yX12_born rm cs 6 (lX12_born WX12_full WX12_make WX12_id) R) (h : WX12_born x1 M (fun r M => R (some (.inl r)) M)) : f_E sh t YX12_born rm cs (f_Q sh t R) 0 [.inr (.inr (.inl (12, 123, 4456))), .inl x1, .inr (.inr (.inr ()))] [] M :=
  BX12_born C h
def wX12_born : f_Wt := f_wm [(4466, 12, 123), (1, 0, 0)] (fun ar M R => WX12_born (f_vi (f_nth ar 1)) M (fun r M => R (some (.inl r)) M))
theorem TX12_born {sh : Nat → Nat × Nat} {t : Nat} : f_Mt sh t YX12_born 6 (wX12_born) :=
  f_Mt_of (k := 1) (Nat.le_of_ble_eq_true rfl) rfl rfl (fun ar M R rm cs h1 h2 h3 hX h => PX12_born ⟨Nat.le_of_ble_eq_true rfl, h1, h2, h3, ⟨(f_Mt.up (Nat.le_of_ble_eq_true rfl) TX12_full), (f_Mt.up (Nat.le_of_ble_eq_true rfl) TX12_make), (f_Mt.up (Nat.le_of_ble_eq_true rfl) TX12_id), trivial⟩, hX⟩ h)
def VX12_firm (c_X12_id : Int → Int → e_M → (Int → Prop) → Prop) (c_X12_isAge : Int → Int → e_M → (Int → Prop) → Prop) (c_X12_full : Int → Int → e_M → (Int → Prop) → Prop) (c_X12_make : Int → Int → e_M → (Int → e_M → Prop) → Prop) (Q : Int → e_M → Prop) (x1 : Int) (M : e_M) : Prop :=
  ((0 ≤ (1 : Int) ∧ (1 : Int) < 10) ∧ (c_X12_id 1 (M 4520 ((1 : Int).toNat)) M (fun r1 => ((0 ≤ r1 ∧ r1 < 560) ∧ (((M 4491 (r1.toNat)) = 0 → (c_X12_isAge (M 4520 ((1 : Int).toNat)) (M 4456 86) M (fun r2 => ((¬ r2 = 0 → (c_X12_full 1 1 M (fun r3 => ((r3 = 0 → ((0 ≤ (e_w32 ((10 : Int) * x1)) ∧ (e_w32 ((10 : Int) * x1)) < 1520) ∧ (c_X12_make 1 (M 4467 ((e_w32 ((10 : Int) * x1)).toNat)) M (fun r4 M5 => (c_X12_id 1 r4 M5 (fun r6 => ((0 ≤ r6 ∧ r6 < 560) ∧ (∀ M7 : e_M, M7 = e_up M5 4491 (r6.toNat) 1 → ((0 ≤ r6 ∧ r6 < 560) ∧ (∀ M8 : e_M, M8 = e_up M7 4489 (r6.toNat) (M 4520 ((1 : Int).toNat)) → (Q 0 M8))))))))))) ∧ (¬ r3 = 0 → (Q 7 M)))))) ∧ (r2 = 0 → (Q 2 M)))))) ∧ (¬ (M 4491 (r1.toNat)) = 0 → (Q 1 M)))))))
def yX12_firm (i : Nat) : e_Y := x_get YX12_firm [YX12_id, YX12_isAge, YX12_full, YX12_make] i
def pX12_firmf : List x_I := [(0, 4, 1, 0, 0, 0, []), (1, 25, 12, 91, 4, 0, [(0, 20, 10), (0, 1, 64)]), (4, 0, 1, 0, 0, 1, []), (5, 27, 0, 0, 0, 0, []), (6, 5, 1, 2, 0, 0, []), (7, 4, 1, 0, 0, 0, []), (8, 25, 12, 58, 4, 0, [(0, 20, 560), (0, 1, 35)]), (11, 0, 1, 0, 0, 1, []), (12, 2, 1, 2, 0, 0, []), (13, 40, 0, 2, 0, 0, []), (16, 27, 0, 0, 0, 0, []), (17, 17, 22, 0, 15, 0, []), (20, 0, 1, 0, 0, 1, []), (21, 41, 0, 0, 0, 0, []), (22, 4, 1, 0, 0, 0, []), (23, 2, 1, 2, 0, 0, []), (24, 4, 1, 0, 0, 0, []), (25, 25, 12, 86, 0, 0, []), (28, 40, 1, 3, 14, 0, []), (31, 17, 36, 1, 23, 0, []), (34, 0, 1, 0, 0, 2, []), (35, 41, 0, 0, 0, 0, []), (36, 4, 1, 0, 0, 0, []), (37, 0, 1, 0, 0, 1, []), (38, 0, 1, 0, 0, 1, []), (39, 40, 2, 3, 14, 0, []), (42, 17, 48, 0, 30, 0, []), (45, 0, 2, 0, 0, 7, []), (47, 41, 0, 0, 0, 0, []), (48, 0, 1, 0, 0, 1, []), (49, 4, 1, 0, 0, 0, []), (50, 0, 1, 0, 0, 1, []), (51, 4, 1, 0, 0, 0, []), (52, 25, 12, 20, 4, 0, [(0, 23, 1520), (0, 1, 11)]), (55, 0, 2, 0, 0, 10, []), (57, 2, 1, 1, 0, 0, []), (58, 9, 0, 2, 0, 0, []), (59, 27, 0, 1, 0, 0, []), (60, 40, 3, 3, 14, 0, []), (63, 40, 0, 2, 0, 0, []), (66, 5, 1, 3, 0, 0, []), (67, 4, 1, 0, 0, 0, []), (68, 25, 12, 58, 4, 0, [(0, 20, 560), (0, 1, 35)]), (71, 2, 1, 3, 0, 0, []), (72, 0, 1, 0, 0, 1, []), (73, 28, 0, 0, 0, 0, []), (74, 4, 1, 0, 0, 0, []), (75, 25, 12, 56, 4, 0, [(0, 20, 560), (0, 1, 33)]), (78, 2, 1, 3, 0, 0, []), (79, 2, 1, 2, 0, 0, []), (80, 28, 0, 0, 0, 0, []), (81, 0, 1, 0, 0, 0, []), (82, 41, 0, 0, 0, 0, [])]
set_option maxRecDepth 20000 in
theorem qX12_firmf : f_all yX12_firm YX12_firm pX12_firmf :=
  ⟨f_aload_n (n := 0) (e_dx DX12_firm_0 0 rfl) rfl,
  f_getA (e_dx DX12_firm_0 1 rfl) fX12_202 rfl (by decide) (Nat.le_of_ble_eq_true rfl) rfl (by decide),
  f_iconst (e_dx DX12_firm_0 2 rfl) ⟨by decide, by decide⟩,
  f_iaload (e_dx DX12_firm_0 3 rfl),
  f_istore_n (n := 2) (e_dx DX12_firm_0 4 rfl) rfl (by decide),
  f_aload_n (n := 0) (e_dx DX12_firm_0 5 rfl) rfl,
  f_getA (e_dx DX12_firm_0 6 rfl) fX12_115 rfl (by decide) (Nat.le_of_ble_eq_true rfl) rfl (by decide),
  f_iconst (e_dx DX12_firm_0 7 rfl) ⟨by decide, by decide⟩,
  f_iload_n (n := 2) (e_dx DX12_firm_0 8 rfl) rfl,
  x_callS (e_dx DX12_firm_0 9 rfl) mwX12_id cX12_540 swX12_id rfl,
  f_iaload (e_dx DX12_firm_0 10 rfl),
  f_if_eq (e_dx DX12_firm_0 11 rfl) rfl,
  f_iconst (e_dx DX12_firm_0 12 rfl) ⟨by decide, by decide⟩,
  ⟨(e_dx DX12_firm_0 13 rfl), rfl⟩,
  f_aload_n (n := 0) (e_dx DX12_firm_0 14 rfl) rfl,
  f_iload_n (n := 2) (e_dx DX12_firm_0 15 rfl) rfl,
  f_aload_n (n := 0) (e_dx DX12_firm_0 16 rfl) rfl,
  f_getf (e_dx DX12_firm_0 17 rfl) fX12_543 rfl (by decide) (by decide) (by decide),
  x_callV (e_dx DX12_firm_0 18 rfl) mwX12_isAge vwX12_isAge cX12_552 rfl,
  f_if_ne (e_dx DX12_firm_0 19 rfl) rfl,
  f_iconst (e_dx DX12_firm_0 20 rfl) ⟨by decide, by decide⟩,
  ⟨(e_dx DX12_firm_0 21 rfl), rfl⟩,
  f_aload_n (n := 0) (e_dx DX12_firm_0 22 rfl) rfl,
  f_iconst (e_dx DX12_firm_0 23 rfl) ⟨by decide, by decide⟩,
  f_iconst (e_dx DX12_firm_0 24 rfl) ⟨by decide, by decide⟩,
  x_callV (e_dx DX12_firm_0 25 rfl) mwX12_full vwX12_full cX12_660 rfl,
  f_if_eq (e_dx DX12_firm_0 26 rfl) rfl,
  f_bipush (e_dx DX12_firm_0 27 rfl) ⟨by decide, by decide⟩,
  ⟨(e_dx DX12_firm_0 28 rfl), rfl⟩,
  f_iconst (e_dx DX12_firm_0 29 rfl) ⟨by decide, by decide⟩,
  f_aload_n (n := 0) (e_dx DX12_firm_0 30 rfl) rfl,
  f_iconst (e_dx DX12_firm_0 31 rfl) ⟨by decide, by decide⟩,
  f_aload_n (n := 0) (e_dx DX12_firm_0 32 rfl) rfl,
  f_getA (e_dx DX12_firm_0 33 rfl) fX12_42 rfl (by decide) (Nat.le_of_ble_eq_true rfl) rfl (by decide),
  f_bipush (e_dx DX12_firm_0 34 rfl) ⟨by decide, by decide⟩,
  f_iload_n (n := 1) (e_dx DX12_firm_0 35 rfl) rfl,
  f_imul (e_dx DX12_firm_0 36 rfl),
  f_laload (e_dx DX12_firm_0 37 rfl),
  x_callV (e_dx DX12_firm_0 38 rfl) mwX12_make vwX12_make cX12_534 rfl,
  x_callS (e_dx DX12_firm_0 39 rfl) mwX12_id cX12_540 swX12_id rfl,
  f_istore_n (n := 3) (e_dx DX12_firm_1 0 rfl) rfl (by decide),
  f_aload_n (n := 0) (e_dx DX12_firm_1 1 rfl) rfl,
  f_getA (e_dx DX12_firm_1 2 rfl) fX12_115 rfl (by decide) (Nat.le_of_ble_eq_true rfl) rfl (by decide),
  f_iload_n (n := 3) (e_dx DX12_firm_1 3 rfl) rfl,
  f_iconst (e_dx DX12_firm_1 4 rfl) ⟨by decide, by decide⟩,
  f_iastore (e_dx DX12_firm_1 5 rfl),
  f_aload_n (n := 0) (e_dx DX12_firm_1 6 rfl) rfl,
  f_getA (e_dx DX12_firm_1 7 rfl) fX12_109 rfl (by decide) (Nat.le_of_ble_eq_true rfl) rfl (by decide),
  f_iload_n (n := 3) (e_dx DX12_firm_1 8 rfl) rfl,
  f_iload_n (n := 2) (e_dx DX12_firm_1 9 rfl) rfl,
  f_iastore (e_dx DX12_firm_1 10 rfl),
  f_iconst (e_dx DX12_firm_1 11 rfl) ⟨by decide, by decide⟩,
  ⟨(e_dx DX12_firm_1 12 rfl), rfl⟩, trivial⟩
def lX12_firm (c_X12_id : Int → Int → e_M → (Int → Prop) → Prop) (c_X12_isAge : Int → Int → e_M → (Int → Prop) → Prop) (c_X12_full : Int → Int → e_M → (Int → Prop) → Prop) (c_X12_make : Int → Int → e_M → (Int → e_M → Prop) → Prop) : List (Nat × f_Wt) := [(0, f_wm [(1, 0, 0), (1, 0, 0)] (fun ar M R => c_X12_id (f_vi (f_nth ar 0)) (f_vi (f_nth ar 1)) M (fun r => R (some (.inl r)) M))), (1, f_wm [(4466, 12, 123), (1, 0, 0), (1, 0, 0)] (fun ar M R => c_X12_isAge (f_vi (f_nth ar 1)) (f_vi (f_nth ar 2)) M (fun r => R (some (.inl r)) M))), (2, f_wm [(4466, 12, 123), (1, 0, 0), (1, 0, 0)] (fun ar M R => c_X12_full (f_vi (f_nth ar 1)) (f_vi (f_nth ar 2)) M (fun r => R (some (.inl r)) M))), (3, f_wm [(4466, 12, 123), (1, 0, 0), (2, 0, 0)] (fun ar M R => c_X12_make (f_vi (f_nth ar 1)) (f_vi (f_nth ar 2)) M (fun r M => R (some (.inl r)) M)))]
set_option maxRecDepth 20000 in
theorem BX12_firm {sh : Nat → Nat × Nat} {t : Nat} {rm : Nat × Nat × Nat} {cs : Nat × Nat} {R : f_Rt} {c_X12_id : Int → Int → e_M → (Int → Prop) → Prop} {c_X12_isAge : Int → Int → e_M → (Int → Prop) → Prop} {c_X12_full : Int → Int → e_M → (Int → Prop) → Prop} {c_X12_make : Int → Int → e_M → (Int → e_M → Prop) → Prop} {x1 : Int} {M : e_M} (C : f_Hy sh t yX12_firm rm cs 9 (lX12_firm c_X12_id c_X12_isAge c_X12_full c_X12_make) R) (h : VX12_firm c_X12_id c_X12_isAge c_X12_full c_X12_make (fun r M => R (some (.inl r)) M) x1 M) : f_E sh t YX12_firm rm cs (f_Q sh t R) 0 [.inr (.inr (.inl (12, 123, 4456))), .inl x1, .inr (.inr (.inr ())), .inr (.inr (.inr ()))] [] M :=
  f_go (KC := f_kc []) C qX12_firmf f_kc_nil 55 0 h
def WX12_firm (x1 : Int) (M : e_M) (Q : Int → e_M → Prop) : Prop :=
  VX12_firm WX12_id WX12_isAge WX12_full WX12_make Q x1 M
theorem PX12_firm {sh : Nat → Nat × Nat} {t : Nat} {rm : Nat × Nat × Nat} {cs : Nat × Nat} {R : f_Rt} {x1 : Int} {M : e_M} (C : f_Hy sh t yX12_firm rm cs 9 (lX12_firm WX12_id WX12_isAge WX12_full WX12_make) R) (h : WX12_firm x1 M (fun r M => R (some (.inl r)) M)) : f_E sh t YX12_firm rm cs (f_Q sh t R) 0 [.inr (.inr (.inl (12, 123, 4456))), .inl x1, .inr (.inr (.inr ())), .inr (.inr (.inr ()))] [] M :=
  BX12_firm C h
def wX12_firm : f_Wt := f_wm [(4466, 12, 123), (1, 0, 0)] (fun ar M R => WX12_firm (f_vi (f_nth ar 1)) M (fun r M => R (some (.inl r)) M))
theorem TX12_firm {sh : Nat → Nat × Nat} {t : Nat} : f_Mt sh t YX12_firm 9 (wX12_firm) :=
  f_Mt_of (k := 2) (Nat.le_of_ble_eq_true rfl) rfl rfl (fun ar M R rm cs h1 h2 h3 hX h => PX12_firm ⟨Nat.le_of_ble_eq_true rfl, h1, h2, h3, ⟨(f_Mt.up (Nat.le_of_ble_eq_true rfl) TX12_id), (f_Mt.up (Nat.le_of_ble_eq_true rfl) TX12_isAge), (f_Mt.up (Nat.le_of_ble_eq_true rfl) TX12_full), (f_Mt.up (Nat.le_of_ble_eq_true rfl) TX12_make), trivial⟩, hX⟩ h)
def VX12_guard (c_X12_id : Int → Int → e_M → (Int → Prop) → Prop) (c_X12_isAge : Int → Int → e_M → (Int → Prop) → Prop) (Q : Int → e_M → Prop) (M : e_M) : Prop :=
  ((0 ≤ (0 : Int) ∧ (0 : Int) < 10) ∧ ((0 ≤ (1 : Int) ∧ (1 : Int) < 10) ∧ (c_X12_id 1 (M 4520 ((0 : Int).toNat)) M (fun r1 => ((0 ≤ r1 ∧ r1 < 560) ∧ ((¬ (M 4491 (r1.toNat)) = 0 → (Q 1 M)) ∧ ((M 4491 (r1.toNat)) = 0 → (c_X12_id 1 (M 4520 ((1 : Int).toNat)) M (fun r2 => ((0 ≤ r2 ∧ r2 < 560) ∧ (((M 4491 (r2.toNat)) = 0 → (c_X12_isAge (M 4520 ((0 : Int).toNat)) (M 4456 86) M (fun r3 => ((r3 = 0 → (c_X12_isAge (M 4520 ((1 : Int).toNat)) (M 4456 86) M (fun r4 => ((¬ r4 = 0 → (c_X12_id 1 (M 4520 ((0 : Int).toNat)) M (fun r5 => ((0 ≤ r5 ∧ r5 < 560) ∧ (∀ M6 : e_M, M6 = e_up M 4489 (r5.toNat) (M 4520 ((1 : Int).toNat)) → (Q 0 M6)))))) ∧ (r4 = 0 → (Q 2 M)))))) ∧ (¬ r3 = 0 → (Q 9 M)))))) ∧ (¬ (M 4491 (r2.toNat)) = 0 → (Q 1 M)))))))))))))
def yX12_guard (i : Nat) : e_Y := x_get YX12_guard [YX12_id, YX12_isAge] i
def pX12_guardf : List x_I := [(0, 4, 1, 0, 0, 0, []), (1, 25, 12, 91, 4, 0, [(0, 20, 10), (0, 1, 64)]), (4, 0, 1, 0, 0, 0, []), (5, 27, 0, 0, 0, 0, []), (6, 5, 1, 1, 0, 0, []), (7, 4, 1, 0, 0, 0, []), (8, 25, 12, 91, 4, 0, [(0, 20, 10), (0, 1, 64)]), (11, 0, 1, 0, 0, 1, []), (12, 27, 0, 0, 0, 0, []), (13, 5, 1, 2, 0, 0, []), (14, 4, 1, 0, 0, 0, []), (15, 25, 12, 58, 4, 0, [(0, 20, 560), (0, 1, 35)]), (18, 0, 1, 0, 0, 1, []), (19, 2, 1, 1, 0, 0, []), (20, 40, 0, 2, 0, 0, []), (23, 27, 0, 0, 0, 0, []), (24, 17, 40, 1, 25, 0, []), (27, 4, 1, 0, 0, 0, []), (28, 25, 12, 58, 4, 0, [(0, 20, 560), (0, 1, 35)]), (31, 0, 1, 0, 0, 1, []), (32, 2, 1, 2, 0, 0, []), (33, 40, 0, 2, 0, 0, []), (36, 27, 0, 0, 0, 0, []), (37, 17, 42, 0, 27, 0, []), (40, 0, 1, 0, 0, 1, []), (41, 41, 0, 0, 0, 0, []), (42, 4, 1, 0, 0, 0, []), (43, 2, 1, 1, 0, 0, []), (44, 4, 1, 0, 0, 0, []), (45, 25, 12, 86, 0, 0, []), (48, 40, 1, 3, 14, 0, []), (51, 17, 57, 0, 35, 0, []), (54, 0, 2, 0, 0, 9, []), (56, 41, 0, 0, 0, 0, []), (57, 4, 1, 0, 0, 0, []), (58, 2, 1, 2, 0, 0, []), (59, 4, 1, 0, 0, 0, []), (60, 25, 12, 86, 0, 0, []), (63, 40, 1, 3, 14, 0, []), (66, 17, 71, 1, 43, 0, []), (69, 0, 1, 0, 0, 2, []), (70, 41, 0, 0, 0, 0, []), (71, 4, 1, 0, 0, 0, []), (72, 25, 12, 56, 4, 0, [(0, 20, 560), (0, 1, 33)]), (75, 0, 1, 0, 0, 1, []), (76, 2, 1, 1, 0, 0, []), (77, 40, 0, 2, 0, 0, []), (80, 2, 1, 2, 0, 0, []), (81, 28, 0, 0, 0, 0, []), (82, 0, 1, 0, 0, 0, []), (83, 41, 0, 0, 0, 0, [])]
set_option maxRecDepth 20000 in
theorem qX12_guardf : f_all yX12_guard YX12_guard pX12_guardf :=
  ⟨f_aload_n (n := 0) (e_dx DX12_guard_0 0 rfl) rfl,
  f_getA (e_dx DX12_guard_0 1 rfl) fX12_202 rfl (by decide) (Nat.le_of_ble_eq_true rfl) rfl (by decide),
  f_iconst (e_dx DX12_guard_0 2 rfl) ⟨by decide, by decide⟩,
  f_iaload (e_dx DX12_guard_0 3 rfl),
  f_istore_n (n := 1) (e_dx DX12_guard_0 4 rfl) rfl (by decide),
  f_aload_n (n := 0) (e_dx DX12_guard_0 5 rfl) rfl,
  f_getA (e_dx DX12_guard_0 6 rfl) fX12_202 rfl (by decide) (Nat.le_of_ble_eq_true rfl) rfl (by decide),
  f_iconst (e_dx DX12_guard_0 7 rfl) ⟨by decide, by decide⟩,
  f_iaload (e_dx DX12_guard_0 8 rfl),
  f_istore_n (n := 2) (e_dx DX12_guard_0 9 rfl) rfl (by decide),
  f_aload_n (n := 0) (e_dx DX12_guard_0 10 rfl) rfl,
  f_getA (e_dx DX12_guard_0 11 rfl) fX12_115 rfl (by decide) (Nat.le_of_ble_eq_true rfl) rfl (by decide),
  f_iconst (e_dx DX12_guard_0 12 rfl) ⟨by decide, by decide⟩,
  f_iload_n (n := 1) (e_dx DX12_guard_0 13 rfl) rfl,
  x_callS (e_dx DX12_guard_0 14 rfl) mwX12_id cX12_540 swX12_id rfl,
  f_iaload (e_dx DX12_guard_0 15 rfl),
  f_if_ne (e_dx DX12_guard_0 16 rfl) rfl,
  f_aload_n (n := 0) (e_dx DX12_guard_0 17 rfl) rfl,
  f_getA (e_dx DX12_guard_0 18 rfl) fX12_115 rfl (by decide) (Nat.le_of_ble_eq_true rfl) rfl (by decide),
  f_iconst (e_dx DX12_guard_0 19 rfl) ⟨by decide, by decide⟩,
  f_iload_n (n := 2) (e_dx DX12_guard_0 20 rfl) rfl,
  x_callS (e_dx DX12_guard_0 21 rfl) mwX12_id cX12_540 swX12_id rfl,
  f_iaload (e_dx DX12_guard_0 22 rfl),
  f_if_eq (e_dx DX12_guard_0 23 rfl) rfl,
  f_iconst (e_dx DX12_guard_0 24 rfl) ⟨by decide, by decide⟩,
  ⟨(e_dx DX12_guard_0 25 rfl), rfl⟩,
  f_aload_n (n := 0) (e_dx DX12_guard_0 26 rfl) rfl,
  f_iload_n (n := 1) (e_dx DX12_guard_0 27 rfl) rfl,
  f_aload_n (n := 0) (e_dx DX12_guard_0 28 rfl) rfl,
  f_getf (e_dx DX12_guard_0 29 rfl) fX12_543 rfl (by decide) (by decide) (by decide),
  x_callV (e_dx DX12_guard_0 30 rfl) mwX12_isAge vwX12_isAge cX12_552 rfl,
  f_if_eq (e_dx DX12_guard_0 31 rfl) rfl,
  f_bipush (e_dx DX12_guard_0 32 rfl) ⟨by decide, by decide⟩,
  ⟨(e_dx DX12_guard_0 33 rfl), rfl⟩,
  f_aload_n (n := 0) (e_dx DX12_guard_0 34 rfl) rfl,
  f_iload_n (n := 2) (e_dx DX12_guard_0 35 rfl) rfl,
  f_aload_n (n := 0) (e_dx DX12_guard_0 36 rfl) rfl,
  f_getf (e_dx DX12_guard_0 37 rfl) fX12_543 rfl (by decide) (by decide) (by decide),
  x_callV (e_dx DX12_guard_0 38 rfl) mwX12_isAge vwX12_isAge cX12_552 rfl,
  f_if_ne (e_dx DX12_guard_0 39 rfl) rfl,
  f_iconst (e_dx DX12_guard_1 0 rfl) ⟨by decide, by decide⟩,
  ⟨(e_dx DX12_guard_1 1 rfl), rfl⟩,
  f_aload_n (n := 0) (e_dx DX12_guard_1 2 rfl) rfl,
  f_getA (e_dx DX12_guard_1 3 rfl) fX12_109 rfl (by decide) (Nat.le_of_ble_eq_true rfl) rfl (by decide),
  f_iconst (e_dx DX12_guard_1 4 rfl) ⟨by decide, by decide⟩,
  f_iload_n (n := 1) (e_dx DX12_guard_1 5 rfl) rfl,
  x_callS (e_dx DX12_guard_1 6 rfl) mwX12_id cX12_540 swX12_id rfl,
  f_iload_n (n := 2) (e_dx DX12_guard_1 7 rfl) rfl,
  f_iastore (e_dx DX12_guard_1 8 rfl),
  f_iconst (e_dx DX12_guard_1 9 rfl) ⟨by decide, by decide⟩,
  ⟨(e_dx DX12_guard_1 10 rfl), rfl⟩, trivial⟩
def lX12_guard (c_X12_id : Int → Int → e_M → (Int → Prop) → Prop) (c_X12_isAge : Int → Int → e_M → (Int → Prop) → Prop) : List (Nat × f_Wt) := [(0, f_wm [(1, 0, 0), (1, 0, 0)] (fun ar M R => c_X12_id (f_vi (f_nth ar 0)) (f_vi (f_nth ar 1)) M (fun r => R (some (.inl r)) M))), (1, f_wm [(4466, 12, 123), (1, 0, 0), (1, 0, 0)] (fun ar M R => c_X12_isAge (f_vi (f_nth ar 1)) (f_vi (f_nth ar 2)) M (fun r => R (some (.inl r)) M)))]
set_option maxRecDepth 20000 in
theorem BX12_guard {sh : Nat → Nat × Nat} {t : Nat} {rm : Nat × Nat × Nat} {cs : Nat × Nat} {R : f_Rt} {c_X12_id : Int → Int → e_M → (Int → Prop) → Prop} {c_X12_isAge : Int → Int → e_M → (Int → Prop) → Prop} {M : e_M} (C : f_Hy sh t yX12_guard rm cs 9 (lX12_guard c_X12_id c_X12_isAge) R) (h : VX12_guard c_X12_id c_X12_isAge (fun r M => R (some (.inl r)) M) M) : f_E sh t YX12_guard rm cs (f_Q sh t R) 0 [.inr (.inr (.inl (12, 123, 4456))), .inr (.inr (.inr ())), .inr (.inr (.inr ()))] [] M :=
  f_go (KC := f_kc []) C qX12_guardf f_kc_nil 53 0 h
def WX12_guard (M : e_M) (Q : Int → e_M → Prop) : Prop :=
  VX12_guard WX12_id WX12_isAge Q M
theorem PX12_guard {sh : Nat → Nat × Nat} {t : Nat} {rm : Nat × Nat × Nat} {cs : Nat × Nat} {R : f_Rt} {M : e_M} (C : f_Hy sh t yX12_guard rm cs 9 (lX12_guard WX12_id WX12_isAge) R) (h : WX12_guard M (fun r M => R (some (.inl r)) M)) : f_E sh t YX12_guard rm cs (f_Q sh t R) 0 [.inr (.inr (.inl (12, 123, 4456))), .inr (.inr (.inr ())), .inr (.inr (.inr ()))] [] M :=
  BX12_guard C h
def wX12_guard : f_Wt := f_wm [(4466, 12, 123)] (fun ar M R => WX12_guard M (fun r M => R (some (.inl r)) M))
theorem TX12_guard {sh : Nat → Nat × Nat} {t : Nat} : f_Mt sh t YX12_guard 9 (wX12_guard) :=
  f_Mt_of (k := 2) (Nat.le_of_ble_eq_true rfl) rfl rfl (fun ar M R rm cs h1 h2 h3 hX h => PX12_guard ⟨Nat.le_of_ble_eq_true rfl, h1, h2, h3, ⟨(f_Mt.up (Nat.le_of_ble_eq_true rfl) TX12_id), (f_Mt.up (Nat.le_of_ble_eq_true rfl) TX12_isAge), trivial⟩, hX⟩ h)
def VX12_areParts_2 (c_X12_isOne : Int → e_M → (Int → e_M → Prop) → Prop) (k34 : Int → Int → Int → Int → e_M → Prop) (Q : Int → e_M → Prop) (x1 : Int) (x2 : Int) (x3 : Int) (M : e_M) : Prop :=
  ((0 ≤ x1 ∧ x1 < 152) ∧ (((M 4470 (x1.toNat)) ≤ x3 → (c_X12_isOne x1 M (fun r1 M2 => ((r1 = 0 ∨ r1 = 1) ∧ Q r1 M2)))) ∧ (x3 < (M 4470 (x1.toNat)) → ((0 ≤ x1 ∧ x1 < 152) ∧ ((0 ≤ (e_w32 ((M 4471 (x1.toNat)) + x3)) ∧ (e_w32 ((M 4471 (x1.toNat)) + x3)) < 10) ∧ ((¬ (M 4520 ((e_w32 ((M 4471 (x1.toNat)) + x3)).toNat)) = x2 → (k34 x1 x2 x3 0 M)) ∧ ((M 4520 ((e_w32 ((M 4471 (x1.toNat)) + x3)).toNat)) = x2 → (Q 0 M))))))))
def VX12_areParts_34 (c_X12_isOne : Int → e_M → (Int → e_M → Prop) → Prop) (k2 : Int → Int → Int → e_M → Prop) (k34 : Int → Int → Int → Int → e_M → Prop) (Q : Int → e_M → Prop) (x1 : Int) (x2 : Int) (x3 : Int) (x4 : Int) (M : e_M) : Prop :=
  ((x3 ≤ x4 → (k2 x1 x2 (e_w32 (x3 + 1)) M)) ∧ (x4 < x3 → ((0 ≤ x1 ∧ x1 < 152) ∧ ((0 ≤ (e_w32 ((M 4471 (x1.toNat)) + x4)) ∧ (e_w32 ((M 4471 (x1.toNat)) + x4)) < 10) ∧ ((0 ≤ x1 ∧ x1 < 152) ∧ ((0 ≤ (e_w32 ((M 4471 (x1.toNat)) + x3)) ∧ (e_w32 ((M 4471 (x1.toNat)) + x3)) < 10) ∧ ((¬ (M 4520 ((e_w32 ((M 4471 (x1.toNat)) + x4)).toNat)) = (M 4520 ((e_w32 ((M 4471 (x1.toNat)) + x3)).toNat)) → (k34 x1 x2 x3 (e_w32 (x4 + 1)) M)) ∧ ((M 4520 ((e_w32 ((M 4471 (x1.toNat)) + x4)).toNat)) = (M 4520 ((e_w32 ((M 4471 (x1.toNat)) + x3)).toNat)) → (Q 0 M)))))))))
def VX12_areParts (c_X12_isOne : Int → e_M → (Int → e_M → Prop) → Prop) (k2 : Int → Int → Int → e_M → Prop) (Q : Int → e_M → Prop) (x1 : Int) (x2 : Int) (M : e_M) : Prop :=
  (k2 x1 x2 0 M)
def yX12_areParts (i : Nat) : e_Y := x_get YX12_areParts [YX12_isOne] i
def pX12_arePartsf : List x_I := [(0, 0, 1, 0, 0, 0, []), (1, 5, 1, 3, 0, 0, []), (2, 49, 0, 0, 0, 0, []), (2, 2, 1, 3, 0, 0, []), (3, 4, 1, 0, 0, 0, []), (4, 25, 12, 23, 4, 0, [(0, 20, 152), (0, 1, 14)]), (7, 2, 1, 1, 0, 0, []), (8, 27, 0, 0, 0, 0, []), (9, 18, 84, 3, 54, 0, []), (12, 4, 1, 0, 0, 0, []), (13, 25, 12, 91, 4, 0, [(0, 20, 10), (0, 1, 64)]), (16, 4, 1, 0, 0, 0, []), (17, 25, 12, 24, 4, 0, [(0, 20, 152), (0, 1, 15)]), (20, 2, 1, 1, 0, 0, []), (21, 27, 0, 0, 0, 0, []), (22, 2, 1, 3, 0, 0, []), (23, 9, 0, 0, 0, 0, []), (24, 27, 0, 0, 0, 0, []), (25, 2, 1, 2, 0, 0, []), (26, 18, 31, 1, 23, 0, []), (29, 0, 1, 0, 0, 0, []), (30, 48, 0, 0, 0, 0, []), (31, 0, 1, 0, 0, 0, []), (32, 5, 2, 4, 0, 0, []), (34, 49, 0, 0, 0, 0, []), (34, 2, 2, 4, 0, 0, []), (36, 2, 1, 3, 0, 0, []), (37, 18, 78, 3, 52, 0, []), (40, 4, 1, 0, 0, 0, []), (41, 25, 12, 91, 4, 0, [(0, 20, 10), (0, 1, 64)]), (44, 4, 1, 0, 0, 0, []), (45, 25, 12, 24, 4, 0, [(0, 20, 152), (0, 1, 15)]), (48, 2, 1, 1, 0, 0, []), (49, 27, 0, 0, 0, 0, []), (50, 2, 2, 4, 0, 0, []), (52, 9, 0, 0, 0, 0, []), (53, 27, 0, 0, 0, 0, []), (54, 4, 1, 0, 0, 0, []), (55, 25, 12, 91, 4, 0, [(0, 20, 10), (0, 1, 64)]), (58, 4, 1, 0, 0, 0, []), (59, 25, 12, 24, 4, 0, [(0, 20, 152), (0, 1, 15)]), (62, 2, 1, 1, 0, 0, []), (63, 27, 0, 0, 0, 0, []), (64, 2, 1, 3, 0, 0, []), (65, 9, 0, 0, 0, 0, []), (66, 27, 0, 0, 0, 0, []), (67, 18, 72, 1, 50, 0, []), (70, 0, 1, 0, 0, 0, []), (71, 48, 0, 0, 0, 0, []), (72, 8, 0, 4, 0, 1, []), (75, 19, 34, 0, 25, 0, []), (78, 8, 0, 3, 0, 1, []), (81, 19, 2, 0, 3, 0, []), (84, 4, 1, 0, 0, 0, []), (85, 2, 1, 1, 0, 0, []), (86, 40, 0, 2, 14, 0, []), (89, 42, 0, 0, 0, 0, [])]
set_option maxRecDepth 20000 in
theorem qX12_arePartsf : f_all yX12_areParts YX12_areParts pX12_arePartsf :=
  ⟨f_iconst (e_dx DX12_areParts_0 0 rfl) ⟨by decide, by decide⟩,
  f_istore_n (n := 3) (e_dx DX12_areParts_0 1 rfl) rfl (by decide),
  trivial,
  f_iload_n (n := 3) (e_dx DX12_areParts_0 2 rfl) rfl,
  f_aload_n (n := 0) (e_dx DX12_areParts_0 3 rfl) rfl,
  f_getA (e_dx DX12_areParts_0 4 rfl) fX12_51 rfl (by decide) (Nat.le_of_ble_eq_true rfl) rfl (by decide),
  f_iload_n (n := 1) (e_dx DX12_areParts_0 5 rfl) rfl,
  f_iaload (e_dx DX12_areParts_0 6 rfl),
  f_icmp_ge (e_dx DX12_areParts_0 7 rfl) rfl,
  f_aload_n (n := 0) (e_dx DX12_areParts_0 8 rfl) rfl,
  f_getA (e_dx DX12_areParts_0 9 rfl) fX12_202 rfl (by decide) (Nat.le_of_ble_eq_true rfl) rfl (by decide),
  f_aload_n (n := 0) (e_dx DX12_areParts_0 10 rfl) rfl,
  f_getA (e_dx DX12_areParts_0 11 rfl) fX12_54 rfl (by decide) (Nat.le_of_ble_eq_true rfl) rfl (by decide),
  f_iload_n (n := 1) (e_dx DX12_areParts_0 12 rfl) rfl,
  f_iaload (e_dx DX12_areParts_0 13 rfl),
  f_iload_n (n := 3) (e_dx DX12_areParts_0 14 rfl) rfl,
  f_iadd (e_dx DX12_areParts_0 15 rfl),
  f_iaload (e_dx DX12_areParts_0 16 rfl),
  f_iload_n (n := 2) (e_dx DX12_areParts_0 17 rfl) rfl,
  f_icmp_ne (e_dx DX12_areParts_0 18 rfl) rfl,
  f_iconst (e_dx DX12_areParts_0 19 rfl) ⟨by decide, by decide⟩,
  ⟨(e_dx DX12_areParts_0 20 rfl), rfl⟩,
  f_iconst (e_dx DX12_areParts_0 21 rfl) ⟨by decide, by decide⟩,
  f_istore (e_dx DX12_areParts_0 22 rfl) (by decide),
  trivial,
  f_iload (e_dx DX12_areParts_0 23 rfl),
  f_iload_n (n := 3) (e_dx DX12_areParts_0 24 rfl) rfl,
  f_icmp_ge (e_dx DX12_areParts_0 25 rfl) rfl,
  f_aload_n (n := 0) (e_dx DX12_areParts_0 26 rfl) rfl,
  f_getA (e_dx DX12_areParts_0 27 rfl) fX12_202 rfl (by decide) (Nat.le_of_ble_eq_true rfl) rfl (by decide),
  f_aload_n (n := 0) (e_dx DX12_areParts_0 28 rfl) rfl,
  f_getA (e_dx DX12_areParts_0 29 rfl) fX12_54 rfl (by decide) (Nat.le_of_ble_eq_true rfl) rfl (by decide),
  f_iload_n (n := 1) (e_dx DX12_areParts_0 30 rfl) rfl,
  f_iaload (e_dx DX12_areParts_0 31 rfl),
  f_iload (e_dx DX12_areParts_0 32 rfl),
  f_iadd (e_dx DX12_areParts_0 33 rfl),
  f_iaload (e_dx DX12_areParts_0 34 rfl),
  f_aload_n (n := 0) (e_dx DX12_areParts_0 35 rfl) rfl,
  f_getA (e_dx DX12_areParts_0 36 rfl) fX12_202 rfl (by decide) (Nat.le_of_ble_eq_true rfl) rfl (by decide),
  f_aload_n (n := 0) (e_dx DX12_areParts_0 37 rfl) rfl,
  f_getA (e_dx DX12_areParts_0 38 rfl) fX12_54 rfl (by decide) (Nat.le_of_ble_eq_true rfl) rfl (by decide),
  f_iload_n (n := 1) (e_dx DX12_areParts_0 39 rfl) rfl,
  f_iaload (e_dx DX12_areParts_1 0 rfl),
  f_iload_n (n := 3) (e_dx DX12_areParts_1 1 rfl) rfl,
  f_iadd (e_dx DX12_areParts_1 2 rfl),
  f_iaload (e_dx DX12_areParts_1 3 rfl),
  f_icmp_ne (e_dx DX12_areParts_1 4 rfl) rfl,
  f_iconst (e_dx DX12_areParts_1 5 rfl) ⟨by decide, by decide⟩,
  ⟨(e_dx DX12_areParts_1 6 rfl), rfl⟩,
  f_g8 (e_dx DX12_areParts_1 7 rfl) ⟨by decide, by decide⟩,
  f_g19 (e_dx DX12_areParts_1 8 rfl) rfl,
  f_g8 (e_dx DX12_areParts_1 9 rfl) ⟨by decide, by decide⟩,
  f_g19 (e_dx DX12_areParts_1 10 rfl) rfl,
  f_aload_n (n := 0) (e_dx DX12_areParts_1 11 rfl) rfl,
  f_iload_n (n := 1) (e_dx DX12_areParts_1 12 rfl) rfl,
  x_callV (e_dx DX12_areParts_1 13 rfl) mwX12_isOne vwX12_isOne cX12_663 rfl,
  ⟨(e_dx DX12_areParts_1 14 rfl), rfl⟩, trivial⟩
def lX12_areParts (c_X12_isOne : Int → e_M → (Int → e_M → Prop) → Prop) : List (Nat × f_Wt) := [(0, f_wm [(4466, 12, 123), (1, 0, 0)] (fun ar M R => c_X12_isOne (f_vi (f_nth ar 1)) M (fun r M => R (some (.inl r)) M)))]
set_option maxRecDepth 20000 in
theorem BX12_areParts_2 {sh : Nat → Nat × Nat} {t : Nat} {rm : Nat × Nat × Nat} {cs : Nat × Nat} {R : f_Rt} {c_X12_isOne : Int → e_M → (Int → e_M → Prop) → Prop} {k34 : Int → Int → Int → Int → e_M → Prop} {x1 : Int} {x2 : Int} {x3 : Int} {M : e_M} (C : f_Hy sh t yX12_areParts rm cs 8 (lX12_areParts c_X12_isOne) R) (h34 : ∀ (x1 : Int) (x2 : Int) (x3 : Int) (x4 : Int) (M : e_M), k34 x1 x2 x3 x4 M → f_E sh t YX12_areParts rm cs (f_Q sh t R) 34 [.inr (.inr (.inl (12, 123, 4456))), .inl x1, .inl x2, .inl x3, .inl x4] [] M) (h : VX12_areParts_2 c_X12_isOne k34 (fun r M => R (some (.inl r)) M) x1 x2 x3 M) : f_E sh t YX12_areParts rm cs (f_Q sh t R) 2 [.inr (.inr (.inl (12, 123, 4456))), .inl x1, .inl x2, .inl x3, .inr (.inr (.inr ()))] [] M :=
  f_go (KC := f_kc [(34, f_pl [(4466, 12, 123), (1, 0, 0), (1, 0, 0), (1, 0, 0), (1, 0, 0)] [] (fun ls st M => k34 (f_vi (f_nth ls 1)) (f_vi (f_nth ls 2)) (f_vi (f_nth ls 3)) (f_vi (f_nth ls 4)) M))]) C qX12_arePartsf (f_kc_cons (f_pl_ok rfl (fun ls st M h => h34 _ _ _ _ M h)) f_kc_nil) 59 3 h
set_option maxRecDepth 20000 in
theorem BX12_areParts_34 {sh : Nat → Nat × Nat} {t : Nat} {rm : Nat × Nat × Nat} {cs : Nat × Nat} {R : f_Rt} {c_X12_isOne : Int → e_M → (Int → e_M → Prop) → Prop} {k2 : Int → Int → Int → e_M → Prop} {k34 : Int → Int → Int → Int → e_M → Prop} {x1 : Int} {x2 : Int} {x3 : Int} {x4 : Int} {M : e_M} (C : f_Hy sh t yX12_areParts rm cs 8 (lX12_areParts c_X12_isOne) R) (h2 : ∀ (x1 : Int) (x2 : Int) (x3 : Int) (M : e_M), k2 x1 x2 x3 M → f_E sh t YX12_areParts rm cs (f_Q sh t R) 2 [.inr (.inr (.inl (12, 123, 4456))), .inl x1, .inl x2, .inl x3, .inr (.inr (.inr ()))] [] M) (h34 : ∀ (x1 : Int) (x2 : Int) (x3 : Int) (x4 : Int) (M : e_M), k34 x1 x2 x3 x4 M → f_E sh t YX12_areParts rm cs (f_Q sh t R) 34 [.inr (.inr (.inl (12, 123, 4456))), .inl x1, .inl x2, .inl x3, .inl x4] [] M) (h : VX12_areParts_34 c_X12_isOne k2 k34 (fun r M => R (some (.inl r)) M) x1 x2 x3 x4 M) : f_E sh t YX12_areParts rm cs (f_Q sh t R) 34 [.inr (.inr (.inl (12, 123, 4456))), .inl x1, .inl x2, .inl x3, .inl x4] [] M :=
  f_go (KC := f_kc [(2, f_pl [(4466, 12, 123), (1, 0, 0), (1, 0, 0), (1, 0, 0), (0, 0, 0)] [] (fun ls st M => k2 (f_vi (f_nth ls 1)) (f_vi (f_nth ls 2)) (f_vi (f_nth ls 3)) M)), (34, f_pl [(4466, 12, 123), (1, 0, 0), (1, 0, 0), (1, 0, 0), (1, 0, 0)] [] (fun ls st M => k34 (f_vi (f_nth ls 1)) (f_vi (f_nth ls 2)) (f_vi (f_nth ls 3)) (f_vi (f_nth ls 4)) M))]) C qX12_arePartsf (f_kc_cons (f_pl_ok rfl (fun ls st M h => h2 _ _ _ M h)) (f_kc_cons (f_pl_ok rfl (fun ls st M h => h34 _ _ _ _ M h)) f_kc_nil)) 59 25 h
set_option maxRecDepth 20000 in
theorem BX12_areParts {sh : Nat → Nat × Nat} {t : Nat} {rm : Nat × Nat × Nat} {cs : Nat × Nat} {R : f_Rt} {c_X12_isOne : Int → e_M → (Int → e_M → Prop) → Prop} {k2 : Int → Int → Int → e_M → Prop} {x1 : Int} {x2 : Int} {M : e_M} (C : f_Hy sh t yX12_areParts rm cs 8 (lX12_areParts c_X12_isOne) R) (h2 : ∀ (x1 : Int) (x2 : Int) (x3 : Int) (M : e_M), k2 x1 x2 x3 M → f_E sh t YX12_areParts rm cs (f_Q sh t R) 2 [.inr (.inr (.inl (12, 123, 4456))), .inl x1, .inl x2, .inl x3, .inr (.inr (.inr ()))] [] M) (h : VX12_areParts c_X12_isOne k2 (fun r M => R (some (.inl r)) M) x1 x2 M) : f_E sh t YX12_areParts rm cs (f_Q sh t R) 0 [.inr (.inr (.inl (12, 123, 4456))), .inl x1, .inl x2, .inr (.inr (.inr ())), .inr (.inr (.inr ()))] [] M :=
  f_go (KC := f_kc [(2, f_pl [(4466, 12, 123), (1, 0, 0), (1, 0, 0), (1, 0, 0), (0, 0, 0)] [] (fun ls st M => k2 (f_vi (f_nth ls 1)) (f_vi (f_nth ls 2)) (f_vi (f_nth ls 3)) M))]) C qX12_arePartsf (f_kc_cons (f_pl_ok rfl (fun ls st M h => h2 _ _ _ M h)) f_kc_nil) 59 0 h
def WX12_areParts_34 (H2 : Int → Int → Int → e_M → Prop) (Q : Int → e_M → Prop) : Nat → Int → Int → Int → Int → e_M → Prop
  | 0, _, _, _, _, _ => False
  | n + 1, x1, x2, x3, x4, M =>
    VX12_areParts_34 WX12_isOne H2 (WX12_areParts_34 H2 Q n) Q x1 x2 x3 x4 M
def WX12_areParts_2 (Q : Int → e_M → Prop) : Nat → Int → Int → Int → e_M → Prop
  | 0, _, _, _, _ => False
  | n + 1, x1, x2, x3, M =>
    VX12_areParts_2 WX12_isOne (fun x1 x2 x3 x4 M => ∃ j, WX12_areParts_34 (WX12_areParts_2 Q n) Q j x1 x2 x3 x4 M) Q x1 x2 x3 M
def WX12_areParts (x1 : Int) (x2 : Int) (M : e_M) (Q : Int → e_M → Prop) : Prop :=
  VX12_areParts WX12_isOne (fun x1 x2 x3 M => ∃ j, WX12_areParts_2 Q j x1 x2 x3 M) Q x1 x2 M
theorem PX12_areParts_34 {sh : Nat → Nat × Nat} {t : Nat} {rm : Nat × Nat × Nat} {cs : Nat × Nat} {R : f_Rt} {H2 : Int → Int → Int → e_M → Prop} (C : f_Hy sh t yX12_areParts rm cs 8 (lX12_areParts WX12_isOne) R) (g2 : ∀ (x1 : Int) (x2 : Int) (x3 : Int) (M : e_M), H2 x1 x2 x3 M → f_E sh t YX12_areParts rm cs (f_Q sh t R) 2 [.inr (.inr (.inl (12, 123, 4456))), .inl x1, .inl x2, .inl x3, .inr (.inr (.inr ()))] [] M) : ∀ (n : Nat) (x1 : Int) (x2 : Int) (x3 : Int) (x4 : Int) (M : e_M), WX12_areParts_34 H2 (fun r M => R (some (.inl r)) M) n x1 x2 x3 x4 M → f_E sh t YX12_areParts rm cs (f_Q sh t R) 34 [.inr (.inr (.inl (12, 123, 4456))), .inl x1, .inl x2, .inl x3, .inl x4] [] M := by
  intro n
  induction n with
  | zero => intro x1 x2 x3 x4 M h; exact h.elim
  | succ n ih => intro x1 x2 x3 x4 M h; exact BX12_areParts_34 C g2 ih h
theorem PX12_areParts_2 {sh : Nat → Nat × Nat} {t : Nat} {rm : Nat × Nat × Nat} {cs : Nat × Nat} {R : f_Rt} (C : f_Hy sh t yX12_areParts rm cs 8 (lX12_areParts WX12_isOne) R) : ∀ (n : Nat) (x1 : Int) (x2 : Int) (x3 : Int) (M : e_M), WX12_areParts_2 (fun r M => R (some (.inl r)) M) n x1 x2 x3 M → f_E sh t YX12_areParts rm cs (f_Q sh t R) 2 [.inr (.inr (.inl (12, 123, 4456))), .inl x1, .inl x2, .inl x3, .inr (.inr (.inr ()))] [] M := by
  intro n
  induction n with
  | zero => intro x1 x2 x3 M h; exact h.elim
  | succ n ih => intro x1 x2 x3 M h; exact BX12_areParts_2 C (fun x1 x2 x3 x4 M ⟨j, h⟩ => PX12_areParts_34 C ih j _ _ _ _ _ h) h
theorem PX12_areParts {sh : Nat → Nat × Nat} {t : Nat} {rm : Nat × Nat × Nat} {cs : Nat × Nat} {R : f_Rt} {x1 : Int} {x2 : Int} {M : e_M} (C : f_Hy sh t yX12_areParts rm cs 8 (lX12_areParts WX12_isOne) R) (h : WX12_areParts x1 x2 M (fun r M => R (some (.inl r)) M)) : f_E sh t YX12_areParts rm cs (f_Q sh t R) 0 [.inr (.inr (.inl (12, 123, 4456))), .inl x1, .inl x2, .inr (.inr (.inr ())), .inr (.inr (.inr ()))] [] M :=
  BX12_areParts C (fun x1 x2 x3 M ⟨j, h⟩ => PX12_areParts_2 C j _ _ _ _ h) h
def wX12_areParts : f_Wt := f_wm [(4466, 12, 123), (1, 0, 0), (1, 0, 0)] (fun ar M R => WX12_areParts (f_vi (f_nth ar 1)) (f_vi (f_nth ar 2)) M (fun r M => R (some (.inl r)) M))
theorem TX12_areParts {sh : Nat → Nat × Nat} {t : Nat} : f_Mt sh t YX12_areParts 8 (wX12_areParts) :=
  f_Mt_of (k := 2) (Nat.le_of_ble_eq_true rfl) rfl rfl (fun ar M R rm cs h1 h2 h3 hX h => PX12_areParts ⟨Nat.le_of_ble_eq_true rfl, h1, h2, h3, ⟨(f_Mt.up (Nat.le_of_ble_eq_true rfl) TX12_isOne), trivial⟩, hX⟩ h)
def VX12_parted_3 (c_X12_times : Int → Int → Int → Int → e_M → (e_M → Prop) → Prop) (c_X12_gets : Int → Int → Int → e_M → (e_M → Prop) → Prop) (k3 : Int → Int → Int → Int → e_M → Prop) (Q : e_M → Prop) (x1 : Int) (x2 : Int) (x4 : Int) (x6 : Int) (M : e_M) : Prop :=
  ((0 ≤ x1 ∧ x1 < 152) ∧ (((M 4470 (x1.toNat)) ≤ x6 → (Q M)) ∧ (x6 < (M 4470 (x1.toNat)) → ((0 ≤ (e_w32 ((e_w32 ((6 : Int) * x1)) + x6)) ∧ (e_w32 ((e_w32 ((6 : Int) * x1)) + x6)) < 912) ∧ ((0 ≤ (e_w32 ((e_w32 ((6 : Int) * x1)) + x6)) ∧ (e_w32 ((e_w32 ((6 : Int) * x1)) + x6)) < 912) ∧ (c_X12_times x2 x4 (M 4472 ((e_w32 ((e_w32 ((6 : Int) * x1)) + x6)).toNat)) (M 4473 ((e_w32 ((e_w32 ((6 : Int) * x1)) + x6)).toNat)) M (fun M1 => ((0 ≤ x1 ∧ x1 < 152) ∧ ((0 ≤ (e_w32 ((M1 4471 (x1.toNat)) + x6)) ∧ (e_w32 ((M1 4471 (x1.toNat)) + x6)) < 10) ∧ (c_X12_gets (M1 4520 ((e_w32 ((M1 4471 (x1.toNat)) + x6)).toNat)) (M1 4456 38) (M1 4456 39) M1 (fun M2 => (k3 x1 x2 x4 (e_w32 (x6 + 1)) M2))))))))))))
def VX12_parted (c_X12_times : Int → Int → Int → Int → e_M → (e_M → Prop) → Prop) (c_X12_gets : Int → Int → Int → e_M → (e_M → Prop) → Prop) (k3 : Int → Int → Int → Int → e_M → Prop) (Q : e_M → Prop) (x1 : Int) (x2 : Int) (x4 : Int) (M : e_M) : Prop :=
  (k3 x1 x2 x4 0 M)
def yX12_parted (i : Nat) : e_Y := x_get YX12_parted [YX12_times, YX12_gets] i
def pX12_partedf : List x_I := [(0, 0, 1, 0, 0, 0, []), (1, 5, 2, 6, 0, 0, []), (3, 49, 0, 0, 0, 0, []), (3, 2, 2, 6, 0, 0, []), (5, 4, 1, 0, 0, 0, []), (6, 25, 12, 23, 4, 0, [(0, 20, 152), (0, 1, 14)]), (9, 2, 1, 1, 0, 0, []), (10, 27, 0, 0, 0, 0, []), (11, 18, 79, 3, 49, 0, []), (14, 4, 1, 0, 0, 0, []), (15, 3, 1, 2, 0, 0, []), (16, 3, 2, 4, 0, 0, []), (18, 4, 1, 0, 0, 0, []), (19, 25, 12, 25, 4, 0, [(0, 20, 912), (0, 1, 16)]), (22, 0, 2, 0, 0, 6, []), (24, 2, 1, 1, 0, 0, []), (25, 9, 0, 2, 0, 0, []), (26, 2, 2, 6, 0, 0, []), (28, 9, 0, 0, 0, 0, []), (29, 27, 0, 0, 0, 0, []), (30, 14, 0, 0, 0, 0, []), (31, 4, 1, 0, 0, 0, []), (32, 25, 12, 26, 4, 0, [(0, 20, 912), (0, 1, 17)]), (35, 0, 2, 0, 0, 6, []), (37, 2, 1, 1, 0, 0, []), (38, 9, 0, 2, 0, 0, []), (39, 2, 2, 6, 0, 0, []), (41, 9, 0, 0, 0, 0, []), (42, 27, 0, 0, 0, 0, []), (43, 14, 0, 0, 0, 0, []), (44, 40, 0, 5, 14, 0, []), (47, 4, 1, 0, 0, 0, []), (48, 4, 1, 0, 0, 0, []), (49, 25, 12, 91, 4, 0, [(0, 20, 10), (0, 1, 64)]), (52, 4, 1, 0, 0, 0, []), (53, 25, 12, 24, 4, 0, [(0, 20, 152), (0, 1, 15)]), (56, 2, 1, 1, 0, 0, []), (57, 27, 0, 0, 0, 0, []), (58, 2, 2, 6, 0, 0, []), (60, 9, 0, 0, 0, 0, []), (61, 27, 0, 0, 0, 0, []), (62, 4, 1, 0, 0, 0, []), (63, 25, 12, 38, 3, 0, []), (66, 4, 1, 0, 0, 0, []), (67, 25, 12, 39, 3, 0, []), (70, 40, 1, 4, 14, 0, []), (73, 8, 0, 6, 0, 1, []), (76, 19, 3, 0, 3, 0, []), (79, 44, 0, 0, 0, 0, [])]
set_option maxRecDepth 20000 in
theorem qX12_partedf : f_all yX12_parted YX12_parted pX12_partedf :=
  ⟨f_iconst (e_dx DX12_parted_0 0 rfl) ⟨by decide, by decide⟩,
  f_istore (e_dx DX12_parted_0 1 rfl) (by decide),
  trivial,
  f_iload (e_dx DX12_parted_0 2 rfl),
  f_aload_n (n := 0) (e_dx DX12_parted_0 3 rfl) rfl,
  f_getA (e_dx DX12_parted_0 4 rfl) fX12_51 rfl (by decide) (Nat.le_of_ble_eq_true rfl) rfl (by decide),
  f_iload_n (n := 1) (e_dx DX12_parted_0 5 rfl) rfl,
  f_iaload (e_dx DX12_parted_0 6 rfl),
  f_icmp_ge (e_dx DX12_parted_0 7 rfl) rfl,
  f_aload_n (n := 0) (e_dx DX12_parted_0 8 rfl) rfl,
  f_lload_n (n := 2) (e_dx DX12_parted_0 9 rfl) rfl,
  f_lload (e_dx DX12_parted_0 10 rfl),
  f_aload_n (n := 0) (e_dx DX12_parted_0 11 rfl) rfl,
  f_getA (e_dx DX12_parted_0 12 rfl) fX12_57 rfl (by decide) (Nat.le_of_ble_eq_true rfl) rfl (by decide),
  f_bipush (e_dx DX12_parted_0 13 rfl) ⟨by decide, by decide⟩,
  f_iload_n (n := 1) (e_dx DX12_parted_0 14 rfl) rfl,
  f_imul (e_dx DX12_parted_0 15 rfl),
  f_iload (e_dx DX12_parted_0 16 rfl),
  f_iadd (e_dx DX12_parted_0 17 rfl),
  f_iaload (e_dx DX12_parted_0 18 rfl),
  f_g14 (e_dx DX12_parted_0 19 rfl),
  f_aload_n (n := 0) (e_dx DX12_parted_0 20 rfl) rfl,
  f_getA (e_dx DX12_parted_0 21 rfl) fX12_60 rfl (by decide) (Nat.le_of_ble_eq_true rfl) rfl (by decide),
  f_bipush (e_dx DX12_parted_0 22 rfl) ⟨by decide, by decide⟩,
  f_iload_n (n := 1) (e_dx DX12_parted_0 23 rfl) rfl,
  f_imul (e_dx DX12_parted_0 24 rfl),
  f_iload (e_dx DX12_parted_0 25 rfl),
  f_iadd (e_dx DX12_parted_0 26 rfl),
  f_iaload (e_dx DX12_parted_0 27 rfl),
  f_g14 (e_dx DX12_parted_0 28 rfl),
  x_callV (e_dx DX12_parted_0 29 rfl) mwX12_times vwX12_times cX12_666 rfl,
  f_aload_n (n := 0) (e_dx DX12_parted_0 30 rfl) rfl,
  f_aload_n (n := 0) (e_dx DX12_parted_0 31 rfl) rfl,
  f_getA (e_dx DX12_parted_0 32 rfl) fX12_202 rfl (by decide) (Nat.le_of_ble_eq_true rfl) rfl (by decide),
  f_aload_n (n := 0) (e_dx DX12_parted_0 33 rfl) rfl,
  f_getA (e_dx DX12_parted_0 34 rfl) fX12_54 rfl (by decide) (Nat.le_of_ble_eq_true rfl) rfl (by decide),
  f_iload_n (n := 1) (e_dx DX12_parted_0 35 rfl) rfl,
  f_iaload (e_dx DX12_parted_0 36 rfl),
  f_iload (e_dx DX12_parted_0 37 rfl),
  f_iadd (e_dx DX12_parted_0 38 rfl),
  f_iaload (e_dx DX12_parted_0 39 rfl),
  f_aload_n (n := 0) (e_dx DX12_parted_1 0 rfl) rfl,
  f_getL (e_dx DX12_parted_1 1 rfl) fX12_413 rfl (by decide),
  f_aload_n (n := 0) (e_dx DX12_parted_1 2 rfl) rfl,
  f_getL (e_dx DX12_parted_1 3 rfl) fX12_416 rfl (by decide),
  x_callV (e_dx DX12_parted_1 4 rfl) mwX12_gets vwX12_gets cX12_669 rfl,
  f_g8 (e_dx DX12_parted_1 5 rfl) ⟨by decide, by decide⟩,
  f_g19 (e_dx DX12_parted_1 6 rfl) rfl,
  ⟨(e_dx DX12_parted_1 7 rfl), rfl⟩, trivial⟩
def lX12_parted (c_X12_times : Int → Int → Int → Int → e_M → (e_M → Prop) → Prop) (c_X12_gets : Int → Int → Int → e_M → (e_M → Prop) → Prop) : List (Nat × f_Wt) := [(0, f_wm [(4466, 12, 123), (2, 0, 0), (2, 0, 0), (2, 0, 0), (2, 0, 0)] (fun ar M R => c_X12_times (f_vi (f_nth ar 1)) (f_vi (f_nth ar 2)) (f_vi (f_nth ar 3)) (f_vi (f_nth ar 4)) M (fun M => R none M))), (1, f_wm [(4466, 12, 123), (1, 0, 0), (2, 0, 0), (2, 0, 0)] (fun ar M R => c_X12_gets (f_vi (f_nth ar 1)) (f_vi (f_nth ar 2)) (f_vi (f_nth ar 3)) M (fun M => R none M)))]
set_option maxRecDepth 20000 in
theorem BX12_parted_3 {sh : Nat → Nat × Nat} {t : Nat} {rm : Nat × Nat × Nat} {cs : Nat × Nat} {R : f_Rt} {c_X12_times : Int → Int → Int → Int → e_M → (e_M → Prop) → Prop} {c_X12_gets : Int → Int → Int → e_M → (e_M → Prop) → Prop} {k3 : Int → Int → Int → Int → e_M → Prop} {x1 : Int} {x2 : Int} {x4 : Int} {x6 : Int} {M : e_M} (C : f_Hy sh t yX12_parted rm cs 8 (lX12_parted c_X12_times c_X12_gets) R) (h3 : ∀ (x1 : Int) (x2 : Int) (x4 : Int) (x6 : Int) (M : e_M), k3 x1 x2 x4 x6 M → f_E sh t YX12_parted rm cs (f_Q sh t R) 3 [.inr (.inr (.inl (12, 123, 4456))), .inl x1, .inr (.inl x2), .inr (.inr (.inr ())), .inr (.inl x4), .inr (.inr (.inr ())), .inl x6] [] M) (h : VX12_parted_3 c_X12_times c_X12_gets k3 (fun M => R none M) x1 x2 x4 x6 M) : f_E sh t YX12_parted rm cs (f_Q sh t R) 3 [.inr (.inr (.inl (12, 123, 4456))), .inl x1, .inr (.inl x2), .inr (.inr (.inr ())), .inr (.inl x4), .inr (.inr (.inr ())), .inl x6] [] M :=
  f_go (KC := f_kc [(3, f_pl [(4466, 12, 123), (1, 0, 0), (2, 0, 0), (0, 0, 0), (2, 0, 0), (0, 0, 0), (1, 0, 0)] [] (fun ls st M => k3 (f_vi (f_nth ls 1)) (f_vi (f_nth ls 2)) (f_vi (f_nth ls 4)) (f_vi (f_nth ls 6)) M))]) C qX12_partedf (f_kc_cons (f_pl_ok rfl (fun ls st M h => h3 _ _ _ _ M h)) f_kc_nil) 51 3 h
set_option maxRecDepth 20000 in
theorem BX12_parted {sh : Nat → Nat × Nat} {t : Nat} {rm : Nat × Nat × Nat} {cs : Nat × Nat} {R : f_Rt} {c_X12_times : Int → Int → Int → Int → e_M → (e_M → Prop) → Prop} {c_X12_gets : Int → Int → Int → e_M → (e_M → Prop) → Prop} {k3 : Int → Int → Int → Int → e_M → Prop} {x1 : Int} {x2 : Int} {x4 : Int} {M : e_M} (C : f_Hy sh t yX12_parted rm cs 8 (lX12_parted c_X12_times c_X12_gets) R) (h3 : ∀ (x1 : Int) (x2 : Int) (x4 : Int) (x6 : Int) (M : e_M), k3 x1 x2 x4 x6 M → f_E sh t YX12_parted rm cs (f_Q sh t R) 3 [.inr (.inr (.inl (12, 123, 4456))), .inl x1, .inr (.inl x2), .inr (.inr (.inr ())), .inr (.inl x4), .inr (.inr (.inr ())), .inl x6] [] M) (h : VX12_parted c_X12_times c_X12_gets k3 (fun M => R none M) x1 x2 x4 M) : f_E sh t YX12_parted rm cs (f_Q sh t R) 0 [.inr (.inr (.inl (12, 123, 4456))), .inl x1, .inr (.inl x2), .inr (.inr (.inr ())), .inr (.inl x4), .inr (.inr (.inr ())), .inr (.inr (.inr ()))] [] M :=
  f_go (KC := f_kc [(3, f_pl [(4466, 12, 123), (1, 0, 0), (2, 0, 0), (0, 0, 0), (2, 0, 0), (0, 0, 0), (1, 0, 0)] [] (fun ls st M => k3 (f_vi (f_nth ls 1)) (f_vi (f_nth ls 2)) (f_vi (f_nth ls 4)) (f_vi (f_nth ls 6)) M))]) C qX12_partedf (f_kc_cons (f_pl_ok rfl (fun ls st M h => h3 _ _ _ _ M h)) f_kc_nil) 51 0 h
def WX12_parted_3 (Q : e_M → Prop) : Nat → Int → Int → Int → Int → e_M → Prop
  | 0, _, _, _, _, _ => False
  | n + 1, x1, x2, x4, x6, M =>
    VX12_parted_3 WX12_times WX12_gets (WX12_parted_3 Q n) Q x1 x2 x4 x6 M
def WX12_parted (x1 : Int) (x2 : Int) (x4 : Int) (M : e_M) (Q : e_M → Prop) : Prop :=
  VX12_parted WX12_times WX12_gets (fun x1 x2 x4 x6 M => ∃ j, WX12_parted_3 Q j x1 x2 x4 x6 M) Q x1 x2 x4 M
theorem PX12_parted_3 {sh : Nat → Nat × Nat} {t : Nat} {rm : Nat × Nat × Nat} {cs : Nat × Nat} {R : f_Rt} (C : f_Hy sh t yX12_parted rm cs 8 (lX12_parted WX12_times WX12_gets) R) : ∀ (n : Nat) (x1 : Int) (x2 : Int) (x4 : Int) (x6 : Int) (M : e_M), WX12_parted_3 (fun M => R none M) n x1 x2 x4 x6 M → f_E sh t YX12_parted rm cs (f_Q sh t R) 3 [.inr (.inr (.inl (12, 123, 4456))), .inl x1, .inr (.inl x2), .inr (.inr (.inr ())), .inr (.inl x4), .inr (.inr (.inr ())), .inl x6] [] M := by
  intro n
  induction n with
  | zero => intro x1 x2 x4 x6 M h; exact h.elim
  | succ n ih => intro x1 x2 x4 x6 M h; exact BX12_parted_3 C ih h
theorem PX12_parted {sh : Nat → Nat × Nat} {t : Nat} {rm : Nat × Nat × Nat} {cs : Nat × Nat} {R : f_Rt} {x1 : Int} {x2 : Int} {x4 : Int} {M : e_M} (C : f_Hy sh t yX12_parted rm cs 8 (lX12_parted WX12_times WX12_gets) R) (h : WX12_parted x1 x2 x4 M (fun M => R none M)) : f_E sh t YX12_parted rm cs (f_Q sh t R) 0 [.inr (.inr (.inl (12, 123, 4456))), .inl x1, .inr (.inl x2), .inr (.inr (.inr ())), .inr (.inl x4), .inr (.inr (.inr ())), .inr (.inr (.inr ()))] [] M :=
  BX12_parted C (fun x1 x2 x4 x6 M ⟨j, h⟩ => PX12_parted_3 C j _ _ _ _ _ h) h
def wX12_parted : f_Wt := f_wm [(4466, 12, 123), (1, 0, 0), (2, 0, 0), (2, 0, 0)] (fun ar M R => WX12_parted (f_vi (f_nth ar 1)) (f_vi (f_nth ar 2)) (f_vi (f_nth ar 3)) M (fun M => R none M))
theorem TX12_parted {sh : Nat → Nat × Nat} {t : Nat} : f_Mt sh t YX12_parted 8 (wX12_parted) :=
  f_Mt_of (k := 1) (Nat.le_of_ble_eq_true rfl) rfl rfl (fun ar M R rm cs h1 h2 h3 hX h => PX12_parted ⟨Nat.le_of_ble_eq_true rfl, h1, h2, h3, ⟨(f_Mt.up (Nat.le_of_ble_eq_true rfl) TX12_times), (f_Mt.up (Nat.le_of_ble_eq_true rfl) TX12_gets), trivial⟩, hX⟩ h)
def VX12_inherits (c_X12_loads : Int → e_M → (e_M → Prop) → Prop) (c_X12_ownAt : Int → e_M → (Int → Prop) → Prop) (c_X12_gives : Int → Int → Int → e_M → (e_M → Prop) → Prop) (c_X12_gets : Int → Int → Int → e_M → (e_M → Prop) → Prop) (c_X12_parted : Int → Int → Int → e_M → (e_M → Prop) → Prop) (Q : e_M → Prop) (x1 : Int) (x2 : Int) (x3 : Int) (M : e_M) : Prop :=
  (c_X12_loads x3 M (fun M1 => (c_X12_ownAt x2 M1 (fun r2 => ((0 ≤ r2 → ((0 ≤ r2 ∧ r2 < 16) ∧ ((0 ≤ r2 ∧ r2 < 16) ∧ (c_X12_gives x2 (M1 4518 (r2.toNat)) (M1 4519 (r2.toNat)) M1 (fun M3 => ((0 ≤ x1 ∧ x1 < 152) ∧ ((¬ (M3 4470 (x1.toNat)) = 0 → (c_X12_parted x1 (M1 4518 (r2.toNat)) (M1 4519 (r2.toNat)) M3 (fun M4 => (Q M4)))) ∧ ((M3 4470 (x1.toNat)) = 0 → (c_X12_gets 0 (M1 4518 (r2.toNat)) (M1 4519 (r2.toNat)) M3 (fun M5 => (Q M5))))))))))) ∧ (r2 < 0 → (Q M1)))))))
def yX12_inherits (i : Nat) : e_Y := x_get YX12_inherits [YX12_loads, YX12_ownAt, YX12_gives, YX12_gets, YX12_parted] i
def pX12_inheritsf : List x_I := [(0, 4, 1, 0, 0, 0, []), (1, 2, 1, 3, 0, 0, []), (2, 40, 0, 2, 14, 0, []), (5, 4, 1, 0, 0, 0, []), (6, 2, 1, 2, 0, 0, []), (7, 40, 1, 2, 14, 0, []), (10, 5, 2, 4, 0, 0, []), (12, 2, 2, 4, 0, 0, []), (14, 17, 18, 3, 11, 0, []), (17, 44, 0, 0, 0, 0, []), (18, 4, 1, 0, 0, 0, []), (19, 25, 12, 89, 4, 0, [(0, 23, 16), (0, 1, 62)]), (22, 2, 2, 4, 0, 0, []), (24, 27, 0, 1, 0, 0, []), (25, 6, 2, 5, 0, 0, []), (27, 4, 1, 0, 0, 0, []), (28, 25, 12, 90, 4, 0, [(0, 23, 16), (0, 1, 63)]), (31, 2, 2, 4, 0, 0, []), (33, 27, 0, 1, 0, 0, []), (34, 6, 2, 7, 0, 0, []), (36, 4, 1, 0, 0, 0, []), (37, 2, 1, 2, 0, 0, []), (38, 3, 2, 5, 0, 0, []), (40, 3, 2, 7, 0, 0, []), (42, 40, 2, 4, 14, 0, []), (45, 4, 1, 0, 0, 0, []), (46, 25, 12, 23, 4, 0, [(0, 20, 152), (0, 1, 14)]), (49, 2, 1, 1, 0, 0, []), (50, 27, 0, 0, 0, 0, []), (51, 17, 66, 1, 37, 0, []), (54, 4, 1, 0, 0, 0, []), (55, 0, 1, 0, 0, 0, []), (56, 3, 2, 5, 0, 0, []), (58, 3, 2, 7, 0, 0, []), (60, 40, 3, 4, 14, 0, []), (63, 19, 75, 0, 42, 0, []), (66, 4, 1, 0, 0, 0, []), (67, 2, 1, 1, 0, 0, []), (68, 3, 2, 5, 0, 0, []), (70, 3, 2, 7, 0, 0, []), (72, 40, 4, 4, 14, 0, []), (75, 44, 0, 0, 0, 0, [])]
set_option maxRecDepth 20000 in
theorem qX12_inheritsf : f_all yX12_inherits YX12_inherits pX12_inheritsf :=
  ⟨f_aload_n (n := 0) (e_dx DX12_inherits_0 0 rfl) rfl,
  f_iload_n (n := 3) (e_dx DX12_inherits_0 1 rfl) rfl,
  x_callV (e_dx DX12_inherits_0 2 rfl) mwX12_loads vwX12_loads cX12_673 rfl,
  f_aload_n (n := 0) (e_dx DX12_inherits_0 3 rfl) rfl,
  f_iload_n (n := 2) (e_dx DX12_inherits_0 4 rfl) rfl,
  x_callV (e_dx DX12_inherits_0 5 rfl) mwX12_ownAt vwX12_ownAt cX12_558 rfl,
  f_istore (e_dx DX12_inherits_0 6 rfl) (by decide),
  f_iload (e_dx DX12_inherits_0 7 rfl),
  f_if_ge (e_dx DX12_inherits_0 8 rfl) rfl,
  ⟨(e_dx DX12_inherits_0 9 rfl), rfl⟩,
  f_aload_n (n := 0) (e_dx DX12_inherits_0 10 rfl) rfl,
  f_getA (e_dx DX12_inherits_0 11 rfl) fX12_196 rfl (by decide) (Nat.le_of_ble_eq_true rfl) rfl (by decide),
  f_iload (e_dx DX12_inherits_0 12 rfl),
  f_laload (e_dx DX12_inherits_0 13 rfl),
  f_lstore (e_dx DX12_inherits_0 14 rfl) (by decide),
  f_aload_n (n := 0) (e_dx DX12_inherits_0 15 rfl) rfl,
  f_getA (e_dx DX12_inherits_0 16 rfl) fX12_199 rfl (by decide) (Nat.le_of_ble_eq_true rfl) rfl (by decide),
  f_iload (e_dx DX12_inherits_0 17 rfl),
  f_laload (e_dx DX12_inherits_0 18 rfl),
  f_lstore (e_dx DX12_inherits_0 19 rfl) (by decide),
  f_aload_n (n := 0) (e_dx DX12_inherits_0 20 rfl) rfl,
  f_iload_n (n := 2) (e_dx DX12_inherits_0 21 rfl) rfl,
  f_lload (e_dx DX12_inherits_0 22 rfl),
  f_lload (e_dx DX12_inherits_0 23 rfl),
  x_callV (e_dx DX12_inherits_0 24 rfl) mwX12_gives vwX12_gives cX12_676 rfl,
  f_aload_n (n := 0) (e_dx DX12_inherits_0 25 rfl) rfl,
  f_getA (e_dx DX12_inherits_0 26 rfl) fX12_51 rfl (by decide) (Nat.le_of_ble_eq_true rfl) rfl (by decide),
  f_iload_n (n := 1) (e_dx DX12_inherits_0 27 rfl) rfl,
  f_iaload (e_dx DX12_inherits_0 28 rfl),
  f_if_ne (e_dx DX12_inherits_0 29 rfl) rfl,
  f_aload_n (n := 0) (e_dx DX12_inherits_0 30 rfl) rfl,
  f_iconst (e_dx DX12_inherits_0 31 rfl) ⟨by decide, by decide⟩,
  f_lload (e_dx DX12_inherits_0 32 rfl),
  f_lload (e_dx DX12_inherits_0 33 rfl),
  x_callV (e_dx DX12_inherits_0 34 rfl) mwX12_gets vwX12_gets cX12_669 rfl,
  f_g19 (e_dx DX12_inherits_0 35 rfl) rfl,
  f_aload_n (n := 0) (e_dx DX12_inherits_0 36 rfl) rfl,
  f_iload_n (n := 1) (e_dx DX12_inherits_0 37 rfl) rfl,
  f_lload (e_dx DX12_inherits_0 38 rfl),
  f_lload (e_dx DX12_inherits_0 39 rfl),
  x_callV (e_dx DX12_inherits_1 0 rfl) mwX12_parted vwX12_parted cX12_679 rfl,
  ⟨(e_dx DX12_inherits_1 1 rfl), rfl⟩, trivial⟩
def lX12_inherits (c_X12_loads : Int → e_M → (e_M → Prop) → Prop) (c_X12_ownAt : Int → e_M → (Int → Prop) → Prop) (c_X12_gives : Int → Int → Int → e_M → (e_M → Prop) → Prop) (c_X12_gets : Int → Int → Int → e_M → (e_M → Prop) → Prop) (c_X12_parted : Int → Int → Int → e_M → (e_M → Prop) → Prop) : List (Nat × f_Wt) := [(0, f_wm [(4466, 12, 123), (1, 0, 0)] (fun ar M R => c_X12_loads (f_vi (f_nth ar 1)) M (fun M => R none M))), (1, f_wm [(4466, 12, 123), (1, 0, 0)] (fun ar M R => c_X12_ownAt (f_vi (f_nth ar 1)) M (fun r => R (some (.inl r)) M))), (2, f_wm [(4466, 12, 123), (1, 0, 0), (2, 0, 0), (2, 0, 0)] (fun ar M R => c_X12_gives (f_vi (f_nth ar 1)) (f_vi (f_nth ar 2)) (f_vi (f_nth ar 3)) M (fun M => R none M))), (3, f_wm [(4466, 12, 123), (1, 0, 0), (2, 0, 0), (2, 0, 0)] (fun ar M R => c_X12_gets (f_vi (f_nth ar 1)) (f_vi (f_nth ar 2)) (f_vi (f_nth ar 3)) M (fun M => R none M))), (4, f_wm [(4466, 12, 123), (1, 0, 0), (2, 0, 0), (2, 0, 0)] (fun ar M R => c_X12_parted (f_vi (f_nth ar 1)) (f_vi (f_nth ar 2)) (f_vi (f_nth ar 3)) M (fun M => R none M)))]
set_option maxRecDepth 20000 in
theorem BX12_inherits {sh : Nat → Nat × Nat} {t : Nat} {rm : Nat × Nat × Nat} {cs : Nat × Nat} {R : f_Rt} {c_X12_loads : Int → e_M → (e_M → Prop) → Prop} {c_X12_ownAt : Int → e_M → (Int → Prop) → Prop} {c_X12_gives : Int → Int → Int → e_M → (e_M → Prop) → Prop} {c_X12_gets : Int → Int → Int → e_M → (e_M → Prop) → Prop} {c_X12_parted : Int → Int → Int → e_M → (e_M → Prop) → Prop} {x1 : Int} {x2 : Int} {x3 : Int} {M : e_M} (C : f_Hy sh t yX12_inherits rm cs 9 (lX12_inherits c_X12_loads c_X12_ownAt c_X12_gives c_X12_gets c_X12_parted) R) (h : VX12_inherits c_X12_loads c_X12_ownAt c_X12_gives c_X12_gets c_X12_parted (fun M => R none M) x1 x2 x3 M) : f_E sh t YX12_inherits rm cs (f_Q sh t R) 0 [.inr (.inr (.inl (12, 123, 4456))), .inl x1, .inl x2, .inl x3, .inr (.inr (.inr ())), .inr (.inr (.inr ())), .inr (.inr (.inr ())), .inr (.inr (.inr ())), .inr (.inr (.inr ()))] [] M :=
  f_go (KC := f_kc []) C qX12_inheritsf f_kc_nil 44 0 h
def WX12_inherits (x1 : Int) (x2 : Int) (x3 : Int) (M : e_M) (Q : e_M → Prop) : Prop :=
  VX12_inherits WX12_loads WX12_ownAt WX12_gives WX12_gets WX12_parted Q x1 x2 x3 M
theorem PX12_inherits {sh : Nat → Nat × Nat} {t : Nat} {rm : Nat × Nat × Nat} {cs : Nat × Nat} {R : f_Rt} {x1 : Int} {x2 : Int} {x3 : Int} {M : e_M} (C : f_Hy sh t yX12_inherits rm cs 9 (lX12_inherits WX12_loads WX12_ownAt WX12_gives WX12_gets WX12_parted) R) (h : WX12_inherits x1 x2 x3 M (fun M => R none M)) : f_E sh t YX12_inherits rm cs (f_Q sh t R) 0 [.inr (.inr (.inl (12, 123, 4456))), .inl x1, .inl x2, .inl x3, .inr (.inr (.inr ())), .inr (.inr (.inr ())), .inr (.inr (.inr ())), .inr (.inr (.inr ())), .inr (.inr (.inr ()))] [] M :=
  BX12_inherits C h
def wX12_inherits : f_Wt := f_wm [(4466, 12, 123), (1, 0, 0), (1, 0, 0), (1, 0, 0)] (fun ar M R => WX12_inherits (f_vi (f_nth ar 1)) (f_vi (f_nth ar 2)) (f_vi (f_nth ar 3)) M (fun M => R none M))
theorem TX12_inherits {sh : Nat → Nat × Nat} {t : Nat} : f_Mt sh t YX12_inherits 9 (wX12_inherits) :=
  f_Mt_of (k := 5) (Nat.le_of_ble_eq_true rfl) rfl rfl (fun ar M R rm cs h1 h2 h3 hX h => PX12_inherits ⟨Nat.le_of_ble_eq_true rfl, h1, h2, h3, ⟨(f_Mt.up (Nat.le_of_ble_eq_true rfl) TX12_loads), (f_Mt.up (Nat.le_of_ble_eq_true rfl) TX12_ownAt), (f_Mt.up (Nat.le_of_ble_eq_true rfl) TX12_gives), (f_Mt.up (Nat.le_of_ble_eq_true rfl) TX12_gets), (f_Mt.up (Nat.le_of_ble_eq_true rfl) TX12_parted), trivial⟩, hX⟩ h)
def VX12_death_43 (c_X12_id : Int → Int → e_M → (Int → Prop) → Prop) (c_X12_areParts : Int → Int → e_M → (Int → e_M → Prop) → Prop) (c_X12_inherits : Int → Int → Int → e_M → (e_M → Prop) → Prop) (c_X12_isGreat : e_M → (Int → Prop) → Prop) (c_X12_keeps : Int → e_M → (e_M → Prop) → Prop) (k51 : Int → Int → Int → Int → Int → e_M → Prop) (Q : Int → e_M → Prop) (x1 : Int) (x2 : Int) (M : e_M) : Prop :=
  (k51 x1 x2 0 0 0 M)
def VX12_death_51 (c_X12_id : Int → Int → e_M → (Int → Prop) → Prop) (c_X12_areParts : Int → Int → e_M → (Int → e_M → Prop) → Prop) (c_X12_inherits : Int → Int → Int → e_M → (e_M → Prop) → Prop) (c_X12_isGreat : e_M → (Int → Prop) → Prop) (c_X12_keeps : Int → e_M → (e_M → Prop) → Prop) (k136 : Int → e_M → Prop) (k151 : Int → Int → Int → e_M → Prop) (k94 : Int → Int → Int → Int → e_M → Prop) (k99 : Int → Int → Int → Int → Int → e_M → Prop) (k121 : Int → Int → Int → Int → Int → e_M → Prop) (Q : Int → e_M → Prop) (x1 : Int) (x2 : Int) (x3 : Int) (x4 : Int) (x5 : Int) (M : e_M) : Prop :=
  ((0 ≤ (0 : Int) ∧ (0 : Int) < 7) ∧ (((M 4483 ((0 : Int).toNat)) ≤ x5 → ((¬ x3 = 0 → (k136 x3 M)) ∧ (x3 = 0 → ((x4 = 0 → (k151 x1 x2 0 M)) ∧ (¬ x4 = 0 → (k136 x3 M)))))) ∧ (x5 < (M 4483 ((0 : Int).toNat)) → ((0 ≤ x5 ∧ x5 < 560) ∧ (((M 4485 (x5.toNat)) = 0 → (c_X12_inherits x1 x2 x5 M (fun M1 => ((¬ x3 = 0 → (k94 x1 x2 x4 x5 M1)) ∧ (x3 = 0 → (c_X12_isGreat M1 (fun r2 => ((r2 = 0 → (k99 x1 x2 x4 x5 0 M1)) ∧ (¬ r2 = 0 → (k94 x1 x2 x4 x5 M1)))))))))) ∧ (¬ (M 4485 (x5.toNat)) = 0 → (k121 x1 x2 x3 x4 x5 M)))))))
def VX12_death_94 (c_X12_id : Int → Int → e_M → (Int → Prop) → Prop) (c_X12_areParts : Int → Int → e_M → (Int → e_M → Prop) → Prop) (c_X12_inherits : Int → Int → Int → e_M → (e_M → Prop) → Prop) (c_X12_isGreat : e_M → (Int → Prop) → Prop) (c_X12_keeps : Int → e_M → (e_M → Prop) → Prop) (k99 : Int → Int → Int → Int → Int → e_M → Prop) (Q : Int → e_M → Prop) (x1 : Int) (x2 : Int) (x4 : Int) (x5 : Int) (M : e_M) : Prop :=
  (k99 x1 x2 x4 x5 1 M)
def VX12_death_99 (c_X12_id : Int → Int → e_M → (Int → Prop) → Prop) (c_X12_areParts : Int → Int → e_M → (Int → e_M → Prop) → Prop) (c_X12_inherits : Int → Int → Int → e_M → (e_M → Prop) → Prop) (c_X12_isGreat : e_M → (Int → Prop) → Prop) (c_X12_keeps : Int → e_M → (e_M → Prop) → Prop) (k114 : Int → Int → Int → Int → e_M → Prop) (k119 : Int → Int → Int → Int → Int → e_M → Prop) (Q : Int → e_M → Prop) (x1 : Int) (x2 : Int) (x4 : Int) (x5 : Int) (xs0 : Int) (M : e_M) : Prop :=
  ((¬ x4 = 0 → (k114 x1 x2 xs0 x5 M)) ∧ (x4 = 0 → (((M 4456 87) ≤ 8 → (k119 x1 x2 xs0 x5 0 M)) ∧ (8 < (M 4456 87) → (k114 x1 x2 xs0 x5 M)))))
def VX12_death_114 (c_X12_id : Int → Int → e_M → (Int → Prop) → Prop) (c_X12_areParts : Int → Int → e_M → (Int → e_M → Prop) → Prop) (c_X12_inherits : Int → Int → Int → e_M → (e_M → Prop) → Prop) (c_X12_isGreat : e_M → (Int → Prop) → Prop) (c_X12_keeps : Int → e_M → (e_M → Prop) → Prop) (k119 : Int → Int → Int → Int → Int → e_M → Prop) (Q : Int → e_M → Prop) (x1 : Int) (x2 : Int) (x3 : Int) (x5 : Int) (M : e_M) : Prop :=
  (k119 x1 x2 x3 x5 1 M)
def VX12_death_119 (c_X12_id : Int → Int → e_M → (Int → Prop) → Prop) (c_X12_areParts : Int → Int → e_M → (Int → e_M → Prop) → Prop) (c_X12_inherits : Int → Int → Int → e_M → (e_M → Prop) → Prop) (c_X12_isGreat : e_M → (Int → Prop) → Prop) (c_X12_keeps : Int → e_M → (e_M → Prop) → Prop) (k121 : Int → Int → Int → Int → Int → e_M → Prop) (Q : Int → e_M → Prop) (x1 : Int) (x2 : Int) (x3 : Int) (x5 : Int) (xs0 : Int) (M : e_M) : Prop :=
  (k121 x1 x2 x3 xs0 x5 M)
def VX12_death_121 (c_X12_id : Int → Int → e_M → (Int → Prop) → Prop) (c_X12_areParts : Int → Int → e_M → (Int → e_M → Prop) → Prop) (c_X12_inherits : Int → Int → Int → e_M → (e_M → Prop) → Prop) (c_X12_isGreat : e_M → (Int → Prop) → Prop) (c_X12_keeps : Int → e_M → (e_M → Prop) → Prop) (k51 : Int → Int → Int → Int → Int → e_M → Prop) (Q : Int → e_M → Prop) (x1 : Int) (x2 : Int) (x3 : Int) (x4 : Int) (x5 : Int) (M : e_M) : Prop :=
  (k51 x1 x2 x3 x4 (e_w32 (x5 + 1)) M)
def VX12_death_136 (c_X12_id : Int → Int → e_M → (Int → Prop) → Prop) (c_X12_areParts : Int → Int → e_M → (Int → e_M → Prop) → Prop) (c_X12_inherits : Int → Int → Int → e_M → (e_M → Prop) → Prop) (c_X12_isGreat : e_M → (Int → Prop) → Prop) (c_X12_keeps : Int → e_M → (e_M → Prop) → Prop) (Q : Int → e_M → Prop) (x3 : Int) (M : e_M) : Prop :=
  ((x3 = 0 → (Q 7 M)) ∧ (¬ x3 = 0 → (Q 6 M)))
def VX12_death_151 (c_X12_id : Int → Int → e_M → (Int → Prop) → Prop) (c_X12_areParts : Int → Int → e_M → (Int → e_M → Prop) → Prop) (c_X12_inherits : Int → Int → Int → e_M → (e_M → Prop) → Prop) (c_X12_isGreat : e_M → (Int → Prop) → Prop) (c_X12_keeps : Int → e_M → (e_M → Prop) → Prop) (k219 : Int → Int → e_M → Prop) (k189 : Int → Int → Int → e_M → Prop) (Q : Int → e_M → Prop) (x1 : Int) (x2 : Int) (x5 : Int) (M : e_M) : Prop :=
  ((0 ≤ (0 : Int) ∧ (0 : Int) < 7) ∧ (((M 4483 ((0 : Int).toNat)) ≤ x5 → ((0 ≤ x1 ∧ x1 < 152) ∧ ((¬ (M 4470 (x1.toNat)) = 0 → ((0 ≤ x1 ∧ x1 < 152) ∧ ((0 ≤ (M 4471 (x1.toNat)) ∧ (M 4471 (x1.toNat)) < 10) ∧ (k219 x2 (M 4520 ((M 4471 (x1.toNat)).toNat)) M)))) ∧ ((M 4470 (x1.toNat)) = 0 → (k219 x2 0 M))))) ∧ (x5 < (M 4483 ((0 : Int).toNat)) → ((0 ≤ x5 ∧ x5 < 560) ∧ (((M 4485 (x5.toNat)) = 0 → (c_X12_inherits x1 x2 x5 M (fun M1 => (c_X12_keeps x5 M1 (fun M2 => (k189 x1 x2 x5 M2)))))) ∧ (¬ (M 4485 (x5.toNat)) = 0 → (k189 x1 x2 x5 M)))))))
def VX12_death_189 (c_X12_id : Int → Int → e_M → (Int → Prop) → Prop) (c_X12_areParts : Int → Int → e_M → (Int → e_M → Prop) → Prop) (c_X12_inherits : Int → Int → Int → e_M → (e_M → Prop) → Prop) (c_X12_isGreat : e_M → (Int → Prop) → Prop) (c_X12_keeps : Int → e_M → (e_M → Prop) → Prop) (k151 : Int → Int → Int → e_M → Prop) (Q : Int → e_M → Prop) (x1 : Int) (x2 : Int) (x5 : Int) (M : e_M) : Prop :=
  (k151 x1 x2 (e_w32 (x5 + 1)) M)
def VX12_death_219 (c_X12_id : Int → Int → e_M → (Int → Prop) → Prop) (c_X12_areParts : Int → Int → e_M → (Int → e_M → Prop) → Prop) (c_X12_inherits : Int → Int → Int → e_M → (e_M → Prop) → Prop) (c_X12_isGreat : e_M → (Int → Prop) → Prop) (c_X12_keeps : Int → e_M → (e_M → Prop) → Prop) (k224 : Int → Int → Int → e_M → Prop) (Q : Int → e_M → Prop) (x2 : Int) (xs0 : Int) (M : e_M) : Prop :=
  (k224 x2 xs0 0 M)
def VX12_death_224 (c_X12_id : Int → Int → e_M → (Int → Prop) → Prop) (c_X12_areParts : Int → Int → e_M → (Int → e_M → Prop) → Prop) (c_X12_inherits : Int → Int → Int → e_M → (e_M → Prop) → Prop) (c_X12_isGreat : e_M → (Int → Prop) → Prop) (c_X12_keeps : Int → e_M → (e_M → Prop) → Prop) (k286 : Int → Int → e_M → Prop) (k277 : Int → Int → Int → e_M → Prop) (Q : Int → e_M → Prop) (x2 : Int) (x5 : Int) (x6 : Int) (M : e_M) : Prop :=
  ((0 ≤ (2 : Int) ∧ (2 : Int) < 7) ∧ (((M 4483 ((2 : Int).toNat)) ≤ x6 → (k286 x2 4 M)) ∧ (x6 < (M 4483 ((2 : Int).toNat)) → (c_X12_id 2 x6 M (fun r1 => ((0 ≤ r1 ∧ r1 < 560) ∧ ((¬ (M 4489 (r1.toNat)) = x2 → (k277 x2 x5 x6 M)) ∧ ((M 4489 (r1.toNat)) = x2 → (c_X12_id 2 x6 M (fun r2 => ((0 ≤ r2 ∧ r2 < 560) ∧ ((¬ (M 4485 (r2.toNat)) = 0 → (k277 x2 x5 x6 M)) ∧ ((M 4485 (r2.toNat)) = 0 → (c_X12_id 2 x6 M (fun r3 => ((0 ≤ r3 ∧ r3 < 560) ∧ (∀ M4 : e_M, M4 = e_up M 4489 (r3.toNat) x5 → (k277 x2 x5 x6 M4))))))))))))))))))
def VX12_death_277 (c_X12_id : Int → Int → e_M → (Int → Prop) → Prop) (c_X12_areParts : Int → Int → e_M → (Int → e_M → Prop) → Prop) (c_X12_inherits : Int → Int → Int → e_M → (e_M → Prop) → Prop) (c_X12_isGreat : e_M → (Int → Prop) → Prop) (c_X12_keeps : Int → e_M → (e_M → Prop) → Prop) (k224 : Int → Int → Int → e_M → Prop) (Q : Int → e_M → Prop) (x2 : Int) (x5 : Int) (x6 : Int) (M : e_M) : Prop :=
  (k224 x2 x5 (e_w32 (x6 + 1)) M)
def VX12_death_286 (c_X12_id : Int → Int → e_M → (Int → Prop) → Prop) (c_X12_areParts : Int → Int → e_M → (Int → e_M → Prop) → Prop) (c_X12_inherits : Int → Int → Int → e_M → (e_M → Prop) → Prop) (c_X12_isGreat : e_M → (Int → Prop) → Prop) (c_X12_keeps : Int → e_M → (e_M → Prop) → Prop) (k296 : Int → Int → Int → e_M → Prop) (Q : Int → e_M → Prop) (x2 : Int) (x6 : Int) (M : e_M) : Prop :=
  ((6 < x6 → (c_X12_id 1 x2 M (fun r1 => (((0 ≤ r1 ∧ r1 < 560) ∧ ((1 : Int) = 0 ∨ (1 : Int) = 1)) ∧ (∀ M2 : e_M, M2 = e_up M 4485 (r1.toNat) 1 → (Q 0 M2)))))) ∧ (x6 ≤ 6 → (k296 x2 x6 0 M)))
def VX12_death_296 (c_X12_id : Int → Int → e_M → (Int → Prop) → Prop) (c_X12_areParts : Int → Int → e_M → (Int → e_M → Prop) → Prop) (c_X12_inherits : Int → Int → Int → e_M → (e_M → Prop) → Prop) (c_X12_isGreat : e_M → (Int → Prop) → Prop) (c_X12_keeps : Int → e_M → (e_M → Prop) → Prop) (k286 : Int → Int → e_M → Prop) (k337 : Int → Int → Int → e_M → Prop) (Q : Int → e_M → Prop) (x2 : Int) (x6 : Int) (x7 : Int) (M : e_M) : Prop :=
  ((0 ≤ x6 ∧ x6 < 7) ∧ (((M 4483 (x6.toNat)) ≤ x7 → (k286 x2 (e_w32 (x6 + 1)) M)) ∧ (x7 < (M 4483 (x6.toNat)) → (c_X12_id x6 x7 M (fun r1 => ((0 ≤ r1 ∧ r1 < 560) ∧ ((¬ (M 4489 (r1.toNat)) = x2 → (k337 x2 x6 x7 M)) ∧ ((M 4489 (r1.toNat)) = x2 → (c_X12_id x6 x7 M (fun r2 => (((0 ≤ r2 ∧ r2 < 560) ∧ ((1 : Int) = 0 ∨ (1 : Int) = 1)) ∧ (∀ M3 : e_M, M3 = e_up M 4485 (r2.toNat) 1 → (k337 x2 x6 x7 M3)))))))))))))
def VX12_death_337 (c_X12_id : Int → Int → e_M → (Int → Prop) → Prop) (c_X12_areParts : Int → Int → e_M → (Int → e_M → Prop) → Prop) (c_X12_inherits : Int → Int → Int → e_M → (e_M → Prop) → Prop) (c_X12_isGreat : e_M → (Int → Prop) → Prop) (c_X12_keeps : Int → e_M → (e_M → Prop) → Prop) (k296 : Int → Int → Int → e_M → Prop) (Q : Int → e_M → Prop) (x2 : Int) (x6 : Int) (x7 : Int) (M : e_M) : Prop :=
  (k296 x2 x6 (e_w32 (x7 + 1)) M)
def VX12_death (c_X12_id : Int → Int → e_M → (Int → Prop) → Prop) (c_X12_areParts : Int → Int → e_M → (Int → e_M → Prop) → Prop) (c_X12_inherits : Int → Int → Int → e_M → (e_M → Prop) → Prop) (c_X12_isGreat : e_M → (Int → Prop) → Prop) (c_X12_keeps : Int → e_M → (e_M → Prop) → Prop) (k43 : Int → Int → e_M → Prop) (Q : Int → e_M → Prop) (x1 : Int) (M : e_M) : Prop :=
  ((0 ≤ (0 : Int) ∧ (0 : Int) < 10) ∧ (c_X12_id 1 (M 4520 ((0 : Int).toNat)) M (fun r1 => ((0 ≤ r1 ∧ r1 < 560) ∧ (((M 4491 (r1.toNat)) = 0 → ((0 ≤ x1 ∧ x1 < 152) ∧ (((M 4470 (x1.toNat)) ≤ 0 → (k43 x1 (M 4520 ((0 : Int).toNat)) M)) ∧ (0 < (M 4470 (x1.toNat)) → (c_X12_areParts x1 (M 4520 ((0 : Int).toNat)) M (fun r2 M3 => ((¬ r2 = 0 → (k43 x1 (M 4520 ((0 : Int).toNat)) M3)) ∧ (r2 = 0 → (Q 6 M3))))))))) ∧ (¬ (M 4491 (r1.toNat)) = 0 → (Q 1 M)))))))
def yX12_death (i : Nat) : e_Y := x_get YX12_death [YX12_id, YX12_areParts, YX12_inherits, YX12_isGreat, YX12_keeps] i
def pX12_deathf : List x_I := [(0, 4, 1, 0, 0, 0, []), (1, 25, 12, 91, 4, 0, [(0, 20, 10), (0, 1, 64)]), (4, 0, 1, 0, 0, 0, []), (5, 27, 0, 0, 0, 0, []), (6, 5, 1, 2, 0, 0, []), (7, 4, 1, 0, 0, 0, []), (8, 25, 12, 58, 4, 0, [(0, 20, 560), (0, 1, 35)]), (11, 0, 1, 0, 0, 1, []), (12, 2, 1, 2, 0, 0, []), (13, 40, 0, 2, 0, 0, []), (16, 27, 0, 0, 0, 0, []), (17, 17, 22, 0, 15, 0, []), (20, 0, 1, 0, 0, 1, []), (21, 41, 0, 0, 0, 0, []), (22, 4, 1, 0, 0, 0, []), (23, 25, 12, 23, 4, 0, [(0, 20, 152), (0, 1, 14)]), (26, 2, 1, 1, 0, 0, []), (27, 27, 0, 0, 0, 0, []), (28, 17, 43, 5, 27, 0, []), (31, 4, 1, 0, 0, 0, []), (32, 2, 1, 1, 0, 0, []), (33, 2, 1, 2, 0, 0, []), (34, 40, 1, 3, 14, 0, []), (37, 17, 43, 1, 27, 0, []), (40, 0, 2, 0, 0, 6, []), (42, 41, 0, 0, 0, 0, []), (43, 49, 0, 0, 0, 0, []), (43, 0, 1, 0, 0, 0, []), (44, 5, 1, 3, 0, 0, []), (45, 0, 1, 0, 0, 0, []), (46, 5, 2, 4, 0, 0, []), (48, 0, 1, 0, 0, 0, []), (49, 5, 2, 5, 0, 0, []), (51, 49, 0, 0, 0, 0, []), (51, 2, 2, 5, 0, 0, []), (53, 4, 1, 0, 0, 0, []), (54, 25, 12, 50, 4, 0, [(0, 20, 7), (0, 1, 27)]), (57, 0, 1, 0, 0, 0, []), (58, 27, 0, 0, 0, 0, []), (59, 18, 127, 3, 78, 0, []), (62, 4, 1, 0, 0, 0, []), (63, 25, 12, 52, 4, 0, [(0, 21, 560), (0, 1, 29)]), (66, 2, 2, 5, 0, 0, []), (68, 27, 0, 2, 0, 0, []), (69, 17, 75, 0, 47, 0, []), (72, 19, 121, 0, 75, 0, []), (75, 4, 1, 0, 0, 0, []), (76, 2, 1, 1, 0, 0, []), (77, 2, 1, 2, 0, 0, []), (78, 2, 2, 5, 0, 0, []), (80, 40, 2, 4, 14, 0, []), (83, 2, 1, 3, 0, 0, []), (84, 17, 94, 1, 57, 0, []), (87, 4, 1, 0, 0, 0, []), (88, 40, 3, 1, 14, 0, []), (91, 17, 98, 0, 60, 0, []), (94, 49, 0, 0, 0, 0, []), (94, 0, 1, 0, 0, 1, []), (95, 19, 99, 0, 61, 0, []), (98, 0, 1, 0, 0, 0, []), (99, 49, 0, 0, 0, 0, []), (99, 5, 1, 3, 0, 0, []), (100, 2, 2, 4, 0, 0, []), (102, 17, 114, 1, 69, 0, []), (105, 4, 1, 0, 0, 0, []), (106, 25, 12, 87, 0, 0, []), (109, 0, 2, 0, 0, 8, []), (111, 18, 118, 5, 72, 0, []), (114, 49, 0, 0, 0, 0, []), (114, 0, 1, 0, 0, 1, []), (115, 19, 119, 0, 73, 0, []), (118, 0, 1, 0, 0, 0, []), (119, 49, 0, 0, 0, 0, []), (119, 5, 2, 4, 0, 0, []), (121, 49, 0, 0, 0, 0, []), (121, 8, 0, 5, 0, 1, []), (124, 19, 51, 0, 34, 0, []), (127, 2, 1, 3, 0, 0, []), (128, 17, 136, 1, 82, 0, []), (131, 2, 2, 4, 0, 0, []), (133, 17, 148, 0, 89, 0, []), (136, 49, 0, 0, 0, 0, []), (136, 2, 1, 3, 0, 0, []), (137, 17, 145, 0, 87, 0, []), (140, 0, 2, 0, 0, 6, []), (142, 19, 147, 0, 88, 0, []), (145, 0, 2, 0, 0, 7, []), (147, 41, 0, 0, 0, 0, []), (148, 0, 1, 0, 0, 0, []), (149, 5, 2, 5, 0, 0, []), (151, 49, 0, 0, 0, 0, []), (151, 2, 2, 5, 0, 0, []), (153, 4, 1, 0, 0, 0, []), (154, 25, 12, 50, 4, 0, [(0, 20, 7), (0, 1, 27)]), (157, 0, 1, 0, 0, 0, []), (158, 27, 0, 0, 0, 0, []), (159, 18, 195, 3, 115, 0, []), (162, 4, 1, 0, 0, 0, []), (163, 25, 12, 52, 4, 0, [(0, 21, 560), (0, 1, 29)]), (166, 2, 2, 5, 0, 0, []), (168, 27, 0, 2, 0, 0, []), (169, 17, 175, 0, 104, 0, []), (172, 19, 189, 0, 112, 0, []), (175, 4, 1, 0, 0, 0, []), (176, 2, 1, 1, 0, 0, []), (177, 2, 1, 2, 0, 0, []), (178, 2, 2, 5, 0, 0, []), (180, 40, 2, 4, 14, 0, []), (183, 4, 1, 0, 0, 0, []), (184, 2, 2, 5, 0, 0, []), (186, 40, 4, 2, 14, 0, []), (189, 49, 0, 0, 0, 0, []), (189, 8, 0, 5, 0, 1, []), (192, 19, 151, 0, 91, 0, []), (195, 4, 1, 0, 0, 0, []), (196, 25, 12, 23, 4, 0, [(0, 20, 152), (0, 1, 14)]), (199, 2, 1, 1, 0, 0, []), (200, 27, 0, 0, 0, 0, []), (201, 17, 208, 1, 122, 0, []), (204, 0, 1, 0, 0, 0, []), (205, 19, 219, 0, 129, 0, []), (208, 4, 1, 0, 0, 0, []), (209, 25, 12, 91, 4, 0, [(0, 20, 10), (0, 1, 64)]), (212, 4, 1, 0, 0, 0, []), (213, 25, 12, 24, 4, 0, [(0, 20, 152), (0, 1, 15)]), (216, 2, 1, 1, 0, 0, []), (217, 27, 0, 0, 0, 0, []), (218, 27, 0, 0, 0, 0, []), (219, 49, 0, 0, 0, 0, []), (219, 5, 2, 5, 0, 0, []), (221, 0, 1, 0, 0, 0, []), (222, 5, 2, 6, 0, 0, []), (224, 49, 0, 0, 0, 0, []), (224, 2, 2, 6, 0, 0, []), (226, 4, 1, 0, 0, 0, []), (227, 25, 12, 50, 4, 0, [(0, 20, 7), (0, 1, 27)]), (230, 0, 1, 0, 0, 2, []), (231, 27, 0, 0, 0, 0, []), (232, 18, 283, 3, 165, 0, []), (235, 4, 1, 0, 0, 0, []), (236, 25, 12, 56, 4, 0, [(0, 20, 560), (0, 1, 33)]), (239, 0, 1, 0, 0, 2, []), (240, 2, 2, 6, 0, 0, []), (242, 40, 0, 2, 0, 0, []), (245, 27, 0, 0, 0, 0, []), (246, 2, 1, 2, 0, 0, []), (247, 18, 277, 1, 162, 0, []), (250, 4, 1, 0, 0, 0, []), (251, 25, 12, 52, 4, 0, [(0, 21, 560), (0, 1, 29)]), (254, 0, 1, 0, 0, 2, []), (255, 2, 2, 6, 0, 0, []), (257, 40, 0, 2, 0, 0, []), (260, 27, 0, 2, 0, 0, []), (261, 17, 277, 1, 162, 0, []), (264, 4, 1, 0, 0, 0, []), (265, 25, 12, 56, 4, 0, [(0, 20, 560), (0, 1, 33)]), (268, 0, 1, 0, 0, 2, []), (269, 2, 2, 6, 0, 0, []), (271, 40, 0, 2, 0, 0, []), (274, 2, 2, 5, 0, 0, []), (276, 28, 0, 0, 0, 0, []), (277, 49, 0, 0, 0, 0, []), (277, 8, 0, 6, 0, 1, []), (280, 19, 224, 0, 133, 0, []), (283, 0, 1, 0, 0, 4, []), (284, 5, 2, 6, 0, 0, []), (286, 49, 0, 0, 0, 0, []), (286, 2, 2, 6, 0, 0, []), (288, 0, 2, 0, 0, 6, []), (290, 18, 349, 4, 200, 0, []), (293, 0, 1, 0, 0, 0, []), (294, 5, 2, 7, 0, 0, []), (296, 49, 0, 0, 0, 0, []), (296, 2, 2, 7, 0, 0, []), (298, 4, 1, 0, 0, 0, []), (299, 25, 12, 50, 4, 0, [(0, 20, 7), (0, 1, 27)]), (302, 2, 2, 6, 0, 0, []), (304, 27, 0, 0, 0, 0, []), (305, 18, 343, 3, 198, 0, []), (308, 4, 1, 0, 0, 0, []), (309, 25, 12, 56, 4, 0, [(0, 20, 560), (0, 1, 33)]), (312, 2, 2, 6, 0, 0, []), (314, 2, 2, 7, 0, 0, []), (316, 40, 0, 2, 0, 0, []), (319, 27, 0, 0, 0, 0, []), (320, 2, 1, 2, 0, 0, []), (321, 18, 337, 1, 195, 0, []), (324, 4, 1, 0, 0, 0, []), (325, 25, 12, 52, 4, 0, [(0, 21, 560), (0, 1, 29)]), (328, 2, 2, 6, 0, 0, []), (330, 2, 2, 7, 0, 0, []), (332, 40, 0, 2, 0, 0, []), (335, 0, 1, 0, 0, 1, []), (336, 29, 0, 0, 0, 0, []), (337, 49, 0, 0, 0, 0, []), (337, 8, 0, 7, 0, 1, []), (340, 19, 296, 0, 173, 0, []), (343, 8, 0, 6, 0, 1, []), (346, 19, 286, 0, 167, 0, []), (349, 4, 1, 0, 0, 0, []), (350, 25, 12, 52, 4, 0, [(0, 21, 560), (0, 1, 29)]), (353, 0, 1, 0, 0, 1, []), (354, 2, 1, 2, 0, 0, []), (355, 40, 0, 2, 0, 0, []), (358, 0, 1, 0, 0, 1, []), (359, 29, 0, 0, 0, 0, []), (360, 0, 1, 0, 0, 0, []), (361, 41, 0, 0, 0, 0, [])]
set_option maxRecDepth 20000 in
theorem qX12_deathf : f_all yX12_death YX12_death pX12_deathf :=
  ⟨f_aload_n (n := 0) (e_dx DX12_death_0 0 rfl) rfl,
  f_getA (e_dx DX12_death_0 1 rfl) fX12_202 rfl (by decide) (Nat.le_of_ble_eq_true rfl) rfl (by decide),
  f_iconst (e_dx DX12_death_0 2 rfl) ⟨by decide, by decide⟩,
  f_iaload (e_dx DX12_death_0 3 rfl),
  f_istore_n (n := 2) (e_dx DX12_death_0 4 rfl) rfl (by decide),
  f_aload_n (n := 0) (e_dx DX12_death_0 5 rfl) rfl,
  f_getA (e_dx DX12_death_0 6 rfl) fX12_115 rfl (by decide) (Nat.le_of_ble_eq_true rfl) rfl (by decide),
  f_iconst (e_dx DX12_death_0 7 rfl) ⟨by decide, by decide⟩,
  f_iload_n (n := 2) (e_dx DX12_death_0 8 rfl) rfl,
  x_callS (e_dx DX12_death_0 9 rfl) mwX12_id cX12_540 swX12_id rfl,
  f_iaload (e_dx DX12_death_0 10 rfl),
  f_if_eq (e_dx DX12_death_0 11 rfl) rfl,
  f_iconst (e_dx DX12_death_0 12 rfl) ⟨by decide, by decide⟩,
  ⟨(e_dx DX12_death_0 13 rfl), rfl⟩,
  f_aload_n (n := 0) (e_dx DX12_death_0 14 rfl) rfl,
  f_getA (e_dx DX12_death_0 15 rfl) fX12_51 rfl (by decide) (Nat.le_of_ble_eq_true rfl) rfl (by decide),
  f_iload_n (n := 1) (e_dx DX12_death_0 16 rfl) rfl,
  f_iaload (e_dx DX12_death_0 17 rfl),
  f_if_le (e_dx DX12_death_0 18 rfl) rfl,
  f_aload_n (n := 0) (e_dx DX12_death_0 19 rfl) rfl,
  f_iload_n (n := 1) (e_dx DX12_death_0 20 rfl) rfl,
  f_iload_n (n := 2) (e_dx DX12_death_0 21 rfl) rfl,
  x_callV (e_dx DX12_death_0 22 rfl) mwX12_areParts vwX12_areParts cX12_682 rfl,
  f_if_ne (e_dx DX12_death_0 23 rfl) rfl,
  f_bipush (e_dx DX12_death_0 24 rfl) ⟨by decide, by decide⟩,
  ⟨(e_dx DX12_death_0 25 rfl), rfl⟩,
  trivial,
  f_iconst (e_dx DX12_death_0 26 rfl) ⟨by decide, by decide⟩,
  f_istore_n (n := 3) (e_dx DX12_death_0 27 rfl) rfl (by decide),
  f_iconst (e_dx DX12_death_0 28 rfl) ⟨by decide, by decide⟩,
  f_istore (e_dx DX12_death_0 29 rfl) (by decide),
  f_iconst (e_dx DX12_death_0 30 rfl) ⟨by decide, by decide⟩,
  f_istore (e_dx DX12_death_0 31 rfl) (by decide),
  trivial,
  f_iload (e_dx DX12_death_0 32 rfl),
  f_aload_n (n := 0) (e_dx DX12_death_0 33 rfl) rfl,
  f_getA (e_dx DX12_death_0 34 rfl) fX12_91 rfl (by decide) (Nat.le_of_ble_eq_true rfl) rfl (by decide),
  f_iconst (e_dx DX12_death_0 35 rfl) ⟨by decide, by decide⟩,
  f_iaload (e_dx DX12_death_0 36 rfl),
  f_icmp_ge (e_dx DX12_death_0 37 rfl) rfl,
  f_aload_n (n := 0) (e_dx DX12_death_0 38 rfl) rfl,
  f_getA (e_dx DX12_death_0 39 rfl) fX12_97 rfl (by decide) (Nat.le_of_ble_eq_true rfl) rfl (by decide),
  f_iload (e_dx DX12_death_1 0 rfl),
  f_baload (e_dx DX12_death_1 1 rfl),
  f_if_eq (e_dx DX12_death_1 2 rfl) rfl,
  f_g19 (e_dx DX12_death_1 3 rfl) rfl,
  f_aload_n (n := 0) (e_dx DX12_death_1 4 rfl) rfl,
  f_iload_n (n := 1) (e_dx DX12_death_1 5 rfl) rfl,
  f_iload_n (n := 2) (e_dx DX12_death_1 6 rfl) rfl,
  f_iload (e_dx DX12_death_1 7 rfl),
  x_callV (e_dx DX12_death_1 8 rfl) mwX12_inherits vwX12_inherits cX12_685 rfl,
  f_iload_n (n := 3) (e_dx DX12_death_1 9 rfl) rfl,
  f_if_ne (e_dx DX12_death_1 10 rfl) rfl,
  f_aload_n (n := 0) (e_dx DX12_death_1 11 rfl) rfl,
  x_callV (e_dx DX12_death_1 12 rfl) mwX12_isGreat vwX12_isGreat cX12_689 rfl,
  f_if_eq (e_dx DX12_death_1 13 rfl) rfl,
  trivial,
  f_iconst (e_dx DX12_death_1 14 rfl) ⟨by decide, by decide⟩,
  f_g19 (e_dx DX12_death_1 15 rfl) rfl,
  f_iconst (e_dx DX12_death_1 16 rfl) ⟨by decide, by decide⟩,
  trivial,
  f_istore_n (n := 3) (e_dx DX12_death_1 17 rfl) rfl (by decide),
  f_iload (e_dx DX12_death_1 18 rfl),
  f_if_ne (e_dx DX12_death_1 19 rfl) rfl,
  f_aload_n (n := 0) (e_dx DX12_death_1 20 rfl) rfl,
  f_getf (e_dx DX12_death_1 21 rfl) fX12_555 rfl (by decide) (by decide) (by decide),
  f_bipush (e_dx DX12_death_1 22 rfl) ⟨by decide, by decide⟩,
  f_icmp_le (e_dx DX12_death_1 23 rfl) rfl,
  trivial,
  f_iconst (e_dx DX12_death_1 24 rfl) ⟨by decide, by decide⟩,
  f_g19 (e_dx DX12_death_1 25 rfl) rfl,
  f_iconst (e_dx DX12_death_1 26 rfl) ⟨by decide, by decide⟩,
  trivial,
  f_istore (e_dx DX12_death_1 27 rfl) (by decide),
  trivial,
  f_g8 (e_dx DX12_death_1 28 rfl) ⟨by decide, by decide⟩,
  f_g19 (e_dx DX12_death_1 29 rfl) rfl,
  f_iload_n (n := 3) (e_dx DX12_death_1 30 rfl) rfl,
  f_if_ne (e_dx DX12_death_1 31 rfl) rfl,
  f_iload (e_dx DX12_death_1 32 rfl),
  f_if_eq (e_dx DX12_death_1 33 rfl) rfl,
  trivial,
  f_iload_n (n := 3) (e_dx DX12_death_1 34 rfl) rfl,
  f_if_eq (e_dx DX12_death_1 35 rfl) rfl,
  f_bipush (e_dx DX12_death_1 36 rfl) ⟨by decide, by decide⟩,
  f_g19 (e_dx DX12_death_1 37 rfl) rfl,
  f_bipush (e_dx DX12_death_1 38 rfl) ⟨by decide, by decide⟩,
  ⟨(e_dx DX12_death_1 39 rfl), rfl⟩,
  f_iconst (e_dx DX12_death_2 0 rfl) ⟨by decide, by decide⟩,
  f_istore (e_dx DX12_death_2 1 rfl) (by decide),
  trivial,
  f_iload (e_dx DX12_death_2 2 rfl),
  f_aload_n (n := 0) (e_dx DX12_death_2 3 rfl) rfl,
  f_getA (e_dx DX12_death_2 4 rfl) fX12_91 rfl (by decide) (Nat.le_of_ble_eq_true rfl) rfl (by decide),
  f_iconst (e_dx DX12_death_2 5 rfl) ⟨by decide, by decide⟩,
  f_iaload (e_dx DX12_death_2 6 rfl),
  f_icmp_ge (e_dx DX12_death_2 7 rfl) rfl,
  f_aload_n (n := 0) (e_dx DX12_death_2 8 rfl) rfl,
  f_getA (e_dx DX12_death_2 9 rfl) fX12_97 rfl (by decide) (Nat.le_of_ble_eq_true rfl) rfl (by decide),
  f_iload (e_dx DX12_death_2 10 rfl),
  f_baload (e_dx DX12_death_2 11 rfl),
  f_if_eq (e_dx DX12_death_2 12 rfl) rfl,
  f_g19 (e_dx DX12_death_2 13 rfl) rfl,
  f_aload_n (n := 0) (e_dx DX12_death_2 14 rfl) rfl,
  f_iload_n (n := 1) (e_dx DX12_death_2 15 rfl) rfl,
  f_iload_n (n := 2) (e_dx DX12_death_2 16 rfl) rfl,
  f_iload (e_dx DX12_death_2 17 rfl),
  x_callV (e_dx DX12_death_2 18 rfl) mwX12_inherits vwX12_inherits cX12_685 rfl,
  f_aload_n (n := 0) (e_dx DX12_death_2 19 rfl) rfl,
  f_iload (e_dx DX12_death_2 20 rfl),
  x_callV (e_dx DX12_death_2 21 rfl) mwX12_keeps vwX12_keeps cX12_692 rfl,
  trivial,
  f_g8 (e_dx DX12_death_2 22 rfl) ⟨by decide, by decide⟩,
  f_g19 (e_dx DX12_death_2 23 rfl) rfl,
  f_aload_n (n := 0) (e_dx DX12_death_2 24 rfl) rfl,
  f_getA (e_dx DX12_death_2 25 rfl) fX12_51 rfl (by decide) (Nat.le_of_ble_eq_true rfl) rfl (by decide),
  f_iload_n (n := 1) (e_dx DX12_death_2 26 rfl) rfl,
  f_iaload (e_dx DX12_death_2 27 rfl),
  f_if_ne (e_dx DX12_death_2 28 rfl) rfl,
  f_iconst (e_dx DX12_death_2 29 rfl) ⟨by decide, by decide⟩,
  f_g19 (e_dx DX12_death_2 30 rfl) rfl,
  f_aload_n (n := 0) (e_dx DX12_death_2 31 rfl) rfl,
  f_getA (e_dx DX12_death_2 32 rfl) fX12_202 rfl (by decide) (Nat.le_of_ble_eq_true rfl) rfl (by decide),
  f_aload_n (n := 0) (e_dx DX12_death_2 33 rfl) rfl,
  f_getA (e_dx DX12_death_2 34 rfl) fX12_54 rfl (by decide) (Nat.le_of_ble_eq_true rfl) rfl (by decide),
  f_iload_n (n := 1) (e_dx DX12_death_2 35 rfl) rfl,
  f_iaload (e_dx DX12_death_2 36 rfl),
  f_iaload (e_dx DX12_death_2 37 rfl),
  trivial,
  f_istore (e_dx DX12_death_2 38 rfl) (by decide),
  f_iconst (e_dx DX12_death_2 39 rfl) ⟨by decide, by decide⟩,
  f_istore (e_dx DX12_death_3 0 rfl) (by decide),
  trivial,
  f_iload (e_dx DX12_death_3 1 rfl),
  f_aload_n (n := 0) (e_dx DX12_death_3 2 rfl) rfl,
  f_getA (e_dx DX12_death_3 3 rfl) fX12_91 rfl (by decide) (Nat.le_of_ble_eq_true rfl) rfl (by decide),
  f_iconst (e_dx DX12_death_3 4 rfl) ⟨by decide, by decide⟩,
  f_iaload (e_dx DX12_death_3 5 rfl),
  f_icmp_ge (e_dx DX12_death_3 6 rfl) rfl,
  f_aload_n (n := 0) (e_dx DX12_death_3 7 rfl) rfl,
  f_getA (e_dx DX12_death_3 8 rfl) fX12_109 rfl (by decide) (Nat.le_of_ble_eq_true rfl) rfl (by decide),
  f_iconst (e_dx DX12_death_3 9 rfl) ⟨by decide, by decide⟩,
  f_iload (e_dx DX12_death_3 10 rfl),
  x_callS (e_dx DX12_death_3 11 rfl) mwX12_id cX12_540 swX12_id rfl,
  f_iaload (e_dx DX12_death_3 12 rfl),
  f_iload_n (n := 2) (e_dx DX12_death_3 13 rfl) rfl,
  f_icmp_ne (e_dx DX12_death_3 14 rfl) rfl,
  f_aload_n (n := 0) (e_dx DX12_death_3 15 rfl) rfl,
  f_getA (e_dx DX12_death_3 16 rfl) fX12_97 rfl (by decide) (Nat.le_of_ble_eq_true rfl) rfl (by decide),
  f_iconst (e_dx DX12_death_3 17 rfl) ⟨by decide, by decide⟩,
  f_iload (e_dx DX12_death_3 18 rfl),
  x_callS (e_dx DX12_death_3 19 rfl) mwX12_id cX12_540 swX12_id rfl,
  f_baload (e_dx DX12_death_3 20 rfl),
  f_if_ne (e_dx DX12_death_3 21 rfl) rfl,
  f_aload_n (n := 0) (e_dx DX12_death_3 22 rfl) rfl,
  f_getA (e_dx DX12_death_3 23 rfl) fX12_109 rfl (by decide) (Nat.le_of_ble_eq_true rfl) rfl (by decide),
  f_iconst (e_dx DX12_death_3 24 rfl) ⟨by decide, by decide⟩,
  f_iload (e_dx DX12_death_3 25 rfl),
  x_callS (e_dx DX12_death_3 26 rfl) mwX12_id cX12_540 swX12_id rfl,
  f_iload (e_dx DX12_death_3 27 rfl),
  f_iastore (e_dx DX12_death_3 28 rfl),
  trivial,
  f_g8 (e_dx DX12_death_3 29 rfl) ⟨by decide, by decide⟩,
  f_g19 (e_dx DX12_death_3 30 rfl) rfl,
  f_iconst (e_dx DX12_death_3 31 rfl) ⟨by decide, by decide⟩,
  f_istore (e_dx DX12_death_3 32 rfl) (by decide),
  trivial,
  f_iload (e_dx DX12_death_3 33 rfl),
  f_bipush (e_dx DX12_death_3 34 rfl) ⟨by decide, by decide⟩,
  f_icmp_gt (e_dx DX12_death_3 35 rfl) rfl,
  f_iconst (e_dx DX12_death_3 36 rfl) ⟨by decide, by decide⟩,
  f_istore (e_dx DX12_death_3 37 rfl) (by decide),
  trivial,
  f_iload (e_dx DX12_death_3 38 rfl),
  f_aload_n (n := 0) (e_dx DX12_death_3 39 rfl) rfl,
  f_getA (e_dx DX12_death_4 0 rfl) fX12_91 rfl (by decide) (Nat.le_of_ble_eq_true rfl) rfl (by decide),
  f_iload (e_dx DX12_death_4 1 rfl),
  f_iaload (e_dx DX12_death_4 2 rfl),
  f_icmp_ge (e_dx DX12_death_4 3 rfl) rfl,
  f_aload_n (n := 0) (e_dx DX12_death_4 4 rfl) rfl,
  f_getA (e_dx DX12_death_4 5 rfl) fX12_109 rfl (by decide) (Nat.le_of_ble_eq_true rfl) rfl (by decide),
  f_iload (e_dx DX12_death_4 6 rfl),
  f_iload (e_dx DX12_death_4 7 rfl),
  x_callS (e_dx DX12_death_4 8 rfl) mwX12_id cX12_540 swX12_id rfl,
  f_iaload (e_dx DX12_death_4 9 rfl),
  f_iload_n (n := 2) (e_dx DX12_death_4 10 rfl) rfl,
  f_icmp_ne (e_dx DX12_death_4 11 rfl) rfl,
  f_aload_n (n := 0) (e_dx DX12_death_4 12 rfl) rfl,
  f_getA (e_dx DX12_death_4 13 rfl) fX12_97 rfl (by decide) (Nat.le_of_ble_eq_true rfl) rfl (by decide),
  f_iload (e_dx DX12_death_4 14 rfl),
  f_iload (e_dx DX12_death_4 15 rfl),
  x_callS (e_dx DX12_death_4 16 rfl) mwX12_id cX12_540 swX12_id rfl,
  f_iconst (e_dx DX12_death_4 17 rfl) ⟨by decide, by decide⟩,
  f_g29 (e_dx DX12_death_4 18 rfl),
  trivial,
  f_g8 (e_dx DX12_death_4 19 rfl) ⟨by decide, by decide⟩,
  f_g19 (e_dx DX12_death_4 20 rfl) rfl,
  f_g8 (e_dx DX12_death_4 21 rfl) ⟨by decide, by decide⟩,
  f_g19 (e_dx DX12_death_4 22 rfl) rfl,
  f_aload_n (n := 0) (e_dx DX12_death_4 23 rfl) rfl,
  f_getA (e_dx DX12_death_4 24 rfl) fX12_97 rfl (by decide) (Nat.le_of_ble_eq_true rfl) rfl (by decide),
  f_iconst (e_dx DX12_death_4 25 rfl) ⟨by decide, by decide⟩,
  f_iload_n (n := 2) (e_dx DX12_death_4 26 rfl) rfl,
  x_callS (e_dx DX12_death_4 27 rfl) mwX12_id cX12_540 swX12_id rfl,
  f_iconst (e_dx DX12_death_4 28 rfl) ⟨by decide, by decide⟩,
  f_g29 (e_dx DX12_death_4 29 rfl),
  f_iconst (e_dx DX12_death_4 30 rfl) ⟨by decide, by decide⟩,
  ⟨(e_dx DX12_death_4 31 rfl), rfl⟩, trivial⟩
def lX12_death (c_X12_id : Int → Int → e_M → (Int → Prop) → Prop) (c_X12_areParts : Int → Int → e_M → (Int → e_M → Prop) → Prop) (c_X12_inherits : Int → Int → Int → e_M → (e_M → Prop) → Prop) (c_X12_isGreat : e_M → (Int → Prop) → Prop) (c_X12_keeps : Int → e_M → (e_M → Prop) → Prop) : List (Nat × f_Wt) := [(0, f_wm [(1, 0, 0), (1, 0, 0)] (fun ar M R => c_X12_id (f_vi (f_nth ar 0)) (f_vi (f_nth ar 1)) M (fun r => R (some (.inl r)) M))), (1, f_wm [(4466, 12, 123), (1, 0, 0), (1, 0, 0)] (fun ar M R => c_X12_areParts (f_vi (f_nth ar 1)) (f_vi (f_nth ar 2)) M (fun r M => R (some (.inl r)) M))), (2, f_wm [(4466, 12, 123), (1, 0, 0), (1, 0, 0), (1, 0, 0)] (fun ar M R => c_X12_inherits (f_vi (f_nth ar 1)) (f_vi (f_nth ar 2)) (f_vi (f_nth ar 3)) M (fun M => R none M))), (3, f_wm [(4466, 12, 123)] (fun ar M R => c_X12_isGreat  M (fun r => R (some (.inl r)) M))), (4, f_wm [(4466, 12, 123), (1, 0, 0)] (fun ar M R => c_X12_keeps (f_vi (f_nth ar 1)) M (fun M => R none M)))]
set_option maxRecDepth 20000 in
theorem BX12_death_43 {sh : Nat → Nat × Nat} {t : Nat} {rm : Nat × Nat × Nat} {cs : Nat × Nat} {R : f_Rt} {c_X12_id : Int → Int → e_M → (Int → Prop) → Prop} {c_X12_areParts : Int → Int → e_M → (Int → e_M → Prop) → Prop} {c_X12_inherits : Int → Int → Int → e_M → (e_M → Prop) → Prop} {c_X12_isGreat : e_M → (Int → Prop) → Prop} {c_X12_keeps : Int → e_M → (e_M → Prop) → Prop} {k51 : Int → Int → Int → Int → Int → e_M → Prop} {x1 : Int} {x2 : Int} {M : e_M} (C : f_Hy sh t yX12_death rm cs 10 (lX12_death c_X12_id c_X12_areParts c_X12_inherits c_X12_isGreat c_X12_keeps) R) (h51 : ∀ (x1 : Int) (x2 : Int) (x3 : Int) (x4 : Int) (x5 : Int) (M : e_M), k51 x1 x2 x3 x4 x5 M → f_E sh t YX12_death rm cs (f_Q sh t R) 51 [.inr (.inr (.inl (12, 123, 4456))), .inl x1, .inl x2, .inl x3, .inl x4, .inl x5, .inr (.inr (.inr ())), .inr (.inr (.inr ()))] [] M) (h : VX12_death_43 c_X12_id c_X12_areParts c_X12_inherits c_X12_isGreat c_X12_keeps k51 (fun r M => R (some (.inl r)) M) x1 x2 M) : f_E sh t YX12_death rm cs (f_Q sh t R) 43 [.inr (.inr (.inl (12, 123, 4456))), .inl x1, .inl x2, .inr (.inr (.inr ())), .inr (.inr (.inr ())), .inr (.inr (.inr ())), .inr (.inr (.inr ())), .inr (.inr (.inr ()))] [] M :=
  f_go (KC := f_kc [(51, f_pl [(4466, 12, 123), (1, 0, 0), (1, 0, 0), (1, 0, 0), (1, 0, 0), (1, 0, 0), (0, 0, 0), (0, 0, 0)] [] (fun ls st M => k51 (f_vi (f_nth ls 1)) (f_vi (f_nth ls 2)) (f_vi (f_nth ls 3)) (f_vi (f_nth ls 4)) (f_vi (f_nth ls 5)) M))]) C qX12_deathf (f_kc_cons (f_pl_ok rfl (fun ls st M h => h51 _ _ _ _ _ M h)) f_kc_nil) 210 27 h
set_option maxRecDepth 20000 in
theorem BX12_death_51 {sh : Nat → Nat × Nat} {t : Nat} {rm : Nat × Nat × Nat} {cs : Nat × Nat} {R : f_Rt} {c_X12_id : Int → Int → e_M → (Int → Prop) → Prop} {c_X12_areParts : Int → Int → e_M → (Int → e_M → Prop) → Prop} {c_X12_inherits : Int → Int → Int → e_M → (e_M → Prop) → Prop} {c_X12_isGreat : e_M → (Int → Prop) → Prop} {c_X12_keeps : Int → e_M → (e_M → Prop) → Prop} {k136 : Int → e_M → Prop} {k151 : Int → Int → Int → e_M → Prop} {k94 : Int → Int → Int → Int → e_M → Prop} {k99 : Int → Int → Int → Int → Int → e_M → Prop} {k121 : Int → Int → Int → Int → Int → e_M → Prop} {x1 : Int} {x2 : Int} {x3 : Int} {x4 : Int} {x5 : Int} {M : e_M} (C : f_Hy sh t yX12_death rm cs 10 (lX12_death c_X12_id c_X12_areParts c_X12_inherits c_X12_isGreat c_X12_keeps) R) (h136 : ∀ (x3 : Int) (M : e_M), k136 x3 M → f_E sh t YX12_death rm cs (f_Q sh t R) 136 [.inr (.inr (.inr ())), .inr (.inr (.inr ())), .inr (.inr (.inr ())), .inl x3, .inr (.inr (.inr ())), .inr (.inr (.inr ())), .inr (.inr (.inr ())), .inr (.inr (.inr ()))] [] M) (h151 : ∀ (x1 : Int) (x2 : Int) (x5 : Int) (M : e_M), k151 x1 x2 x5 M → f_E sh t YX12_death rm cs (f_Q sh t R) 151 [.inr (.inr (.inl (12, 123, 4456))), .inl x1, .inl x2, .inr (.inr (.inr ())), .inr (.inr (.inr ())), .inl x5, .inr (.inr (.inr ())), .inr (.inr (.inr ()))] [] M) (h94 : ∀ (x1 : Int) (x2 : Int) (x4 : Int) (x5 : Int) (M : e_M), k94 x1 x2 x4 x5 M → f_E sh t YX12_death rm cs (f_Q sh t R) 94 [.inr (.inr (.inl (12, 123, 4456))), .inl x1, .inl x2, .inr (.inr (.inr ())), .inl x4, .inl x5, .inr (.inr (.inr ())), .inr (.inr (.inr ()))] [] M) (h99 : ∀ (x1 : Int) (x2 : Int) (x4 : Int) (x5 : Int) (xs0 : Int) (M : e_M), k99 x1 x2 x4 x5 xs0 M → f_E sh t YX12_death rm cs (f_Q sh t R) 99 [.inr (.inr (.inl (12, 123, 4456))), .inl x1, .inl x2, .inr (.inr (.inr ())), .inl x4, .inl x5, .inr (.inr (.inr ())), .inr (.inr (.inr ()))] [.inl xs0] M) (h121 : ∀ (x1 : Int) (x2 : Int) (x3 : Int) (x4 : Int) (x5 : Int) (M : e_M), k121 x1 x2 x3 x4 x5 M → f_E sh t YX12_death rm cs (f_Q sh t R) 121 [.inr (.inr (.inl (12, 123, 4456))), .inl x1, .inl x2, .inl x3, .inl x4, .inl x5, .inr (.inr (.inr ())), .inr (.inr (.inr ()))] [] M) (h : VX12_death_51 c_X12_id c_X12_areParts c_X12_inherits c_X12_isGreat c_X12_keeps k136 k151 k94 k99 k121 (fun r M => R (some (.inl r)) M) x1 x2 x3 x4 x5 M) : f_E sh t YX12_death rm cs (f_Q sh t R) 51 [.inr (.inr (.inl (12, 123, 4456))), .inl x1, .inl x2, .inl x3, .inl x4, .inl x5, .inr (.inr (.inr ())), .inr (.inr (.inr ()))] [] M :=
  f_go (KC := f_kc [(136, f_pl [(0, 0, 0), (0, 0, 0), (0, 0, 0), (1, 0, 0), (0, 0, 0), (0, 0, 0), (0, 0, 0), (0, 0, 0)] [] (fun ls st M => k136 (f_vi (f_nth ls 3)) M)), (151, f_pl [(4466, 12, 123), (1, 0, 0), (1, 0, 0), (0, 0, 0), (0, 0, 0), (1, 0, 0), (0, 0, 0), (0, 0, 0)] [] (fun ls st M => k151 (f_vi (f_nth ls 1)) (f_vi (f_nth ls 2)) (f_vi (f_nth ls 5)) M)), (94, f_pl [(4466, 12, 123), (1, 0, 0), (1, 0, 0), (0, 0, 0), (1, 0, 0), (1, 0, 0), (0, 0, 0), (0, 0, 0)] [] (fun ls st M => k94 (f_vi (f_nth ls 1)) (f_vi (f_nth ls 2)) (f_vi (f_nth ls 4)) (f_vi (f_nth ls 5)) M)), (99, f_pl [(4466, 12, 123), (1, 0, 0), (1, 0, 0), (0, 0, 0), (1, 0, 0), (1, 0, 0), (0, 0, 0), (0, 0, 0)] [(1, 0, 0)] (fun ls st M => k99 (f_vi (f_nth ls 1)) (f_vi (f_nth ls 2)) (f_vi (f_nth ls 4)) (f_vi (f_nth ls 5)) (f_vi (f_nth st 0)) M)), (121, f_pl [(4466, 12, 123), (1, 0, 0), (1, 0, 0), (1, 0, 0), (1, 0, 0), (1, 0, 0), (0, 0, 0), (0, 0, 0)] [] (fun ls st M => k121 (f_vi (f_nth ls 1)) (f_vi (f_nth ls 2)) (f_vi (f_nth ls 3)) (f_vi (f_nth ls 4)) (f_vi (f_nth ls 5)) M))]) C qX12_deathf (f_kc_cons (f_pl_ok rfl (fun ls st M h => h136 _ M h)) (f_kc_cons (f_pl_ok rfl (fun ls st M h => h151 _ _ _ M h)) (f_kc_cons (f_pl_ok rfl (fun ls st M h => h94 _ _ _ _ M h)) (f_kc_cons (f_pl_ok rfl (fun ls st M h => h99 _ _ _ _ _ M h)) (f_kc_cons (f_pl_ok rfl (fun ls st M h => h121 _ _ _ _ _ M h)) f_kc_nil))))) 210 34 h
set_option maxRecDepth 20000 in
theorem BX12_death_94 {sh : Nat → Nat × Nat} {t : Nat} {rm : Nat × Nat × Nat} {cs : Nat × Nat} {R : f_Rt} {c_X12_id : Int → Int → e_M → (Int → Prop) → Prop} {c_X12_areParts : Int → Int → e_M → (Int → e_M → Prop) → Prop} {c_X12_inherits : Int → Int → Int → e_M → (e_M → Prop) → Prop} {c_X12_isGreat : e_M → (Int → Prop) → Prop} {c_X12_keeps : Int → e_M → (e_M → Prop) → Prop} {k99 : Int → Int → Int → Int → Int → e_M → Prop} {x1 : Int} {x2 : Int} {x4 : Int} {x5 : Int} {M : e_M} (C : f_Hy sh t yX12_death rm cs 10 (lX12_death c_X12_id c_X12_areParts c_X12_inherits c_X12_isGreat c_X12_keeps) R) (h99 : ∀ (x1 : Int) (x2 : Int) (x4 : Int) (x5 : Int) (xs0 : Int) (M : e_M), k99 x1 x2 x4 x5 xs0 M → f_E sh t YX12_death rm cs (f_Q sh t R) 99 [.inr (.inr (.inl (12, 123, 4456))), .inl x1, .inl x2, .inr (.inr (.inr ())), .inl x4, .inl x5, .inr (.inr (.inr ())), .inr (.inr (.inr ()))] [.inl xs0] M) (h : VX12_death_94 c_X12_id c_X12_areParts c_X12_inherits c_X12_isGreat c_X12_keeps k99 (fun r M => R (some (.inl r)) M) x1 x2 x4 x5 M) : f_E sh t YX12_death rm cs (f_Q sh t R) 94 [.inr (.inr (.inl (12, 123, 4456))), .inl x1, .inl x2, .inr (.inr (.inr ())), .inl x4, .inl x5, .inr (.inr (.inr ())), .inr (.inr (.inr ()))] [] M :=
  f_go (KC := f_kc [(99, f_pl [(4466, 12, 123), (1, 0, 0), (1, 0, 0), (0, 0, 0), (1, 0, 0), (1, 0, 0), (0, 0, 0), (0, 0, 0)] [(1, 0, 0)] (fun ls st M => k99 (f_vi (f_nth ls 1)) (f_vi (f_nth ls 2)) (f_vi (f_nth ls 4)) (f_vi (f_nth ls 5)) (f_vi (f_nth st 0)) M))]) C qX12_deathf (f_kc_cons (f_pl_ok rfl (fun ls st M h => h99 _ _ _ _ _ M h)) f_kc_nil) 210 57 h
set_option maxRecDepth 20000 in
theorem BX12_death_99 {sh : Nat → Nat × Nat} {t : Nat} {rm : Nat × Nat × Nat} {cs : Nat × Nat} {R : f_Rt} {c_X12_id : Int → Int → e_M → (Int → Prop) → Prop} {c_X12_areParts : Int → Int → e_M → (Int → e_M → Prop) → Prop} {c_X12_inherits : Int → Int → Int → e_M → (e_M → Prop) → Prop} {c_X12_isGreat : e_M → (Int → Prop) → Prop} {c_X12_keeps : Int → e_M → (e_M → Prop) → Prop} {k114 : Int → Int → Int → Int → e_M → Prop} {k119 : Int → Int → Int → Int → Int → e_M → Prop} {x1 : Int} {x2 : Int} {x4 : Int} {x5 : Int} {xs0 : Int} {M : e_M} (C : f_Hy sh t yX12_death rm cs 10 (lX12_death c_X12_id c_X12_areParts c_X12_inherits c_X12_isGreat c_X12_keeps) R) (h114 : ∀ (x1 : Int) (x2 : Int) (x3 : Int) (x5 : Int) (M : e_M), k114 x1 x2 x3 x5 M → f_E sh t YX12_death rm cs (f_Q sh t R) 114 [.inr (.inr (.inl (12, 123, 4456))), .inl x1, .inl x2, .inl x3, .inr (.inr (.inr ())), .inl x5, .inr (.inr (.inr ())), .inr (.inr (.inr ()))] [] M) (h119 : ∀ (x1 : Int) (x2 : Int) (x3 : Int) (x5 : Int) (xs0 : Int) (M : e_M), k119 x1 x2 x3 x5 xs0 M → f_E sh t YX12_death rm cs (f_Q sh t R) 119 [.inr (.inr (.inl (12, 123, 4456))), .inl x1, .inl x2, .inl x3, .inr (.inr (.inr ())), .inl x5, .inr (.inr (.inr ())), .inr (.inr (.inr ()))] [.inl xs0] M) (h : VX12_death_99 c_X12_id c_X12_areParts c_X12_inherits c_X12_isGreat c_X12_keeps k114 k119 (fun r M => R (some (.inl r)) M) x1 x2 x4 x5 xs0 M) : f_E sh t YX12_death rm cs (f_Q sh t R) 99 [.inr (.inr (.inl (12, 123, 4456))), .inl x1, .inl x2, .inr (.inr (.inr ())), .inl x4, .inl x5, .inr (.inr (.inr ())), .inr (.inr (.inr ()))] [.inl xs0] M :=
  f_go (KC := f_kc [(114, f_pl [(4466, 12, 123), (1, 0, 0), (1, 0, 0), (1, 0, 0), (0, 0, 0), (1, 0, 0), (0, 0, 0), (0, 0, 0)] [] (fun ls st M => k114 (f_vi (f_nth ls 1)) (f_vi (f_nth ls 2)) (f_vi (f_nth ls 3)) (f_vi (f_nth ls 5)) M)), (119, f_pl [(4466, 12, 123), (1, 0, 0), (1, 0, 0), (1, 0, 0), (0, 0, 0), (1, 0, 0), (0, 0, 0), (0, 0, 0)] [(1, 0, 0)] (fun ls st M => k119 (f_vi (f_nth ls 1)) (f_vi (f_nth ls 2)) (f_vi (f_nth ls 3)) (f_vi (f_nth ls 5)) (f_vi (f_nth st 0)) M))]) C qX12_deathf (f_kc_cons (f_pl_ok rfl (fun ls st M h => h114 _ _ _ _ M h)) (f_kc_cons (f_pl_ok rfl (fun ls st M h => h119 _ _ _ _ _ M h)) f_kc_nil)) 210 61 h
set_option maxRecDepth 20000 in
theorem BX12_death_114 {sh : Nat → Nat × Nat} {t : Nat} {rm : Nat × Nat × Nat} {cs : Nat × Nat} {R : f_Rt} {c_X12_id : Int → Int → e_M → (Int → Prop) → Prop} {c_X12_areParts : Int → Int → e_M → (Int → e_M → Prop) → Prop} {c_X12_inherits : Int → Int → Int → e_M → (e_M → Prop) → Prop} {c_X12_isGreat : e_M → (Int → Prop) → Prop} {c_X12_keeps : Int → e_M → (e_M → Prop) → Prop} {k119 : Int → Int → Int → Int → Int → e_M → Prop} {x1 : Int} {x2 : Int} {x3 : Int} {x5 : Int} {M : e_M} (C : f_Hy sh t yX12_death rm cs 10 (lX12_death c_X12_id c_X12_areParts c_X12_inherits c_X12_isGreat c_X12_keeps) R) (h119 : ∀ (x1 : Int) (x2 : Int) (x3 : Int) (x5 : Int) (xs0 : Int) (M : e_M), k119 x1 x2 x3 x5 xs0 M → f_E sh t YX12_death rm cs (f_Q sh t R) 119 [.inr (.inr (.inl (12, 123, 4456))), .inl x1, .inl x2, .inl x3, .inr (.inr (.inr ())), .inl x5, .inr (.inr (.inr ())), .inr (.inr (.inr ()))] [.inl xs0] M) (h : VX12_death_114 c_X12_id c_X12_areParts c_X12_inherits c_X12_isGreat c_X12_keeps k119 (fun r M => R (some (.inl r)) M) x1 x2 x3 x5 M) : f_E sh t YX12_death rm cs (f_Q sh t R) 114 [.inr (.inr (.inl (12, 123, 4456))), .inl x1, .inl x2, .inl x3, .inr (.inr (.inr ())), .inl x5, .inr (.inr (.inr ())), .inr (.inr (.inr ()))] [] M :=
  f_go (KC := f_kc [(119, f_pl [(4466, 12, 123), (1, 0, 0), (1, 0, 0), (1, 0, 0), (0, 0, 0), (1, 0, 0), (0, 0, 0), (0, 0, 0)] [(1, 0, 0)] (fun ls st M => k119 (f_vi (f_nth ls 1)) (f_vi (f_nth ls 2)) (f_vi (f_nth ls 3)) (f_vi (f_nth ls 5)) (f_vi (f_nth st 0)) M))]) C qX12_deathf (f_kc_cons (f_pl_ok rfl (fun ls st M h => h119 _ _ _ _ _ M h)) f_kc_nil) 210 69 h
set_option maxRecDepth 20000 in
theorem BX12_death_119 {sh : Nat → Nat × Nat} {t : Nat} {rm : Nat × Nat × Nat} {cs : Nat × Nat} {R : f_Rt} {c_X12_id : Int → Int → e_M → (Int → Prop) → Prop} {c_X12_areParts : Int → Int → e_M → (Int → e_M → Prop) → Prop} {c_X12_inherits : Int → Int → Int → e_M → (e_M → Prop) → Prop} {c_X12_isGreat : e_M → (Int → Prop) → Prop} {c_X12_keeps : Int → e_M → (e_M → Prop) → Prop} {k121 : Int → Int → Int → Int → Int → e_M → Prop} {x1 : Int} {x2 : Int} {x3 : Int} {x5 : Int} {xs0 : Int} {M : e_M} (C : f_Hy sh t yX12_death rm cs 10 (lX12_death c_X12_id c_X12_areParts c_X12_inherits c_X12_isGreat c_X12_keeps) R) (h121 : ∀ (x1 : Int) (x2 : Int) (x3 : Int) (x4 : Int) (x5 : Int) (M : e_M), k121 x1 x2 x3 x4 x5 M → f_E sh t YX12_death rm cs (f_Q sh t R) 121 [.inr (.inr (.inl (12, 123, 4456))), .inl x1, .inl x2, .inl x3, .inl x4, .inl x5, .inr (.inr (.inr ())), .inr (.inr (.inr ()))] [] M) (h : VX12_death_119 c_X12_id c_X12_areParts c_X12_inherits c_X12_isGreat c_X12_keeps k121 (fun r M => R (some (.inl r)) M) x1 x2 x3 x5 xs0 M) : f_E sh t YX12_death rm cs (f_Q sh t R) 119 [.inr (.inr (.inl (12, 123, 4456))), .inl x1, .inl x2, .inl x3, .inr (.inr (.inr ())), .inl x5, .inr (.inr (.inr ())), .inr (.inr (.inr ()))] [.inl xs0] M :=
  f_go (KC := f_kc [(121, f_pl [(4466, 12, 123), (1, 0, 0), (1, 0, 0), (1, 0, 0), (1, 0, 0), (1, 0, 0), (0, 0, 0), (0, 0, 0)] [] (fun ls st M => k121 (f_vi (f_nth ls 1)) (f_vi (f_nth ls 2)) (f_vi (f_nth ls 3)) (f_vi (f_nth ls 4)) (f_vi (f_nth ls 5)) M))]) C qX12_deathf (f_kc_cons (f_pl_ok rfl (fun ls st M h => h121 _ _ _ _ _ M h)) f_kc_nil) 210 73 h
set_option maxRecDepth 20000 in
theorem BX12_death_121 {sh : Nat → Nat × Nat} {t : Nat} {rm : Nat × Nat × Nat} {cs : Nat × Nat} {R : f_Rt} {c_X12_id : Int → Int → e_M → (Int → Prop) → Prop} {c_X12_areParts : Int → Int → e_M → (Int → e_M → Prop) → Prop} {c_X12_inherits : Int → Int → Int → e_M → (e_M → Prop) → Prop} {c_X12_isGreat : e_M → (Int → Prop) → Prop} {c_X12_keeps : Int → e_M → (e_M → Prop) → Prop} {k51 : Int → Int → Int → Int → Int → e_M → Prop} {x1 : Int} {x2 : Int} {x3 : Int} {x4 : Int} {x5 : Int} {M : e_M} (C : f_Hy sh t yX12_death rm cs 10 (lX12_death c_X12_id c_X12_areParts c_X12_inherits c_X12_isGreat c_X12_keeps) R) (h51 : ∀ (x1 : Int) (x2 : Int) (x3 : Int) (x4 : Int) (x5 : Int) (M : e_M), k51 x1 x2 x3 x4 x5 M → f_E sh t YX12_death rm cs (f_Q sh t R) 51 [.inr (.inr (.inl (12, 123, 4456))), .inl x1, .inl x2, .inl x3, .inl x4, .inl x5, .inr (.inr (.inr ())), .inr (.inr (.inr ()))] [] M) (h : VX12_death_121 c_X12_id c_X12_areParts c_X12_inherits c_X12_isGreat c_X12_keeps k51 (fun r M => R (some (.inl r)) M) x1 x2 x3 x4 x5 M) : f_E sh t YX12_death rm cs (f_Q sh t R) 121 [.inr (.inr (.inl (12, 123, 4456))), .inl x1, .inl x2, .inl x3, .inl x4, .inl x5, .inr (.inr (.inr ())), .inr (.inr (.inr ()))] [] M :=
  f_go (KC := f_kc [(51, f_pl [(4466, 12, 123), (1, 0, 0), (1, 0, 0), (1, 0, 0), (1, 0, 0), (1, 0, 0), (0, 0, 0), (0, 0, 0)] [] (fun ls st M => k51 (f_vi (f_nth ls 1)) (f_vi (f_nth ls 2)) (f_vi (f_nth ls 3)) (f_vi (f_nth ls 4)) (f_vi (f_nth ls 5)) M))]) C qX12_deathf (f_kc_cons (f_pl_ok rfl (fun ls st M h => h51 _ _ _ _ _ M h)) f_kc_nil) 210 75 h
set_option maxRecDepth 20000 in
theorem BX12_death_136 {sh : Nat → Nat × Nat} {t : Nat} {rm : Nat × Nat × Nat} {cs : Nat × Nat} {R : f_Rt} {c_X12_id : Int → Int → e_M → (Int → Prop) → Prop} {c_X12_areParts : Int → Int → e_M → (Int → e_M → Prop) → Prop} {c_X12_inherits : Int → Int → Int → e_M → (e_M → Prop) → Prop} {c_X12_isGreat : e_M → (Int → Prop) → Prop} {c_X12_keeps : Int → e_M → (e_M → Prop) → Prop} {x3 : Int} {M : e_M} (C : f_Hy sh t yX12_death rm cs 10 (lX12_death c_X12_id c_X12_areParts c_X12_inherits c_X12_isGreat c_X12_keeps) R) (h : VX12_death_136 c_X12_id c_X12_areParts c_X12_inherits c_X12_isGreat c_X12_keeps (fun r M => R (some (.inl r)) M) x3 M) : f_E sh t YX12_death rm cs (f_Q sh t R) 136 [.inr (.inr (.inr ())), .inr (.inr (.inr ())), .inr (.inr (.inr ())), .inl x3, .inr (.inr (.inr ())), .inr (.inr (.inr ())), .inr (.inr (.inr ())), .inr (.inr (.inr ()))] [] M :=
  f_go (KC := f_kc []) C qX12_deathf f_kc_nil 210 82 h
set_option maxRecDepth 20000 in
theorem BX12_death_151 {sh : Nat → Nat × Nat} {t : Nat} {rm : Nat × Nat × Nat} {cs : Nat × Nat} {R : f_Rt} {c_X12_id : Int → Int → e_M → (Int → Prop) → Prop} {c_X12_areParts : Int → Int → e_M → (Int → e_M → Prop) → Prop} {c_X12_inherits : Int → Int → Int → e_M → (e_M → Prop) → Prop} {c_X12_isGreat : e_M → (Int → Prop) → Prop} {c_X12_keeps : Int → e_M → (e_M → Prop) → Prop} {k219 : Int → Int → e_M → Prop} {k189 : Int → Int → Int → e_M → Prop} {x1 : Int} {x2 : Int} {x5 : Int} {M : e_M} (C : f_Hy sh t yX12_death rm cs 10 (lX12_death c_X12_id c_X12_areParts c_X12_inherits c_X12_isGreat c_X12_keeps) R) (h219 : ∀ (x2 : Int) (xs0 : Int) (M : e_M), k219 x2 xs0 M → f_E sh t YX12_death rm cs (f_Q sh t R) 219 [.inr (.inr (.inl (12, 123, 4456))), .inr (.inr (.inr ())), .inl x2, .inr (.inr (.inr ())), .inr (.inr (.inr ())), .inr (.inr (.inr ())), .inr (.inr (.inr ())), .inr (.inr (.inr ()))] [.inl xs0] M) (h189 : ∀ (x1 : Int) (x2 : Int) (x5 : Int) (M : e_M), k189 x1 x2 x5 M → f_E sh t YX12_death rm cs (f_Q sh t R) 189 [.inr (.inr (.inl (12, 123, 4456))), .inl x1, .inl x2, .inr (.inr (.inr ())), .inr (.inr (.inr ())), .inl x5, .inr (.inr (.inr ())), .inr (.inr (.inr ()))] [] M) (h : VX12_death_151 c_X12_id c_X12_areParts c_X12_inherits c_X12_isGreat c_X12_keeps k219 k189 (fun r M => R (some (.inl r)) M) x1 x2 x5 M) : f_E sh t YX12_death rm cs (f_Q sh t R) 151 [.inr (.inr (.inl (12, 123, 4456))), .inl x1, .inl x2, .inr (.inr (.inr ())), .inr (.inr (.inr ())), .inl x5, .inr (.inr (.inr ())), .inr (.inr (.inr ()))] [] M :=
  f_go (KC := f_kc [(219, f_pl [(4466, 12, 123), (0, 0, 0), (1, 0, 0), (0, 0, 0), (0, 0, 0), (0, 0, 0), (0, 0, 0), (0, 0, 0)] [(1, 0, 0)] (fun ls st M => k219 (f_vi (f_nth ls 2)) (f_vi (f_nth st 0)) M)), (189, f_pl [(4466, 12, 123), (1, 0, 0), (1, 0, 0), (0, 0, 0), (0, 0, 0), (1, 0, 0), (0, 0, 0), (0, 0, 0)] [] (fun ls st M => k189 (f_vi (f_nth ls 1)) (f_vi (f_nth ls 2)) (f_vi (f_nth ls 5)) M))]) C qX12_deathf (f_kc_cons (f_pl_ok rfl (fun ls st M h => h219 _ _ M h)) (f_kc_cons (f_pl_ok rfl (fun ls st M h => h189 _ _ _ M h)) f_kc_nil)) 210 91 h
set_option maxRecDepth 20000 in
theorem BX12_death_189 {sh : Nat → Nat × Nat} {t : Nat} {rm : Nat × Nat × Nat} {cs : Nat × Nat} {R : f_Rt} {c_X12_id : Int → Int → e_M → (Int → Prop) → Prop} {c_X12_areParts : Int → Int → e_M → (Int → e_M → Prop) → Prop} {c_X12_inherits : Int → Int → Int → e_M → (e_M → Prop) → Prop} {c_X12_isGreat : e_M → (Int → Prop) → Prop} {c_X12_keeps : Int → e_M → (e_M → Prop) → Prop} {k151 : Int → Int → Int → e_M → Prop} {x1 : Int} {x2 : Int} {x5 : Int} {M : e_M} (C : f_Hy sh t yX12_death rm cs 10 (lX12_death c_X12_id c_X12_areParts c_X12_inherits c_X12_isGreat c_X12_keeps) R) (h151 : ∀ (x1 : Int) (x2 : Int) (x5 : Int) (M : e_M), k151 x1 x2 x5 M → f_E sh t YX12_death rm cs (f_Q sh t R) 151 [.inr (.inr (.inl (12, 123, 4456))), .inl x1, .inl x2, .inr (.inr (.inr ())), .inr (.inr (.inr ())), .inl x5, .inr (.inr (.inr ())), .inr (.inr (.inr ()))] [] M) (h : VX12_death_189 c_X12_id c_X12_areParts c_X12_inherits c_X12_isGreat c_X12_keeps k151 (fun r M => R (some (.inl r)) M) x1 x2 x5 M) : f_E sh t YX12_death rm cs (f_Q sh t R) 189 [.inr (.inr (.inl (12, 123, 4456))), .inl x1, .inl x2, .inr (.inr (.inr ())), .inr (.inr (.inr ())), .inl x5, .inr (.inr (.inr ())), .inr (.inr (.inr ()))] [] M :=
  f_go (KC := f_kc [(151, f_pl [(4466, 12, 123), (1, 0, 0), (1, 0, 0), (0, 0, 0), (0, 0, 0), (1, 0, 0), (0, 0, 0), (0, 0, 0)] [] (fun ls st M => k151 (f_vi (f_nth ls 1)) (f_vi (f_nth ls 2)) (f_vi (f_nth ls 5)) M))]) C qX12_deathf (f_kc_cons (f_pl_ok rfl (fun ls st M h => h151 _ _ _ M h)) f_kc_nil) 210 112 h
set_option maxRecDepth 20000 in
theorem BX12_death_219 {sh : Nat → Nat × Nat} {t : Nat} {rm : Nat × Nat × Nat} {cs : Nat × Nat} {R : f_Rt} {c_X12_id : Int → Int → e_M → (Int → Prop) → Prop} {c_X12_areParts : Int → Int → e_M → (Int → e_M → Prop) → Prop} {c_X12_inherits : Int → Int → Int → e_M → (e_M → Prop) → Prop} {c_X12_isGreat : e_M → (Int → Prop) → Prop} {c_X12_keeps : Int → e_M → (e_M → Prop) → Prop} {k224 : Int → Int → Int → e_M → Prop} {x2 : Int} {xs0 : Int} {M : e_M} (C : f_Hy sh t yX12_death rm cs 10 (lX12_death c_X12_id c_X12_areParts c_X12_inherits c_X12_isGreat c_X12_keeps) R) (h224 : ∀ (x2 : Int) (x5 : Int) (x6 : Int) (M : e_M), k224 x2 x5 x6 M → f_E sh t YX12_death rm cs (f_Q sh t R) 224 [.inr (.inr (.inl (12, 123, 4456))), .inr (.inr (.inr ())), .inl x2, .inr (.inr (.inr ())), .inr (.inr (.inr ())), .inl x5, .inl x6, .inr (.inr (.inr ()))] [] M) (h : VX12_death_219 c_X12_id c_X12_areParts c_X12_inherits c_X12_isGreat c_X12_keeps k224 (fun r M => R (some (.inl r)) M) x2 xs0 M) : f_E sh t YX12_death rm cs (f_Q sh t R) 219 [.inr (.inr (.inl (12, 123, 4456))), .inr (.inr (.inr ())), .inl x2, .inr (.inr (.inr ())), .inr (.inr (.inr ())), .inr (.inr (.inr ())), .inr (.inr (.inr ())), .inr (.inr (.inr ()))] [.inl xs0] M :=
  f_go (KC := f_kc [(224, f_pl [(4466, 12, 123), (0, 0, 0), (1, 0, 0), (0, 0, 0), (0, 0, 0), (1, 0, 0), (1, 0, 0), (0, 0, 0)] [] (fun ls st M => k224 (f_vi (f_nth ls 2)) (f_vi (f_nth ls 5)) (f_vi (f_nth ls 6)) M))]) C qX12_deathf (f_kc_cons (f_pl_ok rfl (fun ls st M h => h224 _ _ _ M h)) f_kc_nil) 210 129 h
set_option maxRecDepth 20000 in
theorem BX12_death_224 {sh : Nat → Nat × Nat} {t : Nat} {rm : Nat × Nat × Nat} {cs : Nat × Nat} {R : f_Rt} {c_X12_id : Int → Int → e_M → (Int → Prop) → Prop} {c_X12_areParts : Int → Int → e_M → (Int → e_M → Prop) → Prop} {c_X12_inherits : Int → Int → Int → e_M → (e_M → Prop) → Prop} {c_X12_isGreat : e_M → (Int → Prop) → Prop} {c_X12_keeps : Int → e_M → (e_M → Prop) → Prop} {k286 : Int → Int → e_M → Prop} {k277 : Int → Int → Int → e_M → Prop} {x2 : Int} {x5 : Int} {x6 : Int} {M : e_M} (C : f_Hy sh t yX12_death rm cs 10 (lX12_death c_X12_id c_X12_areParts c_X12_inherits c_X12_isGreat c_X12_keeps) R) (h286 : ∀ (x2 : Int) (x6 : Int) (M : e_M), k286 x2 x6 M → f_E sh t YX12_death rm cs (f_Q sh t R) 286 [.inr (.inr (.inl (12, 123, 4456))), .inr (.inr (.inr ())), .inl x2, .inr (.inr (.inr ())), .inr (.inr (.inr ())), .inr (.inr (.inr ())), .inl x6, .inr (.inr (.inr ()))] [] M) (h277 : ∀ (x2 : Int) (x5 : Int) (x6 : Int) (M : e_M), k277 x2 x5 x6 M → f_E sh t YX12_death rm cs (f_Q sh t R) 277 [.inr (.inr (.inl (12, 123, 4456))), .inr (.inr (.inr ())), .inl x2, .inr (.inr (.inr ())), .inr (.inr (.inr ())), .inl x5, .inl x6, .inr (.inr (.inr ()))] [] M) (h : VX12_death_224 c_X12_id c_X12_areParts c_X12_inherits c_X12_isGreat c_X12_keeps k286 k277 (fun r M => R (some (.inl r)) M) x2 x5 x6 M) : f_E sh t YX12_death rm cs (f_Q sh t R) 224 [.inr (.inr (.inl (12, 123, 4456))), .inr (.inr (.inr ())), .inl x2, .inr (.inr (.inr ())), .inr (.inr (.inr ())), .inl x5, .inl x6, .inr (.inr (.inr ()))] [] M :=
  f_go (KC := f_kc [(286, f_pl [(4466, 12, 123), (0, 0, 0), (1, 0, 0), (0, 0, 0), (0, 0, 0), (0, 0, 0), (1, 0, 0), (0, 0, 0)] [] (fun ls st M => k286 (f_vi (f_nth ls 2)) (f_vi (f_nth ls 6)) M)), (277, f_pl [(4466, 12, 123), (0, 0, 0), (1, 0, 0), (0, 0, 0), (0, 0, 0), (1, 0, 0), (1, 0, 0), (0, 0, 0)] [] (fun ls st M => k277 (f_vi (f_nth ls 2)) (f_vi (f_nth ls 5)) (f_vi (f_nth ls 6)) M))]) C qX12_deathf (f_kc_cons (f_pl_ok rfl (fun ls st M h => h286 _ _ M h)) (f_kc_cons (f_pl_ok rfl (fun ls st M h => h277 _ _ _ M h)) f_kc_nil)) 210 133 h
set_option maxRecDepth 20000 in
theorem BX12_death_277 {sh : Nat → Nat × Nat} {t : Nat} {rm : Nat × Nat × Nat} {cs : Nat × Nat} {R : f_Rt} {c_X12_id : Int → Int → e_M → (Int → Prop) → Prop} {c_X12_areParts : Int → Int → e_M → (Int → e_M → Prop) → Prop} {c_X12_inherits : Int → Int → Int → e_M → (e_M → Prop) → Prop} {c_X12_isGreat : e_M → (Int → Prop) → Prop} {c_X12_keeps : Int → e_M → (e_M → Prop) → Prop} {k224 : Int → Int → Int → e_M → Prop} {x2 : Int} {x5 : Int} {x6 : Int} {M : e_M} (C : f_Hy sh t yX12_death rm cs 10 (lX12_death c_X12_id c_X12_areParts c_X12_inherits c_X12_isGreat c_X12_keeps) R) (h224 : ∀ (x2 : Int) (x5 : Int) (x6 : Int) (M : e_M), k224 x2 x5 x6 M → f_E sh t YX12_death rm cs (f_Q sh t R) 224 [.inr (.inr (.inl (12, 123, 4456))), .inr (.inr (.inr ())), .inl x2, .inr (.inr (.inr ())), .inr (.inr (.inr ())), .inl x5, .inl x6, .inr (.inr (.inr ()))] [] M) (h : VX12_death_277 c_X12_id c_X12_areParts c_X12_inherits c_X12_isGreat c_X12_keeps k224 (fun r M => R (some (.inl r)) M) x2 x5 x6 M) : f_E sh t YX12_death rm cs (f_Q sh t R) 277 [.inr (.inr (.inl (12, 123, 4456))), .inr (.inr (.inr ())), .inl x2, .inr (.inr (.inr ())), .inr (.inr (.inr ())), .inl x5, .inl x6, .inr (.inr (.inr ()))] [] M :=
  f_go (KC := f_kc [(224, f_pl [(4466, 12, 123), (0, 0, 0), (1, 0, 0), (0, 0, 0), (0, 0, 0), (1, 0, 0), (1, 0, 0), (0, 0, 0)] [] (fun ls st M => k224 (f_vi (f_nth ls 2)) (f_vi (f_nth ls 5)) (f_vi (f_nth ls 6)) M))]) C qX12_deathf (f_kc_cons (f_pl_ok rfl (fun ls st M h => h224 _ _ _ M h)) f_kc_nil) 210 162 h
set_option maxRecDepth 20000 in
theorem BX12_death_286 {sh : Nat → Nat × Nat} {t : Nat} {rm : Nat × Nat × Nat} {cs : Nat × Nat} {R : f_Rt} {c_X12_id : Int → Int → e_M → (Int → Prop) → Prop} {c_X12_areParts : Int → Int → e_M → (Int → e_M → Prop) → Prop} {c_X12_inherits : Int → Int → Int → e_M → (e_M → Prop) → Prop} {c_X12_isGreat : e_M → (Int → Prop) → Prop} {c_X12_keeps : Int → e_M → (e_M → Prop) → Prop} {k296 : Int → Int → Int → e_M → Prop} {x2 : Int} {x6 : Int} {M : e_M} (C : f_Hy sh t yX12_death rm cs 10 (lX12_death c_X12_id c_X12_areParts c_X12_inherits c_X12_isGreat c_X12_keeps) R) (h296 : ∀ (x2 : Int) (x6 : Int) (x7 : Int) (M : e_M), k296 x2 x6 x7 M → f_E sh t YX12_death rm cs (f_Q sh t R) 296 [.inr (.inr (.inl (12, 123, 4456))), .inr (.inr (.inr ())), .inl x2, .inr (.inr (.inr ())), .inr (.inr (.inr ())), .inr (.inr (.inr ())), .inl x6, .inl x7] [] M) (h : VX12_death_286 c_X12_id c_X12_areParts c_X12_inherits c_X12_isGreat c_X12_keeps k296 (fun r M => R (some (.inl r)) M) x2 x6 M) : f_E sh t YX12_death rm cs (f_Q sh t R) 286 [.inr (.inr (.inl (12, 123, 4456))), .inr (.inr (.inr ())), .inl x2, .inr (.inr (.inr ())), .inr (.inr (.inr ())), .inr (.inr (.inr ())), .inl x6, .inr (.inr (.inr ()))] [] M :=
  f_go (KC := f_kc [(296, f_pl [(4466, 12, 123), (0, 0, 0), (1, 0, 0), (0, 0, 0), (0, 0, 0), (0, 0, 0), (1, 0, 0), (1, 0, 0)] [] (fun ls st M => k296 (f_vi (f_nth ls 2)) (f_vi (f_nth ls 6)) (f_vi (f_nth ls 7)) M))]) C qX12_deathf (f_kc_cons (f_pl_ok rfl (fun ls st M h => h296 _ _ _ M h)) f_kc_nil) 210 167 h
set_option maxRecDepth 20000 in
theorem BX12_death_296 {sh : Nat → Nat × Nat} {t : Nat} {rm : Nat × Nat × Nat} {cs : Nat × Nat} {R : f_Rt} {c_X12_id : Int → Int → e_M → (Int → Prop) → Prop} {c_X12_areParts : Int → Int → e_M → (Int → e_M → Prop) → Prop} {c_X12_inherits : Int → Int → Int → e_M → (e_M → Prop) → Prop} {c_X12_isGreat : e_M → (Int → Prop) → Prop} {c_X12_keeps : Int → e_M → (e_M → Prop) → Prop} {k286 : Int → Int → e_M → Prop} {k337 : Int → Int → Int → e_M → Prop} {x2 : Int} {x6 : Int} {x7 : Int} {M : e_M} (C : f_Hy sh t yX12_death rm cs 10 (lX12_death c_X12_id c_X12_areParts c_X12_inherits c_X12_isGreat c_X12_keeps) R) (h286 : ∀ (x2 : Int) (x6 : Int) (M : e_M), k286 x2 x6 M → f_E sh t YX12_death rm cs (f_Q sh t R) 286 [.inr (.inr (.inl (12, 123, 4456))), .inr (.inr (.inr ())), .inl x2, .inr (.inr (.inr ())), .inr (.inr (.inr ())), .inr (.inr (.inr ())), .inl x6, .inr (.inr (.inr ()))] [] M) (h337 : ∀ (x2 : Int) (x6 : Int) (x7 : Int) (M : e_M), k337 x2 x6 x7 M → f_E sh t YX12_death rm cs (f_Q sh t R) 337 [.inr (.inr (.inl (12, 123, 4456))), .inr (.inr (.inr ())), .inl x2, .inr (.inr (.inr ())), .inr (.inr (.inr ())), .inr (.inr (.inr ())), .inl x6, .inl x7] [] M) (h : VX12_death_296 c_X12_id c_X12_areParts c_X12_inherits c_X12_isGreat c_X12_keeps k286 k337 (fun r M => R (some (.inl r)) M) x2 x6 x7 M) : f_E sh t YX12_death rm cs (f_Q sh t R) 296 [.inr (.inr (.inl (12, 123, 4456))), .inr (.inr (.inr ())), .inl x2, .inr (.inr (.inr ())), .inr (.inr (.inr ())), .inr (.inr (.inr ())), .inl x6, .inl x7] [] M :=
  f_go (KC := f_kc [(286, f_pl [(4466, 12, 123), (0, 0, 0), (1, 0, 0), (0, 0, 0), (0, 0, 0), (0, 0, 0), (1, 0, 0), (0, 0, 0)] [] (fun ls st M => k286 (f_vi (f_nth ls 2)) (f_vi (f_nth ls 6)) M)), (337, f_pl [(4466, 12, 123), (0, 0, 0), (1, 0, 0), (0, 0, 0), (0, 0, 0), (0, 0, 0), (1, 0, 0), (1, 0, 0)] [] (fun ls st M => k337 (f_vi (f_nth ls 2)) (f_vi (f_nth ls 6)) (f_vi (f_nth ls 7)) M))]) C qX12_deathf (f_kc_cons (f_pl_ok rfl (fun ls st M h => h286 _ _ M h)) (f_kc_cons (f_pl_ok rfl (fun ls st M h => h337 _ _ _ M h)) f_kc_nil)) 210 173 h
set_option maxRecDepth 20000 in
theorem BX12_death_337 {sh : Nat → Nat × Nat} {t : Nat} {rm : Nat × Nat × Nat} {cs : Nat × Nat} {R : f_Rt} {c_X12_id : Int → Int → e_M → (Int → Prop) → Prop} {c_X12_areParts : Int → Int → e_M → (Int → e_M → Prop) → Prop} {c_X12_inherits : Int → Int → Int → e_M → (e_M → Prop) → Prop} {c_X12_isGreat : e_M → (Int → Prop) → Prop} {c_X12_keeps : Int → e_M → (e_M → Prop) → Prop} {k296 : Int → Int → Int → e_M → Prop} {x2 : Int} {x6 : Int} {x7 : Int} {M : e_M} (C : f_Hy sh t yX12_death rm cs 10 (lX12_death c_X12_id c_X12_areParts c_X12_inherits c_X12_isGreat c_X12_keeps) R) (h296 : ∀ (x2 : Int) (x6 : Int) (x7 : Int) (M : e_M), k296 x2 x6 x7 M → f_E sh t YX12_death rm cs (f_Q sh t R) 296 [.inr (.inr (.inl (12, 123, 4456))), .inr (.inr (.inr ())), .inl x2, .inr (.inr (.inr ())), .inr (.inr (.inr ())), .inr (.inr (.inr ())), .inl x6, .inl x7] [] M) (h : VX12_death_337 c_X12_id c_X12_areParts c_X12_inherits c_X12_isGreat c_X12_keeps k296 (fun r M => R (some (.inl r)) M) x2 x6 x7 M) : f_E sh t YX12_death rm cs (f_Q sh t R) 337 [.inr (.inr (.inl (12, 123, 4456))), .inr (.inr (.inr ())), .inl x2, .inr (.inr (.inr ())), .inr (.inr (.inr ())), .inr (.inr (.inr ())), .inl x6, .inl x7] [] M :=
  f_go (KC := f_kc [(296, f_pl [(4466, 12, 123), (0, 0, 0), (1, 0, 0), (0, 0, 0), (0, 0, 0), (0, 0, 0), (1, 0, 0), (1, 0, 0)] [] (fun ls st M => k296 (f_vi (f_nth ls 2)) (f_vi (f_nth ls 6)) (f_vi (f_nth ls 7)) M))]) C qX12_deathf (f_kc_cons (f_pl_ok rfl (fun ls st M h => h296 _ _ _ M h)) f_kc_nil) 210 195 h
set_option maxRecDepth 20000 in
theorem BX12_death {sh : Nat → Nat × Nat} {t : Nat} {rm : Nat × Nat × Nat} {cs : Nat × Nat} {R : f_Rt} {c_X12_id : Int → Int → e_M → (Int → Prop) → Prop} {c_X12_areParts : Int → Int → e_M → (Int → e_M → Prop) → Prop} {c_X12_inherits : Int → Int → Int → e_M → (e_M → Prop) → Prop} {c_X12_isGreat : e_M → (Int → Prop) → Prop} {c_X12_keeps : Int → e_M → (e_M → Prop) → Prop} {k43 : Int → Int → e_M → Prop} {x1 : Int} {M : e_M} (C : f_Hy sh t yX12_death rm cs 10 (lX12_death c_X12_id c_X12_areParts c_X12_inherits c_X12_isGreat c_X12_keeps) R) (h43 : ∀ (x1 : Int) (x2 : Int) (M : e_M), k43 x1 x2 M → f_E sh t YX12_death rm cs (f_Q sh t R) 43 [.inr (.inr (.inl (12, 123, 4456))), .inl x1, .inl x2, .inr (.inr (.inr ())), .inr (.inr (.inr ())), .inr (.inr (.inr ())), .inr (.inr (.inr ())), .inr (.inr (.inr ()))] [] M) (h : VX12_death c_X12_id c_X12_areParts c_X12_inherits c_X12_isGreat c_X12_keeps k43 (fun r M => R (some (.inl r)) M) x1 M) : f_E sh t YX12_death rm cs (f_Q sh t R) 0 [.inr (.inr (.inl (12, 123, 4456))), .inl x1, .inr (.inr (.inr ())), .inr (.inr (.inr ())), .inr (.inr (.inr ())), .inr (.inr (.inr ())), .inr (.inr (.inr ())), .inr (.inr (.inr ()))] [] M :=
  f_go (KC := f_kc [(43, f_pl [(4466, 12, 123), (1, 0, 0), (1, 0, 0), (0, 0, 0), (0, 0, 0), (0, 0, 0), (0, 0, 0), (0, 0, 0)] [] (fun ls st M => k43 (f_vi (f_nth ls 1)) (f_vi (f_nth ls 2)) M))]) C qX12_deathf (f_kc_cons (f_pl_ok rfl (fun ls st M h => h43 _ _ M h)) f_kc_nil) 210 0 h
def WX12_death_136 (Q : Int → e_M → Prop) (x3 : Int) (M : e_M) : Prop :=
  VX12_death_136 WX12_id WX12_areParts WX12_inherits WX12_isGreat WX12_keeps Q x3 M
def WX12_death_337 (H286 : Int → Int → e_M → Prop) (H296 : Int → Int → Int → e_M → Prop) (Q : Int → e_M → Prop) (x2 : Int) (x6 : Int) (x7 : Int) (M : e_M) : Prop :=
  VX12_death_337 WX12_id WX12_areParts WX12_inherits WX12_isGreat WX12_keeps H296 Q x2 x6 x7 M
def WX12_death_296 (H286 : Int → Int → e_M → Prop) (Q : Int → e_M → Prop) : Nat → Int → Int → Int → e_M → Prop
  | 0, _, _, _, _ => False
  | n + 1, x2, x6, x7, M =>
    VX12_death_296 WX12_id WX12_areParts WX12_inherits WX12_isGreat WX12_keeps H286 (WX12_death_337 H286 (WX12_death_296 H286 Q n) Q) Q x2 x6 x7 M
def WX12_death_286 (Q : Int → e_M → Prop) : Nat → Int → Int → e_M → Prop
  | 0, _, _, _ => False
  | n + 1, x2, x6, M =>
    VX12_death_286 WX12_id WX12_areParts WX12_inherits WX12_isGreat WX12_keeps (fun x2 x6 x7 M => ∃ j, WX12_death_296 (WX12_death_286 Q n) Q j x2 x6 x7 M) Q x2 x6 M
def WX12_death_277 (H224 : Int → Int → Int → e_M → Prop) (Q : Int → e_M → Prop) (x2 : Int) (x5 : Int) (x6 : Int) (M : e_M) : Prop :=
  VX12_death_277 WX12_id WX12_areParts WX12_inherits WX12_isGreat WX12_keeps H224 Q x2 x5 x6 M
def WX12_death_224 (Q : Int → e_M → Prop) : Nat → Int → Int → Int → e_M → Prop
  | 0, _, _, _, _ => False
  | n + 1, x2, x5, x6, M =>
    VX12_death_224 WX12_id WX12_areParts WX12_inherits WX12_isGreat WX12_keeps (fun x2 x6 M => ∃ j, WX12_death_286 Q j x2 x6 M) (WX12_death_277 (WX12_death_224 Q n) Q) Q x2 x5 x6 M
def WX12_death_219 (Q : Int → e_M → Prop) (x2 : Int) (xs0 : Int) (M : e_M) : Prop :=
  VX12_death_219 WX12_id WX12_areParts WX12_inherits WX12_isGreat WX12_keeps (fun x2 x5 x6 M => ∃ j, WX12_death_224 Q j x2 x5 x6 M) Q x2 xs0 M
def WX12_death_189 (H151 : Int → Int → Int → e_M → Prop) (Q : Int → e_M → Prop) (x1 : Int) (x2 : Int) (x5 : Int) (M : e_M) : Prop :=
  VX12_death_189 WX12_id WX12_areParts WX12_inherits WX12_isGreat WX12_keeps H151 Q x1 x2 x5 M
def WX12_death_151 (Q : Int → e_M → Prop) : Nat → Int → Int → Int → e_M → Prop
  | 0, _, _, _, _ => False
  | n + 1, x1, x2, x5, M =>
    VX12_death_151 WX12_id WX12_areParts WX12_inherits WX12_isGreat WX12_keeps (WX12_death_219 Q) (WX12_death_189 (WX12_death_151 Q n) Q) Q x1 x2 x5 M
def WX12_death_121 (H51 : Int → Int → Int → Int → Int → e_M → Prop) (Q : Int → e_M → Prop) (x1 : Int) (x2 : Int) (x3 : Int) (x4 : Int) (x5 : Int) (M : e_M) : Prop :=
  VX12_death_121 WX12_id WX12_areParts WX12_inherits WX12_isGreat WX12_keeps H51 Q x1 x2 x3 x4 x5 M
def WX12_death_119 (H51 : Int → Int → Int → Int → Int → e_M → Prop) (Q : Int → e_M → Prop) (x1 : Int) (x2 : Int) (x3 : Int) (x5 : Int) (xs0 : Int) (M : e_M) : Prop :=
  VX12_death_119 WX12_id WX12_areParts WX12_inherits WX12_isGreat WX12_keeps (WX12_death_121 H51 Q) Q x1 x2 x3 x5 xs0 M
def WX12_death_114 (H51 : Int → Int → Int → Int → Int → e_M → Prop) (Q : Int → e_M → Prop) (x1 : Int) (x2 : Int) (x3 : Int) (x5 : Int) (M : e_M) : Prop :=
  VX12_death_114 WX12_id WX12_areParts WX12_inherits WX12_isGreat WX12_keeps (WX12_death_119 H51 Q) Q x1 x2 x3 x5 M
def WX12_death_99 (H51 : Int → Int → Int → Int → Int → e_M → Prop) (Q : Int → e_M → Prop) (x1 : Int) (x2 : Int) (x4 : Int) (x5 : Int) (xs0 : Int) (M : e_M) : Prop :=
  VX12_death_99 WX12_id WX12_areParts WX12_inherits WX12_isGreat WX12_keeps (WX12_death_114 H51 Q) (WX12_death_119 H51 Q) Q x1 x2 x4 x5 xs0 M
def WX12_death_94 (H51 : Int → Int → Int → Int → Int → e_M → Prop) (Q : Int → e_M → Prop) (x1 : Int) (x2 : Int) (x4 : Int) (x5 : Int) (M : e_M) : Prop :=
  VX12_death_94 WX12_id WX12_areParts WX12_inherits WX12_isGreat WX12_keeps (WX12_death_99 H51 Q) Q x1 x2 x4 x5 M
def WX12_death_51 (Q : Int → e_M → Prop) : Nat → Int → Int → Int → Int → Int → e_M → Prop
  | 0, _, _, _, _, _, _ => False
  | n + 1, x1, x2, x3, x4, x5, M =>
    VX12_death_51 WX12_id WX12_areParts WX12_inherits WX12_isGreat WX12_keeps (WX12_death_136 Q) (fun x1 x2 x5 M => ∃ j, WX12_death_151 Q j x1 x2 x5 M) (WX12_death_94 (WX12_death_51 Q n) Q) (WX12_death_99 (WX12_death_51 Q n) Q) (WX12_death_121 (WX12_death_51 Q n) Q) Q x1 x2 x3 x4 x5 M
def WX12_death_43 (Q : Int → e_M → Prop) (x1 : Int) (x2 : Int) (M : e_M) : Prop :=
  VX12_death_43 WX12_id WX12_areParts WX12_inherits WX12_isGreat WX12_keeps (fun x1 x2 x3 x4 x5 M => ∃ j, WX12_death_51 Q j x1 x2 x3 x4 x5 M) Q x1 x2 M
def WX12_death (x1 : Int) (M : e_M) (Q : Int → e_M → Prop) : Prop :=
  VX12_death WX12_id WX12_areParts WX12_inherits WX12_isGreat WX12_keeps (WX12_death_43 Q) Q x1 M
theorem PX12_death_136 {sh : Nat → Nat × Nat} {t : Nat} {rm : Nat × Nat × Nat} {cs : Nat × Nat} {R : f_Rt} {x3 : Int} {M : e_M} (C : f_Hy sh t yX12_death rm cs 10 (lX12_death WX12_id WX12_areParts WX12_inherits WX12_isGreat WX12_keeps) R) (h : WX12_death_136 (fun r M => R (some (.inl r)) M) x3 M) : f_E sh t YX12_death rm cs (f_Q sh t R) 136 [.inr (.inr (.inr ())), .inr (.inr (.inr ())), .inr (.inr (.inr ())), .inl x3, .inr (.inr (.inr ())), .inr (.inr (.inr ())), .inr (.inr (.inr ())), .inr (.inr (.inr ()))] [] M :=
  BX12_death_136 C h
theorem PX12_death_337 {sh : Nat → Nat × Nat} {t : Nat} {rm : Nat × Nat × Nat} {cs : Nat × Nat} {R : f_Rt} {H286 : Int → Int → e_M → Prop} {H296 : Int → Int → Int → e_M → Prop} {x2 : Int} {x6 : Int} {x7 : Int} {M : e_M} (C : f_Hy sh t yX12_death rm cs 10 (lX12_death WX12_id WX12_areParts WX12_inherits WX12_isGreat WX12_keeps) R) (g286 : ∀ (x2 : Int) (x6 : Int) (M : e_M), H286 x2 x6 M → f_E sh t YX12_death rm cs (f_Q sh t R) 286 [.inr (.inr (.inl (12, 123, 4456))), .inr (.inr (.inr ())), .inl x2, .inr (.inr (.inr ())), .inr (.inr (.inr ())), .inr (.inr (.inr ())), .inl x6, .inr (.inr (.inr ()))] [] M) (g296 : ∀ (x2 : Int) (x6 : Int) (x7 : Int) (M : e_M), H296 x2 x6 x7 M → f_E sh t YX12_death rm cs (f_Q sh t R) 296 [.inr (.inr (.inl (12, 123, 4456))), .inr (.inr (.inr ())), .inl x2, .inr (.inr (.inr ())), .inr (.inr (.inr ())), .inr (.inr (.inr ())), .inl x6, .inl x7] [] M) (h : WX12_death_337 H286 H296 (fun r M => R (some (.inl r)) M) x2 x6 x7 M) : f_E sh t YX12_death rm cs (f_Q sh t R) 337 [.inr (.inr (.inl (12, 123, 4456))), .inr (.inr (.inr ())), .inl x2, .inr (.inr (.inr ())), .inr (.inr (.inr ())), .inr (.inr (.inr ())), .inl x6, .inl x7] [] M :=
  BX12_death_337 C g296 h
theorem PX12_death_296 {sh : Nat → Nat × Nat} {t : Nat} {rm : Nat × Nat × Nat} {cs : Nat × Nat} {R : f_Rt} {H286 : Int → Int → e_M → Prop} (C : f_Hy sh t yX12_death rm cs 10 (lX12_death WX12_id WX12_areParts WX12_inherits WX12_isGreat WX12_keeps) R) (g286 : ∀ (x2 : Int) (x6 : Int) (M : e_M), H286 x2 x6 M → f_E sh t YX12_death rm cs (f_Q sh t R) 286 [.inr (.inr (.inl (12, 123, 4456))), .inr (.inr (.inr ())), .inl x2, .inr (.inr (.inr ())), .inr (.inr (.inr ())), .inr (.inr (.inr ())), .inl x6, .inr (.inr (.inr ()))] [] M) : ∀ (n : Nat) (x2 : Int) (x6 : Int) (x7 : Int) (M : e_M), WX12_death_296 H286 (fun r M => R (some (.inl r)) M) n x2 x6 x7 M → f_E sh t YX12_death rm cs (f_Q sh t R) 296 [.inr (.inr (.inl (12, 123, 4456))), .inr (.inr (.inr ())), .inl x2, .inr (.inr (.inr ())), .inr (.inr (.inr ())), .inr (.inr (.inr ())), .inl x6, .inl x7] [] M := by
  intro n
  induction n with
  | zero => intro x2 x6 x7 M h; exact h.elim
  | succ n ih => intro x2 x6 x7 M h; exact BX12_death_296 C g286 (fun x2 x6 x7 M h => PX12_death_337 C g286 ih h) h
theorem PX12_death_286 {sh : Nat → Nat × Nat} {t : Nat} {rm : Nat × Nat × Nat} {cs : Nat × Nat} {R : f_Rt} (C : f_Hy sh t yX12_death rm cs 10 (lX12_death WX12_id WX12_areParts WX12_inherits WX12_isGreat WX12_keeps) R) : ∀ (n : Nat) (x2 : Int) (x6 : Int) (M : e_M), WX12_death_286 (fun r M => R (some (.inl r)) M) n x2 x6 M → f_E sh t YX12_death rm cs (f_Q sh t R) 286 [.inr (.inr (.inl (12, 123, 4456))), .inr (.inr (.inr ())), .inl x2, .inr (.inr (.inr ())), .inr (.inr (.inr ())), .inr (.inr (.inr ())), .inl x6, .inr (.inr (.inr ()))] [] M := by
  intro n
  induction n with
  | zero => intro x2 x6 M h; exact h.elim
  | succ n ih => intro x2 x6 M h; exact BX12_death_286 C (fun x2 x6 x7 M ⟨j, h⟩ => PX12_death_296 C ih j _ _ _ _ h) h
theorem PX12_death_277 {sh : Nat → Nat × Nat} {t : Nat} {rm : Nat × Nat × Nat} {cs : Nat × Nat} {R : f_Rt} {H224 : Int → Int → Int → e_M → Prop} {x2 : Int} {x5 : Int} {x6 : Int} {M : e_M} (C : f_Hy sh t yX12_death rm cs 10 (lX12_death WX12_id WX12_areParts WX12_inherits WX12_isGreat WX12_keeps) R) (g224 : ∀ (x2 : Int) (x5 : Int) (x6 : Int) (M : e_M), H224 x2 x5 x6 M → f_E sh t YX12_death rm cs (f_Q sh t R) 224 [.inr (.inr (.inl (12, 123, 4456))), .inr (.inr (.inr ())), .inl x2, .inr (.inr (.inr ())), .inr (.inr (.inr ())), .inl x5, .inl x6, .inr (.inr (.inr ()))] [] M) (h : WX12_death_277 H224 (fun r M => R (some (.inl r)) M) x2 x5 x6 M) : f_E sh t YX12_death rm cs (f_Q sh t R) 277 [.inr (.inr (.inl (12, 123, 4456))), .inr (.inr (.inr ())), .inl x2, .inr (.inr (.inr ())), .inr (.inr (.inr ())), .inl x5, .inl x6, .inr (.inr (.inr ()))] [] M :=
  BX12_death_277 C g224 h
theorem PX12_death_224 {sh : Nat → Nat × Nat} {t : Nat} {rm : Nat × Nat × Nat} {cs : Nat × Nat} {R : f_Rt} (C : f_Hy sh t yX12_death rm cs 10 (lX12_death WX12_id WX12_areParts WX12_inherits WX12_isGreat WX12_keeps) R) : ∀ (n : Nat) (x2 : Int) (x5 : Int) (x6 : Int) (M : e_M), WX12_death_224 (fun r M => R (some (.inl r)) M) n x2 x5 x6 M → f_E sh t YX12_death rm cs (f_Q sh t R) 224 [.inr (.inr (.inl (12, 123, 4456))), .inr (.inr (.inr ())), .inl x2, .inr (.inr (.inr ())), .inr (.inr (.inr ())), .inl x5, .inl x6, .inr (.inr (.inr ()))] [] M := by
  intro n
  induction n with
  | zero => intro x2 x5 x6 M h; exact h.elim
  | succ n ih => intro x2 x5 x6 M h; exact BX12_death_224 C (fun x2 x6 M ⟨j, h⟩ => PX12_death_286 C j _ _ _ h) (fun x2 x5 x6 M h => PX12_death_277 C ih h) h
theorem PX12_death_219 {sh : Nat → Nat × Nat} {t : Nat} {rm : Nat × Nat × Nat} {cs : Nat × Nat} {R : f_Rt} {x2 : Int} {xs0 : Int} {M : e_M} (C : f_Hy sh t yX12_death rm cs 10 (lX12_death WX12_id WX12_areParts WX12_inherits WX12_isGreat WX12_keeps) R) (h : WX12_death_219 (fun r M => R (some (.inl r)) M) x2 xs0 M) : f_E sh t YX12_death rm cs (f_Q sh t R) 219 [.inr (.inr (.inl (12, 123, 4456))), .inr (.inr (.inr ())), .inl x2, .inr (.inr (.inr ())), .inr (.inr (.inr ())), .inr (.inr (.inr ())), .inr (.inr (.inr ())), .inr (.inr (.inr ()))] [.inl xs0] M :=
  BX12_death_219 C (fun x2 x5 x6 M ⟨j, h⟩ => PX12_death_224 C j _ _ _ _ h) h
theorem PX12_death_189 {sh : Nat → Nat × Nat} {t : Nat} {rm : Nat × Nat × Nat} {cs : Nat × Nat} {R : f_Rt} {H151 : Int → Int → Int → e_M → Prop} {x1 : Int} {x2 : Int} {x5 : Int} {M : e_M} (C : f_Hy sh t yX12_death rm cs 10 (lX12_death WX12_id WX12_areParts WX12_inherits WX12_isGreat WX12_keeps) R) (g151 : ∀ (x1 : Int) (x2 : Int) (x5 : Int) (M : e_M), H151 x1 x2 x5 M → f_E sh t YX12_death rm cs (f_Q sh t R) 151 [.inr (.inr (.inl (12, 123, 4456))), .inl x1, .inl x2, .inr (.inr (.inr ())), .inr (.inr (.inr ())), .inl x5, .inr (.inr (.inr ())), .inr (.inr (.inr ()))] [] M) (h : WX12_death_189 H151 (fun r M => R (some (.inl r)) M) x1 x2 x5 M) : f_E sh t YX12_death rm cs (f_Q sh t R) 189 [.inr (.inr (.inl (12, 123, 4456))), .inl x1, .inl x2, .inr (.inr (.inr ())), .inr (.inr (.inr ())), .inl x5, .inr (.inr (.inr ())), .inr (.inr (.inr ()))] [] M :=
  BX12_death_189 C g151 h
theorem PX12_death_151 {sh : Nat → Nat × Nat} {t : Nat} {rm : Nat × Nat × Nat} {cs : Nat × Nat} {R : f_Rt} (C : f_Hy sh t yX12_death rm cs 10 (lX12_death WX12_id WX12_areParts WX12_inherits WX12_isGreat WX12_keeps) R) : ∀ (n : Nat) (x1 : Int) (x2 : Int) (x5 : Int) (M : e_M), WX12_death_151 (fun r M => R (some (.inl r)) M) n x1 x2 x5 M → f_E sh t YX12_death rm cs (f_Q sh t R) 151 [.inr (.inr (.inl (12, 123, 4456))), .inl x1, .inl x2, .inr (.inr (.inr ())), .inr (.inr (.inr ())), .inl x5, .inr (.inr (.inr ())), .inr (.inr (.inr ()))] [] M := by
  intro n
  induction n with
  | zero => intro x1 x2 x5 M h; exact h.elim
  | succ n ih => intro x1 x2 x5 M h; exact BX12_death_151 C (fun x2 xs0 M h => PX12_death_219 C h) (fun x1 x2 x5 M h => PX12_death_189 C ih h) h
theorem PX12_death_121 {sh : Nat → Nat × Nat} {t : Nat} {rm : Nat × Nat × Nat} {cs : Nat × Nat} {R : f_Rt} {H51 : Int → Int → Int → Int → Int → e_M → Prop} {x1 : Int} {x2 : Int} {x3 : Int} {x4 : Int} {x5 : Int} {M : e_M} (C : f_Hy sh t yX12_death rm cs 10 (lX12_death WX12_id WX12_areParts WX12_inherits WX12_isGreat WX12_keeps) R) (g51 : ∀ (x1 : Int) (x2 : Int) (x3 : Int) (x4 : Int) (x5 : Int) (M : e_M), H51 x1 x2 x3 x4 x5 M → f_E sh t YX12_death rm cs (f_Q sh t R) 51 [.inr (.inr (.inl (12, 123, 4456))), .inl x1, .inl x2, .inl x3, .inl x4, .inl x5, .inr (.inr (.inr ())), .inr (.inr (.inr ()))] [] M) (h : WX12_death_121 H51 (fun r M => R (some (.inl r)) M) x1 x2 x3 x4 x5 M) : f_E sh t YX12_death rm cs (f_Q sh t R) 121 [.inr (.inr (.inl (12, 123, 4456))), .inl x1, .inl x2, .inl x3, .inl x4, .inl x5, .inr (.inr (.inr ())), .inr (.inr (.inr ()))] [] M :=
  BX12_death_121 C g51 h
theorem PX12_death_119 {sh : Nat → Nat × Nat} {t : Nat} {rm : Nat × Nat × Nat} {cs : Nat × Nat} {R : f_Rt} {H51 : Int → Int → Int → Int → Int → e_M → Prop} {x1 : Int} {x2 : Int} {x3 : Int} {x5 : Int} {xs0 : Int} {M : e_M} (C : f_Hy sh t yX12_death rm cs 10 (lX12_death WX12_id WX12_areParts WX12_inherits WX12_isGreat WX12_keeps) R) (g51 : ∀ (x1 : Int) (x2 : Int) (x3 : Int) (x4 : Int) (x5 : Int) (M : e_M), H51 x1 x2 x3 x4 x5 M → f_E sh t YX12_death rm cs (f_Q sh t R) 51 [.inr (.inr (.inl (12, 123, 4456))), .inl x1, .inl x2, .inl x3, .inl x4, .inl x5, .inr (.inr (.inr ())), .inr (.inr (.inr ()))] [] M) (h : WX12_death_119 H51 (fun r M => R (some (.inl r)) M) x1 x2 x3 x5 xs0 M) : f_E sh t YX12_death rm cs (f_Q sh t R) 119 [.inr (.inr (.inl (12, 123, 4456))), .inl x1, .inl x2, .inl x3, .inr (.inr (.inr ())), .inl x5, .inr (.inr (.inr ())), .inr (.inr (.inr ()))] [.inl xs0] M :=
  BX12_death_119 C (fun x1 x2 x3 x4 x5 M h => PX12_death_121 C g51 h) h
theorem PX12_death_114 {sh : Nat → Nat × Nat} {t : Nat} {rm : Nat × Nat × Nat} {cs : Nat × Nat} {R : f_Rt} {H51 : Int → Int → Int → Int → Int → e_M → Prop} {x1 : Int} {x2 : Int} {x3 : Int} {x5 : Int} {M : e_M} (C : f_Hy sh t yX12_death rm cs 10 (lX12_death WX12_id WX12_areParts WX12_inherits WX12_isGreat WX12_keeps) R) (g51 : ∀ (x1 : Int) (x2 : Int) (x3 : Int) (x4 : Int) (x5 : Int) (M : e_M), H51 x1 x2 x3 x4 x5 M → f_E sh t YX12_death rm cs (f_Q sh t R) 51 [.inr (.inr (.inl (12, 123, 4456))), .inl x1, .inl x2, .inl x3, .inl x4, .inl x5, .inr (.inr (.inr ())), .inr (.inr (.inr ()))] [] M) (h : WX12_death_114 H51 (fun r M => R (some (.inl r)) M) x1 x2 x3 x5 M) : f_E sh t YX12_death rm cs (f_Q sh t R) 114 [.inr (.inr (.inl (12, 123, 4456))), .inl x1, .inl x2, .inl x3, .inr (.inr (.inr ())), .inl x5, .inr (.inr (.inr ())), .inr (.inr (.inr ()))] [] M :=
  BX12_death_114 C (fun x1 x2 x3 x5 xs0 M h => PX12_death_119 C g51 h) h
theorem PX12_death_99 {sh : Nat → Nat × Nat} {t : Nat} {rm : Nat × Nat × Nat} {cs : Nat × Nat} {R : f_Rt} {H51 : Int → Int → Int → Int → Int → e_M → Prop} {x1 : Int} {x2 : Int} {x4 : Int} {x5 : Int} {xs0 : Int} {M : e_M} (C : f_Hy sh t yX12_death rm cs 10 (lX12_death WX12_id WX12_areParts WX12_inherits WX12_isGreat WX12_keeps) R) (g51 : ∀ (x1 : Int) (x2 : Int) (x3 : Int) (x4 : Int) (x5 : Int) (M : e_M), H51 x1 x2 x3 x4 x5 M → f_E sh t YX12_death rm cs (f_Q sh t R) 51 [.inr (.inr (.inl (12, 123, 4456))), .inl x1, .inl x2, .inl x3, .inl x4, .inl x5, .inr (.inr (.inr ())), .inr (.inr (.inr ()))] [] M) (h : WX12_death_99 H51 (fun r M => R (some (.inl r)) M) x1 x2 x4 x5 xs0 M) : f_E sh t YX12_death rm cs (f_Q sh t R) 99 [.inr (.inr (.inl (12, 123, 4456))), .inl x1, .inl x2, .inr (.inr (.inr ())), .inl x4, .inl x5, .inr (.inr (.inr ())), .inr (.inr (.inr ()))] [.inl xs0] M :=
  BX12_death_99 C (fun x1 x2 x3 x5 M h => PX12_death_114 C g51 h) (fun x1 x2 x3 x5 xs0 M h => PX12_death_119 C g51 h) h
theorem PX12_death_94 {sh : Nat → Nat × Nat} {t : Nat} {rm : Nat × Nat × Nat} {cs : Nat × Nat} {R : f_Rt} {H51 : Int → Int → Int → Int → Int → e_M → Prop} {x1 : Int} {x2 : Int} {x4 : Int} {x5 : Int} {M : e_M} (C : f_Hy sh t yX12_death rm cs 10 (lX12_death WX12_id WX12_areParts WX12_inherits WX12_isGreat WX12_keeps) R) (g51 : ∀ (x1 : Int) (x2 : Int) (x3 : Int) (x4 : Int) (x5 : Int) (M : e_M), H51 x1 x2 x3 x4 x5 M → f_E sh t YX12_death rm cs (f_Q sh t R) 51 [.inr (.inr (.inl (12, 123, 4456))), .inl x1, .inl x2, .inl x3, .inl x4, .inl x5, .inr (.inr (.inr ())), .inr (.inr (.inr ()))] [] M) (h : WX12_death_94 H51 (fun r M => R (some (.inl r)) M) x1 x2 x4 x5 M) : f_E sh t YX12_death rm cs (f_Q sh t R) 94 [.inr (.inr (.inl (12, 123, 4456))), .inl x1, .inl x2, .inr (.inr (.inr ())), .inl x4, .inl x5, .inr (.inr (.inr ())), .inr (.inr (.inr ()))] [] M :=
  BX12_death_94 C (fun x1 x2 x4 x5 xs0 M h => PX12_death_99 C g51 h) h
theorem PX12_death_51 {sh : Nat → Nat × Nat} {t : Nat} {rm : Nat × Nat × Nat} {cs : Nat × Nat} {R : f_Rt} (C : f_Hy sh t yX12_death rm cs 10 (lX12_death WX12_id WX12_areParts WX12_inherits WX12_isGreat WX12_keeps) R) : ∀ (n : Nat) (x1 : Int) (x2 : Int) (x3 : Int) (x4 : Int) (x5 : Int) (M : e_M), WX12_death_51 (fun r M => R (some (.inl r)) M) n x1 x2 x3 x4 x5 M → f_E sh t YX12_death rm cs (f_Q sh t R) 51 [.inr (.inr (.inl (12, 123, 4456))), .inl x1, .inl x2, .inl x3, .inl x4, .inl x5, .inr (.inr (.inr ())), .inr (.inr (.inr ()))] [] M := by
  intro n
  induction n with
  | zero => intro x1 x2 x3 x4 x5 M h; exact h.elim
  | succ n ih => intro x1 x2 x3 x4 x5 M h; exact BX12_death_51 C (fun x3 M h => PX12_death_136 C h) (fun x1 x2 x5 M ⟨j, h⟩ => PX12_death_151 C j _ _ _ _ h) (fun x1 x2 x4 x5 M h => PX12_death_94 C ih h) (fun x1 x2 x4 x5 xs0 M h => PX12_death_99 C ih h) (fun x1 x2 x3 x4 x5 M h => PX12_death_121 C ih h) h
theorem PX12_death_43 {sh : Nat → Nat × Nat} {t : Nat} {rm : Nat × Nat × Nat} {cs : Nat × Nat} {R : f_Rt} {x1 : Int} {x2 : Int} {M : e_M} (C : f_Hy sh t yX12_death rm cs 10 (lX12_death WX12_id WX12_areParts WX12_inherits WX12_isGreat WX12_keeps) R) (h : WX12_death_43 (fun r M => R (some (.inl r)) M) x1 x2 M) : f_E sh t YX12_death rm cs (f_Q sh t R) 43 [.inr (.inr (.inl (12, 123, 4456))), .inl x1, .inl x2, .inr (.inr (.inr ())), .inr (.inr (.inr ())), .inr (.inr (.inr ())), .inr (.inr (.inr ())), .inr (.inr (.inr ()))] [] M :=
  BX12_death_43 C (fun x1 x2 x3 x4 x5 M ⟨j, h⟩ => PX12_death_51 C j _ _ _ _ _ _ h) h
theorem PX12_death {sh : Nat → Nat × Nat} {t : Nat} {rm : Nat × Nat × Nat} {cs : Nat × Nat} {R : f_Rt} {x1 : Int} {M : e_M} (C : f_Hy sh t yX12_death rm cs 10 (lX12_death WX12_id WX12_areParts WX12_inherits WX12_isGreat WX12_keeps) R) (h : WX12_death x1 M (fun r M => R (some (.inl r)) M)) : f_E sh t YX12_death rm cs (f_Q sh t R) 0 [.inr (.inr (.inl (12, 123, 4456))), .inl x1, .inr (.inr (.inr ())), .inr (.inr (.inr ())), .inr (.inr (.inr ())), .inr (.inr (.inr ())), .inr (.inr (.inr ())), .inr (.inr (.inr ()))] [] M :=
  BX12_death C (fun x1 x2 M h => PX12_death_43 C h) h
def wX12_death : f_Wt := f_wm [(4466, 12, 123), (1, 0, 0)] (fun ar M R => WX12_death (f_vi (f_nth ar 1)) M (fun r M => R (some (.inl r)) M))
theorem TX12_death {sh : Nat → Nat × Nat} {t : Nat} : f_Mt sh t YX12_death 10 (wX12_death) :=
  f_Mt_of (k := 6) (Nat.le_of_ble_eq_true rfl) rfl rfl (fun ar M R rm cs h1 h2 h3 hX h => PX12_death ⟨Nat.le_of_ble_eq_true rfl, h1, h2, h3, ⟨(f_Mt.up (Nat.le_of_ble_eq_true rfl) TX12_id), (f_Mt.up (Nat.le_of_ble_eq_true rfl) TX12_areParts), (f_Mt.up (Nat.le_of_ble_eq_true rfl) TX12_inherits), (f_Mt.up (Nat.le_of_ble_eq_true rfl) TX12_isGreat), (f_Mt.up (Nat.le_of_ble_eq_true rfl) TX12_keeps), trivial⟩, hX⟩ h)
def VX12_isOwner_2 (k2 : Int → Int → Int → Prop) (Q : Int → Prop) (x1 : Int) (x2 : Int) (x3 : Int) (M : e_M) : Prop :=
  ((0 ≤ x1 ∧ x1 < 80) ∧ (((M 4497 (x1.toNat)) ≤ x3 → (Q 0)) ∧ (x3 < (M 4497 (x1.toNat)) → ((0 ≤ (e_w32 ((e_w32 ((8 : Int) * x1)) + x3)) ∧ (e_w32 ((e_w32 ((8 : Int) * x1)) + x3)) < 640) ∧ ((¬ (M 4498 ((e_w32 ((e_w32 ((8 : Int) * x1)) + x3)).toNat)) = x2 → (k2 x1 x2 (e_w32 (x3 + 1)))) ∧ ((M 4498 ((e_w32 ((e_w32 ((8 : Int) * x1)) + x3)).toNat)) = x2 → (Q 1)))))))
def VX12_isOwner (k2 : Int → Int → Int → Prop) (Q : Int → Prop) (x1 : Int) (x2 : Int) (M : e_M) : Prop :=
  (k2 x1 x2 0)
def yX12_isOwner (i : Nat) : e_Y := x_get YX12_isOwner [] i
def pX12_isOwnerf : List x_I := [(0, 0, 1, 0, 0, 0, []), (1, 5, 1, 3, 0, 0, []), (2, 49, 0, 0, 0, 0, []), (2, 2, 1, 3, 0, 0, []), (3, 4, 1, 0, 0, 0, []), (4, 25, 12, 64, 4, 0, [(0, 20, 80), (0, 1, 41)]), (7, 2, 1, 1, 0, 0, []), (8, 27, 0, 0, 0, 0, []), (9, 18, 35, 3, 24, 0, []), (12, 4, 1, 0, 0, 0, []), (13, 25, 12, 65, 4, 0, [(0, 20, 640), (0, 1, 42)]), (16, 0, 2, 0, 0, 8, []), (18, 2, 1, 1, 0, 0, []), (19, 9, 0, 2, 0, 0, []), (20, 2, 1, 3, 0, 0, []), (21, 9, 0, 0, 0, 0, []), (22, 27, 0, 0, 0, 0, []), (23, 2, 1, 2, 0, 0, []), (24, 18, 29, 1, 22, 0, []), (27, 0, 1, 0, 0, 1, []), (28, 48, 0, 0, 0, 0, []), (29, 8, 0, 3, 0, 1, []), (32, 19, 2, 0, 3, 0, []), (35, 0, 1, 0, 0, 0, []), (36, 48, 0, 0, 0, 0, [])]
set_option maxRecDepth 20000 in
theorem qX12_isOwnerf : f_all yX12_isOwner YX12_isOwner pX12_isOwnerf :=
  ⟨f_iconst (e_dx DX12_isOwner_0 0 rfl) ⟨by decide, by decide⟩,
  f_istore_n (n := 3) (e_dx DX12_isOwner_0 1 rfl) rfl (by decide),
  trivial,
  f_iload_n (n := 3) (e_dx DX12_isOwner_0 2 rfl) rfl,
  f_aload_n (n := 0) (e_dx DX12_isOwner_0 3 rfl) rfl,
  f_getA (e_dx DX12_isOwner_0 4 rfl) fX12_133 rfl (by decide) (Nat.le_of_ble_eq_true rfl) rfl (by decide),
  f_iload_n (n := 1) (e_dx DX12_isOwner_0 5 rfl) rfl,
  f_iaload (e_dx DX12_isOwner_0 6 rfl),
  f_icmp_ge (e_dx DX12_isOwner_0 7 rfl) rfl,
  f_aload_n (n := 0) (e_dx DX12_isOwner_0 8 rfl) rfl,
  f_getA (e_dx DX12_isOwner_0 9 rfl) fX12_136 rfl (by decide) (Nat.le_of_ble_eq_true rfl) rfl (by decide),
  f_bipush (e_dx DX12_isOwner_0 10 rfl) ⟨by decide, by decide⟩,
  f_iload_n (n := 1) (e_dx DX12_isOwner_0 11 rfl) rfl,
  f_imul (e_dx DX12_isOwner_0 12 rfl),
  f_iload_n (n := 3) (e_dx DX12_isOwner_0 13 rfl) rfl,
  f_iadd (e_dx DX12_isOwner_0 14 rfl),
  f_iaload (e_dx DX12_isOwner_0 15 rfl),
  f_iload_n (n := 2) (e_dx DX12_isOwner_0 16 rfl) rfl,
  f_icmp_ne (e_dx DX12_isOwner_0 17 rfl) rfl,
  f_iconst (e_dx DX12_isOwner_0 18 rfl) ⟨by decide, by decide⟩,
  ⟨(e_dx DX12_isOwner_0 19 rfl), rfl⟩,
  f_g8 (e_dx DX12_isOwner_0 20 rfl) ⟨by decide, by decide⟩,
  f_g19 (e_dx DX12_isOwner_0 21 rfl) rfl,
  f_iconst (e_dx DX12_isOwner_0 22 rfl) ⟨by decide, by decide⟩,
  ⟨(e_dx DX12_isOwner_0 23 rfl), rfl⟩, trivial⟩
def lX12_isOwner : List (Nat × f_Wt) := []
set_option maxRecDepth 20000 in
theorem BX12_isOwner_2 {sh : Nat → Nat × Nat} {t : Nat} {rm : Nat × Nat × Nat} {cs : Nat × Nat} {R : f_Rt} {k2 : Int → Int → Int → Prop} {x1 : Int} {x2 : Int} {x3 : Int} {M : e_M} (C : f_Hy sh t yX12_isOwner rm cs 4 (lX12_isOwner) R) (h2 : ∀ (x1 : Int) (x2 : Int) (x3 : Int), k2 x1 x2 x3 → f_E sh t YX12_isOwner rm cs (f_Q sh t R) 2 [.inr (.inr (.inl (12, 123, 4456))), .inl x1, .inl x2, .inl x3] [] M) (h : VX12_isOwner_2 k2 (fun r => R (some (.inl r)) M) x1 x2 x3 M) : f_E sh t YX12_isOwner rm cs (f_Q sh t R) 2 [.inr (.inr (.inl (12, 123, 4456))), .inl x1, .inl x2, .inl x3] [] M := by
  rw [f_kk3 M k2] at h
  exact f_go (KC := f_kc [(2, f_pl [(4466, 12, 123), (1, 0, 0), (1, 0, 0), (1, 0, 0)] [] (fun ls st M2 => M2 = M ∧ (k2 (f_vi (f_nth ls 1)) (f_vi (f_nth ls 2)) (f_vi (f_nth ls 3)))))]) C qX12_isOwnerf (f_kc_cons (f_pl_ok rfl (fun ls st M2 ⟨e, hh⟩ => by subst e; exact h2 _ _ _ hh)) f_kc_nil) 27 3 h
set_option maxRecDepth 20000 in
theorem BX12_isOwner {sh : Nat → Nat × Nat} {t : Nat} {rm : Nat × Nat × Nat} {cs : Nat × Nat} {R : f_Rt} {k2 : Int → Int → Int → Prop} {x1 : Int} {x2 : Int} {M : e_M} (C : f_Hy sh t yX12_isOwner rm cs 4 (lX12_isOwner) R) (h2 : ∀ (x1 : Int) (x2 : Int) (x3 : Int), k2 x1 x2 x3 → f_E sh t YX12_isOwner rm cs (f_Q sh t R) 2 [.inr (.inr (.inl (12, 123, 4456))), .inl x1, .inl x2, .inl x3] [] M) (h : VX12_isOwner k2 (fun r => R (some (.inl r)) M) x1 x2 M) : f_E sh t YX12_isOwner rm cs (f_Q sh t R) 0 [.inr (.inr (.inl (12, 123, 4456))), .inl x1, .inl x2, .inr (.inr (.inr ()))] [] M := by
  rw [f_kk3 M k2] at h
  exact f_go (KC := f_kc [(2, f_pl [(4466, 12, 123), (1, 0, 0), (1, 0, 0), (1, 0, 0)] [] (fun ls st M2 => M2 = M ∧ (k2 (f_vi (f_nth ls 1)) (f_vi (f_nth ls 2)) (f_vi (f_nth ls 3)))))]) C qX12_isOwnerf (f_kc_cons (f_pl_ok rfl (fun ls st M2 ⟨e, hh⟩ => by subst e; exact h2 _ _ _ hh)) f_kc_nil) 27 0 h
def WX12_isOwner_2 (M : e_M) (Q : Int → Prop) : Nat → Int → Int → Int → Prop
  | 0, _, _, _ => False
  | n + 1, x1, x2, x3 =>
    VX12_isOwner_2 (WX12_isOwner_2 M Q n) Q x1 x2 x3 M
def WX12_isOwner (x1 : Int) (x2 : Int) (M : e_M) (Q : Int → Prop) : Prop :=
  VX12_isOwner (fun x1 x2 x3 => ∃ j, WX12_isOwner_2 M Q j x1 x2 x3) Q x1 x2 M
theorem PX12_isOwner_2 {sh : Nat → Nat × Nat} {t : Nat} {rm : Nat × Nat × Nat} {cs : Nat × Nat} {R : f_Rt} {M : e_M} (C : f_Hy sh t yX12_isOwner rm cs 4 (lX12_isOwner) R) : ∀ (n : Nat) (x1 : Int) (x2 : Int) (x3 : Int), WX12_isOwner_2 M (fun r => R (some (.inl r)) M) n x1 x2 x3 → f_E sh t YX12_isOwner rm cs (f_Q sh t R) 2 [.inr (.inr (.inl (12, 123, 4456))), .inl x1, .inl x2, .inl x3] [] M := by
  intro n
  induction n with
  | zero => intro x1 x2 x3 h; exact h.elim
  | succ n ih => intro x1 x2 x3 h; exact BX12_isOwner_2 C ih h
theorem PX12_isOwner {sh : Nat → Nat × Nat} {t : Nat} {rm : Nat × Nat × Nat} {cs : Nat × Nat} {R : f_Rt} {x1 : Int} {x2 : Int} {M : e_M} (C : f_Hy sh t yX12_isOwner rm cs 4 (lX12_isOwner) R) (h : WX12_isOwner x1 x2 M (fun r => R (some (.inl r)) M)) : f_E sh t YX12_isOwner rm cs (f_Q sh t R) 0 [.inr (.inr (.inl (12, 123, 4456))), .inl x1, .inl x2, .inr (.inr (.inr ()))] [] M :=
  BX12_isOwner C (fun x1 x2 x3 ⟨j, h⟩ => PX12_isOwner_2 C j _ _ _ h) h
def wX12_isOwner : f_Wt := f_wm [(4466, 12, 123), (1, 0, 0), (1, 0, 0)] (fun ar M R => WX12_isOwner (f_vi (f_nth ar 1)) (f_vi (f_nth ar 2)) M (fun r => R (some (.inl r)) M))
theorem TX12_isOwner {sh : Nat → Nat × Nat} {t : Nat} : f_Mt sh t YX12_isOwner 4 (wX12_isOwner) :=
  f_Mt_of (k := 1) (Nat.le_of_ble_eq_true rfl) rfl rfl (fun ar M R rm cs h1 h2 h3 hX h => PX12_isOwner ⟨Nat.le_of_ble_eq_true rfl, h1, h2, h3, trivial, hX⟩ h)
def VX12_close_25 (c_X12_id : Int → Int → e_M → (Int → Prop) → Prop) (c_X12_isOwner : Int → Int → e_M → (Int → Prop) → Prop) (c_X12_isThere : Int → Int → Int → e_M → (Int → Prop) → Prop) (k63 : Int → Int → e_M → Prop) (k55 : Int → Int → e_M → Prop) (Q : Int → e_M → Prop) (x1 : Int) (x2 : Int) (M : e_M) : Prop :=
  ((0 ≤ (0 : Int) ∧ (0 : Int) < 7) ∧ (((M 4483 ((0 : Int).toNat)) ≤ x2 → (k63 x1 2 M)) ∧ (x2 < (M 4483 ((0 : Int).toNat)) → ((0 ≤ x2 ∧ x2 < 560) ∧ ((¬ (M 4485 (x2.toNat)) = 0 → (k55 x1 x2 M)) ∧ ((M 4485 (x2.toNat)) = 0 → (c_X12_isOwner x2 x1 M (fun r1 => ((r1 = 0 → (k55 x1 x2 M)) ∧ (¬ r1 = 0 → (Q 5 M)))))))))))
def VX12_close_55 (c_X12_id : Int → Int → e_M → (Int → Prop) → Prop) (c_X12_isOwner : Int → Int → e_M → (Int → Prop) → Prop) (c_X12_isThere : Int → Int → Int → e_M → (Int → Prop) → Prop) (k25 : Int → Int → e_M → Prop) (Q : Int → e_M → Prop) (x1 : Int) (x2 : Int) (M : e_M) : Prop :=
  (k25 x1 (e_w32 (x2 + 1)) M)
def VX12_close_63 (c_X12_id : Int → Int → e_M → (Int → Prop) → Prop) (c_X12_isOwner : Int → Int → e_M → (Int → Prop) → Prop) (c_X12_isThere : Int → Int → Int → e_M → (Int → Prop) → Prop) (k137 : Int → Int → e_M → Prop) (k129 : Int → Int → e_M → Prop) (k84 : Int → Int → Int → e_M → Prop) (Q : Int → e_M → Prop) (x1 : Int) (x2 : Int) (M : e_M) : Prop :=
  ((6 < x2 → (k137 x1 0 M)) ∧ (x2 ≤ 6 → ((x2 = 3 → (k129 x1 x2 M)) ∧ (¬ x2 = 3 → ((¬ x2 = 5 → (k84 x1 x2 0 M)) ∧ (x2 = 5 → (k129 x1 x2 M)))))))
def VX12_close_84 (c_X12_id : Int → Int → e_M → (Int → Prop) → Prop) (c_X12_isOwner : Int → Int → e_M → (Int → Prop) → Prop) (c_X12_isThere : Int → Int → Int → e_M → (Int → Prop) → Prop) (k129 : Int → Int → e_M → Prop) (k123 : Int → Int → Int → e_M → Prop) (Q : Int → e_M → Prop) (x1 : Int) (x2 : Int) (x3 : Int) (M : e_M) : Prop :=
  ((0 ≤ x2 ∧ x2 < 7) ∧ (((M 4483 (x2.toNat)) ≤ x3 → (k129 x1 x2 M)) ∧ (x3 < (M 4483 (x2.toNat)) → (c_X12_isThere x2 x3 (M 4456 86) M (fun r1 => ((r1 = 0 → (k123 x1 x2 x3 M)) ∧ (¬ r1 = 0 → (c_X12_id x2 x3 M (fun r2 => ((0 ≤ r2 ∧ r2 < 560) ∧ ((¬ (M 4489 (r2.toNat)) = x1 → (k123 x1 x2 x3 M)) ∧ ((M 4489 (r2.toNat)) = x1 → (Q 5 M)))))))))))))
def VX12_close_123 (c_X12_id : Int → Int → e_M → (Int → Prop) → Prop) (c_X12_isOwner : Int → Int → e_M → (Int → Prop) → Prop) (c_X12_isThere : Int → Int → Int → e_M → (Int → Prop) → Prop) (k84 : Int → Int → Int → e_M → Prop) (Q : Int → e_M → Prop) (x1 : Int) (x2 : Int) (x3 : Int) (M : e_M) : Prop :=
  (k84 x1 x2 (e_w32 (x3 + 1)) M)
def VX12_close_129 (c_X12_id : Int → Int → e_M → (Int → Prop) → Prop) (c_X12_isOwner : Int → Int → e_M → (Int → Prop) → Prop) (c_X12_isThere : Int → Int → Int → e_M → (Int → Prop) → Prop) (k63 : Int → Int → e_M → Prop) (Q : Int → e_M → Prop) (x1 : Int) (x2 : Int) (M : e_M) : Prop :=
  (k63 x1 (e_w32 (x2 + 1)) M)
def VX12_close_137 (c_X12_id : Int → Int → e_M → (Int → Prop) → Prop) (c_X12_isOwner : Int → Int → e_M → (Int → Prop) → Prop) (c_X12_isThere : Int → Int → Int → e_M → (Int → Prop) → Prop) (k172 : Int → Int → e_M → Prop) (Q : Int → e_M → Prop) (x1 : Int) (x2 : Int) (M : e_M) : Prop :=
  ((0 ≤ (5 : Int) ∧ (5 : Int) < 7) ∧ (((M 4483 ((5 : Int).toNat)) ≤ x2 → (c_X12_id 1 x1 M (fun r1 => (((0 ≤ r1 ∧ r1 < 560) ∧ ((1 : Int) = 0 ∨ (1 : Int) = 1)) ∧ (∀ M2 : e_M, M2 = e_up M 4485 (r1.toNat) 1 → (Q 0 M2)))))) ∧ (x2 < (M 4483 ((5 : Int).toNat)) → (c_X12_id 5 x2 M (fun r3 => ((0 ≤ r3 ∧ r3 < 560) ∧ ((¬ (M 4489 (r3.toNat)) = x1 → (k172 x1 x2 M)) ∧ ((M 4489 (r3.toNat)) = x1 → (c_X12_id 5 x2 M (fun r4 => (((0 ≤ r4 ∧ r4 < 560) ∧ ((1 : Int) = 0 ∨ (1 : Int) = 1)) ∧ (∀ M5 : e_M, M5 = e_up M 4485 (r4.toNat) 1 → (k172 x1 x2 M5)))))))))))))
def VX12_close_172 (c_X12_id : Int → Int → e_M → (Int → Prop) → Prop) (c_X12_isOwner : Int → Int → e_M → (Int → Prop) → Prop) (c_X12_isThere : Int → Int → Int → e_M → (Int → Prop) → Prop) (k137 : Int → Int → e_M → Prop) (Q : Int → e_M → Prop) (x1 : Int) (x2 : Int) (M : e_M) : Prop :=
  (k137 x1 (e_w32 (x2 + 1)) M)
def VX12_close (c_X12_id : Int → Int → e_M → (Int → Prop) → Prop) (c_X12_isOwner : Int → Int → e_M → (Int → Prop) → Prop) (c_X12_isThere : Int → Int → Int → e_M → (Int → Prop) → Prop) (k25 : Int → Int → e_M → Prop) (Q : Int → e_M → Prop) (M : e_M) : Prop :=
  ((0 ≤ (0 : Int) ∧ (0 : Int) < 10) ∧ (c_X12_id 1 (M 4520 ((0 : Int).toNat)) M (fun r1 => ((0 ≤ r1 ∧ r1 < 560) ∧ (((M 4491 (r1.toNat)) = 1 → (k25 (M 4520 ((0 : Int).toNat)) 0 M)) ∧ (¬ (M 4491 (r1.toNat)) = 1 → (Q 1 M)))))))
def yX12_close (i : Nat) : e_Y := x_get YX12_close [YX12_id, YX12_isOwner, YX12_isThere] i
def pX12_closef : List x_I := [(0, 4, 1, 0, 0, 0, []), (1, 25, 12, 91, 4, 0, [(0, 20, 10), (0, 1, 64)]), (4, 0, 1, 0, 0, 0, []), (5, 27, 0, 0, 0, 0, []), (6, 5, 1, 1, 0, 0, []), (7, 4, 1, 0, 0, 0, []), (8, 25, 12, 58, 4, 0, [(0, 20, 560), (0, 1, 35)]), (11, 0, 1, 0, 0, 1, []), (12, 2, 1, 1, 0, 0, []), (13, 40, 0, 2, 0, 0, []), (16, 27, 0, 0, 0, 0, []), (17, 0, 1, 0, 0, 1, []), (18, 18, 23, 0, 16, 0, []), (21, 0, 1, 0, 0, 1, []), (22, 41, 0, 0, 0, 0, []), (23, 0, 1, 0, 0, 0, []), (24, 5, 1, 2, 0, 0, []), (25, 49, 0, 0, 0, 0, []), (25, 2, 1, 2, 0, 0, []), (26, 4, 1, 0, 0, 0, []), (27, 25, 12, 50, 4, 0, [(0, 20, 7), (0, 1, 27)]), (30, 0, 1, 0, 0, 0, []), (31, 27, 0, 0, 0, 0, []), (32, 18, 61, 3, 40, 0, []), (35, 4, 1, 0, 0, 0, []), (36, 25, 12, 52, 4, 0, [(0, 21, 560), (0, 1, 29)]), (39, 2, 1, 2, 0, 0, []), (40, 27, 0, 2, 0, 0, []), (41, 17, 55, 1, 37, 0, []), (44, 4, 1, 0, 0, 0, []), (45, 2, 1, 2, 0, 0, []), (46, 2, 1, 1, 0, 0, []), (47, 40, 1, 3, 14, 0, []), (50, 17, 55, 0, 37, 0, []), (53, 0, 1, 0, 0, 5, []), (54, 41, 0, 0, 0, 0, []), (55, 49, 0, 0, 0, 0, []), (55, 8, 0, 2, 0, 1, []), (58, 19, 25, 0, 18, 0, []), (61, 0, 1, 0, 0, 2, []), (62, 5, 1, 2, 0, 0, []), (63, 49, 0, 0, 0, 0, []), (63, 2, 1, 2, 0, 0, []), (64, 0, 2, 0, 0, 6, []), (66, 18, 135, 4, 85, 0, []), (69, 2, 1, 2, 0, 0, []), (70, 0, 1, 0, 0, 3, []), (71, 18, 129, 0, 82, 0, []), (74, 2, 1, 2, 0, 0, []), (75, 0, 1, 0, 0, 5, []), (76, 18, 82, 1, 53, 0, []), (79, 19, 129, 0, 82, 0, []), (82, 0, 1, 0, 0, 0, []), (83, 5, 1, 3, 0, 0, []), (84, 49, 0, 0, 0, 0, []), (84, 2, 1, 3, 0, 0, []), (85, 4, 1, 0, 0, 0, []), (86, 25, 12, 50, 4, 0, [(0, 20, 7), (0, 1, 27)]), (89, 2, 1, 2, 0, 0, []), (90, 27, 0, 0, 0, 0, []), (91, 18, 129, 3, 82, 0, []), (94, 4, 1, 0, 0, 0, []), (95, 2, 1, 2, 0, 0, []), (96, 2, 1, 3, 0, 0, []), (97, 4, 1, 0, 0, 0, []), (98, 25, 12, 86, 0, 0, []), (101, 40, 2, 4, 14, 0, []), (104, 17, 123, 0, 79, 0, []), (107, 4, 1, 0, 0, 0, []), (108, 25, 12, 56, 4, 0, [(0, 20, 560), (0, 1, 33)]), (111, 2, 1, 2, 0, 0, []), (112, 2, 1, 3, 0, 0, []), (113, 40, 0, 2, 0, 0, []), (116, 27, 0, 0, 0, 0, []), (117, 2, 1, 1, 0, 0, []), (118, 18, 123, 1, 79, 0, []), (121, 0, 1, 0, 0, 5, []), (122, 41, 0, 0, 0, 0, []), (123, 49, 0, 0, 0, 0, []), (123, 8, 0, 3, 0, 1, []), (126, 19, 84, 0, 55, 0, []), (129, 49, 0, 0, 0, 0, []), (129, 8, 0, 2, 0, 1, []), (132, 19, 63, 0, 42, 0, []), (135, 0, 1, 0, 0, 0, []), (136, 5, 1, 2, 0, 0, []), (137, 49, 0, 0, 0, 0, []), (137, 2, 1, 2, 0, 0, []), (138, 4, 1, 0, 0, 0, []), (139, 25, 12, 50, 4, 0, [(0, 20, 7), (0, 1, 27)]), (142, 0, 1, 0, 0, 5, []), (143, 27, 0, 0, 0, 0, []), (144, 18, 178, 3, 112, 0, []), (147, 4, 1, 0, 0, 0, []), (148, 25, 12, 56, 4, 0, [(0, 20, 560), (0, 1, 33)]), (151, 0, 1, 0, 0, 5, []), (152, 2, 1, 2, 0, 0, []), (153, 40, 0, 2, 0, 0, []), (156, 27, 0, 0, 0, 0, []), (157, 2, 1, 1, 0, 0, []), (158, 18, 172, 1, 109, 0, []), (161, 4, 1, 0, 0, 0, []), (162, 25, 12, 52, 4, 0, [(0, 21, 560), (0, 1, 29)]), (165, 0, 1, 0, 0, 5, []), (166, 2, 1, 2, 0, 0, []), (167, 40, 0, 2, 0, 0, []), (170, 0, 1, 0, 0, 1, []), (171, 29, 0, 0, 0, 0, []), (172, 49, 0, 0, 0, 0, []), (172, 8, 0, 2, 0, 1, []), (175, 19, 137, 0, 87, 0, []), (178, 4, 1, 0, 0, 0, []), (179, 25, 12, 52, 4, 0, [(0, 21, 560), (0, 1, 29)]), (182, 0, 1, 0, 0, 1, []), (183, 2, 1, 1, 0, 0, []), (184, 40, 0, 2, 0, 0, []), (187, 0, 1, 0, 0, 1, []), (188, 29, 0, 0, 0, 0, []), (189, 0, 1, 0, 0, 0, []), (190, 41, 0, 0, 0, 0, [])]
set_option maxRecDepth 20000 in
theorem qX12_closef : f_all yX12_close YX12_close pX12_closef :=
  ⟨f_aload_n (n := 0) (e_dx DX12_close_0 0 rfl) rfl,
  f_getA (e_dx DX12_close_0 1 rfl) fX12_202 rfl (by decide) (Nat.le_of_ble_eq_true rfl) rfl (by decide),
  f_iconst (e_dx DX12_close_0 2 rfl) ⟨by decide, by decide⟩,
  f_iaload (e_dx DX12_close_0 3 rfl),
  f_istore_n (n := 1) (e_dx DX12_close_0 4 rfl) rfl (by decide),
  f_aload_n (n := 0) (e_dx DX12_close_0 5 rfl) rfl,
  f_getA (e_dx DX12_close_0 6 rfl) fX12_115 rfl (by decide) (Nat.le_of_ble_eq_true rfl) rfl (by decide),
  f_iconst (e_dx DX12_close_0 7 rfl) ⟨by decide, by decide⟩,
  f_iload_n (n := 1) (e_dx DX12_close_0 8 rfl) rfl,
  x_callS (e_dx DX12_close_0 9 rfl) mwX12_id cX12_540 swX12_id rfl,
  f_iaload (e_dx DX12_close_0 10 rfl),
  f_iconst (e_dx DX12_close_0 11 rfl) ⟨by decide, by decide⟩,
  f_icmp_eq (e_dx DX12_close_0 12 rfl) rfl,
  f_iconst (e_dx DX12_close_0 13 rfl) ⟨by decide, by decide⟩,
  ⟨(e_dx DX12_close_0 14 rfl), rfl⟩,
  f_iconst (e_dx DX12_close_0 15 rfl) ⟨by decide, by decide⟩,
  f_istore_n (n := 2) (e_dx DX12_close_0 16 rfl) rfl (by decide),
  trivial,
  f_iload_n (n := 2) (e_dx DX12_close_0 17 rfl) rfl,
  f_aload_n (n := 0) (e_dx DX12_close_0 18 rfl) rfl,
  f_getA (e_dx DX12_close_0 19 rfl) fX12_91 rfl (by decide) (Nat.le_of_ble_eq_true rfl) rfl (by decide),
  f_iconst (e_dx DX12_close_0 20 rfl) ⟨by decide, by decide⟩,
  f_iaload (e_dx DX12_close_0 21 rfl),
  f_icmp_ge (e_dx DX12_close_0 22 rfl) rfl,
  f_aload_n (n := 0) (e_dx DX12_close_0 23 rfl) rfl,
  f_getA (e_dx DX12_close_0 24 rfl) fX12_97 rfl (by decide) (Nat.le_of_ble_eq_true rfl) rfl (by decide),
  f_iload_n (n := 2) (e_dx DX12_close_0 25 rfl) rfl,
  f_baload (e_dx DX12_close_0 26 rfl),
  f_if_ne (e_dx DX12_close_0 27 rfl) rfl,
  f_aload_n (n := 0) (e_dx DX12_close_0 28 rfl) rfl,
  f_iload_n (n := 2) (e_dx DX12_close_0 29 rfl) rfl,
  f_iload_n (n := 1) (e_dx DX12_close_0 30 rfl) rfl,
  x_callV (e_dx DX12_close_0 31 rfl) mwX12_isOwner vwX12_isOwner cX12_695 rfl,
  f_if_eq (e_dx DX12_close_0 32 rfl) rfl,
  f_iconst (e_dx DX12_close_0 33 rfl) ⟨by decide, by decide⟩,
  ⟨(e_dx DX12_close_0 34 rfl), rfl⟩,
  trivial,
  f_g8 (e_dx DX12_close_0 35 rfl) ⟨by decide, by decide⟩,
  f_g19 (e_dx DX12_close_0 36 rfl) rfl,
  f_iconst (e_dx DX12_close_0 37 rfl) ⟨by decide, by decide⟩,
  f_istore_n (n := 2) (e_dx DX12_close_0 38 rfl) rfl (by decide),
  trivial,
  f_iload_n (n := 2) (e_dx DX12_close_0 39 rfl) rfl,
  f_bipush (e_dx DX12_close_1 0 rfl) ⟨by decide, by decide⟩,
  f_icmp_gt (e_dx DX12_close_1 1 rfl) rfl,
  f_iload_n (n := 2) (e_dx DX12_close_1 2 rfl) rfl,
  f_iconst (e_dx DX12_close_1 3 rfl) ⟨by decide, by decide⟩,
  f_icmp_eq (e_dx DX12_close_1 4 rfl) rfl,
  f_iload_n (n := 2) (e_dx DX12_close_1 5 rfl) rfl,
  f_iconst (e_dx DX12_close_1 6 rfl) ⟨by decide, by decide⟩,
  f_icmp_ne (e_dx DX12_close_1 7 rfl) rfl,
  f_g19 (e_dx DX12_close_1 8 rfl) rfl,
  f_iconst (e_dx DX12_close_1 9 rfl) ⟨by decide, by decide⟩,
  f_istore_n (n := 3) (e_dx DX12_close_1 10 rfl) rfl (by decide),
  trivial,
  f_iload_n (n := 3) (e_dx DX12_close_1 11 rfl) rfl,
  f_aload_n (n := 0) (e_dx DX12_close_1 12 rfl) rfl,
  f_getA (e_dx DX12_close_1 13 rfl) fX12_91 rfl (by decide) (Nat.le_of_ble_eq_true rfl) rfl (by decide),
  f_iload_n (n := 2) (e_dx DX12_close_1 14 rfl) rfl,
  f_iaload (e_dx DX12_close_1 15 rfl),
  f_icmp_ge (e_dx DX12_close_1 16 rfl) rfl,
  f_aload_n (n := 0) (e_dx DX12_close_1 17 rfl) rfl,
  f_iload_n (n := 2) (e_dx DX12_close_1 18 rfl) rfl,
  f_iload_n (n := 3) (e_dx DX12_close_1 19 rfl) rfl,
  f_aload_n (n := 0) (e_dx DX12_close_1 20 rfl) rfl,
  f_getf (e_dx DX12_close_1 21 rfl) fX12_543 rfl (by decide) (by decide) (by decide),
  x_callV (e_dx DX12_close_1 22 rfl) mwX12_isThere vwX12_isThere cX12_549 rfl,
  f_if_eq (e_dx DX12_close_1 23 rfl) rfl,
  f_aload_n (n := 0) (e_dx DX12_close_1 24 rfl) rfl,
  f_getA (e_dx DX12_close_1 25 rfl) fX12_109 rfl (by decide) (Nat.le_of_ble_eq_true rfl) rfl (by decide),
  f_iload_n (n := 2) (e_dx DX12_close_1 26 rfl) rfl,
  f_iload_n (n := 3) (e_dx DX12_close_1 27 rfl) rfl,
  x_callS (e_dx DX12_close_1 28 rfl) mwX12_id cX12_540 swX12_id rfl,
  f_iaload (e_dx DX12_close_1 29 rfl),
  f_iload_n (n := 1) (e_dx DX12_close_1 30 rfl) rfl,
  f_icmp_ne (e_dx DX12_close_1 31 rfl) rfl,
  f_iconst (e_dx DX12_close_1 32 rfl) ⟨by decide, by decide⟩,
  ⟨(e_dx DX12_close_1 33 rfl), rfl⟩,
  trivial,
  f_g8 (e_dx DX12_close_1 34 rfl) ⟨by decide, by decide⟩,
  f_g19 (e_dx DX12_close_1 35 rfl) rfl,
  trivial,
  f_g8 (e_dx DX12_close_1 36 rfl) ⟨by decide, by decide⟩,
  f_g19 (e_dx DX12_close_1 37 rfl) rfl,
  f_iconst (e_dx DX12_close_1 38 rfl) ⟨by decide, by decide⟩,
  f_istore_n (n := 2) (e_dx DX12_close_1 39 rfl) rfl (by decide),
  trivial,
  f_iload_n (n := 2) (e_dx DX12_close_2 0 rfl) rfl,
  f_aload_n (n := 0) (e_dx DX12_close_2 1 rfl) rfl,
  f_getA (e_dx DX12_close_2 2 rfl) fX12_91 rfl (by decide) (Nat.le_of_ble_eq_true rfl) rfl (by decide),
  f_iconst (e_dx DX12_close_2 3 rfl) ⟨by decide, by decide⟩,
  f_iaload (e_dx DX12_close_2 4 rfl),
  f_icmp_ge (e_dx DX12_close_2 5 rfl) rfl,
  f_aload_n (n := 0) (e_dx DX12_close_2 6 rfl) rfl,
  f_getA (e_dx DX12_close_2 7 rfl) fX12_109 rfl (by decide) (Nat.le_of_ble_eq_true rfl) rfl (by decide),
  f_iconst (e_dx DX12_close_2 8 rfl) ⟨by decide, by decide⟩,
  f_iload_n (n := 2) (e_dx DX12_close_2 9 rfl) rfl,
  x_callS (e_dx DX12_close_2 10 rfl) mwX12_id cX12_540 swX12_id rfl,
  f_iaload (e_dx DX12_close_2 11 rfl),
  f_iload_n (n := 1) (e_dx DX12_close_2 12 rfl) rfl,
  f_icmp_ne (e_dx DX12_close_2 13 rfl) rfl,
  f_aload_n (n := 0) (e_dx DX12_close_2 14 rfl) rfl,
  f_getA (e_dx DX12_close_2 15 rfl) fX12_97 rfl (by decide) (Nat.le_of_ble_eq_true rfl) rfl (by decide),
  f_iconst (e_dx DX12_close_2 16 rfl) ⟨by decide, by decide⟩,
  f_iload_n (n := 2) (e_dx DX12_close_2 17 rfl) rfl,
  x_callS (e_dx DX12_close_2 18 rfl) mwX12_id cX12_540 swX12_id rfl,
  f_iconst (e_dx DX12_close_2 19 rfl) ⟨by decide, by decide⟩,
  f_g29 (e_dx DX12_close_2 20 rfl),
  trivial,
  f_g8 (e_dx DX12_close_2 21 rfl) ⟨by decide, by decide⟩,
  f_g19 (e_dx DX12_close_2 22 rfl) rfl,
  f_aload_n (n := 0) (e_dx DX12_close_2 23 rfl) rfl,
  f_getA (e_dx DX12_close_2 24 rfl) fX12_97 rfl (by decide) (Nat.le_of_ble_eq_true rfl) rfl (by decide),
  f_iconst (e_dx DX12_close_2 25 rfl) ⟨by decide, by decide⟩,
  f_iload_n (n := 1) (e_dx DX12_close_2 26 rfl) rfl,
  x_callS (e_dx DX12_close_2 27 rfl) mwX12_id cX12_540 swX12_id rfl,
  f_iconst (e_dx DX12_close_2 28 rfl) ⟨by decide, by decide⟩,
  f_g29 (e_dx DX12_close_2 29 rfl),
  f_iconst (e_dx DX12_close_2 30 rfl) ⟨by decide, by decide⟩,
  ⟨(e_dx DX12_close_2 31 rfl), rfl⟩, trivial⟩
def lX12_close (c_X12_id : Int → Int → e_M → (Int → Prop) → Prop) (c_X12_isOwner : Int → Int → e_M → (Int → Prop) → Prop) (c_X12_isThere : Int → Int → Int → e_M → (Int → Prop) → Prop) : List (Nat × f_Wt) := [(0, f_wm [(1, 0, 0), (1, 0, 0)] (fun ar M R => c_X12_id (f_vi (f_nth ar 0)) (f_vi (f_nth ar 1)) M (fun r => R (some (.inl r)) M))), (1, f_wm [(4466, 12, 123), (1, 0, 0), (1, 0, 0)] (fun ar M R => c_X12_isOwner (f_vi (f_nth ar 1)) (f_vi (f_nth ar 2)) M (fun r => R (some (.inl r)) M))), (2, f_wm [(4466, 12, 123), (1, 0, 0), (1, 0, 0), (1, 0, 0)] (fun ar M R => c_X12_isThere (f_vi (f_nth ar 1)) (f_vi (f_nth ar 2)) (f_vi (f_nth ar 3)) M (fun r => R (some (.inl r)) M)))]
set_option maxRecDepth 20000 in
theorem BX12_close_25 {sh : Nat → Nat × Nat} {t : Nat} {rm : Nat × Nat × Nat} {cs : Nat × Nat} {R : f_Rt} {c_X12_id : Int → Int → e_M → (Int → Prop) → Prop} {c_X12_isOwner : Int → Int → e_M → (Int → Prop) → Prop} {c_X12_isThere : Int → Int → Int → e_M → (Int → Prop) → Prop} {k63 : Int → Int → e_M → Prop} {k55 : Int → Int → e_M → Prop} {x1 : Int} {x2 : Int} {M : e_M} (C : f_Hy sh t yX12_close rm cs 6 (lX12_close c_X12_id c_X12_isOwner c_X12_isThere) R) (h63 : ∀ (x1 : Int) (x2 : Int) (M : e_M), k63 x1 x2 M → f_E sh t YX12_close rm cs (f_Q sh t R) 63 [.inr (.inr (.inl (12, 123, 4456))), .inl x1, .inl x2, .inr (.inr (.inr ()))] [] M) (h55 : ∀ (x1 : Int) (x2 : Int) (M : e_M), k55 x1 x2 M → f_E sh t YX12_close rm cs (f_Q sh t R) 55 [.inr (.inr (.inl (12, 123, 4456))), .inl x1, .inl x2, .inr (.inr (.inr ()))] [] M) (h : VX12_close_25 c_X12_id c_X12_isOwner c_X12_isThere k63 k55 (fun r M => R (some (.inl r)) M) x1 x2 M) : f_E sh t YX12_close rm cs (f_Q sh t R) 25 [.inr (.inr (.inl (12, 123, 4456))), .inl x1, .inl x2, .inr (.inr (.inr ()))] [] M :=
  f_go (KC := f_kc [(63, f_pl [(4466, 12, 123), (1, 0, 0), (1, 0, 0), (0, 0, 0)] [] (fun ls st M => k63 (f_vi (f_nth ls 1)) (f_vi (f_nth ls 2)) M)), (55, f_pl [(4466, 12, 123), (1, 0, 0), (1, 0, 0), (0, 0, 0)] [] (fun ls st M => k55 (f_vi (f_nth ls 1)) (f_vi (f_nth ls 2)) M))]) C qX12_closef (f_kc_cons (f_pl_ok rfl (fun ls st M h => h63 _ _ M h)) (f_kc_cons (f_pl_ok rfl (fun ls st M h => h55 _ _ M h)) f_kc_nil)) 122 18 h
set_option maxRecDepth 20000 in
theorem BX12_close_55 {sh : Nat → Nat × Nat} {t : Nat} {rm : Nat × Nat × Nat} {cs : Nat × Nat} {R : f_Rt} {c_X12_id : Int → Int → e_M → (Int → Prop) → Prop} {c_X12_isOwner : Int → Int → e_M → (Int → Prop) → Prop} {c_X12_isThere : Int → Int → Int → e_M → (Int → Prop) → Prop} {k25 : Int → Int → e_M → Prop} {x1 : Int} {x2 : Int} {M : e_M} (C : f_Hy sh t yX12_close rm cs 6 (lX12_close c_X12_id c_X12_isOwner c_X12_isThere) R) (h25 : ∀ (x1 : Int) (x2 : Int) (M : e_M), k25 x1 x2 M → f_E sh t YX12_close rm cs (f_Q sh t R) 25 [.inr (.inr (.inl (12, 123, 4456))), .inl x1, .inl x2, .inr (.inr (.inr ()))] [] M) (h : VX12_close_55 c_X12_id c_X12_isOwner c_X12_isThere k25 (fun r M => R (some (.inl r)) M) x1 x2 M) : f_E sh t YX12_close rm cs (f_Q sh t R) 55 [.inr (.inr (.inl (12, 123, 4456))), .inl x1, .inl x2, .inr (.inr (.inr ()))] [] M :=
  f_go (KC := f_kc [(25, f_pl [(4466, 12, 123), (1, 0, 0), (1, 0, 0), (0, 0, 0)] [] (fun ls st M => k25 (f_vi (f_nth ls 1)) (f_vi (f_nth ls 2)) M))]) C qX12_closef (f_kc_cons (f_pl_ok rfl (fun ls st M h => h25 _ _ M h)) f_kc_nil) 122 37 h
set_option maxRecDepth 20000 in
theorem BX12_close_63 {sh : Nat → Nat × Nat} {t : Nat} {rm : Nat × Nat × Nat} {cs : Nat × Nat} {R : f_Rt} {c_X12_id : Int → Int → e_M → (Int → Prop) → Prop} {c_X12_isOwner : Int → Int → e_M → (Int → Prop) → Prop} {c_X12_isThere : Int → Int → Int → e_M → (Int → Prop) → Prop} {k137 : Int → Int → e_M → Prop} {k129 : Int → Int → e_M → Prop} {k84 : Int → Int → Int → e_M → Prop} {x1 : Int} {x2 : Int} {M : e_M} (C : f_Hy sh t yX12_close rm cs 6 (lX12_close c_X12_id c_X12_isOwner c_X12_isThere) R) (h137 : ∀ (x1 : Int) (x2 : Int) (M : e_M), k137 x1 x2 M → f_E sh t YX12_close rm cs (f_Q sh t R) 137 [.inr (.inr (.inl (12, 123, 4456))), .inl x1, .inl x2, .inr (.inr (.inr ()))] [] M) (h129 : ∀ (x1 : Int) (x2 : Int) (M : e_M), k129 x1 x2 M → f_E sh t YX12_close rm cs (f_Q sh t R) 129 [.inr (.inr (.inl (12, 123, 4456))), .inl x1, .inl x2, .inr (.inr (.inr ()))] [] M) (h84 : ∀ (x1 : Int) (x2 : Int) (x3 : Int) (M : e_M), k84 x1 x2 x3 M → f_E sh t YX12_close rm cs (f_Q sh t R) 84 [.inr (.inr (.inl (12, 123, 4456))), .inl x1, .inl x2, .inl x3] [] M) (h : VX12_close_63 c_X12_id c_X12_isOwner c_X12_isThere k137 k129 k84 (fun r M => R (some (.inl r)) M) x1 x2 M) : f_E sh t YX12_close rm cs (f_Q sh t R) 63 [.inr (.inr (.inl (12, 123, 4456))), .inl x1, .inl x2, .inr (.inr (.inr ()))] [] M :=
  f_go (KC := f_kc [(137, f_pl [(4466, 12, 123), (1, 0, 0), (1, 0, 0), (0, 0, 0)] [] (fun ls st M => k137 (f_vi (f_nth ls 1)) (f_vi (f_nth ls 2)) M)), (129, f_pl [(4466, 12, 123), (1, 0, 0), (1, 0, 0), (0, 0, 0)] [] (fun ls st M => k129 (f_vi (f_nth ls 1)) (f_vi (f_nth ls 2)) M)), (84, f_pl [(4466, 12, 123), (1, 0, 0), (1, 0, 0), (1, 0, 0)] [] (fun ls st M => k84 (f_vi (f_nth ls 1)) (f_vi (f_nth ls 2)) (f_vi (f_nth ls 3)) M))]) C qX12_closef (f_kc_cons (f_pl_ok rfl (fun ls st M h => h137 _ _ M h)) (f_kc_cons (f_pl_ok rfl (fun ls st M h => h129 _ _ M h)) (f_kc_cons (f_pl_ok rfl (fun ls st M h => h84 _ _ _ M h)) f_kc_nil))) 122 42 h
set_option maxRecDepth 20000 in
theorem BX12_close_84 {sh : Nat → Nat × Nat} {t : Nat} {rm : Nat × Nat × Nat} {cs : Nat × Nat} {R : f_Rt} {c_X12_id : Int → Int → e_M → (Int → Prop) → Prop} {c_X12_isOwner : Int → Int → e_M → (Int → Prop) → Prop} {c_X12_isThere : Int → Int → Int → e_M → (Int → Prop) → Prop} {k129 : Int → Int → e_M → Prop} {k123 : Int → Int → Int → e_M → Prop} {x1 : Int} {x2 : Int} {x3 : Int} {M : e_M} (C : f_Hy sh t yX12_close rm cs 6 (lX12_close c_X12_id c_X12_isOwner c_X12_isThere) R) (h129 : ∀ (x1 : Int) (x2 : Int) (M : e_M), k129 x1 x2 M → f_E sh t YX12_close rm cs (f_Q sh t R) 129 [.inr (.inr (.inl (12, 123, 4456))), .inl x1, .inl x2, .inr (.inr (.inr ()))] [] M) (h123 : ∀ (x1 : Int) (x2 : Int) (x3 : Int) (M : e_M), k123 x1 x2 x3 M → f_E sh t YX12_close rm cs (f_Q sh t R) 123 [.inr (.inr (.inl (12, 123, 4456))), .inl x1, .inl x2, .inl x3] [] M) (h : VX12_close_84 c_X12_id c_X12_isOwner c_X12_isThere k129 k123 (fun r M => R (some (.inl r)) M) x1 x2 x3 M) : f_E sh t YX12_close rm cs (f_Q sh t R) 84 [.inr (.inr (.inl (12, 123, 4456))), .inl x1, .inl x2, .inl x3] [] M :=
  f_go (KC := f_kc [(129, f_pl [(4466, 12, 123), (1, 0, 0), (1, 0, 0), (0, 0, 0)] [] (fun ls st M => k129 (f_vi (f_nth ls 1)) (f_vi (f_nth ls 2)) M)), (123, f_pl [(4466, 12, 123), (1, 0, 0), (1, 0, 0), (1, 0, 0)] [] (fun ls st M => k123 (f_vi (f_nth ls 1)) (f_vi (f_nth ls 2)) (f_vi (f_nth ls 3)) M))]) C qX12_closef (f_kc_cons (f_pl_ok rfl (fun ls st M h => h129 _ _ M h)) (f_kc_cons (f_pl_ok rfl (fun ls st M h => h123 _ _ _ M h)) f_kc_nil)) 122 55 h
set_option maxRecDepth 20000 in
theorem BX12_close_123 {sh : Nat → Nat × Nat} {t : Nat} {rm : Nat × Nat × Nat} {cs : Nat × Nat} {R : f_Rt} {c_X12_id : Int → Int → e_M → (Int → Prop) → Prop} {c_X12_isOwner : Int → Int → e_M → (Int → Prop) → Prop} {c_X12_isThere : Int → Int → Int → e_M → (Int → Prop) → Prop} {k84 : Int → Int → Int → e_M → Prop} {x1 : Int} {x2 : Int} {x3 : Int} {M : e_M} (C : f_Hy sh t yX12_close rm cs 6 (lX12_close c_X12_id c_X12_isOwner c_X12_isThere) R) (h84 : ∀ (x1 : Int) (x2 : Int) (x3 : Int) (M : e_M), k84 x1 x2 x3 M → f_E sh t YX12_close rm cs (f_Q sh t R) 84 [.inr (.inr (.inl (12, 123, 4456))), .inl x1, .inl x2, .inl x3] [] M) (h : VX12_close_123 c_X12_id c_X12_isOwner c_X12_isThere k84 (fun r M => R (some (.inl r)) M) x1 x2 x3 M) : f_E sh t YX12_close rm cs (f_Q sh t R) 123 [.inr (.inr (.inl (12, 123, 4456))), .inl x1, .inl x2, .inl x3] [] M :=
  f_go (KC := f_kc [(84, f_pl [(4466, 12, 123), (1, 0, 0), (1, 0, 0), (1, 0, 0)] [] (fun ls st M => k84 (f_vi (f_nth ls 1)) (f_vi (f_nth ls 2)) (f_vi (f_nth ls 3)) M))]) C qX12_closef (f_kc_cons (f_pl_ok rfl (fun ls st M h => h84 _ _ _ M h)) f_kc_nil) 122 79 h
set_option maxRecDepth 20000 in
theorem BX12_close_129 {sh : Nat → Nat × Nat} {t : Nat} {rm : Nat × Nat × Nat} {cs : Nat × Nat} {R : f_Rt} {c_X12_id : Int → Int → e_M → (Int → Prop) → Prop} {c_X12_isOwner : Int → Int → e_M → (Int → Prop) → Prop} {c_X12_isThere : Int → Int → Int → e_M → (Int → Prop) → Prop} {k63 : Int → Int → e_M → Prop} {x1 : Int} {x2 : Int} {M : e_M} (C : f_Hy sh t yX12_close rm cs 6 (lX12_close c_X12_id c_X12_isOwner c_X12_isThere) R) (h63 : ∀ (x1 : Int) (x2 : Int) (M : e_M), k63 x1 x2 M → f_E sh t YX12_close rm cs (f_Q sh t R) 63 [.inr (.inr (.inl (12, 123, 4456))), .inl x1, .inl x2, .inr (.inr (.inr ()))] [] M) (h : VX12_close_129 c_X12_id c_X12_isOwner c_X12_isThere k63 (fun r M => R (some (.inl r)) M) x1 x2 M) : f_E sh t YX12_close rm cs (f_Q sh t R) 129 [.inr (.inr (.inl (12, 123, 4456))), .inl x1, .inl x2, .inr (.inr (.inr ()))] [] M :=
  f_go (KC := f_kc [(63, f_pl [(4466, 12, 123), (1, 0, 0), (1, 0, 0), (0, 0, 0)] [] (fun ls st M => k63 (f_vi (f_nth ls 1)) (f_vi (f_nth ls 2)) M))]) C qX12_closef (f_kc_cons (f_pl_ok rfl (fun ls st M h => h63 _ _ M h)) f_kc_nil) 122 82 h
set_option maxRecDepth 20000 in
theorem BX12_close_137 {sh : Nat → Nat × Nat} {t : Nat} {rm : Nat × Nat × Nat} {cs : Nat × Nat} {R : f_Rt} {c_X12_id : Int → Int → e_M → (Int → Prop) → Prop} {c_X12_isOwner : Int → Int → e_M → (Int → Prop) → Prop} {c_X12_isThere : Int → Int → Int → e_M → (Int → Prop) → Prop} {k172 : Int → Int → e_M → Prop} {x1 : Int} {x2 : Int} {M : e_M} (C : f_Hy sh t yX12_close rm cs 6 (lX12_close c_X12_id c_X12_isOwner c_X12_isThere) R) (h172 : ∀ (x1 : Int) (x2 : Int) (M : e_M), k172 x1 x2 M → f_E sh t YX12_close rm cs (f_Q sh t R) 172 [.inr (.inr (.inl (12, 123, 4456))), .inl x1, .inl x2, .inr (.inr (.inr ()))] [] M) (h : VX12_close_137 c_X12_id c_X12_isOwner c_X12_isThere k172 (fun r M => R (some (.inl r)) M) x1 x2 M) : f_E sh t YX12_close rm cs (f_Q sh t R) 137 [.inr (.inr (.inl (12, 123, 4456))), .inl x1, .inl x2, .inr (.inr (.inr ()))] [] M :=
  f_go (KC := f_kc [(172, f_pl [(4466, 12, 123), (1, 0, 0), (1, 0, 0), (0, 0, 0)] [] (fun ls st M => k172 (f_vi (f_nth ls 1)) (f_vi (f_nth ls 2)) M))]) C qX12_closef (f_kc_cons (f_pl_ok rfl (fun ls st M h => h172 _ _ M h)) f_kc_nil) 122 87 h
set_option maxRecDepth 20000 in
theorem BX12_close_172 {sh : Nat → Nat × Nat} {t : Nat} {rm : Nat × Nat × Nat} {cs : Nat × Nat} {R : f_Rt} {c_X12_id : Int → Int → e_M → (Int → Prop) → Prop} {c_X12_isOwner : Int → Int → e_M → (Int → Prop) → Prop} {c_X12_isThere : Int → Int → Int → e_M → (Int → Prop) → Prop} {k137 : Int → Int → e_M → Prop} {x1 : Int} {x2 : Int} {M : e_M} (C : f_Hy sh t yX12_close rm cs 6 (lX12_close c_X12_id c_X12_isOwner c_X12_isThere) R) (h137 : ∀ (x1 : Int) (x2 : Int) (M : e_M), k137 x1 x2 M → f_E sh t YX12_close rm cs (f_Q sh t R) 137 [.inr (.inr (.inl (12, 123, 4456))), .inl x1, .inl x2, .inr (.inr (.inr ()))] [] M) (h : VX12_close_172 c_X12_id c_X12_isOwner c_X12_isThere k137 (fun r M => R (some (.inl r)) M) x1 x2 M) : f_E sh t YX12_close rm cs (f_Q sh t R) 172 [.inr (.inr (.inl (12, 123, 4456))), .inl x1, .inl x2, .inr (.inr (.inr ()))] [] M :=
  f_go (KC := f_kc [(137, f_pl [(4466, 12, 123), (1, 0, 0), (1, 0, 0), (0, 0, 0)] [] (fun ls st M => k137 (f_vi (f_nth ls 1)) (f_vi (f_nth ls 2)) M))]) C qX12_closef (f_kc_cons (f_pl_ok rfl (fun ls st M h => h137 _ _ M h)) f_kc_nil) 122 109 h
set_option maxRecDepth 20000 in
theorem BX12_close {sh : Nat → Nat × Nat} {t : Nat} {rm : Nat × Nat × Nat} {cs : Nat × Nat} {R : f_Rt} {c_X12_id : Int → Int → e_M → (Int → Prop) → Prop} {c_X12_isOwner : Int → Int → e_M → (Int → Prop) → Prop} {c_X12_isThere : Int → Int → Int → e_M → (Int → Prop) → Prop} {k25 : Int → Int → e_M → Prop} {M : e_M} (C : f_Hy sh t yX12_close rm cs 6 (lX12_close c_X12_id c_X12_isOwner c_X12_isThere) R) (h25 : ∀ (x1 : Int) (x2 : Int) (M : e_M), k25 x1 x2 M → f_E sh t YX12_close rm cs (f_Q sh t R) 25 [.inr (.inr (.inl (12, 123, 4456))), .inl x1, .inl x2, .inr (.inr (.inr ()))] [] M) (h : VX12_close c_X12_id c_X12_isOwner c_X12_isThere k25 (fun r M => R (some (.inl r)) M) M) : f_E sh t YX12_close rm cs (f_Q sh t R) 0 [.inr (.inr (.inl (12, 123, 4456))), .inr (.inr (.inr ())), .inr (.inr (.inr ())), .inr (.inr (.inr ()))] [] M :=
  f_go (KC := f_kc [(25, f_pl [(4466, 12, 123), (1, 0, 0), (1, 0, 0), (0, 0, 0)] [] (fun ls st M => k25 (f_vi (f_nth ls 1)) (f_vi (f_nth ls 2)) M))]) C qX12_closef (f_kc_cons (f_pl_ok rfl (fun ls st M h => h25 _ _ M h)) f_kc_nil) 122 0 h
def WX12_close_172 (H137 : Int → Int → e_M → Prop) (Q : Int → e_M → Prop) (x1 : Int) (x2 : Int) (M : e_M) : Prop :=
  VX12_close_172 WX12_id WX12_isOwner WX12_isThere H137 Q x1 x2 M
def WX12_close_137 (Q : Int → e_M → Prop) : Nat → Int → Int → e_M → Prop
  | 0, _, _, _ => False
  | n + 1, x1, x2, M =>
    VX12_close_137 WX12_id WX12_isOwner WX12_isThere (WX12_close_172 (WX12_close_137 Q n) Q) Q x1 x2 M
def WX12_close_129 (H63 : Int → Int → e_M → Prop) (Q : Int → e_M → Prop) (x1 : Int) (x2 : Int) (M : e_M) : Prop :=
  VX12_close_129 WX12_id WX12_isOwner WX12_isThere H63 Q x1 x2 M
def WX12_close_123 (H63 : Int → Int → e_M → Prop) (H84 : Int → Int → Int → e_M → Prop) (Q : Int → e_M → Prop) (x1 : Int) (x2 : Int) (x3 : Int) (M : e_M) : Prop :=
  VX12_close_123 WX12_id WX12_isOwner WX12_isThere H84 Q x1 x2 x3 M
def WX12_close_84 (H63 : Int → Int → e_M → Prop) (Q : Int → e_M → Prop) : Nat → Int → Int → Int → e_M → Prop
  | 0, _, _, _, _ => False
  | n + 1, x1, x2, x3, M =>
    VX12_close_84 WX12_id WX12_isOwner WX12_isThere (WX12_close_129 H63 Q) (WX12_close_123 H63 (WX12_close_84 H63 Q n) Q) Q x1 x2 x3 M
def WX12_close_63 (Q : Int → e_M → Prop) : Nat → Int → Int → e_M → Prop
  | 0, _, _, _ => False
  | n + 1, x1, x2, M =>
    VX12_close_63 WX12_id WX12_isOwner WX12_isThere (fun x1 x2 M => ∃ j, WX12_close_137 Q j x1 x2 M) (WX12_close_129 (WX12_close_63 Q n) Q) (fun x1 x2 x3 M => ∃ j, WX12_close_84 (WX12_close_63 Q n) Q j x1 x2 x3 M) Q x1 x2 M
def WX12_close_55 (H25 : Int → Int → e_M → Prop) (Q : Int → e_M → Prop) (x1 : Int) (x2 : Int) (M : e_M) : Prop :=
  VX12_close_55 WX12_id WX12_isOwner WX12_isThere H25 Q x1 x2 M
def WX12_close_25 (Q : Int → e_M → Prop) : Nat → Int → Int → e_M → Prop
  | 0, _, _, _ => False
  | n + 1, x1, x2, M =>
    VX12_close_25 WX12_id WX12_isOwner WX12_isThere (fun x1 x2 M => ∃ j, WX12_close_63 Q j x1 x2 M) (WX12_close_55 (WX12_close_25 Q n) Q) Q x1 x2 M
def WX12_close (M : e_M) (Q : Int → e_M → Prop) : Prop :=
  VX12_close WX12_id WX12_isOwner WX12_isThere (fun x1 x2 M => ∃ j, WX12_close_25 Q j x1 x2 M) Q M
theorem PX12_close_172 {sh : Nat → Nat × Nat} {t : Nat} {rm : Nat × Nat × Nat} {cs : Nat × Nat} {R : f_Rt} {H137 : Int → Int → e_M → Prop} {x1 : Int} {x2 : Int} {M : e_M} (C : f_Hy sh t yX12_close rm cs 6 (lX12_close WX12_id WX12_isOwner WX12_isThere) R) (g137 : ∀ (x1 : Int) (x2 : Int) (M : e_M), H137 x1 x2 M → f_E sh t YX12_close rm cs (f_Q sh t R) 137 [.inr (.inr (.inl (12, 123, 4456))), .inl x1, .inl x2, .inr (.inr (.inr ()))] [] M) (h : WX12_close_172 H137 (fun r M => R (some (.inl r)) M) x1 x2 M) : f_E sh t YX12_close rm cs (f_Q sh t R) 172 [.inr (.inr (.inl (12, 123, 4456))), .inl x1, .inl x2, .inr (.inr (.inr ()))] [] M :=
  BX12_close_172 C g137 h
theorem PX12_close_137 {sh : Nat → Nat × Nat} {t : Nat} {rm : Nat × Nat × Nat} {cs : Nat × Nat} {R : f_Rt} (C : f_Hy sh t yX12_close rm cs 6 (lX12_close WX12_id WX12_isOwner WX12_isThere) R) : ∀ (n : Nat) (x1 : Int) (x2 : Int) (M : e_M), WX12_close_137 (fun r M => R (some (.inl r)) M) n x1 x2 M → f_E sh t YX12_close rm cs (f_Q sh t R) 137 [.inr (.inr (.inl (12, 123, 4456))), .inl x1, .inl x2, .inr (.inr (.inr ()))] [] M := by
  intro n
  induction n with
  | zero => intro x1 x2 M h; exact h.elim
  | succ n ih => intro x1 x2 M h; exact BX12_close_137 C (fun x1 x2 M h => PX12_close_172 C ih h) h
theorem PX12_close_129 {sh : Nat → Nat × Nat} {t : Nat} {rm : Nat × Nat × Nat} {cs : Nat × Nat} {R : f_Rt} {H63 : Int → Int → e_M → Prop} {x1 : Int} {x2 : Int} {M : e_M} (C : f_Hy sh t yX12_close rm cs 6 (lX12_close WX12_id WX12_isOwner WX12_isThere) R) (g63 : ∀ (x1 : Int) (x2 : Int) (M : e_M), H63 x1 x2 M → f_E sh t YX12_close rm cs (f_Q sh t R) 63 [.inr (.inr (.inl (12, 123, 4456))), .inl x1, .inl x2, .inr (.inr (.inr ()))] [] M) (h : WX12_close_129 H63 (fun r M => R (some (.inl r)) M) x1 x2 M) : f_E sh t YX12_close rm cs (f_Q sh t R) 129 [.inr (.inr (.inl (12, 123, 4456))), .inl x1, .inl x2, .inr (.inr (.inr ()))] [] M :=
  BX12_close_129 C g63 h
theorem PX12_close_123 {sh : Nat → Nat × Nat} {t : Nat} {rm : Nat × Nat × Nat} {cs : Nat × Nat} {R : f_Rt} {H63 : Int → Int → e_M → Prop} {H84 : Int → Int → Int → e_M → Prop} {x1 : Int} {x2 : Int} {x3 : Int} {M : e_M} (C : f_Hy sh t yX12_close rm cs 6 (lX12_close WX12_id WX12_isOwner WX12_isThere) R) (g63 : ∀ (x1 : Int) (x2 : Int) (M : e_M), H63 x1 x2 M → f_E sh t YX12_close rm cs (f_Q sh t R) 63 [.inr (.inr (.inl (12, 123, 4456))), .inl x1, .inl x2, .inr (.inr (.inr ()))] [] M) (g84 : ∀ (x1 : Int) (x2 : Int) (x3 : Int) (M : e_M), H84 x1 x2 x3 M → f_E sh t YX12_close rm cs (f_Q sh t R) 84 [.inr (.inr (.inl (12, 123, 4456))), .inl x1, .inl x2, .inl x3] [] M) (h : WX12_close_123 H63 H84 (fun r M => R (some (.inl r)) M) x1 x2 x3 M) : f_E sh t YX12_close rm cs (f_Q sh t R) 123 [.inr (.inr (.inl (12, 123, 4456))), .inl x1, .inl x2, .inl x3] [] M :=
  BX12_close_123 C g84 h
theorem PX12_close_84 {sh : Nat → Nat × Nat} {t : Nat} {rm : Nat × Nat × Nat} {cs : Nat × Nat} {R : f_Rt} {H63 : Int → Int → e_M → Prop} (C : f_Hy sh t yX12_close rm cs 6 (lX12_close WX12_id WX12_isOwner WX12_isThere) R) (g63 : ∀ (x1 : Int) (x2 : Int) (M : e_M), H63 x1 x2 M → f_E sh t YX12_close rm cs (f_Q sh t R) 63 [.inr (.inr (.inl (12, 123, 4456))), .inl x1, .inl x2, .inr (.inr (.inr ()))] [] M) : ∀ (n : Nat) (x1 : Int) (x2 : Int) (x3 : Int) (M : e_M), WX12_close_84 H63 (fun r M => R (some (.inl r)) M) n x1 x2 x3 M → f_E sh t YX12_close rm cs (f_Q sh t R) 84 [.inr (.inr (.inl (12, 123, 4456))), .inl x1, .inl x2, .inl x3] [] M := by
  intro n
  induction n with
  | zero => intro x1 x2 x3 M h; exact h.elim
  | succ n ih => intro x1 x2 x3 M h; exact BX12_close_84 C (fun x1 x2 M h => PX12_close_129 C g63 h) (fun x1 x2 x3 M h => PX12_close_123 C g63 ih h) h
theorem PX12_close_63 {sh : Nat → Nat × Nat} {t : Nat} {rm : Nat × Nat × Nat} {cs : Nat × Nat} {R : f_Rt} (C : f_Hy sh t yX12_close rm cs 6 (lX12_close WX12_id WX12_isOwner WX12_isThere) R) : ∀ (n : Nat) (x1 : Int) (x2 : Int) (M : e_M), WX12_close_63 (fun r M => R (some (.inl r)) M) n x1 x2 M → f_E sh t YX12_close rm cs (f_Q sh t R) 63 [.inr (.inr (.inl (12, 123, 4456))), .inl x1, .inl x2, .inr (.inr (.inr ()))] [] M := by
  intro n
  induction n with
  | zero => intro x1 x2 M h; exact h.elim
  | succ n ih => intro x1 x2 M h; exact BX12_close_63 C (fun x1 x2 M ⟨j, h⟩ => PX12_close_137 C j _ _ _ h) (fun x1 x2 M h => PX12_close_129 C ih h) (fun x1 x2 x3 M ⟨j, h⟩ => PX12_close_84 C ih j _ _ _ _ h) h
theorem PX12_close_55 {sh : Nat → Nat × Nat} {t : Nat} {rm : Nat × Nat × Nat} {cs : Nat × Nat} {R : f_Rt} {H25 : Int → Int → e_M → Prop} {x1 : Int} {x2 : Int} {M : e_M} (C : f_Hy sh t yX12_close rm cs 6 (lX12_close WX12_id WX12_isOwner WX12_isThere) R) (g25 : ∀ (x1 : Int) (x2 : Int) (M : e_M), H25 x1 x2 M → f_E sh t YX12_close rm cs (f_Q sh t R) 25 [.inr (.inr (.inl (12, 123, 4456))), .inl x1, .inl x2, .inr (.inr (.inr ()))] [] M) (h : WX12_close_55 H25 (fun r M => R (some (.inl r)) M) x1 x2 M) : f_E sh t YX12_close rm cs (f_Q sh t R) 55 [.inr (.inr (.inl (12, 123, 4456))), .inl x1, .inl x2, .inr (.inr (.inr ()))] [] M :=
  BX12_close_55 C g25 h
theorem PX12_close_25 {sh : Nat → Nat × Nat} {t : Nat} {rm : Nat × Nat × Nat} {cs : Nat × Nat} {R : f_Rt} (C : f_Hy sh t yX12_close rm cs 6 (lX12_close WX12_id WX12_isOwner WX12_isThere) R) : ∀ (n : Nat) (x1 : Int) (x2 : Int) (M : e_M), WX12_close_25 (fun r M => R (some (.inl r)) M) n x1 x2 M → f_E sh t YX12_close rm cs (f_Q sh t R) 25 [.inr (.inr (.inl (12, 123, 4456))), .inl x1, .inl x2, .inr (.inr (.inr ()))] [] M := by
  intro n
  induction n with
  | zero => intro x1 x2 M h; exact h.elim
  | succ n ih => intro x1 x2 M h; exact BX12_close_25 C (fun x1 x2 M ⟨j, h⟩ => PX12_close_63 C j _ _ _ h) (fun x1 x2 M h => PX12_close_55 C ih h) h
theorem PX12_close {sh : Nat → Nat × Nat} {t : Nat} {rm : Nat × Nat × Nat} {cs : Nat × Nat} {R : f_Rt} {M : e_M} (C : f_Hy sh t yX12_close rm cs 6 (lX12_close WX12_id WX12_isOwner WX12_isThere) R) (h : WX12_close M (fun r M => R (some (.inl r)) M)) : f_E sh t YX12_close rm cs (f_Q sh t R) 0 [.inr (.inr (.inl (12, 123, 4456))), .inr (.inr (.inr ())), .inr (.inr (.inr ())), .inr (.inr (.inr ()))] [] M :=
  BX12_close C (fun x1 x2 M ⟨j, h⟩ => PX12_close_25 C j _ _ _ h) h
def wX12_close : f_Wt := f_wm [(4466, 12, 123)] (fun ar M R => WX12_close M (fun r M => R (some (.inl r)) M))
theorem TX12_close {sh : Nat → Nat × Nat} {t : Nat} : f_Mt sh t YX12_close 6 (wX12_close) :=
  f_Mt_of (k := 3) (Nat.le_of_ble_eq_true rfl) rfl rfl (fun ar M R rm cs h1 h2 h3 hX h => PX12_close ⟨Nat.le_of_ble_eq_true rfl, h1, h2, h3, ⟨(f_Mt.up (Nat.le_of_ble_eq_true rfl) TX12_id), (f_Mt.up (Nat.le_of_ble_eq_true rfl) TX12_isOwner), (f_Mt.up (Nat.le_of_ble_eq_true rfl) TX12_isThere), trivial⟩, hX⟩ h)
def VX12_sell_73 (c_X12_isAble : Int → Int → e_M → (Int → Prop) → Prop) (c_X12_loads : Int → e_M → (e_M → Prop) → Prop) (c_X12_ownAt : Int → e_M → (Int → Prop) → Prop) (c_X12_areParts : Int → Int → e_M → (Int → e_M → Prop) → Prop) (c_X12_isBarred : Int → Int → e_M → (Int → Prop) → Prop) (c_X12_gives : Int → Int → Int → e_M → (e_M → Prop) → Prop) (c_X12_parted : Int → Int → Int → e_M → (e_M → Prop) → Prop) (c_X12_isGreat : e_M → (Int → Prop) → Prop) (c_X12_keeps : Int → e_M → (e_M → Prop) → Prop) (c_X12_times : Int → Int → Int → Int → e_M → (e_M → Prop) → Prop) (k101 : Int → Int → Int → Int → Int → Int → e_M → Prop) (Q : Int → e_M → Prop) (x1 : Int) (x2 : Int) (x3 : Int) (x4 : Int) (xs0 : Int) (M : e_M) : Prop :=
  ((0 ≤ x1 ∧ x1 < 152) ∧ (((M 4469 (x1.toNat)) ≤ 0 → ((0 ≤ x4 ∧ x4 < 16) ∧ (k101 x1 x2 x3 x4 xs0 (M 4519 (x4.toNat)) M))) ∧ (0 < (M 4469 (x1.toNat)) → ((0 ≤ x1 ∧ x1 < 152) ∧ (k101 x1 x2 x3 x4 xs0 (M 4469 (x1.toNat)) M)))))
def VX12_sell_101 (c_X12_isAble : Int → Int → e_M → (Int → Prop) → Prop) (c_X12_loads : Int → e_M → (e_M → Prop) → Prop) (c_X12_ownAt : Int → e_M → (Int → Prop) → Prop) (c_X12_areParts : Int → Int → e_M → (Int → e_M → Prop) → Prop) (c_X12_isBarred : Int → Int → e_M → (Int → Prop) → Prop) (c_X12_gives : Int → Int → Int → e_M → (e_M → Prop) → Prop) (c_X12_parted : Int → Int → Int → e_M → (e_M → Prop) → Prop) (c_X12_isGreat : e_M → (Int → Prop) → Prop) (c_X12_keeps : Int → e_M → (e_M → Prop) → Prop) (c_X12_times : Int → Int → Int → Int → e_M → (e_M → Prop) → Prop) (k322 : Int → Int → Int → Int → e_M → Prop) (Q : Int → e_M → Prop) (x1 : Int) (x2 : Int) (x3 : Int) (x4 : Int) (x5 : Int) (xs0 : Int) (M : e_M) : Prop :=
  ((0 ≤ x4 ∧ x4 < 16) ∧ ((0 ≤ x4 ∧ x4 < 16) ∧ (((e_w64 ((M 4518 (x4.toNat)) * xs0)) < (e_w64 (x5 * (M 4519 (x4.toNat)))) → (Q 6 M)) ∧ ((e_w64 (x5 * (M 4519 (x4.toNat)))) ≤ (e_w64 ((M 4518 (x4.toNat)) * xs0)) → (c_X12_areParts x1 x3 M (fun r1 M2 => ((¬ r1 = 0 → (c_X12_isBarred x2 x3 M2 (fun r3 => ((r3 = 0 → (c_X12_gives x3 x5 xs0 M2 (fun M4 => (c_X12_parted x1 x5 xs0 M4 (fun M5 => (c_X12_isGreat M5 (fun r6 => ((r6 = 0 → ((8 < (M5 4456 87) → (Q 7 M5)) ∧ ((M5 4456 87) ≤ 8 → ((¬ (M5 4456 73) = 60 → (c_X12_keeps x2 M5 (fun M7 => ((0 ≤ x1 ∧ x1 < 152) ∧ ((0 ≤ x2 ∧ x2 < 560) ∧ (∀ M8 : e_M, M8 = e_up M7 4490 (x2.toNat) (M7 4464 (x1.toNat)) → ((0 ≤ (M8 4456 73) ∧ (M8 4456 73) < 60) ∧ (∀ M9 : e_M, M9 = e_up M8 4506 ((M8 4456 73).toNat) x2 → ((0 ≤ (M9 4456 73) ∧ (M9 4456 73) < 60) ∧ (∀ M10 : e_M, M10 = e_up M9 4507 ((M9 4456 73).toNat) x3 → ((0 ≤ (M10 4456 73) ∧ (M10 4456 73) < 60) ∧ (∀ M11 : e_M, M11 = e_up M10 4508 ((M10 4456 73).toNat) (M10 4456 86) → ((0 ≤ (M11 4456 73) ∧ (M11 4456 73) < 60) ∧ (∀ M12 : e_M, M12 = e_up M11 4509 ((M11 4456 73).toNat) (M11 4456 85) → (∀ M13 : e_M, M13 = e_up M12 4456 85 (e_w32 ((M12 4456 85) + 1)) → ((0 ≤ (M13 4456 73) ∧ (M13 4456 73) < 60) ∧ (∀ M14 : e_M, M14 = e_up M13 4512 ((M13 4456 73).toNat) x5 → ((0 ≤ (M14 4456 73) ∧ (M14 4456 73) < 60) ∧ (∀ M15 : e_M, M15 = e_up M14 4513 ((M14 4456 73).toNat) xs0 → (((0 ≤ (M15 4456 73) ∧ (M15 4456 73) < 60) ∧ ((0 : Int) = 0 ∨ (0 : Int) = 1)) ∧ (∀ M16 : e_M, M16 = e_up M15 4516 ((M15 4456 73).toNat) 0 → ((0 ≤ x1 ∧ x1 < 152) ∧ ((0 ≤ (M16 4456 73) ∧ (M16 4456 73) < 60) ∧ (∀ M17 : e_M, M17 = e_up M16 4510 ((M16 4456 73).toNat) (M16 4470 (x1.toNat)) → (k322 x1 x5 xs0 0 M17))))))))))))))))))))))))) ∧ ((M5 4456 73) = 60 → (Q 7 M5)))))) ∧ (¬ r6 = 0 → (Q 6 M5)))))))))) ∧ (¬ r3 = 0 → (Q 4 M2)))))) ∧ (r1 = 0 → (Q 6 M2)))))))))
def VX12_sell_322 (c_X12_isAble : Int → Int → e_M → (Int → Prop) → Prop) (c_X12_loads : Int → e_M → (e_M → Prop) → Prop) (c_X12_ownAt : Int → e_M → (Int → Prop) → Prop) (c_X12_areParts : Int → Int → e_M → (Int → e_M → Prop) → Prop) (c_X12_isBarred : Int → Int → e_M → (Int → Prop) → Prop) (c_X12_gives : Int → Int → Int → e_M → (e_M → Prop) → Prop) (c_X12_parted : Int → Int → Int → e_M → (e_M → Prop) → Prop) (c_X12_isGreat : e_M → (Int → Prop) → Prop) (c_X12_keeps : Int → e_M → (e_M → Prop) → Prop) (c_X12_times : Int → Int → Int → Int → e_M → (e_M → Prop) → Prop) (k322 : Int → Int → Int → Int → e_M → Prop) (Q : Int → e_M → Prop) (x1 : Int) (x5 : Int) (x7 : Int) (x9 : Int) (M : e_M) : Prop :=
  ((0 ≤ x1 ∧ x1 < 152) ∧ (((M 4470 (x1.toNat)) ≤ x9 → (∀ M1 : e_M, M1 = e_up M 4456 73 (e_w32 ((M 4456 73) + 1)) → (Q 0 M1))) ∧ (x9 < (M 4470 (x1.toNat)) → ((0 ≤ (e_w32 ((e_w32 ((6 : Int) * x1)) + x9)) ∧ (e_w32 ((e_w32 ((6 : Int) * x1)) + x9)) < 912) ∧ ((0 ≤ (e_w32 ((e_w32 ((6 : Int) * x1)) + x9)) ∧ (e_w32 ((e_w32 ((6 : Int) * x1)) + x9)) < 912) ∧ (c_X12_times x5 x7 (M 4472 ((e_w32 ((e_w32 ((6 : Int) * x1)) + x9)).toNat)) (M 4473 ((e_w32 ((e_w32 ((6 : Int) * x1)) + x9)).toNat)) M (fun M2 => ((0 ≤ x1 ∧ x1 < 152) ∧ ((0 ≤ (e_w32 ((M2 4471 (x1.toNat)) + x9)) ∧ (e_w32 ((M2 4471 (x1.toNat)) + x9)) < 10) ∧ ((0 ≤ (e_w32 ((e_w32 ((6 : Int) * (M2 4456 73))) + x9)) ∧ (e_w32 ((e_w32 ((6 : Int) * (M2 4456 73))) + x9)) < 360) ∧ (∀ M3 : e_M, M3 = e_up M2 4511 ((e_w32 ((e_w32 ((6 : Int) * (M2 4456 73))) + x9)).toNat) (M2 4520 ((e_w32 ((M2 4471 (x1.toNat)) + x9)).toNat)) → ((0 ≤ (e_w32 ((e_w32 ((6 : Int) * (M3 4456 73))) + x9)) ∧ (e_w32 ((e_w32 ((6 : Int) * (M3 4456 73))) + x9)) < 360) ∧ (∀ M4 : e_M, M4 = e_up M3 4514 ((e_w32 ((e_w32 ((6 : Int) * (M3 4456 73))) + x9)).toNat) (M3 4456 38) → ((0 ≤ (e_w32 ((e_w32 ((6 : Int) * (M4 4456 73))) + x9)) ∧ (e_w32 ((e_w32 ((6 : Int) * (M4 4456 73))) + x9)) < 360) ∧ (∀ M5 : e_M, M5 = e_up M4 4515 ((e_w32 ((e_w32 ((6 : Int) * (M4 4456 73))) + x9)).toNat) (M4 4456 39) → (k322 x1 x5 x7 (e_w32 (x9 + 1)) M5))))))))))))))))
def VX12_sell (c_X12_isAble : Int → Int → e_M → (Int → Prop) → Prop) (c_X12_loads : Int → e_M → (e_M → Prop) → Prop) (c_X12_ownAt : Int → e_M → (Int → Prop) → Prop) (c_X12_areParts : Int → Int → e_M → (Int → e_M → Prop) → Prop) (c_X12_isBarred : Int → Int → e_M → (Int → Prop) → Prop) (c_X12_gives : Int → Int → Int → e_M → (e_M → Prop) → Prop) (c_X12_parted : Int → Int → Int → e_M → (e_M → Prop) → Prop) (c_X12_isGreat : e_M → (Int → Prop) → Prop) (c_X12_keeps : Int → e_M → (e_M → Prop) → Prop) (c_X12_times : Int → Int → Int → Int → e_M → (e_M → Prop) → Prop) (k73 : Int → Int → Int → Int → Int → e_M → Prop) (Q : Int → e_M → Prop) (x1 : Int) (M : e_M) : Prop :=
  ((0 ≤ (0 : Int) ∧ (0 : Int) < 10) ∧ ((0 ≤ (1 : Int) ∧ (1 : Int) < 10) ∧ (c_X12_isAble (M 4520 ((1 : Int).toNat)) (M 4456 86) M (fun r1 => ((¬ r1 = 0 → (c_X12_loads (M 4520 ((0 : Int).toNat)) M (fun M2 => (c_X12_ownAt (M 4520 ((1 : Int).toNat)) M2 (fun r3 => ((0 ≤ r3 → ((0 ≤ x1 ∧ x1 < 152) ∧ (((M2 4469 (x1.toNat)) ≤ 0 → ((0 ≤ r3 ∧ r3 < 16) ∧ (k73 x1 (M 4520 ((0 : Int).toNat)) (M 4520 ((1 : Int).toNat)) r3 (M2 4518 (r3.toNat)) M2))) ∧ (0 < (M2 4469 (x1.toNat)) → ((0 ≤ x1 ∧ x1 < 152) ∧ (k73 x1 (M 4520 ((0 : Int).toNat)) (M 4520 ((1 : Int).toNat)) r3 (M2 4468 (x1.toNat)) M2)))))) ∧ (r3 < 0 → (Q 2 M2)))))))) ∧ (r1 = 0 → (Q 2 M)))))))
def yX12_sell (i : Nat) : e_Y := x_get YX12_sell [YX12_isAble, YX12_loads, YX12_ownAt, YX12_areParts, YX12_isBarred, YX12_gives, YX12_parted, YX12_isGreat, YX12_keeps, YX12_times] i
def pX12_sellf : List x_I := [(0, 4, 1, 0, 0, 0, []), (1, 25, 12, 91, 4, 0, [(0, 20, 10), (0, 1, 64)]), (4, 0, 1, 0, 0, 0, []), (5, 27, 0, 0, 0, 0, []), (6, 5, 1, 2, 0, 0, []), (7, 4, 1, 0, 0, 0, []), (8, 25, 12, 91, 4, 0, [(0, 20, 10), (0, 1, 64)]), (11, 0, 1, 0, 0, 1, []), (12, 27, 0, 0, 0, 0, []), (13, 5, 1, 3, 0, 0, []), (14, 4, 1, 0, 0, 0, []), (15, 2, 1, 3, 0, 0, []), (16, 4, 1, 0, 0, 0, []), (17, 25, 12, 86, 0, 0, []), (20, 40, 0, 3, 14, 0, []), (23, 17, 28, 1, 19, 0, []), (26, 0, 1, 0, 0, 2, []), (27, 41, 0, 0, 0, 0, []), (28, 4, 1, 0, 0, 0, []), (29, 2, 1, 2, 0, 0, []), (30, 40, 1, 2, 14, 0, []), (33, 4, 1, 0, 0, 0, []), (34, 2, 1, 3, 0, 0, []), (35, 40, 2, 2, 14, 0, []), (38, 5, 2, 4, 0, 0, []), (40, 2, 2, 4, 0, 0, []), (42, 17, 47, 3, 30, 0, []), (45, 0, 1, 0, 0, 2, []), (46, 41, 0, 0, 0, 0, []), (47, 4, 1, 0, 0, 0, []), (48, 25, 12, 22, 4, 0, [(0, 20, 152), (0, 1, 13)]), (51, 2, 1, 1, 0, 0, []), (52, 27, 0, 0, 0, 0, []), (53, 17, 66, 5, 41, 0, []), (56, 4, 1, 0, 0, 0, []), (57, 25, 12, 21, 4, 0, [(0, 20, 152), (0, 1, 12)]), (60, 2, 1, 1, 0, 0, []), (61, 27, 0, 0, 0, 0, []), (62, 14, 0, 0, 0, 0, []), (63, 19, 73, 0, 45, 0, []), (66, 4, 1, 0, 0, 0, []), (67, 25, 12, 89, 4, 0, [(0, 23, 16), (0, 1, 62)]), (70, 2, 2, 4, 0, 0, []), (72, 27, 0, 1, 0, 0, []), (73, 49, 0, 0, 0, 0, []), (73, 6, 2, 5, 0, 0, []), (75, 4, 1, 0, 0, 0, []), (76, 25, 12, 22, 4, 0, [(0, 20, 152), (0, 1, 13)]), (79, 2, 1, 1, 0, 0, []), (80, 27, 0, 0, 0, 0, []), (81, 17, 94, 5, 58, 0, []), (84, 4, 1, 0, 0, 0, []), (85, 25, 12, 22, 4, 0, [(0, 20, 152), (0, 1, 13)]), (88, 2, 1, 1, 0, 0, []), (89, 27, 0, 0, 0, 0, []), (90, 14, 0, 0, 0, 0, []), (91, 19, 101, 0, 62, 0, []), (94, 4, 1, 0, 0, 0, []), (95, 25, 12, 90, 4, 0, [(0, 23, 16), (0, 1, 63)]), (98, 2, 2, 4, 0, 0, []), (100, 27, 0, 1, 0, 0, []), (101, 49, 0, 0, 0, 0, []), (101, 6, 2, 7, 0, 0, []), (103, 3, 2, 5, 0, 0, []), (105, 4, 1, 0, 0, 0, []), (106, 25, 12, 90, 4, 0, [(0, 23, 16), (0, 1, 63)]), (109, 2, 2, 4, 0, 0, []), (111, 27, 0, 1, 0, 0, []), (112, 10, 0, 2, 0, 0, []), (113, 4, 1, 0, 0, 0, []), (114, 25, 12, 89, 4, 0, [(0, 23, 16), (0, 1, 62)]), (117, 2, 2, 4, 0, 0, []), (119, 27, 0, 1, 0, 0, []), (120, 3, 2, 7, 0, 0, []), (122, 10, 0, 2, 0, 0, []), (123, 32, 136, 4, 82, 0, []), (127, 4, 1, 0, 0, 0, []), (128, 2, 1, 1, 0, 0, []), (129, 2, 1, 3, 0, 0, []), (130, 40, 3, 3, 14, 0, []), (133, 17, 139, 1, 84, 0, []), (136, 0, 2, 0, 0, 6, []), (138, 41, 0, 0, 0, 0, []), (139, 4, 1, 0, 0, 0, []), (140, 2, 1, 2, 0, 0, []), (141, 2, 1, 3, 0, 0, []), (142, 40, 4, 3, 14, 0, []), (145, 17, 150, 0, 91, 0, []), (148, 0, 1, 0, 0, 4, []), (149, 41, 0, 0, 0, 0, []), (150, 4, 1, 0, 0, 0, []), (151, 2, 1, 3, 0, 0, []), (152, 3, 2, 5, 0, 0, []), (154, 3, 2, 7, 0, 0, []), (156, 40, 5, 4, 14, 0, []), (159, 4, 1, 0, 0, 0, []), (160, 2, 1, 1, 0, 0, []), (161, 3, 2, 5, 0, 0, []), (163, 3, 2, 7, 0, 0, []), (165, 40, 6, 4, 14, 0, []), (168, 4, 1, 0, 0, 0, []), (169, 40, 7, 1, 14, 0, []), (172, 17, 178, 0, 106, 0, []), (175, 0, 2, 0, 0, 6, []), (177, 41, 0, 0, 0, 0, []), (178, 4, 1, 0, 0, 0, []), (179, 25, 12, 87, 0, 0, []), (182, 0, 2, 0, 0, 8, []), (184, 18, 196, 4, 114, 0, []), (187, 4, 1, 0, 0, 0, []), (188, 25, 12, 73, 0, 0, []), (191, 0, 2, 0, 0, 60, []), (193, 18, 199, 1, 116, 0, []), (196, 0, 2, 0, 0, 7, []), (198, 41, 0, 0, 0, 0, []), (199, 4, 1, 0, 0, 0, []), (200, 2, 1, 2, 0, 0, []), (201, 40, 8, 2, 14, 0, []), (204, 4, 1, 0, 0, 0, []), (205, 25, 12, 57, 4, 0, [(0, 20, 560), (0, 1, 34)]), (208, 2, 1, 2, 0, 0, []), (209, 4, 1, 0, 0, 0, []), (210, 25, 12, 17, 4, 0, [(0, 20, 152), (0, 1, 8)]), (213, 2, 1, 1, 0, 0, []), (214, 27, 0, 0, 0, 0, []), (215, 28, 0, 0, 0, 0, []), (216, 4, 1, 0, 0, 0, []), (217, 25, 12, 74, 4, 0, [(0, 20, 60), (0, 1, 50)]), (220, 4, 1, 0, 0, 0, []), (221, 25, 12, 73, 0, 0, []), (224, 2, 1, 2, 0, 0, []), (225, 28, 0, 0, 0, 0, []), (226, 4, 1, 0, 0, 0, []), (227, 25, 12, 75, 4, 0, [(0, 20, 60), (0, 1, 51)]), (230, 4, 1, 0, 0, 0, []), (231, 25, 12, 73, 0, 0, []), (234, 2, 1, 3, 0, 0, []), (235, 28, 0, 0, 0, 0, []), (236, 4, 1, 0, 0, 0, []), (237, 25, 12, 76, 4, 0, [(0, 20, 60), (0, 1, 52)]), (240, 4, 1, 0, 0, 0, []), (241, 25, 12, 73, 0, 0, []), (244, 4, 1, 0, 0, 0, []), (245, 25, 12, 86, 0, 0, []), (248, 28, 0, 0, 0, 0, []), (249, 4, 1, 0, 0, 0, []), (250, 25, 12, 77, 4, 0, [(0, 20, 60), (0, 1, 53)]), (253, 4, 1, 0, 0, 0, []), (254, 25, 12, 73, 0, 0, []), (257, 4, 1, 0, 0, 0, []), (258, 25, 12, 85, 0, 0, []), (261, 28, 0, 0, 0, 0, []), (262, 4, 1, 0, 0, 0, []), (263, 20, 0, 0, 0, 0, []), (264, 25, 12, 85, 0, 0, []), (267, 0, 1, 0, 0, 1, []), (268, 9, 0, 0, 0, 0, []), (269, 26, 12, 85, 0, 0, []), (272, 4, 1, 0, 0, 0, []), (273, 25, 12, 80, 4, 0, [(0, 23, 60), (0, 1, 56)]), (276, 4, 1, 0, 0, 0, []), (277, 25, 12, 73, 0, 0, []), (280, 3, 2, 5, 0, 0, []), (282, 28, 0, 1, 0, 0, []), (283, 4, 1, 0, 0, 0, []), (284, 25, 12, 81, 4, 0, [(0, 23, 60), (0, 1, 57)]), (287, 4, 1, 0, 0, 0, []), (288, 25, 12, 73, 0, 0, []), (291, 3, 2, 7, 0, 0, []), (293, 28, 0, 1, 0, 0, []), (294, 4, 1, 0, 0, 0, []), (295, 25, 12, 84, 4, 0, [(0, 21, 60), (0, 1, 60)]), (298, 4, 1, 0, 0, 0, []), (299, 25, 12, 73, 0, 0, []), (302, 0, 1, 0, 0, 0, []), (303, 29, 0, 0, 0, 0, []), (304, 4, 1, 0, 0, 0, []), (305, 25, 12, 78, 4, 0, [(0, 20, 60), (0, 1, 54)]), (308, 4, 1, 0, 0, 0, []), (309, 25, 12, 73, 0, 0, []), (312, 4, 1, 0, 0, 0, []), (313, 25, 12, 23, 4, 0, [(0, 20, 152), (0, 1, 14)]), (316, 2, 1, 1, 0, 0, []), (317, 27, 0, 0, 0, 0, []), (318, 28, 0, 0, 0, 0, []), (319, 0, 1, 0, 0, 0, []), (320, 5, 2, 9, 0, 0, []), (322, 49, 0, 0, 0, 0, []), (322, 2, 2, 9, 0, 0, []), (324, 4, 1, 0, 0, 0, []), (325, 25, 12, 23, 4, 0, [(0, 20, 152), (0, 1, 14)]), (328, 2, 1, 1, 0, 0, []), (329, 27, 0, 0, 0, 0, []), (330, 18, 440, 3, 259, 0, []), (333, 4, 1, 0, 0, 0, []), (334, 3, 2, 5, 0, 0, []), (336, 3, 2, 7, 0, 0, []), (338, 4, 1, 0, 0, 0, []), (339, 25, 12, 25, 4, 0, [(0, 20, 912), (0, 1, 16)]), (342, 0, 2, 0, 0, 6, []), (344, 2, 1, 1, 0, 0, []), (345, 9, 0, 2, 0, 0, []), (346, 2, 2, 9, 0, 0, []), (348, 9, 0, 0, 0, 0, []), (349, 27, 0, 0, 0, 0, []), (350, 14, 0, 0, 0, 0, []), (351, 4, 1, 0, 0, 0, []), (352, 25, 12, 26, 4, 0, [(0, 20, 912), (0, 1, 17)]), (355, 0, 2, 0, 0, 6, []), (357, 2, 1, 1, 0, 0, []), (358, 9, 0, 2, 0, 0, []), (359, 2, 2, 9, 0, 0, []), (361, 9, 0, 0, 0, 0, []), (362, 27, 0, 0, 0, 0, []), (363, 14, 0, 0, 0, 0, []), (364, 40, 9, 5, 14, 0, []), (367, 4, 1, 0, 0, 0, []), (368, 25, 12, 79, 4, 0, [(0, 20, 360), (0, 1, 55)]), (371, 0, 2, 0, 0, 6, []), (373, 4, 1, 0, 0, 0, []), (374, 25, 12, 73, 0, 0, []), (377, 9, 0, 2, 0, 0, []), (378, 2, 2, 9, 0, 0, []), (380, 9, 0, 0, 0, 0, []), (381, 4, 1, 0, 0, 0, []), (382, 25, 12, 91, 4, 0, [(0, 20, 10), (0, 1, 64)]), (385, 4, 1, 0, 0, 0, []), (386, 25, 12, 24, 4, 0, [(0, 20, 152), (0, 1, 15)]), (389, 2, 1, 1, 0, 0, []), (390, 27, 0, 0, 0, 0, []), (391, 2, 2, 9, 0, 0, []), (393, 9, 0, 0, 0, 0, []), (394, 27, 0, 0, 0, 0, []), (395, 28, 0, 0, 0, 0, []), (396, 4, 1, 0, 0, 0, []), (397, 25, 12, 82, 4, 0, [(0, 23, 360), (0, 1, 58)]), (400, 0, 2, 0, 0, 6, []), (402, 4, 1, 0, 0, 0, []), (403, 25, 12, 73, 0, 0, []), (406, 9, 0, 2, 0, 0, []), (407, 2, 2, 9, 0, 0, []), (409, 9, 0, 0, 0, 0, []), (410, 4, 1, 0, 0, 0, []), (411, 25, 12, 38, 3, 0, []), (414, 28, 0, 1, 0, 0, []), (415, 4, 1, 0, 0, 0, []), (416, 25, 12, 83, 4, 0, [(0, 23, 360), (0, 1, 59)]), (419, 0, 2, 0, 0, 6, []), (421, 4, 1, 0, 0, 0, []), (422, 25, 12, 73, 0, 0, []), (425, 9, 0, 2, 0, 0, []), (426, 2, 2, 9, 0, 0, []), (428, 9, 0, 0, 0, 0, []), (429, 4, 1, 0, 0, 0, []), (430, 25, 12, 39, 3, 0, []), (433, 28, 0, 1, 0, 0, []), (434, 8, 0, 9, 0, 1, []), (437, 19, 322, 0, 188, 0, []), (440, 4, 1, 0, 0, 0, []), (441, 20, 0, 0, 0, 0, []), (442, 25, 12, 73, 0, 0, []), (445, 0, 1, 0, 0, 1, []), (446, 9, 0, 0, 0, 0, []), (447, 26, 12, 73, 0, 0, []), (450, 0, 1, 0, 0, 0, []), (451, 41, 0, 0, 0, 0, [])]
set_option maxRecDepth 20000 in
theorem qX12_sellf : f_all yX12_sell YX12_sell pX12_sellf :=
  ⟨f_aload_n (n := 0) (e_dx DX12_sell_0 0 rfl) rfl,
  f_getA (e_dx DX12_sell_0 1 rfl) fX12_202 rfl (by decide) (Nat.le_of_ble_eq_true rfl) rfl (by decide),
  f_iconst (e_dx DX12_sell_0 2 rfl) ⟨by decide, by decide⟩,
  f_iaload (e_dx DX12_sell_0 3 rfl),
  f_istore_n (n := 2) (e_dx DX12_sell_0 4 rfl) rfl (by decide),
  f_aload_n (n := 0) (e_dx DX12_sell_0 5 rfl) rfl,
  f_getA (e_dx DX12_sell_0 6 rfl) fX12_202 rfl (by decide) (Nat.le_of_ble_eq_true rfl) rfl (by decide),
  f_iconst (e_dx DX12_sell_0 7 rfl) ⟨by decide, by decide⟩,
  f_iaload (e_dx DX12_sell_0 8 rfl),
  f_istore_n (n := 3) (e_dx DX12_sell_0 9 rfl) rfl (by decide),
  f_aload_n (n := 0) (e_dx DX12_sell_0 10 rfl) rfl,
  f_iload_n (n := 3) (e_dx DX12_sell_0 11 rfl) rfl,
  f_aload_n (n := 0) (e_dx DX12_sell_0 12 rfl) rfl,
  f_getf (e_dx DX12_sell_0 13 rfl) fX12_543 rfl (by decide) (by decide) (by decide),
  x_callV (e_dx DX12_sell_0 14 rfl) mwX12_isAble vwX12_isAble cX12_582 rfl,
  f_if_ne (e_dx DX12_sell_0 15 rfl) rfl,
  f_iconst (e_dx DX12_sell_0 16 rfl) ⟨by decide, by decide⟩,
  ⟨(e_dx DX12_sell_0 17 rfl), rfl⟩,
  f_aload_n (n := 0) (e_dx DX12_sell_0 18 rfl) rfl,
  f_iload_n (n := 2) (e_dx DX12_sell_0 19 rfl) rfl,
  x_callV (e_dx DX12_sell_0 20 rfl) mwX12_loads vwX12_loads cX12_673 rfl,
  f_aload_n (n := 0) (e_dx DX12_sell_0 21 rfl) rfl,
  f_iload_n (n := 3) (e_dx DX12_sell_0 22 rfl) rfl,
  x_callV (e_dx DX12_sell_0 23 rfl) mwX12_ownAt vwX12_ownAt cX12_558 rfl,
  f_istore (e_dx DX12_sell_0 24 rfl) (by decide),
  f_iload (e_dx DX12_sell_0 25 rfl),
  f_if_ge (e_dx DX12_sell_0 26 rfl) rfl,
  f_iconst (e_dx DX12_sell_0 27 rfl) ⟨by decide, by decide⟩,
  ⟨(e_dx DX12_sell_0 28 rfl), rfl⟩,
  f_aload_n (n := 0) (e_dx DX12_sell_0 29 rfl) rfl,
  f_getA (e_dx DX12_sell_0 30 rfl) fX12_48 rfl (by decide) (Nat.le_of_ble_eq_true rfl) rfl (by decide),
  f_iload_n (n := 1) (e_dx DX12_sell_0 31 rfl) rfl,
  f_iaload (e_dx DX12_sell_0 32 rfl),
  f_if_le (e_dx DX12_sell_0 33 rfl) rfl,
  f_aload_n (n := 0) (e_dx DX12_sell_0 34 rfl) rfl,
  f_getA (e_dx DX12_sell_0 35 rfl) fX12_45 rfl (by decide) (Nat.le_of_ble_eq_true rfl) rfl (by decide),
  f_iload_n (n := 1) (e_dx DX12_sell_0 36 rfl) rfl,
  f_iaload (e_dx DX12_sell_0 37 rfl),
  f_g14 (e_dx DX12_sell_0 38 rfl),
  f_g19 (e_dx DX12_sell_0 39 rfl) rfl,
  f_aload_n (n := 0) (e_dx DX12_sell_1 0 rfl) rfl,
  f_getA (e_dx DX12_sell_1 1 rfl) fX12_196 rfl (by decide) (Nat.le_of_ble_eq_true rfl) rfl (by decide),
  f_iload (e_dx DX12_sell_1 2 rfl),
  f_laload (e_dx DX12_sell_1 3 rfl),
  trivial,
  f_lstore (e_dx DX12_sell_1 4 rfl) (by decide),
  f_aload_n (n := 0) (e_dx DX12_sell_1 5 rfl) rfl,
  f_getA (e_dx DX12_sell_1 6 rfl) fX12_48 rfl (by decide) (Nat.le_of_ble_eq_true rfl) rfl (by decide),
  f_iload_n (n := 1) (e_dx DX12_sell_1 7 rfl) rfl,
  f_iaload (e_dx DX12_sell_1 8 rfl),
  f_if_le (e_dx DX12_sell_1 9 rfl) rfl,
  f_aload_n (n := 0) (e_dx DX12_sell_1 10 rfl) rfl,
  f_getA (e_dx DX12_sell_1 11 rfl) fX12_48 rfl (by decide) (Nat.le_of_ble_eq_true rfl) rfl (by decide),
  f_iload_n (n := 1) (e_dx DX12_sell_1 12 rfl) rfl,
  f_iaload (e_dx DX12_sell_1 13 rfl),
  f_g14 (e_dx DX12_sell_1 14 rfl),
  f_g19 (e_dx DX12_sell_1 15 rfl) rfl,
  f_aload_n (n := 0) (e_dx DX12_sell_1 16 rfl) rfl,
  f_getA (e_dx DX12_sell_1 17 rfl) fX12_199 rfl (by decide) (Nat.le_of_ble_eq_true rfl) rfl (by decide),
  f_iload (e_dx DX12_sell_1 18 rfl),
  f_laload (e_dx DX12_sell_1 19 rfl),
  trivial,
  f_lstore (e_dx DX12_sell_1 20 rfl) (by decide),
  f_lload (e_dx DX12_sell_1 21 rfl),
  f_aload_n (n := 0) (e_dx DX12_sell_1 22 rfl) rfl,
  f_getA (e_dx DX12_sell_1 23 rfl) fX12_199 rfl (by decide) (Nat.le_of_ble_eq_true rfl) rfl (by decide),
  f_iload (e_dx DX12_sell_1 24 rfl),
  f_laload (e_dx DX12_sell_1 25 rfl),
  f_lmul (e_dx DX12_sell_1 26 rfl),
  f_aload_n (n := 0) (e_dx DX12_sell_1 27 rfl) rfl,
  f_getA (e_dx DX12_sell_1 28 rfl) fX12_196 rfl (by decide) (Nat.le_of_ble_eq_true rfl) rfl (by decide),
  f_iload (e_dx DX12_sell_1 29 rfl),
  f_laload (e_dx DX12_sell_1 30 rfl),
  f_lload (e_dx DX12_sell_1 31 rfl),
  f_lmul (e_dx DX12_sell_1 32 rfl),
  f_lif_gt (e_dx DX12_sell_1 33 rfl) (e_dx DX12_sell_1 34 rfl) rfl,
  f_aload_n (n := 0) (e_dx DX12_sell_1 35 rfl) rfl,
  f_iload_n (n := 1) (e_dx DX12_sell_1 36 rfl) rfl,
  f_iload_n (n := 3) (e_dx DX12_sell_1 37 rfl) rfl,
  x_callV (e_dx DX12_sell_1 38 rfl) mwX12_areParts vwX12_areParts cX12_682 rfl,
  f_if_ne (e_dx DX12_sell_1 39 rfl) rfl,
  f_bipush (e_dx DX12_sell_2 0 rfl) ⟨by decide, by decide⟩,
  ⟨(e_dx DX12_sell_2 1 rfl), rfl⟩,
  f_aload_n (n := 0) (e_dx DX12_sell_2 2 rfl) rfl,
  f_iload_n (n := 2) (e_dx DX12_sell_2 3 rfl) rfl,
  f_iload_n (n := 3) (e_dx DX12_sell_2 4 rfl) rfl,
  x_callV (e_dx DX12_sell_2 5 rfl) mwX12_isBarred vwX12_isBarred cX12_698 rfl,
  f_if_eq (e_dx DX12_sell_2 6 rfl) rfl,
  f_iconst (e_dx DX12_sell_2 7 rfl) ⟨by decide, by decide⟩,
  ⟨(e_dx DX12_sell_2 8 rfl), rfl⟩,
  f_aload_n (n := 0) (e_dx DX12_sell_2 9 rfl) rfl,
  f_iload_n (n := 3) (e_dx DX12_sell_2 10 rfl) rfl,
  f_lload (e_dx DX12_sell_2 11 rfl),
  f_lload (e_dx DX12_sell_2 12 rfl),
  x_callV (e_dx DX12_sell_2 13 rfl) mwX12_gives vwX12_gives cX12_676 rfl,
  f_aload_n (n := 0) (e_dx DX12_sell_2 14 rfl) rfl,
  f_iload_n (n := 1) (e_dx DX12_sell_2 15 rfl) rfl,
  f_lload (e_dx DX12_sell_2 16 rfl),
  f_lload (e_dx DX12_sell_2 17 rfl),
  x_callV (e_dx DX12_sell_2 18 rfl) mwX12_parted vwX12_parted cX12_679 rfl,
  f_aload_n (n := 0) (e_dx DX12_sell_2 19 rfl) rfl,
  x_callV (e_dx DX12_sell_2 20 rfl) mwX12_isGreat vwX12_isGreat cX12_689 rfl,
  f_if_eq (e_dx DX12_sell_2 21 rfl) rfl,
  f_bipush (e_dx DX12_sell_2 22 rfl) ⟨by decide, by decide⟩,
  ⟨(e_dx DX12_sell_2 23 rfl), rfl⟩,
  f_aload_n (n := 0) (e_dx DX12_sell_2 24 rfl) rfl,
  f_getf (e_dx DX12_sell_2 25 rfl) fX12_555 rfl (by decide) (by decide) (by decide),
  f_bipush (e_dx DX12_sell_2 26 rfl) ⟨by decide, by decide⟩,
  f_icmp_gt (e_dx DX12_sell_2 27 rfl) rfl,
  f_aload_n (n := 0) (e_dx DX12_sell_2 28 rfl) rfl,
  f_getf (e_dx DX12_sell_2 29 rfl) fX12_526 rfl (by decide) (by decide) (by decide),
  f_bipush (e_dx DX12_sell_2 30 rfl) ⟨by decide, by decide⟩,
  f_icmp_ne (e_dx DX12_sell_2 31 rfl) rfl,
  f_bipush (e_dx DX12_sell_2 32 rfl) ⟨by decide, by decide⟩,
  ⟨(e_dx DX12_sell_2 33 rfl), rfl⟩,
  f_aload_n (n := 0) (e_dx DX12_sell_2 34 rfl) rfl,
  f_iload_n (n := 2) (e_dx DX12_sell_2 35 rfl) rfl,
  x_callV (e_dx DX12_sell_2 36 rfl) mwX12_keeps vwX12_keeps cX12_692 rfl,
  f_aload_n (n := 0) (e_dx DX12_sell_2 37 rfl) rfl,
  f_getA (e_dx DX12_sell_2 38 rfl) fX12_112 rfl (by decide) (Nat.le_of_ble_eq_true rfl) rfl (by decide),
  f_iload_n (n := 2) (e_dx DX12_sell_2 39 rfl) rfl,
  f_aload_n (n := 0) (e_dx DX12_sell_3 0 rfl) rfl,
  f_getA (e_dx DX12_sell_3 1 rfl) fX12_33 rfl (by decide) (Nat.le_of_ble_eq_true rfl) rfl (by decide),
  f_iload_n (n := 1) (e_dx DX12_sell_3 2 rfl) rfl,
  f_iaload (e_dx DX12_sell_3 3 rfl),
  f_iastore (e_dx DX12_sell_3 4 rfl),
  f_aload_n (n := 0) (e_dx DX12_sell_3 5 rfl) rfl,
  f_getA (e_dx DX12_sell_3 6 rfl) fX12_160 rfl (by decide) (Nat.le_of_ble_eq_true rfl) rfl (by decide),
  f_aload_n (n := 0) (e_dx DX12_sell_3 7 rfl) rfl,
  f_getf (e_dx DX12_sell_3 8 rfl) fX12_526 rfl (by decide) (by decide) (by decide),
  f_iload_n (n := 2) (e_dx DX12_sell_3 9 rfl) rfl,
  f_iastore (e_dx DX12_sell_3 10 rfl),
  f_aload_n (n := 0) (e_dx DX12_sell_3 11 rfl) rfl,
  f_getA (e_dx DX12_sell_3 12 rfl) fX12_163 rfl (by decide) (Nat.le_of_ble_eq_true rfl) rfl (by decide),
  f_aload_n (n := 0) (e_dx DX12_sell_3 13 rfl) rfl,
  f_getf (e_dx DX12_sell_3 14 rfl) fX12_526 rfl (by decide) (by decide) (by decide),
  f_iload_n (n := 3) (e_dx DX12_sell_3 15 rfl) rfl,
  f_iastore (e_dx DX12_sell_3 16 rfl),
  f_aload_n (n := 0) (e_dx DX12_sell_3 17 rfl) rfl,
  f_getA (e_dx DX12_sell_3 18 rfl) fX12_166 rfl (by decide) (Nat.le_of_ble_eq_true rfl) rfl (by decide),
  f_aload_n (n := 0) (e_dx DX12_sell_3 19 rfl) rfl,
  f_getf (e_dx DX12_sell_3 20 rfl) fX12_526 rfl (by decide) (by decide) (by decide),
  f_aload_n (n := 0) (e_dx DX12_sell_3 21 rfl) rfl,
  f_getf (e_dx DX12_sell_3 22 rfl) fX12_543 rfl (by decide) (by decide) (by decide),
  f_iastore (e_dx DX12_sell_3 23 rfl),
  f_aload_n (n := 0) (e_dx DX12_sell_3 24 rfl) rfl,
  f_getA (e_dx DX12_sell_3 25 rfl) fX12_169 rfl (by decide) (Nat.le_of_ble_eq_true rfl) rfl (by decide),
  f_aload_n (n := 0) (e_dx DX12_sell_3 26 rfl) rfl,
  f_getf (e_dx DX12_sell_3 27 rfl) fX12_526 rfl (by decide) (by decide) (by decide),
  f_aload_n (n := 0) (e_dx DX12_sell_3 28 rfl) rfl,
  f_getf (e_dx DX12_sell_3 29 rfl) fX12_529 rfl (by decide) (by decide) (by decide),
  f_iastore (e_dx DX12_sell_3 30 rfl),
  f_aload_n (n := 0) (e_dx DX12_sell_3 31 rfl) rfl,
  f_g20 (e_dx DX12_sell_3 32 rfl),
  f_getf (e_dx DX12_sell_3 33 rfl) fX12_529 rfl (by decide) (by decide) (by decide),
  f_iconst (e_dx DX12_sell_3 34 rfl) ⟨by decide, by decide⟩,
  f_iadd (e_dx DX12_sell_3 35 rfl),
  f_putn (e_dx DX12_sell_3 36 rfl) fX12_529 (fun q hq => by cases hq; rfl) rfl (Or.inl rfl) (by decide),
  f_aload_n (n := 0) (e_dx DX12_sell_3 37 rfl) rfl,
  f_getA (e_dx DX12_sell_3 38 rfl) fX12_178 rfl (by decide) (Nat.le_of_ble_eq_true rfl) rfl (by decide),
  f_aload_n (n := 0) (e_dx DX12_sell_3 39 rfl) rfl,
  f_getf (e_dx DX12_sell_4 0 rfl) fX12_526 rfl (by decide) (by decide) (by decide),
  f_lload (e_dx DX12_sell_4 1 rfl),
  f_lastore (e_dx DX12_sell_4 2 rfl),
  f_aload_n (n := 0) (e_dx DX12_sell_4 3 rfl) rfl,
  f_getA (e_dx DX12_sell_4 4 rfl) fX12_181 rfl (by decide) (Nat.le_of_ble_eq_true rfl) rfl (by decide),
  f_aload_n (n := 0) (e_dx DX12_sell_4 5 rfl) rfl,
  f_getf (e_dx DX12_sell_4 6 rfl) fX12_526 rfl (by decide) (by decide) (by decide),
  f_lload (e_dx DX12_sell_4 7 rfl),
  f_lastore (e_dx DX12_sell_4 8 rfl),
  f_aload_n (n := 0) (e_dx DX12_sell_4 9 rfl) rfl,
  f_getA (e_dx DX12_sell_4 10 rfl) fX12_190 rfl (by decide) (Nat.le_of_ble_eq_true rfl) rfl (by decide),
  f_aload_n (n := 0) (e_dx DX12_sell_4 11 rfl) rfl,
  f_getf (e_dx DX12_sell_4 12 rfl) fX12_526 rfl (by decide) (by decide) (by decide),
  f_iconst (e_dx DX12_sell_4 13 rfl) ⟨by decide, by decide⟩,
  f_g29 (e_dx DX12_sell_4 14 rfl),
  f_aload_n (n := 0) (e_dx DX12_sell_4 15 rfl) rfl,
  f_getA (e_dx DX12_sell_4 16 rfl) fX12_172 rfl (by decide) (Nat.le_of_ble_eq_true rfl) rfl (by decide),
  f_aload_n (n := 0) (e_dx DX12_sell_4 17 rfl) rfl,
  f_getf (e_dx DX12_sell_4 18 rfl) fX12_526 rfl (by decide) (by decide) (by decide),
  f_aload_n (n := 0) (e_dx DX12_sell_4 19 rfl) rfl,
  f_getA (e_dx DX12_sell_4 20 rfl) fX12_51 rfl (by decide) (Nat.le_of_ble_eq_true rfl) rfl (by decide),
  f_iload_n (n := 1) (e_dx DX12_sell_4 21 rfl) rfl,
  f_iaload (e_dx DX12_sell_4 22 rfl),
  f_iastore (e_dx DX12_sell_4 23 rfl),
  f_iconst (e_dx DX12_sell_4 24 rfl) ⟨by decide, by decide⟩,
  f_istore (e_dx DX12_sell_4 25 rfl) (by decide),
  trivial,
  f_iload (e_dx DX12_sell_4 26 rfl),
  f_aload_n (n := 0) (e_dx DX12_sell_4 27 rfl) rfl,
  f_getA (e_dx DX12_sell_4 28 rfl) fX12_51 rfl (by decide) (Nat.le_of_ble_eq_true rfl) rfl (by decide),
  f_iload_n (n := 1) (e_dx DX12_sell_4 29 rfl) rfl,
  f_iaload (e_dx DX12_sell_4 30 rfl),
  f_icmp_ge (e_dx DX12_sell_4 31 rfl) rfl,
  f_aload_n (n := 0) (e_dx DX12_sell_4 32 rfl) rfl,
  f_lload (e_dx DX12_sell_4 33 rfl),
  f_lload (e_dx DX12_sell_4 34 rfl),
  f_aload_n (n := 0) (e_dx DX12_sell_4 35 rfl) rfl,
  f_getA (e_dx DX12_sell_4 36 rfl) fX12_57 rfl (by decide) (Nat.le_of_ble_eq_true rfl) rfl (by decide),
  f_bipush (e_dx DX12_sell_4 37 rfl) ⟨by decide, by decide⟩,
  f_iload_n (n := 1) (e_dx DX12_sell_4 38 rfl) rfl,
  f_imul (e_dx DX12_sell_4 39 rfl),
  f_iload (e_dx DX12_sell_5 0 rfl),
  f_iadd (e_dx DX12_sell_5 1 rfl),
  f_iaload (e_dx DX12_sell_5 2 rfl),
  f_g14 (e_dx DX12_sell_5 3 rfl),
  f_aload_n (n := 0) (e_dx DX12_sell_5 4 rfl) rfl,
  f_getA (e_dx DX12_sell_5 5 rfl) fX12_60 rfl (by decide) (Nat.le_of_ble_eq_true rfl) rfl (by decide),
  f_bipush (e_dx DX12_sell_5 6 rfl) ⟨by decide, by decide⟩,
  f_iload_n (n := 1) (e_dx DX12_sell_5 7 rfl) rfl,
  f_imul (e_dx DX12_sell_5 8 rfl),
  f_iload (e_dx DX12_sell_5 9 rfl),
  f_iadd (e_dx DX12_sell_5 10 rfl),
  f_iaload (e_dx DX12_sell_5 11 rfl),
  f_g14 (e_dx DX12_sell_5 12 rfl),
  x_callV (e_dx DX12_sell_5 13 rfl) mwX12_times vwX12_times cX12_666 rfl,
  f_aload_n (n := 0) (e_dx DX12_sell_5 14 rfl) rfl,
  f_getA (e_dx DX12_sell_5 15 rfl) fX12_175 rfl (by decide) (Nat.le_of_ble_eq_true rfl) rfl (by decide),
  f_bipush (e_dx DX12_sell_5 16 rfl) ⟨by decide, by decide⟩,
  f_aload_n (n := 0) (e_dx DX12_sell_5 17 rfl) rfl,
  f_getf (e_dx DX12_sell_5 18 rfl) fX12_526 rfl (by decide) (by decide) (by decide),
  f_imul (e_dx DX12_sell_5 19 rfl),
  f_iload (e_dx DX12_sell_5 20 rfl),
  f_iadd (e_dx DX12_sell_5 21 rfl),
  f_aload_n (n := 0) (e_dx DX12_sell_5 22 rfl) rfl,
  f_getA (e_dx DX12_sell_5 23 rfl) fX12_202 rfl (by decide) (Nat.le_of_ble_eq_true rfl) rfl (by decide),
  f_aload_n (n := 0) (e_dx DX12_sell_5 24 rfl) rfl,
  f_getA (e_dx DX12_sell_5 25 rfl) fX12_54 rfl (by decide) (Nat.le_of_ble_eq_true rfl) rfl (by decide),
  f_iload_n (n := 1) (e_dx DX12_sell_5 26 rfl) rfl,
  f_iaload (e_dx DX12_sell_5 27 rfl),
  f_iload (e_dx DX12_sell_5 28 rfl),
  f_iadd (e_dx DX12_sell_5 29 rfl),
  f_iaload (e_dx DX12_sell_5 30 rfl),
  f_iastore (e_dx DX12_sell_5 31 rfl),
  f_aload_n (n := 0) (e_dx DX12_sell_5 32 rfl) rfl,
  f_getA (e_dx DX12_sell_5 33 rfl) fX12_184 rfl (by decide) (Nat.le_of_ble_eq_true rfl) rfl (by decide),
  f_bipush (e_dx DX12_sell_5 34 rfl) ⟨by decide, by decide⟩,
  f_aload_n (n := 0) (e_dx DX12_sell_5 35 rfl) rfl,
  f_getf (e_dx DX12_sell_5 36 rfl) fX12_526 rfl (by decide) (by decide) (by decide),
  f_imul (e_dx DX12_sell_5 37 rfl),
  f_iload (e_dx DX12_sell_5 38 rfl),
  f_iadd (e_dx DX12_sell_5 39 rfl),
  f_aload_n (n := 0) (e_dx DX12_sell_6 0 rfl) rfl,
  f_getL (e_dx DX12_sell_6 1 rfl) fX12_413 rfl (by decide),
  f_lastore (e_dx DX12_sell_6 2 rfl),
  f_aload_n (n := 0) (e_dx DX12_sell_6 3 rfl) rfl,
  f_getA (e_dx DX12_sell_6 4 rfl) fX12_187 rfl (by decide) (Nat.le_of_ble_eq_true rfl) rfl (by decide),
  f_bipush (e_dx DX12_sell_6 5 rfl) ⟨by decide, by decide⟩,
  f_aload_n (n := 0) (e_dx DX12_sell_6 6 rfl) rfl,
  f_getf (e_dx DX12_sell_6 7 rfl) fX12_526 rfl (by decide) (by decide) (by decide),
  f_imul (e_dx DX12_sell_6 8 rfl),
  f_iload (e_dx DX12_sell_6 9 rfl),
  f_iadd (e_dx DX12_sell_6 10 rfl),
  f_aload_n (n := 0) (e_dx DX12_sell_6 11 rfl) rfl,
  f_getL (e_dx DX12_sell_6 12 rfl) fX12_416 rfl (by decide),
  f_lastore (e_dx DX12_sell_6 13 rfl),
  f_g8 (e_dx DX12_sell_6 14 rfl) ⟨by decide, by decide⟩,
  f_g19 (e_dx DX12_sell_6 15 rfl) rfl,
  f_aload_n (n := 0) (e_dx DX12_sell_6 16 rfl) rfl,
  f_g20 (e_dx DX12_sell_6 17 rfl),
  f_getf (e_dx DX12_sell_6 18 rfl) fX12_526 rfl (by decide) (by decide) (by decide),
  f_iconst (e_dx DX12_sell_6 19 rfl) ⟨by decide, by decide⟩,
  f_iadd (e_dx DX12_sell_6 20 rfl),
  f_putn (e_dx DX12_sell_6 21 rfl) fX12_526 (fun q hq => by cases hq; rfl) rfl (Or.inl rfl) (by decide),
  f_iconst (e_dx DX12_sell_6 22 rfl) ⟨by decide, by decide⟩,
  ⟨(e_dx DX12_sell_6 23 rfl), rfl⟩, trivial⟩
def lX12_sell (c_X12_isAble : Int → Int → e_M → (Int → Prop) → Prop) (c_X12_loads : Int → e_M → (e_M → Prop) → Prop) (c_X12_ownAt : Int → e_M → (Int → Prop) → Prop) (c_X12_areParts : Int → Int → e_M → (Int → e_M → Prop) → Prop) (c_X12_isBarred : Int → Int → e_M → (Int → Prop) → Prop) (c_X12_gives : Int → Int → Int → e_M → (e_M → Prop) → Prop) (c_X12_parted : Int → Int → Int → e_M → (e_M → Prop) → Prop) (c_X12_isGreat : e_M → (Int → Prop) → Prop) (c_X12_keeps : Int → e_M → (e_M → Prop) → Prop) (c_X12_times : Int → Int → Int → Int → e_M → (e_M → Prop) → Prop) : List (Nat × f_Wt) := [(0, f_wm [(4466, 12, 123), (1, 0, 0), (1, 0, 0)] (fun ar M R => c_X12_isAble (f_vi (f_nth ar 1)) (f_vi (f_nth ar 2)) M (fun r => R (some (.inl r)) M))), (1, f_wm [(4466, 12, 123), (1, 0, 0)] (fun ar M R => c_X12_loads (f_vi (f_nth ar 1)) M (fun M => R none M))), (2, f_wm [(4466, 12, 123), (1, 0, 0)] (fun ar M R => c_X12_ownAt (f_vi (f_nth ar 1)) M (fun r => R (some (.inl r)) M))), (3, f_wm [(4466, 12, 123), (1, 0, 0), (1, 0, 0)] (fun ar M R => c_X12_areParts (f_vi (f_nth ar 1)) (f_vi (f_nth ar 2)) M (fun r M => R (some (.inl r)) M))), (4, f_wm [(4466, 12, 123), (1, 0, 0), (1, 0, 0)] (fun ar M R => c_X12_isBarred (f_vi (f_nth ar 1)) (f_vi (f_nth ar 2)) M (fun r => R (some (.inl r)) M))), (5, f_wm [(4466, 12, 123), (1, 0, 0), (2, 0, 0), (2, 0, 0)] (fun ar M R => c_X12_gives (f_vi (f_nth ar 1)) (f_vi (f_nth ar 2)) (f_vi (f_nth ar 3)) M (fun M => R none M))), (6, f_wm [(4466, 12, 123), (1, 0, 0), (2, 0, 0), (2, 0, 0)] (fun ar M R => c_X12_parted (f_vi (f_nth ar 1)) (f_vi (f_nth ar 2)) (f_vi (f_nth ar 3)) M (fun M => R none M))), (7, f_wm [(4466, 12, 123)] (fun ar M R => c_X12_isGreat  M (fun r => R (some (.inl r)) M))), (8, f_wm [(4466, 12, 123), (1, 0, 0)] (fun ar M R => c_X12_keeps (f_vi (f_nth ar 1)) M (fun M => R none M))), (9, f_wm [(4466, 12, 123), (2, 0, 0), (2, 0, 0), (2, 0, 0), (2, 0, 0)] (fun ar M R => c_X12_times (f_vi (f_nth ar 1)) (f_vi (f_nth ar 2)) (f_vi (f_nth ar 3)) (f_vi (f_nth ar 4)) M (fun M => R none M)))]
set_option maxRecDepth 20000 in
theorem BX12_sell_73 {sh : Nat → Nat × Nat} {t : Nat} {rm : Nat × Nat × Nat} {cs : Nat × Nat} {R : f_Rt} {c_X12_isAble : Int → Int → e_M → (Int → Prop) → Prop} {c_X12_loads : Int → e_M → (e_M → Prop) → Prop} {c_X12_ownAt : Int → e_M → (Int → Prop) → Prop} {c_X12_areParts : Int → Int → e_M → (Int → e_M → Prop) → Prop} {c_X12_isBarred : Int → Int → e_M → (Int → Prop) → Prop} {c_X12_gives : Int → Int → Int → e_M → (e_M → Prop) → Prop} {c_X12_parted : Int → Int → Int → e_M → (e_M → Prop) → Prop} {c_X12_isGreat : e_M → (Int → Prop) → Prop} {c_X12_keeps : Int → e_M → (e_M → Prop) → Prop} {c_X12_times : Int → Int → Int → Int → e_M → (e_M → Prop) → Prop} {k101 : Int → Int → Int → Int → Int → Int → e_M → Prop} {x1 : Int} {x2 : Int} {x3 : Int} {x4 : Int} {xs0 : Int} {M : e_M} (C : f_Hy sh t yX12_sell rm cs 10 (lX12_sell c_X12_isAble c_X12_loads c_X12_ownAt c_X12_areParts c_X12_isBarred c_X12_gives c_X12_parted c_X12_isGreat c_X12_keeps c_X12_times) R) (h101 : ∀ (x1 : Int) (x2 : Int) (x3 : Int) (x4 : Int) (x5 : Int) (xs0 : Int) (M : e_M), k101 x1 x2 x3 x4 x5 xs0 M → f_E sh t YX12_sell rm cs (f_Q sh t R) 101 [.inr (.inr (.inl (12, 123, 4456))), .inl x1, .inl x2, .inl x3, .inl x4, .inr (.inl x5), .inr (.inr (.inr ())), .inr (.inr (.inr ())), .inr (.inr (.inr ())), .inr (.inr (.inr ()))] [.inr (.inl xs0)] M) (h : VX12_sell_73 c_X12_isAble c_X12_loads c_X12_ownAt c_X12_areParts c_X12_isBarred c_X12_gives c_X12_parted c_X12_isGreat c_X12_keeps c_X12_times k101 (fun r M => R (some (.inl r)) M) x1 x2 x3 x4 xs0 M) : f_E sh t YX12_sell rm cs (f_Q sh t R) 73 [.inr (.inr (.inl (12, 123, 4456))), .inl x1, .inl x2, .inl x3, .inl x4, .inr (.inr (.inr ())), .inr (.inr (.inr ())), .inr (.inr (.inr ())), .inr (.inr (.inr ())), .inr (.inr (.inr ()))] [.inr (.inl xs0)] M :=
  f_go (KC := f_kc [(101, f_pl [(4466, 12, 123), (1, 0, 0), (1, 0, 0), (1, 0, 0), (1, 0, 0), (2, 0, 0), (0, 0, 0), (0, 0, 0), (0, 0, 0), (0, 0, 0)] [(2, 0, 0)] (fun ls st M => k101 (f_vi (f_nth ls 1)) (f_vi (f_nth ls 2)) (f_vi (f_nth ls 3)) (f_vi (f_nth ls 4)) (f_vi (f_nth ls 5)) (f_vi (f_nth st 0)) M))]) C qX12_sellf (f_kc_cons (f_pl_ok rfl (fun ls st M h => h101 _ _ _ _ _ _ M h)) f_kc_nil) 268 45 h
set_option maxRecDepth 20000 in
theorem BX12_sell_101 {sh : Nat → Nat × Nat} {t : Nat} {rm : Nat × Nat × Nat} {cs : Nat × Nat} {R : f_Rt} {c_X12_isAble : Int → Int → e_M → (Int → Prop) → Prop} {c_X12_loads : Int → e_M → (e_M → Prop) → Prop} {c_X12_ownAt : Int → e_M → (Int → Prop) → Prop} {c_X12_areParts : Int → Int → e_M → (Int → e_M → Prop) → Prop} {c_X12_isBarred : Int → Int → e_M → (Int → Prop) → Prop} {c_X12_gives : Int → Int → Int → e_M → (e_M → Prop) → Prop} {c_X12_parted : Int → Int → Int → e_M → (e_M → Prop) → Prop} {c_X12_isGreat : e_M → (Int → Prop) → Prop} {c_X12_keeps : Int → e_M → (e_M → Prop) → Prop} {c_X12_times : Int → Int → Int → Int → e_M → (e_M → Prop) → Prop} {k322 : Int → Int → Int → Int → e_M → Prop} {x1 : Int} {x2 : Int} {x3 : Int} {x4 : Int} {x5 : Int} {xs0 : Int} {M : e_M} (C : f_Hy sh t yX12_sell rm cs 10 (lX12_sell c_X12_isAble c_X12_loads c_X12_ownAt c_X12_areParts c_X12_isBarred c_X12_gives c_X12_parted c_X12_isGreat c_X12_keeps c_X12_times) R) (h322 : ∀ (x1 : Int) (x5 : Int) (x7 : Int) (x9 : Int) (M : e_M), k322 x1 x5 x7 x9 M → f_E sh t YX12_sell rm cs (f_Q sh t R) 322 [.inr (.inr (.inl (12, 123, 4456))), .inl x1, .inr (.inr (.inr ())), .inr (.inr (.inr ())), .inr (.inr (.inr ())), .inr (.inl x5), .inr (.inr (.inr ())), .inr (.inl x7), .inr (.inr (.inr ())), .inl x9] [] M) (h : VX12_sell_101 c_X12_isAble c_X12_loads c_X12_ownAt c_X12_areParts c_X12_isBarred c_X12_gives c_X12_parted c_X12_isGreat c_X12_keeps c_X12_times k322 (fun r M => R (some (.inl r)) M) x1 x2 x3 x4 x5 xs0 M) : f_E sh t YX12_sell rm cs (f_Q sh t R) 101 [.inr (.inr (.inl (12, 123, 4456))), .inl x1, .inl x2, .inl x3, .inl x4, .inr (.inl x5), .inr (.inr (.inr ())), .inr (.inr (.inr ())), .inr (.inr (.inr ())), .inr (.inr (.inr ()))] [.inr (.inl xs0)] M :=
  f_go (KC := f_kc [(322, f_pl [(4466, 12, 123), (1, 0, 0), (0, 0, 0), (0, 0, 0), (0, 0, 0), (2, 0, 0), (0, 0, 0), (2, 0, 0), (0, 0, 0), (1, 0, 0)] [] (fun ls st M => k322 (f_vi (f_nth ls 1)) (f_vi (f_nth ls 5)) (f_vi (f_nth ls 7)) (f_vi (f_nth ls 9)) M))]) C qX12_sellf (f_kc_cons (f_pl_ok rfl (fun ls st M h => h322 _ _ _ _ M h)) f_kc_nil) 268 62 h
set_option maxRecDepth 20000 in
theorem BX12_sell_322 {sh : Nat → Nat × Nat} {t : Nat} {rm : Nat × Nat × Nat} {cs : Nat × Nat} {R : f_Rt} {c_X12_isAble : Int → Int → e_M → (Int → Prop) → Prop} {c_X12_loads : Int → e_M → (e_M → Prop) → Prop} {c_X12_ownAt : Int → e_M → (Int → Prop) → Prop} {c_X12_areParts : Int → Int → e_M → (Int → e_M → Prop) → Prop} {c_X12_isBarred : Int → Int → e_M → (Int → Prop) → Prop} {c_X12_gives : Int → Int → Int → e_M → (e_M → Prop) → Prop} {c_X12_parted : Int → Int → Int → e_M → (e_M → Prop) → Prop} {c_X12_isGreat : e_M → (Int → Prop) → Prop} {c_X12_keeps : Int → e_M → (e_M → Prop) → Prop} {c_X12_times : Int → Int → Int → Int → e_M → (e_M → Prop) → Prop} {k322 : Int → Int → Int → Int → e_M → Prop} {x1 : Int} {x5 : Int} {x7 : Int} {x9 : Int} {M : e_M} (C : f_Hy sh t yX12_sell rm cs 10 (lX12_sell c_X12_isAble c_X12_loads c_X12_ownAt c_X12_areParts c_X12_isBarred c_X12_gives c_X12_parted c_X12_isGreat c_X12_keeps c_X12_times) R) (h322 : ∀ (x1 : Int) (x5 : Int) (x7 : Int) (x9 : Int) (M : e_M), k322 x1 x5 x7 x9 M → f_E sh t YX12_sell rm cs (f_Q sh t R) 322 [.inr (.inr (.inl (12, 123, 4456))), .inl x1, .inr (.inr (.inr ())), .inr (.inr (.inr ())), .inr (.inr (.inr ())), .inr (.inl x5), .inr (.inr (.inr ())), .inr (.inl x7), .inr (.inr (.inr ())), .inl x9] [] M) (h : VX12_sell_322 c_X12_isAble c_X12_loads c_X12_ownAt c_X12_areParts c_X12_isBarred c_X12_gives c_X12_parted c_X12_isGreat c_X12_keeps c_X12_times k322 (fun r M => R (some (.inl r)) M) x1 x5 x7 x9 M) : f_E sh t YX12_sell rm cs (f_Q sh t R) 322 [.inr (.inr (.inl (12, 123, 4456))), .inl x1, .inr (.inr (.inr ())), .inr (.inr (.inr ())), .inr (.inr (.inr ())), .inr (.inl x5), .inr (.inr (.inr ())), .inr (.inl x7), .inr (.inr (.inr ())), .inl x9] [] M :=
  f_go (KC := f_kc [(322, f_pl [(4466, 12, 123), (1, 0, 0), (0, 0, 0), (0, 0, 0), (0, 0, 0), (2, 0, 0), (0, 0, 0), (2, 0, 0), (0, 0, 0), (1, 0, 0)] [] (fun ls st M => k322 (f_vi (f_nth ls 1)) (f_vi (f_nth ls 5)) (f_vi (f_nth ls 7)) (f_vi (f_nth ls 9)) M))]) C qX12_sellf (f_kc_cons (f_pl_ok rfl (fun ls st M h => h322 _ _ _ _ M h)) f_kc_nil) 268 188 h
set_option maxRecDepth 20000 in
theorem BX12_sell {sh : Nat → Nat × Nat} {t : Nat} {rm : Nat × Nat × Nat} {cs : Nat × Nat} {R : f_Rt} {c_X12_isAble : Int → Int → e_M → (Int → Prop) → Prop} {c_X12_loads : Int → e_M → (e_M → Prop) → Prop} {c_X12_ownAt : Int → e_M → (Int → Prop) → Prop} {c_X12_areParts : Int → Int → e_M → (Int → e_M → Prop) → Prop} {c_X12_isBarred : Int → Int → e_M → (Int → Prop) → Prop} {c_X12_gives : Int → Int → Int → e_M → (e_M → Prop) → Prop} {c_X12_parted : Int → Int → Int → e_M → (e_M → Prop) → Prop} {c_X12_isGreat : e_M → (Int → Prop) → Prop} {c_X12_keeps : Int → e_M → (e_M → Prop) → Prop} {c_X12_times : Int → Int → Int → Int → e_M → (e_M → Prop) → Prop} {k73 : Int → Int → Int → Int → Int → e_M → Prop} {x1 : Int} {M : e_M} (C : f_Hy sh t yX12_sell rm cs 10 (lX12_sell c_X12_isAble c_X12_loads c_X12_ownAt c_X12_areParts c_X12_isBarred c_X12_gives c_X12_parted c_X12_isGreat c_X12_keeps c_X12_times) R) (h73 : ∀ (x1 : Int) (x2 : Int) (x3 : Int) (x4 : Int) (xs0 : Int) (M : e_M), k73 x1 x2 x3 x4 xs0 M → f_E sh t YX12_sell rm cs (f_Q sh t R) 73 [.inr (.inr (.inl (12, 123, 4456))), .inl x1, .inl x2, .inl x3, .inl x4, .inr (.inr (.inr ())), .inr (.inr (.inr ())), .inr (.inr (.inr ())), .inr (.inr (.inr ())), .inr (.inr (.inr ()))] [.inr (.inl xs0)] M) (h : VX12_sell c_X12_isAble c_X12_loads c_X12_ownAt c_X12_areParts c_X12_isBarred c_X12_gives c_X12_parted c_X12_isGreat c_X12_keeps c_X12_times k73 (fun r M => R (some (.inl r)) M) x1 M) : f_E sh t YX12_sell rm cs (f_Q sh t R) 0 [.inr (.inr (.inl (12, 123, 4456))), .inl x1, .inr (.inr (.inr ())), .inr (.inr (.inr ())), .inr (.inr (.inr ())), .inr (.inr (.inr ())), .inr (.inr (.inr ())), .inr (.inr (.inr ())), .inr (.inr (.inr ())), .inr (.inr (.inr ()))] [] M :=
  f_go (KC := f_kc [(73, f_pl [(4466, 12, 123), (1, 0, 0), (1, 0, 0), (1, 0, 0), (1, 0, 0), (0, 0, 0), (0, 0, 0), (0, 0, 0), (0, 0, 0), (0, 0, 0)] [(2, 0, 0)] (fun ls st M => k73 (f_vi (f_nth ls 1)) (f_vi (f_nth ls 2)) (f_vi (f_nth ls 3)) (f_vi (f_nth ls 4)) (f_vi (f_nth st 0)) M))]) C qX12_sellf (f_kc_cons (f_pl_ok rfl (fun ls st M h => h73 _ _ _ _ _ M h)) f_kc_nil) 268 0 h
def WX12_sell_322 (Q : Int → e_M → Prop) : Nat → Int → Int → Int → Int → e_M → Prop
  | 0, _, _, _, _, _ => False
  | n + 1, x1, x5, x7, x9, M =>
    VX12_sell_322 WX12_isAble WX12_loads WX12_ownAt WX12_areParts WX12_isBarred WX12_gives WX12_parted WX12_isGreat WX12_keeps WX12_times (WX12_sell_322 Q n) Q x1 x5 x7 x9 M
def WX12_sell_101 (Q : Int → e_M → Prop) (x1 : Int) (x2 : Int) (x3 : Int) (x4 : Int) (x5 : Int) (xs0 : Int) (M : e_M) : Prop :=
  VX12_sell_101 WX12_isAble WX12_loads WX12_ownAt WX12_areParts WX12_isBarred WX12_gives WX12_parted WX12_isGreat WX12_keeps WX12_times (fun x1 x5 x7 x9 M => ∃ j, WX12_sell_322 Q j x1 x5 x7 x9 M) Q x1 x2 x3 x4 x5 xs0 M
def WX12_sell_73 (Q : Int → e_M → Prop) (x1 : Int) (x2 : Int) (x3 : Int) (x4 : Int) (xs0 : Int) (M : e_M) : Prop :=
  VX12_sell_73 WX12_isAble WX12_loads WX12_ownAt WX12_areParts WX12_isBarred WX12_gives WX12_parted WX12_isGreat WX12_keeps WX12_times (WX12_sell_101 Q) Q x1 x2 x3 x4 xs0 M
def WX12_sell (x1 : Int) (M : e_M) (Q : Int → e_M → Prop) : Prop :=
  VX12_sell WX12_isAble WX12_loads WX12_ownAt WX12_areParts WX12_isBarred WX12_gives WX12_parted WX12_isGreat WX12_keeps WX12_times (WX12_sell_73 Q) Q x1 M
theorem PX12_sell_322 {sh : Nat → Nat × Nat} {t : Nat} {rm : Nat × Nat × Nat} {cs : Nat × Nat} {R : f_Rt} (C : f_Hy sh t yX12_sell rm cs 10 (lX12_sell WX12_isAble WX12_loads WX12_ownAt WX12_areParts WX12_isBarred WX12_gives WX12_parted WX12_isGreat WX12_keeps WX12_times) R) : ∀ (n : Nat) (x1 : Int) (x5 : Int) (x7 : Int) (x9 : Int) (M : e_M), WX12_sell_322 (fun r M => R (some (.inl r)) M) n x1 x5 x7 x9 M → f_E sh t YX12_sell rm cs (f_Q sh t R) 322 [.inr (.inr (.inl (12, 123, 4456))), .inl x1, .inr (.inr (.inr ())), .inr (.inr (.inr ())), .inr (.inr (.inr ())), .inr (.inl x5), .inr (.inr (.inr ())), .inr (.inl x7), .inr (.inr (.inr ())), .inl x9] [] M := by
  intro n
  induction n with
  | zero => intro x1 x5 x7 x9 M h; exact h.elim
  | succ n ih => intro x1 x5 x7 x9 M h; exact BX12_sell_322 C ih h
theorem PX12_sell_101 {sh : Nat → Nat × Nat} {t : Nat} {rm : Nat × Nat × Nat} {cs : Nat × Nat} {R : f_Rt} {x1 : Int} {x2 : Int} {x3 : Int} {x4 : Int} {x5 : Int} {xs0 : Int} {M : e_M} (C : f_Hy sh t yX12_sell rm cs 10 (lX12_sell WX12_isAble WX12_loads WX12_ownAt WX12_areParts WX12_isBarred WX12_gives WX12_parted WX12_isGreat WX12_keeps WX12_times) R) (h : WX12_sell_101 (fun r M => R (some (.inl r)) M) x1 x2 x3 x4 x5 xs0 M) : f_E sh t YX12_sell rm cs (f_Q sh t R) 101 [.inr (.inr (.inl (12, 123, 4456))), .inl x1, .inl x2, .inl x3, .inl x4, .inr (.inl x5), .inr (.inr (.inr ())), .inr (.inr (.inr ())), .inr (.inr (.inr ())), .inr (.inr (.inr ()))] [.inr (.inl xs0)] M :=
  BX12_sell_101 C (fun x1 x5 x7 x9 M ⟨j, h⟩ => PX12_sell_322 C j _ _ _ _ _ h) h
theorem PX12_sell_73 {sh : Nat → Nat × Nat} {t : Nat} {rm : Nat × Nat × Nat} {cs : Nat × Nat} {R : f_Rt} {x1 : Int} {x2 : Int} {x3 : Int} {x4 : Int} {xs0 : Int} {M : e_M} (C : f_Hy sh t yX12_sell rm cs 10 (lX12_sell WX12_isAble WX12_loads WX12_ownAt WX12_areParts WX12_isBarred WX12_gives WX12_parted WX12_isGreat WX12_keeps WX12_times) R) (h : WX12_sell_73 (fun r M => R (some (.inl r)) M) x1 x2 x3 x4 xs0 M) : f_E sh t YX12_sell rm cs (f_Q sh t R) 73 [.inr (.inr (.inl (12, 123, 4456))), .inl x1, .inl x2, .inl x3, .inl x4, .inr (.inr (.inr ())), .inr (.inr (.inr ())), .inr (.inr (.inr ())), .inr (.inr (.inr ())), .inr (.inr (.inr ()))] [.inr (.inl xs0)] M :=
  BX12_sell_73 C (fun x1 x2 x3 x4 x5 xs0 M h => PX12_sell_101 C h) h
theorem PX12_sell {sh : Nat → Nat × Nat} {t : Nat} {rm : Nat × Nat × Nat} {cs : Nat × Nat} {R : f_Rt} {x1 : Int} {M : e_M} (C : f_Hy sh t yX12_sell rm cs 10 (lX12_sell WX12_isAble WX12_loads WX12_ownAt WX12_areParts WX12_isBarred WX12_gives WX12_parted WX12_isGreat WX12_keeps WX12_times) R) (h : WX12_sell x1 M (fun r M => R (some (.inl r)) M)) : f_E sh t YX12_sell rm cs (f_Q sh t R) 0 [.inr (.inr (.inl (12, 123, 4456))), .inl x1, .inr (.inr (.inr ())), .inr (.inr (.inr ())), .inr (.inr (.inr ())), .inr (.inr (.inr ())), .inr (.inr (.inr ())), .inr (.inr (.inr ())), .inr (.inr (.inr ())), .inr (.inr (.inr ()))] [] M :=
  BX12_sell C (fun x1 x2 x3 x4 xs0 M h => PX12_sell_73 C h) h
def wX12_sell : f_Wt := f_wm [(4466, 12, 123), (1, 0, 0)] (fun ar M R => WX12_sell (f_vi (f_nth ar 1)) M (fun r M => R (some (.inl r)) M))
theorem TX12_sell {sh : Nat → Nat × Nat} {t : Nat} : f_Mt sh t YX12_sell 10 (wX12_sell) :=
  f_Mt_of (k := 8) (Nat.le_of_ble_eq_true rfl) rfl rfl (fun ar M R rm cs h1 h2 h3 hX h => PX12_sell ⟨Nat.le_of_ble_eq_true rfl, h1, h2, h3, ⟨(f_Mt.up (Nat.le_of_ble_eq_true rfl) TX12_isAble), (f_Mt.up (Nat.le_of_ble_eq_true rfl) TX12_loads), (f_Mt.up (Nat.le_of_ble_eq_true rfl) TX12_ownAt), (f_Mt.up (Nat.le_of_ble_eq_true rfl) TX12_areParts), (f_Mt.up (Nat.le_of_ble_eq_true rfl) TX12_isBarred), (f_Mt.up (Nat.le_of_ble_eq_true rfl) TX12_gives), (f_Mt.up (Nat.le_of_ble_eq_true rfl) TX12_parted), (f_Mt.up (Nat.le_of_ble_eq_true rfl) TX12_isGreat), (f_Mt.up (Nat.le_of_ble_eq_true rfl) TX12_keeps), (f_Mt.up (Nat.le_of_ble_eq_true rfl) TX12_times), trivial⟩, hX⟩ h)
def VX12_hasPoint_3 (c_X12_lieAt : Int → Int → Int → Int → Int → e_M → (Int → Prop) → Prop) (k3 : Int → Int → Int → Int → Prop) (Q : Int → Prop) (x1 : Int) (x2 : Int) (x3 : Int) (x4 : Int) (M : e_M) : Prop :=
  ((0 ≤ x1 ∧ x1 < 80) ∧ (((M 4503 (x1.toNat)) ≤ x4 → (Q 0)) ∧ (x4 < (M 4503 (x1.toNat)) → ((0 ≤ (e_w32 ((e_w32 ((12 : Int) * x1)) + x4)) ∧ (e_w32 ((e_w32 ((12 : Int) * x1)) + x4)) < 960) ∧ ((0 ≤ (e_w32 ((e_w32 ((12 : Int) * x1)) + x4)) ∧ (e_w32 ((e_w32 ((12 : Int) * x1)) + x4)) < 960) ∧ (c_X12_lieAt x2 x3 (M 4504 ((e_w32 ((e_w32 ((12 : Int) * x1)) + x4)).toNat)) (M 4505 ((e_w32 ((e_w32 ((12 : Int) * x1)) + x4)).toNat)) 1 M (fun r1 => ((r1 ≤ 0 → (k3 x1 x2 x3 (e_w32 (x4 + 1)))) ∧ (0 < r1 → (Q 1))))))))))
def VX12_hasPoint (c_X12_lieAt : Int → Int → Int → Int → Int → e_M → (Int → Prop) → Prop) (k3 : Int → Int → Int → Int → Prop) (Q : Int → Prop) (x1 : Int) (x2 : Int) (x3 : Int) (M : e_M) : Prop :=
  (k3 x1 x2 x3 0)
def yX12_hasPoint (i : Nat) : e_Y := x_get YX12_hasPoint [YX12_lieAt] i
def pX12_hasPointf : List x_I := [(0, 0, 1, 0, 0, 0, []), (1, 5, 2, 4, 0, 0, []), (3, 49, 0, 0, 0, 0, []), (3, 2, 2, 4, 0, 0, []), (5, 4, 1, 0, 0, 0, []), (6, 25, 12, 70, 4, 0, [(0, 20, 80), (0, 1, 47)]), (9, 2, 1, 1, 0, 0, []), (10, 27, 0, 0, 0, 0, []), (11, 18, 58, 3, 38, 0, []), (14, 4, 1, 0, 0, 0, []), (15, 2, 1, 2, 0, 0, []), (16, 2, 1, 3, 0, 0, []), (17, 4, 1, 0, 0, 0, []), (18, 25, 12, 71, 4, 0, [(0, 20, 960), (0, 1, 48)]), (21, 0, 2, 0, 0, 12, []), (23, 2, 1, 1, 0, 0, []), (24, 9, 0, 2, 0, 0, []), (25, 2, 2, 4, 0, 0, []), (27, 9, 0, 0, 0, 0, []), (28, 27, 0, 0, 0, 0, []), (29, 14, 0, 0, 0, 0, []), (30, 4, 1, 0, 0, 0, []), (31, 25, 12, 72, 4, 0, [(0, 20, 960), (0, 1, 49)]), (34, 0, 2, 0, 0, 12, []), (36, 2, 1, 1, 0, 0, []), (37, 9, 0, 2, 0, 0, []), (38, 2, 2, 4, 0, 0, []), (40, 9, 0, 0, 0, 0, []), (41, 27, 0, 0, 0, 0, []), (42, 14, 0, 0, 0, 0, []), (43, 0, 1, 0, 0, 1, []), (44, 40, 0, 6, 14, 0, []), (47, 17, 52, 5, 36, 0, []), (50, 0, 1, 0, 0, 1, []), (51, 48, 0, 0, 0, 0, []), (52, 8, 0, 4, 0, 1, []), (55, 19, 3, 0, 3, 0, []), (58, 0, 1, 0, 0, 0, []), (59, 48, 0, 0, 0, 0, [])]
set_option maxRecDepth 20000 in
theorem qX12_hasPointf : f_all yX12_hasPoint YX12_hasPoint pX12_hasPointf :=
  ⟨f_iconst (e_dx DX12_hasPoint_0 0 rfl) ⟨by decide, by decide⟩,
  f_istore (e_dx DX12_hasPoint_0 1 rfl) (by decide),
  trivial,
  f_iload (e_dx DX12_hasPoint_0 2 rfl),
  f_aload_n (n := 0) (e_dx DX12_hasPoint_0 3 rfl) rfl,
  f_getA (e_dx DX12_hasPoint_0 4 rfl) fX12_151 rfl (by decide) (Nat.le_of_ble_eq_true rfl) rfl (by decide),
  f_iload_n (n := 1) (e_dx DX12_hasPoint_0 5 rfl) rfl,
  f_iaload (e_dx DX12_hasPoint_0 6 rfl),
  f_icmp_ge (e_dx DX12_hasPoint_0 7 rfl) rfl,
  f_aload_n (n := 0) (e_dx DX12_hasPoint_0 8 rfl) rfl,
  f_iload_n (n := 2) (e_dx DX12_hasPoint_0 9 rfl) rfl,
  f_iload_n (n := 3) (e_dx DX12_hasPoint_0 10 rfl) rfl,
  f_aload_n (n := 0) (e_dx DX12_hasPoint_0 11 rfl) rfl,
  f_getA (e_dx DX12_hasPoint_0 12 rfl) fX12_154 rfl (by decide) (Nat.le_of_ble_eq_true rfl) rfl (by decide),
  f_bipush (e_dx DX12_hasPoint_0 13 rfl) ⟨by decide, by decide⟩,
  f_iload_n (n := 1) (e_dx DX12_hasPoint_0 14 rfl) rfl,
  f_imul (e_dx DX12_hasPoint_0 15 rfl),
  f_iload (e_dx DX12_hasPoint_0 16 rfl),
  f_iadd (e_dx DX12_hasPoint_0 17 rfl),
  f_iaload (e_dx DX12_hasPoint_0 18 rfl),
  f_g14 (e_dx DX12_hasPoint_0 19 rfl),
  f_aload_n (n := 0) (e_dx DX12_hasPoint_0 20 rfl) rfl,
  f_getA (e_dx DX12_hasPoint_0 21 rfl) fX12_157 rfl (by decide) (Nat.le_of_ble_eq_true rfl) rfl (by decide),
  f_bipush (e_dx DX12_hasPoint_0 22 rfl) ⟨by decide, by decide⟩,
  f_iload_n (n := 1) (e_dx DX12_hasPoint_0 23 rfl) rfl,
  f_imul (e_dx DX12_hasPoint_0 24 rfl),
  f_iload (e_dx DX12_hasPoint_0 25 rfl),
  f_iadd (e_dx DX12_hasPoint_0 26 rfl),
  f_iaload (e_dx DX12_hasPoint_0 27 rfl),
  f_g14 (e_dx DX12_hasPoint_0 28 rfl),
  f_iconst (e_dx DX12_hasPoint_0 29 rfl) ⟨by decide, by decide⟩,
  x_callV (e_dx DX12_hasPoint_0 30 rfl) mwX12_lieAt vwX12_lieAt cX12_452 rfl,
  f_if_le (e_dx DX12_hasPoint_0 31 rfl) rfl,
  f_iconst (e_dx DX12_hasPoint_0 32 rfl) ⟨by decide, by decide⟩,
  ⟨(e_dx DX12_hasPoint_0 33 rfl), rfl⟩,
  f_g8 (e_dx DX12_hasPoint_0 34 rfl) ⟨by decide, by decide⟩,
  f_g19 (e_dx DX12_hasPoint_0 35 rfl) rfl,
  f_iconst (e_dx DX12_hasPoint_0 36 rfl) ⟨by decide, by decide⟩,
  ⟨(e_dx DX12_hasPoint_0 37 rfl), rfl⟩, trivial⟩
def lX12_hasPoint (c_X12_lieAt : Int → Int → Int → Int → Int → e_M → (Int → Prop) → Prop) : List (Nat × f_Wt) := [(0, f_wm [(4466, 12, 123), (1, 0, 0), (1, 0, 0), (2, 0, 0), (2, 0, 0), (1, 0, 0)] (fun ar M R => c_X12_lieAt (f_vi (f_nth ar 1)) (f_vi (f_nth ar 2)) (f_vi (f_nth ar 3)) (f_vi (f_nth ar 4)) (f_vi (f_nth ar 5)) M (fun r => R (some (.inl r)) M)))]
set_option maxRecDepth 20000 in
theorem BX12_hasPoint_3 {sh : Nat → Nat × Nat} {t : Nat} {rm : Nat × Nat × Nat} {cs : Nat × Nat} {R : f_Rt} {c_X12_lieAt : Int → Int → Int → Int → Int → e_M → (Int → Prop) → Prop} {k3 : Int → Int → Int → Int → Prop} {x1 : Int} {x2 : Int} {x3 : Int} {x4 : Int} {M : e_M} (C : f_Hy sh t yX12_hasPoint rm cs 7 (lX12_hasPoint c_X12_lieAt) R) (h3 : ∀ (x1 : Int) (x2 : Int) (x3 : Int) (x4 : Int), k3 x1 x2 x3 x4 → f_E sh t YX12_hasPoint rm cs (f_Q sh t R) 3 [.inr (.inr (.inl (12, 123, 4456))), .inl x1, .inl x2, .inl x3, .inl x4] [] M) (h : VX12_hasPoint_3 c_X12_lieAt k3 (fun r => R (some (.inl r)) M) x1 x2 x3 x4 M) : f_E sh t YX12_hasPoint rm cs (f_Q sh t R) 3 [.inr (.inr (.inl (12, 123, 4456))), .inl x1, .inl x2, .inl x3, .inl x4] [] M := by
  rw [f_kk4 M k3] at h
  exact f_go (KC := f_kc [(3, f_pl [(4466, 12, 123), (1, 0, 0), (1, 0, 0), (1, 0, 0), (1, 0, 0)] [] (fun ls st M2 => M2 = M ∧ (k3 (f_vi (f_nth ls 1)) (f_vi (f_nth ls 2)) (f_vi (f_nth ls 3)) (f_vi (f_nth ls 4)))))]) C qX12_hasPointf (f_kc_cons (f_pl_ok rfl (fun ls st M2 ⟨e, hh⟩ => by subst e; exact h3 _ _ _ _ hh)) f_kc_nil) 41 3 h
set_option maxRecDepth 20000 in
theorem BX12_hasPoint {sh : Nat → Nat × Nat} {t : Nat} {rm : Nat × Nat × Nat} {cs : Nat × Nat} {R : f_Rt} {c_X12_lieAt : Int → Int → Int → Int → Int → e_M → (Int → Prop) → Prop} {k3 : Int → Int → Int → Int → Prop} {x1 : Int} {x2 : Int} {x3 : Int} {M : e_M} (C : f_Hy sh t yX12_hasPoint rm cs 7 (lX12_hasPoint c_X12_lieAt) R) (h3 : ∀ (x1 : Int) (x2 : Int) (x3 : Int) (x4 : Int), k3 x1 x2 x3 x4 → f_E sh t YX12_hasPoint rm cs (f_Q sh t R) 3 [.inr (.inr (.inl (12, 123, 4456))), .inl x1, .inl x2, .inl x3, .inl x4] [] M) (h : VX12_hasPoint c_X12_lieAt k3 (fun r => R (some (.inl r)) M) x1 x2 x3 M) : f_E sh t YX12_hasPoint rm cs (f_Q sh t R) 0 [.inr (.inr (.inl (12, 123, 4456))), .inl x1, .inl x2, .inl x3, .inr (.inr (.inr ()))] [] M := by
  rw [f_kk4 M k3] at h
  exact f_go (KC := f_kc [(3, f_pl [(4466, 12, 123), (1, 0, 0), (1, 0, 0), (1, 0, 0), (1, 0, 0)] [] (fun ls st M2 => M2 = M ∧ (k3 (f_vi (f_nth ls 1)) (f_vi (f_nth ls 2)) (f_vi (f_nth ls 3)) (f_vi (f_nth ls 4)))))]) C qX12_hasPointf (f_kc_cons (f_pl_ok rfl (fun ls st M2 ⟨e, hh⟩ => by subst e; exact h3 _ _ _ _ hh)) f_kc_nil) 41 0 h
def WX12_hasPoint_3 (M : e_M) (Q : Int → Prop) : Nat → Int → Int → Int → Int → Prop
  | 0, _, _, _, _ => False
  | n + 1, x1, x2, x3, x4 =>
    VX12_hasPoint_3 WX12_lieAt (WX12_hasPoint_3 M Q n) Q x1 x2 x3 x4 M
def WX12_hasPoint (x1 : Int) (x2 : Int) (x3 : Int) (M : e_M) (Q : Int → Prop) : Prop :=
  VX12_hasPoint WX12_lieAt (fun x1 x2 x3 x4 => ∃ j, WX12_hasPoint_3 M Q j x1 x2 x3 x4) Q x1 x2 x3 M
theorem PX12_hasPoint_3 {sh : Nat → Nat × Nat} {t : Nat} {rm : Nat × Nat × Nat} {cs : Nat × Nat} {R : f_Rt} {M : e_M} (C : f_Hy sh t yX12_hasPoint rm cs 7 (lX12_hasPoint WX12_lieAt) R) : ∀ (n : Nat) (x1 : Int) (x2 : Int) (x3 : Int) (x4 : Int), WX12_hasPoint_3 M (fun r => R (some (.inl r)) M) n x1 x2 x3 x4 → f_E sh t YX12_hasPoint rm cs (f_Q sh t R) 3 [.inr (.inr (.inl (12, 123, 4456))), .inl x1, .inl x2, .inl x3, .inl x4] [] M := by
  intro n
  induction n with
  | zero => intro x1 x2 x3 x4 h; exact h.elim
  | succ n ih => intro x1 x2 x3 x4 h; exact BX12_hasPoint_3 C ih h
theorem PX12_hasPoint {sh : Nat → Nat × Nat} {t : Nat} {rm : Nat × Nat × Nat} {cs : Nat × Nat} {R : f_Rt} {x1 : Int} {x2 : Int} {x3 : Int} {M : e_M} (C : f_Hy sh t yX12_hasPoint rm cs 7 (lX12_hasPoint WX12_lieAt) R) (h : WX12_hasPoint x1 x2 x3 M (fun r => R (some (.inl r)) M)) : f_E sh t YX12_hasPoint rm cs (f_Q sh t R) 0 [.inr (.inr (.inl (12, 123, 4456))), .inl x1, .inl x2, .inl x3, .inr (.inr (.inr ()))] [] M :=
  BX12_hasPoint C (fun x1 x2 x3 x4 ⟨j, h⟩ => PX12_hasPoint_3 C j _ _ _ _ h) h
def wX12_hasPoint : f_Wt := f_wm [(4466, 12, 123), (1, 0, 0), (1, 0, 0), (1, 0, 0)] (fun ar M R => WX12_hasPoint (f_vi (f_nth ar 1)) (f_vi (f_nth ar 2)) (f_vi (f_nth ar 3)) M (fun r => R (some (.inl r)) M))
theorem TX12_hasPoint {sh : Nat → Nat × Nat} {t : Nat} : f_Mt sh t YX12_hasPoint 7 (wX12_hasPoint) :=
  f_Mt_of (k := 1) (Nat.le_of_ble_eq_true rfl) rfl rfl (fun ar M R rm cs h1 h2 h3 hX h => PX12_hasPoint ⟨Nat.le_of_ble_eq_true rfl, h1, h2, h3, ⟨(f_Mt.up (Nat.le_of_ble_eq_true rfl) TX12_lieAt), trivial⟩, hX⟩ h)
def VX12_tooLong_4 (c_X12_id : Int → Int → e_M → (Int → Prop) → Prop) (c_X12_isThere : Int → Int → Int → e_M → (Int → Prop) → Prop) (c_X12_hasPoint : Int → Int → Int → e_M → (Int → Prop) → Prop) (c_X12_placeOn : Int → Int → e_M → (Int → Prop) → Prop) (c_X12_placeOf : Int → Int → e_M → (Int → Prop) → Prop) (k13 : Int → Int → Int → Int → Prop) (Q : Int → Prop) (x1 : Int) (x2 : Int) (x3 : Int) (M : e_M) : Prop :=
  ((6 < x3 → ((x2 = 0 ∨ x2 = 1) ∧ Q x2)) ∧ (x3 ≤ 6 → (k13 x1 x2 x3 0)))
def VX12_tooLong_13 (c_X12_id : Int → Int → e_M → (Int → Prop) → Prop) (c_X12_isThere : Int → Int → Int → e_M → (Int → Prop) → Prop) (c_X12_hasPoint : Int → Int → Int → e_M → (Int → Prop) → Prop) (c_X12_placeOn : Int → Int → e_M → (Int → Prop) → Prop) (c_X12_placeOf : Int → Int → e_M → (Int → Prop) → Prop) (k4 : Int → Int → Int → Prop) (k162 : Int → Int → Int → Int → Prop) (k91 : Int → Int → Int → Int → Int → Prop) (k95 : Int → Int → Int → Int → Int → Prop) (Q : Int → Prop) (x1 : Int) (x2 : Int) (x3 : Int) (x4 : Int) (M : e_M) : Prop :=
  ((0 ≤ x3 ∧ x3 < 7) ∧ (((M 4483 (x3.toNat)) ≤ x4 → (k4 x1 x2 (e_w32 (x3 + 1)))) ∧ (x4 < (M 4483 (x3.toNat)) → (c_X12_id x3 x4 M (fun r1 => ((x3 = 5 → (k162 x1 x2 x3 x4)) ∧ (¬ x3 = 5 → (c_X12_isThere x3 x4 (M 4456 86) M (fun r2 => ((¬ r2 = 0 → ((¬ x3 = 3 → (k91 x1 x2 x3 x4 r1)) ∧ (x3 = 3 → (c_X12_hasPoint x4 3600 (M 4456 42) M (fun r3 => ((r3 = 0 → (k95 x1 x2 x3 x4 r1)) ∧ (¬ r3 = 0 → (c_X12_hasPoint x4 4000 (M 4456 43) M (fun r4 => ((r4 = 0 → (k95 x1 x2 x3 x4 r1)) ∧ (¬ r4 = 0 → (k91 x1 x2 x3 x4 r1)))))))))))) ∧ (r2 = 0 → (k162 x1 x2 x3 x4))))))))))))
def VX12_tooLong_91 (c_X12_id : Int → Int → e_M → (Int → Prop) → Prop) (c_X12_isThere : Int → Int → Int → e_M → (Int → Prop) → Prop) (c_X12_hasPoint : Int → Int → Int → e_M → (Int → Prop) → Prop) (c_X12_placeOn : Int → Int → e_M → (Int → Prop) → Prop) (c_X12_placeOf : Int → Int → e_M → (Int → Prop) → Prop) (k96 : Int → Int → Int → Int → Int → Int → Prop) (Q : Int → Prop) (x1 : Int) (x2 : Int) (x3 : Int) (x4 : Int) (x5 : Int) (M : e_M) : Prop :=
  (k96 x1 x2 x3 x4 x5 1)
def VX12_tooLong_95 (c_X12_id : Int → Int → e_M → (Int → Prop) → Prop) (c_X12_isThere : Int → Int → Int → e_M → (Int → Prop) → Prop) (c_X12_hasPoint : Int → Int → Int → e_M → (Int → Prop) → Prop) (c_X12_placeOn : Int → Int → e_M → (Int → Prop) → Prop) (c_X12_placeOf : Int → Int → e_M → (Int → Prop) → Prop) (k96 : Int → Int → Int → Int → Int → Int → Prop) (Q : Int → Prop) (x1 : Int) (x2 : Int) (x3 : Int) (x4 : Int) (x5 : Int) (M : e_M) : Prop :=
  (k96 x1 x2 x3 x4 x5 0)
def VX12_tooLong_96 (c_X12_id : Int → Int → e_M → (Int → Prop) → Prop) (c_X12_isThere : Int → Int → Int → e_M → (Int → Prop) → Prop) (c_X12_hasPoint : Int → Int → Int → e_M → (Int → Prop) → Prop) (c_X12_placeOn : Int → Int → e_M → (Int → Prop) → Prop) (c_X12_placeOf : Int → Int → e_M → (Int → Prop) → Prop) (k156 : Int → Int → Int → Prop) (k129 : Int → Int → Int → Int → Prop) (Q : Int → Prop) (x1 : Int) (x2 : Int) (x3 : Int) (x4 : Int) (x5 : Int) (xs0 : Int) (M : e_M) : Prop :=
  ((¬ x2 = 0 → (k156 x1 x3 x4)) ∧ (x2 = 0 → ((xs0 = 0 → (k129 x1 x3 x4 x5)) ∧ (¬ xs0 = 0 → (c_X12_placeOn x5 x1 M (fun r1 => ((r1 < 0 → (k129 x1 x3 x4 x5)) ∧ (0 ≤ r1 → ((0 ≤ x5 ∧ x5 < 560) ∧ (((M 4492 (x5.toNat)) = 8 → (k156 x1 x3 x4)) ∧ (¬ (M 4492 (x5.toNat)) = 8 → (k129 x1 x3 x4 x5))))))))))))
def VX12_tooLong_129 (c_X12_id : Int → Int → e_M → (Int → Prop) → Prop) (c_X12_isThere : Int → Int → Int → e_M → (Int → Prop) → Prop) (c_X12_hasPoint : Int → Int → Int → e_M → (Int → Prop) → Prop) (c_X12_placeOn : Int → Int → e_M → (Int → Prop) → Prop) (c_X12_placeOf : Int → Int → e_M → (Int → Prop) → Prop) (k160 : Int → Int → Int → Prop) (k156 : Int → Int → Int → Prop) (Q : Int → Prop) (x1 : Int) (x3 : Int) (x4 : Int) (x5 : Int) (M : e_M) : Prop :=
  ((¬ x3 = 3 → (k160 x1 x3 x4)) ∧ (x3 = 3 → (c_X12_placeOf x5 x1 M (fun r1 => ((r1 < 0 → (k160 x1 x3 x4)) ∧ (0 ≤ r1 → ((0 ≤ x5 ∧ x5 < 560) ∧ ((¬ (M 4494 (x5.toNat)) = 8 → (k160 x1 x3 x4)) ∧ ((M 4494 (x5.toNat)) = 8 → (k156 x1 x3 x4))))))))))
def VX12_tooLong_156 (c_X12_id : Int → Int → e_M → (Int → Prop) → Prop) (c_X12_isThere : Int → Int → Int → e_M → (Int → Prop) → Prop) (c_X12_hasPoint : Int → Int → Int → e_M → (Int → Prop) → Prop) (c_X12_placeOn : Int → Int → e_M → (Int → Prop) → Prop) (c_X12_placeOf : Int → Int → e_M → (Int → Prop) → Prop) (k161 : Int → Int → Int → Int → Prop) (Q : Int → Prop) (x1 : Int) (x3 : Int) (x4 : Int) (M : e_M) : Prop :=
  (k161 x1 x3 x4 1)
def VX12_tooLong_160 (c_X12_id : Int → Int → e_M → (Int → Prop) → Prop) (c_X12_isThere : Int → Int → Int → e_M → (Int → Prop) → Prop) (c_X12_hasPoint : Int → Int → Int → e_M → (Int → Prop) → Prop) (c_X12_placeOn : Int → Int → e_M → (Int → Prop) → Prop) (c_X12_placeOf : Int → Int → e_M → (Int → Prop) → Prop) (k161 : Int → Int → Int → Int → Prop) (Q : Int → Prop) (x1 : Int) (x3 : Int) (x4 : Int) (M : e_M) : Prop :=
  (k161 x1 x3 x4 0)
def VX12_tooLong_161 (c_X12_id : Int → Int → e_M → (Int → Prop) → Prop) (c_X12_isThere : Int → Int → Int → e_M → (Int → Prop) → Prop) (c_X12_hasPoint : Int → Int → Int → e_M → (Int → Prop) → Prop) (c_X12_placeOn : Int → Int → e_M → (Int → Prop) → Prop) (c_X12_placeOf : Int → Int → e_M → (Int → Prop) → Prop) (k162 : Int → Int → Int → Int → Prop) (Q : Int → Prop) (x1 : Int) (x3 : Int) (x4 : Int) (xs0 : Int) (M : e_M) : Prop :=
  (k162 x1 xs0 x3 x4)
def VX12_tooLong_162 (c_X12_id : Int → Int → e_M → (Int → Prop) → Prop) (c_X12_isThere : Int → Int → Int → e_M → (Int → Prop) → Prop) (c_X12_hasPoint : Int → Int → Int → e_M → (Int → Prop) → Prop) (c_X12_placeOn : Int → Int → e_M → (Int → Prop) → Prop) (c_X12_placeOf : Int → Int → e_M → (Int → Prop) → Prop) (k13 : Int → Int → Int → Int → Prop) (Q : Int → Prop) (x1 : Int) (x2 : Int) (x3 : Int) (x4 : Int) (M : e_M) : Prop :=
  (k13 x1 x2 x3 (e_w32 (x4 + 1)))
def VX12_tooLong (c_X12_id : Int → Int → e_M → (Int → Prop) → Prop) (c_X12_isThere : Int → Int → Int → e_M → (Int → Prop) → Prop) (c_X12_hasPoint : Int → Int → Int → e_M → (Int → Prop) → Prop) (c_X12_placeOn : Int → Int → e_M → (Int → Prop) → Prop) (c_X12_placeOf : Int → Int → e_M → (Int → Prop) → Prop) (k4 : Int → Int → Int → Prop) (Q : Int → Prop) (x1 : Int) (M : e_M) : Prop :=
  (k4 x1 0 2)
def yX12_tooLong (i : Nat) : e_Y := x_get YX12_tooLong [YX12_id, YX12_isThere, YX12_hasPoint, YX12_placeOn, YX12_placeOf] i
def pX12_tooLongf : List x_I := [(0, 0, 1, 0, 0, 0, []), (1, 5, 1, 2, 0, 0, []), (2, 0, 1, 0, 0, 2, []), (3, 5, 1, 3, 0, 0, []), (4, 49, 0, 0, 0, 0, []), (4, 2, 1, 3, 0, 0, []), (5, 0, 2, 0, 0, 6, []), (7, 18, 174, 4, 99, 0, []), (10, 0, 1, 0, 0, 0, []), (11, 5, 2, 4, 0, 0, []), (13, 49, 0, 0, 0, 0, []), (13, 2, 2, 4, 0, 0, []), (15, 4, 1, 0, 0, 0, []), (16, 25, 12, 50, 4, 0, [(0, 20, 7), (0, 1, 27)]), (19, 2, 1, 3, 0, 0, []), (20, 27, 0, 0, 0, 0, []), (21, 18, 168, 3, 97, 0, []), (24, 2, 1, 3, 0, 0, []), (25, 2, 2, 4, 0, 0, []), (27, 40, 0, 2, 0, 0, []), (30, 5, 2, 5, 0, 0, []), (32, 2, 1, 3, 0, 0, []), (33, 0, 1, 0, 0, 5, []), (34, 18, 162, 0, 94, 0, []), (37, 4, 1, 0, 0, 0, []), (38, 2, 1, 3, 0, 0, []), (39, 2, 2, 4, 0, 0, []), (41, 4, 1, 0, 0, 0, []), (42, 25, 12, 86, 0, 0, []), (45, 40, 1, 4, 14, 0, []), (48, 17, 54, 1, 33, 0, []), (51, 19, 162, 0, 94, 0, []), (54, 2, 1, 3, 0, 0, []), (55, 0, 1, 0, 0, 3, []), (56, 18, 91, 1, 50, 0, []), (59, 4, 1, 0, 0, 0, []), (60, 2, 2, 4, 0, 0, []), (62, 0, 3, 0, 0, 3600, []), (65, 4, 1, 0, 0, 0, []), (66, 25, 12, 42, 0, 0, []), (69, 40, 2, 4, 14, 0, []), (72, 17, 95, 0, 53, 0, []), (75, 4, 1, 0, 0, 0, []), (76, 2, 2, 4, 0, 0, []), (78, 0, 3, 0, 0, 4000, []), (81, 4, 1, 0, 0, 0, []), (82, 25, 12, 43, 0, 0, []), (85, 40, 2, 4, 14, 0, []), (88, 17, 95, 0, 53, 0, []), (91, 49, 0, 0, 0, 0, []), (91, 0, 1, 0, 0, 1, []), (92, 19, 96, 0, 55, 0, []), (95, 49, 0, 0, 0, 0, []), (95, 0, 1, 0, 0, 0, []), (96, 49, 0, 0, 0, 0, []), (96, 5, 2, 6, 0, 0, []), (98, 2, 1, 2, 0, 0, []), (99, 17, 156, 1, 87, 0, []), (102, 2, 2, 6, 0, 0, []), (104, 17, 129, 0, 72, 0, []), (107, 4, 1, 0, 0, 0, []), (108, 2, 2, 5, 0, 0, []), (110, 2, 1, 1, 0, 0, []), (111, 40, 3, 3, 14, 0, []), (114, 17, 129, 2, 72, 0, []), (117, 4, 1, 0, 0, 0, []), (118, 25, 12, 59, 4, 0, [(0, 20, 560), (0, 1, 36)]), (121, 2, 2, 5, 0, 0, []), (123, 27, 0, 0, 0, 0, []), (124, 0, 2, 0, 0, 8, []), (126, 18, 156, 0, 87, 0, []), (129, 49, 0, 0, 0, 0, []), (129, 2, 1, 3, 0, 0, []), (130, 0, 1, 0, 0, 3, []), (131, 18, 160, 1, 90, 0, []), (134, 4, 1, 0, 0, 0, []), (135, 2, 2, 5, 0, 0, []), (137, 2, 1, 1, 0, 0, []), (138, 40, 4, 3, 14, 0, []), (141, 17, 160, 2, 90, 0, []), (144, 4, 1, 0, 0, 0, []), (145, 25, 12, 61, 4, 0, [(0, 20, 560), (0, 1, 38)]), (148, 2, 2, 5, 0, 0, []), (150, 27, 0, 0, 0, 0, []), (151, 0, 2, 0, 0, 8, []), (153, 18, 160, 1, 90, 0, []), (156, 49, 0, 0, 0, 0, []), (156, 0, 1, 0, 0, 1, []), (157, 19, 161, 0, 92, 0, []), (160, 49, 0, 0, 0, 0, []), (160, 0, 1, 0, 0, 0, []), (161, 49, 0, 0, 0, 0, []), (161, 5, 1, 2, 0, 0, []), (162, 49, 0, 0, 0, 0, []), (162, 8, 0, 4, 0, 1, []), (165, 19, 13, 0, 11, 0, []), (168, 8, 0, 3, 0, 1, []), (171, 19, 4, 0, 5, 0, []), (174, 2, 1, 2, 0, 0, []), (175, 42, 0, 0, 0, 0, [])]
set_option maxRecDepth 20000 in
theorem qX12_tooLongf : f_all yX12_tooLong YX12_tooLong pX12_tooLongf :=
  ⟨f_iconst (e_dx DX12_tooLong_0 0 rfl) ⟨by decide, by decide⟩,
  f_istore_n (n := 2) (e_dx DX12_tooLong_0 1 rfl) rfl (by decide),
  f_iconst (e_dx DX12_tooLong_0 2 rfl) ⟨by decide, by decide⟩,
  f_istore_n (n := 3) (e_dx DX12_tooLong_0 3 rfl) rfl (by decide),
  trivial,
  f_iload_n (n := 3) (e_dx DX12_tooLong_0 4 rfl) rfl,
  f_bipush (e_dx DX12_tooLong_0 5 rfl) ⟨by decide, by decide⟩,
  f_icmp_gt (e_dx DX12_tooLong_0 6 rfl) rfl,
  f_iconst (e_dx DX12_tooLong_0 7 rfl) ⟨by decide, by decide⟩,
  f_istore (e_dx DX12_tooLong_0 8 rfl) (by decide),
  trivial,
  f_iload (e_dx DX12_tooLong_0 9 rfl),
  f_aload_n (n := 0) (e_dx DX12_tooLong_0 10 rfl) rfl,
  f_getA (e_dx DX12_tooLong_0 11 rfl) fX12_91 rfl (by decide) (Nat.le_of_ble_eq_true rfl) rfl (by decide),
  f_iload_n (n := 3) (e_dx DX12_tooLong_0 12 rfl) rfl,
  f_iaload (e_dx DX12_tooLong_0 13 rfl),
  f_icmp_ge (e_dx DX12_tooLong_0 14 rfl) rfl,
  f_iload_n (n := 3) (e_dx DX12_tooLong_0 15 rfl) rfl,
  f_iload (e_dx DX12_tooLong_0 16 rfl),
  x_callS (e_dx DX12_tooLong_0 17 rfl) mwX12_id cX12_540 swX12_id rfl,
  f_istore (e_dx DX12_tooLong_0 18 rfl) (by decide),
  f_iload_n (n := 3) (e_dx DX12_tooLong_0 19 rfl) rfl,
  f_iconst (e_dx DX12_tooLong_0 20 rfl) ⟨by decide, by decide⟩,
  f_icmp_eq (e_dx DX12_tooLong_0 21 rfl) rfl,
  f_aload_n (n := 0) (e_dx DX12_tooLong_0 22 rfl) rfl,
  f_iload_n (n := 3) (e_dx DX12_tooLong_0 23 rfl) rfl,
  f_iload (e_dx DX12_tooLong_0 24 rfl),
  f_aload_n (n := 0) (e_dx DX12_tooLong_0 25 rfl) rfl,
  f_getf (e_dx DX12_tooLong_0 26 rfl) fX12_543 rfl (by decide) (by decide) (by decide),
  x_callV (e_dx DX12_tooLong_0 27 rfl) mwX12_isThere vwX12_isThere cX12_549 rfl,
  f_if_ne (e_dx DX12_tooLong_0 28 rfl) rfl,
  f_g19 (e_dx DX12_tooLong_0 29 rfl) rfl,
  f_iload_n (n := 3) (e_dx DX12_tooLong_0 30 rfl) rfl,
  f_iconst (e_dx DX12_tooLong_0 31 rfl) ⟨by decide, by decide⟩,
  f_icmp_ne (e_dx DX12_tooLong_0 32 rfl) rfl,
  f_aload_n (n := 0) (e_dx DX12_tooLong_0 33 rfl) rfl,
  f_iload (e_dx DX12_tooLong_0 34 rfl),
  f_sipush (e_dx DX12_tooLong_0 35 rfl) ⟨by decide, by decide⟩,
  f_aload_n (n := 0) (e_dx DX12_tooLong_0 36 rfl) rfl,
  f_getf (e_dx DX12_tooLong_0 37 rfl) fX12_468 rfl (by decide) (by decide) (by decide),
  x_callV (e_dx DX12_tooLong_0 38 rfl) mwX12_hasPoint vwX12_hasPoint cX12_701 rfl,
  f_if_eq (e_dx DX12_tooLong_0 39 rfl) rfl,
  f_aload_n (n := 0) (e_dx DX12_tooLong_1 0 rfl) rfl,
  f_iload (e_dx DX12_tooLong_1 1 rfl),
  f_sipush (e_dx DX12_tooLong_1 2 rfl) ⟨by decide, by decide⟩,
  f_aload_n (n := 0) (e_dx DX12_tooLong_1 3 rfl) rfl,
  f_getf (e_dx DX12_tooLong_1 4 rfl) fX12_471 rfl (by decide) (by decide) (by decide),
  x_callV (e_dx DX12_tooLong_1 5 rfl) mwX12_hasPoint vwX12_hasPoint cX12_701 rfl,
  f_if_eq (e_dx DX12_tooLong_1 6 rfl) rfl,
  trivial,
  f_iconst (e_dx DX12_tooLong_1 7 rfl) ⟨by decide, by decide⟩,
  f_g19 (e_dx DX12_tooLong_1 8 rfl) rfl,
  trivial,
  f_iconst (e_dx DX12_tooLong_1 9 rfl) ⟨by decide, by decide⟩,
  trivial,
  f_istore (e_dx DX12_tooLong_1 10 rfl) (by decide),
  f_iload_n (n := 2) (e_dx DX12_tooLong_1 11 rfl) rfl,
  f_if_ne (e_dx DX12_tooLong_1 12 rfl) rfl,
  f_iload (e_dx DX12_tooLong_1 13 rfl),
  f_if_eq (e_dx DX12_tooLong_1 14 rfl) rfl,
  f_aload_n (n := 0) (e_dx DX12_tooLong_1 15 rfl) rfl,
  f_iload (e_dx DX12_tooLong_1 16 rfl),
  f_iload_n (n := 1) (e_dx DX12_tooLong_1 17 rfl) rfl,
  x_callV (e_dx DX12_tooLong_1 18 rfl) mwX12_placeOn vwX12_placeOn cX12_573 rfl,
  f_if_lt (e_dx DX12_tooLong_1 19 rfl) rfl,
  f_aload_n (n := 0) (e_dx DX12_tooLong_1 20 rfl) rfl,
  f_getA (e_dx DX12_tooLong_1 21 rfl) fX12_118 rfl (by decide) (Nat.le_of_ble_eq_true rfl) rfl (by decide),
  f_iload (e_dx DX12_tooLong_1 22 rfl),
  f_iaload (e_dx DX12_tooLong_1 23 rfl),
  f_bipush (e_dx DX12_tooLong_1 24 rfl) ⟨by decide, by decide⟩,
  f_icmp_eq (e_dx DX12_tooLong_1 25 rfl) rfl,
  trivial,
  f_iload_n (n := 3) (e_dx DX12_tooLong_1 26 rfl) rfl,
  f_iconst (e_dx DX12_tooLong_1 27 rfl) ⟨by decide, by decide⟩,
  f_icmp_ne (e_dx DX12_tooLong_1 28 rfl) rfl,
  f_aload_n (n := 0) (e_dx DX12_tooLong_1 29 rfl) rfl,
  f_iload (e_dx DX12_tooLong_1 30 rfl),
  f_iload_n (n := 1) (e_dx DX12_tooLong_1 31 rfl) rfl,
  x_callV (e_dx DX12_tooLong_1 32 rfl) mwX12_placeOf vwX12_placeOf cX12_704 rfl,
  f_if_lt (e_dx DX12_tooLong_1 33 rfl) rfl,
  f_aload_n (n := 0) (e_dx DX12_tooLong_1 34 rfl) rfl,
  f_getA (e_dx DX12_tooLong_1 35 rfl) fX12_124 rfl (by decide) (Nat.le_of_ble_eq_true rfl) rfl (by decide),
  f_iload (e_dx DX12_tooLong_1 36 rfl),
  f_iaload (e_dx DX12_tooLong_1 37 rfl),
  f_bipush (e_dx DX12_tooLong_1 38 rfl) ⟨by decide, by decide⟩,
  f_icmp_ne (e_dx DX12_tooLong_1 39 rfl) rfl,
  trivial,
  f_iconst (e_dx DX12_tooLong_2 0 rfl) ⟨by decide, by decide⟩,
  f_g19 (e_dx DX12_tooLong_2 1 rfl) rfl,
  trivial,
  f_iconst (e_dx DX12_tooLong_2 2 rfl) ⟨by decide, by decide⟩,
  trivial,
  f_istore_n (n := 2) (e_dx DX12_tooLong_2 3 rfl) rfl (by decide),
  trivial,
  f_g8 (e_dx DX12_tooLong_2 4 rfl) ⟨by decide, by decide⟩,
  f_g19 (e_dx DX12_tooLong_2 5 rfl) rfl,
  f_g8 (e_dx DX12_tooLong_2 6 rfl) ⟨by decide, by decide⟩,
  f_g19 (e_dx DX12_tooLong_2 7 rfl) rfl,
  f_iload_n (n := 2) (e_dx DX12_tooLong_2 8 rfl) rfl,
  ⟨(e_dx DX12_tooLong_2 9 rfl), rfl⟩, trivial⟩
def lX12_tooLong (c_X12_id : Int → Int → e_M → (Int → Prop) → Prop) (c_X12_isThere : Int → Int → Int → e_M → (Int → Prop) → Prop) (c_X12_hasPoint : Int → Int → Int → e_M → (Int → Prop) → Prop) (c_X12_placeOn : Int → Int → e_M → (Int → Prop) → Prop) (c_X12_placeOf : Int → Int → e_M → (Int → Prop) → Prop) : List (Nat × f_Wt) := [(0, f_wm [(1, 0, 0), (1, 0, 0)] (fun ar M R => c_X12_id (f_vi (f_nth ar 0)) (f_vi (f_nth ar 1)) M (fun r => R (some (.inl r)) M))), (1, f_wm [(4466, 12, 123), (1, 0, 0), (1, 0, 0), (1, 0, 0)] (fun ar M R => c_X12_isThere (f_vi (f_nth ar 1)) (f_vi (f_nth ar 2)) (f_vi (f_nth ar 3)) M (fun r => R (some (.inl r)) M))), (2, f_wm [(4466, 12, 123), (1, 0, 0), (1, 0, 0), (1, 0, 0)] (fun ar M R => c_X12_hasPoint (f_vi (f_nth ar 1)) (f_vi (f_nth ar 2)) (f_vi (f_nth ar 3)) M (fun r => R (some (.inl r)) M))), (3, f_wm [(4466, 12, 123), (1, 0, 0), (1, 0, 0)] (fun ar M R => c_X12_placeOn (f_vi (f_nth ar 1)) (f_vi (f_nth ar 2)) M (fun r => R (some (.inl r)) M))), (4, f_wm [(4466, 12, 123), (1, 0, 0), (1, 0, 0)] (fun ar M R => c_X12_placeOf (f_vi (f_nth ar 1)) (f_vi (f_nth ar 2)) M (fun r => R (some (.inl r)) M)))]
set_option maxRecDepth 20000 in
theorem BX12_tooLong_4 {sh : Nat → Nat × Nat} {t : Nat} {rm : Nat × Nat × Nat} {cs : Nat × Nat} {R : f_Rt} {c_X12_id : Int → Int → e_M → (Int → Prop) → Prop} {c_X12_isThere : Int → Int → Int → e_M → (Int → Prop) → Prop} {c_X12_hasPoint : Int → Int → Int → e_M → (Int → Prop) → Prop} {c_X12_placeOn : Int → Int → e_M → (Int → Prop) → Prop} {c_X12_placeOf : Int → Int → e_M → (Int → Prop) → Prop} {k13 : Int → Int → Int → Int → Prop} {x1 : Int} {x2 : Int} {x3 : Int} {M : e_M} (C : f_Hy sh t yX12_tooLong rm cs 8 (lX12_tooLong c_X12_id c_X12_isThere c_X12_hasPoint c_X12_placeOn c_X12_placeOf) R) (h13 : ∀ (x1 : Int) (x2 : Int) (x3 : Int) (x4 : Int), k13 x1 x2 x3 x4 → f_E sh t YX12_tooLong rm cs (f_Q sh t R) 13 [.inr (.inr (.inl (12, 123, 4456))), .inl x1, .inl x2, .inl x3, .inl x4, .inr (.inr (.inr ())), .inr (.inr (.inr ()))] [] M) (h : VX12_tooLong_4 c_X12_id c_X12_isThere c_X12_hasPoint c_X12_placeOn c_X12_placeOf k13 (fun r => R (some (.inl r)) M) x1 x2 x3 M) : f_E sh t YX12_tooLong rm cs (f_Q sh t R) 4 [.inr (.inr (.inl (12, 123, 4456))), .inl x1, .inl x2, .inl x3, .inr (.inr (.inr ())), .inr (.inr (.inr ())), .inr (.inr (.inr ()))] [] M := by
  rw [f_kk4 M k13] at h
  exact f_go (KC := f_kc [(13, f_pl [(4466, 12, 123), (1, 0, 0), (1, 0, 0), (1, 0, 0), (1, 0, 0), (0, 0, 0), (0, 0, 0)] [] (fun ls st M2 => M2 = M ∧ (k13 (f_vi (f_nth ls 1)) (f_vi (f_nth ls 2)) (f_vi (f_nth ls 3)) (f_vi (f_nth ls 4)))))]) C qX12_tooLongf (f_kc_cons (f_pl_ok rfl (fun ls st M2 ⟨e, hh⟩ => by subst e; exact h13 _ _ _ _ hh)) f_kc_nil) 102 5 h
set_option maxRecDepth 20000 in
theorem BX12_tooLong_13 {sh : Nat → Nat × Nat} {t : Nat} {rm : Nat × Nat × Nat} {cs : Nat × Nat} {R : f_Rt} {c_X12_id : Int → Int → e_M → (Int → Prop) → Prop} {c_X12_isThere : Int → Int → Int → e_M → (Int → Prop) → Prop} {c_X12_hasPoint : Int → Int → Int → e_M → (Int → Prop) → Prop} {c_X12_placeOn : Int → Int → e_M → (Int → Prop) → Prop} {c_X12_placeOf : Int → Int → e_M → (Int → Prop) → Prop} {k4 : Int → Int → Int → Prop} {k162 : Int → Int → Int → Int → Prop} {k91 : Int → Int → Int → Int → Int → Prop} {k95 : Int → Int → Int → Int → Int → Prop} {x1 : Int} {x2 : Int} {x3 : Int} {x4 : Int} {M : e_M} (C : f_Hy sh t yX12_tooLong rm cs 8 (lX12_tooLong c_X12_id c_X12_isThere c_X12_hasPoint c_X12_placeOn c_X12_placeOf) R) (h4 : ∀ (x1 : Int) (x2 : Int) (x3 : Int), k4 x1 x2 x3 → f_E sh t YX12_tooLong rm cs (f_Q sh t R) 4 [.inr (.inr (.inl (12, 123, 4456))), .inl x1, .inl x2, .inl x3, .inr (.inr (.inr ())), .inr (.inr (.inr ())), .inr (.inr (.inr ()))] [] M) (h162 : ∀ (x1 : Int) (x2 : Int) (x3 : Int) (x4 : Int), k162 x1 x2 x3 x4 → f_E sh t YX12_tooLong rm cs (f_Q sh t R) 162 [.inr (.inr (.inl (12, 123, 4456))), .inl x1, .inl x2, .inl x3, .inl x4, .inr (.inr (.inr ())), .inr (.inr (.inr ()))] [] M) (h91 : ∀ (x1 : Int) (x2 : Int) (x3 : Int) (x4 : Int) (x5 : Int), k91 x1 x2 x3 x4 x5 → f_E sh t YX12_tooLong rm cs (f_Q sh t R) 91 [.inr (.inr (.inl (12, 123, 4456))), .inl x1, .inl x2, .inl x3, .inl x4, .inl x5, .inr (.inr (.inr ()))] [] M) (h95 : ∀ (x1 : Int) (x2 : Int) (x3 : Int) (x4 : Int) (x5 : Int), k95 x1 x2 x3 x4 x5 → f_E sh t YX12_tooLong rm cs (f_Q sh t R) 95 [.inr (.inr (.inl (12, 123, 4456))), .inl x1, .inl x2, .inl x3, .inl x4, .inl x5, .inr (.inr (.inr ()))] [] M) (h : VX12_tooLong_13 c_X12_id c_X12_isThere c_X12_hasPoint c_X12_placeOn c_X12_placeOf k4 k162 k91 k95 (fun r => R (some (.inl r)) M) x1 x2 x3 x4 M) : f_E sh t YX12_tooLong rm cs (f_Q sh t R) 13 [.inr (.inr (.inl (12, 123, 4456))), .inl x1, .inl x2, .inl x3, .inl x4, .inr (.inr (.inr ())), .inr (.inr (.inr ()))] [] M := by
  rw [f_kk3 M k4] at h
  rw [f_kk4 M k162] at h
  rw [f_kk5 M k91] at h
  rw [f_kk5 M k95] at h
  exact f_go (KC := f_kc [(4, f_pl [(4466, 12, 123), (1, 0, 0), (1, 0, 0), (1, 0, 0), (0, 0, 0), (0, 0, 0), (0, 0, 0)] [] (fun ls st M2 => M2 = M ∧ (k4 (f_vi (f_nth ls 1)) (f_vi (f_nth ls 2)) (f_vi (f_nth ls 3))))), (162, f_pl [(4466, 12, 123), (1, 0, 0), (1, 0, 0), (1, 0, 0), (1, 0, 0), (0, 0, 0), (0, 0, 0)] [] (fun ls st M2 => M2 = M ∧ (k162 (f_vi (f_nth ls 1)) (f_vi (f_nth ls 2)) (f_vi (f_nth ls 3)) (f_vi (f_nth ls 4))))), (91, f_pl [(4466, 12, 123), (1, 0, 0), (1, 0, 0), (1, 0, 0), (1, 0, 0), (1, 0, 0), (0, 0, 0)] [] (fun ls st M2 => M2 = M ∧ (k91 (f_vi (f_nth ls 1)) (f_vi (f_nth ls 2)) (f_vi (f_nth ls 3)) (f_vi (f_nth ls 4)) (f_vi (f_nth ls 5))))), (95, f_pl [(4466, 12, 123), (1, 0, 0), (1, 0, 0), (1, 0, 0), (1, 0, 0), (1, 0, 0), (0, 0, 0)] [] (fun ls st M2 => M2 = M ∧ (k95 (f_vi (f_nth ls 1)) (f_vi (f_nth ls 2)) (f_vi (f_nth ls 3)) (f_vi (f_nth ls 4)) (f_vi (f_nth ls 5)))))]) C qX12_tooLongf (f_kc_cons (f_pl_ok rfl (fun ls st M2 ⟨e, hh⟩ => by subst e; exact h4 _ _ _ hh)) (f_kc_cons (f_pl_ok rfl (fun ls st M2 ⟨e, hh⟩ => by subst e; exact h162 _ _ _ _ hh)) (f_kc_cons (f_pl_ok rfl (fun ls st M2 ⟨e, hh⟩ => by subst e; exact h91 _ _ _ _ _ hh)) (f_kc_cons (f_pl_ok rfl (fun ls st M2 ⟨e, hh⟩ => by subst e; exact h95 _ _ _ _ _ hh)) f_kc_nil)))) 102 11 h
set_option maxRecDepth 20000 in
theorem BX12_tooLong_91 {sh : Nat → Nat × Nat} {t : Nat} {rm : Nat × Nat × Nat} {cs : Nat × Nat} {R : f_Rt} {c_X12_id : Int → Int → e_M → (Int → Prop) → Prop} {c_X12_isThere : Int → Int → Int → e_M → (Int → Prop) → Prop} {c_X12_hasPoint : Int → Int → Int → e_M → (Int → Prop) → Prop} {c_X12_placeOn : Int → Int → e_M → (Int → Prop) → Prop} {c_X12_placeOf : Int → Int → e_M → (Int → Prop) → Prop} {k96 : Int → Int → Int → Int → Int → Int → Prop} {x1 : Int} {x2 : Int} {x3 : Int} {x4 : Int} {x5 : Int} {M : e_M} (C : f_Hy sh t yX12_tooLong rm cs 8 (lX12_tooLong c_X12_id c_X12_isThere c_X12_hasPoint c_X12_placeOn c_X12_placeOf) R) (h96 : ∀ (x1 : Int) (x2 : Int) (x3 : Int) (x4 : Int) (x5 : Int) (xs0 : Int), k96 x1 x2 x3 x4 x5 xs0 → f_E sh t YX12_tooLong rm cs (f_Q sh t R) 96 [.inr (.inr (.inl (12, 123, 4456))), .inl x1, .inl x2, .inl x3, .inl x4, .inl x5, .inr (.inr (.inr ()))] [.inl xs0] M) (h : VX12_tooLong_91 c_X12_id c_X12_isThere c_X12_hasPoint c_X12_placeOn c_X12_placeOf k96 (fun r => R (some (.inl r)) M) x1 x2 x3 x4 x5 M) : f_E sh t YX12_tooLong rm cs (f_Q sh t R) 91 [.inr (.inr (.inl (12, 123, 4456))), .inl x1, .inl x2, .inl x3, .inl x4, .inl x5, .inr (.inr (.inr ()))] [] M := by
  rw [f_kk6 M k96] at h
  exact f_go (KC := f_kc [(96, f_pl [(4466, 12, 123), (1, 0, 0), (1, 0, 0), (1, 0, 0), (1, 0, 0), (1, 0, 0), (0, 0, 0)] [(1, 0, 0)] (fun ls st M2 => M2 = M ∧ (k96 (f_vi (f_nth ls 1)) (f_vi (f_nth ls 2)) (f_vi (f_nth ls 3)) (f_vi (f_nth ls 4)) (f_vi (f_nth ls 5)) (f_vi (f_nth st 0)))))]) C qX12_tooLongf (f_kc_cons (f_pl_ok rfl (fun ls st M2 ⟨e, hh⟩ => by subst e; exact h96 _ _ _ _ _ _ hh)) f_kc_nil) 102 50 h
set_option maxRecDepth 20000 in
theorem BX12_tooLong_95 {sh : Nat → Nat × Nat} {t : Nat} {rm : Nat × Nat × Nat} {cs : Nat × Nat} {R : f_Rt} {c_X12_id : Int → Int → e_M → (Int → Prop) → Prop} {c_X12_isThere : Int → Int → Int → e_M → (Int → Prop) → Prop} {c_X12_hasPoint : Int → Int → Int → e_M → (Int → Prop) → Prop} {c_X12_placeOn : Int → Int → e_M → (Int → Prop) → Prop} {c_X12_placeOf : Int → Int → e_M → (Int → Prop) → Prop} {k96 : Int → Int → Int → Int → Int → Int → Prop} {x1 : Int} {x2 : Int} {x3 : Int} {x4 : Int} {x5 : Int} {M : e_M} (C : f_Hy sh t yX12_tooLong rm cs 8 (lX12_tooLong c_X12_id c_X12_isThere c_X12_hasPoint c_X12_placeOn c_X12_placeOf) R) (h96 : ∀ (x1 : Int) (x2 : Int) (x3 : Int) (x4 : Int) (x5 : Int) (xs0 : Int), k96 x1 x2 x3 x4 x5 xs0 → f_E sh t YX12_tooLong rm cs (f_Q sh t R) 96 [.inr (.inr (.inl (12, 123, 4456))), .inl x1, .inl x2, .inl x3, .inl x4, .inl x5, .inr (.inr (.inr ()))] [.inl xs0] M) (h : VX12_tooLong_95 c_X12_id c_X12_isThere c_X12_hasPoint c_X12_placeOn c_X12_placeOf k96 (fun r => R (some (.inl r)) M) x1 x2 x3 x4 x5 M) : f_E sh t YX12_tooLong rm cs (f_Q sh t R) 95 [.inr (.inr (.inl (12, 123, 4456))), .inl x1, .inl x2, .inl x3, .inl x4, .inl x5, .inr (.inr (.inr ()))] [] M := by
  rw [f_kk6 M k96] at h
  exact f_go (KC := f_kc [(96, f_pl [(4466, 12, 123), (1, 0, 0), (1, 0, 0), (1, 0, 0), (1, 0, 0), (1, 0, 0), (0, 0, 0)] [(1, 0, 0)] (fun ls st M2 => M2 = M ∧ (k96 (f_vi (f_nth ls 1)) (f_vi (f_nth ls 2)) (f_vi (f_nth ls 3)) (f_vi (f_nth ls 4)) (f_vi (f_nth ls 5)) (f_vi (f_nth st 0)))))]) C qX12_tooLongf (f_kc_cons (f_pl_ok rfl (fun ls st M2 ⟨e, hh⟩ => by subst e; exact h96 _ _ _ _ _ _ hh)) f_kc_nil) 102 53 h
set_option maxRecDepth 20000 in
theorem BX12_tooLong_96 {sh : Nat → Nat × Nat} {t : Nat} {rm : Nat × Nat × Nat} {cs : Nat × Nat} {R : f_Rt} {c_X12_id : Int → Int → e_M → (Int → Prop) → Prop} {c_X12_isThere : Int → Int → Int → e_M → (Int → Prop) → Prop} {c_X12_hasPoint : Int → Int → Int → e_M → (Int → Prop) → Prop} {c_X12_placeOn : Int → Int → e_M → (Int → Prop) → Prop} {c_X12_placeOf : Int → Int → e_M → (Int → Prop) → Prop} {k156 : Int → Int → Int → Prop} {k129 : Int → Int → Int → Int → Prop} {x1 : Int} {x2 : Int} {x3 : Int} {x4 : Int} {x5 : Int} {xs0 : Int} {M : e_M} (C : f_Hy sh t yX12_tooLong rm cs 8 (lX12_tooLong c_X12_id c_X12_isThere c_X12_hasPoint c_X12_placeOn c_X12_placeOf) R) (h156 : ∀ (x1 : Int) (x3 : Int) (x4 : Int), k156 x1 x3 x4 → f_E sh t YX12_tooLong rm cs (f_Q sh t R) 156 [.inr (.inr (.inl (12, 123, 4456))), .inl x1, .inr (.inr (.inr ())), .inl x3, .inl x4, .inr (.inr (.inr ())), .inr (.inr (.inr ()))] [] M) (h129 : ∀ (x1 : Int) (x3 : Int) (x4 : Int) (x5 : Int), k129 x1 x3 x4 x5 → f_E sh t YX12_tooLong rm cs (f_Q sh t R) 129 [.inr (.inr (.inl (12, 123, 4456))), .inl x1, .inr (.inr (.inr ())), .inl x3, .inl x4, .inl x5, .inr (.inr (.inr ()))] [] M) (h : VX12_tooLong_96 c_X12_id c_X12_isThere c_X12_hasPoint c_X12_placeOn c_X12_placeOf k156 k129 (fun r => R (some (.inl r)) M) x1 x2 x3 x4 x5 xs0 M) : f_E sh t YX12_tooLong rm cs (f_Q sh t R) 96 [.inr (.inr (.inl (12, 123, 4456))), .inl x1, .inl x2, .inl x3, .inl x4, .inl x5, .inr (.inr (.inr ()))] [.inl xs0] M := by
  rw [f_kk3 M k156] at h
  rw [f_kk4 M k129] at h
  exact f_go (KC := f_kc [(156, f_pl [(4466, 12, 123), (1, 0, 0), (0, 0, 0), (1, 0, 0), (1, 0, 0), (0, 0, 0), (0, 0, 0)] [] (fun ls st M2 => M2 = M ∧ (k156 (f_vi (f_nth ls 1)) (f_vi (f_nth ls 3)) (f_vi (f_nth ls 4))))), (129, f_pl [(4466, 12, 123), (1, 0, 0), (0, 0, 0), (1, 0, 0), (1, 0, 0), (1, 0, 0), (0, 0, 0)] [] (fun ls st M2 => M2 = M ∧ (k129 (f_vi (f_nth ls 1)) (f_vi (f_nth ls 3)) (f_vi (f_nth ls 4)) (f_vi (f_nth ls 5)))))]) C qX12_tooLongf (f_kc_cons (f_pl_ok rfl (fun ls st M2 ⟨e, hh⟩ => by subst e; exact h156 _ _ _ hh)) (f_kc_cons (f_pl_ok rfl (fun ls st M2 ⟨e, hh⟩ => by subst e; exact h129 _ _ _ _ hh)) f_kc_nil)) 102 55 h
set_option maxRecDepth 20000 in
theorem BX12_tooLong_129 {sh : Nat → Nat × Nat} {t : Nat} {rm : Nat × Nat × Nat} {cs : Nat × Nat} {R : f_Rt} {c_X12_id : Int → Int → e_M → (Int → Prop) → Prop} {c_X12_isThere : Int → Int → Int → e_M → (Int → Prop) → Prop} {c_X12_hasPoint : Int → Int → Int → e_M → (Int → Prop) → Prop} {c_X12_placeOn : Int → Int → e_M → (Int → Prop) → Prop} {c_X12_placeOf : Int → Int → e_M → (Int → Prop) → Prop} {k160 : Int → Int → Int → Prop} {k156 : Int → Int → Int → Prop} {x1 : Int} {x3 : Int} {x4 : Int} {x5 : Int} {M : e_M} (C : f_Hy sh t yX12_tooLong rm cs 8 (lX12_tooLong c_X12_id c_X12_isThere c_X12_hasPoint c_X12_placeOn c_X12_placeOf) R) (h160 : ∀ (x1 : Int) (x3 : Int) (x4 : Int), k160 x1 x3 x4 → f_E sh t YX12_tooLong rm cs (f_Q sh t R) 160 [.inr (.inr (.inl (12, 123, 4456))), .inl x1, .inr (.inr (.inr ())), .inl x3, .inl x4, .inr (.inr (.inr ())), .inr (.inr (.inr ()))] [] M) (h156 : ∀ (x1 : Int) (x3 : Int) (x4 : Int), k156 x1 x3 x4 → f_E sh t YX12_tooLong rm cs (f_Q sh t R) 156 [.inr (.inr (.inl (12, 123, 4456))), .inl x1, .inr (.inr (.inr ())), .inl x3, .inl x4, .inr (.inr (.inr ())), .inr (.inr (.inr ()))] [] M) (h : VX12_tooLong_129 c_X12_id c_X12_isThere c_X12_hasPoint c_X12_placeOn c_X12_placeOf k160 k156 (fun r => R (some (.inl r)) M) x1 x3 x4 x5 M) : f_E sh t YX12_tooLong rm cs (f_Q sh t R) 129 [.inr (.inr (.inl (12, 123, 4456))), .inl x1, .inr (.inr (.inr ())), .inl x3, .inl x4, .inl x5, .inr (.inr (.inr ()))] [] M := by
  rw [f_kk3 M k160] at h
  rw [f_kk3 M k156] at h
  exact f_go (KC := f_kc [(160, f_pl [(4466, 12, 123), (1, 0, 0), (0, 0, 0), (1, 0, 0), (1, 0, 0), (0, 0, 0), (0, 0, 0)] [] (fun ls st M2 => M2 = M ∧ (k160 (f_vi (f_nth ls 1)) (f_vi (f_nth ls 3)) (f_vi (f_nth ls 4))))), (156, f_pl [(4466, 12, 123), (1, 0, 0), (0, 0, 0), (1, 0, 0), (1, 0, 0), (0, 0, 0), (0, 0, 0)] [] (fun ls st M2 => M2 = M ∧ (k156 (f_vi (f_nth ls 1)) (f_vi (f_nth ls 3)) (f_vi (f_nth ls 4)))))]) C qX12_tooLongf (f_kc_cons (f_pl_ok rfl (fun ls st M2 ⟨e, hh⟩ => by subst e; exact h160 _ _ _ hh)) (f_kc_cons (f_pl_ok rfl (fun ls st M2 ⟨e, hh⟩ => by subst e; exact h156 _ _ _ hh)) f_kc_nil)) 102 72 h
set_option maxRecDepth 20000 in
theorem BX12_tooLong_156 {sh : Nat → Nat × Nat} {t : Nat} {rm : Nat × Nat × Nat} {cs : Nat × Nat} {R : f_Rt} {c_X12_id : Int → Int → e_M → (Int → Prop) → Prop} {c_X12_isThere : Int → Int → Int → e_M → (Int → Prop) → Prop} {c_X12_hasPoint : Int → Int → Int → e_M → (Int → Prop) → Prop} {c_X12_placeOn : Int → Int → e_M → (Int → Prop) → Prop} {c_X12_placeOf : Int → Int → e_M → (Int → Prop) → Prop} {k161 : Int → Int → Int → Int → Prop} {x1 : Int} {x3 : Int} {x4 : Int} {M : e_M} (C : f_Hy sh t yX12_tooLong rm cs 8 (lX12_tooLong c_X12_id c_X12_isThere c_X12_hasPoint c_X12_placeOn c_X12_placeOf) R) (h161 : ∀ (x1 : Int) (x3 : Int) (x4 : Int) (xs0 : Int), k161 x1 x3 x4 xs0 → f_E sh t YX12_tooLong rm cs (f_Q sh t R) 161 [.inr (.inr (.inl (12, 123, 4456))), .inl x1, .inr (.inr (.inr ())), .inl x3, .inl x4, .inr (.inr (.inr ())), .inr (.inr (.inr ()))] [.inl xs0] M) (h : VX12_tooLong_156 c_X12_id c_X12_isThere c_X12_hasPoint c_X12_placeOn c_X12_placeOf k161 (fun r => R (some (.inl r)) M) x1 x3 x4 M) : f_E sh t YX12_tooLong rm cs (f_Q sh t R) 156 [.inr (.inr (.inl (12, 123, 4456))), .inl x1, .inr (.inr (.inr ())), .inl x3, .inl x4, .inr (.inr (.inr ())), .inr (.inr (.inr ()))] [] M := by
  rw [f_kk4 M k161] at h
  exact f_go (KC := f_kc [(161, f_pl [(4466, 12, 123), (1, 0, 0), (0, 0, 0), (1, 0, 0), (1, 0, 0), (0, 0, 0), (0, 0, 0)] [(1, 0, 0)] (fun ls st M2 => M2 = M ∧ (k161 (f_vi (f_nth ls 1)) (f_vi (f_nth ls 3)) (f_vi (f_nth ls 4)) (f_vi (f_nth st 0)))))]) C qX12_tooLongf (f_kc_cons (f_pl_ok rfl (fun ls st M2 ⟨e, hh⟩ => by subst e; exact h161 _ _ _ _ hh)) f_kc_nil) 102 87 h
set_option maxRecDepth 20000 in
theorem BX12_tooLong_160 {sh : Nat → Nat × Nat} {t : Nat} {rm : Nat × Nat × Nat} {cs : Nat × Nat} {R : f_Rt} {c_X12_id : Int → Int → e_M → (Int → Prop) → Prop} {c_X12_isThere : Int → Int → Int → e_M → (Int → Prop) → Prop} {c_X12_hasPoint : Int → Int → Int → e_M → (Int → Prop) → Prop} {c_X12_placeOn : Int → Int → e_M → (Int → Prop) → Prop} {c_X12_placeOf : Int → Int → e_M → (Int → Prop) → Prop} {k161 : Int → Int → Int → Int → Prop} {x1 : Int} {x3 : Int} {x4 : Int} {M : e_M} (C : f_Hy sh t yX12_tooLong rm cs 8 (lX12_tooLong c_X12_id c_X12_isThere c_X12_hasPoint c_X12_placeOn c_X12_placeOf) R) (h161 : ∀ (x1 : Int) (x3 : Int) (x4 : Int) (xs0 : Int), k161 x1 x3 x4 xs0 → f_E sh t YX12_tooLong rm cs (f_Q sh t R) 161 [.inr (.inr (.inl (12, 123, 4456))), .inl x1, .inr (.inr (.inr ())), .inl x3, .inl x4, .inr (.inr (.inr ())), .inr (.inr (.inr ()))] [.inl xs0] M) (h : VX12_tooLong_160 c_X12_id c_X12_isThere c_X12_hasPoint c_X12_placeOn c_X12_placeOf k161 (fun r => R (some (.inl r)) M) x1 x3 x4 M) : f_E sh t YX12_tooLong rm cs (f_Q sh t R) 160 [.inr (.inr (.inl (12, 123, 4456))), .inl x1, .inr (.inr (.inr ())), .inl x3, .inl x4, .inr (.inr (.inr ())), .inr (.inr (.inr ()))] [] M := by
  rw [f_kk4 M k161] at h
  exact f_go (KC := f_kc [(161, f_pl [(4466, 12, 123), (1, 0, 0), (0, 0, 0), (1, 0, 0), (1, 0, 0), (0, 0, 0), (0, 0, 0)] [(1, 0, 0)] (fun ls st M2 => M2 = M ∧ (k161 (f_vi (f_nth ls 1)) (f_vi (f_nth ls 3)) (f_vi (f_nth ls 4)) (f_vi (f_nth st 0)))))]) C qX12_tooLongf (f_kc_cons (f_pl_ok rfl (fun ls st M2 ⟨e, hh⟩ => by subst e; exact h161 _ _ _ _ hh)) f_kc_nil) 102 90 h
set_option maxRecDepth 20000 in
theorem BX12_tooLong_161 {sh : Nat → Nat × Nat} {t : Nat} {rm : Nat × Nat × Nat} {cs : Nat × Nat} {R : f_Rt} {c_X12_id : Int → Int → e_M → (Int → Prop) → Prop} {c_X12_isThere : Int → Int → Int → e_M → (Int → Prop) → Prop} {c_X12_hasPoint : Int → Int → Int → e_M → (Int → Prop) → Prop} {c_X12_placeOn : Int → Int → e_M → (Int → Prop) → Prop} {c_X12_placeOf : Int → Int → e_M → (Int → Prop) → Prop} {k162 : Int → Int → Int → Int → Prop} {x1 : Int} {x3 : Int} {x4 : Int} {xs0 : Int} {M : e_M} (C : f_Hy sh t yX12_tooLong rm cs 8 (lX12_tooLong c_X12_id c_X12_isThere c_X12_hasPoint c_X12_placeOn c_X12_placeOf) R) (h162 : ∀ (x1 : Int) (x2 : Int) (x3 : Int) (x4 : Int), k162 x1 x2 x3 x4 → f_E sh t YX12_tooLong rm cs (f_Q sh t R) 162 [.inr (.inr (.inl (12, 123, 4456))), .inl x1, .inl x2, .inl x3, .inl x4, .inr (.inr (.inr ())), .inr (.inr (.inr ()))] [] M) (h : VX12_tooLong_161 c_X12_id c_X12_isThere c_X12_hasPoint c_X12_placeOn c_X12_placeOf k162 (fun r => R (some (.inl r)) M) x1 x3 x4 xs0 M) : f_E sh t YX12_tooLong rm cs (f_Q sh t R) 161 [.inr (.inr (.inl (12, 123, 4456))), .inl x1, .inr (.inr (.inr ())), .inl x3, .inl x4, .inr (.inr (.inr ())), .inr (.inr (.inr ()))] [.inl xs0] M := by
  rw [f_kk4 M k162] at h
  exact f_go (KC := f_kc [(162, f_pl [(4466, 12, 123), (1, 0, 0), (1, 0, 0), (1, 0, 0), (1, 0, 0), (0, 0, 0), (0, 0, 0)] [] (fun ls st M2 => M2 = M ∧ (k162 (f_vi (f_nth ls 1)) (f_vi (f_nth ls 2)) (f_vi (f_nth ls 3)) (f_vi (f_nth ls 4)))))]) C qX12_tooLongf (f_kc_cons (f_pl_ok rfl (fun ls st M2 ⟨e, hh⟩ => by subst e; exact h162 _ _ _ _ hh)) f_kc_nil) 102 92 h
set_option maxRecDepth 20000 in
theorem BX12_tooLong_162 {sh : Nat → Nat × Nat} {t : Nat} {rm : Nat × Nat × Nat} {cs : Nat × Nat} {R : f_Rt} {c_X12_id : Int → Int → e_M → (Int → Prop) → Prop} {c_X12_isThere : Int → Int → Int → e_M → (Int → Prop) → Prop} {c_X12_hasPoint : Int → Int → Int → e_M → (Int → Prop) → Prop} {c_X12_placeOn : Int → Int → e_M → (Int → Prop) → Prop} {c_X12_placeOf : Int → Int → e_M → (Int → Prop) → Prop} {k13 : Int → Int → Int → Int → Prop} {x1 : Int} {x2 : Int} {x3 : Int} {x4 : Int} {M : e_M} (C : f_Hy sh t yX12_tooLong rm cs 8 (lX12_tooLong c_X12_id c_X12_isThere c_X12_hasPoint c_X12_placeOn c_X12_placeOf) R) (h13 : ∀ (x1 : Int) (x2 : Int) (x3 : Int) (x4 : Int), k13 x1 x2 x3 x4 → f_E sh t YX12_tooLong rm cs (f_Q sh t R) 13 [.inr (.inr (.inl (12, 123, 4456))), .inl x1, .inl x2, .inl x3, .inl x4, .inr (.inr (.inr ())), .inr (.inr (.inr ()))] [] M) (h : VX12_tooLong_162 c_X12_id c_X12_isThere c_X12_hasPoint c_X12_placeOn c_X12_placeOf k13 (fun r => R (some (.inl r)) M) x1 x2 x3 x4 M) : f_E sh t YX12_tooLong rm cs (f_Q sh t R) 162 [.inr (.inr (.inl (12, 123, 4456))), .inl x1, .inl x2, .inl x3, .inl x4, .inr (.inr (.inr ())), .inr (.inr (.inr ()))] [] M := by
  rw [f_kk4 M k13] at h
  exact f_go (KC := f_kc [(13, f_pl [(4466, 12, 123), (1, 0, 0), (1, 0, 0), (1, 0, 0), (1, 0, 0), (0, 0, 0), (0, 0, 0)] [] (fun ls st M2 => M2 = M ∧ (k13 (f_vi (f_nth ls 1)) (f_vi (f_nth ls 2)) (f_vi (f_nth ls 3)) (f_vi (f_nth ls 4)))))]) C qX12_tooLongf (f_kc_cons (f_pl_ok rfl (fun ls st M2 ⟨e, hh⟩ => by subst e; exact h13 _ _ _ _ hh)) f_kc_nil) 102 94 h
set_option maxRecDepth 20000 in
theorem BX12_tooLong {sh : Nat → Nat × Nat} {t : Nat} {rm : Nat × Nat × Nat} {cs : Nat × Nat} {R : f_Rt} {c_X12_id : Int → Int → e_M → (Int → Prop) → Prop} {c_X12_isThere : Int → Int → Int → e_M → (Int → Prop) → Prop} {c_X12_hasPoint : Int → Int → Int → e_M → (Int → Prop) → Prop} {c_X12_placeOn : Int → Int → e_M → (Int → Prop) → Prop} {c_X12_placeOf : Int → Int → e_M → (Int → Prop) → Prop} {k4 : Int → Int → Int → Prop} {x1 : Int} {M : e_M} (C : f_Hy sh t yX12_tooLong rm cs 8 (lX12_tooLong c_X12_id c_X12_isThere c_X12_hasPoint c_X12_placeOn c_X12_placeOf) R) (h4 : ∀ (x1 : Int) (x2 : Int) (x3 : Int), k4 x1 x2 x3 → f_E sh t YX12_tooLong rm cs (f_Q sh t R) 4 [.inr (.inr (.inl (12, 123, 4456))), .inl x1, .inl x2, .inl x3, .inr (.inr (.inr ())), .inr (.inr (.inr ())), .inr (.inr (.inr ()))] [] M) (h : VX12_tooLong c_X12_id c_X12_isThere c_X12_hasPoint c_X12_placeOn c_X12_placeOf k4 (fun r => R (some (.inl r)) M) x1 M) : f_E sh t YX12_tooLong rm cs (f_Q sh t R) 0 [.inr (.inr (.inl (12, 123, 4456))), .inl x1, .inr (.inr (.inr ())), .inr (.inr (.inr ())), .inr (.inr (.inr ())), .inr (.inr (.inr ())), .inr (.inr (.inr ()))] [] M := by
  rw [f_kk3 M k4] at h
  exact f_go (KC := f_kc [(4, f_pl [(4466, 12, 123), (1, 0, 0), (1, 0, 0), (1, 0, 0), (0, 0, 0), (0, 0, 0), (0, 0, 0)] [] (fun ls st M2 => M2 = M ∧ (k4 (f_vi (f_nth ls 1)) (f_vi (f_nth ls 2)) (f_vi (f_nth ls 3)))))]) C qX12_tooLongf (f_kc_cons (f_pl_ok rfl (fun ls st M2 ⟨e, hh⟩ => by subst e; exact h4 _ _ _ hh)) f_kc_nil) 102 0 h
def WX12_tooLong_162 (M : e_M) (H4 : Int → Int → Int → Prop) (H13 : Int → Int → Int → Int → Prop) (Q : Int → Prop) (x1 : Int) (x2 : Int) (x3 : Int) (x4 : Int) : Prop :=
  VX12_tooLong_162 WX12_id WX12_isThere WX12_hasPoint WX12_placeOn WX12_placeOf H13 Q x1 x2 x3 x4 M
def WX12_tooLong_161 (M : e_M) (H4 : Int → Int → Int → Prop) (H13 : Int → Int → Int → Int → Prop) (Q : Int → Prop) (x1 : Int) (x3 : Int) (x4 : Int) (xs0 : Int) : Prop :=
  VX12_tooLong_161 WX12_id WX12_isThere WX12_hasPoint WX12_placeOn WX12_placeOf (WX12_tooLong_162 M H4 H13 Q) Q x1 x3 x4 xs0 M
def WX12_tooLong_160 (M : e_M) (H4 : Int → Int → Int → Prop) (H13 : Int → Int → Int → Int → Prop) (Q : Int → Prop) (x1 : Int) (x3 : Int) (x4 : Int) : Prop :=
  VX12_tooLong_160 WX12_id WX12_isThere WX12_hasPoint WX12_placeOn WX12_placeOf (WX12_tooLong_161 M H4 H13 Q) Q x1 x3 x4 M
def WX12_tooLong_156 (M : e_M) (H4 : Int → Int → Int → Prop) (H13 : Int → Int → Int → Int → Prop) (Q : Int → Prop) (x1 : Int) (x3 : Int) (x4 : Int) : Prop :=
  VX12_tooLong_156 WX12_id WX12_isThere WX12_hasPoint WX12_placeOn WX12_placeOf (WX12_tooLong_161 M H4 H13 Q) Q x1 x3 x4 M
def WX12_tooLong_129 (M : e_M) (H4 : Int → Int → Int → Prop) (H13 : Int → Int → Int → Int → Prop) (Q : Int → Prop) (x1 : Int) (x3 : Int) (x4 : Int) (x5 : Int) : Prop :=
  VX12_tooLong_129 WX12_id WX12_isThere WX12_hasPoint WX12_placeOn WX12_placeOf (WX12_tooLong_160 M H4 H13 Q) (WX12_tooLong_156 M H4 H13 Q) Q x1 x3 x4 x5 M
def WX12_tooLong_96 (M : e_M) (H4 : Int → Int → Int → Prop) (H13 : Int → Int → Int → Int → Prop) (Q : Int → Prop) (x1 : Int) (x2 : Int) (x3 : Int) (x4 : Int) (x5 : Int) (xs0 : Int) : Prop :=
  VX12_tooLong_96 WX12_id WX12_isThere WX12_hasPoint WX12_placeOn WX12_placeOf (WX12_tooLong_156 M H4 H13 Q) (WX12_tooLong_129 M H4 H13 Q) Q x1 x2 x3 x4 x5 xs0 M
def WX12_tooLong_91 (M : e_M) (H4 : Int → Int → Int → Prop) (H13 : Int → Int → Int → Int → Prop) (Q : Int → Prop) (x1 : Int) (x2 : Int) (x3 : Int) (x4 : Int) (x5 : Int) : Prop :=
  VX12_tooLong_91 WX12_id WX12_isThere WX12_hasPoint WX12_placeOn WX12_placeOf (WX12_tooLong_96 M H4 H13 Q) Q x1 x2 x3 x4 x5 M
def WX12_tooLong_95 (M : e_M) (H4 : Int → Int → Int → Prop) (H13 : Int → Int → Int → Int → Prop) (Q : Int → Prop) (x1 : Int) (x2 : Int) (x3 : Int) (x4 : Int) (x5 : Int) : Prop :=
  VX12_tooLong_95 WX12_id WX12_isThere WX12_hasPoint WX12_placeOn WX12_placeOf (WX12_tooLong_96 M H4 H13 Q) Q x1 x2 x3 x4 x5 M
def WX12_tooLong_13 (M : e_M) (H4 : Int → Int → Int → Prop) (Q : Int → Prop) : Nat → Int → Int → Int → Int → Prop
  | 0, _, _, _, _ => False
  | n + 1, x1, x2, x3, x4 =>
    VX12_tooLong_13 WX12_id WX12_isThere WX12_hasPoint WX12_placeOn WX12_placeOf H4 (WX12_tooLong_162 M H4 (WX12_tooLong_13 M H4 Q n) Q) (WX12_tooLong_91 M H4 (WX12_tooLong_13 M H4 Q n) Q) (WX12_tooLong_95 M H4 (WX12_tooLong_13 M H4 Q n) Q) Q x1 x2 x3 x4 M
def WX12_tooLong_4 (M : e_M) (Q : Int → Prop) : Nat → Int → Int → Int → Prop
  | 0, _, _, _ => False
  | n + 1, x1, x2, x3 =>
    VX12_tooLong_4 WX12_id WX12_isThere WX12_hasPoint WX12_placeOn WX12_placeOf (fun x1 x2 x3 x4 => ∃ j, WX12_tooLong_13 M (WX12_tooLong_4 M Q n) Q j x1 x2 x3 x4) Q x1 x2 x3 M
def WX12_tooLong (x1 : Int) (M : e_M) (Q : Int → Prop) : Prop :=
  VX12_tooLong WX12_id WX12_isThere WX12_hasPoint WX12_placeOn WX12_placeOf (fun x1 x2 x3 => ∃ j, WX12_tooLong_4 M Q j x1 x2 x3) Q x1 M
theorem PX12_tooLong_162 {sh : Nat → Nat × Nat} {t : Nat} {rm : Nat × Nat × Nat} {cs : Nat × Nat} {R : f_Rt} {H4 : Int → Int → Int → Prop} {H13 : Int → Int → Int → Int → Prop} {x1 : Int} {x2 : Int} {x3 : Int} {x4 : Int} {M : e_M} (C : f_Hy sh t yX12_tooLong rm cs 8 (lX12_tooLong WX12_id WX12_isThere WX12_hasPoint WX12_placeOn WX12_placeOf) R) (g4 : ∀ (x1 : Int) (x2 : Int) (x3 : Int), H4 x1 x2 x3 → f_E sh t YX12_tooLong rm cs (f_Q sh t R) 4 [.inr (.inr (.inl (12, 123, 4456))), .inl x1, .inl x2, .inl x3, .inr (.inr (.inr ())), .inr (.inr (.inr ())), .inr (.inr (.inr ()))] [] M) (g13 : ∀ (x1 : Int) (x2 : Int) (x3 : Int) (x4 : Int), H13 x1 x2 x3 x4 → f_E sh t YX12_tooLong rm cs (f_Q sh t R) 13 [.inr (.inr (.inl (12, 123, 4456))), .inl x1, .inl x2, .inl x3, .inl x4, .inr (.inr (.inr ())), .inr (.inr (.inr ()))] [] M) (h : WX12_tooLong_162 M H4 H13 (fun r => R (some (.inl r)) M) x1 x2 x3 x4) : f_E sh t YX12_tooLong rm cs (f_Q sh t R) 162 [.inr (.inr (.inl (12, 123, 4456))), .inl x1, .inl x2, .inl x3, .inl x4, .inr (.inr (.inr ())), .inr (.inr (.inr ()))] [] M :=
  BX12_tooLong_162 C g13 h
theorem PX12_tooLong_161 {sh : Nat → Nat × Nat} {t : Nat} {rm : Nat × Nat × Nat} {cs : Nat × Nat} {R : f_Rt} {H4 : Int → Int → Int → Prop} {H13 : Int → Int → Int → Int → Prop} {x1 : Int} {x3 : Int} {x4 : Int} {xs0 : Int} {M : e_M} (C : f_Hy sh t yX12_tooLong rm cs 8 (lX12_tooLong WX12_id WX12_isThere WX12_hasPoint WX12_placeOn WX12_placeOf) R) (g4 : ∀ (x1 : Int) (x2 : Int) (x3 : Int), H4 x1 x2 x3 → f_E sh t YX12_tooLong rm cs (f_Q sh t R) 4 [.inr (.inr (.inl (12, 123, 4456))), .inl x1, .inl x2, .inl x3, .inr (.inr (.inr ())), .inr (.inr (.inr ())), .inr (.inr (.inr ()))] [] M) (g13 : ∀ (x1 : Int) (x2 : Int) (x3 : Int) (x4 : Int), H13 x1 x2 x3 x4 → f_E sh t YX12_tooLong rm cs (f_Q sh t R) 13 [.inr (.inr (.inl (12, 123, 4456))), .inl x1, .inl x2, .inl x3, .inl x4, .inr (.inr (.inr ())), .inr (.inr (.inr ()))] [] M) (h : WX12_tooLong_161 M H4 H13 (fun r => R (some (.inl r)) M) x1 x3 x4 xs0) : f_E sh t YX12_tooLong rm cs (f_Q sh t R) 161 [.inr (.inr (.inl (12, 123, 4456))), .inl x1, .inr (.inr (.inr ())), .inl x3, .inl x4, .inr (.inr (.inr ())), .inr (.inr (.inr ()))] [.inl xs0] M :=
  BX12_tooLong_161 C (fun x1 x2 x3 x4 h => PX12_tooLong_162 C g4 g13 h) h
theorem PX12_tooLong_160 {sh : Nat → Nat × Nat} {t : Nat} {rm : Nat × Nat × Nat} {cs : Nat × Nat} {R : f_Rt} {H4 : Int → Int → Int → Prop} {H13 : Int → Int → Int → Int → Prop} {x1 : Int} {x3 : Int} {x4 : Int} {M : e_M} (C : f_Hy sh t yX12_tooLong rm cs 8 (lX12_tooLong WX12_id WX12_isThere WX12_hasPoint WX12_placeOn WX12_placeOf) R) (g4 : ∀ (x1 : Int) (x2 : Int) (x3 : Int), H4 x1 x2 x3 → f_E sh t YX12_tooLong rm cs (f_Q sh t R) 4 [.inr (.inr (.inl (12, 123, 4456))), .inl x1, .inl x2, .inl x3, .inr (.inr (.inr ())), .inr (.inr (.inr ())), .inr (.inr (.inr ()))] [] M) (g13 : ∀ (x1 : Int) (x2 : Int) (x3 : Int) (x4 : Int), H13 x1 x2 x3 x4 → f_E sh t YX12_tooLong rm cs (f_Q sh t R) 13 [.inr (.inr (.inl (12, 123, 4456))), .inl x1, .inl x2, .inl x3, .inl x4, .inr (.inr (.inr ())), .inr (.inr (.inr ()))] [] M) (h : WX12_tooLong_160 M H4 H13 (fun r => R (some (.inl r)) M) x1 x3 x4) : f_E sh t YX12_tooLong rm cs (f_Q sh t R) 160 [.inr (.inr (.inl (12, 123, 4456))), .inl x1, .inr (.inr (.inr ())), .inl x3, .inl x4, .inr (.inr (.inr ())), .inr (.inr (.inr ()))] [] M :=
  BX12_tooLong_160 C (fun x1 x3 x4 xs0 h => PX12_tooLong_161 C g4 g13 h) h
theorem PX12_tooLong_156 {sh : Nat → Nat × Nat} {t : Nat} {rm : Nat × Nat × Nat} {cs : Nat × Nat} {R : f_Rt} {H4 : Int → Int → Int → Prop} {H13 : Int → Int → Int → Int → Prop} {x1 : Int} {x3 : Int} {x4 : Int} {M : e_M} (C : f_Hy sh t yX12_tooLong rm cs 8 (lX12_tooLong WX12_id WX12_isThere WX12_hasPoint WX12_placeOn WX12_placeOf) R) (g4 : ∀ (x1 : Int) (x2 : Int) (x3 : Int), H4 x1 x2 x3 → f_E sh t YX12_tooLong rm cs (f_Q sh t R) 4 [.inr (.inr (.inl (12, 123, 4456))), .inl x1, .inl x2, .inl x3, .inr (.inr (.inr ())), .inr (.inr (.inr ())), .inr (.inr (.inr ()))] [] M) (g13 : ∀ (x1 : Int) (x2 : Int) (x3 : Int) (x4 : Int), H13 x1 x2 x3 x4 → f_E sh t YX12_tooLong rm cs (f_Q sh t R) 13 [.inr (.inr (.inl (12, 123, 4456))), .inl x1, .inl x2, .inl x3, .inl x4, .inr (.inr (.inr ())), .inr (.inr (.inr ()))] [] M) (h : WX12_tooLong_156 M H4 H13 (fun r => R (some (.inl r)) M) x1 x3 x4) : f_E sh t YX12_tooLong rm cs (f_Q sh t R) 156 [.inr (.inr (.inl (12, 123, 4456))), .inl x1, .inr (.inr (.inr ())), .inl x3, .inl x4, .inr (.inr (.inr ())), .inr (.inr (.inr ()))] [] M :=
  BX12_tooLong_156 C (fun x1 x3 x4 xs0 h => PX12_tooLong_161 C g4 g13 h) h
theorem PX12_tooLong_129 {sh : Nat → Nat × Nat} {t : Nat} {rm : Nat × Nat × Nat} {cs : Nat × Nat} {R : f_Rt} {H4 : Int → Int → Int → Prop} {H13 : Int → Int → Int → Int → Prop} {x1 : Int} {x3 : Int} {x4 : Int} {x5 : Int} {M : e_M} (C : f_Hy sh t yX12_tooLong rm cs 8 (lX12_tooLong WX12_id WX12_isThere WX12_hasPoint WX12_placeOn WX12_placeOf) R) (g4 : ∀ (x1 : Int) (x2 : Int) (x3 : Int), H4 x1 x2 x3 → f_E sh t YX12_tooLong rm cs (f_Q sh t R) 4 [.inr (.inr (.inl (12, 123, 4456))), .inl x1, .inl x2, .inl x3, .inr (.inr (.inr ())), .inr (.inr (.inr ())), .inr (.inr (.inr ()))] [] M) (g13 : ∀ (x1 : Int) (x2 : Int) (x3 : Int) (x4 : Int), H13 x1 x2 x3 x4 → f_E sh t YX12_tooLong rm cs (f_Q sh t R) 13 [.inr (.inr (.inl (12, 123, 4456))), .inl x1, .inl x2, .inl x3, .inl x4, .inr (.inr (.inr ())), .inr (.inr (.inr ()))] [] M) (h : WX12_tooLong_129 M H4 H13 (fun r => R (some (.inl r)) M) x1 x3 x4 x5) : f_E sh t YX12_tooLong rm cs (f_Q sh t R) 129 [.inr (.inr (.inl (12, 123, 4456))), .inl x1, .inr (.inr (.inr ())), .inl x3, .inl x4, .inl x5, .inr (.inr (.inr ()))] [] M :=
  BX12_tooLong_129 C (fun x1 x3 x4 h => PX12_tooLong_160 C g4 g13 h) (fun x1 x3 x4 h => PX12_tooLong_156 C g4 g13 h) h
theorem PX12_tooLong_96 {sh : Nat → Nat × Nat} {t : Nat} {rm : Nat × Nat × Nat} {cs : Nat × Nat} {R : f_Rt} {H4 : Int → Int → Int → Prop} {H13 : Int → Int → Int → Int → Prop} {x1 : Int} {x2 : Int} {x3 : Int} {x4 : Int} {x5 : Int} {xs0 : Int} {M : e_M} (C : f_Hy sh t yX12_tooLong rm cs 8 (lX12_tooLong WX12_id WX12_isThere WX12_hasPoint WX12_placeOn WX12_placeOf) R) (g4 : ∀ (x1 : Int) (x2 : Int) (x3 : Int), H4 x1 x2 x3 → f_E sh t YX12_tooLong rm cs (f_Q sh t R) 4 [.inr (.inr (.inl (12, 123, 4456))), .inl x1, .inl x2, .inl x3, .inr (.inr (.inr ())), .inr (.inr (.inr ())), .inr (.inr (.inr ()))] [] M) (g13 : ∀ (x1 : Int) (x2 : Int) (x3 : Int) (x4 : Int), H13 x1 x2 x3 x4 → f_E sh t YX12_tooLong rm cs (f_Q sh t R) 13 [.inr (.inr (.inl (12, 123, 4456))), .inl x1, .inl x2, .inl x3, .inl x4, .inr (.inr (.inr ())), .inr (.inr (.inr ()))] [] M) (h : WX12_tooLong_96 M H4 H13 (fun r => R (some (.inl r)) M) x1 x2 x3 x4 x5 xs0) : f_E sh t YX12_tooLong rm cs (f_Q sh t R) 96 [.inr (.inr (.inl (12, 123, 4456))), .inl x1, .inl x2, .inl x3, .inl x4, .inl x5, .inr (.inr (.inr ()))] [.inl xs0] M :=
  BX12_tooLong_96 C (fun x1 x3 x4 h => PX12_tooLong_156 C g4 g13 h) (fun x1 x3 x4 x5 h => PX12_tooLong_129 C g4 g13 h) h
theorem PX12_tooLong_91 {sh : Nat → Nat × Nat} {t : Nat} {rm : Nat × Nat × Nat} {cs : Nat × Nat} {R : f_Rt} {H4 : Int → Int → Int → Prop} {H13 : Int → Int → Int → Int → Prop} {x1 : Int} {x2 : Int} {x3 : Int} {x4 : Int} {x5 : Int} {M : e_M} (C : f_Hy sh t yX12_tooLong rm cs 8 (lX12_tooLong WX12_id WX12_isThere WX12_hasPoint WX12_placeOn WX12_placeOf) R) (g4 : ∀ (x1 : Int) (x2 : Int) (x3 : Int), H4 x1 x2 x3 → f_E sh t YX12_tooLong rm cs (f_Q sh t R) 4 [.inr (.inr (.inl (12, 123, 4456))), .inl x1, .inl x2, .inl x3, .inr (.inr (.inr ())), .inr (.inr (.inr ())), .inr (.inr (.inr ()))] [] M) (g13 : ∀ (x1 : Int) (x2 : Int) (x3 : Int) (x4 : Int), H13 x1 x2 x3 x4 → f_E sh t YX12_tooLong rm cs (f_Q sh t R) 13 [.inr (.inr (.inl (12, 123, 4456))), .inl x1, .inl x2, .inl x3, .inl x4, .inr (.inr (.inr ())), .inr (.inr (.inr ()))] [] M) (h : WX12_tooLong_91 M H4 H13 (fun r => R (some (.inl r)) M) x1 x2 x3 x4 x5) : f_E sh t YX12_tooLong rm cs (f_Q sh t R) 91 [.inr (.inr (.inl (12, 123, 4456))), .inl x1, .inl x2, .inl x3, .inl x4, .inl x5, .inr (.inr (.inr ()))] [] M :=
  BX12_tooLong_91 C (fun x1 x2 x3 x4 x5 xs0 h => PX12_tooLong_96 C g4 g13 h) h
theorem PX12_tooLong_95 {sh : Nat → Nat × Nat} {t : Nat} {rm : Nat × Nat × Nat} {cs : Nat × Nat} {R : f_Rt} {H4 : Int → Int → Int → Prop} {H13 : Int → Int → Int → Int → Prop} {x1 : Int} {x2 : Int} {x3 : Int} {x4 : Int} {x5 : Int} {M : e_M} (C : f_Hy sh t yX12_tooLong rm cs 8 (lX12_tooLong WX12_id WX12_isThere WX12_hasPoint WX12_placeOn WX12_placeOf) R) (g4 : ∀ (x1 : Int) (x2 : Int) (x3 : Int), H4 x1 x2 x3 → f_E sh t YX12_tooLong rm cs (f_Q sh t R) 4 [.inr (.inr (.inl (12, 123, 4456))), .inl x1, .inl x2, .inl x3, .inr (.inr (.inr ())), .inr (.inr (.inr ())), .inr (.inr (.inr ()))] [] M) (g13 : ∀ (x1 : Int) (x2 : Int) (x3 : Int) (x4 : Int), H13 x1 x2 x3 x4 → f_E sh t YX12_tooLong rm cs (f_Q sh t R) 13 [.inr (.inr (.inl (12, 123, 4456))), .inl x1, .inl x2, .inl x3, .inl x4, .inr (.inr (.inr ())), .inr (.inr (.inr ()))] [] M) (h : WX12_tooLong_95 M H4 H13 (fun r => R (some (.inl r)) M) x1 x2 x3 x4 x5) : f_E sh t YX12_tooLong rm cs (f_Q sh t R) 95 [.inr (.inr (.inl (12, 123, 4456))), .inl x1, .inl x2, .inl x3, .inl x4, .inl x5, .inr (.inr (.inr ()))] [] M :=
  BX12_tooLong_95 C (fun x1 x2 x3 x4 x5 xs0 h => PX12_tooLong_96 C g4 g13 h) h
theorem PX12_tooLong_13 {sh : Nat → Nat × Nat} {t : Nat} {rm : Nat × Nat × Nat} {cs : Nat × Nat} {R : f_Rt} {H4 : Int → Int → Int → Prop} {M : e_M} (C : f_Hy sh t yX12_tooLong rm cs 8 (lX12_tooLong WX12_id WX12_isThere WX12_hasPoint WX12_placeOn WX12_placeOf) R) (g4 : ∀ (x1 : Int) (x2 : Int) (x3 : Int), H4 x1 x2 x3 → f_E sh t YX12_tooLong rm cs (f_Q sh t R) 4 [.inr (.inr (.inl (12, 123, 4456))), .inl x1, .inl x2, .inl x3, .inr (.inr (.inr ())), .inr (.inr (.inr ())), .inr (.inr (.inr ()))] [] M) : ∀ (n : Nat) (x1 : Int) (x2 : Int) (x3 : Int) (x4 : Int), WX12_tooLong_13 M H4 (fun r => R (some (.inl r)) M) n x1 x2 x3 x4 → f_E sh t YX12_tooLong rm cs (f_Q sh t R) 13 [.inr (.inr (.inl (12, 123, 4456))), .inl x1, .inl x2, .inl x3, .inl x4, .inr (.inr (.inr ())), .inr (.inr (.inr ()))] [] M := by
  intro n
  induction n with
  | zero => intro x1 x2 x3 x4 h; exact h.elim
  | succ n ih => intro x1 x2 x3 x4 h; exact BX12_tooLong_13 C g4 (fun x1 x2 x3 x4 h => PX12_tooLong_162 C g4 ih h) (fun x1 x2 x3 x4 x5 h => PX12_tooLong_91 C g4 ih h) (fun x1 x2 x3 x4 x5 h => PX12_tooLong_95 C g4 ih h) h
theorem PX12_tooLong_4 {sh : Nat → Nat × Nat} {t : Nat} {rm : Nat × Nat × Nat} {cs : Nat × Nat} {R : f_Rt} {M : e_M} (C : f_Hy sh t yX12_tooLong rm cs 8 (lX12_tooLong WX12_id WX12_isThere WX12_hasPoint WX12_placeOn WX12_placeOf) R) : ∀ (n : Nat) (x1 : Int) (x2 : Int) (x3 : Int), WX12_tooLong_4 M (fun r => R (some (.inl r)) M) n x1 x2 x3 → f_E sh t YX12_tooLong rm cs (f_Q sh t R) 4 [.inr (.inr (.inl (12, 123, 4456))), .inl x1, .inl x2, .inl x3, .inr (.inr (.inr ())), .inr (.inr (.inr ())), .inr (.inr (.inr ()))] [] M := by
  intro n
  induction n with
  | zero => intro x1 x2 x3 h; exact h.elim
  | succ n ih => intro x1 x2 x3 h; exact BX12_tooLong_4 C (fun x1 x2 x3 x4 ⟨j, h⟩ => PX12_tooLong_13 C ih j _ _ _ _ h) h
theorem PX12_tooLong {sh : Nat → Nat × Nat} {t : Nat} {rm : Nat × Nat × Nat} {cs : Nat × Nat} {R : f_Rt} {x1 : Int} {M : e_M} (C : f_Hy sh t yX12_tooLong rm cs 8 (lX12_tooLong WX12_id WX12_isThere WX12_hasPoint WX12_placeOn WX12_placeOf) R) (h : WX12_tooLong x1 M (fun r => R (some (.inl r)) M)) : f_E sh t YX12_tooLong rm cs (f_Q sh t R) 0 [.inr (.inr (.inl (12, 123, 4456))), .inl x1, .inr (.inr (.inr ())), .inr (.inr (.inr ())), .inr (.inr (.inr ())), .inr (.inr (.inr ())), .inr (.inr (.inr ()))] [] M :=
  BX12_tooLong C (fun x1 x2 x3 ⟨j, h⟩ => PX12_tooLong_4 C j _ _ _ h) h
def wX12_tooLong : f_Wt := f_wm [(4466, 12, 123), (1, 0, 0)] (fun ar M R => WX12_tooLong (f_vi (f_nth ar 1)) M (fun r => R (some (.inl r)) M))
theorem TX12_tooLong {sh : Nat → Nat × Nat} {t : Nat} : f_Mt sh t YX12_tooLong 8 (wX12_tooLong) :=
  f_Mt_of (k := 5) (Nat.le_of_ble_eq_true rfl) rfl rfl (fun ar M R rm cs h1 h2 h3 hX h => PX12_tooLong ⟨Nat.le_of_ble_eq_true rfl, h1, h2, h3, ⟨(f_Mt.up (Nat.le_of_ble_eq_true rfl) TX12_id), (f_Mt.up (Nat.le_of_ble_eq_true rfl) TX12_isThere), (f_Mt.up (Nat.le_of_ble_eq_true rfl) TX12_hasPoint), (f_Mt.up (Nat.le_of_ble_eq_true rfl) TX12_placeOn), (f_Mt.up (Nat.le_of_ble_eq_true rfl) TX12_placeOf), trivial⟩, hX⟩ h)
def VX12_newLot_20 (c_X12_make : Int → Int → e_M → (Int → e_M → Prop) → Prop) (c_X12_loads : Int → e_M → (e_M → Prop) → Prop) (c_X12_keeps : Int → e_M → (e_M → Prop) → Prop) (k106 : Int → Int → Int → e_M → Prop) (k20 : Int → Int → Int → Int → Int → e_M → Prop) (Q : Int → e_M → Prop) (x3 : Int) (x4 : Int) (x5 : Int) (x6 : Int) (x7 : Int) (M : e_M) : Prop :=
  ((x5 ≤ x7 → (c_X12_loads x3 M (fun M1 => (c_X12_keeps x6 M1 (fun M2 => ((0 ≤ x3 ∧ x3 < 80) ∧ ((0 ≤ x6 ∧ x6 < 80) ∧ (∀ M3 : e_M, M3 = e_up M2 4499 (x6.toNat) (M2 4499 (x3.toNat)) → (k106 x3 x6 0 M3))))))))) ∧ (x7 < x5 → ((0 ≤ (e_w32 (x4 + x7)) ∧ (e_w32 (x4 + x7)) < 4800) ∧ ((0 ≤ (e_w32 ((e_w32 ((40 : Int) * x6)) + x7)) ∧ (e_w32 ((e_w32 ((40 : Int) * x6)) + x7)) < 4800) ∧ (∀ M4 : e_M, M4 = e_up M 4480 ((e_w32 ((e_w32 ((40 : Int) * x6)) + x7)).toNat) (M 4480 ((e_w32 (x4 + x7)).toNat)) → ((0 ≤ (e_w32 (x4 + x7)) ∧ (e_w32 (x4 + x7)) < 4800) ∧ ((0 ≤ (e_w32 ((e_w32 ((40 : Int) * x6)) + x7)) ∧ (e_w32 ((e_w32 ((40 : Int) * x6)) + x7)) < 4800) ∧ (∀ M5 : e_M, M5 = e_up M4 4481 ((e_w32 ((e_w32 ((40 : Int) * x6)) + x7)).toNat) (M4 4481 ((e_w32 (x4 + x7)).toNat)) → (k20 x3 x4 x5 x6 (e_w32 (x7 + 1)) M5)))))))))
def VX12_newLot_106 (c_X12_make : Int → Int → e_M → (Int → e_M → Prop) → Prop) (c_X12_loads : Int → e_M → (e_M → Prop) → Prop) (c_X12_keeps : Int → e_M → (e_M → Prop) → Prop) (k106 : Int → Int → Int → e_M → Prop) (Q : Int → e_M → Prop) (x3 : Int) (x6 : Int) (x7 : Int) (M : e_M) : Prop :=
  ((0 ≤ x3 ∧ x3 < 80) ∧ (((M 4499 (x3.toNat)) ≤ x7 → (Q x6 M)) ∧ (x7 < (M 4499 (x3.toNat)) → ((0 ≤ (e_w32 ((e_w32 ((8 : Int) * x3)) + x7)) ∧ (e_w32 ((e_w32 ((8 : Int) * x3)) + x7)) < 640) ∧ ((0 ≤ (e_w32 ((e_w32 ((8 : Int) * x6)) + x7)) ∧ (e_w32 ((e_w32 ((8 : Int) * x6)) + x7)) < 640) ∧ (∀ M1 : e_M, M1 = e_up M 4500 ((e_w32 ((e_w32 ((8 : Int) * x6)) + x7)).toNat) (M 4500 ((e_w32 ((e_w32 ((8 : Int) * x3)) + x7)).toNat)) → (k106 x3 x6 (e_w32 (x7 + 1)) M1)))))))
def VX12_newLot (c_X12_make : Int → Int → e_M → (Int → e_M → Prop) → Prop) (c_X12_loads : Int → e_M → (e_M → Prop) → Prop) (c_X12_keeps : Int → e_M → (e_M → Prop) → Prop) (k20 : Int → Int → Int → Int → Int → e_M → Prop) (Q : Int → e_M → Prop) (x1 : Int) (x3 : Int) (x4 : Int) (x5 : Int) (M : e_M) : Prop :=
  (c_X12_make 0 x1 M (fun r1 M2 => ((0 ≤ r1 ∧ r1 < 80) ∧ (∀ M3 : e_M, M3 = e_up M2 4496 (r1.toNat) x5 → (k20 x3 x4 x5 r1 0 M3)))))
def yX12_newLot (i : Nat) : e_Y := x_get YX12_newLot [YX12_make, YX12_loads, YX12_keeps] i
def pX12_newLotf : List x_I := [(0, 4, 1, 0, 0, 0, []), (1, 0, 1, 0, 0, 0, []), (2, 3, 1, 1, 0, 0, []), (3, 40, 0, 3, 14, 0, []), (6, 5, 2, 6, 0, 0, []), (8, 4, 1, 0, 0, 0, []), (9, 25, 12, 63, 4, 0, [(0, 20, 80), (0, 1, 40)]), (12, 2, 2, 6, 0, 0, []), (14, 2, 2, 5, 0, 0, []), (16, 28, 0, 0, 0, 0, []), (17, 0, 1, 0, 0, 0, []), (18, 5, 2, 7, 0, 0, []), (20, 49, 0, 0, 0, 0, []), (20, 2, 2, 7, 0, 0, []), (22, 2, 2, 5, 0, 0, []), (24, 18, 79, 3, 47, 0, []), (27, 4, 1, 0, 0, 0, []), (28, 25, 12, 40, 4, 0, [(0, 20, 4800), (0, 1, 24)]), (31, 0, 2, 0, 0, 40, []), (33, 2, 2, 6, 0, 0, []), (35, 9, 0, 2, 0, 0, []), (36, 2, 2, 7, 0, 0, []), (38, 9, 0, 0, 0, 0, []), (39, 4, 1, 0, 0, 0, []), (40, 25, 12, 40, 4, 0, [(0, 20, 4800), (0, 1, 24)]), (43, 2, 2, 4, 0, 0, []), (45, 2, 2, 7, 0, 0, []), (47, 9, 0, 0, 0, 0, []), (48, 27, 0, 0, 0, 0, []), (49, 28, 0, 0, 0, 0, []), (50, 4, 1, 0, 0, 0, []), (51, 25, 12, 41, 4, 0, [(0, 20, 4800), (0, 1, 25)]), (54, 0, 2, 0, 0, 40, []), (56, 2, 2, 6, 0, 0, []), (58, 9, 0, 2, 0, 0, []), (59, 2, 2, 7, 0, 0, []), (61, 9, 0, 0, 0, 0, []), (62, 4, 1, 0, 0, 0, []), (63, 25, 12, 41, 4, 0, [(0, 20, 4800), (0, 1, 25)]), (66, 2, 2, 4, 0, 0, []), (68, 2, 2, 7, 0, 0, []), (70, 9, 0, 0, 0, 0, []), (71, 27, 0, 0, 0, 0, []), (72, 28, 0, 0, 0, 0, []), (73, 8, 0, 7, 0, 1, []), (76, 19, 20, 0, 13, 0, []), (79, 4, 1, 0, 0, 0, []), (80, 2, 1, 3, 0, 0, []), (81, 40, 1, 2, 14, 0, []), (84, 4, 1, 0, 0, 0, []), (85, 2, 2, 6, 0, 0, []), (87, 40, 2, 2, 14, 0, []), (90, 4, 1, 0, 0, 0, []), (91, 25, 12, 66, 4, 0, [(0, 20, 80), (0, 1, 43)]), (94, 2, 2, 6, 0, 0, []), (96, 4, 1, 0, 0, 0, []), (97, 25, 12, 66, 4, 0, [(0, 20, 80), (0, 1, 43)]), (100, 2, 1, 3, 0, 0, []), (101, 27, 0, 0, 0, 0, []), (102, 28, 0, 0, 0, 0, []), (103, 0, 1, 0, 0, 0, []), (104, 5, 2, 7, 0, 0, []), (106, 49, 0, 0, 0, 0, []), (106, 2, 2, 7, 0, 0, []), (108, 4, 1, 0, 0, 0, []), (109, 25, 12, 66, 4, 0, [(0, 20, 80), (0, 1, 43)]), (112, 2, 1, 3, 0, 0, []), (113, 27, 0, 0, 0, 0, []), (114, 18, 148, 3, 88, 0, []), (117, 4, 1, 0, 0, 0, []), (118, 25, 12, 67, 4, 0, [(0, 20, 640), (0, 1, 44)]), (121, 0, 2, 0, 0, 8, []), (123, 2, 2, 6, 0, 0, []), (125, 9, 0, 2, 0, 0, []), (126, 2, 2, 7, 0, 0, []), (128, 9, 0, 0, 0, 0, []), (129, 4, 1, 0, 0, 0, []), (130, 25, 12, 67, 4, 0, [(0, 20, 640), (0, 1, 44)]), (133, 0, 2, 0, 0, 8, []), (135, 2, 1, 3, 0, 0, []), (136, 9, 0, 2, 0, 0, []), (137, 2, 2, 7, 0, 0, []), (139, 9, 0, 0, 0, 0, []), (140, 27, 0, 0, 0, 0, []), (141, 28, 0, 0, 0, 0, []), (142, 8, 0, 7, 0, 1, []), (145, 19, 106, 0, 63, 0, []), (148, 2, 2, 6, 0, 0, []), (150, 41, 0, 0, 0, 0, [])]
set_option maxRecDepth 20000 in
theorem qX12_newLotf : f_all yX12_newLot YX12_newLot pX12_newLotf :=
  ⟨f_aload_n (n := 0) (e_dx DX12_newLot_0 0 rfl) rfl,
  f_iconst (e_dx DX12_newLot_0 1 rfl) ⟨by decide, by decide⟩,
  f_lload_n (n := 1) (e_dx DX12_newLot_0 2 rfl) rfl,
  x_callV (e_dx DX12_newLot_0 3 rfl) mwX12_make vwX12_make cX12_534 rfl,
  f_istore (e_dx DX12_newLot_0 4 rfl) (by decide),
  f_aload_n (n := 0) (e_dx DX12_newLot_0 5 rfl) rfl,
  f_getA (e_dx DX12_newLot_0 6 rfl) fX12_130 rfl (by decide) (Nat.le_of_ble_eq_true rfl) rfl (by decide),
  f_iload (e_dx DX12_newLot_0 7 rfl),
  f_iload (e_dx DX12_newLot_0 8 rfl),
  f_iastore (e_dx DX12_newLot_0 9 rfl),
  f_iconst (e_dx DX12_newLot_0 10 rfl) ⟨by decide, by decide⟩,
  f_istore (e_dx DX12_newLot_0 11 rfl) (by decide),
  trivial,
  f_iload (e_dx DX12_newLot_0 12 rfl),
  f_iload (e_dx DX12_newLot_0 13 rfl),
  f_icmp_ge (e_dx DX12_newLot_0 14 rfl) rfl,
  f_aload_n (n := 0) (e_dx DX12_newLot_0 15 rfl) rfl,
  f_getA (e_dx DX12_newLot_0 16 rfl) fX12_82 rfl (by decide) (Nat.le_of_ble_eq_true rfl) rfl (by decide),
  f_bipush (e_dx DX12_newLot_0 17 rfl) ⟨by decide, by decide⟩,
  f_iload (e_dx DX12_newLot_0 18 rfl),
  f_imul (e_dx DX12_newLot_0 19 rfl),
  f_iload (e_dx DX12_newLot_0 20 rfl),
  f_iadd (e_dx DX12_newLot_0 21 rfl),
  f_aload_n (n := 0) (e_dx DX12_newLot_0 22 rfl) rfl,
  f_getA (e_dx DX12_newLot_0 23 rfl) fX12_82 rfl (by decide) (Nat.le_of_ble_eq_true rfl) rfl (by decide),
  f_iload (e_dx DX12_newLot_0 24 rfl),
  f_iload (e_dx DX12_newLot_0 25 rfl),
  f_iadd (e_dx DX12_newLot_0 26 rfl),
  f_iaload (e_dx DX12_newLot_0 27 rfl),
  f_iastore (e_dx DX12_newLot_0 28 rfl),
  f_aload_n (n := 0) (e_dx DX12_newLot_0 29 rfl) rfl,
  f_getA (e_dx DX12_newLot_0 30 rfl) fX12_85 rfl (by decide) (Nat.le_of_ble_eq_true rfl) rfl (by decide),
  f_bipush (e_dx DX12_newLot_0 31 rfl) ⟨by decide, by decide⟩,
  f_iload (e_dx DX12_newLot_0 32 rfl),
  f_imul (e_dx DX12_newLot_0 33 rfl),
  f_iload (e_dx DX12_newLot_0 34 rfl),
  f_iadd (e_dx DX12_newLot_0 35 rfl),
  f_aload_n (n := 0) (e_dx DX12_newLot_0 36 rfl) rfl,
  f_getA (e_dx DX12_newLot_0 37 rfl) fX12_85 rfl (by decide) (Nat.le_of_ble_eq_true rfl) rfl (by decide),
  f_iload (e_dx DX12_newLot_0 38 rfl),
  f_iload (e_dx DX12_newLot_0 39 rfl),
  f_iadd (e_dx DX12_newLot_1 0 rfl),
  f_iaload (e_dx DX12_newLot_1 1 rfl),
  f_iastore (e_dx DX12_newLot_1 2 rfl),
  f_g8 (e_dx DX12_newLot_1 3 rfl) ⟨by decide, by decide⟩,
  f_g19 (e_dx DX12_newLot_1 4 rfl) rfl,
  f_aload_n (n := 0) (e_dx DX12_newLot_1 5 rfl) rfl,
  f_iload_n (n := 3) (e_dx DX12_newLot_1 6 rfl) rfl,
  x_callV (e_dx DX12_newLot_1 7 rfl) mwX12_loads vwX12_loads cX12_673 rfl,
  f_aload_n (n := 0) (e_dx DX12_newLot_1 8 rfl) rfl,
  f_iload (e_dx DX12_newLot_1 9 rfl),
  x_callV (e_dx DX12_newLot_1 10 rfl) mwX12_keeps vwX12_keeps cX12_692 rfl,
  f_aload_n (n := 0) (e_dx DX12_newLot_1 11 rfl) rfl,
  f_getA (e_dx DX12_newLot_1 12 rfl) fX12_139 rfl (by decide) (Nat.le_of_ble_eq_true rfl) rfl (by decide),
  f_iload (e_dx DX12_newLot_1 13 rfl),
  f_aload_n (n := 0) (e_dx DX12_newLot_1 14 rfl) rfl,
  f_getA (e_dx DX12_newLot_1 15 rfl) fX12_139 rfl (by decide) (Nat.le_of_ble_eq_true rfl) rfl (by decide),
  f_iload_n (n := 3) (e_dx DX12_newLot_1 16 rfl) rfl,
  f_iaload (e_dx DX12_newLot_1 17 rfl),
  f_iastore (e_dx DX12_newLot_1 18 rfl),
  f_iconst (e_dx DX12_newLot_1 19 rfl) ⟨by decide, by decide⟩,
  f_istore (e_dx DX12_newLot_1 20 rfl) (by decide),
  trivial,
  f_iload (e_dx DX12_newLot_1 21 rfl),
  f_aload_n (n := 0) (e_dx DX12_newLot_1 22 rfl) rfl,
  f_getA (e_dx DX12_newLot_1 23 rfl) fX12_139 rfl (by decide) (Nat.le_of_ble_eq_true rfl) rfl (by decide),
  f_iload_n (n := 3) (e_dx DX12_newLot_1 24 rfl) rfl,
  f_iaload (e_dx DX12_newLot_1 25 rfl),
  f_icmp_ge (e_dx DX12_newLot_1 26 rfl) rfl,
  f_aload_n (n := 0) (e_dx DX12_newLot_1 27 rfl) rfl,
  f_getA (e_dx DX12_newLot_1 28 rfl) fX12_142 rfl (by decide) (Nat.le_of_ble_eq_true rfl) rfl (by decide),
  f_bipush (e_dx DX12_newLot_1 29 rfl) ⟨by decide, by decide⟩,
  f_iload (e_dx DX12_newLot_1 30 rfl),
  f_imul (e_dx DX12_newLot_1 31 rfl),
  f_iload (e_dx DX12_newLot_1 32 rfl),
  f_iadd (e_dx DX12_newLot_1 33 rfl),
  f_aload_n (n := 0) (e_dx DX12_newLot_1 34 rfl) rfl,
  f_getA (e_dx DX12_newLot_1 35 rfl) fX12_142 rfl (by decide) (Nat.le_of_ble_eq_true rfl) rfl (by decide),
  f_bipush (e_dx DX12_newLot_1 36 rfl) ⟨by decide, by decide⟩,
  f_iload_n (n := 3) (e_dx DX12_newLot_1 37 rfl) rfl,
  f_imul (e_dx DX12_newLot_1 38 rfl),
  f_iload (e_dx DX12_newLot_1 39 rfl),
  f_iadd (e_dx DX12_newLot_2 0 rfl),
  f_iaload (e_dx DX12_newLot_2 1 rfl),
  f_iastore (e_dx DX12_newLot_2 2 rfl),
  f_g8 (e_dx DX12_newLot_2 3 rfl) ⟨by decide, by decide⟩,
  f_g19 (e_dx DX12_newLot_2 4 rfl) rfl,
  f_iload (e_dx DX12_newLot_2 5 rfl),
  ⟨(e_dx DX12_newLot_2 6 rfl), rfl⟩, trivial⟩
def lX12_newLot (c_X12_make : Int → Int → e_M → (Int → e_M → Prop) → Prop) (c_X12_loads : Int → e_M → (e_M → Prop) → Prop) (c_X12_keeps : Int → e_M → (e_M → Prop) → Prop) : List (Nat × f_Wt) := [(0, f_wm [(4466, 12, 123), (1, 0, 0), (2, 0, 0)] (fun ar M R => c_X12_make (f_vi (f_nth ar 1)) (f_vi (f_nth ar 2)) M (fun r M => R (some (.inl r)) M))), (1, f_wm [(4466, 12, 123), (1, 0, 0)] (fun ar M R => c_X12_loads (f_vi (f_nth ar 1)) M (fun M => R none M))), (2, f_wm [(4466, 12, 123), (1, 0, 0)] (fun ar M R => c_X12_keeps (f_vi (f_nth ar 1)) M (fun M => R none M)))]
set_option maxRecDepth 20000 in
theorem BX12_newLot_20 {sh : Nat → Nat × Nat} {t : Nat} {rm : Nat × Nat × Nat} {cs : Nat × Nat} {R : f_Rt} {c_X12_make : Int → Int → e_M → (Int → e_M → Prop) → Prop} {c_X12_loads : Int → e_M → (e_M → Prop) → Prop} {c_X12_keeps : Int → e_M → (e_M → Prop) → Prop} {k106 : Int → Int → Int → e_M → Prop} {k20 : Int → Int → Int → Int → Int → e_M → Prop} {x3 : Int} {x4 : Int} {x5 : Int} {x6 : Int} {x7 : Int} {M : e_M} (C : f_Hy sh t yX12_newLot rm cs 6 (lX12_newLot c_X12_make c_X12_loads c_X12_keeps) R) (h106 : ∀ (x3 : Int) (x6 : Int) (x7 : Int) (M : e_M), k106 x3 x6 x7 M → f_E sh t YX12_newLot rm cs (f_Q sh t R) 106 [.inr (.inr (.inl (12, 123, 4456))), .inr (.inr (.inr ())), .inr (.inr (.inr ())), .inl x3, .inr (.inr (.inr ())), .inr (.inr (.inr ())), .inl x6, .inl x7] [] M) (h20 : ∀ (x3 : Int) (x4 : Int) (x5 : Int) (x6 : Int) (x7 : Int) (M : e_M), k20 x3 x4 x5 x6 x7 M → f_E sh t YX12_newLot rm cs (f_Q sh t R) 20 [.inr (.inr (.inl (12, 123, 4456))), .inr (.inr (.inr ())), .inr (.inr (.inr ())), .inl x3, .inl x4, .inl x5, .inl x6, .inl x7] [] M) (h : VX12_newLot_20 c_X12_make c_X12_loads c_X12_keeps k106 k20 (fun r M => R (some (.inl r)) M) x3 x4 x5 x6 x7 M) : f_E sh t YX12_newLot rm cs (f_Q sh t R) 20 [.inr (.inr (.inl (12, 123, 4456))), .inr (.inr (.inr ())), .inr (.inr (.inr ())), .inl x3, .inl x4, .inl x5, .inl x6, .inl x7] [] M :=
  f_go (KC := f_kc [(106, f_pl [(4466, 12, 123), (0, 0, 0), (0, 0, 0), (1, 0, 0), (0, 0, 0), (0, 0, 0), (1, 0, 0), (1, 0, 0)] [] (fun ls st M => k106 (f_vi (f_nth ls 3)) (f_vi (f_nth ls 6)) (f_vi (f_nth ls 7)) M)), (20, f_pl [(4466, 12, 123), (0, 0, 0), (0, 0, 0), (1, 0, 0), (1, 0, 0), (1, 0, 0), (1, 0, 0), (1, 0, 0)] [] (fun ls st M => k20 (f_vi (f_nth ls 3)) (f_vi (f_nth ls 4)) (f_vi (f_nth ls 5)) (f_vi (f_nth ls 6)) (f_vi (f_nth ls 7)) M))]) C qX12_newLotf (f_kc_cons (f_pl_ok rfl (fun ls st M h => h106 _ _ _ M h)) (f_kc_cons (f_pl_ok rfl (fun ls st M h => h20 _ _ _ _ _ M h)) f_kc_nil)) 91 13 h
set_option maxRecDepth 20000 in
theorem BX12_newLot_106 {sh : Nat → Nat × Nat} {t : Nat} {rm : Nat × Nat × Nat} {cs : Nat × Nat} {R : f_Rt} {c_X12_make : Int → Int → e_M → (Int → e_M → Prop) → Prop} {c_X12_loads : Int → e_M → (e_M → Prop) → Prop} {c_X12_keeps : Int → e_M → (e_M → Prop) → Prop} {k106 : Int → Int → Int → e_M → Prop} {x3 : Int} {x6 : Int} {x7 : Int} {M : e_M} (C : f_Hy sh t yX12_newLot rm cs 6 (lX12_newLot c_X12_make c_X12_loads c_X12_keeps) R) (h106 : ∀ (x3 : Int) (x6 : Int) (x7 : Int) (M : e_M), k106 x3 x6 x7 M → f_E sh t YX12_newLot rm cs (f_Q sh t R) 106 [.inr (.inr (.inl (12, 123, 4456))), .inr (.inr (.inr ())), .inr (.inr (.inr ())), .inl x3, .inr (.inr (.inr ())), .inr (.inr (.inr ())), .inl x6, .inl x7] [] M) (h : VX12_newLot_106 c_X12_make c_X12_loads c_X12_keeps k106 (fun r M => R (some (.inl r)) M) x3 x6 x7 M) : f_E sh t YX12_newLot rm cs (f_Q sh t R) 106 [.inr (.inr (.inl (12, 123, 4456))), .inr (.inr (.inr ())), .inr (.inr (.inr ())), .inl x3, .inr (.inr (.inr ())), .inr (.inr (.inr ())), .inl x6, .inl x7] [] M :=
  f_go (KC := f_kc [(106, f_pl [(4466, 12, 123), (0, 0, 0), (0, 0, 0), (1, 0, 0), (0, 0, 0), (0, 0, 0), (1, 0, 0), (1, 0, 0)] [] (fun ls st M => k106 (f_vi (f_nth ls 3)) (f_vi (f_nth ls 6)) (f_vi (f_nth ls 7)) M))]) C qX12_newLotf (f_kc_cons (f_pl_ok rfl (fun ls st M h => h106 _ _ _ M h)) f_kc_nil) 91 63 h
set_option maxRecDepth 20000 in
theorem BX12_newLot {sh : Nat → Nat × Nat} {t : Nat} {rm : Nat × Nat × Nat} {cs : Nat × Nat} {R : f_Rt} {c_X12_make : Int → Int → e_M → (Int → e_M → Prop) → Prop} {c_X12_loads : Int → e_M → (e_M → Prop) → Prop} {c_X12_keeps : Int → e_M → (e_M → Prop) → Prop} {k20 : Int → Int → Int → Int → Int → e_M → Prop} {x1 : Int} {x3 : Int} {x4 : Int} {x5 : Int} {M : e_M} (C : f_Hy sh t yX12_newLot rm cs 6 (lX12_newLot c_X12_make c_X12_loads c_X12_keeps) R) (h20 : ∀ (x3 : Int) (x4 : Int) (x5 : Int) (x6 : Int) (x7 : Int) (M : e_M), k20 x3 x4 x5 x6 x7 M → f_E sh t YX12_newLot rm cs (f_Q sh t R) 20 [.inr (.inr (.inl (12, 123, 4456))), .inr (.inr (.inr ())), .inr (.inr (.inr ())), .inl x3, .inl x4, .inl x5, .inl x6, .inl x7] [] M) (h : VX12_newLot c_X12_make c_X12_loads c_X12_keeps k20 (fun r M => R (some (.inl r)) M) x1 x3 x4 x5 M) : f_E sh t YX12_newLot rm cs (f_Q sh t R) 0 [.inr (.inr (.inl (12, 123, 4456))), .inr (.inl x1), .inr (.inr (.inr ())), .inl x3, .inl x4, .inl x5, .inr (.inr (.inr ())), .inr (.inr (.inr ()))] [] M :=
  f_go (KC := f_kc [(20, f_pl [(4466, 12, 123), (0, 0, 0), (0, 0, 0), (1, 0, 0), (1, 0, 0), (1, 0, 0), (1, 0, 0), (1, 0, 0)] [] (fun ls st M => k20 (f_vi (f_nth ls 3)) (f_vi (f_nth ls 4)) (f_vi (f_nth ls 5)) (f_vi (f_nth ls 6)) (f_vi (f_nth ls 7)) M))]) C qX12_newLotf (f_kc_cons (f_pl_ok rfl (fun ls st M h => h20 _ _ _ _ _ M h)) f_kc_nil) 91 0 h
def WX12_newLot_106 (Q : Int → e_M → Prop) : Nat → Int → Int → Int → e_M → Prop
  | 0, _, _, _, _ => False
  | n + 1, x3, x6, x7, M =>
    VX12_newLot_106 WX12_make WX12_loads WX12_keeps (WX12_newLot_106 Q n) Q x3 x6 x7 M
def WX12_newLot_20 (Q : Int → e_M → Prop) : Nat → Int → Int → Int → Int → Int → e_M → Prop
  | 0, _, _, _, _, _, _ => False
  | n + 1, x3, x4, x5, x6, x7, M =>
    VX12_newLot_20 WX12_make WX12_loads WX12_keeps (fun x3 x6 x7 M => ∃ j, WX12_newLot_106 Q j x3 x6 x7 M) (WX12_newLot_20 Q n) Q x3 x4 x5 x6 x7 M
def WX12_newLot (x1 : Int) (x3 : Int) (x4 : Int) (x5 : Int) (M : e_M) (Q : Int → e_M → Prop) : Prop :=
  VX12_newLot WX12_make WX12_loads WX12_keeps (fun x3 x4 x5 x6 x7 M => ∃ j, WX12_newLot_20 Q j x3 x4 x5 x6 x7 M) Q x1 x3 x4 x5 M
theorem PX12_newLot_106 {sh : Nat → Nat × Nat} {t : Nat} {rm : Nat × Nat × Nat} {cs : Nat × Nat} {R : f_Rt} (C : f_Hy sh t yX12_newLot rm cs 6 (lX12_newLot WX12_make WX12_loads WX12_keeps) R) : ∀ (n : Nat) (x3 : Int) (x6 : Int) (x7 : Int) (M : e_M), WX12_newLot_106 (fun r M => R (some (.inl r)) M) n x3 x6 x7 M → f_E sh t YX12_newLot rm cs (f_Q sh t R) 106 [.inr (.inr (.inl (12, 123, 4456))), .inr (.inr (.inr ())), .inr (.inr (.inr ())), .inl x3, .inr (.inr (.inr ())), .inr (.inr (.inr ())), .inl x6, .inl x7] [] M := by
  intro n
  induction n with
  | zero => intro x3 x6 x7 M h; exact h.elim
  | succ n ih => intro x3 x6 x7 M h; exact BX12_newLot_106 C ih h
theorem PX12_newLot_20 {sh : Nat → Nat × Nat} {t : Nat} {rm : Nat × Nat × Nat} {cs : Nat × Nat} {R : f_Rt} (C : f_Hy sh t yX12_newLot rm cs 6 (lX12_newLot WX12_make WX12_loads WX12_keeps) R) : ∀ (n : Nat) (x3 : Int) (x4 : Int) (x5 : Int) (x6 : Int) (x7 : Int) (M : e_M), WX12_newLot_20 (fun r M => R (some (.inl r)) M) n x3 x4 x5 x6 x7 M → f_E sh t YX12_newLot rm cs (f_Q sh t R) 20 [.inr (.inr (.inl (12, 123, 4456))), .inr (.inr (.inr ())), .inr (.inr (.inr ())), .inl x3, .inl x4, .inl x5, .inl x6, .inl x7] [] M := by
  intro n
  induction n with
  | zero => intro x3 x4 x5 x6 x7 M h; exact h.elim
  | succ n ih => intro x3 x4 x5 x6 x7 M h; exact BX12_newLot_20 C (fun x3 x6 x7 M ⟨j, h⟩ => PX12_newLot_106 C j _ _ _ _ h) ih h
theorem PX12_newLot {sh : Nat → Nat × Nat} {t : Nat} {rm : Nat × Nat × Nat} {cs : Nat × Nat} {R : f_Rt} {x1 : Int} {x3 : Int} {x4 : Int} {x5 : Int} {M : e_M} (C : f_Hy sh t yX12_newLot rm cs 6 (lX12_newLot WX12_make WX12_loads WX12_keeps) R) (h : WX12_newLot x1 x3 x4 x5 M (fun r M => R (some (.inl r)) M)) : f_E sh t YX12_newLot rm cs (f_Q sh t R) 0 [.inr (.inr (.inl (12, 123, 4456))), .inr (.inl x1), .inr (.inr (.inr ())), .inl x3, .inl x4, .inl x5, .inr (.inr (.inr ())), .inr (.inr (.inr ()))] [] M :=
  BX12_newLot C (fun x3 x4 x5 x6 x7 M ⟨j, h⟩ => PX12_newLot_20 C j _ _ _ _ _ _ h) h
def wX12_newLot : f_Wt := f_wm [(4466, 12, 123), (2, 0, 0), (1, 0, 0), (1, 0, 0), (1, 0, 0)] (fun ar M R => WX12_newLot (f_vi (f_nth ar 1)) (f_vi (f_nth ar 2)) (f_vi (f_nth ar 3)) (f_vi (f_nth ar 4)) M (fun r M => R (some (.inl r)) M))
theorem TX12_newLot {sh : Nat → Nat × Nat} {t : Nat} : f_Mt sh t YX12_newLot 6 (wX12_newLot) :=
  f_Mt_of (k := 2) (Nat.le_of_ble_eq_true rfl) rfl rfl (fun ar M R rm cs h1 h2 h3 hX h => PX12_newLot ⟨Nat.le_of_ble_eq_true rfl, h1, h2, h3, ⟨(f_Mt.up (Nat.le_of_ble_eq_true rfl) TX12_make), (f_Mt.up (Nat.le_of_ble_eq_true rfl) TX12_loads), (f_Mt.up (Nat.le_of_ble_eq_true rfl) TX12_keeps), trivial⟩, hX⟩ h)
def VX12_split_127 (c_X12_areAble : Int → e_M → (Int → Prop) → Prop) (c_X12_isBarred : Int → Int → e_M → (Int → Prop) → Prop) (c_X12_cuts : Int → Int → Int → e_M → (Int → e_M → Prop) → Prop) (c_X12_full : Int → Int → e_M → (Int → Prop) → Prop) (c_X12_tooLong : Int → e_M → (Int → Prop) → Prop) (c_X12_newLot : Int → Int → Int → Int → e_M → (Int → e_M → Prop) → Prop) (c_X12_id : Int → Int → e_M → (Int → Prop) → Prop) (c_X12_isThere : Int → Int → Int → e_M → (Int → Prop) → Prop) (c_X12_placeOn : Int → Int → e_M → (Int → Prop) → Prop) (c_X12_offOn : Int → Int → e_M → (e_M → Prop) → Prop) (c_X12_hasPoint : Int → Int → Int → e_M → (Int → Prop) → Prop) (c_X12_inOn : Int → Int → Int → e_M → (e_M → Prop) → Prop) (c_X12_placeOf : Int → Int → e_M → (Int → Prop) → Prop) (c_X12_offOf : Int → Int → e_M → (e_M → Prop) → Prop) (c_X12_inOf : Int → Int → Int → e_M → (e_M → Prop) → Prop) (k137 : Int → Int → Int → Int → Int → e_M → Prop) (Q : Int → e_M → Prop) (x2 : Int) (x3 : Int) (x4 : Int) (x5 : Int) (M : e_M) : Prop :=
  ((6 < x5 → (Q 0 M)) ∧ (x5 ≤ 6 → (k137 x2 x3 x4 x5 0 M)))
def VX12_split_137 (c_X12_areAble : Int → e_M → (Int → Prop) → Prop) (c_X12_isBarred : Int → Int → e_M → (Int → Prop) → Prop) (c_X12_cuts : Int → Int → Int → e_M → (Int → e_M → Prop) → Prop) (c_X12_full : Int → Int → e_M → (Int → Prop) → Prop) (c_X12_tooLong : Int → e_M → (Int → Prop) → Prop) (c_X12_newLot : Int → Int → Int → Int → e_M → (Int → e_M → Prop) → Prop) (c_X12_id : Int → Int → e_M → (Int → Prop) → Prop) (c_X12_isThere : Int → Int → Int → e_M → (Int → Prop) → Prop) (c_X12_placeOn : Int → Int → e_M → (Int → Prop) → Prop) (c_X12_offOn : Int → Int → e_M → (e_M → Prop) → Prop) (c_X12_hasPoint : Int → Int → Int → e_M → (Int → Prop) → Prop) (c_X12_inOn : Int → Int → Int → e_M → (e_M → Prop) → Prop) (c_X12_placeOf : Int → Int → e_M → (Int → Prop) → Prop) (c_X12_offOf : Int → Int → e_M → (e_M → Prop) → Prop) (c_X12_inOf : Int → Int → Int → e_M → (e_M → Prop) → Prop) (k127 : Int → Int → Int → Int → e_M → Prop) (k321 : Int → Int → Int → Int → Int → e_M → Prop) (k267 : Int → Int → Int → Int → Int → Int → e_M → Prop) (k226 : Int → Int → Int → Int → Int → Int → Int → e_M → Prop) (k236 : Int → Int → Int → Int → Int → Int → Int → e_M → Prop) (Q : Int → e_M → Prop) (x2 : Int) (x3 : Int) (x4 : Int) (x5 : Int) (x6 : Int) (M : e_M) : Prop :=
  ((0 ≤ x5 ∧ x5 < 7) ∧ (((M 4483 (x5.toNat)) ≤ x6 → (k127 x2 x3 x4 (e_w32 (x5 + 1)) M)) ∧ (x6 < (M 4483 (x5.toNat)) → (c_X12_id x5 x6 M (fun r1 => ((x5 = 5 → (k321 x2 x3 x4 x5 x6 M)) ∧ (¬ x5 = 5 → (c_X12_isThere x5 x6 (M 4456 86) M (fun r2 => ((¬ r2 = 0 → (c_X12_placeOn r1 x2 M (fun r3 => ((r3 < 0 → (k267 x2 x3 x4 x5 x6 r1 M)) ∧ (0 ≤ r3 → (c_X12_offOn r1 r3 M (fun M4 => ((¬ x5 = 3 → (k226 x2 x3 x4 x5 x6 r1 r3 M4)) ∧ (x5 = 3 → (c_X12_hasPoint x6 4000 (M4 4456 43) M4 (fun r5 => ((r5 = 0 → (k236 x2 x3 x4 x5 x6 r1 r3 M4)) ∧ (¬ r5 = 0 → (k226 x2 x3 x4 x5 x6 r1 r3 M4)))))))))))))) ∧ (r2 = 0 → (k321 x2 x3 x4 x5 x6 M))))))))))))
def VX12_split_226 (c_X12_areAble : Int → e_M → (Int → Prop) → Prop) (c_X12_isBarred : Int → Int → e_M → (Int → Prop) → Prop) (c_X12_cuts : Int → Int → Int → e_M → (Int → e_M → Prop) → Prop) (c_X12_full : Int → Int → e_M → (Int → Prop) → Prop) (c_X12_tooLong : Int → e_M → (Int → Prop) → Prop) (c_X12_newLot : Int → Int → Int → Int → e_M → (Int → e_M → Prop) → Prop) (c_X12_id : Int → Int → e_M → (Int → Prop) → Prop) (c_X12_isThere : Int → Int → Int → e_M → (Int → Prop) → Prop) (c_X12_placeOn : Int → Int → e_M → (Int → Prop) → Prop) (c_X12_offOn : Int → Int → e_M → (e_M → Prop) → Prop) (c_X12_hasPoint : Int → Int → Int → e_M → (Int → Prop) → Prop) (c_X12_inOn : Int → Int → Int → e_M → (e_M → Prop) → Prop) (c_X12_placeOf : Int → Int → e_M → (Int → Prop) → Prop) (c_X12_offOf : Int → Int → e_M → (e_M → Prop) → Prop) (c_X12_inOf : Int → Int → Int → e_M → (e_M → Prop) → Prop) (k236 : Int → Int → Int → Int → Int → Int → Int → e_M → Prop) (Q : Int → e_M → Prop) (x2 : Int) (x3 : Int) (x4 : Int) (x5 : Int) (x6 : Int) (x7 : Int) (x8 : Int) (M : e_M) : Prop :=
  (c_X12_inOn x7 x8 x4 M (fun M1 => (k236 x2 x3 x4 x5 x6 x7 x8 M1)))
def VX12_split_236 (c_X12_areAble : Int → e_M → (Int → Prop) → Prop) (c_X12_isBarred : Int → Int → e_M → (Int → Prop) → Prop) (c_X12_cuts : Int → Int → Int → e_M → (Int → e_M → Prop) → Prop) (c_X12_full : Int → Int → e_M → (Int → Prop) → Prop) (c_X12_tooLong : Int → e_M → (Int → Prop) → Prop) (c_X12_newLot : Int → Int → Int → Int → e_M → (Int → e_M → Prop) → Prop) (c_X12_id : Int → Int → e_M → (Int → Prop) → Prop) (c_X12_isThere : Int → Int → Int → e_M → (Int → Prop) → Prop) (c_X12_placeOn : Int → Int → e_M → (Int → Prop) → Prop) (c_X12_offOn : Int → Int → e_M → (e_M → Prop) → Prop) (c_X12_hasPoint : Int → Int → Int → e_M → (Int → Prop) → Prop) (c_X12_inOn : Int → Int → Int → e_M → (e_M → Prop) → Prop) (c_X12_placeOf : Int → Int → e_M → (Int → Prop) → Prop) (c_X12_offOf : Int → Int → e_M → (e_M → Prop) → Prop) (c_X12_inOf : Int → Int → Int → e_M → (e_M → Prop) → Prop) (k258 : Int → Int → Int → Int → Int → Int → Int → e_M → Prop) (k267 : Int → Int → Int → Int → Int → Int → e_M → Prop) (Q : Int → e_M → Prop) (x2 : Int) (x3 : Int) (x4 : Int) (x5 : Int) (x6 : Int) (x7 : Int) (x8 : Int) (M : e_M) : Prop :=
  ((¬ x5 = 3 → (k258 x2 x3 x4 x5 x6 x7 x8 M)) ∧ (x5 = 3 → (c_X12_hasPoint x6 3600 (M 4456 42) M (fun r1 => ((r1 = 0 → (k267 x2 x3 x4 x5 x6 x7 M)) ∧ (¬ r1 = 0 → (k258 x2 x3 x4 x5 x6 x7 x8 M)))))))
def VX12_split_258 (c_X12_areAble : Int → e_M → (Int → Prop) → Prop) (c_X12_isBarred : Int → Int → e_M → (Int → Prop) → Prop) (c_X12_cuts : Int → Int → Int → e_M → (Int → e_M → Prop) → Prop) (c_X12_full : Int → Int → e_M → (Int → Prop) → Prop) (c_X12_tooLong : Int → e_M → (Int → Prop) → Prop) (c_X12_newLot : Int → Int → Int → Int → e_M → (Int → e_M → Prop) → Prop) (c_X12_id : Int → Int → e_M → (Int → Prop) → Prop) (c_X12_isThere : Int → Int → Int → e_M → (Int → Prop) → Prop) (c_X12_placeOn : Int → Int → e_M → (Int → Prop) → Prop) (c_X12_offOn : Int → Int → e_M → (e_M → Prop) → Prop) (c_X12_hasPoint : Int → Int → Int → e_M → (Int → Prop) → Prop) (c_X12_inOn : Int → Int → Int → e_M → (e_M → Prop) → Prop) (c_X12_placeOf : Int → Int → e_M → (Int → Prop) → Prop) (c_X12_offOf : Int → Int → e_M → (e_M → Prop) → Prop) (c_X12_inOf : Int → Int → Int → e_M → (e_M → Prop) → Prop) (k267 : Int → Int → Int → Int → Int → Int → e_M → Prop) (Q : Int → e_M → Prop) (x2 : Int) (x3 : Int) (x4 : Int) (x5 : Int) (x6 : Int) (x7 : Int) (x8 : Int) (M : e_M) : Prop :=
  (c_X12_inOn x7 x8 x3 M (fun M1 => (k267 x2 x3 x4 x5 x6 x7 M1)))
def VX12_split_267 (c_X12_areAble : Int → e_M → (Int → Prop) → Prop) (c_X12_isBarred : Int → Int → e_M → (Int → Prop) → Prop) (c_X12_cuts : Int → Int → Int → e_M → (Int → e_M → Prop) → Prop) (c_X12_full : Int → Int → e_M → (Int → Prop) → Prop) (c_X12_tooLong : Int → e_M → (Int → Prop) → Prop) (c_X12_newLot : Int → Int → Int → Int → e_M → (Int → e_M → Prop) → Prop) (c_X12_id : Int → Int → e_M → (Int → Prop) → Prop) (c_X12_isThere : Int → Int → Int → e_M → (Int → Prop) → Prop) (c_X12_placeOn : Int → Int → e_M → (Int → Prop) → Prop) (c_X12_offOn : Int → Int → e_M → (e_M → Prop) → Prop) (c_X12_hasPoint : Int → Int → Int → e_M → (Int → Prop) → Prop) (c_X12_inOn : Int → Int → Int → e_M → (e_M → Prop) → Prop) (c_X12_placeOf : Int → Int → e_M → (Int → Prop) → Prop) (c_X12_offOf : Int → Int → e_M → (e_M → Prop) → Prop) (c_X12_inOf : Int → Int → Int → e_M → (e_M → Prop) → Prop) (k284 : Int → Int → Int → Int → Int → Int → Int → e_M → Prop) (Q : Int → e_M → Prop) (x2 : Int) (x3 : Int) (x4 : Int) (x5 : Int) (x6 : Int) (x7 : Int) (M : e_M) : Prop :=
  ((¬ x5 = 3 → (k284 x2 x3 x4 x5 x6 x7 (-1) M)) ∧ (x5 = 3 → (c_X12_placeOf x7 x2 M (fun r1 => (k284 x2 x3 x4 x5 x6 x7 r1 M)))))
def VX12_split_284 (c_X12_areAble : Int → e_M → (Int → Prop) → Prop) (c_X12_isBarred : Int → Int → e_M → (Int → Prop) → Prop) (c_X12_cuts : Int → Int → Int → e_M → (Int → e_M → Prop) → Prop) (c_X12_full : Int → Int → e_M → (Int → Prop) → Prop) (c_X12_tooLong : Int → e_M → (Int → Prop) → Prop) (c_X12_newLot : Int → Int → Int → Int → e_M → (Int → e_M → Prop) → Prop) (c_X12_id : Int → Int → e_M → (Int → Prop) → Prop) (c_X12_isThere : Int → Int → Int → e_M → (Int → Prop) → Prop) (c_X12_placeOn : Int → Int → e_M → (Int → Prop) → Prop) (c_X12_offOn : Int → Int → e_M → (e_M → Prop) → Prop) (c_X12_hasPoint : Int → Int → Int → e_M → (Int → Prop) → Prop) (c_X12_inOn : Int → Int → Int → e_M → (e_M → Prop) → Prop) (c_X12_placeOf : Int → Int → e_M → (Int → Prop) → Prop) (c_X12_offOf : Int → Int → e_M → (e_M → Prop) → Prop) (c_X12_inOf : Int → Int → Int → e_M → (e_M → Prop) → Prop) (k321 : Int → Int → Int → Int → Int → e_M → Prop) (Q : Int → e_M → Prop) (x2 : Int) (x3 : Int) (x4 : Int) (x5 : Int) (x6 : Int) (x7 : Int) (xs0 : Int) (M : e_M) : Prop :=
  ((0 ≤ xs0 → (c_X12_offOf x7 xs0 M (fun M1 => (c_X12_inOf x7 xs0 x4 M1 (fun M2 => (c_X12_inOf x7 xs0 x3 M2 (fun M3 => (k321 x2 x3 x4 x5 x6 M3)))))))) ∧ (xs0 < 0 → (k321 x2 x3 x4 x5 x6 M)))
def VX12_split_321 (c_X12_areAble : Int → e_M → (Int → Prop) → Prop) (c_X12_isBarred : Int → Int → e_M → (Int → Prop) → Prop) (c_X12_cuts : Int → Int → Int → e_M → (Int → e_M → Prop) → Prop) (c_X12_full : Int → Int → e_M → (Int → Prop) → Prop) (c_X12_tooLong : Int → e_M → (Int → Prop) → Prop) (c_X12_newLot : Int → Int → Int → Int → e_M → (Int → e_M → Prop) → Prop) (c_X12_id : Int → Int → e_M → (Int → Prop) → Prop) (c_X12_isThere : Int → Int → Int → e_M → (Int → Prop) → Prop) (c_X12_placeOn : Int → Int → e_M → (Int → Prop) → Prop) (c_X12_offOn : Int → Int → e_M → (e_M → Prop) → Prop) (c_X12_hasPoint : Int → Int → Int → e_M → (Int → Prop) → Prop) (c_X12_inOn : Int → Int → Int → e_M → (e_M → Prop) → Prop) (c_X12_placeOf : Int → Int → e_M → (Int → Prop) → Prop) (c_X12_offOf : Int → Int → e_M → (e_M → Prop) → Prop) (c_X12_inOf : Int → Int → Int → e_M → (e_M → Prop) → Prop) (k137 : Int → Int → Int → Int → Int → e_M → Prop) (Q : Int → e_M → Prop) (x2 : Int) (x3 : Int) (x4 : Int) (x5 : Int) (x6 : Int) (M : e_M) : Prop :=
  (k137 x2 x3 x4 x5 (e_w32 (x6 + 1)) M)
def VX12_split (c_X12_areAble : Int → e_M → (Int → Prop) → Prop) (c_X12_isBarred : Int → Int → e_M → (Int → Prop) → Prop) (c_X12_cuts : Int → Int → Int → e_M → (Int → e_M → Prop) → Prop) (c_X12_full : Int → Int → e_M → (Int → Prop) → Prop) (c_X12_tooLong : Int → e_M → (Int → Prop) → Prop) (c_X12_newLot : Int → Int → Int → Int → e_M → (Int → e_M → Prop) → Prop) (c_X12_id : Int → Int → e_M → (Int → Prop) → Prop) (c_X12_isThere : Int → Int → Int → e_M → (Int → Prop) → Prop) (c_X12_placeOn : Int → Int → e_M → (Int → Prop) → Prop) (c_X12_offOn : Int → Int → e_M → (e_M → Prop) → Prop) (c_X12_hasPoint : Int → Int → Int → e_M → (Int → Prop) → Prop) (c_X12_inOn : Int → Int → Int → e_M → (e_M → Prop) → Prop) (c_X12_placeOf : Int → Int → e_M → (Int → Prop) → Prop) (c_X12_offOf : Int → Int → e_M → (e_M → Prop) → Prop) (c_X12_inOf : Int → Int → Int → e_M → (e_M → Prop) → Prop) (k127 : Int → Int → Int → Int → e_M → Prop) (Q : Int → e_M → Prop) (x1 : Int) (M : e_M) : Prop :=
  ((0 ≤ (0 : Int) ∧ (0 : Int) < 10) ∧ (c_X12_areAble (M 4520 ((0 : Int).toNat)) M (fun r1 => ((¬ r1 = 0 → (c_X12_isBarred (M 4520 ((0 : Int).toNat)) (-1) M (fun r2 => ((r2 = 0 → ((0 ≤ (M 4520 ((0 : Int).toNat)) ∧ (M 4520 ((0 : Int).toNat)) < 80) ∧ (c_X12_cuts (e_w32 ((40 : Int) * (M 4520 ((0 : Int).toNat)))) (M 4496 ((M 4520 ((0 : Int).toNat)).toNat)) x1 M (fun r3 M4 => ((¬ r3 = 0 → (c_X12_full 0 2 M4 (fun r5 => ((¬ r5 = 0 → (Q 7 M4)) ∧ (r5 = 0 → (c_X12_tooLong (M 4520 ((0 : Int).toNat)) M4 (fun r6 => ((r6 = 0 → ((0 ≤ (e_w32 ((e_w32 ((10 : Int) * x1)) + 1)) ∧ (e_w32 ((e_w32 ((10 : Int) * x1)) + 1)) < 1520) ∧ (c_X12_newLot (M4 4467 ((e_w32 ((e_w32 ((10 : Int) * x1)) + 1)).toNat)) (M 4520 ((0 : Int).toNat)) 3600 (M4 4456 42) M4 (fun r7 M8 => ((0 ≤ (e_w32 ((e_w32 ((10 : Int) * x1)) + 2)) ∧ (e_w32 ((e_w32 ((10 : Int) * x1)) + 2)) < 1520) ∧ (c_X12_newLot (M8 4467 ((e_w32 ((e_w32 ((10 : Int) * x1)) + 2)).toNat)) (M 4520 ((0 : Int).toNat)) 4000 (M8 4456 43) M8 (fun r9 M10 => (((0 ≤ (M 4520 ((0 : Int).toNat)) ∧ (M 4520 ((0 : Int).toNat)) < 560) ∧ ((1 : Int) = 0 ∨ (1 : Int) = 1)) ∧ (∀ M11 : e_M, M11 = e_up M10 4485 ((M 4520 ((0 : Int).toNat)).toNat) 1 → (k127 (M 4520 ((0 : Int).toNat)) r7 r9 2 M11)))))))))) ∧ (¬ r6 = 0 → (Q 7 M4)))))))))) ∧ (r3 = 0 → (Q 3 M4))))))) ∧ (¬ r2 = 0 → (Q 4 M)))))) ∧ (r1 = 0 → (Q 2 M))))))
def yX12_split (i : Nat) : e_Y := x_get YX12_split [YX12_areAble, YX12_isBarred, YX12_cuts, YX12_full, YX12_tooLong, YX12_newLot, YX12_id, YX12_isThere, YX12_placeOn, YX12_offOn, YX12_hasPoint, YX12_inOn, YX12_placeOf, YX12_offOf, YX12_inOf] i
def pX12_splitf : List x_I := [(0, 4, 1, 0, 0, 0, []), (1, 25, 12, 91, 4, 0, [(0, 20, 10), (0, 1, 64)]), (4, 0, 1, 0, 0, 0, []), (5, 27, 0, 0, 0, 0, []), (6, 5, 1, 2, 0, 0, []), (7, 4, 1, 0, 0, 0, []), (8, 2, 1, 2, 0, 0, []), (9, 40, 0, 2, 14, 0, []), (12, 17, 17, 1, 12, 0, []), (15, 0, 1, 0, 0, 2, []), (16, 41, 0, 0, 0, 0, []), (17, 4, 1, 0, 0, 0, []), (18, 2, 1, 2, 0, 0, []), (19, 0, 1, 0, 0, (-1), []), (20, 40, 1, 3, 14, 0, []), (23, 17, 28, 0, 19, 0, []), (26, 0, 1, 0, 0, 4, []), (27, 41, 0, 0, 0, 0, []), (28, 4, 1, 0, 0, 0, []), (29, 0, 2, 0, 0, 40, []), (31, 2, 1, 2, 0, 0, []), (32, 9, 0, 2, 0, 0, []), (33, 4, 1, 0, 0, 0, []), (34, 25, 12, 63, 4, 0, [(0, 20, 80), (0, 1, 40)]), (37, 2, 1, 2, 0, 0, []), (38, 27, 0, 0, 0, 0, []), (39, 2, 1, 1, 0, 0, []), (40, 40, 2, 4, 14, 0, []), (43, 17, 48, 1, 32, 0, []), (46, 0, 1, 0, 0, 3, []), (47, 41, 0, 0, 0, 0, []), (48, 4, 1, 0, 0, 0, []), (49, 0, 1, 0, 0, 0, []), (50, 0, 1, 0, 0, 2, []), (51, 40, 3, 3, 14, 0, []), (54, 17, 65, 1, 41, 0, []), (57, 4, 1, 0, 0, 0, []), (58, 2, 1, 2, 0, 0, []), (59, 40, 4, 2, 14, 0, []), (62, 17, 68, 0, 43, 0, []), (65, 0, 2, 0, 0, 7, []), (67, 41, 0, 0, 0, 0, []), (68, 4, 1, 0, 0, 0, []), (69, 4, 1, 0, 0, 0, []), (70, 25, 12, 20, 4, 0, [(0, 23, 1520), (0, 1, 11)]), (73, 0, 2, 0, 0, 10, []), (75, 2, 1, 1, 0, 0, []), (76, 9, 0, 2, 0, 0, []), (77, 0, 1, 0, 0, 1, []), (78, 9, 0, 0, 0, 0, []), (79, 27, 0, 1, 0, 0, []), (80, 2, 1, 2, 0, 0, []), (81, 0, 3, 0, 0, 3600, []), (84, 4, 1, 0, 0, 0, []), (85, 25, 12, 42, 0, 0, []), (88, 40, 5, 5, 14, 0, []), (91, 5, 1, 3, 0, 0, []), (92, 4, 1, 0, 0, 0, []), (93, 4, 1, 0, 0, 0, []), (94, 25, 12, 20, 4, 0, [(0, 23, 1520), (0, 1, 11)]), (97, 0, 2, 0, 0, 10, []), (99, 2, 1, 1, 0, 0, []), (100, 9, 0, 2, 0, 0, []), (101, 0, 1, 0, 0, 2, []), (102, 9, 0, 0, 0, 0, []), (103, 27, 0, 1, 0, 0, []), (104, 2, 1, 2, 0, 0, []), (105, 0, 3, 0, 0, 4000, []), (108, 4, 1, 0, 0, 0, []), (109, 25, 12, 43, 0, 0, []), (112, 40, 5, 5, 14, 0, []), (115, 5, 2, 4, 0, 0, []), (117, 4, 1, 0, 0, 0, []), (118, 25, 12, 52, 4, 0, [(0, 21, 560), (0, 1, 29)]), (121, 2, 1, 2, 0, 0, []), (122, 0, 1, 0, 0, 1, []), (123, 29, 0, 0, 0, 0, []), (124, 0, 1, 0, 0, 2, []), (125, 5, 2, 5, 0, 0, []), (127, 49, 0, 0, 0, 0, []), (127, 2, 2, 5, 0, 0, []), (129, 0, 2, 0, 0, 6, []), (131, 18, 333, 4, 186, 0, []), (134, 0, 1, 0, 0, 0, []), (135, 5, 2, 6, 0, 0, []), (137, 49, 0, 0, 0, 0, []), (137, 2, 2, 6, 0, 0, []), (139, 4, 1, 0, 0, 0, []), (140, 25, 12, 50, 4, 0, [(0, 20, 7), (0, 1, 27)]), (143, 2, 2, 5, 0, 0, []), (145, 27, 0, 0, 0, 0, []), (146, 18, 327, 3, 184, 0, []), (149, 2, 2, 5, 0, 0, []), (151, 2, 2, 6, 0, 0, []), (153, 40, 6, 2, 0, 0, []), (156, 5, 2, 7, 0, 0, []), (158, 2, 2, 5, 0, 0, []), (160, 0, 1, 0, 0, 5, []), (161, 18, 321, 0, 181, 0, []), (164, 4, 1, 0, 0, 0, []), (165, 2, 2, 5, 0, 0, []), (167, 2, 2, 6, 0, 0, []), (169, 4, 1, 0, 0, 0, []), (170, 25, 12, 86, 0, 0, []), (173, 40, 7, 4, 14, 0, []), (176, 17, 182, 1, 108, 0, []), (179, 19, 321, 0, 181, 0, []), (182, 4, 1, 0, 0, 0, []), (183, 2, 2, 7, 0, 0, []), (185, 2, 1, 2, 0, 0, []), (186, 40, 8, 3, 14, 0, []), (189, 5, 2, 8, 0, 0, []), (191, 2, 2, 8, 0, 0, []), (193, 17, 267, 2, 152, 0, []), (196, 4, 1, 0, 0, 0, []), (197, 2, 2, 7, 0, 0, []), (199, 2, 2, 8, 0, 0, []), (201, 40, 9, 3, 14, 0, []), (204, 2, 2, 5, 0, 0, []), (206, 0, 1, 0, 0, 3, []), (207, 18, 226, 1, 129, 0, []), (210, 4, 1, 0, 0, 0, []), (211, 2, 2, 6, 0, 0, []), (213, 0, 3, 0, 0, 4000, []), (216, 4, 1, 0, 0, 0, []), (217, 25, 12, 43, 0, 0, []), (220, 40, 10, 4, 14, 0, []), (223, 17, 236, 0, 135, 0, []), (226, 49, 0, 0, 0, 0, []), (226, 4, 1, 0, 0, 0, []), (227, 2, 2, 7, 0, 0, []), (229, 2, 2, 8, 0, 0, []), (231, 2, 2, 4, 0, 0, []), (233, 40, 11, 4, 14, 0, []), (236, 49, 0, 0, 0, 0, []), (236, 2, 2, 5, 0, 0, []), (238, 0, 1, 0, 0, 3, []), (239, 18, 258, 1, 146, 0, []), (242, 4, 1, 0, 0, 0, []), (243, 2, 2, 6, 0, 0, []), (245, 0, 3, 0, 0, 3600, []), (248, 4, 1, 0, 0, 0, []), (249, 25, 12, 42, 0, 0, []), (252, 40, 10, 4, 14, 0, []), (255, 17, 267, 0, 152, 0, []), (258, 49, 0, 0, 0, 0, []), (258, 4, 1, 0, 0, 0, []), (259, 2, 2, 7, 0, 0, []), (261, 2, 2, 8, 0, 0, []), (263, 2, 1, 3, 0, 0, []), (264, 40, 11, 4, 14, 0, []), (267, 49, 0, 0, 0, 0, []), (267, 2, 2, 5, 0, 0, []), (269, 0, 1, 0, 0, 3, []), (270, 18, 283, 1, 161, 0, []), (273, 4, 1, 0, 0, 0, []), (274, 2, 2, 7, 0, 0, []), (276, 2, 1, 2, 0, 0, []), (277, 40, 12, 3, 14, 0, []), (280, 19, 284, 0, 162, 0, []), (283, 0, 1, 0, 0, (-1), []), (284, 49, 0, 0, 0, 0, []), (284, 5, 2, 8, 0, 0, []), (286, 2, 2, 8, 0, 0, []), (288, 17, 294, 3, 167, 0, []), (291, 19, 321, 0, 181, 0, []), (294, 4, 1, 0, 0, 0, []), (295, 2, 2, 7, 0, 0, []), (297, 2, 2, 8, 0, 0, []), (299, 40, 13, 3, 14, 0, []), (302, 4, 1, 0, 0, 0, []), (303, 2, 2, 7, 0, 0, []), (305, 2, 2, 8, 0, 0, []), (307, 2, 2, 4, 0, 0, []), (309, 40, 14, 4, 14, 0, []), (312, 4, 1, 0, 0, 0, []), (313, 2, 2, 7, 0, 0, []), (315, 2, 2, 8, 0, 0, []), (317, 2, 1, 3, 0, 0, []), (318, 40, 14, 4, 14, 0, []), (321, 49, 0, 0, 0, 0, []), (321, 8, 0, 6, 0, 1, []), (324, 19, 137, 0, 86, 0, []), (327, 8, 0, 5, 0, 1, []), (330, 19, 127, 0, 80, 0, []), (333, 0, 1, 0, 0, 0, []), (334, 41, 0, 0, 0, 0, [])]
set_option maxRecDepth 20000 in
theorem qX12_splitf : f_all yX12_split YX12_split pX12_splitf :=
  ⟨f_aload_n (n := 0) (e_dx DX12_split_0 0 rfl) rfl,
  f_getA (e_dx DX12_split_0 1 rfl) fX12_202 rfl (by decide) (Nat.le_of_ble_eq_true rfl) rfl (by decide),
  f_iconst (e_dx DX12_split_0 2 rfl) ⟨by decide, by decide⟩,
  f_iaload (e_dx DX12_split_0 3 rfl),
  f_istore_n (n := 2) (e_dx DX12_split_0 4 rfl) rfl (by decide),
  f_aload_n (n := 0) (e_dx DX12_split_0 5 rfl) rfl,
  f_iload_n (n := 2) (e_dx DX12_split_0 6 rfl) rfl,
  x_callV (e_dx DX12_split_0 7 rfl) mwX12_areAble vwX12_areAble cX12_707 rfl,
  f_if_ne (e_dx DX12_split_0 8 rfl) rfl,
  f_iconst (e_dx DX12_split_0 9 rfl) ⟨by decide, by decide⟩,
  ⟨(e_dx DX12_split_0 10 rfl), rfl⟩,
  f_aload_n (n := 0) (e_dx DX12_split_0 11 rfl) rfl,
  f_iload_n (n := 2) (e_dx DX12_split_0 12 rfl) rfl,
  f_iconst (e_dx DX12_split_0 13 rfl) ⟨by decide, by decide⟩,
  x_callV (e_dx DX12_split_0 14 rfl) mwX12_isBarred vwX12_isBarred cX12_698 rfl,
  f_if_eq (e_dx DX12_split_0 15 rfl) rfl,
  f_iconst (e_dx DX12_split_0 16 rfl) ⟨by decide, by decide⟩,
  ⟨(e_dx DX12_split_0 17 rfl), rfl⟩,
  f_aload_n (n := 0) (e_dx DX12_split_0 18 rfl) rfl,
  f_bipush (e_dx DX12_split_0 19 rfl) ⟨by decide, by decide⟩,
  f_iload_n (n := 2) (e_dx DX12_split_0 20 rfl) rfl,
  f_imul (e_dx DX12_split_0 21 rfl),
  f_aload_n (n := 0) (e_dx DX12_split_0 22 rfl) rfl,
  f_getA (e_dx DX12_split_0 23 rfl) fX12_130 rfl (by decide) (Nat.le_of_ble_eq_true rfl) rfl (by decide),
  f_iload_n (n := 2) (e_dx DX12_split_0 24 rfl) rfl,
  f_iaload (e_dx DX12_split_0 25 rfl),
  f_iload_n (n := 1) (e_dx DX12_split_0 26 rfl) rfl,
  x_callV (e_dx DX12_split_0 27 rfl) mwX12_cuts vwX12_cuts cX12_710 rfl,
  f_if_ne (e_dx DX12_split_0 28 rfl) rfl,
  f_iconst (e_dx DX12_split_0 29 rfl) ⟨by decide, by decide⟩,
  ⟨(e_dx DX12_split_0 30 rfl), rfl⟩,
  f_aload_n (n := 0) (e_dx DX12_split_0 31 rfl) rfl,
  f_iconst (e_dx DX12_split_0 32 rfl) ⟨by decide, by decide⟩,
  f_iconst (e_dx DX12_split_0 33 rfl) ⟨by decide, by decide⟩,
  x_callV (e_dx DX12_split_0 34 rfl) mwX12_full vwX12_full cX12_660 rfl,
  f_if_ne (e_dx DX12_split_0 35 rfl) rfl,
  f_aload_n (n := 0) (e_dx DX12_split_0 36 rfl) rfl,
  f_iload_n (n := 2) (e_dx DX12_split_0 37 rfl) rfl,
  x_callV (e_dx DX12_split_0 38 rfl) mwX12_tooLong vwX12_tooLong cX12_713 rfl,
  f_if_eq (e_dx DX12_split_0 39 rfl) rfl,
  f_bipush (e_dx DX12_split_1 0 rfl) ⟨by decide, by decide⟩,
  ⟨(e_dx DX12_split_1 1 rfl), rfl⟩,
  f_aload_n (n := 0) (e_dx DX12_split_1 2 rfl) rfl,
  f_aload_n (n := 0) (e_dx DX12_split_1 3 rfl) rfl,
  f_getA (e_dx DX12_split_1 4 rfl) fX12_42 rfl (by decide) (Nat.le_of_ble_eq_true rfl) rfl (by decide),
  f_bipush (e_dx DX12_split_1 5 rfl) ⟨by decide, by decide⟩,
  f_iload_n (n := 1) (e_dx DX12_split_1 6 rfl) rfl,
  f_imul (e_dx DX12_split_1 7 rfl),
  f_iconst (e_dx DX12_split_1 8 rfl) ⟨by decide, by decide⟩,
  f_iadd (e_dx DX12_split_1 9 rfl),
  f_laload (e_dx DX12_split_1 10 rfl),
  f_iload_n (n := 2) (e_dx DX12_split_1 11 rfl) rfl,
  f_sipush (e_dx DX12_split_1 12 rfl) ⟨by decide, by decide⟩,
  f_aload_n (n := 0) (e_dx DX12_split_1 13 rfl) rfl,
  f_getf (e_dx DX12_split_1 14 rfl) fX12_468 rfl (by decide) (by decide) (by decide),
  x_callV (e_dx DX12_split_1 15 rfl) mwX12_newLot vwX12_newLot cX12_716 rfl,
  f_istore_n (n := 3) (e_dx DX12_split_1 16 rfl) rfl (by decide),
  f_aload_n (n := 0) (e_dx DX12_split_1 17 rfl) rfl,
  f_aload_n (n := 0) (e_dx DX12_split_1 18 rfl) rfl,
  f_getA (e_dx DX12_split_1 19 rfl) fX12_42 rfl (by decide) (Nat.le_of_ble_eq_true rfl) rfl (by decide),
  f_bipush (e_dx DX12_split_1 20 rfl) ⟨by decide, by decide⟩,
  f_iload_n (n := 1) (e_dx DX12_split_1 21 rfl) rfl,
  f_imul (e_dx DX12_split_1 22 rfl),
  f_iconst (e_dx DX12_split_1 23 rfl) ⟨by decide, by decide⟩,
  f_iadd (e_dx DX12_split_1 24 rfl),
  f_laload (e_dx DX12_split_1 25 rfl),
  f_iload_n (n := 2) (e_dx DX12_split_1 26 rfl) rfl,
  f_sipush (e_dx DX12_split_1 27 rfl) ⟨by decide, by decide⟩,
  f_aload_n (n := 0) (e_dx DX12_split_1 28 rfl) rfl,
  f_getf (e_dx DX12_split_1 29 rfl) fX12_471 rfl (by decide) (by decide) (by decide),
  x_callV (e_dx DX12_split_1 30 rfl) mwX12_newLot vwX12_newLot cX12_716 rfl,
  f_istore (e_dx DX12_split_1 31 rfl) (by decide),
  f_aload_n (n := 0) (e_dx DX12_split_1 32 rfl) rfl,
  f_getA (e_dx DX12_split_1 33 rfl) fX12_97 rfl (by decide) (Nat.le_of_ble_eq_true rfl) rfl (by decide),
  f_iload_n (n := 2) (e_dx DX12_split_1 34 rfl) rfl,
  f_iconst (e_dx DX12_split_1 35 rfl) ⟨by decide, by decide⟩,
  f_g29 (e_dx DX12_split_1 36 rfl),
  f_iconst (e_dx DX12_split_1 37 rfl) ⟨by decide, by decide⟩,
  f_istore (e_dx DX12_split_1 38 rfl) (by decide),
  trivial,
  f_iload (e_dx DX12_split_1 39 rfl),
  f_bipush (e_dx DX12_split_2 0 rfl) ⟨by decide, by decide⟩,
  f_icmp_gt (e_dx DX12_split_2 1 rfl) rfl,
  f_iconst (e_dx DX12_split_2 2 rfl) ⟨by decide, by decide⟩,
  f_istore (e_dx DX12_split_2 3 rfl) (by decide),
  trivial,
  f_iload (e_dx DX12_split_2 4 rfl),
  f_aload_n (n := 0) (e_dx DX12_split_2 5 rfl) rfl,
  f_getA (e_dx DX12_split_2 6 rfl) fX12_91 rfl (by decide) (Nat.le_of_ble_eq_true rfl) rfl (by decide),
  f_iload (e_dx DX12_split_2 7 rfl),
  f_iaload (e_dx DX12_split_2 8 rfl),
  f_icmp_ge (e_dx DX12_split_2 9 rfl) rfl,
  f_iload (e_dx DX12_split_2 10 rfl),
  f_iload (e_dx DX12_split_2 11 rfl),
  x_callS (e_dx DX12_split_2 12 rfl) mwX12_id cX12_540 swX12_id rfl,
  f_istore (e_dx DX12_split_2 13 rfl) (by decide),
  f_iload (e_dx DX12_split_2 14 rfl),
  f_iconst (e_dx DX12_split_2 15 rfl) ⟨by decide, by decide⟩,
  f_icmp_eq (e_dx DX12_split_2 16 rfl) rfl,
  f_aload_n (n := 0) (e_dx DX12_split_2 17 rfl) rfl,
  f_iload (e_dx DX12_split_2 18 rfl),
  f_iload (e_dx DX12_split_2 19 rfl),
  f_aload_n (n := 0) (e_dx DX12_split_2 20 rfl) rfl,
  f_getf (e_dx DX12_split_2 21 rfl) fX12_543 rfl (by decide) (by decide) (by decide),
  x_callV (e_dx DX12_split_2 22 rfl) mwX12_isThere vwX12_isThere cX12_549 rfl,
  f_if_ne (e_dx DX12_split_2 23 rfl) rfl,
  f_g19 (e_dx DX12_split_2 24 rfl) rfl,
  f_aload_n (n := 0) (e_dx DX12_split_2 25 rfl) rfl,
  f_iload (e_dx DX12_split_2 26 rfl),
  f_iload_n (n := 2) (e_dx DX12_split_2 27 rfl) rfl,
  x_callV (e_dx DX12_split_2 28 rfl) mwX12_placeOn vwX12_placeOn cX12_573 rfl,
  f_istore (e_dx DX12_split_2 29 rfl) (by decide),
  f_iload (e_dx DX12_split_2 30 rfl),
  f_if_lt (e_dx DX12_split_2 31 rfl) rfl,
  f_aload_n (n := 0) (e_dx DX12_split_2 32 rfl) rfl,
  f_iload (e_dx DX12_split_2 33 rfl),
  f_iload (e_dx DX12_split_2 34 rfl),
  x_callV (e_dx DX12_split_2 35 rfl) mwX12_offOn vwX12_offOn cX12_576 rfl,
  f_iload (e_dx DX12_split_2 36 rfl),
  f_iconst (e_dx DX12_split_2 37 rfl) ⟨by decide, by decide⟩,
  f_icmp_ne (e_dx DX12_split_2 38 rfl) rfl,
  f_aload_n (n := 0) (e_dx DX12_split_2 39 rfl) rfl,
  f_iload (e_dx DX12_split_3 0 rfl),
  f_sipush (e_dx DX12_split_3 1 rfl) ⟨by decide, by decide⟩,
  f_aload_n (n := 0) (e_dx DX12_split_3 2 rfl) rfl,
  f_getf (e_dx DX12_split_3 3 rfl) fX12_471 rfl (by decide) (by decide) (by decide),
  x_callV (e_dx DX12_split_3 4 rfl) mwX12_hasPoint vwX12_hasPoint cX12_701 rfl,
  f_if_eq (e_dx DX12_split_3 5 rfl) rfl,
  trivial,
  f_aload_n (n := 0) (e_dx DX12_split_3 6 rfl) rfl,
  f_iload (e_dx DX12_split_3 7 rfl),
  f_iload (e_dx DX12_split_3 8 rfl),
  f_iload (e_dx DX12_split_3 9 rfl),
  x_callV (e_dx DX12_split_3 10 rfl) mwX12_inOn vwX12_inOn cX12_720 rfl,
  trivial,
  f_iload (e_dx DX12_split_3 11 rfl),
  f_iconst (e_dx DX12_split_3 12 rfl) ⟨by decide, by decide⟩,
  f_icmp_ne (e_dx DX12_split_3 13 rfl) rfl,
  f_aload_n (n := 0) (e_dx DX12_split_3 14 rfl) rfl,
  f_iload (e_dx DX12_split_3 15 rfl),
  f_sipush (e_dx DX12_split_3 16 rfl) ⟨by decide, by decide⟩,
  f_aload_n (n := 0) (e_dx DX12_split_3 17 rfl) rfl,
  f_getf (e_dx DX12_split_3 18 rfl) fX12_468 rfl (by decide) (by decide) (by decide),
  x_callV (e_dx DX12_split_3 19 rfl) mwX12_hasPoint vwX12_hasPoint cX12_701 rfl,
  f_if_eq (e_dx DX12_split_3 20 rfl) rfl,
  trivial,
  f_aload_n (n := 0) (e_dx DX12_split_3 21 rfl) rfl,
  f_iload (e_dx DX12_split_3 22 rfl),
  f_iload (e_dx DX12_split_3 23 rfl),
  f_iload_n (n := 3) (e_dx DX12_split_3 24 rfl) rfl,
  x_callV (e_dx DX12_split_3 25 rfl) mwX12_inOn vwX12_inOn cX12_720 rfl,
  trivial,
  f_iload (e_dx DX12_split_3 26 rfl),
  f_iconst (e_dx DX12_split_3 27 rfl) ⟨by decide, by decide⟩,
  f_icmp_ne (e_dx DX12_split_3 28 rfl) rfl,
  f_aload_n (n := 0) (e_dx DX12_split_3 29 rfl) rfl,
  f_iload (e_dx DX12_split_3 30 rfl),
  f_iload_n (n := 2) (e_dx DX12_split_3 31 rfl) rfl,
  x_callV (e_dx DX12_split_3 32 rfl) mwX12_placeOf vwX12_placeOf cX12_704 rfl,
  f_g19 (e_dx DX12_split_3 33 rfl) rfl,
  f_iconst (e_dx DX12_split_3 34 rfl) ⟨by decide, by decide⟩,
  trivial,
  f_istore (e_dx DX12_split_3 35 rfl) (by decide),
  f_iload (e_dx DX12_split_3 36 rfl),
  f_if_ge (e_dx DX12_split_3 37 rfl) rfl,
  f_g19 (e_dx DX12_split_3 38 rfl) rfl,
  f_aload_n (n := 0) (e_dx DX12_split_3 39 rfl) rfl,
  f_iload (e_dx DX12_split_4 0 rfl),
  f_iload (e_dx DX12_split_4 1 rfl),
  x_callV (e_dx DX12_split_4 2 rfl) mwX12_offOf vwX12_offOf cX12_723 rfl,
  f_aload_n (n := 0) (e_dx DX12_split_4 3 rfl) rfl,
  f_iload (e_dx DX12_split_4 4 rfl),
  f_iload (e_dx DX12_split_4 5 rfl),
  f_iload (e_dx DX12_split_4 6 rfl),
  x_callV (e_dx DX12_split_4 7 rfl) mwX12_inOf vwX12_inOf cX12_726 rfl,
  f_aload_n (n := 0) (e_dx DX12_split_4 8 rfl) rfl,
  f_iload (e_dx DX12_split_4 9 rfl),
  f_iload (e_dx DX12_split_4 10 rfl),
  f_iload_n (n := 3) (e_dx DX12_split_4 11 rfl) rfl,
  x_callV (e_dx DX12_split_4 12 rfl) mwX12_inOf vwX12_inOf cX12_726 rfl,
  trivial,
  f_g8 (e_dx DX12_split_4 13 rfl) ⟨by decide, by decide⟩,
  f_g19 (e_dx DX12_split_4 14 rfl) rfl,
  f_g8 (e_dx DX12_split_4 15 rfl) ⟨by decide, by decide⟩,
  f_g19 (e_dx DX12_split_4 16 rfl) rfl,
  f_iconst (e_dx DX12_split_4 17 rfl) ⟨by decide, by decide⟩,
  ⟨(e_dx DX12_split_4 18 rfl), rfl⟩, trivial⟩
def lX12_split (c_X12_areAble : Int → e_M → (Int → Prop) → Prop) (c_X12_isBarred : Int → Int → e_M → (Int → Prop) → Prop) (c_X12_cuts : Int → Int → Int → e_M → (Int → e_M → Prop) → Prop) (c_X12_full : Int → Int → e_M → (Int → Prop) → Prop) (c_X12_tooLong : Int → e_M → (Int → Prop) → Prop) (c_X12_newLot : Int → Int → Int → Int → e_M → (Int → e_M → Prop) → Prop) (c_X12_id : Int → Int → e_M → (Int → Prop) → Prop) (c_X12_isThere : Int → Int → Int → e_M → (Int → Prop) → Prop) (c_X12_placeOn : Int → Int → e_M → (Int → Prop) → Prop) (c_X12_offOn : Int → Int → e_M → (e_M → Prop) → Prop) (c_X12_hasPoint : Int → Int → Int → e_M → (Int → Prop) → Prop) (c_X12_inOn : Int → Int → Int → e_M → (e_M → Prop) → Prop) (c_X12_placeOf : Int → Int → e_M → (Int → Prop) → Prop) (c_X12_offOf : Int → Int → e_M → (e_M → Prop) → Prop) (c_X12_inOf : Int → Int → Int → e_M → (e_M → Prop) → Prop) : List (Nat × f_Wt) := [(0, f_wm [(4466, 12, 123), (1, 0, 0)] (fun ar M R => c_X12_areAble (f_vi (f_nth ar 1)) M (fun r => R (some (.inl r)) M))), (1, f_wm [(4466, 12, 123), (1, 0, 0), (1, 0, 0)] (fun ar M R => c_X12_isBarred (f_vi (f_nth ar 1)) (f_vi (f_nth ar 2)) M (fun r => R (some (.inl r)) M))), (2, f_wm [(4466, 12, 123), (1, 0, 0), (1, 0, 0), (1, 0, 0)] (fun ar M R => c_X12_cuts (f_vi (f_nth ar 1)) (f_vi (f_nth ar 2)) (f_vi (f_nth ar 3)) M (fun r M => R (some (.inl r)) M))), (3, f_wm [(4466, 12, 123), (1, 0, 0), (1, 0, 0)] (fun ar M R => c_X12_full (f_vi (f_nth ar 1)) (f_vi (f_nth ar 2)) M (fun r => R (some (.inl r)) M))), (4, f_wm [(4466, 12, 123), (1, 0, 0)] (fun ar M R => c_X12_tooLong (f_vi (f_nth ar 1)) M (fun r => R (some (.inl r)) M))), (5, f_wm [(4466, 12, 123), (2, 0, 0), (1, 0, 0), (1, 0, 0), (1, 0, 0)] (fun ar M R => c_X12_newLot (f_vi (f_nth ar 1)) (f_vi (f_nth ar 2)) (f_vi (f_nth ar 3)) (f_vi (f_nth ar 4)) M (fun r M => R (some (.inl r)) M))), (6, f_wm [(1, 0, 0), (1, 0, 0)] (fun ar M R => c_X12_id (f_vi (f_nth ar 0)) (f_vi (f_nth ar 1)) M (fun r => R (some (.inl r)) M))), (7, f_wm [(4466, 12, 123), (1, 0, 0), (1, 0, 0), (1, 0, 0)] (fun ar M R => c_X12_isThere (f_vi (f_nth ar 1)) (f_vi (f_nth ar 2)) (f_vi (f_nth ar 3)) M (fun r => R (some (.inl r)) M))), (8, f_wm [(4466, 12, 123), (1, 0, 0), (1, 0, 0)] (fun ar M R => c_X12_placeOn (f_vi (f_nth ar 1)) (f_vi (f_nth ar 2)) M (fun r => R (some (.inl r)) M))), (9, f_wm [(4466, 12, 123), (1, 0, 0), (1, 0, 0)] (fun ar M R => c_X12_offOn (f_vi (f_nth ar 1)) (f_vi (f_nth ar 2)) M (fun M => R none M))), (10, f_wm [(4466, 12, 123), (1, 0, 0), (1, 0, 0), (1, 0, 0)] (fun ar M R => c_X12_hasPoint (f_vi (f_nth ar 1)) (f_vi (f_nth ar 2)) (f_vi (f_nth ar 3)) M (fun r => R (some (.inl r)) M))), (11, f_wm [(4466, 12, 123), (1, 0, 0), (1, 0, 0), (1, 0, 0)] (fun ar M R => c_X12_inOn (f_vi (f_nth ar 1)) (f_vi (f_nth ar 2)) (f_vi (f_nth ar 3)) M (fun M => R none M))), (12, f_wm [(4466, 12, 123), (1, 0, 0), (1, 0, 0)] (fun ar M R => c_X12_placeOf (f_vi (f_nth ar 1)) (f_vi (f_nth ar 2)) M (fun r => R (some (.inl r)) M))), (13, f_wm [(4466, 12, 123), (1, 0, 0), (1, 0, 0)] (fun ar M R => c_X12_offOf (f_vi (f_nth ar 1)) (f_vi (f_nth ar 2)) M (fun M => R none M))), (14, f_wm [(4466, 12, 123), (1, 0, 0), (1, 0, 0), (1, 0, 0)] (fun ar M R => c_X12_inOf (f_vi (f_nth ar 1)) (f_vi (f_nth ar 2)) (f_vi (f_nth ar 3)) M (fun M => R none M)))]
set_option maxRecDepth 20000 in
theorem BX12_split_127 {sh : Nat → Nat × Nat} {t : Nat} {rm : Nat × Nat × Nat} {cs : Nat × Nat} {R : f_Rt} {c_X12_areAble : Int → e_M → (Int → Prop) → Prop} {c_X12_isBarred : Int → Int → e_M → (Int → Prop) → Prop} {c_X12_cuts : Int → Int → Int → e_M → (Int → e_M → Prop) → Prop} {c_X12_full : Int → Int → e_M → (Int → Prop) → Prop} {c_X12_tooLong : Int → e_M → (Int → Prop) → Prop} {c_X12_newLot : Int → Int → Int → Int → e_M → (Int → e_M → Prop) → Prop} {c_X12_id : Int → Int → e_M → (Int → Prop) → Prop} {c_X12_isThere : Int → Int → Int → e_M → (Int → Prop) → Prop} {c_X12_placeOn : Int → Int → e_M → (Int → Prop) → Prop} {c_X12_offOn : Int → Int → e_M → (e_M → Prop) → Prop} {c_X12_hasPoint : Int → Int → Int → e_M → (Int → Prop) → Prop} {c_X12_inOn : Int → Int → Int → e_M → (e_M → Prop) → Prop} {c_X12_placeOf : Int → Int → e_M → (Int → Prop) → Prop} {c_X12_offOf : Int → Int → e_M → (e_M → Prop) → Prop} {c_X12_inOf : Int → Int → Int → e_M → (e_M → Prop) → Prop} {k137 : Int → Int → Int → Int → Int → e_M → Prop} {x2 : Int} {x3 : Int} {x4 : Int} {x5 : Int} {M : e_M} (C : f_Hy sh t yX12_split rm cs 11 (lX12_split c_X12_areAble c_X12_isBarred c_X12_cuts c_X12_full c_X12_tooLong c_X12_newLot c_X12_id c_X12_isThere c_X12_placeOn c_X12_offOn c_X12_hasPoint c_X12_inOn c_X12_placeOf c_X12_offOf c_X12_inOf) R) (h137 : ∀ (x2 : Int) (x3 : Int) (x4 : Int) (x5 : Int) (x6 : Int) (M : e_M), k137 x2 x3 x4 x5 x6 M → f_E sh t YX12_split rm cs (f_Q sh t R) 137 [.inr (.inr (.inl (12, 123, 4456))), .inr (.inr (.inr ())), .inl x2, .inl x3, .inl x4, .inl x5, .inl x6, .inr (.inr (.inr ())), .inr (.inr (.inr ()))] [] M) (h : VX12_split_127 c_X12_areAble c_X12_isBarred c_X12_cuts c_X12_full c_X12_tooLong c_X12_newLot c_X12_id c_X12_isThere c_X12_placeOn c_X12_offOn c_X12_hasPoint c_X12_inOn c_X12_placeOf c_X12_offOf c_X12_inOf k137 (fun r M => R (some (.inl r)) M) x2 x3 x4 x5 M) : f_E sh t YX12_split rm cs (f_Q sh t R) 127 [.inr (.inr (.inl (12, 123, 4456))), .inr (.inr (.inr ())), .inl x2, .inl x3, .inl x4, .inl x5, .inr (.inr (.inr ())), .inr (.inr (.inr ())), .inr (.inr (.inr ()))] [] M :=
  f_go (KC := f_kc [(137, f_pl [(4466, 12, 123), (0, 0, 0), (1, 0, 0), (1, 0, 0), (1, 0, 0), (1, 0, 0), (1, 0, 0), (0, 0, 0), (0, 0, 0)] [] (fun ls st M => k137 (f_vi (f_nth ls 2)) (f_vi (f_nth ls 3)) (f_vi (f_nth ls 4)) (f_vi (f_nth ls 5)) (f_vi (f_nth ls 6)) M))]) C qX12_splitf (f_kc_cons (f_pl_ok rfl (fun ls st M h => h137 _ _ _ _ _ M h)) f_kc_nil) 189 80 h
set_option maxRecDepth 20000 in
theorem BX12_split_137 {sh : Nat → Nat × Nat} {t : Nat} {rm : Nat × Nat × Nat} {cs : Nat × Nat} {R : f_Rt} {c_X12_areAble : Int → e_M → (Int → Prop) → Prop} {c_X12_isBarred : Int → Int → e_M → (Int → Prop) → Prop} {c_X12_cuts : Int → Int → Int → e_M → (Int → e_M → Prop) → Prop} {c_X12_full : Int → Int → e_M → (Int → Prop) → Prop} {c_X12_tooLong : Int → e_M → (Int → Prop) → Prop} {c_X12_newLot : Int → Int → Int → Int → e_M → (Int → e_M → Prop) → Prop} {c_X12_id : Int → Int → e_M → (Int → Prop) → Prop} {c_X12_isThere : Int → Int → Int → e_M → (Int → Prop) → Prop} {c_X12_placeOn : Int → Int → e_M → (Int → Prop) → Prop} {c_X12_offOn : Int → Int → e_M → (e_M → Prop) → Prop} {c_X12_hasPoint : Int → Int → Int → e_M → (Int → Prop) → Prop} {c_X12_inOn : Int → Int → Int → e_M → (e_M → Prop) → Prop} {c_X12_placeOf : Int → Int → e_M → (Int → Prop) → Prop} {c_X12_offOf : Int → Int → e_M → (e_M → Prop) → Prop} {c_X12_inOf : Int → Int → Int → e_M → (e_M → Prop) → Prop} {k127 : Int → Int → Int → Int → e_M → Prop} {k321 : Int → Int → Int → Int → Int → e_M → Prop} {k267 : Int → Int → Int → Int → Int → Int → e_M → Prop} {k226 : Int → Int → Int → Int → Int → Int → Int → e_M → Prop} {k236 : Int → Int → Int → Int → Int → Int → Int → e_M → Prop} {x2 : Int} {x3 : Int} {x4 : Int} {x5 : Int} {x6 : Int} {M : e_M} (C : f_Hy sh t yX12_split rm cs 11 (lX12_split c_X12_areAble c_X12_isBarred c_X12_cuts c_X12_full c_X12_tooLong c_X12_newLot c_X12_id c_X12_isThere c_X12_placeOn c_X12_offOn c_X12_hasPoint c_X12_inOn c_X12_placeOf c_X12_offOf c_X12_inOf) R) (h127 : ∀ (x2 : Int) (x3 : Int) (x4 : Int) (x5 : Int) (M : e_M), k127 x2 x3 x4 x5 M → f_E sh t YX12_split rm cs (f_Q sh t R) 127 [.inr (.inr (.inl (12, 123, 4456))), .inr (.inr (.inr ())), .inl x2, .inl x3, .inl x4, .inl x5, .inr (.inr (.inr ())), .inr (.inr (.inr ())), .inr (.inr (.inr ()))] [] M) (h321 : ∀ (x2 : Int) (x3 : Int) (x4 : Int) (x5 : Int) (x6 : Int) (M : e_M), k321 x2 x3 x4 x5 x6 M → f_E sh t YX12_split rm cs (f_Q sh t R) 321 [.inr (.inr (.inl (12, 123, 4456))), .inr (.inr (.inr ())), .inl x2, .inl x3, .inl x4, .inl x5, .inl x6, .inr (.inr (.inr ())), .inr (.inr (.inr ()))] [] M) (h267 : ∀ (x2 : Int) (x3 : Int) (x4 : Int) (x5 : Int) (x6 : Int) (x7 : Int) (M : e_M), k267 x2 x3 x4 x5 x6 x7 M → f_E sh t YX12_split rm cs (f_Q sh t R) 267 [.inr (.inr (.inl (12, 123, 4456))), .inr (.inr (.inr ())), .inl x2, .inl x3, .inl x4, .inl x5, .inl x6, .inl x7, .inr (.inr (.inr ()))] [] M) (h226 : ∀ (x2 : Int) (x3 : Int) (x4 : Int) (x5 : Int) (x6 : Int) (x7 : Int) (x8 : Int) (M : e_M), k226 x2 x3 x4 x5 x6 x7 x8 M → f_E sh t YX12_split rm cs (f_Q sh t R) 226 [.inr (.inr (.inl (12, 123, 4456))), .inr (.inr (.inr ())), .inl x2, .inl x3, .inl x4, .inl x5, .inl x6, .inl x7, .inl x8] [] M) (h236 : ∀ (x2 : Int) (x3 : Int) (x4 : Int) (x5 : Int) (x6 : Int) (x7 : Int) (x8 : Int) (M : e_M), k236 x2 x3 x4 x5 x6 x7 x8 M → f_E sh t YX12_split rm cs (f_Q sh t R) 236 [.inr (.inr (.inl (12, 123, 4456))), .inr (.inr (.inr ())), .inl x2, .inl x3, .inl x4, .inl x5, .inl x6, .inl x7, .inl x8] [] M) (h : VX12_split_137 c_X12_areAble c_X12_isBarred c_X12_cuts c_X12_full c_X12_tooLong c_X12_newLot c_X12_id c_X12_isThere c_X12_placeOn c_X12_offOn c_X12_hasPoint c_X12_inOn c_X12_placeOf c_X12_offOf c_X12_inOf k127 k321 k267 k226 k236 (fun r M => R (some (.inl r)) M) x2 x3 x4 x5 x6 M) : f_E sh t YX12_split rm cs (f_Q sh t R) 137 [.inr (.inr (.inl (12, 123, 4456))), .inr (.inr (.inr ())), .inl x2, .inl x3, .inl x4, .inl x5, .inl x6, .inr (.inr (.inr ())), .inr (.inr (.inr ()))] [] M :=
  f_go (KC := f_kc [(127, f_pl [(4466, 12, 123), (0, 0, 0), (1, 0, 0), (1, 0, 0), (1, 0, 0), (1, 0, 0), (0, 0, 0), (0, 0, 0), (0, 0, 0)] [] (fun ls st M => k127 (f_vi (f_nth ls 2)) (f_vi (f_nth ls 3)) (f_vi (f_nth ls 4)) (f_vi (f_nth ls 5)) M)), (321, f_pl [(4466, 12, 123), (0, 0, 0), (1, 0, 0), (1, 0, 0), (1, 0, 0), (1, 0, 0), (1, 0, 0), (0, 0, 0), (0, 0, 0)] [] (fun ls st M => k321 (f_vi (f_nth ls 2)) (f_vi (f_nth ls 3)) (f_vi (f_nth ls 4)) (f_vi (f_nth ls 5)) (f_vi (f_nth ls 6)) M)), (267, f_pl [(4466, 12, 123), (0, 0, 0), (1, 0, 0), (1, 0, 0), (1, 0, 0), (1, 0, 0), (1, 0, 0), (1, 0, 0), (0, 0, 0)] [] (fun ls st M => k267 (f_vi (f_nth ls 2)) (f_vi (f_nth ls 3)) (f_vi (f_nth ls 4)) (f_vi (f_nth ls 5)) (f_vi (f_nth ls 6)) (f_vi (f_nth ls 7)) M)), (226, f_pl [(4466, 12, 123), (0, 0, 0), (1, 0, 0), (1, 0, 0), (1, 0, 0), (1, 0, 0), (1, 0, 0), (1, 0, 0), (1, 0, 0)] [] (fun ls st M => k226 (f_vi (f_nth ls 2)) (f_vi (f_nth ls 3)) (f_vi (f_nth ls 4)) (f_vi (f_nth ls 5)) (f_vi (f_nth ls 6)) (f_vi (f_nth ls 7)) (f_vi (f_nth ls 8)) M)), (236, f_pl [(4466, 12, 123), (0, 0, 0), (1, 0, 0), (1, 0, 0), (1, 0, 0), (1, 0, 0), (1, 0, 0), (1, 0, 0), (1, 0, 0)] [] (fun ls st M => k236 (f_vi (f_nth ls 2)) (f_vi (f_nth ls 3)) (f_vi (f_nth ls 4)) (f_vi (f_nth ls 5)) (f_vi (f_nth ls 6)) (f_vi (f_nth ls 7)) (f_vi (f_nth ls 8)) M))]) C qX12_splitf (f_kc_cons (f_pl_ok rfl (fun ls st M h => h127 _ _ _ _ M h)) (f_kc_cons (f_pl_ok rfl (fun ls st M h => h321 _ _ _ _ _ M h)) (f_kc_cons (f_pl_ok rfl (fun ls st M h => h267 _ _ _ _ _ _ M h)) (f_kc_cons (f_pl_ok rfl (fun ls st M h => h226 _ _ _ _ _ _ _ M h)) (f_kc_cons (f_pl_ok rfl (fun ls st M h => h236 _ _ _ _ _ _ _ M h)) f_kc_nil))))) 189 86 h
set_option maxRecDepth 20000 in
theorem BX12_split_226 {sh : Nat → Nat × Nat} {t : Nat} {rm : Nat × Nat × Nat} {cs : Nat × Nat} {R : f_Rt} {c_X12_areAble : Int → e_M → (Int → Prop) → Prop} {c_X12_isBarred : Int → Int → e_M → (Int → Prop) → Prop} {c_X12_cuts : Int → Int → Int → e_M → (Int → e_M → Prop) → Prop} {c_X12_full : Int → Int → e_M → (Int → Prop) → Prop} {c_X12_tooLong : Int → e_M → (Int → Prop) → Prop} {c_X12_newLot : Int → Int → Int → Int → e_M → (Int → e_M → Prop) → Prop} {c_X12_id : Int → Int → e_M → (Int → Prop) → Prop} {c_X12_isThere : Int → Int → Int → e_M → (Int → Prop) → Prop} {c_X12_placeOn : Int → Int → e_M → (Int → Prop) → Prop} {c_X12_offOn : Int → Int → e_M → (e_M → Prop) → Prop} {c_X12_hasPoint : Int → Int → Int → e_M → (Int → Prop) → Prop} {c_X12_inOn : Int → Int → Int → e_M → (e_M → Prop) → Prop} {c_X12_placeOf : Int → Int → e_M → (Int → Prop) → Prop} {c_X12_offOf : Int → Int → e_M → (e_M → Prop) → Prop} {c_X12_inOf : Int → Int → Int → e_M → (e_M → Prop) → Prop} {k236 : Int → Int → Int → Int → Int → Int → Int → e_M → Prop} {x2 : Int} {x3 : Int} {x4 : Int} {x5 : Int} {x6 : Int} {x7 : Int} {x8 : Int} {M : e_M} (C : f_Hy sh t yX12_split rm cs 11 (lX12_split c_X12_areAble c_X12_isBarred c_X12_cuts c_X12_full c_X12_tooLong c_X12_newLot c_X12_id c_X12_isThere c_X12_placeOn c_X12_offOn c_X12_hasPoint c_X12_inOn c_X12_placeOf c_X12_offOf c_X12_inOf) R) (h236 : ∀ (x2 : Int) (x3 : Int) (x4 : Int) (x5 : Int) (x6 : Int) (x7 : Int) (x8 : Int) (M : e_M), k236 x2 x3 x4 x5 x6 x7 x8 M → f_E sh t YX12_split rm cs (f_Q sh t R) 236 [.inr (.inr (.inl (12, 123, 4456))), .inr (.inr (.inr ())), .inl x2, .inl x3, .inl x4, .inl x5, .inl x6, .inl x7, .inl x8] [] M) (h : VX12_split_226 c_X12_areAble c_X12_isBarred c_X12_cuts c_X12_full c_X12_tooLong c_X12_newLot c_X12_id c_X12_isThere c_X12_placeOn c_X12_offOn c_X12_hasPoint c_X12_inOn c_X12_placeOf c_X12_offOf c_X12_inOf k236 (fun r M => R (some (.inl r)) M) x2 x3 x4 x5 x6 x7 x8 M) : f_E sh t YX12_split rm cs (f_Q sh t R) 226 [.inr (.inr (.inl (12, 123, 4456))), .inr (.inr (.inr ())), .inl x2, .inl x3, .inl x4, .inl x5, .inl x6, .inl x7, .inl x8] [] M :=
  f_go (KC := f_kc [(236, f_pl [(4466, 12, 123), (0, 0, 0), (1, 0, 0), (1, 0, 0), (1, 0, 0), (1, 0, 0), (1, 0, 0), (1, 0, 0), (1, 0, 0)] [] (fun ls st M => k236 (f_vi (f_nth ls 2)) (f_vi (f_nth ls 3)) (f_vi (f_nth ls 4)) (f_vi (f_nth ls 5)) (f_vi (f_nth ls 6)) (f_vi (f_nth ls 7)) (f_vi (f_nth ls 8)) M))]) C qX12_splitf (f_kc_cons (f_pl_ok rfl (fun ls st M h => h236 _ _ _ _ _ _ _ M h)) f_kc_nil) 189 129 h
set_option maxRecDepth 20000 in
theorem BX12_split_236 {sh : Nat → Nat × Nat} {t : Nat} {rm : Nat × Nat × Nat} {cs : Nat × Nat} {R : f_Rt} {c_X12_areAble : Int → e_M → (Int → Prop) → Prop} {c_X12_isBarred : Int → Int → e_M → (Int → Prop) → Prop} {c_X12_cuts : Int → Int → Int → e_M → (Int → e_M → Prop) → Prop} {c_X12_full : Int → Int → e_M → (Int → Prop) → Prop} {c_X12_tooLong : Int → e_M → (Int → Prop) → Prop} {c_X12_newLot : Int → Int → Int → Int → e_M → (Int → e_M → Prop) → Prop} {c_X12_id : Int → Int → e_M → (Int → Prop) → Prop} {c_X12_isThere : Int → Int → Int → e_M → (Int → Prop) → Prop} {c_X12_placeOn : Int → Int → e_M → (Int → Prop) → Prop} {c_X12_offOn : Int → Int → e_M → (e_M → Prop) → Prop} {c_X12_hasPoint : Int → Int → Int → e_M → (Int → Prop) → Prop} {c_X12_inOn : Int → Int → Int → e_M → (e_M → Prop) → Prop} {c_X12_placeOf : Int → Int → e_M → (Int → Prop) → Prop} {c_X12_offOf : Int → Int → e_M → (e_M → Prop) → Prop} {c_X12_inOf : Int → Int → Int → e_M → (e_M → Prop) → Prop} {k258 : Int → Int → Int → Int → Int → Int → Int → e_M → Prop} {k267 : Int → Int → Int → Int → Int → Int → e_M → Prop} {x2 : Int} {x3 : Int} {x4 : Int} {x5 : Int} {x6 : Int} {x7 : Int} {x8 : Int} {M : e_M} (C : f_Hy sh t yX12_split rm cs 11 (lX12_split c_X12_areAble c_X12_isBarred c_X12_cuts c_X12_full c_X12_tooLong c_X12_newLot c_X12_id c_X12_isThere c_X12_placeOn c_X12_offOn c_X12_hasPoint c_X12_inOn c_X12_placeOf c_X12_offOf c_X12_inOf) R) (h258 : ∀ (x2 : Int) (x3 : Int) (x4 : Int) (x5 : Int) (x6 : Int) (x7 : Int) (x8 : Int) (M : e_M), k258 x2 x3 x4 x5 x6 x7 x8 M → f_E sh t YX12_split rm cs (f_Q sh t R) 258 [.inr (.inr (.inl (12, 123, 4456))), .inr (.inr (.inr ())), .inl x2, .inl x3, .inl x4, .inl x5, .inl x6, .inl x7, .inl x8] [] M) (h267 : ∀ (x2 : Int) (x3 : Int) (x4 : Int) (x5 : Int) (x6 : Int) (x7 : Int) (M : e_M), k267 x2 x3 x4 x5 x6 x7 M → f_E sh t YX12_split rm cs (f_Q sh t R) 267 [.inr (.inr (.inl (12, 123, 4456))), .inr (.inr (.inr ())), .inl x2, .inl x3, .inl x4, .inl x5, .inl x6, .inl x7, .inr (.inr (.inr ()))] [] M) (h : VX12_split_236 c_X12_areAble c_X12_isBarred c_X12_cuts c_X12_full c_X12_tooLong c_X12_newLot c_X12_id c_X12_isThere c_X12_placeOn c_X12_offOn c_X12_hasPoint c_X12_inOn c_X12_placeOf c_X12_offOf c_X12_inOf k258 k267 (fun r M => R (some (.inl r)) M) x2 x3 x4 x5 x6 x7 x8 M) : f_E sh t YX12_split rm cs (f_Q sh t R) 236 [.inr (.inr (.inl (12, 123, 4456))), .inr (.inr (.inr ())), .inl x2, .inl x3, .inl x4, .inl x5, .inl x6, .inl x7, .inl x8] [] M :=
  f_go (KC := f_kc [(258, f_pl [(4466, 12, 123), (0, 0, 0), (1, 0, 0), (1, 0, 0), (1, 0, 0), (1, 0, 0), (1, 0, 0), (1, 0, 0), (1, 0, 0)] [] (fun ls st M => k258 (f_vi (f_nth ls 2)) (f_vi (f_nth ls 3)) (f_vi (f_nth ls 4)) (f_vi (f_nth ls 5)) (f_vi (f_nth ls 6)) (f_vi (f_nth ls 7)) (f_vi (f_nth ls 8)) M)), (267, f_pl [(4466, 12, 123), (0, 0, 0), (1, 0, 0), (1, 0, 0), (1, 0, 0), (1, 0, 0), (1, 0, 0), (1, 0, 0), (0, 0, 0)] [] (fun ls st M => k267 (f_vi (f_nth ls 2)) (f_vi (f_nth ls 3)) (f_vi (f_nth ls 4)) (f_vi (f_nth ls 5)) (f_vi (f_nth ls 6)) (f_vi (f_nth ls 7)) M))]) C qX12_splitf (f_kc_cons (f_pl_ok rfl (fun ls st M h => h258 _ _ _ _ _ _ _ M h)) (f_kc_cons (f_pl_ok rfl (fun ls st M h => h267 _ _ _ _ _ _ M h)) f_kc_nil)) 189 135 h
set_option maxRecDepth 20000 in
theorem BX12_split_258 {sh : Nat → Nat × Nat} {t : Nat} {rm : Nat × Nat × Nat} {cs : Nat × Nat} {R : f_Rt} {c_X12_areAble : Int → e_M → (Int → Prop) → Prop} {c_X12_isBarred : Int → Int → e_M → (Int → Prop) → Prop} {c_X12_cuts : Int → Int → Int → e_M → (Int → e_M → Prop) → Prop} {c_X12_full : Int → Int → e_M → (Int → Prop) → Prop} {c_X12_tooLong : Int → e_M → (Int → Prop) → Prop} {c_X12_newLot : Int → Int → Int → Int → e_M → (Int → e_M → Prop) → Prop} {c_X12_id : Int → Int → e_M → (Int → Prop) → Prop} {c_X12_isThere : Int → Int → Int → e_M → (Int → Prop) → Prop} {c_X12_placeOn : Int → Int → e_M → (Int → Prop) → Prop} {c_X12_offOn : Int → Int → e_M → (e_M → Prop) → Prop} {c_X12_hasPoint : Int → Int → Int → e_M → (Int → Prop) → Prop} {c_X12_inOn : Int → Int → Int → e_M → (e_M → Prop) → Prop} {c_X12_placeOf : Int → Int → e_M → (Int → Prop) → Prop} {c_X12_offOf : Int → Int → e_M → (e_M → Prop) → Prop} {c_X12_inOf : Int → Int → Int → e_M → (e_M → Prop) → Prop} {k267 : Int → Int → Int → Int → Int → Int → e_M → Prop} {x2 : Int} {x3 : Int} {x4 : Int} {x5 : Int} {x6 : Int} {x7 : Int} {x8 : Int} {M : e_M} (C : f_Hy sh t yX12_split rm cs 11 (lX12_split c_X12_areAble c_X12_isBarred c_X12_cuts c_X12_full c_X12_tooLong c_X12_newLot c_X12_id c_X12_isThere c_X12_placeOn c_X12_offOn c_X12_hasPoint c_X12_inOn c_X12_placeOf c_X12_offOf c_X12_inOf) R) (h267 : ∀ (x2 : Int) (x3 : Int) (x4 : Int) (x5 : Int) (x6 : Int) (x7 : Int) (M : e_M), k267 x2 x3 x4 x5 x6 x7 M → f_E sh t YX12_split rm cs (f_Q sh t R) 267 [.inr (.inr (.inl (12, 123, 4456))), .inr (.inr (.inr ())), .inl x2, .inl x3, .inl x4, .inl x5, .inl x6, .inl x7, .inr (.inr (.inr ()))] [] M) (h : VX12_split_258 c_X12_areAble c_X12_isBarred c_X12_cuts c_X12_full c_X12_tooLong c_X12_newLot c_X12_id c_X12_isThere c_X12_placeOn c_X12_offOn c_X12_hasPoint c_X12_inOn c_X12_placeOf c_X12_offOf c_X12_inOf k267 (fun r M => R (some (.inl r)) M) x2 x3 x4 x5 x6 x7 x8 M) : f_E sh t YX12_split rm cs (f_Q sh t R) 258 [.inr (.inr (.inl (12, 123, 4456))), .inr (.inr (.inr ())), .inl x2, .inl x3, .inl x4, .inl x5, .inl x6, .inl x7, .inl x8] [] M :=
  f_go (KC := f_kc [(267, f_pl [(4466, 12, 123), (0, 0, 0), (1, 0, 0), (1, 0, 0), (1, 0, 0), (1, 0, 0), (1, 0, 0), (1, 0, 0), (0, 0, 0)] [] (fun ls st M => k267 (f_vi (f_nth ls 2)) (f_vi (f_nth ls 3)) (f_vi (f_nth ls 4)) (f_vi (f_nth ls 5)) (f_vi (f_nth ls 6)) (f_vi (f_nth ls 7)) M))]) C qX12_splitf (f_kc_cons (f_pl_ok rfl (fun ls st M h => h267 _ _ _ _ _ _ M h)) f_kc_nil) 189 146 h
set_option maxRecDepth 20000 in
theorem BX12_split_267 {sh : Nat → Nat × Nat} {t : Nat} {rm : Nat × Nat × Nat} {cs : Nat × Nat} {R : f_Rt} {c_X12_areAble : Int → e_M → (Int → Prop) → Prop} {c_X12_isBarred : Int → Int → e_M → (Int → Prop) → Prop} {c_X12_cuts : Int → Int → Int → e_M → (Int → e_M → Prop) → Prop} {c_X12_full : Int → Int → e_M → (Int → Prop) → Prop} {c_X12_tooLong : Int → e_M → (Int → Prop) → Prop} {c_X12_newLot : Int → Int → Int → Int → e_M → (Int → e_M → Prop) → Prop} {c_X12_id : Int → Int → e_M → (Int → Prop) → Prop} {c_X12_isThere : Int → Int → Int → e_M → (Int → Prop) → Prop} {c_X12_placeOn : Int → Int → e_M → (Int → Prop) → Prop} {c_X12_offOn : Int → Int → e_M → (e_M → Prop) → Prop} {c_X12_hasPoint : Int → Int → Int → e_M → (Int → Prop) → Prop} {c_X12_inOn : Int → Int → Int → e_M → (e_M → Prop) → Prop} {c_X12_placeOf : Int → Int → e_M → (Int → Prop) → Prop} {c_X12_offOf : Int → Int → e_M → (e_M → Prop) → Prop} {c_X12_inOf : Int → Int → Int → e_M → (e_M → Prop) → Prop} {k284 : Int → Int → Int → Int → Int → Int → Int → e_M → Prop} {x2 : Int} {x3 : Int} {x4 : Int} {x5 : Int} {x6 : Int} {x7 : Int} {M : e_M} (C : f_Hy sh t yX12_split rm cs 11 (lX12_split c_X12_areAble c_X12_isBarred c_X12_cuts c_X12_full c_X12_tooLong c_X12_newLot c_X12_id c_X12_isThere c_X12_placeOn c_X12_offOn c_X12_hasPoint c_X12_inOn c_X12_placeOf c_X12_offOf c_X12_inOf) R) (h284 : ∀ (x2 : Int) (x3 : Int) (x4 : Int) (x5 : Int) (x6 : Int) (x7 : Int) (xs0 : Int) (M : e_M), k284 x2 x3 x4 x5 x6 x7 xs0 M → f_E sh t YX12_split rm cs (f_Q sh t R) 284 [.inr (.inr (.inl (12, 123, 4456))), .inr (.inr (.inr ())), .inl x2, .inl x3, .inl x4, .inl x5, .inl x6, .inl x7, .inr (.inr (.inr ()))] [.inl xs0] M) (h : VX12_split_267 c_X12_areAble c_X12_isBarred c_X12_cuts c_X12_full c_X12_tooLong c_X12_newLot c_X12_id c_X12_isThere c_X12_placeOn c_X12_offOn c_X12_hasPoint c_X12_inOn c_X12_placeOf c_X12_offOf c_X12_inOf k284 (fun r M => R (some (.inl r)) M) x2 x3 x4 x5 x6 x7 M) : f_E sh t YX12_split rm cs (f_Q sh t R) 267 [.inr (.inr (.inl (12, 123, 4456))), .inr (.inr (.inr ())), .inl x2, .inl x3, .inl x4, .inl x5, .inl x6, .inl x7, .inr (.inr (.inr ()))] [] M :=
  f_go (KC := f_kc [(284, f_pl [(4466, 12, 123), (0, 0, 0), (1, 0, 0), (1, 0, 0), (1, 0, 0), (1, 0, 0), (1, 0, 0), (1, 0, 0), (0, 0, 0)] [(1, 0, 0)] (fun ls st M => k284 (f_vi (f_nth ls 2)) (f_vi (f_nth ls 3)) (f_vi (f_nth ls 4)) (f_vi (f_nth ls 5)) (f_vi (f_nth ls 6)) (f_vi (f_nth ls 7)) (f_vi (f_nth st 0)) M))]) C qX12_splitf (f_kc_cons (f_pl_ok rfl (fun ls st M h => h284 _ _ _ _ _ _ _ M h)) f_kc_nil) 189 152 h
set_option maxRecDepth 20000 in
theorem BX12_split_284 {sh : Nat → Nat × Nat} {t : Nat} {rm : Nat × Nat × Nat} {cs : Nat × Nat} {R : f_Rt} {c_X12_areAble : Int → e_M → (Int → Prop) → Prop} {c_X12_isBarred : Int → Int → e_M → (Int → Prop) → Prop} {c_X12_cuts : Int → Int → Int → e_M → (Int → e_M → Prop) → Prop} {c_X12_full : Int → Int → e_M → (Int → Prop) → Prop} {c_X12_tooLong : Int → e_M → (Int → Prop) → Prop} {c_X12_newLot : Int → Int → Int → Int → e_M → (Int → e_M → Prop) → Prop} {c_X12_id : Int → Int → e_M → (Int → Prop) → Prop} {c_X12_isThere : Int → Int → Int → e_M → (Int → Prop) → Prop} {c_X12_placeOn : Int → Int → e_M → (Int → Prop) → Prop} {c_X12_offOn : Int → Int → e_M → (e_M → Prop) → Prop} {c_X12_hasPoint : Int → Int → Int → e_M → (Int → Prop) → Prop} {c_X12_inOn : Int → Int → Int → e_M → (e_M → Prop) → Prop} {c_X12_placeOf : Int → Int → e_M → (Int → Prop) → Prop} {c_X12_offOf : Int → Int → e_M → (e_M → Prop) → Prop} {c_X12_inOf : Int → Int → Int → e_M → (e_M → Prop) → Prop} {k321 : Int → Int → Int → Int → Int → e_M → Prop} {x2 : Int} {x3 : Int} {x4 : Int} {x5 : Int} {x6 : Int} {x7 : Int} {xs0 : Int} {M : e_M} (C : f_Hy sh t yX12_split rm cs 11 (lX12_split c_X12_areAble c_X12_isBarred c_X12_cuts c_X12_full c_X12_tooLong c_X12_newLot c_X12_id c_X12_isThere c_X12_placeOn c_X12_offOn c_X12_hasPoint c_X12_inOn c_X12_placeOf c_X12_offOf c_X12_inOf) R) (h321 : ∀ (x2 : Int) (x3 : Int) (x4 : Int) (x5 : Int) (x6 : Int) (M : e_M), k321 x2 x3 x4 x5 x6 M → f_E sh t YX12_split rm cs (f_Q sh t R) 321 [.inr (.inr (.inl (12, 123, 4456))), .inr (.inr (.inr ())), .inl x2, .inl x3, .inl x4, .inl x5, .inl x6, .inr (.inr (.inr ())), .inr (.inr (.inr ()))] [] M) (h : VX12_split_284 c_X12_areAble c_X12_isBarred c_X12_cuts c_X12_full c_X12_tooLong c_X12_newLot c_X12_id c_X12_isThere c_X12_placeOn c_X12_offOn c_X12_hasPoint c_X12_inOn c_X12_placeOf c_X12_offOf c_X12_inOf k321 (fun r M => R (some (.inl r)) M) x2 x3 x4 x5 x6 x7 xs0 M) : f_E sh t YX12_split rm cs (f_Q sh t R) 284 [.inr (.inr (.inl (12, 123, 4456))), .inr (.inr (.inr ())), .inl x2, .inl x3, .inl x4, .inl x5, .inl x6, .inl x7, .inr (.inr (.inr ()))] [.inl xs0] M :=
  f_go (KC := f_kc [(321, f_pl [(4466, 12, 123), (0, 0, 0), (1, 0, 0), (1, 0, 0), (1, 0, 0), (1, 0, 0), (1, 0, 0), (0, 0, 0), (0, 0, 0)] [] (fun ls st M => k321 (f_vi (f_nth ls 2)) (f_vi (f_nth ls 3)) (f_vi (f_nth ls 4)) (f_vi (f_nth ls 5)) (f_vi (f_nth ls 6)) M))]) C qX12_splitf (f_kc_cons (f_pl_ok rfl (fun ls st M h => h321 _ _ _ _ _ M h)) f_kc_nil) 189 162 h
set_option maxRecDepth 20000 in
theorem BX12_split_321 {sh : Nat → Nat × Nat} {t : Nat} {rm : Nat × Nat × Nat} {cs : Nat × Nat} {R : f_Rt} {c_X12_areAble : Int → e_M → (Int → Prop) → Prop} {c_X12_isBarred : Int → Int → e_M → (Int → Prop) → Prop} {c_X12_cuts : Int → Int → Int → e_M → (Int → e_M → Prop) → Prop} {c_X12_full : Int → Int → e_M → (Int → Prop) → Prop} {c_X12_tooLong : Int → e_M → (Int → Prop) → Prop} {c_X12_newLot : Int → Int → Int → Int → e_M → (Int → e_M → Prop) → Prop} {c_X12_id : Int → Int → e_M → (Int → Prop) → Prop} {c_X12_isThere : Int → Int → Int → e_M → (Int → Prop) → Prop} {c_X12_placeOn : Int → Int → e_M → (Int → Prop) → Prop} {c_X12_offOn : Int → Int → e_M → (e_M → Prop) → Prop} {c_X12_hasPoint : Int → Int → Int → e_M → (Int → Prop) → Prop} {c_X12_inOn : Int → Int → Int → e_M → (e_M → Prop) → Prop} {c_X12_placeOf : Int → Int → e_M → (Int → Prop) → Prop} {c_X12_offOf : Int → Int → e_M → (e_M → Prop) → Prop} {c_X12_inOf : Int → Int → Int → e_M → (e_M → Prop) → Prop} {k137 : Int → Int → Int → Int → Int → e_M → Prop} {x2 : Int} {x3 : Int} {x4 : Int} {x5 : Int} {x6 : Int} {M : e_M} (C : f_Hy sh t yX12_split rm cs 11 (lX12_split c_X12_areAble c_X12_isBarred c_X12_cuts c_X12_full c_X12_tooLong c_X12_newLot c_X12_id c_X12_isThere c_X12_placeOn c_X12_offOn c_X12_hasPoint c_X12_inOn c_X12_placeOf c_X12_offOf c_X12_inOf) R) (h137 : ∀ (x2 : Int) (x3 : Int) (x4 : Int) (x5 : Int) (x6 : Int) (M : e_M), k137 x2 x3 x4 x5 x6 M → f_E sh t YX12_split rm cs (f_Q sh t R) 137 [.inr (.inr (.inl (12, 123, 4456))), .inr (.inr (.inr ())), .inl x2, .inl x3, .inl x4, .inl x5, .inl x6, .inr (.inr (.inr ())), .inr (.inr (.inr ()))] [] M) (h : VX12_split_321 c_X12_areAble c_X12_isBarred c_X12_cuts c_X12_full c_X12_tooLong c_X12_newLot c_X12_id c_X12_isThere c_X12_placeOn c_X12_offOn c_X12_hasPoint c_X12_inOn c_X12_placeOf c_X12_offOf c_X12_inOf k137 (fun r M => R (some (.inl r)) M) x2 x3 x4 x5 x6 M) : f_E sh t YX12_split rm cs (f_Q sh t R) 321 [.inr (.inr (.inl (12, 123, 4456))), .inr (.inr (.inr ())), .inl x2, .inl x3, .inl x4, .inl x5, .inl x6, .inr (.inr (.inr ())), .inr (.inr (.inr ()))] [] M :=
  f_go (KC := f_kc [(137, f_pl [(4466, 12, 123), (0, 0, 0), (1, 0, 0), (1, 0, 0), (1, 0, 0), (1, 0, 0), (1, 0, 0), (0, 0, 0), (0, 0, 0)] [] (fun ls st M => k137 (f_vi (f_nth ls 2)) (f_vi (f_nth ls 3)) (f_vi (f_nth ls 4)) (f_vi (f_nth ls 5)) (f_vi (f_nth ls 6)) M))]) C qX12_splitf (f_kc_cons (f_pl_ok rfl (fun ls st M h => h137 _ _ _ _ _ M h)) f_kc_nil) 189 181 h
set_option maxRecDepth 20000 in
theorem BX12_split {sh : Nat → Nat × Nat} {t : Nat} {rm : Nat × Nat × Nat} {cs : Nat × Nat} {R : f_Rt} {c_X12_areAble : Int → e_M → (Int → Prop) → Prop} {c_X12_isBarred : Int → Int → e_M → (Int → Prop) → Prop} {c_X12_cuts : Int → Int → Int → e_M → (Int → e_M → Prop) → Prop} {c_X12_full : Int → Int → e_M → (Int → Prop) → Prop} {c_X12_tooLong : Int → e_M → (Int → Prop) → Prop} {c_X12_newLot : Int → Int → Int → Int → e_M → (Int → e_M → Prop) → Prop} {c_X12_id : Int → Int → e_M → (Int → Prop) → Prop} {c_X12_isThere : Int → Int → Int → e_M → (Int → Prop) → Prop} {c_X12_placeOn : Int → Int → e_M → (Int → Prop) → Prop} {c_X12_offOn : Int → Int → e_M → (e_M → Prop) → Prop} {c_X12_hasPoint : Int → Int → Int → e_M → (Int → Prop) → Prop} {c_X12_inOn : Int → Int → Int → e_M → (e_M → Prop) → Prop} {c_X12_placeOf : Int → Int → e_M → (Int → Prop) → Prop} {c_X12_offOf : Int → Int → e_M → (e_M → Prop) → Prop} {c_X12_inOf : Int → Int → Int → e_M → (e_M → Prop) → Prop} {k127 : Int → Int → Int → Int → e_M → Prop} {x1 : Int} {M : e_M} (C : f_Hy sh t yX12_split rm cs 11 (lX12_split c_X12_areAble c_X12_isBarred c_X12_cuts c_X12_full c_X12_tooLong c_X12_newLot c_X12_id c_X12_isThere c_X12_placeOn c_X12_offOn c_X12_hasPoint c_X12_inOn c_X12_placeOf c_X12_offOf c_X12_inOf) R) (h127 : ∀ (x2 : Int) (x3 : Int) (x4 : Int) (x5 : Int) (M : e_M), k127 x2 x3 x4 x5 M → f_E sh t YX12_split rm cs (f_Q sh t R) 127 [.inr (.inr (.inl (12, 123, 4456))), .inr (.inr (.inr ())), .inl x2, .inl x3, .inl x4, .inl x5, .inr (.inr (.inr ())), .inr (.inr (.inr ())), .inr (.inr (.inr ()))] [] M) (h : VX12_split c_X12_areAble c_X12_isBarred c_X12_cuts c_X12_full c_X12_tooLong c_X12_newLot c_X12_id c_X12_isThere c_X12_placeOn c_X12_offOn c_X12_hasPoint c_X12_inOn c_X12_placeOf c_X12_offOf c_X12_inOf k127 (fun r M => R (some (.inl r)) M) x1 M) : f_E sh t YX12_split rm cs (f_Q sh t R) 0 [.inr (.inr (.inl (12, 123, 4456))), .inl x1, .inr (.inr (.inr ())), .inr (.inr (.inr ())), .inr (.inr (.inr ())), .inr (.inr (.inr ())), .inr (.inr (.inr ())), .inr (.inr (.inr ())), .inr (.inr (.inr ()))] [] M :=
  f_go (KC := f_kc [(127, f_pl [(4466, 12, 123), (0, 0, 0), (1, 0, 0), (1, 0, 0), (1, 0, 0), (1, 0, 0), (0, 0, 0), (0, 0, 0), (0, 0, 0)] [] (fun ls st M => k127 (f_vi (f_nth ls 2)) (f_vi (f_nth ls 3)) (f_vi (f_nth ls 4)) (f_vi (f_nth ls 5)) M))]) C qX12_splitf (f_kc_cons (f_pl_ok rfl (fun ls st M h => h127 _ _ _ _ M h)) f_kc_nil) 189 0 h
def WX12_split_321 (H127 : Int → Int → Int → Int → e_M → Prop) (H137 : Int → Int → Int → Int → Int → e_M → Prop) (Q : Int → e_M → Prop) (x2 : Int) (x3 : Int) (x4 : Int) (x5 : Int) (x6 : Int) (M : e_M) : Prop :=
  VX12_split_321 WX12_areAble WX12_isBarred WX12_cuts WX12_full WX12_tooLong WX12_newLot WX12_id WX12_isThere WX12_placeOn WX12_offOn WX12_hasPoint WX12_inOn WX12_placeOf WX12_offOf WX12_inOf H137 Q x2 x3 x4 x5 x6 M
def WX12_split_284 (H127 : Int → Int → Int → Int → e_M → Prop) (H137 : Int → Int → Int → Int → Int → e_M → Prop) (Q : Int → e_M → Prop) (x2 : Int) (x3 : Int) (x4 : Int) (x5 : Int) (x6 : Int) (x7 : Int) (xs0 : Int) (M : e_M) : Prop :=
  VX12_split_284 WX12_areAble WX12_isBarred WX12_cuts WX12_full WX12_tooLong WX12_newLot WX12_id WX12_isThere WX12_placeOn WX12_offOn WX12_hasPoint WX12_inOn WX12_placeOf WX12_offOf WX12_inOf (WX12_split_321 H127 H137 Q) Q x2 x3 x4 x5 x6 x7 xs0 M
def WX12_split_267 (H127 : Int → Int → Int → Int → e_M → Prop) (H137 : Int → Int → Int → Int → Int → e_M → Prop) (Q : Int → e_M → Prop) (x2 : Int) (x3 : Int) (x4 : Int) (x5 : Int) (x6 : Int) (x7 : Int) (M : e_M) : Prop :=
  VX12_split_267 WX12_areAble WX12_isBarred WX12_cuts WX12_full WX12_tooLong WX12_newLot WX12_id WX12_isThere WX12_placeOn WX12_offOn WX12_hasPoint WX12_inOn WX12_placeOf WX12_offOf WX12_inOf (WX12_split_284 H127 H137 Q) Q x2 x3 x4 x5 x6 x7 M
def WX12_split_258 (H127 : Int → Int → Int → Int → e_M → Prop) (H137 : Int → Int → Int → Int → Int → e_M → Prop) (Q : Int → e_M → Prop) (x2 : Int) (x3 : Int) (x4 : Int) (x5 : Int) (x6 : Int) (x7 : Int) (x8 : Int) (M : e_M) : Prop :=
  VX12_split_258 WX12_areAble WX12_isBarred WX12_cuts WX12_full WX12_tooLong WX12_newLot WX12_id WX12_isThere WX12_placeOn WX12_offOn WX12_hasPoint WX12_inOn WX12_placeOf WX12_offOf WX12_inOf (WX12_split_267 H127 H137 Q) Q x2 x3 x4 x5 x6 x7 x8 M
def WX12_split_236 (H127 : Int → Int → Int → Int → e_M → Prop) (H137 : Int → Int → Int → Int → Int → e_M → Prop) (Q : Int → e_M → Prop) (x2 : Int) (x3 : Int) (x4 : Int) (x5 : Int) (x6 : Int) (x7 : Int) (x8 : Int) (M : e_M) : Prop :=
  VX12_split_236 WX12_areAble WX12_isBarred WX12_cuts WX12_full WX12_tooLong WX12_newLot WX12_id WX12_isThere WX12_placeOn WX12_offOn WX12_hasPoint WX12_inOn WX12_placeOf WX12_offOf WX12_inOf (WX12_split_258 H127 H137 Q) (WX12_split_267 H127 H137 Q) Q x2 x3 x4 x5 x6 x7 x8 M
def WX12_split_226 (H127 : Int → Int → Int → Int → e_M → Prop) (H137 : Int → Int → Int → Int → Int → e_M → Prop) (Q : Int → e_M → Prop) (x2 : Int) (x3 : Int) (x4 : Int) (x5 : Int) (x6 : Int) (x7 : Int) (x8 : Int) (M : e_M) : Prop :=
  VX12_split_226 WX12_areAble WX12_isBarred WX12_cuts WX12_full WX12_tooLong WX12_newLot WX12_id WX12_isThere WX12_placeOn WX12_offOn WX12_hasPoint WX12_inOn WX12_placeOf WX12_offOf WX12_inOf (WX12_split_236 H127 H137 Q) Q x2 x3 x4 x5 x6 x7 x8 M
def WX12_split_137 (H127 : Int → Int → Int → Int → e_M → Prop) (Q : Int → e_M → Prop) : Nat → Int → Int → Int → Int → Int → e_M → Prop
  | 0, _, _, _, _, _, _ => False
  | n + 1, x2, x3, x4, x5, x6, M =>
    VX12_split_137 WX12_areAble WX12_isBarred WX12_cuts WX12_full WX12_tooLong WX12_newLot WX12_id WX12_isThere WX12_placeOn WX12_offOn WX12_hasPoint WX12_inOn WX12_placeOf WX12_offOf WX12_inOf H127 (WX12_split_321 H127 (WX12_split_137 H127 Q n) Q) (WX12_split_267 H127 (WX12_split_137 H127 Q n) Q) (WX12_split_226 H127 (WX12_split_137 H127 Q n) Q) (WX12_split_236 H127 (WX12_split_137 H127 Q n) Q) Q x2 x3 x4 x5 x6 M
def WX12_split_127 (Q : Int → e_M → Prop) : Nat → Int → Int → Int → Int → e_M → Prop
  | 0, _, _, _, _, _ => False
  | n + 1, x2, x3, x4, x5, M =>
    VX12_split_127 WX12_areAble WX12_isBarred WX12_cuts WX12_full WX12_tooLong WX12_newLot WX12_id WX12_isThere WX12_placeOn WX12_offOn WX12_hasPoint WX12_inOn WX12_placeOf WX12_offOf WX12_inOf (fun x2 x3 x4 x5 x6 M => ∃ j, WX12_split_137 (WX12_split_127 Q n) Q j x2 x3 x4 x5 x6 M) Q x2 x3 x4 x5 M
def WX12_split (x1 : Int) (M : e_M) (Q : Int → e_M → Prop) : Prop :=
  VX12_split WX12_areAble WX12_isBarred WX12_cuts WX12_full WX12_tooLong WX12_newLot WX12_id WX12_isThere WX12_placeOn WX12_offOn WX12_hasPoint WX12_inOn WX12_placeOf WX12_offOf WX12_inOf (fun x2 x3 x4 x5 M => ∃ j, WX12_split_127 Q j x2 x3 x4 x5 M) Q x1 M
theorem PX12_split_321 {sh : Nat → Nat × Nat} {t : Nat} {rm : Nat × Nat × Nat} {cs : Nat × Nat} {R : f_Rt} {H127 : Int → Int → Int → Int → e_M → Prop} {H137 : Int → Int → Int → Int → Int → e_M → Prop} {x2 : Int} {x3 : Int} {x4 : Int} {x5 : Int} {x6 : Int} {M : e_M} (C : f_Hy sh t yX12_split rm cs 11 (lX12_split WX12_areAble WX12_isBarred WX12_cuts WX12_full WX12_tooLong WX12_newLot WX12_id WX12_isThere WX12_placeOn WX12_offOn WX12_hasPoint WX12_inOn WX12_placeOf WX12_offOf WX12_inOf) R) (g127 : ∀ (x2 : Int) (x3 : Int) (x4 : Int) (x5 : Int) (M : e_M), H127 x2 x3 x4 x5 M → f_E sh t YX12_split rm cs (f_Q sh t R) 127 [.inr (.inr (.inl (12, 123, 4456))), .inr (.inr (.inr ())), .inl x2, .inl x3, .inl x4, .inl x5, .inr (.inr (.inr ())), .inr (.inr (.inr ())), .inr (.inr (.inr ()))] [] M) (g137 : ∀ (x2 : Int) (x3 : Int) (x4 : Int) (x5 : Int) (x6 : Int) (M : e_M), H137 x2 x3 x4 x5 x6 M → f_E sh t YX12_split rm cs (f_Q sh t R) 137 [.inr (.inr (.inl (12, 123, 4456))), .inr (.inr (.inr ())), .inl x2, .inl x3, .inl x4, .inl x5, .inl x6, .inr (.inr (.inr ())), .inr (.inr (.inr ()))] [] M) (h : WX12_split_321 H127 H137 (fun r M => R (some (.inl r)) M) x2 x3 x4 x5 x6 M) : f_E sh t YX12_split rm cs (f_Q sh t R) 321 [.inr (.inr (.inl (12, 123, 4456))), .inr (.inr (.inr ())), .inl x2, .inl x3, .inl x4, .inl x5, .inl x6, .inr (.inr (.inr ())), .inr (.inr (.inr ()))] [] M :=
  BX12_split_321 C g137 h
theorem PX12_split_284 {sh : Nat → Nat × Nat} {t : Nat} {rm : Nat × Nat × Nat} {cs : Nat × Nat} {R : f_Rt} {H127 : Int → Int → Int → Int → e_M → Prop} {H137 : Int → Int → Int → Int → Int → e_M → Prop} {x2 : Int} {x3 : Int} {x4 : Int} {x5 : Int} {x6 : Int} {x7 : Int} {xs0 : Int} {M : e_M} (C : f_Hy sh t yX12_split rm cs 11 (lX12_split WX12_areAble WX12_isBarred WX12_cuts WX12_full WX12_tooLong WX12_newLot WX12_id WX12_isThere WX12_placeOn WX12_offOn WX12_hasPoint WX12_inOn WX12_placeOf WX12_offOf WX12_inOf) R) (g127 : ∀ (x2 : Int) (x3 : Int) (x4 : Int) (x5 : Int) (M : e_M), H127 x2 x3 x4 x5 M → f_E sh t YX12_split rm cs (f_Q sh t R) 127 [.inr (.inr (.inl (12, 123, 4456))), .inr (.inr (.inr ())), .inl x2, .inl x3, .inl x4, .inl x5, .inr (.inr (.inr ())), .inr (.inr (.inr ())), .inr (.inr (.inr ()))] [] M) (g137 : ∀ (x2 : Int) (x3 : Int) (x4 : Int) (x5 : Int) (x6 : Int) (M : e_M), H137 x2 x3 x4 x5 x6 M → f_E sh t YX12_split rm cs (f_Q sh t R) 137 [.inr (.inr (.inl (12, 123, 4456))), .inr (.inr (.inr ())), .inl x2, .inl x3, .inl x4, .inl x5, .inl x6, .inr (.inr (.inr ())), .inr (.inr (.inr ()))] [] M) (h : WX12_split_284 H127 H137 (fun r M => R (some (.inl r)) M) x2 x3 x4 x5 x6 x7 xs0 M) : f_E sh t YX12_split rm cs (f_Q sh t R) 284 [.inr (.inr (.inl (12, 123, 4456))), .inr (.inr (.inr ())), .inl x2, .inl x3, .inl x4, .inl x5, .inl x6, .inl x7, .inr (.inr (.inr ()))] [.inl xs0] M :=
  BX12_split_284 C (fun x2 x3 x4 x5 x6 M h => PX12_split_321 C g127 g137 h) h
theorem PX12_split_267 {sh : Nat → Nat × Nat} {t : Nat} {rm : Nat × Nat × Nat} {cs : Nat × Nat} {R : f_Rt} {H127 : Int → Int → Int → Int → e_M → Prop} {H137 : Int → Int → Int → Int → Int → e_M → Prop} {x2 : Int} {x3 : Int} {x4 : Int} {x5 : Int} {x6 : Int} {x7 : Int} {M : e_M} (C : f_Hy sh t yX12_split rm cs 11 (lX12_split WX12_areAble WX12_isBarred WX12_cuts WX12_full WX12_tooLong WX12_newLot WX12_id WX12_isThere WX12_placeOn WX12_offOn WX12_hasPoint WX12_inOn WX12_placeOf WX12_offOf WX12_inOf) R) (g127 : ∀ (x2 : Int) (x3 : Int) (x4 : Int) (x5 : Int) (M : e_M), H127 x2 x3 x4 x5 M → f_E sh t YX12_split rm cs (f_Q sh t R) 127 [.inr (.inr (.inl (12, 123, 4456))), .inr (.inr (.inr ())), .inl x2, .inl x3, .inl x4, .inl x5, .inr (.inr (.inr ())), .inr (.inr (.inr ())), .inr (.inr (.inr ()))] [] M) (g137 : ∀ (x2 : Int) (x3 : Int) (x4 : Int) (x5 : Int) (x6 : Int) (M : e_M), H137 x2 x3 x4 x5 x6 M → f_E sh t YX12_split rm cs (f_Q sh t R) 137 [.inr (.inr (.inl (12, 123, 4456))), .inr (.inr (.inr ())), .inl x2, .inl x3, .inl x4, .inl x5, .inl x6, .inr (.inr (.inr ())), .inr (.inr (.inr ()))] [] M) (h : WX12_split_267 H127 H137 (fun r M => R (some (.inl r)) M) x2 x3 x4 x5 x6 x7 M) : f_E sh t YX12_split rm cs (f_Q sh t R) 267 [.inr (.inr (.inl (12, 123, 4456))), .inr (.inr (.inr ())), .inl x2, .inl x3, .inl x4, .inl x5, .inl x6, .inl x7, .inr (.inr (.inr ()))] [] M :=
  BX12_split_267 C (fun x2 x3 x4 x5 x6 x7 xs0 M h => PX12_split_284 C g127 g137 h) h
theorem PX12_split_258 {sh : Nat → Nat × Nat} {t : Nat} {rm : Nat × Nat × Nat} {cs : Nat × Nat} {R : f_Rt} {H127 : Int → Int → Int → Int → e_M → Prop} {H137 : Int → Int → Int → Int → Int → e_M → Prop} {x2 : Int} {x3 : Int} {x4 : Int} {x5 : Int} {x6 : Int} {x7 : Int} {x8 : Int} {M : e_M} (C : f_Hy sh t yX12_split rm cs 11 (lX12_split WX12_areAble WX12_isBarred WX12_cuts WX12_full WX12_tooLong WX12_newLot WX12_id WX12_isThere WX12_placeOn WX12_offOn WX12_hasPoint WX12_inOn WX12_placeOf WX12_offOf WX12_inOf) R) (g127 : ∀ (x2 : Int) (x3 : Int) (x4 : Int) (x5 : Int) (M : e_M), H127 x2 x3 x4 x5 M → f_E sh t YX12_split rm cs (f_Q sh t R) 127 [.inr (.inr (.inl (12, 123, 4456))), .inr (.inr (.inr ())), .inl x2, .inl x3, .inl x4, .inl x5, .inr (.inr (.inr ())), .inr (.inr (.inr ())), .inr (.inr (.inr ()))] [] M) (g137 : ∀ (x2 : Int) (x3 : Int) (x4 : Int) (x5 : Int) (x6 : Int) (M : e_M), H137 x2 x3 x4 x5 x6 M → f_E sh t YX12_split rm cs (f_Q sh t R) 137 [.inr (.inr (.inl (12, 123, 4456))), .inr (.inr (.inr ())), .inl x2, .inl x3, .inl x4, .inl x5, .inl x6, .inr (.inr (.inr ())), .inr (.inr (.inr ()))] [] M) (h : WX12_split_258 H127 H137 (fun r M => R (some (.inl r)) M) x2 x3 x4 x5 x6 x7 x8 M) : f_E sh t YX12_split rm cs (f_Q sh t R) 258 [.inr (.inr (.inl (12, 123, 4456))), .inr (.inr (.inr ())), .inl x2, .inl x3, .inl x4, .inl x5, .inl x6, .inl x7, .inl x8] [] M :=
  BX12_split_258 C (fun x2 x3 x4 x5 x6 x7 M h => PX12_split_267 C g127 g137 h) h
theorem PX12_split_236 {sh : Nat → Nat × Nat} {t : Nat} {rm : Nat × Nat × Nat} {cs : Nat × Nat} {R : f_Rt} {H127 : Int → Int → Int → Int → e_M → Prop} {H137 : Int → Int → Int → Int → Int → e_M → Prop} {x2 : Int} {x3 : Int} {x4 : Int} {x5 : Int} {x6 : Int} {x7 : Int} {x8 : Int} {M : e_M} (C : f_Hy sh t yX12_split rm cs 11 (lX12_split WX12_areAble WX12_isBarred WX12_cuts WX12_full WX12_tooLong WX12_newLot WX12_id WX12_isThere WX12_placeOn WX12_offOn WX12_hasPoint WX12_inOn WX12_placeOf WX12_offOf WX12_inOf) R) (g127 : ∀ (x2 : Int) (x3 : Int) (x4 : Int) (x5 : Int) (M : e_M), H127 x2 x3 x4 x5 M → f_E sh t YX12_split rm cs (f_Q sh t R) 127 [.inr (.inr (.inl (12, 123, 4456))), .inr (.inr (.inr ())), .inl x2, .inl x3, .inl x4, .inl x5, .inr (.inr (.inr ())), .inr (.inr (.inr ())), .inr (.inr (.inr ()))] [] M) (g137 : ∀ (x2 : Int) (x3 : Int) (x4 : Int) (x5 : Int) (x6 : Int) (M : e_M), H137 x2 x3 x4 x5 x6 M → f_E sh t YX12_split rm cs (f_Q sh t R) 137 [.inr (.inr (.inl (12, 123, 4456))), .inr (.inr (.inr ())), .inl x2, .inl x3, .inl x4, .inl x5, .inl x6, .inr (.inr (.inr ())), .inr (.inr (.inr ()))] [] M) (h : WX12_split_236 H127 H137 (fun r M => R (some (.inl r)) M) x2 x3 x4 x5 x6 x7 x8 M) : f_E sh t YX12_split rm cs (f_Q sh t R) 236 [.inr (.inr (.inl (12, 123, 4456))), .inr (.inr (.inr ())), .inl x2, .inl x3, .inl x4, .inl x5, .inl x6, .inl x7, .inl x8] [] M :=
  BX12_split_236 C (fun x2 x3 x4 x5 x6 x7 x8 M h => PX12_split_258 C g127 g137 h) (fun x2 x3 x4 x5 x6 x7 M h => PX12_split_267 C g127 g137 h) h
theorem PX12_split_226 {sh : Nat → Nat × Nat} {t : Nat} {rm : Nat × Nat × Nat} {cs : Nat × Nat} {R : f_Rt} {H127 : Int → Int → Int → Int → e_M → Prop} {H137 : Int → Int → Int → Int → Int → e_M → Prop} {x2 : Int} {x3 : Int} {x4 : Int} {x5 : Int} {x6 : Int} {x7 : Int} {x8 : Int} {M : e_M} (C : f_Hy sh t yX12_split rm cs 11 (lX12_split WX12_areAble WX12_isBarred WX12_cuts WX12_full WX12_tooLong WX12_newLot WX12_id WX12_isThere WX12_placeOn WX12_offOn WX12_hasPoint WX12_inOn WX12_placeOf WX12_offOf WX12_inOf) R) (g127 : ∀ (x2 : Int) (x3 : Int) (x4 : Int) (x5 : Int) (M : e_M), H127 x2 x3 x4 x5 M → f_E sh t YX12_split rm cs (f_Q sh t R) 127 [.inr (.inr (.inl (12, 123, 4456))), .inr (.inr (.inr ())), .inl x2, .inl x3, .inl x4, .inl x5, .inr (.inr (.inr ())), .inr (.inr (.inr ())), .inr (.inr (.inr ()))] [] M) (g137 : ∀ (x2 : Int) (x3 : Int) (x4 : Int) (x5 : Int) (x6 : Int) (M : e_M), H137 x2 x3 x4 x5 x6 M → f_E sh t YX12_split rm cs (f_Q sh t R) 137 [.inr (.inr (.inl (12, 123, 4456))), .inr (.inr (.inr ())), .inl x2, .inl x3, .inl x4, .inl x5, .inl x6, .inr (.inr (.inr ())), .inr (.inr (.inr ()))] [] M) (h : WX12_split_226 H127 H137 (fun r M => R (some (.inl r)) M) x2 x3 x4 x5 x6 x7 x8 M) : f_E sh t YX12_split rm cs (f_Q sh t R) 226 [.inr (.inr (.inl (12, 123, 4456))), .inr (.inr (.inr ())), .inl x2, .inl x3, .inl x4, .inl x5, .inl x6, .inl x7, .inl x8] [] M :=
  BX12_split_226 C (fun x2 x3 x4 x5 x6 x7 x8 M h => PX12_split_236 C g127 g137 h) h
theorem PX12_split_137 {sh : Nat → Nat × Nat} {t : Nat} {rm : Nat × Nat × Nat} {cs : Nat × Nat} {R : f_Rt} {H127 : Int → Int → Int → Int → e_M → Prop} (C : f_Hy sh t yX12_split rm cs 11 (lX12_split WX12_areAble WX12_isBarred WX12_cuts WX12_full WX12_tooLong WX12_newLot WX12_id WX12_isThere WX12_placeOn WX12_offOn WX12_hasPoint WX12_inOn WX12_placeOf WX12_offOf WX12_inOf) R) (g127 : ∀ (x2 : Int) (x3 : Int) (x4 : Int) (x5 : Int) (M : e_M), H127 x2 x3 x4 x5 M → f_E sh t YX12_split rm cs (f_Q sh t R) 127 [.inr (.inr (.inl (12, 123, 4456))), .inr (.inr (.inr ())), .inl x2, .inl x3, .inl x4, .inl x5, .inr (.inr (.inr ())), .inr (.inr (.inr ())), .inr (.inr (.inr ()))] [] M) : ∀ (n : Nat) (x2 : Int) (x3 : Int) (x4 : Int) (x5 : Int) (x6 : Int) (M : e_M), WX12_split_137 H127 (fun r M => R (some (.inl r)) M) n x2 x3 x4 x5 x6 M → f_E sh t YX12_split rm cs (f_Q sh t R) 137 [.inr (.inr (.inl (12, 123, 4456))), .inr (.inr (.inr ())), .inl x2, .inl x3, .inl x4, .inl x5, .inl x6, .inr (.inr (.inr ())), .inr (.inr (.inr ()))] [] M := by
  intro n
  induction n with
  | zero => intro x2 x3 x4 x5 x6 M h; exact h.elim
  | succ n ih => intro x2 x3 x4 x5 x6 M h; exact BX12_split_137 C g127 (fun x2 x3 x4 x5 x6 M h => PX12_split_321 C g127 ih h) (fun x2 x3 x4 x5 x6 x7 M h => PX12_split_267 C g127 ih h) (fun x2 x3 x4 x5 x6 x7 x8 M h => PX12_split_226 C g127 ih h) (fun x2 x3 x4 x5 x6 x7 x8 M h => PX12_split_236 C g127 ih h) h
theorem PX12_split_127 {sh : Nat → Nat × Nat} {t : Nat} {rm : Nat × Nat × Nat} {cs : Nat × Nat} {R : f_Rt} (C : f_Hy sh t yX12_split rm cs 11 (lX12_split WX12_areAble WX12_isBarred WX12_cuts WX12_full WX12_tooLong WX12_newLot WX12_id WX12_isThere WX12_placeOn WX12_offOn WX12_hasPoint WX12_inOn WX12_placeOf WX12_offOf WX12_inOf) R) : ∀ (n : Nat) (x2 : Int) (x3 : Int) (x4 : Int) (x5 : Int) (M : e_M), WX12_split_127 (fun r M => R (some (.inl r)) M) n x2 x3 x4 x5 M → f_E sh t YX12_split rm cs (f_Q sh t R) 127 [.inr (.inr (.inl (12, 123, 4456))), .inr (.inr (.inr ())), .inl x2, .inl x3, .inl x4, .inl x5, .inr (.inr (.inr ())), .inr (.inr (.inr ())), .inr (.inr (.inr ()))] [] M := by
  intro n
  induction n with
  | zero => intro x2 x3 x4 x5 M h; exact h.elim
  | succ n ih => intro x2 x3 x4 x5 M h; exact BX12_split_127 C (fun x2 x3 x4 x5 x6 M ⟨j, h⟩ => PX12_split_137 C ih j _ _ _ _ _ _ h) h
theorem PX12_split {sh : Nat → Nat × Nat} {t : Nat} {rm : Nat × Nat × Nat} {cs : Nat × Nat} {R : f_Rt} {x1 : Int} {M : e_M} (C : f_Hy sh t yX12_split rm cs 11 (lX12_split WX12_areAble WX12_isBarred WX12_cuts WX12_full WX12_tooLong WX12_newLot WX12_id WX12_isThere WX12_placeOn WX12_offOn WX12_hasPoint WX12_inOn WX12_placeOf WX12_offOf WX12_inOf) R) (h : WX12_split x1 M (fun r M => R (some (.inl r)) M)) : f_E sh t YX12_split rm cs (f_Q sh t R) 0 [.inr (.inr (.inl (12, 123, 4456))), .inl x1, .inr (.inr (.inr ())), .inr (.inr (.inr ())), .inr (.inr (.inr ())), .inr (.inr (.inr ())), .inr (.inr (.inr ())), .inr (.inr (.inr ())), .inr (.inr (.inr ()))] [] M :=
  BX12_split C (fun x2 x3 x4 x5 M ⟨j, h⟩ => PX12_split_127 C j _ _ _ _ _ h) h
def wX12_split : f_Wt := f_wm [(4466, 12, 123), (1, 0, 0)] (fun ar M R => WX12_split (f_vi (f_nth ar 1)) M (fun r M => R (some (.inl r)) M))
theorem TX12_split {sh : Nat → Nat × Nat} {t : Nat} : f_Mt sh t YX12_split 11 (wX12_split) :=
  f_Mt_of (k := 7) (Nat.le_of_ble_eq_true rfl) rfl rfl (fun ar M R rm cs h1 h2 h3 hX h => PX12_split ⟨Nat.le_of_ble_eq_true rfl, h1, h2, h3, ⟨(f_Mt.up (Nat.le_of_ble_eq_true rfl) TX12_areAble), (f_Mt.up (Nat.le_of_ble_eq_true rfl) TX12_isBarred), (f_Mt.up (Nat.le_of_ble_eq_true rfl) TX12_cuts), (f_Mt.up (Nat.le_of_ble_eq_true rfl) TX12_full), (f_Mt.up (Nat.le_of_ble_eq_true rfl) TX12_tooLong), (f_Mt.up (Nat.le_of_ble_eq_true rfl) TX12_newLot), (f_Mt.up (Nat.le_of_ble_eq_true rfl) TX12_id), (f_Mt.up (Nat.le_of_ble_eq_true rfl) TX12_isThere), (f_Mt.up (Nat.le_of_ble_eq_true rfl) TX12_placeOn), (f_Mt.up (Nat.le_of_ble_eq_true rfl) TX12_offOn), (f_Mt.up (Nat.le_of_ble_eq_true rfl) TX12_hasPoint), (f_Mt.up (Nat.le_of_ble_eq_true rfl) TX12_inOn), (f_Mt.up (Nat.le_of_ble_eq_true rfl) TX12_placeOf), (f_Mt.up (Nat.le_of_ble_eq_true rfl) TX12_offOf), (f_Mt.up (Nat.le_of_ble_eq_true rfl) TX12_inOf), trivial⟩, hX⟩ h)
def VX12_areAlike_19 (k35 : Int → Int → Int → Int → Int → Prop) (Q : Int → Prop) (x1 : Int) (x2 : Int) (x3 : Int) (M : e_M) : Prop :=
  ((0 ≤ x1 ∧ x1 < 80) ∧ (((M 4497 (x1.toNat)) ≤ x3 → (Q 1)) ∧ (x3 < (M 4497 (x1.toNat)) → (k35 x1 x2 x3 0 0))))
def VX12_areAlike_35 (k19 : Int → Int → Int → Prop) (k131 : Int → Int → Int → Int → Prop) (k135 : Int → Int → Int → Int → Prop) (Q : Int → Prop) (x1 : Int) (x2 : Int) (x3 : Int) (x4 : Int) (x5 : Int) (M : e_M) : Prop :=
  ((0 ≤ x2 ∧ x2 < 80) ∧ (((M 4497 (x2.toNat)) ≤ x5 → ((¬ x4 = 0 → (k19 x1 x2 (e_w32 (x3 + 1)))) ∧ (x4 = 0 → (Q 0)))) ∧ (x5 < (M 4497 (x2.toNat)) → ((¬ x4 = 0 → (k131 x1 x2 x3 x5)) ∧ (x4 = 0 → ((0 ≤ (e_w32 ((e_w32 ((8 : Int) * x1)) + x3)) ∧ (e_w32 ((e_w32 ((8 : Int) * x1)) + x3)) < 640) ∧ ((0 ≤ (e_w32 ((e_w32 ((8 : Int) * x2)) + x5)) ∧ (e_w32 ((e_w32 ((8 : Int) * x2)) + x5)) < 640) ∧ ((¬ (M 4498 ((e_w32 ((e_w32 ((8 : Int) * x1)) + x3)).toNat)) = (M 4498 ((e_w32 ((e_w32 ((8 : Int) * x2)) + x5)).toNat)) → (k135 x1 x2 x3 x5)) ∧ ((M 4498 ((e_w32 ((e_w32 ((8 : Int) * x1)) + x3)).toNat)) = (M 4498 ((e_w32 ((e_w32 ((8 : Int) * x2)) + x5)).toNat)) → ((0 ≤ (e_w32 ((e_w32 ((8 : Int) * x1)) + x3)) ∧ (e_w32 ((e_w32 ((8 : Int) * x1)) + x3)) < 640) ∧ ((0 ≤ (e_w32 ((e_w32 ((8 : Int) * x2)) + x5)) ∧ (e_w32 ((e_w32 ((8 : Int) * x2)) + x5)) < 640) ∧ ((¬ (M 4501 ((e_w32 ((e_w32 ((8 : Int) * x1)) + x3)).toNat)) = (M 4501 ((e_w32 ((e_w32 ((8 : Int) * x2)) + x5)).toNat)) → (k135 x1 x2 x3 x5)) ∧ ((M 4501 ((e_w32 ((e_w32 ((8 : Int) * x1)) + x3)).toNat)) = (M 4501 ((e_w32 ((e_w32 ((8 : Int) * x2)) + x5)).toNat)) → ((0 ≤ (e_w32 ((e_w32 ((8 : Int) * x1)) + x3)) ∧ (e_w32 ((e_w32 ((8 : Int) * x1)) + x3)) < 640) ∧ ((0 ≤ (e_w32 ((e_w32 ((8 : Int) * x2)) + x5)) ∧ (e_w32 ((e_w32 ((8 : Int) * x2)) + x5)) < 640) ∧ ((¬ (M 4502 ((e_w32 ((e_w32 ((8 : Int) * x1)) + x3)).toNat)) = (M 4502 ((e_w32 ((e_w32 ((8 : Int) * x2)) + x5)).toNat)) → (k135 x1 x2 x3 x5)) ∧ ((M 4502 ((e_w32 ((e_w32 ((8 : Int) * x1)) + x3)).toNat)) = (M 4502 ((e_w32 ((e_w32 ((8 : Int) * x2)) + x5)).toNat)) → (k131 x1 x2 x3 x5))))))))))))))))))
def VX12_areAlike_131 (k136 : Int → Int → Int → Int → Int → Prop) (Q : Int → Prop) (x1 : Int) (x2 : Int) (x3 : Int) (x5 : Int) (M : e_M) : Prop :=
  (k136 x1 x2 x3 x5 1)
def VX12_areAlike_135 (k136 : Int → Int → Int → Int → Int → Prop) (Q : Int → Prop) (x1 : Int) (x2 : Int) (x3 : Int) (x5 : Int) (M : e_M) : Prop :=
  (k136 x1 x2 x3 x5 0)
def VX12_areAlike_136 (k35 : Int → Int → Int → Int → Int → Prop) (Q : Int → Prop) (x1 : Int) (x2 : Int) (x3 : Int) (x5 : Int) (xs0 : Int) (M : e_M) : Prop :=
  (k35 x1 x2 x3 xs0 (e_w32 (x5 + 1)))
def VX12_areAlike (k19 : Int → Int → Int → Prop) (Q : Int → Prop) (x1 : Int) (x2 : Int) (M : e_M) : Prop :=
  ((0 ≤ x1 ∧ x1 < 80) ∧ ((0 ≤ x2 ∧ x2 < 80) ∧ (((M 4497 (x1.toNat)) = (M 4497 (x2.toNat)) → (k19 x1 x2 0)) ∧ (¬ (M 4497 (x1.toNat)) = (M 4497 (x2.toNat)) → (Q 0)))))
def yX12_areAlike (i : Nat) : e_Y := x_get YX12_areAlike [] i
def pX12_areAlikef : List x_I := [(0, 4, 1, 0, 0, 0, []), (1, 25, 12, 64, 4, 0, [(0, 20, 80), (0, 1, 41)]), (4, 2, 1, 1, 0, 0, []), (5, 27, 0, 0, 0, 0, []), (6, 4, 1, 0, 0, 0, []), (7, 25, 12, 64, 4, 0, [(0, 20, 80), (0, 1, 41)]), (10, 2, 1, 2, 0, 0, []), (11, 27, 0, 0, 0, 0, []), (12, 18, 17, 0, 12, 0, []), (15, 0, 1, 0, 0, 0, []), (16, 48, 0, 0, 0, 0, []), (17, 0, 1, 0, 0, 0, []), (18, 5, 1, 3, 0, 0, []), (19, 49, 0, 0, 0, 0, []), (19, 2, 1, 3, 0, 0, []), (20, 4, 1, 0, 0, 0, []), (21, 25, 12, 64, 4, 0, [(0, 20, 80), (0, 1, 41)]), (24, 2, 1, 1, 0, 0, []), (25, 27, 0, 0, 0, 0, []), (26, 18, 157, 3, 100, 0, []), (29, 0, 1, 0, 0, 0, []), (30, 5, 2, 4, 0, 0, []), (32, 0, 1, 0, 0, 0, []), (33, 5, 2, 5, 0, 0, []), (35, 49, 0, 0, 0, 0, []), (35, 2, 2, 5, 0, 0, []), (37, 4, 1, 0, 0, 0, []), (38, 25, 12, 64, 4, 0, [(0, 20, 80), (0, 1, 41)]), (41, 2, 1, 2, 0, 0, []), (42, 27, 0, 0, 0, 0, []), (43, 18, 144, 3, 94, 0, []), (46, 2, 2, 4, 0, 0, []), (48, 17, 131, 1, 85, 0, []), (51, 4, 1, 0, 0, 0, []), (52, 25, 12, 65, 4, 0, [(0, 20, 640), (0, 1, 42)]), (55, 0, 2, 0, 0, 8, []), (57, 2, 1, 1, 0, 0, []), (58, 9, 0, 2, 0, 0, []), (59, 2, 1, 3, 0, 0, []), (60, 9, 0, 0, 0, 0, []), (61, 27, 0, 0, 0, 0, []), (62, 4, 1, 0, 0, 0, []), (63, 25, 12, 65, 4, 0, [(0, 20, 640), (0, 1, 42)]), (66, 0, 2, 0, 0, 8, []), (68, 2, 1, 2, 0, 0, []), (69, 9, 0, 2, 0, 0, []), (70, 2, 2, 5, 0, 0, []), (72, 9, 0, 0, 0, 0, []), (73, 27, 0, 0, 0, 0, []), (74, 18, 135, 1, 88, 0, []), (77, 4, 1, 0, 0, 0, []), (78, 25, 12, 68, 4, 0, [(0, 23, 640), (0, 1, 45)]), (81, 0, 2, 0, 0, 8, []), (83, 2, 1, 1, 0, 0, []), (84, 9, 0, 2, 0, 0, []), (85, 2, 1, 3, 0, 0, []), (86, 9, 0, 0, 0, 0, []), (87, 27, 0, 1, 0, 0, []), (88, 4, 1, 0, 0, 0, []), (89, 25, 12, 68, 4, 0, [(0, 23, 640), (0, 1, 45)]), (92, 0, 2, 0, 0, 8, []), (94, 2, 1, 2, 0, 0, []), (95, 9, 0, 2, 0, 0, []), (96, 2, 2, 5, 0, 0, []), (98, 9, 0, 0, 0, 0, []), (99, 27, 0, 1, 0, 0, []), (100, 32, 135, 1, 88, 0, []), (104, 4, 1, 0, 0, 0, []), (105, 25, 12, 69, 4, 0, [(0, 23, 640), (0, 1, 46)]), (108, 0, 2, 0, 0, 8, []), (110, 2, 1, 1, 0, 0, []), (111, 9, 0, 2, 0, 0, []), (112, 2, 1, 3, 0, 0, []), (113, 9, 0, 0, 0, 0, []), (114, 27, 0, 1, 0, 0, []), (115, 4, 1, 0, 0, 0, []), (116, 25, 12, 69, 4, 0, [(0, 23, 640), (0, 1, 46)]), (119, 0, 2, 0, 0, 8, []), (121, 2, 1, 2, 0, 0, []), (122, 9, 0, 2, 0, 0, []), (123, 2, 2, 5, 0, 0, []), (125, 9, 0, 0, 0, 0, []), (126, 27, 0, 1, 0, 0, []), (127, 32, 135, 1, 88, 0, []), (131, 49, 0, 0, 0, 0, []), (131, 0, 1, 0, 0, 1, []), (132, 19, 136, 0, 90, 0, []), (135, 49, 0, 0, 0, 0, []), (135, 0, 1, 0, 0, 0, []), (136, 49, 0, 0, 0, 0, []), (136, 5, 2, 4, 0, 0, []), (138, 8, 0, 5, 0, 1, []), (141, 19, 35, 0, 25, 0, []), (144, 2, 2, 4, 0, 0, []), (146, 17, 151, 1, 98, 0, []), (149, 0, 1, 0, 0, 0, []), (150, 48, 0, 0, 0, 0, []), (151, 8, 0, 3, 0, 1, []), (154, 19, 19, 0, 14, 0, []), (157, 0, 1, 0, 0, 1, []), (158, 48, 0, 0, 0, 0, [])]
set_option maxRecDepth 20000 in
theorem qX12_areAlikef : f_all yX12_areAlike YX12_areAlike pX12_areAlikef :=
  ⟨f_aload_n (n := 0) (e_dx DX12_areAlike_0 0 rfl) rfl,
  f_getA (e_dx DX12_areAlike_0 1 rfl) fX12_133 rfl (by decide) (Nat.le_of_ble_eq_true rfl) rfl (by decide),
  f_iload_n (n := 1) (e_dx DX12_areAlike_0 2 rfl) rfl,
  f_iaload (e_dx DX12_areAlike_0 3 rfl),
  f_aload_n (n := 0) (e_dx DX12_areAlike_0 4 rfl) rfl,
  f_getA (e_dx DX12_areAlike_0 5 rfl) fX12_133 rfl (by decide) (Nat.le_of_ble_eq_true rfl) rfl (by decide),
  f_iload_n (n := 2) (e_dx DX12_areAlike_0 6 rfl) rfl,
  f_iaload (e_dx DX12_areAlike_0 7 rfl),
  f_icmp_eq (e_dx DX12_areAlike_0 8 rfl) rfl,
  f_iconst (e_dx DX12_areAlike_0 9 rfl) ⟨by decide, by decide⟩,
  ⟨(e_dx DX12_areAlike_0 10 rfl), rfl⟩,
  f_iconst (e_dx DX12_areAlike_0 11 rfl) ⟨by decide, by decide⟩,
  f_istore_n (n := 3) (e_dx DX12_areAlike_0 12 rfl) rfl (by decide),
  trivial,
  f_iload_n (n := 3) (e_dx DX12_areAlike_0 13 rfl) rfl,
  f_aload_n (n := 0) (e_dx DX12_areAlike_0 14 rfl) rfl,
  f_getA (e_dx DX12_areAlike_0 15 rfl) fX12_133 rfl (by decide) (Nat.le_of_ble_eq_true rfl) rfl (by decide),
  f_iload_n (n := 1) (e_dx DX12_areAlike_0 16 rfl) rfl,
  f_iaload (e_dx DX12_areAlike_0 17 rfl),
  f_icmp_ge (e_dx DX12_areAlike_0 18 rfl) rfl,
  f_iconst (e_dx DX12_areAlike_0 19 rfl) ⟨by decide, by decide⟩,
  f_istore (e_dx DX12_areAlike_0 20 rfl) (by decide),
  f_iconst (e_dx DX12_areAlike_0 21 rfl) ⟨by decide, by decide⟩,
  f_istore (e_dx DX12_areAlike_0 22 rfl) (by decide),
  trivial,
  f_iload (e_dx DX12_areAlike_0 23 rfl),
  f_aload_n (n := 0) (e_dx DX12_areAlike_0 24 rfl) rfl,
  f_getA (e_dx DX12_areAlike_0 25 rfl) fX12_133 rfl (by decide) (Nat.le_of_ble_eq_true rfl) rfl (by decide),
  f_iload_n (n := 2) (e_dx DX12_areAlike_0 26 rfl) rfl,
  f_iaload (e_dx DX12_areAlike_0 27 rfl),
  f_icmp_ge (e_dx DX12_areAlike_0 28 rfl) rfl,
  f_iload (e_dx DX12_areAlike_0 29 rfl),
  f_if_ne (e_dx DX12_areAlike_0 30 rfl) rfl,
  f_aload_n (n := 0) (e_dx DX12_areAlike_0 31 rfl) rfl,
  f_getA (e_dx DX12_areAlike_0 32 rfl) fX12_136 rfl (by decide) (Nat.le_of_ble_eq_true rfl) rfl (by decide),
  f_bipush (e_dx DX12_areAlike_0 33 rfl) ⟨by decide, by decide⟩,
  f_iload_n (n := 1) (e_dx DX12_areAlike_0 34 rfl) rfl,
  f_imul (e_dx DX12_areAlike_0 35 rfl),
  f_iload_n (n := 3) (e_dx DX12_areAlike_0 36 rfl) rfl,
  f_iadd (e_dx DX12_areAlike_0 37 rfl),
  f_iaload (e_dx DX12_areAlike_0 38 rfl),
  f_aload_n (n := 0) (e_dx DX12_areAlike_0 39 rfl) rfl,
  f_getA (e_dx DX12_areAlike_1 0 rfl) fX12_136 rfl (by decide) (Nat.le_of_ble_eq_true rfl) rfl (by decide),
  f_bipush (e_dx DX12_areAlike_1 1 rfl) ⟨by decide, by decide⟩,
  f_iload_n (n := 2) (e_dx DX12_areAlike_1 2 rfl) rfl,
  f_imul (e_dx DX12_areAlike_1 3 rfl),
  f_iload (e_dx DX12_areAlike_1 4 rfl),
  f_iadd (e_dx DX12_areAlike_1 5 rfl),
  f_iaload (e_dx DX12_areAlike_1 6 rfl),
  f_icmp_ne (e_dx DX12_areAlike_1 7 rfl) rfl,
  f_aload_n (n := 0) (e_dx DX12_areAlike_1 8 rfl) rfl,
  f_getA (e_dx DX12_areAlike_1 9 rfl) fX12_145 rfl (by decide) (Nat.le_of_ble_eq_true rfl) rfl (by decide),
  f_bipush (e_dx DX12_areAlike_1 10 rfl) ⟨by decide, by decide⟩,
  f_iload_n (n := 1) (e_dx DX12_areAlike_1 11 rfl) rfl,
  f_imul (e_dx DX12_areAlike_1 12 rfl),
  f_iload_n (n := 3) (e_dx DX12_areAlike_1 13 rfl) rfl,
  f_iadd (e_dx DX12_areAlike_1 14 rfl),
  f_laload (e_dx DX12_areAlike_1 15 rfl),
  f_aload_n (n := 0) (e_dx DX12_areAlike_1 16 rfl) rfl,
  f_getA (e_dx DX12_areAlike_1 17 rfl) fX12_145 rfl (by decide) (Nat.le_of_ble_eq_true rfl) rfl (by decide),
  f_bipush (e_dx DX12_areAlike_1 18 rfl) ⟨by decide, by decide⟩,
  f_iload_n (n := 2) (e_dx DX12_areAlike_1 19 rfl) rfl,
  f_imul (e_dx DX12_areAlike_1 20 rfl),
  f_iload (e_dx DX12_areAlike_1 21 rfl),
  f_iadd (e_dx DX12_areAlike_1 22 rfl),
  f_laload (e_dx DX12_areAlike_1 23 rfl),
  f_lif_ne (e_dx DX12_areAlike_1 24 rfl) (e_dx DX12_areAlike_1 25 rfl) rfl,
  f_aload_n (n := 0) (e_dx DX12_areAlike_1 26 rfl) rfl,
  f_getA (e_dx DX12_areAlike_1 27 rfl) fX12_148 rfl (by decide) (Nat.le_of_ble_eq_true rfl) rfl (by decide),
  f_bipush (e_dx DX12_areAlike_1 28 rfl) ⟨by decide, by decide⟩,
  f_iload_n (n := 1) (e_dx DX12_areAlike_1 29 rfl) rfl,
  f_imul (e_dx DX12_areAlike_1 30 rfl),
  f_iload_n (n := 3) (e_dx DX12_areAlike_1 31 rfl) rfl,
  f_iadd (e_dx DX12_areAlike_1 32 rfl),
  f_laload (e_dx DX12_areAlike_1 33 rfl),
  f_aload_n (n := 0) (e_dx DX12_areAlike_1 34 rfl) rfl,
  f_getA (e_dx DX12_areAlike_1 35 rfl) fX12_148 rfl (by decide) (Nat.le_of_ble_eq_true rfl) rfl (by decide),
  f_bipush (e_dx DX12_areAlike_1 36 rfl) ⟨by decide, by decide⟩,
  f_iload_n (n := 2) (e_dx DX12_areAlike_1 37 rfl) rfl,
  f_imul (e_dx DX12_areAlike_1 38 rfl),
  f_iload (e_dx DX12_areAlike_1 39 rfl),
  f_iadd (e_dx DX12_areAlike_2 0 rfl),
  f_laload (e_dx DX12_areAlike_2 1 rfl),
  f_lif_ne (e_dx DX12_areAlike_2 2 rfl) (e_dx DX12_areAlike_2 3 rfl) rfl,
  trivial,
  f_iconst (e_dx DX12_areAlike_2 4 rfl) ⟨by decide, by decide⟩,
  f_g19 (e_dx DX12_areAlike_2 5 rfl) rfl,
  trivial,
  f_iconst (e_dx DX12_areAlike_2 6 rfl) ⟨by decide, by decide⟩,
  trivial,
  f_istore (e_dx DX12_areAlike_2 7 rfl) (by decide),
  f_g8 (e_dx DX12_areAlike_2 8 rfl) ⟨by decide, by decide⟩,
  f_g19 (e_dx DX12_areAlike_2 9 rfl) rfl,
  f_iload (e_dx DX12_areAlike_2 10 rfl),
  f_if_ne (e_dx DX12_areAlike_2 11 rfl) rfl,
  f_iconst (e_dx DX12_areAlike_2 12 rfl) ⟨by decide, by decide⟩,
  ⟨(e_dx DX12_areAlike_2 13 rfl), rfl⟩,
  f_g8 (e_dx DX12_areAlike_2 14 rfl) ⟨by decide, by decide⟩,
  f_g19 (e_dx DX12_areAlike_2 15 rfl) rfl,
  f_iconst (e_dx DX12_areAlike_2 16 rfl) ⟨by decide, by decide⟩,
  ⟨(e_dx DX12_areAlike_2 17 rfl), rfl⟩, trivial⟩
def lX12_areAlike : List (Nat × f_Wt) := []
set_option maxRecDepth 20000 in
theorem BX12_areAlike_19 {sh : Nat → Nat × Nat} {t : Nat} {rm : Nat × Nat × Nat} {cs : Nat × Nat} {R : f_Rt} {k35 : Int → Int → Int → Int → Int → Prop} {x1 : Int} {x2 : Int} {x3 : Int} {M : e_M} (C : f_Hy sh t yX12_areAlike rm cs 4 (lX12_areAlike) R) (h35 : ∀ (x1 : Int) (x2 : Int) (x3 : Int) (x4 : Int) (x5 : Int), k35 x1 x2 x3 x4 x5 → f_E sh t YX12_areAlike rm cs (f_Q sh t R) 35 [.inr (.inr (.inl (12, 123, 4456))), .inl x1, .inl x2, .inl x3, .inl x4, .inl x5] [] M) (h : VX12_areAlike_19 k35 (fun r => R (some (.inl r)) M) x1 x2 x3 M) : f_E sh t YX12_areAlike rm cs (f_Q sh t R) 19 [.inr (.inr (.inl (12, 123, 4456))), .inl x1, .inl x2, .inl x3, .inr (.inr (.inr ())), .inr (.inr (.inr ()))] [] M := by
  rw [f_kk5 M k35] at h
  exact f_go (KC := f_kc [(35, f_pl [(4466, 12, 123), (1, 0, 0), (1, 0, 0), (1, 0, 0), (1, 0, 0), (1, 0, 0)] [] (fun ls st M2 => M2 = M ∧ (k35 (f_vi (f_nth ls 1)) (f_vi (f_nth ls 2)) (f_vi (f_nth ls 3)) (f_vi (f_nth ls 4)) (f_vi (f_nth ls 5)))))]) C qX12_areAlikef (f_kc_cons (f_pl_ok rfl (fun ls st M2 ⟨e, hh⟩ => by subst e; exact h35 _ _ _ _ _ hh)) f_kc_nil) 103 14 h
set_option maxRecDepth 20000 in
theorem BX12_areAlike_35 {sh : Nat → Nat × Nat} {t : Nat} {rm : Nat × Nat × Nat} {cs : Nat × Nat} {R : f_Rt} {k19 : Int → Int → Int → Prop} {k131 : Int → Int → Int → Int → Prop} {k135 : Int → Int → Int → Int → Prop} {x1 : Int} {x2 : Int} {x3 : Int} {x4 : Int} {x5 : Int} {M : e_M} (C : f_Hy sh t yX12_areAlike rm cs 4 (lX12_areAlike) R) (h19 : ∀ (x1 : Int) (x2 : Int) (x3 : Int), k19 x1 x2 x3 → f_E sh t YX12_areAlike rm cs (f_Q sh t R) 19 [.inr (.inr (.inl (12, 123, 4456))), .inl x1, .inl x2, .inl x3, .inr (.inr (.inr ())), .inr (.inr (.inr ()))] [] M) (h131 : ∀ (x1 : Int) (x2 : Int) (x3 : Int) (x5 : Int), k131 x1 x2 x3 x5 → f_E sh t YX12_areAlike rm cs (f_Q sh t R) 131 [.inr (.inr (.inl (12, 123, 4456))), .inl x1, .inl x2, .inl x3, .inr (.inr (.inr ())), .inl x5] [] M) (h135 : ∀ (x1 : Int) (x2 : Int) (x3 : Int) (x5 : Int), k135 x1 x2 x3 x5 → f_E sh t YX12_areAlike rm cs (f_Q sh t R) 135 [.inr (.inr (.inl (12, 123, 4456))), .inl x1, .inl x2, .inl x3, .inr (.inr (.inr ())), .inl x5] [] M) (h : VX12_areAlike_35 k19 k131 k135 (fun r => R (some (.inl r)) M) x1 x2 x3 x4 x5 M) : f_E sh t YX12_areAlike rm cs (f_Q sh t R) 35 [.inr (.inr (.inl (12, 123, 4456))), .inl x1, .inl x2, .inl x3, .inl x4, .inl x5] [] M := by
  rw [f_kk3 M k19] at h
  rw [f_kk4 M k131] at h
  rw [f_kk4 M k135] at h
  exact f_go (KC := f_kc [(19, f_pl [(4466, 12, 123), (1, 0, 0), (1, 0, 0), (1, 0, 0), (0, 0, 0), (0, 0, 0)] [] (fun ls st M2 => M2 = M ∧ (k19 (f_vi (f_nth ls 1)) (f_vi (f_nth ls 2)) (f_vi (f_nth ls 3))))), (131, f_pl [(4466, 12, 123), (1, 0, 0), (1, 0, 0), (1, 0, 0), (0, 0, 0), (1, 0, 0)] [] (fun ls st M2 => M2 = M ∧ (k131 (f_vi (f_nth ls 1)) (f_vi (f_nth ls 2)) (f_vi (f_nth ls 3)) (f_vi (f_nth ls 5))))), (135, f_pl [(4466, 12, 123), (1, 0, 0), (1, 0, 0), (1, 0, 0), (0, 0, 0), (1, 0, 0)] [] (fun ls st M2 => M2 = M ∧ (k135 (f_vi (f_nth ls 1)) (f_vi (f_nth ls 2)) (f_vi (f_nth ls 3)) (f_vi (f_nth ls 5)))))]) C qX12_areAlikef (f_kc_cons (f_pl_ok rfl (fun ls st M2 ⟨e, hh⟩ => by subst e; exact h19 _ _ _ hh)) (f_kc_cons (f_pl_ok rfl (fun ls st M2 ⟨e, hh⟩ => by subst e; exact h131 _ _ _ _ hh)) (f_kc_cons (f_pl_ok rfl (fun ls st M2 ⟨e, hh⟩ => by subst e; exact h135 _ _ _ _ hh)) f_kc_nil))) 103 25 h
set_option maxRecDepth 20000 in
theorem BX12_areAlike_131 {sh : Nat → Nat × Nat} {t : Nat} {rm : Nat × Nat × Nat} {cs : Nat × Nat} {R : f_Rt} {k136 : Int → Int → Int → Int → Int → Prop} {x1 : Int} {x2 : Int} {x3 : Int} {x5 : Int} {M : e_M} (C : f_Hy sh t yX12_areAlike rm cs 4 (lX12_areAlike) R) (h136 : ∀ (x1 : Int) (x2 : Int) (x3 : Int) (x5 : Int) (xs0 : Int), k136 x1 x2 x3 x5 xs0 → f_E sh t YX12_areAlike rm cs (f_Q sh t R) 136 [.inr (.inr (.inl (12, 123, 4456))), .inl x1, .inl x2, .inl x3, .inr (.inr (.inr ())), .inl x5] [.inl xs0] M) (h : VX12_areAlike_131 k136 (fun r => R (some (.inl r)) M) x1 x2 x3 x5 M) : f_E sh t YX12_areAlike rm cs (f_Q sh t R) 131 [.inr (.inr (.inl (12, 123, 4456))), .inl x1, .inl x2, .inl x3, .inr (.inr (.inr ())), .inl x5] [] M := by
  rw [f_kk5 M k136] at h
  exact f_go (KC := f_kc [(136, f_pl [(4466, 12, 123), (1, 0, 0), (1, 0, 0), (1, 0, 0), (0, 0, 0), (1, 0, 0)] [(1, 0, 0)] (fun ls st M2 => M2 = M ∧ (k136 (f_vi (f_nth ls 1)) (f_vi (f_nth ls 2)) (f_vi (f_nth ls 3)) (f_vi (f_nth ls 5)) (f_vi (f_nth st 0)))))]) C qX12_areAlikef (f_kc_cons (f_pl_ok rfl (fun ls st M2 ⟨e, hh⟩ => by subst e; exact h136 _ _ _ _ _ hh)) f_kc_nil) 103 85 h
set_option maxRecDepth 20000 in
theorem BX12_areAlike_135 {sh : Nat → Nat × Nat} {t : Nat} {rm : Nat × Nat × Nat} {cs : Nat × Nat} {R : f_Rt} {k136 : Int → Int → Int → Int → Int → Prop} {x1 : Int} {x2 : Int} {x3 : Int} {x5 : Int} {M : e_M} (C : f_Hy sh t yX12_areAlike rm cs 4 (lX12_areAlike) R) (h136 : ∀ (x1 : Int) (x2 : Int) (x3 : Int) (x5 : Int) (xs0 : Int), k136 x1 x2 x3 x5 xs0 → f_E sh t YX12_areAlike rm cs (f_Q sh t R) 136 [.inr (.inr (.inl (12, 123, 4456))), .inl x1, .inl x2, .inl x3, .inr (.inr (.inr ())), .inl x5] [.inl xs0] M) (h : VX12_areAlike_135 k136 (fun r => R (some (.inl r)) M) x1 x2 x3 x5 M) : f_E sh t YX12_areAlike rm cs (f_Q sh t R) 135 [.inr (.inr (.inl (12, 123, 4456))), .inl x1, .inl x2, .inl x3, .inr (.inr (.inr ())), .inl x5] [] M := by
  rw [f_kk5 M k136] at h
  exact f_go (KC := f_kc [(136, f_pl [(4466, 12, 123), (1, 0, 0), (1, 0, 0), (1, 0, 0), (0, 0, 0), (1, 0, 0)] [(1, 0, 0)] (fun ls st M2 => M2 = M ∧ (k136 (f_vi (f_nth ls 1)) (f_vi (f_nth ls 2)) (f_vi (f_nth ls 3)) (f_vi (f_nth ls 5)) (f_vi (f_nth st 0)))))]) C qX12_areAlikef (f_kc_cons (f_pl_ok rfl (fun ls st M2 ⟨e, hh⟩ => by subst e; exact h136 _ _ _ _ _ hh)) f_kc_nil) 103 88 h
set_option maxRecDepth 20000 in
theorem BX12_areAlike_136 {sh : Nat → Nat × Nat} {t : Nat} {rm : Nat × Nat × Nat} {cs : Nat × Nat} {R : f_Rt} {k35 : Int → Int → Int → Int → Int → Prop} {x1 : Int} {x2 : Int} {x3 : Int} {x5 : Int} {xs0 : Int} {M : e_M} (C : f_Hy sh t yX12_areAlike rm cs 4 (lX12_areAlike) R) (h35 : ∀ (x1 : Int) (x2 : Int) (x3 : Int) (x4 : Int) (x5 : Int), k35 x1 x2 x3 x4 x5 → f_E sh t YX12_areAlike rm cs (f_Q sh t R) 35 [.inr (.inr (.inl (12, 123, 4456))), .inl x1, .inl x2, .inl x3, .inl x4, .inl x5] [] M) (h : VX12_areAlike_136 k35 (fun r => R (some (.inl r)) M) x1 x2 x3 x5 xs0 M) : f_E sh t YX12_areAlike rm cs (f_Q sh t R) 136 [.inr (.inr (.inl (12, 123, 4456))), .inl x1, .inl x2, .inl x3, .inr (.inr (.inr ())), .inl x5] [.inl xs0] M := by
  rw [f_kk5 M k35] at h
  exact f_go (KC := f_kc [(35, f_pl [(4466, 12, 123), (1, 0, 0), (1, 0, 0), (1, 0, 0), (1, 0, 0), (1, 0, 0)] [] (fun ls st M2 => M2 = M ∧ (k35 (f_vi (f_nth ls 1)) (f_vi (f_nth ls 2)) (f_vi (f_nth ls 3)) (f_vi (f_nth ls 4)) (f_vi (f_nth ls 5)))))]) C qX12_areAlikef (f_kc_cons (f_pl_ok rfl (fun ls st M2 ⟨e, hh⟩ => by subst e; exact h35 _ _ _ _ _ hh)) f_kc_nil) 103 90 h
set_option maxRecDepth 20000 in
theorem BX12_areAlike {sh : Nat → Nat × Nat} {t : Nat} {rm : Nat × Nat × Nat} {cs : Nat × Nat} {R : f_Rt} {k19 : Int → Int → Int → Prop} {x1 : Int} {x2 : Int} {M : e_M} (C : f_Hy sh t yX12_areAlike rm cs 4 (lX12_areAlike) R) (h19 : ∀ (x1 : Int) (x2 : Int) (x3 : Int), k19 x1 x2 x3 → f_E sh t YX12_areAlike rm cs (f_Q sh t R) 19 [.inr (.inr (.inl (12, 123, 4456))), .inl x1, .inl x2, .inl x3, .inr (.inr (.inr ())), .inr (.inr (.inr ()))] [] M) (h : VX12_areAlike k19 (fun r => R (some (.inl r)) M) x1 x2 M) : f_E sh t YX12_areAlike rm cs (f_Q sh t R) 0 [.inr (.inr (.inl (12, 123, 4456))), .inl x1, .inl x2, .inr (.inr (.inr ())), .inr (.inr (.inr ())), .inr (.inr (.inr ()))] [] M := by
  rw [f_kk3 M k19] at h
  exact f_go (KC := f_kc [(19, f_pl [(4466, 12, 123), (1, 0, 0), (1, 0, 0), (1, 0, 0), (0, 0, 0), (0, 0, 0)] [] (fun ls st M2 => M2 = M ∧ (k19 (f_vi (f_nth ls 1)) (f_vi (f_nth ls 2)) (f_vi (f_nth ls 3)))))]) C qX12_areAlikef (f_kc_cons (f_pl_ok rfl (fun ls st M2 ⟨e, hh⟩ => by subst e; exact h19 _ _ _ hh)) f_kc_nil) 103 0 h
def WX12_areAlike_136 (M : e_M) (H19 : Int → Int → Int → Prop) (H35 : Int → Int → Int → Int → Int → Prop) (Q : Int → Prop) (x1 : Int) (x2 : Int) (x3 : Int) (x5 : Int) (xs0 : Int) : Prop :=
  VX12_areAlike_136 H35 Q x1 x2 x3 x5 xs0 M
def WX12_areAlike_131 (M : e_M) (H19 : Int → Int → Int → Prop) (H35 : Int → Int → Int → Int → Int → Prop) (Q : Int → Prop) (x1 : Int) (x2 : Int) (x3 : Int) (x5 : Int) : Prop :=
  VX12_areAlike_131 (WX12_areAlike_136 M H19 H35 Q) Q x1 x2 x3 x5 M
def WX12_areAlike_135 (M : e_M) (H19 : Int → Int → Int → Prop) (H35 : Int → Int → Int → Int → Int → Prop) (Q : Int → Prop) (x1 : Int) (x2 : Int) (x3 : Int) (x5 : Int) : Prop :=
  VX12_areAlike_135 (WX12_areAlike_136 M H19 H35 Q) Q x1 x2 x3 x5 M
def WX12_areAlike_35 (M : e_M) (H19 : Int → Int → Int → Prop) (Q : Int → Prop) : Nat → Int → Int → Int → Int → Int → Prop
  | 0, _, _, _, _, _ => False
  | n + 1, x1, x2, x3, x4, x5 =>
    VX12_areAlike_35 H19 (WX12_areAlike_131 M H19 (WX12_areAlike_35 M H19 Q n) Q) (WX12_areAlike_135 M H19 (WX12_areAlike_35 M H19 Q n) Q) Q x1 x2 x3 x4 x5 M
def WX12_areAlike_19 (M : e_M) (Q : Int → Prop) : Nat → Int → Int → Int → Prop
  | 0, _, _, _ => False
  | n + 1, x1, x2, x3 =>
    VX12_areAlike_19 (fun x1 x2 x3 x4 x5 => ∃ j, WX12_areAlike_35 M (WX12_areAlike_19 M Q n) Q j x1 x2 x3 x4 x5) Q x1 x2 x3 M
def WX12_areAlike (x1 : Int) (x2 : Int) (M : e_M) (Q : Int → Prop) : Prop :=
  VX12_areAlike (fun x1 x2 x3 => ∃ j, WX12_areAlike_19 M Q j x1 x2 x3) Q x1 x2 M
theorem PX12_areAlike_136 {sh : Nat → Nat × Nat} {t : Nat} {rm : Nat × Nat × Nat} {cs : Nat × Nat} {R : f_Rt} {H19 : Int → Int → Int → Prop} {H35 : Int → Int → Int → Int → Int → Prop} {x1 : Int} {x2 : Int} {x3 : Int} {x5 : Int} {xs0 : Int} {M : e_M} (C : f_Hy sh t yX12_areAlike rm cs 4 (lX12_areAlike) R) (g19 : ∀ (x1 : Int) (x2 : Int) (x3 : Int), H19 x1 x2 x3 → f_E sh t YX12_areAlike rm cs (f_Q sh t R) 19 [.inr (.inr (.inl (12, 123, 4456))), .inl x1, .inl x2, .inl x3, .inr (.inr (.inr ())), .inr (.inr (.inr ()))] [] M) (g35 : ∀ (x1 : Int) (x2 : Int) (x3 : Int) (x4 : Int) (x5 : Int), H35 x1 x2 x3 x4 x5 → f_E sh t YX12_areAlike rm cs (f_Q sh t R) 35 [.inr (.inr (.inl (12, 123, 4456))), .inl x1, .inl x2, .inl x3, .inl x4, .inl x5] [] M) (h : WX12_areAlike_136 M H19 H35 (fun r => R (some (.inl r)) M) x1 x2 x3 x5 xs0) : f_E sh t YX12_areAlike rm cs (f_Q sh t R) 136 [.inr (.inr (.inl (12, 123, 4456))), .inl x1, .inl x2, .inl x3, .inr (.inr (.inr ())), .inl x5] [.inl xs0] M :=
  BX12_areAlike_136 C g35 h
theorem PX12_areAlike_131 {sh : Nat → Nat × Nat} {t : Nat} {rm : Nat × Nat × Nat} {cs : Nat × Nat} {R : f_Rt} {H19 : Int → Int → Int → Prop} {H35 : Int → Int → Int → Int → Int → Prop} {x1 : Int} {x2 : Int} {x3 : Int} {x5 : Int} {M : e_M} (C : f_Hy sh t yX12_areAlike rm cs 4 (lX12_areAlike) R) (g19 : ∀ (x1 : Int) (x2 : Int) (x3 : Int), H19 x1 x2 x3 → f_E sh t YX12_areAlike rm cs (f_Q sh t R) 19 [.inr (.inr (.inl (12, 123, 4456))), .inl x1, .inl x2, .inl x3, .inr (.inr (.inr ())), .inr (.inr (.inr ()))] [] M) (g35 : ∀ (x1 : Int) (x2 : Int) (x3 : Int) (x4 : Int) (x5 : Int), H35 x1 x2 x3 x4 x5 → f_E sh t YX12_areAlike rm cs (f_Q sh t R) 35 [.inr (.inr (.inl (12, 123, 4456))), .inl x1, .inl x2, .inl x3, .inl x4, .inl x5] [] M) (h : WX12_areAlike_131 M H19 H35 (fun r => R (some (.inl r)) M) x1 x2 x3 x5) : f_E sh t YX12_areAlike rm cs (f_Q sh t R) 131 [.inr (.inr (.inl (12, 123, 4456))), .inl x1, .inl x2, .inl x3, .inr (.inr (.inr ())), .inl x5] [] M :=
  BX12_areAlike_131 C (fun x1 x2 x3 x5 xs0 h => PX12_areAlike_136 C g19 g35 h) h
theorem PX12_areAlike_135 {sh : Nat → Nat × Nat} {t : Nat} {rm : Nat × Nat × Nat} {cs : Nat × Nat} {R : f_Rt} {H19 : Int → Int → Int → Prop} {H35 : Int → Int → Int → Int → Int → Prop} {x1 : Int} {x2 : Int} {x3 : Int} {x5 : Int} {M : e_M} (C : f_Hy sh t yX12_areAlike rm cs 4 (lX12_areAlike) R) (g19 : ∀ (x1 : Int) (x2 : Int) (x3 : Int), H19 x1 x2 x3 → f_E sh t YX12_areAlike rm cs (f_Q sh t R) 19 [.inr (.inr (.inl (12, 123, 4456))), .inl x1, .inl x2, .inl x3, .inr (.inr (.inr ())), .inr (.inr (.inr ()))] [] M) (g35 : ∀ (x1 : Int) (x2 : Int) (x3 : Int) (x4 : Int) (x5 : Int), H35 x1 x2 x3 x4 x5 → f_E sh t YX12_areAlike rm cs (f_Q sh t R) 35 [.inr (.inr (.inl (12, 123, 4456))), .inl x1, .inl x2, .inl x3, .inl x4, .inl x5] [] M) (h : WX12_areAlike_135 M H19 H35 (fun r => R (some (.inl r)) M) x1 x2 x3 x5) : f_E sh t YX12_areAlike rm cs (f_Q sh t R) 135 [.inr (.inr (.inl (12, 123, 4456))), .inl x1, .inl x2, .inl x3, .inr (.inr (.inr ())), .inl x5] [] M :=
  BX12_areAlike_135 C (fun x1 x2 x3 x5 xs0 h => PX12_areAlike_136 C g19 g35 h) h
theorem PX12_areAlike_35 {sh : Nat → Nat × Nat} {t : Nat} {rm : Nat × Nat × Nat} {cs : Nat × Nat} {R : f_Rt} {H19 : Int → Int → Int → Prop} {M : e_M} (C : f_Hy sh t yX12_areAlike rm cs 4 (lX12_areAlike) R) (g19 : ∀ (x1 : Int) (x2 : Int) (x3 : Int), H19 x1 x2 x3 → f_E sh t YX12_areAlike rm cs (f_Q sh t R) 19 [.inr (.inr (.inl (12, 123, 4456))), .inl x1, .inl x2, .inl x3, .inr (.inr (.inr ())), .inr (.inr (.inr ()))] [] M) : ∀ (n : Nat) (x1 : Int) (x2 : Int) (x3 : Int) (x4 : Int) (x5 : Int), WX12_areAlike_35 M H19 (fun r => R (some (.inl r)) M) n x1 x2 x3 x4 x5 → f_E sh t YX12_areAlike rm cs (f_Q sh t R) 35 [.inr (.inr (.inl (12, 123, 4456))), .inl x1, .inl x2, .inl x3, .inl x4, .inl x5] [] M := by
  intro n
  induction n with
  | zero => intro x1 x2 x3 x4 x5 h; exact h.elim
  | succ n ih => intro x1 x2 x3 x4 x5 h; exact BX12_areAlike_35 C g19 (fun x1 x2 x3 x5 h => PX12_areAlike_131 C g19 ih h) (fun x1 x2 x3 x5 h => PX12_areAlike_135 C g19 ih h) h
theorem PX12_areAlike_19 {sh : Nat → Nat × Nat} {t : Nat} {rm : Nat × Nat × Nat} {cs : Nat × Nat} {R : f_Rt} {M : e_M} (C : f_Hy sh t yX12_areAlike rm cs 4 (lX12_areAlike) R) : ∀ (n : Nat) (x1 : Int) (x2 : Int) (x3 : Int), WX12_areAlike_19 M (fun r => R (some (.inl r)) M) n x1 x2 x3 → f_E sh t YX12_areAlike rm cs (f_Q sh t R) 19 [.inr (.inr (.inl (12, 123, 4456))), .inl x1, .inl x2, .inl x3, .inr (.inr (.inr ())), .inr (.inr (.inr ()))] [] M := by
  intro n
  induction n with
  | zero => intro x1 x2 x3 h; exact h.elim
  | succ n ih => intro x1 x2 x3 h; exact BX12_areAlike_19 C (fun x1 x2 x3 x4 x5 ⟨j, h⟩ => PX12_areAlike_35 C ih j _ _ _ _ _ h) h
theorem PX12_areAlike {sh : Nat → Nat × Nat} {t : Nat} {rm : Nat × Nat × Nat} {cs : Nat × Nat} {R : f_Rt} {x1 : Int} {x2 : Int} {M : e_M} (C : f_Hy sh t yX12_areAlike rm cs 4 (lX12_areAlike) R) (h : WX12_areAlike x1 x2 M (fun r => R (some (.inl r)) M)) : f_E sh t YX12_areAlike rm cs (f_Q sh t R) 0 [.inr (.inr (.inl (12, 123, 4456))), .inl x1, .inl x2, .inr (.inr (.inr ())), .inr (.inr (.inr ())), .inr (.inr (.inr ()))] [] M :=
  BX12_areAlike C (fun x1 x2 x3 ⟨j, h⟩ => PX12_areAlike_19 C j _ _ _ h) h
def wX12_areAlike : f_Wt := f_wm [(4466, 12, 123), (1, 0, 0), (1, 0, 0)] (fun ar M R => WX12_areAlike (f_vi (f_nth ar 1)) (f_vi (f_nth ar 2)) M (fun r => R (some (.inl r)) M))
theorem TX12_areAlike {sh : Nat → Nat × Nat} {t : Nat} : f_Mt sh t YX12_areAlike 4 (wX12_areAlike) :=
  f_Mt_of (k := 3) (Nat.le_of_ble_eq_true rfl) rfl rfl (fun ar M R rm cs h1 h2 h3 hX h => PX12_areAlike ⟨Nat.le_of_ble_eq_true rfl, h1, h2, h3, trivial, hX⟩ h)
def VX12_bearAlike_19 (c_X12_isThere : Int → Int → Int → e_M → (Int → Prop) → Prop) (c_X12_id : Int → Int → e_M → (Int → Prop) → Prop) (c_X12_placeOn : Int → Int → e_M → (Int → Prop) → Prop) (k64 : Int → Int → Int → Prop) (k19 : Int → Int → Int → Prop) (Q : Int → Prop) (x1 : Int) (x2 : Int) (x3 : Int) (M : e_M) : Prop :=
  ((0 ≤ x1 ∧ x1 < 80) ∧ (((M 4499 (x1.toNat)) ≤ x3 → (k64 x1 x2 4)) ∧ (x3 < (M 4499 (x1.toNat)) → ((0 ≤ (e_w32 ((e_w32 ((8 : Int) * x1)) + x3)) ∧ (e_w32 ((e_w32 ((8 : Int) * x1)) + x3)) < 640) ∧ ((0 ≤ (e_w32 ((e_w32 ((8 : Int) * x2)) + x3)) ∧ (e_w32 ((e_w32 ((8 : Int) * x2)) + x3)) < 640) ∧ (((M 4500 ((e_w32 ((e_w32 ((8 : Int) * x1)) + x3)).toNat)) = (M 4500 ((e_w32 ((e_w32 ((8 : Int) * x2)) + x3)).toNat)) → (k19 x1 x2 (e_w32 (x3 + 1)))) ∧ (¬ (M 4500 ((e_w32 ((e_w32 ((8 : Int) * x1)) + x3)).toNat)) = (M 4500 ((e_w32 ((e_w32 ((8 : Int) * x2)) + x3)).toNat)) → (Q 0))))))))
def VX12_bearAlike_64 (c_X12_isThere : Int → Int → Int → e_M → (Int → Prop) → Prop) (c_X12_id : Int → Int → e_M → (Int → Prop) → Prop) (c_X12_placeOn : Int → Int → e_M → (Int → Prop) → Prop) (k81 : Int → Int → Int → Int → Prop) (k155 : Int → Int → Int → Prop) (Q : Int → Prop) (x1 : Int) (x2 : Int) (x3 : Int) (M : e_M) : Prop :=
  ((6 < x3 → (Q 1)) ∧ (x3 ≤ 6 → ((¬ x3 = 5 → (k81 x1 x2 x3 0)) ∧ (x3 = 5 → (k155 x1 x2 x3)))))
def VX12_bearAlike_81 (c_X12_isThere : Int → Int → Int → e_M → (Int → Prop) → Prop) (c_X12_id : Int → Int → e_M → (Int → Prop) → Prop) (c_X12_placeOn : Int → Int → e_M → (Int → Prop) → Prop) (k155 : Int → Int → Int → Prop) (k149 : Int → Int → Int → Int → Prop) (k125 : Int → Int → Int → Int → Int → Prop) (Q : Int → Prop) (x1 : Int) (x2 : Int) (x3 : Int) (x4 : Int) (M : e_M) : Prop :=
  ((0 ≤ x3 ∧ x3 < 7) ∧ (((M 4483 (x3.toNat)) ≤ x4 → (k155 x1 x2 x3)) ∧ (x4 < (M 4483 (x3.toNat)) → (c_X12_isThere x3 x4 (M 4456 86) M (fun r1 => ((r1 = 0 → (k149 x1 x2 x3 x4)) ∧ (¬ r1 = 0 → (c_X12_id x3 x4 M (fun r2 => (c_X12_placeOn r2 x1 M (fun r3 => ((r3 < 0 → (k125 x1 x2 x3 x4 0)) ∧ (0 ≤ r3 → (k125 x1 x2 x3 x4 1))))))))))))))
def VX12_bearAlike_125 (c_X12_isThere : Int → Int → Int → e_M → (Int → Prop) → Prop) (c_X12_id : Int → Int → e_M → (Int → Prop) → Prop) (c_X12_placeOn : Int → Int → e_M → (Int → Prop) → Prop) (k144 : Int → Int → Int → Int → Int → Int → Prop) (Q : Int → Prop) (x1 : Int) (x2 : Int) (x3 : Int) (x4 : Int) (xs0 : Int) (M : e_M) : Prop :=
  (c_X12_id x3 x4 M (fun r1 => (c_X12_placeOn r1 x2 M (fun r2 => ((r2 < 0 → (k144 x1 x2 x3 x4 0 xs0)) ∧ (0 ≤ r2 → (k144 x1 x2 x3 x4 1 xs0)))))))
def VX12_bearAlike_144 (c_X12_isThere : Int → Int → Int → e_M → (Int → Prop) → Prop) (c_X12_id : Int → Int → e_M → (Int → Prop) → Prop) (c_X12_placeOn : Int → Int → e_M → (Int → Prop) → Prop) (k149 : Int → Int → Int → Int → Prop) (Q : Int → Prop) (x1 : Int) (x2 : Int) (x3 : Int) (x4 : Int) (xs1 : Int) (xs0 : Int) (M : e_M) : Prop :=
  ((xs0 = xs1 → (k149 x1 x2 x3 x4)) ∧ (¬ xs0 = xs1 → (Q 0)))
def VX12_bearAlike_149 (c_X12_isThere : Int → Int → Int → e_M → (Int → Prop) → Prop) (c_X12_id : Int → Int → e_M → (Int → Prop) → Prop) (c_X12_placeOn : Int → Int → e_M → (Int → Prop) → Prop) (k81 : Int → Int → Int → Int → Prop) (Q : Int → Prop) (x1 : Int) (x2 : Int) (x3 : Int) (x4 : Int) (M : e_M) : Prop :=
  (k81 x1 x2 x3 (e_w32 (x4 + 1)))
def VX12_bearAlike_155 (c_X12_isThere : Int → Int → Int → e_M → (Int → Prop) → Prop) (c_X12_id : Int → Int → e_M → (Int → Prop) → Prop) (c_X12_placeOn : Int → Int → e_M → (Int → Prop) → Prop) (k64 : Int → Int → Int → Prop) (Q : Int → Prop) (x1 : Int) (x2 : Int) (x3 : Int) (M : e_M) : Prop :=
  (k64 x1 x2 (e_w32 (x3 + 1)))
def VX12_bearAlike (c_X12_isThere : Int → Int → Int → e_M → (Int → Prop) → Prop) (c_X12_id : Int → Int → e_M → (Int → Prop) → Prop) (c_X12_placeOn : Int → Int → e_M → (Int → Prop) → Prop) (k19 : Int → Int → Int → Prop) (Q : Int → Prop) (x1 : Int) (x2 : Int) (M : e_M) : Prop :=
  ((0 ≤ x1 ∧ x1 < 80) ∧ ((0 ≤ x2 ∧ x2 < 80) ∧ (((M 4499 (x1.toNat)) = (M 4499 (x2.toNat)) → (k19 x1 x2 0)) ∧ (¬ (M 4499 (x1.toNat)) = (M 4499 (x2.toNat)) → (Q 0)))))
def yX12_bearAlike (i : Nat) : e_Y := x_get YX12_bearAlike [YX12_isThere, YX12_id, YX12_placeOn] i
def pX12_bearAlikef : List x_I := [(0, 4, 1, 0, 0, 0, []), (1, 25, 12, 66, 4, 0, [(0, 20, 80), (0, 1, 43)]), (4, 2, 1, 1, 0, 0, []), (5, 27, 0, 0, 0, 0, []), (6, 4, 1, 0, 0, 0, []), (7, 25, 12, 66, 4, 0, [(0, 20, 80), (0, 1, 43)]), (10, 2, 1, 2, 0, 0, []), (11, 27, 0, 0, 0, 0, []), (12, 18, 17, 0, 12, 0, []), (15, 0, 1, 0, 0, 0, []), (16, 48, 0, 0, 0, 0, []), (17, 0, 1, 0, 0, 0, []), (18, 5, 1, 3, 0, 0, []), (19, 49, 0, 0, 0, 0, []), (19, 2, 1, 3, 0, 0, []), (20, 4, 1, 0, 0, 0, []), (21, 25, 12, 66, 4, 0, [(0, 20, 80), (0, 1, 43)]), (24, 2, 1, 1, 0, 0, []), (25, 27, 0, 0, 0, 0, []), (26, 18, 62, 3, 42, 0, []), (29, 4, 1, 0, 0, 0, []), (30, 25, 12, 67, 4, 0, [(0, 20, 640), (0, 1, 44)]), (33, 0, 2, 0, 0, 8, []), (35, 2, 1, 1, 0, 0, []), (36, 9, 0, 2, 0, 0, []), (37, 2, 1, 3, 0, 0, []), (38, 9, 0, 0, 0, 0, []), (39, 27, 0, 0, 0, 0, []), (40, 4, 1, 0, 0, 0, []), (41, 25, 12, 67, 4, 0, [(0, 20, 640), (0, 1, 44)]), (44, 0, 2, 0, 0, 8, []), (46, 2, 1, 2, 0, 0, []), (47, 9, 0, 2, 0, 0, []), (48, 2, 1, 3, 0, 0, []), (49, 9, 0, 0, 0, 0, []), (50, 27, 0, 0, 0, 0, []), (51, 18, 56, 0, 40, 0, []), (54, 0, 1, 0, 0, 0, []), (55, 48, 0, 0, 0, 0, []), (56, 8, 0, 3, 0, 1, []), (59, 19, 19, 0, 14, 0, []), (62, 0, 1, 0, 0, 4, []), (63, 5, 1, 3, 0, 0, []), (64, 49, 0, 0, 0, 0, []), (64, 2, 1, 3, 0, 0, []), (65, 0, 2, 0, 0, 6, []), (67, 18, 161, 4, 99, 0, []), (70, 2, 1, 3, 0, 0, []), (71, 0, 1, 0, 0, 5, []), (72, 18, 78, 1, 52, 0, []), (75, 19, 155, 0, 96, 0, []), (78, 0, 1, 0, 0, 0, []), (79, 5, 2, 4, 0, 0, []), (81, 49, 0, 0, 0, 0, []), (81, 2, 2, 4, 0, 0, []), (83, 4, 1, 0, 0, 0, []), (84, 25, 12, 50, 4, 0, [(0, 20, 7), (0, 1, 27)]), (87, 2, 1, 3, 0, 0, []), (88, 27, 0, 0, 0, 0, []), (89, 18, 155, 3, 96, 0, []), (92, 4, 1, 0, 0, 0, []), (93, 2, 1, 3, 0, 0, []), (94, 2, 2, 4, 0, 0, []), (96, 4, 1, 0, 0, 0, []), (97, 25, 12, 86, 0, 0, []), (100, 40, 0, 4, 14, 0, []), (103, 17, 149, 0, 93, 0, []), (106, 4, 1, 0, 0, 0, []), (107, 2, 1, 3, 0, 0, []), (108, 2, 2, 4, 0, 0, []), (110, 40, 1, 2, 0, 0, []), (113, 2, 1, 1, 0, 0, []), (114, 40, 2, 3, 14, 0, []), (117, 17, 124, 2, 77, 0, []), (120, 0, 1, 0, 0, 1, []), (121, 19, 125, 0, 78, 0, []), (124, 0, 1, 0, 0, 0, []), (125, 49, 0, 0, 0, 0, []), (125, 4, 1, 0, 0, 0, []), (126, 2, 1, 3, 0, 0, []), (127, 2, 2, 4, 0, 0, []), (129, 40, 1, 2, 0, 0, []), (132, 2, 1, 2, 0, 0, []), (133, 40, 2, 3, 14, 0, []), (136, 17, 143, 2, 88, 0, []), (139, 0, 1, 0, 0, 1, []), (140, 19, 144, 0, 89, 0, []), (143, 0, 1, 0, 0, 0, []), (144, 49, 0, 0, 0, 0, []), (144, 18, 149, 0, 93, 0, []), (147, 0, 1, 0, 0, 0, []), (148, 48, 0, 0, 0, 0, []), (149, 49, 0, 0, 0, 0, []), (149, 8, 0, 4, 0, 1, []), (152, 19, 81, 0, 54, 0, []), (155, 49, 0, 0, 0, 0, []), (155, 8, 0, 3, 0, 1, []), (158, 19, 64, 0, 44, 0, []), (161, 0, 1, 0, 0, 1, []), (162, 48, 0, 0, 0, 0, [])]
set_option maxRecDepth 20000 in
theorem qX12_bearAlikef : f_all yX12_bearAlike YX12_bearAlike pX12_bearAlikef :=
  ⟨f_aload_n (n := 0) (e_dx DX12_bearAlike_0 0 rfl) rfl,
  f_getA (e_dx DX12_bearAlike_0 1 rfl) fX12_139 rfl (by decide) (Nat.le_of_ble_eq_true rfl) rfl (by decide),
  f_iload_n (n := 1) (e_dx DX12_bearAlike_0 2 rfl) rfl,
  f_iaload (e_dx DX12_bearAlike_0 3 rfl),
  f_aload_n (n := 0) (e_dx DX12_bearAlike_0 4 rfl) rfl,
  f_getA (e_dx DX12_bearAlike_0 5 rfl) fX12_139 rfl (by decide) (Nat.le_of_ble_eq_true rfl) rfl (by decide),
  f_iload_n (n := 2) (e_dx DX12_bearAlike_0 6 rfl) rfl,
  f_iaload (e_dx DX12_bearAlike_0 7 rfl),
  f_icmp_eq (e_dx DX12_bearAlike_0 8 rfl) rfl,
  f_iconst (e_dx DX12_bearAlike_0 9 rfl) ⟨by decide, by decide⟩,
  ⟨(e_dx DX12_bearAlike_0 10 rfl), rfl⟩,
  f_iconst (e_dx DX12_bearAlike_0 11 rfl) ⟨by decide, by decide⟩,
  f_istore_n (n := 3) (e_dx DX12_bearAlike_0 12 rfl) rfl (by decide),
  trivial,
  f_iload_n (n := 3) (e_dx DX12_bearAlike_0 13 rfl) rfl,
  f_aload_n (n := 0) (e_dx DX12_bearAlike_0 14 rfl) rfl,
  f_getA (e_dx DX12_bearAlike_0 15 rfl) fX12_139 rfl (by decide) (Nat.le_of_ble_eq_true rfl) rfl (by decide),
  f_iload_n (n := 1) (e_dx DX12_bearAlike_0 16 rfl) rfl,
  f_iaload (e_dx DX12_bearAlike_0 17 rfl),
  f_icmp_ge (e_dx DX12_bearAlike_0 18 rfl) rfl,
  f_aload_n (n := 0) (e_dx DX12_bearAlike_0 19 rfl) rfl,
  f_getA (e_dx DX12_bearAlike_0 20 rfl) fX12_142 rfl (by decide) (Nat.le_of_ble_eq_true rfl) rfl (by decide),
  f_bipush (e_dx DX12_bearAlike_0 21 rfl) ⟨by decide, by decide⟩,
  f_iload_n (n := 1) (e_dx DX12_bearAlike_0 22 rfl) rfl,
  f_imul (e_dx DX12_bearAlike_0 23 rfl),
  f_iload_n (n := 3) (e_dx DX12_bearAlike_0 24 rfl) rfl,
  f_iadd (e_dx DX12_bearAlike_0 25 rfl),
  f_iaload (e_dx DX12_bearAlike_0 26 rfl),
  f_aload_n (n := 0) (e_dx DX12_bearAlike_0 27 rfl) rfl,
  f_getA (e_dx DX12_bearAlike_0 28 rfl) fX12_142 rfl (by decide) (Nat.le_of_ble_eq_true rfl) rfl (by decide),
  f_bipush (e_dx DX12_bearAlike_0 29 rfl) ⟨by decide, by decide⟩,
  f_iload_n (n := 2) (e_dx DX12_bearAlike_0 30 rfl) rfl,
  f_imul (e_dx DX12_bearAlike_0 31 rfl),
  f_iload_n (n := 3) (e_dx DX12_bearAlike_0 32 rfl) rfl,
  f_iadd (e_dx DX12_bearAlike_0 33 rfl),
  f_iaload (e_dx DX12_bearAlike_0 34 rfl),
  f_icmp_eq (e_dx DX12_bearAlike_0 35 rfl) rfl,
  f_iconst (e_dx DX12_bearAlike_0 36 rfl) ⟨by decide, by decide⟩,
  ⟨(e_dx DX12_bearAlike_0 37 rfl), rfl⟩,
  f_g8 (e_dx DX12_bearAlike_0 38 rfl) ⟨by decide, by decide⟩,
  f_g19 (e_dx DX12_bearAlike_0 39 rfl) rfl,
  f_iconst (e_dx DX12_bearAlike_1 0 rfl) ⟨by decide, by decide⟩,
  f_istore_n (n := 3) (e_dx DX12_bearAlike_1 1 rfl) rfl (by decide),
  trivial,
  f_iload_n (n := 3) (e_dx DX12_bearAlike_1 2 rfl) rfl,
  f_bipush (e_dx DX12_bearAlike_1 3 rfl) ⟨by decide, by decide⟩,
  f_icmp_gt (e_dx DX12_bearAlike_1 4 rfl) rfl,
  f_iload_n (n := 3) (e_dx DX12_bearAlike_1 5 rfl) rfl,
  f_iconst (e_dx DX12_bearAlike_1 6 rfl) ⟨by decide, by decide⟩,
  f_icmp_ne (e_dx DX12_bearAlike_1 7 rfl) rfl,
  f_g19 (e_dx DX12_bearAlike_1 8 rfl) rfl,
  f_iconst (e_dx DX12_bearAlike_1 9 rfl) ⟨by decide, by decide⟩,
  f_istore (e_dx DX12_bearAlike_1 10 rfl) (by decide),
  trivial,
  f_iload (e_dx DX12_bearAlike_1 11 rfl),
  f_aload_n (n := 0) (e_dx DX12_bearAlike_1 12 rfl) rfl,
  f_getA (e_dx DX12_bearAlike_1 13 rfl) fX12_91 rfl (by decide) (Nat.le_of_ble_eq_true rfl) rfl (by decide),
  f_iload_n (n := 3) (e_dx DX12_bearAlike_1 14 rfl) rfl,
  f_iaload (e_dx DX12_bearAlike_1 15 rfl),
  f_icmp_ge (e_dx DX12_bearAlike_1 16 rfl) rfl,
  f_aload_n (n := 0) (e_dx DX12_bearAlike_1 17 rfl) rfl,
  f_iload_n (n := 3) (e_dx DX12_bearAlike_1 18 rfl) rfl,
  f_iload (e_dx DX12_bearAlike_1 19 rfl),
  f_aload_n (n := 0) (e_dx DX12_bearAlike_1 20 rfl) rfl,
  f_getf (e_dx DX12_bearAlike_1 21 rfl) fX12_543 rfl (by decide) (by decide) (by decide),
  x_callV (e_dx DX12_bearAlike_1 22 rfl) mwX12_isThere vwX12_isThere cX12_549 rfl,
  f_if_eq (e_dx DX12_bearAlike_1 23 rfl) rfl,
  f_aload_n (n := 0) (e_dx DX12_bearAlike_1 24 rfl) rfl,
  f_iload_n (n := 3) (e_dx DX12_bearAlike_1 25 rfl) rfl,
  f_iload (e_dx DX12_bearAlike_1 26 rfl),
  x_callS (e_dx DX12_bearAlike_1 27 rfl) mwX12_id cX12_540 swX12_id rfl,
  f_iload_n (n := 1) (e_dx DX12_bearAlike_1 28 rfl) rfl,
  x_callV (e_dx DX12_bearAlike_1 29 rfl) mwX12_placeOn vwX12_placeOn cX12_573 rfl,
  f_if_lt (e_dx DX12_bearAlike_1 30 rfl) rfl,
  f_iconst (e_dx DX12_bearAlike_1 31 rfl) ⟨by decide, by decide⟩,
  f_g19 (e_dx DX12_bearAlike_1 32 rfl) rfl,
  f_iconst (e_dx DX12_bearAlike_1 33 rfl) ⟨by decide, by decide⟩,
  trivial,
  f_aload_n (n := 0) (e_dx DX12_bearAlike_1 34 rfl) rfl,
  f_iload_n (n := 3) (e_dx DX12_bearAlike_1 35 rfl) rfl,
  f_iload (e_dx DX12_bearAlike_1 36 rfl),
  x_callS (e_dx DX12_bearAlike_1 37 rfl) mwX12_id cX12_540 swX12_id rfl,
  f_iload_n (n := 2) (e_dx DX12_bearAlike_1 38 rfl) rfl,
  x_callV (e_dx DX12_bearAlike_1 39 rfl) mwX12_placeOn vwX12_placeOn cX12_573 rfl,
  f_if_lt (e_dx DX12_bearAlike_2 0 rfl) rfl,
  f_iconst (e_dx DX12_bearAlike_2 1 rfl) ⟨by decide, by decide⟩,
  f_g19 (e_dx DX12_bearAlike_2 2 rfl) rfl,
  f_iconst (e_dx DX12_bearAlike_2 3 rfl) ⟨by decide, by decide⟩,
  trivial,
  f_icmp_eq (e_dx DX12_bearAlike_2 4 rfl) rfl,
  f_iconst (e_dx DX12_bearAlike_2 5 rfl) ⟨by decide, by decide⟩,
  ⟨(e_dx DX12_bearAlike_2 6 rfl), rfl⟩,
  trivial,
  f_g8 (e_dx DX12_bearAlike_2 7 rfl) ⟨by decide, by decide⟩,
  f_g19 (e_dx DX12_bearAlike_2 8 rfl) rfl,
  trivial,
  f_g8 (e_dx DX12_bearAlike_2 9 rfl) ⟨by decide, by decide⟩,
  f_g19 (e_dx DX12_bearAlike_2 10 rfl) rfl,
  f_iconst (e_dx DX12_bearAlike_2 11 rfl) ⟨by decide, by decide⟩,
  ⟨(e_dx DX12_bearAlike_2 12 rfl), rfl⟩, trivial⟩
def lX12_bearAlike (c_X12_isThere : Int → Int → Int → e_M → (Int → Prop) → Prop) (c_X12_id : Int → Int → e_M → (Int → Prop) → Prop) (c_X12_placeOn : Int → Int → e_M → (Int → Prop) → Prop) : List (Nat × f_Wt) := [(0, f_wm [(4466, 12, 123), (1, 0, 0), (1, 0, 0), (1, 0, 0)] (fun ar M R => c_X12_isThere (f_vi (f_nth ar 1)) (f_vi (f_nth ar 2)) (f_vi (f_nth ar 3)) M (fun r => R (some (.inl r)) M))), (1, f_wm [(1, 0, 0), (1, 0, 0)] (fun ar M R => c_X12_id (f_vi (f_nth ar 0)) (f_vi (f_nth ar 1)) M (fun r => R (some (.inl r)) M))), (2, f_wm [(4466, 12, 123), (1, 0, 0), (1, 0, 0)] (fun ar M R => c_X12_placeOn (f_vi (f_nth ar 1)) (f_vi (f_nth ar 2)) M (fun r => R (some (.inl r)) M)))]
set_option maxRecDepth 20000 in
theorem BX12_bearAlike_19 {sh : Nat → Nat × Nat} {t : Nat} {rm : Nat × Nat × Nat} {cs : Nat × Nat} {R : f_Rt} {c_X12_isThere : Int → Int → Int → e_M → (Int → Prop) → Prop} {c_X12_id : Int → Int → e_M → (Int → Prop) → Prop} {c_X12_placeOn : Int → Int → e_M → (Int → Prop) → Prop} {k64 : Int → Int → Int → Prop} {k19 : Int → Int → Int → Prop} {x1 : Int} {x2 : Int} {x3 : Int} {M : e_M} (C : f_Hy sh t yX12_bearAlike rm cs 6 (lX12_bearAlike c_X12_isThere c_X12_id c_X12_placeOn) R) (h64 : ∀ (x1 : Int) (x2 : Int) (x3 : Int), k64 x1 x2 x3 → f_E sh t YX12_bearAlike rm cs (f_Q sh t R) 64 [.inr (.inr (.inl (12, 123, 4456))), .inl x1, .inl x2, .inl x3, .inr (.inr (.inr ()))] [] M) (h19 : ∀ (x1 : Int) (x2 : Int) (x3 : Int), k19 x1 x2 x3 → f_E sh t YX12_bearAlike rm cs (f_Q sh t R) 19 [.inr (.inr (.inl (12, 123, 4456))), .inl x1, .inl x2, .inl x3, .inr (.inr (.inr ()))] [] M) (h : VX12_bearAlike_19 c_X12_isThere c_X12_id c_X12_placeOn k64 k19 (fun r => R (some (.inl r)) M) x1 x2 x3 M) : f_E sh t YX12_bearAlike rm cs (f_Q sh t R) 19 [.inr (.inr (.inl (12, 123, 4456))), .inl x1, .inl x2, .inl x3, .inr (.inr (.inr ()))] [] M := by
  rw [f_kk3 M k64] at h
  rw [f_kk3 M k19] at h
  exact f_go (KC := f_kc [(64, f_pl [(4466, 12, 123), (1, 0, 0), (1, 0, 0), (1, 0, 0), (0, 0, 0)] [] (fun ls st M2 => M2 = M ∧ (k64 (f_vi (f_nth ls 1)) (f_vi (f_nth ls 2)) (f_vi (f_nth ls 3))))), (19, f_pl [(4466, 12, 123), (1, 0, 0), (1, 0, 0), (1, 0, 0), (0, 0, 0)] [] (fun ls st M2 => M2 = M ∧ (k19 (f_vi (f_nth ls 1)) (f_vi (f_nth ls 2)) (f_vi (f_nth ls 3)))))]) C qX12_bearAlikef (f_kc_cons (f_pl_ok rfl (fun ls st M2 ⟨e, hh⟩ => by subst e; exact h64 _ _ _ hh)) (f_kc_cons (f_pl_ok rfl (fun ls st M2 ⟨e, hh⟩ => by subst e; exact h19 _ _ _ hh)) f_kc_nil)) 102 14 h
set_option maxRecDepth 20000 in
theorem BX12_bearAlike_64 {sh : Nat → Nat × Nat} {t : Nat} {rm : Nat × Nat × Nat} {cs : Nat × Nat} {R : f_Rt} {c_X12_isThere : Int → Int → Int → e_M → (Int → Prop) → Prop} {c_X12_id : Int → Int → e_M → (Int → Prop) → Prop} {c_X12_placeOn : Int → Int → e_M → (Int → Prop) → Prop} {k81 : Int → Int → Int → Int → Prop} {k155 : Int → Int → Int → Prop} {x1 : Int} {x2 : Int} {x3 : Int} {M : e_M} (C : f_Hy sh t yX12_bearAlike rm cs 6 (lX12_bearAlike c_X12_isThere c_X12_id c_X12_placeOn) R) (h81 : ∀ (x1 : Int) (x2 : Int) (x3 : Int) (x4 : Int), k81 x1 x2 x3 x4 → f_E sh t YX12_bearAlike rm cs (f_Q sh t R) 81 [.inr (.inr (.inl (12, 123, 4456))), .inl x1, .inl x2, .inl x3, .inl x4] [] M) (h155 : ∀ (x1 : Int) (x2 : Int) (x3 : Int), k155 x1 x2 x3 → f_E sh t YX12_bearAlike rm cs (f_Q sh t R) 155 [.inr (.inr (.inl (12, 123, 4456))), .inl x1, .inl x2, .inl x3, .inr (.inr (.inr ()))] [] M) (h : VX12_bearAlike_64 c_X12_isThere c_X12_id c_X12_placeOn k81 k155 (fun r => R (some (.inl r)) M) x1 x2 x3 M) : f_E sh t YX12_bearAlike rm cs (f_Q sh t R) 64 [.inr (.inr (.inl (12, 123, 4456))), .inl x1, .inl x2, .inl x3, .inr (.inr (.inr ()))] [] M := by
  rw [f_kk4 M k81] at h
  rw [f_kk3 M k155] at h
  exact f_go (KC := f_kc [(81, f_pl [(4466, 12, 123), (1, 0, 0), (1, 0, 0), (1, 0, 0), (1, 0, 0)] [] (fun ls st M2 => M2 = M ∧ (k81 (f_vi (f_nth ls 1)) (f_vi (f_nth ls 2)) (f_vi (f_nth ls 3)) (f_vi (f_nth ls 4))))), (155, f_pl [(4466, 12, 123), (1, 0, 0), (1, 0, 0), (1, 0, 0), (0, 0, 0)] [] (fun ls st M2 => M2 = M ∧ (k155 (f_vi (f_nth ls 1)) (f_vi (f_nth ls 2)) (f_vi (f_nth ls 3)))))]) C qX12_bearAlikef (f_kc_cons (f_pl_ok rfl (fun ls st M2 ⟨e, hh⟩ => by subst e; exact h81 _ _ _ _ hh)) (f_kc_cons (f_pl_ok rfl (fun ls st M2 ⟨e, hh⟩ => by subst e; exact h155 _ _ _ hh)) f_kc_nil)) 102 44 h
set_option maxRecDepth 20000 in
theorem BX12_bearAlike_81 {sh : Nat → Nat × Nat} {t : Nat} {rm : Nat × Nat × Nat} {cs : Nat × Nat} {R : f_Rt} {c_X12_isThere : Int → Int → Int → e_M → (Int → Prop) → Prop} {c_X12_id : Int → Int → e_M → (Int → Prop) → Prop} {c_X12_placeOn : Int → Int → e_M → (Int → Prop) → Prop} {k155 : Int → Int → Int → Prop} {k149 : Int → Int → Int → Int → Prop} {k125 : Int → Int → Int → Int → Int → Prop} {x1 : Int} {x2 : Int} {x3 : Int} {x4 : Int} {M : e_M} (C : f_Hy sh t yX12_bearAlike rm cs 6 (lX12_bearAlike c_X12_isThere c_X12_id c_X12_placeOn) R) (h155 : ∀ (x1 : Int) (x2 : Int) (x3 : Int), k155 x1 x2 x3 → f_E sh t YX12_bearAlike rm cs (f_Q sh t R) 155 [.inr (.inr (.inl (12, 123, 4456))), .inl x1, .inl x2, .inl x3, .inr (.inr (.inr ()))] [] M) (h149 : ∀ (x1 : Int) (x2 : Int) (x3 : Int) (x4 : Int), k149 x1 x2 x3 x4 → f_E sh t YX12_bearAlike rm cs (f_Q sh t R) 149 [.inr (.inr (.inl (12, 123, 4456))), .inl x1, .inl x2, .inl x3, .inl x4] [] M) (h125 : ∀ (x1 : Int) (x2 : Int) (x3 : Int) (x4 : Int) (xs0 : Int), k125 x1 x2 x3 x4 xs0 → f_E sh t YX12_bearAlike rm cs (f_Q sh t R) 125 [.inr (.inr (.inl (12, 123, 4456))), .inl x1, .inl x2, .inl x3, .inl x4] [.inl xs0] M) (h : VX12_bearAlike_81 c_X12_isThere c_X12_id c_X12_placeOn k155 k149 k125 (fun r => R (some (.inl r)) M) x1 x2 x3 x4 M) : f_E sh t YX12_bearAlike rm cs (f_Q sh t R) 81 [.inr (.inr (.inl (12, 123, 4456))), .inl x1, .inl x2, .inl x3, .inl x4] [] M := by
  rw [f_kk3 M k155] at h
  rw [f_kk4 M k149] at h
  rw [f_kk5 M k125] at h
  exact f_go (KC := f_kc [(155, f_pl [(4466, 12, 123), (1, 0, 0), (1, 0, 0), (1, 0, 0), (0, 0, 0)] [] (fun ls st M2 => M2 = M ∧ (k155 (f_vi (f_nth ls 1)) (f_vi (f_nth ls 2)) (f_vi (f_nth ls 3))))), (149, f_pl [(4466, 12, 123), (1, 0, 0), (1, 0, 0), (1, 0, 0), (1, 0, 0)] [] (fun ls st M2 => M2 = M ∧ (k149 (f_vi (f_nth ls 1)) (f_vi (f_nth ls 2)) (f_vi (f_nth ls 3)) (f_vi (f_nth ls 4))))), (125, f_pl [(4466, 12, 123), (1, 0, 0), (1, 0, 0), (1, 0, 0), (1, 0, 0)] [(1, 0, 0)] (fun ls st M2 => M2 = M ∧ (k125 (f_vi (f_nth ls 1)) (f_vi (f_nth ls 2)) (f_vi (f_nth ls 3)) (f_vi (f_nth ls 4)) (f_vi (f_nth st 0)))))]) C qX12_bearAlikef (f_kc_cons (f_pl_ok rfl (fun ls st M2 ⟨e, hh⟩ => by subst e; exact h155 _ _ _ hh)) (f_kc_cons (f_pl_ok rfl (fun ls st M2 ⟨e, hh⟩ => by subst e; exact h149 _ _ _ _ hh)) (f_kc_cons (f_pl_ok rfl (fun ls st M2 ⟨e, hh⟩ => by subst e; exact h125 _ _ _ _ _ hh)) f_kc_nil))) 102 54 h
set_option maxRecDepth 20000 in
theorem BX12_bearAlike_125 {sh : Nat → Nat × Nat} {t : Nat} {rm : Nat × Nat × Nat} {cs : Nat × Nat} {R : f_Rt} {c_X12_isThere : Int → Int → Int → e_M → (Int → Prop) → Prop} {c_X12_id : Int → Int → e_M → (Int → Prop) → Prop} {c_X12_placeOn : Int → Int → e_M → (Int → Prop) → Prop} {k144 : Int → Int → Int → Int → Int → Int → Prop} {x1 : Int} {x2 : Int} {x3 : Int} {x4 : Int} {xs0 : Int} {M : e_M} (C : f_Hy sh t yX12_bearAlike rm cs 6 (lX12_bearAlike c_X12_isThere c_X12_id c_X12_placeOn) R) (h144 : ∀ (x1 : Int) (x2 : Int) (x3 : Int) (x4 : Int) (xs1 : Int) (xs0 : Int), k144 x1 x2 x3 x4 xs1 xs0 → f_E sh t YX12_bearAlike rm cs (f_Q sh t R) 144 [.inr (.inr (.inl (12, 123, 4456))), .inl x1, .inl x2, .inl x3, .inl x4] [.inl xs1, .inl xs0] M) (h : VX12_bearAlike_125 c_X12_isThere c_X12_id c_X12_placeOn k144 (fun r => R (some (.inl r)) M) x1 x2 x3 x4 xs0 M) : f_E sh t YX12_bearAlike rm cs (f_Q sh t R) 125 [.inr (.inr (.inl (12, 123, 4456))), .inl x1, .inl x2, .inl x3, .inl x4] [.inl xs0] M := by
  rw [f_kk6 M k144] at h
  exact f_go (KC := f_kc [(144, f_pl [(4466, 12, 123), (1, 0, 0), (1, 0, 0), (1, 0, 0), (1, 0, 0)] [(1, 0, 0), (1, 0, 0)] (fun ls st M2 => M2 = M ∧ (k144 (f_vi (f_nth ls 1)) (f_vi (f_nth ls 2)) (f_vi (f_nth ls 3)) (f_vi (f_nth ls 4)) (f_vi (f_nth st 0)) (f_vi (f_nth st 1)))))]) C qX12_bearAlikef (f_kc_cons (f_pl_ok rfl (fun ls st M2 ⟨e, hh⟩ => by subst e; exact h144 _ _ _ _ _ _ hh)) f_kc_nil) 102 78 h
set_option maxRecDepth 20000 in
theorem BX12_bearAlike_144 {sh : Nat → Nat × Nat} {t : Nat} {rm : Nat × Nat × Nat} {cs : Nat × Nat} {R : f_Rt} {c_X12_isThere : Int → Int → Int → e_M → (Int → Prop) → Prop} {c_X12_id : Int → Int → e_M → (Int → Prop) → Prop} {c_X12_placeOn : Int → Int → e_M → (Int → Prop) → Prop} {k149 : Int → Int → Int → Int → Prop} {x1 : Int} {x2 : Int} {x3 : Int} {x4 : Int} {xs1 : Int} {xs0 : Int} {M : e_M} (C : f_Hy sh t yX12_bearAlike rm cs 6 (lX12_bearAlike c_X12_isThere c_X12_id c_X12_placeOn) R) (h149 : ∀ (x1 : Int) (x2 : Int) (x3 : Int) (x4 : Int), k149 x1 x2 x3 x4 → f_E sh t YX12_bearAlike rm cs (f_Q sh t R) 149 [.inr (.inr (.inl (12, 123, 4456))), .inl x1, .inl x2, .inl x3, .inl x4] [] M) (h : VX12_bearAlike_144 c_X12_isThere c_X12_id c_X12_placeOn k149 (fun r => R (some (.inl r)) M) x1 x2 x3 x4 xs1 xs0 M) : f_E sh t YX12_bearAlike rm cs (f_Q sh t R) 144 [.inr (.inr (.inl (12, 123, 4456))), .inl x1, .inl x2, .inl x3, .inl x4] [.inl xs1, .inl xs0] M := by
  rw [f_kk4 M k149] at h
  exact f_go (KC := f_kc [(149, f_pl [(4466, 12, 123), (1, 0, 0), (1, 0, 0), (1, 0, 0), (1, 0, 0)] [] (fun ls st M2 => M2 = M ∧ (k149 (f_vi (f_nth ls 1)) (f_vi (f_nth ls 2)) (f_vi (f_nth ls 3)) (f_vi (f_nth ls 4)))))]) C qX12_bearAlikef (f_kc_cons (f_pl_ok rfl (fun ls st M2 ⟨e, hh⟩ => by subst e; exact h149 _ _ _ _ hh)) f_kc_nil) 102 89 h
set_option maxRecDepth 20000 in
theorem BX12_bearAlike_149 {sh : Nat → Nat × Nat} {t : Nat} {rm : Nat × Nat × Nat} {cs : Nat × Nat} {R : f_Rt} {c_X12_isThere : Int → Int → Int → e_M → (Int → Prop) → Prop} {c_X12_id : Int → Int → e_M → (Int → Prop) → Prop} {c_X12_placeOn : Int → Int → e_M → (Int → Prop) → Prop} {k81 : Int → Int → Int → Int → Prop} {x1 : Int} {x2 : Int} {x3 : Int} {x4 : Int} {M : e_M} (C : f_Hy sh t yX12_bearAlike rm cs 6 (lX12_bearAlike c_X12_isThere c_X12_id c_X12_placeOn) R) (h81 : ∀ (x1 : Int) (x2 : Int) (x3 : Int) (x4 : Int), k81 x1 x2 x3 x4 → f_E sh t YX12_bearAlike rm cs (f_Q sh t R) 81 [.inr (.inr (.inl (12, 123, 4456))), .inl x1, .inl x2, .inl x3, .inl x4] [] M) (h : VX12_bearAlike_149 c_X12_isThere c_X12_id c_X12_placeOn k81 (fun r => R (some (.inl r)) M) x1 x2 x3 x4 M) : f_E sh t YX12_bearAlike rm cs (f_Q sh t R) 149 [.inr (.inr (.inl (12, 123, 4456))), .inl x1, .inl x2, .inl x3, .inl x4] [] M := by
  rw [f_kk4 M k81] at h
  exact f_go (KC := f_kc [(81, f_pl [(4466, 12, 123), (1, 0, 0), (1, 0, 0), (1, 0, 0), (1, 0, 0)] [] (fun ls st M2 => M2 = M ∧ (k81 (f_vi (f_nth ls 1)) (f_vi (f_nth ls 2)) (f_vi (f_nth ls 3)) (f_vi (f_nth ls 4)))))]) C qX12_bearAlikef (f_kc_cons (f_pl_ok rfl (fun ls st M2 ⟨e, hh⟩ => by subst e; exact h81 _ _ _ _ hh)) f_kc_nil) 102 93 h
set_option maxRecDepth 20000 in
theorem BX12_bearAlike_155 {sh : Nat → Nat × Nat} {t : Nat} {rm : Nat × Nat × Nat} {cs : Nat × Nat} {R : f_Rt} {c_X12_isThere : Int → Int → Int → e_M → (Int → Prop) → Prop} {c_X12_id : Int → Int → e_M → (Int → Prop) → Prop} {c_X12_placeOn : Int → Int → e_M → (Int → Prop) → Prop} {k64 : Int → Int → Int → Prop} {x1 : Int} {x2 : Int} {x3 : Int} {M : e_M} (C : f_Hy sh t yX12_bearAlike rm cs 6 (lX12_bearAlike c_X12_isThere c_X12_id c_X12_placeOn) R) (h64 : ∀ (x1 : Int) (x2 : Int) (x3 : Int), k64 x1 x2 x3 → f_E sh t YX12_bearAlike rm cs (f_Q sh t R) 64 [.inr (.inr (.inl (12, 123, 4456))), .inl x1, .inl x2, .inl x3, .inr (.inr (.inr ()))] [] M) (h : VX12_bearAlike_155 c_X12_isThere c_X12_id c_X12_placeOn k64 (fun r => R (some (.inl r)) M) x1 x2 x3 M) : f_E sh t YX12_bearAlike rm cs (f_Q sh t R) 155 [.inr (.inr (.inl (12, 123, 4456))), .inl x1, .inl x2, .inl x3, .inr (.inr (.inr ()))] [] M := by
  rw [f_kk3 M k64] at h
  exact f_go (KC := f_kc [(64, f_pl [(4466, 12, 123), (1, 0, 0), (1, 0, 0), (1, 0, 0), (0, 0, 0)] [] (fun ls st M2 => M2 = M ∧ (k64 (f_vi (f_nth ls 1)) (f_vi (f_nth ls 2)) (f_vi (f_nth ls 3)))))]) C qX12_bearAlikef (f_kc_cons (f_pl_ok rfl (fun ls st M2 ⟨e, hh⟩ => by subst e; exact h64 _ _ _ hh)) f_kc_nil) 102 96 h
set_option maxRecDepth 20000 in
theorem BX12_bearAlike {sh : Nat → Nat × Nat} {t : Nat} {rm : Nat × Nat × Nat} {cs : Nat × Nat} {R : f_Rt} {c_X12_isThere : Int → Int → Int → e_M → (Int → Prop) → Prop} {c_X12_id : Int → Int → e_M → (Int → Prop) → Prop} {c_X12_placeOn : Int → Int → e_M → (Int → Prop) → Prop} {k19 : Int → Int → Int → Prop} {x1 : Int} {x2 : Int} {M : e_M} (C : f_Hy sh t yX12_bearAlike rm cs 6 (lX12_bearAlike c_X12_isThere c_X12_id c_X12_placeOn) R) (h19 : ∀ (x1 : Int) (x2 : Int) (x3 : Int), k19 x1 x2 x3 → f_E sh t YX12_bearAlike rm cs (f_Q sh t R) 19 [.inr (.inr (.inl (12, 123, 4456))), .inl x1, .inl x2, .inl x3, .inr (.inr (.inr ()))] [] M) (h : VX12_bearAlike c_X12_isThere c_X12_id c_X12_placeOn k19 (fun r => R (some (.inl r)) M) x1 x2 M) : f_E sh t YX12_bearAlike rm cs (f_Q sh t R) 0 [.inr (.inr (.inl (12, 123, 4456))), .inl x1, .inl x2, .inr (.inr (.inr ())), .inr (.inr (.inr ()))] [] M := by
  rw [f_kk3 M k19] at h
  exact f_go (KC := f_kc [(19, f_pl [(4466, 12, 123), (1, 0, 0), (1, 0, 0), (1, 0, 0), (0, 0, 0)] [] (fun ls st M2 => M2 = M ∧ (k19 (f_vi (f_nth ls 1)) (f_vi (f_nth ls 2)) (f_vi (f_nth ls 3)))))]) C qX12_bearAlikef (f_kc_cons (f_pl_ok rfl (fun ls st M2 ⟨e, hh⟩ => by subst e; exact h19 _ _ _ hh)) f_kc_nil) 102 0 h
def WX12_bearAlike_155 (M : e_M) (H64 : Int → Int → Int → Prop) (Q : Int → Prop) (x1 : Int) (x2 : Int) (x3 : Int) : Prop :=
  VX12_bearAlike_155 WX12_isThere WX12_id WX12_placeOn H64 Q x1 x2 x3 M
def WX12_bearAlike_149 (M : e_M) (H64 : Int → Int → Int → Prop) (H81 : Int → Int → Int → Int → Prop) (Q : Int → Prop) (x1 : Int) (x2 : Int) (x3 : Int) (x4 : Int) : Prop :=
  VX12_bearAlike_149 WX12_isThere WX12_id WX12_placeOn H81 Q x1 x2 x3 x4 M
def WX12_bearAlike_144 (M : e_M) (H64 : Int → Int → Int → Prop) (H81 : Int → Int → Int → Int → Prop) (Q : Int → Prop) (x1 : Int) (x2 : Int) (x3 : Int) (x4 : Int) (xs1 : Int) (xs0 : Int) : Prop :=
  VX12_bearAlike_144 WX12_isThere WX12_id WX12_placeOn (WX12_bearAlike_149 M H64 H81 Q) Q x1 x2 x3 x4 xs1 xs0 M
def WX12_bearAlike_125 (M : e_M) (H64 : Int → Int → Int → Prop) (H81 : Int → Int → Int → Int → Prop) (Q : Int → Prop) (x1 : Int) (x2 : Int) (x3 : Int) (x4 : Int) (xs0 : Int) : Prop :=
  VX12_bearAlike_125 WX12_isThere WX12_id WX12_placeOn (WX12_bearAlike_144 M H64 H81 Q) Q x1 x2 x3 x4 xs0 M
def WX12_bearAlike_81 (M : e_M) (H64 : Int → Int → Int → Prop) (Q : Int → Prop) : Nat → Int → Int → Int → Int → Prop
  | 0, _, _, _, _ => False
  | n + 1, x1, x2, x3, x4 =>
    VX12_bearAlike_81 WX12_isThere WX12_id WX12_placeOn (WX12_bearAlike_155 M H64 Q) (WX12_bearAlike_149 M H64 (WX12_bearAlike_81 M H64 Q n) Q) (WX12_bearAlike_125 M H64 (WX12_bearAlike_81 M H64 Q n) Q) Q x1 x2 x3 x4 M
def WX12_bearAlike_64 (M : e_M) (Q : Int → Prop) : Nat → Int → Int → Int → Prop
  | 0, _, _, _ => False
  | n + 1, x1, x2, x3 =>
    VX12_bearAlike_64 WX12_isThere WX12_id WX12_placeOn (fun x1 x2 x3 x4 => ∃ j, WX12_bearAlike_81 M (WX12_bearAlike_64 M Q n) Q j x1 x2 x3 x4) (WX12_bearAlike_155 M (WX12_bearAlike_64 M Q n) Q) Q x1 x2 x3 M
def WX12_bearAlike_19 (M : e_M) (Q : Int → Prop) : Nat → Int → Int → Int → Prop
  | 0, _, _, _ => False
  | n + 1, x1, x2, x3 =>
    VX12_bearAlike_19 WX12_isThere WX12_id WX12_placeOn (fun x1 x2 x3 => ∃ j, WX12_bearAlike_64 M Q j x1 x2 x3) (WX12_bearAlike_19 M Q n) Q x1 x2 x3 M
def WX12_bearAlike (x1 : Int) (x2 : Int) (M : e_M) (Q : Int → Prop) : Prop :=
  VX12_bearAlike WX12_isThere WX12_id WX12_placeOn (fun x1 x2 x3 => ∃ j, WX12_bearAlike_19 M Q j x1 x2 x3) Q x1 x2 M
theorem PX12_bearAlike_155 {sh : Nat → Nat × Nat} {t : Nat} {rm : Nat × Nat × Nat} {cs : Nat × Nat} {R : f_Rt} {H64 : Int → Int → Int → Prop} {x1 : Int} {x2 : Int} {x3 : Int} {M : e_M} (C : f_Hy sh t yX12_bearAlike rm cs 6 (lX12_bearAlike WX12_isThere WX12_id WX12_placeOn) R) (g64 : ∀ (x1 : Int) (x2 : Int) (x3 : Int), H64 x1 x2 x3 → f_E sh t YX12_bearAlike rm cs (f_Q sh t R) 64 [.inr (.inr (.inl (12, 123, 4456))), .inl x1, .inl x2, .inl x3, .inr (.inr (.inr ()))] [] M) (h : WX12_bearAlike_155 M H64 (fun r => R (some (.inl r)) M) x1 x2 x3) : f_E sh t YX12_bearAlike rm cs (f_Q sh t R) 155 [.inr (.inr (.inl (12, 123, 4456))), .inl x1, .inl x2, .inl x3, .inr (.inr (.inr ()))] [] M :=
  BX12_bearAlike_155 C g64 h
theorem PX12_bearAlike_149 {sh : Nat → Nat × Nat} {t : Nat} {rm : Nat × Nat × Nat} {cs : Nat × Nat} {R : f_Rt} {H64 : Int → Int → Int → Prop} {H81 : Int → Int → Int → Int → Prop} {x1 : Int} {x2 : Int} {x3 : Int} {x4 : Int} {M : e_M} (C : f_Hy sh t yX12_bearAlike rm cs 6 (lX12_bearAlike WX12_isThere WX12_id WX12_placeOn) R) (g64 : ∀ (x1 : Int) (x2 : Int) (x3 : Int), H64 x1 x2 x3 → f_E sh t YX12_bearAlike rm cs (f_Q sh t R) 64 [.inr (.inr (.inl (12, 123, 4456))), .inl x1, .inl x2, .inl x3, .inr (.inr (.inr ()))] [] M) (g81 : ∀ (x1 : Int) (x2 : Int) (x3 : Int) (x4 : Int), H81 x1 x2 x3 x4 → f_E sh t YX12_bearAlike rm cs (f_Q sh t R) 81 [.inr (.inr (.inl (12, 123, 4456))), .inl x1, .inl x2, .inl x3, .inl x4] [] M) (h : WX12_bearAlike_149 M H64 H81 (fun r => R (some (.inl r)) M) x1 x2 x3 x4) : f_E sh t YX12_bearAlike rm cs (f_Q sh t R) 149 [.inr (.inr (.inl (12, 123, 4456))), .inl x1, .inl x2, .inl x3, .inl x4] [] M :=
  BX12_bearAlike_149 C g81 h
theorem PX12_bearAlike_144 {sh : Nat → Nat × Nat} {t : Nat} {rm : Nat × Nat × Nat} {cs : Nat × Nat} {R : f_Rt} {H64 : Int → Int → Int → Prop} {H81 : Int → Int → Int → Int → Prop} {x1 : Int} {x2 : Int} {x3 : Int} {x4 : Int} {xs1 : Int} {xs0 : Int} {M : e_M} (C : f_Hy sh t yX12_bearAlike rm cs 6 (lX12_bearAlike WX12_isThere WX12_id WX12_placeOn) R) (g64 : ∀ (x1 : Int) (x2 : Int) (x3 : Int), H64 x1 x2 x3 → f_E sh t YX12_bearAlike rm cs (f_Q sh t R) 64 [.inr (.inr (.inl (12, 123, 4456))), .inl x1, .inl x2, .inl x3, .inr (.inr (.inr ()))] [] M) (g81 : ∀ (x1 : Int) (x2 : Int) (x3 : Int) (x4 : Int), H81 x1 x2 x3 x4 → f_E sh t YX12_bearAlike rm cs (f_Q sh t R) 81 [.inr (.inr (.inl (12, 123, 4456))), .inl x1, .inl x2, .inl x3, .inl x4] [] M) (h : WX12_bearAlike_144 M H64 H81 (fun r => R (some (.inl r)) M) x1 x2 x3 x4 xs1 xs0) : f_E sh t YX12_bearAlike rm cs (f_Q sh t R) 144 [.inr (.inr (.inl (12, 123, 4456))), .inl x1, .inl x2, .inl x3, .inl x4] [.inl xs1, .inl xs0] M :=
  BX12_bearAlike_144 C (fun x1 x2 x3 x4 h => PX12_bearAlike_149 C g64 g81 h) h
theorem PX12_bearAlike_125 {sh : Nat → Nat × Nat} {t : Nat} {rm : Nat × Nat × Nat} {cs : Nat × Nat} {R : f_Rt} {H64 : Int → Int → Int → Prop} {H81 : Int → Int → Int → Int → Prop} {x1 : Int} {x2 : Int} {x3 : Int} {x4 : Int} {xs0 : Int} {M : e_M} (C : f_Hy sh t yX12_bearAlike rm cs 6 (lX12_bearAlike WX12_isThere WX12_id WX12_placeOn) R) (g64 : ∀ (x1 : Int) (x2 : Int) (x3 : Int), H64 x1 x2 x3 → f_E sh t YX12_bearAlike rm cs (f_Q sh t R) 64 [.inr (.inr (.inl (12, 123, 4456))), .inl x1, .inl x2, .inl x3, .inr (.inr (.inr ()))] [] M) (g81 : ∀ (x1 : Int) (x2 : Int) (x3 : Int) (x4 : Int), H81 x1 x2 x3 x4 → f_E sh t YX12_bearAlike rm cs (f_Q sh t R) 81 [.inr (.inr (.inl (12, 123, 4456))), .inl x1, .inl x2, .inl x3, .inl x4] [] M) (h : WX12_bearAlike_125 M H64 H81 (fun r => R (some (.inl r)) M) x1 x2 x3 x4 xs0) : f_E sh t YX12_bearAlike rm cs (f_Q sh t R) 125 [.inr (.inr (.inl (12, 123, 4456))), .inl x1, .inl x2, .inl x3, .inl x4] [.inl xs0] M :=
  BX12_bearAlike_125 C (fun x1 x2 x3 x4 xs1 xs0 h => PX12_bearAlike_144 C g64 g81 h) h
theorem PX12_bearAlike_81 {sh : Nat → Nat × Nat} {t : Nat} {rm : Nat × Nat × Nat} {cs : Nat × Nat} {R : f_Rt} {H64 : Int → Int → Int → Prop} {M : e_M} (C : f_Hy sh t yX12_bearAlike rm cs 6 (lX12_bearAlike WX12_isThere WX12_id WX12_placeOn) R) (g64 : ∀ (x1 : Int) (x2 : Int) (x3 : Int), H64 x1 x2 x3 → f_E sh t YX12_bearAlike rm cs (f_Q sh t R) 64 [.inr (.inr (.inl (12, 123, 4456))), .inl x1, .inl x2, .inl x3, .inr (.inr (.inr ()))] [] M) : ∀ (n : Nat) (x1 : Int) (x2 : Int) (x3 : Int) (x4 : Int), WX12_bearAlike_81 M H64 (fun r => R (some (.inl r)) M) n x1 x2 x3 x4 → f_E sh t YX12_bearAlike rm cs (f_Q sh t R) 81 [.inr (.inr (.inl (12, 123, 4456))), .inl x1, .inl x2, .inl x3, .inl x4] [] M := by
  intro n
  induction n with
  | zero => intro x1 x2 x3 x4 h; exact h.elim
  | succ n ih => intro x1 x2 x3 x4 h; exact BX12_bearAlike_81 C (fun x1 x2 x3 h => PX12_bearAlike_155 C g64 h) (fun x1 x2 x3 x4 h => PX12_bearAlike_149 C g64 ih h) (fun x1 x2 x3 x4 xs0 h => PX12_bearAlike_125 C g64 ih h) h
theorem PX12_bearAlike_64 {sh : Nat → Nat × Nat} {t : Nat} {rm : Nat × Nat × Nat} {cs : Nat × Nat} {R : f_Rt} {M : e_M} (C : f_Hy sh t yX12_bearAlike rm cs 6 (lX12_bearAlike WX12_isThere WX12_id WX12_placeOn) R) : ∀ (n : Nat) (x1 : Int) (x2 : Int) (x3 : Int), WX12_bearAlike_64 M (fun r => R (some (.inl r)) M) n x1 x2 x3 → f_E sh t YX12_bearAlike rm cs (f_Q sh t R) 64 [.inr (.inr (.inl (12, 123, 4456))), .inl x1, .inl x2, .inl x3, .inr (.inr (.inr ()))] [] M := by
  intro n
  induction n with
  | zero => intro x1 x2 x3 h; exact h.elim
  | succ n ih => intro x1 x2 x3 h; exact BX12_bearAlike_64 C (fun x1 x2 x3 x4 ⟨j, h⟩ => PX12_bearAlike_81 C ih j _ _ _ _ h) (fun x1 x2 x3 h => PX12_bearAlike_155 C ih h) h
theorem PX12_bearAlike_19 {sh : Nat → Nat × Nat} {t : Nat} {rm : Nat × Nat × Nat} {cs : Nat × Nat} {R : f_Rt} {M : e_M} (C : f_Hy sh t yX12_bearAlike rm cs 6 (lX12_bearAlike WX12_isThere WX12_id WX12_placeOn) R) : ∀ (n : Nat) (x1 : Int) (x2 : Int) (x3 : Int), WX12_bearAlike_19 M (fun r => R (some (.inl r)) M) n x1 x2 x3 → f_E sh t YX12_bearAlike rm cs (f_Q sh t R) 19 [.inr (.inr (.inl (12, 123, 4456))), .inl x1, .inl x2, .inl x3, .inr (.inr (.inr ()))] [] M := by
  intro n
  induction n with
  | zero => intro x1 x2 x3 h; exact h.elim
  | succ n ih => intro x1 x2 x3 h; exact BX12_bearAlike_19 C (fun x1 x2 x3 ⟨j, h⟩ => PX12_bearAlike_64 C j _ _ _ h) ih h
theorem PX12_bearAlike {sh : Nat → Nat × Nat} {t : Nat} {rm : Nat × Nat × Nat} {cs : Nat × Nat} {R : f_Rt} {x1 : Int} {x2 : Int} {M : e_M} (C : f_Hy sh t yX12_bearAlike rm cs 6 (lX12_bearAlike WX12_isThere WX12_id WX12_placeOn) R) (h : WX12_bearAlike x1 x2 M (fun r => R (some (.inl r)) M)) : f_E sh t YX12_bearAlike rm cs (f_Q sh t R) 0 [.inr (.inr (.inl (12, 123, 4456))), .inl x1, .inl x2, .inr (.inr (.inr ())), .inr (.inr (.inr ()))] [] M :=
  BX12_bearAlike C (fun x1 x2 x3 ⟨j, h⟩ => PX12_bearAlike_19 C j _ _ _ h) h
def wX12_bearAlike : f_Wt := f_wm [(4466, 12, 123), (1, 0, 0), (1, 0, 0)] (fun ar M R => WX12_bearAlike (f_vi (f_nth ar 1)) (f_vi (f_nth ar 2)) M (fun r => R (some (.inl r)) M))
theorem TX12_bearAlike {sh : Nat → Nat × Nat} {t : Nat} : f_Mt sh t YX12_bearAlike 6 (wX12_bearAlike) :=
  f_Mt_of (k := 2) (Nat.le_of_ble_eq_true rfl) rfl rfl (fun ar M R rm cs h1 h2 h3 hX h => PX12_bearAlike ⟨Nat.le_of_ble_eq_true rfl, h1, h2, h3, ⟨(f_Mt.up (Nat.le_of_ble_eq_true rfl) TX12_isThere), (f_Mt.up (Nat.le_of_ble_eq_true rfl) TX12_id), (f_Mt.up (Nat.le_of_ble_eq_true rfl) TX12_placeOn), trivial⟩, hX⟩ h)
def VX12_onOne_27 (c_X12_placeOn : Int → Int → e_M → (Int → Prop) → Prop) (c_X12_offOn : Int → Int → e_M → (e_M → Prop) → Prop) (c_X12_inOn : Int → Int → Int → e_M → (e_M → Prop) → Prop) (k54 : Int → Int → Int → Int → Int → Int → e_M → Prop) (Q : e_M → Prop) (x1 : Int) (x2 : Int) (x4 : Int) (x5 : Int) (x6 : Int) (M : e_M) : Prop :=
  ((0 ≤ x5 → ((0 ≤ x6 → (k54 x1 x2 x4 x5 x6 (e_min x5 x6) M)) ∧ (x6 < 0 → (k54 x1 x2 x4 x5 x6 x5 M)))) ∧ (x5 < 0 → (k54 x1 x2 x4 x5 x6 x6 M)))
def VX12_onOne_54 (c_X12_placeOn : Int → Int → e_M → (Int → Prop) → Prop) (c_X12_offOn : Int → Int → e_M → (e_M → Prop) → Prop) (c_X12_inOn : Int → Int → Int → e_M → (e_M → Prop) → Prop) (k68 : Int → Int → Int → Int → Int → e_M → Prop) (Q : e_M → Prop) (x1 : Int) (x2 : Int) (x4 : Int) (x5 : Int) (x6 : Int) (xs0 : Int) (M : e_M) : Prop :=
  ((x6 < 0 → (k68 x1 x2 x4 x5 xs0 M)) ∧ (0 ≤ x6 → (c_X12_offOn x1 x6 M (fun M1 => (k68 x1 x2 x4 x5 xs0 M1)))))
def VX12_onOne_68 (c_X12_placeOn : Int → Int → e_M → (Int → Prop) → Prop) (c_X12_offOn : Int → Int → e_M → (e_M → Prop) → Prop) (c_X12_inOn : Int → Int → Int → e_M → (e_M → Prop) → Prop) (k84 : Int → Int → Int → e_M → Prop) (Q : e_M → Prop) (x1 : Int) (x2 : Int) (x4 : Int) (x5 : Int) (x7 : Int) (M : e_M) : Prop :=
  ((x5 < 0 → (k84 x1 x4 x7 M)) ∧ (0 ≤ x5 → (c_X12_placeOn x1 x2 M (fun r1 => (c_X12_offOn x1 r1 M (fun M2 => (k84 x1 x4 x7 M2)))))))
def VX12_onOne_84 (c_X12_placeOn : Int → Int → e_M → (Int → Prop) → Prop) (c_X12_offOn : Int → Int → e_M → (e_M → Prop) → Prop) (c_X12_inOn : Int → Int → Int → e_M → (e_M → Prop) → Prop) (Q : e_M → Prop) (x1 : Int) (x4 : Int) (x7 : Int) (M : e_M) : Prop :=
  (c_X12_inOn x1 x7 x4 M (fun M1 => (Q M1)))
def VX12_onOne (c_X12_placeOn : Int → Int → e_M → (Int → Prop) → Prop) (c_X12_offOn : Int → Int → e_M → (e_M → Prop) → Prop) (c_X12_inOn : Int → Int → Int → e_M → (e_M → Prop) → Prop) (k27 : Int → Int → Int → Int → Int → e_M → Prop) (Q : e_M → Prop) (x1 : Int) (x2 : Int) (x3 : Int) (x4 : Int) (M : e_M) : Prop :=
  (c_X12_placeOn x1 x2 M (fun r1 => (c_X12_placeOn x1 x3 M (fun r2 => ((0 ≤ r1 → (k27 x1 x2 x4 r1 r2 M)) ∧ (r1 < 0 → ((0 ≤ r2 → (k27 x1 x2 x4 r1 r2 M)) ∧ (r2 < 0 → (Q M)))))))))
def yX12_onOne (i : Nat) : e_Y := x_get YX12_onOne [YX12_placeOn, YX12_offOn, YX12_inOn] i
def pX12_onOnef : List x_I := [(0, 4, 1, 0, 0, 0, []), (1, 2, 1, 1, 0, 0, []), (2, 2, 1, 2, 0, 0, []), (3, 40, 0, 3, 14, 0, []), (6, 5, 2, 5, 0, 0, []), (8, 4, 1, 0, 0, 0, []), (9, 2, 1, 1, 0, 0, []), (10, 2, 1, 3, 0, 0, []), (11, 40, 0, 3, 14, 0, []), (14, 5, 2, 6, 0, 0, []), (16, 2, 2, 5, 0, 0, []), (18, 17, 27, 3, 16, 0, []), (21, 2, 2, 6, 0, 0, []), (23, 17, 27, 3, 16, 0, []), (26, 44, 0, 0, 0, 0, []), (27, 49, 0, 0, 0, 0, []), (27, 2, 2, 5, 0, 0, []), (29, 17, 37, 3, 21, 0, []), (32, 2, 2, 6, 0, 0, []), (34, 19, 54, 0, 28, 0, []), (37, 2, 2, 6, 0, 0, []), (39, 17, 47, 3, 25, 0, []), (42, 2, 2, 5, 0, 0, []), (44, 19, 54, 0, 28, 0, []), (47, 2, 2, 5, 0, 0, []), (49, 2, 2, 6, 0, 0, []), (51, 39, 0, 0, 0, 0, []), (54, 49, 0, 0, 0, 0, []), (54, 5, 2, 7, 0, 0, []), (56, 2, 2, 6, 0, 0, []), (58, 17, 68, 2, 36, 0, []), (61, 4, 1, 0, 0, 0, []), (62, 2, 1, 1, 0, 0, []), (63, 2, 2, 6, 0, 0, []), (65, 40, 1, 3, 14, 0, []), (68, 49, 0, 0, 0, 0, []), (68, 2, 2, 5, 0, 0, []), (70, 17, 84, 2, 46, 0, []), (73, 4, 1, 0, 0, 0, []), (74, 2, 1, 1, 0, 0, []), (75, 4, 1, 0, 0, 0, []), (76, 2, 1, 1, 0, 0, []), (77, 2, 1, 2, 0, 0, []), (78, 40, 0, 3, 14, 0, []), (81, 40, 1, 3, 14, 0, []), (84, 49, 0, 0, 0, 0, []), (84, 4, 1, 0, 0, 0, []), (85, 2, 1, 1, 0, 0, []), (86, 2, 2, 7, 0, 0, []), (88, 2, 2, 4, 0, 0, []), (90, 40, 2, 4, 14, 0, []), (93, 44, 0, 0, 0, 0, [])]
set_option maxRecDepth 20000 in
theorem qX12_onOnef : f_all yX12_onOne YX12_onOne pX12_onOnef :=
  ⟨f_aload_n (n := 0) (e_dx DX12_onOne_0 0 rfl) rfl,
  f_iload_n (n := 1) (e_dx DX12_onOne_0 1 rfl) rfl,
  f_iload_n (n := 2) (e_dx DX12_onOne_0 2 rfl) rfl,
  x_callV (e_dx DX12_onOne_0 3 rfl) mwX12_placeOn vwX12_placeOn cX12_573 rfl,
  f_istore (e_dx DX12_onOne_0 4 rfl) (by decide),
  f_aload_n (n := 0) (e_dx DX12_onOne_0 5 rfl) rfl,
  f_iload_n (n := 1) (e_dx DX12_onOne_0 6 rfl) rfl,
  f_iload_n (n := 3) (e_dx DX12_onOne_0 7 rfl) rfl,
  x_callV (e_dx DX12_onOne_0 8 rfl) mwX12_placeOn vwX12_placeOn cX12_573 rfl,
  f_istore (e_dx DX12_onOne_0 9 rfl) (by decide),
  f_iload (e_dx DX12_onOne_0 10 rfl),
  f_if_ge (e_dx DX12_onOne_0 11 rfl) rfl,
  f_iload (e_dx DX12_onOne_0 12 rfl),
  f_if_ge (e_dx DX12_onOne_0 13 rfl) rfl,
  ⟨(e_dx DX12_onOne_0 14 rfl), rfl⟩,
  trivial,
  f_iload (e_dx DX12_onOne_0 15 rfl),
  f_if_ge (e_dx DX12_onOne_0 16 rfl) rfl,
  f_iload (e_dx DX12_onOne_0 17 rfl),
  f_g19 (e_dx DX12_onOne_0 18 rfl) rfl,
  f_iload (e_dx DX12_onOne_0 19 rfl),
  f_if_ge (e_dx DX12_onOne_0 20 rfl) rfl,
  f_iload (e_dx DX12_onOne_0 21 rfl),
  f_g19 (e_dx DX12_onOne_0 22 rfl) rfl,
  f_iload (e_dx DX12_onOne_0 23 rfl),
  f_iload (e_dx DX12_onOne_0 24 rfl),
  f_mminI (e_dx DX12_onOne_0 25 rfl) cX12_523 fm_s_mminI fm_i fm_c_mminI,
  trivial,
  f_istore (e_dx DX12_onOne_0 26 rfl) (by decide),
  f_iload (e_dx DX12_onOne_0 27 rfl),
  f_if_lt (e_dx DX12_onOne_0 28 rfl) rfl,
  f_aload_n (n := 0) (e_dx DX12_onOne_0 29 rfl) rfl,
  f_iload_n (n := 1) (e_dx DX12_onOne_0 30 rfl) rfl,
  f_iload (e_dx DX12_onOne_0 31 rfl),
  x_callV (e_dx DX12_onOne_0 32 rfl) mwX12_offOn vwX12_offOn cX12_576 rfl,
  trivial,
  f_iload (e_dx DX12_onOne_0 33 rfl),
  f_if_lt (e_dx DX12_onOne_0 34 rfl) rfl,
  f_aload_n (n := 0) (e_dx DX12_onOne_0 35 rfl) rfl,
  f_iload_n (n := 1) (e_dx DX12_onOne_0 36 rfl) rfl,
  f_aload_n (n := 0) (e_dx DX12_onOne_0 37 rfl) rfl,
  f_iload_n (n := 1) (e_dx DX12_onOne_0 38 rfl) rfl,
  f_iload_n (n := 2) (e_dx DX12_onOne_0 39 rfl) rfl,
  x_callV (e_dx DX12_onOne_1 0 rfl) mwX12_placeOn vwX12_placeOn cX12_573 rfl,
  x_callV (e_dx DX12_onOne_1 1 rfl) mwX12_offOn vwX12_offOn cX12_576 rfl,
  trivial,
  f_aload_n (n := 0) (e_dx DX12_onOne_1 2 rfl) rfl,
  f_iload_n (n := 1) (e_dx DX12_onOne_1 3 rfl) rfl,
  f_iload (e_dx DX12_onOne_1 4 rfl),
  f_iload (e_dx DX12_onOne_1 5 rfl),
  x_callV (e_dx DX12_onOne_1 6 rfl) mwX12_inOn vwX12_inOn cX12_720 rfl,
  ⟨(e_dx DX12_onOne_1 7 rfl), rfl⟩, trivial⟩
def lX12_onOne (c_X12_placeOn : Int → Int → e_M → (Int → Prop) → Prop) (c_X12_offOn : Int → Int → e_M → (e_M → Prop) → Prop) (c_X12_inOn : Int → Int → Int → e_M → (e_M → Prop) → Prop) : List (Nat × f_Wt) := [(0, f_wm [(4466, 12, 123), (1, 0, 0), (1, 0, 0)] (fun ar M R => c_X12_placeOn (f_vi (f_nth ar 1)) (f_vi (f_nth ar 2)) M (fun r => R (some (.inl r)) M))), (1, f_wm [(4466, 12, 123), (1, 0, 0), (1, 0, 0)] (fun ar M R => c_X12_offOn (f_vi (f_nth ar 1)) (f_vi (f_nth ar 2)) M (fun M => R none M))), (2, f_wm [(4466, 12, 123), (1, 0, 0), (1, 0, 0), (1, 0, 0)] (fun ar M R => c_X12_inOn (f_vi (f_nth ar 1)) (f_vi (f_nth ar 2)) (f_vi (f_nth ar 3)) M (fun M => R none M)))]
set_option maxRecDepth 20000 in
theorem BX12_onOne_27 {sh : Nat → Nat × Nat} {t : Nat} {rm : Nat × Nat × Nat} {cs : Nat × Nat} {R : f_Rt} {c_X12_placeOn : Int → Int → e_M → (Int → Prop) → Prop} {c_X12_offOn : Int → Int → e_M → (e_M → Prop) → Prop} {c_X12_inOn : Int → Int → Int → e_M → (e_M → Prop) → Prop} {k54 : Int → Int → Int → Int → Int → Int → e_M → Prop} {x1 : Int} {x2 : Int} {x4 : Int} {x5 : Int} {x6 : Int} {M : e_M} (C : f_Hy sh t yX12_onOne rm cs 5 (lX12_onOne c_X12_placeOn c_X12_offOn c_X12_inOn) R) (h54 : ∀ (x1 : Int) (x2 : Int) (x4 : Int) (x5 : Int) (x6 : Int) (xs0 : Int) (M : e_M), k54 x1 x2 x4 x5 x6 xs0 M → f_E sh t YX12_onOne rm cs (f_Q sh t R) 54 [.inr (.inr (.inl (12, 123, 4456))), .inl x1, .inl x2, .inr (.inr (.inr ())), .inl x4, .inl x5, .inl x6, .inr (.inr (.inr ()))] [.inl xs0] M) (h : VX12_onOne_27 c_X12_placeOn c_X12_offOn c_X12_inOn k54 (fun M => R none M) x1 x2 x4 x5 x6 M) : f_E sh t YX12_onOne rm cs (f_Q sh t R) 27 [.inr (.inr (.inl (12, 123, 4456))), .inl x1, .inl x2, .inr (.inr (.inr ())), .inl x4, .inl x5, .inl x6, .inr (.inr (.inr ()))] [] M :=
  f_go (KC := f_kc [(54, f_pl [(4466, 12, 123), (1, 0, 0), (1, 0, 0), (0, 0, 0), (1, 0, 0), (1, 0, 0), (1, 0, 0), (0, 0, 0)] [(1, 0, 0)] (fun ls st M => k54 (f_vi (f_nth ls 1)) (f_vi (f_nth ls 2)) (f_vi (f_nth ls 4)) (f_vi (f_nth ls 5)) (f_vi (f_nth ls 6)) (f_vi (f_nth st 0)) M))]) C qX12_onOnef (f_kc_cons (f_pl_ok rfl (fun ls st M h => h54 _ _ _ _ _ _ M h)) f_kc_nil) 54 16 h
set_option maxRecDepth 20000 in
theorem BX12_onOne_54 {sh : Nat → Nat × Nat} {t : Nat} {rm : Nat × Nat × Nat} {cs : Nat × Nat} {R : f_Rt} {c_X12_placeOn : Int → Int → e_M → (Int → Prop) → Prop} {c_X12_offOn : Int → Int → e_M → (e_M → Prop) → Prop} {c_X12_inOn : Int → Int → Int → e_M → (e_M → Prop) → Prop} {k68 : Int → Int → Int → Int → Int → e_M → Prop} {x1 : Int} {x2 : Int} {x4 : Int} {x5 : Int} {x6 : Int} {xs0 : Int} {M : e_M} (C : f_Hy sh t yX12_onOne rm cs 5 (lX12_onOne c_X12_placeOn c_X12_offOn c_X12_inOn) R) (h68 : ∀ (x1 : Int) (x2 : Int) (x4 : Int) (x5 : Int) (x7 : Int) (M : e_M), k68 x1 x2 x4 x5 x7 M → f_E sh t YX12_onOne rm cs (f_Q sh t R) 68 [.inr (.inr (.inl (12, 123, 4456))), .inl x1, .inl x2, .inr (.inr (.inr ())), .inl x4, .inl x5, .inr (.inr (.inr ())), .inl x7] [] M) (h : VX12_onOne_54 c_X12_placeOn c_X12_offOn c_X12_inOn k68 (fun M => R none M) x1 x2 x4 x5 x6 xs0 M) : f_E sh t YX12_onOne rm cs (f_Q sh t R) 54 [.inr (.inr (.inl (12, 123, 4456))), .inl x1, .inl x2, .inr (.inr (.inr ())), .inl x4, .inl x5, .inl x6, .inr (.inr (.inr ()))] [.inl xs0] M :=
  f_go (KC := f_kc [(68, f_pl [(4466, 12, 123), (1, 0, 0), (1, 0, 0), (0, 0, 0), (1, 0, 0), (1, 0, 0), (0, 0, 0), (1, 0, 0)] [] (fun ls st M => k68 (f_vi (f_nth ls 1)) (f_vi (f_nth ls 2)) (f_vi (f_nth ls 4)) (f_vi (f_nth ls 5)) (f_vi (f_nth ls 7)) M))]) C qX12_onOnef (f_kc_cons (f_pl_ok rfl (fun ls st M h => h68 _ _ _ _ _ M h)) f_kc_nil) 54 28 h
set_option maxRecDepth 20000 in
theorem BX12_onOne_68 {sh : Nat → Nat × Nat} {t : Nat} {rm : Nat × Nat × Nat} {cs : Nat × Nat} {R : f_Rt} {c_X12_placeOn : Int → Int → e_M → (Int → Prop) → Prop} {c_X12_offOn : Int → Int → e_M → (e_M → Prop) → Prop} {c_X12_inOn : Int → Int → Int → e_M → (e_M → Prop) → Prop} {k84 : Int → Int → Int → e_M → Prop} {x1 : Int} {x2 : Int} {x4 : Int} {x5 : Int} {x7 : Int} {M : e_M} (C : f_Hy sh t yX12_onOne rm cs 5 (lX12_onOne c_X12_placeOn c_X12_offOn c_X12_inOn) R) (h84 : ∀ (x1 : Int) (x4 : Int) (x7 : Int) (M : e_M), k84 x1 x4 x7 M → f_E sh t YX12_onOne rm cs (f_Q sh t R) 84 [.inr (.inr (.inl (12, 123, 4456))), .inl x1, .inr (.inr (.inr ())), .inr (.inr (.inr ())), .inl x4, .inr (.inr (.inr ())), .inr (.inr (.inr ())), .inl x7] [] M) (h : VX12_onOne_68 c_X12_placeOn c_X12_offOn c_X12_inOn k84 (fun M => R none M) x1 x2 x4 x5 x7 M) : f_E sh t YX12_onOne rm cs (f_Q sh t R) 68 [.inr (.inr (.inl (12, 123, 4456))), .inl x1, .inl x2, .inr (.inr (.inr ())), .inl x4, .inl x5, .inr (.inr (.inr ())), .inl x7] [] M :=
  f_go (KC := f_kc [(84, f_pl [(4466, 12, 123), (1, 0, 0), (0, 0, 0), (0, 0, 0), (1, 0, 0), (0, 0, 0), (0, 0, 0), (1, 0, 0)] [] (fun ls st M => k84 (f_vi (f_nth ls 1)) (f_vi (f_nth ls 4)) (f_vi (f_nth ls 7)) M))]) C qX12_onOnef (f_kc_cons (f_pl_ok rfl (fun ls st M h => h84 _ _ _ M h)) f_kc_nil) 54 36 h
set_option maxRecDepth 20000 in
theorem BX12_onOne_84 {sh : Nat → Nat × Nat} {t : Nat} {rm : Nat × Nat × Nat} {cs : Nat × Nat} {R : f_Rt} {c_X12_placeOn : Int → Int → e_M → (Int → Prop) → Prop} {c_X12_offOn : Int → Int → e_M → (e_M → Prop) → Prop} {c_X12_inOn : Int → Int → Int → e_M → (e_M → Prop) → Prop} {x1 : Int} {x4 : Int} {x7 : Int} {M : e_M} (C : f_Hy sh t yX12_onOne rm cs 5 (lX12_onOne c_X12_placeOn c_X12_offOn c_X12_inOn) R) (h : VX12_onOne_84 c_X12_placeOn c_X12_offOn c_X12_inOn (fun M => R none M) x1 x4 x7 M) : f_E sh t YX12_onOne rm cs (f_Q sh t R) 84 [.inr (.inr (.inl (12, 123, 4456))), .inl x1, .inr (.inr (.inr ())), .inr (.inr (.inr ())), .inl x4, .inr (.inr (.inr ())), .inr (.inr (.inr ())), .inl x7] [] M :=
  f_go (KC := f_kc []) C qX12_onOnef f_kc_nil 54 46 h
set_option maxRecDepth 20000 in
theorem BX12_onOne {sh : Nat → Nat × Nat} {t : Nat} {rm : Nat × Nat × Nat} {cs : Nat × Nat} {R : f_Rt} {c_X12_placeOn : Int → Int → e_M → (Int → Prop) → Prop} {c_X12_offOn : Int → Int → e_M → (e_M → Prop) → Prop} {c_X12_inOn : Int → Int → Int → e_M → (e_M → Prop) → Prop} {k27 : Int → Int → Int → Int → Int → e_M → Prop} {x1 : Int} {x2 : Int} {x3 : Int} {x4 : Int} {M : e_M} (C : f_Hy sh t yX12_onOne rm cs 5 (lX12_onOne c_X12_placeOn c_X12_offOn c_X12_inOn) R) (h27 : ∀ (x1 : Int) (x2 : Int) (x4 : Int) (x5 : Int) (x6 : Int) (M : e_M), k27 x1 x2 x4 x5 x6 M → f_E sh t YX12_onOne rm cs (f_Q sh t R) 27 [.inr (.inr (.inl (12, 123, 4456))), .inl x1, .inl x2, .inr (.inr (.inr ())), .inl x4, .inl x5, .inl x6, .inr (.inr (.inr ()))] [] M) (h : VX12_onOne c_X12_placeOn c_X12_offOn c_X12_inOn k27 (fun M => R none M) x1 x2 x3 x4 M) : f_E sh t YX12_onOne rm cs (f_Q sh t R) 0 [.inr (.inr (.inl (12, 123, 4456))), .inl x1, .inl x2, .inl x3, .inl x4, .inr (.inr (.inr ())), .inr (.inr (.inr ())), .inr (.inr (.inr ()))] [] M :=
  f_go (KC := f_kc [(27, f_pl [(4466, 12, 123), (1, 0, 0), (1, 0, 0), (0, 0, 0), (1, 0, 0), (1, 0, 0), (1, 0, 0), (0, 0, 0)] [] (fun ls st M => k27 (f_vi (f_nth ls 1)) (f_vi (f_nth ls 2)) (f_vi (f_nth ls 4)) (f_vi (f_nth ls 5)) (f_vi (f_nth ls 6)) M))]) C qX12_onOnef (f_kc_cons (f_pl_ok rfl (fun ls st M h => h27 _ _ _ _ _ M h)) f_kc_nil) 54 0 h
def WX12_onOne_84 (Q : e_M → Prop) (x1 : Int) (x4 : Int) (x7 : Int) (M : e_M) : Prop :=
  VX12_onOne_84 WX12_placeOn WX12_offOn WX12_inOn Q x1 x4 x7 M
def WX12_onOne_68 (Q : e_M → Prop) (x1 : Int) (x2 : Int) (x4 : Int) (x5 : Int) (x7 : Int) (M : e_M) : Prop :=
  VX12_onOne_68 WX12_placeOn WX12_offOn WX12_inOn (WX12_onOne_84 Q) Q x1 x2 x4 x5 x7 M
def WX12_onOne_54 (Q : e_M → Prop) (x1 : Int) (x2 : Int) (x4 : Int) (x5 : Int) (x6 : Int) (xs0 : Int) (M : e_M) : Prop :=
  VX12_onOne_54 WX12_placeOn WX12_offOn WX12_inOn (WX12_onOne_68 Q) Q x1 x2 x4 x5 x6 xs0 M
def WX12_onOne_27 (Q : e_M → Prop) (x1 : Int) (x2 : Int) (x4 : Int) (x5 : Int) (x6 : Int) (M : e_M) : Prop :=
  VX12_onOne_27 WX12_placeOn WX12_offOn WX12_inOn (WX12_onOne_54 Q) Q x1 x2 x4 x5 x6 M
def WX12_onOne (x1 : Int) (x2 : Int) (x3 : Int) (x4 : Int) (M : e_M) (Q : e_M → Prop) : Prop :=
  VX12_onOne WX12_placeOn WX12_offOn WX12_inOn (WX12_onOne_27 Q) Q x1 x2 x3 x4 M
theorem PX12_onOne_84 {sh : Nat → Nat × Nat} {t : Nat} {rm : Nat × Nat × Nat} {cs : Nat × Nat} {R : f_Rt} {x1 : Int} {x4 : Int} {x7 : Int} {M : e_M} (C : f_Hy sh t yX12_onOne rm cs 5 (lX12_onOne WX12_placeOn WX12_offOn WX12_inOn) R) (h : WX12_onOne_84 (fun M => R none M) x1 x4 x7 M) : f_E sh t YX12_onOne rm cs (f_Q sh t R) 84 [.inr (.inr (.inl (12, 123, 4456))), .inl x1, .inr (.inr (.inr ())), .inr (.inr (.inr ())), .inl x4, .inr (.inr (.inr ())), .inr (.inr (.inr ())), .inl x7] [] M :=
  BX12_onOne_84 C h
theorem PX12_onOne_68 {sh : Nat → Nat × Nat} {t : Nat} {rm : Nat × Nat × Nat} {cs : Nat × Nat} {R : f_Rt} {x1 : Int} {x2 : Int} {x4 : Int} {x5 : Int} {x7 : Int} {M : e_M} (C : f_Hy sh t yX12_onOne rm cs 5 (lX12_onOne WX12_placeOn WX12_offOn WX12_inOn) R) (h : WX12_onOne_68 (fun M => R none M) x1 x2 x4 x5 x7 M) : f_E sh t YX12_onOne rm cs (f_Q sh t R) 68 [.inr (.inr (.inl (12, 123, 4456))), .inl x1, .inl x2, .inr (.inr (.inr ())), .inl x4, .inl x5, .inr (.inr (.inr ())), .inl x7] [] M :=
  BX12_onOne_68 C (fun x1 x4 x7 M h => PX12_onOne_84 C h) h
theorem PX12_onOne_54 {sh : Nat → Nat × Nat} {t : Nat} {rm : Nat × Nat × Nat} {cs : Nat × Nat} {R : f_Rt} {x1 : Int} {x2 : Int} {x4 : Int} {x5 : Int} {x6 : Int} {xs0 : Int} {M : e_M} (C : f_Hy sh t yX12_onOne rm cs 5 (lX12_onOne WX12_placeOn WX12_offOn WX12_inOn) R) (h : WX12_onOne_54 (fun M => R none M) x1 x2 x4 x5 x6 xs0 M) : f_E sh t YX12_onOne rm cs (f_Q sh t R) 54 [.inr (.inr (.inl (12, 123, 4456))), .inl x1, .inl x2, .inr (.inr (.inr ())), .inl x4, .inl x5, .inl x6, .inr (.inr (.inr ()))] [.inl xs0] M :=
  BX12_onOne_54 C (fun x1 x2 x4 x5 x7 M h => PX12_onOne_68 C h) h
theorem PX12_onOne_27 {sh : Nat → Nat × Nat} {t : Nat} {rm : Nat × Nat × Nat} {cs : Nat × Nat} {R : f_Rt} {x1 : Int} {x2 : Int} {x4 : Int} {x5 : Int} {x6 : Int} {M : e_M} (C : f_Hy sh t yX12_onOne rm cs 5 (lX12_onOne WX12_placeOn WX12_offOn WX12_inOn) R) (h : WX12_onOne_27 (fun M => R none M) x1 x2 x4 x5 x6 M) : f_E sh t YX12_onOne rm cs (f_Q sh t R) 27 [.inr (.inr (.inl (12, 123, 4456))), .inl x1, .inl x2, .inr (.inr (.inr ())), .inl x4, .inl x5, .inl x6, .inr (.inr (.inr ()))] [] M :=
  BX12_onOne_27 C (fun x1 x2 x4 x5 x6 xs0 M h => PX12_onOne_54 C h) h
theorem PX12_onOne {sh : Nat → Nat × Nat} {t : Nat} {rm : Nat × Nat × Nat} {cs : Nat × Nat} {R : f_Rt} {x1 : Int} {x2 : Int} {x3 : Int} {x4 : Int} {M : e_M} (C : f_Hy sh t yX12_onOne rm cs 5 (lX12_onOne WX12_placeOn WX12_offOn WX12_inOn) R) (h : WX12_onOne x1 x2 x3 x4 M (fun M => R none M)) : f_E sh t YX12_onOne rm cs (f_Q sh t R) 0 [.inr (.inr (.inl (12, 123, 4456))), .inl x1, .inl x2, .inl x3, .inl x4, .inr (.inr (.inr ())), .inr (.inr (.inr ())), .inr (.inr (.inr ()))] [] M :=
  BX12_onOne C (fun x1 x2 x4 x5 x6 M h => PX12_onOne_27 C h) h
def wX12_onOne : f_Wt := f_wm [(4466, 12, 123), (1, 0, 0), (1, 0, 0), (1, 0, 0), (1, 0, 0)] (fun ar M R => WX12_onOne (f_vi (f_nth ar 1)) (f_vi (f_nth ar 2)) (f_vi (f_nth ar 3)) (f_vi (f_nth ar 4)) M (fun M => R none M))
theorem TX12_onOne {sh : Nat → Nat × Nat} {t : Nat} : f_Mt sh t YX12_onOne 5 (wX12_onOne) :=
  f_Mt_of (k := 3) (Nat.le_of_ble_eq_true rfl) rfl rfl (fun ar M R rm cs h1 h2 h3 hX h => PX12_onOne ⟨Nat.le_of_ble_eq_true rfl, h1, h2, h3, ⟨(f_Mt.up (Nat.le_of_ble_eq_true rfl) TX12_placeOn), (f_Mt.up (Nat.le_of_ble_eq_true rfl) TX12_offOn), (f_Mt.up (Nat.le_of_ble_eq_true rfl) TX12_inOn), trivial⟩, hX⟩ h)
def VX12_ofOne_27 (c_X12_placeOf : Int → Int → e_M → (Int → Prop) → Prop) (c_X12_offOf : Int → Int → e_M → (e_M → Prop) → Prop) (c_X12_inOf : Int → Int → Int → e_M → (e_M → Prop) → Prop) (k54 : Int → Int → Int → Int → Int → Int → e_M → Prop) (Q : e_M → Prop) (x1 : Int) (x2 : Int) (x4 : Int) (x5 : Int) (x6 : Int) (M : e_M) : Prop :=
  ((0 ≤ x5 → ((0 ≤ x6 → (k54 x1 x2 x4 x5 x6 (e_min x5 x6) M)) ∧ (x6 < 0 → (k54 x1 x2 x4 x5 x6 x5 M)))) ∧ (x5 < 0 → (k54 x1 x2 x4 x5 x6 x6 M)))
def VX12_ofOne_54 (c_X12_placeOf : Int → Int → e_M → (Int → Prop) → Prop) (c_X12_offOf : Int → Int → e_M → (e_M → Prop) → Prop) (c_X12_inOf : Int → Int → Int → e_M → (e_M → Prop) → Prop) (k68 : Int → Int → Int → Int → Int → e_M → Prop) (Q : e_M → Prop) (x1 : Int) (x2 : Int) (x4 : Int) (x5 : Int) (x6 : Int) (xs0 : Int) (M : e_M) : Prop :=
  ((x6 < 0 → (k68 x1 x2 x4 x5 xs0 M)) ∧ (0 ≤ x6 → (c_X12_offOf x1 x6 M (fun M1 => (k68 x1 x2 x4 x5 xs0 M1)))))
def VX12_ofOne_68 (c_X12_placeOf : Int → Int → e_M → (Int → Prop) → Prop) (c_X12_offOf : Int → Int → e_M → (e_M → Prop) → Prop) (c_X12_inOf : Int → Int → Int → e_M → (e_M → Prop) → Prop) (k84 : Int → Int → Int → e_M → Prop) (Q : e_M → Prop) (x1 : Int) (x2 : Int) (x4 : Int) (x5 : Int) (x7 : Int) (M : e_M) : Prop :=
  ((x5 < 0 → (k84 x1 x4 x7 M)) ∧ (0 ≤ x5 → (c_X12_placeOf x1 x2 M (fun r1 => (c_X12_offOf x1 r1 M (fun M2 => (k84 x1 x4 x7 M2)))))))
def VX12_ofOne_84 (c_X12_placeOf : Int → Int → e_M → (Int → Prop) → Prop) (c_X12_offOf : Int → Int → e_M → (e_M → Prop) → Prop) (c_X12_inOf : Int → Int → Int → e_M → (e_M → Prop) → Prop) (Q : e_M → Prop) (x1 : Int) (x4 : Int) (x7 : Int) (M : e_M) : Prop :=
  (c_X12_inOf x1 x7 x4 M (fun M1 => (Q M1)))
def VX12_ofOne (c_X12_placeOf : Int → Int → e_M → (Int → Prop) → Prop) (c_X12_offOf : Int → Int → e_M → (e_M → Prop) → Prop) (c_X12_inOf : Int → Int → Int → e_M → (e_M → Prop) → Prop) (k27 : Int → Int → Int → Int → Int → e_M → Prop) (Q : e_M → Prop) (x1 : Int) (x2 : Int) (x3 : Int) (x4 : Int) (M : e_M) : Prop :=
  (c_X12_placeOf x1 x2 M (fun r1 => (c_X12_placeOf x1 x3 M (fun r2 => ((0 ≤ r1 → (k27 x1 x2 x4 r1 r2 M)) ∧ (r1 < 0 → ((0 ≤ r2 → (k27 x1 x2 x4 r1 r2 M)) ∧ (r2 < 0 → (Q M)))))))))
def yX12_ofOne (i : Nat) : e_Y := x_get YX12_ofOne [YX12_placeOf, YX12_offOf, YX12_inOf] i
def pX12_ofOnef : List x_I := [(0, 4, 1, 0, 0, 0, []), (1, 2, 1, 1, 0, 0, []), (2, 2, 1, 2, 0, 0, []), (3, 40, 0, 3, 14, 0, []), (6, 5, 2, 5, 0, 0, []), (8, 4, 1, 0, 0, 0, []), (9, 2, 1, 1, 0, 0, []), (10, 2, 1, 3, 0, 0, []), (11, 40, 0, 3, 14, 0, []), (14, 5, 2, 6, 0, 0, []), (16, 2, 2, 5, 0, 0, []), (18, 17, 27, 3, 16, 0, []), (21, 2, 2, 6, 0, 0, []), (23, 17, 27, 3, 16, 0, []), (26, 44, 0, 0, 0, 0, []), (27, 49, 0, 0, 0, 0, []), (27, 2, 2, 5, 0, 0, []), (29, 17, 37, 3, 21, 0, []), (32, 2, 2, 6, 0, 0, []), (34, 19, 54, 0, 28, 0, []), (37, 2, 2, 6, 0, 0, []), (39, 17, 47, 3, 25, 0, []), (42, 2, 2, 5, 0, 0, []), (44, 19, 54, 0, 28, 0, []), (47, 2, 2, 5, 0, 0, []), (49, 2, 2, 6, 0, 0, []), (51, 39, 0, 0, 0, 0, []), (54, 49, 0, 0, 0, 0, []), (54, 5, 2, 7, 0, 0, []), (56, 2, 2, 6, 0, 0, []), (58, 17, 68, 2, 36, 0, []), (61, 4, 1, 0, 0, 0, []), (62, 2, 1, 1, 0, 0, []), (63, 2, 2, 6, 0, 0, []), (65, 40, 1, 3, 14, 0, []), (68, 49, 0, 0, 0, 0, []), (68, 2, 2, 5, 0, 0, []), (70, 17, 84, 2, 46, 0, []), (73, 4, 1, 0, 0, 0, []), (74, 2, 1, 1, 0, 0, []), (75, 4, 1, 0, 0, 0, []), (76, 2, 1, 1, 0, 0, []), (77, 2, 1, 2, 0, 0, []), (78, 40, 0, 3, 14, 0, []), (81, 40, 1, 3, 14, 0, []), (84, 49, 0, 0, 0, 0, []), (84, 4, 1, 0, 0, 0, []), (85, 2, 1, 1, 0, 0, []), (86, 2, 2, 7, 0, 0, []), (88, 2, 2, 4, 0, 0, []), (90, 40, 2, 4, 14, 0, []), (93, 44, 0, 0, 0, 0, [])]
set_option maxRecDepth 20000 in
theorem qX12_ofOnef : f_all yX12_ofOne YX12_ofOne pX12_ofOnef :=
  ⟨f_aload_n (n := 0) (e_dx DX12_ofOne_0 0 rfl) rfl,
  f_iload_n (n := 1) (e_dx DX12_ofOne_0 1 rfl) rfl,
  f_iload_n (n := 2) (e_dx DX12_ofOne_0 2 rfl) rfl,
  x_callV (e_dx DX12_ofOne_0 3 rfl) mwX12_placeOf vwX12_placeOf cX12_704 rfl,
  f_istore (e_dx DX12_ofOne_0 4 rfl) (by decide),
  f_aload_n (n := 0) (e_dx DX12_ofOne_0 5 rfl) rfl,
  f_iload_n (n := 1) (e_dx DX12_ofOne_0 6 rfl) rfl,
  f_iload_n (n := 3) (e_dx DX12_ofOne_0 7 rfl) rfl,
  x_callV (e_dx DX12_ofOne_0 8 rfl) mwX12_placeOf vwX12_placeOf cX12_704 rfl,
  f_istore (e_dx DX12_ofOne_0 9 rfl) (by decide),
  f_iload (e_dx DX12_ofOne_0 10 rfl),
  f_if_ge (e_dx DX12_ofOne_0 11 rfl) rfl,
  f_iload (e_dx DX12_ofOne_0 12 rfl),
  f_if_ge (e_dx DX12_ofOne_0 13 rfl) rfl,
  ⟨(e_dx DX12_ofOne_0 14 rfl), rfl⟩,
  trivial,
  f_iload (e_dx DX12_ofOne_0 15 rfl),
  f_if_ge (e_dx DX12_ofOne_0 16 rfl) rfl,
  f_iload (e_dx DX12_ofOne_0 17 rfl),
  f_g19 (e_dx DX12_ofOne_0 18 rfl) rfl,
  f_iload (e_dx DX12_ofOne_0 19 rfl),
  f_if_ge (e_dx DX12_ofOne_0 20 rfl) rfl,
  f_iload (e_dx DX12_ofOne_0 21 rfl),
  f_g19 (e_dx DX12_ofOne_0 22 rfl) rfl,
  f_iload (e_dx DX12_ofOne_0 23 rfl),
  f_iload (e_dx DX12_ofOne_0 24 rfl),
  f_mminI (e_dx DX12_ofOne_0 25 rfl) cX12_523 fm_s_mminI fm_i fm_c_mminI,
  trivial,
  f_istore (e_dx DX12_ofOne_0 26 rfl) (by decide),
  f_iload (e_dx DX12_ofOne_0 27 rfl),
  f_if_lt (e_dx DX12_ofOne_0 28 rfl) rfl,
  f_aload_n (n := 0) (e_dx DX12_ofOne_0 29 rfl) rfl,
  f_iload_n (n := 1) (e_dx DX12_ofOne_0 30 rfl) rfl,
  f_iload (e_dx DX12_ofOne_0 31 rfl),
  x_callV (e_dx DX12_ofOne_0 32 rfl) mwX12_offOf vwX12_offOf cX12_723 rfl,
  trivial,
  f_iload (e_dx DX12_ofOne_0 33 rfl),
  f_if_lt (e_dx DX12_ofOne_0 34 rfl) rfl,
  f_aload_n (n := 0) (e_dx DX12_ofOne_0 35 rfl) rfl,
  f_iload_n (n := 1) (e_dx DX12_ofOne_0 36 rfl) rfl,
  f_aload_n (n := 0) (e_dx DX12_ofOne_0 37 rfl) rfl,
  f_iload_n (n := 1) (e_dx DX12_ofOne_0 38 rfl) rfl,
  f_iload_n (n := 2) (e_dx DX12_ofOne_0 39 rfl) rfl,
  x_callV (e_dx DX12_ofOne_1 0 rfl) mwX12_placeOf vwX12_placeOf cX12_704 rfl,
  x_callV (e_dx DX12_ofOne_1 1 rfl) mwX12_offOf vwX12_offOf cX12_723 rfl,
  trivial,
  f_aload_n (n := 0) (e_dx DX12_ofOne_1 2 rfl) rfl,
  f_iload_n (n := 1) (e_dx DX12_ofOne_1 3 rfl) rfl,
  f_iload (e_dx DX12_ofOne_1 4 rfl),
  f_iload (e_dx DX12_ofOne_1 5 rfl),
  x_callV (e_dx DX12_ofOne_1 6 rfl) mwX12_inOf vwX12_inOf cX12_726 rfl,
  ⟨(e_dx DX12_ofOne_1 7 rfl), rfl⟩, trivial⟩
def lX12_ofOne (c_X12_placeOf : Int → Int → e_M → (Int → Prop) → Prop) (c_X12_offOf : Int → Int → e_M → (e_M → Prop) → Prop) (c_X12_inOf : Int → Int → Int → e_M → (e_M → Prop) → Prop) : List (Nat × f_Wt) := [(0, f_wm [(4466, 12, 123), (1, 0, 0), (1, 0, 0)] (fun ar M R => c_X12_placeOf (f_vi (f_nth ar 1)) (f_vi (f_nth ar 2)) M (fun r => R (some (.inl r)) M))), (1, f_wm [(4466, 12, 123), (1, 0, 0), (1, 0, 0)] (fun ar M R => c_X12_offOf (f_vi (f_nth ar 1)) (f_vi (f_nth ar 2)) M (fun M => R none M))), (2, f_wm [(4466, 12, 123), (1, 0, 0), (1, 0, 0), (1, 0, 0)] (fun ar M R => c_X12_inOf (f_vi (f_nth ar 1)) (f_vi (f_nth ar 2)) (f_vi (f_nth ar 3)) M (fun M => R none M)))]
set_option maxRecDepth 20000 in
theorem BX12_ofOne_27 {sh : Nat → Nat × Nat} {t : Nat} {rm : Nat × Nat × Nat} {cs : Nat × Nat} {R : f_Rt} {c_X12_placeOf : Int → Int → e_M → (Int → Prop) → Prop} {c_X12_offOf : Int → Int → e_M → (e_M → Prop) → Prop} {c_X12_inOf : Int → Int → Int → e_M → (e_M → Prop) → Prop} {k54 : Int → Int → Int → Int → Int → Int → e_M → Prop} {x1 : Int} {x2 : Int} {x4 : Int} {x5 : Int} {x6 : Int} {M : e_M} (C : f_Hy sh t yX12_ofOne rm cs 5 (lX12_ofOne c_X12_placeOf c_X12_offOf c_X12_inOf) R) (h54 : ∀ (x1 : Int) (x2 : Int) (x4 : Int) (x5 : Int) (x6 : Int) (xs0 : Int) (M : e_M), k54 x1 x2 x4 x5 x6 xs0 M → f_E sh t YX12_ofOne rm cs (f_Q sh t R) 54 [.inr (.inr (.inl (12, 123, 4456))), .inl x1, .inl x2, .inr (.inr (.inr ())), .inl x4, .inl x5, .inl x6, .inr (.inr (.inr ()))] [.inl xs0] M) (h : VX12_ofOne_27 c_X12_placeOf c_X12_offOf c_X12_inOf k54 (fun M => R none M) x1 x2 x4 x5 x6 M) : f_E sh t YX12_ofOne rm cs (f_Q sh t R) 27 [.inr (.inr (.inl (12, 123, 4456))), .inl x1, .inl x2, .inr (.inr (.inr ())), .inl x4, .inl x5, .inl x6, .inr (.inr (.inr ()))] [] M :=
  f_go (KC := f_kc [(54, f_pl [(4466, 12, 123), (1, 0, 0), (1, 0, 0), (0, 0, 0), (1, 0, 0), (1, 0, 0), (1, 0, 0), (0, 0, 0)] [(1, 0, 0)] (fun ls st M => k54 (f_vi (f_nth ls 1)) (f_vi (f_nth ls 2)) (f_vi (f_nth ls 4)) (f_vi (f_nth ls 5)) (f_vi (f_nth ls 6)) (f_vi (f_nth st 0)) M))]) C qX12_ofOnef (f_kc_cons (f_pl_ok rfl (fun ls st M h => h54 _ _ _ _ _ _ M h)) f_kc_nil) 54 16 h
set_option maxRecDepth 20000 in
theorem BX12_ofOne_54 {sh : Nat → Nat × Nat} {t : Nat} {rm : Nat × Nat × Nat} {cs : Nat × Nat} {R : f_Rt} {c_X12_placeOf : Int → Int → e_M → (Int → Prop) → Prop} {c_X12_offOf : Int → Int → e_M → (e_M → Prop) → Prop} {c_X12_inOf : Int → Int → Int → e_M → (e_M → Prop) → Prop} {k68 : Int → Int → Int → Int → Int → e_M → Prop} {x1 : Int} {x2 : Int} {x4 : Int} {x5 : Int} {x6 : Int} {xs0 : Int} {M : e_M} (C : f_Hy sh t yX12_ofOne rm cs 5 (lX12_ofOne c_X12_placeOf c_X12_offOf c_X12_inOf) R) (h68 : ∀ (x1 : Int) (x2 : Int) (x4 : Int) (x5 : Int) (x7 : Int) (M : e_M), k68 x1 x2 x4 x5 x7 M → f_E sh t YX12_ofOne rm cs (f_Q sh t R) 68 [.inr (.inr (.inl (12, 123, 4456))), .inl x1, .inl x2, .inr (.inr (.inr ())), .inl x4, .inl x5, .inr (.inr (.inr ())), .inl x7] [] M) (h : VX12_ofOne_54 c_X12_placeOf c_X12_offOf c_X12_inOf k68 (fun M => R none M) x1 x2 x4 x5 x6 xs0 M) : f_E sh t YX12_ofOne rm cs (f_Q sh t R) 54 [.inr (.inr (.inl (12, 123, 4456))), .inl x1, .inl x2, .inr (.inr (.inr ())), .inl x4, .inl x5, .inl x6, .inr (.inr (.inr ()))] [.inl xs0] M :=
  f_go (KC := f_kc [(68, f_pl [(4466, 12, 123), (1, 0, 0), (1, 0, 0), (0, 0, 0), (1, 0, 0), (1, 0, 0), (0, 0, 0), (1, 0, 0)] [] (fun ls st M => k68 (f_vi (f_nth ls 1)) (f_vi (f_nth ls 2)) (f_vi (f_nth ls 4)) (f_vi (f_nth ls 5)) (f_vi (f_nth ls 7)) M))]) C qX12_ofOnef (f_kc_cons (f_pl_ok rfl (fun ls st M h => h68 _ _ _ _ _ M h)) f_kc_nil) 54 28 h
set_option maxRecDepth 20000 in
theorem BX12_ofOne_68 {sh : Nat → Nat × Nat} {t : Nat} {rm : Nat × Nat × Nat} {cs : Nat × Nat} {R : f_Rt} {c_X12_placeOf : Int → Int → e_M → (Int → Prop) → Prop} {c_X12_offOf : Int → Int → e_M → (e_M → Prop) → Prop} {c_X12_inOf : Int → Int → Int → e_M → (e_M → Prop) → Prop} {k84 : Int → Int → Int → e_M → Prop} {x1 : Int} {x2 : Int} {x4 : Int} {x5 : Int} {x7 : Int} {M : e_M} (C : f_Hy sh t yX12_ofOne rm cs 5 (lX12_ofOne c_X12_placeOf c_X12_offOf c_X12_inOf) R) (h84 : ∀ (x1 : Int) (x4 : Int) (x7 : Int) (M : e_M), k84 x1 x4 x7 M → f_E sh t YX12_ofOne rm cs (f_Q sh t R) 84 [.inr (.inr (.inl (12, 123, 4456))), .inl x1, .inr (.inr (.inr ())), .inr (.inr (.inr ())), .inl x4, .inr (.inr (.inr ())), .inr (.inr (.inr ())), .inl x7] [] M) (h : VX12_ofOne_68 c_X12_placeOf c_X12_offOf c_X12_inOf k84 (fun M => R none M) x1 x2 x4 x5 x7 M) : f_E sh t YX12_ofOne rm cs (f_Q sh t R) 68 [.inr (.inr (.inl (12, 123, 4456))), .inl x1, .inl x2, .inr (.inr (.inr ())), .inl x4, .inl x5, .inr (.inr (.inr ())), .inl x7] [] M :=
  f_go (KC := f_kc [(84, f_pl [(4466, 12, 123), (1, 0, 0), (0, 0, 0), (0, 0, 0), (1, 0, 0), (0, 0, 0), (0, 0, 0), (1, 0, 0)] [] (fun ls st M => k84 (f_vi (f_nth ls 1)) (f_vi (f_nth ls 4)) (f_vi (f_nth ls 7)) M))]) C qX12_ofOnef (f_kc_cons (f_pl_ok rfl (fun ls st M h => h84 _ _ _ M h)) f_kc_nil) 54 36 h
set_option maxRecDepth 20000 in
theorem BX12_ofOne_84 {sh : Nat → Nat × Nat} {t : Nat} {rm : Nat × Nat × Nat} {cs : Nat × Nat} {R : f_Rt} {c_X12_placeOf : Int → Int → e_M → (Int → Prop) → Prop} {c_X12_offOf : Int → Int → e_M → (e_M → Prop) → Prop} {c_X12_inOf : Int → Int → Int → e_M → (e_M → Prop) → Prop} {x1 : Int} {x4 : Int} {x7 : Int} {M : e_M} (C : f_Hy sh t yX12_ofOne rm cs 5 (lX12_ofOne c_X12_placeOf c_X12_offOf c_X12_inOf) R) (h : VX12_ofOne_84 c_X12_placeOf c_X12_offOf c_X12_inOf (fun M => R none M) x1 x4 x7 M) : f_E sh t YX12_ofOne rm cs (f_Q sh t R) 84 [.inr (.inr (.inl (12, 123, 4456))), .inl x1, .inr (.inr (.inr ())), .inr (.inr (.inr ())), .inl x4, .inr (.inr (.inr ())), .inr (.inr (.inr ())), .inl x7] [] M :=
  f_go (KC := f_kc []) C qX12_ofOnef f_kc_nil 54 46 h
set_option maxRecDepth 20000 in
theorem BX12_ofOne {sh : Nat → Nat × Nat} {t : Nat} {rm : Nat × Nat × Nat} {cs : Nat × Nat} {R : f_Rt} {c_X12_placeOf : Int → Int → e_M → (Int → Prop) → Prop} {c_X12_offOf : Int → Int → e_M → (e_M → Prop) → Prop} {c_X12_inOf : Int → Int → Int → e_M → (e_M → Prop) → Prop} {k27 : Int → Int → Int → Int → Int → e_M → Prop} {x1 : Int} {x2 : Int} {x3 : Int} {x4 : Int} {M : e_M} (C : f_Hy sh t yX12_ofOne rm cs 5 (lX12_ofOne c_X12_placeOf c_X12_offOf c_X12_inOf) R) (h27 : ∀ (x1 : Int) (x2 : Int) (x4 : Int) (x5 : Int) (x6 : Int) (M : e_M), k27 x1 x2 x4 x5 x6 M → f_E sh t YX12_ofOne rm cs (f_Q sh t R) 27 [.inr (.inr (.inl (12, 123, 4456))), .inl x1, .inl x2, .inr (.inr (.inr ())), .inl x4, .inl x5, .inl x6, .inr (.inr (.inr ()))] [] M) (h : VX12_ofOne c_X12_placeOf c_X12_offOf c_X12_inOf k27 (fun M => R none M) x1 x2 x3 x4 M) : f_E sh t YX12_ofOne rm cs (f_Q sh t R) 0 [.inr (.inr (.inl (12, 123, 4456))), .inl x1, .inl x2, .inl x3, .inl x4, .inr (.inr (.inr ())), .inr (.inr (.inr ())), .inr (.inr (.inr ()))] [] M :=
  f_go (KC := f_kc [(27, f_pl [(4466, 12, 123), (1, 0, 0), (1, 0, 0), (0, 0, 0), (1, 0, 0), (1, 0, 0), (1, 0, 0), (0, 0, 0)] [] (fun ls st M => k27 (f_vi (f_nth ls 1)) (f_vi (f_nth ls 2)) (f_vi (f_nth ls 4)) (f_vi (f_nth ls 5)) (f_vi (f_nth ls 6)) M))]) C qX12_ofOnef (f_kc_cons (f_pl_ok rfl (fun ls st M h => h27 _ _ _ _ _ M h)) f_kc_nil) 54 0 h
def WX12_ofOne_84 (Q : e_M → Prop) (x1 : Int) (x4 : Int) (x7 : Int) (M : e_M) : Prop :=
  VX12_ofOne_84 WX12_placeOf WX12_offOf WX12_inOf Q x1 x4 x7 M
def WX12_ofOne_68 (Q : e_M → Prop) (x1 : Int) (x2 : Int) (x4 : Int) (x5 : Int) (x7 : Int) (M : e_M) : Prop :=
  VX12_ofOne_68 WX12_placeOf WX12_offOf WX12_inOf (WX12_ofOne_84 Q) Q x1 x2 x4 x5 x7 M
def WX12_ofOne_54 (Q : e_M → Prop) (x1 : Int) (x2 : Int) (x4 : Int) (x5 : Int) (x6 : Int) (xs0 : Int) (M : e_M) : Prop :=
  VX12_ofOne_54 WX12_placeOf WX12_offOf WX12_inOf (WX12_ofOne_68 Q) Q x1 x2 x4 x5 x6 xs0 M
def WX12_ofOne_27 (Q : e_M → Prop) (x1 : Int) (x2 : Int) (x4 : Int) (x5 : Int) (x6 : Int) (M : e_M) : Prop :=
  VX12_ofOne_27 WX12_placeOf WX12_offOf WX12_inOf (WX12_ofOne_54 Q) Q x1 x2 x4 x5 x6 M
def WX12_ofOne (x1 : Int) (x2 : Int) (x3 : Int) (x4 : Int) (M : e_M) (Q : e_M → Prop) : Prop :=
  VX12_ofOne WX12_placeOf WX12_offOf WX12_inOf (WX12_ofOne_27 Q) Q x1 x2 x3 x4 M
theorem PX12_ofOne_84 {sh : Nat → Nat × Nat} {t : Nat} {rm : Nat × Nat × Nat} {cs : Nat × Nat} {R : f_Rt} {x1 : Int} {x4 : Int} {x7 : Int} {M : e_M} (C : f_Hy sh t yX12_ofOne rm cs 5 (lX12_ofOne WX12_placeOf WX12_offOf WX12_inOf) R) (h : WX12_ofOne_84 (fun M => R none M) x1 x4 x7 M) : f_E sh t YX12_ofOne rm cs (f_Q sh t R) 84 [.inr (.inr (.inl (12, 123, 4456))), .inl x1, .inr (.inr (.inr ())), .inr (.inr (.inr ())), .inl x4, .inr (.inr (.inr ())), .inr (.inr (.inr ())), .inl x7] [] M :=
  BX12_ofOne_84 C h
theorem PX12_ofOne_68 {sh : Nat → Nat × Nat} {t : Nat} {rm : Nat × Nat × Nat} {cs : Nat × Nat} {R : f_Rt} {x1 : Int} {x2 : Int} {x4 : Int} {x5 : Int} {x7 : Int} {M : e_M} (C : f_Hy sh t yX12_ofOne rm cs 5 (lX12_ofOne WX12_placeOf WX12_offOf WX12_inOf) R) (h : WX12_ofOne_68 (fun M => R none M) x1 x2 x4 x5 x7 M) : f_E sh t YX12_ofOne rm cs (f_Q sh t R) 68 [.inr (.inr (.inl (12, 123, 4456))), .inl x1, .inl x2, .inr (.inr (.inr ())), .inl x4, .inl x5, .inr (.inr (.inr ())), .inl x7] [] M :=
  BX12_ofOne_68 C (fun x1 x4 x7 M h => PX12_ofOne_84 C h) h
theorem PX12_ofOne_54 {sh : Nat → Nat × Nat} {t : Nat} {rm : Nat × Nat × Nat} {cs : Nat × Nat} {R : f_Rt} {x1 : Int} {x2 : Int} {x4 : Int} {x5 : Int} {x6 : Int} {xs0 : Int} {M : e_M} (C : f_Hy sh t yX12_ofOne rm cs 5 (lX12_ofOne WX12_placeOf WX12_offOf WX12_inOf) R) (h : WX12_ofOne_54 (fun M => R none M) x1 x2 x4 x5 x6 xs0 M) : f_E sh t YX12_ofOne rm cs (f_Q sh t R) 54 [.inr (.inr (.inl (12, 123, 4456))), .inl x1, .inl x2, .inr (.inr (.inr ())), .inl x4, .inl x5, .inl x6, .inr (.inr (.inr ()))] [.inl xs0] M :=
  BX12_ofOne_54 C (fun x1 x2 x4 x5 x7 M h => PX12_ofOne_68 C h) h
theorem PX12_ofOne_27 {sh : Nat → Nat × Nat} {t : Nat} {rm : Nat × Nat × Nat} {cs : Nat × Nat} {R : f_Rt} {x1 : Int} {x2 : Int} {x4 : Int} {x5 : Int} {x6 : Int} {M : e_M} (C : f_Hy sh t yX12_ofOne rm cs 5 (lX12_ofOne WX12_placeOf WX12_offOf WX12_inOf) R) (h : WX12_ofOne_27 (fun M => R none M) x1 x2 x4 x5 x6 M) : f_E sh t YX12_ofOne rm cs (f_Q sh t R) 27 [.inr (.inr (.inl (12, 123, 4456))), .inl x1, .inl x2, .inr (.inr (.inr ())), .inl x4, .inl x5, .inl x6, .inr (.inr (.inr ()))] [] M :=
  BX12_ofOne_27 C (fun x1 x2 x4 x5 x6 xs0 M h => PX12_ofOne_54 C h) h
theorem PX12_ofOne {sh : Nat → Nat × Nat} {t : Nat} {rm : Nat × Nat × Nat} {cs : Nat × Nat} {R : f_Rt} {x1 : Int} {x2 : Int} {x3 : Int} {x4 : Int} {M : e_M} (C : f_Hy sh t yX12_ofOne rm cs 5 (lX12_ofOne WX12_placeOf WX12_offOf WX12_inOf) R) (h : WX12_ofOne x1 x2 x3 x4 M (fun M => R none M)) : f_E sh t YX12_ofOne rm cs (f_Q sh t R) 0 [.inr (.inr (.inl (12, 123, 4456))), .inl x1, .inl x2, .inl x3, .inl x4, .inr (.inr (.inr ())), .inr (.inr (.inr ())), .inr (.inr (.inr ()))] [] M :=
  BX12_ofOne C (fun x1 x2 x4 x5 x6 M h => PX12_ofOne_27 C h) h
def wX12_ofOne : f_Wt := f_wm [(4466, 12, 123), (1, 0, 0), (1, 0, 0), (1, 0, 0), (1, 0, 0)] (fun ar M R => WX12_ofOne (f_vi (f_nth ar 1)) (f_vi (f_nth ar 2)) (f_vi (f_nth ar 3)) (f_vi (f_nth ar 4)) M (fun M => R none M))
theorem TX12_ofOne {sh : Nat → Nat × Nat} {t : Nat} : f_Mt sh t YX12_ofOne 5 (wX12_ofOne) :=
  f_Mt_of (k := 3) (Nat.le_of_ble_eq_true rfl) rfl rfl (fun ar M R rm cs h1 h2 h3 hX h => PX12_ofOne ⟨Nat.le_of_ble_eq_true rfl, h1, h2, h3, ⟨(f_Mt.up (Nat.le_of_ble_eq_true rfl) TX12_placeOf), (f_Mt.up (Nat.le_of_ble_eq_true rfl) TX12_offOf), (f_Mt.up (Nat.le_of_ble_eq_true rfl) TX12_inOf), trivial⟩, hX⟩ h)
def VX12_join_165 (c_X12_areAble : Int → e_M → (Int → Prop) → Prop) (c_X12_areAlike : Int → Int → e_M → (Int → Prop) → Prop) (c_X12_isBarred : Int → Int → e_M → (Int → Prop) → Prop) (c_X12_bearAlike : Int → Int → e_M → (Int → Prop) → Prop) (c_X12_joins : Int → Int → Int → Int → e_M → (Int → e_M → Prop) → Prop) (c_X12_full : Int → Int → e_M → (Int → Prop) → Prop) (c_X12_newLot : Int → Int → Int → Int → e_M → (Int → e_M → Prop) → Prop) (c_X12_id : Int → Int → e_M → (Int → Prop) → Prop) (c_X12_isThere : Int → Int → Int → e_M → (Int → Prop) → Prop) (c_X12_onOne : Int → Int → Int → Int → e_M → (e_M → Prop) → Prop) (c_X12_ofOne : Int → Int → Int → Int → e_M → (e_M → Prop) → Prop) (c_X12_placeOn : Int → Int → e_M → (Int → Prop) → Prop) (c_X12_placeOf : Int → Int → e_M → (Int → Prop) → Prop) (c_X12_offOn : Int → Int → e_M → (e_M → Prop) → Prop) (k175 : Int → Int → Int → Int → Int → e_M → Prop) (Q : Int → e_M → Prop) (x2 : Int) (x3 : Int) (x4 : Int) (x5 : Int) (M : e_M) : Prop :=
  ((6 < x5 → (Q 0 M)) ∧ (x5 ≤ 6 → (k175 x2 x3 x4 x5 0 M)))
def VX12_join_175 (c_X12_areAble : Int → e_M → (Int → Prop) → Prop) (c_X12_areAlike : Int → Int → e_M → (Int → Prop) → Prop) (c_X12_isBarred : Int → Int → e_M → (Int → Prop) → Prop) (c_X12_bearAlike : Int → Int → e_M → (Int → Prop) → Prop) (c_X12_joins : Int → Int → Int → Int → e_M → (Int → e_M → Prop) → Prop) (c_X12_full : Int → Int → e_M → (Int → Prop) → Prop) (c_X12_newLot : Int → Int → Int → Int → e_M → (Int → e_M → Prop) → Prop) (c_X12_id : Int → Int → e_M → (Int → Prop) → Prop) (c_X12_isThere : Int → Int → Int → e_M → (Int → Prop) → Prop) (c_X12_onOne : Int → Int → Int → Int → e_M → (e_M → Prop) → Prop) (c_X12_ofOne : Int → Int → Int → Int → e_M → (e_M → Prop) → Prop) (c_X12_placeOn : Int → Int → e_M → (Int → Prop) → Prop) (c_X12_placeOf : Int → Int → e_M → (Int → Prop) → Prop) (c_X12_offOn : Int → Int → e_M → (e_M → Prop) → Prop) (k165 : Int → Int → Int → Int → e_M → Prop) (k301 : Int → Int → Int → Int → Int → e_M → Prop) (k283 : Int → Int → Int → Int → Int → Int → e_M → Prop) (Q : Int → e_M → Prop) (x2 : Int) (x3 : Int) (x4 : Int) (x5 : Int) (x6 : Int) (M : e_M) : Prop :=
  ((0 ≤ x5 ∧ x5 < 7) ∧ (((M 4483 (x5.toNat)) ≤ x6 → (k165 x2 x3 x4 (e_w32 (x5 + 1)) M)) ∧ (x6 < (M 4483 (x5.toNat)) → (c_X12_id x5 x6 M (fun r1 => ((x5 = 5 → (k301 x2 x3 x4 x5 x6 M)) ∧ (¬ x5 = 5 → (c_X12_isThere x5 x6 (M 4456 86) M (fun r2 => ((¬ r2 = 0 → (c_X12_onOne r1 x2 x3 x4 M (fun M3 => ((x5 = 3 → (c_X12_ofOne r1 x2 x3 x4 M3 (fun M4 => (c_X12_placeOn r1 x4 M4 (fun r5 => ((r5 < 0 → (k283 x2 x3 x4 x5 x6 r1 M4)) ∧ (0 ≤ r5 → (c_X12_placeOf r1 x4 M4 (fun r6 => ((r6 < 0 → (k283 x2 x3 x4 x5 x6 r1 M4)) ∧ (0 ≤ r6 → (c_X12_offOn r1 r5 M4 (fun M7 => (k283 x2 x3 x4 x5 x6 r1 M7)))))))))))))) ∧ (¬ x5 = 3 → (k301 x2 x3 x4 x5 x6 M3)))))) ∧ (r2 = 0 → (k301 x2 x3 x4 x5 x6 M))))))))))))
def VX12_join_283 (c_X12_areAble : Int → e_M → (Int → Prop) → Prop) (c_X12_areAlike : Int → Int → e_M → (Int → Prop) → Prop) (c_X12_isBarred : Int → Int → e_M → (Int → Prop) → Prop) (c_X12_bearAlike : Int → Int → e_M → (Int → Prop) → Prop) (c_X12_joins : Int → Int → Int → Int → e_M → (Int → e_M → Prop) → Prop) (c_X12_full : Int → Int → e_M → (Int → Prop) → Prop) (c_X12_newLot : Int → Int → Int → Int → e_M → (Int → e_M → Prop) → Prop) (c_X12_id : Int → Int → e_M → (Int → Prop) → Prop) (c_X12_isThere : Int → Int → Int → e_M → (Int → Prop) → Prop) (c_X12_onOne : Int → Int → Int → Int → e_M → (e_M → Prop) → Prop) (c_X12_ofOne : Int → Int → Int → Int → e_M → (e_M → Prop) → Prop) (c_X12_placeOn : Int → Int → e_M → (Int → Prop) → Prop) (c_X12_placeOf : Int → Int → e_M → (Int → Prop) → Prop) (c_X12_offOn : Int → Int → e_M → (e_M → Prop) → Prop) (k301 : Int → Int → Int → Int → Int → e_M → Prop) (Q : Int → e_M → Prop) (x2 : Int) (x3 : Int) (x4 : Int) (x5 : Int) (x6 : Int) (x7 : Int) (M : e_M) : Prop :=
  ((0 ≤ x7 ∧ x7 < 560) ∧ ((¬ (M 4492 (x7.toNat)) = 0 → (k301 x2 x3 x4 x5 x6 M)) ∧ ((M 4492 (x7.toNat)) = 0 → (((0 ≤ x7 ∧ x7 < 560) ∧ ((1 : Int) = 0 ∨ (1 : Int) = 1)) ∧ (∀ M1 : e_M, M1 = e_up M 4485 (x7.toNat) 1 → (k301 x2 x3 x4 x5 x6 M1))))))
def VX12_join_301 (c_X12_areAble : Int → e_M → (Int → Prop) → Prop) (c_X12_areAlike : Int → Int → e_M → (Int → Prop) → Prop) (c_X12_isBarred : Int → Int → e_M → (Int → Prop) → Prop) (c_X12_bearAlike : Int → Int → e_M → (Int → Prop) → Prop) (c_X12_joins : Int → Int → Int → Int → e_M → (Int → e_M → Prop) → Prop) (c_X12_full : Int → Int → e_M → (Int → Prop) → Prop) (c_X12_newLot : Int → Int → Int → Int → e_M → (Int → e_M → Prop) → Prop) (c_X12_id : Int → Int → e_M → (Int → Prop) → Prop) (c_X12_isThere : Int → Int → Int → e_M → (Int → Prop) → Prop) (c_X12_onOne : Int → Int → Int → Int → e_M → (e_M → Prop) → Prop) (c_X12_ofOne : Int → Int → Int → Int → e_M → (e_M → Prop) → Prop) (c_X12_placeOn : Int → Int → e_M → (Int → Prop) → Prop) (c_X12_placeOf : Int → Int → e_M → (Int → Prop) → Prop) (c_X12_offOn : Int → Int → e_M → (e_M → Prop) → Prop) (k175 : Int → Int → Int → Int → Int → e_M → Prop) (Q : Int → e_M → Prop) (x2 : Int) (x3 : Int) (x4 : Int) (x5 : Int) (x6 : Int) (M : e_M) : Prop :=
  (k175 x2 x3 x4 x5 (e_w32 (x6 + 1)) M)
def VX12_join (c_X12_areAble : Int → e_M → (Int → Prop) → Prop) (c_X12_areAlike : Int → Int → e_M → (Int → Prop) → Prop) (c_X12_isBarred : Int → Int → e_M → (Int → Prop) → Prop) (c_X12_bearAlike : Int → Int → e_M → (Int → Prop) → Prop) (c_X12_joins : Int → Int → Int → Int → e_M → (Int → e_M → Prop) → Prop) (c_X12_full : Int → Int → e_M → (Int → Prop) → Prop) (c_X12_newLot : Int → Int → Int → Int → e_M → (Int → e_M → Prop) → Prop) (c_X12_id : Int → Int → e_M → (Int → Prop) → Prop) (c_X12_isThere : Int → Int → Int → e_M → (Int → Prop) → Prop) (c_X12_onOne : Int → Int → Int → Int → e_M → (e_M → Prop) → Prop) (c_X12_ofOne : Int → Int → Int → Int → e_M → (e_M → Prop) → Prop) (c_X12_placeOn : Int → Int → e_M → (Int → Prop) → Prop) (c_X12_placeOf : Int → Int → e_M → (Int → Prop) → Prop) (c_X12_offOn : Int → Int → e_M → (e_M → Prop) → Prop) (k165 : Int → Int → Int → Int → e_M → Prop) (Q : Int → e_M → Prop) (x1 : Int) (M : e_M) : Prop :=
  ((0 ≤ (0 : Int) ∧ (0 : Int) < 10) ∧ ((0 ≤ (1 : Int) ∧ (1 : Int) < 10) ∧ ((¬ (M 4520 ((0 : Int).toNat)) = (M 4520 ((1 : Int).toNat)) → (c_X12_areAble (M 4520 ((0 : Int).toNat)) M (fun r1 => ((r1 = 0 → (Q 2 M)) ∧ (¬ r1 = 0 → (c_X12_areAble (M 4520 ((1 : Int).toNat)) M (fun r2 => ((¬ r2 = 0 → (c_X12_areAlike (M 4520 ((0 : Int).toNat)) (M 4520 ((1 : Int).toNat)) M (fun r3 => ((¬ r3 = 0 → (c_X12_isBarred (M 4520 ((0 : Int).toNat)) (-1) M (fun r4 => ((¬ r4 = 0 → (Q 4 M)) ∧ (r4 = 0 → (c_X12_isBarred (M 4520 ((1 : Int).toNat)) (-1) M (fun r5 => ((r5 = 0 → (c_X12_bearAlike (M 4520 ((0 : Int).toNat)) (M 4520 ((1 : Int).toNat)) M (fun r6 => ((¬ r6 = 0 → ((0 ≤ (M 4520 ((0 : Int).toNat)) ∧ (M 4520 ((0 : Int).toNat)) < 80) ∧ ((0 ≤ (M 4520 ((1 : Int).toNat)) ∧ (M 4520 ((1 : Int).toNat)) < 80) ∧ (c_X12_joins (e_w32 ((40 : Int) * (M 4520 ((0 : Int).toNat)))) (M 4496 ((M 4520 ((0 : Int).toNat)).toNat)) (e_w32 ((40 : Int) * (M 4520 ((1 : Int).toNat)))) (M 4496 ((M 4520 ((1 : Int).toNat)).toNat)) M (fun r7 M8 => ((¬ r7 = 0 → (c_X12_full 0 1 M8 (fun r9 => ((r9 = 0 → ((0 ≤ (e_w32 ((e_w32 ((10 : Int) * x1)) + 2)) ∧ (e_w32 ((e_w32 ((10 : Int) * x1)) + 2)) < 1520) ∧ (c_X12_newLot (M8 4467 ((e_w32 ((e_w32 ((10 : Int) * x1)) + 2)).toNat)) (M 4520 ((0 : Int).toNat)) 3200 (M8 4456 46) M8 (fun r10 M11 => (((0 ≤ (M 4520 ((0 : Int).toNat)) ∧ (M 4520 ((0 : Int).toNat)) < 560) ∧ ((1 : Int) = 0 ∨ (1 : Int) = 1)) ∧ (∀ M12 : e_M, M12 = e_up M11 4485 ((M 4520 ((0 : Int).toNat)).toNat) 1 → (((0 ≤ (M 4520 ((1 : Int).toNat)) ∧ (M 4520 ((1 : Int).toNat)) < 560) ∧ ((1 : Int) = 0 ∨ (1 : Int) = 1)) ∧ (∀ M13 : e_M, M13 = e_up M12 4485 ((M 4520 ((1 : Int).toNat)).toNat) 1 → (k165 (M 4520 ((0 : Int).toNat)) (M 4520 ((1 : Int).toNat)) r10 2 M13))))))))) ∧ (¬ r9 = 0 → (Q 7 M8)))))) ∧ (r7 = 0 → (Q 3 M8)))))))) ∧ (r6 = 0 → (Q 5 M)))))) ∧ (¬ r5 = 0 → (Q 4 M)))))))))) ∧ (r3 = 0 → (Q 6 M)))))) ∧ (r2 = 0 → (Q 2 M)))))))))) ∧ ((M 4520 ((0 : Int).toNat)) = (M 4520 ((1 : Int).toNat)) → (Q 1 M)))))
def yX12_join (i : Nat) : e_Y := x_get YX12_join [YX12_areAble, YX12_areAlike, YX12_isBarred, YX12_bearAlike, YX12_joins, YX12_full, YX12_newLot, YX12_id, YX12_isThere, YX12_onOne, YX12_ofOne, YX12_placeOn, YX12_placeOf, YX12_offOn] i
def pX12_joinf : List x_I := [(0, 4, 1, 0, 0, 0, []), (1, 25, 12, 91, 4, 0, [(0, 20, 10), (0, 1, 64)]), (4, 0, 1, 0, 0, 0, []), (5, 27, 0, 0, 0, 0, []), (6, 5, 1, 2, 0, 0, []), (7, 4, 1, 0, 0, 0, []), (8, 25, 12, 91, 4, 0, [(0, 20, 10), (0, 1, 64)]), (11, 0, 1, 0, 0, 1, []), (12, 27, 0, 0, 0, 0, []), (13, 5, 1, 3, 0, 0, []), (14, 2, 1, 2, 0, 0, []), (15, 2, 1, 3, 0, 0, []), (16, 18, 21, 1, 16, 0, []), (19, 0, 1, 0, 0, 1, []), (20, 41, 0, 0, 0, 0, []), (21, 4, 1, 0, 0, 0, []), (22, 2, 1, 2, 0, 0, []), (23, 40, 0, 2, 14, 0, []), (26, 17, 37, 0, 24, 0, []), (29, 4, 1, 0, 0, 0, []), (30, 2, 1, 3, 0, 0, []), (31, 40, 0, 2, 14, 0, []), (34, 17, 39, 1, 26, 0, []), (37, 0, 1, 0, 0, 2, []), (38, 41, 0, 0, 0, 0, []), (39, 4, 1, 0, 0, 0, []), (40, 2, 1, 2, 0, 0, []), (41, 2, 1, 3, 0, 0, []), (42, 40, 1, 3, 14, 0, []), (45, 17, 51, 1, 33, 0, []), (48, 0, 2, 0, 0, 6, []), (50, 41, 0, 0, 0, 0, []), (51, 4, 1, 0, 0, 0, []), (52, 2, 1, 2, 0, 0, []), (53, 0, 1, 0, 0, (-1), []), (54, 40, 2, 3, 14, 0, []), (57, 17, 69, 1, 43, 0, []), (60, 4, 1, 0, 0, 0, []), (61, 2, 1, 3, 0, 0, []), (62, 0, 1, 0, 0, (-1), []), (63, 40, 2, 3, 14, 0, []), (66, 17, 71, 0, 45, 0, []), (69, 0, 1, 0, 0, 4, []), (70, 41, 0, 0, 0, 0, []), (71, 4, 1, 0, 0, 0, []), (72, 2, 1, 2, 0, 0, []), (73, 2, 1, 3, 0, 0, []), (74, 40, 3, 3, 14, 0, []), (77, 17, 82, 1, 52, 0, []), (80, 0, 1, 0, 0, 5, []), (81, 41, 0, 0, 0, 0, []), (82, 4, 1, 0, 0, 0, []), (83, 0, 2, 0, 0, 40, []), (85, 2, 1, 2, 0, 0, []), (86, 9, 0, 2, 0, 0, []), (87, 4, 1, 0, 0, 0, []), (88, 25, 12, 63, 4, 0, [(0, 20, 80), (0, 1, 40)]), (91, 2, 1, 2, 0, 0, []), (92, 27, 0, 0, 0, 0, []), (93, 0, 2, 0, 0, 40, []), (95, 2, 1, 3, 0, 0, []), (96, 9, 0, 2, 0, 0, []), (97, 4, 1, 0, 0, 0, []), (98, 25, 12, 63, 4, 0, [(0, 20, 80), (0, 1, 40)]), (101, 2, 1, 3, 0, 0, []), (102, 27, 0, 0, 0, 0, []), (103, 40, 4, 5, 14, 0, []), (106, 17, 111, 1, 71, 0, []), (109, 0, 1, 0, 0, 3, []), (110, 41, 0, 0, 0, 0, []), (111, 4, 1, 0, 0, 0, []), (112, 0, 1, 0, 0, 0, []), (113, 0, 1, 0, 0, 1, []), (114, 40, 5, 3, 14, 0, []), (117, 17, 123, 0, 78, 0, []), (120, 0, 2, 0, 0, 7, []), (122, 41, 0, 0, 0, 0, []), (123, 4, 1, 0, 0, 0, []), (124, 4, 1, 0, 0, 0, []), (125, 25, 12, 20, 4, 0, [(0, 23, 1520), (0, 1, 11)]), (128, 0, 2, 0, 0, 10, []), (130, 2, 1, 1, 0, 0, []), (131, 9, 0, 2, 0, 0, []), (132, 0, 1, 0, 0, 2, []), (133, 9, 0, 0, 0, 0, []), (134, 27, 0, 1, 0, 0, []), (135, 2, 1, 2, 0, 0, []), (136, 0, 3, 0, 0, 3200, []), (139, 4, 1, 0, 0, 0, []), (140, 25, 12, 46, 0, 0, []), (143, 40, 6, 5, 14, 0, []), (146, 5, 2, 4, 0, 0, []), (148, 4, 1, 0, 0, 0, []), (149, 25, 12, 52, 4, 0, [(0, 21, 560), (0, 1, 29)]), (152, 2, 1, 2, 0, 0, []), (153, 0, 1, 0, 0, 1, []), (154, 29, 0, 0, 0, 0, []), (155, 4, 1, 0, 0, 0, []), (156, 25, 12, 52, 4, 0, [(0, 21, 560), (0, 1, 29)]), (159, 2, 1, 3, 0, 0, []), (160, 0, 1, 0, 0, 1, []), (161, 29, 0, 0, 0, 0, []), (162, 0, 1, 0, 0, 2, []), (163, 5, 2, 5, 0, 0, []), (165, 49, 0, 0, 0, 0, []), (165, 2, 2, 5, 0, 0, []), (167, 0, 2, 0, 0, 6, []), (169, 18, 313, 4, 181, 0, []), (172, 0, 1, 0, 0, 0, []), (173, 5, 2, 6, 0, 0, []), (175, 49, 0, 0, 0, 0, []), (175, 2, 2, 6, 0, 0, []), (177, 4, 1, 0, 0, 0, []), (178, 25, 12, 50, 4, 0, [(0, 20, 7), (0, 1, 27)]), (181, 2, 2, 5, 0, 0, []), (183, 27, 0, 0, 0, 0, []), (184, 18, 307, 3, 179, 0, []), (187, 2, 2, 5, 0, 0, []), (189, 2, 2, 6, 0, 0, []), (191, 40, 7, 2, 0, 0, []), (194, 5, 2, 7, 0, 0, []), (196, 2, 2, 5, 0, 0, []), (198, 0, 1, 0, 0, 5, []), (199, 18, 301, 0, 176, 0, []), (202, 4, 1, 0, 0, 0, []), (203, 2, 2, 5, 0, 0, []), (205, 2, 2, 6, 0, 0, []), (207, 4, 1, 0, 0, 0, []), (208, 25, 12, 86, 0, 0, []), (211, 40, 8, 4, 14, 0, []), (214, 17, 220, 1, 133, 0, []), (217, 19, 301, 0, 176, 0, []), (220, 4, 1, 0, 0, 0, []), (221, 2, 2, 7, 0, 0, []), (223, 2, 1, 2, 0, 0, []), (224, 2, 1, 3, 0, 0, []), (225, 2, 2, 4, 0, 0, []), (227, 40, 9, 5, 14, 0, []), (230, 2, 2, 5, 0, 0, []), (232, 0, 1, 0, 0, 3, []), (233, 18, 239, 0, 143, 0, []), (236, 19, 301, 0, 176, 0, []), (239, 4, 1, 0, 0, 0, []), (240, 2, 2, 7, 0, 0, []), (242, 2, 1, 2, 0, 0, []), (243, 2, 1, 3, 0, 0, []), (244, 2, 2, 4, 0, 0, []), (246, 40, 10, 5, 14, 0, []), (249, 4, 1, 0, 0, 0, []), (250, 2, 2, 7, 0, 0, []), (252, 2, 2, 4, 0, 0, []), (254, 40, 11, 3, 14, 0, []), (257, 5, 2, 8, 0, 0, []), (259, 2, 2, 8, 0, 0, []), (261, 17, 283, 2, 165, 0, []), (264, 4, 1, 0, 0, 0, []), (265, 2, 2, 7, 0, 0, []), (267, 2, 2, 4, 0, 0, []), (269, 40, 12, 3, 14, 0, []), (272, 17, 283, 2, 165, 0, []), (275, 4, 1, 0, 0, 0, []), (276, 2, 2, 7, 0, 0, []), (278, 2, 2, 8, 0, 0, []), (280, 40, 13, 3, 14, 0, []), (283, 49, 0, 0, 0, 0, []), (283, 4, 1, 0, 0, 0, []), (284, 25, 12, 59, 4, 0, [(0, 20, 560), (0, 1, 36)]), (287, 2, 2, 7, 0, 0, []), (289, 27, 0, 0, 0, 0, []), (290, 17, 301, 1, 176, 0, []), (293, 4, 1, 0, 0, 0, []), (294, 25, 12, 52, 4, 0, [(0, 21, 560), (0, 1, 29)]), (297, 2, 2, 7, 0, 0, []), (299, 0, 1, 0, 0, 1, []), (300, 29, 0, 0, 0, 0, []), (301, 49, 0, 0, 0, 0, []), (301, 8, 0, 6, 0, 1, []), (304, 19, 175, 0, 111, 0, []), (307, 8, 0, 5, 0, 1, []), (310, 19, 165, 0, 105, 0, []), (313, 0, 1, 0, 0, 0, []), (314, 41, 0, 0, 0, 0, [])]
set_option maxRecDepth 20000 in
theorem qX12_joinf : f_all yX12_join YX12_join pX12_joinf :=
  ⟨f_aload_n (n := 0) (e_dx DX12_join_0 0 rfl) rfl,
  f_getA (e_dx DX12_join_0 1 rfl) fX12_202 rfl (by decide) (Nat.le_of_ble_eq_true rfl) rfl (by decide),
  f_iconst (e_dx DX12_join_0 2 rfl) ⟨by decide, by decide⟩,
  f_iaload (e_dx DX12_join_0 3 rfl),
  f_istore_n (n := 2) (e_dx DX12_join_0 4 rfl) rfl (by decide),
  f_aload_n (n := 0) (e_dx DX12_join_0 5 rfl) rfl,
  f_getA (e_dx DX12_join_0 6 rfl) fX12_202 rfl (by decide) (Nat.le_of_ble_eq_true rfl) rfl (by decide),
  f_iconst (e_dx DX12_join_0 7 rfl) ⟨by decide, by decide⟩,
  f_iaload (e_dx DX12_join_0 8 rfl),
  f_istore_n (n := 3) (e_dx DX12_join_0 9 rfl) rfl (by decide),
  f_iload_n (n := 2) (e_dx DX12_join_0 10 rfl) rfl,
  f_iload_n (n := 3) (e_dx DX12_join_0 11 rfl) rfl,
  f_icmp_ne (e_dx DX12_join_0 12 rfl) rfl,
  f_iconst (e_dx DX12_join_0 13 rfl) ⟨by decide, by decide⟩,
  ⟨(e_dx DX12_join_0 14 rfl), rfl⟩,
  f_aload_n (n := 0) (e_dx DX12_join_0 15 rfl) rfl,
  f_iload_n (n := 2) (e_dx DX12_join_0 16 rfl) rfl,
  x_callV (e_dx DX12_join_0 17 rfl) mwX12_areAble vwX12_areAble cX12_707 rfl,
  f_if_eq (e_dx DX12_join_0 18 rfl) rfl,
  f_aload_n (n := 0) (e_dx DX12_join_0 19 rfl) rfl,
  f_iload_n (n := 3) (e_dx DX12_join_0 20 rfl) rfl,
  x_callV (e_dx DX12_join_0 21 rfl) mwX12_areAble vwX12_areAble cX12_707 rfl,
  f_if_ne (e_dx DX12_join_0 22 rfl) rfl,
  f_iconst (e_dx DX12_join_0 23 rfl) ⟨by decide, by decide⟩,
  ⟨(e_dx DX12_join_0 24 rfl), rfl⟩,
  f_aload_n (n := 0) (e_dx DX12_join_0 25 rfl) rfl,
  f_iload_n (n := 2) (e_dx DX12_join_0 26 rfl) rfl,
  f_iload_n (n := 3) (e_dx DX12_join_0 27 rfl) rfl,
  x_callV (e_dx DX12_join_0 28 rfl) mwX12_areAlike vwX12_areAlike cX12_729 rfl,
  f_if_ne (e_dx DX12_join_0 29 rfl) rfl,
  f_bipush (e_dx DX12_join_0 30 rfl) ⟨by decide, by decide⟩,
  ⟨(e_dx DX12_join_0 31 rfl), rfl⟩,
  f_aload_n (n := 0) (e_dx DX12_join_0 32 rfl) rfl,
  f_iload_n (n := 2) (e_dx DX12_join_0 33 rfl) rfl,
  f_iconst (e_dx DX12_join_0 34 rfl) ⟨by decide, by decide⟩,
  x_callV (e_dx DX12_join_0 35 rfl) mwX12_isBarred vwX12_isBarred cX12_698 rfl,
  f_if_ne (e_dx DX12_join_0 36 rfl) rfl,
  f_aload_n (n := 0) (e_dx DX12_join_0 37 rfl) rfl,
  f_iload_n (n := 3) (e_dx DX12_join_0 38 rfl) rfl,
  f_iconst (e_dx DX12_join_0 39 rfl) ⟨by decide, by decide⟩,
  x_callV (e_dx DX12_join_1 0 rfl) mwX12_isBarred vwX12_isBarred cX12_698 rfl,
  f_if_eq (e_dx DX12_join_1 1 rfl) rfl,
  f_iconst (e_dx DX12_join_1 2 rfl) ⟨by decide, by decide⟩,
  ⟨(e_dx DX12_join_1 3 rfl), rfl⟩,
  f_aload_n (n := 0) (e_dx DX12_join_1 4 rfl) rfl,
  f_iload_n (n := 2) (e_dx DX12_join_1 5 rfl) rfl,
  f_iload_n (n := 3) (e_dx DX12_join_1 6 rfl) rfl,
  x_callV (e_dx DX12_join_1 7 rfl) mwX12_bearAlike vwX12_bearAlike cX12_732 rfl,
  f_if_ne (e_dx DX12_join_1 8 rfl) rfl,
  f_iconst (e_dx DX12_join_1 9 rfl) ⟨by decide, by decide⟩,
  ⟨(e_dx DX12_join_1 10 rfl), rfl⟩,
  f_aload_n (n := 0) (e_dx DX12_join_1 11 rfl) rfl,
  f_bipush (e_dx DX12_join_1 12 rfl) ⟨by decide, by decide⟩,
  f_iload_n (n := 2) (e_dx DX12_join_1 13 rfl) rfl,
  f_imul (e_dx DX12_join_1 14 rfl),
  f_aload_n (n := 0) (e_dx DX12_join_1 15 rfl) rfl,
  f_getA (e_dx DX12_join_1 16 rfl) fX12_130 rfl (by decide) (Nat.le_of_ble_eq_true rfl) rfl (by decide),
  f_iload_n (n := 2) (e_dx DX12_join_1 17 rfl) rfl,
  f_iaload (e_dx DX12_join_1 18 rfl),
  f_bipush (e_dx DX12_join_1 19 rfl) ⟨by decide, by decide⟩,
  f_iload_n (n := 3) (e_dx DX12_join_1 20 rfl) rfl,
  f_imul (e_dx DX12_join_1 21 rfl),
  f_aload_n (n := 0) (e_dx DX12_join_1 22 rfl) rfl,
  f_getA (e_dx DX12_join_1 23 rfl) fX12_130 rfl (by decide) (Nat.le_of_ble_eq_true rfl) rfl (by decide),
  f_iload_n (n := 3) (e_dx DX12_join_1 24 rfl) rfl,
  f_iaload (e_dx DX12_join_1 25 rfl),
  x_callV (e_dx DX12_join_1 26 rfl) mwX12_joins vwX12_joins cX12_735 rfl,
  f_if_ne (e_dx DX12_join_1 27 rfl) rfl,
  f_iconst (e_dx DX12_join_1 28 rfl) ⟨by decide, by decide⟩,
  ⟨(e_dx DX12_join_1 29 rfl), rfl⟩,
  f_aload_n (n := 0) (e_dx DX12_join_1 30 rfl) rfl,
  f_iconst (e_dx DX12_join_1 31 rfl) ⟨by decide, by decide⟩,
  f_iconst (e_dx DX12_join_1 32 rfl) ⟨by decide, by decide⟩,
  x_callV (e_dx DX12_join_1 33 rfl) mwX12_full vwX12_full cX12_660 rfl,
  f_if_eq (e_dx DX12_join_1 34 rfl) rfl,
  f_bipush (e_dx DX12_join_1 35 rfl) ⟨by decide, by decide⟩,
  ⟨(e_dx DX12_join_1 36 rfl), rfl⟩,
  f_aload_n (n := 0) (e_dx DX12_join_1 37 rfl) rfl,
  f_aload_n (n := 0) (e_dx DX12_join_1 38 rfl) rfl,
  f_getA (e_dx DX12_join_1 39 rfl) fX12_42 rfl (by decide) (Nat.le_of_ble_eq_true rfl) rfl (by decide),
  f_bipush (e_dx DX12_join_2 0 rfl) ⟨by decide, by decide⟩,
  f_iload_n (n := 1) (e_dx DX12_join_2 1 rfl) rfl,
  f_imul (e_dx DX12_join_2 2 rfl),
  f_iconst (e_dx DX12_join_2 3 rfl) ⟨by decide, by decide⟩,
  f_iadd (e_dx DX12_join_2 4 rfl),
  f_laload (e_dx DX12_join_2 5 rfl),
  f_iload_n (n := 2) (e_dx DX12_join_2 6 rfl) rfl,
  f_sipush (e_dx DX12_join_2 7 rfl) ⟨by decide, by decide⟩,
  f_aload_n (n := 0) (e_dx DX12_join_2 8 rfl) rfl,
  f_getf (e_dx DX12_join_2 9 rfl) fX12_517 rfl (by decide) (by decide) (by decide),
  x_callV (e_dx DX12_join_2 10 rfl) mwX12_newLot vwX12_newLot cX12_716 rfl,
  f_istore (e_dx DX12_join_2 11 rfl) (by decide),
  f_aload_n (n := 0) (e_dx DX12_join_2 12 rfl) rfl,
  f_getA (e_dx DX12_join_2 13 rfl) fX12_97 rfl (by decide) (Nat.le_of_ble_eq_true rfl) rfl (by decide),
  f_iload_n (n := 2) (e_dx DX12_join_2 14 rfl) rfl,
  f_iconst (e_dx DX12_join_2 15 rfl) ⟨by decide, by decide⟩,
  f_g29 (e_dx DX12_join_2 16 rfl),
  f_aload_n (n := 0) (e_dx DX12_join_2 17 rfl) rfl,
  f_getA (e_dx DX12_join_2 18 rfl) fX12_97 rfl (by decide) (Nat.le_of_ble_eq_true rfl) rfl (by decide),
  f_iload_n (n := 3) (e_dx DX12_join_2 19 rfl) rfl,
  f_iconst (e_dx DX12_join_2 20 rfl) ⟨by decide, by decide⟩,
  f_g29 (e_dx DX12_join_2 21 rfl),
  f_iconst (e_dx DX12_join_2 22 rfl) ⟨by decide, by decide⟩,
  f_istore (e_dx DX12_join_2 23 rfl) (by decide),
  trivial,
  f_iload (e_dx DX12_join_2 24 rfl),
  f_bipush (e_dx DX12_join_2 25 rfl) ⟨by decide, by decide⟩,
  f_icmp_gt (e_dx DX12_join_2 26 rfl) rfl,
  f_iconst (e_dx DX12_join_2 27 rfl) ⟨by decide, by decide⟩,
  f_istore (e_dx DX12_join_2 28 rfl) (by decide),
  trivial,
  f_iload (e_dx DX12_join_2 29 rfl),
  f_aload_n (n := 0) (e_dx DX12_join_2 30 rfl) rfl,
  f_getA (e_dx DX12_join_2 31 rfl) fX12_91 rfl (by decide) (Nat.le_of_ble_eq_true rfl) rfl (by decide),
  f_iload (e_dx DX12_join_2 32 rfl),
  f_iaload (e_dx DX12_join_2 33 rfl),
  f_icmp_ge (e_dx DX12_join_2 34 rfl) rfl,
  f_iload (e_dx DX12_join_2 35 rfl),
  f_iload (e_dx DX12_join_2 36 rfl),
  x_callS (e_dx DX12_join_2 37 rfl) mwX12_id cX12_540 swX12_id rfl,
  f_istore (e_dx DX12_join_2 38 rfl) (by decide),
  f_iload (e_dx DX12_join_2 39 rfl),
  f_iconst (e_dx DX12_join_3 0 rfl) ⟨by decide, by decide⟩,
  f_icmp_eq (e_dx DX12_join_3 1 rfl) rfl,
  f_aload_n (n := 0) (e_dx DX12_join_3 2 rfl) rfl,
  f_iload (e_dx DX12_join_3 3 rfl),
  f_iload (e_dx DX12_join_3 4 rfl),
  f_aload_n (n := 0) (e_dx DX12_join_3 5 rfl) rfl,
  f_getf (e_dx DX12_join_3 6 rfl) fX12_543 rfl (by decide) (by decide) (by decide),
  x_callV (e_dx DX12_join_3 7 rfl) mwX12_isThere vwX12_isThere cX12_549 rfl,
  f_if_ne (e_dx DX12_join_3 8 rfl) rfl,
  f_g19 (e_dx DX12_join_3 9 rfl) rfl,
  f_aload_n (n := 0) (e_dx DX12_join_3 10 rfl) rfl,
  f_iload (e_dx DX12_join_3 11 rfl),
  f_iload_n (n := 2) (e_dx DX12_join_3 12 rfl) rfl,
  f_iload_n (n := 3) (e_dx DX12_join_3 13 rfl) rfl,
  f_iload (e_dx DX12_join_3 14 rfl),
  x_callV (e_dx DX12_join_3 15 rfl) mwX12_onOne vwX12_onOne cX12_739 rfl,
  f_iload (e_dx DX12_join_3 16 rfl),
  f_iconst (e_dx DX12_join_3 17 rfl) ⟨by decide, by decide⟩,
  f_icmp_eq (e_dx DX12_join_3 18 rfl) rfl,
  f_g19 (e_dx DX12_join_3 19 rfl) rfl,
  f_aload_n (n := 0) (e_dx DX12_join_3 20 rfl) rfl,
  f_iload (e_dx DX12_join_3 21 rfl),
  f_iload_n (n := 2) (e_dx DX12_join_3 22 rfl) rfl,
  f_iload_n (n := 3) (e_dx DX12_join_3 23 rfl) rfl,
  f_iload (e_dx DX12_join_3 24 rfl),
  x_callV (e_dx DX12_join_3 25 rfl) mwX12_ofOne vwX12_ofOne cX12_743 rfl,
  f_aload_n (n := 0) (e_dx DX12_join_3 26 rfl) rfl,
  f_iload (e_dx DX12_join_3 27 rfl),
  f_iload (e_dx DX12_join_3 28 rfl),
  x_callV (e_dx DX12_join_3 29 rfl) mwX12_placeOn vwX12_placeOn cX12_573 rfl,
  f_istore (e_dx DX12_join_3 30 rfl) (by decide),
  f_iload (e_dx DX12_join_3 31 rfl),
  f_if_lt (e_dx DX12_join_3 32 rfl) rfl,
  f_aload_n (n := 0) (e_dx DX12_join_3 33 rfl) rfl,
  f_iload (e_dx DX12_join_3 34 rfl),
  f_iload (e_dx DX12_join_3 35 rfl),
  x_callV (e_dx DX12_join_3 36 rfl) mwX12_placeOf vwX12_placeOf cX12_704 rfl,
  f_if_lt (e_dx DX12_join_3 37 rfl) rfl,
  f_aload_n (n := 0) (e_dx DX12_join_3 38 rfl) rfl,
  f_iload (e_dx DX12_join_3 39 rfl),
  f_iload (e_dx DX12_join_4 0 rfl),
  x_callV (e_dx DX12_join_4 1 rfl) mwX12_offOn vwX12_offOn cX12_576 rfl,
  trivial,
  f_aload_n (n := 0) (e_dx DX12_join_4 2 rfl) rfl,
  f_getA (e_dx DX12_join_4 3 rfl) fX12_118 rfl (by decide) (Nat.le_of_ble_eq_true rfl) rfl (by decide),
  f_iload (e_dx DX12_join_4 4 rfl),
  f_iaload (e_dx DX12_join_4 5 rfl),
  f_if_ne (e_dx DX12_join_4 6 rfl) rfl,
  f_aload_n (n := 0) (e_dx DX12_join_4 7 rfl) rfl,
  f_getA (e_dx DX12_join_4 8 rfl) fX12_97 rfl (by decide) (Nat.le_of_ble_eq_true rfl) rfl (by decide),
  f_iload (e_dx DX12_join_4 9 rfl),
  f_iconst (e_dx DX12_join_4 10 rfl) ⟨by decide, by decide⟩,
  f_g29 (e_dx DX12_join_4 11 rfl),
  trivial,
  f_g8 (e_dx DX12_join_4 12 rfl) ⟨by decide, by decide⟩,
  f_g19 (e_dx DX12_join_4 13 rfl) rfl,
  f_g8 (e_dx DX12_join_4 14 rfl) ⟨by decide, by decide⟩,
  f_g19 (e_dx DX12_join_4 15 rfl) rfl,
  f_iconst (e_dx DX12_join_4 16 rfl) ⟨by decide, by decide⟩,
  ⟨(e_dx DX12_join_4 17 rfl), rfl⟩, trivial⟩
def lX12_join (c_X12_areAble : Int → e_M → (Int → Prop) → Prop) (c_X12_areAlike : Int → Int → e_M → (Int → Prop) → Prop) (c_X12_isBarred : Int → Int → e_M → (Int → Prop) → Prop) (c_X12_bearAlike : Int → Int → e_M → (Int → Prop) → Prop) (c_X12_joins : Int → Int → Int → Int → e_M → (Int → e_M → Prop) → Prop) (c_X12_full : Int → Int → e_M → (Int → Prop) → Prop) (c_X12_newLot : Int → Int → Int → Int → e_M → (Int → e_M → Prop) → Prop) (c_X12_id : Int → Int → e_M → (Int → Prop) → Prop) (c_X12_isThere : Int → Int → Int → e_M → (Int → Prop) → Prop) (c_X12_onOne : Int → Int → Int → Int → e_M → (e_M → Prop) → Prop) (c_X12_ofOne : Int → Int → Int → Int → e_M → (e_M → Prop) → Prop) (c_X12_placeOn : Int → Int → e_M → (Int → Prop) → Prop) (c_X12_placeOf : Int → Int → e_M → (Int → Prop) → Prop) (c_X12_offOn : Int → Int → e_M → (e_M → Prop) → Prop) : List (Nat × f_Wt) := [(0, f_wm [(4466, 12, 123), (1, 0, 0)] (fun ar M R => c_X12_areAble (f_vi (f_nth ar 1)) M (fun r => R (some (.inl r)) M))), (1, f_wm [(4466, 12, 123), (1, 0, 0), (1, 0, 0)] (fun ar M R => c_X12_areAlike (f_vi (f_nth ar 1)) (f_vi (f_nth ar 2)) M (fun r => R (some (.inl r)) M))), (2, f_wm [(4466, 12, 123), (1, 0, 0), (1, 0, 0)] (fun ar M R => c_X12_isBarred (f_vi (f_nth ar 1)) (f_vi (f_nth ar 2)) M (fun r => R (some (.inl r)) M))), (3, f_wm [(4466, 12, 123), (1, 0, 0), (1, 0, 0)] (fun ar M R => c_X12_bearAlike (f_vi (f_nth ar 1)) (f_vi (f_nth ar 2)) M (fun r => R (some (.inl r)) M))), (4, f_wm [(4466, 12, 123), (1, 0, 0), (1, 0, 0), (1, 0, 0), (1, 0, 0)] (fun ar M R => c_X12_joins (f_vi (f_nth ar 1)) (f_vi (f_nth ar 2)) (f_vi (f_nth ar 3)) (f_vi (f_nth ar 4)) M (fun r M => R (some (.inl r)) M))), (5, f_wm [(4466, 12, 123), (1, 0, 0), (1, 0, 0)] (fun ar M R => c_X12_full (f_vi (f_nth ar 1)) (f_vi (f_nth ar 2)) M (fun r => R (some (.inl r)) M))), (6, f_wm [(4466, 12, 123), (2, 0, 0), (1, 0, 0), (1, 0, 0), (1, 0, 0)] (fun ar M R => c_X12_newLot (f_vi (f_nth ar 1)) (f_vi (f_nth ar 2)) (f_vi (f_nth ar 3)) (f_vi (f_nth ar 4)) M (fun r M => R (some (.inl r)) M))), (7, f_wm [(1, 0, 0), (1, 0, 0)] (fun ar M R => c_X12_id (f_vi (f_nth ar 0)) (f_vi (f_nth ar 1)) M (fun r => R (some (.inl r)) M))), (8, f_wm [(4466, 12, 123), (1, 0, 0), (1, 0, 0), (1, 0, 0)] (fun ar M R => c_X12_isThere (f_vi (f_nth ar 1)) (f_vi (f_nth ar 2)) (f_vi (f_nth ar 3)) M (fun r => R (some (.inl r)) M))), (9, f_wm [(4466, 12, 123), (1, 0, 0), (1, 0, 0), (1, 0, 0), (1, 0, 0)] (fun ar M R => c_X12_onOne (f_vi (f_nth ar 1)) (f_vi (f_nth ar 2)) (f_vi (f_nth ar 3)) (f_vi (f_nth ar 4)) M (fun M => R none M))), (10, f_wm [(4466, 12, 123), (1, 0, 0), (1, 0, 0), (1, 0, 0), (1, 0, 0)] (fun ar M R => c_X12_ofOne (f_vi (f_nth ar 1)) (f_vi (f_nth ar 2)) (f_vi (f_nth ar 3)) (f_vi (f_nth ar 4)) M (fun M => R none M))), (11, f_wm [(4466, 12, 123), (1, 0, 0), (1, 0, 0)] (fun ar M R => c_X12_placeOn (f_vi (f_nth ar 1)) (f_vi (f_nth ar 2)) M (fun r => R (some (.inl r)) M))), (12, f_wm [(4466, 12, 123), (1, 0, 0), (1, 0, 0)] (fun ar M R => c_X12_placeOf (f_vi (f_nth ar 1)) (f_vi (f_nth ar 2)) M (fun r => R (some (.inl r)) M))), (13, f_wm [(4466, 12, 123), (1, 0, 0), (1, 0, 0)] (fun ar M R => c_X12_offOn (f_vi (f_nth ar 1)) (f_vi (f_nth ar 2)) M (fun M => R none M)))]
set_option maxRecDepth 20000 in
theorem BX12_join_165 {sh : Nat → Nat × Nat} {t : Nat} {rm : Nat × Nat × Nat} {cs : Nat × Nat} {R : f_Rt} {c_X12_areAble : Int → e_M → (Int → Prop) → Prop} {c_X12_areAlike : Int → Int → e_M → (Int → Prop) → Prop} {c_X12_isBarred : Int → Int → e_M → (Int → Prop) → Prop} {c_X12_bearAlike : Int → Int → e_M → (Int → Prop) → Prop} {c_X12_joins : Int → Int → Int → Int → e_M → (Int → e_M → Prop) → Prop} {c_X12_full : Int → Int → e_M → (Int → Prop) → Prop} {c_X12_newLot : Int → Int → Int → Int → e_M → (Int → e_M → Prop) → Prop} {c_X12_id : Int → Int → e_M → (Int → Prop) → Prop} {c_X12_isThere : Int → Int → Int → e_M → (Int → Prop) → Prop} {c_X12_onOne : Int → Int → Int → Int → e_M → (e_M → Prop) → Prop} {c_X12_ofOne : Int → Int → Int → Int → e_M → (e_M → Prop) → Prop} {c_X12_placeOn : Int → Int → e_M → (Int → Prop) → Prop} {c_X12_placeOf : Int → Int → e_M → (Int → Prop) → Prop} {c_X12_offOn : Int → Int → e_M → (e_M → Prop) → Prop} {k175 : Int → Int → Int → Int → Int → e_M → Prop} {x2 : Int} {x3 : Int} {x4 : Int} {x5 : Int} {M : e_M} (C : f_Hy sh t yX12_join rm cs 11 (lX12_join c_X12_areAble c_X12_areAlike c_X12_isBarred c_X12_bearAlike c_X12_joins c_X12_full c_X12_newLot c_X12_id c_X12_isThere c_X12_onOne c_X12_ofOne c_X12_placeOn c_X12_placeOf c_X12_offOn) R) (h175 : ∀ (x2 : Int) (x3 : Int) (x4 : Int) (x5 : Int) (x6 : Int) (M : e_M), k175 x2 x3 x4 x5 x6 M → f_E sh t YX12_join rm cs (f_Q sh t R) 175 [.inr (.inr (.inl (12, 123, 4456))), .inr (.inr (.inr ())), .inl x2, .inl x3, .inl x4, .inl x5, .inl x6, .inr (.inr (.inr ())), .inr (.inr (.inr ()))] [] M) (h : VX12_join_165 c_X12_areAble c_X12_areAlike c_X12_isBarred c_X12_bearAlike c_X12_joins c_X12_full c_X12_newLot c_X12_id c_X12_isThere c_X12_onOne c_X12_ofOne c_X12_placeOn c_X12_placeOf c_X12_offOn k175 (fun r M => R (some (.inl r)) M) x2 x3 x4 x5 M) : f_E sh t YX12_join rm cs (f_Q sh t R) 165 [.inr (.inr (.inl (12, 123, 4456))), .inr (.inr (.inr ())), .inl x2, .inl x3, .inl x4, .inl x5, .inr (.inr (.inr ())), .inr (.inr (.inr ())), .inr (.inr (.inr ()))] [] M :=
  f_go (KC := f_kc [(175, f_pl [(4466, 12, 123), (0, 0, 0), (1, 0, 0), (1, 0, 0), (1, 0, 0), (1, 0, 0), (1, 0, 0), (0, 0, 0), (0, 0, 0)] [] (fun ls st M => k175 (f_vi (f_nth ls 2)) (f_vi (f_nth ls 3)) (f_vi (f_nth ls 4)) (f_vi (f_nth ls 5)) (f_vi (f_nth ls 6)) M))]) C qX12_joinf (f_kc_cons (f_pl_ok rfl (fun ls st M h => h175 _ _ _ _ _ M h)) f_kc_nil) 184 105 h
set_option maxRecDepth 20000 in
theorem BX12_join_175 {sh : Nat → Nat × Nat} {t : Nat} {rm : Nat × Nat × Nat} {cs : Nat × Nat} {R : f_Rt} {c_X12_areAble : Int → e_M → (Int → Prop) → Prop} {c_X12_areAlike : Int → Int → e_M → (Int → Prop) → Prop} {c_X12_isBarred : Int → Int → e_M → (Int → Prop) → Prop} {c_X12_bearAlike : Int → Int → e_M → (Int → Prop) → Prop} {c_X12_joins : Int → Int → Int → Int → e_M → (Int → e_M → Prop) → Prop} {c_X12_full : Int → Int → e_M → (Int → Prop) → Prop} {c_X12_newLot : Int → Int → Int → Int → e_M → (Int → e_M → Prop) → Prop} {c_X12_id : Int → Int → e_M → (Int → Prop) → Prop} {c_X12_isThere : Int → Int → Int → e_M → (Int → Prop) → Prop} {c_X12_onOne : Int → Int → Int → Int → e_M → (e_M → Prop) → Prop} {c_X12_ofOne : Int → Int → Int → Int → e_M → (e_M → Prop) → Prop} {c_X12_placeOn : Int → Int → e_M → (Int → Prop) → Prop} {c_X12_placeOf : Int → Int → e_M → (Int → Prop) → Prop} {c_X12_offOn : Int → Int → e_M → (e_M → Prop) → Prop} {k165 : Int → Int → Int → Int → e_M → Prop} {k301 : Int → Int → Int → Int → Int → e_M → Prop} {k283 : Int → Int → Int → Int → Int → Int → e_M → Prop} {x2 : Int} {x3 : Int} {x4 : Int} {x5 : Int} {x6 : Int} {M : e_M} (C : f_Hy sh t yX12_join rm cs 11 (lX12_join c_X12_areAble c_X12_areAlike c_X12_isBarred c_X12_bearAlike c_X12_joins c_X12_full c_X12_newLot c_X12_id c_X12_isThere c_X12_onOne c_X12_ofOne c_X12_placeOn c_X12_placeOf c_X12_offOn) R) (h165 : ∀ (x2 : Int) (x3 : Int) (x4 : Int) (x5 : Int) (M : e_M), k165 x2 x3 x4 x5 M → f_E sh t YX12_join rm cs (f_Q sh t R) 165 [.inr (.inr (.inl (12, 123, 4456))), .inr (.inr (.inr ())), .inl x2, .inl x3, .inl x4, .inl x5, .inr (.inr (.inr ())), .inr (.inr (.inr ())), .inr (.inr (.inr ()))] [] M) (h301 : ∀ (x2 : Int) (x3 : Int) (x4 : Int) (x5 : Int) (x6 : Int) (M : e_M), k301 x2 x3 x4 x5 x6 M → f_E sh t YX12_join rm cs (f_Q sh t R) 301 [.inr (.inr (.inl (12, 123, 4456))), .inr (.inr (.inr ())), .inl x2, .inl x3, .inl x4, .inl x5, .inl x6, .inr (.inr (.inr ())), .inr (.inr (.inr ()))] [] M) (h283 : ∀ (x2 : Int) (x3 : Int) (x4 : Int) (x5 : Int) (x6 : Int) (x7 : Int) (M : e_M), k283 x2 x3 x4 x5 x6 x7 M → f_E sh t YX12_join rm cs (f_Q sh t R) 283 [.inr (.inr (.inl (12, 123, 4456))), .inr (.inr (.inr ())), .inl x2, .inl x3, .inl x4, .inl x5, .inl x6, .inl x7, .inr (.inr (.inr ()))] [] M) (h : VX12_join_175 c_X12_areAble c_X12_areAlike c_X12_isBarred c_X12_bearAlike c_X12_joins c_X12_full c_X12_newLot c_X12_id c_X12_isThere c_X12_onOne c_X12_ofOne c_X12_placeOn c_X12_placeOf c_X12_offOn k165 k301 k283 (fun r M => R (some (.inl r)) M) x2 x3 x4 x5 x6 M) : f_E sh t YX12_join rm cs (f_Q sh t R) 175 [.inr (.inr (.inl (12, 123, 4456))), .inr (.inr (.inr ())), .inl x2, .inl x3, .inl x4, .inl x5, .inl x6, .inr (.inr (.inr ())), .inr (.inr (.inr ()))] [] M :=
  f_go (KC := f_kc [(165, f_pl [(4466, 12, 123), (0, 0, 0), (1, 0, 0), (1, 0, 0), (1, 0, 0), (1, 0, 0), (0, 0, 0), (0, 0, 0), (0, 0, 0)] [] (fun ls st M => k165 (f_vi (f_nth ls 2)) (f_vi (f_nth ls 3)) (f_vi (f_nth ls 4)) (f_vi (f_nth ls 5)) M)), (301, f_pl [(4466, 12, 123), (0, 0, 0), (1, 0, 0), (1, 0, 0), (1, 0, 0), (1, 0, 0), (1, 0, 0), (0, 0, 0), (0, 0, 0)] [] (fun ls st M => k301 (f_vi (f_nth ls 2)) (f_vi (f_nth ls 3)) (f_vi (f_nth ls 4)) (f_vi (f_nth ls 5)) (f_vi (f_nth ls 6)) M)), (283, f_pl [(4466, 12, 123), (0, 0, 0), (1, 0, 0), (1, 0, 0), (1, 0, 0), (1, 0, 0), (1, 0, 0), (1, 0, 0), (0, 0, 0)] [] (fun ls st M => k283 (f_vi (f_nth ls 2)) (f_vi (f_nth ls 3)) (f_vi (f_nth ls 4)) (f_vi (f_nth ls 5)) (f_vi (f_nth ls 6)) (f_vi (f_nth ls 7)) M))]) C qX12_joinf (f_kc_cons (f_pl_ok rfl (fun ls st M h => h165 _ _ _ _ M h)) (f_kc_cons (f_pl_ok rfl (fun ls st M h => h301 _ _ _ _ _ M h)) (f_kc_cons (f_pl_ok rfl (fun ls st M h => h283 _ _ _ _ _ _ M h)) f_kc_nil))) 184 111 h
set_option maxRecDepth 20000 in
theorem BX12_join_283 {sh : Nat → Nat × Nat} {t : Nat} {rm : Nat × Nat × Nat} {cs : Nat × Nat} {R : f_Rt} {c_X12_areAble : Int → e_M → (Int → Prop) → Prop} {c_X12_areAlike : Int → Int → e_M → (Int → Prop) → Prop} {c_X12_isBarred : Int → Int → e_M → (Int → Prop) → Prop} {c_X12_bearAlike : Int → Int → e_M → (Int → Prop) → Prop} {c_X12_joins : Int → Int → Int → Int → e_M → (Int → e_M → Prop) → Prop} {c_X12_full : Int → Int → e_M → (Int → Prop) → Prop} {c_X12_newLot : Int → Int → Int → Int → e_M → (Int → e_M → Prop) → Prop} {c_X12_id : Int → Int → e_M → (Int → Prop) → Prop} {c_X12_isThere : Int → Int → Int → e_M → (Int → Prop) → Prop} {c_X12_onOne : Int → Int → Int → Int → e_M → (e_M → Prop) → Prop} {c_X12_ofOne : Int → Int → Int → Int → e_M → (e_M → Prop) → Prop} {c_X12_placeOn : Int → Int → e_M → (Int → Prop) → Prop} {c_X12_placeOf : Int → Int → e_M → (Int → Prop) → Prop} {c_X12_offOn : Int → Int → e_M → (e_M → Prop) → Prop} {k301 : Int → Int → Int → Int → Int → e_M → Prop} {x2 : Int} {x3 : Int} {x4 : Int} {x5 : Int} {x6 : Int} {x7 : Int} {M : e_M} (C : f_Hy sh t yX12_join rm cs 11 (lX12_join c_X12_areAble c_X12_areAlike c_X12_isBarred c_X12_bearAlike c_X12_joins c_X12_full c_X12_newLot c_X12_id c_X12_isThere c_X12_onOne c_X12_ofOne c_X12_placeOn c_X12_placeOf c_X12_offOn) R) (h301 : ∀ (x2 : Int) (x3 : Int) (x4 : Int) (x5 : Int) (x6 : Int) (M : e_M), k301 x2 x3 x4 x5 x6 M → f_E sh t YX12_join rm cs (f_Q sh t R) 301 [.inr (.inr (.inl (12, 123, 4456))), .inr (.inr (.inr ())), .inl x2, .inl x3, .inl x4, .inl x5, .inl x6, .inr (.inr (.inr ())), .inr (.inr (.inr ()))] [] M) (h : VX12_join_283 c_X12_areAble c_X12_areAlike c_X12_isBarred c_X12_bearAlike c_X12_joins c_X12_full c_X12_newLot c_X12_id c_X12_isThere c_X12_onOne c_X12_ofOne c_X12_placeOn c_X12_placeOf c_X12_offOn k301 (fun r M => R (some (.inl r)) M) x2 x3 x4 x5 x6 x7 M) : f_E sh t YX12_join rm cs (f_Q sh t R) 283 [.inr (.inr (.inl (12, 123, 4456))), .inr (.inr (.inr ())), .inl x2, .inl x3, .inl x4, .inl x5, .inl x6, .inl x7, .inr (.inr (.inr ()))] [] M :=
  f_go (KC := f_kc [(301, f_pl [(4466, 12, 123), (0, 0, 0), (1, 0, 0), (1, 0, 0), (1, 0, 0), (1, 0, 0), (1, 0, 0), (0, 0, 0), (0, 0, 0)] [] (fun ls st M => k301 (f_vi (f_nth ls 2)) (f_vi (f_nth ls 3)) (f_vi (f_nth ls 4)) (f_vi (f_nth ls 5)) (f_vi (f_nth ls 6)) M))]) C qX12_joinf (f_kc_cons (f_pl_ok rfl (fun ls st M h => h301 _ _ _ _ _ M h)) f_kc_nil) 184 165 h
set_option maxRecDepth 20000 in
theorem BX12_join_301 {sh : Nat → Nat × Nat} {t : Nat} {rm : Nat × Nat × Nat} {cs : Nat × Nat} {R : f_Rt} {c_X12_areAble : Int → e_M → (Int → Prop) → Prop} {c_X12_areAlike : Int → Int → e_M → (Int → Prop) → Prop} {c_X12_isBarred : Int → Int → e_M → (Int → Prop) → Prop} {c_X12_bearAlike : Int → Int → e_M → (Int → Prop) → Prop} {c_X12_joins : Int → Int → Int → Int → e_M → (Int → e_M → Prop) → Prop} {c_X12_full : Int → Int → e_M → (Int → Prop) → Prop} {c_X12_newLot : Int → Int → Int → Int → e_M → (Int → e_M → Prop) → Prop} {c_X12_id : Int → Int → e_M → (Int → Prop) → Prop} {c_X12_isThere : Int → Int → Int → e_M → (Int → Prop) → Prop} {c_X12_onOne : Int → Int → Int → Int → e_M → (e_M → Prop) → Prop} {c_X12_ofOne : Int → Int → Int → Int → e_M → (e_M → Prop) → Prop} {c_X12_placeOn : Int → Int → e_M → (Int → Prop) → Prop} {c_X12_placeOf : Int → Int → e_M → (Int → Prop) → Prop} {c_X12_offOn : Int → Int → e_M → (e_M → Prop) → Prop} {k175 : Int → Int → Int → Int → Int → e_M → Prop} {x2 : Int} {x3 : Int} {x4 : Int} {x5 : Int} {x6 : Int} {M : e_M} (C : f_Hy sh t yX12_join rm cs 11 (lX12_join c_X12_areAble c_X12_areAlike c_X12_isBarred c_X12_bearAlike c_X12_joins c_X12_full c_X12_newLot c_X12_id c_X12_isThere c_X12_onOne c_X12_ofOne c_X12_placeOn c_X12_placeOf c_X12_offOn) R) (h175 : ∀ (x2 : Int) (x3 : Int) (x4 : Int) (x5 : Int) (x6 : Int) (M : e_M), k175 x2 x3 x4 x5 x6 M → f_E sh t YX12_join rm cs (f_Q sh t R) 175 [.inr (.inr (.inl (12, 123, 4456))), .inr (.inr (.inr ())), .inl x2, .inl x3, .inl x4, .inl x5, .inl x6, .inr (.inr (.inr ())), .inr (.inr (.inr ()))] [] M) (h : VX12_join_301 c_X12_areAble c_X12_areAlike c_X12_isBarred c_X12_bearAlike c_X12_joins c_X12_full c_X12_newLot c_X12_id c_X12_isThere c_X12_onOne c_X12_ofOne c_X12_placeOn c_X12_placeOf c_X12_offOn k175 (fun r M => R (some (.inl r)) M) x2 x3 x4 x5 x6 M) : f_E sh t YX12_join rm cs (f_Q sh t R) 301 [.inr (.inr (.inl (12, 123, 4456))), .inr (.inr (.inr ())), .inl x2, .inl x3, .inl x4, .inl x5, .inl x6, .inr (.inr (.inr ())), .inr (.inr (.inr ()))] [] M :=
  f_go (KC := f_kc [(175, f_pl [(4466, 12, 123), (0, 0, 0), (1, 0, 0), (1, 0, 0), (1, 0, 0), (1, 0, 0), (1, 0, 0), (0, 0, 0), (0, 0, 0)] [] (fun ls st M => k175 (f_vi (f_nth ls 2)) (f_vi (f_nth ls 3)) (f_vi (f_nth ls 4)) (f_vi (f_nth ls 5)) (f_vi (f_nth ls 6)) M))]) C qX12_joinf (f_kc_cons (f_pl_ok rfl (fun ls st M h => h175 _ _ _ _ _ M h)) f_kc_nil) 184 176 h
set_option maxRecDepth 20000 in
theorem BX12_join {sh : Nat → Nat × Nat} {t : Nat} {rm : Nat × Nat × Nat} {cs : Nat × Nat} {R : f_Rt} {c_X12_areAble : Int → e_M → (Int → Prop) → Prop} {c_X12_areAlike : Int → Int → e_M → (Int → Prop) → Prop} {c_X12_isBarred : Int → Int → e_M → (Int → Prop) → Prop} {c_X12_bearAlike : Int → Int → e_M → (Int → Prop) → Prop} {c_X12_joins : Int → Int → Int → Int → e_M → (Int → e_M → Prop) → Prop} {c_X12_full : Int → Int → e_M → (Int → Prop) → Prop} {c_X12_newLot : Int → Int → Int → Int → e_M → (Int → e_M → Prop) → Prop} {c_X12_id : Int → Int → e_M → (Int → Prop) → Prop} {c_X12_isThere : Int → Int → Int → e_M → (Int → Prop) → Prop} {c_X12_onOne : Int → Int → Int → Int → e_M → (e_M → Prop) → Prop} {c_X12_ofOne : Int → Int → Int → Int → e_M → (e_M → Prop) → Prop} {c_X12_placeOn : Int → Int → e_M → (Int → Prop) → Prop} {c_X12_placeOf : Int → Int → e_M → (Int → Prop) → Prop} {c_X12_offOn : Int → Int → e_M → (e_M → Prop) → Prop} {k165 : Int → Int → Int → Int → e_M → Prop} {x1 : Int} {M : e_M} (C : f_Hy sh t yX12_join rm cs 11 (lX12_join c_X12_areAble c_X12_areAlike c_X12_isBarred c_X12_bearAlike c_X12_joins c_X12_full c_X12_newLot c_X12_id c_X12_isThere c_X12_onOne c_X12_ofOne c_X12_placeOn c_X12_placeOf c_X12_offOn) R) (h165 : ∀ (x2 : Int) (x3 : Int) (x4 : Int) (x5 : Int) (M : e_M), k165 x2 x3 x4 x5 M → f_E sh t YX12_join rm cs (f_Q sh t R) 165 [.inr (.inr (.inl (12, 123, 4456))), .inr (.inr (.inr ())), .inl x2, .inl x3, .inl x4, .inl x5, .inr (.inr (.inr ())), .inr (.inr (.inr ())), .inr (.inr (.inr ()))] [] M) (h : VX12_join c_X12_areAble c_X12_areAlike c_X12_isBarred c_X12_bearAlike c_X12_joins c_X12_full c_X12_newLot c_X12_id c_X12_isThere c_X12_onOne c_X12_ofOne c_X12_placeOn c_X12_placeOf c_X12_offOn k165 (fun r M => R (some (.inl r)) M) x1 M) : f_E sh t YX12_join rm cs (f_Q sh t R) 0 [.inr (.inr (.inl (12, 123, 4456))), .inl x1, .inr (.inr (.inr ())), .inr (.inr (.inr ())), .inr (.inr (.inr ())), .inr (.inr (.inr ())), .inr (.inr (.inr ())), .inr (.inr (.inr ())), .inr (.inr (.inr ()))] [] M :=
  f_go (KC := f_kc [(165, f_pl [(4466, 12, 123), (0, 0, 0), (1, 0, 0), (1, 0, 0), (1, 0, 0), (1, 0, 0), (0, 0, 0), (0, 0, 0), (0, 0, 0)] [] (fun ls st M => k165 (f_vi (f_nth ls 2)) (f_vi (f_nth ls 3)) (f_vi (f_nth ls 4)) (f_vi (f_nth ls 5)) M))]) C qX12_joinf (f_kc_cons (f_pl_ok rfl (fun ls st M h => h165 _ _ _ _ M h)) f_kc_nil) 184 0 h
def WX12_join_301 (H165 : Int → Int → Int → Int → e_M → Prop) (H175 : Int → Int → Int → Int → Int → e_M → Prop) (Q : Int → e_M → Prop) (x2 : Int) (x3 : Int) (x4 : Int) (x5 : Int) (x6 : Int) (M : e_M) : Prop :=
  VX12_join_301 WX12_areAble WX12_areAlike WX12_isBarred WX12_bearAlike WX12_joins WX12_full WX12_newLot WX12_id WX12_isThere WX12_onOne WX12_ofOne WX12_placeOn WX12_placeOf WX12_offOn H175 Q x2 x3 x4 x5 x6 M
def WX12_join_283 (H165 : Int → Int → Int → Int → e_M → Prop) (H175 : Int → Int → Int → Int → Int → e_M → Prop) (Q : Int → e_M → Prop) (x2 : Int) (x3 : Int) (x4 : Int) (x5 : Int) (x6 : Int) (x7 : Int) (M : e_M) : Prop :=
  VX12_join_283 WX12_areAble WX12_areAlike WX12_isBarred WX12_bearAlike WX12_joins WX12_full WX12_newLot WX12_id WX12_isThere WX12_onOne WX12_ofOne WX12_placeOn WX12_placeOf WX12_offOn (WX12_join_301 H165 H175 Q) Q x2 x3 x4 x5 x6 x7 M
def WX12_join_175 (H165 : Int → Int → Int → Int → e_M → Prop) (Q : Int → e_M → Prop) : Nat → Int → Int → Int → Int → Int → e_M → Prop
  | 0, _, _, _, _, _, _ => False
  | n + 1, x2, x3, x4, x5, x6, M =>
    VX12_join_175 WX12_areAble WX12_areAlike WX12_isBarred WX12_bearAlike WX12_joins WX12_full WX12_newLot WX12_id WX12_isThere WX12_onOne WX12_ofOne WX12_placeOn WX12_placeOf WX12_offOn H165 (WX12_join_301 H165 (WX12_join_175 H165 Q n) Q) (WX12_join_283 H165 (WX12_join_175 H165 Q n) Q) Q x2 x3 x4 x5 x6 M
def WX12_join_165 (Q : Int → e_M → Prop) : Nat → Int → Int → Int → Int → e_M → Prop
  | 0, _, _, _, _, _ => False
  | n + 1, x2, x3, x4, x5, M =>
    VX12_join_165 WX12_areAble WX12_areAlike WX12_isBarred WX12_bearAlike WX12_joins WX12_full WX12_newLot WX12_id WX12_isThere WX12_onOne WX12_ofOne WX12_placeOn WX12_placeOf WX12_offOn (fun x2 x3 x4 x5 x6 M => ∃ j, WX12_join_175 (WX12_join_165 Q n) Q j x2 x3 x4 x5 x6 M) Q x2 x3 x4 x5 M
def WX12_join (x1 : Int) (M : e_M) (Q : Int → e_M → Prop) : Prop :=
  VX12_join WX12_areAble WX12_areAlike WX12_isBarred WX12_bearAlike WX12_joins WX12_full WX12_newLot WX12_id WX12_isThere WX12_onOne WX12_ofOne WX12_placeOn WX12_placeOf WX12_offOn (fun x2 x3 x4 x5 M => ∃ j, WX12_join_165 Q j x2 x3 x4 x5 M) Q x1 M
theorem PX12_join_301 {sh : Nat → Nat × Nat} {t : Nat} {rm : Nat × Nat × Nat} {cs : Nat × Nat} {R : f_Rt} {H165 : Int → Int → Int → Int → e_M → Prop} {H175 : Int → Int → Int → Int → Int → e_M → Prop} {x2 : Int} {x3 : Int} {x4 : Int} {x5 : Int} {x6 : Int} {M : e_M} (C : f_Hy sh t yX12_join rm cs 11 (lX12_join WX12_areAble WX12_areAlike WX12_isBarred WX12_bearAlike WX12_joins WX12_full WX12_newLot WX12_id WX12_isThere WX12_onOne WX12_ofOne WX12_placeOn WX12_placeOf WX12_offOn) R) (g165 : ∀ (x2 : Int) (x3 : Int) (x4 : Int) (x5 : Int) (M : e_M), H165 x2 x3 x4 x5 M → f_E sh t YX12_join rm cs (f_Q sh t R) 165 [.inr (.inr (.inl (12, 123, 4456))), .inr (.inr (.inr ())), .inl x2, .inl x3, .inl x4, .inl x5, .inr (.inr (.inr ())), .inr (.inr (.inr ())), .inr (.inr (.inr ()))] [] M) (g175 : ∀ (x2 : Int) (x3 : Int) (x4 : Int) (x5 : Int) (x6 : Int) (M : e_M), H175 x2 x3 x4 x5 x6 M → f_E sh t YX12_join rm cs (f_Q sh t R) 175 [.inr (.inr (.inl (12, 123, 4456))), .inr (.inr (.inr ())), .inl x2, .inl x3, .inl x4, .inl x5, .inl x6, .inr (.inr (.inr ())), .inr (.inr (.inr ()))] [] M) (h : WX12_join_301 H165 H175 (fun r M => R (some (.inl r)) M) x2 x3 x4 x5 x6 M) : f_E sh t YX12_join rm cs (f_Q sh t R) 301 [.inr (.inr (.inl (12, 123, 4456))), .inr (.inr (.inr ())), .inl x2, .inl x3, .inl x4, .inl x5, .inl x6, .inr (.inr (.inr ())), .inr (.inr (.inr ()))] [] M :=
  BX12_join_301 C g175 h
theorem PX12_join_283 {sh : Nat → Nat × Nat} {t : Nat} {rm : Nat × Nat × Nat} {cs : Nat × Nat} {R : f_Rt} {H165 : Int → Int → Int → Int → e_M → Prop} {H175 : Int → Int → Int → Int → Int → e_M → Prop} {x2 : Int} {x3 : Int} {x4 : Int} {x5 : Int} {x6 : Int} {x7 : Int} {M : e_M} (C : f_Hy sh t yX12_join rm cs 11 (lX12_join WX12_areAble WX12_areAlike WX12_isBarred WX12_bearAlike WX12_joins WX12_full WX12_newLot WX12_id WX12_isThere WX12_onOne WX12_ofOne WX12_placeOn WX12_placeOf WX12_offOn) R) (g165 : ∀ (x2 : Int) (x3 : Int) (x4 : Int) (x5 : Int) (M : e_M), H165 x2 x3 x4 x5 M → f_E sh t YX12_join rm cs (f_Q sh t R) 165 [.inr (.inr (.inl (12, 123, 4456))), .inr (.inr (.inr ())), .inl x2, .inl x3, .inl x4, .inl x5, .inr (.inr (.inr ())), .inr (.inr (.inr ())), .inr (.inr (.inr ()))] [] M) (g175 : ∀ (x2 : Int) (x3 : Int) (x4 : Int) (x5 : Int) (x6 : Int) (M : e_M), H175 x2 x3 x4 x5 x6 M → f_E sh t YX12_join rm cs (f_Q sh t R) 175 [.inr (.inr (.inl (12, 123, 4456))), .inr (.inr (.inr ())), .inl x2, .inl x3, .inl x4, .inl x5, .inl x6, .inr (.inr (.inr ())), .inr (.inr (.inr ()))] [] M) (h : WX12_join_283 H165 H175 (fun r M => R (some (.inl r)) M) x2 x3 x4 x5 x6 x7 M) : f_E sh t YX12_join rm cs (f_Q sh t R) 283 [.inr (.inr (.inl (12, 123, 4456))), .inr (.inr (.inr ())), .inl x2, .inl x3, .inl x4, .inl x5, .inl x6, .inl x7, .inr (.inr (.inr ()))] [] M :=
  BX12_join_283 C (fun x2 x3 x4 x5 x6 M h => PX12_join_301 C g165 g175 h) h
theorem PX12_join_175 {sh : Nat → Nat × Nat} {t : Nat} {rm : Nat × Nat × Nat} {cs : Nat × Nat} {R : f_Rt} {H165 : Int → Int → Int → Int → e_M → Prop} (C : f_Hy sh t yX12_join rm cs 11 (lX12_join WX12_areAble WX12_areAlike WX12_isBarred WX12_bearAlike WX12_joins WX12_full WX12_newLot WX12_id WX12_isThere WX12_onOne WX12_ofOne WX12_placeOn WX12_placeOf WX12_offOn) R) (g165 : ∀ (x2 : Int) (x3 : Int) (x4 : Int) (x5 : Int) (M : e_M), H165 x2 x3 x4 x5 M → f_E sh t YX12_join rm cs (f_Q sh t R) 165 [.inr (.inr (.inl (12, 123, 4456))), .inr (.inr (.inr ())), .inl x2, .inl x3, .inl x4, .inl x5, .inr (.inr (.inr ())), .inr (.inr (.inr ())), .inr (.inr (.inr ()))] [] M) : ∀ (n : Nat) (x2 : Int) (x3 : Int) (x4 : Int) (x5 : Int) (x6 : Int) (M : e_M), WX12_join_175 H165 (fun r M => R (some (.inl r)) M) n x2 x3 x4 x5 x6 M → f_E sh t YX12_join rm cs (f_Q sh t R) 175 [.inr (.inr (.inl (12, 123, 4456))), .inr (.inr (.inr ())), .inl x2, .inl x3, .inl x4, .inl x5, .inl x6, .inr (.inr (.inr ())), .inr (.inr (.inr ()))] [] M := by
  intro n
  induction n with
  | zero => intro x2 x3 x4 x5 x6 M h; exact h.elim
  | succ n ih => intro x2 x3 x4 x5 x6 M h; exact BX12_join_175 C g165 (fun x2 x3 x4 x5 x6 M h => PX12_join_301 C g165 ih h) (fun x2 x3 x4 x5 x6 x7 M h => PX12_join_283 C g165 ih h) h
theorem PX12_join_165 {sh : Nat → Nat × Nat} {t : Nat} {rm : Nat × Nat × Nat} {cs : Nat × Nat} {R : f_Rt} (C : f_Hy sh t yX12_join rm cs 11 (lX12_join WX12_areAble WX12_areAlike WX12_isBarred WX12_bearAlike WX12_joins WX12_full WX12_newLot WX12_id WX12_isThere WX12_onOne WX12_ofOne WX12_placeOn WX12_placeOf WX12_offOn) R) : ∀ (n : Nat) (x2 : Int) (x3 : Int) (x4 : Int) (x5 : Int) (M : e_M), WX12_join_165 (fun r M => R (some (.inl r)) M) n x2 x3 x4 x5 M → f_E sh t YX12_join rm cs (f_Q sh t R) 165 [.inr (.inr (.inl (12, 123, 4456))), .inr (.inr (.inr ())), .inl x2, .inl x3, .inl x4, .inl x5, .inr (.inr (.inr ())), .inr (.inr (.inr ())), .inr (.inr (.inr ()))] [] M := by
  intro n
  induction n with
  | zero => intro x2 x3 x4 x5 M h; exact h.elim
  | succ n ih => intro x2 x3 x4 x5 M h; exact BX12_join_165 C (fun x2 x3 x4 x5 x6 M ⟨j, h⟩ => PX12_join_175 C ih j _ _ _ _ _ _ h) h
theorem PX12_join {sh : Nat → Nat × Nat} {t : Nat} {rm : Nat × Nat × Nat} {cs : Nat × Nat} {R : f_Rt} {x1 : Int} {M : e_M} (C : f_Hy sh t yX12_join rm cs 11 (lX12_join WX12_areAble WX12_areAlike WX12_isBarred WX12_bearAlike WX12_joins WX12_full WX12_newLot WX12_id WX12_isThere WX12_onOne WX12_ofOne WX12_placeOn WX12_placeOf WX12_offOn) R) (h : WX12_join x1 M (fun r M => R (some (.inl r)) M)) : f_E sh t YX12_join rm cs (f_Q sh t R) 0 [.inr (.inr (.inl (12, 123, 4456))), .inl x1, .inr (.inr (.inr ())), .inr (.inr (.inr ())), .inr (.inr (.inr ())), .inr (.inr (.inr ())), .inr (.inr (.inr ())), .inr (.inr (.inr ())), .inr (.inr (.inr ()))] [] M :=
  BX12_join C (fun x2 x3 x4 x5 M ⟨j, h⟩ => PX12_join_165 C j _ _ _ _ _ h) h
def wX12_join : f_Wt := f_wm [(4466, 12, 123), (1, 0, 0)] (fun ar M R => WX12_join (f_vi (f_nth ar 1)) M (fun r M => R (some (.inl r)) M))
theorem TX12_join {sh : Nat → Nat × Nat} {t : Nat} : f_Mt sh t YX12_join 11 (wX12_join) :=
  f_Mt_of (k := 7) (Nat.le_of_ble_eq_true rfl) rfl rfl (fun ar M R rm cs h1 h2 h3 hX h => PX12_join ⟨Nat.le_of_ble_eq_true rfl, h1, h2, h3, ⟨(f_Mt.up (Nat.le_of_ble_eq_true rfl) TX12_areAble), (f_Mt.up (Nat.le_of_ble_eq_true rfl) TX12_areAlike), (f_Mt.up (Nat.le_of_ble_eq_true rfl) TX12_isBarred), (f_Mt.up (Nat.le_of_ble_eq_true rfl) TX12_bearAlike), (f_Mt.up (Nat.le_of_ble_eq_true rfl) TX12_joins), (f_Mt.up (Nat.le_of_ble_eq_true rfl) TX12_full), (f_Mt.up (Nat.le_of_ble_eq_true rfl) TX12_newLot), (f_Mt.up (Nat.le_of_ble_eq_true rfl) TX12_id), (f_Mt.up (Nat.le_of_ble_eq_true rfl) TX12_isThere), (f_Mt.up (Nat.le_of_ble_eq_true rfl) TX12_onOne), (f_Mt.up (Nat.le_of_ble_eq_true rfl) TX12_ofOne), (f_Mt.up (Nat.le_of_ble_eq_true rfl) TX12_placeOn), (f_Mt.up (Nat.le_of_ble_eq_true rfl) TX12_placeOf), (f_Mt.up (Nat.le_of_ble_eq_true rfl) TX12_offOn), trivial⟩, hX⟩ h)
def VX12_border_106 (c_X12_areAble : Int → e_M → (Int → Prop) → Prop) (c_X12_isBarred : Int → Int → e_M → (Int → Prop) → Prop) (c_X12_joins : Int → Int → Int → Int → e_M → (Int → e_M → Prop) → Prop) (c_X12_cuts : Int → Int → Int → e_M → (Int → e_M → Prop) → Prop) (c_X12_id : Int → Int → e_M → (Int → Prop) → Prop) (c_X12_isThere : Int → Int → Int → e_M → (Int → Prop) → Prop) (c_X12_placeOn : Int → Int → e_M → (Int → Prop) → Prop) (c_X12_hasPoint : Int → Int → Int → e_M → (Int → Prop) → Prop) (k225 : Int → Int → Int → e_M → Prop) (k168 : Int → Int → Int → Int → e_M → Prop) (k196 : Int → Int → Int → e_M → Prop) (Q : Int → e_M → Prop) (x2 : Int) (x3 : Int) (x4 : Int) (M : e_M) : Prop :=
  ((0 ≤ (3 : Int) ∧ (3 : Int) < 7) ∧ (((M 4483 ((3 : Int).toNat)) ≤ x4 → ((0 ≤ x2 ∧ x2 < 80) ∧ (∀ M1 : e_M, M1 = e_up M 4496 (x2.toNat) (M 4456 42) → ((0 ≤ x3 ∧ x3 < 80) ∧ (∀ M2 : e_M, M2 = e_up M1 4496 (x3.toNat) (M1 4456 43) → (k225 x2 x3 0 M2)))))) ∧ (x4 < (M 4483 ((3 : Int).toNat)) → (c_X12_id 3 x4 M (fun r3 => (c_X12_isThere 3 x4 (M 4456 86) M (fun r4 => ((¬ r4 = 0 → (c_X12_placeOn r3 x2 M (fun r5 => ((r5 < 0 → (k168 x2 x3 x4 r3 M)) ∧ (0 ≤ r5 → (c_X12_hasPoint x4 3600 (M 4456 42) M (fun r6 => ((r6 = 0 → (Q 5 M)) ∧ (¬ r6 = 0 → (k168 x2 x3 x4 r3 M)))))))))) ∧ (r4 = 0 → (k196 x2 x3 x4 M))))))))))
def VX12_border_168 (c_X12_areAble : Int → e_M → (Int → Prop) → Prop) (c_X12_isBarred : Int → Int → e_M → (Int → Prop) → Prop) (c_X12_joins : Int → Int → Int → Int → e_M → (Int → e_M → Prop) → Prop) (c_X12_cuts : Int → Int → Int → e_M → (Int → e_M → Prop) → Prop) (c_X12_id : Int → Int → e_M → (Int → Prop) → Prop) (c_X12_isThere : Int → Int → Int → e_M → (Int → Prop) → Prop) (c_X12_placeOn : Int → Int → e_M → (Int → Prop) → Prop) (c_X12_hasPoint : Int → Int → Int → e_M → (Int → Prop) → Prop) (k196 : Int → Int → Int → e_M → Prop) (Q : Int → e_M → Prop) (x2 : Int) (x3 : Int) (x4 : Int) (x5 : Int) (M : e_M) : Prop :=
  (c_X12_placeOn x5 x3 M (fun r1 => ((r1 < 0 → (k196 x2 x3 x4 M)) ∧ (0 ≤ r1 → (c_X12_hasPoint x4 4000 (M 4456 43) M (fun r2 => ((¬ r2 = 0 → (k196 x2 x3 x4 M)) ∧ (r2 = 0 → (Q 5 M)))))))))
def VX12_border_196 (c_X12_areAble : Int → e_M → (Int → Prop) → Prop) (c_X12_isBarred : Int → Int → e_M → (Int → Prop) → Prop) (c_X12_joins : Int → Int → Int → Int → e_M → (Int → e_M → Prop) → Prop) (c_X12_cuts : Int → Int → Int → e_M → (Int → e_M → Prop) → Prop) (c_X12_id : Int → Int → e_M → (Int → Prop) → Prop) (c_X12_isThere : Int → Int → Int → e_M → (Int → Prop) → Prop) (c_X12_placeOn : Int → Int → e_M → (Int → Prop) → Prop) (c_X12_hasPoint : Int → Int → Int → e_M → (Int → Prop) → Prop) (k106 : Int → Int → Int → e_M → Prop) (Q : Int → e_M → Prop) (x2 : Int) (x3 : Int) (x4 : Int) (M : e_M) : Prop :=
  (k106 x2 x3 (e_w32 (x4 + 1)) M)
def VX12_border_225 (c_X12_areAble : Int → e_M → (Int → Prop) → Prop) (c_X12_isBarred : Int → Int → e_M → (Int → Prop) → Prop) (c_X12_joins : Int → Int → Int → Int → e_M → (Int → e_M → Prop) → Prop) (c_X12_cuts : Int → Int → Int → e_M → (Int → e_M → Prop) → Prop) (c_X12_id : Int → Int → e_M → (Int → Prop) → Prop) (c_X12_isThere : Int → Int → Int → e_M → (Int → Prop) → Prop) (c_X12_placeOn : Int → Int → e_M → (Int → Prop) → Prop) (c_X12_hasPoint : Int → Int → Int → e_M → (Int → Prop) → Prop) (k225 : Int → Int → Int → e_M → Prop) (Q : Int → e_M → Prop) (x2 : Int) (x3 : Int) (x4 : Int) (M : e_M) : Prop :=
  ((40 ≤ x4 → (Q 0 M)) ∧ (x4 < 40 → ((0 ≤ (e_w32 ((3600 : Int) + x4)) ∧ (e_w32 ((3600 : Int) + x4)) < 4800) ∧ ((0 ≤ (e_w32 ((e_w32 ((40 : Int) * x2)) + x4)) ∧ (e_w32 ((e_w32 ((40 : Int) * x2)) + x4)) < 4800) ∧ (∀ M1 : e_M, M1 = e_up M 4480 ((e_w32 ((e_w32 ((40 : Int) * x2)) + x4)).toNat) (M 4480 ((e_w32 ((3600 : Int) + x4)).toNat)) → ((0 ≤ (e_w32 ((3600 : Int) + x4)) ∧ (e_w32 ((3600 : Int) + x4)) < 4800) ∧ ((0 ≤ (e_w32 ((e_w32 ((40 : Int) * x2)) + x4)) ∧ (e_w32 ((e_w32 ((40 : Int) * x2)) + x4)) < 4800) ∧ (∀ M2 : e_M, M2 = e_up M1 4481 ((e_w32 ((e_w32 ((40 : Int) * x2)) + x4)).toNat) (M1 4481 ((e_w32 ((3600 : Int) + x4)).toNat)) → ((0 ≤ (e_w32 ((4000 : Int) + x4)) ∧ (e_w32 ((4000 : Int) + x4)) < 4800) ∧ ((0 ≤ (e_w32 ((e_w32 ((40 : Int) * x3)) + x4)) ∧ (e_w32 ((e_w32 ((40 : Int) * x3)) + x4)) < 4800) ∧ (∀ M3 : e_M, M3 = e_up M2 4480 ((e_w32 ((e_w32 ((40 : Int) * x3)) + x4)).toNat) (M2 4480 ((e_w32 ((4000 : Int) + x4)).toNat)) → ((0 ≤ (e_w32 ((4000 : Int) + x4)) ∧ (e_w32 ((4000 : Int) + x4)) < 4800) ∧ ((0 ≤ (e_w32 ((e_w32 ((40 : Int) * x3)) + x4)) ∧ (e_w32 ((e_w32 ((40 : Int) * x3)) + x4)) < 4800) ∧ (∀ M4 : e_M, M4 = e_up M3 4481 ((e_w32 ((e_w32 ((40 : Int) * x3)) + x4)).toNat) (M3 4481 ((e_w32 ((4000 : Int) + x4)).toNat)) → (k225 x2 x3 (e_w32 (x4 + 1)) M4)))))))))))))))
def VX12_border (c_X12_areAble : Int → e_M → (Int → Prop) → Prop) (c_X12_isBarred : Int → Int → e_M → (Int → Prop) → Prop) (c_X12_joins : Int → Int → Int → Int → e_M → (Int → e_M → Prop) → Prop) (c_X12_cuts : Int → Int → Int → e_M → (Int → e_M → Prop) → Prop) (c_X12_id : Int → Int → e_M → (Int → Prop) → Prop) (c_X12_isThere : Int → Int → Int → e_M → (Int → Prop) → Prop) (c_X12_placeOn : Int → Int → e_M → (Int → Prop) → Prop) (c_X12_hasPoint : Int → Int → Int → e_M → (Int → Prop) → Prop) (k106 : Int → Int → Int → e_M → Prop) (Q : Int → e_M → Prop) (x1 : Int) (M : e_M) : Prop :=
  ((0 ≤ (0 : Int) ∧ (0 : Int) < 10) ∧ ((0 ≤ (1 : Int) ∧ (1 : Int) < 10) ∧ ((¬ (M 4520 ((0 : Int).toNat)) = (M 4520 ((1 : Int).toNat)) → (c_X12_areAble (M 4520 ((0 : Int).toNat)) M (fun r1 => ((r1 = 0 → (Q 2 M)) ∧ (¬ r1 = 0 → (c_X12_areAble (M 4520 ((1 : Int).toNat)) M (fun r2 => ((¬ r2 = 0 → (c_X12_isBarred (M 4520 ((0 : Int).toNat)) (-1) M (fun r3 => ((¬ r3 = 0 → (Q 4 M)) ∧ (r3 = 0 → (c_X12_isBarred (M 4520 ((1 : Int).toNat)) (-1) M (fun r4 => ((r4 = 0 → ((0 ≤ (M 4520 ((0 : Int).toNat)) ∧ (M 4520 ((0 : Int).toNat)) < 80) ∧ ((0 ≤ (M 4520 ((1 : Int).toNat)) ∧ (M 4520 ((1 : Int).toNat)) < 80) ∧ (c_X12_joins (e_w32 ((40 : Int) * (M 4520 ((0 : Int).toNat)))) (M 4496 ((M 4520 ((0 : Int).toNat)).toNat)) (e_w32 ((40 : Int) * (M 4520 ((1 : Int).toNat)))) (M 4496 ((M 4520 ((1 : Int).toNat)).toNat)) M (fun r5 M6 => ((r5 = 0 → (Q 3 M6)) ∧ (¬ r5 = 0 → (c_X12_cuts 3200 (M6 4456 46) x1 M6 (fun r7 M8 => ((¬ r7 = 0 → (k106 (M 4520 ((0 : Int).toNat)) (M 4520 ((1 : Int).toNat)) 0 M8)) ∧ (r7 = 0 → (Q 3 M8)))))))))))) ∧ (¬ r4 = 0 → (Q 4 M)))))))))) ∧ (r2 = 0 → (Q 2 M)))))))))) ∧ ((M 4520 ((0 : Int).toNat)) = (M 4520 ((1 : Int).toNat)) → (Q 1 M)))))
def yX12_border (i : Nat) : e_Y := x_get YX12_border [YX12_areAble, YX12_isBarred, YX12_joins, YX12_cuts, YX12_id, YX12_isThere, YX12_placeOn, YX12_hasPoint] i
def pX12_borderf : List x_I := [(0, 4, 1, 0, 0, 0, []), (1, 25, 12, 91, 4, 0, [(0, 20, 10), (0, 1, 64)]), (4, 0, 1, 0, 0, 0, []), (5, 27, 0, 0, 0, 0, []), (6, 5, 1, 2, 0, 0, []), (7, 4, 1, 0, 0, 0, []), (8, 25, 12, 91, 4, 0, [(0, 20, 10), (0, 1, 64)]), (11, 0, 1, 0, 0, 1, []), (12, 27, 0, 0, 0, 0, []), (13, 5, 1, 3, 0, 0, []), (14, 2, 1, 2, 0, 0, []), (15, 2, 1, 3, 0, 0, []), (16, 18, 21, 1, 16, 0, []), (19, 0, 1, 0, 0, 1, []), (20, 41, 0, 0, 0, 0, []), (21, 4, 1, 0, 0, 0, []), (22, 2, 1, 2, 0, 0, []), (23, 40, 0, 2, 14, 0, []), (26, 17, 37, 0, 24, 0, []), (29, 4, 1, 0, 0, 0, []), (30, 2, 1, 3, 0, 0, []), (31, 40, 0, 2, 14, 0, []), (34, 17, 39, 1, 26, 0, []), (37, 0, 1, 0, 0, 2, []), (38, 41, 0, 0, 0, 0, []), (39, 4, 1, 0, 0, 0, []), (40, 2, 1, 2, 0, 0, []), (41, 0, 1, 0, 0, (-1), []), (42, 40, 1, 3, 14, 0, []), (45, 17, 57, 1, 36, 0, []), (48, 4, 1, 0, 0, 0, []), (49, 2, 1, 3, 0, 0, []), (50, 0, 1, 0, 0, (-1), []), (51, 40, 1, 3, 14, 0, []), (54, 17, 59, 0, 38, 0, []), (57, 0, 1, 0, 0, 4, []), (58, 41, 0, 0, 0, 0, []), (59, 4, 1, 0, 0, 0, []), (60, 0, 2, 0, 0, 40, []), (62, 2, 1, 2, 0, 0, []), (63, 9, 0, 2, 0, 0, []), (64, 4, 1, 0, 0, 0, []), (65, 25, 12, 63, 4, 0, [(0, 20, 80), (0, 1, 40)]), (68, 2, 1, 2, 0, 0, []), (69, 27, 0, 0, 0, 0, []), (70, 0, 2, 0, 0, 40, []), (72, 2, 1, 3, 0, 0, []), (73, 9, 0, 2, 0, 0, []), (74, 4, 1, 0, 0, 0, []), (75, 25, 12, 63, 4, 0, [(0, 20, 80), (0, 1, 40)]), (78, 2, 1, 3, 0, 0, []), (79, 27, 0, 0, 0, 0, []), (80, 40, 2, 5, 14, 0, []), (83, 17, 101, 0, 62, 0, []), (86, 4, 1, 0, 0, 0, []), (87, 0, 3, 0, 0, 3200, []), (90, 4, 1, 0, 0, 0, []), (91, 25, 12, 46, 0, 0, []), (94, 2, 1, 1, 0, 0, []), (95, 40, 3, 4, 14, 0, []), (98, 17, 103, 1, 64, 0, []), (101, 0, 1, 0, 0, 3, []), (102, 41, 0, 0, 0, 0, []), (103, 0, 1, 0, 0, 0, []), (104, 5, 2, 4, 0, 0, []), (106, 49, 0, 0, 0, 0, []), (106, 2, 2, 4, 0, 0, []), (108, 4, 1, 0, 0, 0, []), (109, 25, 12, 50, 4, 0, [(0, 20, 7), (0, 1, 27)]), (112, 0, 1, 0, 0, 3, []), (113, 27, 0, 0, 0, 0, []), (114, 18, 202, 3, 115, 0, []), (117, 0, 1, 0, 0, 3, []), (118, 2, 2, 4, 0, 0, []), (120, 40, 4, 2, 0, 0, []), (123, 5, 2, 5, 0, 0, []), (125, 4, 1, 0, 0, 0, []), (126, 0, 1, 0, 0, 3, []), (127, 2, 2, 4, 0, 0, []), (129, 4, 1, 0, 0, 0, []), (130, 25, 12, 86, 0, 0, []), (133, 40, 5, 4, 14, 0, []), (136, 17, 142, 1, 85, 0, []), (139, 19, 196, 0, 112, 0, []), (142, 4, 1, 0, 0, 0, []), (143, 2, 2, 5, 0, 0, []), (145, 2, 1, 2, 0, 0, []), (146, 40, 6, 3, 14, 0, []), (149, 17, 168, 2, 97, 0, []), (152, 4, 1, 0, 0, 0, []), (153, 2, 2, 4, 0, 0, []), (155, 0, 3, 0, 0, 3600, []), (158, 4, 1, 0, 0, 0, []), (159, 25, 12, 42, 0, 0, []), (162, 40, 7, 4, 14, 0, []), (165, 17, 194, 0, 110, 0, []), (168, 49, 0, 0, 0, 0, []), (168, 4, 1, 0, 0, 0, []), (169, 2, 2, 5, 0, 0, []), (171, 2, 1, 3, 0, 0, []), (172, 40, 6, 3, 14, 0, []), (175, 17, 196, 2, 112, 0, []), (178, 4, 1, 0, 0, 0, []), (179, 2, 2, 4, 0, 0, []), (181, 0, 3, 0, 0, 4000, []), (184, 4, 1, 0, 0, 0, []), (185, 25, 12, 43, 0, 0, []), (188, 40, 7, 4, 14, 0, []), (191, 17, 196, 1, 112, 0, []), (194, 0, 1, 0, 0, 5, []), (195, 41, 0, 0, 0, 0, []), (196, 49, 0, 0, 0, 0, []), (196, 8, 0, 4, 0, 1, []), (199, 19, 106, 0, 66, 0, []), (202, 4, 1, 0, 0, 0, []), (203, 25, 12, 63, 4, 0, [(0, 20, 80), (0, 1, 40)]), (206, 2, 1, 2, 0, 0, []), (207, 4, 1, 0, 0, 0, []), (208, 25, 12, 42, 0, 0, []), (211, 28, 0, 0, 0, 0, []), (212, 4, 1, 0, 0, 0, []), (213, 25, 12, 63, 4, 0, [(0, 20, 80), (0, 1, 40)]), (216, 2, 1, 3, 0, 0, []), (217, 4, 1, 0, 0, 0, []), (218, 25, 12, 43, 0, 0, []), (221, 28, 0, 0, 0, 0, []), (222, 0, 1, 0, 0, 0, []), (223, 5, 2, 4, 0, 0, []), (225, 49, 0, 0, 0, 0, []), (225, 2, 2, 4, 0, 0, []), (227, 0, 2, 0, 0, 40, []), (229, 18, 330, 3, 191, 0, []), (232, 4, 1, 0, 0, 0, []), (233, 25, 12, 40, 4, 0, [(0, 20, 4800), (0, 1, 24)]), (236, 0, 2, 0, 0, 40, []), (238, 2, 1, 2, 0, 0, []), (239, 9, 0, 2, 0, 0, []), (240, 2, 2, 4, 0, 0, []), (242, 9, 0, 0, 0, 0, []), (243, 4, 1, 0, 0, 0, []), (244, 25, 12, 40, 4, 0, [(0, 20, 4800), (0, 1, 24)]), (247, 0, 3, 0, 0, 3600, []), (250, 2, 2, 4, 0, 0, []), (252, 9, 0, 0, 0, 0, []), (253, 27, 0, 0, 0, 0, []), (254, 28, 0, 0, 0, 0, []), (255, 4, 1, 0, 0, 0, []), (256, 25, 12, 41, 4, 0, [(0, 20, 4800), (0, 1, 25)]), (259, 0, 2, 0, 0, 40, []), (261, 2, 1, 2, 0, 0, []), (262, 9, 0, 2, 0, 0, []), (263, 2, 2, 4, 0, 0, []), (265, 9, 0, 0, 0, 0, []), (266, 4, 1, 0, 0, 0, []), (267, 25, 12, 41, 4, 0, [(0, 20, 4800), (0, 1, 25)]), (270, 0, 3, 0, 0, 3600, []), (273, 2, 2, 4, 0, 0, []), (275, 9, 0, 0, 0, 0, []), (276, 27, 0, 0, 0, 0, []), (277, 28, 0, 0, 0, 0, []), (278, 4, 1, 0, 0, 0, []), (279, 25, 12, 40, 4, 0, [(0, 20, 4800), (0, 1, 24)]), (282, 0, 2, 0, 0, 40, []), (284, 2, 1, 3, 0, 0, []), (285, 9, 0, 2, 0, 0, []), (286, 2, 2, 4, 0, 0, []), (288, 9, 0, 0, 0, 0, []), (289, 4, 1, 0, 0, 0, []), (290, 25, 12, 40, 4, 0, [(0, 20, 4800), (0, 1, 24)]), (293, 0, 3, 0, 0, 4000, []), (296, 2, 2, 4, 0, 0, []), (298, 9, 0, 0, 0, 0, []), (299, 27, 0, 0, 0, 0, []), (300, 28, 0, 0, 0, 0, []), (301, 4, 1, 0, 0, 0, []), (302, 25, 12, 41, 4, 0, [(0, 20, 4800), (0, 1, 25)]), (305, 0, 2, 0, 0, 40, []), (307, 2, 1, 3, 0, 0, []), (308, 9, 0, 2, 0, 0, []), (309, 2, 2, 4, 0, 0, []), (311, 9, 0, 0, 0, 0, []), (312, 4, 1, 0, 0, 0, []), (313, 25, 12, 41, 4, 0, [(0, 20, 4800), (0, 1, 25)]), (316, 0, 3, 0, 0, 4000, []), (319, 2, 2, 4, 0, 0, []), (321, 9, 0, 0, 0, 0, []), (322, 27, 0, 0, 0, 0, []), (323, 28, 0, 0, 0, 0, []), (324, 8, 0, 4, 0, 1, []), (327, 19, 225, 0, 129, 0, []), (330, 0, 1, 0, 0, 0, []), (331, 41, 0, 0, 0, 0, [])]
set_option maxRecDepth 20000 in
theorem qX12_borderf : f_all yX12_border YX12_border pX12_borderf :=
  ⟨f_aload_n (n := 0) (e_dx DX12_border_0 0 rfl) rfl,
  f_getA (e_dx DX12_border_0 1 rfl) fX12_202 rfl (by decide) (Nat.le_of_ble_eq_true rfl) rfl (by decide),
  f_iconst (e_dx DX12_border_0 2 rfl) ⟨by decide, by decide⟩,
  f_iaload (e_dx DX12_border_0 3 rfl),
  f_istore_n (n := 2) (e_dx DX12_border_0 4 rfl) rfl (by decide),
  f_aload_n (n := 0) (e_dx DX12_border_0 5 rfl) rfl,
  f_getA (e_dx DX12_border_0 6 rfl) fX12_202 rfl (by decide) (Nat.le_of_ble_eq_true rfl) rfl (by decide),
  f_iconst (e_dx DX12_border_0 7 rfl) ⟨by decide, by decide⟩,
  f_iaload (e_dx DX12_border_0 8 rfl),
  f_istore_n (n := 3) (e_dx DX12_border_0 9 rfl) rfl (by decide),
  f_iload_n (n := 2) (e_dx DX12_border_0 10 rfl) rfl,
  f_iload_n (n := 3) (e_dx DX12_border_0 11 rfl) rfl,
  f_icmp_ne (e_dx DX12_border_0 12 rfl) rfl,
  f_iconst (e_dx DX12_border_0 13 rfl) ⟨by decide, by decide⟩,
  ⟨(e_dx DX12_border_0 14 rfl), rfl⟩,
  f_aload_n (n := 0) (e_dx DX12_border_0 15 rfl) rfl,
  f_iload_n (n := 2) (e_dx DX12_border_0 16 rfl) rfl,
  x_callV (e_dx DX12_border_0 17 rfl) mwX12_areAble vwX12_areAble cX12_707 rfl,
  f_if_eq (e_dx DX12_border_0 18 rfl) rfl,
  f_aload_n (n := 0) (e_dx DX12_border_0 19 rfl) rfl,
  f_iload_n (n := 3) (e_dx DX12_border_0 20 rfl) rfl,
  x_callV (e_dx DX12_border_0 21 rfl) mwX12_areAble vwX12_areAble cX12_707 rfl,
  f_if_ne (e_dx DX12_border_0 22 rfl) rfl,
  f_iconst (e_dx DX12_border_0 23 rfl) ⟨by decide, by decide⟩,
  ⟨(e_dx DX12_border_0 24 rfl), rfl⟩,
  f_aload_n (n := 0) (e_dx DX12_border_0 25 rfl) rfl,
  f_iload_n (n := 2) (e_dx DX12_border_0 26 rfl) rfl,
  f_iconst (e_dx DX12_border_0 27 rfl) ⟨by decide, by decide⟩,
  x_callV (e_dx DX12_border_0 28 rfl) mwX12_isBarred vwX12_isBarred cX12_698 rfl,
  f_if_ne (e_dx DX12_border_0 29 rfl) rfl,
  f_aload_n (n := 0) (e_dx DX12_border_0 30 rfl) rfl,
  f_iload_n (n := 3) (e_dx DX12_border_0 31 rfl) rfl,
  f_iconst (e_dx DX12_border_0 32 rfl) ⟨by decide, by decide⟩,
  x_callV (e_dx DX12_border_0 33 rfl) mwX12_isBarred vwX12_isBarred cX12_698 rfl,
  f_if_eq (e_dx DX12_border_0 34 rfl) rfl,
  f_iconst (e_dx DX12_border_0 35 rfl) ⟨by decide, by decide⟩,
  ⟨(e_dx DX12_border_0 36 rfl), rfl⟩,
  f_aload_n (n := 0) (e_dx DX12_border_0 37 rfl) rfl,
  f_bipush (e_dx DX12_border_0 38 rfl) ⟨by decide, by decide⟩,
  f_iload_n (n := 2) (e_dx DX12_border_0 39 rfl) rfl,
  f_imul (e_dx DX12_border_1 0 rfl),
  f_aload_n (n := 0) (e_dx DX12_border_1 1 rfl) rfl,
  f_getA (e_dx DX12_border_1 2 rfl) fX12_130 rfl (by decide) (Nat.le_of_ble_eq_true rfl) rfl (by decide),
  f_iload_n (n := 2) (e_dx DX12_border_1 3 rfl) rfl,
  f_iaload (e_dx DX12_border_1 4 rfl),
  f_bipush (e_dx DX12_border_1 5 rfl) ⟨by decide, by decide⟩,
  f_iload_n (n := 3) (e_dx DX12_border_1 6 rfl) rfl,
  f_imul (e_dx DX12_border_1 7 rfl),
  f_aload_n (n := 0) (e_dx DX12_border_1 8 rfl) rfl,
  f_getA (e_dx DX12_border_1 9 rfl) fX12_130 rfl (by decide) (Nat.le_of_ble_eq_true rfl) rfl (by decide),
  f_iload_n (n := 3) (e_dx DX12_border_1 10 rfl) rfl,
  f_iaload (e_dx DX12_border_1 11 rfl),
  x_callV (e_dx DX12_border_1 12 rfl) mwX12_joins vwX12_joins cX12_735 rfl,
  f_if_eq (e_dx DX12_border_1 13 rfl) rfl,
  f_aload_n (n := 0) (e_dx DX12_border_1 14 rfl) rfl,
  f_sipush (e_dx DX12_border_1 15 rfl) ⟨by decide, by decide⟩,
  f_aload_n (n := 0) (e_dx DX12_border_1 16 rfl) rfl,
  f_getf (e_dx DX12_border_1 17 rfl) fX12_517 rfl (by decide) (by decide) (by decide),
  f_iload_n (n := 1) (e_dx DX12_border_1 18 rfl) rfl,
  x_callV (e_dx DX12_border_1 19 rfl) mwX12_cuts vwX12_cuts cX12_710 rfl,
  f_if_ne (e_dx DX12_border_1 20 rfl) rfl,
  f_iconst (e_dx DX12_border_1 21 rfl) ⟨by decide, by decide⟩,
  ⟨(e_dx DX12_border_1 22 rfl), rfl⟩,
  f_iconst (e_dx DX12_border_1 23 rfl) ⟨by decide, by decide⟩,
  f_istore (e_dx DX12_border_1 24 rfl) (by decide),
  trivial,
  f_iload (e_dx DX12_border_1 25 rfl),
  f_aload_n (n := 0) (e_dx DX12_border_1 26 rfl) rfl,
  f_getA (e_dx DX12_border_1 27 rfl) fX12_91 rfl (by decide) (Nat.le_of_ble_eq_true rfl) rfl (by decide),
  f_iconst (e_dx DX12_border_1 28 rfl) ⟨by decide, by decide⟩,
  f_iaload (e_dx DX12_border_1 29 rfl),
  f_icmp_ge (e_dx DX12_border_1 30 rfl) rfl,
  f_iconst (e_dx DX12_border_1 31 rfl) ⟨by decide, by decide⟩,
  f_iload (e_dx DX12_border_1 32 rfl),
  x_callS (e_dx DX12_border_1 33 rfl) mwX12_id cX12_540 swX12_id rfl,
  f_istore (e_dx DX12_border_1 34 rfl) (by decide),
  f_aload_n (n := 0) (e_dx DX12_border_1 35 rfl) rfl,
  f_iconst (e_dx DX12_border_1 36 rfl) ⟨by decide, by decide⟩,
  f_iload (e_dx DX12_border_1 37 rfl),
  f_aload_n (n := 0) (e_dx DX12_border_1 38 rfl) rfl,
  f_getf (e_dx DX12_border_1 39 rfl) fX12_543 rfl (by decide) (by decide) (by decide),
  x_callV (e_dx DX12_border_2 0 rfl) mwX12_isThere vwX12_isThere cX12_549 rfl,
  f_if_ne (e_dx DX12_border_2 1 rfl) rfl,
  f_g19 (e_dx DX12_border_2 2 rfl) rfl,
  f_aload_n (n := 0) (e_dx DX12_border_2 3 rfl) rfl,
  f_iload (e_dx DX12_border_2 4 rfl),
  f_iload_n (n := 2) (e_dx DX12_border_2 5 rfl) rfl,
  x_callV (e_dx DX12_border_2 6 rfl) mwX12_placeOn vwX12_placeOn cX12_573 rfl,
  f_if_lt (e_dx DX12_border_2 7 rfl) rfl,
  f_aload_n (n := 0) (e_dx DX12_border_2 8 rfl) rfl,
  f_iload (e_dx DX12_border_2 9 rfl),
  f_sipush (e_dx DX12_border_2 10 rfl) ⟨by decide, by decide⟩,
  f_aload_n (n := 0) (e_dx DX12_border_2 11 rfl) rfl,
  f_getf (e_dx DX12_border_2 12 rfl) fX12_468 rfl (by decide) (by decide) (by decide),
  x_callV (e_dx DX12_border_2 13 rfl) mwX12_hasPoint vwX12_hasPoint cX12_701 rfl,
  f_if_eq (e_dx DX12_border_2 14 rfl) rfl,
  trivial,
  f_aload_n (n := 0) (e_dx DX12_border_2 15 rfl) rfl,
  f_iload (e_dx DX12_border_2 16 rfl),
  f_iload_n (n := 3) (e_dx DX12_border_2 17 rfl) rfl,
  x_callV (e_dx DX12_border_2 18 rfl) mwX12_placeOn vwX12_placeOn cX12_573 rfl,
  f_if_lt (e_dx DX12_border_2 19 rfl) rfl,
  f_aload_n (n := 0) (e_dx DX12_border_2 20 rfl) rfl,
  f_iload (e_dx DX12_border_2 21 rfl),
  f_sipush (e_dx DX12_border_2 22 rfl) ⟨by decide, by decide⟩,
  f_aload_n (n := 0) (e_dx DX12_border_2 23 rfl) rfl,
  f_getf (e_dx DX12_border_2 24 rfl) fX12_471 rfl (by decide) (by decide) (by decide),
  x_callV (e_dx DX12_border_2 25 rfl) mwX12_hasPoint vwX12_hasPoint cX12_701 rfl,
  f_if_ne (e_dx DX12_border_2 26 rfl) rfl,
  f_iconst (e_dx DX12_border_2 27 rfl) ⟨by decide, by decide⟩,
  ⟨(e_dx DX12_border_2 28 rfl), rfl⟩,
  trivial,
  f_g8 (e_dx DX12_border_2 29 rfl) ⟨by decide, by decide⟩,
  f_g19 (e_dx DX12_border_2 30 rfl) rfl,
  f_aload_n (n := 0) (e_dx DX12_border_2 31 rfl) rfl,
  f_getA (e_dx DX12_border_2 32 rfl) fX12_130 rfl (by decide) (Nat.le_of_ble_eq_true rfl) rfl (by decide),
  f_iload_n (n := 2) (e_dx DX12_border_2 33 rfl) rfl,
  f_aload_n (n := 0) (e_dx DX12_border_2 34 rfl) rfl,
  f_getf (e_dx DX12_border_2 35 rfl) fX12_468 rfl (by decide) (by decide) (by decide),
  f_iastore (e_dx DX12_border_2 36 rfl),
  f_aload_n (n := 0) (e_dx DX12_border_2 37 rfl) rfl,
  f_getA (e_dx DX12_border_2 38 rfl) fX12_130 rfl (by decide) (Nat.le_of_ble_eq_true rfl) rfl (by decide),
  f_iload_n (n := 3) (e_dx DX12_border_2 39 rfl) rfl,
  f_aload_n (n := 0) (e_dx DX12_border_3 0 rfl) rfl,
  f_getf (e_dx DX12_border_3 1 rfl) fX12_471 rfl (by decide) (by decide) (by decide),
  f_iastore (e_dx DX12_border_3 2 rfl),
  f_iconst (e_dx DX12_border_3 3 rfl) ⟨by decide, by decide⟩,
  f_istore (e_dx DX12_border_3 4 rfl) (by decide),
  trivial,
  f_iload (e_dx DX12_border_3 5 rfl),
  f_bipush (e_dx DX12_border_3 6 rfl) ⟨by decide, by decide⟩,
  f_icmp_ge (e_dx DX12_border_3 7 rfl) rfl,
  f_aload_n (n := 0) (e_dx DX12_border_3 8 rfl) rfl,
  f_getA (e_dx DX12_border_3 9 rfl) fX12_82 rfl (by decide) (Nat.le_of_ble_eq_true rfl) rfl (by decide),
  f_bipush (e_dx DX12_border_3 10 rfl) ⟨by decide, by decide⟩,
  f_iload_n (n := 2) (e_dx DX12_border_3 11 rfl) rfl,
  f_imul (e_dx DX12_border_3 12 rfl),
  f_iload (e_dx DX12_border_3 13 rfl),
  f_iadd (e_dx DX12_border_3 14 rfl),
  f_aload_n (n := 0) (e_dx DX12_border_3 15 rfl) rfl,
  f_getA (e_dx DX12_border_3 16 rfl) fX12_82 rfl (by decide) (Nat.le_of_ble_eq_true rfl) rfl (by decide),
  f_sipush (e_dx DX12_border_3 17 rfl) ⟨by decide, by decide⟩,
  f_iload (e_dx DX12_border_3 18 rfl),
  f_iadd (e_dx DX12_border_3 19 rfl),
  f_iaload (e_dx DX12_border_3 20 rfl),
  f_iastore (e_dx DX12_border_3 21 rfl),
  f_aload_n (n := 0) (e_dx DX12_border_3 22 rfl) rfl,
  f_getA (e_dx DX12_border_3 23 rfl) fX12_85 rfl (by decide) (Nat.le_of_ble_eq_true rfl) rfl (by decide),
  f_bipush (e_dx DX12_border_3 24 rfl) ⟨by decide, by decide⟩,
  f_iload_n (n := 2) (e_dx DX12_border_3 25 rfl) rfl,
  f_imul (e_dx DX12_border_3 26 rfl),
  f_iload (e_dx DX12_border_3 27 rfl),
  f_iadd (e_dx DX12_border_3 28 rfl),
  f_aload_n (n := 0) (e_dx DX12_border_3 29 rfl) rfl,
  f_getA (e_dx DX12_border_3 30 rfl) fX12_85 rfl (by decide) (Nat.le_of_ble_eq_true rfl) rfl (by decide),
  f_sipush (e_dx DX12_border_3 31 rfl) ⟨by decide, by decide⟩,
  f_iload (e_dx DX12_border_3 32 rfl),
  f_iadd (e_dx DX12_border_3 33 rfl),
  f_iaload (e_dx DX12_border_3 34 rfl),
  f_iastore (e_dx DX12_border_3 35 rfl),
  f_aload_n (n := 0) (e_dx DX12_border_3 36 rfl) rfl,
  f_getA (e_dx DX12_border_3 37 rfl) fX12_82 rfl (by decide) (Nat.le_of_ble_eq_true rfl) rfl (by decide),
  f_bipush (e_dx DX12_border_3 38 rfl) ⟨by decide, by decide⟩,
  f_iload_n (n := 3) (e_dx DX12_border_3 39 rfl) rfl,
  f_imul (e_dx DX12_border_4 0 rfl),
  f_iload (e_dx DX12_border_4 1 rfl),
  f_iadd (e_dx DX12_border_4 2 rfl),
  f_aload_n (n := 0) (e_dx DX12_border_4 3 rfl) rfl,
  f_getA (e_dx DX12_border_4 4 rfl) fX12_82 rfl (by decide) (Nat.le_of_ble_eq_true rfl) rfl (by decide),
  f_sipush (e_dx DX12_border_4 5 rfl) ⟨by decide, by decide⟩,
  f_iload (e_dx DX12_border_4 6 rfl),
  f_iadd (e_dx DX12_border_4 7 rfl),
  f_iaload (e_dx DX12_border_4 8 rfl),
  f_iastore (e_dx DX12_border_4 9 rfl),
  f_aload_n (n := 0) (e_dx DX12_border_4 10 rfl) rfl,
  f_getA (e_dx DX12_border_4 11 rfl) fX12_85 rfl (by decide) (Nat.le_of_ble_eq_true rfl) rfl (by decide),
  f_bipush (e_dx DX12_border_4 12 rfl) ⟨by decide, by decide⟩,
  f_iload_n (n := 3) (e_dx DX12_border_4 13 rfl) rfl,
  f_imul (e_dx DX12_border_4 14 rfl),
  f_iload (e_dx DX12_border_4 15 rfl),
  f_iadd (e_dx DX12_border_4 16 rfl),
  f_aload_n (n := 0) (e_dx DX12_border_4 17 rfl) rfl,
  f_getA (e_dx DX12_border_4 18 rfl) fX12_85 rfl (by decide) (Nat.le_of_ble_eq_true rfl) rfl (by decide),
  f_sipush (e_dx DX12_border_4 19 rfl) ⟨by decide, by decide⟩,
  f_iload (e_dx DX12_border_4 20 rfl),
  f_iadd (e_dx DX12_border_4 21 rfl),
  f_iaload (e_dx DX12_border_4 22 rfl),
  f_iastore (e_dx DX12_border_4 23 rfl),
  f_g8 (e_dx DX12_border_4 24 rfl) ⟨by decide, by decide⟩,
  f_g19 (e_dx DX12_border_4 25 rfl) rfl,
  f_iconst (e_dx DX12_border_4 26 rfl) ⟨by decide, by decide⟩,
  ⟨(e_dx DX12_border_4 27 rfl), rfl⟩, trivial⟩
def lX12_border (c_X12_areAble : Int → e_M → (Int → Prop) → Prop) (c_X12_isBarred : Int → Int → e_M → (Int → Prop) → Prop) (c_X12_joins : Int → Int → Int → Int → e_M → (Int → e_M → Prop) → Prop) (c_X12_cuts : Int → Int → Int → e_M → (Int → e_M → Prop) → Prop) (c_X12_id : Int → Int → e_M → (Int → Prop) → Prop) (c_X12_isThere : Int → Int → Int → e_M → (Int → Prop) → Prop) (c_X12_placeOn : Int → Int → e_M → (Int → Prop) → Prop) (c_X12_hasPoint : Int → Int → Int → e_M → (Int → Prop) → Prop) : List (Nat × f_Wt) := [(0, f_wm [(4466, 12, 123), (1, 0, 0)] (fun ar M R => c_X12_areAble (f_vi (f_nth ar 1)) M (fun r => R (some (.inl r)) M))), (1, f_wm [(4466, 12, 123), (1, 0, 0), (1, 0, 0)] (fun ar M R => c_X12_isBarred (f_vi (f_nth ar 1)) (f_vi (f_nth ar 2)) M (fun r => R (some (.inl r)) M))), (2, f_wm [(4466, 12, 123), (1, 0, 0), (1, 0, 0), (1, 0, 0), (1, 0, 0)] (fun ar M R => c_X12_joins (f_vi (f_nth ar 1)) (f_vi (f_nth ar 2)) (f_vi (f_nth ar 3)) (f_vi (f_nth ar 4)) M (fun r M => R (some (.inl r)) M))), (3, f_wm [(4466, 12, 123), (1, 0, 0), (1, 0, 0), (1, 0, 0)] (fun ar M R => c_X12_cuts (f_vi (f_nth ar 1)) (f_vi (f_nth ar 2)) (f_vi (f_nth ar 3)) M (fun r M => R (some (.inl r)) M))), (4, f_wm [(1, 0, 0), (1, 0, 0)] (fun ar M R => c_X12_id (f_vi (f_nth ar 0)) (f_vi (f_nth ar 1)) M (fun r => R (some (.inl r)) M))), (5, f_wm [(4466, 12, 123), (1, 0, 0), (1, 0, 0), (1, 0, 0)] (fun ar M R => c_X12_isThere (f_vi (f_nth ar 1)) (f_vi (f_nth ar 2)) (f_vi (f_nth ar 3)) M (fun r => R (some (.inl r)) M))), (6, f_wm [(4466, 12, 123), (1, 0, 0), (1, 0, 0)] (fun ar M R => c_X12_placeOn (f_vi (f_nth ar 1)) (f_vi (f_nth ar 2)) M (fun r => R (some (.inl r)) M))), (7, f_wm [(4466, 12, 123), (1, 0, 0), (1, 0, 0), (1, 0, 0)] (fun ar M R => c_X12_hasPoint (f_vi (f_nth ar 1)) (f_vi (f_nth ar 2)) (f_vi (f_nth ar 3)) M (fun r => R (some (.inl r)) M)))]
set_option maxRecDepth 20000 in
theorem BX12_border_106 {sh : Nat → Nat × Nat} {t : Nat} {rm : Nat × Nat × Nat} {cs : Nat × Nat} {R : f_Rt} {c_X12_areAble : Int → e_M → (Int → Prop) → Prop} {c_X12_isBarred : Int → Int → e_M → (Int → Prop) → Prop} {c_X12_joins : Int → Int → Int → Int → e_M → (Int → e_M → Prop) → Prop} {c_X12_cuts : Int → Int → Int → e_M → (Int → e_M → Prop) → Prop} {c_X12_id : Int → Int → e_M → (Int → Prop) → Prop} {c_X12_isThere : Int → Int → Int → e_M → (Int → Prop) → Prop} {c_X12_placeOn : Int → Int → e_M → (Int → Prop) → Prop} {c_X12_hasPoint : Int → Int → Int → e_M → (Int → Prop) → Prop} {k225 : Int → Int → Int → e_M → Prop} {k168 : Int → Int → Int → Int → e_M → Prop} {k196 : Int → Int → Int → e_M → Prop} {x2 : Int} {x3 : Int} {x4 : Int} {M : e_M} (C : f_Hy sh t yX12_border rm cs 11 (lX12_border c_X12_areAble c_X12_isBarred c_X12_joins c_X12_cuts c_X12_id c_X12_isThere c_X12_placeOn c_X12_hasPoint) R) (h225 : ∀ (x2 : Int) (x3 : Int) (x4 : Int) (M : e_M), k225 x2 x3 x4 M → f_E sh t YX12_border rm cs (f_Q sh t R) 225 [.inr (.inr (.inl (12, 123, 4456))), .inr (.inr (.inr ())), .inl x2, .inl x3, .inl x4, .inr (.inr (.inr ()))] [] M) (h168 : ∀ (x2 : Int) (x3 : Int) (x4 : Int) (x5 : Int) (M : e_M), k168 x2 x3 x4 x5 M → f_E sh t YX12_border rm cs (f_Q sh t R) 168 [.inr (.inr (.inl (12, 123, 4456))), .inr (.inr (.inr ())), .inl x2, .inl x3, .inl x4, .inl x5] [] M) (h196 : ∀ (x2 : Int) (x3 : Int) (x4 : Int) (M : e_M), k196 x2 x3 x4 M → f_E sh t YX12_border rm cs (f_Q sh t R) 196 [.inr (.inr (.inl (12, 123, 4456))), .inr (.inr (.inr ())), .inl x2, .inl x3, .inl x4, .inr (.inr (.inr ()))] [] M) (h : VX12_border_106 c_X12_areAble c_X12_isBarred c_X12_joins c_X12_cuts c_X12_id c_X12_isThere c_X12_placeOn c_X12_hasPoint k225 k168 k196 (fun r M => R (some (.inl r)) M) x2 x3 x4 M) : f_E sh t YX12_border rm cs (f_Q sh t R) 106 [.inr (.inr (.inl (12, 123, 4456))), .inr (.inr (.inr ())), .inl x2, .inl x3, .inl x4, .inr (.inr (.inr ()))] [] M :=
  f_go (KC := f_kc [(225, f_pl [(4466, 12, 123), (0, 0, 0), (1, 0, 0), (1, 0, 0), (1, 0, 0), (0, 0, 0)] [] (fun ls st M => k225 (f_vi (f_nth ls 2)) (f_vi (f_nth ls 3)) (f_vi (f_nth ls 4)) M)), (168, f_pl [(4466, 12, 123), (0, 0, 0), (1, 0, 0), (1, 0, 0), (1, 0, 0), (1, 0, 0)] [] (fun ls st M => k168 (f_vi (f_nth ls 2)) (f_vi (f_nth ls 3)) (f_vi (f_nth ls 4)) (f_vi (f_nth ls 5)) M)), (196, f_pl [(4466, 12, 123), (0, 0, 0), (1, 0, 0), (1, 0, 0), (1, 0, 0), (0, 0, 0)] [] (fun ls st M => k196 (f_vi (f_nth ls 2)) (f_vi (f_nth ls 3)) (f_vi (f_nth ls 4)) M))]) C qX12_borderf (f_kc_cons (f_pl_ok rfl (fun ls st M h => h225 _ _ _ M h)) (f_kc_cons (f_pl_ok rfl (fun ls st M h => h168 _ _ _ _ M h)) (f_kc_cons (f_pl_ok rfl (fun ls st M h => h196 _ _ _ M h)) f_kc_nil))) 194 66 h
set_option maxRecDepth 20000 in
theorem BX12_border_168 {sh : Nat → Nat × Nat} {t : Nat} {rm : Nat × Nat × Nat} {cs : Nat × Nat} {R : f_Rt} {c_X12_areAble : Int → e_M → (Int → Prop) → Prop} {c_X12_isBarred : Int → Int → e_M → (Int → Prop) → Prop} {c_X12_joins : Int → Int → Int → Int → e_M → (Int → e_M → Prop) → Prop} {c_X12_cuts : Int → Int → Int → e_M → (Int → e_M → Prop) → Prop} {c_X12_id : Int → Int → e_M → (Int → Prop) → Prop} {c_X12_isThere : Int → Int → Int → e_M → (Int → Prop) → Prop} {c_X12_placeOn : Int → Int → e_M → (Int → Prop) → Prop} {c_X12_hasPoint : Int → Int → Int → e_M → (Int → Prop) → Prop} {k196 : Int → Int → Int → e_M → Prop} {x2 : Int} {x3 : Int} {x4 : Int} {x5 : Int} {M : e_M} (C : f_Hy sh t yX12_border rm cs 11 (lX12_border c_X12_areAble c_X12_isBarred c_X12_joins c_X12_cuts c_X12_id c_X12_isThere c_X12_placeOn c_X12_hasPoint) R) (h196 : ∀ (x2 : Int) (x3 : Int) (x4 : Int) (M : e_M), k196 x2 x3 x4 M → f_E sh t YX12_border rm cs (f_Q sh t R) 196 [.inr (.inr (.inl (12, 123, 4456))), .inr (.inr (.inr ())), .inl x2, .inl x3, .inl x4, .inr (.inr (.inr ()))] [] M) (h : VX12_border_168 c_X12_areAble c_X12_isBarred c_X12_joins c_X12_cuts c_X12_id c_X12_isThere c_X12_placeOn c_X12_hasPoint k196 (fun r M => R (some (.inl r)) M) x2 x3 x4 x5 M) : f_E sh t YX12_border rm cs (f_Q sh t R) 168 [.inr (.inr (.inl (12, 123, 4456))), .inr (.inr (.inr ())), .inl x2, .inl x3, .inl x4, .inl x5] [] M :=
  f_go (KC := f_kc [(196, f_pl [(4466, 12, 123), (0, 0, 0), (1, 0, 0), (1, 0, 0), (1, 0, 0), (0, 0, 0)] [] (fun ls st M => k196 (f_vi (f_nth ls 2)) (f_vi (f_nth ls 3)) (f_vi (f_nth ls 4)) M))]) C qX12_borderf (f_kc_cons (f_pl_ok rfl (fun ls st M h => h196 _ _ _ M h)) f_kc_nil) 194 97 h
set_option maxRecDepth 20000 in
theorem BX12_border_196 {sh : Nat → Nat × Nat} {t : Nat} {rm : Nat × Nat × Nat} {cs : Nat × Nat} {R : f_Rt} {c_X12_areAble : Int → e_M → (Int → Prop) → Prop} {c_X12_isBarred : Int → Int → e_M → (Int → Prop) → Prop} {c_X12_joins : Int → Int → Int → Int → e_M → (Int → e_M → Prop) → Prop} {c_X12_cuts : Int → Int → Int → e_M → (Int → e_M → Prop) → Prop} {c_X12_id : Int → Int → e_M → (Int → Prop) → Prop} {c_X12_isThere : Int → Int → Int → e_M → (Int → Prop) → Prop} {c_X12_placeOn : Int → Int → e_M → (Int → Prop) → Prop} {c_X12_hasPoint : Int → Int → Int → e_M → (Int → Prop) → Prop} {k106 : Int → Int → Int → e_M → Prop} {x2 : Int} {x3 : Int} {x4 : Int} {M : e_M} (C : f_Hy sh t yX12_border rm cs 11 (lX12_border c_X12_areAble c_X12_isBarred c_X12_joins c_X12_cuts c_X12_id c_X12_isThere c_X12_placeOn c_X12_hasPoint) R) (h106 : ∀ (x2 : Int) (x3 : Int) (x4 : Int) (M : e_M), k106 x2 x3 x4 M → f_E sh t YX12_border rm cs (f_Q sh t R) 106 [.inr (.inr (.inl (12, 123, 4456))), .inr (.inr (.inr ())), .inl x2, .inl x3, .inl x4, .inr (.inr (.inr ()))] [] M) (h : VX12_border_196 c_X12_areAble c_X12_isBarred c_X12_joins c_X12_cuts c_X12_id c_X12_isThere c_X12_placeOn c_X12_hasPoint k106 (fun r M => R (some (.inl r)) M) x2 x3 x4 M) : f_E sh t YX12_border rm cs (f_Q sh t R) 196 [.inr (.inr (.inl (12, 123, 4456))), .inr (.inr (.inr ())), .inl x2, .inl x3, .inl x4, .inr (.inr (.inr ()))] [] M :=
  f_go (KC := f_kc [(106, f_pl [(4466, 12, 123), (0, 0, 0), (1, 0, 0), (1, 0, 0), (1, 0, 0), (0, 0, 0)] [] (fun ls st M => k106 (f_vi (f_nth ls 2)) (f_vi (f_nth ls 3)) (f_vi (f_nth ls 4)) M))]) C qX12_borderf (f_kc_cons (f_pl_ok rfl (fun ls st M h => h106 _ _ _ M h)) f_kc_nil) 194 112 h
set_option maxRecDepth 20000 in
theorem BX12_border_225 {sh : Nat → Nat × Nat} {t : Nat} {rm : Nat × Nat × Nat} {cs : Nat × Nat} {R : f_Rt} {c_X12_areAble : Int → e_M → (Int → Prop) → Prop} {c_X12_isBarred : Int → Int → e_M → (Int → Prop) → Prop} {c_X12_joins : Int → Int → Int → Int → e_M → (Int → e_M → Prop) → Prop} {c_X12_cuts : Int → Int → Int → e_M → (Int → e_M → Prop) → Prop} {c_X12_id : Int → Int → e_M → (Int → Prop) → Prop} {c_X12_isThere : Int → Int → Int → e_M → (Int → Prop) → Prop} {c_X12_placeOn : Int → Int → e_M → (Int → Prop) → Prop} {c_X12_hasPoint : Int → Int → Int → e_M → (Int → Prop) → Prop} {k225 : Int → Int → Int → e_M → Prop} {x2 : Int} {x3 : Int} {x4 : Int} {M : e_M} (C : f_Hy sh t yX12_border rm cs 11 (lX12_border c_X12_areAble c_X12_isBarred c_X12_joins c_X12_cuts c_X12_id c_X12_isThere c_X12_placeOn c_X12_hasPoint) R) (h225 : ∀ (x2 : Int) (x3 : Int) (x4 : Int) (M : e_M), k225 x2 x3 x4 M → f_E sh t YX12_border rm cs (f_Q sh t R) 225 [.inr (.inr (.inl (12, 123, 4456))), .inr (.inr (.inr ())), .inl x2, .inl x3, .inl x4, .inr (.inr (.inr ()))] [] M) (h : VX12_border_225 c_X12_areAble c_X12_isBarred c_X12_joins c_X12_cuts c_X12_id c_X12_isThere c_X12_placeOn c_X12_hasPoint k225 (fun r M => R (some (.inl r)) M) x2 x3 x4 M) : f_E sh t YX12_border rm cs (f_Q sh t R) 225 [.inr (.inr (.inl (12, 123, 4456))), .inr (.inr (.inr ())), .inl x2, .inl x3, .inl x4, .inr (.inr (.inr ()))] [] M :=
  f_go (KC := f_kc [(225, f_pl [(4466, 12, 123), (0, 0, 0), (1, 0, 0), (1, 0, 0), (1, 0, 0), (0, 0, 0)] [] (fun ls st M => k225 (f_vi (f_nth ls 2)) (f_vi (f_nth ls 3)) (f_vi (f_nth ls 4)) M))]) C qX12_borderf (f_kc_cons (f_pl_ok rfl (fun ls st M h => h225 _ _ _ M h)) f_kc_nil) 194 129 h
set_option maxRecDepth 20000 in
theorem BX12_border {sh : Nat → Nat × Nat} {t : Nat} {rm : Nat × Nat × Nat} {cs : Nat × Nat} {R : f_Rt} {c_X12_areAble : Int → e_M → (Int → Prop) → Prop} {c_X12_isBarred : Int → Int → e_M → (Int → Prop) → Prop} {c_X12_joins : Int → Int → Int → Int → e_M → (Int → e_M → Prop) → Prop} {c_X12_cuts : Int → Int → Int → e_M → (Int → e_M → Prop) → Prop} {c_X12_id : Int → Int → e_M → (Int → Prop) → Prop} {c_X12_isThere : Int → Int → Int → e_M → (Int → Prop) → Prop} {c_X12_placeOn : Int → Int → e_M → (Int → Prop) → Prop} {c_X12_hasPoint : Int → Int → Int → e_M → (Int → Prop) → Prop} {k106 : Int → Int → Int → e_M → Prop} {x1 : Int} {M : e_M} (C : f_Hy sh t yX12_border rm cs 11 (lX12_border c_X12_areAble c_X12_isBarred c_X12_joins c_X12_cuts c_X12_id c_X12_isThere c_X12_placeOn c_X12_hasPoint) R) (h106 : ∀ (x2 : Int) (x3 : Int) (x4 : Int) (M : e_M), k106 x2 x3 x4 M → f_E sh t YX12_border rm cs (f_Q sh t R) 106 [.inr (.inr (.inl (12, 123, 4456))), .inr (.inr (.inr ())), .inl x2, .inl x3, .inl x4, .inr (.inr (.inr ()))] [] M) (h : VX12_border c_X12_areAble c_X12_isBarred c_X12_joins c_X12_cuts c_X12_id c_X12_isThere c_X12_placeOn c_X12_hasPoint k106 (fun r M => R (some (.inl r)) M) x1 M) : f_E sh t YX12_border rm cs (f_Q sh t R) 0 [.inr (.inr (.inl (12, 123, 4456))), .inl x1, .inr (.inr (.inr ())), .inr (.inr (.inr ())), .inr (.inr (.inr ())), .inr (.inr (.inr ()))] [] M :=
  f_go (KC := f_kc [(106, f_pl [(4466, 12, 123), (0, 0, 0), (1, 0, 0), (1, 0, 0), (1, 0, 0), (0, 0, 0)] [] (fun ls st M => k106 (f_vi (f_nth ls 2)) (f_vi (f_nth ls 3)) (f_vi (f_nth ls 4)) M))]) C qX12_borderf (f_kc_cons (f_pl_ok rfl (fun ls st M h => h106 _ _ _ M h)) f_kc_nil) 194 0 h
def WX12_border_225 (Q : Int → e_M → Prop) : Nat → Int → Int → Int → e_M → Prop
  | 0, _, _, _, _ => False
  | n + 1, x2, x3, x4, M =>
    VX12_border_225 WX12_areAble WX12_isBarred WX12_joins WX12_cuts WX12_id WX12_isThere WX12_placeOn WX12_hasPoint (WX12_border_225 Q n) Q x2 x3 x4 M
def WX12_border_196 (H106 : Int → Int → Int → e_M → Prop) (Q : Int → e_M → Prop) (x2 : Int) (x3 : Int) (x4 : Int) (M : e_M) : Prop :=
  VX12_border_196 WX12_areAble WX12_isBarred WX12_joins WX12_cuts WX12_id WX12_isThere WX12_placeOn WX12_hasPoint H106 Q x2 x3 x4 M
def WX12_border_168 (H106 : Int → Int → Int → e_M → Prop) (Q : Int → e_M → Prop) (x2 : Int) (x3 : Int) (x4 : Int) (x5 : Int) (M : e_M) : Prop :=
  VX12_border_168 WX12_areAble WX12_isBarred WX12_joins WX12_cuts WX12_id WX12_isThere WX12_placeOn WX12_hasPoint (WX12_border_196 H106 Q) Q x2 x3 x4 x5 M
def WX12_border_106 (Q : Int → e_M → Prop) : Nat → Int → Int → Int → e_M → Prop
  | 0, _, _, _, _ => False
  | n + 1, x2, x3, x4, M =>
    VX12_border_106 WX12_areAble WX12_isBarred WX12_joins WX12_cuts WX12_id WX12_isThere WX12_placeOn WX12_hasPoint (fun x2 x3 x4 M => ∃ j, WX12_border_225 Q j x2 x3 x4 M) (WX12_border_168 (WX12_border_106 Q n) Q) (WX12_border_196 (WX12_border_106 Q n) Q) Q x2 x3 x4 M
def WX12_border (x1 : Int) (M : e_M) (Q : Int → e_M → Prop) : Prop :=
  VX12_border WX12_areAble WX12_isBarred WX12_joins WX12_cuts WX12_id WX12_isThere WX12_placeOn WX12_hasPoint (fun x2 x3 x4 M => ∃ j, WX12_border_106 Q j x2 x3 x4 M) Q x1 M
theorem PX12_border_225 {sh : Nat → Nat × Nat} {t : Nat} {rm : Nat × Nat × Nat} {cs : Nat × Nat} {R : f_Rt} (C : f_Hy sh t yX12_border rm cs 11 (lX12_border WX12_areAble WX12_isBarred WX12_joins WX12_cuts WX12_id WX12_isThere WX12_placeOn WX12_hasPoint) R) : ∀ (n : Nat) (x2 : Int) (x3 : Int) (x4 : Int) (M : e_M), WX12_border_225 (fun r M => R (some (.inl r)) M) n x2 x3 x4 M → f_E sh t YX12_border rm cs (f_Q sh t R) 225 [.inr (.inr (.inl (12, 123, 4456))), .inr (.inr (.inr ())), .inl x2, .inl x3, .inl x4, .inr (.inr (.inr ()))] [] M := by
  intro n
  induction n with
  | zero => intro x2 x3 x4 M h; exact h.elim
  | succ n ih => intro x2 x3 x4 M h; exact BX12_border_225 C ih h
theorem PX12_border_196 {sh : Nat → Nat × Nat} {t : Nat} {rm : Nat × Nat × Nat} {cs : Nat × Nat} {R : f_Rt} {H106 : Int → Int → Int → e_M → Prop} {x2 : Int} {x3 : Int} {x4 : Int} {M : e_M} (C : f_Hy sh t yX12_border rm cs 11 (lX12_border WX12_areAble WX12_isBarred WX12_joins WX12_cuts WX12_id WX12_isThere WX12_placeOn WX12_hasPoint) R) (g106 : ∀ (x2 : Int) (x3 : Int) (x4 : Int) (M : e_M), H106 x2 x3 x4 M → f_E sh t YX12_border rm cs (f_Q sh t R) 106 [.inr (.inr (.inl (12, 123, 4456))), .inr (.inr (.inr ())), .inl x2, .inl x3, .inl x4, .inr (.inr (.inr ()))] [] M) (h : WX12_border_196 H106 (fun r M => R (some (.inl r)) M) x2 x3 x4 M) : f_E sh t YX12_border rm cs (f_Q sh t R) 196 [.inr (.inr (.inl (12, 123, 4456))), .inr (.inr (.inr ())), .inl x2, .inl x3, .inl x4, .inr (.inr (.inr ()))] [] M :=
  BX12_border_196 C g106 h
theorem PX12_border_168 {sh : Nat → Nat × Nat} {t : Nat} {rm : Nat × Nat × Nat} {cs : Nat × Nat} {R : f_Rt} {H106 : Int → Int → Int → e_M → Prop} {x2 : Int} {x3 : Int} {x4 : Int} {x5 : Int} {M : e_M} (C : f_Hy sh t yX12_border rm cs 11 (lX12_border WX12_areAble WX12_isBarred WX12_joins WX12_cuts WX12_id WX12_isThere WX12_placeOn WX12_hasPoint) R) (g106 : ∀ (x2 : Int) (x3 : Int) (x4 : Int) (M : e_M), H106 x2 x3 x4 M → f_E sh t YX12_border rm cs (f_Q sh t R) 106 [.inr (.inr (.inl (12, 123, 4456))), .inr (.inr (.inr ())), .inl x2, .inl x3, .inl x4, .inr (.inr (.inr ()))] [] M) (h : WX12_border_168 H106 (fun r M => R (some (.inl r)) M) x2 x3 x4 x5 M) : f_E sh t YX12_border rm cs (f_Q sh t R) 168 [.inr (.inr (.inl (12, 123, 4456))), .inr (.inr (.inr ())), .inl x2, .inl x3, .inl x4, .inl x5] [] M :=
  BX12_border_168 C (fun x2 x3 x4 M h => PX12_border_196 C g106 h) h
theorem PX12_border_106 {sh : Nat → Nat × Nat} {t : Nat} {rm : Nat × Nat × Nat} {cs : Nat × Nat} {R : f_Rt} (C : f_Hy sh t yX12_border rm cs 11 (lX12_border WX12_areAble WX12_isBarred WX12_joins WX12_cuts WX12_id WX12_isThere WX12_placeOn WX12_hasPoint) R) : ∀ (n : Nat) (x2 : Int) (x3 : Int) (x4 : Int) (M : e_M), WX12_border_106 (fun r M => R (some (.inl r)) M) n x2 x3 x4 M → f_E sh t YX12_border rm cs (f_Q sh t R) 106 [.inr (.inr (.inl (12, 123, 4456))), .inr (.inr (.inr ())), .inl x2, .inl x3, .inl x4, .inr (.inr (.inr ()))] [] M := by
  intro n
  induction n with
  | zero => intro x2 x3 x4 M h; exact h.elim
  | succ n ih => intro x2 x3 x4 M h; exact BX12_border_106 C (fun x2 x3 x4 M ⟨j, h⟩ => PX12_border_225 C j _ _ _ _ h) (fun x2 x3 x4 x5 M h => PX12_border_168 C ih h) (fun x2 x3 x4 M h => PX12_border_196 C ih h) h
theorem PX12_border {sh : Nat → Nat × Nat} {t : Nat} {rm : Nat × Nat × Nat} {cs : Nat × Nat} {R : f_Rt} {x1 : Int} {M : e_M} (C : f_Hy sh t yX12_border rm cs 11 (lX12_border WX12_areAble WX12_isBarred WX12_joins WX12_cuts WX12_id WX12_isThere WX12_placeOn WX12_hasPoint) R) (h : WX12_border x1 M (fun r M => R (some (.inl r)) M)) : f_E sh t YX12_border rm cs (f_Q sh t R) 0 [.inr (.inr (.inl (12, 123, 4456))), .inl x1, .inr (.inr (.inr ())), .inr (.inr (.inr ())), .inr (.inr (.inr ())), .inr (.inr (.inr ()))] [] M :=
  BX12_border C (fun x2 x3 x4 M ⟨j, h⟩ => PX12_border_106 C j _ _ _ _ h) h
def wX12_border : f_Wt := f_wm [(4466, 12, 123), (1, 0, 0)] (fun ar M R => WX12_border (f_vi (f_nth ar 1)) M (fun r M => R (some (.inl r)) M))
theorem TX12_border {sh : Nat → Nat × Nat} {t : Nat} : f_Mt sh t YX12_border 11 (wX12_border) :=
  f_Mt_of (k := 4) (Nat.le_of_ble_eq_true rfl) rfl rfl (fun ar M R rm cs h1 h2 h3 hX h => PX12_border ⟨Nat.le_of_ble_eq_true rfl, h1, h2, h3, ⟨(f_Mt.up (Nat.le_of_ble_eq_true rfl) TX12_areAble), (f_Mt.up (Nat.le_of_ble_eq_true rfl) TX12_isBarred), (f_Mt.up (Nat.le_of_ble_eq_true rfl) TX12_joins), (f_Mt.up (Nat.le_of_ble_eq_true rfl) TX12_cuts), (f_Mt.up (Nat.le_of_ble_eq_true rfl) TX12_id), (f_Mt.up (Nat.le_of_ble_eq_true rfl) TX12_isThere), (f_Mt.up (Nat.le_of_ble_eq_true rfl) TX12_placeOn), (f_Mt.up (Nat.le_of_ble_eq_true rfl) TX12_hasPoint), trivial⟩, hX⟩ h)
