/-! methods as words over the memory, part 33c -/
def VX0_auction_132 (c_X10_lot : Nat → Int → e_M → (Nat → Prop) → Prop) (c_X10_at : Nat → Int → Int → e_M → (Nat → Prop) → Prop) (c_X8_find : Nat → Int → e_M → (Int → Prop) → Prop) (c_X10_isAble : Nat → Int → e_M → (Int → Prop) → Prop) (c_X0_isBarred : Int → Int → e_M → (Int → Prop) → Prop) (c_X4_own : Nat → Int → e_M → (e_M → Prop) → Prop) (c_X8_get : Nat → Int → e_M → (Int → Prop) → Prop) (c_X0_freeLot : Int → Int → e_M → (e_M → Prop) → Prop) (c_X0_endCharge : Int → e_M → (e_M → Prop) → Prop) (c_X0_clearLot : Int → Int → e_M → (e_M → Prop) → Prop) (k232 : Int → Nat → e_M → Prop) (k226 : Int → Nat → Nat → Int → Int → Int → e_M → Prop) (Q : Int → e_M → Prop) (x1 : Int) (a2 : Nat) (a3 : Nat) (x4 : Int) (x5 : Int) (x6 : Int) (M : e_M) : Prop :=
  ((8 ≤ x6 → (k232 x1 a3 M)) ∧ (x6 < 8 → (((M (a2 + 4) 1) ≤ x4 → (k232 x1 a3 M)) ∧ (x4 < (M (a2 + 4) 1) → (c_X8_get (a2 + 4) x4 M (fun r1 => (c_X10_at ((M 4423 0).toNat) 2 r1 M (fun r2 => (∀ M3 : e_M, M3 = e_up M r2 6 (e_w32 ((M r2 6) - (e_min x5 (M r2 6)))) → (c_X0_freeLot x1 r1 M3 (fun M4 => ((¬ (M4 r2 6) = 0 → (k226 x1 a2 a3 x4 (e_w32 (x5 - (e_min x5 (M r2 6)))) x6 M4)) ∧ ((M4 r2 6) = 0 → (c_X0_endCharge r1 M4 (fun M5 => (k226 x1 a2 a3 x4 (e_w32 (x5 - (e_min x5 (M r2 6)))) x6 M5))))))))))))))))
def VX0_auction_226 (c_X10_lot : Nat → Int → e_M → (Nat → Prop) → Prop) (c_X10_at : Nat → Int → Int → e_M → (Nat → Prop) → Prop) (c_X8_find : Nat → Int → e_M → (Int → Prop) → Prop) (c_X10_isAble : Nat → Int → e_M → (Int → Prop) → Prop) (c_X0_isBarred : Int → Int → e_M → (Int → Prop) → Prop) (c_X4_own : Nat → Int → e_M → (e_M → Prop) → Prop) (c_X8_get : Nat → Int → e_M → (Int → Prop) → Prop) (c_X0_freeLot : Int → Int → e_M → (e_M → Prop) → Prop) (c_X0_endCharge : Int → e_M → (e_M → Prop) → Prop) (c_X0_clearLot : Int → Int → e_M → (e_M → Prop) → Prop) (k132 : Int → Nat → Nat → Int → Int → Int → e_M → Prop) (Q : Int → e_M → Prop) (x1 : Int) (a2 : Nat) (a3 : Nat) (x4 : Int) (x5 : Int) (x6 : Int) (M : e_M) : Prop :=
  (k132 x1 a2 a3 x4 x5 (e_w32 (x6 + 1)) M)
def VX0_auction_232 (c_X10_lot : Nat → Int → e_M → (Nat → Prop) → Prop) (c_X10_at : Nat → Int → Int → e_M → (Nat → Prop) → Prop) (c_X8_find : Nat → Int → e_M → (Int → Prop) → Prop) (c_X10_isAble : Nat → Int → e_M → (Int → Prop) → Prop) (c_X0_isBarred : Int → Int → e_M → (Int → Prop) → Prop) (c_X4_own : Nat → Int → e_M → (e_M → Prop) → Prop) (c_X8_get : Nat → Int → e_M → (Int → Prop) → Prop) (c_X0_freeLot : Int → Int → e_M → (e_M → Prop) → Prop) (c_X0_endCharge : Int → e_M → (e_M → Prop) → Prop) (c_X0_clearLot : Int → Int → e_M → (e_M → Prop) → Prop) (Q : Int → e_M → Prop) (x1 : Int) (a3 : Nat) (M : e_M) : Prop :=
  (c_X0_clearLot x1 (M a3 1) M (fun M1 => (Q 0 M1)))
def VX0_auction (c_X10_lot : Nat → Int → e_M → (Nat → Prop) → Prop) (c_X10_at : Nat → Int → Int → e_M → (Nat → Prop) → Prop) (c_X8_find : Nat → Int → e_M → (Int → Prop) → Prop) (c_X10_isAble : Nat → Int → e_M → (Int → Prop) → Prop) (c_X0_isBarred : Int → Int → e_M → (Int → Prop) → Prop) (c_X4_own : Nat → Int → e_M → (e_M → Prop) → Prop) (c_X8_get : Nat → Int → e_M → (Int → Prop) → Prop) (c_X0_freeLot : Int → Int → e_M → (e_M → Prop) → Prop) (c_X0_endCharge : Int → e_M → (e_M → Prop) → Prop) (c_X0_clearLot : Int → Int → e_M → (e_M → Prop) → Prop) (k132 : Int → Nat → Nat → Int → Int → Int → e_M → Prop) (Q : Int → e_M → Prop) (M : e_M) : Prop :=
  ((0 ≤ (0 : Int) ∧ (0 : Int) < 8) ∧ (c_X10_lot ((M 4423 0).toNat) (M 4425 ((0 : Int).toNat)) M (fun r1 => ((0 ≤ (1 : Int) ∧ (1 : Int) < 8) ∧ (c_X10_at ((M 4423 0).toNat) 2 (M 4425 ((1 : Int).toNat)) M (fun r2 => ((0 ≤ (1 : Int) ∧ (1 : Int) < 8) ∧ (c_X8_find (r1 + 4) (M 4425 ((1 : Int).toNat)) M (fun r3 => ((0 ≤ r3 → ((0 ≤ (2 : Int) ∧ (2 : Int) < 8) ∧ (c_X10_isAble ((M 4423 0).toNat) (M 4425 ((2 : Int).toNat)) M (fun r4 => ((¬ r4 = 0 → (c_X0_isBarred (M 4425 ((0 : Int).toNat)) (M r2 5) M (fun r5 => ((r5 = 0 → ((¬ (M ((M 4423 1).toNat) 9) = 0 → ((0 ≤ (2 : Int) ∧ (2 : Int) < 8) ∧ (c_X4_own r1 (M 4425 ((2 : Int).toNat)) M (fun M6 => (∀ M7 : e_M, M7 = e_up M6 r1 2 (M6 ((M6 4423 1).toNat) 9) → (k132 (M 4425 ((0 : Int).toNat)) r1 r2 r3 (M7 ((M7 4423 1).toNat) 9) 0 M7)))))) ∧ ((M ((M 4423 1).toNat) 9) = 0 → (Q 6 M)))) ∧ (¬ r5 = 0 → (Q 4 M)))))) ∧ (r4 = 0 → (Q 2 M))))))) ∧ (r3 < 0 → (Q 9 M))))))))))))
def yX0_auction (i : Nat) : e_Y := x_get YX0_auction [YX10_lot, YX10_at, YX8_find, YX10_isAble, YX0_isBarred, YX4_own, YX8_get, YX0_freeLot, YX0_endCharge, YX0_clearLot] i
def pX0_auctionf : List x_I := [(0, 4, 1, 0, 0, 0, []), (1, 25, 0, 4, 4, 0, [(0, 20, 8), (0, 1, 2)]), (4, 0, 1, 0, 0, 0, []), (5, 27, 0, 0, 0, 0, []), (6, 5, 1, 1, 0, 0, []), (7, 4, 1, 0, 0, 0, []), (8, 25, 0, 0, 4, 0, [(0, 10, 15), (0, 0, 0)]), (11, 2, 1, 1, 0, 0, []), (12, 40, 0, 2, 12, 0, []), (15, 7, 1, 2, 0, 0, []), (16, 4, 1, 0, 0, 0, []), (17, 25, 0, 0, 4, 0, [(0, 10, 15), (0, 0, 0)]), (20, 0, 1, 0, 0, 2, []), (21, 4, 1, 0, 0, 0, []), (22, 25, 0, 4, 4, 0, [(0, 20, 8), (0, 1, 2)]), (25, 0, 1, 0, 0, 1, []), (26, 27, 0, 0, 0, 0, []), (27, 40, 1, 3, 12, 0, []), (30, 7, 1, 3, 0, 0, []), (31, 4, 1, 2, 0, 0, []), (32, 25, 4, 4, 4, 0, [(0, 8, 2), (0, 1, 4)]), (35, 4, 1, 0, 0, 0, []), (36, 25, 0, 4, 4, 0, [(0, 20, 8), (0, 1, 2)]), (39, 0, 1, 0, 0, 1, []), (40, 27, 0, 0, 0, 0, []), (41, 40, 2, 2, 10, 0, []), (44, 5, 2, 4, 0, 0, []), (46, 2, 2, 4, 0, 0, []), (48, 17, 54, 3, 32, 0, []), (51, 0, 2, 0, 0, 9, []), (53, 41, 0, 0, 0, 0, []), (54, 4, 1, 0, 0, 0, []), (55, 25, 0, 0, 4, 0, [(0, 10, 15), (0, 0, 0)]), (58, 4, 1, 0, 0, 0, []), (59, 25, 0, 4, 4, 0, [(0, 20, 8), (0, 1, 2)]), (62, 0, 1, 0, 0, 2, []), (63, 27, 0, 0, 0, 0, []), (64, 40, 3, 2, 12, 0, []), (67, 17, 72, 1, 42, 0, []), (70, 0, 1, 0, 0, 2, []), (71, 41, 0, 0, 0, 0, []), (72, 4, 1, 0, 0, 0, []), (73, 2, 1, 1, 0, 0, []), (74, 4, 1, 3, 0, 0, []), (75, 25, 9, 5, 0, 0, []), (78, 40, 4, 3, 2, 0, []), (81, 17, 86, 0, 50, 0, []), (84, 0, 1, 0, 0, 4, []), (85, 41, 0, 0, 0, 0, []), (86, 4, 1, 0, 0, 0, []), (87, 25, 0, 1, 4, 0, [(0, 2, 19), (0, 0, 0)]), (90, 25, 2, 9, 0, 0, []), (93, 17, 99, 1, 56, 0, []), (96, 0, 2, 0, 0, 6, []), (98, 41, 0, 0, 0, 0, []), (99, 4, 1, 2, 0, 0, []), (100, 4, 1, 0, 0, 0, []), (101, 25, 0, 4, 4, 0, [(0, 20, 8), (0, 1, 2)]), (104, 0, 1, 0, 0, 2, []), (105, 27, 0, 0, 0, 0, []), (106, 40, 5, 2, 6, 0, []), (109, 4, 1, 2, 0, 0, []), (110, 4, 1, 0, 0, 0, []), (111, 25, 0, 1, 4, 0, [(0, 2, 19), (0, 0, 0)]), (114, 25, 2, 9, 0, 0, []), (117, 26, 4, 2, 0, 0, []), (120, 4, 1, 0, 0, 0, []), (121, 25, 0, 1, 4, 0, [(0, 2, 19), (0, 0, 0)]), (124, 25, 2, 9, 0, 0, []), (127, 5, 2, 5, 0, 0, []), (129, 0, 1, 0, 0, 0, []), (130, 5, 2, 6, 0, 0, []), (132, 49, 0, 0, 0, 0, []), (132, 2, 2, 6, 0, 0, []), (134, 0, 2, 0, 0, 8, []), (136, 18, 232, 3, 121, 0, []), (139, 4, 1, 2, 0, 0, []), (140, 25, 4, 4, 4, 0, [(0, 8, 2), (0, 1, 4)]), (143, 25, 8, 1, 0, 0, []), (146, 2, 2, 4, 0, 0, []), (148, 18, 232, 5, 121, 0, []), (151, 4, 1, 2, 0, 0, []), (152, 25, 4, 4, 4, 0, [(0, 8, 2), (0, 1, 4)]), (155, 2, 2, 4, 0, 0, []), (157, 40, 6, 2, 10, 0, []), (160, 5, 2, 7, 0, 0, []), (162, 4, 1, 0, 0, 0, []), (163, 25, 0, 0, 4, 0, [(0, 10, 15), (0, 0, 0)]), (166, 0, 1, 0, 0, 2, []), (167, 2, 2, 7, 0, 0, []), (169, 40, 1, 3, 12, 0, []), (172, 7, 2, 8, 0, 0, []), (174, 2, 2, 5, 0, 0, []), (176, 4, 2, 8, 0, 0, []), (178, 25, 9, 6, 0, 0, []), (181, 39, 0, 0, 0, 0, []), (184, 5, 2, 9, 0, 0, []), (186, 2, 2, 5, 0, 0, []), (188, 2, 2, 9, 0, 0, []), (190, 9, 0, 1, 0, 0, []), (191, 5, 2, 5, 0, 0, []), (193, 4, 2, 8, 0, 0, []), (195, 20, 0, 0, 0, 0, []), (196, 25, 9, 6, 0, 0, []), (199, 2, 2, 9, 0, 0, []), (201, 9, 0, 1, 0, 0, []), (202, 26, 9, 6, 0, 0, []), (205, 4, 1, 0, 0, 0, []), (206, 2, 1, 1, 0, 0, []), (207, 2, 2, 7, 0, 0, []), (209, 40, 7, 3, 2, 0, []), (212, 4, 2, 8, 0, 0, []), (214, 25, 9, 6, 0, 0, []), (217, 17, 226, 1, 118, 0, []), (220, 4, 1, 0, 0, 0, []), (221, 2, 2, 7, 0, 0, []), (223, 40, 8, 2, 2, 0, []), (226, 49, 0, 0, 0, 0, []), (226, 8, 0, 6, 0, 1, []), (229, 19, 132, 0, 73, 0, []), (232, 49, 0, 0, 0, 0, []), (232, 4, 1, 0, 0, 0, []), (233, 2, 1, 1, 0, 0, []), (234, 4, 1, 3, 0, 0, []), (235, 25, 9, 1, 0, 0, []), (238, 40, 9, 3, 2, 0, []), (241, 0, 1, 0, 0, 0, []), (242, 41, 0, 0, 0, 0, [])]
set_option maxRecDepth 20000 in
theorem qX0_auctionf : f_all yX0_auction YX0_auction pX0_auctionf :=
  ⟨f_aload_n (n := 0) (e_dx DX0_auction_0 0 rfl) rfl,
  f_getA (e_dx DX0_auction_0 1 rfl) fX0_19 rfl (by decide) (Nat.le_of_ble_eq_true rfl) rfl (by decide),
  f_iconst (e_dx DX0_auction_0 2 rfl) ⟨by decide, by decide⟩,
  f_iaload (e_dx DX0_auction_0 3 rfl),
  f_istore_n (n := 1) (e_dx DX0_auction_0 4 rfl) rfl (by decide),
  f_aload_n (n := 0) (e_dx DX0_auction_0 5 rfl) rfl,
  f_getA (e_dx DX0_auction_0 6 rfl) fX0_36 rfl (by decide) (Nat.le_of_ble_eq_true rfl) rfl (by decide),
  f_iload_n (n := 1) (e_dx DX0_auction_0 7 rfl) rfl,
  x_callV (e_dx DX0_auction_0 8 rfl) mwX10_lot vwX10_lot cX0_161 rfl,
  f_astore_n (n := 2) (e_dx DX0_auction_0 9 rfl) rfl (by decide),
  f_aload_n (n := 0) (e_dx DX0_auction_0 10 rfl) rfl,
  f_getA (e_dx DX0_auction_0 11 rfl) fX0_36 rfl (by decide) (Nat.le_of_ble_eq_true rfl) rfl (by decide),
  f_iconst (e_dx DX0_auction_0 12 rfl) ⟨by decide, by decide⟩,
  f_aload_n (n := 0) (e_dx DX0_auction_0 13 rfl) rfl,
  f_getA (e_dx DX0_auction_0 14 rfl) fX0_19 rfl (by decide) (Nat.le_of_ble_eq_true rfl) rfl (by decide),
  f_iconst (e_dx DX0_auction_0 15 rfl) ⟨by decide, by decide⟩,
  f_iaload (e_dx DX0_auction_0 16 rfl),
  x_callV (e_dx DX0_auction_0 17 rfl) mwX10_at vwX10_at cX0_152 rfl,
  f_astore_n (n := 3) (e_dx DX0_auction_0 18 rfl) rfl (by decide),
  f_aload_n (n := 2) (e_dx DX0_auction_0 19 rfl) rfl,
  f_getA (e_dx DX0_auction_0 20 rfl) fX0_343 rfl (by decide) (Nat.le_of_ble_eq_true rfl) rfl (by decide),
  f_aload_n (n := 0) (e_dx DX0_auction_0 21 rfl) rfl,
  f_getA (e_dx DX0_auction_0 22 rfl) fX0_19 rfl (by decide) (Nat.le_of_ble_eq_true rfl) rfl (by decide),
  f_iconst (e_dx DX0_auction_0 23 rfl) ⟨by decide, by decide⟩,
  f_iaload (e_dx DX0_auction_0 24 rfl),
  x_callV (e_dx DX0_auction_0 25 rfl) mwX8_find vwX8_find cX0_392 rfl,
  f_istore (e_dx DX0_auction_0 26 rfl) (by decide),
  f_iload (e_dx DX0_auction_0 27 rfl),
  f_if_ge (e_dx DX0_auction_0 28 rfl) rfl,
  f_bipush (e_dx DX0_auction_0 29 rfl) ⟨by decide, by decide⟩,
  ⟨(e_dx DX0_auction_0 30 rfl), rfl⟩,
  f_aload_n (n := 0) (e_dx DX0_auction_0 31 rfl) rfl,
  f_getA (e_dx DX0_auction_0 32 rfl) fX0_36 rfl (by decide) (Nat.le_of_ble_eq_true rfl) rfl (by decide),
  f_aload_n (n := 0) (e_dx DX0_auction_0 33 rfl) rfl,
  f_getA (e_dx DX0_auction_0 34 rfl) fX0_19 rfl (by decide) (Nat.le_of_ble_eq_true rfl) rfl (by decide),
  f_iconst (e_dx DX0_auction_0 35 rfl) ⟨by decide, by decide⟩,
  f_iaload (e_dx DX0_auction_0 36 rfl),
  x_callV (e_dx DX0_auction_0 37 rfl) mwX10_isAble vwX10_isAble cX0_171 rfl,
  f_if_ne (e_dx DX0_auction_0 38 rfl) rfl,
  f_iconst (e_dx DX0_auction_0 39 rfl) ⟨by decide, by decide⟩,
  ⟨(e_dx DX0_auction_1 0 rfl), rfl⟩,
  f_aload_n (n := 0) (e_dx DX0_auction_1 1 rfl) rfl,
  f_iload_n (n := 1) (e_dx DX0_auction_1 2 rfl) rfl,
  f_aload_n (n := 3) (e_dx DX0_auction_1 3 rfl) rfl,
  f_getf (e_dx DX0_auction_1 4 rfl) fX0_188 rfl (by decide) (by decide) (by decide),
  x_callV (e_dx DX0_auction_1 5 rfl) mwX0_isBarred vwX0_isBarred cX0_275 rfl,
  f_if_eq (e_dx DX0_auction_1 6 rfl) rfl,
  f_iconst (e_dx DX0_auction_1 7 rfl) ⟨by decide, by decide⟩,
  ⟨(e_dx DX0_auction_1 8 rfl), rfl⟩,
  f_aload_n (n := 0) (e_dx DX0_auction_1 9 rfl) rfl,
  f_getA (e_dx DX0_auction_1 10 rfl) fX0_40 rfl (by decide) (Nat.le_of_ble_eq_true rfl) rfl (by decide),
  f_getf (e_dx DX0_auction_1 11 rfl) fX0_278 rfl (by decide) (by decide) (by decide),
  f_if_ne (e_dx DX0_auction_1 12 rfl) rfl,
  f_bipush (e_dx DX0_auction_1 13 rfl) ⟨by decide, by decide⟩,
  ⟨(e_dx DX0_auction_1 14 rfl), rfl⟩,
  f_aload_n (n := 2) (e_dx DX0_auction_1 15 rfl) rfl,
  f_aload_n (n := 0) (e_dx DX0_auction_1 16 rfl) rfl,
  f_getA (e_dx DX0_auction_1 17 rfl) fX0_19 rfl (by decide) (Nat.le_of_ble_eq_true rfl) rfl (by decide),
  f_iconst (e_dx DX0_auction_1 18 rfl) ⟨by decide, by decide⟩,
  f_iaload (e_dx DX0_auction_1 19 rfl),
  x_callV (e_dx DX0_auction_1 20 rfl) mwX4_own vwX4_own cX0_400 rfl,
  f_aload_n (n := 2) (e_dx DX0_auction_1 21 rfl) rfl,
  f_aload_n (n := 0) (e_dx DX0_auction_1 22 rfl) rfl,
  f_getA (e_dx DX0_auction_1 23 rfl) fX0_40 rfl (by decide) (Nat.le_of_ble_eq_true rfl) rfl (by decide),
  f_getf (e_dx DX0_auction_1 24 rfl) fX0_278 rfl (by decide) (by decide) (by decide),
  f_putn (e_dx DX0_auction_1 25 rfl) fX0_281 (fun q hq => by cases hq; rfl) rfl (Or.inl rfl) (by decide),
  f_aload_n (n := 0) (e_dx DX0_auction_1 26 rfl) rfl,
  f_getA (e_dx DX0_auction_1 27 rfl) fX0_40 rfl (by decide) (Nat.le_of_ble_eq_true rfl) rfl (by decide),
  f_getf (e_dx DX0_auction_1 28 rfl) fX0_278 rfl (by decide) (by decide) (by decide),
  f_istore (e_dx DX0_auction_1 29 rfl) (by decide),
  f_iconst (e_dx DX0_auction_1 30 rfl) ⟨by decide, by decide⟩,
  f_istore (e_dx DX0_auction_1 31 rfl) (by decide),
  trivial,
  f_iload (e_dx DX0_auction_1 32 rfl),
  f_bipush (e_dx DX0_auction_1 33 rfl) ⟨by decide, by decide⟩,
  f_icmp_ge (e_dx DX0_auction_1 34 rfl) rfl,
  f_aload_n (n := 2) (e_dx DX0_auction_1 35 rfl) rfl,
  f_getA (e_dx DX0_auction_1 36 rfl) fX0_343 rfl (by decide) (Nat.le_of_ble_eq_true rfl) rfl (by decide),
  f_getf (e_dx DX0_auction_1 37 rfl) fX0_338 rfl (by decide) (by decide) (by decide),
  f_iload (e_dx DX0_auction_1 38 rfl),
  f_icmp_le (e_dx DX0_auction_1 39 rfl) rfl,
  f_aload_n (n := 2) (e_dx DX0_auction_2 0 rfl) rfl,
  f_getA (e_dx DX0_auction_2 1 rfl) fX0_343 rfl (by decide) (Nat.le_of_ble_eq_true rfl) rfl (by decide),
  f_iload (e_dx DX0_auction_2 2 rfl),
  x_callV (e_dx DX0_auction_2 3 rfl) mwX8_get vwX8_get cX0_382 rfl,
  f_istore (e_dx DX0_auction_2 4 rfl) (by decide),
  f_aload_n (n := 0) (e_dx DX0_auction_2 5 rfl) rfl,
  f_getA (e_dx DX0_auction_2 6 rfl) fX0_36 rfl (by decide) (Nat.le_of_ble_eq_true rfl) rfl (by decide),
  f_iconst (e_dx DX0_auction_2 7 rfl) ⟨by decide, by decide⟩,
  f_iload (e_dx DX0_auction_2 8 rfl),
  x_callV (e_dx DX0_auction_2 9 rfl) mwX10_at vwX10_at cX0_152 rfl,
  f_astore (e_dx DX0_auction_2 10 rfl) (by decide),
  f_iload (e_dx DX0_auction_2 11 rfl),
  f_aload (e_dx DX0_auction_2 12 rfl),
  f_getf (e_dx DX0_auction_2 13 rfl) fX0_211 rfl (by decide) (by decide) (by decide),
  f_mminI (e_dx DX0_auction_2 14 rfl) cX0_403 fm_s_mminI fm_i fm_c_mminI,
  f_istore (e_dx DX0_auction_2 15 rfl) (by decide),
  f_iload (e_dx DX0_auction_2 16 rfl),
  f_iload (e_dx DX0_auction_2 17 rfl),
  f_isub (e_dx DX0_auction_2 18 rfl),
  f_istore (e_dx DX0_auction_2 19 rfl) (by decide),
  f_aload (e_dx DX0_auction_2 20 rfl),
  f_g20 (e_dx DX0_auction_2 21 rfl),
  f_getf (e_dx DX0_auction_2 22 rfl) fX0_211 rfl (by decide) (by decide) (by decide),
  f_iload (e_dx DX0_auction_2 23 rfl),
  f_isub (e_dx DX0_auction_2 24 rfl),
  f_putn (e_dx DX0_auction_2 25 rfl) fX0_211 (fun q hq => by cases hq; rfl) rfl (Or.inl rfl) (by decide),
  f_aload_n (n := 0) (e_dx DX0_auction_2 26 rfl) rfl,
  f_iload_n (n := 1) (e_dx DX0_auction_2 27 rfl) rfl,
  f_iload (e_dx DX0_auction_2 28 rfl),
  x_callV (e_dx DX0_auction_2 29 rfl) mwX0_freeLot vwX0_freeLot cX0_397 rfl,
  f_aload (e_dx DX0_auction_2 30 rfl),
  f_getf (e_dx DX0_auction_2 31 rfl) fX0_211 rfl (by decide) (by decide) (by decide),
  f_if_ne (e_dx DX0_auction_2 32 rfl) rfl,
  f_aload_n (n := 0) (e_dx DX0_auction_2 33 rfl) rfl,
  f_iload (e_dx DX0_auction_2 34 rfl),
  x_callV (e_dx DX0_auction_2 35 rfl) mwX0_endCharge vwX0_endCharge cX0_379 rfl,
  trivial,
  f_g8 (e_dx DX0_auction_2 36 rfl) ⟨by decide, by decide⟩,
  f_g19 (e_dx DX0_auction_2 37 rfl) rfl,
  trivial,
  f_aload_n (n := 0) (e_dx DX0_auction_2 38 rfl) rfl,
  f_iload_n (n := 1) (e_dx DX0_auction_2 39 rfl) rfl,
  f_aload_n (n := 3) (e_dx DX0_auction_3 0 rfl) rfl,
  f_getf (e_dx DX0_auction_3 1 rfl) fX0_409 rfl (by decide) (by decide) (by decide),
  x_callV (e_dx DX0_auction_3 2 rfl) mwX0_clearLot vwX0_clearLot cX0_410 rfl,
  f_iconst (e_dx DX0_auction_3 3 rfl) ⟨by decide, by decide⟩,
  ⟨(e_dx DX0_auction_3 4 rfl), rfl⟩, trivial⟩
def lX0_auction (c_X10_lot : Nat → Int → e_M → (Nat → Prop) → Prop) (c_X10_at : Nat → Int → Int → e_M → (Nat → Prop) → Prop) (c_X8_find : Nat → Int → e_M → (Int → Prop) → Prop) (c_X10_isAble : Nat → Int → e_M → (Int → Prop) → Prop) (c_X0_isBarred : Int → Int → e_M → (Int → Prop) → Prop) (c_X4_own : Nat → Int → e_M → (e_M → Prop) → Prop) (c_X8_get : Nat → Int → e_M → (Int → Prop) → Prop) (c_X0_freeLot : Int → Int → e_M → (e_M → Prop) → Prop) (c_X0_endCharge : Int → e_M → (e_M → Prop) → Prop) (c_X0_clearLot : Int → Int → e_M → (e_M → Prop) → Prop) : List (Nat × f_Wt) := [(0, f_wm [(3, 10, 15), (1, 0, 0)] (fun ar M R => c_X10_lot (f_va (f_nth ar 0)) (f_vi (f_nth ar 1)) M (fun r => R (some (.inr (.inr (.inl (4, 9, r))))) M))), (1, f_wm [(3, 10, 15), (1, 0, 0), (1, 0, 0)] (fun ar M R => c_X10_at (f_va (f_nth ar 0)) (f_vi (f_nth ar 1)) (f_vi (f_nth ar 2)) M (fun r => R (some (.inr (.inr (.inl (9, 14, r))))) M))), (2, f_wm [(3, 8, 2), (1, 0, 0)] (fun ar M R => c_X8_find (f_va (f_nth ar 0)) (f_vi (f_nth ar 1)) M (fun r => R (some (.inl r)) M))), (3, f_wm [(3, 10, 15), (1, 0, 0)] (fun ar M R => c_X10_isAble (f_va (f_nth ar 0)) (f_vi (f_nth ar 1)) M (fun r => R (some (.inl r)) M))), (4, f_wm [(4433, 0, 7), (1, 0, 0), (1, 0, 0)] (fun ar M R => c_X0_isBarred (f_vi (f_nth ar 1)) (f_vi (f_nth ar 2)) M (fun r => R (some (.inl r)) M))), (5, f_wm [(3, 4, 9), (1, 0, 0)] (fun ar M R => c_X4_own (f_va (f_nth ar 0)) (f_vi (f_nth ar 1)) M (fun M => R none M))), (6, f_wm [(3, 8, 2), (1, 0, 0)] (fun ar M R => c_X8_get (f_va (f_nth ar 0)) (f_vi (f_nth ar 1)) M (fun r => R (some (.inl r)) M))), (7, f_wm [(4433, 0, 7), (1, 0, 0), (1, 0, 0)] (fun ar M R => c_X0_freeLot (f_vi (f_nth ar 1)) (f_vi (f_nth ar 2)) M (fun M => R none M))), (8, f_wm [(4433, 0, 7), (1, 0, 0)] (fun ar M R => c_X0_endCharge (f_vi (f_nth ar 1)) M (fun M => R none M))), (9, f_wm [(4433, 0, 7), (1, 0, 0), (1, 0, 0)] (fun ar M R => c_X0_clearLot (f_vi (f_nth ar 1)) (f_vi (f_nth ar 2)) M (fun M => R none M)))]
set_option maxRecDepth 20000 in
theorem BX0_auction_132 {sh : Nat → Nat × Nat} {t : Nat} {rm : Nat × Nat × Nat} {cs : Nat × Nat} {R : f_Rt} {c_X10_lot : Nat → Int → e_M → (Nat → Prop) → Prop} {c_X10_at : Nat → Int → Int → e_M → (Nat → Prop) → Prop} {c_X8_find : Nat → Int → e_M → (Int → Prop) → Prop} {c_X10_isAble : Nat → Int → e_M → (Int → Prop) → Prop} {c_X0_isBarred : Int → Int → e_M → (Int → Prop) → Prop} {c_X4_own : Nat → Int → e_M → (e_M → Prop) → Prop} {c_X8_get : Nat → Int → e_M → (Int → Prop) → Prop} {c_X0_freeLot : Int → Int → e_M → (e_M → Prop) → Prop} {c_X0_endCharge : Int → e_M → (e_M → Prop) → Prop} {c_X0_clearLot : Int → Int → e_M → (e_M → Prop) → Prop} {k232 : Int → Nat → e_M → Prop} {k226 : Int → Nat → Nat → Int → Int → Int → e_M → Prop} {x1 : Int} {a2 : Nat} {a3 : Nat} {x4 : Int} {x5 : Int} {x6 : Int} {M : e_M} (C : f_Hy sh t yX0_auction rm cs 8 (lX0_auction c_X10_lot c_X10_at c_X8_find c_X10_isAble c_X0_isBarred c_X4_own c_X8_get c_X0_freeLot c_X0_endCharge c_X0_clearLot) R) (h232 : ∀ (x1 : Int) (a3 : Nat) (M : e_M), k232 x1 a3 M → f_E sh t YX0_auction rm cs (f_Q sh t R) 232 [.inr (.inr (.inl (0, 7, 4423))), .inl x1, .inr (.inr (.inr ())), .inr (.inr (.inl (9, 14, a3))), .inr (.inr (.inr ())), .inr (.inr (.inr ())), .inr (.inr (.inr ())), .inr (.inr (.inr ())), .inr (.inr (.inr ())), .inr (.inr (.inr ()))] [] M) (h226 : ∀ (x1 : Int) (a2 : Nat) (a3 : Nat) (x4 : Int) (x5 : Int) (x6 : Int) (M : e_M), k226 x1 a2 a3 x4 x5 x6 M → f_E sh t YX0_auction rm cs (f_Q sh t R) 226 [.inr (.inr (.inl (0, 7, 4423))), .inl x1, .inr (.inr (.inl (4, 9, a2))), .inr (.inr (.inl (9, 14, a3))), .inl x4, .inl x5, .inl x6, .inr (.inr (.inr ())), .inr (.inr (.inr ())), .inr (.inr (.inr ()))] [] M) (h : VX0_auction_132 c_X10_lot c_X10_at c_X8_find c_X10_isAble c_X0_isBarred c_X4_own c_X8_get c_X0_freeLot c_X0_endCharge c_X0_clearLot k232 k226 (fun r M => R (some (.inl r)) M) x1 a2 a3 x4 x5 x6 M) : f_E sh t YX0_auction rm cs (f_Q sh t R) 132 [.inr (.inr (.inl (0, 7, 4423))), .inl x1, .inr (.inr (.inl (4, 9, a2))), .inr (.inr (.inl (9, 14, a3))), .inl x4, .inl x5, .inl x6, .inr (.inr (.inr ())), .inr (.inr (.inr ())), .inr (.inr (.inr ()))] [] M :=
  f_go (KC := f_kc [(232, f_pl [(4433, 0, 7), (1, 0, 0), (0, 0, 0), (3, 9, 14), (0, 0, 0), (0, 0, 0), (0, 0, 0), (0, 0, 0), (0, 0, 0), (0, 0, 0)] [] (fun ls st M => k232 (f_vi (f_nth ls 1)) (f_va (f_nth ls 3)) M)), (226, f_pl [(4433, 0, 7), (1, 0, 0), (3, 4, 9), (3, 9, 14), (1, 0, 0), (1, 0, 0), (1, 0, 0), (0, 0, 0), (0, 0, 0), (0, 0, 0)] [] (fun ls st M => k226 (f_vi (f_nth ls 1)) (f_va (f_nth ls 2)) (f_va (f_nth ls 3)) (f_vi (f_nth ls 4)) (f_vi (f_nth ls 5)) (f_vi (f_nth ls 6)) M))]) C qX0_auctionf (f_kc_cons (f_pl_ok rfl (fun ls st M h => h232 _ _ M h)) (f_kc_cons (f_pl_ok rfl (fun ls st M h => h226 _ _ _ _ _ _ M h)) f_kc_nil)) 130 73 h
set_option maxRecDepth 20000 in
theorem BX0_auction_226 {sh : Nat → Nat × Nat} {t : Nat} {rm : Nat × Nat × Nat} {cs : Nat × Nat} {R : f_Rt} {c_X10_lot : Nat → Int → e_M → (Nat → Prop) → Prop} {c_X10_at : Nat → Int → Int → e_M → (Nat → Prop) → Prop} {c_X8_find : Nat → Int → e_M → (Int → Prop) → Prop} {c_X10_isAble : Nat → Int → e_M → (Int → Prop) → Prop} {c_X0_isBarred : Int → Int → e_M → (Int → Prop) → Prop} {c_X4_own : Nat → Int → e_M → (e_M → Prop) → Prop} {c_X8_get : Nat → Int → e_M → (Int → Prop) → Prop} {c_X0_freeLot : Int → Int → e_M → (e_M → Prop) → Prop} {c_X0_endCharge : Int → e_M → (e_M → Prop) → Prop} {c_X0_clearLot : Int → Int → e_M → (e_M → Prop) → Prop} {k132 : Int → Nat → Nat → Int → Int → Int → e_M → Prop} {x1 : Int} {a2 : Nat} {a3 : Nat} {x4 : Int} {x5 : Int} {x6 : Int} {M : e_M} (C : f_Hy sh t yX0_auction rm cs 8 (lX0_auction c_X10_lot c_X10_at c_X8_find c_X10_isAble c_X0_isBarred c_X4_own c_X8_get c_X0_freeLot c_X0_endCharge c_X0_clearLot) R) (h132 : ∀ (x1 : Int) (a2 : Nat) (a3 : Nat) (x4 : Int) (x5 : Int) (x6 : Int) (M : e_M), k132 x1 a2 a3 x4 x5 x6 M → f_E sh t YX0_auction rm cs (f_Q sh t R) 132 [.inr (.inr (.inl (0, 7, 4423))), .inl x1, .inr (.inr (.inl (4, 9, a2))), .inr (.inr (.inl (9, 14, a3))), .inl x4, .inl x5, .inl x6, .inr (.inr (.inr ())), .inr (.inr (.inr ())), .inr (.inr (.inr ()))] [] M) (h : VX0_auction_226 c_X10_lot c_X10_at c_X8_find c_X10_isAble c_X0_isBarred c_X4_own c_X8_get c_X0_freeLot c_X0_endCharge c_X0_clearLot k132 (fun r M => R (some (.inl r)) M) x1 a2 a3 x4 x5 x6 M) : f_E sh t YX0_auction rm cs (f_Q sh t R) 226 [.inr (.inr (.inl (0, 7, 4423))), .inl x1, .inr (.inr (.inl (4, 9, a2))), .inr (.inr (.inl (9, 14, a3))), .inl x4, .inl x5, .inl x6, .inr (.inr (.inr ())), .inr (.inr (.inr ())), .inr (.inr (.inr ()))] [] M :=
  f_go (KC := f_kc [(132, f_pl [(4433, 0, 7), (1, 0, 0), (3, 4, 9), (3, 9, 14), (1, 0, 0), (1, 0, 0), (1, 0, 0), (0, 0, 0), (0, 0, 0), (0, 0, 0)] [] (fun ls st M => k132 (f_vi (f_nth ls 1)) (f_va (f_nth ls 2)) (f_va (f_nth ls 3)) (f_vi (f_nth ls 4)) (f_vi (f_nth ls 5)) (f_vi (f_nth ls 6)) M))]) C qX0_auctionf (f_kc_cons (f_pl_ok rfl (fun ls st M h => h132 _ _ _ _ _ _ M h)) f_kc_nil) 130 118 h
set_option maxRecDepth 20000 in
theorem BX0_auction_232 {sh : Nat → Nat × Nat} {t : Nat} {rm : Nat × Nat × Nat} {cs : Nat × Nat} {R : f_Rt} {c_X10_lot : Nat → Int → e_M → (Nat → Prop) → Prop} {c_X10_at : Nat → Int → Int → e_M → (Nat → Prop) → Prop} {c_X8_find : Nat → Int → e_M → (Int → Prop) → Prop} {c_X10_isAble : Nat → Int → e_M → (Int → Prop) → Prop} {c_X0_isBarred : Int → Int → e_M → (Int → Prop) → Prop} {c_X4_own : Nat → Int → e_M → (e_M → Prop) → Prop} {c_X8_get : Nat → Int → e_M → (Int → Prop) → Prop} {c_X0_freeLot : Int → Int → e_M → (e_M → Prop) → Prop} {c_X0_endCharge : Int → e_M → (e_M → Prop) → Prop} {c_X0_clearLot : Int → Int → e_M → (e_M → Prop) → Prop} {x1 : Int} {a3 : Nat} {M : e_M} (C : f_Hy sh t yX0_auction rm cs 8 (lX0_auction c_X10_lot c_X10_at c_X8_find c_X10_isAble c_X0_isBarred c_X4_own c_X8_get c_X0_freeLot c_X0_endCharge c_X0_clearLot) R) (h : VX0_auction_232 c_X10_lot c_X10_at c_X8_find c_X10_isAble c_X0_isBarred c_X4_own c_X8_get c_X0_freeLot c_X0_endCharge c_X0_clearLot (fun r M => R (some (.inl r)) M) x1 a3 M) : f_E sh t YX0_auction rm cs (f_Q sh t R) 232 [.inr (.inr (.inl (0, 7, 4423))), .inl x1, .inr (.inr (.inr ())), .inr (.inr (.inl (9, 14, a3))), .inr (.inr (.inr ())), .inr (.inr (.inr ())), .inr (.inr (.inr ())), .inr (.inr (.inr ())), .inr (.inr (.inr ())), .inr (.inr (.inr ()))] [] M :=
  f_go (KC := f_kc []) C qX0_auctionf f_kc_nil 130 121 h
set_option maxRecDepth 20000 in
theorem BX0_auction {sh : Nat → Nat × Nat} {t : Nat} {rm : Nat × Nat × Nat} {cs : Nat × Nat} {R : f_Rt} {c_X10_lot : Nat → Int → e_M → (Nat → Prop) → Prop} {c_X10_at : Nat → Int → Int → e_M → (Nat → Prop) → Prop} {c_X8_find : Nat → Int → e_M → (Int → Prop) → Prop} {c_X10_isAble : Nat → Int → e_M → (Int → Prop) → Prop} {c_X0_isBarred : Int → Int → e_M → (Int → Prop) → Prop} {c_X4_own : Nat → Int → e_M → (e_M → Prop) → Prop} {c_X8_get : Nat → Int → e_M → (Int → Prop) → Prop} {c_X0_freeLot : Int → Int → e_M → (e_M → Prop) → Prop} {c_X0_endCharge : Int → e_M → (e_M → Prop) → Prop} {c_X0_clearLot : Int → Int → e_M → (e_M → Prop) → Prop} {k132 : Int → Nat → Nat → Int → Int → Int → e_M → Prop} {M : e_M} (C : f_Hy sh t yX0_auction rm cs 8 (lX0_auction c_X10_lot c_X10_at c_X8_find c_X10_isAble c_X0_isBarred c_X4_own c_X8_get c_X0_freeLot c_X0_endCharge c_X0_clearLot) R) (h132 : ∀ (x1 : Int) (a2 : Nat) (a3 : Nat) (x4 : Int) (x5 : Int) (x6 : Int) (M : e_M), k132 x1 a2 a3 x4 x5 x6 M → f_E sh t YX0_auction rm cs (f_Q sh t R) 132 [.inr (.inr (.inl (0, 7, 4423))), .inl x1, .inr (.inr (.inl (4, 9, a2))), .inr (.inr (.inl (9, 14, a3))), .inl x4, .inl x5, .inl x6, .inr (.inr (.inr ())), .inr (.inr (.inr ())), .inr (.inr (.inr ()))] [] M) (h : VX0_auction c_X10_lot c_X10_at c_X8_find c_X10_isAble c_X0_isBarred c_X4_own c_X8_get c_X0_freeLot c_X0_endCharge c_X0_clearLot k132 (fun r M => R (some (.inl r)) M) M) : f_E sh t YX0_auction rm cs (f_Q sh t R) 0 [.inr (.inr (.inl (0, 7, 4423))), .inr (.inr (.inr ())), .inr (.inr (.inr ())), .inr (.inr (.inr ())), .inr (.inr (.inr ())), .inr (.inr (.inr ())), .inr (.inr (.inr ())), .inr (.inr (.inr ())), .inr (.inr (.inr ())), .inr (.inr (.inr ()))] [] M :=
  f_go (KC := f_kc [(132, f_pl [(4433, 0, 7), (1, 0, 0), (3, 4, 9), (3, 9, 14), (1, 0, 0), (1, 0, 0), (1, 0, 0), (0, 0, 0), (0, 0, 0), (0, 0, 0)] [] (fun ls st M => k132 (f_vi (f_nth ls 1)) (f_va (f_nth ls 2)) (f_va (f_nth ls 3)) (f_vi (f_nth ls 4)) (f_vi (f_nth ls 5)) (f_vi (f_nth ls 6)) M))]) C qX0_auctionf (f_kc_cons (f_pl_ok rfl (fun ls st M h => h132 _ _ _ _ _ _ M h)) f_kc_nil) 130 0 h
def WX0_auction_232 (Q : Int → e_M → Prop) (x1 : Int) (a3 : Nat) (M : e_M) : Prop :=
  VX0_auction_232 WX10_lot WX10_at WX8_find WX10_isAble WX0_isBarred WX4_own WX8_get WX0_freeLot WX0_endCharge WX0_clearLot Q x1 a3 M
def WX0_auction_226 (H132 : Int → Nat → Nat → Int → Int → Int → e_M → Prop) (Q : Int → e_M → Prop) (x1 : Int) (a2 : Nat) (a3 : Nat) (x4 : Int) (x5 : Int) (x6 : Int) (M : e_M) : Prop :=
  VX0_auction_226 WX10_lot WX10_at WX8_find WX10_isAble WX0_isBarred WX4_own WX8_get WX0_freeLot WX0_endCharge WX0_clearLot H132 Q x1 a2 a3 x4 x5 x6 M
def WX0_auction_132 (Q : Int → e_M → Prop) : Nat → Int → Nat → Nat → Int → Int → Int → e_M → Prop
  | 0, _, _, _, _, _, _, _ => False
  | n + 1, x1, a2, a3, x4, x5, x6, M =>
    VX0_auction_132 WX10_lot WX10_at WX8_find WX10_isAble WX0_isBarred WX4_own WX8_get WX0_freeLot WX0_endCharge WX0_clearLot (WX0_auction_232 Q) (WX0_auction_226 (WX0_auction_132 Q n) Q) Q x1 a2 a3 x4 x5 x6 M
def WX0_auction (M : e_M) (Q : Int → e_M → Prop) : Prop :=
  VX0_auction WX10_lot WX10_at WX8_find WX10_isAble WX0_isBarred WX4_own WX8_get WX0_freeLot WX0_endCharge WX0_clearLot (fun x1 a2 a3 x4 x5 x6 M => ∃ j, WX0_auction_132 Q j x1 a2 a3 x4 x5 x6 M) Q M
theorem PX0_auction_232 {sh : Nat → Nat × Nat} {t : Nat} {rm : Nat × Nat × Nat} {cs : Nat × Nat} {R : f_Rt} {x1 : Int} {a3 : Nat} {M : e_M} (C : f_Hy sh t yX0_auction rm cs 8 (lX0_auction WX10_lot WX10_at WX8_find WX10_isAble WX0_isBarred WX4_own WX8_get WX0_freeLot WX0_endCharge WX0_clearLot) R) (h : WX0_auction_232 (fun r M => R (some (.inl r)) M) x1 a3 M) : f_E sh t YX0_auction rm cs (f_Q sh t R) 232 [.inr (.inr (.inl (0, 7, 4423))), .inl x1, .inr (.inr (.inr ())), .inr (.inr (.inl (9, 14, a3))), .inr (.inr (.inr ())), .inr (.inr (.inr ())), .inr (.inr (.inr ())), .inr (.inr (.inr ())), .inr (.inr (.inr ())), .inr (.inr (.inr ()))] [] M :=
  BX0_auction_232 C h
theorem PX0_auction_226 {sh : Nat → Nat × Nat} {t : Nat} {rm : Nat × Nat × Nat} {cs : Nat × Nat} {R : f_Rt} {H132 : Int → Nat → Nat → Int → Int → Int → e_M → Prop} {x1 : Int} {a2 : Nat} {a3 : Nat} {x4 : Int} {x5 : Int} {x6 : Int} {M : e_M} (C : f_Hy sh t yX0_auction rm cs 8 (lX0_auction WX10_lot WX10_at WX8_find WX10_isAble WX0_isBarred WX4_own WX8_get WX0_freeLot WX0_endCharge WX0_clearLot) R) (g132 : ∀ (x1 : Int) (a2 : Nat) (a3 : Nat) (x4 : Int) (x5 : Int) (x6 : Int) (M : e_M), H132 x1 a2 a3 x4 x5 x6 M → f_E sh t YX0_auction rm cs (f_Q sh t R) 132 [.inr (.inr (.inl (0, 7, 4423))), .inl x1, .inr (.inr (.inl (4, 9, a2))), .inr (.inr (.inl (9, 14, a3))), .inl x4, .inl x5, .inl x6, .inr (.inr (.inr ())), .inr (.inr (.inr ())), .inr (.inr (.inr ()))] [] M) (h : WX0_auction_226 H132 (fun r M => R (some (.inl r)) M) x1 a2 a3 x4 x5 x6 M) : f_E sh t YX0_auction rm cs (f_Q sh t R) 226 [.inr (.inr (.inl (0, 7, 4423))), .inl x1, .inr (.inr (.inl (4, 9, a2))), .inr (.inr (.inl (9, 14, a3))), .inl x4, .inl x5, .inl x6, .inr (.inr (.inr ())), .inr (.inr (.inr ())), .inr (.inr (.inr ()))] [] M :=
  BX0_auction_226 C g132 h
theorem PX0_auction_132 {sh : Nat → Nat × Nat} {t : Nat} {rm : Nat × Nat × Nat} {cs : Nat × Nat} {R : f_Rt} (C : f_Hy sh t yX0_auction rm cs 8 (lX0_auction WX10_lot WX10_at WX8_find WX10_isAble WX0_isBarred WX4_own WX8_get WX0_freeLot WX0_endCharge WX0_clearLot) R) : ∀ (n : Nat) (x1 : Int) (a2 : Nat) (a3 : Nat) (x4 : Int) (x5 : Int) (x6 : Int) (M : e_M), WX0_auction_132 (fun r M => R (some (.inl r)) M) n x1 a2 a3 x4 x5 x6 M → f_E sh t YX0_auction rm cs (f_Q sh t R) 132 [.inr (.inr (.inl (0, 7, 4423))), .inl x1, .inr (.inr (.inl (4, 9, a2))), .inr (.inr (.inl (9, 14, a3))), .inl x4, .inl x5, .inl x6, .inr (.inr (.inr ())), .inr (.inr (.inr ())), .inr (.inr (.inr ()))] [] M := by
  intro n
  induction n with
  | zero => intro x1 a2 a3 x4 x5 x6 M h; exact h.elim
  | succ n ih => intro x1 a2 a3 x4 x5 x6 M h; exact BX0_auction_132 C (fun x1 a3 M h => PX0_auction_232 C h) (fun x1 a2 a3 x4 x5 x6 M h => PX0_auction_226 C ih h) h
theorem PX0_auction {sh : Nat → Nat × Nat} {t : Nat} {rm : Nat × Nat × Nat} {cs : Nat × Nat} {R : f_Rt} {M : e_M} (C : f_Hy sh t yX0_auction rm cs 8 (lX0_auction WX10_lot WX10_at WX8_find WX10_isAble WX0_isBarred WX4_own WX8_get WX0_freeLot WX0_endCharge WX0_clearLot) R) (h : WX0_auction M (fun r M => R (some (.inl r)) M)) : f_E sh t YX0_auction rm cs (f_Q sh t R) 0 [.inr (.inr (.inl (0, 7, 4423))), .inr (.inr (.inr ())), .inr (.inr (.inr ())), .inr (.inr (.inr ())), .inr (.inr (.inr ())), .inr (.inr (.inr ())), .inr (.inr (.inr ())), .inr (.inr (.inr ())), .inr (.inr (.inr ())), .inr (.inr (.inr ()))] [] M :=
  BX0_auction C (fun x1 a2 a3 x4 x5 x6 M ⟨j, h⟩ => PX0_auction_132 C j _ _ _ _ _ _ _ h) h
def wX0_auction : f_Wt := f_wm [(4433, 0, 7)] (fun ar M R => WX0_auction M (fun r M => R (some (.inl r)) M))
theorem TX0_auction {sh : Nat → Nat × Nat} {t : Nat} : f_Mt sh t YX0_auction 8 (wX0_auction) :=
  f_Mt_of (k := 9) (Nat.le_of_ble_eq_true rfl) rfl rfl (fun ar M R rm cs h1 h2 h3 hX h => PX0_auction ⟨Nat.le_of_ble_eq_true rfl, h1, h2, h3, ⟨(f_Mt.up (Nat.le_of_ble_eq_true rfl) TX10_lot), (f_Mt.up (Nat.le_of_ble_eq_true rfl) TX10_at), (f_Mt.up (Nat.le_of_ble_eq_true rfl) TX8_find), (f_Mt.up (Nat.le_of_ble_eq_true rfl) TX10_isAble), (f_Mt.up (Nat.le_of_ble_eq_true rfl) TX0_isBarred), (f_Mt.up (Nat.le_of_ble_eq_true rfl) TX4_own), (f_Mt.up (Nat.le_of_ble_eq_true rfl) TX8_get), (f_Mt.up (Nat.le_of_ble_eq_true rfl) TX0_freeLot), (f_Mt.up (Nat.le_of_ble_eq_true rfl) TX0_endCharge), (f_Mt.up (Nat.le_of_ble_eq_true rfl) TX0_clearLot), trivial⟩, hX⟩ h)
def VX0_serve_45 (c_X0_areOwnersAble : Int → e_M → (Int → Prop) → Prop) (c_X0_isBarred : Int → Int → e_M → (Int → Prop) → Prop) (c_X10_lot : Nat → Int → e_M → (Nat → Prop) → Prop) (c_X3_where : Nat → Int → Int → Int → e_M → (Int → Prop) → Prop) (c_X10_isFull : Nat → Int → e_M → (Int → Prop) → Prop) (c_X0_make : Int → e_M → (Nat → e_M → Prop) → Prop) (c_X8_add : Nat → Int → e_M → (e_M → Prop) → Prop) (k62 : Int → Int → Int → Int → Int → e_M → Prop) (Q : Int → e_M → Prop) (x1 : Int) (x2 : Int) (x3 : Int) (M : e_M) : Prop :=
  (((M ((M 4423 1).toNat) 18) ≤ x3 → (c_X10_isFull ((M 4423 0).toNat) 3 M (fun r1 => ((r1 = 0 → (c_X0_make 3 M (fun r2 M3 => (∀ M4 : e_M, M4 = e_up M3 r2 7 (M3 ((M3 4423 1).toNat) 10) → (c_X8_add ((M4 r2 9).toNat) x1 M4 (fun M5 => (c_X8_add ((M5 r2 10).toNat) x2 M5 (fun M6 => (Q 0 M6))))))))) ∧ (¬ r1 = 0 → (Q 7 M)))))) ∧ (x3 < (M ((M 4423 1).toNat) 18) → (k62 x1 x2 x3 0 0 M)))
def VX0_serve_62 (c_X0_areOwnersAble : Int → e_M → (Int → Prop) → Prop) (c_X0_isBarred : Int → Int → e_M → (Int → Prop) → Prop) (c_X10_lot : Nat → Int → e_M → (Nat → Prop) → Prop) (c_X3_where : Nat → Int → Int → Int → e_M → (Int → Prop) → Prop) (c_X10_isFull : Nat → Int → e_M → (Int → Prop) → Prop) (c_X0_make : Int → e_M → (Nat → e_M → Prop) → Prop) (c_X8_add : Nat → Int → e_M → (e_M → Prop) → Prop) (k45 : Int → Int → Int → e_M → Prop) (k117 : Int → Int → Int → Int → e_M → Prop) (k121 : Int → Int → Int → Int → e_M → Prop) (Q : Int → e_M → Prop) (x1 : Int) (x2 : Int) (x3 : Int) (x4 : Int) (x5 : Int) (M : e_M) : Prop :=
  ((x3 ≤ x5 → ((¬ x4 = 0 → (Q 3 M)) ∧ (x4 = 0 → (c_X10_lot ((M 4423 0).toNat) x2 M (fun r1 => ((0 ≤ x3 ∧ x3 < 12) ∧ ((0 ≤ x3 ∧ x3 < 12) ∧ (c_X3_where (r1 + 1) (M ((M 4423 1).toNat + 5) (x3.toNat)) (M ((M 4423 1).toNat + 6) (x3.toNat)) 1 M (fun r2 => ((¬ r2 = 0 → (k45 x1 x2 (e_w32 (x3 + 1)) M)) ∧ (r2 = 0 → (Q 3 M)))))))))))) ∧ (x5 < x3 → ((¬ x4 = 0 → (k117 x1 x2 x3 x5 M)) ∧ (x4 = 0 → ((0 ≤ x3 ∧ x3 < 12) ∧ ((0 ≤ x5 ∧ x5 < 12) ∧ ((¬ (M ((M 4423 1).toNat + 5) (x3.toNat)) = (M ((M 4423 1).toNat + 5) (x5.toNat)) → (k121 x1 x2 x3 x5 M)) ∧ ((M ((M 4423 1).toNat + 5) (x3.toNat)) = (M ((M 4423 1).toNat + 5) (x5.toNat)) → ((0 ≤ x3 ∧ x3 < 12) ∧ ((0 ≤ x5 ∧ x5 < 12) ∧ ((¬ (M ((M 4423 1).toNat + 6) (x3.toNat)) = (M ((M 4423 1).toNat + 6) (x5.toNat)) → (k121 x1 x2 x3 x5 M)) ∧ ((M ((M 4423 1).toNat + 6) (x3.toNat)) = (M ((M 4423 1).toNat + 6) (x5.toNat)) → (k117 x1 x2 x3 x5 M)))))))))))))
def VX0_serve_117 (c_X0_areOwnersAble : Int → e_M → (Int → Prop) → Prop) (c_X0_isBarred : Int → Int → e_M → (Int → Prop) → Prop) (c_X10_lot : Nat → Int → e_M → (Nat → Prop) → Prop) (c_X3_where : Nat → Int → Int → Int → e_M → (Int → Prop) → Prop) (c_X10_isFull : Nat → Int → e_M → (Int → Prop) → Prop) (c_X0_make : Int → e_M → (Nat → e_M → Prop) → Prop) (c_X8_add : Nat → Int → e_M → (e_M → Prop) → Prop) (k122 : Int → Int → Int → Int → Int → e_M → Prop) (Q : Int → e_M → Prop) (x1 : Int) (x2 : Int) (x3 : Int) (x5 : Int) (M : e_M) : Prop :=
  (k122 x1 x2 x3 x5 1 M)
def VX0_serve_121 (c_X0_areOwnersAble : Int → e_M → (Int → Prop) → Prop) (c_X0_isBarred : Int → Int → e_M → (Int → Prop) → Prop) (c_X10_lot : Nat → Int → e_M → (Nat → Prop) → Prop) (c_X3_where : Nat → Int → Int → Int → e_M → (Int → Prop) → Prop) (c_X10_isFull : Nat → Int → e_M → (Int → Prop) → Prop) (c_X0_make : Int → e_M → (Nat → e_M → Prop) → Prop) (c_X8_add : Nat → Int → e_M → (e_M → Prop) → Prop) (k122 : Int → Int → Int → Int → Int → e_M → Prop) (Q : Int → e_M → Prop) (x1 : Int) (x2 : Int) (x3 : Int) (x5 : Int) (M : e_M) : Prop :=
  (k122 x1 x2 x3 x5 0 M)
def VX0_serve_122 (c_X0_areOwnersAble : Int → e_M → (Int → Prop) → Prop) (c_X0_isBarred : Int → Int → e_M → (Int → Prop) → Prop) (c_X10_lot : Nat → Int → e_M → (Nat → Prop) → Prop) (c_X3_where : Nat → Int → Int → Int → e_M → (Int → Prop) → Prop) (c_X10_isFull : Nat → Int → e_M → (Int → Prop) → Prop) (c_X0_make : Int → e_M → (Nat → e_M → Prop) → Prop) (c_X8_add : Nat → Int → e_M → (e_M → Prop) → Prop) (k62 : Int → Int → Int → Int → Int → e_M → Prop) (Q : Int → e_M → Prop) (x1 : Int) (x2 : Int) (x3 : Int) (x5 : Int) (xs0 : Int) (M : e_M) : Prop :=
  (k62 x1 x2 x3 xs0 (e_w32 (x5 + 1)) M)
def VX0_serve (c_X0_areOwnersAble : Int → e_M → (Int → Prop) → Prop) (c_X0_isBarred : Int → Int → e_M → (Int → Prop) → Prop) (c_X10_lot : Nat → Int → e_M → (Nat → Prop) → Prop) (c_X3_where : Nat → Int → Int → Int → e_M → (Int → Prop) → Prop) (c_X10_isFull : Nat → Int → e_M → (Int → Prop) → Prop) (c_X0_make : Int → e_M → (Nat → e_M → Prop) → Prop) (c_X8_add : Nat → Int → e_M → (e_M → Prop) → Prop) (k45 : Int → Int → Int → e_M → Prop) (Q : Int → e_M → Prop) (M : e_M) : Prop :=
  ((0 ≤ (1 : Int) ∧ (1 : Int) < 8) ∧ ((0 ≤ (2 : Int) ∧ (2 : Int) < 8) ∧ ((¬ (M 4425 ((1 : Int).toNat)) = (M 4425 ((2 : Int).toNat)) → (c_X0_areOwnersAble (M 4425 ((2 : Int).toNat)) M (fun r1 => ((¬ r1 = 0 → (c_X0_isBarred (M 4425 ((2 : Int).toNat)) (-1) M (fun r2 => ((r2 = 0 → (k45 (M 4425 ((1 : Int).toNat)) (M 4425 ((2 : Int).toNat)) 0 M)) ∧ (¬ r2 = 0 → (Q 4 M)))))) ∧ (r1 = 0 → (Q 2 M)))))) ∧ ((M 4425 ((1 : Int).toNat)) = (M 4425 ((2 : Int).toNat)) → (Q 9 M)))))
def yX0_serve (i : Nat) : e_Y := x_get YX0_serve [YX0_areOwnersAble, YX0_isBarred, YX10_lot, YX3_where, YX10_isFull, YX0_make, YX8_add] i
def pX0_servef : List x_I := [(0, 4, 1, 0, 0, 0, []), (1, 25, 0, 4, 4, 0, [(0, 20, 8), (0, 1, 2)]), (4, 0, 1, 0, 0, 1, []), (5, 27, 0, 0, 0, 0, []), (6, 5, 1, 1, 0, 0, []), (7, 4, 1, 0, 0, 0, []), (8, 25, 0, 4, 4, 0, [(0, 20, 8), (0, 1, 2)]), (11, 0, 1, 0, 0, 2, []), (12, 27, 0, 0, 0, 0, []), (13, 5, 1, 2, 0, 0, []), (14, 2, 1, 1, 0, 0, []), (15, 2, 1, 2, 0, 0, []), (16, 18, 22, 1, 16, 0, []), (19, 0, 2, 0, 0, 9, []), (21, 41, 0, 0, 0, 0, []), (22, 4, 1, 0, 0, 0, []), (23, 2, 1, 2, 0, 0, []), (24, 40, 0, 2, 2, 0, []), (27, 17, 32, 1, 22, 0, []), (30, 0, 1, 0, 0, 2, []), (31, 41, 0, 0, 0, 0, []), (32, 4, 1, 0, 0, 0, []), (33, 2, 1, 2, 0, 0, []), (34, 0, 1, 0, 0, (-1), []), (35, 40, 1, 3, 2, 0, []), (38, 17, 43, 0, 29, 0, []), (41, 0, 1, 0, 0, 4, []), (42, 41, 0, 0, 0, 0, []), (43, 0, 1, 0, 0, 0, []), (44, 5, 1, 3, 0, 0, []), (45, 49, 0, 0, 0, 0, []), (45, 2, 1, 3, 0, 0, []), (46, 4, 1, 0, 0, 0, []), (47, 25, 0, 1, 4, 0, [(0, 2, 19), (0, 0, 0)]), (50, 25, 2, 18, 0, 0, []), (53, 18, 181, 3, 104, 0, []), (56, 0, 1, 0, 0, 0, []), (57, 5, 2, 4, 0, 0, []), (59, 0, 1, 0, 0, 0, []), (60, 5, 2, 5, 0, 0, []), (62, 49, 0, 0, 0, 0, []), (62, 2, 2, 5, 0, 0, []), (64, 2, 1, 3, 0, 0, []), (65, 18, 130, 3, 78, 0, []), (68, 2, 2, 4, 0, 0, []), (70, 17, 117, 1, 69, 0, []), (73, 4, 1, 0, 0, 0, []), (74, 25, 0, 1, 4, 0, [(0, 2, 19), (0, 0, 0)]), (77, 25, 2, 16, 4, 0, [(0, 20, 12), (0, 1, 5)]), (80, 2, 1, 3, 0, 0, []), (81, 27, 0, 0, 0, 0, []), (82, 4, 1, 0, 0, 0, []), (83, 25, 0, 1, 4, 0, [(0, 2, 19), (0, 0, 0)]), (86, 25, 2, 16, 4, 0, [(0, 20, 12), (0, 1, 5)]), (89, 2, 2, 5, 0, 0, []), (91, 27, 0, 0, 0, 0, []), (92, 18, 121, 1, 72, 0, []), (95, 4, 1, 0, 0, 0, []), (96, 25, 0, 1, 4, 0, [(0, 2, 19), (0, 0, 0)]), (99, 25, 2, 17, 4, 0, [(0, 20, 12), (0, 1, 6)]), (102, 2, 1, 3, 0, 0, []), (103, 27, 0, 0, 0, 0, []), (104, 4, 1, 0, 0, 0, []), (105, 25, 0, 1, 4, 0, [(0, 2, 19), (0, 0, 0)]), (108, 25, 2, 17, 4, 0, [(0, 20, 12), (0, 1, 6)]), (111, 2, 2, 5, 0, 0, []), (113, 27, 0, 0, 0, 0, []), (114, 18, 121, 1, 72, 0, []), (117, 49, 0, 0, 0, 0, []), (117, 0, 1, 0, 0, 1, []), (118, 19, 122, 0, 74, 0, []), (121, 49, 0, 0, 0, 0, []), (121, 0, 1, 0, 0, 0, []), (122, 49, 0, 0, 0, 0, []), (122, 5, 2, 4, 0, 0, []), (124, 8, 0, 5, 0, 1, []), (127, 19, 62, 0, 41, 0, []), (130, 2, 2, 4, 0, 0, []), (132, 17, 173, 1, 100, 0, []), (135, 4, 1, 0, 0, 0, []), (136, 25, 0, 0, 4, 0, [(0, 10, 15), (0, 0, 0)]), (139, 2, 1, 2, 0, 0, []), (140, 40, 2, 2, 12, 0, []), (143, 25, 4, 3, 4, 0, [(0, 3, 3), (0, 1, 1)]), (146, 4, 1, 0, 0, 0, []), (147, 25, 0, 1, 4, 0, [(0, 2, 19), (0, 0, 0)]), (150, 25, 2, 16, 4, 0, [(0, 20, 12), (0, 1, 5)]), (153, 2, 1, 3, 0, 0, []), (154, 27, 0, 0, 0, 0, []), (155, 14, 0, 0, 0, 0, []), (156, 4, 1, 0, 0, 0, []), (157, 25, 0, 1, 4, 0, [(0, 2, 19), (0, 0, 0)]), (160, 25, 2, 17, 4, 0, [(0, 20, 12), (0, 1, 6)]), (163, 2, 1, 3, 0, 0, []), (164, 27, 0, 0, 0, 0, []), (165, 14, 0, 0, 0, 0, []), (166, 0, 1, 0, 0, 1, []), (167, 40, 3, 4, 5, 0, []), (170, 17, 175, 1, 102, 0, []), (173, 0, 1, 0, 0, 3, []), (174, 41, 0, 0, 0, 0, []), (175, 8, 0, 3, 0, 1, []), (178, 19, 45, 0, 31, 0, []), (181, 4, 1, 0, 0, 0, []), (182, 25, 0, 0, 4, 0, [(0, 10, 15), (0, 0, 0)]), (185, 0, 1, 0, 0, 3, []), (186, 40, 4, 2, 12, 0, []), (189, 17, 195, 0, 111, 0, []), (192, 0, 2, 0, 0, 7, []), (194, 41, 0, 0, 0, 0, []), (195, 4, 1, 0, 0, 0, []), (196, 0, 1, 0, 0, 3, []), (197, 40, 5, 2, 2, 0, []), (200, 7, 1, 3, 0, 0, []), (201, 4, 1, 3, 0, 0, []), (202, 4, 1, 0, 0, 0, []), (203, 25, 0, 1, 4, 0, [(0, 2, 19), (0, 0, 0)]), (206, 25, 2, 10, 0, 0, []), (209, 26, 9, 7, 0, 0, []), (212, 4, 1, 3, 0, 0, []), (213, 25, 9, 9, 4, 0, [(0, 8, 2), (0, 0, 0)]), (216, 2, 1, 1, 0, 0, []), (217, 40, 6, 2, 10, 0, []), (220, 4, 1, 3, 0, 0, []), (221, 25, 9, 10, 4, 0, [(0, 8, 2), (0, 0, 0)]), (224, 2, 1, 2, 0, 0, []), (225, 40, 6, 2, 10, 0, []), (228, 0, 1, 0, 0, 0, []), (229, 41, 0, 0, 0, 0, [])]
set_option maxRecDepth 20000 in
theorem qX0_servef : f_all yX0_serve YX0_serve pX0_servef :=
  ⟨f_aload_n (n := 0) (e_dx DX0_serve_0 0 rfl) rfl,
  f_getA (e_dx DX0_serve_0 1 rfl) fX0_19 rfl (by decide) (Nat.le_of_ble_eq_true rfl) rfl (by decide),
  f_iconst (e_dx DX0_serve_0 2 rfl) ⟨by decide, by decide⟩,
  f_iaload (e_dx DX0_serve_0 3 rfl),
  f_istore_n (n := 1) (e_dx DX0_serve_0 4 rfl) rfl (by decide),
  f_aload_n (n := 0) (e_dx DX0_serve_0 5 rfl) rfl,
  f_getA (e_dx DX0_serve_0 6 rfl) fX0_19 rfl (by decide) (Nat.le_of_ble_eq_true rfl) rfl (by decide),
  f_iconst (e_dx DX0_serve_0 7 rfl) ⟨by decide, by decide⟩,
  f_iaload (e_dx DX0_serve_0 8 rfl),
  f_istore_n (n := 2) (e_dx DX0_serve_0 9 rfl) rfl (by decide),
  f_iload_n (n := 1) (e_dx DX0_serve_0 10 rfl) rfl,
  f_iload_n (n := 2) (e_dx DX0_serve_0 11 rfl) rfl,
  f_icmp_ne (e_dx DX0_serve_0 12 rfl) rfl,
  f_bipush (e_dx DX0_serve_0 13 rfl) ⟨by decide, by decide⟩,
  ⟨(e_dx DX0_serve_0 14 rfl), rfl⟩,
  f_aload_n (n := 0) (e_dx DX0_serve_0 15 rfl) rfl,
  f_iload_n (n := 2) (e_dx DX0_serve_0 16 rfl) rfl,
  x_callV (e_dx DX0_serve_0 17 rfl) mwX0_areOwnersAble vwX0_areOwnersAble cX0_296 rfl,
  f_if_ne (e_dx DX0_serve_0 18 rfl) rfl,
  f_iconst (e_dx DX0_serve_0 19 rfl) ⟨by decide, by decide⟩,
  ⟨(e_dx DX0_serve_0 20 rfl), rfl⟩,
  f_aload_n (n := 0) (e_dx DX0_serve_0 21 rfl) rfl,
  f_iload_n (n := 2) (e_dx DX0_serve_0 22 rfl) rfl,
  f_iconst (e_dx DX0_serve_0 23 rfl) ⟨by decide, by decide⟩,
  x_callV (e_dx DX0_serve_0 24 rfl) mwX0_isBarred vwX0_isBarred cX0_275 rfl,
  f_if_eq (e_dx DX0_serve_0 25 rfl) rfl,
  f_iconst (e_dx DX0_serve_0 26 rfl) ⟨by decide, by decide⟩,
  ⟨(e_dx DX0_serve_0 27 rfl), rfl⟩,
  f_iconst (e_dx DX0_serve_0 28 rfl) ⟨by decide, by decide⟩,
  f_istore_n (n := 3) (e_dx DX0_serve_0 29 rfl) rfl (by decide),
  trivial,
  f_iload_n (n := 3) (e_dx DX0_serve_0 30 rfl) rfl,
  f_aload_n (n := 0) (e_dx DX0_serve_0 31 rfl) rfl,
  f_getA (e_dx DX0_serve_0 32 rfl) fX0_40 rfl (by decide) (Nat.le_of_ble_eq_true rfl) rfl (by decide),
  f_getf (e_dx DX0_serve_0 33 rfl) fX0_413 rfl (by decide) (by decide) (by decide),
  f_icmp_ge (e_dx DX0_serve_0 34 rfl) rfl,
  f_iconst (e_dx DX0_serve_0 35 rfl) ⟨by decide, by decide⟩,
  f_istore (e_dx DX0_serve_0 36 rfl) (by decide),
  f_iconst (e_dx DX0_serve_0 37 rfl) ⟨by decide, by decide⟩,
  f_istore (e_dx DX0_serve_0 38 rfl) (by decide),
  trivial,
  f_iload (e_dx DX0_serve_0 39 rfl),
  f_iload_n (n := 3) (e_dx DX0_serve_1 0 rfl) rfl,
  f_icmp_ge (e_dx DX0_serve_1 1 rfl) rfl,
  f_iload (e_dx DX0_serve_1 2 rfl),
  f_if_ne (e_dx DX0_serve_1 3 rfl) rfl,
  f_aload_n (n := 0) (e_dx DX0_serve_1 4 rfl) rfl,
  f_getA (e_dx DX0_serve_1 5 rfl) fX0_40 rfl (by decide) (Nat.le_of_ble_eq_true rfl) rfl (by decide),
  f_getA (e_dx DX0_serve_1 6 rfl) fX0_416 rfl (by decide) (Nat.le_of_ble_eq_true rfl) rfl (by decide),
  f_iload_n (n := 3) (e_dx DX0_serve_1 7 rfl) rfl,
  f_iaload (e_dx DX0_serve_1 8 rfl),
  f_aload_n (n := 0) (e_dx DX0_serve_1 9 rfl) rfl,
  f_getA (e_dx DX0_serve_1 10 rfl) fX0_40 rfl (by decide) (Nat.le_of_ble_eq_true rfl) rfl (by decide),
  f_getA (e_dx DX0_serve_1 11 rfl) fX0_416 rfl (by decide) (Nat.le_of_ble_eq_true rfl) rfl (by decide),
  f_iload (e_dx DX0_serve_1 12 rfl),
  f_iaload (e_dx DX0_serve_1 13 rfl),
  f_icmp_ne (e_dx DX0_serve_1 14 rfl) rfl,
  f_aload_n (n := 0) (e_dx DX0_serve_1 15 rfl) rfl,
  f_getA (e_dx DX0_serve_1 16 rfl) fX0_40 rfl (by decide) (Nat.le_of_ble_eq_true rfl) rfl (by decide),
  f_getA (e_dx DX0_serve_1 17 rfl) fX0_419 rfl (by decide) (Nat.le_of_ble_eq_true rfl) rfl (by decide),
  f_iload_n (n := 3) (e_dx DX0_serve_1 18 rfl) rfl,
  f_iaload (e_dx DX0_serve_1 19 rfl),
  f_aload_n (n := 0) (e_dx DX0_serve_1 20 rfl) rfl,
  f_getA (e_dx DX0_serve_1 21 rfl) fX0_40 rfl (by decide) (Nat.le_of_ble_eq_true rfl) rfl (by decide),
  f_getA (e_dx DX0_serve_1 22 rfl) fX0_419 rfl (by decide) (Nat.le_of_ble_eq_true rfl) rfl (by decide),
  f_iload (e_dx DX0_serve_1 23 rfl),
  f_iaload (e_dx DX0_serve_1 24 rfl),
  f_icmp_ne (e_dx DX0_serve_1 25 rfl) rfl,
  trivial,
  f_iconst (e_dx DX0_serve_1 26 rfl) ⟨by decide, by decide⟩,
  f_g19 (e_dx DX0_serve_1 27 rfl) rfl,
  trivial,
  f_iconst (e_dx DX0_serve_1 28 rfl) ⟨by decide, by decide⟩,
  trivial,
  f_istore (e_dx DX0_serve_1 29 rfl) (by decide),
  f_g8 (e_dx DX0_serve_1 30 rfl) ⟨by decide, by decide⟩,
  f_g19 (e_dx DX0_serve_1 31 rfl) rfl,
  f_iload (e_dx DX0_serve_1 32 rfl),
  f_if_ne (e_dx DX0_serve_1 33 rfl) rfl,
  f_aload_n (n := 0) (e_dx DX0_serve_1 34 rfl) rfl,
  f_getA (e_dx DX0_serve_1 35 rfl) fX0_36 rfl (by decide) (Nat.le_of_ble_eq_true rfl) rfl (by decide),
  f_iload_n (n := 2) (e_dx DX0_serve_1 36 rfl) rfl,
  x_callV (e_dx DX0_serve_1 37 rfl) mwX10_lot vwX10_lot cX0_161 rfl,
  f_getA (e_dx DX0_serve_1 38 rfl) fX0_299 rfl (by decide) (Nat.le_of_ble_eq_true rfl) rfl (by decide),
  f_aload_n (n := 0) (e_dx DX0_serve_1 39 rfl) rfl,
  f_getA (e_dx DX0_serve_2 0 rfl) fX0_40 rfl (by decide) (Nat.le_of_ble_eq_true rfl) rfl (by decide),
  f_getA (e_dx DX0_serve_2 1 rfl) fX0_416 rfl (by decide) (Nat.le_of_ble_eq_true rfl) rfl (by decide),
  f_iload_n (n := 3) (e_dx DX0_serve_2 2 rfl) rfl,
  f_iaload (e_dx DX0_serve_2 3 rfl),
  f_g14 (e_dx DX0_serve_2 4 rfl),
  f_aload_n (n := 0) (e_dx DX0_serve_2 5 rfl) rfl,
  f_getA (e_dx DX0_serve_2 6 rfl) fX0_40 rfl (by decide) (Nat.le_of_ble_eq_true rfl) rfl (by decide),
  f_getA (e_dx DX0_serve_2 7 rfl) fX0_419 rfl (by decide) (Nat.le_of_ble_eq_true rfl) rfl (by decide),
  f_iload_n (n := 3) (e_dx DX0_serve_2 8 rfl) rfl,
  f_iaload (e_dx DX0_serve_2 9 rfl),
  f_g14 (e_dx DX0_serve_2 10 rfl),
  f_iconst (e_dx DX0_serve_2 11 rfl) ⟨by decide, by decide⟩,
  x_callV (e_dx DX0_serve_2 12 rfl) mwX3_where vwX3_where cX0_422 rfl,
  f_if_ne (e_dx DX0_serve_2 13 rfl) rfl,
  f_iconst (e_dx DX0_serve_2 14 rfl) ⟨by decide, by decide⟩,
  ⟨(e_dx DX0_serve_2 15 rfl), rfl⟩,
  f_g8 (e_dx DX0_serve_2 16 rfl) ⟨by decide, by decide⟩,
  f_g19 (e_dx DX0_serve_2 17 rfl) rfl,
  f_aload_n (n := 0) (e_dx DX0_serve_2 18 rfl) rfl,
  f_getA (e_dx DX0_serve_2 19 rfl) fX0_36 rfl (by decide) (Nat.le_of_ble_eq_true rfl) rfl (by decide),
  f_iconst (e_dx DX0_serve_2 20 rfl) ⟨by decide, by decide⟩,
  x_callV (e_dx DX0_serve_2 21 rfl) mwX10_isFull vwX10_isFull cX0_200 rfl,
  f_if_eq (e_dx DX0_serve_2 22 rfl) rfl,
  f_bipush (e_dx DX0_serve_2 23 rfl) ⟨by decide, by decide⟩,
  ⟨(e_dx DX0_serve_2 24 rfl), rfl⟩,
  f_aload_n (n := 0) (e_dx DX0_serve_2 25 rfl) rfl,
  f_iconst (e_dx DX0_serve_2 26 rfl) ⟨by decide, by decide⟩,
  x_callV (e_dx DX0_serve_2 27 rfl) mwX0_make vwX0_make cX0_203 rfl,
  f_astore_n (n := 3) (e_dx DX0_serve_2 28 rfl) rfl (by decide),
  f_aload_n (n := 3) (e_dx DX0_serve_2 29 rfl) rfl,
  f_aload_n (n := 0) (e_dx DX0_serve_2 30 rfl) rfl,
  f_getA (e_dx DX0_serve_2 31 rfl) fX0_40 rfl (by decide) (Nat.le_of_ble_eq_true rfl) rfl (by decide),
  f_getf (e_dx DX0_serve_2 32 rfl) fX0_426 rfl (by decide) (by decide) (by decide),
  f_putn (e_dx DX0_serve_2 33 rfl) fX0_156 (fun q hq => by cases hq; rfl) rfl (Or.inl rfl) (by decide),
  f_aload_n (n := 3) (e_dx DX0_serve_2 34 rfl) rfl,
  f_getA (e_dx DX0_serve_2 35 rfl) fX0_179 rfl (by decide) (Nat.le_of_ble_eq_true rfl) rfl (by decide),
  f_iload_n (n := 1) (e_dx DX0_serve_2 36 rfl) rfl,
  x_callV (e_dx DX0_serve_2 37 rfl) mwX8_add vwX8_add cX0_288 rfl,
  f_aload_n (n := 3) (e_dx DX0_serve_2 38 rfl) rfl,
  f_getA (e_dx DX0_serve_2 39 rfl) fX0_293 rfl (by decide) (Nat.le_of_ble_eq_true rfl) rfl (by decide),
  f_iload_n (n := 2) (e_dx DX0_serve_3 0 rfl) rfl,
  x_callV (e_dx DX0_serve_3 1 rfl) mwX8_add vwX8_add cX0_288 rfl,
  f_iconst (e_dx DX0_serve_3 2 rfl) ⟨by decide, by decide⟩,
  ⟨(e_dx DX0_serve_3 3 rfl), rfl⟩, trivial⟩
def lX0_serve (c_X0_areOwnersAble : Int → e_M → (Int → Prop) → Prop) (c_X0_isBarred : Int → Int → e_M → (Int → Prop) → Prop) (c_X10_lot : Nat → Int → e_M → (Nat → Prop) → Prop) (c_X3_where : Nat → Int → Int → Int → e_M → (Int → Prop) → Prop) (c_X10_isFull : Nat → Int → e_M → (Int → Prop) → Prop) (c_X0_make : Int → e_M → (Nat → e_M → Prop) → Prop) (c_X8_add : Nat → Int → e_M → (e_M → Prop) → Prop) : List (Nat × f_Wt) := [(0, f_wm [(4433, 0, 7), (1, 0, 0)] (fun ar M R => c_X0_areOwnersAble (f_vi (f_nth ar 1)) M (fun r => R (some (.inl r)) M))), (1, f_wm [(4433, 0, 7), (1, 0, 0), (1, 0, 0)] (fun ar M R => c_X0_isBarred (f_vi (f_nth ar 1)) (f_vi (f_nth ar 2)) M (fun r => R (some (.inl r)) M))), (2, f_wm [(3, 10, 15), (1, 0, 0)] (fun ar M R => c_X10_lot (f_va (f_nth ar 0)) (f_vi (f_nth ar 1)) M (fun r => R (some (.inr (.inr (.inl (4, 9, r))))) M))), (3, f_wm [(3, 3, 3), (2, 0, 0), (2, 0, 0), (1, 0, 0)] (fun ar M R => c_X3_where (f_va (f_nth ar 0)) (f_vi (f_nth ar 1)) (f_vi (f_nth ar 2)) (f_vi (f_nth ar 3)) M (fun r => R (some (.inl r)) M))), (4, f_wm [(3, 10, 15), (1, 0, 0)] (fun ar M R => c_X10_isFull (f_va (f_nth ar 0)) (f_vi (f_nth ar 1)) M (fun r => R (some (.inl r)) M))), (5, f_wm [(4433, 0, 7), (1, 0, 0)] (fun ar M R => c_X0_make (f_vi (f_nth ar 1)) M (fun r M => R (some (.inr (.inr (.inl (9, 14, r))))) M))), (6, f_wm [(3, 8, 2), (1, 0, 0)] (fun ar M R => c_X8_add (f_va (f_nth ar 0)) (f_vi (f_nth ar 1)) M (fun M => R none M)))]
set_option maxRecDepth 20000 in
theorem BX0_serve_45 {sh : Nat → Nat × Nat} {t : Nat} {rm : Nat × Nat × Nat} {cs : Nat × Nat} {R : f_Rt} {c_X0_areOwnersAble : Int → e_M → (Int → Prop) → Prop} {c_X0_isBarred : Int → Int → e_M → (Int → Prop) → Prop} {c_X10_lot : Nat → Int → e_M → (Nat → Prop) → Prop} {c_X3_where : Nat → Int → Int → Int → e_M → (Int → Prop) → Prop} {c_X10_isFull : Nat → Int → e_M → (Int → Prop) → Prop} {c_X0_make : Int → e_M → (Nat → e_M → Prop) → Prop} {c_X8_add : Nat → Int → e_M → (e_M → Prop) → Prop} {k62 : Int → Int → Int → Int → Int → e_M → Prop} {x1 : Int} {x2 : Int} {x3 : Int} {M : e_M} (C : f_Hy sh t yX0_serve rm cs 8 (lX0_serve c_X0_areOwnersAble c_X0_isBarred c_X10_lot c_X3_where c_X10_isFull c_X0_make c_X8_add) R) (h62 : ∀ (x1 : Int) (x2 : Int) (x3 : Int) (x4 : Int) (x5 : Int) (M : e_M), k62 x1 x2 x3 x4 x5 M → f_E sh t YX0_serve rm cs (f_Q sh t R) 62 [.inr (.inr (.inl (0, 7, 4423))), .inl x1, .inl x2, .inl x3, .inl x4, .inl x5] [] M) (h : VX0_serve_45 c_X0_areOwnersAble c_X0_isBarred c_X10_lot c_X3_where c_X10_isFull c_X0_make c_X8_add k62 (fun r M => R (some (.inl r)) M) x1 x2 x3 M) : f_E sh t YX0_serve rm cs (f_Q sh t R) 45 [.inr (.inr (.inl (0, 7, 4423))), .inl x1, .inl x2, .inl x3, .inr (.inr (.inr ())), .inr (.inr (.inr ()))] [] M :=
  f_go (KC := f_kc [(62, f_pl [(4433, 0, 7), (1, 0, 0), (1, 0, 0), (1, 0, 0), (1, 0, 0), (1, 0, 0)] [] (fun ls st M => k62 (f_vi (f_nth ls 1)) (f_vi (f_nth ls 2)) (f_vi (f_nth ls 3)) (f_vi (f_nth ls 4)) (f_vi (f_nth ls 5)) M))]) C qX0_servef (f_kc_cons (f_pl_ok rfl (fun ls st M h => h62 _ _ _ _ _ M h)) f_kc_nil) 131 31 h
set_option maxRecDepth 20000 in
theorem BX0_serve_62 {sh : Nat → Nat × Nat} {t : Nat} {rm : Nat × Nat × Nat} {cs : Nat × Nat} {R : f_Rt} {c_X0_areOwnersAble : Int → e_M → (Int → Prop) → Prop} {c_X0_isBarred : Int → Int → e_M → (Int → Prop) → Prop} {c_X10_lot : Nat → Int → e_M → (Nat → Prop) → Prop} {c_X3_where : Nat → Int → Int → Int → e_M → (Int → Prop) → Prop} {c_X10_isFull : Nat → Int → e_M → (Int → Prop) → Prop} {c_X0_make : Int → e_M → (Nat → e_M → Prop) → Prop} {c_X8_add : Nat → Int → e_M → (e_M → Prop) → Prop} {k45 : Int → Int → Int → e_M → Prop} {k117 : Int → Int → Int → Int → e_M → Prop} {k121 : Int → Int → Int → Int → e_M → Prop} {x1 : Int} {x2 : Int} {x3 : Int} {x4 : Int} {x5 : Int} {M : e_M} (C : f_Hy sh t yX0_serve rm cs 8 (lX0_serve c_X0_areOwnersAble c_X0_isBarred c_X10_lot c_X3_where c_X10_isFull c_X0_make c_X8_add) R) (h45 : ∀ (x1 : Int) (x2 : Int) (x3 : Int) (M : e_M), k45 x1 x2 x3 M → f_E sh t YX0_serve rm cs (f_Q sh t R) 45 [.inr (.inr (.inl (0, 7, 4423))), .inl x1, .inl x2, .inl x3, .inr (.inr (.inr ())), .inr (.inr (.inr ()))] [] M) (h117 : ∀ (x1 : Int) (x2 : Int) (x3 : Int) (x5 : Int) (M : e_M), k117 x1 x2 x3 x5 M → f_E sh t YX0_serve rm cs (f_Q sh t R) 117 [.inr (.inr (.inl (0, 7, 4423))), .inl x1, .inl x2, .inl x3, .inr (.inr (.inr ())), .inl x5] [] M) (h121 : ∀ (x1 : Int) (x2 : Int) (x3 : Int) (x5 : Int) (M : e_M), k121 x1 x2 x3 x5 M → f_E sh t YX0_serve rm cs (f_Q sh t R) 121 [.inr (.inr (.inl (0, 7, 4423))), .inl x1, .inl x2, .inl x3, .inr (.inr (.inr ())), .inl x5] [] M) (h : VX0_serve_62 c_X0_areOwnersAble c_X0_isBarred c_X10_lot c_X3_where c_X10_isFull c_X0_make c_X8_add k45 k117 k121 (fun r M => R (some (.inl r)) M) x1 x2 x3 x4 x5 M) : f_E sh t YX0_serve rm cs (f_Q sh t R) 62 [.inr (.inr (.inl (0, 7, 4423))), .inl x1, .inl x2, .inl x3, .inl x4, .inl x5] [] M :=
  f_go (KC := f_kc [(45, f_pl [(4433, 0, 7), (1, 0, 0), (1, 0, 0), (1, 0, 0), (0, 0, 0), (0, 0, 0)] [] (fun ls st M => k45 (f_vi (f_nth ls 1)) (f_vi (f_nth ls 2)) (f_vi (f_nth ls 3)) M)), (117, f_pl [(4433, 0, 7), (1, 0, 0), (1, 0, 0), (1, 0, 0), (0, 0, 0), (1, 0, 0)] [] (fun ls st M => k117 (f_vi (f_nth ls 1)) (f_vi (f_nth ls 2)) (f_vi (f_nth ls 3)) (f_vi (f_nth ls 5)) M)), (121, f_pl [(4433, 0, 7), (1, 0, 0), (1, 0, 0), (1, 0, 0), (0, 0, 0), (1, 0, 0)] [] (fun ls st M => k121 (f_vi (f_nth ls 1)) (f_vi (f_nth ls 2)) (f_vi (f_nth ls 3)) (f_vi (f_nth ls 5)) M))]) C qX0_servef (f_kc_cons (f_pl_ok rfl (fun ls st M h => h45 _ _ _ M h)) (f_kc_cons (f_pl_ok rfl (fun ls st M h => h117 _ _ _ _ M h)) (f_kc_cons (f_pl_ok rfl (fun ls st M h => h121 _ _ _ _ M h)) f_kc_nil))) 131 41 h
set_option maxRecDepth 20000 in
theorem BX0_serve_117 {sh : Nat → Nat × Nat} {t : Nat} {rm : Nat × Nat × Nat} {cs : Nat × Nat} {R : f_Rt} {c_X0_areOwnersAble : Int → e_M → (Int → Prop) → Prop} {c_X0_isBarred : Int → Int → e_M → (Int → Prop) → Prop} {c_X10_lot : Nat → Int → e_M → (Nat → Prop) → Prop} {c_X3_where : Nat → Int → Int → Int → e_M → (Int → Prop) → Prop} {c_X10_isFull : Nat → Int → e_M → (Int → Prop) → Prop} {c_X0_make : Int → e_M → (Nat → e_M → Prop) → Prop} {c_X8_add : Nat → Int → e_M → (e_M → Prop) → Prop} {k122 : Int → Int → Int → Int → Int → e_M → Prop} {x1 : Int} {x2 : Int} {x3 : Int} {x5 : Int} {M : e_M} (C : f_Hy sh t yX0_serve rm cs 8 (lX0_serve c_X0_areOwnersAble c_X0_isBarred c_X10_lot c_X3_where c_X10_isFull c_X0_make c_X8_add) R) (h122 : ∀ (x1 : Int) (x2 : Int) (x3 : Int) (x5 : Int) (xs0 : Int) (M : e_M), k122 x1 x2 x3 x5 xs0 M → f_E sh t YX0_serve rm cs (f_Q sh t R) 122 [.inr (.inr (.inl (0, 7, 4423))), .inl x1, .inl x2, .inl x3, .inr (.inr (.inr ())), .inl x5] [.inl xs0] M) (h : VX0_serve_117 c_X0_areOwnersAble c_X0_isBarred c_X10_lot c_X3_where c_X10_isFull c_X0_make c_X8_add k122 (fun r M => R (some (.inl r)) M) x1 x2 x3 x5 M) : f_E sh t YX0_serve rm cs (f_Q sh t R) 117 [.inr (.inr (.inl (0, 7, 4423))), .inl x1, .inl x2, .inl x3, .inr (.inr (.inr ())), .inl x5] [] M :=
  f_go (KC := f_kc [(122, f_pl [(4433, 0, 7), (1, 0, 0), (1, 0, 0), (1, 0, 0), (0, 0, 0), (1, 0, 0)] [(1, 0, 0)] (fun ls st M => k122 (f_vi (f_nth ls 1)) (f_vi (f_nth ls 2)) (f_vi (f_nth ls 3)) (f_vi (f_nth ls 5)) (f_vi (f_nth st 0)) M))]) C qX0_servef (f_kc_cons (f_pl_ok rfl (fun ls st M h => h122 _ _ _ _ _ M h)) f_kc_nil) 131 69 h
set_option maxRecDepth 20000 in
theorem BX0_serve_121 {sh : Nat → Nat × Nat} {t : Nat} {rm : Nat × Nat × Nat} {cs : Nat × Nat} {R : f_Rt} {c_X0_areOwnersAble : Int → e_M → (Int → Prop) → Prop} {c_X0_isBarred : Int → Int → e_M → (Int → Prop) → Prop} {c_X10_lot : Nat → Int → e_M → (Nat → Prop) → Prop} {c_X3_where : Nat → Int → Int → Int → e_M → (Int → Prop) → Prop} {c_X10_isFull : Nat → Int → e_M → (Int → Prop) → Prop} {c_X0_make : Int → e_M → (Nat → e_M → Prop) → Prop} {c_X8_add : Nat → Int → e_M → (e_M → Prop) → Prop} {k122 : Int → Int → Int → Int → Int → e_M → Prop} {x1 : Int} {x2 : Int} {x3 : Int} {x5 : Int} {M : e_M} (C : f_Hy sh t yX0_serve rm cs 8 (lX0_serve c_X0_areOwnersAble c_X0_isBarred c_X10_lot c_X3_where c_X10_isFull c_X0_make c_X8_add) R) (h122 : ∀ (x1 : Int) (x2 : Int) (x3 : Int) (x5 : Int) (xs0 : Int) (M : e_M), k122 x1 x2 x3 x5 xs0 M → f_E sh t YX0_serve rm cs (f_Q sh t R) 122 [.inr (.inr (.inl (0, 7, 4423))), .inl x1, .inl x2, .inl x3, .inr (.inr (.inr ())), .inl x5] [.inl xs0] M) (h : VX0_serve_121 c_X0_areOwnersAble c_X0_isBarred c_X10_lot c_X3_where c_X10_isFull c_X0_make c_X8_add k122 (fun r M => R (some (.inl r)) M) x1 x2 x3 x5 M) : f_E sh t YX0_serve rm cs (f_Q sh t R) 121 [.inr (.inr (.inl (0, 7, 4423))), .inl x1, .inl x2, .inl x3, .inr (.inr (.inr ())), .inl x5] [] M :=
  f_go (KC := f_kc [(122, f_pl [(4433, 0, 7), (1, 0, 0), (1, 0, 0), (1, 0, 0), (0, 0, 0), (1, 0, 0)] [(1, 0, 0)] (fun ls st M => k122 (f_vi (f_nth ls 1)) (f_vi (f_nth ls 2)) (f_vi (f_nth ls 3)) (f_vi (f_nth ls 5)) (f_vi (f_nth st 0)) M))]) C qX0_servef (f_kc_cons (f_pl_ok rfl (fun ls st M h => h122 _ _ _ _ _ M h)) f_kc_nil) 131 72 h
set_option maxRecDepth 20000 in
theorem BX0_serve_122 {sh : Nat → Nat × Nat} {t : Nat} {rm : Nat × Nat × Nat} {cs : Nat × Nat} {R : f_Rt} {c_X0_areOwnersAble : Int → e_M → (Int → Prop) → Prop} {c_X0_isBarred : Int → Int → e_M → (Int → Prop) → Prop} {c_X10_lot : Nat → Int → e_M → (Nat → Prop) → Prop} {c_X3_where : Nat → Int → Int → Int → e_M → (Int → Prop) → Prop} {c_X10_isFull : Nat → Int → e_M → (Int → Prop) → Prop} {c_X0_make : Int → e_M → (Nat → e_M → Prop) → Prop} {c_X8_add : Nat → Int → e_M → (e_M → Prop) → Prop} {k62 : Int → Int → Int → Int → Int → e_M → Prop} {x1 : Int} {x2 : Int} {x3 : Int} {x5 : Int} {xs0 : Int} {M : e_M} (C : f_Hy sh t yX0_serve rm cs 8 (lX0_serve c_X0_areOwnersAble c_X0_isBarred c_X10_lot c_X3_where c_X10_isFull c_X0_make c_X8_add) R) (h62 : ∀ (x1 : Int) (x2 : Int) (x3 : Int) (x4 : Int) (x5 : Int) (M : e_M), k62 x1 x2 x3 x4 x5 M → f_E sh t YX0_serve rm cs (f_Q sh t R) 62 [.inr (.inr (.inl (0, 7, 4423))), .inl x1, .inl x2, .inl x3, .inl x4, .inl x5] [] M) (h : VX0_serve_122 c_X0_areOwnersAble c_X0_isBarred c_X10_lot c_X3_where c_X10_isFull c_X0_make c_X8_add k62 (fun r M => R (some (.inl r)) M) x1 x2 x3 x5 xs0 M) : f_E sh t YX0_serve rm cs (f_Q sh t R) 122 [.inr (.inr (.inl (0, 7, 4423))), .inl x1, .inl x2, .inl x3, .inr (.inr (.inr ())), .inl x5] [.inl xs0] M :=
  f_go (KC := f_kc [(62, f_pl [(4433, 0, 7), (1, 0, 0), (1, 0, 0), (1, 0, 0), (1, 0, 0), (1, 0, 0)] [] (fun ls st M => k62 (f_vi (f_nth ls 1)) (f_vi (f_nth ls 2)) (f_vi (f_nth ls 3)) (f_vi (f_nth ls 4)) (f_vi (f_nth ls 5)) M))]) C qX0_servef (f_kc_cons (f_pl_ok rfl (fun ls st M h => h62 _ _ _ _ _ M h)) f_kc_nil) 131 74 h
set_option maxRecDepth 20000 in
theorem BX0_serve {sh : Nat → Nat × Nat} {t : Nat} {rm : Nat × Nat × Nat} {cs : Nat × Nat} {R : f_Rt} {c_X0_areOwnersAble : Int → e_M → (Int → Prop) → Prop} {c_X0_isBarred : Int → Int → e_M → (Int → Prop) → Prop} {c_X10_lot : Nat → Int → e_M → (Nat → Prop) → Prop} {c_X3_where : Nat → Int → Int → Int → e_M → (Int → Prop) → Prop} {c_X10_isFull : Nat → Int → e_M → (Int → Prop) → Prop} {c_X0_make : Int → e_M → (Nat → e_M → Prop) → Prop} {c_X8_add : Nat → Int → e_M → (e_M → Prop) → Prop} {k45 : Int → Int → Int → e_M → Prop} {M : e_M} (C : f_Hy sh t yX0_serve rm cs 8 (lX0_serve c_X0_areOwnersAble c_X0_isBarred c_X10_lot c_X3_where c_X10_isFull c_X0_make c_X8_add) R) (h45 : ∀ (x1 : Int) (x2 : Int) (x3 : Int) (M : e_M), k45 x1 x2 x3 M → f_E sh t YX0_serve rm cs (f_Q sh t R) 45 [.inr (.inr (.inl (0, 7, 4423))), .inl x1, .inl x2, .inl x3, .inr (.inr (.inr ())), .inr (.inr (.inr ()))] [] M) (h : VX0_serve c_X0_areOwnersAble c_X0_isBarred c_X10_lot c_X3_where c_X10_isFull c_X0_make c_X8_add k45 (fun r M => R (some (.inl r)) M) M) : f_E sh t YX0_serve rm cs (f_Q sh t R) 0 [.inr (.inr (.inl (0, 7, 4423))), .inr (.inr (.inr ())), .inr (.inr (.inr ())), .inr (.inr (.inr ())), .inr (.inr (.inr ())), .inr (.inr (.inr ()))] [] M :=
  f_go (KC := f_kc [(45, f_pl [(4433, 0, 7), (1, 0, 0), (1, 0, 0), (1, 0, 0), (0, 0, 0), (0, 0, 0)] [] (fun ls st M => k45 (f_vi (f_nth ls 1)) (f_vi (f_nth ls 2)) (f_vi (f_nth ls 3)) M))]) C qX0_servef (f_kc_cons (f_pl_ok rfl (fun ls st M h => h45 _ _ _ M h)) f_kc_nil) 131 0 h
def WX0_serve_122 (H45 : Int → Int → Int → e_M → Prop) (H62 : Int → Int → Int → Int → Int → e_M → Prop) (Q : Int → e_M → Prop) (x1 : Int) (x2 : Int) (x3 : Int) (x5 : Int) (xs0 : Int) (M : e_M) : Prop :=
  VX0_serve_122 WX0_areOwnersAble WX0_isBarred WX10_lot WX3_where WX10_isFull WX0_make WX8_add H62 Q x1 x2 x3 x5 xs0 M
def WX0_serve_117 (H45 : Int → Int → Int → e_M → Prop) (H62 : Int → Int → Int → Int → Int → e_M → Prop) (Q : Int → e_M → Prop) (x1 : Int) (x2 : Int) (x3 : Int) (x5 : Int) (M : e_M) : Prop :=
  VX0_serve_117 WX0_areOwnersAble WX0_isBarred WX10_lot WX3_where WX10_isFull WX0_make WX8_add (WX0_serve_122 H45 H62 Q) Q x1 x2 x3 x5 M
def WX0_serve_121 (H45 : Int → Int → Int → e_M → Prop) (H62 : Int → Int → Int → Int → Int → e_M → Prop) (Q : Int → e_M → Prop) (x1 : Int) (x2 : Int) (x3 : Int) (x5 : Int) (M : e_M) : Prop :=
  VX0_serve_121 WX0_areOwnersAble WX0_isBarred WX10_lot WX3_where WX10_isFull WX0_make WX8_add (WX0_serve_122 H45 H62 Q) Q x1 x2 x3 x5 M
def WX0_serve_62 (H45 : Int → Int → Int → e_M → Prop) (Q : Int → e_M → Prop) : Nat → Int → Int → Int → Int → Int → e_M → Prop
  | 0, _, _, _, _, _, _ => False
  | n + 1, x1, x2, x3, x4, x5, M =>
    VX0_serve_62 WX0_areOwnersAble WX0_isBarred WX10_lot WX3_where WX10_isFull WX0_make WX8_add H45 (WX0_serve_117 H45 (WX0_serve_62 H45 Q n) Q) (WX0_serve_121 H45 (WX0_serve_62 H45 Q n) Q) Q x1 x2 x3 x4 x5 M
def WX0_serve_45 (Q : Int → e_M → Prop) : Nat → Int → Int → Int → e_M → Prop
  | 0, _, _, _, _ => False
  | n + 1, x1, x2, x3, M =>
    VX0_serve_45 WX0_areOwnersAble WX0_isBarred WX10_lot WX3_where WX10_isFull WX0_make WX8_add (fun x1 x2 x3 x4 x5 M => ∃ j, WX0_serve_62 (WX0_serve_45 Q n) Q j x1 x2 x3 x4 x5 M) Q x1 x2 x3 M
def WX0_serve (M : e_M) (Q : Int → e_M → Prop) : Prop :=
  VX0_serve WX0_areOwnersAble WX0_isBarred WX10_lot WX3_where WX10_isFull WX0_make WX8_add (fun x1 x2 x3 M => ∃ j, WX0_serve_45 Q j x1 x2 x3 M) Q M
theorem PX0_serve_122 {sh : Nat → Nat × Nat} {t : Nat} {rm : Nat × Nat × Nat} {cs : Nat × Nat} {R : f_Rt} {H45 : Int → Int → Int → e_M → Prop} {H62 : Int → Int → Int → Int → Int → e_M → Prop} {x1 : Int} {x2 : Int} {x3 : Int} {x5 : Int} {xs0 : Int} {M : e_M} (C : f_Hy sh t yX0_serve rm cs 8 (lX0_serve WX0_areOwnersAble WX0_isBarred WX10_lot WX3_where WX10_isFull WX0_make WX8_add) R) (g45 : ∀ (x1 : Int) (x2 : Int) (x3 : Int) (M : e_M), H45 x1 x2 x3 M → f_E sh t YX0_serve rm cs (f_Q sh t R) 45 [.inr (.inr (.inl (0, 7, 4423))), .inl x1, .inl x2, .inl x3, .inr (.inr (.inr ())), .inr (.inr (.inr ()))] [] M) (g62 : ∀ (x1 : Int) (x2 : Int) (x3 : Int) (x4 : Int) (x5 : Int) (M : e_M), H62 x1 x2 x3 x4 x5 M → f_E sh t YX0_serve rm cs (f_Q sh t R) 62 [.inr (.inr (.inl (0, 7, 4423))), .inl x1, .inl x2, .inl x3, .inl x4, .inl x5] [] M) (h : WX0_serve_122 H45 H62 (fun r M => R (some (.inl r)) M) x1 x2 x3 x5 xs0 M) : f_E sh t YX0_serve rm cs (f_Q sh t R) 122 [.inr (.inr (.inl (0, 7, 4423))), .inl x1, .inl x2, .inl x3, .inr (.inr (.inr ())), .inl x5] [.inl xs0] M :=
  BX0_serve_122 C g62 h
theorem PX0_serve_117 {sh : Nat → Nat × Nat} {t : Nat} {rm : Nat × Nat × Nat} {cs : Nat × Nat} {R : f_Rt} {H45 : Int → Int → Int → e_M → Prop} {H62 : Int → Int → Int → Int → Int → e_M → Prop} {x1 : Int} {x2 : Int} {x3 : Int} {x5 : Int} {M : e_M} (C : f_Hy sh t yX0_serve rm cs 8 (lX0_serve WX0_areOwnersAble WX0_isBarred WX10_lot WX3_where WX10_isFull WX0_make WX8_add) R) (g45 : ∀ (x1 : Int) (x2 : Int) (x3 : Int) (M : e_M), H45 x1 x2 x3 M → f_E sh t YX0_serve rm cs (f_Q sh t R) 45 [.inr (.inr (.inl (0, 7, 4423))), .inl x1, .inl x2, .inl x3, .inr (.inr (.inr ())), .inr (.inr (.inr ()))] [] M) (g62 : ∀ (x1 : Int) (x2 : Int) (x3 : Int) (x4 : Int) (x5 : Int) (M : e_M), H62 x1 x2 x3 x4 x5 M → f_E sh t YX0_serve rm cs (f_Q sh t R) 62 [.inr (.inr (.inl (0, 7, 4423))), .inl x1, .inl x2, .inl x3, .inl x4, .inl x5] [] M) (h : WX0_serve_117 H45 H62 (fun r M => R (some (.inl r)) M) x1 x2 x3 x5 M) : f_E sh t YX0_serve rm cs (f_Q sh t R) 117 [.inr (.inr (.inl (0, 7, 4423))), .inl x1, .inl x2, .inl x3, .inr (.inr (.inr ())), .inl x5] [] M :=
  BX0_serve_117 C (fun x1 x2 x3 x5 xs0 M h => PX0_serve_122 C g45 g62 h) h
theorem PX0_serve_121 {sh : Nat → Nat × Nat} {t : Nat} {rm : Nat × Nat × Nat} {cs : Nat × Nat} {R : f_Rt} {H45 : Int → Int → Int → e_M → Prop} {H62 : Int → Int → Int → Int → Int → e_M → Prop} {x1 : Int} {x2 : Int} {x3 : Int} {x5 : Int} {M : e_M} (C : f_Hy sh t yX0_serve rm cs 8 (lX0_serve WX0_areOwnersAble WX0_isBarred WX10_lot WX3_where WX10_isFull WX0_make WX8_add) R) (g45 : ∀ (x1 : Int) (x2 : Int) (x3 : Int) (M : e_M), H45 x1 x2 x3 M → f_E sh t YX0_serve rm cs (f_Q sh t R) 45 [.inr (.inr (.inl (0, 7, 4423))), .inl x1, .inl x2, .inl x3, .inr (.inr (.inr ())), .inr (.inr (.inr ()))] [] M) (g62 : ∀ (x1 : Int) (x2 : Int) (x3 : Int) (x4 : Int) (x5 : Int) (M : e_M), H62 x1 x2 x3 x4 x5 M → f_E sh t YX0_serve rm cs (f_Q sh t R) 62 [.inr (.inr (.inl (0, 7, 4423))), .inl x1, .inl x2, .inl x3, .inl x4, .inl x5] [] M) (h : WX0_serve_121 H45 H62 (fun r M => R (some (.inl r)) M) x1 x2 x3 x5 M) : f_E sh t YX0_serve rm cs (f_Q sh t R) 121 [.inr (.inr (.inl (0, 7, 4423))), .inl x1, .inl x2, .inl x3, .inr (.inr (.inr ())), .inl x5] [] M :=
  BX0_serve_121 C (fun x1 x2 x3 x5 xs0 M h => PX0_serve_122 C g45 g62 h) h
theorem PX0_serve_62 {sh : Nat → Nat × Nat} {t : Nat} {rm : Nat × Nat × Nat} {cs : Nat × Nat} {R : f_Rt} {H45 : Int → Int → Int → e_M → Prop} (C : f_Hy sh t yX0_serve rm cs 8 (lX0_serve WX0_areOwnersAble WX0_isBarred WX10_lot WX3_where WX10_isFull WX0_make WX8_add) R) (g45 : ∀ (x1 : Int) (x2 : Int) (x3 : Int) (M : e_M), H45 x1 x2 x3 M → f_E sh t YX0_serve rm cs (f_Q sh t R) 45 [.inr (.inr (.inl (0, 7, 4423))), .inl x1, .inl x2, .inl x3, .inr (.inr (.inr ())), .inr (.inr (.inr ()))] [] M) : ∀ (n : Nat) (x1 : Int) (x2 : Int) (x3 : Int) (x4 : Int) (x5 : Int) (M : e_M), WX0_serve_62 H45 (fun r M => R (some (.inl r)) M) n x1 x2 x3 x4 x5 M → f_E sh t YX0_serve rm cs (f_Q sh t R) 62 [.inr (.inr (.inl (0, 7, 4423))), .inl x1, .inl x2, .inl x3, .inl x4, .inl x5] [] M := by
  intro n
  induction n with
  | zero => intro x1 x2 x3 x4 x5 M h; exact h.elim
  | succ n ih => intro x1 x2 x3 x4 x5 M h; exact BX0_serve_62 C g45 (fun x1 x2 x3 x5 M h => PX0_serve_117 C g45 ih h) (fun x1 x2 x3 x5 M h => PX0_serve_121 C g45 ih h) h
theorem PX0_serve_45 {sh : Nat → Nat × Nat} {t : Nat} {rm : Nat × Nat × Nat} {cs : Nat × Nat} {R : f_Rt} (C : f_Hy sh t yX0_serve rm cs 8 (lX0_serve WX0_areOwnersAble WX0_isBarred WX10_lot WX3_where WX10_isFull WX0_make WX8_add) R) : ∀ (n : Nat) (x1 : Int) (x2 : Int) (x3 : Int) (M : e_M), WX0_serve_45 (fun r M => R (some (.inl r)) M) n x1 x2 x3 M → f_E sh t YX0_serve rm cs (f_Q sh t R) 45 [.inr (.inr (.inl (0, 7, 4423))), .inl x1, .inl x2, .inl x3, .inr (.inr (.inr ())), .inr (.inr (.inr ()))] [] M := by
  intro n
  induction n with
  | zero => intro x1 x2 x3 M h; exact h.elim
  | succ n ih => intro x1 x2 x3 M h; exact BX0_serve_45 C (fun x1 x2 x3 x4 x5 M ⟨j, h⟩ => PX0_serve_62 C ih j _ _ _ _ _ _ h) h
theorem PX0_serve {sh : Nat → Nat × Nat} {t : Nat} {rm : Nat × Nat × Nat} {cs : Nat × Nat} {R : f_Rt} {M : e_M} (C : f_Hy sh t yX0_serve rm cs 8 (lX0_serve WX0_areOwnersAble WX0_isBarred WX10_lot WX3_where WX10_isFull WX0_make WX8_add) R) (h : WX0_serve M (fun r M => R (some (.inl r)) M)) : f_E sh t YX0_serve rm cs (f_Q sh t R) 0 [.inr (.inr (.inl (0, 7, 4423))), .inr (.inr (.inr ())), .inr (.inr (.inr ())), .inr (.inr (.inr ())), .inr (.inr (.inr ())), .inr (.inr (.inr ()))] [] M :=
  BX0_serve C (fun x1 x2 x3 M ⟨j, h⟩ => PX0_serve_45 C j _ _ _ _ h) h
def wX0_serve : f_Wt := f_wm [(4433, 0, 7)] (fun ar M R => WX0_serve M (fun r M => R (some (.inl r)) M))
theorem TX0_serve {sh : Nat → Nat × Nat} {t : Nat} : f_Mt sh t YX0_serve 8 (wX0_serve) :=
  f_Mt_of (k := 5) (Nat.le_of_ble_eq_true rfl) rfl rfl (fun ar M R rm cs h1 h2 h3 hX h => PX0_serve ⟨Nat.le_of_ble_eq_true rfl, h1, h2, h3, ⟨(f_Mt.up (Nat.le_of_ble_eq_true rfl) TX0_areOwnersAble), (f_Mt.up (Nat.le_of_ble_eq_true rfl) TX0_isBarred), (f_Mt.up (Nat.le_of_ble_eq_true rfl) TX10_lot), (f_Mt.up (Nat.le_of_ble_eq_true rfl) TX3_where), (f_Mt.up (Nat.le_of_ble_eq_true rfl) TX10_isFull), (f_Mt.up (Nat.le_of_ble_eq_true rfl) TX0_make), (f_Mt.up (Nat.le_of_ble_eq_true rfl) TX8_add), trivial⟩, hX⟩ h)
def VX0_waive_17 (c_X10_at : Nat → Int → Int → e_M → (Nat → Prop) → Prop) (c_X8_get : Nat → Int → e_M → (Int → Prop) → Prop) (c_X0_areOwnersAble : Int → e_M → (Int → Prop) → Prop) (k17 : Nat → Int → e_M → Prop) (Q : Int → e_M → Prop) (a1 : Nat) (x2 : Int) (M : e_M) : Prop :=
  (((M ((M a1 9).toNat) 1) ≤ x2 → (((1 : Int) = 0 ∨ (1 : Int) = 1) ∧ (∀ M1 : e_M, M1 = e_up M a1 2 1 → (Q 0 M1)))) ∧ (x2 < (M ((M a1 9).toNat) 1) → (c_X8_get ((M a1 9).toNat) x2 M (fun r2 => (c_X0_areOwnersAble r2 M (fun r3 => ((¬ r3 = 0 → (k17 a1 (e_w32 (x2 + 1)) M)) ∧ (r3 = 0 → (Q 2 M)))))))))
def VX0_waive (c_X10_at : Nat → Int → Int → e_M → (Nat → Prop) → Prop) (c_X8_get : Nat → Int → e_M → (Int → Prop) → Prop) (c_X0_areOwnersAble : Int → e_M → (Int → Prop) → Prop) (k17 : Nat → Int → e_M → Prop) (Q : Int → e_M → Prop) (M : e_M) : Prop :=
  ((0 ≤ (0 : Int) ∧ (0 : Int) < 8) ∧ (c_X10_at ((M 4423 0).toNat) 3 (M 4425 ((0 : Int).toNat)) M (fun r1 => (k17 r1 0 M))))
def yX0_waive (i : Nat) : e_Y := x_get YX0_waive [YX10_at, YX8_get, YX0_areOwnersAble] i
def pX0_waivef : List x_I := [(0, 4, 1, 0, 0, 0, []), (1, 25, 0, 0, 4, 0, [(0, 10, 15), (0, 0, 0)]), (4, 0, 1, 0, 0, 3, []), (5, 4, 1, 0, 0, 0, []), (6, 25, 0, 4, 4, 0, [(0, 20, 8), (0, 1, 2)]), (9, 0, 1, 0, 0, 0, []), (10, 27, 0, 0, 0, 0, []), (11, 40, 0, 3, 12, 0, []), (14, 7, 1, 1, 0, 0, []), (15, 0, 1, 0, 0, 0, []), (16, 5, 1, 2, 0, 0, []), (17, 49, 0, 0, 0, 0, []), (17, 2, 1, 2, 0, 0, []), (18, 4, 1, 1, 0, 0, []), (19, 25, 9, 9, 4, 0, [(0, 8, 2), (0, 0, 0)]), (22, 25, 8, 1, 0, 0, []), (25, 18, 51, 3, 29, 0, []), (28, 4, 1, 0, 0, 0, []), (29, 4, 1, 1, 0, 0, []), (30, 25, 9, 9, 4, 0, [(0, 8, 2), (0, 0, 0)]), (33, 2, 1, 2, 0, 0, []), (34, 40, 1, 2, 10, 0, []), (37, 40, 2, 2, 2, 0, []), (40, 17, 45, 1, 27, 0, []), (43, 0, 1, 0, 0, 2, []), (44, 41, 0, 0, 0, 0, []), (45, 8, 0, 2, 0, 1, []), (48, 19, 17, 0, 12, 0, []), (51, 4, 1, 1, 0, 0, []), (52, 0, 1, 0, 0, 1, []), (53, 26, 9, 2, 1, 0, []), (56, 0, 1, 0, 0, 0, []), (57, 41, 0, 0, 0, 0, [])]
set_option maxRecDepth 20000 in
theorem qX0_waivef : f_all yX0_waive YX0_waive pX0_waivef :=
  ⟨f_aload_n (n := 0) (e_dx DX0_waive_0 0 rfl) rfl,
  f_getA (e_dx DX0_waive_0 1 rfl) fX0_36 rfl (by decide) (Nat.le_of_ble_eq_true rfl) rfl (by decide),
  f_iconst (e_dx DX0_waive_0 2 rfl) ⟨by decide, by decide⟩,
  f_aload_n (n := 0) (e_dx DX0_waive_0 3 rfl) rfl,
  f_getA (e_dx DX0_waive_0 4 rfl) fX0_19 rfl (by decide) (Nat.le_of_ble_eq_true rfl) rfl (by decide),
  f_iconst (e_dx DX0_waive_0 5 rfl) ⟨by decide, by decide⟩,
  f_iaload (e_dx DX0_waive_0 6 rfl),
  x_callV (e_dx DX0_waive_0 7 rfl) mwX10_at vwX10_at cX0_152 rfl,
  f_astore_n (n := 1) (e_dx DX0_waive_0 8 rfl) rfl (by decide),
  f_iconst (e_dx DX0_waive_0 9 rfl) ⟨by decide, by decide⟩,
  f_istore_n (n := 2) (e_dx DX0_waive_0 10 rfl) rfl (by decide),
  trivial,
  f_iload_n (n := 2) (e_dx DX0_waive_0 11 rfl) rfl,
  f_aload_n (n := 1) (e_dx DX0_waive_0 12 rfl) rfl,
  f_getA (e_dx DX0_waive_0 13 rfl) fX0_179 rfl (by decide) (Nat.le_of_ble_eq_true rfl) rfl (by decide),
  f_getf (e_dx DX0_waive_0 14 rfl) fX0_338 rfl (by decide) (by decide) (by decide),
  f_icmp_ge (e_dx DX0_waive_0 15 rfl) rfl,
  f_aload_n (n := 0) (e_dx DX0_waive_0 16 rfl) rfl,
  f_aload_n (n := 1) (e_dx DX0_waive_0 17 rfl) rfl,
  f_getA (e_dx DX0_waive_0 18 rfl) fX0_179 rfl (by decide) (Nat.le_of_ble_eq_true rfl) rfl (by decide),
  f_iload_n (n := 2) (e_dx DX0_waive_0 19 rfl) rfl,
  x_callV (e_dx DX0_waive_0 20 rfl) mwX8_get vwX8_get cX0_382 rfl,
  x_callV (e_dx DX0_waive_0 21 rfl) mwX0_areOwnersAble vwX0_areOwnersAble cX0_296 rfl,
  f_if_ne (e_dx DX0_waive_0 22 rfl) rfl,
  f_iconst (e_dx DX0_waive_0 23 rfl) ⟨by decide, by decide⟩,
  ⟨(e_dx DX0_waive_0 24 rfl), rfl⟩,
  f_g8 (e_dx DX0_waive_0 25 rfl) ⟨by decide, by decide⟩,
  f_g19 (e_dx DX0_waive_0 26 rfl) rfl,
  f_aload_n (n := 1) (e_dx DX0_waive_0 27 rfl) rfl,
  f_iconst (e_dx DX0_waive_0 28 rfl) ⟨by decide, by decide⟩,
  f_putn (e_dx DX0_waive_0 29 rfl) fX0_240 (fun q hq => by cases hq; rfl) rfl (Or.inr (Or.inl rfl)) (by decide),
  f_iconst (e_dx DX0_waive_0 30 rfl) ⟨by decide, by decide⟩,
  ⟨(e_dx DX0_waive_0 31 rfl), rfl⟩, trivial⟩
def lX0_waive (c_X10_at : Nat → Int → Int → e_M → (Nat → Prop) → Prop) (c_X8_get : Nat → Int → e_M → (Int → Prop) → Prop) (c_X0_areOwnersAble : Int → e_M → (Int → Prop) → Prop) : List (Nat × f_Wt) := [(0, f_wm [(3, 10, 15), (1, 0, 0), (1, 0, 0)] (fun ar M R => c_X10_at (f_va (f_nth ar 0)) (f_vi (f_nth ar 1)) (f_vi (f_nth ar 2)) M (fun r => R (some (.inr (.inr (.inl (9, 14, r))))) M))), (1, f_wm [(3, 8, 2), (1, 0, 0)] (fun ar M R => c_X8_get (f_va (f_nth ar 0)) (f_vi (f_nth ar 1)) M (fun r => R (some (.inl r)) M))), (2, f_wm [(4433, 0, 7), (1, 0, 0)] (fun ar M R => c_X0_areOwnersAble (f_vi (f_nth ar 1)) M (fun r => R (some (.inl r)) M)))]
set_option maxRecDepth 20000 in
theorem BX0_waive_17 {sh : Nat → Nat × Nat} {t : Nat} {rm : Nat × Nat × Nat} {cs : Nat × Nat} {R : f_Rt} {c_X10_at : Nat → Int → Int → e_M → (Nat → Prop) → Prop} {c_X8_get : Nat → Int → e_M → (Int → Prop) → Prop} {c_X0_areOwnersAble : Int → e_M → (Int → Prop) → Prop} {k17 : Nat → Int → e_M → Prop} {a1 : Nat} {x2 : Int} {M : e_M} (C : f_Hy sh t yX0_waive rm cs 8 (lX0_waive c_X10_at c_X8_get c_X0_areOwnersAble) R) (h17 : ∀ (a1 : Nat) (x2 : Int) (M : e_M), k17 a1 x2 M → f_E sh t YX0_waive rm cs (f_Q sh t R) 17 [.inr (.inr (.inl (0, 7, 4423))), .inr (.inr (.inl (9, 14, a1))), .inl x2] [] M) (h : VX0_waive_17 c_X10_at c_X8_get c_X0_areOwnersAble k17 (fun r M => R (some (.inl r)) M) a1 x2 M) : f_E sh t YX0_waive rm cs (f_Q sh t R) 17 [.inr (.inr (.inl (0, 7, 4423))), .inr (.inr (.inl (9, 14, a1))), .inl x2] [] M :=
  f_go (KC := f_kc [(17, f_pl [(4433, 0, 7), (3, 9, 14), (1, 0, 0)] [] (fun ls st M => k17 (f_va (f_nth ls 1)) (f_vi (f_nth ls 2)) M))]) C qX0_waivef (f_kc_cons (f_pl_ok rfl (fun ls st M h => h17 _ _ M h)) f_kc_nil) 35 12 h
set_option maxRecDepth 20000 in
theorem BX0_waive {sh : Nat → Nat × Nat} {t : Nat} {rm : Nat × Nat × Nat} {cs : Nat × Nat} {R : f_Rt} {c_X10_at : Nat → Int → Int → e_M → (Nat → Prop) → Prop} {c_X8_get : Nat → Int → e_M → (Int → Prop) → Prop} {c_X0_areOwnersAble : Int → e_M → (Int → Prop) → Prop} {k17 : Nat → Int → e_M → Prop} {M : e_M} (C : f_Hy sh t yX0_waive rm cs 8 (lX0_waive c_X10_at c_X8_get c_X0_areOwnersAble) R) (h17 : ∀ (a1 : Nat) (x2 : Int) (M : e_M), k17 a1 x2 M → f_E sh t YX0_waive rm cs (f_Q sh t R) 17 [.inr (.inr (.inl (0, 7, 4423))), .inr (.inr (.inl (9, 14, a1))), .inl x2] [] M) (h : VX0_waive c_X10_at c_X8_get c_X0_areOwnersAble k17 (fun r M => R (some (.inl r)) M) M) : f_E sh t YX0_waive rm cs (f_Q sh t R) 0 [.inr (.inr (.inl (0, 7, 4423))), .inr (.inr (.inr ())), .inr (.inr (.inr ()))] [] M :=
  f_go (KC := f_kc [(17, f_pl [(4433, 0, 7), (3, 9, 14), (1, 0, 0)] [] (fun ls st M => k17 (f_va (f_nth ls 1)) (f_vi (f_nth ls 2)) M))]) C qX0_waivef (f_kc_cons (f_pl_ok rfl (fun ls st M h => h17 _ _ M h)) f_kc_nil) 35 0 h
def WX0_waive_17 (Q : Int → e_M → Prop) : Nat → Nat → Int → e_M → Prop
  | 0, _, _, _ => False
  | n + 1, a1, x2, M =>
    VX0_waive_17 WX10_at WX8_get WX0_areOwnersAble (WX0_waive_17 Q n) Q a1 x2 M
def WX0_waive (M : e_M) (Q : Int → e_M → Prop) : Prop :=
  VX0_waive WX10_at WX8_get WX0_areOwnersAble (fun a1 x2 M => ∃ j, WX0_waive_17 Q j a1 x2 M) Q M
theorem PX0_waive_17 {sh : Nat → Nat × Nat} {t : Nat} {rm : Nat × Nat × Nat} {cs : Nat × Nat} {R : f_Rt} (C : f_Hy sh t yX0_waive rm cs 8 (lX0_waive WX10_at WX8_get WX0_areOwnersAble) R) : ∀ (n : Nat) (a1 : Nat) (x2 : Int) (M : e_M), WX0_waive_17 (fun r M => R (some (.inl r)) M) n a1 x2 M → f_E sh t YX0_waive rm cs (f_Q sh t R) 17 [.inr (.inr (.inl (0, 7, 4423))), .inr (.inr (.inl (9, 14, a1))), .inl x2] [] M := by
  intro n
  induction n with
  | zero => intro a1 x2 M h; exact h.elim
  | succ n ih => intro a1 x2 M h; exact BX0_waive_17 C ih h
theorem PX0_waive {sh : Nat → Nat × Nat} {t : Nat} {rm : Nat × Nat × Nat} {cs : Nat × Nat} {R : f_Rt} {M : e_M} (C : f_Hy sh t yX0_waive rm cs 8 (lX0_waive WX10_at WX8_get WX0_areOwnersAble) R) (h : WX0_waive M (fun r M => R (some (.inl r)) M)) : f_E sh t YX0_waive rm cs (f_Q sh t R) 0 [.inr (.inr (.inl (0, 7, 4423))), .inr (.inr (.inr ())), .inr (.inr (.inr ()))] [] M :=
  BX0_waive C (fun a1 x2 M ⟨j, h⟩ => PX0_waive_17 C j _ _ _ h) h
def wX0_waive : f_Wt := f_wm [(4433, 0, 7)] (fun ar M R => WX0_waive M (fun r M => R (some (.inl r)) M))
theorem TX0_waive {sh : Nat → Nat × Nat} {t : Nat} : f_Mt sh t YX0_waive 8 (wX0_waive) :=
  f_Mt_of (k := 2) (Nat.le_of_ble_eq_true rfl) rfl rfl (fun ar M R rm cs h1 h2 h3 hX h => PX0_waive ⟨Nat.le_of_ble_eq_true rfl, h1, h2, h3, ⟨(f_Mt.up (Nat.le_of_ble_eq_true rfl) TX10_at), (f_Mt.up (Nat.le_of_ble_eq_true rfl) TX8_get), (f_Mt.up (Nat.le_of_ble_eq_true rfl) TX0_areOwnersAble), trivial⟩, hX⟩ h)
def VX0_makeTerm (c_X0_make : Int → e_M → (Nat → e_M → Prop) → Prop) (c_X8_add : Nat → Int → e_M → (e_M → Prop) → Prop) (Q : Nat → e_M → Prop) (x1 : Int) (x2 : Int) (M : e_M) : Prop :=
  (c_X0_make x1 M (fun r1 M2 => ((0 ≤ (1 : Int) ∧ (1 : Int) < 8) ∧ (c_X8_add ((M2 r1 9).toNat) (M2 4425 ((1 : Int).toNat)) M2 (fun M3 => ((0 ≤ (2 : Int) ∧ (2 : Int) < 8) ∧ (∀ M4 : e_M, M4 = e_up M3 r1 5 (M3 4425 ((2 : Int).toNat)) → (∀ M5 : e_M, M5 = e_up M4 r1 3 x2 → (Q r1 M5)))))))))
def yX0_makeTerm (i : Nat) : e_Y := x_get YX0_makeTerm [YX0_make, YX8_add] i
def pX0_makeTermf : List x_I := [(0, 4, 1, 0, 0, 0, []), (1, 2, 1, 1, 0, 0, []), (2, 40, 0, 2, 2, 0, []), (5, 7, 1, 3, 0, 0, []), (6, 4, 1, 3, 0, 0, []), (7, 25, 9, 9, 4, 0, [(0, 8, 2), (0, 0, 0)]), (10, 4, 1, 0, 0, 0, []), (11, 25, 0, 4, 4, 0, [(0, 20, 8), (0, 1, 2)]), (14, 0, 1, 0, 0, 1, []), (15, 27, 0, 0, 0, 0, []), (16, 40, 1, 2, 10, 0, []), (19, 4, 1, 3, 0, 0, []), (20, 4, 1, 0, 0, 0, []), (21, 25, 0, 4, 4, 0, [(0, 20, 8), (0, 1, 2)]), (24, 0, 1, 0, 0, 2, []), (25, 27, 0, 0, 0, 0, []), (26, 26, 9, 5, 0, 0, []), (29, 4, 1, 3, 0, 0, []), (30, 2, 1, 2, 0, 0, []), (31, 26, 9, 3, 0, 0, []), (34, 4, 1, 3, 0, 0, []), (35, 45, 0, 0, 0, 0, [])]
set_option maxRecDepth 20000 in
theorem qX0_makeTermf : f_all yX0_makeTerm YX0_makeTerm pX0_makeTermf :=
  ⟨f_aload_n (n := 0) (e_dx DX0_makeTerm_0 0 rfl) rfl,
  f_iload_n (n := 1) (e_dx DX0_makeTerm_0 1 rfl) rfl,
  x_callV (e_dx DX0_makeTerm_0 2 rfl) mwX0_make vwX0_make cX0_203 rfl,
  f_astore_n (n := 3) (e_dx DX0_makeTerm_0 3 rfl) rfl (by decide),
  f_aload_n (n := 3) (e_dx DX0_makeTerm_0 4 rfl) rfl,
  f_getA (e_dx DX0_makeTerm_0 5 rfl) fX0_179 rfl (by decide) (Nat.le_of_ble_eq_true rfl) rfl (by decide),
  f_aload_n (n := 0) (e_dx DX0_makeTerm_0 6 rfl) rfl,
  f_getA (e_dx DX0_makeTerm_0 7 rfl) fX0_19 rfl (by decide) (Nat.le_of_ble_eq_true rfl) rfl (by decide),
  f_iconst (e_dx DX0_makeTerm_0 8 rfl) ⟨by decide, by decide⟩,
  f_iaload (e_dx DX0_makeTerm_0 9 rfl),
  x_callV (e_dx DX0_makeTerm_0 10 rfl) mwX8_add vwX8_add cX0_288 rfl,
  f_aload_n (n := 3) (e_dx DX0_makeTerm_0 11 rfl) rfl,
  f_aload_n (n := 0) (e_dx DX0_makeTerm_0 12 rfl) rfl,
  f_getA (e_dx DX0_makeTerm_0 13 rfl) fX0_19 rfl (by decide) (Nat.le_of_ble_eq_true rfl) rfl (by decide),
  f_iconst (e_dx DX0_makeTerm_0 14 rfl) ⟨by decide, by decide⟩,
  f_iaload (e_dx DX0_makeTerm_0 15 rfl),
  f_putn (e_dx DX0_makeTerm_0 16 rfl) fX0_188 (fun q hq => by cases hq; rfl) rfl (Or.inl rfl) (by decide),
  f_aload_n (n := 3) (e_dx DX0_makeTerm_0 17 rfl) rfl,
  f_iload_n (n := 2) (e_dx DX0_makeTerm_0 18 rfl) rfl,
  f_putn (e_dx DX0_makeTerm_0 19 rfl) fX0_430 (fun q hq => by cases hq; rfl) rfl (Or.inl rfl) (by decide),
  f_aload_n (n := 3) (e_dx DX0_makeTerm_0 20 rfl) rfl,
  ⟨(e_dx DX0_makeTerm_0 21 rfl), _, rfl, Or.inl ⟨_, rfl⟩⟩, trivial⟩
def lX0_makeTerm (c_X0_make : Int → e_M → (Nat → e_M → Prop) → Prop) (c_X8_add : Nat → Int → e_M → (e_M → Prop) → Prop) : List (Nat × f_Wt) := [(0, f_wm [(4433, 0, 7), (1, 0, 0)] (fun ar M R => c_X0_make (f_vi (f_nth ar 1)) M (fun r M => R (some (.inr (.inr (.inl (9, 14, r))))) M))), (1, f_wm [(3, 8, 2), (1, 0, 0)] (fun ar M R => c_X8_add (f_va (f_nth ar 0)) (f_vi (f_nth ar 1)) M (fun M => R none M)))]
set_option maxRecDepth 20000 in
theorem BX0_makeTerm {sh : Nat → Nat × Nat} {t : Nat} {rm : Nat × Nat × Nat} {cs : Nat × Nat} {R : f_Rt} {c_X0_make : Int → e_M → (Nat → e_M → Prop) → Prop} {c_X8_add : Nat → Int → e_M → (e_M → Prop) → Prop} {x1 : Int} {x2 : Int} {M : e_M} (C : f_Hy sh t yX0_makeTerm rm cs 7 (lX0_makeTerm c_X0_make c_X8_add) R) (h : VX0_makeTerm c_X0_make c_X8_add (fun r M => R (some (.inr (.inr (.inl (9, 14, r))))) M) x1 x2 M) : f_E sh t YX0_makeTerm rm cs (f_Q sh t R) 0 [.inr (.inr (.inl (0, 7, 4423))), .inl x1, .inl x2, .inr (.inr (.inr ()))] [] M :=
  f_go (KC := f_kc []) C qX0_makeTermf f_kc_nil 24 0 h
def WX0_makeTerm (x1 : Int) (x2 : Int) (M : e_M) (Q : Nat → e_M → Prop) : Prop :=
  VX0_makeTerm WX0_make WX8_add Q x1 x2 M
theorem PX0_makeTerm {sh : Nat → Nat × Nat} {t : Nat} {rm : Nat × Nat × Nat} {cs : Nat × Nat} {R : f_Rt} {x1 : Int} {x2 : Int} {M : e_M} (C : f_Hy sh t yX0_makeTerm rm cs 7 (lX0_makeTerm WX0_make WX8_add) R) (h : WX0_makeTerm x1 x2 M (fun r M => R (some (.inr (.inr (.inl (9, 14, r))))) M)) : f_E sh t YX0_makeTerm rm cs (f_Q sh t R) 0 [.inr (.inr (.inl (0, 7, 4423))), .inl x1, .inl x2, .inr (.inr (.inr ()))] [] M :=
  BX0_makeTerm C h
def wX0_makeTerm : f_Wt := f_wm [(4433, 0, 7), (1, 0, 0), (1, 0, 0)] (fun ar M R => WX0_makeTerm (f_vi (f_nth ar 1)) (f_vi (f_nth ar 2)) M (fun r M => R (some (.inr (.inr (.inl (9, 14, r))))) M))
theorem TX0_makeTerm {sh : Nat → Nat × Nat} {t : Nat} : f_Mt sh t YX0_makeTerm 7 (wX0_makeTerm) :=
  f_Mt_of (k := 1) (Nat.le_of_ble_eq_true rfl) rfl rfl (fun ar M R rm cs h1 h2 h3 hX h => PX0_makeTerm ⟨Nat.le_of_ble_eq_true rfl, h1, h2, h3, ⟨(f_Mt.up (Nat.le_of_ble_eq_true rfl) TX0_make), (f_Mt.up (Nat.le_of_ble_eq_true rfl) TX8_add), trivial⟩, hX⟩ h)
def VX0_lease_66 (c_X0_areOwnersAble : Int → e_M → (Int → Prop) → Prop) (c_X10_isAble : Nat → Int → e_M → (Int → Prop) → Prop) (c_X0_isBarred : Int → Int → e_M → (Int → Prop) → Prop) (c_X10_at : Nat → Int → Int → e_M → (Nat → Prop) → Prop) (c_X9_isThere : Nat → Int → e_M → (Int → Prop) → Prop) (c_X8_has : Nat → Int → e_M → (Int → Prop) → Prop) (c_X10_isFull : Nat → Int → e_M → (Int → Prop) → Prop) (c_X0_makeTerm : Int → Int → e_M → (Nat → e_M → Prop) → Prop) (k116 : Int → Int → e_M → Prop) (Q : Int → e_M → Prop) (x1 : Int) (x2 : Int) (M : e_M) : Prop :=
  ((0 ≤ (4 : Int) ∧ (4 : Int) < 8) ∧ (((M ((M 4423 0).toNat + 24) ((4 : Int).toNat)) ≤ x2 → (c_X10_isFull ((M 4423 0).toNat) 4 M (fun r1 => ((r1 = 0 → (c_X0_makeTerm 4 (M ((M 4423 1).toNat) 8) M (fun r2 M3 => (∀ M4 : e_M, M4 = e_up M3 r2 6 (M3 ((M3 4423 1).toNat) 9) → (Q 0 M4))))) ∧ (¬ r1 = 0 → (Q 7 M)))))) ∧ (x2 < (M ((M 4423 0).toNat + 24) ((4 : Int).toNat)) → (c_X10_at ((M 4423 0).toNat) 4 x2 M (fun r5 => (c_X9_isThere r5 (M ((M 4423 0).toNat) 11) M (fun r6 => ((r6 = 0 → (k116 x1 x2 M)) ∧ (¬ r6 = 0 → (c_X8_has ((M r5 9).toNat) x1 M (fun r7 => ((r7 = 0 → (k116 x1 x2 M)) ∧ (¬ r7 = 0 → (Q 5 M))))))))))))))
def VX0_lease_116 (c_X0_areOwnersAble : Int → e_M → (Int → Prop) → Prop) (c_X10_isAble : Nat → Int → e_M → (Int → Prop) → Prop) (c_X0_isBarred : Int → Int → e_M → (Int → Prop) → Prop) (c_X10_at : Nat → Int → Int → e_M → (Nat → Prop) → Prop) (c_X9_isThere : Nat → Int → e_M → (Int → Prop) → Prop) (c_X8_has : Nat → Int → e_M → (Int → Prop) → Prop) (c_X10_isFull : Nat → Int → e_M → (Int → Prop) → Prop) (c_X0_makeTerm : Int → Int → e_M → (Nat → e_M → Prop) → Prop) (k66 : Int → Int → e_M → Prop) (Q : Int → e_M → Prop) (x1 : Int) (x2 : Int) (M : e_M) : Prop :=
  (k66 x1 (e_w32 (x2 + 1)) M)
def VX0_lease (c_X0_areOwnersAble : Int → e_M → (Int → Prop) → Prop) (c_X10_isAble : Nat → Int → e_M → (Int → Prop) → Prop) (c_X0_isBarred : Int → Int → e_M → (Int → Prop) → Prop) (c_X10_at : Nat → Int → Int → e_M → (Nat → Prop) → Prop) (c_X9_isThere : Nat → Int → e_M → (Int → Prop) → Prop) (c_X8_has : Nat → Int → e_M → (Int → Prop) → Prop) (c_X10_isFull : Nat → Int → e_M → (Int → Prop) → Prop) (c_X0_makeTerm : Int → Int → e_M → (Nat → e_M → Prop) → Prop) (k66 : Int → Int → e_M → Prop) (Q : Int → e_M → Prop) (M : e_M) : Prop :=
  ((0 ≤ (1 : Int) ∧ (1 : Int) < 8) ∧ (((M ((M 4423 1).toNat) 4) < (M ((M 4423 1).toNat) 8) → (c_X0_areOwnersAble (M 4425 ((1 : Int).toNat)) M (fun r1 => ((r1 = 0 → (Q 2 M)) ∧ (¬ r1 = 0 → ((0 ≤ (2 : Int) ∧ (2 : Int) < 8) ∧ (c_X10_isAble ((M 4423 0).toNat) (M 4425 ((2 : Int).toNat)) M (fun r2 => ((¬ r2 = 0 → (c_X0_isBarred (M 4425 ((1 : Int).toNat)) (-1) M (fun r3 => ((r3 = 0 → (k66 (M 4425 ((1 : Int).toNat)) 0 M)) ∧ (¬ r3 = 0 → (Q 4 M)))))) ∧ (r2 = 0 → (Q 2 M))))))))))) ∧ ((M ((M 4423 1).toNat) 8) ≤ (M ((M 4423 1).toNat) 4) → (Q 8 M))))
def yX0_lease (i : Nat) : e_Y := x_get YX0_lease [YX0_areOwnersAble, YX10_isAble, YX0_isBarred, YX10_at, YX9_isThere, YX8_has, YX10_isFull, YX0_makeTerm] i
def pX0_leasef : List x_I := [(0, 4, 1, 0, 0, 0, []), (1, 25, 0, 4, 4, 0, [(0, 20, 8), (0, 1, 2)]), (4, 0, 1, 0, 0, 1, []), (5, 27, 0, 0, 0, 0, []), (6, 5, 1, 1, 0, 0, []), (7, 4, 1, 0, 0, 0, []), (8, 25, 0, 1, 4, 0, [(0, 2, 19), (0, 0, 0)]), (11, 25, 2, 8, 0, 0, []), (14, 4, 1, 0, 0, 0, []), (15, 25, 0, 1, 4, 0, [(0, 2, 19), (0, 0, 0)]), (18, 25, 2, 4, 0, 0, []), (21, 18, 27, 4, 15, 0, []), (24, 0, 2, 0, 0, 8, []), (26, 41, 0, 0, 0, 0, []), (27, 4, 1, 0, 0, 0, []), (28, 2, 1, 1, 0, 0, []), (29, 40, 0, 2, 2, 0, []), (32, 17, 51, 0, 27, 0, []), (35, 4, 1, 0, 0, 0, []), (36, 25, 0, 0, 4, 0, [(0, 10, 15), (0, 0, 0)]), (39, 4, 1, 0, 0, 0, []), (40, 25, 0, 4, 4, 0, [(0, 20, 8), (0, 1, 2)]), (43, 0, 1, 0, 0, 2, []), (44, 27, 0, 0, 0, 0, []), (45, 40, 1, 2, 12, 0, []), (48, 17, 53, 1, 29, 0, []), (51, 0, 1, 0, 0, 2, []), (52, 41, 0, 0, 0, 0, []), (53, 4, 1, 0, 0, 0, []), (54, 2, 1, 1, 0, 0, []), (55, 0, 1, 0, 0, (-1), []), (56, 40, 2, 3, 2, 0, []), (59, 17, 64, 0, 36, 0, []), (62, 0, 1, 0, 0, 4, []), (63, 41, 0, 0, 0, 0, []), (64, 0, 1, 0, 0, 0, []), (65, 5, 1, 2, 0, 0, []), (66, 49, 0, 0, 0, 0, []), (66, 2, 1, 2, 0, 0, []), (67, 4, 1, 0, 0, 0, []), (68, 25, 0, 0, 4, 0, [(0, 10, 15), (0, 0, 0)]), (71, 25, 10, 4, 4, 0, [(0, 20, 8), (0, 1, 24)]), (74, 0, 1, 0, 0, 4, []), (75, 27, 0, 0, 0, 0, []), (76, 18, 122, 3, 68, 0, []), (79, 4, 1, 0, 0, 0, []), (80, 25, 0, 0, 4, 0, [(0, 10, 15), (0, 0, 0)]), (83, 0, 1, 0, 0, 4, []), (84, 2, 1, 2, 0, 0, []), (85, 40, 3, 3, 12, 0, []), (88, 7, 1, 3, 0, 0, []), (89, 4, 1, 3, 0, 0, []), (90, 4, 1, 0, 0, 0, []), (91, 25, 0, 0, 4, 0, [(0, 10, 15), (0, 0, 0)]), (94, 25, 10, 11, 0, 0, []), (97, 40, 4, 2, 11, 0, []), (100, 17, 116, 0, 65, 0, []), (103, 4, 1, 3, 0, 0, []), (104, 25, 9, 9, 4, 0, [(0, 8, 2), (0, 0, 0)]), (107, 2, 1, 1, 0, 0, []), (108, 40, 5, 2, 10, 0, []), (111, 17, 116, 0, 65, 0, []), (114, 0, 1, 0, 0, 5, []), (115, 41, 0, 0, 0, 0, []), (116, 49, 0, 0, 0, 0, []), (116, 8, 0, 2, 0, 1, []), (119, 19, 66, 0, 38, 0, []), (122, 4, 1, 0, 0, 0, []), (123, 25, 0, 0, 4, 0, [(0, 10, 15), (0, 0, 0)]), (126, 0, 1, 0, 0, 4, []), (127, 40, 6, 2, 12, 0, []), (130, 17, 136, 0, 75, 0, []), (133, 0, 2, 0, 0, 7, []), (135, 41, 0, 0, 0, 0, []), (136, 4, 1, 0, 0, 0, []), (137, 0, 1, 0, 0, 4, []), (138, 4, 1, 0, 0, 0, []), (139, 25, 0, 1, 4, 0, [(0, 2, 19), (0, 0, 0)]), (142, 25, 2, 8, 0, 0, []), (145, 40, 7, 3, 2, 0, []), (148, 4, 1, 0, 0, 0, []), (149, 25, 0, 1, 4, 0, [(0, 2, 19), (0, 0, 0)]), (152, 25, 2, 9, 0, 0, []), (155, 26, 9, 6, 0, 0, []), (158, 0, 1, 0, 0, 0, []), (159, 41, 0, 0, 0, 0, [])]
set_option maxRecDepth 20000 in
theorem qX0_leasef : f_all yX0_lease YX0_lease pX0_leasef :=
  ⟨f_aload_n (n := 0) (e_dx DX0_lease_0 0 rfl) rfl,
  f_getA (e_dx DX0_lease_0 1 rfl) fX0_19 rfl (by decide) (Nat.le_of_ble_eq_true rfl) rfl (by decide),
  f_iconst (e_dx DX0_lease_0 2 rfl) ⟨by decide, by decide⟩,
  f_iaload (e_dx DX0_lease_0 3 rfl),
  f_istore_n (n := 1) (e_dx DX0_lease_0 4 rfl) rfl (by decide),
  f_aload_n (n := 0) (e_dx DX0_lease_0 5 rfl) rfl,
  f_getA (e_dx DX0_lease_0 6 rfl) fX0_40 rfl (by decide) (Nat.le_of_ble_eq_true rfl) rfl (by decide),
  f_getf (e_dx DX0_lease_0 7 rfl) fX0_197 rfl (by decide) (by decide) (by decide),
  f_aload_n (n := 0) (e_dx DX0_lease_0 8 rfl) rfl,
  f_getA (e_dx DX0_lease_0 9 rfl) fX0_40 rfl (by decide) (Nat.le_of_ble_eq_true rfl) rfl (by decide),
  f_getf (e_dx DX0_lease_0 10 rfl) fX0_44 rfl (by decide) (by decide) (by decide),
  f_icmp_gt (e_dx DX0_lease_0 11 rfl) rfl,
  f_bipush (e_dx DX0_lease_0 12 rfl) ⟨by decide, by decide⟩,
  ⟨(e_dx DX0_lease_0 13 rfl), rfl⟩,
  f_aload_n (n := 0) (e_dx DX0_lease_0 14 rfl) rfl,
  f_iload_n (n := 1) (e_dx DX0_lease_0 15 rfl) rfl,
  x_callV (e_dx DX0_lease_0 16 rfl) mwX0_areOwnersAble vwX0_areOwnersAble cX0_296 rfl,
  f_if_eq (e_dx DX0_lease_0 17 rfl) rfl,
  f_aload_n (n := 0) (e_dx DX0_lease_0 18 rfl) rfl,
  f_getA (e_dx DX0_lease_0 19 rfl) fX0_36 rfl (by decide) (Nat.le_of_ble_eq_true rfl) rfl (by decide),
  f_aload_n (n := 0) (e_dx DX0_lease_0 20 rfl) rfl,
  f_getA (e_dx DX0_lease_0 21 rfl) fX0_19 rfl (by decide) (Nat.le_of_ble_eq_true rfl) rfl (by decide),
  f_iconst (e_dx DX0_lease_0 22 rfl) ⟨by decide, by decide⟩,
  f_iaload (e_dx DX0_lease_0 23 rfl),
  x_callV (e_dx DX0_lease_0 24 rfl) mwX10_isAble vwX10_isAble cX0_171 rfl,
  f_if_ne (e_dx DX0_lease_0 25 rfl) rfl,
  f_iconst (e_dx DX0_lease_0 26 rfl) ⟨by decide, by decide⟩,
  ⟨(e_dx DX0_lease_0 27 rfl), rfl⟩,
  f_aload_n (n := 0) (e_dx DX0_lease_0 28 rfl) rfl,
  f_iload_n (n := 1) (e_dx DX0_lease_0 29 rfl) rfl,
  f_iconst (e_dx DX0_lease_0 30 rfl) ⟨by decide, by decide⟩,
  x_callV (e_dx DX0_lease_0 31 rfl) mwX0_isBarred vwX0_isBarred cX0_275 rfl,
  f_if_eq (e_dx DX0_lease_0 32 rfl) rfl,
  f_iconst (e_dx DX0_lease_0 33 rfl) ⟨by decide, by decide⟩,
  ⟨(e_dx DX0_lease_0 34 rfl), rfl⟩,
  f_iconst (e_dx DX0_lease_0 35 rfl) ⟨by decide, by decide⟩,
  f_istore_n (n := 2) (e_dx DX0_lease_0 36 rfl) rfl (by decide),
  trivial,
  f_iload_n (n := 2) (e_dx DX0_lease_0 37 rfl) rfl,
  f_aload_n (n := 0) (e_dx DX0_lease_0 38 rfl) rfl,
  f_getA (e_dx DX0_lease_0 39 rfl) fX0_36 rfl (by decide) (Nat.le_of_ble_eq_true rfl) rfl (by decide),
  f_getA (e_dx DX0_lease_1 0 rfl) fX0_174 rfl (by decide) (Nat.le_of_ble_eq_true rfl) rfl (by decide),
  f_iconst (e_dx DX0_lease_1 1 rfl) ⟨by decide, by decide⟩,
  f_iaload (e_dx DX0_lease_1 2 rfl),
  f_icmp_ge (e_dx DX0_lease_1 3 rfl) rfl,
  f_aload_n (n := 0) (e_dx DX0_lease_1 4 rfl) rfl,
  f_getA (e_dx DX0_lease_1 5 rfl) fX0_36 rfl (by decide) (Nat.le_of_ble_eq_true rfl) rfl (by decide),
  f_iconst (e_dx DX0_lease_1 6 rfl) ⟨by decide, by decide⟩,
  f_iload_n (n := 2) (e_dx DX0_lease_1 7 rfl) rfl,
  x_callV (e_dx DX0_lease_1 8 rfl) mwX10_at vwX10_at cX0_152 rfl,
  f_astore_n (n := 3) (e_dx DX0_lease_1 9 rfl) rfl (by decide),
  f_aload_n (n := 3) (e_dx DX0_lease_1 10 rfl) rfl,
  f_aload_n (n := 0) (e_dx DX0_lease_1 11 rfl) rfl,
  f_getA (e_dx DX0_lease_1 12 rfl) fX0_36 rfl (by decide) (Nat.le_of_ble_eq_true rfl) rfl (by decide),
  f_getf (e_dx DX0_lease_1 13 rfl) fX0_49 rfl (by decide) (by decide) (by decide),
  x_callV (e_dx DX0_lease_1 14 rfl) mwX9_isThere vwX9_isThere cX0_177 rfl,
  f_if_eq (e_dx DX0_lease_1 15 rfl) rfl,
  f_aload_n (n := 3) (e_dx DX0_lease_1 16 rfl) rfl,
  f_getA (e_dx DX0_lease_1 17 rfl) fX0_179 rfl (by decide) (Nat.le_of_ble_eq_true rfl) rfl (by decide),
  f_iload_n (n := 1) (e_dx DX0_lease_1 18 rfl) rfl,
  x_callV (e_dx DX0_lease_1 19 rfl) mwX8_has vwX8_has cX0_183 rfl,
  f_if_eq (e_dx DX0_lease_1 20 rfl) rfl,
  f_iconst (e_dx DX0_lease_1 21 rfl) ⟨by decide, by decide⟩,
  ⟨(e_dx DX0_lease_1 22 rfl), rfl⟩,
  trivial,
  f_g8 (e_dx DX0_lease_1 23 rfl) ⟨by decide, by decide⟩,
  f_g19 (e_dx DX0_lease_1 24 rfl) rfl,
  f_aload_n (n := 0) (e_dx DX0_lease_1 25 rfl) rfl,
  f_getA (e_dx DX0_lease_1 26 rfl) fX0_36 rfl (by decide) (Nat.le_of_ble_eq_true rfl) rfl (by decide),
  f_iconst (e_dx DX0_lease_1 27 rfl) ⟨by decide, by decide⟩,
  x_callV (e_dx DX0_lease_1 28 rfl) mwX10_isFull vwX10_isFull cX0_200 rfl,
  f_if_eq (e_dx DX0_lease_1 29 rfl) rfl,
  f_bipush (e_dx DX0_lease_1 30 rfl) ⟨by decide, by decide⟩,
  ⟨(e_dx DX0_lease_1 31 rfl), rfl⟩,
  f_aload_n (n := 0) (e_dx DX0_lease_1 32 rfl) rfl,
  f_iconst (e_dx DX0_lease_1 33 rfl) ⟨by decide, by decide⟩,
  f_aload_n (n := 0) (e_dx DX0_lease_1 34 rfl) rfl,
  f_getA (e_dx DX0_lease_1 35 rfl) fX0_40 rfl (by decide) (Nat.le_of_ble_eq_true rfl) rfl (by decide),
  f_getf (e_dx DX0_lease_1 36 rfl) fX0_197 rfl (by decide) (by decide) (by decide),
  x_callV (e_dx DX0_lease_1 37 rfl) mwX0_makeTerm vwX0_makeTerm cX0_427 rfl,
  f_aload_n (n := 0) (e_dx DX0_lease_1 38 rfl) rfl,
  f_getA (e_dx DX0_lease_1 39 rfl) fX0_40 rfl (by decide) (Nat.le_of_ble_eq_true rfl) rfl (by decide),
  f_getf (e_dx DX0_lease_2 0 rfl) fX0_278 rfl (by decide) (by decide) (by decide),
  f_putn (e_dx DX0_lease_2 1 rfl) fX0_211 (fun q hq => by cases hq; rfl) rfl (Or.inl rfl) (by decide),
  f_iconst (e_dx DX0_lease_2 2 rfl) ⟨by decide, by decide⟩,
  ⟨(e_dx DX0_lease_2 3 rfl), rfl⟩, trivial⟩
def lX0_lease (c_X0_areOwnersAble : Int → e_M → (Int → Prop) → Prop) (c_X10_isAble : Nat → Int → e_M → (Int → Prop) → Prop) (c_X0_isBarred : Int → Int → e_M → (Int → Prop) → Prop) (c_X10_at : Nat → Int → Int → e_M → (Nat → Prop) → Prop) (c_X9_isThere : Nat → Int → e_M → (Int → Prop) → Prop) (c_X8_has : Nat → Int → e_M → (Int → Prop) → Prop) (c_X10_isFull : Nat → Int → e_M → (Int → Prop) → Prop) (c_X0_makeTerm : Int → Int → e_M → (Nat → e_M → Prop) → Prop) : List (Nat × f_Wt) := [(0, f_wm [(4433, 0, 7), (1, 0, 0)] (fun ar M R => c_X0_areOwnersAble (f_vi (f_nth ar 1)) M (fun r => R (some (.inl r)) M))), (1, f_wm [(3, 10, 15), (1, 0, 0)] (fun ar M R => c_X10_isAble (f_va (f_nth ar 0)) (f_vi (f_nth ar 1)) M (fun r => R (some (.inl r)) M))), (2, f_wm [(4433, 0, 7), (1, 0, 0), (1, 0, 0)] (fun ar M R => c_X0_isBarred (f_vi (f_nth ar 1)) (f_vi (f_nth ar 2)) M (fun r => R (some (.inl r)) M))), (3, f_wm [(3, 10, 15), (1, 0, 0), (1, 0, 0)] (fun ar M R => c_X10_at (f_va (f_nth ar 0)) (f_vi (f_nth ar 1)) (f_vi (f_nth ar 2)) M (fun r => R (some (.inr (.inr (.inl (9, 14, r))))) M))), (4, f_wm [(3, 9, 14), (1, 0, 0)] (fun ar M R => c_X9_isThere (f_va (f_nth ar 0)) (f_vi (f_nth ar 1)) M (fun r => R (some (.inl r)) M))), (5, f_wm [(3, 8, 2), (1, 0, 0)] (fun ar M R => c_X8_has (f_va (f_nth ar 0)) (f_vi (f_nth ar 1)) M (fun r => R (some (.inl r)) M))), (6, f_wm [(3, 10, 15), (1, 0, 0)] (fun ar M R => c_X10_isFull (f_va (f_nth ar 0)) (f_vi (f_nth ar 1)) M (fun r => R (some (.inl r)) M))), (7, f_wm [(4433, 0, 7), (1, 0, 0), (1, 0, 0)] (fun ar M R => c_X0_makeTerm (f_vi (f_nth ar 1)) (f_vi (f_nth ar 2)) M (fun r M => R (some (.inr (.inr (.inl (9, 14, r))))) M)))]
set_option maxRecDepth 20000 in
theorem BX0_lease_66 {sh : Nat → Nat × Nat} {t : Nat} {rm : Nat × Nat × Nat} {cs : Nat × Nat} {R : f_Rt} {c_X0_areOwnersAble : Int → e_M → (Int → Prop) → Prop} {c_X10_isAble : Nat → Int → e_M → (Int → Prop) → Prop} {c_X0_isBarred : Int → Int → e_M → (Int → Prop) → Prop} {c_X10_at : Nat → Int → Int → e_M → (Nat → Prop) → Prop} {c_X9_isThere : Nat → Int → e_M → (Int → Prop) → Prop} {c_X8_has : Nat → Int → e_M → (Int → Prop) → Prop} {c_X10_isFull : Nat → Int → e_M → (Int → Prop) → Prop} {c_X0_makeTerm : Int → Int → e_M → (Nat → e_M → Prop) → Prop} {k116 : Int → Int → e_M → Prop} {x1 : Int} {x2 : Int} {M : e_M} (C : f_Hy sh t yX0_lease rm cs 8 (lX0_lease c_X0_areOwnersAble c_X10_isAble c_X0_isBarred c_X10_at c_X9_isThere c_X8_has c_X10_isFull c_X0_makeTerm) R) (h116 : ∀ (x1 : Int) (x2 : Int) (M : e_M), k116 x1 x2 M → f_E sh t YX0_lease rm cs (f_Q sh t R) 116 [.inr (.inr (.inl (0, 7, 4423))), .inl x1, .inl x2, .inr (.inr (.inr ()))] [] M) (h : VX0_lease_66 c_X0_areOwnersAble c_X10_isAble c_X0_isBarred c_X10_at c_X9_isThere c_X8_has c_X10_isFull c_X0_makeTerm k116 (fun r M => R (some (.inl r)) M) x1 x2 M) : f_E sh t YX0_lease rm cs (f_Q sh t R) 66 [.inr (.inr (.inl (0, 7, 4423))), .inl x1, .inl x2, .inr (.inr (.inr ()))] [] M :=
  f_go (KC := f_kc [(116, f_pl [(4433, 0, 7), (1, 0, 0), (1, 0, 0), (0, 0, 0)] [] (fun ls st M => k116 (f_vi (f_nth ls 1)) (f_vi (f_nth ls 2)) M))]) C qX0_leasef (f_kc_cons (f_pl_ok rfl (fun ls st M h => h116 _ _ M h)) f_kc_nil) 88 38 h
set_option maxRecDepth 20000 in
theorem BX0_lease_116 {sh : Nat → Nat × Nat} {t : Nat} {rm : Nat × Nat × Nat} {cs : Nat × Nat} {R : f_Rt} {c_X0_areOwnersAble : Int → e_M → (Int → Prop) → Prop} {c_X10_isAble : Nat → Int → e_M → (Int → Prop) → Prop} {c_X0_isBarred : Int → Int → e_M → (Int → Prop) → Prop} {c_X10_at : Nat → Int → Int → e_M → (Nat → Prop) → Prop} {c_X9_isThere : Nat → Int → e_M → (Int → Prop) → Prop} {c_X8_has : Nat → Int → e_M → (Int → Prop) → Prop} {c_X10_isFull : Nat → Int → e_M → (Int → Prop) → Prop} {c_X0_makeTerm : Int → Int → e_M → (Nat → e_M → Prop) → Prop} {k66 : Int → Int → e_M → Prop} {x1 : Int} {x2 : Int} {M : e_M} (C : f_Hy sh t yX0_lease rm cs 8 (lX0_lease c_X0_areOwnersAble c_X10_isAble c_X0_isBarred c_X10_at c_X9_isThere c_X8_has c_X10_isFull c_X0_makeTerm) R) (h66 : ∀ (x1 : Int) (x2 : Int) (M : e_M), k66 x1 x2 M → f_E sh t YX0_lease rm cs (f_Q sh t R) 66 [.inr (.inr (.inl (0, 7, 4423))), .inl x1, .inl x2, .inr (.inr (.inr ()))] [] M) (h : VX0_lease_116 c_X0_areOwnersAble c_X10_isAble c_X0_isBarred c_X10_at c_X9_isThere c_X8_has c_X10_isFull c_X0_makeTerm k66 (fun r M => R (some (.inl r)) M) x1 x2 M) : f_E sh t YX0_lease rm cs (f_Q sh t R) 116 [.inr (.inr (.inl (0, 7, 4423))), .inl x1, .inl x2, .inr (.inr (.inr ()))] [] M :=
  f_go (KC := f_kc [(66, f_pl [(4433, 0, 7), (1, 0, 0), (1, 0, 0), (0, 0, 0)] [] (fun ls st M => k66 (f_vi (f_nth ls 1)) (f_vi (f_nth ls 2)) M))]) C qX0_leasef (f_kc_cons (f_pl_ok rfl (fun ls st M h => h66 _ _ M h)) f_kc_nil) 88 65 h
set_option maxRecDepth 20000 in
theorem BX0_lease {sh : Nat → Nat × Nat} {t : Nat} {rm : Nat × Nat × Nat} {cs : Nat × Nat} {R : f_Rt} {c_X0_areOwnersAble : Int → e_M → (Int → Prop) → Prop} {c_X10_isAble : Nat → Int → e_M → (Int → Prop) → Prop} {c_X0_isBarred : Int → Int → e_M → (Int → Prop) → Prop} {c_X10_at : Nat → Int → Int → e_M → (Nat → Prop) → Prop} {c_X9_isThere : Nat → Int → e_M → (Int → Prop) → Prop} {c_X8_has : Nat → Int → e_M → (Int → Prop) → Prop} {c_X10_isFull : Nat → Int → e_M → (Int → Prop) → Prop} {c_X0_makeTerm : Int → Int → e_M → (Nat → e_M → Prop) → Prop} {k66 : Int → Int → e_M → Prop} {M : e_M} (C : f_Hy sh t yX0_lease rm cs 8 (lX0_lease c_X0_areOwnersAble c_X10_isAble c_X0_isBarred c_X10_at c_X9_isThere c_X8_has c_X10_isFull c_X0_makeTerm) R) (h66 : ∀ (x1 : Int) (x2 : Int) (M : e_M), k66 x1 x2 M → f_E sh t YX0_lease rm cs (f_Q sh t R) 66 [.inr (.inr (.inl (0, 7, 4423))), .inl x1, .inl x2, .inr (.inr (.inr ()))] [] M) (h : VX0_lease c_X0_areOwnersAble c_X10_isAble c_X0_isBarred c_X10_at c_X9_isThere c_X8_has c_X10_isFull c_X0_makeTerm k66 (fun r M => R (some (.inl r)) M) M) : f_E sh t YX0_lease rm cs (f_Q sh t R) 0 [.inr (.inr (.inl (0, 7, 4423))), .inr (.inr (.inr ())), .inr (.inr (.inr ())), .inr (.inr (.inr ()))] [] M :=
  f_go (KC := f_kc [(66, f_pl [(4433, 0, 7), (1, 0, 0), (1, 0, 0), (0, 0, 0)] [] (fun ls st M => k66 (f_vi (f_nth ls 1)) (f_vi (f_nth ls 2)) M))]) C qX0_leasef (f_kc_cons (f_pl_ok rfl (fun ls st M h => h66 _ _ M h)) f_kc_nil) 88 0 h
def WX0_lease_116 (H66 : Int → Int → e_M → Prop) (Q : Int → e_M → Prop) (x1 : Int) (x2 : Int) (M : e_M) : Prop :=
  VX0_lease_116 WX0_areOwnersAble WX10_isAble WX0_isBarred WX10_at WX9_isThere WX8_has WX10_isFull WX0_makeTerm H66 Q x1 x2 M
def WX0_lease_66 (Q : Int → e_M → Prop) : Nat → Int → Int → e_M → Prop
  | 0, _, _, _ => False
  | n + 1, x1, x2, M =>
    VX0_lease_66 WX0_areOwnersAble WX10_isAble WX0_isBarred WX10_at WX9_isThere WX8_has WX10_isFull WX0_makeTerm (WX0_lease_116 (WX0_lease_66 Q n) Q) Q x1 x2 M
def WX0_lease (M : e_M) (Q : Int → e_M → Prop) : Prop :=
  VX0_lease WX0_areOwnersAble WX10_isAble WX0_isBarred WX10_at WX9_isThere WX8_has WX10_isFull WX0_makeTerm (fun x1 x2 M => ∃ j, WX0_lease_66 Q j x1 x2 M) Q M
theorem PX0_lease_116 {sh : Nat → Nat × Nat} {t : Nat} {rm : Nat × Nat × Nat} {cs : Nat × Nat} {R : f_Rt} {H66 : Int → Int → e_M → Prop} {x1 : Int} {x2 : Int} {M : e_M} (C : f_Hy sh t yX0_lease rm cs 8 (lX0_lease WX0_areOwnersAble WX10_isAble WX0_isBarred WX10_at WX9_isThere WX8_has WX10_isFull WX0_makeTerm) R) (g66 : ∀ (x1 : Int) (x2 : Int) (M : e_M), H66 x1 x2 M → f_E sh t YX0_lease rm cs (f_Q sh t R) 66 [.inr (.inr (.inl (0, 7, 4423))), .inl x1, .inl x2, .inr (.inr (.inr ()))] [] M) (h : WX0_lease_116 H66 (fun r M => R (some (.inl r)) M) x1 x2 M) : f_E sh t YX0_lease rm cs (f_Q sh t R) 116 [.inr (.inr (.inl (0, 7, 4423))), .inl x1, .inl x2, .inr (.inr (.inr ()))] [] M :=
  BX0_lease_116 C g66 h
theorem PX0_lease_66 {sh : Nat → Nat × Nat} {t : Nat} {rm : Nat × Nat × Nat} {cs : Nat × Nat} {R : f_Rt} (C : f_Hy sh t yX0_lease rm cs 8 (lX0_lease WX0_areOwnersAble WX10_isAble WX0_isBarred WX10_at WX9_isThere WX8_has WX10_isFull WX0_makeTerm) R) : ∀ (n : Nat) (x1 : Int) (x2 : Int) (M : e_M), WX0_lease_66 (fun r M => R (some (.inl r)) M) n x1 x2 M → f_E sh t YX0_lease rm cs (f_Q sh t R) 66 [.inr (.inr (.inl (0, 7, 4423))), .inl x1, .inl x2, .inr (.inr (.inr ()))] [] M := by
  intro n
  induction n with
  | zero => intro x1 x2 M h; exact h.elim
  | succ n ih => intro x1 x2 M h; exact BX0_lease_66 C (fun x1 x2 M h => PX0_lease_116 C ih h) h
theorem PX0_lease {sh : Nat → Nat × Nat} {t : Nat} {rm : Nat × Nat × Nat} {cs : Nat × Nat} {R : f_Rt} {M : e_M} (C : f_Hy sh t yX0_lease rm cs 8 (lX0_lease WX0_areOwnersAble WX10_isAble WX0_isBarred WX10_at WX9_isThere WX8_has WX10_isFull WX0_makeTerm) R) (h : WX0_lease M (fun r M => R (some (.inl r)) M)) : f_E sh t YX0_lease rm cs (f_Q sh t R) 0 [.inr (.inr (.inl (0, 7, 4423))), .inr (.inr (.inr ())), .inr (.inr (.inr ())), .inr (.inr (.inr ()))] [] M :=
  BX0_lease C (fun x1 x2 M ⟨j, h⟩ => PX0_lease_66 C j _ _ _ h) h
def wX0_lease : f_Wt := f_wm [(4433, 0, 7)] (fun ar M R => WX0_lease M (fun r M => R (some (.inl r)) M))
theorem TX0_lease {sh : Nat → Nat × Nat} {t : Nat} : f_Mt sh t YX0_lease 8 (wX0_lease) :=
  f_Mt_of (k := 3) (Nat.le_of_ble_eq_true rfl) rfl rfl (fun ar M R rm cs h1 h2 h3 hX h => PX0_lease ⟨Nat.le_of_ble_eq_true rfl, h1, h2, h3, ⟨(f_Mt.up (Nat.le_of_ble_eq_true rfl) TX0_areOwnersAble), (f_Mt.up (Nat.le_of_ble_eq_true rfl) TX10_isAble), (f_Mt.up (Nat.le_of_ble_eq_true rfl) TX0_isBarred), (f_Mt.up (Nat.le_of_ble_eq_true rfl) TX10_at), (f_Mt.up (Nat.le_of_ble_eq_true rfl) TX9_isThere), (f_Mt.up (Nat.le_of_ble_eq_true rfl) TX8_has), (f_Mt.up (Nat.le_of_ble_eq_true rfl) TX10_isFull), (f_Mt.up (Nat.le_of_ble_eq_true rfl) TX0_makeTerm), trivial⟩, hX⟩ h)
def VX0_caution (c_X10_isFull : Nat → Int → e_M → (Int → Prop) → Prop) (c_X0_makeTerm : Int → Int → e_M → (Nat → e_M → Prop) → Prop) (Q : Int → e_M → Prop) (M : e_M) : Prop :=
  (c_X10_isFull ((M 4423 0).toNat) 5 M (fun r1 => ((r1 = 0 → (c_X0_makeTerm 5 (e_w32 ((M ((M 4423 1).toNat) 4) + 180)) M (fun r2 M3 => (Q 0 M3)))) ∧ (¬ r1 = 0 → (Q 7 M)))))
def yX0_caution (i : Nat) : e_Y := x_get YX0_caution [YX10_isFull, YX0_makeTerm] i
def pX0_cautionf : List x_I := [(0, 4, 1, 0, 0, 0, []), (1, 25, 0, 0, 4, 0, [(0, 10, 15), (0, 0, 0)]), (4, 0, 1, 0, 0, 5, []), (5, 40, 0, 2, 12, 0, []), (8, 17, 14, 0, 8, 0, []), (11, 0, 2, 0, 0, 7, []), (13, 41, 0, 0, 0, 0, []), (14, 4, 1, 0, 0, 0, []), (15, 0, 1, 0, 0, 5, []), (16, 4, 1, 0, 0, 0, []), (17, 25, 0, 1, 4, 0, [(0, 2, 19), (0, 0, 0)]), (20, 25, 2, 4, 0, 0, []), (23, 0, 3, 0, 0, 180, []), (26, 9, 0, 0, 0, 0, []), (27, 40, 1, 3, 2, 0, []), (30, 21, 0, 0, 0, 0, []), (31, 0, 1, 0, 0, 0, []), (32, 41, 0, 0, 0, 0, [])]
set_option maxRecDepth 20000 in
theorem qX0_cautionf : f_all yX0_caution YX0_caution pX0_cautionf :=
  ⟨f_aload_n (n := 0) (e_dx DX0_caution_0 0 rfl) rfl,
  f_getA (e_dx DX0_caution_0 1 rfl) fX0_36 rfl (by decide) (Nat.le_of_ble_eq_true rfl) rfl (by decide),
  f_iconst (e_dx DX0_caution_0 2 rfl) ⟨by decide, by decide⟩,
  x_callV (e_dx DX0_caution_0 3 rfl) mwX10_isFull vwX10_isFull cX0_200 rfl,
  f_if_eq (e_dx DX0_caution_0 4 rfl) rfl,
  f_bipush (e_dx DX0_caution_0 5 rfl) ⟨by decide, by decide⟩,
  ⟨(e_dx DX0_caution_0 6 rfl), rfl⟩,
  f_aload_n (n := 0) (e_dx DX0_caution_0 7 rfl) rfl,
  f_iconst (e_dx DX0_caution_0 8 rfl) ⟨by decide, by decide⟩,
  f_aload_n (n := 0) (e_dx DX0_caution_0 9 rfl) rfl,
  f_getA (e_dx DX0_caution_0 10 rfl) fX0_40 rfl (by decide) (Nat.le_of_ble_eq_true rfl) rfl (by decide),
  f_getf (e_dx DX0_caution_0 11 rfl) fX0_44 rfl (by decide) (by decide) (by decide),
  f_sipush (e_dx DX0_caution_0 12 rfl) ⟨by decide, by decide⟩,
  f_iadd (e_dx DX0_caution_0 13 rfl),
  x_callV (e_dx DX0_caution_0 14 rfl) mwX0_makeTerm vwX0_makeTerm cX0_427 rfl,
  f_g21 (e_dx DX0_caution_0 15 rfl),
  f_iconst (e_dx DX0_caution_0 16 rfl) ⟨by decide, by decide⟩,
  ⟨(e_dx DX0_caution_0 17 rfl), rfl⟩, trivial⟩
def lX0_caution (c_X10_isFull : Nat → Int → e_M → (Int → Prop) → Prop) (c_X0_makeTerm : Int → Int → e_M → (Nat → e_M → Prop) → Prop) : List (Nat × f_Wt) := [(0, f_wm [(3, 10, 15), (1, 0, 0)] (fun ar M R => c_X10_isFull (f_va (f_nth ar 0)) (f_vi (f_nth ar 1)) M (fun r => R (some (.inl r)) M))), (1, f_wm [(4433, 0, 7), (1, 0, 0), (1, 0, 0)] (fun ar M R => c_X0_makeTerm (f_vi (f_nth ar 1)) (f_vi (f_nth ar 2)) M (fun r M => R (some (.inr (.inr (.inl (9, 14, r))))) M)))]
set_option maxRecDepth 20000 in
theorem BX0_caution {sh : Nat → Nat × Nat} {t : Nat} {rm : Nat × Nat × Nat} {cs : Nat × Nat} {R : f_Rt} {c_X10_isFull : Nat → Int → e_M → (Int → Prop) → Prop} {c_X0_makeTerm : Int → Int → e_M → (Nat → e_M → Prop) → Prop} {M : e_M} (C : f_Hy sh t yX0_caution rm cs 8 (lX0_caution c_X10_isFull c_X0_makeTerm) R) (h : VX0_caution c_X10_isFull c_X0_makeTerm (fun r M => R (some (.inl r)) M) M) : f_E sh t YX0_caution rm cs (f_Q sh t R) 0 [.inr (.inr (.inl (0, 7, 4423)))] [] M :=
  f_go (KC := f_kc []) C qX0_cautionf f_kc_nil 20 0 h
def WX0_caution (M : e_M) (Q : Int → e_M → Prop) : Prop :=
  VX0_caution WX10_isFull WX0_makeTerm Q M
theorem PX0_caution {sh : Nat → Nat × Nat} {t : Nat} {rm : Nat × Nat × Nat} {cs : Nat × Nat} {R : f_Rt} {M : e_M} (C : f_Hy sh t yX0_caution rm cs 8 (lX0_caution WX10_isFull WX0_makeTerm) R) (h : WX0_caution M (fun r M => R (some (.inl r)) M)) : f_E sh t YX0_caution rm cs (f_Q sh t R) 0 [.inr (.inr (.inl (0, 7, 4423)))] [] M :=
  BX0_caution C h
def wX0_caution : f_Wt := f_wm [(4433, 0, 7)] (fun ar M R => WX0_caution M (fun r M => R (some (.inl r)) M))
theorem TX0_caution {sh : Nat → Nat × Nat} {t : Nat} : f_Mt sh t YX0_caution 8 (wX0_caution) :=
  f_Mt_of (k := 0) (Nat.le_of_ble_eq_true rfl) rfl rfl (fun ar M R rm cs h1 h2 h3 hX h => PX0_caution ⟨Nat.le_of_ble_eq_true rfl, h1, h2, h3, ⟨(f_Mt.up (Nat.le_of_ble_eq_true rfl) TX10_isFull), (f_Mt.up (Nat.le_of_ble_eq_true rfl) TX0_makeTerm), trivial⟩, hX⟩ h)
def VX0_option (c_X0_areOwnersAble : Int → e_M → (Int → Prop) → Prop) (c_X0_isBarred : Int → Int → e_M → (Int → Prop) → Prop) (c_X10_isFull : Nat → Int → e_M → (Int → Prop) → Prop) (c_X0_makeTerm : Int → Int → e_M → (Nat → e_M → Prop) → Prop) (Q : Int → e_M → Prop) (M : e_M) : Prop :=
  (((M ((M 4423 1).toNat) 4) < (M ((M 4423 1).toNat) 8) → ((0 ≤ (1 : Int) ∧ (1 : Int) < 8) ∧ (c_X0_areOwnersAble (M 4425 ((1 : Int).toNat)) M (fun r1 => ((¬ r1 = 0 → ((0 ≤ (1 : Int) ∧ (1 : Int) < 8) ∧ (c_X0_isBarred (M 4425 ((1 : Int).toNat)) (-1) M (fun r2 => ((r2 = 0 → (c_X10_isFull ((M 4423 0).toNat) 6 M (fun r3 => ((r3 = 0 → (c_X0_makeTerm 6 (M ((M 4423 1).toNat) 8) M (fun r4 M5 => (Q 0 M5)))) ∧ (¬ r3 = 0 → (Q 7 M)))))) ∧ (¬ r2 = 0 → (Q 4 M))))))) ∧ (r1 = 0 → (Q 2 M))))))) ∧ ((M ((M 4423 1).toNat) 8) ≤ (M ((M 4423 1).toNat) 4) → (Q 8 M)))
def yX0_option (i : Nat) : e_Y := x_get YX0_option [YX0_areOwnersAble, YX0_isBarred, YX10_isFull, YX0_makeTerm] i
def pX0_optionf : List x_I := [(0, 4, 1, 0, 0, 0, []), (1, 25, 0, 1, 4, 0, [(0, 2, 19), (0, 0, 0)]), (4, 25, 2, 8, 0, 0, []), (7, 4, 1, 0, 0, 0, []), (8, 25, 0, 1, 4, 0, [(0, 2, 19), (0, 0, 0)]), (11, 25, 2, 4, 0, 0, []), (14, 18, 20, 4, 10, 0, []), (17, 0, 2, 0, 0, 8, []), (19, 41, 0, 0, 0, 0, []), (20, 4, 1, 0, 0, 0, []), (21, 4, 1, 0, 0, 0, []), (22, 25, 0, 4, 4, 0, [(0, 20, 8), (0, 1, 2)]), (25, 0, 1, 0, 0, 1, []), (26, 27, 0, 0, 0, 0, []), (27, 40, 0, 2, 2, 0, []), (30, 17, 35, 1, 19, 0, []), (33, 0, 1, 0, 0, 2, []), (34, 41, 0, 0, 0, 0, []), (35, 4, 1, 0, 0, 0, []), (36, 4, 1, 0, 0, 0, []), (37, 25, 0, 4, 4, 0, [(0, 20, 8), (0, 1, 2)]), (40, 0, 1, 0, 0, 1, []), (41, 27, 0, 0, 0, 0, []), (42, 0, 1, 0, 0, (-1), []), (43, 40, 1, 3, 2, 0, []), (46, 17, 51, 0, 29, 0, []), (49, 0, 1, 0, 0, 4, []), (50, 41, 0, 0, 0, 0, []), (51, 4, 1, 0, 0, 0, []), (52, 25, 0, 0, 4, 0, [(0, 10, 15), (0, 0, 0)]), (55, 0, 2, 0, 0, 6, []), (57, 40, 2, 2, 12, 0, []), (60, 17, 66, 0, 36, 0, []), (63, 0, 2, 0, 0, 7, []), (65, 41, 0, 0, 0, 0, []), (66, 4, 1, 0, 0, 0, []), (67, 0, 2, 0, 0, 6, []), (69, 4, 1, 0, 0, 0, []), (70, 25, 0, 1, 4, 0, [(0, 2, 19), (0, 0, 0)]), (73, 25, 2, 8, 0, 0, []), (76, 40, 3, 3, 2, 0, []), (79, 21, 0, 0, 0, 0, []), (80, 0, 1, 0, 0, 0, []), (81, 41, 0, 0, 0, 0, [])]
set_option maxRecDepth 20000 in
theorem qX0_optionf : f_all yX0_option YX0_option pX0_optionf :=
  ⟨f_aload_n (n := 0) (e_dx DX0_option_0 0 rfl) rfl,
  f_getA (e_dx DX0_option_0 1 rfl) fX0_40 rfl (by decide) (Nat.le_of_ble_eq_true rfl) rfl (by decide),
  f_getf (e_dx DX0_option_0 2 rfl) fX0_197 rfl (by decide) (by decide) (by decide),
  f_aload_n (n := 0) (e_dx DX0_option_0 3 rfl) rfl,
  f_getA (e_dx DX0_option_0 4 rfl) fX0_40 rfl (by decide) (Nat.le_of_ble_eq_true rfl) rfl (by decide),
  f_getf (e_dx DX0_option_0 5 rfl) fX0_44 rfl (by decide) (by decide) (by decide),
  f_icmp_gt (e_dx DX0_option_0 6 rfl) rfl,
  f_bipush (e_dx DX0_option_0 7 rfl) ⟨by decide, by decide⟩,
  ⟨(e_dx DX0_option_0 8 rfl), rfl⟩,
  f_aload_n (n := 0) (e_dx DX0_option_0 9 rfl) rfl,
  f_aload_n (n := 0) (e_dx DX0_option_0 10 rfl) rfl,
  f_getA (e_dx DX0_option_0 11 rfl) fX0_19 rfl (by decide) (Nat.le_of_ble_eq_true rfl) rfl (by decide),
  f_iconst (e_dx DX0_option_0 12 rfl) ⟨by decide, by decide⟩,
  f_iaload (e_dx DX0_option_0 13 rfl),
  x_callV (e_dx DX0_option_0 14 rfl) mwX0_areOwnersAble vwX0_areOwnersAble cX0_296 rfl,
  f_if_ne (e_dx DX0_option_0 15 rfl) rfl,
  f_iconst (e_dx DX0_option_0 16 rfl) ⟨by decide, by decide⟩,
  ⟨(e_dx DX0_option_0 17 rfl), rfl⟩,
  f_aload_n (n := 0) (e_dx DX0_option_0 18 rfl) rfl,
  f_aload_n (n := 0) (e_dx DX0_option_0 19 rfl) rfl,
  f_getA (e_dx DX0_option_0 20 rfl) fX0_19 rfl (by decide) (Nat.le_of_ble_eq_true rfl) rfl (by decide),
  f_iconst (e_dx DX0_option_0 21 rfl) ⟨by decide, by decide⟩,
  f_iaload (e_dx DX0_option_0 22 rfl),
  f_iconst (e_dx DX0_option_0 23 rfl) ⟨by decide, by decide⟩,
  x_callV (e_dx DX0_option_0 24 rfl) mwX0_isBarred vwX0_isBarred cX0_275 rfl,
  f_if_eq (e_dx DX0_option_0 25 rfl) rfl,
  f_iconst (e_dx DX0_option_0 26 rfl) ⟨by decide, by decide⟩,
  ⟨(e_dx DX0_option_0 27 rfl), rfl⟩,
  f_aload_n (n := 0) (e_dx DX0_option_0 28 rfl) rfl,
  f_getA (e_dx DX0_option_0 29 rfl) fX0_36 rfl (by decide) (Nat.le_of_ble_eq_true rfl) rfl (by decide),
  f_bipush (e_dx DX0_option_0 30 rfl) ⟨by decide, by decide⟩,
  x_callV (e_dx DX0_option_0 31 rfl) mwX10_isFull vwX10_isFull cX0_200 rfl,
  f_if_eq (e_dx DX0_option_0 32 rfl) rfl,
  f_bipush (e_dx DX0_option_0 33 rfl) ⟨by decide, by decide⟩,
  ⟨(e_dx DX0_option_0 34 rfl), rfl⟩,
  f_aload_n (n := 0) (e_dx DX0_option_0 35 rfl) rfl,
  f_bipush (e_dx DX0_option_0 36 rfl) ⟨by decide, by decide⟩,
  f_aload_n (n := 0) (e_dx DX0_option_0 37 rfl) rfl,
  f_getA (e_dx DX0_option_0 38 rfl) fX0_40 rfl (by decide) (Nat.le_of_ble_eq_true rfl) rfl (by decide),
  f_getf (e_dx DX0_option_0 39 rfl) fX0_197 rfl (by decide) (by decide) (by decide),
  x_callV (e_dx DX0_option_1 0 rfl) mwX0_makeTerm vwX0_makeTerm cX0_427 rfl,
  f_g21 (e_dx DX0_option_1 1 rfl),
  f_iconst (e_dx DX0_option_1 2 rfl) ⟨by decide, by decide⟩,
  ⟨(e_dx DX0_option_1 3 rfl), rfl⟩, trivial⟩
def lX0_option (c_X0_areOwnersAble : Int → e_M → (Int → Prop) → Prop) (c_X0_isBarred : Int → Int → e_M → (Int → Prop) → Prop) (c_X10_isFull : Nat → Int → e_M → (Int → Prop) → Prop) (c_X0_makeTerm : Int → Int → e_M → (Nat → e_M → Prop) → Prop) : List (Nat × f_Wt) := [(0, f_wm [(4433, 0, 7), (1, 0, 0)] (fun ar M R => c_X0_areOwnersAble (f_vi (f_nth ar 1)) M (fun r => R (some (.inl r)) M))), (1, f_wm [(4433, 0, 7), (1, 0, 0), (1, 0, 0)] (fun ar M R => c_X0_isBarred (f_vi (f_nth ar 1)) (f_vi (f_nth ar 2)) M (fun r => R (some (.inl r)) M))), (2, f_wm [(3, 10, 15), (1, 0, 0)] (fun ar M R => c_X10_isFull (f_va (f_nth ar 0)) (f_vi (f_nth ar 1)) M (fun r => R (some (.inl r)) M))), (3, f_wm [(4433, 0, 7), (1, 0, 0), (1, 0, 0)] (fun ar M R => c_X0_makeTerm (f_vi (f_nth ar 1)) (f_vi (f_nth ar 2)) M (fun r M => R (some (.inr (.inr (.inl (9, 14, r))))) M)))]
set_option maxRecDepth 20000 in
theorem BX0_option {sh : Nat → Nat × Nat} {t : Nat} {rm : Nat × Nat × Nat} {cs : Nat × Nat} {R : f_Rt} {c_X0_areOwnersAble : Int → e_M → (Int → Prop) → Prop} {c_X0_isBarred : Int → Int → e_M → (Int → Prop) → Prop} {c_X10_isFull : Nat → Int → e_M → (Int → Prop) → Prop} {c_X0_makeTerm : Int → Int → e_M → (Nat → e_M → Prop) → Prop} {M : e_M} (C : f_Hy sh t yX0_option rm cs 8 (lX0_option c_X0_areOwnersAble c_X0_isBarred c_X10_isFull c_X0_makeTerm) R) (h : VX0_option c_X0_areOwnersAble c_X0_isBarred c_X10_isFull c_X0_makeTerm (fun r M => R (some (.inl r)) M) M) : f_E sh t YX0_option rm cs (f_Q sh t R) 0 [.inr (.inr (.inl (0, 7, 4423)))] [] M :=
  f_go (KC := f_kc []) C qX0_optionf f_kc_nil 46 0 h
def WX0_option (M : e_M) (Q : Int → e_M → Prop) : Prop :=
  VX0_option WX0_areOwnersAble WX0_isBarred WX10_isFull WX0_makeTerm Q M
theorem PX0_option {sh : Nat → Nat × Nat} {t : Nat} {rm : Nat × Nat × Nat} {cs : Nat × Nat} {R : f_Rt} {M : e_M} (C : f_Hy sh t yX0_option rm cs 8 (lX0_option WX0_areOwnersAble WX0_isBarred WX10_isFull WX0_makeTerm) R) (h : WX0_option M (fun r M => R (some (.inl r)) M)) : f_E sh t YX0_option rm cs (f_Q sh t R) 0 [.inr (.inr (.inl (0, 7, 4423)))] [] M :=
  BX0_option C h
def wX0_option : f_Wt := f_wm [(4433, 0, 7)] (fun ar M R => WX0_option M (fun r M => R (some (.inl r)) M))
theorem TX0_option {sh : Nat → Nat × Nat} {t : Nat} : f_Mt sh t YX0_option 8 (wX0_option) :=
  f_Mt_of (k := 0) (Nat.le_of_ble_eq_true rfl) rfl rfl (fun ar M R rm cs h1 h2 h3 hX h => PX0_option ⟨Nat.le_of_ble_eq_true rfl, h1, h2, h3, ⟨(f_Mt.up (Nat.le_of_ble_eq_true rfl) TX0_areOwnersAble), (f_Mt.up (Nat.le_of_ble_eq_true rfl) TX0_isBarred), (f_Mt.up (Nat.le_of_ble_eq_true rfl) TX10_isFull), (f_Mt.up (Nat.le_of_ble_eq_true rfl) TX0_makeTerm), trivial⟩, hX⟩ h)
def VX0_latestSale_13 (c_X10_at : Nat → Int → Int → e_M → (Nat → Prop) → Prop) (c_X8_has : Nat → Int → e_M → (Int → Prop) → Prop) (c_X8_get : Nat → Int → e_M → (Int → Prop) → Prop) (k60 : Nat → Int → Nat → Prop) (k61 : Nat → Int → Nat → Int → Prop) (Q : Int → Prop) (a1 : Nat) (x2 : Int) (M : e_M) : Prop :=
  ((x2 < 0 → (Q (-1))) ∧ (0 ≤ x2 → (c_X10_at ((M 4423 0).toNat) 7 x2 M (fun r1 => (((M r1 1) ≤ (M a1 1) → (k60 a1 x2 r1)) ∧ ((M a1 1) < (M r1 1) → ((60 < (e_w32 ((M ((M 4423 1).toNat) 4) - (M r1 4))) → (k60 a1 x2 r1)) ∧ ((e_w32 ((M ((M 4423 1).toNat) 4) - (M r1 4))) ≤ 60 → (k61 a1 x2 r1 1)))))))))
def VX0_latestSale_60 (c_X10_at : Nat → Int → Int → e_M → (Nat → Prop) → Prop) (c_X8_has : Nat → Int → e_M → (Int → Prop) → Prop) (c_X8_get : Nat → Int → e_M → (Int → Prop) → Prop) (k61 : Nat → Int → Nat → Int → Prop) (Q : Int → Prop) (a1 : Nat) (x2 : Int) (a3 : Nat) (M : e_M) : Prop :=
  (k61 a1 x2 a3 0)
def VX0_latestSale_61 (c_X10_at : Nat → Int → Int → e_M → (Nat → Prop) → Prop) (c_X8_has : Nat → Int → e_M → (Int → Prop) → Prop) (c_X8_get : Nat → Int → e_M → (Int → Prop) → Prop) (k92 : Nat → Int → Nat → Int → Prop) (k93 : Nat → Int → Nat → Int → Int → Prop) (Q : Int → Prop) (a1 : Nat) (x2 : Int) (a3 : Nat) (xs0 : Int) (M : e_M) : Prop :=
  (((M a3 5) = (M a1 5) → (k92 a1 x2 a3 xs0)) ∧ (¬ (M a3 5) = (M a1 5) → (c_X8_has ((M a3 10).toNat) (M a1 5) M (fun r1 => ((¬ r1 = 0 → (k92 a1 x2 a3 xs0)) ∧ (r1 = 0 → (k93 a1 x2 a3 xs0 1)))))))
def VX0_latestSale_92 (c_X10_at : Nat → Int → Int → e_M → (Nat → Prop) → Prop) (c_X8_has : Nat → Int → e_M → (Int → Prop) → Prop) (c_X8_get : Nat → Int → e_M → (Int → Prop) → Prop) (k93 : Nat → Int → Nat → Int → Int → Prop) (Q : Int → Prop) (a1 : Nat) (x2 : Int) (a3 : Nat) (x4 : Int) (M : e_M) : Prop :=
  (k93 a1 x2 a3 x4 0)
def VX0_latestSale_93 (c_X10_at : Nat → Int → Int → e_M → (Nat → Prop) → Prop) (c_X8_has : Nat → Int → e_M → (Int → Prop) → Prop) (c_X8_get : Nat → Int → e_M → (Int → Prop) → Prop) (k132 : Nat → Int → Prop) (Q : Int → Prop) (a1 : Nat) (x2 : Int) (a3 : Nat) (x4 : Int) (xs0 : Int) (M : e_M) : Prop :=
  ((x4 = 0 → (k132 a1 x2)) ∧ (¬ x4 = 0 → ((xs0 = 0 → (k132 a1 x2)) ∧ (¬ xs0 = 0 → ((¬ (M a3 8) = 0 → (k132 a1 x2)) ∧ ((M a3 8) = 0 → (c_X8_get ((M a3 9).toNat) 0 M (fun r1 => (c_X8_has ((M a1 9).toNat) r1 M (fun r2 => ((r2 = 0 → (k132 a1 x2)) ∧ (¬ r2 = 0 → (Q x2)))))))))))))
def VX0_latestSale_132 (c_X10_at : Nat → Int → Int → e_M → (Nat → Prop) → Prop) (c_X8_has : Nat → Int → e_M → (Int → Prop) → Prop) (c_X8_get : Nat → Int → e_M → (Int → Prop) → Prop) (k13 : Nat → Int → Prop) (Q : Int → Prop) (a1 : Nat) (x2 : Int) (M : e_M) : Prop :=
  (k13 a1 (e_w32 (x2 + (-1))))
def VX0_latestSale (c_X10_at : Nat → Int → Int → e_M → (Nat → Prop) → Prop) (c_X8_has : Nat → Int → e_M → (Int → Prop) → Prop) (c_X8_get : Nat → Int → e_M → (Int → Prop) → Prop) (k13 : Nat → Int → Prop) (Q : Int → Prop) (a1 : Nat) (M : e_M) : Prop :=
  ((0 ≤ (7 : Int) ∧ (7 : Int) < 8) ∧ (∀ y1 : Int, y1 = e_w32 ((M ((M 4423 0).toNat + 24) ((7 : Int).toNat)) - 1) → (k13 a1 y1)))
def yX0_latestSale (i : Nat) : e_Y := x_get YX0_latestSale [YX10_at, YX8_has, YX8_get] i
def pX0_latestSalef : List x_I := [(0, 4, 1, 0, 0, 0, []), (1, 25, 0, 0, 4, 0, [(0, 10, 15), (0, 0, 0)]), (4, 25, 10, 4, 4, 0, [(0, 20, 8), (0, 1, 24)]), (7, 0, 2, 0, 0, 7, []), (9, 27, 0, 0, 0, 0, []), (10, 0, 1, 0, 0, 1, []), (11, 9, 0, 1, 0, 0, []), (12, 33, 0, 0, 0, 0, []), (12, 5, 1, 2, 0, 0, []), (13, 49, 0, 0, 0, 0, []), (13, 2, 1, 2, 0, 0, []), (14, 17, 138, 2, 75, 0, []), (17, 4, 1, 0, 0, 0, []), (18, 25, 0, 0, 4, 0, [(0, 10, 15), (0, 0, 0)]), (21, 0, 2, 0, 0, 7, []), (23, 2, 1, 2, 0, 0, []), (24, 40, 0, 3, 12, 0, []), (27, 7, 1, 3, 0, 0, []), (28, 4, 1, 3, 0, 0, []), (29, 25, 9, 1, 0, 0, []), (32, 4, 1, 1, 0, 0, []), (33, 25, 9, 1, 0, 0, []), (36, 18, 60, 5, 34, 0, []), (39, 4, 1, 0, 0, 0, []), (40, 25, 0, 1, 4, 0, [(0, 2, 19), (0, 0, 0)]), (43, 25, 2, 4, 0, 0, []), (46, 4, 1, 3, 0, 0, []), (47, 25, 9, 4, 0, 0, []), (50, 9, 0, 1, 0, 0, []), (51, 0, 2, 0, 0, 60, []), (53, 18, 60, 4, 34, 0, []), (56, 0, 1, 0, 0, 1, []), (57, 19, 61, 0, 36, 0, []), (60, 49, 0, 0, 0, 0, []), (60, 0, 1, 0, 0, 0, []), (61, 49, 0, 0, 0, 0, []), (61, 5, 2, 4, 0, 0, []), (63, 4, 1, 3, 0, 0, []), (64, 25, 9, 5, 0, 0, []), (67, 4, 1, 1, 0, 0, []), (68, 25, 9, 5, 0, 0, []), (71, 18, 92, 0, 51, 0, []), (74, 4, 1, 3, 0, 0, []), (75, 25, 9, 10, 4, 0, [(0, 8, 2), (0, 0, 0)]), (78, 4, 1, 1, 0, 0, []), (79, 25, 9, 5, 0, 0, []), (82, 40, 1, 2, 10, 0, []), (85, 17, 92, 1, 51, 0, []), (88, 0, 1, 0, 0, 1, []), (89, 19, 93, 0, 53, 0, []), (92, 49, 0, 0, 0, 0, []), (92, 0, 1, 0, 0, 0, []), (93, 49, 0, 0, 0, 0, []), (93, 5, 2, 5, 0, 0, []), (95, 2, 2, 4, 0, 0, []), (97, 17, 132, 0, 72, 0, []), (100, 2, 2, 5, 0, 0, []), (102, 17, 132, 0, 72, 0, []), (105, 4, 1, 3, 0, 0, []), (106, 25, 9, 8, 1, 0, []), (109, 17, 132, 1, 72, 0, []), (112, 4, 1, 1, 0, 0, []), (113, 25, 9, 9, 4, 0, [(0, 8, 2), (0, 0, 0)]), (116, 4, 1, 3, 0, 0, []), (117, 25, 9, 9, 4, 0, [(0, 8, 2), (0, 0, 0)]), (120, 0, 1, 0, 0, 0, []), (121, 40, 2, 2, 10, 0, []), (124, 40, 1, 2, 10, 0, []), (127, 17, 132, 0, 72, 0, []), (130, 2, 1, 2, 0, 0, []), (131, 41, 0, 0, 0, 0, []), (132, 49, 0, 0, 0, 0, []), (132, 8, 0, 2, 0, (-1), []), (135, 19, 13, 0, 10, 0, []), (138, 0, 1, 0, 0, (-1), []), (139, 41, 0, 0, 0, 0, [])]
set_option maxRecDepth 20000 in
theorem qX0_latestSalef : f_all yX0_latestSale YX0_latestSale pX0_latestSalef :=
  ⟨f_aload_n (n := 0) (e_dx DX0_latestSale_0 0 rfl) rfl,
  f_getA (e_dx DX0_latestSale_0 1 rfl) fX0_36 rfl (by decide) (Nat.le_of_ble_eq_true rfl) rfl (by decide),
  f_getA (e_dx DX0_latestSale_0 2 rfl) fX0_174 rfl (by decide) (Nat.le_of_ble_eq_true rfl) rfl (by decide),
  f_bipush (e_dx DX0_latestSale_0 3 rfl) ⟨by decide, by decide⟩,
  f_iaload (e_dx DX0_latestSale_0 4 rfl),
  f_iconst (e_dx DX0_latestSale_0 5 rfl) ⟨by decide, by decide⟩,
  f_isub (e_dx DX0_latestSale_0 6 rfl),
  f_g33,
  f_istore_n (n := 2) (e_dx DX0_latestSale_0 7 rfl) rfl (by decide),
  trivial,
  f_iload_n (n := 2) (e_dx DX0_latestSale_0 8 rfl) rfl,
  f_if_lt (e_dx DX0_latestSale_0 9 rfl) rfl,
  f_aload_n (n := 0) (e_dx DX0_latestSale_0 10 rfl) rfl,
  f_getA (e_dx DX0_latestSale_0 11 rfl) fX0_36 rfl (by decide) (Nat.le_of_ble_eq_true rfl) rfl (by decide),
  f_bipush (e_dx DX0_latestSale_0 12 rfl) ⟨by decide, by decide⟩,
  f_iload_n (n := 2) (e_dx DX0_latestSale_0 13 rfl) rfl,
  x_callV (e_dx DX0_latestSale_0 14 rfl) mwX10_at vwX10_at cX0_152 rfl,
  f_astore_n (n := 3) (e_dx DX0_latestSale_0 15 rfl) rfl (by decide),
  f_aload_n (n := 3) (e_dx DX0_latestSale_0 16 rfl) rfl,
  f_getf (e_dx DX0_latestSale_0 17 rfl) fX0_409 rfl (by decide) (by decide) (by decide),
  f_aload_n (n := 1) (e_dx DX0_latestSale_0 18 rfl) rfl,
  f_getf (e_dx DX0_latestSale_0 19 rfl) fX0_409 rfl (by decide) (by decide) (by decide),
  f_icmp_le (e_dx DX0_latestSale_0 20 rfl) rfl,
  f_aload_n (n := 0) (e_dx DX0_latestSale_0 21 rfl) rfl,
  f_getA (e_dx DX0_latestSale_0 22 rfl) fX0_40 rfl (by decide) (Nat.le_of_ble_eq_true rfl) rfl (by decide),
  f_getf (e_dx DX0_latestSale_0 23 rfl) fX0_44 rfl (by decide) (by decide) (by decide),
  f_aload_n (n := 3) (e_dx DX0_latestSale_0 24 rfl) rfl,
  f_getf (e_dx DX0_latestSale_0 25 rfl) fX0_194 rfl (by decide) (by decide) (by decide),
  f_isub (e_dx DX0_latestSale_0 26 rfl),
  f_bipush (e_dx DX0_latestSale_0 27 rfl) ⟨by decide, by decide⟩,
  f_icmp_gt (e_dx DX0_latestSale_0 28 rfl) rfl,
  f_iconst (e_dx DX0_latestSale_0 29 rfl) ⟨by decide, by decide⟩,
  f_g19 (e_dx DX0_latestSale_0 30 rfl) rfl,
  trivial,
  f_iconst (e_dx DX0_latestSale_0 31 rfl) ⟨by decide, by decide⟩,
  trivial,
  f_istore (e_dx DX0_latestSale_0 32 rfl) (by decide),
  f_aload_n (n := 3) (e_dx DX0_latestSale_0 33 rfl) rfl,
  f_getf (e_dx DX0_latestSale_0 34 rfl) fX0_188 rfl (by decide) (by decide) (by decide),
  f_aload_n (n := 1) (e_dx DX0_latestSale_0 35 rfl) rfl,
  f_getf (e_dx DX0_latestSale_0 36 rfl) fX0_188 rfl (by decide) (by decide) (by decide),
  f_icmp_eq (e_dx DX0_latestSale_0 37 rfl) rfl,
  f_aload_n (n := 3) (e_dx DX0_latestSale_0 38 rfl) rfl,
  f_getA (e_dx DX0_latestSale_0 39 rfl) fX0_293 rfl (by decide) (Nat.le_of_ble_eq_true rfl) rfl (by decide),
  f_aload_n (n := 1) (e_dx DX0_latestSale_1 0 rfl) rfl,
  f_getf (e_dx DX0_latestSale_1 1 rfl) fX0_188 rfl (by decide) (by decide) (by decide),
  x_callV (e_dx DX0_latestSale_1 2 rfl) mwX8_has vwX8_has cX0_183 rfl,
  f_if_ne (e_dx DX0_latestSale_1 3 rfl) rfl,
  f_iconst (e_dx DX0_latestSale_1 4 rfl) ⟨by decide, by decide⟩,
  f_g19 (e_dx DX0_latestSale_1 5 rfl) rfl,
  trivial,
  f_iconst (e_dx DX0_latestSale_1 6 rfl) ⟨by decide, by decide⟩,
  trivial,
  f_istore (e_dx DX0_latestSale_1 7 rfl) (by decide),
  f_iload (e_dx DX0_latestSale_1 8 rfl),
  f_if_eq (e_dx DX0_latestSale_1 9 rfl) rfl,
  f_iload (e_dx DX0_latestSale_1 10 rfl),
  f_if_eq (e_dx DX0_latestSale_1 11 rfl) rfl,
  f_aload_n (n := 3) (e_dx DX0_latestSale_1 12 rfl) rfl,
  f_getf (e_dx DX0_latestSale_1 13 rfl) fX0_437 rfl (by decide) (by decide) (by decide),
  f_if_ne (e_dx DX0_latestSale_1 14 rfl) rfl,
  f_aload_n (n := 1) (e_dx DX0_latestSale_1 15 rfl) rfl,
  f_getA (e_dx DX0_latestSale_1 16 rfl) fX0_179 rfl (by decide) (Nat.le_of_ble_eq_true rfl) rfl (by decide),
  f_aload_n (n := 3) (e_dx DX0_latestSale_1 17 rfl) rfl,
  f_getA (e_dx DX0_latestSale_1 18 rfl) fX0_179 rfl (by decide) (Nat.le_of_ble_eq_true rfl) rfl (by decide),
  f_iconst (e_dx DX0_latestSale_1 19 rfl) ⟨by decide, by decide⟩,
  x_callV (e_dx DX0_latestSale_1 20 rfl) mwX8_get vwX8_get cX0_382 rfl,
  x_callV (e_dx DX0_latestSale_1 21 rfl) mwX8_has vwX8_has cX0_183 rfl,
  f_if_eq (e_dx DX0_latestSale_1 22 rfl) rfl,
  f_iload_n (n := 2) (e_dx DX0_latestSale_1 23 rfl) rfl,
  ⟨(e_dx DX0_latestSale_1 24 rfl), rfl⟩,
  trivial,
  f_g8 (e_dx DX0_latestSale_1 25 rfl) ⟨by decide, by decide⟩,
  f_g19 (e_dx DX0_latestSale_1 26 rfl) rfl,
  f_iconst (e_dx DX0_latestSale_1 27 rfl) ⟨by decide, by decide⟩,
  ⟨(e_dx DX0_latestSale_1 28 rfl), rfl⟩, trivial⟩
def lX0_latestSale (c_X10_at : Nat → Int → Int → e_M → (Nat → Prop) → Prop) (c_X8_has : Nat → Int → e_M → (Int → Prop) → Prop) (c_X8_get : Nat → Int → e_M → (Int → Prop) → Prop) : List (Nat × f_Wt) := [(0, f_wm [(3, 10, 15), (1, 0, 0), (1, 0, 0)] (fun ar M R => c_X10_at (f_va (f_nth ar 0)) (f_vi (f_nth ar 1)) (f_vi (f_nth ar 2)) M (fun r => R (some (.inr (.inr (.inl (9, 14, r))))) M))), (1, f_wm [(3, 8, 2), (1, 0, 0)] (fun ar M R => c_X8_has (f_va (f_nth ar 0)) (f_vi (f_nth ar 1)) M (fun r => R (some (.inl r)) M))), (2, f_wm [(3, 8, 2), (1, 0, 0)] (fun ar M R => c_X8_get (f_va (f_nth ar 0)) (f_vi (f_nth ar 1)) M (fun r => R (some (.inl r)) M)))]
set_option maxRecDepth 20000 in
theorem BX0_latestSale_13 {sh : Nat → Nat × Nat} {t : Nat} {rm : Nat × Nat × Nat} {cs : Nat × Nat} {R : f_Rt} {c_X10_at : Nat → Int → Int → e_M → (Nat → Prop) → Prop} {c_X8_has : Nat → Int → e_M → (Int → Prop) → Prop} {c_X8_get : Nat → Int → e_M → (Int → Prop) → Prop} {k60 : Nat → Int → Nat → Prop} {k61 : Nat → Int → Nat → Int → Prop} {a1 : Nat} {x2 : Int} {M : e_M} (C : f_Hy sh t yX0_latestSale rm cs 6 (lX0_latestSale c_X10_at c_X8_has c_X8_get) R) (h60 : ∀ (a1 : Nat) (x2 : Int) (a3 : Nat), k60 a1 x2 a3 → f_E sh t YX0_latestSale rm cs (f_Q sh t R) 60 [.inr (.inr (.inl (0, 7, 4423))), .inr (.inr (.inl (9, 14, a1))), .inl x2, .inr (.inr (.inl (9, 14, a3))), .inr (.inr (.inr ())), .inr (.inr (.inr ()))] [] M) (h61 : ∀ (a1 : Nat) (x2 : Int) (a3 : Nat) (xs0 : Int), k61 a1 x2 a3 xs0 → f_E sh t YX0_latestSale rm cs (f_Q sh t R) 61 [.inr (.inr (.inl (0, 7, 4423))), .inr (.inr (.inl (9, 14, a1))), .inl x2, .inr (.inr (.inl (9, 14, a3))), .inr (.inr (.inr ())), .inr (.inr (.inr ()))] [.inl xs0] M) (h : VX0_latestSale_13 c_X10_at c_X8_has c_X8_get k60 k61 (fun r => R (some (.inl r)) M) a1 x2 M) : f_E sh t YX0_latestSale rm cs (f_Q sh t R) 13 [.inr (.inr (.inl (0, 7, 4423))), .inr (.inr (.inl (9, 14, a1))), .inl x2, .inr (.inr (.inr ())), .inr (.inr (.inr ())), .inr (.inr (.inr ()))] [] M := by
  rw [f_kk3 M k60] at h
  rw [f_kk4 M k61] at h
  exact f_go (KC := f_kc [(60, f_pl [(4433, 0, 7), (3, 9, 14), (1, 0, 0), (3, 9, 14), (0, 0, 0), (0, 0, 0)] [] (fun ls st M2 => M2 = M ∧ (k60 (f_va (f_nth ls 1)) (f_vi (f_nth ls 2)) (f_va (f_nth ls 3))))), (61, f_pl [(4433, 0, 7), (3, 9, 14), (1, 0, 0), (3, 9, 14), (0, 0, 0), (0, 0, 0)] [(1, 0, 0)] (fun ls st M2 => M2 = M ∧ (k61 (f_va (f_nth ls 1)) (f_vi (f_nth ls 2)) (f_va (f_nth ls 3)) (f_vi (f_nth st 0)))))]) C qX0_latestSalef (f_kc_cons (f_pl_ok rfl (fun ls st M2 ⟨e, hh⟩ => by subst e; exact h60 _ _ _ hh)) (f_kc_cons (f_pl_ok rfl (fun ls st M2 ⟨e, hh⟩ => by subst e; exact h61 _ _ _ _ hh)) f_kc_nil)) 78 10 h
set_option maxRecDepth 20000 in
theorem BX0_latestSale_60 {sh : Nat → Nat × Nat} {t : Nat} {rm : Nat × Nat × Nat} {cs : Nat × Nat} {R : f_Rt} {c_X10_at : Nat → Int → Int → e_M → (Nat → Prop) → Prop} {c_X8_has : Nat → Int → e_M → (Int → Prop) → Prop} {c_X8_get : Nat → Int → e_M → (Int → Prop) → Prop} {k61 : Nat → Int → Nat → Int → Prop} {a1 : Nat} {x2 : Int} {a3 : Nat} {M : e_M} (C : f_Hy sh t yX0_latestSale rm cs 6 (lX0_latestSale c_X10_at c_X8_has c_X8_get) R) (h61 : ∀ (a1 : Nat) (x2 : Int) (a3 : Nat) (xs0 : Int), k61 a1 x2 a3 xs0 → f_E sh t YX0_latestSale rm cs (f_Q sh t R) 61 [.inr (.inr (.inl (0, 7, 4423))), .inr (.inr (.inl (9, 14, a1))), .inl x2, .inr (.inr (.inl (9, 14, a3))), .inr (.inr (.inr ())), .inr (.inr (.inr ()))] [.inl xs0] M) (h : VX0_latestSale_60 c_X10_at c_X8_has c_X8_get k61 (fun r => R (some (.inl r)) M) a1 x2 a3 M) : f_E sh t YX0_latestSale rm cs (f_Q sh t R) 60 [.inr (.inr (.inl (0, 7, 4423))), .inr (.inr (.inl (9, 14, a1))), .inl x2, .inr (.inr (.inl (9, 14, a3))), .inr (.inr (.inr ())), .inr (.inr (.inr ()))] [] M := by
  rw [f_kk4 M k61] at h
  exact f_go (KC := f_kc [(61, f_pl [(4433, 0, 7), (3, 9, 14), (1, 0, 0), (3, 9, 14), (0, 0, 0), (0, 0, 0)] [(1, 0, 0)] (fun ls st M2 => M2 = M ∧ (k61 (f_va (f_nth ls 1)) (f_vi (f_nth ls 2)) (f_va (f_nth ls 3)) (f_vi (f_nth st 0)))))]) C qX0_latestSalef (f_kc_cons (f_pl_ok rfl (fun ls st M2 ⟨e, hh⟩ => by subst e; exact h61 _ _ _ _ hh)) f_kc_nil) 78 34 h
set_option maxRecDepth 20000 in
theorem BX0_latestSale_61 {sh : Nat → Nat × Nat} {t : Nat} {rm : Nat × Nat × Nat} {cs : Nat × Nat} {R : f_Rt} {c_X10_at : Nat → Int → Int → e_M → (Nat → Prop) → Prop} {c_X8_has : Nat → Int → e_M → (Int → Prop) → Prop} {c_X8_get : Nat → Int → e_M → (Int → Prop) → Prop} {k92 : Nat → Int → Nat → Int → Prop} {k93 : Nat → Int → Nat → Int → Int → Prop} {a1 : Nat} {x2 : Int} {a3 : Nat} {xs0 : Int} {M : e_M} (C : f_Hy sh t yX0_latestSale rm cs 6 (lX0_latestSale c_X10_at c_X8_has c_X8_get) R) (h92 : ∀ (a1 : Nat) (x2 : Int) (a3 : Nat) (x4 : Int), k92 a1 x2 a3 x4 → f_E sh t YX0_latestSale rm cs (f_Q sh t R) 92 [.inr (.inr (.inl (0, 7, 4423))), .inr (.inr (.inl (9, 14, a1))), .inl x2, .inr (.inr (.inl (9, 14, a3))), .inl x4, .inr (.inr (.inr ()))] [] M) (h93 : ∀ (a1 : Nat) (x2 : Int) (a3 : Nat) (x4 : Int) (xs0 : Int), k93 a1 x2 a3 x4 xs0 → f_E sh t YX0_latestSale rm cs (f_Q sh t R) 93 [.inr (.inr (.inl (0, 7, 4423))), .inr (.inr (.inl (9, 14, a1))), .inl x2, .inr (.inr (.inl (9, 14, a3))), .inl x4, .inr (.inr (.inr ()))] [.inl xs0] M) (h : VX0_latestSale_61 c_X10_at c_X8_has c_X8_get k92 k93 (fun r => R (some (.inl r)) M) a1 x2 a3 xs0 M) : f_E sh t YX0_latestSale rm cs (f_Q sh t R) 61 [.inr (.inr (.inl (0, 7, 4423))), .inr (.inr (.inl (9, 14, a1))), .inl x2, .inr (.inr (.inl (9, 14, a3))), .inr (.inr (.inr ())), .inr (.inr (.inr ()))] [.inl xs0] M := by
  rw [f_kk4 M k92] at h
  rw [f_kk5 M k93] at h
  exact f_go (KC := f_kc [(92, f_pl [(4433, 0, 7), (3, 9, 14), (1, 0, 0), (3, 9, 14), (1, 0, 0), (0, 0, 0)] [] (fun ls st M2 => M2 = M ∧ (k92 (f_va (f_nth ls 1)) (f_vi (f_nth ls 2)) (f_va (f_nth ls 3)) (f_vi (f_nth ls 4))))), (93, f_pl [(4433, 0, 7), (3, 9, 14), (1, 0, 0), (3, 9, 14), (1, 0, 0), (0, 0, 0)] [(1, 0, 0)] (fun ls st M2 => M2 = M ∧ (k93 (f_va (f_nth ls 1)) (f_vi (f_nth ls 2)) (f_va (f_nth ls 3)) (f_vi (f_nth ls 4)) (f_vi (f_nth st 0)))))]) C qX0_latestSalef (f_kc_cons (f_pl_ok rfl (fun ls st M2 ⟨e, hh⟩ => by subst e; exact h92 _ _ _ _ hh)) (f_kc_cons (f_pl_ok rfl (fun ls st M2 ⟨e, hh⟩ => by subst e; exact h93 _ _ _ _ _ hh)) f_kc_nil)) 78 36 h
set_option maxRecDepth 20000 in
theorem BX0_latestSale_92 {sh : Nat → Nat × Nat} {t : Nat} {rm : Nat × Nat × Nat} {cs : Nat × Nat} {R : f_Rt} {c_X10_at : Nat → Int → Int → e_M → (Nat → Prop) → Prop} {c_X8_has : Nat → Int → e_M → (Int → Prop) → Prop} {c_X8_get : Nat → Int → e_M → (Int → Prop) → Prop} {k93 : Nat → Int → Nat → Int → Int → Prop} {a1 : Nat} {x2 : Int} {a3 : Nat} {x4 : Int} {M : e_M} (C : f_Hy sh t yX0_latestSale rm cs 6 (lX0_latestSale c_X10_at c_X8_has c_X8_get) R) (h93 : ∀ (a1 : Nat) (x2 : Int) (a3 : Nat) (x4 : Int) (xs0 : Int), k93 a1 x2 a3 x4 xs0 → f_E sh t YX0_latestSale rm cs (f_Q sh t R) 93 [.inr (.inr (.inl (0, 7, 4423))), .inr (.inr (.inl (9, 14, a1))), .inl x2, .inr (.inr (.inl (9, 14, a3))), .inl x4, .inr (.inr (.inr ()))] [.inl xs0] M) (h : VX0_latestSale_92 c_X10_at c_X8_has c_X8_get k93 (fun r => R (some (.inl r)) M) a1 x2 a3 x4 M) : f_E sh t YX0_latestSale rm cs (f_Q sh t R) 92 [.inr (.inr (.inl (0, 7, 4423))), .inr (.inr (.inl (9, 14, a1))), .inl x2, .inr (.inr (.inl (9, 14, a3))), .inl x4, .inr (.inr (.inr ()))] [] M := by
  rw [f_kk5 M k93] at h
  exact f_go (KC := f_kc [(93, f_pl [(4433, 0, 7), (3, 9, 14), (1, 0, 0), (3, 9, 14), (1, 0, 0), (0, 0, 0)] [(1, 0, 0)] (fun ls st M2 => M2 = M ∧ (k93 (f_va (f_nth ls 1)) (f_vi (f_nth ls 2)) (f_va (f_nth ls 3)) (f_vi (f_nth ls 4)) (f_vi (f_nth st 0)))))]) C qX0_latestSalef (f_kc_cons (f_pl_ok rfl (fun ls st M2 ⟨e, hh⟩ => by subst e; exact h93 _ _ _ _ _ hh)) f_kc_nil) 78 51 h
set_option maxRecDepth 20000 in
theorem BX0_latestSale_93 {sh : Nat → Nat × Nat} {t : Nat} {rm : Nat × Nat × Nat} {cs : Nat × Nat} {R : f_Rt} {c_X10_at : Nat → Int → Int → e_M → (Nat → Prop) → Prop} {c_X8_has : Nat → Int → e_M → (Int → Prop) → Prop} {c_X8_get : Nat → Int → e_M → (Int → Prop) → Prop} {k132 : Nat → Int → Prop} {a1 : Nat} {x2 : Int} {a3 : Nat} {x4 : Int} {xs0 : Int} {M : e_M} (C : f_Hy sh t yX0_latestSale rm cs 6 (lX0_latestSale c_X10_at c_X8_has c_X8_get) R) (h132 : ∀ (a1 : Nat) (x2 : Int), k132 a1 x2 → f_E sh t YX0_latestSale rm cs (f_Q sh t R) 132 [.inr (.inr (.inl (0, 7, 4423))), .inr (.inr (.inl (9, 14, a1))), .inl x2, .inr (.inr (.inr ())), .inr (.inr (.inr ())), .inr (.inr (.inr ()))] [] M) (h : VX0_latestSale_93 c_X10_at c_X8_has c_X8_get k132 (fun r => R (some (.inl r)) M) a1 x2 a3 x4 xs0 M) : f_E sh t YX0_latestSale rm cs (f_Q sh t R) 93 [.inr (.inr (.inl (0, 7, 4423))), .inr (.inr (.inl (9, 14, a1))), .inl x2, .inr (.inr (.inl (9, 14, a3))), .inl x4, .inr (.inr (.inr ()))] [.inl xs0] M := by
  rw [f_kk2 M k132] at h
  exact f_go (KC := f_kc [(132, f_pl [(4433, 0, 7), (3, 9, 14), (1, 0, 0), (0, 0, 0), (0, 0, 0), (0, 0, 0)] [] (fun ls st M2 => M2 = M ∧ (k132 (f_va (f_nth ls 1)) (f_vi (f_nth ls 2)))))]) C qX0_latestSalef (f_kc_cons (f_pl_ok rfl (fun ls st M2 ⟨e, hh⟩ => by subst e; exact h132 _ _ hh)) f_kc_nil) 78 53 h
set_option maxRecDepth 20000 in
theorem BX0_latestSale_132 {sh : Nat → Nat × Nat} {t : Nat} {rm : Nat × Nat × Nat} {cs : Nat × Nat} {R : f_Rt} {c_X10_at : Nat → Int → Int → e_M → (Nat → Prop) → Prop} {c_X8_has : Nat → Int → e_M → (Int → Prop) → Prop} {c_X8_get : Nat → Int → e_M → (Int → Prop) → Prop} {k13 : Nat → Int → Prop} {a1 : Nat} {x2 : Int} {M : e_M} (C : f_Hy sh t yX0_latestSale rm cs 6 (lX0_latestSale c_X10_at c_X8_has c_X8_get) R) (h13 : ∀ (a1 : Nat) (x2 : Int), k13 a1 x2 → f_E sh t YX0_latestSale rm cs (f_Q sh t R) 13 [.inr (.inr (.inl (0, 7, 4423))), .inr (.inr (.inl (9, 14, a1))), .inl x2, .inr (.inr (.inr ())), .inr (.inr (.inr ())), .inr (.inr (.inr ()))] [] M) (h : VX0_latestSale_132 c_X10_at c_X8_has c_X8_get k13 (fun r => R (some (.inl r)) M) a1 x2 M) : f_E sh t YX0_latestSale rm cs (f_Q sh t R) 132 [.inr (.inr (.inl (0, 7, 4423))), .inr (.inr (.inl (9, 14, a1))), .inl x2, .inr (.inr (.inr ())), .inr (.inr (.inr ())), .inr (.inr (.inr ()))] [] M := by
  rw [f_kk2 M k13] at h
  exact f_go (KC := f_kc [(13, f_pl [(4433, 0, 7), (3, 9, 14), (1, 0, 0), (0, 0, 0), (0, 0, 0), (0, 0, 0)] [] (fun ls st M2 => M2 = M ∧ (k13 (f_va (f_nth ls 1)) (f_vi (f_nth ls 2)))))]) C qX0_latestSalef (f_kc_cons (f_pl_ok rfl (fun ls st M2 ⟨e, hh⟩ => by subst e; exact h13 _ _ hh)) f_kc_nil) 78 72 h
set_option maxRecDepth 20000 in
theorem BX0_latestSale {sh : Nat → Nat × Nat} {t : Nat} {rm : Nat × Nat × Nat} {cs : Nat × Nat} {R : f_Rt} {c_X10_at : Nat → Int → Int → e_M → (Nat → Prop) → Prop} {c_X8_has : Nat → Int → e_M → (Int → Prop) → Prop} {c_X8_get : Nat → Int → e_M → (Int → Prop) → Prop} {k13 : Nat → Int → Prop} {a1 : Nat} {M : e_M} (C : f_Hy sh t yX0_latestSale rm cs 6 (lX0_latestSale c_X10_at c_X8_has c_X8_get) R) (h13 : ∀ (a1 : Nat) (x2 : Int), k13 a1 x2 → f_E sh t YX0_latestSale rm cs (f_Q sh t R) 13 [.inr (.inr (.inl (0, 7, 4423))), .inr (.inr (.inl (9, 14, a1))), .inl x2, .inr (.inr (.inr ())), .inr (.inr (.inr ())), .inr (.inr (.inr ()))] [] M) (h : VX0_latestSale c_X10_at c_X8_has c_X8_get k13 (fun r => R (some (.inl r)) M) a1 M) : f_E sh t YX0_latestSale rm cs (f_Q sh t R) 0 [.inr (.inr (.inl (0, 7, 4423))), .inr (.inr (.inl (9, 14, a1))), .inr (.inr (.inr ())), .inr (.inr (.inr ())), .inr (.inr (.inr ())), .inr (.inr (.inr ()))] [] M := by
  rw [f_kk2 M k13] at h
  exact f_go (KC := f_kc [(13, f_pl [(4433, 0, 7), (3, 9, 14), (1, 0, 0), (0, 0, 0), (0, 0, 0), (0, 0, 0)] [] (fun ls st M2 => M2 = M ∧ (k13 (f_va (f_nth ls 1)) (f_vi (f_nth ls 2)))))]) C qX0_latestSalef (f_kc_cons (f_pl_ok rfl (fun ls st M2 ⟨e, hh⟩ => by subst e; exact h13 _ _ hh)) f_kc_nil) 78 0 h
def WX0_latestSale_132 (M : e_M) (H13 : Nat → Int → Prop) (Q : Int → Prop) (a1 : Nat) (x2 : Int) : Prop :=
  VX0_latestSale_132 WX10_at WX8_has WX8_get H13 Q a1 x2 M
def WX0_latestSale_93 (M : e_M) (H13 : Nat → Int → Prop) (Q : Int → Prop) (a1 : Nat) (x2 : Int) (a3 : Nat) (x4 : Int) (xs0 : Int) : Prop :=
  VX0_latestSale_93 WX10_at WX8_has WX8_get (WX0_latestSale_132 M H13 Q) Q a1 x2 a3 x4 xs0 M
def WX0_latestSale_92 (M : e_M) (H13 : Nat → Int → Prop) (Q : Int → Prop) (a1 : Nat) (x2 : Int) (a3 : Nat) (x4 : Int) : Prop :=
  VX0_latestSale_92 WX10_at WX8_has WX8_get (WX0_latestSale_93 M H13 Q) Q a1 x2 a3 x4 M
def WX0_latestSale_61 (M : e_M) (H13 : Nat → Int → Prop) (Q : Int → Prop) (a1 : Nat) (x2 : Int) (a3 : Nat) (xs0 : Int) : Prop :=
  VX0_latestSale_61 WX10_at WX8_has WX8_get (WX0_latestSale_92 M H13 Q) (WX0_latestSale_93 M H13 Q) Q a1 x2 a3 xs0 M
def WX0_latestSale_60 (M : e_M) (H13 : Nat → Int → Prop) (Q : Int → Prop) (a1 : Nat) (x2 : Int) (a3 : Nat) : Prop :=
  VX0_latestSale_60 WX10_at WX8_has WX8_get (WX0_latestSale_61 M H13 Q) Q a1 x2 a3 M
def WX0_latestSale_13 (M : e_M) (Q : Int → Prop) : Nat → Nat → Int → Prop
  | 0, _, _ => False
  | n + 1, a1, x2 =>
    VX0_latestSale_13 WX10_at WX8_has WX8_get (WX0_latestSale_60 M (WX0_latestSale_13 M Q n) Q) (WX0_latestSale_61 M (WX0_latestSale_13 M Q n) Q) Q a1 x2 M
def WX0_latestSale (a1 : Nat) (M : e_M) (Q : Int → Prop) : Prop :=
  VX0_latestSale WX10_at WX8_has WX8_get (fun a1 x2 => ∃ j, WX0_latestSale_13 M Q j a1 x2) Q a1 M
theorem PX0_latestSale_132 {sh : Nat → Nat × Nat} {t : Nat} {rm : Nat × Nat × Nat} {cs : Nat × Nat} {R : f_Rt} {H13 : Nat → Int → Prop} {a1 : Nat} {x2 : Int} {M : e_M} (C : f_Hy sh t yX0_latestSale rm cs 6 (lX0_latestSale WX10_at WX8_has WX8_get) R) (g13 : ∀ (a1 : Nat) (x2 : Int), H13 a1 x2 → f_E sh t YX0_latestSale rm cs (f_Q sh t R) 13 [.inr (.inr (.inl (0, 7, 4423))), .inr (.inr (.inl (9, 14, a1))), .inl x2, .inr (.inr (.inr ())), .inr (.inr (.inr ())), .inr (.inr (.inr ()))] [] M) (h : WX0_latestSale_132 M H13 (fun r => R (some (.inl r)) M) a1 x2) : f_E sh t YX0_latestSale rm cs (f_Q sh t R) 132 [.inr (.inr (.inl (0, 7, 4423))), .inr (.inr (.inl (9, 14, a1))), .inl x2, .inr (.inr (.inr ())), .inr (.inr (.inr ())), .inr (.inr (.inr ()))] [] M :=
  BX0_latestSale_132 C g13 h
theorem PX0_latestSale_93 {sh : Nat → Nat × Nat} {t : Nat} {rm : Nat × Nat × Nat} {cs : Nat × Nat} {R : f_Rt} {H13 : Nat → Int → Prop} {a1 : Nat} {x2 : Int} {a3 : Nat} {x4 : Int} {xs0 : Int} {M : e_M} (C : f_Hy sh t yX0_latestSale rm cs 6 (lX0_latestSale WX10_at WX8_has WX8_get) R) (g13 : ∀ (a1 : Nat) (x2 : Int), H13 a1 x2 → f_E sh t YX0_latestSale rm cs (f_Q sh t R) 13 [.inr (.inr (.inl (0, 7, 4423))), .inr (.inr (.inl (9, 14, a1))), .inl x2, .inr (.inr (.inr ())), .inr (.inr (.inr ())), .inr (.inr (.inr ()))] [] M) (h : WX0_latestSale_93 M H13 (fun r => R (some (.inl r)) M) a1 x2 a3 x4 xs0) : f_E sh t YX0_latestSale rm cs (f_Q sh t R) 93 [.inr (.inr (.inl (0, 7, 4423))), .inr (.inr (.inl (9, 14, a1))), .inl x2, .inr (.inr (.inl (9, 14, a3))), .inl x4, .inr (.inr (.inr ()))] [.inl xs0] M :=
  BX0_latestSale_93 C (fun a1 x2 h => PX0_latestSale_132 C g13 h) h
theorem PX0_latestSale_92 {sh : Nat → Nat × Nat} {t : Nat} {rm : Nat × Nat × Nat} {cs : Nat × Nat} {R : f_Rt} {H13 : Nat → Int → Prop} {a1 : Nat} {x2 : Int} {a3 : Nat} {x4 : Int} {M : e_M} (C : f_Hy sh t yX0_latestSale rm cs 6 (lX0_latestSale WX10_at WX8_has WX8_get) R) (g13 : ∀ (a1 : Nat) (x2 : Int), H13 a1 x2 → f_E sh t YX0_latestSale rm cs (f_Q sh t R) 13 [.inr (.inr (.inl (0, 7, 4423))), .inr (.inr (.inl (9, 14, a1))), .inl x2, .inr (.inr (.inr ())), .inr (.inr (.inr ())), .inr (.inr (.inr ()))] [] M) (h : WX0_latestSale_92 M H13 (fun r => R (some (.inl r)) M) a1 x2 a3 x4) : f_E sh t YX0_latestSale rm cs (f_Q sh t R) 92 [.inr (.inr (.inl (0, 7, 4423))), .inr (.inr (.inl (9, 14, a1))), .inl x2, .inr (.inr (.inl (9, 14, a3))), .inl x4, .inr (.inr (.inr ()))] [] M :=
  BX0_latestSale_92 C (fun a1 x2 a3 x4 xs0 h => PX0_latestSale_93 C g13 h) h
theorem PX0_latestSale_61 {sh : Nat → Nat × Nat} {t : Nat} {rm : Nat × Nat × Nat} {cs : Nat × Nat} {R : f_Rt} {H13 : Nat → Int → Prop} {a1 : Nat} {x2 : Int} {a3 : Nat} {xs0 : Int} {M : e_M} (C : f_Hy sh t yX0_latestSale rm cs 6 (lX0_latestSale WX10_at WX8_has WX8_get) R) (g13 : ∀ (a1 : Nat) (x2 : Int), H13 a1 x2 → f_E sh t YX0_latestSale rm cs (f_Q sh t R) 13 [.inr (.inr (.inl (0, 7, 4423))), .inr (.inr (.inl (9, 14, a1))), .inl x2, .inr (.inr (.inr ())), .inr (.inr (.inr ())), .inr (.inr (.inr ()))] [] M) (h : WX0_latestSale_61 M H13 (fun r => R (some (.inl r)) M) a1 x2 a3 xs0) : f_E sh t YX0_latestSale rm cs (f_Q sh t R) 61 [.inr (.inr (.inl (0, 7, 4423))), .inr (.inr (.inl (9, 14, a1))), .inl x2, .inr (.inr (.inl (9, 14, a3))), .inr (.inr (.inr ())), .inr (.inr (.inr ()))] [.inl xs0] M :=
  BX0_latestSale_61 C (fun a1 x2 a3 x4 h => PX0_latestSale_92 C g13 h) (fun a1 x2 a3 x4 xs0 h => PX0_latestSale_93 C g13 h) h
theorem PX0_latestSale_60 {sh : Nat → Nat × Nat} {t : Nat} {rm : Nat × Nat × Nat} {cs : Nat × Nat} {R : f_Rt} {H13 : Nat → Int → Prop} {a1 : Nat} {x2 : Int} {a3 : Nat} {M : e_M} (C : f_Hy sh t yX0_latestSale rm cs 6 (lX0_latestSale WX10_at WX8_has WX8_get) R) (g13 : ∀ (a1 : Nat) (x2 : Int), H13 a1 x2 → f_E sh t YX0_latestSale rm cs (f_Q sh t R) 13 [.inr (.inr (.inl (0, 7, 4423))), .inr (.inr (.inl (9, 14, a1))), .inl x2, .inr (.inr (.inr ())), .inr (.inr (.inr ())), .inr (.inr (.inr ()))] [] M) (h : WX0_latestSale_60 M H13 (fun r => R (some (.inl r)) M) a1 x2 a3) : f_E sh t YX0_latestSale rm cs (f_Q sh t R) 60 [.inr (.inr (.inl (0, 7, 4423))), .inr (.inr (.inl (9, 14, a1))), .inl x2, .inr (.inr (.inl (9, 14, a3))), .inr (.inr (.inr ())), .inr (.inr (.inr ()))] [] M :=
  BX0_latestSale_60 C (fun a1 x2 a3 xs0 h => PX0_latestSale_61 C g13 h) h
theorem PX0_latestSale_13 {sh : Nat → Nat × Nat} {t : Nat} {rm : Nat × Nat × Nat} {cs : Nat × Nat} {R : f_Rt} {M : e_M} (C : f_Hy sh t yX0_latestSale rm cs 6 (lX0_latestSale WX10_at WX8_has WX8_get) R) : ∀ (n : Nat) (a1 : Nat) (x2 : Int), WX0_latestSale_13 M (fun r => R (some (.inl r)) M) n a1 x2 → f_E sh t YX0_latestSale rm cs (f_Q sh t R) 13 [.inr (.inr (.inl (0, 7, 4423))), .inr (.inr (.inl (9, 14, a1))), .inl x2, .inr (.inr (.inr ())), .inr (.inr (.inr ())), .inr (.inr (.inr ()))] [] M := by
  intro n
  induction n with
  | zero => intro a1 x2 h; exact h.elim
  | succ n ih => intro a1 x2 h; exact BX0_latestSale_13 C (fun a1 x2 a3 h => PX0_latestSale_60 C ih h) (fun a1 x2 a3 xs0 h => PX0_latestSale_61 C ih h) h
theorem PX0_latestSale {sh : Nat → Nat × Nat} {t : Nat} {rm : Nat × Nat × Nat} {cs : Nat × Nat} {R : f_Rt} {a1 : Nat} {M : e_M} (C : f_Hy sh t yX0_latestSale rm cs 6 (lX0_latestSale WX10_at WX8_has WX8_get) R) (h : WX0_latestSale a1 M (fun r => R (some (.inl r)) M)) : f_E sh t YX0_latestSale rm cs (f_Q sh t R) 0 [.inr (.inr (.inl (0, 7, 4423))), .inr (.inr (.inl (9, 14, a1))), .inr (.inr (.inr ())), .inr (.inr (.inr ())), .inr (.inr (.inr ())), .inr (.inr (.inr ()))] [] M :=
  BX0_latestSale C (fun a1 x2 ⟨j, h⟩ => PX0_latestSale_13 C j _ _ h) h
def wX0_latestSale : f_Wt := f_wm [(4433, 0, 7), (3, 9, 14)] (fun ar M R => WX0_latestSale (f_va (f_nth ar 1)) M (fun r => R (some (.inl r)) M))
theorem TX0_latestSale {sh : Nat → Nat × Nat} {t : Nat} : f_Mt sh t YX0_latestSale 6 (wX0_latestSale) :=
  f_Mt_of (k := 4) (Nat.le_of_ble_eq_true rfl) rfl rfl (fun ar M R rm cs h1 h2 h3 hX h => PX0_latestSale ⟨Nat.le_of_ble_eq_true rfl, h1, h2, h3, ⟨(f_Mt.up (Nat.le_of_ble_eq_true rfl) TX10_at), (f_Mt.up (Nat.le_of_ble_eq_true rfl) TX8_has), (f_Mt.up (Nat.le_of_ble_eq_true rfl) TX8_get), trivial⟩, hX⟩ h)
def VX0_takeSale_85 (c_X10_at : Nat → Int → Int → e_M → (Nat → Prop) → Prop) (c_X10_isAble : Nat → Int → e_M → (Int → Prop) → Prop) (c_X0_latestSale : Nat → e_M → (Int → Prop) → Prop) (c_X8_get : Nat → Int → e_M → (Int → Prop) → Prop) (c_X10_lot : Nat → Int → e_M → (Nat → Prop) → Prop) (c_X4_copyOwners : Nat → Nat → e_M → (e_M → Prop) → Prop) (c_X4_takeOff : Nat → Int → Int → Int → e_M → (Int → e_M → Prop) → Prop) (c_X4_give : Nat → Int → Int → Int → e_M → (e_M → Prop) → Prop) (c_X4_isTooFine : Nat → e_M → (Int → Prop) → Prop) (k85 : Nat → Nat → Nat → Int → e_M → Prop) (Q : Int → e_M → Prop) (a1 : Nat) (a3 : Nat) (a4 : Nat) (x5 : Int) (M : e_M) : Prop :=
  (((M ((M a3 11).toNat) 15) ≤ x5 → (c_X4_give 4443 (M a1 5) (M a3 12) (M a3 13) M (fun M1 => (c_X4_isTooFine 4443 M1 (fun r2 => ((r2 = 0 → (((M1 4443 8) ≤ 8 → (c_X4_copyOwners a4 4443 M1 (fun M3 => (((1 : Int) = 0 ∨ (1 : Int) = 1) ∧ (∀ M4 : e_M, M4 = e_up M3 a3 8 1 → (Q 0 M4)))))) ∧ (8 < (M1 4443 8) → (Q 7 M1)))) ∧ (¬ r2 = 0 → (Q 6 M1)))))))) ∧ (x5 < (M ((M a3 11).toNat) 15) → ((0 ≤ x5 ∧ x5 < 6) ∧ (∀ y5 : Int, y5 = e_w64 ((M a3 12) * (M ((M a3 11).toNat + 3) (x5.toNat))) → (c_X8_get ((M a3 10).toNat) x5 M (fun r6 => ((0 ≤ x5 ∧ x5 < 6) ∧ (c_X4_takeOff 4443 r6 y5 (e_w64 ((M a3 13) * (M ((M a3 11).toNat + 4) (x5.toNat)))) M (fun r7 M8 => ((¬ r7 = 0 → (k85 a1 a3 a4 (e_w32 (x5 + 1)) M8)) ∧ (r7 = 0 → (Q 6 M8))))))))))))
def VX0_takeSale (c_X10_at : Nat → Int → Int → e_M → (Nat → Prop) → Prop) (c_X10_isAble : Nat → Int → e_M → (Int → Prop) → Prop) (c_X0_latestSale : Nat → e_M → (Int → Prop) → Prop) (c_X8_get : Nat → Int → e_M → (Int → Prop) → Prop) (c_X10_lot : Nat → Int → e_M → (Nat → Prop) → Prop) (c_X4_copyOwners : Nat → Nat → e_M → (e_M → Prop) → Prop) (c_X4_takeOff : Nat → Int → Int → Int → e_M → (Int → e_M → Prop) → Prop) (c_X4_give : Nat → Int → Int → Int → e_M → (e_M → Prop) → Prop) (c_X4_isTooFine : Nat → e_M → (Int → Prop) → Prop) (k85 : Nat → Nat → Nat → Int → e_M → Prop) (Q : Int → e_M → Prop) (M : e_M) : Prop :=
  ((0 ≤ (0 : Int) ∧ (0 : Int) < 8) ∧ (c_X10_at ((M 4423 0).toNat) 6 (M 4425 ((0 : Int).toNat)) M (fun r1 => (c_X10_isAble ((M 4423 0).toNat) (M r1 5) M (fun r2 => ((¬ r2 = 0 → (c_X0_latestSale r1 M (fun r3 => ((0 ≤ r3 → (c_X10_at ((M 4423 0).toNat) 7 r3 M (fun r4 => (c_X8_get ((M r4 9).toNat) 0 M (fun r5 => (c_X10_lot ((M 4423 0).toNat) r5 M (fun r6 => (c_X4_copyOwners 4443 r6 M (fun M7 => (k85 r1 r4 r6 0 M7)))))))))) ∧ (r3 < 0 → (Q 9 M)))))) ∧ (r2 = 0 → (Q 2 M))))))))
def yX0_takeSale (i : Nat) : e_Y := x_get YX0_takeSale [YX10_at, YX10_isAble, YX0_latestSale, YX8_get, YX10_lot, YX4_copyOwners, YX4_takeOff, YX4_give, YX4_isTooFine] i
def pX0_takeSalef : List x_I := [(0, 4, 1, 0, 0, 0, []), (1, 25, 0, 0, 4, 0, [(0, 10, 15), (0, 0, 0)]), (4, 0, 2, 0, 0, 6, []), (6, 4, 1, 0, 0, 0, []), (7, 25, 0, 4, 4, 0, [(0, 20, 8), (0, 1, 2)]), (10, 0, 1, 0, 0, 0, []), (11, 27, 0, 0, 0, 0, []), (12, 40, 0, 3, 12, 0, []), (15, 7, 1, 1, 0, 0, []), (16, 4, 1, 0, 0, 0, []), (17, 25, 0, 0, 4, 0, [(0, 10, 15), (0, 0, 0)]), (20, 4, 1, 1, 0, 0, []), (21, 25, 9, 5, 0, 0, []), (24, 40, 1, 2, 12, 0, []), (27, 17, 32, 1, 18, 0, []), (30, 0, 1, 0, 0, 2, []), (31, 41, 0, 0, 0, 0, []), (32, 4, 1, 0, 0, 0, []), (33, 4, 1, 1, 0, 0, []), (34, 40, 2, 2, 2, 0, []), (37, 5, 1, 2, 0, 0, []), (38, 2, 1, 2, 0, 0, []), (39, 17, 45, 3, 26, 0, []), (42, 0, 2, 0, 0, 9, []), (44, 41, 0, 0, 0, 0, []), (45, 4, 1, 0, 0, 0, []), (46, 25, 0, 0, 4, 0, [(0, 10, 15), (0, 0, 0)]), (49, 0, 2, 0, 0, 7, []), (51, 2, 1, 2, 0, 0, []), (52, 40, 0, 3, 12, 0, []), (55, 7, 1, 3, 0, 0, []), (56, 4, 1, 0, 0, 0, []), (57, 25, 0, 0, 4, 0, [(0, 10, 15), (0, 0, 0)]), (60, 4, 1, 3, 0, 0, []), (61, 25, 9, 9, 4, 0, [(0, 8, 2), (0, 0, 0)]), (64, 0, 1, 0, 0, 0, []), (65, 40, 3, 2, 10, 0, []), (68, 40, 4, 2, 12, 0, []), (71, 7, 2, 4, 0, 0, []), (73, 4, 1, 0, 0, 0, []), (74, 25, 0, 6, 4, 0, [(0, 4, 9), (0, 1, 20)]), (77, 4, 2, 4, 0, 0, []), (79, 40, 5, 2, 6, 0, []), (82, 0, 1, 0, 0, 0, []), (83, 5, 2, 5, 0, 0, []), (85, 49, 0, 0, 0, 0, []), (85, 2, 2, 5, 0, 0, []), (87, 4, 1, 3, 0, 0, []), (88, 25, 9, 11, 4, 0, [(0, 2, 19), (0, 0, 0)]), (91, 25, 2, 15, 0, 0, []), (94, 18, 159, 3, 83, 0, []), (97, 4, 1, 3, 0, 0, []), (98, 25, 9, 12, 3, 0, []), (101, 4, 1, 3, 0, 0, []), (102, 25, 9, 11, 4, 0, [(0, 2, 19), (0, 0, 0)]), (105, 25, 2, 13, 4, 0, [(0, 23, 6), (0, 1, 3)]), (108, 2, 2, 5, 0, 0, []), (110, 27, 0, 1, 0, 0, []), (111, 10, 0, 2, 0, 0, []), (112, 33, 0, 0, 0, 0, []), (112, 6, 2, 6, 0, 0, []), (114, 4, 1, 0, 0, 0, []), (115, 25, 0, 6, 4, 0, [(0, 4, 9), (0, 1, 20)]), (118, 4, 1, 3, 0, 0, []), (119, 25, 9, 10, 4, 0, [(0, 8, 2), (0, 0, 0)]), (122, 2, 2, 5, 0, 0, []), (124, 40, 3, 2, 10, 0, []), (127, 3, 2, 6, 0, 0, []), (129, 4, 1, 3, 0, 0, []), (130, 25, 9, 13, 3, 0, []), (133, 4, 1, 3, 0, 0, []), (134, 25, 9, 11, 4, 0, [(0, 2, 19), (0, 0, 0)]), (137, 25, 2, 14, 4, 0, [(0, 23, 6), (0, 1, 4)]), (140, 2, 2, 5, 0, 0, []), (142, 27, 0, 1, 0, 0, []), (143, 10, 0, 2, 0, 0, []), (144, 40, 6, 4, 6, 0, []), (147, 17, 153, 1, 81, 0, []), (150, 0, 2, 0, 0, 6, []), (152, 41, 0, 0, 0, 0, []), (153, 8, 0, 5, 0, 1, []), (156, 19, 85, 0, 46, 0, []), (159, 4, 1, 0, 0, 0, []), (160, 25, 0, 6, 4, 0, [(0, 4, 9), (0, 1, 20)]), (163, 4, 1, 1, 0, 0, []), (164, 25, 9, 5, 0, 0, []), (167, 4, 1, 3, 0, 0, []), (168, 25, 9, 12, 3, 0, []), (171, 4, 1, 3, 0, 0, []), (172, 25, 9, 13, 3, 0, []), (175, 40, 7, 4, 6, 0, []), (178, 4, 1, 0, 0, 0, []), (179, 25, 0, 6, 4, 0, [(0, 4, 9), (0, 1, 20)]), (182, 40, 8, 1, 6, 0, []), (185, 17, 191, 0, 98, 0, []), (188, 0, 2, 0, 0, 6, []), (190, 41, 0, 0, 0, 0, []), (191, 4, 1, 0, 0, 0, []), (192, 25, 0, 6, 4, 0, [(0, 4, 9), (0, 1, 20)]), (195, 25, 4, 8, 0, 0, []), (198, 0, 2, 0, 0, 8, []), (200, 18, 206, 5, 105, 0, []), (203, 0, 2, 0, 0, 7, []), (205, 41, 0, 0, 0, 0, []), (206, 4, 2, 4, 0, 0, []), (208, 4, 1, 0, 0, 0, []), (209, 25, 0, 6, 4, 0, [(0, 4, 9), (0, 1, 20)]), (212, 40, 5, 2, 6, 0, []), (215, 4, 1, 3, 0, 0, []), (216, 0, 1, 0, 0, 1, []), (217, 26, 9, 8, 1, 0, []), (220, 0, 1, 0, 0, 0, []), (221, 41, 0, 0, 0, 0, [])]
set_option maxRecDepth 20000 in
theorem qX0_takeSalef : f_all yX0_takeSale YX0_takeSale pX0_takeSalef :=
  ⟨f_aload_n (n := 0) (e_dx DX0_takeSale_0 0 rfl) rfl,
  f_getA (e_dx DX0_takeSale_0 1 rfl) fX0_36 rfl (by decide) (Nat.le_of_ble_eq_true rfl) rfl (by decide),
  f_bipush (e_dx DX0_takeSale_0 2 rfl) ⟨by decide, by decide⟩,
  f_aload_n (n := 0) (e_dx DX0_takeSale_0 3 rfl) rfl,
  f_getA (e_dx DX0_takeSale_0 4 rfl) fX0_19 rfl (by decide) (Nat.le_of_ble_eq_true rfl) rfl (by decide),
  f_iconst (e_dx DX0_takeSale_0 5 rfl) ⟨by decide, by decide⟩,
  f_iaload (e_dx DX0_takeSale_0 6 rfl),
  x_callV (e_dx DX0_takeSale_0 7 rfl) mwX10_at vwX10_at cX0_152 rfl,
  f_astore_n (n := 1) (e_dx DX0_takeSale_0 8 rfl) rfl (by decide),
  f_aload_n (n := 0) (e_dx DX0_takeSale_0 9 rfl) rfl,
  f_getA (e_dx DX0_takeSale_0 10 rfl) fX0_36 rfl (by decide) (Nat.le_of_ble_eq_true rfl) rfl (by decide),
  f_aload_n (n := 1) (e_dx DX0_takeSale_0 11 rfl) rfl,
  f_getf (e_dx DX0_takeSale_0 12 rfl) fX0_188 rfl (by decide) (by decide) (by decide),
  x_callV (e_dx DX0_takeSale_0 13 rfl) mwX10_isAble vwX10_isAble cX0_171 rfl,
  f_if_ne (e_dx DX0_takeSale_0 14 rfl) rfl,
  f_iconst (e_dx DX0_takeSale_0 15 rfl) ⟨by decide, by decide⟩,
  ⟨(e_dx DX0_takeSale_0 16 rfl), rfl⟩,
  f_aload_n (n := 0) (e_dx DX0_takeSale_0 17 rfl) rfl,
  f_aload_n (n := 1) (e_dx DX0_takeSale_0 18 rfl) rfl,
  x_callV (e_dx DX0_takeSale_0 19 rfl) mwX0_latestSale vwX0_latestSale cX0_433 rfl,
  f_istore_n (n := 2) (e_dx DX0_takeSale_0 20 rfl) rfl (by decide),
  f_iload_n (n := 2) (e_dx DX0_takeSale_0 21 rfl) rfl,
  f_if_ge (e_dx DX0_takeSale_0 22 rfl) rfl,
  f_bipush (e_dx DX0_takeSale_0 23 rfl) ⟨by decide, by decide⟩,
  ⟨(e_dx DX0_takeSale_0 24 rfl), rfl⟩,
  f_aload_n (n := 0) (e_dx DX0_takeSale_0 25 rfl) rfl,
  f_getA (e_dx DX0_takeSale_0 26 rfl) fX0_36 rfl (by decide) (Nat.le_of_ble_eq_true rfl) rfl (by decide),
  f_bipush (e_dx DX0_takeSale_0 27 rfl) ⟨by decide, by decide⟩,
  f_iload_n (n := 2) (e_dx DX0_takeSale_0 28 rfl) rfl,
  x_callV (e_dx DX0_takeSale_0 29 rfl) mwX10_at vwX10_at cX0_152 rfl,
  f_astore_n (n := 3) (e_dx DX0_takeSale_0 30 rfl) rfl (by decide),
  f_aload_n (n := 0) (e_dx DX0_takeSale_0 31 rfl) rfl,
  f_getA (e_dx DX0_takeSale_0 32 rfl) fX0_36 rfl (by decide) (Nat.le_of_ble_eq_true rfl) rfl (by decide),
  f_aload_n (n := 3) (e_dx DX0_takeSale_0 33 rfl) rfl,
  f_getA (e_dx DX0_takeSale_0 34 rfl) fX0_179 rfl (by decide) (Nat.le_of_ble_eq_true rfl) rfl (by decide),
  f_iconst (e_dx DX0_takeSale_0 35 rfl) ⟨by decide, by decide⟩,
  x_callV (e_dx DX0_takeSale_0 36 rfl) mwX8_get vwX8_get cX0_382 rfl,
  x_callV (e_dx DX0_takeSale_0 37 rfl) mwX10_lot vwX10_lot cX0_161 rfl,
  f_astore (e_dx DX0_takeSale_0 38 rfl) (by decide),
  f_aload_n (n := 0) (e_dx DX0_takeSale_0 39 rfl) rfl,
  f_getA (e_dx DX0_takeSale_1 0 rfl) fX0_32 rfl (by decide) (Nat.le_of_ble_eq_true rfl) rfl (by decide),
  f_aload (e_dx DX0_takeSale_1 1 rfl),
  x_callV (e_dx DX0_takeSale_1 2 rfl) mwX4_copyOwners vwX4_copyOwners cX0_232 rfl,
  f_iconst (e_dx DX0_takeSale_1 3 rfl) ⟨by decide, by decide⟩,
  f_istore (e_dx DX0_takeSale_1 4 rfl) (by decide),
  trivial,
  f_iload (e_dx DX0_takeSale_1 5 rfl),
  f_aload_n (n := 3) (e_dx DX0_takeSale_1 6 rfl) rfl,
  f_getA (e_dx DX0_takeSale_1 7 rfl) fX0_327 rfl (by decide) (Nat.le_of_ble_eq_true rfl) rfl (by decide),
  f_getf (e_dx DX0_takeSale_1 8 rfl) fX0_217 rfl (by decide) (by decide) (by decide),
  f_icmp_ge (e_dx DX0_takeSale_1 9 rfl) rfl,
  f_aload_n (n := 3) (e_dx DX0_takeSale_1 10 rfl) rfl,
  f_getL (e_dx DX0_takeSale_1 11 rfl) fX0_291 rfl (by decide),
  f_aload_n (n := 3) (e_dx DX0_takeSale_1 12 rfl) rfl,
  f_getA (e_dx DX0_takeSale_1 13 rfl) fX0_327 rfl (by decide) (Nat.le_of_ble_eq_true rfl) rfl (by decide),
  f_getA (e_dx DX0_takeSale_1 14 rfl) fX0_262 rfl (by decide) (Nat.le_of_ble_eq_true rfl) rfl (by decide),
  f_iload (e_dx DX0_takeSale_1 15 rfl),
  f_laload (e_dx DX0_takeSale_1 16 rfl),
  f_lmul (e_dx DX0_takeSale_1 17 rfl),
  f_g33,
  f_lstore (e_dx DX0_takeSale_1 18 rfl) (by decide),
  f_aload_n (n := 0) (e_dx DX0_takeSale_1 19 rfl) rfl,
  f_getA (e_dx DX0_takeSale_1 20 rfl) fX0_32 rfl (by decide) (Nat.le_of_ble_eq_true rfl) rfl (by decide),
  f_aload_n (n := 3) (e_dx DX0_takeSale_1 21 rfl) rfl,
  f_getA (e_dx DX0_takeSale_1 22 rfl) fX0_293 rfl (by decide) (Nat.le_of_ble_eq_true rfl) rfl (by decide),
  f_iload (e_dx DX0_takeSale_1 23 rfl),
  x_callV (e_dx DX0_takeSale_1 24 rfl) mwX8_get vwX8_get cX0_382 rfl,
  f_lload (e_dx DX0_takeSale_1 25 rfl),
  f_aload_n (n := 3) (e_dx DX0_takeSale_1 26 rfl) rfl,
  f_getL (e_dx DX0_takeSale_1 27 rfl) fX0_292 rfl (by decide),
  f_aload_n (n := 3) (e_dx DX0_takeSale_1 28 rfl) rfl,
  f_getA (e_dx DX0_takeSale_1 29 rfl) fX0_327 rfl (by decide) (Nat.le_of_ble_eq_true rfl) rfl (by decide),
  f_getA (e_dx DX0_takeSale_1 30 rfl) fX0_265 rfl (by decide) (Nat.le_of_ble_eq_true rfl) rfl (by decide),
  f_iload (e_dx DX0_takeSale_1 31 rfl),
  f_laload (e_dx DX0_takeSale_1 32 rfl),
  f_lmul (e_dx DX0_takeSale_1 33 rfl),
  x_callV (e_dx DX0_takeSale_1 34 rfl) mwX4_takeOff vwX4_takeOff cX0_254 rfl,
  f_if_ne (e_dx DX0_takeSale_1 35 rfl) rfl,
  f_bipush (e_dx DX0_takeSale_1 36 rfl) ⟨by decide, by decide⟩,
  ⟨(e_dx DX0_takeSale_1 37 rfl), rfl⟩,
  f_g8 (e_dx DX0_takeSale_1 38 rfl) ⟨by decide, by decide⟩,
  f_g19 (e_dx DX0_takeSale_1 39 rfl) rfl,
  f_aload_n (n := 0) (e_dx DX0_takeSale_2 0 rfl) rfl,
  f_getA (e_dx DX0_takeSale_2 1 rfl) fX0_32 rfl (by decide) (Nat.le_of_ble_eq_true rfl) rfl (by decide),
  f_aload_n (n := 1) (e_dx DX0_takeSale_2 2 rfl) rfl,
  f_getf (e_dx DX0_takeSale_2 3 rfl) fX0_188 rfl (by decide) (by decide) (by decide),
  f_aload_n (n := 3) (e_dx DX0_takeSale_2 4 rfl) rfl,
  f_getL (e_dx DX0_takeSale_2 5 rfl) fX0_291 rfl (by decide),
  f_aload_n (n := 3) (e_dx DX0_takeSale_2 6 rfl) rfl,
  f_getL (e_dx DX0_takeSale_2 7 rfl) fX0_292 rfl (by decide),
  x_callV (e_dx DX0_takeSale_2 8 rfl) mwX4_give vwX4_give cX0_258 rfl,
  f_aload_n (n := 0) (e_dx DX0_takeSale_2 9 rfl) rfl,
  f_getA (e_dx DX0_takeSale_2 10 rfl) fX0_32 rfl (by decide) (Nat.le_of_ble_eq_true rfl) rfl (by decide),
  x_callV (e_dx DX0_takeSale_2 11 rfl) mwX4_isTooFine vwX4_isTooFine cX0_229 rfl,
  f_if_eq (e_dx DX0_takeSale_2 12 rfl) rfl,
  f_bipush (e_dx DX0_takeSale_2 13 rfl) ⟨by decide, by decide⟩,
  ⟨(e_dx DX0_takeSale_2 14 rfl), rfl⟩,
  f_aload_n (n := 0) (e_dx DX0_takeSale_2 15 rfl) rfl,
  f_getA (e_dx DX0_takeSale_2 16 rfl) fX0_32 rfl (by decide) (Nat.le_of_ble_eq_true rfl) rfl (by decide),
  f_getf (e_dx DX0_takeSale_2 17 rfl) fX0_165 rfl (by decide) (by decide) (by decide),
  f_bipush (e_dx DX0_takeSale_2 18 rfl) ⟨by decide, by decide⟩,
  f_icmp_le (e_dx DX0_takeSale_2 19 rfl) rfl,
  f_bipush (e_dx DX0_takeSale_2 20 rfl) ⟨by decide, by decide⟩,
  ⟨(e_dx DX0_takeSale_2 21 rfl), rfl⟩,
  f_aload (e_dx DX0_takeSale_2 22 rfl),
  f_aload_n (n := 0) (e_dx DX0_takeSale_2 23 rfl) rfl,
  f_getA (e_dx DX0_takeSale_2 24 rfl) fX0_32 rfl (by decide) (Nat.le_of_ble_eq_true rfl) rfl (by decide),
  x_callV (e_dx DX0_takeSale_2 25 rfl) mwX4_copyOwners vwX4_copyOwners cX0_232 rfl,
  f_aload_n (n := 3) (e_dx DX0_takeSale_2 26 rfl) rfl,
  f_iconst (e_dx DX0_takeSale_2 27 rfl) ⟨by decide, by decide⟩,
  f_putn (e_dx DX0_takeSale_2 28 rfl) fX0_437 (fun q hq => by cases hq; rfl) rfl (Or.inr (Or.inl rfl)) (by decide),
  f_iconst (e_dx DX0_takeSale_2 29 rfl) ⟨by decide, by decide⟩,
  ⟨(e_dx DX0_takeSale_2 30 rfl), rfl⟩, trivial⟩
def lX0_takeSale (c_X10_at : Nat → Int → Int → e_M → (Nat → Prop) → Prop) (c_X10_isAble : Nat → Int → e_M → (Int → Prop) → Prop) (c_X0_latestSale : Nat → e_M → (Int → Prop) → Prop) (c_X8_get : Nat → Int → e_M → (Int → Prop) → Prop) (c_X10_lot : Nat → Int → e_M → (Nat → Prop) → Prop) (c_X4_copyOwners : Nat → Nat → e_M → (e_M → Prop) → Prop) (c_X4_takeOff : Nat → Int → Int → Int → e_M → (Int → e_M → Prop) → Prop) (c_X4_give : Nat → Int → Int → Int → e_M → (e_M → Prop) → Prop) (c_X4_isTooFine : Nat → e_M → (Int → Prop) → Prop) : List (Nat × f_Wt) := [(0, f_wm [(3, 10, 15), (1, 0, 0), (1, 0, 0)] (fun ar M R => c_X10_at (f_va (f_nth ar 0)) (f_vi (f_nth ar 1)) (f_vi (f_nth ar 2)) M (fun r => R (some (.inr (.inr (.inl (9, 14, r))))) M))), (1, f_wm [(3, 10, 15), (1, 0, 0)] (fun ar M R => c_X10_isAble (f_va (f_nth ar 0)) (f_vi (f_nth ar 1)) M (fun r => R (some (.inl r)) M))), (2, f_wm [(4433, 0, 7), (3, 9, 14)] (fun ar M R => c_X0_latestSale (f_va (f_nth ar 1)) M (fun r => R (some (.inl r)) M))), (3, f_wm [(3, 8, 2), (1, 0, 0)] (fun ar M R => c_X8_get (f_va (f_nth ar 0)) (f_vi (f_nth ar 1)) M (fun r => R (some (.inl r)) M))), (4, f_wm [(3, 10, 15), (1, 0, 0)] (fun ar M R => c_X10_lot (f_va (f_nth ar 0)) (f_vi (f_nth ar 1)) M (fun r => R (some (.inr (.inr (.inl (4, 9, r))))) M))), (5, f_wm [(3, 4, 9), (3, 4, 9)] (fun ar M R => c_X4_copyOwners (f_va (f_nth ar 0)) (f_va (f_nth ar 1)) M (fun M => R none M))), (6, f_wm [(3, 4, 9), (1, 0, 0), (2, 0, 0), (2, 0, 0)] (fun ar M R => c_X4_takeOff (f_va (f_nth ar 0)) (f_vi (f_nth ar 1)) (f_vi (f_nth ar 2)) (f_vi (f_nth ar 3)) M (fun r M => R (some (.inl r)) M))), (7, f_wm [(3, 4, 9), (1, 0, 0), (2, 0, 0), (2, 0, 0)] (fun ar M R => c_X4_give (f_va (f_nth ar 0)) (f_vi (f_nth ar 1)) (f_vi (f_nth ar 2)) (f_vi (f_nth ar 3)) M (fun M => R none M))), (8, f_wm [(3, 4, 9)] (fun ar M R => c_X4_isTooFine (f_va (f_nth ar 0)) M (fun r => R (some (.inl r)) M)))]
set_option maxRecDepth 20000 in
theorem BX0_takeSale_85 {sh : Nat → Nat × Nat} {t : Nat} {rm : Nat × Nat × Nat} {cs : Nat × Nat} {R : f_Rt} {c_X10_at : Nat → Int → Int → e_M → (Nat → Prop) → Prop} {c_X10_isAble : Nat → Int → e_M → (Int → Prop) → Prop} {c_X0_latestSale : Nat → e_M → (Int → Prop) → Prop} {c_X8_get : Nat → Int → e_M → (Int → Prop) → Prop} {c_X10_lot : Nat → Int → e_M → (Nat → Prop) → Prop} {c_X4_copyOwners : Nat → Nat → e_M → (e_M → Prop) → Prop} {c_X4_takeOff : Nat → Int → Int → Int → e_M → (Int → e_M → Prop) → Prop} {c_X4_give : Nat → Int → Int → Int → e_M → (e_M → Prop) → Prop} {c_X4_isTooFine : Nat → e_M → (Int → Prop) → Prop} {k85 : Nat → Nat → Nat → Int → e_M → Prop} {a1 : Nat} {a3 : Nat} {a4 : Nat} {x5 : Int} {M : e_M} (C : f_Hy sh t yX0_takeSale rm cs 7 (lX0_takeSale c_X10_at c_X10_isAble c_X0_latestSale c_X8_get c_X10_lot c_X4_copyOwners c_X4_takeOff c_X4_give c_X4_isTooFine) R) (h85 : ∀ (a1 : Nat) (a3 : Nat) (a4 : Nat) (x5 : Int) (M : e_M), k85 a1 a3 a4 x5 M → f_E sh t YX0_takeSale rm cs (f_Q sh t R) 85 [.inr (.inr (.inl (0, 7, 4423))), .inr (.inr (.inl (9, 14, a1))), .inr (.inr (.inr ())), .inr (.inr (.inl (9, 14, a3))), .inr (.inr (.inl (4, 9, a4))), .inl x5, .inr (.inr (.inr ())), .inr (.inr (.inr ()))] [] M) (h : VX0_takeSale_85 c_X10_at c_X10_isAble c_X0_latestSale c_X8_get c_X10_lot c_X4_copyOwners c_X4_takeOff c_X4_give c_X4_isTooFine k85 (fun r M => R (some (.inl r)) M) a1 a3 a4 x5 M) : f_E sh t YX0_takeSale rm cs (f_Q sh t R) 85 [.inr (.inr (.inl (0, 7, 4423))), .inr (.inr (.inl (9, 14, a1))), .inr (.inr (.inr ())), .inr (.inr (.inl (9, 14, a3))), .inr (.inr (.inl (4, 9, a4))), .inl x5, .inr (.inr (.inr ())), .inr (.inr (.inr ()))] [] M :=
  f_go (KC := f_kc [(85, f_pl [(4433, 0, 7), (3, 9, 14), (0, 0, 0), (3, 9, 14), (3, 4, 9), (1, 0, 0), (0, 0, 0), (0, 0, 0)] [] (fun ls st M => k85 (f_va (f_nth ls 1)) (f_va (f_nth ls 3)) (f_va (f_nth ls 4)) (f_vi (f_nth ls 5)) M))]) C qX0_takeSalef (f_kc_cons (f_pl_ok rfl (fun ls st M h => h85 _ _ _ _ M h)) f_kc_nil) 115 46 h
set_option maxRecDepth 20000 in
theorem BX0_takeSale {sh : Nat → Nat × Nat} {t : Nat} {rm : Nat × Nat × Nat} {cs : Nat × Nat} {R : f_Rt} {c_X10_at : Nat → Int → Int → e_M → (Nat → Prop) → Prop} {c_X10_isAble : Nat → Int → e_M → (Int → Prop) → Prop} {c_X0_latestSale : Nat → e_M → (Int → Prop) → Prop} {c_X8_get : Nat → Int → e_M → (Int → Prop) → Prop} {c_X10_lot : Nat → Int → e_M → (Nat → Prop) → Prop} {c_X4_copyOwners : Nat → Nat → e_M → (e_M → Prop) → Prop} {c_X4_takeOff : Nat → Int → Int → Int → e_M → (Int → e_M → Prop) → Prop} {c_X4_give : Nat → Int → Int → Int → e_M → (e_M → Prop) → Prop} {c_X4_isTooFine : Nat → e_M → (Int → Prop) → Prop} {k85 : Nat → Nat → Nat → Int → e_M → Prop} {M : e_M} (C : f_Hy sh t yX0_takeSale rm cs 7 (lX0_takeSale c_X10_at c_X10_isAble c_X0_latestSale c_X8_get c_X10_lot c_X4_copyOwners c_X4_takeOff c_X4_give c_X4_isTooFine) R) (h85 : ∀ (a1 : Nat) (a3 : Nat) (a4 : Nat) (x5 : Int) (M : e_M), k85 a1 a3 a4 x5 M → f_E sh t YX0_takeSale rm cs (f_Q sh t R) 85 [.inr (.inr (.inl (0, 7, 4423))), .inr (.inr (.inl (9, 14, a1))), .inr (.inr (.inr ())), .inr (.inr (.inl (9, 14, a3))), .inr (.inr (.inl (4, 9, a4))), .inl x5, .inr (.inr (.inr ())), .inr (.inr (.inr ()))] [] M) (h : VX0_takeSale c_X10_at c_X10_isAble c_X0_latestSale c_X8_get c_X10_lot c_X4_copyOwners c_X4_takeOff c_X4_give c_X4_isTooFine k85 (fun r M => R (some (.inl r)) M) M) : f_E sh t YX0_takeSale rm cs (f_Q sh t R) 0 [.inr (.inr (.inl (0, 7, 4423))), .inr (.inr (.inr ())), .inr (.inr (.inr ())), .inr (.inr (.inr ())), .inr (.inr (.inr ())), .inr (.inr (.inr ())), .inr (.inr (.inr ())), .inr (.inr (.inr ()))] [] M :=
  f_go (KC := f_kc [(85, f_pl [(4433, 0, 7), (3, 9, 14), (0, 0, 0), (3, 9, 14), (3, 4, 9), (1, 0, 0), (0, 0, 0), (0, 0, 0)] [] (fun ls st M => k85 (f_va (f_nth ls 1)) (f_va (f_nth ls 3)) (f_va (f_nth ls 4)) (f_vi (f_nth ls 5)) M))]) C qX0_takeSalef (f_kc_cons (f_pl_ok rfl (fun ls st M h => h85 _ _ _ _ M h)) f_kc_nil) 115 0 h
def WX0_takeSale_85 (Q : Int → e_M → Prop) : Nat → Nat → Nat → Nat → Int → e_M → Prop
  | 0, _, _, _, _, _ => False
  | n + 1, a1, a3, a4, x5, M =>
    VX0_takeSale_85 WX10_at WX10_isAble WX0_latestSale WX8_get WX10_lot WX4_copyOwners WX4_takeOff WX4_give WX4_isTooFine (WX0_takeSale_85 Q n) Q a1 a3 a4 x5 M
def WX0_takeSale (M : e_M) (Q : Int → e_M → Prop) : Prop :=
  VX0_takeSale WX10_at WX10_isAble WX0_latestSale WX8_get WX10_lot WX4_copyOwners WX4_takeOff WX4_give WX4_isTooFine (fun a1 a3 a4 x5 M => ∃ j, WX0_takeSale_85 Q j a1 a3 a4 x5 M) Q M
theorem PX0_takeSale_85 {sh : Nat → Nat × Nat} {t : Nat} {rm : Nat × Nat × Nat} {cs : Nat × Nat} {R : f_Rt} (C : f_Hy sh t yX0_takeSale rm cs 7 (lX0_takeSale WX10_at WX10_isAble WX0_latestSale WX8_get WX10_lot WX4_copyOwners WX4_takeOff WX4_give WX4_isTooFine) R) : ∀ (n : Nat) (a1 : Nat) (a3 : Nat) (a4 : Nat) (x5 : Int) (M : e_M), WX0_takeSale_85 (fun r M => R (some (.inl r)) M) n a1 a3 a4 x5 M → f_E sh t YX0_takeSale rm cs (f_Q sh t R) 85 [.inr (.inr (.inl (0, 7, 4423))), .inr (.inr (.inl (9, 14, a1))), .inr (.inr (.inr ())), .inr (.inr (.inl (9, 14, a3))), .inr (.inr (.inl (4, 9, a4))), .inl x5, .inr (.inr (.inr ())), .inr (.inr (.inr ()))] [] M := by
  intro n
  induction n with
  | zero => intro a1 a3 a4 x5 M h; exact h.elim
  | succ n ih => intro a1 a3 a4 x5 M h; exact BX0_takeSale_85 C ih h
theorem PX0_takeSale {sh : Nat → Nat × Nat} {t : Nat} {rm : Nat × Nat × Nat} {cs : Nat × Nat} {R : f_Rt} {M : e_M} (C : f_Hy sh t yX0_takeSale rm cs 7 (lX0_takeSale WX10_at WX10_isAble WX0_latestSale WX8_get WX10_lot WX4_copyOwners WX4_takeOff WX4_give WX4_isTooFine) R) (h : WX0_takeSale M (fun r M => R (some (.inl r)) M)) : f_E sh t YX0_takeSale rm cs (f_Q sh t R) 0 [.inr (.inr (.inl (0, 7, 4423))), .inr (.inr (.inr ())), .inr (.inr (.inr ())), .inr (.inr (.inr ())), .inr (.inr (.inr ())), .inr (.inr (.inr ())), .inr (.inr (.inr ())), .inr (.inr (.inr ()))] [] M :=
  BX0_takeSale C (fun a1 a3 a4 x5 M ⟨j, h⟩ => PX0_takeSale_85 C j _ _ _ _ _ h) h
def wX0_takeSale : f_Wt := f_wm [(4433, 0, 7)] (fun ar M R => WX0_takeSale M (fun r M => R (some (.inl r)) M))
theorem TX0_takeSale {sh : Nat → Nat × Nat} {t : Nat} : f_Mt sh t YX0_takeSale 7 (wX0_takeSale) :=
  f_Mt_of (k := 7) (Nat.le_of_ble_eq_true rfl) rfl rfl (fun ar M R rm cs h1 h2 h3 hX h => PX0_takeSale ⟨Nat.le_of_ble_eq_true rfl, h1, h2, h3, ⟨(f_Mt.up (Nat.le_of_ble_eq_true rfl) TX10_at), (f_Mt.up (Nat.le_of_ble_eq_true rfl) TX10_isAble), (f_Mt.up (Nat.le_of_ble_eq_true rfl) TX0_latestSale), (f_Mt.up (Nat.le_of_ble_eq_true rfl) TX8_get), (f_Mt.up (Nat.le_of_ble_eq_true rfl) TX10_lot), (f_Mt.up (Nat.le_of_ble_eq_true rfl) TX4_copyOwners), (f_Mt.up (Nat.le_of_ble_eq_true rfl) TX4_takeOff), (f_Mt.up (Nat.le_of_ble_eq_true rfl) TX4_give), (f_Mt.up (Nat.le_of_ble_eq_true rfl) TX4_isTooFine), trivial⟩, hX⟩ h)
def VX0_endTerm (c_X10_at : Nat → Int → Int → e_M → (Nat → Prop) → Prop) (c_X10_isAble : Nat → Int → e_M → (Int → Prop) → Prop) (Q : Int → e_M → Prop) (M : e_M) : Prop :=
  ((0 ≤ (0 : Int) ∧ (0 : Int) < 8) ∧ ((0 ≤ (0 : Int) ∧ (0 : Int) < 8) ∧ (c_X10_at ((M 4423 0).toNat) (M 4424 ((0 : Int).toNat)) (M 4425 ((0 : Int).toNat)) M (fun r1 => (c_X10_isAble ((M 4423 0).toNat) (M r1 5) M (fun r2 => ((¬ r2 = 0 → (((1 : Int) = 0 ∨ (1 : Int) = 1) ∧ (∀ M3 : e_M, M3 = e_up M r1 2 1 → (Q 0 M3)))) ∧ (r2 = 0 → (Q 2 M)))))))))
def yX0_endTerm (i : Nat) : e_Y := x_get YX0_endTerm [YX10_at, YX10_isAble] i
def pX0_endTermf : List x_I := [(0, 4, 1, 0, 0, 0, []), (1, 25, 0, 0, 4, 0, [(0, 10, 15), (0, 0, 0)]), (4, 4, 1, 0, 0, 0, []), (5, 25, 0, 3, 4, 0, [(0, 20, 8), (0, 1, 1)]), (8, 0, 1, 0, 0, 0, []), (9, 27, 0, 0, 0, 0, []), (10, 4, 1, 0, 0, 0, []), (11, 25, 0, 4, 4, 0, [(0, 20, 8), (0, 1, 2)]), (14, 0, 1, 0, 0, 0, []), (15, 27, 0, 0, 0, 0, []), (16, 40, 0, 3, 12, 0, []), (19, 7, 1, 1, 0, 0, []), (20, 4, 1, 0, 0, 0, []), (21, 25, 0, 0, 4, 0, [(0, 10, 15), (0, 0, 0)]), (24, 4, 1, 1, 0, 0, []), (25, 25, 9, 5, 0, 0, []), (28, 40, 1, 2, 12, 0, []), (31, 17, 36, 1, 21, 0, []), (34, 0, 1, 0, 0, 2, []), (35, 41, 0, 0, 0, 0, []), (36, 4, 1, 1, 0, 0, []), (37, 0, 1, 0, 0, 1, []), (38, 26, 9, 2, 1, 0, []), (41, 0, 1, 0, 0, 0, []), (42, 41, 0, 0, 0, 0, [])]
set_option maxRecDepth 20000 in
theorem qX0_endTermf : f_all yX0_endTerm YX0_endTerm pX0_endTermf :=
  ⟨f_aload_n (n := 0) (e_dx DX0_endTerm_0 0 rfl) rfl,
  f_getA (e_dx DX0_endTerm_0 1 rfl) fX0_36 rfl (by decide) (Nat.le_of_ble_eq_true rfl) rfl (by decide),
  f_aload_n (n := 0) (e_dx DX0_endTerm_0 2 rfl) rfl,
  f_getA (e_dx DX0_endTerm_0 3 rfl) fX0_15 rfl (by decide) (Nat.le_of_ble_eq_true rfl) rfl (by decide),
  f_iconst (e_dx DX0_endTerm_0 4 rfl) ⟨by decide, by decide⟩,
  f_iaload (e_dx DX0_endTerm_0 5 rfl),
  f_aload_n (n := 0) (e_dx DX0_endTerm_0 6 rfl) rfl,
  f_getA (e_dx DX0_endTerm_0 7 rfl) fX0_19 rfl (by decide) (Nat.le_of_ble_eq_true rfl) rfl (by decide),
  f_iconst (e_dx DX0_endTerm_0 8 rfl) ⟨by decide, by decide⟩,
  f_iaload (e_dx DX0_endTerm_0 9 rfl),
  x_callV (e_dx DX0_endTerm_0 10 rfl) mwX10_at vwX10_at cX0_152 rfl,
  f_astore_n (n := 1) (e_dx DX0_endTerm_0 11 rfl) rfl (by decide),
  f_aload_n (n := 0) (e_dx DX0_endTerm_0 12 rfl) rfl,
  f_getA (e_dx DX0_endTerm_0 13 rfl) fX0_36 rfl (by decide) (Nat.le_of_ble_eq_true rfl) rfl (by decide),
  f_aload_n (n := 1) (e_dx DX0_endTerm_0 14 rfl) rfl,
  f_getf (e_dx DX0_endTerm_0 15 rfl) fX0_188 rfl (by decide) (by decide) (by decide),
  x_callV (e_dx DX0_endTerm_0 16 rfl) mwX10_isAble vwX10_isAble cX0_171 rfl,
  f_if_ne (e_dx DX0_endTerm_0 17 rfl) rfl,
  f_iconst (e_dx DX0_endTerm_0 18 rfl) ⟨by decide, by decide⟩,
  ⟨(e_dx DX0_endTerm_0 19 rfl), rfl⟩,
  f_aload_n (n := 1) (e_dx DX0_endTerm_0 20 rfl) rfl,
  f_iconst (e_dx DX0_endTerm_0 21 rfl) ⟨by decide, by decide⟩,
  f_putn (e_dx DX0_endTerm_0 22 rfl) fX0_240 (fun q hq => by cases hq; rfl) rfl (Or.inr (Or.inl rfl)) (by decide),
  f_iconst (e_dx DX0_endTerm_0 23 rfl) ⟨by decide, by decide⟩,
  ⟨(e_dx DX0_endTerm_0 24 rfl), rfl⟩, trivial⟩
def lX0_endTerm (c_X10_at : Nat → Int → Int → e_M → (Nat → Prop) → Prop) (c_X10_isAble : Nat → Int → e_M → (Int → Prop) → Prop) : List (Nat × f_Wt) := [(0, f_wm [(3, 10, 15), (1, 0, 0), (1, 0, 0)] (fun ar M R => c_X10_at (f_va (f_nth ar 0)) (f_vi (f_nth ar 1)) (f_vi (f_nth ar 2)) M (fun r => R (some (.inr (.inr (.inl (9, 14, r))))) M))), (1, f_wm [(3, 10, 15), (1, 0, 0)] (fun ar M R => c_X10_isAble (f_va (f_nth ar 0)) (f_vi (f_nth ar 1)) M (fun r => R (some (.inl r)) M)))]
set_option maxRecDepth 20000 in
theorem BX0_endTerm {sh : Nat → Nat × Nat} {t : Nat} {rm : Nat × Nat × Nat} {cs : Nat × Nat} {R : f_Rt} {c_X10_at : Nat → Int → Int → e_M → (Nat → Prop) → Prop} {c_X10_isAble : Nat → Int → e_M → (Int → Prop) → Prop} {M : e_M} (C : f_Hy sh t yX0_endTerm rm cs 7 (lX0_endTerm c_X10_at c_X10_isAble) R) (h : VX0_endTerm c_X10_at c_X10_isAble (fun r M => R (some (.inl r)) M) M) : f_E sh t YX0_endTerm rm cs (f_Q sh t R) 0 [.inr (.inr (.inl (0, 7, 4423))), .inr (.inr (.inr ()))] [] M :=
  f_go (KC := f_kc []) C qX0_endTermf f_kc_nil 27 0 h
def WX0_endTerm (M : e_M) (Q : Int → e_M → Prop) : Prop :=
  VX0_endTerm WX10_at WX10_isAble Q M
theorem PX0_endTerm {sh : Nat → Nat × Nat} {t : Nat} {rm : Nat × Nat × Nat} {cs : Nat × Nat} {R : f_Rt} {M : e_M} (C : f_Hy sh t yX0_endTerm rm cs 7 (lX0_endTerm WX10_at WX10_isAble) R) (h : WX0_endTerm M (fun r M => R (some (.inl r)) M)) : f_E sh t YX0_endTerm rm cs (f_Q sh t R) 0 [.inr (.inr (.inl (0, 7, 4423))), .inr (.inr (.inr ()))] [] M :=
  BX0_endTerm C h
def wX0_endTerm : f_Wt := f_wm [(4433, 0, 7)] (fun ar M R => WX0_endTerm M (fun r M => R (some (.inl r)) M))
theorem TX0_endTerm {sh : Nat → Nat × Nat} {t : Nat} : f_Mt sh t YX0_endTerm 7 (wX0_endTerm) :=
  f_Mt_of (k := 1) (Nat.le_of_ble_eq_true rfl) rfl rfl (fun ar M R rm cs h1 h2 h3 hX h => PX0_endTerm ⟨Nat.le_of_ble_eq_true rfl, h1, h2, h3, ⟨(f_Mt.up (Nat.le_of_ble_eq_true rfl) TX10_at), (f_Mt.up (Nat.le_of_ble_eq_true rfl) TX10_isAble), trivial⟩, hX⟩ h)
def VX0_perform (c_X0_findNames : e_M → (Int → e_M → Prop) → Prop) (c_X0_makePerson : e_M → (Int → e_M → Prop) → Prop) (c_X0_makeFirm : e_M → (Int → e_M → Prop) → Prop) (c_X0_guard : e_M → (Int → e_M → Prop) → Prop) (c_X0_die : e_M → (Int → e_M → Prop) → Prop) (c_X0_closeFirm : e_M → (Int → e_M → Prop) → Prop) (c_X0_sell : e_M → (Int → e_M → Prop) → Prop) (c_X0_split : e_M → (Int → e_M → Prop) → Prop) (c_X0_join : e_M → (Int → e_M → Prop) → Prop) (c_X0_moveBorder : e_M → (Int → e_M → Prop) → Prop) (c_X0_charge : e_M → (Int → e_M → Prop) → Prop) (c_X0_pay : e_M → (Int → e_M → Prop) → Prop) (c_X0_assign : e_M → (Int → e_M → Prop) → Prop) (c_X0_rank : e_M → (Int → e_M → Prop) → Prop) (c_X0_free : e_M → (Int → e_M → Prop) → Prop) (c_X0_auction : e_M → (Int → e_M → Prop) → Prop) (c_X0_serve : e_M → (Int → e_M → Prop) → Prop) (c_X0_waive : e_M → (Int → e_M → Prop) → Prop) (c_X0_lease : e_M → (Int → e_M → Prop) → Prop) (c_X0_caution : e_M → (Int → e_M → Prop) → Prop) (c_X0_option : e_M → (Int → e_M → Prop) → Prop) (c_X0_takeSale : e_M → (Int → e_M → Prop) → Prop) (c_X0_endTerm : e_M → (Int → e_M → Prop) → Prop) (Q : Int → e_M → Prop) (a1 : Nat) (a2 : Nat) (x3 : Int) (M : e_M) : Prop :=
  (∀ M1 : e_M, M1 = e_up M 4423 0 ((a1 : Nat) : Int) → (∀ M2 : e_M, M2 = e_up M1 4423 1 ((a2 : Nat) : Int) → (∀ M3 : e_M, M3 = e_up M2 4423 2 x3 → (∀ M4 : e_M, M4 = e_up M3 ((M3 4423 0).toNat) 11 (M3 ((M3 4423 1).toNat) 4) → (c_X0_findNames M4 (fun r5 M6 => ((¬ r5 = 0 → (((M6 ((M6 4423 1).toNat) 3) = 200 → (c_X0_makePerson M6 (fun r49 M50 => (Q r49 M50)))) ∧ (¬ (M6 ((M6 4423 1).toNat) 3) = 200 → (((M6 ((M6 4423 1).toNat) 3) = 201 → (c_X0_makeFirm M6 (fun r47 M48 => (Q r47 M48)))) ∧ (¬ (M6 ((M6 4423 1).toNat) 3) = 201 → (((M6 ((M6 4423 1).toNat) 3) = 202 → (c_X0_guard M6 (fun r45 M46 => (Q r45 M46)))) ∧ (¬ (M6 ((M6 4423 1).toNat) 3) = 202 → (((M6 ((M6 4423 1).toNat) 3) = 203 → (c_X0_die M6 (fun r43 M44 => (Q r43 M44)))) ∧ (¬ (M6 ((M6 4423 1).toNat) 3) = 203 → (((M6 ((M6 4423 1).toNat) 3) = 204 → (c_X0_closeFirm M6 (fun r41 M42 => (Q r41 M42)))) ∧ (¬ (M6 ((M6 4423 1).toNat) 3) = 204 → (((M6 ((M6 4423 1).toNat) 3) = 205 → (c_X0_sell M6 (fun r39 M40 => (Q r39 M40)))) ∧ (¬ (M6 ((M6 4423 1).toNat) 3) = 205 → (((M6 ((M6 4423 1).toNat) 3) = 206 → (c_X0_split M6 (fun r37 M38 => (Q r37 M38)))) ∧ (¬ (M6 ((M6 4423 1).toNat) 3) = 206 → (((M6 ((M6 4423 1).toNat) 3) = 207 → (c_X0_join M6 (fun r35 M36 => (Q r35 M36)))) ∧ (¬ (M6 ((M6 4423 1).toNat) 3) = 207 → (((M6 ((M6 4423 1).toNat) 3) = 208 → (c_X0_moveBorder M6 (fun r33 M34 => (Q r33 M34)))) ∧ (¬ (M6 ((M6 4423 1).toNat) 3) = 208 → (((M6 ((M6 4423 1).toNat) 3) = 209 → (c_X0_charge M6 (fun r31 M32 => (Q r31 M32)))) ∧ (¬ (M6 ((M6 4423 1).toNat) 3) = 209 → (((M6 ((M6 4423 1).toNat) 3) = 210 → (c_X0_pay M6 (fun r29 M30 => (Q r29 M30)))) ∧ (¬ (M6 ((M6 4423 1).toNat) 3) = 210 → (((M6 ((M6 4423 1).toNat) 3) = 211 → (c_X0_assign M6 (fun r27 M28 => (Q r27 M28)))) ∧ (¬ (M6 ((M6 4423 1).toNat) 3) = 211 → (((M6 ((M6 4423 1).toNat) 3) = 212 → (c_X0_rank M6 (fun r25 M26 => (Q r25 M26)))) ∧ (¬ (M6 ((M6 4423 1).toNat) 3) = 212 → (((M6 ((M6 4423 1).toNat) 3) = 213 → (c_X0_free M6 (fun r23 M24 => (Q r23 M24)))) ∧ (¬ (M6 ((M6 4423 1).toNat) 3) = 213 → (((M6 ((M6 4423 1).toNat) 3) = 214 → (c_X0_auction M6 (fun r21 M22 => (Q r21 M22)))) ∧ (¬ (M6 ((M6 4423 1).toNat) 3) = 214 → (((M6 ((M6 4423 1).toNat) 3) = 215 → (c_X0_serve M6 (fun r19 M20 => (Q r19 M20)))) ∧ (¬ (M6 ((M6 4423 1).toNat) 3) = 215 → (((M6 ((M6 4423 1).toNat) 3) = 216 → (c_X0_waive M6 (fun r17 M18 => (Q r17 M18)))) ∧ (¬ (M6 ((M6 4423 1).toNat) 3) = 216 → (((M6 ((M6 4423 1).toNat) 3) = 217 → (c_X0_lease M6 (fun r15 M16 => (Q r15 M16)))) ∧ (¬ (M6 ((M6 4423 1).toNat) 3) = 217 → (((M6 ((M6 4423 1).toNat) 3) = 218 → (c_X0_caution M6 (fun r13 M14 => (Q r13 M14)))) ∧ (¬ (M6 ((M6 4423 1).toNat) 3) = 218 → (((M6 ((M6 4423 1).toNat) 3) = 219 → (c_X0_option M6 (fun r11 M12 => (Q r11 M12)))) ∧ (¬ (M6 ((M6 4423 1).toNat) 3) = 219 → (((M6 ((M6 4423 1).toNat) 3) = 220 → (c_X0_takeSale M6 (fun r9 M10 => (Q r9 M10)))) ∧ (¬ (M6 ((M6 4423 1).toNat) 3) = 220 → (c_X0_endTerm M6 (fun r7 M8 => (Q r7 M8)))))))))))))))))))))))))))))))))))))))))))))) ∧ (r5 = 0 → (Q 1 M6)))))))))
def yX0_perform (i : Nat) : e_Y := x_get YX0_perform [YX0_findNames, YX0_makePerson, YX0_makeFirm, YX0_guard, YX0_die, YX0_closeFirm, YX0_sell, YX0_split, YX0_join, YX0_moveBorder, YX0_charge, YX0_pay, YX0_assign, YX0_rank, YX0_free, YX0_auction, YX0_serve, YX0_waive, YX0_lease, YX0_caution, YX0_option, YX0_takeSale, YX0_endTerm] i
def pX0_performf : List x_I := [(0, 4, 1, 0, 0, 0, []), (1, 4, 1, 1, 0, 0, []), (2, 26, 0, 0, 4, 0, [(0, 10, 15), (0, 0, 0)]), (5, 4, 1, 0, 0, 0, []), (6, 4, 1, 2, 0, 0, []), (7, 26, 0, 1, 4, 0, [(0, 2, 19), (0, 0, 0)]), (10, 4, 1, 0, 0, 0, []), (11, 2, 1, 3, 0, 0, []), (12, 26, 0, 2, 0, 0, []), (15, 4, 1, 0, 0, 0, []), (16, 25, 0, 0, 4, 0, [(0, 10, 15), (0, 0, 0)]), (19, 4, 1, 0, 0, 0, []), (20, 25, 0, 1, 4, 0, [(0, 2, 19), (0, 0, 0)]), (23, 25, 2, 4, 0, 0, []), (26, 26, 10, 11, 0, 0, []), (29, 4, 1, 0, 0, 0, []), (30, 40, 0, 1, 2, 0, []), (33, 17, 38, 1, 21, 0, []), (36, 0, 1, 0, 0, 1, []), (37, 41, 0, 0, 0, 0, []), (38, 4, 1, 0, 0, 0, []), (39, 25, 0, 1, 4, 0, [(0, 2, 19), (0, 0, 0)]), (42, 25, 2, 3, 0, 0, []), (45, 24, 249, 0, 88, 0, [(200, 144, 25), (201, 149, 28), (202, 154, 31), (203, 159, 34), (204, 164, 37), (205, 169, 40), (206, 174, 43), (207, 179, 46), (208, 184, 49), (209, 189, 52), (210, 194, 55), (211, 199, 58), (212, 204, 61), (213, 209, 64), (214, 214, 67), (215, 219, 70), (216, 224, 73), (217, 229, 76), (218, 234, 79), (219, 239, 82), (220, 244, 85)]), (144, 4, 1, 0, 0, 0, []), (145, 40, 1, 1, 2, 0, []), (148, 41, 0, 0, 0, 0, []), (149, 4, 1, 0, 0, 0, []), (150, 40, 2, 1, 2, 0, []), (153, 41, 0, 0, 0, 0, []), (154, 4, 1, 0, 0, 0, []), (155, 40, 3, 1, 2, 0, []), (158, 41, 0, 0, 0, 0, []), (159, 4, 1, 0, 0, 0, []), (160, 40, 4, 1, 2, 0, []), (163, 41, 0, 0, 0, 0, []), (164, 4, 1, 0, 0, 0, []), (165, 40, 5, 1, 2, 0, []), (168, 41, 0, 0, 0, 0, []), (169, 4, 1, 0, 0, 0, []), (170, 40, 6, 1, 2, 0, []), (173, 41, 0, 0, 0, 0, []), (174, 4, 1, 0, 0, 0, []), (175, 40, 7, 1, 2, 0, []), (178, 41, 0, 0, 0, 0, []), (179, 4, 1, 0, 0, 0, []), (180, 40, 8, 1, 2, 0, []), (183, 41, 0, 0, 0, 0, []), (184, 4, 1, 0, 0, 0, []), (185, 40, 9, 1, 2, 0, []), (188, 41, 0, 0, 0, 0, []), (189, 4, 1, 0, 0, 0, []), (190, 40, 10, 1, 2, 0, []), (193, 41, 0, 0, 0, 0, []), (194, 4, 1, 0, 0, 0, []), (195, 40, 11, 1, 2, 0, []), (198, 41, 0, 0, 0, 0, []), (199, 4, 1, 0, 0, 0, []), (200, 40, 12, 1, 2, 0, []), (203, 41, 0, 0, 0, 0, []), (204, 4, 1, 0, 0, 0, []), (205, 40, 13, 1, 2, 0, []), (208, 41, 0, 0, 0, 0, []), (209, 4, 1, 0, 0, 0, []), (210, 40, 14, 1, 2, 0, []), (213, 41, 0, 0, 0, 0, []), (214, 4, 1, 0, 0, 0, []), (215, 40, 15, 1, 2, 0, []), (218, 41, 0, 0, 0, 0, []), (219, 4, 1, 0, 0, 0, []), (220, 40, 16, 1, 2, 0, []), (223, 41, 0, 0, 0, 0, []), (224, 4, 1, 0, 0, 0, []), (225, 40, 17, 1, 2, 0, []), (228, 41, 0, 0, 0, 0, []), (229, 4, 1, 0, 0, 0, []), (230, 40, 18, 1, 2, 0, []), (233, 41, 0, 0, 0, 0, []), (234, 4, 1, 0, 0, 0, []), (235, 40, 19, 1, 2, 0, []), (238, 41, 0, 0, 0, 0, []), (239, 4, 1, 0, 0, 0, []), (240, 40, 20, 1, 2, 0, []), (243, 41, 0, 0, 0, 0, []), (244, 4, 1, 0, 0, 0, []), (245, 40, 21, 1, 2, 0, []), (248, 41, 0, 0, 0, 0, []), (249, 4, 1, 0, 0, 0, []), (250, 40, 22, 1, 2, 0, []), (253, 41, 0, 0, 0, 0, [])]
set_option maxRecDepth 20000 in
theorem qX0_performf : f_all yX0_perform YX0_perform pX0_performf :=
  ⟨f_aload_n (n := 0) (e_dx DX0_perform_0 0 rfl) rfl,
  f_aload_n (n := 1) (e_dx DX0_perform_0 1 rfl) rfl,
  f_putA (e_dx DX0_perform_0 2 rfl) fX0_36 (fun q hq => by cases hq; rfl) rfl (by decide) rfl,
  f_aload_n (n := 0) (e_dx DX0_perform_0 3 rfl) rfl,
  f_aload_n (n := 2) (e_dx DX0_perform_0 4 rfl) rfl,
  f_putA (e_dx DX0_perform_0 5 rfl) fX0_40 (fun q hq => by cases hq; rfl) rfl (by decide) rfl,
  f_aload_n (n := 0) (e_dx DX0_perform_0 6 rfl) rfl,
  f_iload_n (n := 3) (e_dx DX0_perform_0 7 rfl) rfl,
  f_putn (e_dx DX0_perform_0 8 rfl) fX0_9 (fun q hq => by cases hq; rfl) rfl (Or.inl rfl) (by decide),
  f_aload_n (n := 0) (e_dx DX0_perform_0 9 rfl) rfl,
  f_getA (e_dx DX0_perform_0 10 rfl) fX0_36 rfl (by decide) (Nat.le_of_ble_eq_true rfl) rfl (by decide),
  f_aload_n (n := 0) (e_dx DX0_perform_0 11 rfl) rfl,
  f_getA (e_dx DX0_perform_0 12 rfl) fX0_40 rfl (by decide) (Nat.le_of_ble_eq_true rfl) rfl (by decide),
  f_getf (e_dx DX0_perform_0 13 rfl) fX0_44 rfl (by decide) (by decide) (by decide),
  f_putn (e_dx DX0_perform_0 14 rfl) fX0_49 (fun q hq => by cases hq; rfl) rfl (Or.inl rfl) (by decide),
  f_aload_n (n := 0) (e_dx DX0_perform_0 15 rfl) rfl,
  x_callV (e_dx DX0_perform_0 16 rfl) mwX0_findNames vwX0_findNames cX0_52 rfl,
  f_if_ne (e_dx DX0_perform_0 17 rfl) rfl,
  f_iconst (e_dx DX0_perform_0 18 rfl) ⟨by decide, by decide⟩,
  ⟨(e_dx DX0_perform_0 19 rfl), rfl⟩,
  f_aload_n (n := 0) (e_dx DX0_perform_0 20 rfl) rfl,
  f_getA (e_dx DX0_perform_0 21 rfl) fX0_40 rfl (by decide) (Nat.le_of_ble_eq_true rfl) rfl (by decide),
  f_getf (e_dx DX0_perform_0 22 rfl) fX0_56 rfl (by decide) (by decide) (by decide),
  f_tsw (e_dx DX0_perform_0 23 rfl) rfl rfl (by decide) rfl,
  f_aload_n (n := 0) (e_dx DX0_perform_0 24 rfl) rfl,
  x_callV (e_dx DX0_perform_0 25 rfl) mwX0_makePerson vwX0_makePerson cX0_59 rfl,
  ⟨(e_dx DX0_perform_0 26 rfl), rfl⟩,
  f_aload_n (n := 0) (e_dx DX0_perform_0 27 rfl) rfl,
  x_callV (e_dx DX0_perform_0 28 rfl) mwX0_makeFirm vwX0_makeFirm cX0_63 rfl,
  ⟨(e_dx DX0_perform_0 29 rfl), rfl⟩,
  f_aload_n (n := 0) (e_dx DX0_perform_0 30 rfl) rfl,
  x_callV (e_dx DX0_perform_0 31 rfl) mwX0_guard vwX0_guard cX0_66 rfl,
  ⟨(e_dx DX0_perform_0 32 rfl), rfl⟩,
  f_aload_n (n := 0) (e_dx DX0_perform_0 33 rfl) rfl,
  x_callV (e_dx DX0_perform_0 34 rfl) mwX0_die vwX0_die cX0_69 rfl,
  ⟨(e_dx DX0_perform_0 35 rfl), rfl⟩,
  f_aload_n (n := 0) (e_dx DX0_perform_0 36 rfl) rfl,
  x_callV (e_dx DX0_perform_0 37 rfl) mwX0_closeFirm vwX0_closeFirm cX0_72 rfl,
  ⟨(e_dx DX0_perform_0 38 rfl), rfl⟩,
  f_aload_n (n := 0) (e_dx DX0_perform_0 39 rfl) rfl,
  x_callV (e_dx DX0_perform_1 0 rfl) mwX0_sell vwX0_sell cX0_75 rfl,
  ⟨(e_dx DX0_perform_1 1 rfl), rfl⟩,
  f_aload_n (n := 0) (e_dx DX0_perform_1 2 rfl) rfl,
  x_callV (e_dx DX0_perform_1 3 rfl) mwX0_split vwX0_split cX0_78 rfl,
  ⟨(e_dx DX0_perform_1 4 rfl), rfl⟩,
  f_aload_n (n := 0) (e_dx DX0_perform_1 5 rfl) rfl,
  x_callV (e_dx DX0_perform_1 6 rfl) mwX0_join vwX0_join cX0_81 rfl,
  ⟨(e_dx DX0_perform_1 7 rfl), rfl⟩,
  f_aload_n (n := 0) (e_dx DX0_perform_1 8 rfl) rfl,
  x_callV (e_dx DX0_perform_1 9 rfl) mwX0_moveBorder vwX0_moveBorder cX0_84 rfl,
  ⟨(e_dx DX0_perform_1 10 rfl), rfl⟩,
  f_aload_n (n := 0) (e_dx DX0_perform_1 11 rfl) rfl,
  x_callV (e_dx DX0_perform_1 12 rfl) mwX0_charge vwX0_charge cX0_87 rfl,
  ⟨(e_dx DX0_perform_1 13 rfl), rfl⟩,
  f_aload_n (n := 0) (e_dx DX0_perform_1 14 rfl) rfl,
  x_callV (e_dx DX0_perform_1 15 rfl) mwX0_pay vwX0_pay cX0_90 rfl,
  ⟨(e_dx DX0_perform_1 16 rfl), rfl⟩,
  f_aload_n (n := 0) (e_dx DX0_perform_1 17 rfl) rfl,
  x_callV (e_dx DX0_perform_1 18 rfl) mwX0_assign vwX0_assign cX0_93 rfl,
  ⟨(e_dx DX0_perform_1 19 rfl), rfl⟩,
  f_aload_n (n := 0) (e_dx DX0_perform_1 20 rfl) rfl,
  x_callV (e_dx DX0_perform_1 21 rfl) mwX0_rank vwX0_rank cX0_96 rfl,
  ⟨(e_dx DX0_perform_1 22 rfl), rfl⟩,
  f_aload_n (n := 0) (e_dx DX0_perform_1 23 rfl) rfl,
  x_callV (e_dx DX0_perform_1 24 rfl) mwX0_free vwX0_free cX0_99 rfl,
  ⟨(e_dx DX0_perform_1 25 rfl), rfl⟩,
  f_aload_n (n := 0) (e_dx DX0_perform_1 26 rfl) rfl,
  x_callV (e_dx DX0_perform_1 27 rfl) mwX0_auction vwX0_auction cX0_102 rfl,
  ⟨(e_dx DX0_perform_1 28 rfl), rfl⟩,
  f_aload_n (n := 0) (e_dx DX0_perform_1 29 rfl) rfl,
  x_callV (e_dx DX0_perform_1 30 rfl) mwX0_serve vwX0_serve cX0_105 rfl,
  ⟨(e_dx DX0_perform_1 31 rfl), rfl⟩,
  f_aload_n (n := 0) (e_dx DX0_perform_1 32 rfl) rfl,
  x_callV (e_dx DX0_perform_1 33 rfl) mwX0_waive vwX0_waive cX0_108 rfl,
  ⟨(e_dx DX0_perform_1 34 rfl), rfl⟩,
  f_aload_n (n := 0) (e_dx DX0_perform_1 35 rfl) rfl,
  x_callV (e_dx DX0_perform_1 36 rfl) mwX0_lease vwX0_lease cX0_111 rfl,
  ⟨(e_dx DX0_perform_1 37 rfl), rfl⟩,
  f_aload_n (n := 0) (e_dx DX0_perform_1 38 rfl) rfl,
  x_callV (e_dx DX0_perform_1 39 rfl) mwX0_caution vwX0_caution cX0_114 rfl,
  ⟨(e_dx DX0_perform_2 0 rfl), rfl⟩,
  f_aload_n (n := 0) (e_dx DX0_perform_2 1 rfl) rfl,
  x_callV (e_dx DX0_perform_2 2 rfl) mwX0_option vwX0_option cX0_117 rfl,
  ⟨(e_dx DX0_perform_2 3 rfl), rfl⟩,
  f_aload_n (n := 0) (e_dx DX0_perform_2 4 rfl) rfl,
  x_callV (e_dx DX0_perform_2 5 rfl) mwX0_takeSale vwX0_takeSale cX0_120 rfl,
  ⟨(e_dx DX0_perform_2 6 rfl), rfl⟩,
  f_aload_n (n := 0) (e_dx DX0_perform_2 7 rfl) rfl,
  x_callV (e_dx DX0_perform_2 8 rfl) mwX0_endTerm vwX0_endTerm cX0_123 rfl,
  ⟨(e_dx DX0_perform_2 9 rfl), rfl⟩, trivial⟩
def lX0_perform (c_X0_findNames : e_M → (Int → e_M → Prop) → Prop) (c_X0_makePerson : e_M → (Int → e_M → Prop) → Prop) (c_X0_makeFirm : e_M → (Int → e_M → Prop) → Prop) (c_X0_guard : e_M → (Int → e_M → Prop) → Prop) (c_X0_die : e_M → (Int → e_M → Prop) → Prop) (c_X0_closeFirm : e_M → (Int → e_M → Prop) → Prop) (c_X0_sell : e_M → (Int → e_M → Prop) → Prop) (c_X0_split : e_M → (Int → e_M → Prop) → Prop) (c_X0_join : e_M → (Int → e_M → Prop) → Prop) (c_X0_moveBorder : e_M → (Int → e_M → Prop) → Prop) (c_X0_charge : e_M → (Int → e_M → Prop) → Prop) (c_X0_pay : e_M → (Int → e_M → Prop) → Prop) (c_X0_assign : e_M → (Int → e_M → Prop) → Prop) (c_X0_rank : e_M → (Int → e_M → Prop) → Prop) (c_X0_free : e_M → (Int → e_M → Prop) → Prop) (c_X0_auction : e_M → (Int → e_M → Prop) → Prop) (c_X0_serve : e_M → (Int → e_M → Prop) → Prop) (c_X0_waive : e_M → (Int → e_M → Prop) → Prop) (c_X0_lease : e_M → (Int → e_M → Prop) → Prop) (c_X0_caution : e_M → (Int → e_M → Prop) → Prop) (c_X0_option : e_M → (Int → e_M → Prop) → Prop) (c_X0_takeSale : e_M → (Int → e_M → Prop) → Prop) (c_X0_endTerm : e_M → (Int → e_M → Prop) → Prop) : List (Nat × f_Wt) := [(0, f_wm [(4433, 0, 7)] (fun ar M R => c_X0_findNames  M (fun r M => R (some (.inl r)) M))), (1, f_wm [(4433, 0, 7)] (fun ar M R => c_X0_makePerson  M (fun r M => R (some (.inl r)) M))), (2, f_wm [(4433, 0, 7)] (fun ar M R => c_X0_makeFirm  M (fun r M => R (some (.inl r)) M))), (3, f_wm [(4433, 0, 7)] (fun ar M R => c_X0_guard  M (fun r M => R (some (.inl r)) M))), (4, f_wm [(4433, 0, 7)] (fun ar M R => c_X0_die  M (fun r M => R (some (.inl r)) M))), (5, f_wm [(4433, 0, 7)] (fun ar M R => c_X0_closeFirm  M (fun r M => R (some (.inl r)) M))), (6, f_wm [(4433, 0, 7)] (fun ar M R => c_X0_sell  M (fun r M => R (some (.inl r)) M))), (7, f_wm [(4433, 0, 7)] (fun ar M R => c_X0_split  M (fun r M => R (some (.inl r)) M))), (8, f_wm [(4433, 0, 7)] (fun ar M R => c_X0_join  M (fun r M => R (some (.inl r)) M))), (9, f_wm [(4433, 0, 7)] (fun ar M R => c_X0_moveBorder  M (fun r M => R (some (.inl r)) M))), (10, f_wm [(4433, 0, 7)] (fun ar M R => c_X0_charge  M (fun r M => R (some (.inl r)) M))), (11, f_wm [(4433, 0, 7)] (fun ar M R => c_X0_pay  M (fun r M => R (some (.inl r)) M))), (12, f_wm [(4433, 0, 7)] (fun ar M R => c_X0_assign  M (fun r M => R (some (.inl r)) M))), (13, f_wm [(4433, 0, 7)] (fun ar M R => c_X0_rank  M (fun r M => R (some (.inl r)) M))), (14, f_wm [(4433, 0, 7)] (fun ar M R => c_X0_free  M (fun r M => R (some (.inl r)) M))), (15, f_wm [(4433, 0, 7)] (fun ar M R => c_X0_auction  M (fun r M => R (some (.inl r)) M))), (16, f_wm [(4433, 0, 7)] (fun ar M R => c_X0_serve  M (fun r M => R (some (.inl r)) M))), (17, f_wm [(4433, 0, 7)] (fun ar M R => c_X0_waive  M (fun r M => R (some (.inl r)) M))), (18, f_wm [(4433, 0, 7)] (fun ar M R => c_X0_lease  M (fun r M => R (some (.inl r)) M))), (19, f_wm [(4433, 0, 7)] (fun ar M R => c_X0_caution  M (fun r M => R (some (.inl r)) M))), (20, f_wm [(4433, 0, 7)] (fun ar M R => c_X0_option  M (fun r M => R (some (.inl r)) M))), (21, f_wm [(4433, 0, 7)] (fun ar M R => c_X0_takeSale  M (fun r M => R (some (.inl r)) M))), (22, f_wm [(4433, 0, 7)] (fun ar M R => c_X0_endTerm  M (fun r M => R (some (.inl r)) M)))]
set_option maxRecDepth 20000 in
theorem BX0_perform {sh : Nat → Nat × Nat} {t : Nat} {rm : Nat × Nat × Nat} {cs : Nat × Nat} {R : f_Rt} {c_X0_findNames : e_M → (Int → e_M → Prop) → Prop} {c_X0_makePerson : e_M → (Int → e_M → Prop) → Prop} {c_X0_makeFirm : e_M → (Int → e_M → Prop) → Prop} {c_X0_guard : e_M → (Int → e_M → Prop) → Prop} {c_X0_die : e_M → (Int → e_M → Prop) → Prop} {c_X0_closeFirm : e_M → (Int → e_M → Prop) → Prop} {c_X0_sell : e_M → (Int → e_M → Prop) → Prop} {c_X0_split : e_M → (Int → e_M → Prop) → Prop} {c_X0_join : e_M → (Int → e_M → Prop) → Prop} {c_X0_moveBorder : e_M → (Int → e_M → Prop) → Prop} {c_X0_charge : e_M → (Int → e_M → Prop) → Prop} {c_X0_pay : e_M → (Int → e_M → Prop) → Prop} {c_X0_assign : e_M → (Int → e_M → Prop) → Prop} {c_X0_rank : e_M → (Int → e_M → Prop) → Prop} {c_X0_free : e_M → (Int → e_M → Prop) → Prop} {c_X0_auction : e_M → (Int → e_M → Prop) → Prop} {c_X0_serve : e_M → (Int → e_M → Prop) → Prop} {c_X0_waive : e_M → (Int → e_M → Prop) → Prop} {c_X0_lease : e_M → (Int → e_M → Prop) → Prop} {c_X0_caution : e_M → (Int → e_M → Prop) → Prop} {c_X0_option : e_M → (Int → e_M → Prop) → Prop} {c_X0_takeSale : e_M → (Int → e_M → Prop) → Prop} {c_X0_endTerm : e_M → (Int → e_M → Prop) → Prop} {a1 : Nat} {a2 : Nat} {x3 : Int} {M : e_M} (C : f_Hy sh t yX0_perform rm cs 9 (lX0_perform c_X0_findNames c_X0_makePerson c_X0_makeFirm c_X0_guard c_X0_die c_X0_closeFirm c_X0_sell c_X0_split c_X0_join c_X0_moveBorder c_X0_charge c_X0_pay c_X0_assign c_X0_rank c_X0_free c_X0_auction c_X0_serve c_X0_waive c_X0_lease c_X0_caution c_X0_option c_X0_takeSale c_X0_endTerm) R) (h : VX0_perform c_X0_findNames c_X0_makePerson c_X0_makeFirm c_X0_guard c_X0_die c_X0_closeFirm c_X0_sell c_X0_split c_X0_join c_X0_moveBorder c_X0_charge c_X0_pay c_X0_assign c_X0_rank c_X0_free c_X0_auction c_X0_serve c_X0_waive c_X0_lease c_X0_caution c_X0_option c_X0_takeSale c_X0_endTerm (fun r M => R (some (.inl r)) M) a1 a2 x3 M) : f_E sh t YX0_perform rm cs (f_Q sh t R) 0 [.inr (.inr (.inl (0, 7, 4423))), .inr (.inr (.inl (10, 15, a1))), .inr (.inr (.inl (2, 19, a2))), .inl x3] [] M :=
  f_go (KC := f_kc []) C qX0_performf f_kc_nil 92 0 h
def WX0_perform (a1 : Nat) (a2 : Nat) (x3 : Int) (M : e_M) (Q : Int → e_M → Prop) : Prop :=
  VX0_perform WX0_findNames WX0_makePerson WX0_makeFirm WX0_guard WX0_die WX0_closeFirm WX0_sell WX0_split WX0_join WX0_moveBorder WX0_charge WX0_pay WX0_assign WX0_rank WX0_free WX0_auction WX0_serve WX0_waive WX0_lease WX0_caution WX0_option WX0_takeSale WX0_endTerm Q a1 a2 x3 M
theorem PX0_perform {sh : Nat → Nat × Nat} {t : Nat} {rm : Nat × Nat × Nat} {cs : Nat × Nat} {R : f_Rt} {a1 : Nat} {a2 : Nat} {x3 : Int} {M : e_M} (C : f_Hy sh t yX0_perform rm cs 9 (lX0_perform WX0_findNames WX0_makePerson WX0_makeFirm WX0_guard WX0_die WX0_closeFirm WX0_sell WX0_split WX0_join WX0_moveBorder WX0_charge WX0_pay WX0_assign WX0_rank WX0_free WX0_auction WX0_serve WX0_waive WX0_lease WX0_caution WX0_option WX0_takeSale WX0_endTerm) R) (h : WX0_perform a1 a2 x3 M (fun r M => R (some (.inl r)) M)) : f_E sh t YX0_perform rm cs (f_Q sh t R) 0 [.inr (.inr (.inl (0, 7, 4423))), .inr (.inr (.inl (10, 15, a1))), .inr (.inr (.inl (2, 19, a2))), .inl x3] [] M :=
  BX0_perform C h
def wX0_perform : f_Wt := f_wm [(4433, 0, 7), (3, 10, 15), (3, 2, 19), (1, 0, 0)] (fun ar M R => WX0_perform (f_va (f_nth ar 1)) (f_va (f_nth ar 2)) (f_vi (f_nth ar 3)) M (fun r M => R (some (.inl r)) M))
theorem TX0_perform {sh : Nat → Nat × Nat} {t : Nat} : f_Mt sh t YX0_perform 9 (wX0_perform) :=
  f_Mt_of (k := 0) (Nat.le_of_ble_eq_true rfl) rfl rfl (fun ar M R rm cs h1 h2 h3 hX h => PX0_perform ⟨Nat.le_of_ble_eq_true rfl, h1, h2, h3, ⟨(f_Mt.up (Nat.le_of_ble_eq_true rfl) TX0_findNames), (f_Mt.up (Nat.le_of_ble_eq_true rfl) TX0_makePerson), (f_Mt.up (Nat.le_of_ble_eq_true rfl) TX0_makeFirm), (f_Mt.up (Nat.le_of_ble_eq_true rfl) TX0_guard), (f_Mt.up (Nat.le_of_ble_eq_true rfl) TX0_die), (f_Mt.up (Nat.le_of_ble_eq_true rfl) TX0_closeFirm), (f_Mt.up (Nat.le_of_ble_eq_true rfl) TX0_sell), (f_Mt.up (Nat.le_of_ble_eq_true rfl) TX0_split), (f_Mt.up (Nat.le_of_ble_eq_true rfl) TX0_join), (f_Mt.up (Nat.le_of_ble_eq_true rfl) TX0_moveBorder), (f_Mt.up (Nat.le_of_ble_eq_true rfl) TX0_charge), (f_Mt.up (Nat.le_of_ble_eq_true rfl) TX0_pay), (f_Mt.up (Nat.le_of_ble_eq_true rfl) TX0_assign), (f_Mt.up (Nat.le_of_ble_eq_true rfl) TX0_rank), (f_Mt.up (Nat.le_of_ble_eq_true rfl) TX0_free), (f_Mt.up (Nat.le_of_ble_eq_true rfl) TX0_auction), (f_Mt.up (Nat.le_of_ble_eq_true rfl) TX0_serve), (f_Mt.up (Nat.le_of_ble_eq_true rfl) TX0_waive), (f_Mt.up (Nat.le_of_ble_eq_true rfl) TX0_lease), (f_Mt.up (Nat.le_of_ble_eq_true rfl) TX0_caution), (f_Mt.up (Nat.le_of_ble_eq_true rfl) TX0_option), (f_Mt.up (Nat.le_of_ble_eq_true rfl) TX0_takeSale), (f_Mt.up (Nat.le_of_ble_eq_true rfl) TX0_endTerm), trivial⟩, hX⟩ h)
def VX1_firstWord (Q : Nat → Nat → Prop) (x0 : Int) (a1 : Nat) (M : e_M) : Prop :=
  ((x0 = 0 → (Q 3 1000010)) ∧ (¬ x0 = 0 → ((x0 = 1 → ((¬ (M a1 7) = 1 → (Q 6 1000012)) ∧ ((M a1 7) = 1 → (Q 4 1000011)))) ∧ (¬ x0 = 1 → ((x0 = 2 → (Q 6 1000013)) ∧ (¬ x0 = 2 → ((x0 = 3 → (Q 5 1000014)) ∧ (¬ x0 = 3 → ((x0 = 4 → (Q 5 1000015)) ∧ (¬ x0 = 4 → ((x0 = 5 → (Q 7 1000016)) ∧ (¬ x0 = 5 → (Q 6 1000017)))))))))))))
def yX1_firstWord (i : Nat) : e_Y := x_get YX1_firstWord [] i
def pX1_firstWordf : List x_I := [(0, 2, 1, 0, 0, 0, []), (1, 24, 78, 0, 21, 0, [(0, 40, 3), (1, 44, 5), (2, 62, 13), (3, 66, 15), (4, 70, 17), (5, 74, 19)]), (40, 38, 3, 1000010, 3, 0, []), (43, 45, 0, 0, 0, 0, []), (44, 4, 1, 1, 0, 0, []), (45, 25, 9, 7, 0, 0, []), (48, 0, 1, 0, 0, 1, []), (49, 18, 58, 1, 11, 0, []), (52, 38, 3, 1000011, 4, 0, []), (55, 19, 61, 0, 12, 0, []), (58, 38, 3, 1000012, 6, 0, []), (61, 45, 0, 0, 0, 0, []), (62, 38, 3, 1000013, 6, 0, []), (65, 45, 0, 0, 0, 0, []), (66, 38, 3, 1000014, 5, 0, []), (69, 45, 0, 0, 0, 0, []), (70, 38, 3, 1000015, 5, 0, []), (73, 45, 0, 0, 0, 0, []), (74, 38, 3, 1000016, 7, 0, []), (77, 45, 0, 0, 0, 0, []), (78, 38, 3, 1000017, 6, 0, []), (81, 45, 0, 0, 0, 0, [])]
set_option maxRecDepth 20000 in
theorem qX1_firstWordf : f_all yX1_firstWord YX1_firstWord pX1_firstWordf :=
  ⟨f_iload_n (n := 0) (e_dx DX1_firstWord_0 0 rfl) rfl,
  f_tsw (e_dx DX1_firstWord_0 1 rfl) rfl rfl (by decide) rfl,
  f_ldcSw (i := 5) (tx := "lot") (e_dx DX1_firstWord_0 2 rfl) (by decide) (by decide) rfl rfl,
  ⟨(e_dx DX1_firstWord_0 3 rfl), _, rfl, Or.inl ⟨_, rfl⟩⟩,
  f_aload_n (n := 1) (e_dx DX1_firstWord_0 4 rfl) rfl,
  f_getf (e_dx DX1_firstWord_0 5 rfl) fX1_239 rfl (by decide) (by decide) (by decide),
  f_iconst (e_dx DX1_firstWord_0 6 rfl) ⟨by decide, by decide⟩,
  f_icmp_ne (e_dx DX1_firstWord_0 7 rfl) rfl,
  f_ldcSw (i := 6) (tx := "firm") (e_dx DX1_firstWord_0 8 rfl) (by decide) (by decide) rfl rfl,
  f_g19 (e_dx DX1_firstWord_0 9 rfl) rfl,
  f_ldcSw (i := 7) (tx := "person") (e_dx DX1_firstWord_0 10 rfl) (by decide) (by decide) rfl rfl,
  ⟨(e_dx DX1_firstWord_0 11 rfl), _, rfl, Or.inl ⟨_, rfl⟩⟩,
  f_ldcSw (i := 8) (tx := "charge") (e_dx DX1_firstWord_0 12 rfl) (by decide) (by decide) rfl rfl,
  ⟨(e_dx DX1_firstWord_0 13 rfl), _, rfl, Or.inl ⟨_, rfl⟩⟩,
  f_ldcSw (i := 9) (tx := "serve") (e_dx DX1_firstWord_0 14 rfl) (by decide) (by decide) rfl rfl,
  ⟨(e_dx DX1_firstWord_0 15 rfl), _, rfl, Or.inl ⟨_, rfl⟩⟩,
  f_ldcSw (i := 10) (tx := "lease") (e_dx DX1_firstWord_0 16 rfl) (by decide) (by decide) rfl rfl,
  ⟨(e_dx DX1_firstWord_0 17 rfl), _, rfl, Or.inl ⟨_, rfl⟩⟩,
  f_ldcSw (i := 11) (tx := "caution") (e_dx DX1_firstWord_0 18 rfl) (by decide) (by decide) rfl rfl,
  ⟨(e_dx DX1_firstWord_0 19 rfl), _, rfl, Or.inl ⟨_, rfl⟩⟩,
  f_ldcSw (i := 12) (tx := "option") (e_dx DX1_firstWord_0 20 rfl) (by decide) (by decide) rfl rfl,
  ⟨(e_dx DX1_firstWord_0 21 rfl), _, rfl, Or.inl ⟨_, rfl⟩⟩, trivial⟩
def lX1_firstWord : List (Nat × f_Wt) := []
set_option maxRecDepth 20000 in
theorem BX1_firstWord {sh : Nat → Nat × Nat} {t : Nat} {rm : Nat × Nat × Nat} {cs : Nat × Nat} {R : f_Rt} {x0 : Int} {a1 : Nat} {M : e_M} (C : f_Hy sh t yX1_firstWord rm cs 4 (lX1_firstWord) R) (h : VX1_firstWord (fun n r => R (some (.inr (.inr (.inl (115, n, r))))) M) x0 a1 M) : f_E sh t YX1_firstWord rm cs (f_Q sh t R) 0 [.inl x0, .inr (.inr (.inl (9, 14, a1)))] [] M :=
  f_go (KC := f_kc []) C qX1_firstWordf f_kc_nil 24 0 h
def WX1_firstWord (x0 : Int) (a1 : Nat) (M : e_M) (Q : Nat → Nat → Prop) : Prop :=
  VX1_firstWord Q x0 a1 M
theorem PX1_firstWord {sh : Nat → Nat × Nat} {t : Nat} {rm : Nat × Nat × Nat} {cs : Nat × Nat} {R : f_Rt} {x0 : Int} {a1 : Nat} {M : e_M} (C : f_Hy sh t yX1_firstWord rm cs 4 (lX1_firstWord) R) (h : WX1_firstWord x0 a1 M (fun n r => R (some (.inr (.inr (.inl (115, n, r))))) M)) : f_E sh t YX1_firstWord rm cs (f_Q sh t R) 0 [.inl x0, .inr (.inr (.inl (9, 14, a1)))] [] M :=
  BX1_firstWord C h
def wX1_firstWord : f_Wt := f_wm [(1, 0, 0), (3, 9, 14)] (fun ar M R => WX1_firstWord (f_vi (f_nth ar 0)) (f_va (f_nth ar 1)) M (fun n r => R (some (.inr (.inr (.inl (115, n, r))))) M))
theorem TX1_firstWord {sh : Nat → Nat × Nat} {t : Nat} : f_Mt sh t YX1_firstWord 4 (wX1_firstWord) :=
  f_Mt_of (k := 0) (Nat.le_of_ble_eq_true rfl) rfl rfl (fun ar M R rm cs h1 h2 h3 hX h => PX1_firstWord ⟨Nat.le_of_ble_eq_true rfl, h1, h2, h3, trivial, hX⟩ h)
def VX1_put_21 (Q : e_M → Prop) (M : e_M) : Prop :=
  (∀ M1 : e_M, M1 = e_up M 4452 2 (e_w32 ((M 4452 2) + 1)) → (Q M1))
def VX1_put (k21 : e_M → Prop) (Q : e_M → Prop) (x1 : Int) (M : e_M) : Prop :=
  ((2000 ≤ (M 4452 2) → (k21 M)) ∧ ((M 4452 2) < 2000 → ((0 ≤ (M 4452 2) ∧ (M 4452 2) < 2000) ∧ (∀ M1 : e_M, M1 = e_up M 4453 ((M 4452 2).toNat) (e_w8 (e_w8 x1)) → (k21 M1)))))
def yX1_put (i : Nat) : e_Y := x_get YX1_put [] i
def pX1_putf : List x_I := [(0, 4, 1, 0, 0, 0, []), (1, 25, 1, 2, 0, 0, []), (4, 0, 3, 0, 0, 2000, []), (7, 18, 21, 3, 12, 0, []), (10, 4, 1, 0, 0, 0, []), (11, 25, 1, 1, 4, 0, [(0, 22, 2000), (0, 1, 1)]), (14, 4, 1, 0, 0, 0, []), (15, 25, 1, 2, 0, 0, []), (18, 2, 1, 1, 0, 0, []), (19, 12, 0, 1, 0, 0, []), (20, 29, 0, 0, 0, 0, []), (21, 49, 0, 0, 0, 0, []), (21, 4, 1, 0, 0, 0, []), (22, 20, 0, 0, 0, 0, []), (23, 25, 1, 2, 0, 0, []), (26, 0, 1, 0, 0, 1, []), (27, 9, 0, 0, 0, 0, []), (28, 26, 1, 2, 0, 0, []), (31, 44, 0, 0, 0, 0, [])]
set_option maxRecDepth 20000 in
theorem qX1_putf : f_all yX1_put YX1_put pX1_putf :=
  ⟨f_aload_n (n := 0) (e_dx DX1_put_0 0 rfl) rfl,
  f_getf (e_dx DX1_put_0 1 rfl) fX1_19 rfl (by decide) (by decide) (by decide),
  f_sipush (e_dx DX1_put_0 2 rfl) ⟨by decide, by decide⟩,
  f_icmp_ge (e_dx DX1_put_0 3 rfl) rfl,
  f_aload_n (n := 0) (e_dx DX1_put_0 4 rfl) rfl,
  f_getA (e_dx DX1_put_0 5 rfl) fX1_15 rfl (by decide) (Nat.le_of_ble_eq_true rfl) rfl (by decide),
  f_aload_n (n := 0) (e_dx DX1_put_0 6 rfl) rfl,
  f_getf (e_dx DX1_put_0 7 rfl) fX1_19 rfl (by decide) (by decide) (by decide),
  f_iload_n (n := 1) (e_dx DX1_put_0 8 rfl) rfl,
  f_i2b (e_dx DX1_put_0 9 rfl),
  f_g29 (e_dx DX1_put_0 10 rfl),
  trivial,
  f_aload_n (n := 0) (e_dx DX1_put_0 11 rfl) rfl,
  f_g20 (e_dx DX1_put_0 12 rfl),
  f_getf (e_dx DX1_put_0 13 rfl) fX1_19 rfl (by decide) (by decide) (by decide),
  f_iconst (e_dx DX1_put_0 14 rfl) ⟨by decide, by decide⟩,
  f_iadd (e_dx DX1_put_0 15 rfl),
  f_putn (e_dx DX1_put_0 16 rfl) fX1_19 (fun q hq => by cases hq; rfl) rfl (Or.inl rfl) (by decide),
  ⟨(e_dx DX1_put_0 17 rfl), rfl⟩, trivial⟩
def lX1_put : List (Nat × f_Wt) := []
set_option maxRecDepth 20000 in
theorem BX1_put_21 {sh : Nat → Nat × Nat} {t : Nat} {rm : Nat × Nat × Nat} {cs : Nat × Nat} {R : f_Rt} {M : e_M} (C : f_Hy sh t yX1_put rm cs 4 (lX1_put) R) (h : VX1_put_21 (fun M => R none M) M) : f_E sh t YX1_put rm cs (f_Q sh t R) 21 [.inr (.inr (.inl (1, 7, 4452))), .inr (.inr (.inr ()))] [] M :=
  f_go (KC := f_kc []) C qX1_putf f_kc_nil 21 12 h
set_option maxRecDepth 20000 in
theorem BX1_put {sh : Nat → Nat × Nat} {t : Nat} {rm : Nat × Nat × Nat} {cs : Nat × Nat} {R : f_Rt} {k21 : e_M → Prop} {x1 : Int} {M : e_M} (C : f_Hy sh t yX1_put rm cs 4 (lX1_put) R) (h21 : ∀ (M : e_M), k21 M → f_E sh t YX1_put rm cs (f_Q sh t R) 21 [.inr (.inr (.inl (1, 7, 4452))), .inr (.inr (.inr ()))] [] M) (h : VX1_put k21 (fun M => R none M) x1 M) : f_E sh t YX1_put rm cs (f_Q sh t R) 0 [.inr (.inr (.inl (1, 7, 4452))), .inl x1] [] M :=
  f_go (KC := f_kc [(21, f_pl [(4462, 1, 7), (0, 0, 0)] [] (fun ls st M => k21 M))]) C qX1_putf (f_kc_cons (f_pl_ok rfl (fun ls st M h => h21  M h)) f_kc_nil) 21 0 h
def WX1_put_21 (Q : e_M → Prop) (M : e_M) : Prop :=
  VX1_put_21 Q M
def WX1_put (x1 : Int) (M : e_M) (Q : e_M → Prop) : Prop :=
  VX1_put (WX1_put_21 Q) Q x1 M
theorem PX1_put_21 {sh : Nat → Nat × Nat} {t : Nat} {rm : Nat × Nat × Nat} {cs : Nat × Nat} {R : f_Rt} {M : e_M} (C : f_Hy sh t yX1_put rm cs 4 (lX1_put) R) (h : WX1_put_21 (fun M => R none M) M) : f_E sh t YX1_put rm cs (f_Q sh t R) 21 [.inr (.inr (.inl (1, 7, 4452))), .inr (.inr (.inr ()))] [] M :=
  BX1_put_21 C h
theorem PX1_put {sh : Nat → Nat × Nat} {t : Nat} {rm : Nat × Nat × Nat} {cs : Nat × Nat} {R : f_Rt} {x1 : Int} {M : e_M} (C : f_Hy sh t yX1_put rm cs 4 (lX1_put) R) (h : WX1_put x1 M (fun M => R none M)) : f_E sh t YX1_put rm cs (f_Q sh t R) 0 [.inr (.inr (.inl (1, 7, 4452))), .inl x1] [] M :=
  BX1_put C (fun M h => PX1_put_21 C h) h
def wX1_put : f_Wt := f_wm [(4462, 1, 7), (1, 0, 0)] (fun ar M R => WX1_put (f_vi (f_nth ar 1)) M (fun M => R none M))
theorem TX1_put {sh : Nat → Nat × Nat} {t : Nat} : f_Mt sh t YX1_put 4 (wX1_put) :=
  f_Mt_of (k := 0) (Nat.le_of_ble_eq_true rfl) rfl rfl (fun ar M R rm cs h1 h2 h3 hX h => PX1_put ⟨Nat.le_of_ble_eq_true rfl, h1, h2, h3, trivial, hX⟩ h)
def VX1_putText_2 (c_X1_put : Int → e_M → (e_M → Prop) → Prop) (k2 : Nat → Nat → Int → e_M → Prop) (Q : e_M → Prop) (n1 : Nat) (a1 : Nat) (x2 : Int) (M : e_M) : Prop :=
  ((((n1 : Nat) : Int) ≤ x2 → (Q M)) ∧ (x2 < ((n1 : Nat) : Int) → ((0 ≤ x2 ∧ x2 < ((n1 : Nat) : Int)) ∧ (c_X1_put (f_kt (a1 + 29) (x2.toNat)) M (fun M1 => (k2 n1 a1 (e_w32 (x2 + 1)) M1))))))
def VX1_putText (c_X1_put : Int → e_M → (e_M → Prop) → Prop) (k2 : Nat → Nat → Int → e_M → Prop) (Q : e_M → Prop) (n1 : Nat) (a1 : Nat) (M : e_M) : Prop :=
  (k2 n1 a1 0 M)
def yX1_putText (i : Nat) : e_Y := x_get YX1_putText [YX1_put] i
def pX1_putTextf : List x_I := [(0, 0, 1, 0, 0, 0, []), (1, 5, 1, 2, 0, 0, []), (2, 49, 0, 0, 0, 0, []), (2, 2, 1, 2, 0, 0, []), (3, 4, 1, 1, 0, 0, []), (4, 36, 0, 0, 0, 0, []), (7, 18, 25, 3, 15, 0, []), (10, 4, 1, 0, 0, 0, []), (11, 4, 1, 1, 0, 0, []), (12, 2, 1, 2, 0, 0, []), (13, 37, 0, 0, 0, 0, []), (16, 40, 0, 2, 3, 0, []), (19, 8, 0, 2, 0, 1, []), (22, 19, 2, 0, 3, 0, []), (25, 44, 0, 0, 0, 0, [])]
set_option maxRecDepth 20000 in
theorem qX1_putTextf : f_all yX1_putText YX1_putText pX1_putTextf :=
  ⟨f_iconst (e_dx DX1_putText_0 0 rfl) ⟨by decide, by decide⟩,
  f_istore_n (n := 2) (e_dx DX1_putText_0 1 rfl) rfl (by decide),
  trivial,
  f_iload_n (n := 2) (e_dx DX1_putText_0 2 rfl) rfl,
  f_aload_n (n := 1) (e_dx DX1_putText_0 3 rfl) rfl,
  f_slen (e_dx DX1_putText_0 4 rfl) cX1_388,
  f_icmp_ge (e_dx DX1_putText_0 5 rfl) rfl,
  f_aload_n (n := 0) (e_dx DX1_putText_0 6 rfl) rfl,
  f_aload_n (n := 1) (e_dx DX1_putText_0 7 rfl) rfl,
  f_iload_n (n := 2) (e_dx DX1_putText_0 8 rfl) rfl,
  f_schar (e_dx DX1_putText_0 9 rfl) cX1_393,
  x_callV (e_dx DX1_putText_0 10 rfl) mwX1_put vwX1_put cX1_98 rfl,
  f_g8 (e_dx DX1_putText_0 11 rfl) ⟨by decide, by decide⟩,
  f_g19 (e_dx DX1_putText_0 12 rfl) rfl,
  ⟨(e_dx DX1_putText_0 13 rfl), rfl⟩, trivial⟩
def lX1_putText (c_X1_put : Int → e_M → (e_M → Prop) → Prop) : List (Nat × f_Wt) := [(0, f_wm [(4462, 1, 7), (1, 0, 0)] (fun ar M R => c_X1_put (f_vi (f_nth ar 1)) M (fun M => R none M)))]
set_option maxRecDepth 20000 in
theorem BX1_putText_2 {sh : Nat → Nat × Nat} {t : Nat} {rm : Nat × Nat × Nat} {cs : Nat × Nat} {R : f_Rt} {c_X1_put : Int → e_M → (e_M → Prop) → Prop} {k2 : Nat → Nat → Int → e_M → Prop} {n1 : Nat} {a1 : Nat} {x2 : Int} {M : e_M} (C : f_Hy sh t yX1_putText rm cs 5 (lX1_putText c_X1_put) R) (h2 : ∀ (n1 : Nat) (a1 : Nat) (x2 : Int) (M : e_M), k2 n1 a1 x2 M → f_E sh t YX1_putText rm cs (f_Q sh t R) 2 [.inr (.inr (.inl (1, 7, 4452))), .inr (.inr (.inl (115, n1, a1))), .inl x2] [] M) (h : VX1_putText_2 c_X1_put k2 (fun M => R none M) n1 a1 x2 M) : f_E sh t YX1_putText rm cs (f_Q sh t R) 2 [.inr (.inr (.inl (1, 7, 4452))), .inr (.inr (.inl (115, n1, a1))), .inl x2] [] M :=
  f_go (KC := f_kc [(2, f_pl [(4462, 1, 7), (4, 0, 0), (1, 0, 0)] [] (fun ls st M => k2 (f_vn (f_nth ls 1)) (f_va (f_nth ls 1)) (f_vi (f_nth ls 2)) M))]) C qX1_putTextf (f_kc_cons (f_pl_ok rfl (fun ls st M h => h2 _ _ _ M h)) f_kc_nil) 17 3 h
set_option maxRecDepth 20000 in
theorem BX1_putText {sh : Nat → Nat × Nat} {t : Nat} {rm : Nat × Nat × Nat} {cs : Nat × Nat} {R : f_Rt} {c_X1_put : Int → e_M → (e_M → Prop) → Prop} {k2 : Nat → Nat → Int → e_M → Prop} {n1 : Nat} {a1 : Nat} {M : e_M} (C : f_Hy sh t yX1_putText rm cs 5 (lX1_putText c_X1_put) R) (h2 : ∀ (n1 : Nat) (a1 : Nat) (x2 : Int) (M : e_M), k2 n1 a1 x2 M → f_E sh t YX1_putText rm cs (f_Q sh t R) 2 [.inr (.inr (.inl (1, 7, 4452))), .inr (.inr (.inl (115, n1, a1))), .inl x2] [] M) (h : VX1_putText c_X1_put k2 (fun M => R none M) n1 a1 M) : f_E sh t YX1_putText rm cs (f_Q sh t R) 0 [.inr (.inr (.inl (1, 7, 4452))), .inr (.inr (.inl (115, n1, a1))), .inr (.inr (.inr ()))] [] M :=
  f_go (KC := f_kc [(2, f_pl [(4462, 1, 7), (4, 0, 0), (1, 0, 0)] [] (fun ls st M => k2 (f_vn (f_nth ls 1)) (f_va (f_nth ls 1)) (f_vi (f_nth ls 2)) M))]) C qX1_putTextf (f_kc_cons (f_pl_ok rfl (fun ls st M h => h2 _ _ _ M h)) f_kc_nil) 17 0 h
def WX1_putText_2 (Q : e_M → Prop) : Nat → Nat → Nat → Int → e_M → Prop
  | 0, _, _, _, _ => False
  | n + 1, n1, a1, x2, M =>
    VX1_putText_2 WX1_put (WX1_putText_2 Q n) Q n1 a1 x2 M
def WX1_putText (n1 : Nat) (a1 : Nat) (M : e_M) (Q : e_M → Prop) : Prop :=
  VX1_putText WX1_put (fun n1 a1 x2 M => ∃ j, WX1_putText_2 Q j n1 a1 x2 M) Q n1 a1 M
theorem PX1_putText_2 {sh : Nat → Nat × Nat} {t : Nat} {rm : Nat × Nat × Nat} {cs : Nat × Nat} {R : f_Rt} (C : f_Hy sh t yX1_putText rm cs 5 (lX1_putText WX1_put) R) : ∀ (n : Nat) (n1 : Nat) (a1 : Nat) (x2 : Int) (M : e_M), WX1_putText_2 (fun M => R none M) n n1 a1 x2 M → f_E sh t YX1_putText rm cs (f_Q sh t R) 2 [.inr (.inr (.inl (1, 7, 4452))), .inr (.inr (.inl (115, n1, a1))), .inl x2] [] M := by
  intro n
  induction n with
  | zero => intro n1 a1 x2 M h; exact h.elim
  | succ n ih => intro n1 a1 x2 M h; exact BX1_putText_2 C ih h
theorem PX1_putText {sh : Nat → Nat × Nat} {t : Nat} {rm : Nat × Nat × Nat} {cs : Nat × Nat} {R : f_Rt} {n1 : Nat} {a1 : Nat} {M : e_M} (C : f_Hy sh t yX1_putText rm cs 5 (lX1_putText WX1_put) R) (h : WX1_putText n1 a1 M (fun M => R none M)) : f_E sh t YX1_putText rm cs (f_Q sh t R) 0 [.inr (.inr (.inl (1, 7, 4452))), .inr (.inr (.inl (115, n1, a1))), .inr (.inr (.inr ()))] [] M :=
  BX1_putText C (fun n1 a1 x2 M ⟨j, h⟩ => PX1_putText_2 C j _ _ _ _ h) h
def wX1_putText : f_Wt := f_wm [(4462, 1, 7), (4, 0, 0)] (fun ar M R => WX1_putText (f_vn (f_nth ar 1)) (f_va (f_nth ar 1)) M (fun M => R none M))
theorem TX1_putText {sh : Nat → Nat × Nat} {t : Nat} : f_Mt sh t YX1_putText 5 (wX1_putText) :=
  f_Mt_of (k := 1) (Nat.le_of_ble_eq_true rfl) rfl rfl (fun ar M R rm cs h1 h2 h3 hX h => PX1_putText ⟨Nat.le_of_ble_eq_true rfl, h1, h2, h3, ⟨(f_Mt.up (Nat.le_of_ble_eq_true rfl) TX1_put), trivial⟩, hX⟩ h)
def VX10_nameOf (c_X10_lot : Nat → Int → e_M → (Nat → Prop) → Prop) (c_X10_at : Nat → Int → Int → e_M → (Nat → Prop) → Prop) (Q : Int → Prop) (a0 : Nat) (x1 : Int) (x2 : Int) (M : e_M) : Prop :=
  ((¬ x1 = 0 → (c_X10_at a0 x1 x2 M (fun r1 => (Q (M r1 0))))) ∧ (x1 = 0 → (c_X10_lot a0 x2 M (fun r2 => (Q (M r2 0))))))
def yX10_nameOf (i : Nat) : e_Y := x_get YX10_nameOf [YX10_lot, YX10_at] i
def pX10_nameOff : List x_I := [(0, 2, 1, 1, 0, 0, []), (1, 17, 15, 1, 8, 0, []), (4, 4, 1, 0, 0, 0, []), (5, 2, 1, 2, 0, 0, []), (6, 40, 0, 2, 12, 0, []), (9, 25, 4, 0, 3, 0, []), (12, 19, 24, 0, 13, 0, []), (15, 4, 1, 0, 0, 0, []), (16, 2, 1, 1, 0, 0, []), (17, 2, 1, 2, 0, 0, []), (18, 40, 1, 3, 12, 0, []), (21, 25, 9, 0, 3, 0, []), (24, 43, 0, 0, 0, 0, [])]
set_option maxRecDepth 20000 in
theorem qX10_nameOff : f_all yX10_nameOf YX10_nameOf pX10_nameOff :=
  ⟨f_iload_n (n := 1) (e_dx DX10_nameOf_0 0 rfl) rfl,
  f_if_ne (e_dx DX10_nameOf_0 1 rfl) rfl,
  f_aload_n (n := 0) (e_dx DX10_nameOf_0 2 rfl) rfl,
  f_iload_n (n := 2) (e_dx DX10_nameOf_0 3 rfl) rfl,
  x_callV (e_dx DX10_nameOf_0 4 rfl) mwX10_lot vwX10_lot cX10_106 rfl,
  f_getL (e_dx DX10_nameOf_0 5 rfl) fX10_153 rfl (by decide),
  f_g19 (e_dx DX10_nameOf_0 6 rfl) rfl,
  f_aload_n (n := 0) (e_dx DX10_nameOf_0 7 rfl) rfl,
  f_iload_n (n := 1) (e_dx DX10_nameOf_0 8 rfl) rfl,
  f_iload_n (n := 2) (e_dx DX10_nameOf_0 9 rfl) rfl,
  x_callV (e_dx DX10_nameOf_0 10 rfl) mwX10_at vwX10_at cX10_93 rfl,
  f_getL (e_dx DX10_nameOf_0 11 rfl) fX10_157 rfl (by decide),
  ⟨(e_dx DX10_nameOf_0 12 rfl), rfl⟩, trivial⟩
def lX10_nameOf (c_X10_lot : Nat → Int → e_M → (Nat → Prop) → Prop) (c_X10_at : Nat → Int → Int → e_M → (Nat → Prop) → Prop) : List (Nat × f_Wt) := [(0, f_wm [(3, 10, 15), (1, 0, 0)] (fun ar M R => c_X10_lot (f_va (f_nth ar 0)) (f_vi (f_nth ar 1)) M (fun r => R (some (.inr (.inr (.inl (4, 9, r))))) M))), (1, f_wm [(3, 10, 15), (1, 0, 0), (1, 0, 0)] (fun ar M R => c_X10_at (f_va (f_nth ar 0)) (f_vi (f_nth ar 1)) (f_vi (f_nth ar 2)) M (fun r => R (some (.inr (.inr (.inl (9, 14, r))))) M)))]
set_option maxRecDepth 20000 in
theorem BX10_nameOf {sh : Nat → Nat × Nat} {t : Nat} {rm : Nat × Nat × Nat} {cs : Nat × Nat} {R : f_Rt} {c_X10_lot : Nat → Int → e_M → (Nat → Prop) → Prop} {c_X10_at : Nat → Int → Int → e_M → (Nat → Prop) → Prop} {a0 : Nat} {x1 : Int} {x2 : Int} {M : e_M} (C : f_Hy sh t yX10_nameOf rm cs 5 (lX10_nameOf c_X10_lot c_X10_at) R) (h : VX10_nameOf c_X10_lot c_X10_at (fun r => R (some (.inr (.inl r))) M) a0 x1 x2 M) : f_E sh t YX10_nameOf rm cs (f_Q sh t R) 0 [.inr (.inr (.inl (10, 15, a0))), .inl x1, .inl x2] [] M :=
  f_go (KC := f_kc []) C qX10_nameOff f_kc_nil 15 0 h
def WX10_nameOf (a0 : Nat) (x1 : Int) (x2 : Int) (M : e_M) (Q : Int → Prop) : Prop :=
  VX10_nameOf WX10_lot WX10_at Q a0 x1 x2 M
theorem PX10_nameOf {sh : Nat → Nat × Nat} {t : Nat} {rm : Nat × Nat × Nat} {cs : Nat × Nat} {R : f_Rt} {a0 : Nat} {x1 : Int} {x2 : Int} {M : e_M} (C : f_Hy sh t yX10_nameOf rm cs 5 (lX10_nameOf WX10_lot WX10_at) R) (h : WX10_nameOf a0 x1 x2 M (fun r => R (some (.inr (.inl r))) M)) : f_E sh t YX10_nameOf rm cs (f_Q sh t R) 0 [.inr (.inr (.inl (10, 15, a0))), .inl x1, .inl x2] [] M :=
  BX10_nameOf C h
def wX10_nameOf : f_Wt := f_wm [(3, 10, 15), (1, 0, 0), (1, 0, 0)] (fun ar M R => WX10_nameOf (f_va (f_nth ar 0)) (f_vi (f_nth ar 1)) (f_vi (f_nth ar 2)) M (fun r => R (some (.inr (.inl r))) M))
theorem TX10_nameOf {sh : Nat → Nat × Nat} {t : Nat} : f_Mt sh t YX10_nameOf 5 (wX10_nameOf) :=
  f_Mt_of (k := 0) (Nat.le_of_ble_eq_true rfl) rfl rfl (fun ar M R rm cs h1 h2 h3 hX h => PX10_nameOf ⟨Nat.le_of_ble_eq_true rfl, h1, h2, h3, ⟨(f_Mt.up (Nat.le_of_ble_eq_true rfl) TX10_lot), (f_Mt.up (Nat.le_of_ble_eq_true rfl) TX10_at), trivial⟩, hX⟩ h)
def VX1_putWord_3 (c_X1_put : Int → e_M → (e_M → Prop) → Prop) (k28 : Int → Int → e_M → Prop) (Q : e_M → Prop) (x1 : Int) (x3 : Int) (M : e_M) : Prop :=
  ((x3 < 0 → (Q M)) ∧ (0 ≤ x3 → (((f_and (e_w32 (f_shrJ x1 x3)) 255) = 0 → (k28 x1 x3 M)) ∧ (¬ (f_and (e_w32 (f_shrJ x1 x3)) 255) = 0 → (c_X1_put (f_and (e_w32 (f_shrJ x1 x3)) 255) M (fun M1 => (k28 x1 x3 M1)))))))
def VX1_putWord_28 (c_X1_put : Int → e_M → (e_M → Prop) → Prop) (k3 : Int → Int → e_M → Prop) (Q : e_M → Prop) (x1 : Int) (x3 : Int) (M : e_M) : Prop :=
  (k3 x1 (e_w32 (x3 + (-8))) M)
def VX1_putWord (c_X1_put : Int → e_M → (e_M → Prop) → Prop) (k3 : Int → Int → e_M → Prop) (Q : e_M → Prop) (x1 : Int) (M : e_M) : Prop :=
  (k3 x1 56 M)
def yX1_putWord (i : Nat) : e_Y := x_get YX1_putWord [YX1_put] i
def pX1_putWordf : List x_I := [(0, 0, 2, 0, 0, 56, []), (2, 5, 1, 3, 0, 0, []), (3, 49, 0, 0, 0, 0, []), (3, 2, 1, 3, 0, 0, []), (4, 17, 34, 2, 21, 0, []), (7, 3, 1, 1, 0, 0, []), (8, 2, 1, 3, 0, 0, []), (9, 11, 0, 1, 0, 0, []), (10, 15, 0, 0, 0, 0, []), (11, 0, 3, 0, 0, 255, []), (14, 9, 0, 5, 0, 0, []), (15, 5, 2, 4, 0, 0, []), (17, 2, 2, 4, 0, 0, []), (19, 17, 28, 0, 18, 0, []), (22, 4, 1, 0, 0, 0, []), (23, 2, 2, 4, 0, 0, []), (25, 40, 0, 2, 3, 0, []), (28, 49, 0, 0, 0, 0, []), (28, 8, 0, 3, 0, (-8), []), (31, 19, 3, 0, 3, 0, []), (34, 44, 0, 0, 0, 0, [])]
set_option maxRecDepth 20000 in
theorem qX1_putWordf : f_all yX1_putWord YX1_putWord pX1_putWordf :=
  ⟨f_bipush (e_dx DX1_putWord_0 0 rfl) ⟨by decide, by decide⟩,
  f_istore_n (n := 3) (e_dx DX1_putWord_0 1 rfl) rfl (by decide),
  trivial,
  f_iload_n (n := 3) (e_dx DX1_putWord_0 2 rfl) rfl,
  f_if_lt (e_dx DX1_putWord_0 3 rfl) rfl,
  f_lload_n (n := 1) (e_dx DX1_putWord_0 4 rfl) rfl,
  f_iload_n (n := 3) (e_dx DX1_putWord_0 5 rfl) rfl,
  f_lshr (e_dx DX1_putWord_0 6 rfl),
  f_g15 (e_dx DX1_putWord_0 7 rfl),
  f_sipush (e_dx DX1_putWord_0 8 rfl) ⟨by decide, by decide⟩,
  f_iand (e_dx DX1_putWord_0 9 rfl),
  f_istore (e_dx DX1_putWord_0 10 rfl) (by decide),
  f_iload (e_dx DX1_putWord_0 11 rfl),
  f_if_eq (e_dx DX1_putWord_0 12 rfl) rfl,
  f_aload_n (n := 0) (e_dx DX1_putWord_0 13 rfl) rfl,
  f_iload (e_dx DX1_putWord_0 14 rfl),
  x_callV (e_dx DX1_putWord_0 15 rfl) mwX1_put vwX1_put cX1_98 rfl,
  trivial,
  f_g8 (e_dx DX1_putWord_0 16 rfl) ⟨by decide, by decide⟩,
  f_g19 (e_dx DX1_putWord_0 17 rfl) rfl,
  ⟨(e_dx DX1_putWord_0 18 rfl), rfl⟩, trivial⟩
def lX1_putWord (c_X1_put : Int → e_M → (e_M → Prop) → Prop) : List (Nat × f_Wt) := [(0, f_wm [(4462, 1, 7), (1, 0, 0)] (fun ar M R => c_X1_put (f_vi (f_nth ar 1)) M (fun M => R none M)))]
set_option maxRecDepth 20000 in
theorem BX1_putWord_3 {sh : Nat → Nat × Nat} {t : Nat} {rm : Nat × Nat × Nat} {cs : Nat × Nat} {R : f_Rt} {c_X1_put : Int → e_M → (e_M → Prop) → Prop} {k28 : Int → Int → e_M → Prop} {x1 : Int} {x3 : Int} {M : e_M} (C : f_Hy sh t yX1_putWord rm cs 5 (lX1_putWord c_X1_put) R) (h28 : ∀ (x1 : Int) (x3 : Int) (M : e_M), k28 x1 x3 M → f_E sh t YX1_putWord rm cs (f_Q sh t R) 28 [.inr (.inr (.inl (1, 7, 4452))), .inr (.inl x1), .inr (.inr (.inr ())), .inl x3, .inr (.inr (.inr ()))] [] M) (h : VX1_putWord_3 c_X1_put k28 (fun M => R none M) x1 x3 M) : f_E sh t YX1_putWord rm cs (f_Q sh t R) 3 [.inr (.inr (.inl (1, 7, 4452))), .inr (.inl x1), .inr (.inr (.inr ())), .inl x3, .inr (.inr (.inr ()))] [] M :=
  f_go (KC := f_kc [(28, f_pl [(4462, 1, 7), (2, 0, 0), (0, 0, 0), (1, 0, 0), (0, 0, 0)] [] (fun ls st M => k28 (f_vi (f_nth ls 1)) (f_vi (f_nth ls 3)) M))]) C qX1_putWordf (f_kc_cons (f_pl_ok rfl (fun ls st M h => h28 _ _ M h)) f_kc_nil) 23 3 h
set_option maxRecDepth 20000 in
theorem BX1_putWord_28 {sh : Nat → Nat × Nat} {t : Nat} {rm : Nat × Nat × Nat} {cs : Nat × Nat} {R : f_Rt} {c_X1_put : Int → e_M → (e_M → Prop) → Prop} {k3 : Int → Int → e_M → Prop} {x1 : Int} {x3 : Int} {M : e_M} (C : f_Hy sh t yX1_putWord rm cs 5 (lX1_putWord c_X1_put) R) (h3 : ∀ (x1 : Int) (x3 : Int) (M : e_M), k3 x1 x3 M → f_E sh t YX1_putWord rm cs (f_Q sh t R) 3 [.inr (.inr (.inl (1, 7, 4452))), .inr (.inl x1), .inr (.inr (.inr ())), .inl x3, .inr (.inr (.inr ()))] [] M) (h : VX1_putWord_28 c_X1_put k3 (fun M => R none M) x1 x3 M) : f_E sh t YX1_putWord rm cs (f_Q sh t R) 28 [.inr (.inr (.inl (1, 7, 4452))), .inr (.inl x1), .inr (.inr (.inr ())), .inl x3, .inr (.inr (.inr ()))] [] M :=
  f_go (KC := f_kc [(3, f_pl [(4462, 1, 7), (2, 0, 0), (0, 0, 0), (1, 0, 0), (0, 0, 0)] [] (fun ls st M => k3 (f_vi (f_nth ls 1)) (f_vi (f_nth ls 3)) M))]) C qX1_putWordf (f_kc_cons (f_pl_ok rfl (fun ls st M h => h3 _ _ M h)) f_kc_nil) 23 18 h
set_option maxRecDepth 20000 in
theorem BX1_putWord {sh : Nat → Nat × Nat} {t : Nat} {rm : Nat × Nat × Nat} {cs : Nat × Nat} {R : f_Rt} {c_X1_put : Int → e_M → (e_M → Prop) → Prop} {k3 : Int → Int → e_M → Prop} {x1 : Int} {M : e_M} (C : f_Hy sh t yX1_putWord rm cs 5 (lX1_putWord c_X1_put) R) (h3 : ∀ (x1 : Int) (x3 : Int) (M : e_M), k3 x1 x3 M → f_E sh t YX1_putWord rm cs (f_Q sh t R) 3 [.inr (.inr (.inl (1, 7, 4452))), .inr (.inl x1), .inr (.inr (.inr ())), .inl x3, .inr (.inr (.inr ()))] [] M) (h : VX1_putWord c_X1_put k3 (fun M => R none M) x1 M) : f_E sh t YX1_putWord rm cs (f_Q sh t R) 0 [.inr (.inr (.inl (1, 7, 4452))), .inr (.inl x1), .inr (.inr (.inr ())), .inr (.inr (.inr ())), .inr (.inr (.inr ()))] [] M :=
  f_go (KC := f_kc [(3, f_pl [(4462, 1, 7), (2, 0, 0), (0, 0, 0), (1, 0, 0), (0, 0, 0)] [] (fun ls st M => k3 (f_vi (f_nth ls 1)) (f_vi (f_nth ls 3)) M))]) C qX1_putWordf (f_kc_cons (f_pl_ok rfl (fun ls st M h => h3 _ _ M h)) f_kc_nil) 23 0 h
def WX1_putWord_28 (H3 : Int → Int → e_M → Prop) (Q : e_M → Prop) (x1 : Int) (x3 : Int) (M : e_M) : Prop :=
  VX1_putWord_28 WX1_put H3 Q x1 x3 M
def WX1_putWord_3 (Q : e_M → Prop) : Nat → Int → Int → e_M → Prop
  | 0, _, _, _ => False
  | n + 1, x1, x3, M =>
    VX1_putWord_3 WX1_put (WX1_putWord_28 (WX1_putWord_3 Q n) Q) Q x1 x3 M
def WX1_putWord (x1 : Int) (M : e_M) (Q : e_M → Prop) : Prop :=
  VX1_putWord WX1_put (fun x1 x3 M => ∃ j, WX1_putWord_3 Q j x1 x3 M) Q x1 M
theorem PX1_putWord_28 {sh : Nat → Nat × Nat} {t : Nat} {rm : Nat × Nat × Nat} {cs : Nat × Nat} {R : f_Rt} {H3 : Int → Int → e_M → Prop} {x1 : Int} {x3 : Int} {M : e_M} (C : f_Hy sh t yX1_putWord rm cs 5 (lX1_putWord WX1_put) R) (g3 : ∀ (x1 : Int) (x3 : Int) (M : e_M), H3 x1 x3 M → f_E sh t YX1_putWord rm cs (f_Q sh t R) 3 [.inr (.inr (.inl (1, 7, 4452))), .inr (.inl x1), .inr (.inr (.inr ())), .inl x3, .inr (.inr (.inr ()))] [] M) (h : WX1_putWord_28 H3 (fun M => R none M) x1 x3 M) : f_E sh t YX1_putWord rm cs (f_Q sh t R) 28 [.inr (.inr (.inl (1, 7, 4452))), .inr (.inl x1), .inr (.inr (.inr ())), .inl x3, .inr (.inr (.inr ()))] [] M :=
  BX1_putWord_28 C g3 h
theorem PX1_putWord_3 {sh : Nat → Nat × Nat} {t : Nat} {rm : Nat × Nat × Nat} {cs : Nat × Nat} {R : f_Rt} (C : f_Hy sh t yX1_putWord rm cs 5 (lX1_putWord WX1_put) R) : ∀ (n : Nat) (x1 : Int) (x3 : Int) (M : e_M), WX1_putWord_3 (fun M => R none M) n x1 x3 M → f_E sh t YX1_putWord rm cs (f_Q sh t R) 3 [.inr (.inr (.inl (1, 7, 4452))), .inr (.inl x1), .inr (.inr (.inr ())), .inl x3, .inr (.inr (.inr ()))] [] M := by
  intro n
  induction n with
  | zero => intro x1 x3 M h; exact h.elim
  | succ n ih => intro x1 x3 M h; exact BX1_putWord_3 C (fun x1 x3 M h => PX1_putWord_28 C ih h) h
theorem PX1_putWord {sh : Nat → Nat × Nat} {t : Nat} {rm : Nat × Nat × Nat} {cs : Nat × Nat} {R : f_Rt} {x1 : Int} {M : e_M} (C : f_Hy sh t yX1_putWord rm cs 5 (lX1_putWord WX1_put) R) (h : WX1_putWord x1 M (fun M => R none M)) : f_E sh t YX1_putWord rm cs (f_Q sh t R) 0 [.inr (.inr (.inl (1, 7, 4452))), .inr (.inl x1), .inr (.inr (.inr ())), .inr (.inr (.inr ())), .inr (.inr (.inr ()))] [] M :=
  BX1_putWord C (fun x1 x3 M ⟨j, h⟩ => PX1_putWord_3 C j _ _ _ h) h
def wX1_putWord : f_Wt := f_wm [(4462, 1, 7), (2, 0, 0)] (fun ar M R => WX1_putWord (f_vi (f_nth ar 1)) M (fun M => R none M))
theorem TX1_putWord {sh : Nat → Nat × Nat} {t : Nat} : f_Mt sh t YX1_putWord 5 (wX1_putWord) :=
  f_Mt_of (k := 2) (Nat.le_of_ble_eq_true rfl) rfl rfl (fun ar M R rm cs h1 h2 h3 hX h => PX1_putWord ⟨Nat.le_of_ble_eq_true rfl, h1, h2, h3, ⟨(f_Mt.up (Nat.le_of_ble_eq_true rfl) TX1_put), trivial⟩, hX⟩ h)
def VX1_thenWord (c_X1_put : Int → e_M → (e_M → Prop) → Prop) (c_X1_putWord : Int → e_M → (e_M → Prop) → Prop) (Q : e_M → Prop) (x1 : Int) (M : e_M) : Prop :=
  (c_X1_put 32 M (fun M1 => (c_X1_putWord x1 M1 (fun M2 => (Q M2)))))
def yX1_thenWord (i : Nat) : e_Y := x_get YX1_thenWord [YX1_put, YX1_putWord] i
def pX1_thenWordf : List x_I := [(0, 4, 1, 0, 0, 0, []), (1, 0, 2, 0, 0, 32, []), (3, 40, 0, 2, 3, 0, []), (6, 4, 1, 0, 0, 0, []), (7, 3, 1, 1, 0, 0, []), (8, 40, 1, 2, 3, 0, []), (11, 44, 0, 0, 0, 0, [])]
set_option maxRecDepth 20000 in
theorem qX1_thenWordf : f_all yX1_thenWord YX1_thenWord pX1_thenWordf :=
  ⟨f_aload_n (n := 0) (e_dx DX1_thenWord_0 0 rfl) rfl,
  f_bipush (e_dx DX1_thenWord_0 1 rfl) ⟨by decide, by decide⟩,
  x_callV (e_dx DX1_thenWord_0 2 rfl) mwX1_put vwX1_put cX1_98 rfl,
  f_aload_n (n := 0) (e_dx DX1_thenWord_0 3 rfl) rfl,
  f_lload_n (n := 1) (e_dx DX1_thenWord_0 4 rfl) rfl,
  x_callV (e_dx DX1_thenWord_0 5 rfl) mwX1_putWord vwX1_putWord cX1_124 rfl,
  ⟨(e_dx DX1_thenWord_0 6 rfl), rfl⟩, trivial⟩
def lX1_thenWord (c_X1_put : Int → e_M → (e_M → Prop) → Prop) (c_X1_putWord : Int → e_M → (e_M → Prop) → Prop) : List (Nat × f_Wt) := [(0, f_wm [(4462, 1, 7), (1, 0, 0)] (fun ar M R => c_X1_put (f_vi (f_nth ar 1)) M (fun M => R none M))), (1, f_wm [(4462, 1, 7), (2, 0, 0)] (fun ar M R => c_X1_putWord (f_vi (f_nth ar 1)) M (fun M => R none M)))]
set_option maxRecDepth 20000 in
theorem BX1_thenWord {sh : Nat → Nat × Nat} {t : Nat} {rm : Nat × Nat × Nat} {cs : Nat × Nat} {R : f_Rt} {c_X1_put : Int → e_M → (e_M → Prop) → Prop} {c_X1_putWord : Int → e_M → (e_M → Prop) → Prop} {x1 : Int} {M : e_M} (C : f_Hy sh t yX1_thenWord rm cs 6 (lX1_thenWord c_X1_put c_X1_putWord) R) (h : VX1_thenWord c_X1_put c_X1_putWord (fun M => R none M) x1 M) : f_E sh t YX1_thenWord rm cs (f_Q sh t R) 0 [.inr (.inr (.inl (1, 7, 4452))), .inr (.inl x1), .inr (.inr (.inr ()))] [] M :=
  f_go (KC := f_kc []) C qX1_thenWordf f_kc_nil 9 0 h
def WX1_thenWord (x1 : Int) (M : e_M) (Q : e_M → Prop) : Prop :=
  VX1_thenWord WX1_put WX1_putWord Q x1 M
theorem PX1_thenWord {sh : Nat → Nat × Nat} {t : Nat} {rm : Nat × Nat × Nat} {cs : Nat × Nat} {R : f_Rt} {x1 : Int} {M : e_M} (C : f_Hy sh t yX1_thenWord rm cs 6 (lX1_thenWord WX1_put WX1_putWord) R) (h : WX1_thenWord x1 M (fun M => R none M)) : f_E sh t YX1_thenWord rm cs (f_Q sh t R) 0 [.inr (.inr (.inl (1, 7, 4452))), .inr (.inl x1), .inr (.inr (.inr ()))] [] M :=
  BX1_thenWord C h
def wX1_thenWord : f_Wt := f_wm [(4462, 1, 7), (2, 0, 0)] (fun ar M R => WX1_thenWord (f_vi (f_nth ar 1)) M (fun M => R none M))
theorem TX1_thenWord {sh : Nat → Nat × Nat} {t : Nat} : f_Mt sh t YX1_thenWord 6 (wX1_thenWord) :=
  f_Mt_of (k := 0) (Nat.le_of_ble_eq_true rfl) rfl rfl (fun ar M R rm cs h1 h2 h3 hX h => PX1_thenWord ⟨Nat.le_of_ble_eq_true rfl, h1, h2, h3, ⟨(f_Mt.up (Nat.le_of_ble_eq_true rfl) TX1_put), (f_Mt.up (Nat.le_of_ble_eq_true rfl) TX1_putWord), trivial⟩, hX⟩ h)
def VX1_endLine (c_X1_put : Int → e_M → (e_M → Prop) → Prop) (Q : e_M → Prop) (M : e_M) : Prop :=
  (c_X1_put 10 M (fun M1 => (Q M1)))
def yX1_endLine (i : Nat) : e_Y := x_get YX1_endLine [YX1_put] i
def pX1_endLinef : List x_I := [(0, 4, 1, 0, 0, 0, []), (1, 0, 2, 0, 0, 10, []), (3, 40, 0, 2, 3, 0, []), (6, 44, 0, 0, 0, 0, [])]
set_option maxRecDepth 20000 in
theorem qX1_endLinef : f_all yX1_endLine YX1_endLine pX1_endLinef :=
  ⟨f_aload_n (n := 0) (e_dx DX1_endLine_0 0 rfl) rfl,
  f_bipush (e_dx DX1_endLine_0 1 rfl) ⟨by decide, by decide⟩,
  x_callV (e_dx DX1_endLine_0 2 rfl) mwX1_put vwX1_put cX1_98 rfl,
  ⟨(e_dx DX1_endLine_0 3 rfl), rfl⟩, trivial⟩
def lX1_endLine (c_X1_put : Int → e_M → (e_M → Prop) → Prop) : List (Nat × f_Wt) := [(0, f_wm [(4462, 1, 7), (1, 0, 0)] (fun ar M R => c_X1_put (f_vi (f_nth ar 1)) M (fun M => R none M)))]
set_option maxRecDepth 20000 in
theorem BX1_endLine {sh : Nat → Nat × Nat} {t : Nat} {rm : Nat × Nat × Nat} {cs : Nat × Nat} {R : f_Rt} {c_X1_put : Int → e_M → (e_M → Prop) → Prop} {M : e_M} (C : f_Hy sh t yX1_endLine rm cs 5 (lX1_endLine c_X1_put) R) (h : VX1_endLine c_X1_put (fun M => R none M) M) : f_E sh t YX1_endLine rm cs (f_Q sh t R) 0 [.inr (.inr (.inl (1, 7, 4452)))] [] M :=
  f_go (KC := f_kc []) C qX1_endLinef f_kc_nil 6 0 h
def WX1_endLine (M : e_M) (Q : e_M → Prop) : Prop :=
  VX1_endLine WX1_put Q M
theorem PX1_endLine {sh : Nat → Nat × Nat} {t : Nat} {rm : Nat × Nat × Nat} {cs : Nat × Nat} {R : f_Rt} {M : e_M} (C : f_Hy sh t yX1_endLine rm cs 5 (lX1_endLine WX1_put) R) (h : WX1_endLine M (fun M => R none M)) : f_E sh t YX1_endLine rm cs (f_Q sh t R) 0 [.inr (.inr (.inl (1, 7, 4452)))] [] M :=
  BX1_endLine C h
def wX1_endLine : f_Wt := f_wm [(4462, 1, 7)] (fun ar M R => WX1_endLine M (fun M => R none M))
theorem TX1_endLine {sh : Nat → Nat × Nat} {t : Nat} : f_Mt sh t YX1_endLine 5 (wX1_endLine) :=
  f_Mt_of (k := 0) (Nat.le_of_ble_eq_true rfl) rfl rfl (fun ar M R rm cs h1 h2 h3 hX h => PX1_endLine ⟨Nat.le_of_ble_eq_true rfl, h1, h2, h3, ⟨(f_Mt.up (Nat.le_of_ble_eq_true rfl) TX1_put), trivial⟩, hX⟩ h)
def VX3_area_4 (c_X3_next : Nat → Int → e_M → (Int → Prop) → Prop) (k4 : Nat → Int → Int → Prop) (Q : Int → Prop) (a0 : Nat) (x1 : Int) (x2 : Int) (M : e_M) : Prop :=
  (((M a0 2) ≤ x2 → (Q x1)) ∧ (x2 < (M a0 2) → (c_X3_next a0 x2 M (fun r1 => ((0 ≤ x2 ∧ x2 < 40) ∧ ((0 ≤ r1 ∧ r1 < 40) ∧ ((0 ≤ r1 ∧ r1 < 40) ∧ ((0 ≤ x2 ∧ x2 < 40) ∧ (∀ y2 : Int, y2 = e_w32 (x1 + (e_w32 ((e_w32 ((M (a0 + 1) (x2.toNat)) * (M (a0 + 2) (r1.toNat)))) - (e_w32 ((M (a0 + 1) (r1.toNat)) * (M (a0 + 2) (x2.toNat))))))) → (k4 a0 y2 (e_w32 (x2 + 1))))))))))))
def VX3_area (c_X3_next : Nat → Int → e_M → (Int → Prop) → Prop) (k4 : Nat → Int → Int → Prop) (Q : Int → Prop) (a0 : Nat) (M : e_M) : Prop :=
  (k4 a0 0 0)
def yX3_area (i : Nat) : e_Y := x_get YX3_area [YX3_next] i
def pX3_areaf : List x_I := [(0, 0, 1, 0, 0, 0, []), (1, 5, 1, 1, 0, 0, []), (2, 0, 1, 0, 0, 0, []), (3, 5, 1, 2, 0, 0, []), (4, 49, 0, 0, 0, 0, []), (4, 2, 1, 2, 0, 0, []), (5, 4, 1, 0, 0, 0, []), (6, 25, 3, 2, 0, 0, []), (9, 18, 54, 3, 39, 0, []), (12, 4, 1, 0, 0, 0, []), (13, 2, 1, 2, 0, 0, []), (14, 40, 0, 2, 5, 0, []), (17, 5, 1, 3, 0, 0, []), (18, 2, 1, 1, 0, 0, []), (19, 4, 1, 0, 0, 0, []), (20, 25, 3, 0, 4, 0, [(0, 20, 40), (0, 1, 1)]), (23, 2, 1, 2, 0, 0, []), (24, 27, 0, 0, 0, 0, []), (25, 4, 1, 0, 0, 0, []), (26, 25, 3, 1, 4, 0, [(0, 20, 40), (0, 1, 2)]), (29, 2, 1, 3, 0, 0, []), (30, 27, 0, 0, 0, 0, []), (31, 9, 0, 2, 0, 0, []), (32, 4, 1, 0, 0, 0, []), (33, 25, 3, 0, 4, 0, [(0, 20, 40), (0, 1, 1)]), (36, 2, 1, 3, 0, 0, []), (37, 27, 0, 0, 0, 0, []), (38, 4, 1, 0, 0, 0, []), (39, 25, 3, 1, 4, 0, [(0, 20, 40), (0, 1, 2)]), (42, 2, 1, 2, 0, 0, []), (43, 27, 0, 0, 0, 0, []), (44, 9, 0, 2, 0, 0, []), (45, 9, 0, 1, 0, 0, []), (46, 9, 0, 0, 0, 0, []), (47, 33, 0, 0, 0, 0, []), (47, 5, 1, 1, 0, 0, []), (48, 8, 0, 2, 0, 1, []), (51, 19, 4, 0, 5, 0, []), (54, 2, 1, 1, 0, 0, []), (55, 41, 0, 0, 0, 0, [])]
set_option maxRecDepth 20000 in
theorem qX3_areaf : f_all yX3_area YX3_area pX3_areaf :=
  ⟨f_iconst (e_dx DX3_area_0 0 rfl) ⟨by decide, by decide⟩,
  f_istore_n (n := 1) (e_dx DX3_area_0 1 rfl) rfl (by decide),
  f_iconst (e_dx DX3_area_0 2 rfl) ⟨by decide, by decide⟩,
  f_istore_n (n := 2) (e_dx DX3_area_0 3 rfl) rfl (by decide),
  trivial,
  f_iload_n (n := 2) (e_dx DX3_area_0 4 rfl) rfl,
  f_aload_n (n := 0) (e_dx DX3_area_0 5 rfl) rfl,
  f_getf (e_dx DX3_area_0 6 rfl) fX3_18 rfl (by decide) (by decide) (by decide),
  f_icmp_ge (e_dx DX3_area_0 7 rfl) rfl,
  f_aload_n (n := 0) (e_dx DX3_area_0 8 rfl) rfl,
  f_iload_n (n := 2) (e_dx DX3_area_0 9 rfl) rfl,
  x_callV (e_dx DX3_area_0 10 rfl) mwX3_next vwX3_next cX3_29 rfl,
  f_istore_n (n := 3) (e_dx DX3_area_0 11 rfl) rfl (by decide),
  f_iload_n (n := 1) (e_dx DX3_area_0 12 rfl) rfl,
  f_aload_n (n := 0) (e_dx DX3_area_0 13 rfl) rfl,
  f_getA (e_dx DX3_area_0 14 rfl) fX3_9 rfl (by decide) (Nat.le_of_ble_eq_true rfl) rfl (by decide),
  f_iload_n (n := 2) (e_dx DX3_area_0 15 rfl) rfl,
  f_iaload (e_dx DX3_area_0 16 rfl),
  f_aload_n (n := 0) (e_dx DX3_area_0 17 rfl) rfl,
  f_getA (e_dx DX3_area_0 18 rfl) fX3_15 rfl (by decide) (Nat.le_of_ble_eq_true rfl) rfl (by decide),
  f_iload_n (n := 3) (e_dx DX3_area_0 19 rfl) rfl,
  f_iaload (e_dx DX3_area_0 20 rfl),
  f_imul (e_dx DX3_area_0 21 rfl),
  f_aload_n (n := 0) (e_dx DX3_area_0 22 rfl) rfl,
  f_getA (e_dx DX3_area_0 23 rfl) fX3_9 rfl (by decide) (Nat.le_of_ble_eq_true rfl) rfl (by decide),
  f_iload_n (n := 3) (e_dx DX3_area_0 24 rfl) rfl,
  f_iaload (e_dx DX3_area_0 25 rfl),
  f_aload_n (n := 0) (e_dx DX3_area_0 26 rfl) rfl,
  f_getA (e_dx DX3_area_0 27 rfl) fX3_15 rfl (by decide) (Nat.le_of_ble_eq_true rfl) rfl (by decide),
  f_iload_n (n := 2) (e_dx DX3_area_0 28 rfl) rfl,
  f_iaload (e_dx DX3_area_0 29 rfl),
  f_imul (e_dx DX3_area_0 30 rfl),
  f_isub (e_dx DX3_area_0 31 rfl),
  f_iadd (e_dx DX3_area_0 32 rfl),
  f_g33,
  f_istore_n (n := 1) (e_dx DX3_area_0 33 rfl) rfl (by decide),
  f_g8 (e_dx DX3_area_0 34 rfl) ⟨by decide, by decide⟩,
  f_g19 (e_dx DX3_area_0 35 rfl) rfl,
  f_iload_n (n := 1) (e_dx DX3_area_0 36 rfl) rfl,
  ⟨(e_dx DX3_area_0 37 rfl), rfl⟩, trivial⟩
def lX3_area (c_X3_next : Nat → Int → e_M → (Int → Prop) → Prop) : List (Nat × f_Wt) := [(0, f_wm [(3, 3, 3), (1, 0, 0)] (fun ar M R => c_X3_next (f_va (f_nth ar 0)) (f_vi (f_nth ar 1)) M (fun r => R (some (.inl r)) M)))]
set_option maxRecDepth 20000 in
theorem BX3_area_4 {sh : Nat → Nat × Nat} {t : Nat} {rm : Nat × Nat × Nat} {cs : Nat × Nat} {R : f_Rt} {c_X3_next : Nat → Int → e_M → (Int → Prop) → Prop} {k4 : Nat → Int → Int → Prop} {a0 : Nat} {x1 : Int} {x2 : Int} {M : e_M} (C : f_Hy sh t yX3_area rm cs 5 (lX3_area c_X3_next) R) (h4 : ∀ (a0 : Nat) (x1 : Int) (x2 : Int), k4 a0 x1 x2 → f_E sh t YX3_area rm cs (f_Q sh t R) 4 [.inr (.inr (.inl (3, 3, a0))), .inl x1, .inl x2, .inr (.inr (.inr ()))] [] M) (h : VX3_area_4 c_X3_next k4 (fun r => R (some (.inl r)) M) a0 x1 x2 M) : f_E sh t YX3_area rm cs (f_Q sh t R) 4 [.inr (.inr (.inl (3, 3, a0))), .inl x1, .inl x2, .inr (.inr (.inr ()))] [] M := by
  rw [f_kk3 M k4] at h
  exact f_go (KC := f_kc [(4, f_pl [(3, 3, 3), (1, 0, 0), (1, 0, 0), (0, 0, 0)] [] (fun ls st M2 => M2 = M ∧ (k4 (f_va (f_nth ls 0)) (f_vi (f_nth ls 1)) (f_vi (f_nth ls 2)))))]) C qX3_areaf (f_kc_cons (f_pl_ok rfl (fun ls st M2 ⟨e, hh⟩ => by subst e; exact h4 _ _ _ hh)) f_kc_nil) 42 5 h
set_option maxRecDepth 20000 in
theorem BX3_area {sh : Nat → Nat × Nat} {t : Nat} {rm : Nat × Nat × Nat} {cs : Nat × Nat} {R : f_Rt} {c_X3_next : Nat → Int → e_M → (Int → Prop) → Prop} {k4 : Nat → Int → Int → Prop} {a0 : Nat} {M : e_M} (C : f_Hy sh t yX3_area rm cs 5 (lX3_area c_X3_next) R) (h4 : ∀ (a0 : Nat) (x1 : Int) (x2 : Int), k4 a0 x1 x2 → f_E sh t YX3_area rm cs (f_Q sh t R) 4 [.inr (.inr (.inl (3, 3, a0))), .inl x1, .inl x2, .inr (.inr (.inr ()))] [] M) (h : VX3_area c_X3_next k4 (fun r => R (some (.inl r)) M) a0 M) : f_E sh t YX3_area rm cs (f_Q sh t R) 0 [.inr (.inr (.inl (3, 3, a0))), .inr (.inr (.inr ())), .inr (.inr (.inr ())), .inr (.inr (.inr ()))] [] M := by
  rw [f_kk3 M k4] at h
  exact f_go (KC := f_kc [(4, f_pl [(3, 3, 3), (1, 0, 0), (1, 0, 0), (0, 0, 0)] [] (fun ls st M2 => M2 = M ∧ (k4 (f_va (f_nth ls 0)) (f_vi (f_nth ls 1)) (f_vi (f_nth ls 2)))))]) C qX3_areaf (f_kc_cons (f_pl_ok rfl (fun ls st M2 ⟨e, hh⟩ => by subst e; exact h4 _ _ _ hh)) f_kc_nil) 42 0 h
def WX3_area_4 (M : e_M) (Q : Int → Prop) : Nat → Nat → Int → Int → Prop
  | 0, _, _, _ => False
  | n + 1, a0, x1, x2 =>
    VX3_area_4 WX3_next (WX3_area_4 M Q n) Q a0 x1 x2 M
def WX3_area (a0 : Nat) (M : e_M) (Q : Int → Prop) : Prop :=
  VX3_area WX3_next (fun a0 x1 x2 => ∃ j, WX3_area_4 M Q j a0 x1 x2) Q a0 M
theorem PX3_area_4 {sh : Nat → Nat × Nat} {t : Nat} {rm : Nat × Nat × Nat} {cs : Nat × Nat} {R : f_Rt} {M : e_M} (C : f_Hy sh t yX3_area rm cs 5 (lX3_area WX3_next) R) : ∀ (n : Nat) (a0 : Nat) (x1 : Int) (x2 : Int), WX3_area_4 M (fun r => R (some (.inl r)) M) n a0 x1 x2 → f_E sh t YX3_area rm cs (f_Q sh t R) 4 [.inr (.inr (.inl (3, 3, a0))), .inl x1, .inl x2, .inr (.inr (.inr ()))] [] M := by
  intro n
  induction n with
  | zero => intro a0 x1 x2 h; exact h.elim
  | succ n ih => intro a0 x1 x2 h; exact BX3_area_4 C ih h
theorem PX3_area {sh : Nat → Nat × Nat} {t : Nat} {rm : Nat × Nat × Nat} {cs : Nat × Nat} {R : f_Rt} {a0 : Nat} {M : e_M} (C : f_Hy sh t yX3_area rm cs 5 (lX3_area WX3_next) R) (h : WX3_area a0 M (fun r => R (some (.inl r)) M)) : f_E sh t YX3_area rm cs (f_Q sh t R) 0 [.inr (.inr (.inl (3, 3, a0))), .inr (.inr (.inr ())), .inr (.inr (.inr ())), .inr (.inr (.inr ()))] [] M :=
  BX3_area C (fun a0 x1 x2 ⟨j, h⟩ => PX3_area_4 C j _ _ _ h) h
def wX3_area : f_Wt := f_wm [(3, 3, 3)] (fun ar M R => WX3_area (f_va (f_nth ar 0)) M (fun r => R (some (.inl r)) M))
theorem TX3_area {sh : Nat → Nat × Nat} {t : Nat} : f_Mt sh t YX3_area 5 (wX3_area) :=
  f_Mt_of (k := 3) (Nat.le_of_ble_eq_true rfl) rfl rfl (fun ar M R rm cs h1 h2 h3 hX h => PX3_area ⟨Nat.le_of_ble_eq_true rfl, h1, h2, h3, ⟨(f_Mt.up (Nat.le_of_ble_eq_true rfl) TX3_next), trivial⟩, hX⟩ h)
def VX1_putNumber_5 (c_X1_put : Int → e_M → (e_M → Prop) → Prop) (k34 : Int → Int → e_M → Prop) (k5 : Int → Int → Int → e_M → Prop) (Q : e_M → Prop) (x1 : Int) (x3 : Int) (x5 : Int) (M : e_M) : Prop :=
  ((18 ≤ x5 → (k34 x1 x3 M)) ∧ (x5 < 18 → (¬ x3 = 0 ∧ (((e_w64 (x1.tdiv x3)) < 10 → (k34 x1 x3 M)) ∧ (10 ≤ (e_w64 (x1.tdiv x3)) → (k5 x1 (e_w64 (x3 * 10)) (e_w32 (x5 + 1)) M))))))
def VX1_putNumber_34 (c_X1_put : Int → e_M → (e_M → Prop) → Prop) (k37 : Int → Int → e_M → Prop) (Q : e_M → Prop) (x1 : Int) (x3 : Int) (M : e_M) : Prop :=
  (k37 x1 x3 M)
def VX1_putNumber_37 (c_X1_put : Int → e_M → (e_M → Prop) → Prop) (k37 : Int → Int → e_M → Prop) (Q : e_M → Prop) (x1 : Int) (x5 : Int) (M : e_M) : Prop :=
  ((x5 ≤ 0 → (Q M)) ∧ (0 < x5 → (¬ x5 = 0 ∧ (¬ (10 : Int) = 0 ∧ (c_X1_put (e_w32 ((48 : Int) + (e_w32 ((e_w64 (x1.tdiv x5)).tmod 10)))) M (fun M1 => (¬ (10 : Int) = 0 ∧ (k37 x1 (e_w64 (x5.tdiv 10)) M1))))))))
def VX1_putNumber (c_X1_put : Int → e_M → (e_M → Prop) → Prop) (k5 : Int → Int → Int → e_M → Prop) (Q : e_M → Prop) (x1 : Int) (M : e_M) : Prop :=
  (k5 x1 1 0 M)
def yX1_putNumber (i : Nat) : e_Y := x_get YX1_putNumber [YX1_put] i
def pX1_putNumberf : List x_I := [(0, 1, 1, 0, 0, 1, []), (1, 6, 1, 3, 0, 0, []), (2, 0, 1, 0, 0, 0, []), (3, 5, 2, 5, 0, 0, []), (5, 49, 0, 0, 0, 0, []), (5, 2, 2, 5, 0, 0, []), (7, 0, 2, 0, 0, 18, []), (9, 18, 34, 3, 20, 0, []), (12, 3, 1, 1, 0, 0, []), (13, 3, 1, 3, 0, 0, []), (14, 10, 0, 3, 0, 0, []), (15, 1, 3, 0, 0, 10, []), (18, 32, 34, 2, 20, 0, []), (22, 3, 1, 3, 0, 0, []), (23, 1, 3, 0, 0, 10, []), (26, 10, 0, 2, 0, 0, []), (27, 6, 1, 3, 0, 0, []), (28, 8, 0, 5, 0, 1, []), (31, 19, 5, 0, 5, 0, []), (34, 49, 0, 0, 0, 0, []), (34, 3, 1, 3, 0, 0, []), (35, 6, 2, 5, 0, 0, []), (37, 49, 0, 0, 0, 0, []), (37, 3, 2, 5, 0, 0, []), (39, 1, 1, 0, 0, 0, []), (40, 32, 71, 5, 42, 0, []), (44, 4, 1, 0, 0, 0, []), (45, 0, 2, 0, 0, 48, []), (47, 3, 1, 1, 0, 0, []), (48, 3, 2, 5, 0, 0, []), (50, 10, 0, 3, 0, 0, []), (51, 1, 3, 0, 0, 10, []), (54, 10, 0, 4, 0, 0, []), (55, 15, 0, 0, 0, 0, []), (56, 9, 0, 0, 0, 0, []), (57, 40, 0, 2, 3, 0, []), (60, 3, 2, 5, 0, 0, []), (62, 1, 3, 0, 0, 10, []), (65, 10, 0, 3, 0, 0, []), (66, 6, 2, 5, 0, 0, []), (68, 19, 37, 0, 23, 0, []), (71, 44, 0, 0, 0, 0, [])]
set_option maxRecDepth 20000 in
theorem qX1_putNumberf : f_all yX1_putNumber YX1_putNumber pX1_putNumberf :=
  ⟨f_lconst (n := 1) (e_dx DX1_putNumber_0 0 rfl) rfl,
  f_lstore_n (n := 3) (e_dx DX1_putNumber_0 1 rfl) rfl (by decide),
  f_iconst (e_dx DX1_putNumber_0 2 rfl) ⟨by decide, by decide⟩,
  f_istore (e_dx DX1_putNumber_0 3 rfl) (by decide),
  trivial,
  f_iload (e_dx DX1_putNumber_0 4 rfl),
  f_bipush (e_dx DX1_putNumber_0 5 rfl) ⟨by decide, by decide⟩,
  f_icmp_ge (e_dx DX1_putNumber_0 6 rfl) rfl,
  f_lload_n (n := 1) (e_dx DX1_putNumber_0 7 rfl) rfl,
  f_lload_n (n := 3) (e_dx DX1_putNumber_0 8 rfl) rfl,
  f_ldiv (e_dx DX1_putNumber_0 9 rfl),
  f_ldc2 (e_dx DX1_putNumber_0 10 rfl) hX1_397 rfl ⟨by decide, by decide⟩,
  f_lif_lt (e_dx DX1_putNumber_0 11 rfl) (e_dx DX1_putNumber_0 12 rfl) rfl,
  f_lload_n (n := 3) (e_dx DX1_putNumber_0 13 rfl) rfl,
  f_ldc2 (e_dx DX1_putNumber_0 14 rfl) hX1_397 rfl ⟨by decide, by decide⟩,
  f_lmul (e_dx DX1_putNumber_0 15 rfl),
  f_lstore_n (n := 3) (e_dx DX1_putNumber_0 16 rfl) rfl (by decide),
  f_g8 (e_dx DX1_putNumber_0 17 rfl) ⟨by decide, by decide⟩,
  f_g19 (e_dx DX1_putNumber_0 18 rfl) rfl,
  trivial,
  f_lload_n (n := 3) (e_dx DX1_putNumber_0 19 rfl) rfl,
  f_lstore (e_dx DX1_putNumber_0 20 rfl) (by decide),
  trivial,
  f_lload (e_dx DX1_putNumber_0 21 rfl),
  f_lconst (n := 0) (e_dx DX1_putNumber_0 22 rfl) rfl,
  f_lif_le (e_dx DX1_putNumber_0 23 rfl) (e_dx DX1_putNumber_0 24 rfl) rfl,
  f_aload_n (n := 0) (e_dx DX1_putNumber_0 25 rfl) rfl,
  f_bipush (e_dx DX1_putNumber_0 26 rfl) ⟨by decide, by decide⟩,
  f_lload_n (n := 1) (e_dx DX1_putNumber_0 27 rfl) rfl,
  f_lload (e_dx DX1_putNumber_0 28 rfl),
  f_ldiv (e_dx DX1_putNumber_0 29 rfl),
  f_ldc2 (e_dx DX1_putNumber_0 30 rfl) hX1_397 rfl ⟨by decide, by decide⟩,
  f_lrem (e_dx DX1_putNumber_0 31 rfl),
  f_g15 (e_dx DX1_putNumber_0 32 rfl),
  f_iadd (e_dx DX1_putNumber_0 33 rfl),
  x_callV (e_dx DX1_putNumber_0 34 rfl) mwX1_put vwX1_put cX1_98 rfl,
  f_lload (e_dx DX1_putNumber_0 35 rfl),
  f_ldc2 (e_dx DX1_putNumber_0 36 rfl) hX1_397 rfl ⟨by decide, by decide⟩,
  f_ldiv (e_dx DX1_putNumber_0 37 rfl),
  f_lstore (e_dx DX1_putNumber_0 38 rfl) (by decide),
  f_g19 (e_dx DX1_putNumber_0 39 rfl) rfl,
  ⟨(e_dx DX1_putNumber_1 0 rfl), rfl⟩, trivial⟩
def lX1_putNumber (c_X1_put : Int → e_M → (e_M → Prop) → Prop) : List (Nat × f_Wt) := [(0, f_wm [(4462, 1, 7), (1, 0, 0)] (fun ar M R => c_X1_put (f_vi (f_nth ar 1)) M (fun M => R none M)))]
set_option maxRecDepth 20000 in
theorem BX1_putNumber_5 {sh : Nat → Nat × Nat} {t : Nat} {rm : Nat × Nat × Nat} {cs : Nat × Nat} {R : f_Rt} {c_X1_put : Int → e_M → (e_M → Prop) → Prop} {k34 : Int → Int → e_M → Prop} {k5 : Int → Int → Int → e_M → Prop} {x1 : Int} {x3 : Int} {x5 : Int} {M : e_M} (C : f_Hy sh t yX1_putNumber rm cs 5 (lX1_putNumber c_X1_put) R) (h34 : ∀ (x1 : Int) (x3 : Int) (M : e_M), k34 x1 x3 M → f_E sh t YX1_putNumber rm cs (f_Q sh t R) 34 [.inr (.inr (.inl (1, 7, 4452))), .inr (.inl x1), .inr (.inr (.inr ())), .inr (.inl x3), .inr (.inr (.inr ())), .inr (.inr (.inr ())), .inr (.inr (.inr ()))] [] M) (h5 : ∀ (x1 : Int) (x3 : Int) (x5 : Int) (M : e_M), k5 x1 x3 x5 M → f_E sh t YX1_putNumber rm cs (f_Q sh t R) 5 [.inr (.inr (.inl (1, 7, 4452))), .inr (.inl x1), .inr (.inr (.inr ())), .inr (.inl x3), .inr (.inr (.inr ())), .inl x5, .inr (.inr (.inr ()))] [] M) (h : VX1_putNumber_5 c_X1_put k34 k5 (fun M => R none M) x1 x3 x5 M) : f_E sh t YX1_putNumber rm cs (f_Q sh t R) 5 [.inr (.inr (.inl (1, 7, 4452))), .inr (.inl x1), .inr (.inr (.inr ())), .inr (.inl x3), .inr (.inr (.inr ())), .inl x5, .inr (.inr (.inr ()))] [] M :=
  f_go (KC := f_kc [(34, f_pl [(4462, 1, 7), (2, 0, 0), (0, 0, 0), (2, 0, 0), (0, 0, 0), (0, 0, 0), (0, 0, 0)] [] (fun ls st M => k34 (f_vi (f_nth ls 1)) (f_vi (f_nth ls 3)) M)), (5, f_pl [(4462, 1, 7), (2, 0, 0), (0, 0, 0), (2, 0, 0), (0, 0, 0), (1, 0, 0), (0, 0, 0)] [] (fun ls st M => k5 (f_vi (f_nth ls 1)) (f_vi (f_nth ls 3)) (f_vi (f_nth ls 5)) M))]) C qX1_putNumberf (f_kc_cons (f_pl_ok rfl (fun ls st M h => h34 _ _ M h)) (f_kc_cons (f_pl_ok rfl (fun ls st M h => h5 _ _ _ M h)) f_kc_nil)) 44 5 h
set_option maxRecDepth 20000 in
theorem BX1_putNumber_34 {sh : Nat → Nat × Nat} {t : Nat} {rm : Nat × Nat × Nat} {cs : Nat × Nat} {R : f_Rt} {c_X1_put : Int → e_M → (e_M → Prop) → Prop} {k37 : Int → Int → e_M → Prop} {x1 : Int} {x3 : Int} {M : e_M} (C : f_Hy sh t yX1_putNumber rm cs 5 (lX1_putNumber c_X1_put) R) (h37 : ∀ (x1 : Int) (x5 : Int) (M : e_M), k37 x1 x5 M → f_E sh t YX1_putNumber rm cs (f_Q sh t R) 37 [.inr (.inr (.inl (1, 7, 4452))), .inr (.inl x1), .inr (.inr (.inr ())), .inr (.inr (.inr ())), .inr (.inr (.inr ())), .inr (.inl x5), .inr (.inr (.inr ()))] [] M) (h : VX1_putNumber_34 c_X1_put k37 (fun M => R none M) x1 x3 M) : f_E sh t YX1_putNumber rm cs (f_Q sh t R) 34 [.inr (.inr (.inl (1, 7, 4452))), .inr (.inl x1), .inr (.inr (.inr ())), .inr (.inl x3), .inr (.inr (.inr ())), .inr (.inr (.inr ())), .inr (.inr (.inr ()))] [] M :=
  f_go (KC := f_kc [(37, f_pl [(4462, 1, 7), (2, 0, 0), (0, 0, 0), (0, 0, 0), (0, 0, 0), (2, 0, 0), (0, 0, 0)] [] (fun ls st M => k37 (f_vi (f_nth ls 1)) (f_vi (f_nth ls 5)) M))]) C qX1_putNumberf (f_kc_cons (f_pl_ok rfl (fun ls st M h => h37 _ _ M h)) f_kc_nil) 44 20 h
set_option maxRecDepth 20000 in
theorem BX1_putNumber_37 {sh : Nat → Nat × Nat} {t : Nat} {rm : Nat × Nat × Nat} {cs : Nat × Nat} {R : f_Rt} {c_X1_put : Int → e_M → (e_M → Prop) → Prop} {k37 : Int → Int → e_M → Prop} {x1 : Int} {x5 : Int} {M : e_M} (C : f_Hy sh t yX1_putNumber rm cs 5 (lX1_putNumber c_X1_put) R) (h37 : ∀ (x1 : Int) (x5 : Int) (M : e_M), k37 x1 x5 M → f_E sh t YX1_putNumber rm cs (f_Q sh t R) 37 [.inr (.inr (.inl (1, 7, 4452))), .inr (.inl x1), .inr (.inr (.inr ())), .inr (.inr (.inr ())), .inr (.inr (.inr ())), .inr (.inl x5), .inr (.inr (.inr ()))] [] M) (h : VX1_putNumber_37 c_X1_put k37 (fun M => R none M) x1 x5 M) : f_E sh t YX1_putNumber rm cs (f_Q sh t R) 37 [.inr (.inr (.inl (1, 7, 4452))), .inr (.inl x1), .inr (.inr (.inr ())), .inr (.inr (.inr ())), .inr (.inr (.inr ())), .inr (.inl x5), .inr (.inr (.inr ()))] [] M :=
  f_go (KC := f_kc [(37, f_pl [(4462, 1, 7), (2, 0, 0), (0, 0, 0), (0, 0, 0), (0, 0, 0), (2, 0, 0), (0, 0, 0)] [] (fun ls st M => k37 (f_vi (f_nth ls 1)) (f_vi (f_nth ls 5)) M))]) C qX1_putNumberf (f_kc_cons (f_pl_ok rfl (fun ls st M h => h37 _ _ M h)) f_kc_nil) 44 23 h
set_option maxRecDepth 20000 in
theorem BX1_putNumber {sh : Nat → Nat × Nat} {t : Nat} {rm : Nat × Nat × Nat} {cs : Nat × Nat} {R : f_Rt} {c_X1_put : Int → e_M → (e_M → Prop) → Prop} {k5 : Int → Int → Int → e_M → Prop} {x1 : Int} {M : e_M} (C : f_Hy sh t yX1_putNumber rm cs 5 (lX1_putNumber c_X1_put) R) (h5 : ∀ (x1 : Int) (x3 : Int) (x5 : Int) (M : e_M), k5 x1 x3 x5 M → f_E sh t YX1_putNumber rm cs (f_Q sh t R) 5 [.inr (.inr (.inl (1, 7, 4452))), .inr (.inl x1), .inr (.inr (.inr ())), .inr (.inl x3), .inr (.inr (.inr ())), .inl x5, .inr (.inr (.inr ()))] [] M) (h : VX1_putNumber c_X1_put k5 (fun M => R none M) x1 M) : f_E sh t YX1_putNumber rm cs (f_Q sh t R) 0 [.inr (.inr (.inl (1, 7, 4452))), .inr (.inl x1), .inr (.inr (.inr ())), .inr (.inr (.inr ())), .inr (.inr (.inr ())), .inr (.inr (.inr ())), .inr (.inr (.inr ()))] [] M :=
  f_go (KC := f_kc [(5, f_pl [(4462, 1, 7), (2, 0, 0), (0, 0, 0), (2, 0, 0), (0, 0, 0), (1, 0, 0), (0, 0, 0)] [] (fun ls st M => k5 (f_vi (f_nth ls 1)) (f_vi (f_nth ls 3)) (f_vi (f_nth ls 5)) M))]) C qX1_putNumberf (f_kc_cons (f_pl_ok rfl (fun ls st M h => h5 _ _ _ M h)) f_kc_nil) 44 0 h
def WX1_putNumber_37 (Q : e_M → Prop) : Nat → Int → Int → e_M → Prop
  | 0, _, _, _ => False
  | n + 1, x1, x5, M =>
    VX1_putNumber_37 WX1_put (WX1_putNumber_37 Q n) Q x1 x5 M
def WX1_putNumber_34 (Q : e_M → Prop) (x1 : Int) (x3 : Int) (M : e_M) : Prop :=
  VX1_putNumber_34 WX1_put (fun x1 x5 M => ∃ j, WX1_putNumber_37 Q j x1 x5 M) Q x1 x3 M
def WX1_putNumber_5 (Q : e_M → Prop) : Nat → Int → Int → Int → e_M → Prop
  | 0, _, _, _, _ => False
  | n + 1, x1, x3, x5, M =>
    VX1_putNumber_5 WX1_put (WX1_putNumber_34 Q) (WX1_putNumber_5 Q n) Q x1 x3 x5 M
def WX1_putNumber (x1 : Int) (M : e_M) (Q : e_M → Prop) : Prop :=
  VX1_putNumber WX1_put (fun x1 x3 x5 M => ∃ j, WX1_putNumber_5 Q j x1 x3 x5 M) Q x1 M
theorem PX1_putNumber_37 {sh : Nat → Nat × Nat} {t : Nat} {rm : Nat × Nat × Nat} {cs : Nat × Nat} {R : f_Rt} (C : f_Hy sh t yX1_putNumber rm cs 5 (lX1_putNumber WX1_put) R) : ∀ (n : Nat) (x1 : Int) (x5 : Int) (M : e_M), WX1_putNumber_37 (fun M => R none M) n x1 x5 M → f_E sh t YX1_putNumber rm cs (f_Q sh t R) 37 [.inr (.inr (.inl (1, 7, 4452))), .inr (.inl x1), .inr (.inr (.inr ())), .inr (.inr (.inr ())), .inr (.inr (.inr ())), .inr (.inl x5), .inr (.inr (.inr ()))] [] M := by
  intro n
  induction n with
  | zero => intro x1 x5 M h; exact h.elim
  | succ n ih => intro x1 x5 M h; exact BX1_putNumber_37 C ih h
theorem PX1_putNumber_34 {sh : Nat → Nat × Nat} {t : Nat} {rm : Nat × Nat × Nat} {cs : Nat × Nat} {R : f_Rt} {x1 : Int} {x3 : Int} {M : e_M} (C : f_Hy sh t yX1_putNumber rm cs 5 (lX1_putNumber WX1_put) R) (h : WX1_putNumber_34 (fun M => R none M) x1 x3 M) : f_E sh t YX1_putNumber rm cs (f_Q sh t R) 34 [.inr (.inr (.inl (1, 7, 4452))), .inr (.inl x1), .inr (.inr (.inr ())), .inr (.inl x3), .inr (.inr (.inr ())), .inr (.inr (.inr ())), .inr (.inr (.inr ()))] [] M :=
  BX1_putNumber_34 C (fun x1 x5 M ⟨j, h⟩ => PX1_putNumber_37 C j _ _ _ h) h
theorem PX1_putNumber_5 {sh : Nat → Nat × Nat} {t : Nat} {rm : Nat × Nat × Nat} {cs : Nat × Nat} {R : f_Rt} (C : f_Hy sh t yX1_putNumber rm cs 5 (lX1_putNumber WX1_put) R) : ∀ (n : Nat) (x1 : Int) (x3 : Int) (x5 : Int) (M : e_M), WX1_putNumber_5 (fun M => R none M) n x1 x3 x5 M → f_E sh t YX1_putNumber rm cs (f_Q sh t R) 5 [.inr (.inr (.inl (1, 7, 4452))), .inr (.inl x1), .inr (.inr (.inr ())), .inr (.inl x3), .inr (.inr (.inr ())), .inl x5, .inr (.inr (.inr ()))] [] M := by
  intro n
  induction n with
  | zero => intro x1 x3 x5 M h; exact h.elim
  | succ n ih => intro x1 x3 x5 M h; exact BX1_putNumber_5 C (fun x1 x3 M h => PX1_putNumber_34 C h) ih h
theorem PX1_putNumber {sh : Nat → Nat × Nat} {t : Nat} {rm : Nat × Nat × Nat} {cs : Nat × Nat} {R : f_Rt} {x1 : Int} {M : e_M} (C : f_Hy sh t yX1_putNumber rm cs 5 (lX1_putNumber WX1_put) R) (h : WX1_putNumber x1 M (fun M => R none M)) : f_E sh t YX1_putNumber rm cs (f_Q sh t R) 0 [.inr (.inr (.inl (1, 7, 4452))), .inr (.inl x1), .inr (.inr (.inr ())), .inr (.inr (.inr ())), .inr (.inr (.inr ())), .inr (.inr (.inr ())), .inr (.inr (.inr ()))] [] M :=
  BX1_putNumber C (fun x1 x3 x5 M ⟨j, h⟩ => PX1_putNumber_5 C j _ _ _ _ h) h
def wX1_putNumber : f_Wt := f_wm [(4462, 1, 7), (2, 0, 0)] (fun ar M R => WX1_putNumber (f_vi (f_nth ar 1)) M (fun M => R none M))
theorem TX1_putNumber {sh : Nat → Nat × Nat} {t : Nat} : f_Mt sh t YX1_putNumber 5 (wX1_putNumber) :=
  f_Mt_of (k := 4) (Nat.le_of_ble_eq_true rfl) rfl rfl (fun ar M R rm cs h1 h2 h3 hX h => PX1_putNumber ⟨Nat.le_of_ble_eq_true rfl, h1, h2, h3, ⟨(f_Mt.up (Nat.le_of_ble_eq_true rfl) TX1_put), trivial⟩, hX⟩ h)
def VX1_thenNumber (c_X1_put : Int → e_M → (e_M → Prop) → Prop) (c_X1_putNumber : Int → e_M → (e_M → Prop) → Prop) (Q : e_M → Prop) (x1 : Int) (M : e_M) : Prop :=
  (c_X1_put 32 M (fun M1 => (c_X1_putNumber x1 M1 (fun M2 => (Q M2)))))
def yX1_thenNumber (i : Nat) : e_Y := x_get YX1_thenNumber [YX1_put, YX1_putNumber] i
def pX1_thenNumberf : List x_I := [(0, 4, 1, 0, 0, 0, []), (1, 0, 2, 0, 0, 32, []), (3, 40, 0, 2, 3, 0, []), (6, 4, 1, 0, 0, 0, []), (7, 3, 1, 1, 0, 0, []), (8, 40, 1, 2, 3, 0, []), (11, 44, 0, 0, 0, 0, [])]
set_option maxRecDepth 20000 in
theorem qX1_thenNumberf : f_all yX1_thenNumber YX1_thenNumber pX1_thenNumberf :=
  ⟨f_aload_n (n := 0) (e_dx DX1_thenNumber_0 0 rfl) rfl,
  f_bipush (e_dx DX1_thenNumber_0 1 rfl) ⟨by decide, by decide⟩,
  x_callV (e_dx DX1_thenNumber_0 2 rfl) mwX1_put vwX1_put cX1_98 rfl,
  f_aload_n (n := 0) (e_dx DX1_thenNumber_0 3 rfl) rfl,
  f_lload_n (n := 1) (e_dx DX1_thenNumber_0 4 rfl) rfl,
  x_callV (e_dx DX1_thenNumber_0 5 rfl) mwX1_putNumber vwX1_putNumber cX1_94 rfl,
  ⟨(e_dx DX1_thenNumber_0 6 rfl), rfl⟩, trivial⟩
def lX1_thenNumber (c_X1_put : Int → e_M → (e_M → Prop) → Prop) (c_X1_putNumber : Int → e_M → (e_M → Prop) → Prop) : List (Nat × f_Wt) := [(0, f_wm [(4462, 1, 7), (1, 0, 0)] (fun ar M R => c_X1_put (f_vi (f_nth ar 1)) M (fun M => R none M))), (1, f_wm [(4462, 1, 7), (2, 0, 0)] (fun ar M R => c_X1_putNumber (f_vi (f_nth ar 1)) M (fun M => R none M)))]
set_option maxRecDepth 20000 in
theorem BX1_thenNumber {sh : Nat → Nat × Nat} {t : Nat} {rm : Nat × Nat × Nat} {cs : Nat × Nat} {R : f_Rt} {c_X1_put : Int → e_M → (e_M → Prop) → Prop} {c_X1_putNumber : Int → e_M → (e_M → Prop) → Prop} {x1 : Int} {M : e_M} (C : f_Hy sh t yX1_thenNumber rm cs 6 (lX1_thenNumber c_X1_put c_X1_putNumber) R) (h : VX1_thenNumber c_X1_put c_X1_putNumber (fun M => R none M) x1 M) : f_E sh t YX1_thenNumber rm cs (f_Q sh t R) 0 [.inr (.inr (.inl (1, 7, 4452))), .inr (.inl x1), .inr (.inr (.inr ()))] [] M :=
  f_go (KC := f_kc []) C qX1_thenNumberf f_kc_nil 9 0 h
def WX1_thenNumber (x1 : Int) (M : e_M) (Q : e_M → Prop) : Prop :=
  VX1_thenNumber WX1_put WX1_putNumber Q x1 M
theorem PX1_thenNumber {sh : Nat → Nat × Nat} {t : Nat} {rm : Nat × Nat × Nat} {cs : Nat × Nat} {R : f_Rt} {x1 : Int} {M : e_M} (C : f_Hy sh t yX1_thenNumber rm cs 6 (lX1_thenNumber WX1_put WX1_putNumber) R) (h : WX1_thenNumber x1 M (fun M => R none M)) : f_E sh t YX1_thenNumber rm cs (f_Q sh t R) 0 [.inr (.inr (.inl (1, 7, 4452))), .inr (.inl x1), .inr (.inr (.inr ()))] [] M :=
  BX1_thenNumber C h
def wX1_thenNumber : f_Wt := f_wm [(4462, 1, 7), (2, 0, 0)] (fun ar M R => WX1_thenNumber (f_vi (f_nth ar 1)) M (fun M => R none M))
theorem TX1_thenNumber {sh : Nat → Nat × Nat} {t : Nat} : f_Mt sh t YX1_thenNumber 6 (wX1_thenNumber) :=
  f_Mt_of (k := 0) (Nat.le_of_ble_eq_true rfl) rfl rfl (fun ar M R rm cs h1 h2 h3 hX h => PX1_thenNumber ⟨Nat.le_of_ble_eq_true rfl, h1, h2, h3, ⟨(f_Mt.up (Nat.le_of_ble_eq_true rfl) TX1_put), (f_Mt.up (Nat.le_of_ble_eq_true rfl) TX1_putNumber), trivial⟩, hX⟩ h)
def VX1_thenShare (c_X1_put : Int → e_M → (e_M → Prop) → Prop) (c_X1_putNumber : Int → e_M → (e_M → Prop) → Prop) (Q : e_M → Prop) (a1 : Nat) (x2 : Int) (M : e_M) : Prop :=
  (c_X1_put 32 M (fun M1 => ((0 ≤ x2 ∧ x2 < 14) ∧ (c_X1_putNumber (M1 (a1 + 7) (x2.toNat)) M1 (fun M2 => (c_X1_put 47 M2 (fun M3 => ((0 ≤ x2 ∧ x2 < 14) ∧ (c_X1_putNumber (M3 (a1 + 8) (x2.toNat)) M3 (fun M4 => (Q M4)))))))))))
def yX1_thenShare (i : Nat) : e_Y := x_get YX1_thenShare [YX1_put, YX1_putNumber] i
def pX1_thenSharef : List x_I := [(0, 4, 1, 0, 0, 0, []), (1, 0, 2, 0, 0, 32, []), (3, 40, 0, 2, 3, 0, []), (6, 4, 1, 0, 0, 0, []), (7, 4, 1, 1, 0, 0, []), (8, 25, 4, 6, 4, 0, [(0, 23, 14), (0, 1, 7)]), (11, 2, 1, 2, 0, 0, []), (12, 27, 0, 1, 0, 0, []), (13, 40, 1, 2, 3, 0, []), (16, 4, 1, 0, 0, 0, []), (17, 0, 2, 0, 0, 47, []), (19, 40, 0, 2, 3, 0, []), (22, 4, 1, 0, 0, 0, []), (23, 4, 1, 1, 0, 0, []), (24, 25, 4, 7, 4, 0, [(0, 23, 14), (0, 1, 8)]), (27, 2, 1, 2, 0, 0, []), (28, 27, 0, 1, 0, 0, []), (29, 40, 1, 2, 3, 0, []), (32, 44, 0, 0, 0, 0, [])]
set_option maxRecDepth 20000 in
theorem qX1_thenSharef : f_all yX1_thenShare YX1_thenShare pX1_thenSharef :=
  ⟨f_aload_n (n := 0) (e_dx DX1_thenShare_0 0 rfl) rfl,
  f_bipush (e_dx DX1_thenShare_0 1 rfl) ⟨by decide, by decide⟩,
  x_callV (e_dx DX1_thenShare_0 2 rfl) mwX1_put vwX1_put cX1_98 rfl,
  f_aload_n (n := 0) (e_dx DX1_thenShare_0 3 rfl) rfl,
  f_aload_n (n := 1) (e_dx DX1_thenShare_0 4 rfl) rfl,
  f_getA (e_dx DX1_thenShare_0 5 rfl) fX1_375 rfl (by decide) (Nat.le_of_ble_eq_true rfl) rfl (by decide),
  f_iload_n (n := 2) (e_dx DX1_thenShare_0 6 rfl) rfl,
  f_laload (e_dx DX1_thenShare_0 7 rfl),
  x_callV (e_dx DX1_thenShare_0 8 rfl) mwX1_putNumber vwX1_putNumber cX1_94 rfl,
  f_aload_n (n := 0) (e_dx DX1_thenShare_0 9 rfl) rfl,
  f_bipush (e_dx DX1_thenShare_0 10 rfl) ⟨by decide, by decide⟩,
  x_callV (e_dx DX1_thenShare_0 11 rfl) mwX1_put vwX1_put cX1_98 rfl,
  f_aload_n (n := 0) (e_dx DX1_thenShare_0 12 rfl) rfl,
  f_aload_n (n := 1) (e_dx DX1_thenShare_0 13 rfl) rfl,
  f_getA (e_dx DX1_thenShare_0 14 rfl) fX1_378 rfl (by decide) (Nat.le_of_ble_eq_true rfl) rfl (by decide),
  f_iload_n (n := 2) (e_dx DX1_thenShare_0 15 rfl) rfl,
  f_laload (e_dx DX1_thenShare_0 16 rfl),
  x_callV (e_dx DX1_thenShare_0 17 rfl) mwX1_putNumber vwX1_putNumber cX1_94 rfl,
  ⟨(e_dx DX1_thenShare_0 18 rfl), rfl⟩, trivial⟩
def lX1_thenShare (c_X1_put : Int → e_M → (e_M → Prop) → Prop) (c_X1_putNumber : Int → e_M → (e_M → Prop) → Prop) : List (Nat × f_Wt) := [(0, f_wm [(4462, 1, 7), (1, 0, 0)] (fun ar M R => c_X1_put (f_vi (f_nth ar 1)) M (fun M => R none M))), (1, f_wm [(4462, 1, 7), (2, 0, 0)] (fun ar M R => c_X1_putNumber (f_vi (f_nth ar 1)) M (fun M => R none M)))]
set_option maxRecDepth 20000 in
theorem BX1_thenShare {sh : Nat → Nat × Nat} {t : Nat} {rm : Nat × Nat × Nat} {cs : Nat × Nat} {R : f_Rt} {c_X1_put : Int → e_M → (e_M → Prop) → Prop} {c_X1_putNumber : Int → e_M → (e_M → Prop) → Prop} {a1 : Nat} {x2 : Int} {M : e_M} (C : f_Hy sh t yX1_thenShare rm cs 6 (lX1_thenShare c_X1_put c_X1_putNumber) R) (h : VX1_thenShare c_X1_put c_X1_putNumber (fun M => R none M) a1 x2 M) : f_E sh t YX1_thenShare rm cs (f_Q sh t R) 0 [.inr (.inr (.inl (1, 7, 4452))), .inr (.inr (.inl (4, 9, a1))), .inl x2] [] M :=
  f_go (KC := f_kc []) C qX1_thenSharef f_kc_nil 21 0 h
def WX1_thenShare (a1 : Nat) (x2 : Int) (M : e_M) (Q : e_M → Prop) : Prop :=
  VX1_thenShare WX1_put WX1_putNumber Q a1 x2 M
theorem PX1_thenShare {sh : Nat → Nat × Nat} {t : Nat} {rm : Nat × Nat × Nat} {cs : Nat × Nat} {R : f_Rt} {a1 : Nat} {x2 : Int} {M : e_M} (C : f_Hy sh t yX1_thenShare rm cs 6 (lX1_thenShare WX1_put WX1_putNumber) R) (h : WX1_thenShare a1 x2 M (fun M => R none M)) : f_E sh t YX1_thenShare rm cs (f_Q sh t R) 0 [.inr (.inr (.inl (1, 7, 4452))), .inr (.inr (.inl (4, 9, a1))), .inl x2] [] M :=
  BX1_thenShare C h
def wX1_thenShare : f_Wt := f_wm [(4462, 1, 7), (3, 4, 9), (1, 0, 0)] (fun ar M R => WX1_thenShare (f_va (f_nth ar 1)) (f_vi (f_nth ar 2)) M (fun M => R none M))
theorem TX1_thenShare {sh : Nat → Nat × Nat} {t : Nat} : f_Mt sh t YX1_thenShare 6 (wX1_thenShare) :=
  f_Mt_of (k := 0) (Nat.le_of_ble_eq_true rfl) rfl rfl (fun ar M R rm cs h1 h2 h3 hX h => PX1_thenShare ⟨Nat.le_of_ble_eq_true rfl, h1, h2, h3, ⟨(f_Mt.up (Nat.le_of_ble_eq_true rfl) TX1_put), (f_Mt.up (Nat.le_of_ble_eq_true rfl) TX1_putNumber), trivial⟩, hX⟩ h)
def VX1_putCharge (c_X1_putText : Nat → Nat → e_M → (e_M → Prop) → Prop) (c_X1_thenWord : Int → e_M → (e_M → Prop) → Prop) (c_X1_thenNumber : Int → e_M → (e_M → Prop) → Prop) (c_X1_endLine : e_M → (e_M → Prop) → Prop) (Q : e_M → Prop) (a1 : Nat) (M : e_M) : Prop :=
  (c_X1_putText 6 1000013 M (fun M1 => (c_X1_thenWord (M1 a1 0) M1 (fun M2 => (c_X1_thenNumber (M2 a1 6) M2 (fun M3 => (c_X1_endLine M3 (fun M4 => (Q M4)))))))))
def yX1_putCharge (i : Nat) : e_Y := x_get YX1_putCharge [YX1_putText, YX1_thenWord, YX1_thenNumber, YX1_endLine] i
def pX1_putChargef : List x_I := [(0, 4, 1, 0, 0, 0, []), (1, 38, 3, 1000013, 6, 0, []), (4, 40, 0, 2, 3, 0, []), (7, 4, 1, 0, 0, 0, []), (8, 4, 1, 1, 0, 0, []), (9, 25, 9, 0, 3, 0, []), (12, 40, 1, 2, 3, 0, []), (15, 4, 1, 0, 0, 0, []), (16, 4, 1, 1, 0, 0, []), (17, 25, 9, 6, 0, 0, []), (20, 14, 0, 0, 0, 0, []), (21, 40, 2, 2, 3, 0, []), (24, 4, 1, 0, 0, 0, []), (25, 40, 3, 1, 3, 0, []), (28, 44, 0, 0, 0, 0, [])]
set_option maxRecDepth 20000 in
theorem qX1_putChargef : f_all yX1_putCharge YX1_putCharge pX1_putChargef :=
  ⟨f_aload_n (n := 0) (e_dx DX1_putCharge_0 0 rfl) rfl,
  f_ldcSw (i := 8) (tx := "charge") (e_dx DX1_putCharge_0 1 rfl) (by decide) (by decide) rfl rfl,
  x_callV (e_dx DX1_putCharge_0 2 rfl) mwX1_putText vwX1_putText cX1_273 rfl,
  f_aload_n (n := 0) (e_dx DX1_putCharge_0 3 rfl) rfl,
  f_aload_n (n := 1) (e_dx DX1_putCharge_0 4 rfl) rfl,
  f_getL (e_dx DX1_putCharge_0 5 rfl) fX1_346 rfl (by decide),
  x_callV (e_dx DX1_putCharge_0 6 rfl) mwX1_thenWord vwX1_thenWord cX1_277 rfl,
  f_aload_n (n := 0) (e_dx DX1_putCharge_0 7 rfl) rfl,
  f_aload_n (n := 1) (e_dx DX1_putCharge_0 8 rfl) rfl,
  f_getf (e_dx DX1_putCharge_0 9 rfl) fX1_232 rfl (by decide) (by decide) (by decide),
  f_g14 (e_dx DX1_putCharge_0 10 rfl),
  x_callV (e_dx DX1_putCharge_0 11 rfl) mwX1_thenNumber vwX1_thenNumber cX1_317 rfl,
  f_aload_n (n := 0) (e_dx DX1_putCharge_0 12 rfl) rfl,
  x_callV (e_dx DX1_putCharge_0 13 rfl) mwX1_endLine vwX1_endLine cX1_282 rfl,
  ⟨(e_dx DX1_putCharge_0 14 rfl), rfl⟩, trivial⟩
def lX1_putCharge (c_X1_putText : Nat → Nat → e_M → (e_M → Prop) → Prop) (c_X1_thenWord : Int → e_M → (e_M → Prop) → Prop) (c_X1_thenNumber : Int → e_M → (e_M → Prop) → Prop) (c_X1_endLine : e_M → (e_M → Prop) → Prop) : List (Nat × f_Wt) := [(0, f_wm [(4462, 1, 7), (4, 0, 0)] (fun ar M R => c_X1_putText (f_vn (f_nth ar 1)) (f_va (f_nth ar 1)) M (fun M => R none M))), (1, f_wm [(4462, 1, 7), (2, 0, 0)] (fun ar M R => c_X1_thenWord (f_vi (f_nth ar 1)) M (fun M => R none M))), (2, f_wm [(4462, 1, 7), (2, 0, 0)] (fun ar M R => c_X1_thenNumber (f_vi (f_nth ar 1)) M (fun M => R none M))), (3, f_wm [(4462, 1, 7)] (fun ar M R => c_X1_endLine  M (fun M => R none M)))]
set_option maxRecDepth 20000 in
theorem BX1_putCharge {sh : Nat → Nat × Nat} {t : Nat} {rm : Nat × Nat × Nat} {cs : Nat × Nat} {R : f_Rt} {c_X1_putText : Nat → Nat → e_M → (e_M → Prop) → Prop} {c_X1_thenWord : Int → e_M → (e_M → Prop) → Prop} {c_X1_thenNumber : Int → e_M → (e_M → Prop) → Prop} {c_X1_endLine : e_M → (e_M → Prop) → Prop} {a1 : Nat} {M : e_M} (C : f_Hy sh t yX1_putCharge rm cs 7 (lX1_putCharge c_X1_putText c_X1_thenWord c_X1_thenNumber c_X1_endLine) R) (h : VX1_putCharge c_X1_putText c_X1_thenWord c_X1_thenNumber c_X1_endLine (fun M => R none M) a1 M) : f_E sh t YX1_putCharge rm cs (f_Q sh t R) 0 [.inr (.inr (.inl (1, 7, 4452))), .inr (.inr (.inl (9, 14, a1)))] [] M :=
  f_go (KC := f_kc []) C qX1_putChargef f_kc_nil 17 0 h
def WX1_putCharge (a1 : Nat) (M : e_M) (Q : e_M → Prop) : Prop :=
  VX1_putCharge WX1_putText WX1_thenWord WX1_thenNumber WX1_endLine Q a1 M
theorem PX1_putCharge {sh : Nat → Nat × Nat} {t : Nat} {rm : Nat × Nat × Nat} {cs : Nat × Nat} {R : f_Rt} {a1 : Nat} {M : e_M} (C : f_Hy sh t yX1_putCharge rm cs 7 (lX1_putCharge WX1_putText WX1_thenWord WX1_thenNumber WX1_endLine) R) (h : WX1_putCharge a1 M (fun M => R none M)) : f_E sh t YX1_putCharge rm cs (f_Q sh t R) 0 [.inr (.inr (.inl (1, 7, 4452))), .inr (.inr (.inl (9, 14, a1)))] [] M :=
  BX1_putCharge C h
def wX1_putCharge : f_Wt := f_wm [(4462, 1, 7), (3, 9, 14)] (fun ar M R => WX1_putCharge (f_va (f_nth ar 1)) M (fun M => R none M))
theorem TX1_putCharge {sh : Nat → Nat × Nat} {t : Nat} : f_Mt sh t YX1_putCharge 7 (wX1_putCharge) :=
  f_Mt_of (k := 0) (Nat.le_of_ble_eq_true rfl) rfl rfl (fun ar M R rm cs h1 h2 h3 hX h => PX1_putCharge ⟨Nat.le_of_ble_eq_true rfl, h1, h2, h3, ⟨(f_Mt.up (Nat.le_of_ble_eq_true rfl) TX1_putText), (f_Mt.up (Nat.le_of_ble_eq_true rfl) TX1_thenWord), (f_Mt.up (Nat.le_of_ble_eq_true rfl) TX1_thenNumber), (f_Mt.up (Nat.le_of_ble_eq_true rfl) TX1_endLine), trivial⟩, hX⟩ h)
def VX1_thenKind_25 (c_X1_putText : Nat → Nat → e_M → (e_M → Prop) → Prop) (Q : e_M → Prop) (ns1 : Nat) (as1 : Nat) (M : e_M) : Prop :=
  (c_X1_putText ns1 as1 M (fun M1 => (Q M1)))
def VX1_thenKind (c_X1_putText : Nat → Nat → e_M → (e_M → Prop) → Prop) (k25 : Nat → Nat → e_M → Prop) (Q : e_M → Prop) (x1 : Int) (M : e_M) : Prop :=
  ((¬ x1 = 0 → ((¬ x1 = 1 → (k25 6 1000023 M)) ∧ (x1 = 1 → (k25 6 1000022 M)))) ∧ (x1 = 0 → (k25 4 1000021 M)))
def yX1_thenKind (i : Nat) : e_Y := x_get YX1_thenKind [YX1_putText] i
def pX1_thenKindf : List x_I := [(0, 4, 1, 0, 0, 0, []), (1, 2, 1, 1, 0, 0, []), (2, 17, 11, 1, 6, 0, []), (5, 38, 3, 1000021, 4, 0, []), (8, 19, 25, 0, 12, 0, []), (11, 2, 1, 1, 0, 0, []), (12, 0, 1, 0, 0, 1, []), (13, 18, 22, 1, 11, 0, []), (16, 38, 3, 1000022, 6, 0, []), (19, 19, 25, 0, 12, 0, []), (22, 38, 3, 1000023, 6, 0, []), (25, 49, 0, 0, 0, 0, []), (25, 40, 0, 2, 3, 0, []), (28, 44, 0, 0, 0, 0, [])]
set_option maxRecDepth 20000 in
theorem qX1_thenKindf : f_all yX1_thenKind YX1_thenKind pX1_thenKindf :=
  ⟨f_aload_n (n := 0) (e_dx DX1_thenKind_0 0 rfl) rfl,
  f_iload_n (n := 1) (e_dx DX1_thenKind_0 1 rfl) rfl,
  f_if_ne (e_dx DX1_thenKind_0 2 rfl) rfl,
  f_ldcSw (i := 16) (tx := " way") (e_dx DX1_thenKind_0 3 rfl) (by decide) (by decide) rfl rfl,
  f_g19 (e_dx DX1_thenKind_0 4 rfl) rfl,
  f_iload_n (n := 1) (e_dx DX1_thenKind_0 5 rfl) rfl,
  f_iconst (e_dx DX1_thenKind_0 6 rfl) ⟨by decide, by decide⟩,
  f_icmp_ne (e_dx DX1_thenKind_0 7 rfl) rfl,
  f_ldcSw (i := 17) (tx := " water") (e_dx DX1_thenKind_0 8 rfl) (by decide) (by decide) rfl rfl,
  f_g19 (e_dx DX1_thenKind_0 9 rfl) rfl,
  f_ldcSw (i := 18) (tx := " light") (e_dx DX1_thenKind_0 10 rfl) (by decide) (by decide) rfl rfl,
  trivial,
  x_callV (e_dx DX1_thenKind_0 11 rfl) mwX1_putText vwX1_putText cX1_273 rfl,
  ⟨(e_dx DX1_thenKind_0 12 rfl), rfl⟩, trivial⟩
def lX1_thenKind (c_X1_putText : Nat → Nat → e_M → (e_M → Prop) → Prop) : List (Nat × f_Wt) := [(0, f_wm [(4462, 1, 7), (4, 0, 0)] (fun ar M R => c_X1_putText (f_vn (f_nth ar 1)) (f_va (f_nth ar 1)) M (fun M => R none M)))]
set_option maxRecDepth 20000 in
theorem BX1_thenKind_25 {sh : Nat → Nat × Nat} {t : Nat} {rm : Nat × Nat × Nat} {cs : Nat × Nat} {R : f_Rt} {c_X1_putText : Nat → Nat → e_M → (e_M → Prop) → Prop} {ns1 : Nat} {as1 : Nat} {M : e_M} (C : f_Hy sh t yX1_thenKind rm cs 6 (lX1_thenKind c_X1_putText) R) (h : VX1_thenKind_25 c_X1_putText (fun M => R none M) ns1 as1 M) : f_E sh t YX1_thenKind rm cs (f_Q sh t R) 25 [.inr (.inr (.inr ())), .inr (.inr (.inr ()))] [.inr (.inr (.inl (115, ns1, as1))), .inr (.inr (.inl (1, 7, 4452)))] M :=
  f_go (KC := f_kc []) C qX1_thenKindf f_kc_nil 16 12 h
set_option maxRecDepth 20000 in
theorem BX1_thenKind {sh : Nat → Nat × Nat} {t : Nat} {rm : Nat × Nat × Nat} {cs : Nat × Nat} {R : f_Rt} {c_X1_putText : Nat → Nat → e_M → (e_M → Prop) → Prop} {k25 : Nat → Nat → e_M → Prop} {x1 : Int} {M : e_M} (C : f_Hy sh t yX1_thenKind rm cs 6 (lX1_thenKind c_X1_putText) R) (h25 : ∀ (ns1 : Nat) (as1 : Nat) (M : e_M), k25 ns1 as1 M → f_E sh t YX1_thenKind rm cs (f_Q sh t R) 25 [.inr (.inr (.inr ())), .inr (.inr (.inr ()))] [.inr (.inr (.inl (115, ns1, as1))), .inr (.inr (.inl (1, 7, 4452)))] M) (h : VX1_thenKind c_X1_putText k25 (fun M => R none M) x1 M) : f_E sh t YX1_thenKind rm cs (f_Q sh t R) 0 [.inr (.inr (.inl (1, 7, 4452))), .inl x1] [] M :=
  f_go (KC := f_kc [(25, f_pl [(0, 0, 0), (0, 0, 0)] [(4, 0, 0), (4462, 1, 7)] (fun ls st M => k25 (f_vn (f_nth st 0)) (f_va (f_nth st 0)) M))]) C qX1_thenKindf (f_kc_cons (f_pl_ok rfl (fun ls st M h => h25 _ _ M h)) f_kc_nil) 16 0 h
def WX1_thenKind_25 (Q : e_M → Prop) (ns1 : Nat) (as1 : Nat) (M : e_M) : Prop :=
  VX1_thenKind_25 WX1_putText Q ns1 as1 M
def WX1_thenKind (x1 : Int) (M : e_M) (Q : e_M → Prop) : Prop :=
  VX1_thenKind WX1_putText (WX1_thenKind_25 Q) Q x1 M
theorem PX1_thenKind_25 {sh : Nat → Nat × Nat} {t : Nat} {rm : Nat × Nat × Nat} {cs : Nat × Nat} {R : f_Rt} {ns1 : Nat} {as1 : Nat} {M : e_M} (C : f_Hy sh t yX1_thenKind rm cs 6 (lX1_thenKind WX1_putText) R) (h : WX1_thenKind_25 (fun M => R none M) ns1 as1 M) : f_E sh t YX1_thenKind rm cs (f_Q sh t R) 25 [.inr (.inr (.inr ())), .inr (.inr (.inr ()))] [.inr (.inr (.inl (115, ns1, as1))), .inr (.inr (.inl (1, 7, 4452)))] M :=
  BX1_thenKind_25 C h
theorem PX1_thenKind {sh : Nat → Nat × Nat} {t : Nat} {rm : Nat × Nat × Nat} {cs : Nat × Nat} {R : f_Rt} {x1 : Int} {M : e_M} (C : f_Hy sh t yX1_thenKind rm cs 6 (lX1_thenKind WX1_putText) R) (h : WX1_thenKind x1 M (fun M => R none M)) : f_E sh t YX1_thenKind rm cs (f_Q sh t R) 0 [.inr (.inr (.inl (1, 7, 4452))), .inl x1] [] M :=
  BX1_thenKind C (fun ns1 as1 M h => PX1_thenKind_25 C h) h
def wX1_thenKind : f_Wt := f_wm [(4462, 1, 7), (1, 0, 0)] (fun ar M R => WX1_thenKind (f_vi (f_nth ar 1)) M (fun M => R none M))
theorem TX1_thenKind {sh : Nat → Nat × Nat} {t : Nat} : f_Mt sh t YX1_thenKind 6 (wX1_thenKind) :=
  f_Mt_of (k := 0) (Nat.le_of_ble_eq_true rfl) rfl rfl (fun ar M R rm cs h1 h2 h3 hX h => PX1_thenKind ⟨Nat.le_of_ble_eq_true rfl, h1, h2, h3, ⟨(f_Mt.up (Nat.le_of_ble_eq_true rfl) TX1_putText), trivial⟩, hX⟩ h)
def VX1_putServes_2 (c_X10_at : Nat → Int → Int → e_M → (Nat → Prop) → Prop) (c_X9_isThere : Nat → Int → e_M → (Int → Prop) → Prop) (c_X8_has : Nat → Int → e_M → (Int → Prop) → Prop) (c_X1_putText : Nat → Nat → e_M → (e_M → Prop) → Prop) (c_X1_thenWord : Int → e_M → (e_M → Prop) → Prop) (c_X1_thenKind : Int → e_M → (e_M → Prop) → Prop) (c_X1_endLine : e_M → (e_M → Prop) → Prop) (k111 : Int → Int → Int → e_M → Prop) (k58 : Int → Int → Int → Nat → Nat → e_M → Prop) (Q : e_M → Prop) (x1 : Int) (x2 : Int) (x3 : Int) (M : e_M) : Prop :=
  ((0 ≤ (3 : Int) ∧ (3 : Int) < 8) ∧ (((M ((M 4452 3).toNat + 24) ((3 : Int).toNat)) ≤ x3 → (Q M)) ∧ (x3 < (M ((M 4452 3).toNat + 24) ((3 : Int).toNat)) → (c_X10_at ((M 4452 3).toNat) 3 x3 M (fun r1 => (c_X9_isThere r1 (M ((M 4452 3).toNat) 11) M (fun r2 => ((r2 = 0 → (k111 x1 x2 x3 M)) ∧ (¬ r2 = 0 → ((x2 = 0 → (k58 x1 x2 x3 r1 ((M r1 10).toNat) M)) ∧ (¬ x2 = 0 → (k58 x1 x2 x3 r1 ((M r1 9).toNat) M))))))))))))
def VX1_putServes_58 (c_X10_at : Nat → Int → Int → e_M → (Nat → Prop) → Prop) (c_X9_isThere : Nat → Int → e_M → (Int → Prop) → Prop) (c_X8_has : Nat → Int → e_M → (Int → Prop) → Prop) (c_X1_putText : Nat → Nat → e_M → (e_M → Prop) → Prop) (c_X1_thenWord : Int → e_M → (e_M → Prop) → Prop) (c_X1_thenKind : Int → e_M → (e_M → Prop) → Prop) (c_X1_endLine : e_M → (e_M → Prop) → Prop) (k111 : Int → Int → Int → e_M → Prop) (k104 : Int → Int → Int → Nat → Nat → e_M → Prop) (Q : e_M → Prop) (x1 : Int) (x2 : Int) (x3 : Int) (a4 : Nat) (as0 : Nat) (M : e_M) : Prop :=
  (c_X8_has as0 x1 M (fun r1 => ((r1 = 0 → (k111 x1 x2 x3 M)) ∧ (¬ r1 = 0 → (c_X1_putText 5 1000014 M (fun M2 => (c_X1_thenWord (M2 a4 0) M2 (fun M3 => (c_X1_thenKind (M3 a4 7) M3 (fun M4 => ((x2 = 0 → (k104 x1 x2 x3 5 1000025 M4)) ∧ (¬ x2 = 0 → (k104 x1 x2 x3 3 1000024 M4)))))))))))))
def VX1_putServes_104 (c_X10_at : Nat → Int → Int → e_M → (Nat → Prop) → Prop) (c_X9_isThere : Nat → Int → e_M → (Int → Prop) → Prop) (c_X8_has : Nat → Int → e_M → (Int → Prop) → Prop) (c_X1_putText : Nat → Nat → e_M → (e_M → Prop) → Prop) (c_X1_thenWord : Int → e_M → (e_M → Prop) → Prop) (c_X1_thenKind : Int → e_M → (e_M → Prop) → Prop) (c_X1_endLine : e_M → (e_M → Prop) → Prop) (k111 : Int → Int → Int → e_M → Prop) (Q : e_M → Prop) (x1 : Int) (x2 : Int) (x3 : Int) (ns1 : Nat) (as1 : Nat) (M : e_M) : Prop :=
  (c_X1_putText ns1 as1 M (fun M1 => (c_X1_endLine M1 (fun M2 => (k111 x1 x2 x3 M2)))))
def VX1_putServes_111 (c_X10_at : Nat → Int → Int → e_M → (Nat → Prop) → Prop) (c_X9_isThere : Nat → Int → e_M → (Int → Prop) → Prop) (c_X8_has : Nat → Int → e_M → (Int → Prop) → Prop) (c_X1_putText : Nat → Nat → e_M → (e_M → Prop) → Prop) (c_X1_thenWord : Int → e_M → (e_M → Prop) → Prop) (c_X1_thenKind : Int → e_M → (e_M → Prop) → Prop) (c_X1_endLine : e_M → (e_M → Prop) → Prop) (k2 : Int → Int → Int → e_M → Prop) (Q : e_M → Prop) (x1 : Int) (x2 : Int) (x3 : Int) (M : e_M) : Prop :=
  (k2 x1 x2 (e_w32 (x3 + 1)) M)
def VX1_putServes (c_X10_at : Nat → Int → Int → e_M → (Nat → Prop) → Prop) (c_X9_isThere : Nat → Int → e_M → (Int → Prop) → Prop) (c_X8_has : Nat → Int → e_M → (Int → Prop) → Prop) (c_X1_putText : Nat → Nat → e_M → (e_M → Prop) → Prop) (c_X1_thenWord : Int → e_M → (e_M → Prop) → Prop) (c_X1_thenKind : Int → e_M → (e_M → Prop) → Prop) (c_X1_endLine : e_M → (e_M → Prop) → Prop) (k2 : Int → Int → Int → e_M → Prop) (Q : e_M → Prop) (x1 : Int) (x2 : Int) (M : e_M) : Prop :=
  (k2 x1 x2 0 M)
def yX1_putServes (i : Nat) : e_Y := x_get YX1_putServes [YX10_at, YX9_isThere, YX8_has, YX1_putText, YX1_thenWord, YX1_thenKind, YX1_endLine] i
def pX1_putServesf : List x_I := [(0, 0, 1, 0, 0, 0, []), (1, 5, 1, 3, 0, 0, []), (2, 49, 0, 0, 0, 0, []), (2, 2, 1, 3, 0, 0, []), (3, 4, 1, 0, 0, 0, []), (4, 25, 1, 3, 4, 0, [(0, 10, 15), (0, 0, 0)]), (7, 25, 10, 4, 4, 0, [(0, 20, 8), (0, 1, 24)]), (10, 0, 1, 0, 0, 3, []), (11, 27, 0, 0, 0, 0, []), (12, 18, 117, 3, 58, 0, []), (15, 4, 1, 0, 0, 0, []), (16, 25, 1, 3, 4, 0, [(0, 10, 15), (0, 0, 0)]), (19, 0, 1, 0, 0, 3, []), (20, 2, 1, 3, 0, 0, []), (21, 40, 0, 3, 12, 0, []), (24, 7, 2, 4, 0, 0, []), (26, 4, 2, 4, 0, 0, []), (28, 4, 1, 0, 0, 0, []), (29, 25, 1, 3, 4, 0, [(0, 10, 15), (0, 0, 0)]), (32, 25, 10, 11, 0, 0, []), (35, 40, 1, 2, 11, 0, []), (38, 17, 111, 0, 55, 0, []), (41, 2, 1, 2, 0, 0, []), (42, 17, 53, 0, 28, 0, []), (45, 4, 2, 4, 0, 0, []), (47, 25, 9, 9, 4, 0, [(0, 8, 2), (0, 0, 0)]), (50, 19, 58, 0, 30, 0, []), (53, 4, 2, 4, 0, 0, []), (55, 25, 9, 10, 4, 0, [(0, 8, 2), (0, 0, 0)]), (58, 49, 0, 0, 0, 0, []), (58, 2, 1, 1, 0, 0, []), (59, 40, 2, 2, 10, 0, []), (62, 17, 111, 0, 55, 0, []), (65, 4, 1, 0, 0, 0, []), (66, 38, 3, 1000014, 5, 0, []), (69, 40, 3, 2, 3, 0, []), (72, 4, 1, 0, 0, 0, []), (73, 4, 2, 4, 0, 0, []), (75, 25, 9, 0, 3, 0, []), (78, 40, 4, 2, 3, 0, []), (81, 4, 1, 0, 0, 0, []), (82, 4, 2, 4, 0, 0, []), (84, 25, 9, 7, 0, 0, []), (87, 40, 5, 2, 3, 0, []), (90, 4, 1, 0, 0, 0, []), (91, 2, 1, 2, 0, 0, []), (92, 17, 101, 0, 50, 0, []), (95, 38, 3, 1000024, 3, 0, []), (98, 19, 104, 0, 51, 0, []), (101, 38, 3, 1000025, 5, 0, []), (104, 49, 0, 0, 0, 0, []), (104, 40, 3, 2, 3, 0, []), (107, 4, 1, 0, 0, 0, []), (108, 40, 6, 1, 3, 0, []), (111, 49, 0, 0, 0, 0, []), (111, 8, 0, 3, 0, 1, []), (114, 19, 2, 0, 3, 0, []), (117, 44, 0, 0, 0, 0, [])]
set_option maxRecDepth 20000 in
theorem qX1_putServesf : f_all yX1_putServes YX1_putServes pX1_putServesf :=
  ⟨f_iconst (e_dx DX1_putServes_0 0 rfl) ⟨by decide, by decide⟩,
  f_istore_n (n := 3) (e_dx DX1_putServes_0 1 rfl) rfl (by decide),
  trivial,
  f_iload_n (n := 3) (e_dx DX1_putServes_0 2 rfl) rfl,
  f_aload_n (n := 0) (e_dx DX1_putServes_0 3 rfl) rfl,
  f_getA (e_dx DX1_putServes_0 4 rfl) fX1_31 rfl (by decide) (Nat.le_of_ble_eq_true rfl) rfl (by decide),
  f_getA (e_dx DX1_putServes_0 5 rfl) fX1_104 rfl (by decide) (Nat.le_of_ble_eq_true rfl) rfl (by decide),
  f_iconst (e_dx DX1_putServes_0 6 rfl) ⟨by decide, by decide⟩,
  f_iaload (e_dx DX1_putServes_0 7 rfl),
  f_icmp_ge (e_dx DX1_putServes_0 8 rfl) rfl,
  f_aload_n (n := 0) (e_dx DX1_putServes_0 9 rfl) rfl,
  f_getA (e_dx DX1_putServes_0 10 rfl) fX1_31 rfl (by decide) (Nat.le_of_ble_eq_true rfl) rfl (by decide),
  f_iconst (e_dx DX1_putServes_0 11 rfl) ⟨by decide, by decide⟩,
  f_iload_n (n := 3) (e_dx DX1_putServes_0 12 rfl) rfl,
  x_callV (e_dx DX1_putServes_0 13 rfl) mwX10_at vwX10_at cX1_173 rfl,
  f_astore (e_dx DX1_putServes_0 14 rfl) (by decide),
  f_aload (e_dx DX1_putServes_0 15 rfl),
  f_aload_n (n := 0) (e_dx DX1_putServes_0 16 rfl) rfl,
  f_getA (e_dx DX1_putServes_0 17 rfl) fX1_31 rfl (by decide) (Nat.le_of_ble_eq_true rfl) rfl (by decide),
  f_getf (e_dx DX1_putServes_0 18 rfl) fX1_245 rfl (by decide) (by decide) (by decide),
  x_callV (e_dx DX1_putServes_0 19 rfl) mwX9_isThere vwX9_isThere cX1_265 rfl,
  f_if_eq (e_dx DX1_putServes_0 20 rfl) rfl,
  f_iload_n (n := 2) (e_dx DX1_putServes_0 21 rfl) rfl,
  f_if_eq (e_dx DX1_putServes_0 22 rfl) rfl,
  f_aload (e_dx DX1_putServes_0 23 rfl),
  f_getA (e_dx DX1_putServes_0 24 rfl) fX1_191 rfl (by decide) (Nat.le_of_ble_eq_true rfl) rfl (by decide),
  f_g19 (e_dx DX1_putServes_0 25 rfl) rfl,
  f_aload (e_dx DX1_putServes_0 26 rfl),
  f_getA (e_dx DX1_putServes_0 27 rfl) fX1_182 rfl (by decide) (Nat.le_of_ble_eq_true rfl) rfl (by decide),
  trivial,
  f_iload_n (n := 1) (e_dx DX1_putServes_0 28 rfl) rfl,
  x_callV (e_dx DX1_putServes_0 29 rfl) mwX8_has vwX8_has cX1_186 rfl,
  f_if_eq (e_dx DX1_putServes_0 30 rfl) rfl,
  f_aload_n (n := 0) (e_dx DX1_putServes_0 31 rfl) rfl,
  f_ldcSw (i := 9) (tx := "serve") (e_dx DX1_putServes_0 32 rfl) (by decide) (by decide) rfl rfl,
  x_callV (e_dx DX1_putServes_0 33 rfl) mwX1_putText vwX1_putText cX1_273 rfl,
  f_aload_n (n := 0) (e_dx DX1_putServes_0 34 rfl) rfl,
  f_aload (e_dx DX1_putServes_0 35 rfl),
  f_getL (e_dx DX1_putServes_0 36 rfl) fX1_346 rfl (by decide),
  x_callV (e_dx DX1_putServes_0 37 rfl) mwX1_thenWord vwX1_thenWord cX1_277 rfl,
  f_aload_n (n := 0) (e_dx DX1_putServes_0 38 rfl) rfl,
  f_aload (e_dx DX1_putServes_0 39 rfl),
  f_getf (e_dx DX1_putServes_1 0 rfl) fX1_239 rfl (by decide) (by decide) (by decide),
  x_callV (e_dx DX1_putServes_1 1 rfl) mwX1_thenKind vwX1_thenKind cX1_347 rfl,
  f_aload_n (n := 0) (e_dx DX1_putServes_1 2 rfl) rfl,
  f_iload_n (n := 2) (e_dx DX1_putServes_1 3 rfl) rfl,
  f_if_eq (e_dx DX1_putServes_1 4 rfl) rfl,
  f_ldcSw (i := 19) (tx := " of") (e_dx DX1_putServes_1 5 rfl) (by decide) (by decide) rfl rfl,
  f_g19 (e_dx DX1_putServes_1 6 rfl) rfl,
  f_ldcSw (i := 20) (tx := " over") (e_dx DX1_putServes_1 7 rfl) (by decide) (by decide) rfl rfl,
  trivial,
  x_callV (e_dx DX1_putServes_1 8 rfl) mwX1_putText vwX1_putText cX1_273 rfl,
  f_aload_n (n := 0) (e_dx DX1_putServes_1 9 rfl) rfl,
  x_callV (e_dx DX1_putServes_1 10 rfl) mwX1_endLine vwX1_endLine cX1_282 rfl,
  trivial,
  f_g8 (e_dx DX1_putServes_1 11 rfl) ⟨by decide, by decide⟩,
  f_g19 (e_dx DX1_putServes_1 12 rfl) rfl,
  ⟨(e_dx DX1_putServes_1 13 rfl), rfl⟩, trivial⟩
def lX1_putServes (c_X10_at : Nat → Int → Int → e_M → (Nat → Prop) → Prop) (c_X9_isThere : Nat → Int → e_M → (Int → Prop) → Prop) (c_X8_has : Nat → Int → e_M → (Int → Prop) → Prop) (c_X1_putText : Nat → Nat → e_M → (e_M → Prop) → Prop) (c_X1_thenWord : Int → e_M → (e_M → Prop) → Prop) (c_X1_thenKind : Int → e_M → (e_M → Prop) → Prop) (c_X1_endLine : e_M → (e_M → Prop) → Prop) : List (Nat × f_Wt) := [(0, f_wm [(3, 10, 15), (1, 0, 0), (1, 0, 0)] (fun ar M R => c_X10_at (f_va (f_nth ar 0)) (f_vi (f_nth ar 1)) (f_vi (f_nth ar 2)) M (fun r => R (some (.inr (.inr (.inl (9, 14, r))))) M))), (1, f_wm [(3, 9, 14), (1, 0, 0)] (fun ar M R => c_X9_isThere (f_va (f_nth ar 0)) (f_vi (f_nth ar 1)) M (fun r => R (some (.inl r)) M))), (2, f_wm [(3, 8, 2), (1, 0, 0)] (fun ar M R => c_X8_has (f_va (f_nth ar 0)) (f_vi (f_nth ar 1)) M (fun r => R (some (.inl r)) M))), (3, f_wm [(4462, 1, 7), (4, 0, 0)] (fun ar M R => c_X1_putText (f_vn (f_nth ar 1)) (f_va (f_nth ar 1)) M (fun M => R none M))), (4, f_wm [(4462, 1, 7), (2, 0, 0)] (fun ar M R => c_X1_thenWord (f_vi (f_nth ar 1)) M (fun M => R none M))), (5, f_wm [(4462, 1, 7), (1, 0, 0)] (fun ar M R => c_X1_thenKind (f_vi (f_nth ar 1)) M (fun M => R none M))), (6, f_wm [(4462, 1, 7)] (fun ar M R => c_X1_endLine  M (fun M => R none M)))]
set_option maxRecDepth 20000 in
theorem BX1_putServes_2 {sh : Nat → Nat × Nat} {t : Nat} {rm : Nat × Nat × Nat} {cs : Nat × Nat} {R : f_Rt} {c_X10_at : Nat → Int → Int → e_M → (Nat → Prop) → Prop} {c_X9_isThere : Nat → Int → e_M → (Int → Prop) → Prop} {c_X8_has : Nat → Int → e_M → (Int → Prop) → Prop} {c_X1_putText : Nat → Nat → e_M → (e_M → Prop) → Prop} {c_X1_thenWord : Int → e_M → (e_M → Prop) → Prop} {c_X1_thenKind : Int → e_M → (e_M → Prop) → Prop} {c_X1_endLine : e_M → (e_M → Prop) → Prop} {k111 : Int → Int → Int → e_M → Prop} {k58 : Int → Int → Int → Nat → Nat → e_M → Prop} {x1 : Int} {x2 : Int} {x3 : Int} {M : e_M} (C : f_Hy sh t yX1_putServes rm cs 7 (lX1_putServes c_X10_at c_X9_isThere c_X8_has c_X1_putText c_X1_thenWord c_X1_thenKind c_X1_endLine) R) (h111 : ∀ (x1 : Int) (x2 : Int) (x3 : Int) (M : e_M), k111 x1 x2 x3 M → f_E sh t YX1_putServes rm cs (f_Q sh t R) 111 [.inr (.inr (.inl (1, 7, 4452))), .inl x1, .inl x2, .inl x3, .inr (.inr (.inr ()))] [] M) (h58 : ∀ (x1 : Int) (x2 : Int) (x3 : Int) (a4 : Nat) (as0 : Nat) (M : e_M), k58 x1 x2 x3 a4 as0 M → f_E sh t YX1_putServes rm cs (f_Q sh t R) 58 [.inr (.inr (.inl (1, 7, 4452))), .inl x1, .inl x2, .inl x3, .inr (.inr (.inl (9, 14, a4)))] [.inr (.inr (.inl (8, 2, as0)))] M) (h : VX1_putServes_2 c_X10_at c_X9_isThere c_X8_has c_X1_putText c_X1_thenWord c_X1_thenKind c_X1_endLine k111 k58 (fun M => R none M) x1 x2 x3 M) : f_E sh t YX1_putServes rm cs (f_Q sh t R) 2 [.inr (.inr (.inl (1, 7, 4452))), .inl x1, .inl x2, .inl x3, .inr (.inr (.inr ()))] [] M :=
  f_go (KC := f_kc [(111, f_pl [(4462, 1, 7), (1, 0, 0), (1, 0, 0), (1, 0, 0), (0, 0, 0)] [] (fun ls st M => k111 (f_vi (f_nth ls 1)) (f_vi (f_nth ls 2)) (f_vi (f_nth ls 3)) M)), (58, f_pl [(4462, 1, 7), (1, 0, 0), (1, 0, 0), (1, 0, 0), (3, 9, 14)] [(3, 8, 2)] (fun ls st M => k58 (f_vi (f_nth ls 1)) (f_vi (f_nth ls 2)) (f_vi (f_nth ls 3)) (f_va (f_nth ls 4)) (f_va (f_nth st 0)) M))]) C qX1_putServesf (f_kc_cons (f_pl_ok rfl (fun ls st M h => h111 _ _ _ M h)) (f_kc_cons (f_pl_ok rfl (fun ls st M h => h58 _ _ _ _ _ M h)) f_kc_nil)) 60 3 h
set_option maxRecDepth 20000 in
theorem BX1_putServes_58 {sh : Nat → Nat × Nat} {t : Nat} {rm : Nat × Nat × Nat} {cs : Nat × Nat} {R : f_Rt} {c_X10_at : Nat → Int → Int → e_M → (Nat → Prop) → Prop} {c_X9_isThere : Nat → Int → e_M → (Int → Prop) → Prop} {c_X8_has : Nat → Int → e_M → (Int → Prop) → Prop} {c_X1_putText : Nat → Nat → e_M → (e_M → Prop) → Prop} {c_X1_thenWord : Int → e_M → (e_M → Prop) → Prop} {c_X1_thenKind : Int → e_M → (e_M → Prop) → Prop} {c_X1_endLine : e_M → (e_M → Prop) → Prop} {k111 : Int → Int → Int → e_M → Prop} {k104 : Int → Int → Int → Nat → Nat → e_M → Prop} {x1 : Int} {x2 : Int} {x3 : Int} {a4 : Nat} {as0 : Nat} {M : e_M} (C : f_Hy sh t yX1_putServes rm cs 7 (lX1_putServes c_X10_at c_X9_isThere c_X8_has c_X1_putText c_X1_thenWord c_X1_thenKind c_X1_endLine) R) (h111 : ∀ (x1 : Int) (x2 : Int) (x3 : Int) (M : e_M), k111 x1 x2 x3 M → f_E sh t YX1_putServes rm cs (f_Q sh t R) 111 [.inr (.inr (.inl (1, 7, 4452))), .inl x1, .inl x2, .inl x3, .inr (.inr (.inr ()))] [] M) (h104 : ∀ (x1 : Int) (x2 : Int) (x3 : Int) (ns1 : Nat) (as1 : Nat) (M : e_M), k104 x1 x2 x3 ns1 as1 M → f_E sh t YX1_putServes rm cs (f_Q sh t R) 104 [.inr (.inr (.inl (1, 7, 4452))), .inl x1, .inl x2, .inl x3, .inr (.inr (.inr ()))] [.inr (.inr (.inl (115, ns1, as1))), .inr (.inr (.inl (1, 7, 4452)))] M) (h : VX1_putServes_58 c_X10_at c_X9_isThere c_X8_has c_X1_putText c_X1_thenWord c_X1_thenKind c_X1_endLine k111 k104 (fun M => R none M) x1 x2 x3 a4 as0 M) : f_E sh t YX1_putServes rm cs (f_Q sh t R) 58 [.inr (.inr (.inl (1, 7, 4452))), .inl x1, .inl x2, .inl x3, .inr (.inr (.inl (9, 14, a4)))] [.inr (.inr (.inl (8, 2, as0)))] M :=
  f_go (KC := f_kc [(111, f_pl [(4462, 1, 7), (1, 0, 0), (1, 0, 0), (1, 0, 0), (0, 0, 0)] [] (fun ls st M => k111 (f_vi (f_nth ls 1)) (f_vi (f_nth ls 2)) (f_vi (f_nth ls 3)) M)), (104, f_pl [(4462, 1, 7), (1, 0, 0), (1, 0, 0), (1, 0, 0), (0, 0, 0)] [(4, 0, 0), (4462, 1, 7)] (fun ls st M => k104 (f_vi (f_nth ls 1)) (f_vi (f_nth ls 2)) (f_vi (f_nth ls 3)) (f_vn (f_nth st 0)) (f_va (f_nth st 0)) M))]) C qX1_putServesf (f_kc_cons (f_pl_ok rfl (fun ls st M h => h111 _ _ _ M h)) (f_kc_cons (f_pl_ok rfl (fun ls st M h => h104 _ _ _ _ _ M h)) f_kc_nil)) 60 30 h
set_option maxRecDepth 20000 in
theorem BX1_putServes_104 {sh : Nat → Nat × Nat} {t : Nat} {rm : Nat × Nat × Nat} {cs : Nat × Nat} {R : f_Rt} {c_X10_at : Nat → Int → Int → e_M → (Nat → Prop) → Prop} {c_X9_isThere : Nat → Int → e_M → (Int → Prop) → Prop} {c_X8_has : Nat → Int → e_M → (Int → Prop) → Prop} {c_X1_putText : Nat → Nat → e_M → (e_M → Prop) → Prop} {c_X1_thenWord : Int → e_M → (e_M → Prop) → Prop} {c_X1_thenKind : Int → e_M → (e_M → Prop) → Prop} {c_X1_endLine : e_M → (e_M → Prop) → Prop} {k111 : Int → Int → Int → e_M → Prop} {x1 : Int} {x2 : Int} {x3 : Int} {ns1 : Nat} {as1 : Nat} {M : e_M} (C : f_Hy sh t yX1_putServes rm cs 7 (lX1_putServes c_X10_at c_X9_isThere c_X8_has c_X1_putText c_X1_thenWord c_X1_thenKind c_X1_endLine) R) (h111 : ∀ (x1 : Int) (x2 : Int) (x3 : Int) (M : e_M), k111 x1 x2 x3 M → f_E sh t YX1_putServes rm cs (f_Q sh t R) 111 [.inr (.inr (.inl (1, 7, 4452))), .inl x1, .inl x2, .inl x3, .inr (.inr (.inr ()))] [] M) (h : VX1_putServes_104 c_X10_at c_X9_isThere c_X8_has c_X1_putText c_X1_thenWord c_X1_thenKind c_X1_endLine k111 (fun M => R none M) x1 x2 x3 ns1 as1 M) : f_E sh t YX1_putServes rm cs (f_Q sh t R) 104 [.inr (.inr (.inl (1, 7, 4452))), .inl x1, .inl x2, .inl x3, .inr (.inr (.inr ()))] [.inr (.inr (.inl (115, ns1, as1))), .inr (.inr (.inl (1, 7, 4452)))] M :=
  f_go (KC := f_kc [(111, f_pl [(4462, 1, 7), (1, 0, 0), (1, 0, 0), (1, 0, 0), (0, 0, 0)] [] (fun ls st M => k111 (f_vi (f_nth ls 1)) (f_vi (f_nth ls 2)) (f_vi (f_nth ls 3)) M))]) C qX1_putServesf (f_kc_cons (f_pl_ok rfl (fun ls st M h => h111 _ _ _ M h)) f_kc_nil) 60 51 h
set_option maxRecDepth 20000 in
theorem BX1_putServes_111 {sh : Nat → Nat × Nat} {t : Nat} {rm : Nat × Nat × Nat} {cs : Nat × Nat} {R : f_Rt} {c_X10_at : Nat → Int → Int → e_M → (Nat → Prop) → Prop} {c_X9_isThere : Nat → Int → e_M → (Int → Prop) → Prop} {c_X8_has : Nat → Int → e_M → (Int → Prop) → Prop} {c_X1_putText : Nat → Nat → e_M → (e_M → Prop) → Prop} {c_X1_thenWord : Int → e_M → (e_M → Prop) → Prop} {c_X1_thenKind : Int → e_M → (e_M → Prop) → Prop} {c_X1_endLine : e_M → (e_M → Prop) → Prop} {k2 : Int → Int → Int → e_M → Prop} {x1 : Int} {x2 : Int} {x3 : Int} {M : e_M} (C : f_Hy sh t yX1_putServes rm cs 7 (lX1_putServes c_X10_at c_X9_isThere c_X8_has c_X1_putText c_X1_thenWord c_X1_thenKind c_X1_endLine) R) (h2 : ∀ (x1 : Int) (x2 : Int) (x3 : Int) (M : e_M), k2 x1 x2 x3 M → f_E sh t YX1_putServes rm cs (f_Q sh t R) 2 [.inr (.inr (.inl (1, 7, 4452))), .inl x1, .inl x2, .inl x3, .inr (.inr (.inr ()))] [] M) (h : VX1_putServes_111 c_X10_at c_X9_isThere c_X8_has c_X1_putText c_X1_thenWord c_X1_thenKind c_X1_endLine k2 (fun M => R none M) x1 x2 x3 M) : f_E sh t YX1_putServes rm cs (f_Q sh t R) 111 [.inr (.inr (.inl (1, 7, 4452))), .inl x1, .inl x2, .inl x3, .inr (.inr (.inr ()))] [] M :=
  f_go (KC := f_kc [(2, f_pl [(4462, 1, 7), (1, 0, 0), (1, 0, 0), (1, 0, 0), (0, 0, 0)] [] (fun ls st M => k2 (f_vi (f_nth ls 1)) (f_vi (f_nth ls 2)) (f_vi (f_nth ls 3)) M))]) C qX1_putServesf (f_kc_cons (f_pl_ok rfl (fun ls st M h => h2 _ _ _ M h)) f_kc_nil) 60 55 h
set_option maxRecDepth 20000 in
theorem BX1_putServes {sh : Nat → Nat × Nat} {t : Nat} {rm : Nat × Nat × Nat} {cs : Nat × Nat} {R : f_Rt} {c_X10_at : Nat → Int → Int → e_M → (Nat → Prop) → Prop} {c_X9_isThere : Nat → Int → e_M → (Int → Prop) → Prop} {c_X8_has : Nat → Int → e_M → (Int → Prop) → Prop} {c_X1_putText : Nat → Nat → e_M → (e_M → Prop) → Prop} {c_X1_thenWord : Int → e_M → (e_M → Prop) → Prop} {c_X1_thenKind : Int → e_M → (e_M → Prop) → Prop} {c_X1_endLine : e_M → (e_M → Prop) → Prop} {k2 : Int → Int → Int → e_M → Prop} {x1 : Int} {x2 : Int} {M : e_M} (C : f_Hy sh t yX1_putServes rm cs 7 (lX1_putServes c_X10_at c_X9_isThere c_X8_has c_X1_putText c_X1_thenWord c_X1_thenKind c_X1_endLine) R) (h2 : ∀ (x1 : Int) (x2 : Int) (x3 : Int) (M : e_M), k2 x1 x2 x3 M → f_E sh t YX1_putServes rm cs (f_Q sh t R) 2 [.inr (.inr (.inl (1, 7, 4452))), .inl x1, .inl x2, .inl x3, .inr (.inr (.inr ()))] [] M) (h : VX1_putServes c_X10_at c_X9_isThere c_X8_has c_X1_putText c_X1_thenWord c_X1_thenKind c_X1_endLine k2 (fun M => R none M) x1 x2 M) : f_E sh t YX1_putServes rm cs (f_Q sh t R) 0 [.inr (.inr (.inl (1, 7, 4452))), .inl x1, .inl x2, .inr (.inr (.inr ())), .inr (.inr (.inr ()))] [] M :=
  f_go (KC := f_kc [(2, f_pl [(4462, 1, 7), (1, 0, 0), (1, 0, 0), (1, 0, 0), (0, 0, 0)] [] (fun ls st M => k2 (f_vi (f_nth ls 1)) (f_vi (f_nth ls 2)) (f_vi (f_nth ls 3)) M))]) C qX1_putServesf (f_kc_cons (f_pl_ok rfl (fun ls st M h => h2 _ _ _ M h)) f_kc_nil) 60 0 h
def WX1_putServes_111 (H2 : Int → Int → Int → e_M → Prop) (Q : e_M → Prop) (x1 : Int) (x2 : Int) (x3 : Int) (M : e_M) : Prop :=
  VX1_putServes_111 WX10_at WX9_isThere WX8_has WX1_putText WX1_thenWord WX1_thenKind WX1_endLine H2 Q x1 x2 x3 M
def WX1_putServes_104 (H2 : Int → Int → Int → e_M → Prop) (Q : e_M → Prop) (x1 : Int) (x2 : Int) (x3 : Int) (ns1 : Nat) (as1 : Nat) (M : e_M) : Prop :=
  VX1_putServes_104 WX10_at WX9_isThere WX8_has WX1_putText WX1_thenWord WX1_thenKind WX1_endLine (WX1_putServes_111 H2 Q) Q x1 x2 x3 ns1 as1 M
def WX1_putServes_58 (H2 : Int → Int → Int → e_M → Prop) (Q : e_M → Prop) (x1 : Int) (x2 : Int) (x3 : Int) (a4 : Nat) (as0 : Nat) (M : e_M) : Prop :=
  VX1_putServes_58 WX10_at WX9_isThere WX8_has WX1_putText WX1_thenWord WX1_thenKind WX1_endLine (WX1_putServes_111 H2 Q) (WX1_putServes_104 H2 Q) Q x1 x2 x3 a4 as0 M
def WX1_putServes_2 (Q : e_M → Prop) : Nat → Int → Int → Int → e_M → Prop
  | 0, _, _, _, _ => False
  | n + 1, x1, x2, x3, M =>
    VX1_putServes_2 WX10_at WX9_isThere WX8_has WX1_putText WX1_thenWord WX1_thenKind WX1_endLine (WX1_putServes_111 (WX1_putServes_2 Q n) Q) (WX1_putServes_58 (WX1_putServes_2 Q n) Q) Q x1 x2 x3 M
def WX1_putServes (x1 : Int) (x2 : Int) (M : e_M) (Q : e_M → Prop) : Prop :=
  VX1_putServes WX10_at WX9_isThere WX8_has WX1_putText WX1_thenWord WX1_thenKind WX1_endLine (fun x1 x2 x3 M => ∃ j, WX1_putServes_2 Q j x1 x2 x3 M) Q x1 x2 M
theorem PX1_putServes_111 {sh : Nat → Nat × Nat} {t : Nat} {rm : Nat × Nat × Nat} {cs : Nat × Nat} {R : f_Rt} {H2 : Int → Int → Int → e_M → Prop} {x1 : Int} {x2 : Int} {x3 : Int} {M : e_M} (C : f_Hy sh t yX1_putServes rm cs 7 (lX1_putServes WX10_at WX9_isThere WX8_has WX1_putText WX1_thenWord WX1_thenKind WX1_endLine) R) (g2 : ∀ (x1 : Int) (x2 : Int) (x3 : Int) (M : e_M), H2 x1 x2 x3 M → f_E sh t YX1_putServes rm cs (f_Q sh t R) 2 [.inr (.inr (.inl (1, 7, 4452))), .inl x1, .inl x2, .inl x3, .inr (.inr (.inr ()))] [] M) (h : WX1_putServes_111 H2 (fun M => R none M) x1 x2 x3 M) : f_E sh t YX1_putServes rm cs (f_Q sh t R) 111 [.inr (.inr (.inl (1, 7, 4452))), .inl x1, .inl x2, .inl x3, .inr (.inr (.inr ()))] [] M :=
  BX1_putServes_111 C g2 h
theorem PX1_putServes_104 {sh : Nat → Nat × Nat} {t : Nat} {rm : Nat × Nat × Nat} {cs : Nat × Nat} {R : f_Rt} {H2 : Int → Int → Int → e_M → Prop} {x1 : Int} {x2 : Int} {x3 : Int} {ns1 : Nat} {as1 : Nat} {M : e_M} (C : f_Hy sh t yX1_putServes rm cs 7 (lX1_putServes WX10_at WX9_isThere WX8_has WX1_putText WX1_thenWord WX1_thenKind WX1_endLine) R) (g2 : ∀ (x1 : Int) (x2 : Int) (x3 : Int) (M : e_M), H2 x1 x2 x3 M → f_E sh t YX1_putServes rm cs (f_Q sh t R) 2 [.inr (.inr (.inl (1, 7, 4452))), .inl x1, .inl x2, .inl x3, .inr (.inr (.inr ()))] [] M) (h : WX1_putServes_104 H2 (fun M => R none M) x1 x2 x3 ns1 as1 M) : f_E sh t YX1_putServes rm cs (f_Q sh t R) 104 [.inr (.inr (.inl (1, 7, 4452))), .inl x1, .inl x2, .inl x3, .inr (.inr (.inr ()))] [.inr (.inr (.inl (115, ns1, as1))), .inr (.inr (.inl (1, 7, 4452)))] M :=
  BX1_putServes_104 C (fun x1 x2 x3 M h => PX1_putServes_111 C g2 h) h
theorem PX1_putServes_58 {sh : Nat → Nat × Nat} {t : Nat} {rm : Nat × Nat × Nat} {cs : Nat × Nat} {R : f_Rt} {H2 : Int → Int → Int → e_M → Prop} {x1 : Int} {x2 : Int} {x3 : Int} {a4 : Nat} {as0 : Nat} {M : e_M} (C : f_Hy sh t yX1_putServes rm cs 7 (lX1_putServes WX10_at WX9_isThere WX8_has WX1_putText WX1_thenWord WX1_thenKind WX1_endLine) R) (g2 : ∀ (x1 : Int) (x2 : Int) (x3 : Int) (M : e_M), H2 x1 x2 x3 M → f_E sh t YX1_putServes rm cs (f_Q sh t R) 2 [.inr (.inr (.inl (1, 7, 4452))), .inl x1, .inl x2, .inl x3, .inr (.inr (.inr ()))] [] M) (h : WX1_putServes_58 H2 (fun M => R none M) x1 x2 x3 a4 as0 M) : f_E sh t YX1_putServes rm cs (f_Q sh t R) 58 [.inr (.inr (.inl (1, 7, 4452))), .inl x1, .inl x2, .inl x3, .inr (.inr (.inl (9, 14, a4)))] [.inr (.inr (.inl (8, 2, as0)))] M :=
  BX1_putServes_58 C (fun x1 x2 x3 M h => PX1_putServes_111 C g2 h) (fun x1 x2 x3 ns1 as1 M h => PX1_putServes_104 C g2 h) h
theorem PX1_putServes_2 {sh : Nat → Nat × Nat} {t : Nat} {rm : Nat × Nat × Nat} {cs : Nat × Nat} {R : f_Rt} (C : f_Hy sh t yX1_putServes rm cs 7 (lX1_putServes WX10_at WX9_isThere WX8_has WX1_putText WX1_thenWord WX1_thenKind WX1_endLine) R) : ∀ (n : Nat) (x1 : Int) (x2 : Int) (x3 : Int) (M : e_M), WX1_putServes_2 (fun M => R none M) n x1 x2 x3 M → f_E sh t YX1_putServes rm cs (f_Q sh t R) 2 [.inr (.inr (.inl (1, 7, 4452))), .inl x1, .inl x2, .inl x3, .inr (.inr (.inr ()))] [] M := by
  intro n
  induction n with
  | zero => intro x1 x2 x3 M h; exact h.elim
  | succ n ih => intro x1 x2 x3 M h; exact BX1_putServes_2 C (fun x1 x2 x3 M h => PX1_putServes_111 C ih h) (fun x1 x2 x3 a4 as0 M h => PX1_putServes_58 C ih h) h
theorem PX1_putServes {sh : Nat → Nat × Nat} {t : Nat} {rm : Nat × Nat × Nat} {cs : Nat × Nat} {R : f_Rt} {x1 : Int} {x2 : Int} {M : e_M} (C : f_Hy sh t yX1_putServes rm cs 7 (lX1_putServes WX10_at WX9_isThere WX8_has WX1_putText WX1_thenWord WX1_thenKind WX1_endLine) R) (h : WX1_putServes x1 x2 M (fun M => R none M)) : f_E sh t YX1_putServes rm cs (f_Q sh t R) 0 [.inr (.inr (.inl (1, 7, 4452))), .inl x1, .inl x2, .inr (.inr (.inr ())), .inr (.inr (.inr ()))] [] M :=
  BX1_putServes C (fun x1 x2 x3 M ⟨j, h⟩ => PX1_putServes_2 C j _ _ _ _ h) h
def wX1_putServes : f_Wt := f_wm [(4462, 1, 7), (1, 0, 0), (1, 0, 0)] (fun ar M R => WX1_putServes (f_vi (f_nth ar 1)) (f_vi (f_nth ar 2)) M (fun M => R none M))
theorem TX1_putServes {sh : Nat → Nat × Nat} {t : Nat} : f_Mt sh t YX1_putServes 7 (wX1_putServes) :=
  f_Mt_of (k := 2) (Nat.le_of_ble_eq_true rfl) rfl rfl (fun ar M R rm cs h1 h2 h3 hX h => PX1_putServes ⟨Nat.le_of_ble_eq_true rfl, h1, h2, h3, ⟨(f_Mt.up (Nat.le_of_ble_eq_true rfl) TX10_at), (f_Mt.up (Nat.le_of_ble_eq_true rfl) TX9_isThere), (f_Mt.up (Nat.le_of_ble_eq_true rfl) TX8_has), (f_Mt.up (Nat.le_of_ble_eq_true rfl) TX1_putText), (f_Mt.up (Nat.le_of_ble_eq_true rfl) TX1_thenWord), (f_Mt.up (Nat.le_of_ble_eq_true rfl) TX1_thenKind), (f_Mt.up (Nat.le_of_ble_eq_true rfl) TX1_endLine), trivial⟩, hX⟩ h)
def VX1_putTwo (c_X1_put : Int → e_M → (e_M → Prop) → Prop) (Q : e_M → Prop) (x1 : Int) (M : e_M) : Prop :=
  (¬ (10 : Int) = 0 ∧ (¬ (10 : Int) = 0 ∧ (c_X1_put (e_w32 ((48 : Int) + ((e_w32 (x1.tdiv 10)).tmod 10))) M (fun M1 => (¬ (10 : Int) = 0 ∧ (c_X1_put (e_w32 ((48 : Int) + (x1.tmod 10))) M1 (fun M2 => (Q M2))))))))
def yX1_putTwo (i : Nat) : e_Y := x_get YX1_putTwo [YX1_put] i
def pX1_putTwof : List x_I := [(0, 4, 1, 0, 0, 0, []), (1, 0, 2, 0, 0, 48, []), (3, 2, 1, 1, 0, 0, []), (4, 0, 2, 0, 0, 10, []), (6, 9, 0, 3, 0, 0, []), (7, 0, 2, 0, 0, 10, []), (9, 9, 0, 4, 0, 0, []), (10, 9, 0, 0, 0, 0, []), (11, 40, 0, 2, 3, 0, []), (14, 4, 1, 0, 0, 0, []), (15, 0, 2, 0, 0, 48, []), (17, 2, 1, 1, 0, 0, []), (18, 0, 2, 0, 0, 10, []), (20, 9, 0, 4, 0, 0, []), (21, 9, 0, 0, 0, 0, []), (22, 40, 0, 2, 3, 0, []), (25, 44, 0, 0, 0, 0, [])]
set_option maxRecDepth 20000 in
theorem qX1_putTwof : f_all yX1_putTwo YX1_putTwo pX1_putTwof :=
  ⟨f_aload_n (n := 0) (e_dx DX1_putTwo_0 0 rfl) rfl,
  f_bipush (e_dx DX1_putTwo_0 1 rfl) ⟨by decide, by decide⟩,
  f_iload_n (n := 1) (e_dx DX1_putTwo_0 2 rfl) rfl,
  f_bipush (e_dx DX1_putTwo_0 3 rfl) ⟨by decide, by decide⟩,
  f_idiv (e_dx DX1_putTwo_0 4 rfl),
  f_bipush (e_dx DX1_putTwo_0 5 rfl) ⟨by decide, by decide⟩,
  f_irem (e_dx DX1_putTwo_0 6 rfl),
  f_iadd (e_dx DX1_putTwo_0 7 rfl),
  x_callV (e_dx DX1_putTwo_0 8 rfl) mwX1_put vwX1_put cX1_98 rfl,
  f_aload_n (n := 0) (e_dx DX1_putTwo_0 9 rfl) rfl,
  f_bipush (e_dx DX1_putTwo_0 10 rfl) ⟨by decide, by decide⟩,
  f_iload_n (n := 1) (e_dx DX1_putTwo_0 11 rfl) rfl,
  f_bipush (e_dx DX1_putTwo_0 12 rfl) ⟨by decide, by decide⟩,
  f_irem (e_dx DX1_putTwo_0 13 rfl),
  f_iadd (e_dx DX1_putTwo_0 14 rfl),
  x_callV (e_dx DX1_putTwo_0 15 rfl) mwX1_put vwX1_put cX1_98 rfl,
  ⟨(e_dx DX1_putTwo_0 16 rfl), rfl⟩, trivial⟩
def lX1_putTwo (c_X1_put : Int → e_M → (e_M → Prop) → Prop) : List (Nat × f_Wt) := [(0, f_wm [(4462, 1, 7), (1, 0, 0)] (fun ar M R => c_X1_put (f_vi (f_nth ar 1)) M (fun M => R none M)))]
set_option maxRecDepth 20000 in
theorem BX1_putTwo {sh : Nat → Nat × Nat} {t : Nat} {rm : Nat × Nat × Nat} {cs : Nat × Nat} {R : f_Rt} {c_X1_put : Int → e_M → (e_M → Prop) → Prop} {x1 : Int} {M : e_M} (C : f_Hy sh t yX1_putTwo rm cs 5 (lX1_putTwo c_X1_put) R) (h : VX1_putTwo c_X1_put (fun M => R none M) x1 M) : f_E sh t YX1_putTwo rm cs (f_Q sh t R) 0 [.inr (.inr (.inl (1, 7, 4452))), .inl x1] [] M :=
  f_go (KC := f_kc []) C qX1_putTwof f_kc_nil 19 0 h
def WX1_putTwo (x1 : Int) (M : e_M) (Q : e_M → Prop) : Prop :=
  VX1_putTwo WX1_put Q x1 M
theorem PX1_putTwo {sh : Nat → Nat × Nat} {t : Nat} {rm : Nat × Nat × Nat} {cs : Nat × Nat} {R : f_Rt} {x1 : Int} {M : e_M} (C : f_Hy sh t yX1_putTwo rm cs 5 (lX1_putTwo WX1_put) R) (h : WX1_putTwo x1 M (fun M => R none M)) : f_E sh t YX1_putTwo rm cs (f_Q sh t R) 0 [.inr (.inr (.inl (1, 7, 4452))), .inl x1] [] M :=
  BX1_putTwo C h
def wX1_putTwo : f_Wt := f_wm [(4462, 1, 7), (1, 0, 0)] (fun ar M R => WX1_putTwo (f_vi (f_nth ar 1)) M (fun M => R none M))
theorem TX1_putTwo {sh : Nat → Nat × Nat} {t : Nat} : f_Mt sh t YX1_putTwo 5 (wX1_putTwo) :=
  f_Mt_of (k := 0) (Nat.le_of_ble_eq_true rfl) rfl rfl (fun ar M R rm cs h1 h2 h3 hX h => PX1_putTwo ⟨Nat.le_of_ble_eq_true rfl, h1, h2, h3, ⟨(f_Mt.up (Nat.le_of_ble_eq_true rfl) TX1_put), trivial⟩, hX⟩ h)
def VX1_thenDate (c_X11_dateOf : Int → e_M → (Int → Prop) → Prop) (c_X1_put : Int → e_M → (e_M → Prop) → Prop) (c_X1_putTwo : Int → e_M → (e_M → Prop) → Prop) (Q : e_M → Prop) (x1 : Int) (M : e_M) : Prop :=
  (c_X11_dateOf x1 M (fun r1 => (c_X1_put 32 M (fun M2 => (¬ (1000000 : Int) = 0 ∧ (c_X1_putTwo (e_w32 (r1.tdiv 1000000)) M2 (fun M3 => (¬ (10000 : Int) = 0 ∧ (¬ (100 : Int) = 0 ∧ (c_X1_putTwo ((e_w32 (r1.tdiv 10000)).tmod 100) M3 (fun M4 => (c_X1_put 45 M4 (fun M5 => (¬ (100 : Int) = 0 ∧ (¬ (100 : Int) = 0 ∧ (c_X1_putTwo ((e_w32 (r1.tdiv 100)).tmod 100) M5 (fun M6 => (c_X1_put 45 M6 (fun M7 => (¬ (100 : Int) = 0 ∧ (c_X1_putTwo (r1.tmod 100) M7 (fun M8 => (Q M8)))))))))))))))))))))))
def yX1_thenDate (i : Nat) : e_Y := x_get YX1_thenDate [YX11_dateOf, YX1_put, YX1_putTwo] i
def pX1_thenDatef : List x_I := [(0, 2, 1, 1, 0, 0, []), (1, 40, 0, 1, 0, 0, []), (4, 5, 1, 2, 0, 0, []), (5, 4, 1, 0, 0, 0, []), (6, 0, 2, 0, 0, 32, []), (8, 40, 1, 2, 3, 0, []), (11, 4, 1, 0, 0, 0, []), (12, 2, 1, 2, 0, 0, []), (13, 0, 3, 0, 0, 1000000, []), (16, 9, 0, 3, 0, 0, []), (17, 40, 2, 2, 3, 0, []), (20, 4, 1, 0, 0, 0, []), (21, 2, 1, 2, 0, 0, []), (22, 0, 3, 0, 0, 10000, []), (25, 9, 0, 3, 0, 0, []), (26, 0, 2, 0, 0, 100, []), (28, 9, 0, 4, 0, 0, []), (29, 40, 2, 2, 3, 0, []), (32, 4, 1, 0, 0, 0, []), (33, 0, 2, 0, 0, 45, []), (35, 40, 1, 2, 3, 0, []), (38, 4, 1, 0, 0, 0, []), (39, 2, 1, 2, 0, 0, []), (40, 0, 2, 0, 0, 100, []), (42, 9, 0, 3, 0, 0, []), (43, 0, 2, 0, 0, 100, []), (45, 9, 0, 4, 0, 0, []), (46, 40, 2, 2, 3, 0, []), (49, 4, 1, 0, 0, 0, []), (50, 0, 2, 0, 0, 45, []), (52, 40, 1, 2, 3, 0, []), (55, 4, 1, 0, 0, 0, []), (56, 2, 1, 2, 0, 0, []), (57, 0, 2, 0, 0, 100, []), (59, 9, 0, 4, 0, 0, []), (60, 40, 2, 2, 3, 0, []), (63, 44, 0, 0, 0, 0, [])]
set_option maxRecDepth 20000 in
theorem qX1_thenDatef : f_all yX1_thenDate YX1_thenDate pX1_thenDatef :=
  ⟨f_iload_n (n := 1) (e_dx DX1_thenDate_0 0 rfl) rfl,
  x_callSN (e_dx DX1_thenDate_0 1 rfl) mwX11_dateOf cX1_381 swX11_dateOf rfl,
  f_istore_n (n := 2) (e_dx DX1_thenDate_0 2 rfl) rfl (by decide),
  f_aload_n (n := 0) (e_dx DX1_thenDate_0 3 rfl) rfl,
  f_bipush (e_dx DX1_thenDate_0 4 rfl) ⟨by decide, by decide⟩,
  x_callV (e_dx DX1_thenDate_0 5 rfl) mwX1_put vwX1_put cX1_98 rfl,
  f_aload_n (n := 0) (e_dx DX1_thenDate_0 6 rfl) rfl,
  f_iload_n (n := 2) (e_dx DX1_thenDate_0 7 rfl) rfl,
  f_ldcw (e_dx DX1_thenDate_0 8 rfl) hX1_384 rfl ⟨by decide, by decide⟩,
  f_idiv (e_dx DX1_thenDate_0 9 rfl),
  x_callV (e_dx DX1_thenDate_0 10 rfl) mwX1_putTwo vwX1_putTwo cX1_385 rfl,
  f_aload_n (n := 0) (e_dx DX1_thenDate_0 11 rfl) rfl,
  f_iload_n (n := 2) (e_dx DX1_thenDate_0 12 rfl) rfl,
  f_sipush (e_dx DX1_thenDate_0 13 rfl) ⟨by decide, by decide⟩,
  f_idiv (e_dx DX1_thenDate_0 14 rfl),
  f_bipush (e_dx DX1_thenDate_0 15 rfl) ⟨by decide, by decide⟩,
  f_irem (e_dx DX1_thenDate_0 16 rfl),
  x_callV (e_dx DX1_thenDate_0 17 rfl) mwX1_putTwo vwX1_putTwo cX1_385 rfl,
  f_aload_n (n := 0) (e_dx DX1_thenDate_0 18 rfl) rfl,
  f_bipush (e_dx DX1_thenDate_0 19 rfl) ⟨by decide, by decide⟩,
  x_callV (e_dx DX1_thenDate_0 20 rfl) mwX1_put vwX1_put cX1_98 rfl,
  f_aload_n (n := 0) (e_dx DX1_thenDate_0 21 rfl) rfl,
  f_iload_n (n := 2) (e_dx DX1_thenDate_0 22 rfl) rfl,
  f_bipush (e_dx DX1_thenDate_0 23 rfl) ⟨by decide, by decide⟩,
  f_idiv (e_dx DX1_thenDate_0 24 rfl),
  f_bipush (e_dx DX1_thenDate_0 25 rfl) ⟨by decide, by decide⟩,
  f_irem (e_dx DX1_thenDate_0 26 rfl),
  x_callV (e_dx DX1_thenDate_0 27 rfl) mwX1_putTwo vwX1_putTwo cX1_385 rfl,
  f_aload_n (n := 0) (e_dx DX1_thenDate_0 28 rfl) rfl,
  f_bipush (e_dx DX1_thenDate_0 29 rfl) ⟨by decide, by decide⟩,
  x_callV (e_dx DX1_thenDate_0 30 rfl) mwX1_put vwX1_put cX1_98 rfl,
  f_aload_n (n := 0) (e_dx DX1_thenDate_0 31 rfl) rfl,
  f_iload_n (n := 2) (e_dx DX1_thenDate_0 32 rfl) rfl,
  f_bipush (e_dx DX1_thenDate_0 33 rfl) ⟨by decide, by decide⟩,
  f_irem (e_dx DX1_thenDate_0 34 rfl),
  x_callV (e_dx DX1_thenDate_0 35 rfl) mwX1_putTwo vwX1_putTwo cX1_385 rfl,
  ⟨(e_dx DX1_thenDate_0 36 rfl), rfl⟩, trivial⟩
def lX1_thenDate (c_X11_dateOf : Int → e_M → (Int → Prop) → Prop) (c_X1_put : Int → e_M → (e_M → Prop) → Prop) (c_X1_putTwo : Int → e_M → (e_M → Prop) → Prop) : List (Nat × f_Wt) := [(0, f_wm [(1, 0, 0)] (fun ar M R => c_X11_dateOf (f_vi (f_nth ar 0)) M (fun r => R (some (.inl r)) M))), (1, f_wm [(4462, 1, 7), (1, 0, 0)] (fun ar M R => c_X1_put (f_vi (f_nth ar 1)) M (fun M => R none M))), (2, f_wm [(4462, 1, 7), (1, 0, 0)] (fun ar M R => c_X1_putTwo (f_vi (f_nth ar 1)) M (fun M => R none M)))]
set_option maxRecDepth 20000 in
theorem BX1_thenDate {sh : Nat → Nat × Nat} {t : Nat} {rm : Nat × Nat × Nat} {cs : Nat × Nat} {R : f_Rt} {c_X11_dateOf : Int → e_M → (Int → Prop) → Prop} {c_X1_put : Int → e_M → (e_M → Prop) → Prop} {c_X1_putTwo : Int → e_M → (e_M → Prop) → Prop} {x1 : Int} {M : e_M} (C : f_Hy sh t yX1_thenDate rm cs 6 (lX1_thenDate c_X11_dateOf c_X1_put c_X1_putTwo) R) (h : VX1_thenDate c_X11_dateOf c_X1_put c_X1_putTwo (fun M => R none M) x1 M) : f_E sh t YX1_thenDate rm cs (f_Q sh t R) 0 [.inr (.inr (.inl (1, 7, 4452))), .inl x1, .inr (.inr (.inr ()))] [] M :=
  f_go (KC := f_kc []) C qX1_thenDatef f_kc_nil 39 0 h
def WX1_thenDate (x1 : Int) (M : e_M) (Q : e_M → Prop) : Prop :=
  VX1_thenDate WX11_dateOf WX1_put WX1_putTwo Q x1 M
theorem PX1_thenDate {sh : Nat → Nat × Nat} {t : Nat} {rm : Nat × Nat × Nat} {cs : Nat × Nat} {R : f_Rt} {x1 : Int} {M : e_M} (C : f_Hy sh t yX1_thenDate rm cs 6 (lX1_thenDate WX11_dateOf WX1_put WX1_putTwo) R) (h : WX1_thenDate x1 M (fun M => R none M)) : f_E sh t YX1_thenDate rm cs (f_Q sh t R) 0 [.inr (.inr (.inl (1, 7, 4452))), .inl x1, .inr (.inr (.inr ()))] [] M :=
  BX1_thenDate C h
def wX1_thenDate : f_Wt := f_wm [(4462, 1, 7), (1, 0, 0)] (fun ar M R => WX1_thenDate (f_vi (f_nth ar 1)) M (fun M => R none M))
theorem TX1_thenDate {sh : Nat → Nat × Nat} {t : Nat} : f_Mt sh t YX1_thenDate 6 (wX1_thenDate) :=
  f_Mt_of (k := 1) (Nat.le_of_ble_eq_true rfl) rfl rfl (fun ar M R rm cs h1 h2 h3 hX h => PX1_thenDate ⟨Nat.le_of_ble_eq_true rfl, h1, h2, h3, ⟨(f_Mt.up (Nat.le_of_ble_eq_true rfl) TX11_dateOf), (f_Mt.up (Nat.le_of_ble_eq_true rfl) TX1_put), (f_Mt.up (Nat.le_of_ble_eq_true rfl) TX1_putTwo), trivial⟩, hX⟩ h)
def VX1_putTerms_2 (c_X10_at : Nat → Int → Int → e_M → (Nat → Prop) → Prop) (c_X9_isThere : Nat → Int → e_M → (Int → Prop) → Prop) (c_X8_has : Nat → Int → e_M → (Int → Prop) → Prop) (c_X1_firstWord : Int → Nat → e_M → (Nat → Nat → Prop) → Prop) (c_X1_putText : Nat → Nat → e_M → (e_M → Prop) → Prop) (c_X1_thenWord : Int → e_M → (e_M → Prop) → Prop) (c_X10_nameOf : Nat → Int → Int → e_M → (Int → Prop) → Prop) (c_X1_thenDate : Int → e_M → (e_M → Prop) → Prop) (c_X1_endLine : e_M → (e_M → Prop) → Prop) (k107 : Int → Int → Int → e_M → Prop) (k103 : Int → Int → Int → e_M → Prop) (Q : e_M → Prop) (x1 : Int) (x2 : Int) (x3 : Int) (M : e_M) : Prop :=
  ((0 ≤ x1 ∧ x1 < 8) ∧ (((M ((M 4452 3).toNat + 24) (x1.toNat)) ≤ x3 → (Q M)) ∧ (x3 < (M ((M 4452 3).toNat + 24) (x1.toNat)) → (c_X10_at ((M 4452 3).toNat) x1 x3 M (fun r1 => (c_X9_isThere r1 (M ((M 4452 3).toNat) 11) M (fun r2 => ((r2 = 0 → (k107 x1 x2 x3 M)) ∧ (¬ r2 = 0 → (c_X8_has ((M r1 9).toNat) x2 M (fun r3 => ((r3 = 0 → (k107 x1 x2 x3 M)) ∧ (¬ r3 = 0 → (c_X1_firstWord x1 r1 M (fun n4 r5 => (c_X1_putText n4 r5 M (fun M6 => (c_X1_thenWord (M6 r1 0) M6 (fun M7 => (c_X10_nameOf ((M7 4452 3).toNat) 1 (M7 r1 5) M7 (fun r8 => (c_X1_thenWord r8 M7 (fun M9 => ((x1 = 5 → (k103 x1 x2 x3 M9)) ∧ (¬ x1 = 5 → (c_X1_thenDate (M9 r1 3) M9 (fun M10 => (k103 x1 x2 x3 M10))))))))))))))))))))))))))))
def VX1_putTerms_103 (c_X10_at : Nat → Int → Int → e_M → (Nat → Prop) → Prop) (c_X9_isThere : Nat → Int → e_M → (Int → Prop) → Prop) (c_X8_has : Nat → Int → e_M → (Int → Prop) → Prop) (c_X1_firstWord : Int → Nat → e_M → (Nat → Nat → Prop) → Prop) (c_X1_putText : Nat → Nat → e_M → (e_M → Prop) → Prop) (c_X1_thenWord : Int → e_M → (e_M → Prop) → Prop) (c_X10_nameOf : Nat → Int → Int → e_M → (Int → Prop) → Prop) (c_X1_thenDate : Int → e_M → (e_M → Prop) → Prop) (c_X1_endLine : e_M → (e_M → Prop) → Prop) (k107 : Int → Int → Int → e_M → Prop) (Q : e_M → Prop) (x1 : Int) (x2 : Int) (x3 : Int) (M : e_M) : Prop :=
  (c_X1_endLine M (fun M1 => (k107 x1 x2 x3 M1)))
def VX1_putTerms_107 (c_X10_at : Nat → Int → Int → e_M → (Nat → Prop) → Prop) (c_X9_isThere : Nat → Int → e_M → (Int → Prop) → Prop) (c_X8_has : Nat → Int → e_M → (Int → Prop) → Prop) (c_X1_firstWord : Int → Nat → e_M → (Nat → Nat → Prop) → Prop) (c_X1_putText : Nat → Nat → e_M → (e_M → Prop) → Prop) (c_X1_thenWord : Int → e_M → (e_M → Prop) → Prop) (c_X10_nameOf : Nat → Int → Int → e_M → (Int → Prop) → Prop) (c_X1_thenDate : Int → e_M → (e_M → Prop) → Prop) (c_X1_endLine : e_M → (e_M → Prop) → Prop) (k2 : Int → Int → Int → e_M → Prop) (Q : e_M → Prop) (x1 : Int) (x2 : Int) (x3 : Int) (M : e_M) : Prop :=
  (k2 x1 x2 (e_w32 (x3 + 1)) M)
def VX1_putTerms (c_X10_at : Nat → Int → Int → e_M → (Nat → Prop) → Prop) (c_X9_isThere : Nat → Int → e_M → (Int → Prop) → Prop) (c_X8_has : Nat → Int → e_M → (Int → Prop) → Prop) (c_X1_firstWord : Int → Nat → e_M → (Nat → Nat → Prop) → Prop) (c_X1_putText : Nat → Nat → e_M → (e_M → Prop) → Prop) (c_X1_thenWord : Int → e_M → (e_M → Prop) → Prop) (c_X10_nameOf : Nat → Int → Int → e_M → (Int → Prop) → Prop) (c_X1_thenDate : Int → e_M → (e_M → Prop) → Prop) (c_X1_endLine : e_M → (e_M → Prop) → Prop) (k2 : Int → Int → Int → e_M → Prop) (Q : e_M → Prop) (x1 : Int) (x2 : Int) (M : e_M) : Prop :=
  (k2 x1 x2 0 M)
def yX1_putTerms (i : Nat) : e_Y := x_get YX1_putTerms [YX10_at, YX9_isThere, YX8_has, YX1_firstWord, YX1_putText, YX1_thenWord, YX10_nameOf, YX1_thenDate, YX1_endLine] i
def pX1_putTermsf : List x_I := [(0, 0, 1, 0, 0, 0, []), (1, 5, 1, 3, 0, 0, []), (2, 49, 0, 0, 0, 0, []), (2, 2, 1, 3, 0, 0, []), (3, 4, 1, 0, 0, 0, []), (4, 25, 1, 3, 4, 0, [(0, 10, 15), (0, 0, 0)]), (7, 25, 10, 4, 4, 0, [(0, 20, 8), (0, 1, 24)]), (10, 2, 1, 1, 0, 0, []), (11, 27, 0, 0, 0, 0, []), (12, 18, 113, 3, 58, 0, []), (15, 4, 1, 0, 0, 0, []), (16, 25, 1, 3, 4, 0, [(0, 10, 15), (0, 0, 0)]), (19, 2, 1, 1, 0, 0, []), (20, 2, 1, 3, 0, 0, []), (21, 40, 0, 3, 12, 0, []), (24, 7, 2, 4, 0, 0, []), (26, 4, 2, 4, 0, 0, []), (28, 4, 1, 0, 0, 0, []), (29, 25, 1, 3, 4, 0, [(0, 10, 15), (0, 0, 0)]), (32, 25, 10, 11, 0, 0, []), (35, 40, 1, 2, 11, 0, []), (38, 17, 107, 0, 55, 0, []), (41, 4, 2, 4, 0, 0, []), (43, 25, 9, 9, 4, 0, [(0, 8, 2), (0, 0, 0)]), (46, 2, 1, 2, 0, 0, []), (47, 40, 2, 2, 10, 0, []), (50, 17, 107, 0, 55, 0, []), (53, 4, 1, 0, 0, 0, []), (54, 2, 1, 1, 0, 0, []), (55, 4, 2, 4, 0, 0, []), (57, 40, 3, 2, 0, 0, []), (60, 40, 4, 2, 3, 0, []), (63, 4, 1, 0, 0, 0, []), (64, 4, 2, 4, 0, 0, []), (66, 25, 9, 0, 3, 0, []), (69, 40, 5, 2, 3, 0, []), (72, 4, 1, 0, 0, 0, []), (73, 4, 1, 0, 0, 0, []), (74, 25, 1, 3, 4, 0, [(0, 10, 15), (0, 0, 0)]), (77, 0, 1, 0, 0, 1, []), (78, 4, 2, 4, 0, 0, []), (80, 25, 9, 5, 0, 0, []), (83, 40, 6, 3, 12, 0, []), (86, 40, 5, 2, 3, 0, []), (89, 2, 1, 1, 0, 0, []), (90, 0, 1, 0, 0, 5, []), (91, 18, 103, 0, 52, 0, []), (94, 4, 1, 0, 0, 0, []), (95, 4, 2, 4, 0, 0, []), (97, 25, 9, 3, 0, 0, []), (100, 40, 7, 2, 3, 0, []), (103, 49, 0, 0, 0, 0, []), (103, 4, 1, 0, 0, 0, []), (104, 40, 8, 1, 3, 0, []), (107, 49, 0, 0, 0, 0, []), (107, 8, 0, 3, 0, 1, []), (110, 19, 2, 0, 3, 0, []), (113, 44, 0, 0, 0, 0, [])]
set_option maxRecDepth 20000 in
theorem qX1_putTermsf : f_all yX1_putTerms YX1_putTerms pX1_putTermsf :=
  ⟨f_iconst (e_dx DX1_putTerms_0 0 rfl) ⟨by decide, by decide⟩,
  f_istore_n (n := 3) (e_dx DX1_putTerms_0 1 rfl) rfl (by decide),
  trivial,
  f_iload_n (n := 3) (e_dx DX1_putTerms_0 2 rfl) rfl,
  f_aload_n (n := 0) (e_dx DX1_putTerms_0 3 rfl) rfl,
  f_getA (e_dx DX1_putTerms_0 4 rfl) fX1_31 rfl (by decide) (Nat.le_of_ble_eq_true rfl) rfl (by decide),
  f_getA (e_dx DX1_putTerms_0 5 rfl) fX1_104 rfl (by decide) (Nat.le_of_ble_eq_true rfl) rfl (by decide),
  f_iload_n (n := 1) (e_dx DX1_putTerms_0 6 rfl) rfl,
  f_iaload (e_dx DX1_putTerms_0 7 rfl),
  f_icmp_ge (e_dx DX1_putTerms_0 8 rfl) rfl,
  f_aload_n (n := 0) (e_dx DX1_putTerms_0 9 rfl) rfl,
  f_getA (e_dx DX1_putTerms_0 10 rfl) fX1_31 rfl (by decide) (Nat.le_of_ble_eq_true rfl) rfl (by decide),
  f_iload_n (n := 1) (e_dx DX1_putTerms_0 11 rfl) rfl,
  f_iload_n (n := 3) (e_dx DX1_putTerms_0 12 rfl) rfl,
  x_callV (e_dx DX1_putTerms_0 13 rfl) mwX10_at vwX10_at cX1_173 rfl,
  f_astore (e_dx DX1_putTerms_0 14 rfl) (by decide),
  f_aload (e_dx DX1_putTerms_0 15 rfl),
  f_aload_n (n := 0) (e_dx DX1_putTerms_0 16 rfl) rfl,
  f_getA (e_dx DX1_putTerms_0 17 rfl) fX1_31 rfl (by decide) (Nat.le_of_ble_eq_true rfl) rfl (by decide),
  f_getf (e_dx DX1_putTerms_0 18 rfl) fX1_245 rfl (by decide) (by decide) (by decide),
  x_callV (e_dx DX1_putTerms_0 19 rfl) mwX9_isThere vwX9_isThere cX1_265 rfl,
  f_if_eq (e_dx DX1_putTerms_0 20 rfl) rfl,
  f_aload (e_dx DX1_putTerms_0 21 rfl),
  f_getA (e_dx DX1_putTerms_0 22 rfl) fX1_191 rfl (by decide) (Nat.le_of_ble_eq_true rfl) rfl (by decide),
  f_iload_n (n := 2) (e_dx DX1_putTerms_0 23 rfl) rfl,
  x_callV (e_dx DX1_putTerms_0 24 rfl) mwX8_has vwX8_has cX1_186 rfl,
  f_if_eq (e_dx DX1_putTerms_0 25 rfl) rfl,
  f_aload_n (n := 0) (e_dx DX1_putTerms_0 26 rfl) rfl,
  f_iload_n (n := 1) (e_dx DX1_putTerms_0 27 rfl) rfl,
  f_aload (e_dx DX1_putTerms_0 28 rfl),
  x_callS (e_dx DX1_putTerms_0 29 rfl) mwX1_firstWord cX1_269 swX1_firstWord rfl,
  x_callV (e_dx DX1_putTerms_0 30 rfl) mwX1_putText vwX1_putText cX1_273 rfl,
  f_aload_n (n := 0) (e_dx DX1_putTerms_0 31 rfl) rfl,
  f_aload (e_dx DX1_putTerms_0 32 rfl),
  f_getL (e_dx DX1_putTerms_0 33 rfl) fX1_346 rfl (by decide),
  x_callV (e_dx DX1_putTerms_0 34 rfl) mwX1_thenWord vwX1_thenWord cX1_277 rfl,
  f_aload_n (n := 0) (e_dx DX1_putTerms_0 35 rfl) rfl,
  f_aload_n (n := 0) (e_dx DX1_putTerms_0 36 rfl) rfl,
  f_getA (e_dx DX1_putTerms_0 37 rfl) fX1_31 rfl (by decide) (Nat.le_of_ble_eq_true rfl) rfl (by decide),
  f_iconst (e_dx DX1_putTerms_0 38 rfl) ⟨by decide, by decide⟩,
  f_aload (e_dx DX1_putTerms_0 39 rfl),
  f_getf (e_dx DX1_putTerms_1 0 rfl) fX1_177 rfl (by decide) (by decide) (by decide),
  x_callV (e_dx DX1_putTerms_1 1 rfl) mwX10_nameOf vwX10_nameOf cX1_120 rfl,
  x_callV (e_dx DX1_putTerms_1 2 rfl) mwX1_thenWord vwX1_thenWord cX1_277 rfl,
  f_iload_n (n := 1) (e_dx DX1_putTerms_1 3 rfl) rfl,
  f_iconst (e_dx DX1_putTerms_1 4 rfl) ⟨by decide, by decide⟩,
  f_icmp_eq (e_dx DX1_putTerms_1 5 rfl) rfl,
  f_aload_n (n := 0) (e_dx DX1_putTerms_1 6 rfl) rfl,
  f_aload (e_dx DX1_putTerms_1 7 rfl),
  f_getf (e_dx DX1_putTerms_1 8 rfl) fX1_252 rfl (by decide) (by decide) (by decide),
  x_callV (e_dx DX1_putTerms_1 9 rfl) mwX1_thenDate vwX1_thenDate cX1_354 rfl,
  trivial,
  f_aload_n (n := 0) (e_dx DX1_putTerms_1 10 rfl) rfl,
  x_callV (e_dx DX1_putTerms_1 11 rfl) mwX1_endLine vwX1_endLine cX1_282 rfl,
  trivial,
  f_g8 (e_dx DX1_putTerms_1 12 rfl) ⟨by decide, by decide⟩,
  f_g19 (e_dx DX1_putTerms_1 13 rfl) rfl,
  ⟨(e_dx DX1_putTerms_1 14 rfl), rfl⟩, trivial⟩
def lX1_putTerms (c_X10_at : Nat → Int → Int → e_M → (Nat → Prop) → Prop) (c_X9_isThere : Nat → Int → e_M → (Int → Prop) → Prop) (c_X8_has : Nat → Int → e_M → (Int → Prop) → Prop) (c_X1_firstWord : Int → Nat → e_M → (Nat → Nat → Prop) → Prop) (c_X1_putText : Nat → Nat → e_M → (e_M → Prop) → Prop) (c_X1_thenWord : Int → e_M → (e_M → Prop) → Prop) (c_X10_nameOf : Nat → Int → Int → e_M → (Int → Prop) → Prop) (c_X1_thenDate : Int → e_M → (e_M → Prop) → Prop) (c_X1_endLine : e_M → (e_M → Prop) → Prop) : List (Nat × f_Wt) := [(0, f_wm [(3, 10, 15), (1, 0, 0), (1, 0, 0)] (fun ar M R => c_X10_at (f_va (f_nth ar 0)) (f_vi (f_nth ar 1)) (f_vi (f_nth ar 2)) M (fun r => R (some (.inr (.inr (.inl (9, 14, r))))) M))), (1, f_wm [(3, 9, 14), (1, 0, 0)] (fun ar M R => c_X9_isThere (f_va (f_nth ar 0)) (f_vi (f_nth ar 1)) M (fun r => R (some (.inl r)) M))), (2, f_wm [(3, 8, 2), (1, 0, 0)] (fun ar M R => c_X8_has (f_va (f_nth ar 0)) (f_vi (f_nth ar 1)) M (fun r => R (some (.inl r)) M))), (3, f_wm [(1, 0, 0), (3, 9, 14)] (fun ar M R => c_X1_firstWord (f_vi (f_nth ar 0)) (f_va (f_nth ar 1)) M (fun n r => R (some (.inr (.inr (.inl (115, n, r))))) M))), (4, f_wm [(4462, 1, 7), (4, 0, 0)] (fun ar M R => c_X1_putText (f_vn (f_nth ar 1)) (f_va (f_nth ar 1)) M (fun M => R none M))), (5, f_wm [(4462, 1, 7), (2, 0, 0)] (fun ar M R => c_X1_thenWord (f_vi (f_nth ar 1)) M (fun M => R none M))), (6, f_wm [(3, 10, 15), (1, 0, 0), (1, 0, 0)] (fun ar M R => c_X10_nameOf (f_va (f_nth ar 0)) (f_vi (f_nth ar 1)) (f_vi (f_nth ar 2)) M (fun r => R (some (.inr (.inl r))) M))), (7, f_wm [(4462, 1, 7), (1, 0, 0)] (fun ar M R => c_X1_thenDate (f_vi (f_nth ar 1)) M (fun M => R none M))), (8, f_wm [(4462, 1, 7)] (fun ar M R => c_X1_endLine  M (fun M => R none M)))]
set_option maxRecDepth 20000 in
theorem BX1_putTerms_2 {sh : Nat → Nat × Nat} {t : Nat} {rm : Nat × Nat × Nat} {cs : Nat × Nat} {R : f_Rt} {c_X10_at : Nat → Int → Int → e_M → (Nat → Prop) → Prop} {c_X9_isThere : Nat → Int → e_M → (Int → Prop) → Prop} {c_X8_has : Nat → Int → e_M → (Int → Prop) → Prop} {c_X1_firstWord : Int → Nat → e_M → (Nat → Nat → Prop) → Prop} {c_X1_putText : Nat → Nat → e_M → (e_M → Prop) → Prop} {c_X1_thenWord : Int → e_M → (e_M → Prop) → Prop} {c_X10_nameOf : Nat → Int → Int → e_M → (Int → Prop) → Prop} {c_X1_thenDate : Int → e_M → (e_M → Prop) → Prop} {c_X1_endLine : e_M → (e_M → Prop) → Prop} {k107 : Int → Int → Int → e_M → Prop} {k103 : Int → Int → Int → e_M → Prop} {x1 : Int} {x2 : Int} {x3 : Int} {M : e_M} (C : f_Hy sh t yX1_putTerms rm cs 7 (lX1_putTerms c_X10_at c_X9_isThere c_X8_has c_X1_firstWord c_X1_putText c_X1_thenWord c_X10_nameOf c_X1_thenDate c_X1_endLine) R) (h107 : ∀ (x1 : Int) (x2 : Int) (x3 : Int) (M : e_M), k107 x1 x2 x3 M → f_E sh t YX1_putTerms rm cs (f_Q sh t R) 107 [.inr (.inr (.inl (1, 7, 4452))), .inl x1, .inl x2, .inl x3, .inr (.inr (.inr ()))] [] M) (h103 : ∀ (x1 : Int) (x2 : Int) (x3 : Int) (M : e_M), k103 x1 x2 x3 M → f_E sh t YX1_putTerms rm cs (f_Q sh t R) 103 [.inr (.inr (.inl (1, 7, 4452))), .inl x1, .inl x2, .inl x3, .inr (.inr (.inr ()))] [] M) (h : VX1_putTerms_2 c_X10_at c_X9_isThere c_X8_has c_X1_firstWord c_X1_putText c_X1_thenWord c_X10_nameOf c_X1_thenDate c_X1_endLine k107 k103 (fun M => R none M) x1 x2 x3 M) : f_E sh t YX1_putTerms rm cs (f_Q sh t R) 2 [.inr (.inr (.inl (1, 7, 4452))), .inl x1, .inl x2, .inl x3, .inr (.inr (.inr ()))] [] M :=
  f_go (KC := f_kc [(107, f_pl [(4462, 1, 7), (1, 0, 0), (1, 0, 0), (1, 0, 0), (0, 0, 0)] [] (fun ls st M => k107 (f_vi (f_nth ls 1)) (f_vi (f_nth ls 2)) (f_vi (f_nth ls 3)) M)), (103, f_pl [(4462, 1, 7), (1, 0, 0), (1, 0, 0), (1, 0, 0), (0, 0, 0)] [] (fun ls st M => k103 (f_vi (f_nth ls 1)) (f_vi (f_nth ls 2)) (f_vi (f_nth ls 3)) M))]) C qX1_putTermsf (f_kc_cons (f_pl_ok rfl (fun ls st M h => h107 _ _ _ M h)) (f_kc_cons (f_pl_ok rfl (fun ls st M h => h103 _ _ _ M h)) f_kc_nil)) 60 3 h
set_option maxRecDepth 20000 in
theorem BX1_putTerms_103 {sh : Nat → Nat × Nat} {t : Nat} {rm : Nat × Nat × Nat} {cs : Nat × Nat} {R : f_Rt} {c_X10_at : Nat → Int → Int → e_M → (Nat → Prop) → Prop} {c_X9_isThere : Nat → Int → e_M → (Int → Prop) → Prop} {c_X8_has : Nat → Int → e_M → (Int → Prop) → Prop} {c_X1_firstWord : Int → Nat → e_M → (Nat → Nat → Prop) → Prop} {c_X1_putText : Nat → Nat → e_M → (e_M → Prop) → Prop} {c_X1_thenWord : Int → e_M → (e_M → Prop) → Prop} {c_X10_nameOf : Nat → Int → Int → e_M → (Int → Prop) → Prop} {c_X1_thenDate : Int → e_M → (e_M → Prop) → Prop} {c_X1_endLine : e_M → (e_M → Prop) → Prop} {k107 : Int → Int → Int → e_M → Prop} {x1 : Int} {x2 : Int} {x3 : Int} {M : e_M} (C : f_Hy sh t yX1_putTerms rm cs 7 (lX1_putTerms c_X10_at c_X9_isThere c_X8_has c_X1_firstWord c_X1_putText c_X1_thenWord c_X10_nameOf c_X1_thenDate c_X1_endLine) R) (h107 : ∀ (x1 : Int) (x2 : Int) (x3 : Int) (M : e_M), k107 x1 x2 x3 M → f_E sh t YX1_putTerms rm cs (f_Q sh t R) 107 [.inr (.inr (.inl (1, 7, 4452))), .inl x1, .inl x2, .inl x3, .inr (.inr (.inr ()))] [] M) (h : VX1_putTerms_103 c_X10_at c_X9_isThere c_X8_has c_X1_firstWord c_X1_putText c_X1_thenWord c_X10_nameOf c_X1_thenDate c_X1_endLine k107 (fun M => R none M) x1 x2 x3 M) : f_E sh t YX1_putTerms rm cs (f_Q sh t R) 103 [.inr (.inr (.inl (1, 7, 4452))), .inl x1, .inl x2, .inl x3, .inr (.inr (.inr ()))] [] M :=
  f_go (KC := f_kc [(107, f_pl [(4462, 1, 7), (1, 0, 0), (1, 0, 0), (1, 0, 0), (0, 0, 0)] [] (fun ls st M => k107 (f_vi (f_nth ls 1)) (f_vi (f_nth ls 2)) (f_vi (f_nth ls 3)) M))]) C qX1_putTermsf (f_kc_cons (f_pl_ok rfl (fun ls st M h => h107 _ _ _ M h)) f_kc_nil) 60 52 h
set_option maxRecDepth 20000 in
theorem BX1_putTerms_107 {sh : Nat → Nat × Nat} {t : Nat} {rm : Nat × Nat × Nat} {cs : Nat × Nat} {R : f_Rt} {c_X10_at : Nat → Int → Int → e_M → (Nat → Prop) → Prop} {c_X9_isThere : Nat → Int → e_M → (Int → Prop) → Prop} {c_X8_has : Nat → Int → e_M → (Int → Prop) → Prop} {c_X1_firstWord : Int → Nat → e_M → (Nat → Nat → Prop) → Prop} {c_X1_putText : Nat → Nat → e_M → (e_M → Prop) → Prop} {c_X1_thenWord : Int → e_M → (e_M → Prop) → Prop} {c_X10_nameOf : Nat → Int → Int → e_M → (Int → Prop) → Prop} {c_X1_thenDate : Int → e_M → (e_M → Prop) → Prop} {c_X1_endLine : e_M → (e_M → Prop) → Prop} {k2 : Int → Int → Int → e_M → Prop} {x1 : Int} {x2 : Int} {x3 : Int} {M : e_M} (C : f_Hy sh t yX1_putTerms rm cs 7 (lX1_putTerms c_X10_at c_X9_isThere c_X8_has c_X1_firstWord c_X1_putText c_X1_thenWord c_X10_nameOf c_X1_thenDate c_X1_endLine) R) (h2 : ∀ (x1 : Int) (x2 : Int) (x3 : Int) (M : e_M), k2 x1 x2 x3 M → f_E sh t YX1_putTerms rm cs (f_Q sh t R) 2 [.inr (.inr (.inl (1, 7, 4452))), .inl x1, .inl x2, .inl x3, .inr (.inr (.inr ()))] [] M) (h : VX1_putTerms_107 c_X10_at c_X9_isThere c_X8_has c_X1_firstWord c_X1_putText c_X1_thenWord c_X10_nameOf c_X1_thenDate c_X1_endLine k2 (fun M => R none M) x1 x2 x3 M) : f_E sh t YX1_putTerms rm cs (f_Q sh t R) 107 [.inr (.inr (.inl (1, 7, 4452))), .inl x1, .inl x2, .inl x3, .inr (.inr (.inr ()))] [] M :=
  f_go (KC := f_kc [(2, f_pl [(4462, 1, 7), (1, 0, 0), (1, 0, 0), (1, 0, 0), (0, 0, 0)] [] (fun ls st M => k2 (f_vi (f_nth ls 1)) (f_vi (f_nth ls 2)) (f_vi (f_nth ls 3)) M))]) C qX1_putTermsf (f_kc_cons (f_pl_ok rfl (fun ls st M h => h2 _ _ _ M h)) f_kc_nil) 60 55 h
set_option maxRecDepth 20000 in
theorem BX1_putTerms {sh : Nat → Nat × Nat} {t : Nat} {rm : Nat × Nat × Nat} {cs : Nat × Nat} {R : f_Rt} {c_X10_at : Nat → Int → Int → e_M → (Nat → Prop) → Prop} {c_X9_isThere : Nat → Int → e_M → (Int → Prop) → Prop} {c_X8_has : Nat → Int → e_M → (Int → Prop) → Prop} {c_X1_firstWord : Int → Nat → e_M → (Nat → Nat → Prop) → Prop} {c_X1_putText : Nat → Nat → e_M → (e_M → Prop) → Prop} {c_X1_thenWord : Int → e_M → (e_M → Prop) → Prop} {c_X10_nameOf : Nat → Int → Int → e_M → (Int → Prop) → Prop} {c_X1_thenDate : Int → e_M → (e_M → Prop) → Prop} {c_X1_endLine : e_M → (e_M → Prop) → Prop} {k2 : Int → Int → Int → e_M → Prop} {x1 : Int} {x2 : Int} {M : e_M} (C : f_Hy sh t yX1_putTerms rm cs 7 (lX1_putTerms c_X10_at c_X9_isThere c_X8_has c_X1_firstWord c_X1_putText c_X1_thenWord c_X10_nameOf c_X1_thenDate c_X1_endLine) R) (h2 : ∀ (x1 : Int) (x2 : Int) (x3 : Int) (M : e_M), k2 x1 x2 x3 M → f_E sh t YX1_putTerms rm cs (f_Q sh t R) 2 [.inr (.inr (.inl (1, 7, 4452))), .inl x1, .inl x2, .inl x3, .inr (.inr (.inr ()))] [] M) (h : VX1_putTerms c_X10_at c_X9_isThere c_X8_has c_X1_firstWord c_X1_putText c_X1_thenWord c_X10_nameOf c_X1_thenDate c_X1_endLine k2 (fun M => R none M) x1 x2 M) : f_E sh t YX1_putTerms rm cs (f_Q sh t R) 0 [.inr (.inr (.inl (1, 7, 4452))), .inl x1, .inl x2, .inr (.inr (.inr ())), .inr (.inr (.inr ()))] [] M :=
  f_go (KC := f_kc [(2, f_pl [(4462, 1, 7), (1, 0, 0), (1, 0, 0), (1, 0, 0), (0, 0, 0)] [] (fun ls st M => k2 (f_vi (f_nth ls 1)) (f_vi (f_nth ls 2)) (f_vi (f_nth ls 3)) M))]) C qX1_putTermsf (f_kc_cons (f_pl_ok rfl (fun ls st M h => h2 _ _ _ M h)) f_kc_nil) 60 0 h
def WX1_putTerms_107 (H2 : Int → Int → Int → e_M → Prop) (Q : e_M → Prop) (x1 : Int) (x2 : Int) (x3 : Int) (M : e_M) : Prop :=
  VX1_putTerms_107 WX10_at WX9_isThere WX8_has WX1_firstWord WX1_putText WX1_thenWord WX10_nameOf WX1_thenDate WX1_endLine H2 Q x1 x2 x3 M
def WX1_putTerms_103 (H2 : Int → Int → Int → e_M → Prop) (Q : e_M → Prop) (x1 : Int) (x2 : Int) (x3 : Int) (M : e_M) : Prop :=
  VX1_putTerms_103 WX10_at WX9_isThere WX8_has WX1_firstWord WX1_putText WX1_thenWord WX10_nameOf WX1_thenDate WX1_endLine (WX1_putTerms_107 H2 Q) Q x1 x2 x3 M
def WX1_putTerms_2 (Q : e_M → Prop) : Nat → Int → Int → Int → e_M → Prop
  | 0, _, _, _, _ => False
  | n + 1, x1, x2, x3, M =>
    VX1_putTerms_2 WX10_at WX9_isThere WX8_has WX1_firstWord WX1_putText WX1_thenWord WX10_nameOf WX1_thenDate WX1_endLine (WX1_putTerms_107 (WX1_putTerms_2 Q n) Q) (WX1_putTerms_103 (WX1_putTerms_2 Q n) Q) Q x1 x2 x3 M
def WX1_putTerms (x1 : Int) (x2 : Int) (M : e_M) (Q : e_M → Prop) : Prop :=
  VX1_putTerms WX10_at WX9_isThere WX8_has WX1_firstWord WX1_putText WX1_thenWord WX10_nameOf WX1_thenDate WX1_endLine (fun x1 x2 x3 M => ∃ j, WX1_putTerms_2 Q j x1 x2 x3 M) Q x1 x2 M
theorem PX1_putTerms_107 {sh : Nat → Nat × Nat} {t : Nat} {rm : Nat × Nat × Nat} {cs : Nat × Nat} {R : f_Rt} {H2 : Int → Int → Int → e_M → Prop} {x1 : Int} {x2 : Int} {x3 : Int} {M : e_M} (C : f_Hy sh t yX1_putTerms rm cs 7 (lX1_putTerms WX10_at WX9_isThere WX8_has WX1_firstWord WX1_putText WX1_thenWord WX10_nameOf WX1_thenDate WX1_endLine) R) (g2 : ∀ (x1 : Int) (x2 : Int) (x3 : Int) (M : e_M), H2 x1 x2 x3 M → f_E sh t YX1_putTerms rm cs (f_Q sh t R) 2 [.inr (.inr (.inl (1, 7, 4452))), .inl x1, .inl x2, .inl x3, .inr (.inr (.inr ()))] [] M) (h : WX1_putTerms_107 H2 (fun M => R none M) x1 x2 x3 M) : f_E sh t YX1_putTerms rm cs (f_Q sh t R) 107 [.inr (.inr (.inl (1, 7, 4452))), .inl x1, .inl x2, .inl x3, .inr (.inr (.inr ()))] [] M :=
  BX1_putTerms_107 C g2 h
theorem PX1_putTerms_103 {sh : Nat → Nat × Nat} {t : Nat} {rm : Nat × Nat × Nat} {cs : Nat × Nat} {R : f_Rt} {H2 : Int → Int → Int → e_M → Prop} {x1 : Int} {x2 : Int} {x3 : Int} {M : e_M} (C : f_Hy sh t yX1_putTerms rm cs 7 (lX1_putTerms WX10_at WX9_isThere WX8_has WX1_firstWord WX1_putText WX1_thenWord WX10_nameOf WX1_thenDate WX1_endLine) R) (g2 : ∀ (x1 : Int) (x2 : Int) (x3 : Int) (M : e_M), H2 x1 x2 x3 M → f_E sh t YX1_putTerms rm cs (f_Q sh t R) 2 [.inr (.inr (.inl (1, 7, 4452))), .inl x1, .inl x2, .inl x3, .inr (.inr (.inr ()))] [] M) (h : WX1_putTerms_103 H2 (fun M => R none M) x1 x2 x3 M) : f_E sh t YX1_putTerms rm cs (f_Q sh t R) 103 [.inr (.inr (.inl (1, 7, 4452))), .inl x1, .inl x2, .inl x3, .inr (.inr (.inr ()))] [] M :=
  BX1_putTerms_103 C (fun x1 x2 x3 M h => PX1_putTerms_107 C g2 h) h
theorem PX1_putTerms_2 {sh : Nat → Nat × Nat} {t : Nat} {rm : Nat × Nat × Nat} {cs : Nat × Nat} {R : f_Rt} (C : f_Hy sh t yX1_putTerms rm cs 7 (lX1_putTerms WX10_at WX9_isThere WX8_has WX1_firstWord WX1_putText WX1_thenWord WX10_nameOf WX1_thenDate WX1_endLine) R) : ∀ (n : Nat) (x1 : Int) (x2 : Int) (x3 : Int) (M : e_M), WX1_putTerms_2 (fun M => R none M) n x1 x2 x3 M → f_E sh t YX1_putTerms rm cs (f_Q sh t R) 2 [.inr (.inr (.inl (1, 7, 4452))), .inl x1, .inl x2, .inl x3, .inr (.inr (.inr ()))] [] M := by
  intro n
  induction n with
  | zero => intro x1 x2 x3 M h; exact h.elim
  | succ n ih => intro x1 x2 x3 M h; exact BX1_putTerms_2 C (fun x1 x2 x3 M h => PX1_putTerms_107 C ih h) (fun x1 x2 x3 M h => PX1_putTerms_103 C ih h) h
theorem PX1_putTerms {sh : Nat → Nat × Nat} {t : Nat} {rm : Nat × Nat × Nat} {cs : Nat × Nat} {R : f_Rt} {x1 : Int} {x2 : Int} {M : e_M} (C : f_Hy sh t yX1_putTerms rm cs 7 (lX1_putTerms WX10_at WX9_isThere WX8_has WX1_firstWord WX1_putText WX1_thenWord WX10_nameOf WX1_thenDate WX1_endLine) R) (h : WX1_putTerms x1 x2 M (fun M => R none M)) : f_E sh t YX1_putTerms rm cs (f_Q sh t R) 0 [.inr (.inr (.inl (1, 7, 4452))), .inl x1, .inl x2, .inr (.inr (.inr ())), .inr (.inr (.inr ()))] [] M :=
  BX1_putTerms C (fun x1 x2 x3 M ⟨j, h⟩ => PX1_putTerms_2 C j _ _ _ _ h) h
def wX1_putTerms : f_Wt := f_wm [(4462, 1, 7), (1, 0, 0), (1, 0, 0)] (fun ar M R => WX1_putTerms (f_vi (f_nth ar 1)) (f_vi (f_nth ar 2)) M (fun M => R none M))
theorem TX1_putTerms {sh : Nat → Nat × Nat} {t : Nat} : f_Mt sh t YX1_putTerms 7 (wX1_putTerms) :=
  f_Mt_of (k := 2) (Nat.le_of_ble_eq_true rfl) rfl rfl (fun ar M R rm cs h1 h2 h3 hX h => PX1_putTerms ⟨Nat.le_of_ble_eq_true rfl, h1, h2, h3, ⟨(f_Mt.up (Nat.le_of_ble_eq_true rfl) TX10_at), (f_Mt.up (Nat.le_of_ble_eq_true rfl) TX9_isThere), (f_Mt.up (Nat.le_of_ble_eq_true rfl) TX8_has), (f_Mt.up (Nat.le_of_ble_eq_true rfl) TX1_firstWord), (f_Mt.up (Nat.le_of_ble_eq_true rfl) TX1_putText), (f_Mt.up (Nat.le_of_ble_eq_true rfl) TX1_thenWord), (f_Mt.up (Nat.le_of_ble_eq_true rfl) TX10_nameOf), (f_Mt.up (Nat.le_of_ble_eq_true rfl) TX1_thenDate), (f_Mt.up (Nat.le_of_ble_eq_true rfl) TX1_endLine), trivial⟩, hX⟩ h)
def VX1_showLot_34 (c_X10_lot : Nat → Int → e_M → (Nat → Prop) → Prop) (c_X3_area : Nat → e_M → (Int → Prop) → Prop) (c_X1_thenNumber : Int → e_M → (e_M → Prop) → Prop) (c_X1_endLine : e_M → (e_M → Prop) → Prop) (c_X1_putText : Nat → Nat → e_M → (e_M → Prop) → Prop) (c_X1_putNumber : Int → e_M → (e_M → Prop) → Prop) (c_X1_put : Int → e_M → (e_M → Prop) → Prop) (c_X10_nameOf : Nat → Int → Int → e_M → (Int → Prop) → Prop) (c_X1_putWord : Int → e_M → (e_M → Prop) → Prop) (c_X1_thenShare : Nat → Int → e_M → (e_M → Prop) → Prop) (c_X8_get : Nat → Int → e_M → (Int → Prop) → Prop) (c_X10_at : Nat → Int → Int → e_M → (Nat → Prop) → Prop) (c_X1_putCharge : Nat → e_M → (e_M → Prop) → Prop) (c_X1_putServes : Int → Int → e_M → (e_M → Prop) → Prop) (c_X1_putTerms : Int → Int → e_M → (e_M → Prop) → Prop) (k104 : Int → Nat → Int → e_M → Prop) (k34 : Int → Nat → Int → e_M → Prop) (Q : e_M → Prop) (x1 : Int) (a2 : Nat) (x3 : Int) (M : e_M) : Prop :=
  (((M (a2 + 1) 2) ≤ x3 → (c_X1_endLine M (fun M1 => (k104 x1 a2 0 M1)))) ∧ (x3 < (M (a2 + 1) 2) → (c_X1_putText 2 1000020 M (fun M2 => ((0 ≤ x3 ∧ x3 < 40) ∧ (c_X1_putNumber (M2 (a2 + 1 + 1) (x3.toNat)) M2 (fun M3 => (c_X1_put 44 M3 (fun M4 => ((0 ≤ x3 ∧ x3 < 40) ∧ (c_X1_putNumber (M4 (a2 + 1 + 2) (x3.toNat)) M4 (fun M5 => (c_X1_put 41 M5 (fun M6 => (k34 x1 a2 (e_w32 (x3 + 1)) M6)))))))))))))))
def VX1_showLot_104 (c_X10_lot : Nat → Int → e_M → (Nat → Prop) → Prop) (c_X3_area : Nat → e_M → (Int → Prop) → Prop) (c_X1_thenNumber : Int → e_M → (e_M → Prop) → Prop) (c_X1_endLine : e_M → (e_M → Prop) → Prop) (c_X1_putText : Nat → Nat → e_M → (e_M → Prop) → Prop) (c_X1_putNumber : Int → e_M → (e_M → Prop) → Prop) (c_X1_put : Int → e_M → (e_M → Prop) → Prop) (c_X10_nameOf : Nat → Int → Int → e_M → (Int → Prop) → Prop) (c_X1_putWord : Int → e_M → (e_M → Prop) → Prop) (c_X1_thenShare : Nat → Int → e_M → (e_M → Prop) → Prop) (c_X8_get : Nat → Int → e_M → (Int → Prop) → Prop) (c_X10_at : Nat → Int → Int → e_M → (Nat → Prop) → Prop) (c_X1_putCharge : Nat → e_M → (e_M → Prop) → Prop) (c_X1_putServes : Int → Int → e_M → (e_M → Prop) → Prop) (c_X1_putTerms : Int → Int → e_M → (e_M → Prop) → Prop) (k148 : Int → Nat → Int → e_M → Prop) (k104 : Int → Nat → Int → e_M → Prop) (Q : e_M → Prop) (x1 : Int) (a2 : Nat) (x3 : Int) (M : e_M) : Prop :=
  (((M a2 8) ≤ x3 → (k148 x1 a2 0 M)) ∧ (x3 < (M a2 8) → ((0 ≤ x3 ∧ x3 < 14) ∧ (c_X10_nameOf ((M 4452 3).toNat) 1 (M (a2 + 6) (x3.toNat)) M (fun r1 => (c_X1_putWord r1 M (fun M2 => (c_X1_thenShare a2 x3 M2 (fun M3 => (c_X1_endLine M3 (fun M4 => (k104 x1 a2 (e_w32 (x3 + 1)) M4))))))))))))
def VX1_showLot_148 (c_X10_lot : Nat → Int → e_M → (Nat → Prop) → Prop) (c_X3_area : Nat → e_M → (Int → Prop) → Prop) (c_X1_thenNumber : Int → e_M → (e_M → Prop) → Prop) (c_X1_endLine : e_M → (e_M → Prop) → Prop) (c_X1_putText : Nat → Nat → e_M → (e_M → Prop) → Prop) (c_X1_putNumber : Int → e_M → (e_M → Prop) → Prop) (c_X1_put : Int → e_M → (e_M → Prop) → Prop) (c_X10_nameOf : Nat → Int → Int → e_M → (Int → Prop) → Prop) (c_X1_putWord : Int → e_M → (e_M → Prop) → Prop) (c_X1_thenShare : Nat → Int → e_M → (e_M → Prop) → Prop) (c_X8_get : Nat → Int → e_M → (Int → Prop) → Prop) (c_X10_at : Nat → Int → Int → e_M → (Nat → Prop) → Prop) (c_X1_putCharge : Nat → e_M → (e_M → Prop) → Prop) (c_X1_putServes : Int → Int → e_M → (e_M → Prop) → Prop) (c_X1_putTerms : Int → Int → e_M → (e_M → Prop) → Prop) (k199 : Int → Int → e_M → Prop) (k148 : Int → Nat → Int → e_M → Prop) (Q : e_M → Prop) (x1 : Int) (a2 : Nat) (x3 : Int) (M : e_M) : Prop :=
  (((M (a2 + 4) 1) ≤ x3 → (c_X1_putServes x1 1 M (fun M1 => (c_X1_putServes x1 0 M1 (fun M2 => (k199 x1 4 M2)))))) ∧ (x3 < (M (a2 + 4) 1) → (c_X8_get (a2 + 4) x3 M (fun r3 => (c_X10_at ((M 4452 3).toNat) 2 r3 M (fun r4 => (c_X1_putCharge r4 M (fun M5 => (k148 x1 a2 (e_w32 (x3 + 1)) M5)))))))))
def VX1_showLot_199 (c_X10_lot : Nat → Int → e_M → (Nat → Prop) → Prop) (c_X3_area : Nat → e_M → (Int → Prop) → Prop) (c_X1_thenNumber : Int → e_M → (e_M → Prop) → Prop) (c_X1_endLine : e_M → (e_M → Prop) → Prop) (c_X1_putText : Nat → Nat → e_M → (e_M → Prop) → Prop) (c_X1_putNumber : Int → e_M → (e_M → Prop) → Prop) (c_X1_put : Int → e_M → (e_M → Prop) → Prop) (c_X10_nameOf : Nat → Int → Int → e_M → (Int → Prop) → Prop) (c_X1_putWord : Int → e_M → (e_M → Prop) → Prop) (c_X1_thenShare : Nat → Int → e_M → (e_M → Prop) → Prop) (c_X8_get : Nat → Int → e_M → (Int → Prop) → Prop) (c_X10_at : Nat → Int → Int → e_M → (Nat → Prop) → Prop) (c_X1_putCharge : Nat → e_M → (e_M → Prop) → Prop) (c_X1_putServes : Int → Int → e_M → (e_M → Prop) → Prop) (c_X1_putTerms : Int → Int → e_M → (e_M → Prop) → Prop) (k199 : Int → Int → e_M → Prop) (Q : e_M → Prop) (x1 : Int) (x3 : Int) (M : e_M) : Prop :=
  ((6 < x3 → (Q M)) ∧ (x3 ≤ 6 → (c_X1_putTerms x3 x1 M (fun M1 => (k199 x1 (e_w32 (x3 + 1)) M1)))))
def VX1_showLot (c_X10_lot : Nat → Int → e_M → (Nat → Prop) → Prop) (c_X3_area : Nat → e_M → (Int → Prop) → Prop) (c_X1_thenNumber : Int → e_M → (e_M → Prop) → Prop) (c_X1_endLine : e_M → (e_M → Prop) → Prop) (c_X1_putText : Nat → Nat → e_M → (e_M → Prop) → Prop) (c_X1_putNumber : Int → e_M → (e_M → Prop) → Prop) (c_X1_put : Int → e_M → (e_M → Prop) → Prop) (c_X10_nameOf : Nat → Int → Int → e_M → (Int → Prop) → Prop) (c_X1_putWord : Int → e_M → (e_M → Prop) → Prop) (c_X1_thenShare : Nat → Int → e_M → (e_M → Prop) → Prop) (c_X8_get : Nat → Int → e_M → (Int → Prop) → Prop) (c_X10_at : Nat → Int → Int → e_M → (Nat → Prop) → Prop) (c_X1_putCharge : Nat → e_M → (e_M → Prop) → Prop) (c_X1_putServes : Int → Int → e_M → (e_M → Prop) → Prop) (c_X1_putTerms : Int → Int → e_M → (e_M → Prop) → Prop) (k34 : Int → Nat → Int → e_M → Prop) (Q : e_M → Prop) (x1 : Int) (M : e_M) : Prop :=
  (c_X10_lot ((M 4452 3).toNat) x1 M (fun r1 => (c_X3_area (r1 + 1) M (fun r2 => (c_X1_thenNumber r2 M (fun M3 => (c_X1_endLine M3 (fun M4 => (c_X1_putText 2 1000019 M4 (fun M5 => (k34 x1 r1 0 M5)))))))))))
def yX1_showLot (i : Nat) : e_Y := x_get YX1_showLot [YX10_lot, YX3_area, YX1_thenNumber, YX1_endLine, YX1_putText, YX1_putNumber, YX1_put, YX10_nameOf, YX1_putWord, YX1_thenShare, YX8_get, YX10_at, YX1_putCharge, YX1_putServes, YX1_putTerms] i
def pX1_showLotf : List x_I := [(0, 4, 1, 0, 0, 0, []), (1, 25, 1, 3, 4, 0, [(0, 10, 15), (0, 0, 0)]), (4, 2, 1, 1, 0, 0, []), (5, 40, 0, 2, 12, 0, []), (8, 7, 1, 2, 0, 0, []), (9, 4, 1, 0, 0, 0, []), (10, 4, 1, 2, 0, 0, []), (11, 25, 4, 3, 4, 0, [(0, 3, 3), (0, 1, 1)]), (14, 40, 1, 1, 5, 0, []), (17, 14, 0, 0, 0, 0, []), (18, 40, 2, 2, 3, 0, []), (21, 4, 1, 0, 0, 0, []), (22, 40, 3, 1, 3, 0, []), (25, 4, 1, 0, 0, 0, []), (26, 38, 3, 1000019, 2, 0, []), (29, 40, 4, 2, 3, 0, []), (32, 0, 1, 0, 0, 0, []), (33, 5, 1, 3, 0, 0, []), (34, 49, 0, 0, 0, 0, []), (34, 2, 1, 3, 0, 0, []), (35, 4, 1, 2, 0, 0, []), (36, 25, 4, 3, 4, 0, [(0, 3, 3), (0, 1, 1)]), (39, 25, 3, 2, 0, 0, []), (42, 18, 98, 3, 52, 0, []), (45, 4, 1, 0, 0, 0, []), (46, 38, 3, 1000020, 2, 0, []), (49, 40, 4, 2, 3, 0, []), (52, 4, 1, 0, 0, 0, []), (53, 4, 1, 2, 0, 0, []), (54, 25, 4, 3, 4, 0, [(0, 3, 3), (0, 1, 1)]), (57, 25, 3, 0, 4, 0, [(0, 20, 40), (0, 1, 1)]), (60, 2, 1, 3, 0, 0, []), (61, 27, 0, 0, 0, 0, []), (62, 14, 0, 0, 0, 0, []), (63, 40, 5, 2, 3, 0, []), (66, 4, 1, 0, 0, 0, []), (67, 0, 2, 0, 0, 44, []), (69, 40, 6, 2, 3, 0, []), (72, 4, 1, 0, 0, 0, []), (73, 4, 1, 2, 0, 0, []), (74, 25, 4, 3, 4, 0, [(0, 3, 3), (0, 1, 1)]), (77, 25, 3, 1, 4, 0, [(0, 20, 40), (0, 1, 2)]), (80, 2, 1, 3, 0, 0, []), (81, 27, 0, 0, 0, 0, []), (82, 14, 0, 0, 0, 0, []), (83, 40, 5, 2, 3, 0, []), (86, 4, 1, 0, 0, 0, []), (87, 0, 2, 0, 0, 41, []), (89, 40, 6, 2, 3, 0, []), (92, 8, 0, 3, 0, 1, []), (95, 19, 34, 0, 19, 0, []), (98, 4, 1, 0, 0, 0, []), (99, 40, 3, 1, 3, 0, []), (102, 0, 1, 0, 0, 0, []), (103, 5, 1, 3, 0, 0, []), (104, 49, 0, 0, 0, 0, []), (104, 2, 1, 3, 0, 0, []), (105, 4, 1, 2, 0, 0, []), (106, 25, 4, 8, 0, 0, []), (109, 18, 146, 3, 79, 0, []), (112, 4, 1, 0, 0, 0, []), (113, 4, 1, 0, 0, 0, []), (114, 25, 1, 3, 4, 0, [(0, 10, 15), (0, 0, 0)]), (117, 0, 1, 0, 0, 1, []), (118, 4, 1, 2, 0, 0, []), (119, 25, 4, 5, 4, 0, [(0, 20, 14), (0, 1, 6)]), (122, 2, 1, 3, 0, 0, []), (123, 27, 0, 0, 0, 0, []), (124, 40, 7, 3, 12, 0, []), (127, 40, 8, 2, 3, 0, []), (130, 4, 1, 0, 0, 0, []), (131, 4, 1, 2, 0, 0, []), (132, 2, 1, 3, 0, 0, []), (133, 40, 9, 3, 3, 0, []), (136, 4, 1, 0, 0, 0, []), (137, 40, 3, 1, 3, 0, []), (140, 8, 0, 3, 0, 1, []), (143, 19, 104, 0, 56, 0, []), (146, 0, 1, 0, 0, 0, []), (147, 5, 1, 3, 0, 0, []), (148, 49, 0, 0, 0, 0, []), (148, 2, 1, 3, 0, 0, []), (149, 4, 1, 2, 0, 0, []), (150, 25, 4, 4, 4, 0, [(0, 8, 2), (0, 1, 4)]), (153, 25, 8, 1, 0, 0, []), (156, 18, 185, 3, 99, 0, []), (159, 4, 1, 0, 0, 0, []), (160, 4, 1, 0, 0, 0, []), (161, 25, 1, 3, 4, 0, [(0, 10, 15), (0, 0, 0)]), (164, 0, 1, 0, 0, 2, []), (165, 4, 1, 2, 0, 0, []), (166, 25, 4, 4, 4, 0, [(0, 8, 2), (0, 1, 4)]), (169, 2, 1, 3, 0, 0, []), (170, 40, 10, 2, 10, 0, []), (173, 40, 11, 3, 12, 0, []), (176, 40, 12, 2, 3, 0, []), (179, 8, 0, 3, 0, 1, []), (182, 19, 148, 0, 81, 0, []), (185, 4, 1, 0, 0, 0, []), (186, 2, 1, 1, 0, 0, []), (187, 0, 1, 0, 0, 1, []), (188, 40, 13, 3, 3, 0, []), (191, 4, 1, 0, 0, 0, []), (192, 2, 1, 1, 0, 0, []), (193, 0, 1, 0, 0, 0, []), (194, 40, 13, 3, 3, 0, []), (197, 0, 1, 0, 0, 4, []), (198, 5, 1, 3, 0, 0, []), (199, 49, 0, 0, 0, 0, []), (199, 2, 1, 3, 0, 0, []), (200, 0, 2, 0, 0, 6, []), (202, 18, 217, 4, 119, 0, []), (205, 4, 1, 0, 0, 0, []), (206, 2, 1, 3, 0, 0, []), (207, 2, 1, 1, 0, 0, []), (208, 40, 14, 3, 3, 0, []), (211, 8, 0, 3, 0, 1, []), (214, 19, 199, 0, 109, 0, []), (217, 44, 0, 0, 0, 0, [])]
set_option maxRecDepth 20000 in
theorem qX1_showLotf : f_all yX1_showLot YX1_showLot pX1_showLotf :=
  ⟨f_aload_n (n := 0) (e_dx DX1_showLot_0 0 rfl) rfl,
  f_getA (e_dx DX1_showLot_0 1 rfl) fX1_31 rfl (by decide) (Nat.le_of_ble_eq_true rfl) rfl (by decide),
  f_iload_n (n := 1) (e_dx DX1_showLot_0 2 rfl) rfl,
  x_callV (e_dx DX1_showLot_0 3 rfl) mwX10_lot vwX10_lot cX1_139 rfl,
  f_astore_n (n := 2) (e_dx DX1_showLot_0 4 rfl) rfl (by decide),
  f_aload_n (n := 0) (e_dx DX1_showLot_0 5 rfl) rfl,
  f_aload_n (n := 2) (e_dx DX1_showLot_0 6 rfl) rfl,
  f_getA (e_dx DX1_showLot_0 7 rfl) fX1_198 rfl (by decide) (Nat.le_of_ble_eq_true rfl) rfl (by decide),
  x_callV (e_dx DX1_showLot_0 8 rfl) mwX3_area vwX3_area cX1_214 rfl,
  f_g14 (e_dx DX1_showLot_0 9 rfl),
  x_callV (e_dx DX1_showLot_0 10 rfl) mwX1_thenNumber vwX1_thenNumber cX1_317 rfl,
  f_aload_n (n := 0) (e_dx DX1_showLot_0 11 rfl) rfl,
  x_callV (e_dx DX1_showLot_0 12 rfl) mwX1_endLine vwX1_endLine cX1_282 rfl,
  f_aload_n (n := 0) (e_dx DX1_showLot_0 13 rfl) rfl,
  f_ldcSw (i := 14) (tx := "at") (e_dx DX1_showLot_0 14 rfl) (by decide) (by decide) rfl rfl,
  x_callV (e_dx DX1_showLot_0 15 rfl) mwX1_putText vwX1_putText cX1_273 rfl,
  f_iconst (e_dx DX1_showLot_0 16 rfl) ⟨by decide, by decide⟩,
  f_istore_n (n := 3) (e_dx DX1_showLot_0 17 rfl) rfl (by decide),
  trivial,
  f_iload_n (n := 3) (e_dx DX1_showLot_0 18 rfl) rfl,
  f_aload_n (n := 2) (e_dx DX1_showLot_0 19 rfl) rfl,
  f_getA (e_dx DX1_showLot_0 20 rfl) fX1_198 rfl (by decide) (Nat.le_of_ble_eq_true rfl) rfl (by decide),
  f_getf (e_dx DX1_showLot_0 21 rfl) fX1_218 rfl (by decide) (by decide) (by decide),
  f_icmp_ge (e_dx DX1_showLot_0 22 rfl) rfl,
  f_aload_n (n := 0) (e_dx DX1_showLot_0 23 rfl) rfl,
  f_ldcSw (i := 15) (tx := " (") (e_dx DX1_showLot_0 24 rfl) (by decide) (by decide) rfl rfl,
  x_callV (e_dx DX1_showLot_0 25 rfl) mwX1_putText vwX1_putText cX1_273 rfl,
  f_aload_n (n := 0) (e_dx DX1_showLot_0 26 rfl) rfl,
  f_aload_n (n := 2) (e_dx DX1_showLot_0 27 rfl) rfl,
  f_getA (e_dx DX1_showLot_0 28 rfl) fX1_198 rfl (by decide) (Nat.le_of_ble_eq_true rfl) rfl (by decide),
  f_getA (e_dx DX1_showLot_0 29 rfl) fX1_323 rfl (by decide) (Nat.le_of_ble_eq_true rfl) rfl (by decide),
  f_iload_n (n := 3) (e_dx DX1_showLot_0 30 rfl) rfl,
  f_iaload (e_dx DX1_showLot_0 31 rfl),
  f_g14 (e_dx DX1_showLot_0 32 rfl),
  x_callV (e_dx DX1_showLot_0 33 rfl) mwX1_putNumber vwX1_putNumber cX1_94 rfl,
  f_aload_n (n := 0) (e_dx DX1_showLot_0 34 rfl) rfl,
  f_bipush (e_dx DX1_showLot_0 35 rfl) ⟨by decide, by decide⟩,
  x_callV (e_dx DX1_showLot_0 36 rfl) mwX1_put vwX1_put cX1_98 rfl,
  f_aload_n (n := 0) (e_dx DX1_showLot_0 37 rfl) rfl,
  f_aload_n (n := 2) (e_dx DX1_showLot_0 38 rfl) rfl,
  f_getA (e_dx DX1_showLot_0 39 rfl) fX1_198 rfl (by decide) (Nat.le_of_ble_eq_true rfl) rfl (by decide),
  f_getA (e_dx DX1_showLot_1 0 rfl) fX1_326 rfl (by decide) (Nat.le_of_ble_eq_true rfl) rfl (by decide),
  f_iload_n (n := 3) (e_dx DX1_showLot_1 1 rfl) rfl,
  f_iaload (e_dx DX1_showLot_1 2 rfl),
  f_g14 (e_dx DX1_showLot_1 3 rfl),
  x_callV (e_dx DX1_showLot_1 4 rfl) mwX1_putNumber vwX1_putNumber cX1_94 rfl,
  f_aload_n (n := 0) (e_dx DX1_showLot_1 5 rfl) rfl,
  f_bipush (e_dx DX1_showLot_1 6 rfl) ⟨by decide, by decide⟩,
  x_callV (e_dx DX1_showLot_1 7 rfl) mwX1_put vwX1_put cX1_98 rfl,
  f_g8 (e_dx DX1_showLot_1 8 rfl) ⟨by decide, by decide⟩,
  f_g19 (e_dx DX1_showLot_1 9 rfl) rfl,
  f_aload_n (n := 0) (e_dx DX1_showLot_1 10 rfl) rfl,
  x_callV (e_dx DX1_showLot_1 11 rfl) mwX1_endLine vwX1_endLine cX1_282 rfl,
  f_iconst (e_dx DX1_showLot_1 12 rfl) ⟨by decide, by decide⟩,
  f_istore_n (n := 3) (e_dx DX1_showLot_1 13 rfl) rfl (by decide),
  trivial,
  f_iload_n (n := 3) (e_dx DX1_showLot_1 14 rfl) rfl,
  f_aload_n (n := 2) (e_dx DX1_showLot_1 15 rfl) rfl,
  f_getf (e_dx DX1_showLot_1 16 rfl) fX1_219 rfl (by decide) (by decide) (by decide),
  f_icmp_ge (e_dx DX1_showLot_1 17 rfl) rfl,
  f_aload_n (n := 0) (e_dx DX1_showLot_1 18 rfl) rfl,
  f_aload_n (n := 0) (e_dx DX1_showLot_1 19 rfl) rfl,
  f_getA (e_dx DX1_showLot_1 20 rfl) fX1_31 rfl (by decide) (Nat.le_of_ble_eq_true rfl) rfl (by decide),
  f_iconst (e_dx DX1_showLot_1 21 rfl) ⟨by decide, by decide⟩,
  f_aload_n (n := 2) (e_dx DX1_showLot_1 22 rfl) rfl,
  f_getA (e_dx DX1_showLot_1 23 rfl) fX1_329 rfl (by decide) (Nat.le_of_ble_eq_true rfl) rfl (by decide),
  f_iload_n (n := 3) (e_dx DX1_showLot_1 24 rfl) rfl,
  f_iaload (e_dx DX1_showLot_1 25 rfl),
  x_callV (e_dx DX1_showLot_1 26 rfl) mwX10_nameOf vwX10_nameOf cX1_120 rfl,
  x_callV (e_dx DX1_showLot_1 27 rfl) mwX1_putWord vwX1_putWord cX1_124 rfl,
  f_aload_n (n := 0) (e_dx DX1_showLot_1 28 rfl) rfl,
  f_aload_n (n := 2) (e_dx DX1_showLot_1 29 rfl) rfl,
  f_iload_n (n := 3) (e_dx DX1_showLot_1 30 rfl) rfl,
  x_callV (e_dx DX1_showLot_1 31 rfl) mwX1_thenShare vwX1_thenShare cX1_331 rfl,
  f_aload_n (n := 0) (e_dx DX1_showLot_1 32 rfl) rfl,
  x_callV (e_dx DX1_showLot_1 33 rfl) mwX1_endLine vwX1_endLine cX1_282 rfl,
  f_g8 (e_dx DX1_showLot_1 34 rfl) ⟨by decide, by decide⟩,
  f_g19 (e_dx DX1_showLot_1 35 rfl) rfl,
  f_iconst (e_dx DX1_showLot_1 36 rfl) ⟨by decide, by decide⟩,
  f_istore_n (n := 3) (e_dx DX1_showLot_1 37 rfl) rfl (by decide),
  trivial,
  f_iload_n (n := 3) (e_dx DX1_showLot_1 38 rfl) rfl,
  f_aload_n (n := 2) (e_dx DX1_showLot_1 39 rfl) rfl,
  f_getA (e_dx DX1_showLot_2 0 rfl) fX1_225 rfl (by decide) (Nat.le_of_ble_eq_true rfl) rfl (by decide),
  f_getf (e_dx DX1_showLot_2 1 rfl) fX1_228 rfl (by decide) (by decide) (by decide),
  f_icmp_ge (e_dx DX1_showLot_2 2 rfl) rfl,
  f_aload_n (n := 0) (e_dx DX1_showLot_2 3 rfl) rfl,
  f_aload_n (n := 0) (e_dx DX1_showLot_2 4 rfl) rfl,
  f_getA (e_dx DX1_showLot_2 5 rfl) fX1_31 rfl (by decide) (Nat.le_of_ble_eq_true rfl) rfl (by decide),
  f_iconst (e_dx DX1_showLot_2 6 rfl) ⟨by decide, by decide⟩,
  f_aload_n (n := 2) (e_dx DX1_showLot_2 7 rfl) rfl,
  f_getA (e_dx DX1_showLot_2 8 rfl) fX1_225 rfl (by decide) (Nat.le_of_ble_eq_true rfl) rfl (by decide),
  f_iload_n (n := 3) (e_dx DX1_showLot_2 9 rfl) rfl,
  x_callV (e_dx DX1_showLot_2 10 rfl) mwX8_get vwX8_get cX1_229 rfl,
  x_callV (e_dx DX1_showLot_2 11 rfl) mwX10_at vwX10_at cX1_173 rfl,
  x_callV (e_dx DX1_showLot_2 12 rfl) mwX1_putCharge vwX1_putCharge cX1_335 rfl,
  f_g8 (e_dx DX1_showLot_2 13 rfl) ⟨by decide, by decide⟩,
  f_g19 (e_dx DX1_showLot_2 14 rfl) rfl,
  f_aload_n (n := 0) (e_dx DX1_showLot_2 15 rfl) rfl,
  f_iload_n (n := 1) (e_dx DX1_showLot_2 16 rfl) rfl,
  f_iconst (e_dx DX1_showLot_2 17 rfl) ⟨by decide, by decide⟩,
  x_callV (e_dx DX1_showLot_2 18 rfl) mwX1_putServes vwX1_putServes cX1_338 rfl,
  f_aload_n (n := 0) (e_dx DX1_showLot_2 19 rfl) rfl,
  f_iload_n (n := 1) (e_dx DX1_showLot_2 20 rfl) rfl,
  f_iconst (e_dx DX1_showLot_2 21 rfl) ⟨by decide, by decide⟩,
  x_callV (e_dx DX1_showLot_2 22 rfl) mwX1_putServes vwX1_putServes cX1_338 rfl,
  f_iconst (e_dx DX1_showLot_2 23 rfl) ⟨by decide, by decide⟩,
  f_istore_n (n := 3) (e_dx DX1_showLot_2 24 rfl) rfl (by decide),
  trivial,
  f_iload_n (n := 3) (e_dx DX1_showLot_2 25 rfl) rfl,
  f_bipush (e_dx DX1_showLot_2 26 rfl) ⟨by decide, by decide⟩,
  f_icmp_gt (e_dx DX1_showLot_2 27 rfl) rfl,
  f_aload_n (n := 0) (e_dx DX1_showLot_2 28 rfl) rfl,
  f_iload_n (n := 3) (e_dx DX1_showLot_2 29 rfl) rfl,
  f_iload_n (n := 1) (e_dx DX1_showLot_2 30 rfl) rfl,
  x_callV (e_dx DX1_showLot_2 31 rfl) mwX1_putTerms vwX1_putTerms cX1_342 rfl,
  f_g8 (e_dx DX1_showLot_2 32 rfl) ⟨by decide, by decide⟩,
  f_g19 (e_dx DX1_showLot_2 33 rfl) rfl,
  ⟨(e_dx DX1_showLot_2 34 rfl), rfl⟩, trivial⟩
def lX1_showLot (c_X10_lot : Nat → Int → e_M → (Nat → Prop) → Prop) (c_X3_area : Nat → e_M → (Int → Prop) → Prop) (c_X1_thenNumber : Int → e_M → (e_M → Prop) → Prop) (c_X1_endLine : e_M → (e_M → Prop) → Prop) (c_X1_putText : Nat → Nat → e_M → (e_M → Prop) → Prop) (c_X1_putNumber : Int → e_M → (e_M → Prop) → Prop) (c_X1_put : Int → e_M → (e_M → Prop) → Prop) (c_X10_nameOf : Nat → Int → Int → e_M → (Int → Prop) → Prop) (c_X1_putWord : Int → e_M → (e_M → Prop) → Prop) (c_X1_thenShare : Nat → Int → e_M → (e_M → Prop) → Prop) (c_X8_get : Nat → Int → e_M → (Int → Prop) → Prop) (c_X10_at : Nat → Int → Int → e_M → (Nat → Prop) → Prop) (c_X1_putCharge : Nat → e_M → (e_M → Prop) → Prop) (c_X1_putServes : Int → Int → e_M → (e_M → Prop) → Prop) (c_X1_putTerms : Int → Int → e_M → (e_M → Prop) → Prop) : List (Nat × f_Wt) := [(0, f_wm [(3, 10, 15), (1, 0, 0)] (fun ar M R => c_X10_lot (f_va (f_nth ar 0)) (f_vi (f_nth ar 1)) M (fun r => R (some (.inr (.inr (.inl (4, 9, r))))) M))), (1, f_wm [(3, 3, 3)] (fun ar M R => c_X3_area (f_va (f_nth ar 0)) M (fun r => R (some (.inl r)) M))), (2, f_wm [(4462, 1, 7), (2, 0, 0)] (fun ar M R => c_X1_thenNumber (f_vi (f_nth ar 1)) M (fun M => R none M))), (3, f_wm [(4462, 1, 7)] (fun ar M R => c_X1_endLine  M (fun M => R none M))), (4, f_wm [(4462, 1, 7), (4, 0, 0)] (fun ar M R => c_X1_putText (f_vn (f_nth ar 1)) (f_va (f_nth ar 1)) M (fun M => R none M))), (5, f_wm [(4462, 1, 7), (2, 0, 0)] (fun ar M R => c_X1_putNumber (f_vi (f_nth ar 1)) M (fun M => R none M))), (6, f_wm [(4462, 1, 7), (1, 0, 0)] (fun ar M R => c_X1_put (f_vi (f_nth ar 1)) M (fun M => R none M))), (7, f_wm [(3, 10, 15), (1, 0, 0), (1, 0, 0)] (fun ar M R => c_X10_nameOf (f_va (f_nth ar 0)) (f_vi (f_nth ar 1)) (f_vi (f_nth ar 2)) M (fun r => R (some (.inr (.inl r))) M))), (8, f_wm [(4462, 1, 7), (2, 0, 0)] (fun ar M R => c_X1_putWord (f_vi (f_nth ar 1)) M (fun M => R none M))), (9, f_wm [(4462, 1, 7), (3, 4, 9), (1, 0, 0)] (fun ar M R => c_X1_thenShare (f_va (f_nth ar 1)) (f_vi (f_nth ar 2)) M (fun M => R none M))), (10, f_wm [(3, 8, 2), (1, 0, 0)] (fun ar M R => c_X8_get (f_va (f_nth ar 0)) (f_vi (f_nth ar 1)) M (fun r => R (some (.inl r)) M))), (11, f_wm [(3, 10, 15), (1, 0, 0), (1, 0, 0)] (fun ar M R => c_X10_at (f_va (f_nth ar 0)) (f_vi (f_nth ar 1)) (f_vi (f_nth ar 2)) M (fun r => R (some (.inr (.inr (.inl (9, 14, r))))) M))), (12, f_wm [(4462, 1, 7), (3, 9, 14)] (fun ar M R => c_X1_putCharge (f_va (f_nth ar 1)) M (fun M => R none M))), (13, f_wm [(4462, 1, 7), (1, 0, 0), (1, 0, 0)] (fun ar M R => c_X1_putServes (f_vi (f_nth ar 1)) (f_vi (f_nth ar 2)) M (fun M => R none M))), (14, f_wm [(4462, 1, 7), (1, 0, 0), (1, 0, 0)] (fun ar M R => c_X1_putTerms (f_vi (f_nth ar 1)) (f_vi (f_nth ar 2)) M (fun M => R none M)))]
set_option maxRecDepth 20000 in
theorem BX1_showLot_34 {sh : Nat → Nat × Nat} {t : Nat} {rm : Nat × Nat × Nat} {cs : Nat × Nat} {R : f_Rt} {c_X10_lot : Nat → Int → e_M → (Nat → Prop) → Prop} {c_X3_area : Nat → e_M → (Int → Prop) → Prop} {c_X1_thenNumber : Int → e_M → (e_M → Prop) → Prop} {c_X1_endLine : e_M → (e_M → Prop) → Prop} {c_X1_putText : Nat → Nat → e_M → (e_M → Prop) → Prop} {c_X1_putNumber : Int → e_M → (e_M → Prop) → Prop} {c_X1_put : Int → e_M → (e_M → Prop) → Prop} {c_X10_nameOf : Nat → Int → Int → e_M → (Int → Prop) → Prop} {c_X1_putWord : Int → e_M → (e_M → Prop) → Prop} {c_X1_thenShare : Nat → Int → e_M → (e_M → Prop) → Prop} {c_X8_get : Nat → Int → e_M → (Int → Prop) → Prop} {c_X10_at : Nat → Int → Int → e_M → (Nat → Prop) → Prop} {c_X1_putCharge : Nat → e_M → (e_M → Prop) → Prop} {c_X1_putServes : Int → Int → e_M → (e_M → Prop) → Prop} {c_X1_putTerms : Int → Int → e_M → (e_M → Prop) → Prop} {k104 : Int → Nat → Int → e_M → Prop} {k34 : Int → Nat → Int → e_M → Prop} {x1 : Int} {a2 : Nat} {x3 : Int} {M : e_M} (C : f_Hy sh t yX1_showLot rm cs 8 (lX1_showLot c_X10_lot c_X3_area c_X1_thenNumber c_X1_endLine c_X1_putText c_X1_putNumber c_X1_put c_X10_nameOf c_X1_putWord c_X1_thenShare c_X8_get c_X10_at c_X1_putCharge c_X1_putServes c_X1_putTerms) R) (h104 : ∀ (x1 : Int) (a2 : Nat) (x3 : Int) (M : e_M), k104 x1 a2 x3 M → f_E sh t YX1_showLot rm cs (f_Q sh t R) 104 [.inr (.inr (.inl (1, 7, 4452))), .inl x1, .inr (.inr (.inl (4, 9, a2))), .inl x3] [] M) (h34 : ∀ (x1 : Int) (a2 : Nat) (x3 : Int) (M : e_M), k34 x1 a2 x3 M → f_E sh t YX1_showLot rm cs (f_Q sh t R) 34 [.inr (.inr (.inl (1, 7, 4452))), .inl x1, .inr (.inr (.inl (4, 9, a2))), .inl x3] [] M) (h : VX1_showLot_34 c_X10_lot c_X3_area c_X1_thenNumber c_X1_endLine c_X1_putText c_X1_putNumber c_X1_put c_X10_nameOf c_X1_putWord c_X1_thenShare c_X8_get c_X10_at c_X1_putCharge c_X1_putServes c_X1_putTerms k104 k34 (fun M => R none M) x1 a2 x3 M) : f_E sh t YX1_showLot rm cs (f_Q sh t R) 34 [.inr (.inr (.inl (1, 7, 4452))), .inl x1, .inr (.inr (.inl (4, 9, a2))), .inl x3] [] M :=
  f_go (KC := f_kc [(104, f_pl [(4462, 1, 7), (1, 0, 0), (3, 4, 9), (1, 0, 0)] [] (fun ls st M => k104 (f_vi (f_nth ls 1)) (f_va (f_nth ls 2)) (f_vi (f_nth ls 3)) M)), (34, f_pl [(4462, 1, 7), (1, 0, 0), (3, 4, 9), (1, 0, 0)] [] (fun ls st M => k34 (f_vi (f_nth ls 1)) (f_va (f_nth ls 2)) (f_vi (f_nth ls 3)) M))]) C qX1_showLotf (f_kc_cons (f_pl_ok rfl (fun ls st M h => h104 _ _ _ M h)) (f_kc_cons (f_pl_ok rfl (fun ls st M h => h34 _ _ _ M h)) f_kc_nil)) 121 19 h
set_option maxRecDepth 20000 in
theorem BX1_showLot_104 {sh : Nat → Nat × Nat} {t : Nat} {rm : Nat × Nat × Nat} {cs : Nat × Nat} {R : f_Rt} {c_X10_lot : Nat → Int → e_M → (Nat → Prop) → Prop} {c_X3_area : Nat → e_M → (Int → Prop) → Prop} {c_X1_thenNumber : Int → e_M → (e_M → Prop) → Prop} {c_X1_endLine : e_M → (e_M → Prop) → Prop} {c_X1_putText : Nat → Nat → e_M → (e_M → Prop) → Prop} {c_X1_putNumber : Int → e_M → (e_M → Prop) → Prop} {c_X1_put : Int → e_M → (e_M → Prop) → Prop} {c_X10_nameOf : Nat → Int → Int → e_M → (Int → Prop) → Prop} {c_X1_putWord : Int → e_M → (e_M → Prop) → Prop} {c_X1_thenShare : Nat → Int → e_M → (e_M → Prop) → Prop} {c_X8_get : Nat → Int → e_M → (Int → Prop) → Prop} {c_X10_at : Nat → Int → Int → e_M → (Nat → Prop) → Prop} {c_X1_putCharge : Nat → e_M → (e_M → Prop) → Prop} {c_X1_putServes : Int → Int → e_M → (e_M → Prop) → Prop} {c_X1_putTerms : Int → Int → e_M → (e_M → Prop) → Prop} {k148 : Int → Nat → Int → e_M → Prop} {k104 : Int → Nat → Int → e_M → Prop} {x1 : Int} {a2 : Nat} {x3 : Int} {M : e_M} (C : f_Hy sh t yX1_showLot rm cs 8 (lX1_showLot c_X10_lot c_X3_area c_X1_thenNumber c_X1_endLine c_X1_putText c_X1_putNumber c_X1_put c_X10_nameOf c_X1_putWord c_X1_thenShare c_X8_get c_X10_at c_X1_putCharge c_X1_putServes c_X1_putTerms) R) (h148 : ∀ (x1 : Int) (a2 : Nat) (x3 : Int) (M : e_M), k148 x1 a2 x3 M → f_E sh t YX1_showLot rm cs (f_Q sh t R) 148 [.inr (.inr (.inl (1, 7, 4452))), .inl x1, .inr (.inr (.inl (4, 9, a2))), .inl x3] [] M) (h104 : ∀ (x1 : Int) (a2 : Nat) (x3 : Int) (M : e_M), k104 x1 a2 x3 M → f_E sh t YX1_showLot rm cs (f_Q sh t R) 104 [.inr (.inr (.inl (1, 7, 4452))), .inl x1, .inr (.inr (.inl (4, 9, a2))), .inl x3] [] M) (h : VX1_showLot_104 c_X10_lot c_X3_area c_X1_thenNumber c_X1_endLine c_X1_putText c_X1_putNumber c_X1_put c_X10_nameOf c_X1_putWord c_X1_thenShare c_X8_get c_X10_at c_X1_putCharge c_X1_putServes c_X1_putTerms k148 k104 (fun M => R none M) x1 a2 x3 M) : f_E sh t YX1_showLot rm cs (f_Q sh t R) 104 [.inr (.inr (.inl (1, 7, 4452))), .inl x1, .inr (.inr (.inl (4, 9, a2))), .inl x3] [] M :=
  f_go (KC := f_kc [(148, f_pl [(4462, 1, 7), (1, 0, 0), (3, 4, 9), (1, 0, 0)] [] (fun ls st M => k148 (f_vi (f_nth ls 1)) (f_va (f_nth ls 2)) (f_vi (f_nth ls 3)) M)), (104, f_pl [(4462, 1, 7), (1, 0, 0), (3, 4, 9), (1, 0, 0)] [] (fun ls st M => k104 (f_vi (f_nth ls 1)) (f_va (f_nth ls 2)) (f_vi (f_nth ls 3)) M))]) C qX1_showLotf (f_kc_cons (f_pl_ok rfl (fun ls st M h => h148 _ _ _ M h)) (f_kc_cons (f_pl_ok rfl (fun ls st M h => h104 _ _ _ M h)) f_kc_nil)) 121 56 h
set_option maxRecDepth 20000 in
theorem BX1_showLot_148 {sh : Nat → Nat × Nat} {t : Nat} {rm : Nat × Nat × Nat} {cs : Nat × Nat} {R : f_Rt} {c_X10_lot : Nat → Int → e_M → (Nat → Prop) → Prop} {c_X3_area : Nat → e_M → (Int → Prop) → Prop} {c_X1_thenNumber : Int → e_M → (e_M → Prop) → Prop} {c_X1_endLine : e_M → (e_M → Prop) → Prop} {c_X1_putText : Nat → Nat → e_M → (e_M → Prop) → Prop} {c_X1_putNumber : Int → e_M → (e_M → Prop) → Prop} {c_X1_put : Int → e_M → (e_M → Prop) → Prop} {c_X10_nameOf : Nat → Int → Int → e_M → (Int → Prop) → Prop} {c_X1_putWord : Int → e_M → (e_M → Prop) → Prop} {c_X1_thenShare : Nat → Int → e_M → (e_M → Prop) → Prop} {c_X8_get : Nat → Int → e_M → (Int → Prop) → Prop} {c_X10_at : Nat → Int → Int → e_M → (Nat → Prop) → Prop} {c_X1_putCharge : Nat → e_M → (e_M → Prop) → Prop} {c_X1_putServes : Int → Int → e_M → (e_M → Prop) → Prop} {c_X1_putTerms : Int → Int → e_M → (e_M → Prop) → Prop} {k199 : Int → Int → e_M → Prop} {k148 : Int → Nat → Int → e_M → Prop} {x1 : Int} {a2 : Nat} {x3 : Int} {M : e_M} (C : f_Hy sh t yX1_showLot rm cs 8 (lX1_showLot c_X10_lot c_X3_area c_X1_thenNumber c_X1_endLine c_X1_putText c_X1_putNumber c_X1_put c_X10_nameOf c_X1_putWord c_X1_thenShare c_X8_get c_X10_at c_X1_putCharge c_X1_putServes c_X1_putTerms) R) (h199 : ∀ (x1 : Int) (x3 : Int) (M : e_M), k199 x1 x3 M → f_E sh t YX1_showLot rm cs (f_Q sh t R) 199 [.inr (.inr (.inl (1, 7, 4452))), .inl x1, .inr (.inr (.inr ())), .inl x3] [] M) (h148 : ∀ (x1 : Int) (a2 : Nat) (x3 : Int) (M : e_M), k148 x1 a2 x3 M → f_E sh t YX1_showLot rm cs (f_Q sh t R) 148 [.inr (.inr (.inl (1, 7, 4452))), .inl x1, .inr (.inr (.inl (4, 9, a2))), .inl x3] [] M) (h : VX1_showLot_148 c_X10_lot c_X3_area c_X1_thenNumber c_X1_endLine c_X1_putText c_X1_putNumber c_X1_put c_X10_nameOf c_X1_putWord c_X1_thenShare c_X8_get c_X10_at c_X1_putCharge c_X1_putServes c_X1_putTerms k199 k148 (fun M => R none M) x1 a2 x3 M) : f_E sh t YX1_showLot rm cs (f_Q sh t R) 148 [.inr (.inr (.inl (1, 7, 4452))), .inl x1, .inr (.inr (.inl (4, 9, a2))), .inl x3] [] M :=
  f_go (KC := f_kc [(199, f_pl [(4462, 1, 7), (1, 0, 0), (0, 0, 0), (1, 0, 0)] [] (fun ls st M => k199 (f_vi (f_nth ls 1)) (f_vi (f_nth ls 3)) M)), (148, f_pl [(4462, 1, 7), (1, 0, 0), (3, 4, 9), (1, 0, 0)] [] (fun ls st M => k148 (f_vi (f_nth ls 1)) (f_va (f_nth ls 2)) (f_vi (f_nth ls 3)) M))]) C qX1_showLotf (f_kc_cons (f_pl_ok rfl (fun ls st M h => h199 _ _ M h)) (f_kc_cons (f_pl_ok rfl (fun ls st M h => h148 _ _ _ M h)) f_kc_nil)) 121 81 h
set_option maxRecDepth 20000 in
theorem BX1_showLot_199 {sh : Nat → Nat × Nat} {t : Nat} {rm : Nat × Nat × Nat} {cs : Nat × Nat} {R : f_Rt} {c_X10_lot : Nat → Int → e_M → (Nat → Prop) → Prop} {c_X3_area : Nat → e_M → (Int → Prop) → Prop} {c_X1_thenNumber : Int → e_M → (e_M → Prop) → Prop} {c_X1_endLine : e_M → (e_M → Prop) → Prop} {c_X1_putText : Nat → Nat → e_M → (e_M → Prop) → Prop} {c_X1_putNumber : Int → e_M → (e_M → Prop) → Prop} {c_X1_put : Int → e_M → (e_M → Prop) → Prop} {c_X10_nameOf : Nat → Int → Int → e_M → (Int → Prop) → Prop} {c_X1_putWord : Int → e_M → (e_M → Prop) → Prop} {c_X1_thenShare : Nat → Int → e_M → (e_M → Prop) → Prop} {c_X8_get : Nat → Int → e_M → (Int → Prop) → Prop} {c_X10_at : Nat → Int → Int → e_M → (Nat → Prop) → Prop} {c_X1_putCharge : Nat → e_M → (e_M → Prop) → Prop} {c_X1_putServes : Int → Int → e_M → (e_M → Prop) → Prop} {c_X1_putTerms : Int → Int → e_M → (e_M → Prop) → Prop} {k199 : Int → Int → e_M → Prop} {x1 : Int} {x3 : Int} {M : e_M} (C : f_Hy sh t yX1_showLot rm cs 8 (lX1_showLot c_X10_lot c_X3_area c_X1_thenNumber c_X1_endLine c_X1_putText c_X1_putNumber c_X1_put c_X10_nameOf c_X1_putWord c_X1_thenShare c_X8_get c_X10_at c_X1_putCharge c_X1_putServes c_X1_putTerms) R) (h199 : ∀ (x1 : Int) (x3 : Int) (M : e_M), k199 x1 x3 M → f_E sh t YX1_showLot rm cs (f_Q sh t R) 199 [.inr (.inr (.inl (1, 7, 4452))), .inl x1, .inr (.inr (.inr ())), .inl x3] [] M) (h : VX1_showLot_199 c_X10_lot c_X3_area c_X1_thenNumber c_X1_endLine c_X1_putText c_X1_putNumber c_X1_put c_X10_nameOf c_X1_putWord c_X1_thenShare c_X8_get c_X10_at c_X1_putCharge c_X1_putServes c_X1_putTerms k199 (fun M => R none M) x1 x3 M) : f_E sh t YX1_showLot rm cs (f_Q sh t R) 199 [.inr (.inr (.inl (1, 7, 4452))), .inl x1, .inr (.inr (.inr ())), .inl x3] [] M :=
  f_go (KC := f_kc [(199, f_pl [(4462, 1, 7), (1, 0, 0), (0, 0, 0), (1, 0, 0)] [] (fun ls st M => k199 (f_vi (f_nth ls 1)) (f_vi (f_nth ls 3)) M))]) C qX1_showLotf (f_kc_cons (f_pl_ok rfl (fun ls st M h => h199 _ _ M h)) f_kc_nil) 121 109 h
set_option maxRecDepth 20000 in
theorem BX1_showLot {sh : Nat → Nat × Nat} {t : Nat} {rm : Nat × Nat × Nat} {cs : Nat × Nat} {R : f_Rt} {c_X10_lot : Nat → Int → e_M → (Nat → Prop) → Prop} {c_X3_area : Nat → e_M → (Int → Prop) → Prop} {c_X1_thenNumber : Int → e_M → (e_M → Prop) → Prop} {c_X1_endLine : e_M → (e_M → Prop) → Prop} {c_X1_putText : Nat → Nat → e_M → (e_M → Prop) → Prop} {c_X1_putNumber : Int → e_M → (e_M → Prop) → Prop} {c_X1_put : Int → e_M → (e_M → Prop) → Prop} {c_X10_nameOf : Nat → Int → Int → e_M → (Int → Prop) → Prop} {c_X1_putWord : Int → e_M → (e_M → Prop) → Prop} {c_X1_thenShare : Nat → Int → e_M → (e_M → Prop) → Prop} {c_X8_get : Nat → Int → e_M → (Int → Prop) → Prop} {c_X10_at : Nat → Int → Int → e_M → (Nat → Prop) → Prop} {c_X1_putCharge : Nat → e_M → (e_M → Prop) → Prop} {c_X1_putServes : Int → Int → e_M → (e_M → Prop) → Prop} {c_X1_putTerms : Int → Int → e_M → (e_M → Prop) → Prop} {k34 : Int → Nat → Int → e_M → Prop} {x1 : Int} {M : e_M} (C : f_Hy sh t yX1_showLot rm cs 8 (lX1_showLot c_X10_lot c_X3_area c_X1_thenNumber c_X1_endLine c_X1_putText c_X1_putNumber c_X1_put c_X10_nameOf c_X1_putWord c_X1_thenShare c_X8_get c_X10_at c_X1_putCharge c_X1_putServes c_X1_putTerms) R) (h34 : ∀ (x1 : Int) (a2 : Nat) (x3 : Int) (M : e_M), k34 x1 a2 x3 M → f_E sh t YX1_showLot rm cs (f_Q sh t R) 34 [.inr (.inr (.inl (1, 7, 4452))), .inl x1, .inr (.inr (.inl (4, 9, a2))), .inl x3] [] M) (h : VX1_showLot c_X10_lot c_X3_area c_X1_thenNumber c_X1_endLine c_X1_putText c_X1_putNumber c_X1_put c_X10_nameOf c_X1_putWord c_X1_thenShare c_X8_get c_X10_at c_X1_putCharge c_X1_putServes c_X1_putTerms k34 (fun M => R none M) x1 M) : f_E sh t YX1_showLot rm cs (f_Q sh t R) 0 [.inr (.inr (.inl (1, 7, 4452))), .inl x1, .inr (.inr (.inr ())), .inr (.inr (.inr ()))] [] M :=
  f_go (KC := f_kc [(34, f_pl [(4462, 1, 7), (1, 0, 0), (3, 4, 9), (1, 0, 0)] [] (fun ls st M => k34 (f_vi (f_nth ls 1)) (f_va (f_nth ls 2)) (f_vi (f_nth ls 3)) M))]) C qX1_showLotf (f_kc_cons (f_pl_ok rfl (fun ls st M h => h34 _ _ _ M h)) f_kc_nil) 121 0 h
def WX1_showLot_199 (Q : e_M → Prop) : Nat → Int → Int → e_M → Prop
  | 0, _, _, _ => False
  | n + 1, x1, x3, M =>
    VX1_showLot_199 WX10_lot WX3_area WX1_thenNumber WX1_endLine WX1_putText WX1_putNumber WX1_put WX10_nameOf WX1_putWord WX1_thenShare WX8_get WX10_at WX1_putCharge WX1_putServes WX1_putTerms (WX1_showLot_199 Q n) Q x1 x3 M
def WX1_showLot_148 (Q : e_M → Prop) : Nat → Int → Nat → Int → e_M → Prop
  | 0, _, _, _, _ => False
  | n + 1, x1, a2, x3, M =>
    VX1_showLot_148 WX10_lot WX3_area WX1_thenNumber WX1_endLine WX1_putText WX1_putNumber WX1_put WX10_nameOf WX1_putWord WX1_thenShare WX8_get WX10_at WX1_putCharge WX1_putServes WX1_putTerms (fun x1 x3 M => ∃ j, WX1_showLot_199 Q j x1 x3 M) (WX1_showLot_148 Q n) Q x1 a2 x3 M
def WX1_showLot_104 (Q : e_M → Prop) : Nat → Int → Nat → Int → e_M → Prop
  | 0, _, _, _, _ => False
  | n + 1, x1, a2, x3, M =>
    VX1_showLot_104 WX10_lot WX3_area WX1_thenNumber WX1_endLine WX1_putText WX1_putNumber WX1_put WX10_nameOf WX1_putWord WX1_thenShare WX8_get WX10_at WX1_putCharge WX1_putServes WX1_putTerms (fun x1 a2 x3 M => ∃ j, WX1_showLot_148 Q j x1 a2 x3 M) (WX1_showLot_104 Q n) Q x1 a2 x3 M
def WX1_showLot_34 (Q : e_M → Prop) : Nat → Int → Nat → Int → e_M → Prop
  | 0, _, _, _, _ => False
  | n + 1, x1, a2, x3, M =>
    VX1_showLot_34 WX10_lot WX3_area WX1_thenNumber WX1_endLine WX1_putText WX1_putNumber WX1_put WX10_nameOf WX1_putWord WX1_thenShare WX8_get WX10_at WX1_putCharge WX1_putServes WX1_putTerms (fun x1 a2 x3 M => ∃ j, WX1_showLot_104 Q j x1 a2 x3 M) (WX1_showLot_34 Q n) Q x1 a2 x3 M
def WX1_showLot (x1 : Int) (M : e_M) (Q : e_M → Prop) : Prop :=
  VX1_showLot WX10_lot WX3_area WX1_thenNumber WX1_endLine WX1_putText WX1_putNumber WX1_put WX10_nameOf WX1_putWord WX1_thenShare WX8_get WX10_at WX1_putCharge WX1_putServes WX1_putTerms (fun x1 a2 x3 M => ∃ j, WX1_showLot_34 Q j x1 a2 x3 M) Q x1 M
theorem PX1_showLot_199 {sh : Nat → Nat × Nat} {t : Nat} {rm : Nat × Nat × Nat} {cs : Nat × Nat} {R : f_Rt} (C : f_Hy sh t yX1_showLot rm cs 8 (lX1_showLot WX10_lot WX3_area WX1_thenNumber WX1_endLine WX1_putText WX1_putNumber WX1_put WX10_nameOf WX1_putWord WX1_thenShare WX8_get WX10_at WX1_putCharge WX1_putServes WX1_putTerms) R) : ∀ (n : Nat) (x1 : Int) (x3 : Int) (M : e_M), WX1_showLot_199 (fun M => R none M) n x1 x3 M → f_E sh t YX1_showLot rm cs (f_Q sh t R) 199 [.inr (.inr (.inl (1, 7, 4452))), .inl x1, .inr (.inr (.inr ())), .inl x3] [] M := by
  intro n
  induction n with
  | zero => intro x1 x3 M h; exact h.elim
  | succ n ih => intro x1 x3 M h; exact BX1_showLot_199 C ih h
theorem PX1_showLot_148 {sh : Nat → Nat × Nat} {t : Nat} {rm : Nat × Nat × Nat} {cs : Nat × Nat} {R : f_Rt} (C : f_Hy sh t yX1_showLot rm cs 8 (lX1_showLot WX10_lot WX3_area WX1_thenNumber WX1_endLine WX1_putText WX1_putNumber WX1_put WX10_nameOf WX1_putWord WX1_thenShare WX8_get WX10_at WX1_putCharge WX1_putServes WX1_putTerms) R) : ∀ (n : Nat) (x1 : Int) (a2 : Nat) (x3 : Int) (M : e_M), WX1_showLot_148 (fun M => R none M) n x1 a2 x3 M → f_E sh t YX1_showLot rm cs (f_Q sh t R) 148 [.inr (.inr (.inl (1, 7, 4452))), .inl x1, .inr (.inr (.inl (4, 9, a2))), .inl x3] [] M := by
  intro n
  induction n with
  | zero => intro x1 a2 x3 M h; exact h.elim
  | succ n ih => intro x1 a2 x3 M h; exact BX1_showLot_148 C (fun x1 x3 M ⟨j, h⟩ => PX1_showLot_199 C j _ _ _ h) ih h
theorem PX1_showLot_104 {sh : Nat → Nat × Nat} {t : Nat} {rm : Nat × Nat × Nat} {cs : Nat × Nat} {R : f_Rt} (C : f_Hy sh t yX1_showLot rm cs 8 (lX1_showLot WX10_lot WX3_area WX1_thenNumber WX1_endLine WX1_putText WX1_putNumber WX1_put WX10_nameOf WX1_putWord WX1_thenShare WX8_get WX10_at WX1_putCharge WX1_putServes WX1_putTerms) R) : ∀ (n : Nat) (x1 : Int) (a2 : Nat) (x3 : Int) (M : e_M), WX1_showLot_104 (fun M => R none M) n x1 a2 x3 M → f_E sh t YX1_showLot rm cs (f_Q sh t R) 104 [.inr (.inr (.inl (1, 7, 4452))), .inl x1, .inr (.inr (.inl (4, 9, a2))), .inl x3] [] M := by
  intro n
  induction n with
  | zero => intro x1 a2 x3 M h; exact h.elim
  | succ n ih => intro x1 a2 x3 M h; exact BX1_showLot_104 C (fun x1 a2 x3 M ⟨j, h⟩ => PX1_showLot_148 C j _ _ _ _ h) ih h
theorem PX1_showLot_34 {sh : Nat → Nat × Nat} {t : Nat} {rm : Nat × Nat × Nat} {cs : Nat × Nat} {R : f_Rt} (C : f_Hy sh t yX1_showLot rm cs 8 (lX1_showLot WX10_lot WX3_area WX1_thenNumber WX1_endLine WX1_putText WX1_putNumber WX1_put WX10_nameOf WX1_putWord WX1_thenShare WX8_get WX10_at WX1_putCharge WX1_putServes WX1_putTerms) R) : ∀ (n : Nat) (x1 : Int) (a2 : Nat) (x3 : Int) (M : e_M), WX1_showLot_34 (fun M => R none M) n x1 a2 x3 M → f_E sh t YX1_showLot rm cs (f_Q sh t R) 34 [.inr (.inr (.inl (1, 7, 4452))), .inl x1, .inr (.inr (.inl (4, 9, a2))), .inl x3] [] M := by
  intro n
  induction n with
  | zero => intro x1 a2 x3 M h; exact h.elim
  | succ n ih => intro x1 a2 x3 M h; exact BX1_showLot_34 C (fun x1 a2 x3 M ⟨j, h⟩ => PX1_showLot_104 C j _ _ _ _ h) ih h
theorem PX1_showLot {sh : Nat → Nat × Nat} {t : Nat} {rm : Nat × Nat × Nat} {cs : Nat × Nat} {R : f_Rt} {x1 : Int} {M : e_M} (C : f_Hy sh t yX1_showLot rm cs 8 (lX1_showLot WX10_lot WX3_area WX1_thenNumber WX1_endLine WX1_putText WX1_putNumber WX1_put WX10_nameOf WX1_putWord WX1_thenShare WX8_get WX10_at WX1_putCharge WX1_putServes WX1_putTerms) R) (h : WX1_showLot x1 M (fun M => R none M)) : f_E sh t YX1_showLot rm cs (f_Q sh t R) 0 [.inr (.inr (.inl (1, 7, 4452))), .inl x1, .inr (.inr (.inr ())), .inr (.inr (.inr ()))] [] M :=
  BX1_showLot C (fun x1 a2 x3 M ⟨j, h⟩ => PX1_showLot_34 C j _ _ _ _ h) h
def wX1_showLot : f_Wt := f_wm [(4462, 1, 7), (1, 0, 0)] (fun ar M R => WX1_showLot (f_vi (f_nth ar 1)) M (fun M => R none M))
theorem TX1_showLot {sh : Nat → Nat × Nat} {t : Nat} : f_Mt sh t YX1_showLot 8 (wX1_showLot) :=
  f_Mt_of (k := 2) (Nat.le_of_ble_eq_true rfl) rfl rfl (fun ar M R rm cs h1 h2 h3 hX h => PX1_showLot ⟨Nat.le_of_ble_eq_true rfl, h1, h2, h3, ⟨(f_Mt.up (Nat.le_of_ble_eq_true rfl) TX10_lot), (f_Mt.up (Nat.le_of_ble_eq_true rfl) TX3_area), (f_Mt.up (Nat.le_of_ble_eq_true rfl) TX1_thenNumber), (f_Mt.up (Nat.le_of_ble_eq_true rfl) TX1_endLine), (f_Mt.up (Nat.le_of_ble_eq_true rfl) TX1_putText), (f_Mt.up (Nat.le_of_ble_eq_true rfl) TX1_putNumber), (f_Mt.up (Nat.le_of_ble_eq_true rfl) TX1_put), (f_Mt.up (Nat.le_of_ble_eq_true rfl) TX10_nameOf), (f_Mt.up (Nat.le_of_ble_eq_true rfl) TX1_putWord), (f_Mt.up (Nat.le_of_ble_eq_true rfl) TX1_thenShare), (f_Mt.up (Nat.le_of_ble_eq_true rfl) TX8_get), (f_Mt.up (Nat.le_of_ble_eq_true rfl) TX10_at), (f_Mt.up (Nat.le_of_ble_eq_true rfl) TX1_putCharge), (f_Mt.up (Nat.le_of_ble_eq_true rfl) TX1_putServes), (f_Mt.up (Nat.le_of_ble_eq_true rfl) TX1_putTerms), trivial⟩, hX⟩ h)
def VX1_showPerson_48 (c_X10_at : Nat → Int → Int → e_M → (Nat → Prop) → Prop) (c_X1_thenDate : Int → e_M → (e_M → Prop) → Prop) (c_X10_nameOf : Nat → Int → Int → e_M → (Int → Prop) → Prop) (c_X1_thenWord : Int → e_M → (e_M → Prop) → Prop) (c_X1_endLine : e_M → (e_M → Prop) → Prop) (c_X10_lot : Nat → Int → e_M → (Nat → Prop) → Prop) (c_X4_placeOf : Nat → Int → e_M → (Int → Prop) → Prop) (c_X1_putWord : Int → e_M → (e_M → Prop) → Prop) (c_X1_thenShare : Nat → Int → e_M → (e_M → Prop) → Prop) (c_X9_isThere : Nat → Int → e_M → (Int → Prop) → Prop) (c_X1_putCharge : Nat → e_M → (e_M → Prop) → Prop) (k54 : Int → Int → e_M → Prop) (Q : e_M → Prop) (x1 : Int) (M : e_M) : Prop :=
  (c_X1_endLine M (fun M1 => (k54 x1 0 M1)))
def VX1_showPerson_54 (c_X10_at : Nat → Int → Int → e_M → (Nat → Prop) → Prop) (c_X1_thenDate : Int → e_M → (e_M → Prop) → Prop) (c_X10_nameOf : Nat → Int → Int → e_M → (Int → Prop) → Prop) (c_X1_thenWord : Int → e_M → (e_M → Prop) → Prop) (c_X1_endLine : e_M → (e_M → Prop) → Prop) (c_X10_lot : Nat → Int → e_M → (Nat → Prop) → Prop) (c_X4_placeOf : Nat → Int → e_M → (Int → Prop) → Prop) (c_X1_putWord : Int → e_M → (e_M → Prop) → Prop) (c_X1_thenShare : Nat → Int → e_M → (e_M → Prop) → Prop) (c_X9_isThere : Nat → Int → e_M → (Int → Prop) → Prop) (c_X1_putCharge : Nat → e_M → (e_M → Prop) → Prop) (k127 : Int → Int → e_M → Prop) (k119 : Int → Int → e_M → Prop) (Q : e_M → Prop) (x1 : Int) (x3 : Int) (M : e_M) : Prop :=
  ((0 ≤ (0 : Int) ∧ (0 : Int) < 8) ∧ (((M ((M 4452 3).toNat + 24) ((0 : Int).toNat)) ≤ x3 → (k127 x1 0 M)) ∧ (x3 < (M ((M 4452 3).toNat + 24) ((0 : Int).toNat)) → (c_X10_lot ((M 4452 3).toNat) x3 M (fun r1 => (c_X4_placeOf r1 x1 M (fun r2 => ((¬ (M r1 1) = 0 → (k119 x1 x3 M)) ∧ ((M r1 1) = 0 → ((r2 < 0 → (k119 x1 x3 M)) ∧ (0 ≤ r2 → (c_X1_putWord (M r1 0) M (fun M3 => (c_X1_thenShare r1 r2 M3 (fun M4 => (c_X1_endLine M4 (fun M5 => (k119 x1 x3 M5))))))))))))))))))
def VX1_showPerson_119 (c_X10_at : Nat → Int → Int → e_M → (Nat → Prop) → Prop) (c_X1_thenDate : Int → e_M → (e_M → Prop) → Prop) (c_X10_nameOf : Nat → Int → Int → e_M → (Int → Prop) → Prop) (c_X1_thenWord : Int → e_M → (e_M → Prop) → Prop) (c_X1_endLine : e_M → (e_M → Prop) → Prop) (c_X10_lot : Nat → Int → e_M → (Nat → Prop) → Prop) (c_X4_placeOf : Nat → Int → e_M → (Int → Prop) → Prop) (c_X1_putWord : Int → e_M → (e_M → Prop) → Prop) (c_X1_thenShare : Nat → Int → e_M → (e_M → Prop) → Prop) (c_X9_isThere : Nat → Int → e_M → (Int → Prop) → Prop) (c_X1_putCharge : Nat → e_M → (e_M → Prop) → Prop) (k54 : Int → Int → e_M → Prop) (Q : e_M → Prop) (x1 : Int) (x3 : Int) (M : e_M) : Prop :=
  (k54 x1 (e_w32 (x3 + 1)) M)
def VX1_showPerson_127 (c_X10_at : Nat → Int → Int → e_M → (Nat → Prop) → Prop) (c_X1_thenDate : Int → e_M → (e_M → Prop) → Prop) (c_X10_nameOf : Nat → Int → Int → e_M → (Int → Prop) → Prop) (c_X1_thenWord : Int → e_M → (e_M → Prop) → Prop) (c_X1_endLine : e_M → (e_M → Prop) → Prop) (c_X10_lot : Nat → Int → e_M → (Nat → Prop) → Prop) (c_X4_placeOf : Nat → Int → e_M → (Int → Prop) → Prop) (c_X1_putWord : Int → e_M → (e_M → Prop) → Prop) (c_X1_thenShare : Nat → Int → e_M → (e_M → Prop) → Prop) (c_X9_isThere : Nat → Int → e_M → (Int → Prop) → Prop) (c_X1_putCharge : Nat → e_M → (e_M → Prop) → Prop) (k181 : Int → Int → e_M → Prop) (Q : e_M → Prop) (x1 : Int) (x3 : Int) (M : e_M) : Prop :=
  ((0 ≤ (2 : Int) ∧ (2 : Int) < 8) ∧ (((M ((M 4452 3).toNat + 24) ((2 : Int).toNat)) ≤ x3 → (Q M)) ∧ (x3 < (M ((M 4452 3).toNat + 24) ((2 : Int).toNat)) → (c_X10_at ((M 4452 3).toNat) 2 x3 M (fun r1 => (c_X9_isThere r1 (M ((M 4452 3).toNat) 11) M (fun r2 => ((r2 = 0 → (k181 x1 x3 M)) ∧ (¬ r2 = 0 → ((¬ (M r1 5) = x1 → (k181 x1 x3 M)) ∧ ((M r1 5) = x1 → (c_X1_putCharge r1 M (fun M3 => (k181 x1 x3 M3))))))))))))))
def VX1_showPerson_181 (c_X10_at : Nat → Int → Int → e_M → (Nat → Prop) → Prop) (c_X1_thenDate : Int → e_M → (e_M → Prop) → Prop) (c_X10_nameOf : Nat → Int → Int → e_M → (Int → Prop) → Prop) (c_X1_thenWord : Int → e_M → (e_M → Prop) → Prop) (c_X1_endLine : e_M → (e_M → Prop) → Prop) (c_X10_lot : Nat → Int → e_M → (Nat → Prop) → Prop) (c_X4_placeOf : Nat → Int → e_M → (Int → Prop) → Prop) (c_X1_putWord : Int → e_M → (e_M → Prop) → Prop) (c_X1_thenShare : Nat → Int → e_M → (e_M → Prop) → Prop) (c_X9_isThere : Nat → Int → e_M → (Int → Prop) → Prop) (c_X1_putCharge : Nat → e_M → (e_M → Prop) → Prop) (k127 : Int → Int → e_M → Prop) (Q : e_M → Prop) (x1 : Int) (x3 : Int) (M : e_M) : Prop :=
  (k127 x1 (e_w32 (x3 + 1)) M)
def VX1_showPerson (c_X10_at : Nat → Int → Int → e_M → (Nat → Prop) → Prop) (c_X1_thenDate : Int → e_M → (e_M → Prop) → Prop) (c_X10_nameOf : Nat → Int → Int → e_M → (Int → Prop) → Prop) (c_X1_thenWord : Int → e_M → (e_M → Prop) → Prop) (c_X1_endLine : e_M → (e_M → Prop) → Prop) (c_X10_lot : Nat → Int → e_M → (Nat → Prop) → Prop) (c_X4_placeOf : Nat → Int → e_M → (Int → Prop) → Prop) (c_X1_putWord : Int → e_M → (e_M → Prop) → Prop) (c_X1_thenShare : Nat → Int → e_M → (e_M → Prop) → Prop) (c_X9_isThere : Nat → Int → e_M → (Int → Prop) → Prop) (c_X1_putCharge : Nat → e_M → (e_M → Prop) → Prop) (k48 : Int → e_M → Prop) (Q : e_M → Prop) (x1 : Int) (M : e_M) : Prop :=
  (c_X10_at ((M 4452 3).toNat) 1 x1 M (fun r1 => ((¬ (M r1 7) = 0 → ((x1 = 0 → (k48 x1 M)) ∧ (¬ x1 = 0 → (c_X10_nameOf ((M 4452 3).toNat) 1 (M r1 5) M (fun r2 => (c_X1_thenWord r2 M (fun M3 => (k48 x1 M3)))))))) ∧ ((M r1 7) = 0 → (c_X1_thenDate (M r1 4) M (fun M4 => (k48 x1 M4)))))))
def yX1_showPerson (i : Nat) : e_Y := x_get YX1_showPerson [YX10_at, YX1_thenDate, YX10_nameOf, YX1_thenWord, YX1_endLine, YX10_lot, YX4_placeOf, YX1_putWord, YX1_thenShare, YX9_isThere, YX1_putCharge] i
def pX1_showPersonf : List x_I := [(0, 4, 1, 0, 0, 0, []), (1, 25, 1, 3, 4, 0, [(0, 10, 15), (0, 0, 0)]), (4, 0, 1, 0, 0, 1, []), (5, 2, 1, 1, 0, 0, []), (6, 40, 0, 3, 12, 0, []), (9, 7, 1, 2, 0, 0, []), (10, 4, 1, 2, 0, 0, []), (11, 25, 9, 7, 0, 0, []), (14, 17, 28, 1, 15, 0, []), (17, 4, 1, 0, 0, 0, []), (18, 4, 1, 2, 0, 0, []), (19, 25, 9, 4, 0, 0, []), (22, 40, 1, 2, 3, 0, []), (25, 19, 48, 0, 25, 0, []), (28, 2, 1, 1, 0, 0, []), (29, 17, 48, 0, 25, 0, []), (32, 4, 1, 0, 0, 0, []), (33, 4, 1, 0, 0, 0, []), (34, 25, 1, 3, 4, 0, [(0, 10, 15), (0, 0, 0)]), (37, 0, 1, 0, 0, 1, []), (38, 4, 1, 2, 0, 0, []), (39, 25, 9, 5, 0, 0, []), (42, 40, 2, 3, 12, 0, []), (45, 40, 3, 2, 3, 0, []), (48, 49, 0, 0, 0, 0, []), (48, 4, 1, 0, 0, 0, []), (49, 40, 4, 1, 3, 0, []), (52, 0, 1, 0, 0, 0, []), (53, 5, 1, 3, 0, 0, []), (54, 49, 0, 0, 0, 0, []), (54, 2, 1, 3, 0, 0, []), (55, 4, 1, 0, 0, 0, []), (56, 25, 1, 3, 4, 0, [(0, 10, 15), (0, 0, 0)]), (59, 25, 10, 4, 4, 0, [(0, 20, 8), (0, 1, 24)]), (62, 0, 1, 0, 0, 0, []), (63, 27, 0, 0, 0, 0, []), (64, 18, 125, 3, 65, 0, []), (67, 4, 1, 0, 0, 0, []), (68, 25, 1, 3, 4, 0, [(0, 10, 15), (0, 0, 0)]), (71, 2, 1, 3, 0, 0, []), (72, 40, 5, 2, 12, 0, []), (75, 7, 2, 4, 0, 0, []), (77, 4, 2, 4, 0, 0, []), (79, 2, 1, 1, 0, 0, []), (80, 40, 6, 2, 6, 0, []), (83, 5, 2, 5, 0, 0, []), (85, 4, 2, 4, 0, 0, []), (87, 25, 4, 1, 1, 0, []), (90, 17, 119, 1, 62, 0, []), (93, 2, 2, 5, 0, 0, []), (95, 17, 119, 2, 62, 0, []), (98, 4, 1, 0, 0, 0, []), (99, 4, 2, 4, 0, 0, []), (101, 25, 4, 0, 3, 0, []), (104, 40, 7, 2, 3, 0, []), (107, 4, 1, 0, 0, 0, []), (108, 4, 2, 4, 0, 0, []), (110, 2, 2, 5, 0, 0, []), (112, 40, 8, 3, 3, 0, []), (115, 4, 1, 0, 0, 0, []), (116, 40, 4, 1, 3, 0, []), (119, 49, 0, 0, 0, 0, []), (119, 8, 0, 3, 0, 1, []), (122, 19, 54, 0, 30, 0, []), (125, 0, 1, 0, 0, 0, []), (126, 5, 1, 3, 0, 0, []), (127, 49, 0, 0, 0, 0, []), (127, 2, 1, 3, 0, 0, []), (128, 4, 1, 0, 0, 0, []), (129, 25, 1, 3, 4, 0, [(0, 10, 15), (0, 0, 0)]), (132, 25, 10, 4, 4, 0, [(0, 20, 8), (0, 1, 24)]), (135, 0, 1, 0, 0, 2, []), (136, 27, 0, 0, 0, 0, []), (137, 18, 187, 3, 97, 0, []), (140, 4, 1, 0, 0, 0, []), (141, 25, 1, 3, 4, 0, [(0, 10, 15), (0, 0, 0)]), (144, 0, 1, 0, 0, 2, []), (145, 2, 1, 3, 0, 0, []), (146, 40, 0, 3, 12, 0, []), (149, 7, 2, 4, 0, 0, []), (151, 4, 2, 4, 0, 0, []), (153, 4, 1, 0, 0, 0, []), (154, 25, 1, 3, 4, 0, [(0, 10, 15), (0, 0, 0)]), (157, 25, 10, 11, 0, 0, []), (160, 40, 9, 2, 11, 0, []), (163, 17, 181, 0, 94, 0, []), (166, 4, 2, 4, 0, 0, []), (168, 25, 9, 5, 0, 0, []), (171, 2, 1, 1, 0, 0, []), (172, 18, 181, 1, 94, 0, []), (175, 4, 1, 0, 0, 0, []), (176, 4, 2, 4, 0, 0, []), (178, 40, 10, 2, 3, 0, []), (181, 49, 0, 0, 0, 0, []), (181, 8, 0, 3, 0, 1, []), (184, 19, 127, 0, 67, 0, []), (187, 44, 0, 0, 0, 0, [])]
set_option maxRecDepth 20000 in
theorem qX1_showPersonf : f_all yX1_showPerson YX1_showPerson pX1_showPersonf :=
  ⟨f_aload_n (n := 0) (e_dx DX1_showPerson_0 0 rfl) rfl,
  f_getA (e_dx DX1_showPerson_0 1 rfl) fX1_31 rfl (by decide) (Nat.le_of_ble_eq_true rfl) rfl (by decide),
  f_iconst (e_dx DX1_showPerson_0 2 rfl) ⟨by decide, by decide⟩,
  f_iload_n (n := 1) (e_dx DX1_showPerson_0 3 rfl) rfl,
  x_callV (e_dx DX1_showPerson_0 4 rfl) mwX10_at vwX10_at cX1_173 rfl,
  f_astore_n (n := 2) (e_dx DX1_showPerson_0 5 rfl) rfl (by decide),
  f_aload_n (n := 2) (e_dx DX1_showPerson_0 6 rfl) rfl,
  f_getf (e_dx DX1_showPerson_0 7 rfl) fX1_239 rfl (by decide) (by decide) (by decide),
  f_if_ne (e_dx DX1_showPerson_0 8 rfl) rfl,
  f_aload_n (n := 0) (e_dx DX1_showPerson_0 9 rfl) rfl,
  f_aload_n (n := 2) (e_dx DX1_showPerson_0 10 rfl) rfl,
  f_getf (e_dx DX1_showPerson_0 11 rfl) fX1_242 rfl (by decide) (by decide) (by decide),
  x_callV (e_dx DX1_showPerson_0 12 rfl) mwX1_thenDate vwX1_thenDate cX1_354 rfl,
  f_g19 (e_dx DX1_showPerson_0 13 rfl) rfl,
  f_iload_n (n := 1) (e_dx DX1_showPerson_0 14 rfl) rfl,
  f_if_eq (e_dx DX1_showPerson_0 15 rfl) rfl,
  f_aload_n (n := 0) (e_dx DX1_showPerson_0 16 rfl) rfl,
  f_aload_n (n := 0) (e_dx DX1_showPerson_0 17 rfl) rfl,
  f_getA (e_dx DX1_showPerson_0 18 rfl) fX1_31 rfl (by decide) (Nat.le_of_ble_eq_true rfl) rfl (by decide),
  f_iconst (e_dx DX1_showPerson_0 19 rfl) ⟨by decide, by decide⟩,
  f_aload_n (n := 2) (e_dx DX1_showPerson_0 20 rfl) rfl,
  f_getf (e_dx DX1_showPerson_0 21 rfl) fX1_177 rfl (by decide) (by decide) (by decide),
  x_callV (e_dx DX1_showPerson_0 22 rfl) mwX10_nameOf vwX10_nameOf cX1_120 rfl,
  x_callV (e_dx DX1_showPerson_0 23 rfl) mwX1_thenWord vwX1_thenWord cX1_277 rfl,
  trivial,
  f_aload_n (n := 0) (e_dx DX1_showPerson_0 24 rfl) rfl,
  x_callV (e_dx DX1_showPerson_0 25 rfl) mwX1_endLine vwX1_endLine cX1_282 rfl,
  f_iconst (e_dx DX1_showPerson_0 26 rfl) ⟨by decide, by decide⟩,
  f_istore_n (n := 3) (e_dx DX1_showPerson_0 27 rfl) rfl (by decide),
  trivial,
  f_iload_n (n := 3) (e_dx DX1_showPerson_0 28 rfl) rfl,
  f_aload_n (n := 0) (e_dx DX1_showPerson_0 29 rfl) rfl,
  f_getA (e_dx DX1_showPerson_0 30 rfl) fX1_31 rfl (by decide) (Nat.le_of_ble_eq_true rfl) rfl (by decide),
  f_getA (e_dx DX1_showPerson_0 31 rfl) fX1_104 rfl (by decide) (Nat.le_of_ble_eq_true rfl) rfl (by decide),
  f_iconst (e_dx DX1_showPerson_0 32 rfl) ⟨by decide, by decide⟩,
  f_iaload (e_dx DX1_showPerson_0 33 rfl),
  f_icmp_ge (e_dx DX1_showPerson_0 34 rfl) rfl,
  f_aload_n (n := 0) (e_dx DX1_showPerson_0 35 rfl) rfl,
  f_getA (e_dx DX1_showPerson_0 36 rfl) fX1_31 rfl (by decide) (Nat.le_of_ble_eq_true rfl) rfl (by decide),
  f_iload_n (n := 3) (e_dx DX1_showPerson_0 37 rfl) rfl,
  x_callV (e_dx DX1_showPerson_0 38 rfl) mwX10_lot vwX10_lot cX1_139 rfl,
  f_astore (e_dx DX1_showPerson_0 39 rfl) (by decide),
  f_aload (e_dx DX1_showPerson_1 0 rfl),
  f_iload_n (n := 1) (e_dx DX1_showPerson_1 1 rfl) rfl,
  x_callV (e_dx DX1_showPerson_1 2 rfl) mwX4_placeOf vwX4_placeOf cX1_167 rfl,
  f_istore (e_dx DX1_showPerson_1 3 rfl) (by decide),
  f_aload (e_dx DX1_showPerson_1 4 rfl),
  f_getf (e_dx DX1_showPerson_1 5 rfl) fX1_194 rfl (by decide) (by decide) (by decide),
  f_if_ne (e_dx DX1_showPerson_1 6 rfl) rfl,
  f_iload (e_dx DX1_showPerson_1 7 rfl),
  f_if_lt (e_dx DX1_showPerson_1 8 rfl) rfl,
  f_aload_n (n := 0) (e_dx DX1_showPerson_1 9 rfl) rfl,
  f_aload (e_dx DX1_showPerson_1 10 rfl),
  f_getL (e_dx DX1_showPerson_1 11 rfl) fX1_357 rfl (by decide),
  x_callV (e_dx DX1_showPerson_1 12 rfl) mwX1_putWord vwX1_putWord cX1_124 rfl,
  f_aload_n (n := 0) (e_dx DX1_showPerson_1 13 rfl) rfl,
  f_aload (e_dx DX1_showPerson_1 14 rfl),
  f_iload (e_dx DX1_showPerson_1 15 rfl),
  x_callV (e_dx DX1_showPerson_1 16 rfl) mwX1_thenShare vwX1_thenShare cX1_331 rfl,
  f_aload_n (n := 0) (e_dx DX1_showPerson_1 17 rfl) rfl,
  x_callV (e_dx DX1_showPerson_1 18 rfl) mwX1_endLine vwX1_endLine cX1_282 rfl,
  trivial,
  f_g8 (e_dx DX1_showPerson_1 19 rfl) ⟨by decide, by decide⟩,
  f_g19 (e_dx DX1_showPerson_1 20 rfl) rfl,
  f_iconst (e_dx DX1_showPerson_1 21 rfl) ⟨by decide, by decide⟩,
  f_istore_n (n := 3) (e_dx DX1_showPerson_1 22 rfl) rfl (by decide),
  trivial,
  f_iload_n (n := 3) (e_dx DX1_showPerson_1 23 rfl) rfl,
  f_aload_n (n := 0) (e_dx DX1_showPerson_1 24 rfl) rfl,
  f_getA (e_dx DX1_showPerson_1 25 rfl) fX1_31 rfl (by decide) (Nat.le_of_ble_eq_true rfl) rfl (by decide),
  f_getA (e_dx DX1_showPerson_1 26 rfl) fX1_104 rfl (by decide) (Nat.le_of_ble_eq_true rfl) rfl (by decide),
  f_iconst (e_dx DX1_showPerson_1 27 rfl) ⟨by decide, by decide⟩,
  f_iaload (e_dx DX1_showPerson_1 28 rfl),
  f_icmp_ge (e_dx DX1_showPerson_1 29 rfl) rfl,
  f_aload_n (n := 0) (e_dx DX1_showPerson_1 30 rfl) rfl,
  f_getA (e_dx DX1_showPerson_1 31 rfl) fX1_31 rfl (by decide) (Nat.le_of_ble_eq_true rfl) rfl (by decide),
  f_iconst (e_dx DX1_showPerson_1 32 rfl) ⟨by decide, by decide⟩,
  f_iload_n (n := 3) (e_dx DX1_showPerson_1 33 rfl) rfl,
  x_callV (e_dx DX1_showPerson_1 34 rfl) mwX10_at vwX10_at cX1_173 rfl,
  f_astore (e_dx DX1_showPerson_1 35 rfl) (by decide),
  f_aload (e_dx DX1_showPerson_1 36 rfl),
  f_aload_n (n := 0) (e_dx DX1_showPerson_1 37 rfl) rfl,
  f_getA (e_dx DX1_showPerson_1 38 rfl) fX1_31 rfl (by decide) (Nat.le_of_ble_eq_true rfl) rfl (by decide),
  f_getf (e_dx DX1_showPerson_1 39 rfl) fX1_245 rfl (by decide) (by decide) (by decide),
  x_callV (e_dx DX1_showPerson_2 0 rfl) mwX9_isThere vwX9_isThere cX1_265 rfl,
  f_if_eq (e_dx DX1_showPerson_2 1 rfl) rfl,
  f_aload (e_dx DX1_showPerson_2 2 rfl),
  f_getf (e_dx DX1_showPerson_2 3 rfl) fX1_177 rfl (by decide) (by decide) (by decide),
  f_iload_n (n := 1) (e_dx DX1_showPerson_2 4 rfl) rfl,
  f_icmp_ne (e_dx DX1_showPerson_2 5 rfl) rfl,
  f_aload_n (n := 0) (e_dx DX1_showPerson_2 6 rfl) rfl,
  f_aload (e_dx DX1_showPerson_2 7 rfl),
  x_callV (e_dx DX1_showPerson_2 8 rfl) mwX1_putCharge vwX1_putCharge cX1_335 rfl,
  trivial,
  f_g8 (e_dx DX1_showPerson_2 9 rfl) ⟨by decide, by decide⟩,
  f_g19 (e_dx DX1_showPerson_2 10 rfl) rfl,
  ⟨(e_dx DX1_showPerson_2 11 rfl), rfl⟩, trivial⟩
def lX1_showPerson (c_X10_at : Nat → Int → Int → e_M → (Nat → Prop) → Prop) (c_X1_thenDate : Int → e_M → (e_M → Prop) → Prop) (c_X10_nameOf : Nat → Int → Int → e_M → (Int → Prop) → Prop) (c_X1_thenWord : Int → e_M → (e_M → Prop) → Prop) (c_X1_endLine : e_M → (e_M → Prop) → Prop) (c_X10_lot : Nat → Int → e_M → (Nat → Prop) → Prop) (c_X4_placeOf : Nat → Int → e_M → (Int → Prop) → Prop) (c_X1_putWord : Int → e_M → (e_M → Prop) → Prop) (c_X1_thenShare : Nat → Int → e_M → (e_M → Prop) → Prop) (c_X9_isThere : Nat → Int → e_M → (Int → Prop) → Prop) (c_X1_putCharge : Nat → e_M → (e_M → Prop) → Prop) : List (Nat × f_Wt) := [(0, f_wm [(3, 10, 15), (1, 0, 0), (1, 0, 0)] (fun ar M R => c_X10_at (f_va (f_nth ar 0)) (f_vi (f_nth ar 1)) (f_vi (f_nth ar 2)) M (fun r => R (some (.inr (.inr (.inl (9, 14, r))))) M))), (1, f_wm [(4462, 1, 7), (1, 0, 0)] (fun ar M R => c_X1_thenDate (f_vi (f_nth ar 1)) M (fun M => R none M))), (2, f_wm [(3, 10, 15), (1, 0, 0), (1, 0, 0)] (fun ar M R => c_X10_nameOf (f_va (f_nth ar 0)) (f_vi (f_nth ar 1)) (f_vi (f_nth ar 2)) M (fun r => R (some (.inr (.inl r))) M))), (3, f_wm [(4462, 1, 7), (2, 0, 0)] (fun ar M R => c_X1_thenWord (f_vi (f_nth ar 1)) M (fun M => R none M))), (4, f_wm [(4462, 1, 7)] (fun ar M R => c_X1_endLine  M (fun M => R none M))), (5, f_wm [(3, 10, 15), (1, 0, 0)] (fun ar M R => c_X10_lot (f_va (f_nth ar 0)) (f_vi (f_nth ar 1)) M (fun r => R (some (.inr (.inr (.inl (4, 9, r))))) M))), (6, f_wm [(3, 4, 9), (1, 0, 0)] (fun ar M R => c_X4_placeOf (f_va (f_nth ar 0)) (f_vi (f_nth ar 1)) M (fun r => R (some (.inl r)) M))), (7, f_wm [(4462, 1, 7), (2, 0, 0)] (fun ar M R => c_X1_putWord (f_vi (f_nth ar 1)) M (fun M => R none M))), (8, f_wm [(4462, 1, 7), (3, 4, 9), (1, 0, 0)] (fun ar M R => c_X1_thenShare (f_va (f_nth ar 1)) (f_vi (f_nth ar 2)) M (fun M => R none M))), (9, f_wm [(3, 9, 14), (1, 0, 0)] (fun ar M R => c_X9_isThere (f_va (f_nth ar 0)) (f_vi (f_nth ar 1)) M (fun r => R (some (.inl r)) M))), (10, f_wm [(4462, 1, 7), (3, 9, 14)] (fun ar M R => c_X1_putCharge (f_va (f_nth ar 1)) M (fun M => R none M)))]
set_option maxRecDepth 20000 in
theorem BX1_showPerson_48 {sh : Nat → Nat × Nat} {t : Nat} {rm : Nat × Nat × Nat} {cs : Nat × Nat} {R : f_Rt} {c_X10_at : Nat → Int → Int → e_M → (Nat → Prop) → Prop} {c_X1_thenDate : Int → e_M → (e_M → Prop) → Prop} {c_X10_nameOf : Nat → Int → Int → e_M → (Int → Prop) → Prop} {c_X1_thenWord : Int → e_M → (e_M → Prop) → Prop} {c_X1_endLine : e_M → (e_M → Prop) → Prop} {c_X10_lot : Nat → Int → e_M → (Nat → Prop) → Prop} {c_X4_placeOf : Nat → Int → e_M → (Int → Prop) → Prop} {c_X1_putWord : Int → e_M → (e_M → Prop) → Prop} {c_X1_thenShare : Nat → Int → e_M → (e_M → Prop) → Prop} {c_X9_isThere : Nat → Int → e_M → (Int → Prop) → Prop} {c_X1_putCharge : Nat → e_M → (e_M → Prop) → Prop} {k54 : Int → Int → e_M → Prop} {x1 : Int} {M : e_M} (C : f_Hy sh t yX1_showPerson rm cs 8 (lX1_showPerson c_X10_at c_X1_thenDate c_X10_nameOf c_X1_thenWord c_X1_endLine c_X10_lot c_X4_placeOf c_X1_putWord c_X1_thenShare c_X9_isThere c_X1_putCharge) R) (h54 : ∀ (x1 : Int) (x3 : Int) (M : e_M), k54 x1 x3 M → f_E sh t YX1_showPerson rm cs (f_Q sh t R) 54 [.inr (.inr (.inl (1, 7, 4452))), .inl x1, .inr (.inr (.inr ())), .inl x3, .inr (.inr (.inr ())), .inr (.inr (.inr ()))] [] M) (h : VX1_showPerson_48 c_X10_at c_X1_thenDate c_X10_nameOf c_X1_thenWord c_X1_endLine c_X10_lot c_X4_placeOf c_X1_putWord c_X1_thenShare c_X9_isThere c_X1_putCharge k54 (fun M => R none M) x1 M) : f_E sh t YX1_showPerson rm cs (f_Q sh t R) 48 [.inr (.inr (.inl (1, 7, 4452))), .inl x1, .inr (.inr (.inr ())), .inr (.inr (.inr ())), .inr (.inr (.inr ())), .inr (.inr (.inr ()))] [] M :=
  f_go (KC := f_kc [(54, f_pl [(4462, 1, 7), (1, 0, 0), (0, 0, 0), (1, 0, 0), (0, 0, 0), (0, 0, 0)] [] (fun ls st M => k54 (f_vi (f_nth ls 1)) (f_vi (f_nth ls 3)) M))]) C qX1_showPersonf (f_kc_cons (f_pl_ok rfl (fun ls st M h => h54 _ _ M h)) f_kc_nil) 99 25 h
set_option maxRecDepth 20000 in
theorem BX1_showPerson_54 {sh : Nat → Nat × Nat} {t : Nat} {rm : Nat × Nat × Nat} {cs : Nat × Nat} {R : f_Rt} {c_X10_at : Nat → Int → Int → e_M → (Nat → Prop) → Prop} {c_X1_thenDate : Int → e_M → (e_M → Prop) → Prop} {c_X10_nameOf : Nat → Int → Int → e_M → (Int → Prop) → Prop} {c_X1_thenWord : Int → e_M → (e_M → Prop) → Prop} {c_X1_endLine : e_M → (e_M → Prop) → Prop} {c_X10_lot : Nat → Int → e_M → (Nat → Prop) → Prop} {c_X4_placeOf : Nat → Int → e_M → (Int → Prop) → Prop} {c_X1_putWord : Int → e_M → (e_M → Prop) → Prop} {c_X1_thenShare : Nat → Int → e_M → (e_M → Prop) → Prop} {c_X9_isThere : Nat → Int → e_M → (Int → Prop) → Prop} {c_X1_putCharge : Nat → e_M → (e_M → Prop) → Prop} {k127 : Int → Int → e_M → Prop} {k119 : Int → Int → e_M → Prop} {x1 : Int} {x3 : Int} {M : e_M} (C : f_Hy sh t yX1_showPerson rm cs 8 (lX1_showPerson c_X10_at c_X1_thenDate c_X10_nameOf c_X1_thenWord c_X1_endLine c_X10_lot c_X4_placeOf c_X1_putWord c_X1_thenShare c_X9_isThere c_X1_putCharge) R) (h127 : ∀ (x1 : Int) (x3 : Int) (M : e_M), k127 x1 x3 M → f_E sh t YX1_showPerson rm cs (f_Q sh t R) 127 [.inr (.inr (.inl (1, 7, 4452))), .inl x1, .inr (.inr (.inr ())), .inl x3, .inr (.inr (.inr ())), .inr (.inr (.inr ()))] [] M) (h119 : ∀ (x1 : Int) (x3 : Int) (M : e_M), k119 x1 x3 M → f_E sh t YX1_showPerson rm cs (f_Q sh t R) 119 [.inr (.inr (.inl (1, 7, 4452))), .inl x1, .inr (.inr (.inr ())), .inl x3, .inr (.inr (.inr ())), .inr (.inr (.inr ()))] [] M) (h : VX1_showPerson_54 c_X10_at c_X1_thenDate c_X10_nameOf c_X1_thenWord c_X1_endLine c_X10_lot c_X4_placeOf c_X1_putWord c_X1_thenShare c_X9_isThere c_X1_putCharge k127 k119 (fun M => R none M) x1 x3 M) : f_E sh t YX1_showPerson rm cs (f_Q sh t R) 54 [.inr (.inr (.inl (1, 7, 4452))), .inl x1, .inr (.inr (.inr ())), .inl x3, .inr (.inr (.inr ())), .inr (.inr (.inr ()))] [] M :=
  f_go (KC := f_kc [(127, f_pl [(4462, 1, 7), (1, 0, 0), (0, 0, 0), (1, 0, 0), (0, 0, 0), (0, 0, 0)] [] (fun ls st M => k127 (f_vi (f_nth ls 1)) (f_vi (f_nth ls 3)) M)), (119, f_pl [(4462, 1, 7), (1, 0, 0), (0, 0, 0), (1, 0, 0), (0, 0, 0), (0, 0, 0)] [] (fun ls st M => k119 (f_vi (f_nth ls 1)) (f_vi (f_nth ls 3)) M))]) C qX1_showPersonf (f_kc_cons (f_pl_ok rfl (fun ls st M h => h127 _ _ M h)) (f_kc_cons (f_pl_ok rfl (fun ls st M h => h119 _ _ M h)) f_kc_nil)) 99 30 h
set_option maxRecDepth 20000 in
theorem BX1_showPerson_119 {sh : Nat → Nat × Nat} {t : Nat} {rm : Nat × Nat × Nat} {cs : Nat × Nat} {R : f_Rt} {c_X10_at : Nat → Int → Int → e_M → (Nat → Prop) → Prop} {c_X1_thenDate : Int → e_M → (e_M → Prop) → Prop} {c_X10_nameOf : Nat → Int → Int → e_M → (Int → Prop) → Prop} {c_X1_thenWord : Int → e_M → (e_M → Prop) → Prop} {c_X1_endLine : e_M → (e_M → Prop) → Prop} {c_X10_lot : Nat → Int → e_M → (Nat → Prop) → Prop} {c_X4_placeOf : Nat → Int → e_M → (Int → Prop) → Prop} {c_X1_putWord : Int → e_M → (e_M → Prop) → Prop} {c_X1_thenShare : Nat → Int → e_M → (e_M → Prop) → Prop} {c_X9_isThere : Nat → Int → e_M → (Int → Prop) → Prop} {c_X1_putCharge : Nat → e_M → (e_M → Prop) → Prop} {k54 : Int → Int → e_M → Prop} {x1 : Int} {x3 : Int} {M : e_M} (C : f_Hy sh t yX1_showPerson rm cs 8 (lX1_showPerson c_X10_at c_X1_thenDate c_X10_nameOf c_X1_thenWord c_X1_endLine c_X10_lot c_X4_placeOf c_X1_putWord c_X1_thenShare c_X9_isThere c_X1_putCharge) R) (h54 : ∀ (x1 : Int) (x3 : Int) (M : e_M), k54 x1 x3 M → f_E sh t YX1_showPerson rm cs (f_Q sh t R) 54 [.inr (.inr (.inl (1, 7, 4452))), .inl x1, .inr (.inr (.inr ())), .inl x3, .inr (.inr (.inr ())), .inr (.inr (.inr ()))] [] M) (h : VX1_showPerson_119 c_X10_at c_X1_thenDate c_X10_nameOf c_X1_thenWord c_X1_endLine c_X10_lot c_X4_placeOf c_X1_putWord c_X1_thenShare c_X9_isThere c_X1_putCharge k54 (fun M => R none M) x1 x3 M) : f_E sh t YX1_showPerson rm cs (f_Q sh t R) 119 [.inr (.inr (.inl (1, 7, 4452))), .inl x1, .inr (.inr (.inr ())), .inl x3, .inr (.inr (.inr ())), .inr (.inr (.inr ()))] [] M :=
  f_go (KC := f_kc [(54, f_pl [(4462, 1, 7), (1, 0, 0), (0, 0, 0), (1, 0, 0), (0, 0, 0), (0, 0, 0)] [] (fun ls st M => k54 (f_vi (f_nth ls 1)) (f_vi (f_nth ls 3)) M))]) C qX1_showPersonf (f_kc_cons (f_pl_ok rfl (fun ls st M h => h54 _ _ M h)) f_kc_nil) 99 62 h
set_option maxRecDepth 20000 in
theorem BX1_showPerson_127 {sh : Nat → Nat × Nat} {t : Nat} {rm : Nat × Nat × Nat} {cs : Nat × Nat} {R : f_Rt} {c_X10_at : Nat → Int → Int → e_M → (Nat → Prop) → Prop} {c_X1_thenDate : Int → e_M → (e_M → Prop) → Prop} {c_X10_nameOf : Nat → Int → Int → e_M → (Int → Prop) → Prop} {c_X1_thenWord : Int → e_M → (e_M → Prop) → Prop} {c_X1_endLine : e_M → (e_M → Prop) → Prop} {c_X10_lot : Nat → Int → e_M → (Nat → Prop) → Prop} {c_X4_placeOf : Nat → Int → e_M → (Int → Prop) → Prop} {c_X1_putWord : Int → e_M → (e_M → Prop) → Prop} {c_X1_thenShare : Nat → Int → e_M → (e_M → Prop) → Prop} {c_X9_isThere : Nat → Int → e_M → (Int → Prop) → Prop} {c_X1_putCharge : Nat → e_M → (e_M → Prop) → Prop} {k181 : Int → Int → e_M → Prop} {x1 : Int} {x3 : Int} {M : e_M} (C : f_Hy sh t yX1_showPerson rm cs 8 (lX1_showPerson c_X10_at c_X1_thenDate c_X10_nameOf c_X1_thenWord c_X1_endLine c_X10_lot c_X4_placeOf c_X1_putWord c_X1_thenShare c_X9_isThere c_X1_putCharge) R) (h181 : ∀ (x1 : Int) (x3 : Int) (M : e_M), k181 x1 x3 M → f_E sh t YX1_showPerson rm cs (f_Q sh t R) 181 [.inr (.inr (.inl (1, 7, 4452))), .inl x1, .inr (.inr (.inr ())), .inl x3, .inr (.inr (.inr ())), .inr (.inr (.inr ()))] [] M) (h : VX1_showPerson_127 c_X10_at c_X1_thenDate c_X10_nameOf c_X1_thenWord c_X1_endLine c_X10_lot c_X4_placeOf c_X1_putWord c_X1_thenShare c_X9_isThere c_X1_putCharge k181 (fun M => R none M) x1 x3 M) : f_E sh t YX1_showPerson rm cs (f_Q sh t R) 127 [.inr (.inr (.inl (1, 7, 4452))), .inl x1, .inr (.inr (.inr ())), .inl x3, .inr (.inr (.inr ())), .inr (.inr (.inr ()))] [] M :=
  f_go (KC := f_kc [(181, f_pl [(4462, 1, 7), (1, 0, 0), (0, 0, 0), (1, 0, 0), (0, 0, 0), (0, 0, 0)] [] (fun ls st M => k181 (f_vi (f_nth ls 1)) (f_vi (f_nth ls 3)) M))]) C qX1_showPersonf (f_kc_cons (f_pl_ok rfl (fun ls st M h => h181 _ _ M h)) f_kc_nil) 99 67 h
set_option maxRecDepth 20000 in
theorem BX1_showPerson_181 {sh : Nat → Nat × Nat} {t : Nat} {rm : Nat × Nat × Nat} {cs : Nat × Nat} {R : f_Rt} {c_X10_at : Nat → Int → Int → e_M → (Nat → Prop) → Prop} {c_X1_thenDate : Int → e_M → (e_M → Prop) → Prop} {c_X10_nameOf : Nat → Int → Int → e_M → (Int → Prop) → Prop} {c_X1_thenWord : Int → e_M → (e_M → Prop) → Prop} {c_X1_endLine : e_M → (e_M → Prop) → Prop} {c_X10_lot : Nat → Int → e_M → (Nat → Prop) → Prop} {c_X4_placeOf : Nat → Int → e_M → (Int → Prop) → Prop} {c_X1_putWord : Int → e_M → (e_M → Prop) → Prop} {c_X1_thenShare : Nat → Int → e_M → (e_M → Prop) → Prop} {c_X9_isThere : Nat → Int → e_M → (Int → Prop) → Prop} {c_X1_putCharge : Nat → e_M → (e_M → Prop) → Prop} {k127 : Int → Int → e_M → Prop} {x1 : Int} {x3 : Int} {M : e_M} (C : f_Hy sh t yX1_showPerson rm cs 8 (lX1_showPerson c_X10_at c_X1_thenDate c_X10_nameOf c_X1_thenWord c_X1_endLine c_X10_lot c_X4_placeOf c_X1_putWord c_X1_thenShare c_X9_isThere c_X1_putCharge) R) (h127 : ∀ (x1 : Int) (x3 : Int) (M : e_M), k127 x1 x3 M → f_E sh t YX1_showPerson rm cs (f_Q sh t R) 127 [.inr (.inr (.inl (1, 7, 4452))), .inl x1, .inr (.inr (.inr ())), .inl x3, .inr (.inr (.inr ())), .inr (.inr (.inr ()))] [] M) (h : VX1_showPerson_181 c_X10_at c_X1_thenDate c_X10_nameOf c_X1_thenWord c_X1_endLine c_X10_lot c_X4_placeOf c_X1_putWord c_X1_thenShare c_X9_isThere c_X1_putCharge k127 (fun M => R none M) x1 x3 M) : f_E sh t YX1_showPerson rm cs (f_Q sh t R) 181 [.inr (.inr (.inl (1, 7, 4452))), .inl x1, .inr (.inr (.inr ())), .inl x3, .inr (.inr (.inr ())), .inr (.inr (.inr ()))] [] M :=
  f_go (KC := f_kc [(127, f_pl [(4462, 1, 7), (1, 0, 0), (0, 0, 0), (1, 0, 0), (0, 0, 0), (0, 0, 0)] [] (fun ls st M => k127 (f_vi (f_nth ls 1)) (f_vi (f_nth ls 3)) M))]) C qX1_showPersonf (f_kc_cons (f_pl_ok rfl (fun ls st M h => h127 _ _ M h)) f_kc_nil) 99 94 h
set_option maxRecDepth 20000 in
theorem BX1_showPerson {sh : Nat → Nat × Nat} {t : Nat} {rm : Nat × Nat × Nat} {cs : Nat × Nat} {R : f_Rt} {c_X10_at : Nat → Int → Int → e_M → (Nat → Prop) → Prop} {c_X1_thenDate : Int → e_M → (e_M → Prop) → Prop} {c_X10_nameOf : Nat → Int → Int → e_M → (Int → Prop) → Prop} {c_X1_thenWord : Int → e_M → (e_M → Prop) → Prop} {c_X1_endLine : e_M → (e_M → Prop) → Prop} {c_X10_lot : Nat → Int → e_M → (Nat → Prop) → Prop} {c_X4_placeOf : Nat → Int → e_M → (Int → Prop) → Prop} {c_X1_putWord : Int → e_M → (e_M → Prop) → Prop} {c_X1_thenShare : Nat → Int → e_M → (e_M → Prop) → Prop} {c_X9_isThere : Nat → Int → e_M → (Int → Prop) → Prop} {c_X1_putCharge : Nat → e_M → (e_M → Prop) → Prop} {k48 : Int → e_M → Prop} {x1 : Int} {M : e_M} (C : f_Hy sh t yX1_showPerson rm cs 8 (lX1_showPerson c_X10_at c_X1_thenDate c_X10_nameOf c_X1_thenWord c_X1_endLine c_X10_lot c_X4_placeOf c_X1_putWord c_X1_thenShare c_X9_isThere c_X1_putCharge) R) (h48 : ∀ (x1 : Int) (M : e_M), k48 x1 M → f_E sh t YX1_showPerson rm cs (f_Q sh t R) 48 [.inr (.inr (.inl (1, 7, 4452))), .inl x1, .inr (.inr (.inr ())), .inr (.inr (.inr ())), .inr (.inr (.inr ())), .inr (.inr (.inr ()))] [] M) (h : VX1_showPerson c_X10_at c_X1_thenDate c_X10_nameOf c_X1_thenWord c_X1_endLine c_X10_lot c_X4_placeOf c_X1_putWord c_X1_thenShare c_X9_isThere c_X1_putCharge k48 (fun M => R none M) x1 M) : f_E sh t YX1_showPerson rm cs (f_Q sh t R) 0 [.inr (.inr (.inl (1, 7, 4452))), .inl x1, .inr (.inr (.inr ())), .inr (.inr (.inr ())), .inr (.inr (.inr ())), .inr (.inr (.inr ()))] [] M :=
  f_go (KC := f_kc [(48, f_pl [(4462, 1, 7), (1, 0, 0), (0, 0, 0), (0, 0, 0), (0, 0, 0), (0, 0, 0)] [] (fun ls st M => k48 (f_vi (f_nth ls 1)) M))]) C qX1_showPersonf (f_kc_cons (f_pl_ok rfl (fun ls st M h => h48 _ M h)) f_kc_nil) 99 0 h
def WX1_showPerson_181 (H127 : Int → Int → e_M → Prop) (Q : e_M → Prop) (x1 : Int) (x3 : Int) (M : e_M) : Prop :=
  VX1_showPerson_181 WX10_at WX1_thenDate WX10_nameOf WX1_thenWord WX1_endLine WX10_lot WX4_placeOf WX1_putWord WX1_thenShare WX9_isThere WX1_putCharge H127 Q x1 x3 M
def WX1_showPerson_127 (Q : e_M → Prop) : Nat → Int → Int → e_M → Prop
  | 0, _, _, _ => False
  | n + 1, x1, x3, M =>
    VX1_showPerson_127 WX10_at WX1_thenDate WX10_nameOf WX1_thenWord WX1_endLine WX10_lot WX4_placeOf WX1_putWord WX1_thenShare WX9_isThere WX1_putCharge (WX1_showPerson_181 (WX1_showPerson_127 Q n) Q) Q x1 x3 M
def WX1_showPerson_119 (H54 : Int → Int → e_M → Prop) (Q : e_M → Prop) (x1 : Int) (x3 : Int) (M : e_M) : Prop :=
  VX1_showPerson_119 WX10_at WX1_thenDate WX10_nameOf WX1_thenWord WX1_endLine WX10_lot WX4_placeOf WX1_putWord WX1_thenShare WX9_isThere WX1_putCharge H54 Q x1 x3 M
def WX1_showPerson_54 (Q : e_M → Prop) : Nat → Int → Int → e_M → Prop
  | 0, _, _, _ => False
  | n + 1, x1, x3, M =>
    VX1_showPerson_54 WX10_at WX1_thenDate WX10_nameOf WX1_thenWord WX1_endLine WX10_lot WX4_placeOf WX1_putWord WX1_thenShare WX9_isThere WX1_putCharge (fun x1 x3 M => ∃ j, WX1_showPerson_127 Q j x1 x3 M) (WX1_showPerson_119 (WX1_showPerson_54 Q n) Q) Q x1 x3 M
def WX1_showPerson_48 (Q : e_M → Prop) (x1 : Int) (M : e_M) : Prop :=
  VX1_showPerson_48 WX10_at WX1_thenDate WX10_nameOf WX1_thenWord WX1_endLine WX10_lot WX4_placeOf WX1_putWord WX1_thenShare WX9_isThere WX1_putCharge (fun x1 x3 M => ∃ j, WX1_showPerson_54 Q j x1 x3 M) Q x1 M
def WX1_showPerson (x1 : Int) (M : e_M) (Q : e_M → Prop) : Prop :=
  VX1_showPerson WX10_at WX1_thenDate WX10_nameOf WX1_thenWord WX1_endLine WX10_lot WX4_placeOf WX1_putWord WX1_thenShare WX9_isThere WX1_putCharge (WX1_showPerson_48 Q) Q x1 M
theorem PX1_showPerson_181 {sh : Nat → Nat × Nat} {t : Nat} {rm : Nat × Nat × Nat} {cs : Nat × Nat} {R : f_Rt} {H127 : Int → Int → e_M → Prop} {x1 : Int} {x3 : Int} {M : e_M} (C : f_Hy sh t yX1_showPerson rm cs 8 (lX1_showPerson WX10_at WX1_thenDate WX10_nameOf WX1_thenWord WX1_endLine WX10_lot WX4_placeOf WX1_putWord WX1_thenShare WX9_isThere WX1_putCharge) R) (g127 : ∀ (x1 : Int) (x3 : Int) (M : e_M), H127 x1 x3 M → f_E sh t YX1_showPerson rm cs (f_Q sh t R) 127 [.inr (.inr (.inl (1, 7, 4452))), .inl x1, .inr (.inr (.inr ())), .inl x3, .inr (.inr (.inr ())), .inr (.inr (.inr ()))] [] M) (h : WX1_showPerson_181 H127 (fun M => R none M) x1 x3 M) : f_E sh t YX1_showPerson rm cs (f_Q sh t R) 181 [.inr (.inr (.inl (1, 7, 4452))), .inl x1, .inr (.inr (.inr ())), .inl x3, .inr (.inr (.inr ())), .inr (.inr (.inr ()))] [] M :=
  BX1_showPerson_181 C g127 h
theorem PX1_showPerson_127 {sh : Nat → Nat × Nat} {t : Nat} {rm : Nat × Nat × Nat} {cs : Nat × Nat} {R : f_Rt} (C : f_Hy sh t yX1_showPerson rm cs 8 (lX1_showPerson WX10_at WX1_thenDate WX10_nameOf WX1_thenWord WX1_endLine WX10_lot WX4_placeOf WX1_putWord WX1_thenShare WX9_isThere WX1_putCharge) R) : ∀ (n : Nat) (x1 : Int) (x3 : Int) (M : e_M), WX1_showPerson_127 (fun M => R none M) n x1 x3 M → f_E sh t YX1_showPerson rm cs (f_Q sh t R) 127 [.inr (.inr (.inl (1, 7, 4452))), .inl x1, .inr (.inr (.inr ())), .inl x3, .inr (.inr (.inr ())), .inr (.inr (.inr ()))] [] M := by
  intro n
  induction n with
  | zero => intro x1 x3 M h; exact h.elim
  | succ n ih => intro x1 x3 M h; exact BX1_showPerson_127 C (fun x1 x3 M h => PX1_showPerson_181 C ih h) h
theorem PX1_showPerson_119 {sh : Nat → Nat × Nat} {t : Nat} {rm : Nat × Nat × Nat} {cs : Nat × Nat} {R : f_Rt} {H54 : Int → Int → e_M → Prop} {x1 : Int} {x3 : Int} {M : e_M} (C : f_Hy sh t yX1_showPerson rm cs 8 (lX1_showPerson WX10_at WX1_thenDate WX10_nameOf WX1_thenWord WX1_endLine WX10_lot WX4_placeOf WX1_putWord WX1_thenShare WX9_isThere WX1_putCharge) R) (g54 : ∀ (x1 : Int) (x3 : Int) (M : e_M), H54 x1 x3 M → f_E sh t YX1_showPerson rm cs (f_Q sh t R) 54 [.inr (.inr (.inl (1, 7, 4452))), .inl x1, .inr (.inr (.inr ())), .inl x3, .inr (.inr (.inr ())), .inr (.inr (.inr ()))] [] M) (h : WX1_showPerson_119 H54 (fun M => R none M) x1 x3 M) : f_E sh t YX1_showPerson rm cs (f_Q sh t R) 119 [.inr (.inr (.inl (1, 7, 4452))), .inl x1, .inr (.inr (.inr ())), .inl x3, .inr (.inr (.inr ())), .inr (.inr (.inr ()))] [] M :=
  BX1_showPerson_119 C g54 h
theorem PX1_showPerson_54 {sh : Nat → Nat × Nat} {t : Nat} {rm : Nat × Nat × Nat} {cs : Nat × Nat} {R : f_Rt} (C : f_Hy sh t yX1_showPerson rm cs 8 (lX1_showPerson WX10_at WX1_thenDate WX10_nameOf WX1_thenWord WX1_endLine WX10_lot WX4_placeOf WX1_putWord WX1_thenShare WX9_isThere WX1_putCharge) R) : ∀ (n : Nat) (x1 : Int) (x3 : Int) (M : e_M), WX1_showPerson_54 (fun M => R none M) n x1 x3 M → f_E sh t YX1_showPerson rm cs (f_Q sh t R) 54 [.inr (.inr (.inl (1, 7, 4452))), .inl x1, .inr (.inr (.inr ())), .inl x3, .inr (.inr (.inr ())), .inr (.inr (.inr ()))] [] M := by
  intro n
  induction n with
  | zero => intro x1 x3 M h; exact h.elim
  | succ n ih => intro x1 x3 M h; exact BX1_showPerson_54 C (fun x1 x3 M ⟨j, h⟩ => PX1_showPerson_127 C j _ _ _ h) (fun x1 x3 M h => PX1_showPerson_119 C ih h) h
theorem PX1_showPerson_48 {sh : Nat → Nat × Nat} {t : Nat} {rm : Nat × Nat × Nat} {cs : Nat × Nat} {R : f_Rt} {x1 : Int} {M : e_M} (C : f_Hy sh t yX1_showPerson rm cs 8 (lX1_showPerson WX10_at WX1_thenDate WX10_nameOf WX1_thenWord WX1_endLine WX10_lot WX4_placeOf WX1_putWord WX1_thenShare WX9_isThere WX1_putCharge) R) (h : WX1_showPerson_48 (fun M => R none M) x1 M) : f_E sh t YX1_showPerson rm cs (f_Q sh t R) 48 [.inr (.inr (.inl (1, 7, 4452))), .inl x1, .inr (.inr (.inr ())), .inr (.inr (.inr ())), .inr (.inr (.inr ())), .inr (.inr (.inr ()))] [] M :=
  BX1_showPerson_48 C (fun x1 x3 M ⟨j, h⟩ => PX1_showPerson_54 C j _ _ _ h) h
theorem PX1_showPerson {sh : Nat → Nat × Nat} {t : Nat} {rm : Nat × Nat × Nat} {cs : Nat × Nat} {R : f_Rt} {x1 : Int} {M : e_M} (C : f_Hy sh t yX1_showPerson rm cs 8 (lX1_showPerson WX10_at WX1_thenDate WX10_nameOf WX1_thenWord WX1_endLine WX10_lot WX4_placeOf WX1_putWord WX1_thenShare WX9_isThere WX1_putCharge) R) (h : WX1_showPerson x1 M (fun M => R none M)) : f_E sh t YX1_showPerson rm cs (f_Q sh t R) 0 [.inr (.inr (.inl (1, 7, 4452))), .inl x1, .inr (.inr (.inr ())), .inr (.inr (.inr ())), .inr (.inr (.inr ())), .inr (.inr (.inr ()))] [] M :=
  BX1_showPerson C (fun x1 M h => PX1_showPerson_48 C h) h
def wX1_showPerson : f_Wt := f_wm [(4462, 1, 7), (1, 0, 0)] (fun ar M R => WX1_showPerson (f_vi (f_nth ar 1)) M (fun M => R none M))
theorem TX1_showPerson {sh : Nat → Nat × Nat} {t : Nat} : f_Mt sh t YX1_showPerson 8 (wX1_showPerson) :=
  f_Mt_of (k := 4) (Nat.le_of_ble_eq_true rfl) rfl rfl (fun ar M R rm cs h1 h2 h3 hX h => PX1_showPerson ⟨Nat.le_of_ble_eq_true rfl, h1, h2, h3, ⟨(f_Mt.up (Nat.le_of_ble_eq_true rfl) TX10_at), (f_Mt.up (Nat.le_of_ble_eq_true rfl) TX1_thenDate), (f_Mt.up (Nat.le_of_ble_eq_true rfl) TX10_nameOf), (f_Mt.up (Nat.le_of_ble_eq_true rfl) TX1_thenWord), (f_Mt.up (Nat.le_of_ble_eq_true rfl) TX1_endLine), (f_Mt.up (Nat.le_of_ble_eq_true rfl) TX10_lot), (f_Mt.up (Nat.le_of_ble_eq_true rfl) TX4_placeOf), (f_Mt.up (Nat.le_of_ble_eq_true rfl) TX1_putWord), (f_Mt.up (Nat.le_of_ble_eq_true rfl) TX1_thenShare), (f_Mt.up (Nat.le_of_ble_eq_true rfl) TX9_isThere), (f_Mt.up (Nat.le_of_ble_eq_true rfl) TX1_putCharge), trivial⟩, hX⟩ h)
def VX1_showCharge_41 (c_X10_at : Nat → Int → Int → e_M → (Nat → Prop) → Prop) (c_X10_nameOf : Nat → Int → Int → e_M → (Int → Prop) → Prop) (c_X1_thenWord : Int → e_M → (e_M → Prop) → Prop) (c_X1_thenNumber : Int → e_M → (e_M → Prop) → Prop) (c_X1_endLine : e_M → (e_M → Prop) → Prop) (c_X8_get : Nat → Int → e_M → (Int → Prop) → Prop) (c_X10_lot : Nat → Int → e_M → (Nat → Prop) → Prop) (c_X1_putText : Nat → Nat → e_M → (e_M → Prop) → Prop) (c_X8_find : Nat → Int → e_M → (Int → Prop) → Prop) (k41 : Int → Nat → Int → e_M → Prop) (Q : e_M → Prop) (x1 : Int) (a2 : Nat) (x3 : Int) (M : e_M) : Prop :=
  (((M ((M a2 9).toNat) 1) ≤ x3 → (Q M)) ∧ (x3 < (M ((M a2 9).toNat) 1) → (c_X8_get ((M a2 9).toNat) x3 M (fun r1 => (c_X10_lot ((M 4452 3).toNat) r1 M (fun r2 => (c_X1_putText 2 1000026 M (fun M3 => (c_X1_thenWord (M3 r2 0) M3 (fun M4 => (c_X8_find (r2 + 4) x1 M4 (fun r5 => (c_X1_thenNumber (e_w32 (r5 + 1)) M4 (fun M6 => (c_X1_endLine M6 (fun M7 => (k41 x1 a2 (e_w32 (x3 + 1)) M7)))))))))))))))))
def VX1_showCharge (c_X10_at : Nat → Int → Int → e_M → (Nat → Prop) → Prop) (c_X10_nameOf : Nat → Int → Int → e_M → (Int → Prop) → Prop) (c_X1_thenWord : Int → e_M → (e_M → Prop) → Prop) (c_X1_thenNumber : Int → e_M → (e_M → Prop) → Prop) (c_X1_endLine : e_M → (e_M → Prop) → Prop) (c_X8_get : Nat → Int → e_M → (Int → Prop) → Prop) (c_X10_lot : Nat → Int → e_M → (Nat → Prop) → Prop) (c_X1_putText : Nat → Nat → e_M → (e_M → Prop) → Prop) (c_X8_find : Nat → Int → e_M → (Int → Prop) → Prop) (k41 : Int → Nat → Int → e_M → Prop) (Q : e_M → Prop) (x1 : Int) (M : e_M) : Prop :=
  (c_X10_at ((M 4452 3).toNat) 2 x1 M (fun r1 => (c_X10_nameOf ((M 4452 3).toNat) 1 (M r1 5) M (fun r2 => (c_X1_thenWord r2 M (fun M3 => (c_X1_thenNumber (M3 r1 6) M3 (fun M4 => (c_X1_endLine M4 (fun M5 => (k41 x1 r1 0 M5)))))))))))
def yX1_showCharge (i : Nat) : e_Y := x_get YX1_showCharge [YX10_at, YX10_nameOf, YX1_thenWord, YX1_thenNumber, YX1_endLine, YX8_get, YX10_lot, YX1_putText, YX8_find] i
def pX1_showChargef : List x_I := [(0, 4, 1, 0, 0, 0, []), (1, 25, 1, 3, 4, 0, [(0, 10, 15), (0, 0, 0)]), (4, 0, 1, 0, 0, 2, []), (5, 2, 1, 1, 0, 0, []), (6, 40, 0, 3, 12, 0, []), (9, 7, 1, 2, 0, 0, []), (10, 4, 1, 0, 0, 0, []), (11, 4, 1, 0, 0, 0, []), (12, 25, 1, 3, 4, 0, [(0, 10, 15), (0, 0, 0)]), (15, 0, 1, 0, 0, 1, []), (16, 4, 1, 2, 0, 0, []), (17, 25, 9, 5, 0, 0, []), (20, 40, 1, 3, 12, 0, []), (23, 40, 2, 2, 3, 0, []), (26, 4, 1, 0, 0, 0, []), (27, 4, 1, 2, 0, 0, []), (28, 25, 9, 6, 0, 0, []), (31, 14, 0, 0, 0, 0, []), (32, 40, 3, 2, 3, 0, []), (35, 4, 1, 0, 0, 0, []), (36, 40, 4, 1, 3, 0, []), (39, 0, 1, 0, 0, 0, []), (40, 5, 1, 3, 0, 0, []), (41, 49, 0, 0, 0, 0, []), (41, 2, 1, 3, 0, 0, []), (42, 4, 1, 2, 0, 0, []), (43, 25, 9, 9, 4, 0, [(0, 8, 2), (0, 0, 0)]), (46, 25, 8, 1, 0, 0, []), (49, 18, 111, 3, 58, 0, []), (52, 4, 1, 0, 0, 0, []), (53, 25, 1, 3, 4, 0, [(0, 10, 15), (0, 0, 0)]), (56, 4, 1, 2, 0, 0, []), (57, 25, 9, 9, 4, 0, [(0, 8, 2), (0, 0, 0)]), (60, 2, 1, 3, 0, 0, []), (61, 40, 5, 2, 10, 0, []), (64, 40, 6, 2, 12, 0, []), (67, 7, 2, 4, 0, 0, []), (69, 4, 1, 0, 0, 0, []), (70, 38, 3, 1000026, 2, 0, []), (73, 40, 7, 2, 3, 0, []), (76, 4, 1, 0, 0, 0, []), (77, 4, 2, 4, 0, 0, []), (79, 25, 4, 0, 3, 0, []), (82, 40, 2, 2, 3, 0, []), (85, 4, 1, 0, 0, 0, []), (86, 4, 2, 4, 0, 0, []), (88, 25, 4, 4, 4, 0, [(0, 8, 2), (0, 1, 4)]), (91, 2, 1, 1, 0, 0, []), (92, 40, 8, 2, 10, 0, []), (95, 0, 1, 0, 0, 1, []), (96, 9, 0, 0, 0, 0, []), (97, 14, 0, 0, 0, 0, []), (98, 40, 3, 2, 3, 0, []), (101, 4, 1, 0, 0, 0, []), (102, 40, 4, 1, 3, 0, []), (105, 8, 0, 3, 0, 1, []), (108, 19, 41, 0, 24, 0, []), (111, 44, 0, 0, 0, 0, [])]
set_option maxRecDepth 20000 in
theorem qX1_showChargef : f_all yX1_showCharge YX1_showCharge pX1_showChargef :=
  ⟨f_aload_n (n := 0) (e_dx DX1_showCharge_0 0 rfl) rfl,
  f_getA (e_dx DX1_showCharge_0 1 rfl) fX1_31 rfl (by decide) (Nat.le_of_ble_eq_true rfl) rfl (by decide),
  f_iconst (e_dx DX1_showCharge_0 2 rfl) ⟨by decide, by decide⟩,
  f_iload_n (n := 1) (e_dx DX1_showCharge_0 3 rfl) rfl,
  x_callV (e_dx DX1_showCharge_0 4 rfl) mwX10_at vwX10_at cX1_173 rfl,
  f_astore_n (n := 2) (e_dx DX1_showCharge_0 5 rfl) rfl (by decide),
  f_aload_n (n := 0) (e_dx DX1_showCharge_0 6 rfl) rfl,
  f_aload_n (n := 0) (e_dx DX1_showCharge_0 7 rfl) rfl,
  f_getA (e_dx DX1_showCharge_0 8 rfl) fX1_31 rfl (by decide) (Nat.le_of_ble_eq_true rfl) rfl (by decide),
  f_iconst (e_dx DX1_showCharge_0 9 rfl) ⟨by decide, by decide⟩,
  f_aload_n (n := 2) (e_dx DX1_showCharge_0 10 rfl) rfl,
  f_getf (e_dx DX1_showCharge_0 11 rfl) fX1_177 rfl (by decide) (by decide) (by decide),
  x_callV (e_dx DX1_showCharge_0 12 rfl) mwX10_nameOf vwX10_nameOf cX1_120 rfl,
  x_callV (e_dx DX1_showCharge_0 13 rfl) mwX1_thenWord vwX1_thenWord cX1_277 rfl,
  f_aload_n (n := 0) (e_dx DX1_showCharge_0 14 rfl) rfl,
  f_aload_n (n := 2) (e_dx DX1_showCharge_0 15 rfl) rfl,
  f_getf (e_dx DX1_showCharge_0 16 rfl) fX1_232 rfl (by decide) (by decide) (by decide),
  f_g14 (e_dx DX1_showCharge_0 17 rfl),
  x_callV (e_dx DX1_showCharge_0 18 rfl) mwX1_thenNumber vwX1_thenNumber cX1_317 rfl,
  f_aload_n (n := 0) (e_dx DX1_showCharge_0 19 rfl) rfl,
  x_callV (e_dx DX1_showCharge_0 20 rfl) mwX1_endLine vwX1_endLine cX1_282 rfl,
  f_iconst (e_dx DX1_showCharge_0 21 rfl) ⟨by decide, by decide⟩,
  f_istore_n (n := 3) (e_dx DX1_showCharge_0 22 rfl) rfl (by decide),
  trivial,
  f_iload_n (n := 3) (e_dx DX1_showCharge_0 23 rfl) rfl,
  f_aload_n (n := 2) (e_dx DX1_showCharge_0 24 rfl) rfl,
  f_getA (e_dx DX1_showCharge_0 25 rfl) fX1_191 rfl (by decide) (Nat.le_of_ble_eq_true rfl) rfl (by decide),
  f_getf (e_dx DX1_showCharge_0 26 rfl) fX1_228 rfl (by decide) (by decide) (by decide),
  f_icmp_ge (e_dx DX1_showCharge_0 27 rfl) rfl,
  f_aload_n (n := 0) (e_dx DX1_showCharge_0 28 rfl) rfl,
  f_getA (e_dx DX1_showCharge_0 29 rfl) fX1_31 rfl (by decide) (Nat.le_of_ble_eq_true rfl) rfl (by decide),
  f_aload_n (n := 2) (e_dx DX1_showCharge_0 30 rfl) rfl,
  f_getA (e_dx DX1_showCharge_0 31 rfl) fX1_191 rfl (by decide) (Nat.le_of_ble_eq_true rfl) rfl (by decide),
  f_iload_n (n := 3) (e_dx DX1_showCharge_0 32 rfl) rfl,
  x_callV (e_dx DX1_showCharge_0 33 rfl) mwX8_get vwX8_get cX1_229 rfl,
  x_callV (e_dx DX1_showCharge_0 34 rfl) mwX10_lot vwX10_lot cX1_139 rfl,
  f_astore (e_dx DX1_showCharge_0 35 rfl) (by decide),
  f_aload_n (n := 0) (e_dx DX1_showCharge_0 36 rfl) rfl,
  f_ldcSw (i := 21) (tx := "on") (e_dx DX1_showCharge_0 37 rfl) (by decide) (by decide) rfl rfl,
  x_callV (e_dx DX1_showCharge_0 38 rfl) mwX1_putText vwX1_putText cX1_273 rfl,
  f_aload_n (n := 0) (e_dx DX1_showCharge_0 39 rfl) rfl,
  f_aload (e_dx DX1_showCharge_1 0 rfl),
  f_getL (e_dx DX1_showCharge_1 1 rfl) fX1_357 rfl (by decide),
  x_callV (e_dx DX1_showCharge_1 2 rfl) mwX1_thenWord vwX1_thenWord cX1_277 rfl,
  f_aload_n (n := 0) (e_dx DX1_showCharge_1 3 rfl) rfl,
  f_aload (e_dx DX1_showCharge_1 4 rfl),
  f_getA (e_dx DX1_showCharge_1 5 rfl) fX1_225 rfl (by decide) (Nat.le_of_ble_eq_true rfl) rfl (by decide),
  f_iload_n (n := 1) (e_dx DX1_showCharge_1 6 rfl) rfl,
  x_callV (e_dx DX1_showCharge_1 7 rfl) mwX8_find vwX8_find cX1_360 rfl,
  f_iconst (e_dx DX1_showCharge_1 8 rfl) ⟨by decide, by decide⟩,
  f_iadd (e_dx DX1_showCharge_1 9 rfl),
  f_g14 (e_dx DX1_showCharge_1 10 rfl),
  x_callV (e_dx DX1_showCharge_1 11 rfl) mwX1_thenNumber vwX1_thenNumber cX1_317 rfl,
  f_aload_n (n := 0) (e_dx DX1_showCharge_1 12 rfl) rfl,
  x_callV (e_dx DX1_showCharge_1 13 rfl) mwX1_endLine vwX1_endLine cX1_282 rfl,
  f_g8 (e_dx DX1_showCharge_1 14 rfl) ⟨by decide, by decide⟩,
  f_g19 (e_dx DX1_showCharge_1 15 rfl) rfl,
  ⟨(e_dx DX1_showCharge_1 16 rfl), rfl⟩, trivial⟩
def lX1_showCharge (c_X10_at : Nat → Int → Int → e_M → (Nat → Prop) → Prop) (c_X10_nameOf : Nat → Int → Int → e_M → (Int → Prop) → Prop) (c_X1_thenWord : Int → e_M → (e_M → Prop) → Prop) (c_X1_thenNumber : Int → e_M → (e_M → Prop) → Prop) (c_X1_endLine : e_M → (e_M → Prop) → Prop) (c_X8_get : Nat → Int → e_M → (Int → Prop) → Prop) (c_X10_lot : Nat → Int → e_M → (Nat → Prop) → Prop) (c_X1_putText : Nat → Nat → e_M → (e_M → Prop) → Prop) (c_X8_find : Nat → Int → e_M → (Int → Prop) → Prop) : List (Nat × f_Wt) := [(0, f_wm [(3, 10, 15), (1, 0, 0), (1, 0, 0)] (fun ar M R => c_X10_at (f_va (f_nth ar 0)) (f_vi (f_nth ar 1)) (f_vi (f_nth ar 2)) M (fun r => R (some (.inr (.inr (.inl (9, 14, r))))) M))), (1, f_wm [(3, 10, 15), (1, 0, 0), (1, 0, 0)] (fun ar M R => c_X10_nameOf (f_va (f_nth ar 0)) (f_vi (f_nth ar 1)) (f_vi (f_nth ar 2)) M (fun r => R (some (.inr (.inl r))) M))), (2, f_wm [(4462, 1, 7), (2, 0, 0)] (fun ar M R => c_X1_thenWord (f_vi (f_nth ar 1)) M (fun M => R none M))), (3, f_wm [(4462, 1, 7), (2, 0, 0)] (fun ar M R => c_X1_thenNumber (f_vi (f_nth ar 1)) M (fun M => R none M))), (4, f_wm [(4462, 1, 7)] (fun ar M R => c_X1_endLine  M (fun M => R none M))), (5, f_wm [(3, 8, 2), (1, 0, 0)] (fun ar M R => c_X8_get (f_va (f_nth ar 0)) (f_vi (f_nth ar 1)) M (fun r => R (some (.inl r)) M))), (6, f_wm [(3, 10, 15), (1, 0, 0)] (fun ar M R => c_X10_lot (f_va (f_nth ar 0)) (f_vi (f_nth ar 1)) M (fun r => R (some (.inr (.inr (.inl (4, 9, r))))) M))), (7, f_wm [(4462, 1, 7), (4, 0, 0)] (fun ar M R => c_X1_putText (f_vn (f_nth ar 1)) (f_va (f_nth ar 1)) M (fun M => R none M))), (8, f_wm [(3, 8, 2), (1, 0, 0)] (fun ar M R => c_X8_find (f_va (f_nth ar 0)) (f_vi (f_nth ar 1)) M (fun r => R (some (.inl r)) M)))]
set_option maxRecDepth 20000 in
theorem BX1_showCharge_41 {sh : Nat → Nat × Nat} {t : Nat} {rm : Nat × Nat × Nat} {cs : Nat × Nat} {R : f_Rt} {c_X10_at : Nat → Int → Int → e_M → (Nat → Prop) → Prop} {c_X10_nameOf : Nat → Int → Int → e_M → (Int → Prop) → Prop} {c_X1_thenWord : Int → e_M → (e_M → Prop) → Prop} {c_X1_thenNumber : Int → e_M → (e_M → Prop) → Prop} {c_X1_endLine : e_M → (e_M → Prop) → Prop} {c_X8_get : Nat → Int → e_M → (Int → Prop) → Prop} {c_X10_lot : Nat → Int → e_M → (Nat → Prop) → Prop} {c_X1_putText : Nat → Nat → e_M → (e_M → Prop) → Prop} {c_X8_find : Nat → Int → e_M → (Int → Prop) → Prop} {k41 : Int → Nat → Int → e_M → Prop} {x1 : Int} {a2 : Nat} {x3 : Int} {M : e_M} (C : f_Hy sh t yX1_showCharge rm cs 7 (lX1_showCharge c_X10_at c_X10_nameOf c_X1_thenWord c_X1_thenNumber c_X1_endLine c_X8_get c_X10_lot c_X1_putText c_X8_find) R) (h41 : ∀ (x1 : Int) (a2 : Nat) (x3 : Int) (M : e_M), k41 x1 a2 x3 M → f_E sh t YX1_showCharge rm cs (f_Q sh t R) 41 [.inr (.inr (.inl (1, 7, 4452))), .inl x1, .inr (.inr (.inl (9, 14, a2))), .inl x3, .inr (.inr (.inr ()))] [] M) (h : VX1_showCharge_41 c_X10_at c_X10_nameOf c_X1_thenWord c_X1_thenNumber c_X1_endLine c_X8_get c_X10_lot c_X1_putText c_X8_find k41 (fun M => R none M) x1 a2 x3 M) : f_E sh t YX1_showCharge rm cs (f_Q sh t R) 41 [.inr (.inr (.inl (1, 7, 4452))), .inl x1, .inr (.inr (.inl (9, 14, a2))), .inl x3, .inr (.inr (.inr ()))] [] M :=
  f_go (KC := f_kc [(41, f_pl [(4462, 1, 7), (1, 0, 0), (3, 9, 14), (1, 0, 0), (0, 0, 0)] [] (fun ls st M => k41 (f_vi (f_nth ls 1)) (f_va (f_nth ls 2)) (f_vi (f_nth ls 3)) M))]) C qX1_showChargef (f_kc_cons (f_pl_ok rfl (fun ls st M h => h41 _ _ _ M h)) f_kc_nil) 60 24 h
set_option maxRecDepth 20000 in
theorem BX1_showCharge {sh : Nat → Nat × Nat} {t : Nat} {rm : Nat × Nat × Nat} {cs : Nat × Nat} {R : f_Rt} {c_X10_at : Nat → Int → Int → e_M → (Nat → Prop) → Prop} {c_X10_nameOf : Nat → Int → Int → e_M → (Int → Prop) → Prop} {c_X1_thenWord : Int → e_M → (e_M → Prop) → Prop} {c_X1_thenNumber : Int → e_M → (e_M → Prop) → Prop} {c_X1_endLine : e_M → (e_M → Prop) → Prop} {c_X8_get : Nat → Int → e_M → (Int → Prop) → Prop} {c_X10_lot : Nat → Int → e_M → (Nat → Prop) → Prop} {c_X1_putText : Nat → Nat → e_M → (e_M → Prop) → Prop} {c_X8_find : Nat → Int → e_M → (Int → Prop) → Prop} {k41 : Int → Nat → Int → e_M → Prop} {x1 : Int} {M : e_M} (C : f_Hy sh t yX1_showCharge rm cs 7 (lX1_showCharge c_X10_at c_X10_nameOf c_X1_thenWord c_X1_thenNumber c_X1_endLine c_X8_get c_X10_lot c_X1_putText c_X8_find) R) (h41 : ∀ (x1 : Int) (a2 : Nat) (x3 : Int) (M : e_M), k41 x1 a2 x3 M → f_E sh t YX1_showCharge rm cs (f_Q sh t R) 41 [.inr (.inr (.inl (1, 7, 4452))), .inl x1, .inr (.inr (.inl (9, 14, a2))), .inl x3, .inr (.inr (.inr ()))] [] M) (h : VX1_showCharge c_X10_at c_X10_nameOf c_X1_thenWord c_X1_thenNumber c_X1_endLine c_X8_get c_X10_lot c_X1_putText c_X8_find k41 (fun M => R none M) x1 M) : f_E sh t YX1_showCharge rm cs (f_Q sh t R) 0 [.inr (.inr (.inl (1, 7, 4452))), .inl x1, .inr (.inr (.inr ())), .inr (.inr (.inr ())), .inr (.inr (.inr ()))] [] M :=
  f_go (KC := f_kc [(41, f_pl [(4462, 1, 7), (1, 0, 0), (3, 9, 14), (1, 0, 0), (0, 0, 0)] [] (fun ls st M => k41 (f_vi (f_nth ls 1)) (f_va (f_nth ls 2)) (f_vi (f_nth ls 3)) M))]) C qX1_showChargef (f_kc_cons (f_pl_ok rfl (fun ls st M h => h41 _ _ _ M h)) f_kc_nil) 60 0 h
def WX1_showCharge_41 (Q : e_M → Prop) : Nat → Int → Nat → Int → e_M → Prop
  | 0, _, _, _, _ => False
  | n + 1, x1, a2, x3, M =>
    VX1_showCharge_41 WX10_at WX10_nameOf WX1_thenWord WX1_thenNumber WX1_endLine WX8_get WX10_lot WX1_putText WX8_find (WX1_showCharge_41 Q n) Q x1 a2 x3 M
def WX1_showCharge (x1 : Int) (M : e_M) (Q : e_M → Prop) : Prop :=
  VX1_showCharge WX10_at WX10_nameOf WX1_thenWord WX1_thenNumber WX1_endLine WX8_get WX10_lot WX1_putText WX8_find (fun x1 a2 x3 M => ∃ j, WX1_showCharge_41 Q j x1 a2 x3 M) Q x1 M
theorem PX1_showCharge_41 {sh : Nat → Nat × Nat} {t : Nat} {rm : Nat × Nat × Nat} {cs : Nat × Nat} {R : f_Rt} (C : f_Hy sh t yX1_showCharge rm cs 7 (lX1_showCharge WX10_at WX10_nameOf WX1_thenWord WX1_thenNumber WX1_endLine WX8_get WX10_lot WX1_putText WX8_find) R) : ∀ (n : Nat) (x1 : Int) (a2 : Nat) (x3 : Int) (M : e_M), WX1_showCharge_41 (fun M => R none M) n x1 a2 x3 M → f_E sh t YX1_showCharge rm cs (f_Q sh t R) 41 [.inr (.inr (.inl (1, 7, 4452))), .inl x1, .inr (.inr (.inl (9, 14, a2))), .inl x3, .inr (.inr (.inr ()))] [] M := by
  intro n
  induction n with
  | zero => intro x1 a2 x3 M h; exact h.elim
  | succ n ih => intro x1 a2 x3 M h; exact BX1_showCharge_41 C ih h
theorem PX1_showCharge {sh : Nat → Nat × Nat} {t : Nat} {rm : Nat × Nat × Nat} {cs : Nat × Nat} {R : f_Rt} {x1 : Int} {M : e_M} (C : f_Hy sh t yX1_showCharge rm cs 7 (lX1_showCharge WX10_at WX10_nameOf WX1_thenWord WX1_thenNumber WX1_endLine WX8_get WX10_lot WX1_putText WX8_find) R) (h : WX1_showCharge x1 M (fun M => R none M)) : f_E sh t YX1_showCharge rm cs (f_Q sh t R) 0 [.inr (.inr (.inl (1, 7, 4452))), .inl x1, .inr (.inr (.inr ())), .inr (.inr (.inr ())), .inr (.inr (.inr ()))] [] M :=
  BX1_showCharge C (fun x1 a2 x3 M ⟨j, h⟩ => PX1_showCharge_41 C j _ _ _ _ h) h
def wX1_showCharge : f_Wt := f_wm [(4462, 1, 7), (1, 0, 0)] (fun ar M R => WX1_showCharge (f_vi (f_nth ar 1)) M (fun M => R none M))
theorem TX1_showCharge {sh : Nat → Nat × Nat} {t : Nat} : f_Mt sh t YX1_showCharge 7 (wX1_showCharge) :=
  f_Mt_of (k := 3) (Nat.le_of_ble_eq_true rfl) rfl rfl (fun ar M R rm cs h1 h2 h3 hX h => PX1_showCharge ⟨Nat.le_of_ble_eq_true rfl, h1, h2, h3, ⟨(f_Mt.up (Nat.le_of_ble_eq_true rfl) TX10_at), (f_Mt.up (Nat.le_of_ble_eq_true rfl) TX10_nameOf), (f_Mt.up (Nat.le_of_ble_eq_true rfl) TX1_thenWord), (f_Mt.up (Nat.le_of_ble_eq_true rfl) TX1_thenNumber), (f_Mt.up (Nat.le_of_ble_eq_true rfl) TX1_endLine), (f_Mt.up (Nat.le_of_ble_eq_true rfl) TX8_get), (f_Mt.up (Nat.le_of_ble_eq_true rfl) TX10_lot), (f_Mt.up (Nat.le_of_ble_eq_true rfl) TX1_putText), (f_Mt.up (Nat.le_of_ble_eq_true rfl) TX8_find), trivial⟩, hX⟩ h)
def VX1_putLots_2 (c_X1_putText : Nat → Nat → e_M → (e_M → Prop) → Prop) (c_X8_get : Nat → Int → e_M → (Int → Prop) → Prop) (c_X10_nameOf : Nat → Int → Int → e_M → (Int → Prop) → Prop) (c_X1_thenWord : Int → e_M → (e_M → Prop) → Prop) (c_X1_endLine : e_M → (e_M → Prop) → Prop) (k2 : Nat → Nat → Nat → Int → e_M → Prop) (Q : e_M → Prop) (n1 : Nat) (a1 : Nat) (a2 : Nat) (x3 : Int) (M : e_M) : Prop :=
  (((M a2 1) ≤ x3 → (Q M)) ∧ (x3 < (M a2 1) → (c_X1_putText n1 a1 M (fun M1 => (c_X8_get a2 x3 M1 (fun r2 => (c_X10_nameOf ((M1 4452 3).toNat) 0 r2 M1 (fun r3 => (c_X1_thenWord r3 M1 (fun M4 => (c_X1_endLine M4 (fun M5 => (k2 n1 a1 a2 (e_w32 (x3 + 1)) M5)))))))))))))
def VX1_putLots (c_X1_putText : Nat → Nat → e_M → (e_M → Prop) → Prop) (c_X8_get : Nat → Int → e_M → (Int → Prop) → Prop) (c_X10_nameOf : Nat → Int → Int → e_M → (Int → Prop) → Prop) (c_X1_thenWord : Int → e_M → (e_M → Prop) → Prop) (c_X1_endLine : e_M → (e_M → Prop) → Prop) (k2 : Nat → Nat → Nat → Int → e_M → Prop) (Q : e_M → Prop) (n1 : Nat) (a1 : Nat) (a2 : Nat) (M : e_M) : Prop :=
  (k2 n1 a1 a2 0 M)
def yX1_putLots (i : Nat) : e_Y := x_get YX1_putLots [YX1_putText, YX8_get, YX10_nameOf, YX1_thenWord, YX1_endLine] i
def pX1_putLotsf : List x_I := [(0, 0, 1, 0, 0, 0, []), (1, 5, 1, 3, 0, 0, []), (2, 49, 0, 0, 0, 0, []), (2, 2, 1, 3, 0, 0, []), (3, 4, 1, 2, 0, 0, []), (4, 25, 8, 1, 0, 0, []), (7, 18, 42, 3, 24, 0, []), (10, 4, 1, 0, 0, 0, []), (11, 4, 1, 1, 0, 0, []), (12, 40, 0, 2, 3, 0, []), (15, 4, 1, 0, 0, 0, []), (16, 4, 1, 0, 0, 0, []), (17, 25, 1, 3, 4, 0, [(0, 10, 15), (0, 0, 0)]), (20, 0, 1, 0, 0, 0, []), (21, 4, 1, 2, 0, 0, []), (22, 2, 1, 3, 0, 0, []), (23, 40, 1, 2, 10, 0, []), (26, 40, 2, 3, 12, 0, []), (29, 40, 3, 2, 3, 0, []), (32, 4, 1, 0, 0, 0, []), (33, 40, 4, 1, 3, 0, []), (36, 8, 0, 3, 0, 1, []), (39, 19, 2, 0, 3, 0, []), (42, 44, 0, 0, 0, 0, [])]
set_option maxRecDepth 20000 in
theorem qX1_putLotsf : f_all yX1_putLots YX1_putLots pX1_putLotsf :=
  ⟨f_iconst (e_dx DX1_putLots_0 0 rfl) ⟨by decide, by decide⟩,
  f_istore_n (n := 3) (e_dx DX1_putLots_0 1 rfl) rfl (by decide),
  trivial,
  f_iload_n (n := 3) (e_dx DX1_putLots_0 2 rfl) rfl,
  f_aload_n (n := 2) (e_dx DX1_putLots_0 3 rfl) rfl,
  f_getf (e_dx DX1_putLots_0 4 rfl) fX1_228 rfl (by decide) (by decide) (by decide),
  f_icmp_ge (e_dx DX1_putLots_0 5 rfl) rfl,
  f_aload_n (n := 0) (e_dx DX1_putLots_0 6 rfl) rfl,
  f_aload_n (n := 1) (e_dx DX1_putLots_0 7 rfl) rfl,
  x_callV (e_dx DX1_putLots_0 8 rfl) mwX1_putText vwX1_putText cX1_273 rfl,
  f_aload_n (n := 0) (e_dx DX1_putLots_0 9 rfl) rfl,
  f_aload_n (n := 0) (e_dx DX1_putLots_0 10 rfl) rfl,
  f_getA (e_dx DX1_putLots_0 11 rfl) fX1_31 rfl (by decide) (Nat.le_of_ble_eq_true rfl) rfl (by decide),
  f_iconst (e_dx DX1_putLots_0 12 rfl) ⟨by decide, by decide⟩,
  f_aload_n (n := 2) (e_dx DX1_putLots_0 13 rfl) rfl,
  f_iload_n (n := 3) (e_dx DX1_putLots_0 14 rfl) rfl,
  x_callV (e_dx DX1_putLots_0 15 rfl) mwX8_get vwX8_get cX1_229 rfl,
  x_callV (e_dx DX1_putLots_0 16 rfl) mwX10_nameOf vwX10_nameOf cX1_120 rfl,
  x_callV (e_dx DX1_putLots_0 17 rfl) mwX1_thenWord vwX1_thenWord cX1_277 rfl,
  f_aload_n (n := 0) (e_dx DX1_putLots_0 18 rfl) rfl,
  x_callV (e_dx DX1_putLots_0 19 rfl) mwX1_endLine vwX1_endLine cX1_282 rfl,
  f_g8 (e_dx DX1_putLots_0 20 rfl) ⟨by decide, by decide⟩,
  f_g19 (e_dx DX1_putLots_0 21 rfl) rfl,
  ⟨(e_dx DX1_putLots_0 22 rfl), rfl⟩, trivial⟩
def lX1_putLots (c_X1_putText : Nat → Nat → e_M → (e_M → Prop) → Prop) (c_X8_get : Nat → Int → e_M → (Int → Prop) → Prop) (c_X10_nameOf : Nat → Int → Int → e_M → (Int → Prop) → Prop) (c_X1_thenWord : Int → e_M → (e_M → Prop) → Prop) (c_X1_endLine : e_M → (e_M → Prop) → Prop) : List (Nat × f_Wt) := [(0, f_wm [(4462, 1, 7), (4, 0, 0)] (fun ar M R => c_X1_putText (f_vn (f_nth ar 1)) (f_va (f_nth ar 1)) M (fun M => R none M))), (1, f_wm [(3, 8, 2), (1, 0, 0)] (fun ar M R => c_X8_get (f_va (f_nth ar 0)) (f_vi (f_nth ar 1)) M (fun r => R (some (.inl r)) M))), (2, f_wm [(3, 10, 15), (1, 0, 0), (1, 0, 0)] (fun ar M R => c_X10_nameOf (f_va (f_nth ar 0)) (f_vi (f_nth ar 1)) (f_vi (f_nth ar 2)) M (fun r => R (some (.inr (.inl r))) M))), (3, f_wm [(4462, 1, 7), (2, 0, 0)] (fun ar M R => c_X1_thenWord (f_vi (f_nth ar 1)) M (fun M => R none M))), (4, f_wm [(4462, 1, 7)] (fun ar M R => c_X1_endLine  M (fun M => R none M)))]
set_option maxRecDepth 20000 in
theorem BX1_putLots_2 {sh : Nat → Nat × Nat} {t : Nat} {rm : Nat × Nat × Nat} {cs : Nat × Nat} {R : f_Rt} {c_X1_putText : Nat → Nat → e_M → (e_M → Prop) → Prop} {c_X8_get : Nat → Int → e_M → (Int → Prop) → Prop} {c_X10_nameOf : Nat → Int → Int → e_M → (Int → Prop) → Prop} {c_X1_thenWord : Int → e_M → (e_M → Prop) → Prop} {c_X1_endLine : e_M → (e_M → Prop) → Prop} {k2 : Nat → Nat → Nat → Int → e_M → Prop} {n1 : Nat} {a1 : Nat} {a2 : Nat} {x3 : Int} {M : e_M} (C : f_Hy sh t yX1_putLots rm cs 7 (lX1_putLots c_X1_putText c_X8_get c_X10_nameOf c_X1_thenWord c_X1_endLine) R) (h2 : ∀ (n1 : Nat) (a1 : Nat) (a2 : Nat) (x3 : Int) (M : e_M), k2 n1 a1 a2 x3 M → f_E sh t YX1_putLots rm cs (f_Q sh t R) 2 [.inr (.inr (.inl (1, 7, 4452))), .inr (.inr (.inl (115, n1, a1))), .inr (.inr (.inl (8, 2, a2))), .inl x3] [] M) (h : VX1_putLots_2 c_X1_putText c_X8_get c_X10_nameOf c_X1_thenWord c_X1_endLine k2 (fun M => R none M) n1 a1 a2 x3 M) : f_E sh t YX1_putLots rm cs (f_Q sh t R) 2 [.inr (.inr (.inl (1, 7, 4452))), .inr (.inr (.inl (115, n1, a1))), .inr (.inr (.inl (8, 2, a2))), .inl x3] [] M :=
  f_go (KC := f_kc [(2, f_pl [(4462, 1, 7), (4, 0, 0), (3, 8, 2), (1, 0, 0)] [] (fun ls st M => k2 (f_vn (f_nth ls 1)) (f_va (f_nth ls 1)) (f_va (f_nth ls 2)) (f_vi (f_nth ls 3)) M))]) C qX1_putLotsf (f_kc_cons (f_pl_ok rfl (fun ls st M h => h2 _ _ _ _ M h)) f_kc_nil) 26 3 h
set_option maxRecDepth 20000 in
theorem BX1_putLots {sh : Nat → Nat × Nat} {t : Nat} {rm : Nat × Nat × Nat} {cs : Nat × Nat} {R : f_Rt} {c_X1_putText : Nat → Nat → e_M → (e_M → Prop) → Prop} {c_X8_get : Nat → Int → e_M → (Int → Prop) → Prop} {c_X10_nameOf : Nat → Int → Int → e_M → (Int → Prop) → Prop} {c_X1_thenWord : Int → e_M → (e_M → Prop) → Prop} {c_X1_endLine : e_M → (e_M → Prop) → Prop} {k2 : Nat → Nat → Nat → Int → e_M → Prop} {n1 : Nat} {a1 : Nat} {a2 : Nat} {M : e_M} (C : f_Hy sh t yX1_putLots rm cs 7 (lX1_putLots c_X1_putText c_X8_get c_X10_nameOf c_X1_thenWord c_X1_endLine) R) (h2 : ∀ (n1 : Nat) (a1 : Nat) (a2 : Nat) (x3 : Int) (M : e_M), k2 n1 a1 a2 x3 M → f_E sh t YX1_putLots rm cs (f_Q sh t R) 2 [.inr (.inr (.inl (1, 7, 4452))), .inr (.inr (.inl (115, n1, a1))), .inr (.inr (.inl (8, 2, a2))), .inl x3] [] M) (h : VX1_putLots c_X1_putText c_X8_get c_X10_nameOf c_X1_thenWord c_X1_endLine k2 (fun M => R none M) n1 a1 a2 M) : f_E sh t YX1_putLots rm cs (f_Q sh t R) 0 [.inr (.inr (.inl (1, 7, 4452))), .inr (.inr (.inl (115, n1, a1))), .inr (.inr (.inl (8, 2, a2))), .inr (.inr (.inr ()))] [] M :=
  f_go (KC := f_kc [(2, f_pl [(4462, 1, 7), (4, 0, 0), (3, 8, 2), (1, 0, 0)] [] (fun ls st M => k2 (f_vn (f_nth ls 1)) (f_va (f_nth ls 1)) (f_va (f_nth ls 2)) (f_vi (f_nth ls 3)) M))]) C qX1_putLotsf (f_kc_cons (f_pl_ok rfl (fun ls st M h => h2 _ _ _ _ M h)) f_kc_nil) 26 0 h
def WX1_putLots_2 (Q : e_M → Prop) : Nat → Nat → Nat → Nat → Int → e_M → Prop
  | 0, _, _, _, _, _ => False
  | n + 1, n1, a1, a2, x3, M =>
    VX1_putLots_2 WX1_putText WX8_get WX10_nameOf WX1_thenWord WX1_endLine (WX1_putLots_2 Q n) Q n1 a1 a2 x3 M
def WX1_putLots (n1 : Nat) (a1 : Nat) (a2 : Nat) (M : e_M) (Q : e_M → Prop) : Prop :=
  VX1_putLots WX1_putText WX8_get WX10_nameOf WX1_thenWord WX1_endLine (fun n1 a1 a2 x3 M => ∃ j, WX1_putLots_2 Q j n1 a1 a2 x3 M) Q n1 a1 a2 M
theorem PX1_putLots_2 {sh : Nat → Nat × Nat} {t : Nat} {rm : Nat × Nat × Nat} {cs : Nat × Nat} {R : f_Rt} (C : f_Hy sh t yX1_putLots rm cs 7 (lX1_putLots WX1_putText WX8_get WX10_nameOf WX1_thenWord WX1_endLine) R) : ∀ (n : Nat) (n1 : Nat) (a1 : Nat) (a2 : Nat) (x3 : Int) (M : e_M), WX1_putLots_2 (fun M => R none M) n n1 a1 a2 x3 M → f_E sh t YX1_putLots rm cs (f_Q sh t R) 2 [.inr (.inr (.inl (1, 7, 4452))), .inr (.inr (.inl (115, n1, a1))), .inr (.inr (.inl (8, 2, a2))), .inl x3] [] M := by
  intro n
  induction n with
  | zero => intro n1 a1 a2 x3 M h; exact h.elim
  | succ n ih => intro n1 a1 a2 x3 M h; exact BX1_putLots_2 C ih h
theorem PX1_putLots {sh : Nat → Nat × Nat} {t : Nat} {rm : Nat × Nat × Nat} {cs : Nat × Nat} {R : f_Rt} {n1 : Nat} {a1 : Nat} {a2 : Nat} {M : e_M} (C : f_Hy sh t yX1_putLots rm cs 7 (lX1_putLots WX1_putText WX8_get WX10_nameOf WX1_thenWord WX1_endLine) R) (h : WX1_putLots n1 a1 a2 M (fun M => R none M)) : f_E sh t YX1_putLots rm cs (f_Q sh t R) 0 [.inr (.inr (.inl (1, 7, 4452))), .inr (.inr (.inl (115, n1, a1))), .inr (.inr (.inl (8, 2, a2))), .inr (.inr (.inr ()))] [] M :=
  BX1_putLots C (fun n1 a1 a2 x3 M ⟨j, h⟩ => PX1_putLots_2 C j _ _ _ _ _ h) h
def wX1_putLots : f_Wt := f_wm [(4462, 1, 7), (4, 0, 0), (3, 8, 2)] (fun ar M R => WX1_putLots (f_vn (f_nth ar 1)) (f_va (f_nth ar 1)) (f_va (f_nth ar 2)) M (fun M => R none M))
theorem TX1_putLots {sh : Nat → Nat × Nat} {t : Nat} : f_Mt sh t YX1_putLots 7 (wX1_putLots) :=
  f_Mt_of (k := 1) (Nat.le_of_ble_eq_true rfl) rfl rfl (fun ar M R rm cs h1 h2 h3 hX h => PX1_putLots ⟨Nat.le_of_ble_eq_true rfl, h1, h2, h3, ⟨(f_Mt.up (Nat.le_of_ble_eq_true rfl) TX1_putText), (f_Mt.up (Nat.le_of_ble_eq_true rfl) TX8_get), (f_Mt.up (Nat.le_of_ble_eq_true rfl) TX10_nameOf), (f_Mt.up (Nat.le_of_ble_eq_true rfl) TX1_thenWord), (f_Mt.up (Nat.le_of_ble_eq_true rfl) TX1_endLine), trivial⟩, hX⟩ h)
def VX1_showServe (c_X1_thenKind : Int → e_M → (e_M → Prop) → Prop) (c_X1_endLine : e_M → (e_M → Prop) → Prop) (c_X1_putLots : Nat → Nat → Nat → e_M → (e_M → Prop) → Prop) (Q : e_M → Prop) (a1 : Nat) (M : e_M) : Prop :=
  (c_X1_thenKind (M a1 7) M (fun M1 => (c_X1_endLine M1 (fun M2 => (c_X1_putLots 2 1000027 ((M2 a1 9).toNat) M2 (fun M3 => (c_X1_putLots 4 1000028 ((M3 a1 10).toNat) M3 (fun M4 => (Q M4)))))))))
def yX1_showServe (i : Nat) : e_Y := x_get YX1_showServe [YX1_thenKind, YX1_endLine, YX1_putLots] i
def pX1_showServef : List x_I := [(0, 4, 1, 0, 0, 0, []), (1, 4, 1, 1, 0, 0, []), (2, 25, 9, 7, 0, 0, []), (5, 40, 0, 2, 3, 0, []), (8, 4, 1, 0, 0, 0, []), (9, 40, 1, 1, 3, 0, []), (12, 4, 1, 0, 0, 0, []), (13, 38, 3, 1000027, 2, 0, []), (16, 4, 1, 1, 0, 0, []), (17, 25, 9, 9, 4, 0, [(0, 8, 2), (0, 0, 0)]), (20, 40, 2, 3, 3, 0, []), (23, 4, 1, 0, 0, 0, []), (24, 38, 3, 1000028, 4, 0, []), (27, 4, 1, 1, 0, 0, []), (28, 25, 9, 10, 4, 0, [(0, 8, 2), (0, 0, 0)]), (31, 40, 2, 3, 3, 0, []), (34, 44, 0, 0, 0, 0, [])]
set_option maxRecDepth 20000 in
theorem qX1_showServef : f_all yX1_showServe YX1_showServe pX1_showServef :=
  ⟨f_aload_n (n := 0) (e_dx DX1_showServe_0 0 rfl) rfl,
  f_aload_n (n := 1) (e_dx DX1_showServe_0 1 rfl) rfl,
  f_getf (e_dx DX1_showServe_0 2 rfl) fX1_239 rfl (by decide) (by decide) (by decide),
  x_callV (e_dx DX1_showServe_0 3 rfl) mwX1_thenKind vwX1_thenKind cX1_347 rfl,
  f_aload_n (n := 0) (e_dx DX1_showServe_0 4 rfl) rfl,
  x_callV (e_dx DX1_showServe_0 5 rfl) mwX1_endLine vwX1_endLine cX1_282 rfl,
  f_aload_n (n := 0) (e_dx DX1_showServe_0 6 rfl) rfl,
  f_ldcSw (i := 22) (tx := "of") (e_dx DX1_showServe_0 7 rfl) (by decide) (by decide) rfl rfl,
  f_aload_n (n := 1) (e_dx DX1_showServe_0 8 rfl) rfl,
  f_getA (e_dx DX1_showServe_0 9 rfl) fX1_191 rfl (by decide) (Nat.le_of_ble_eq_true rfl) rfl (by decide),
  x_callV (e_dx DX1_showServe_0 10 rfl) mwX1_putLots vwX1_putLots cX1_364 rfl,
  f_aload_n (n := 0) (e_dx DX1_showServe_0 11 rfl) rfl,
  f_ldcSw (i := 23) (tx := "over") (e_dx DX1_showServe_0 12 rfl) (by decide) (by decide) rfl rfl,
  f_aload_n (n := 1) (e_dx DX1_showServe_0 13 rfl) rfl,
  f_getA (e_dx DX1_showServe_0 14 rfl) fX1_182 rfl (by decide) (Nat.le_of_ble_eq_true rfl) rfl (by decide),
  x_callV (e_dx DX1_showServe_0 15 rfl) mwX1_putLots vwX1_putLots cX1_364 rfl,
  ⟨(e_dx DX1_showServe_0 16 rfl), rfl⟩, trivial⟩
def lX1_showServe (c_X1_thenKind : Int → e_M → (e_M → Prop) → Prop) (c_X1_endLine : e_M → (e_M → Prop) → Prop) (c_X1_putLots : Nat → Nat → Nat → e_M → (e_M → Prop) → Prop) : List (Nat × f_Wt) := [(0, f_wm [(4462, 1, 7), (1, 0, 0)] (fun ar M R => c_X1_thenKind (f_vi (f_nth ar 1)) M (fun M => R none M))), (1, f_wm [(4462, 1, 7)] (fun ar M R => c_X1_endLine  M (fun M => R none M))), (2, f_wm [(4462, 1, 7), (4, 0, 0), (3, 8, 2)] (fun ar M R => c_X1_putLots (f_vn (f_nth ar 1)) (f_va (f_nth ar 1)) (f_va (f_nth ar 2)) M (fun M => R none M)))]
set_option maxRecDepth 20000 in
theorem BX1_showServe {sh : Nat → Nat × Nat} {t : Nat} {rm : Nat × Nat × Nat} {cs : Nat × Nat} {R : f_Rt} {c_X1_thenKind : Int → e_M → (e_M → Prop) → Prop} {c_X1_endLine : e_M → (e_M → Prop) → Prop} {c_X1_putLots : Nat → Nat → Nat → e_M → (e_M → Prop) → Prop} {a1 : Nat} {M : e_M} (C : f_Hy sh t yX1_showServe rm cs 8 (lX1_showServe c_X1_thenKind c_X1_endLine c_X1_putLots) R) (h : VX1_showServe c_X1_thenKind c_X1_endLine c_X1_putLots (fun M => R none M) a1 M) : f_E sh t YX1_showServe rm cs (f_Q sh t R) 0 [.inr (.inr (.inl (1, 7, 4452))), .inr (.inr (.inl (9, 14, a1)))] [] M :=
  f_go (KC := f_kc []) C qX1_showServef f_kc_nil 19 0 h
def WX1_showServe (a1 : Nat) (M : e_M) (Q : e_M → Prop) : Prop :=
  VX1_showServe WX1_thenKind WX1_endLine WX1_putLots Q a1 M
theorem PX1_showServe {sh : Nat → Nat × Nat} {t : Nat} {rm : Nat × Nat × Nat} {cs : Nat × Nat} {R : f_Rt} {a1 : Nat} {M : e_M} (C : f_Hy sh t yX1_showServe rm cs 8 (lX1_showServe WX1_thenKind WX1_endLine WX1_putLots) R) (h : WX1_showServe a1 M (fun M => R none M)) : f_E sh t YX1_showServe rm cs (f_Q sh t R) 0 [.inr (.inr (.inl (1, 7, 4452))), .inr (.inr (.inl (9, 14, a1)))] [] M :=
  BX1_showServe C h
def wX1_showServe : f_Wt := f_wm [(4462, 1, 7), (3, 9, 14)] (fun ar M R => WX1_showServe (f_va (f_nth ar 1)) M (fun M => R none M))
theorem TX1_showServe {sh : Nat → Nat × Nat} {t : Nat} : f_Mt sh t YX1_showServe 8 (wX1_showServe) :=
  f_Mt_of (k := 0) (Nat.le_of_ble_eq_true rfl) rfl rfl (fun ar M R rm cs h1 h2 h3 hX h => PX1_showServe ⟨Nat.le_of_ble_eq_true rfl, h1, h2, h3, ⟨(f_Mt.up (Nat.le_of_ble_eq_true rfl) TX1_thenKind), (f_Mt.up (Nat.le_of_ble_eq_true rfl) TX1_endLine), (f_Mt.up (Nat.le_of_ble_eq_true rfl) TX1_putLots), trivial⟩, hX⟩ h)
def VX1_showTerm_30 (c_X10_nameOf : Nat → Int → Int → e_M → (Int → Prop) → Prop) (c_X1_thenWord : Int → e_M → (e_M → Prop) → Prop) (c_X1_thenNumber : Int → e_M → (e_M → Prop) → Prop) (c_X1_thenDate : Int → e_M → (e_M → Prop) → Prop) (c_X1_endLine : e_M → (e_M → Prop) → Prop) (c_X1_putLots : Nat → Nat → Nat → e_M → (e_M → Prop) → Prop) (Q : e_M → Prop) (a2 : Nat) (M : e_M) : Prop :=
  (c_X1_thenDate (M a2 3) M (fun M1 => (c_X1_endLine M1 (fun M2 => (c_X1_putLots 2 1000026 ((M2 a2 9).toNat) M2 (fun M3 => (Q M3)))))))
def VX1_showTerm (c_X10_nameOf : Nat → Int → Int → e_M → (Int → Prop) → Prop) (c_X1_thenWord : Int → e_M → (e_M → Prop) → Prop) (c_X1_thenNumber : Int → e_M → (e_M → Prop) → Prop) (c_X1_thenDate : Int → e_M → (e_M → Prop) → Prop) (c_X1_endLine : e_M → (e_M → Prop) → Prop) (c_X1_putLots : Nat → Nat → Nat → e_M → (e_M → Prop) → Prop) (k30 : Nat → e_M → Prop) (Q : e_M → Prop) (x1 : Int) (a2 : Nat) (M : e_M) : Prop :=
  (c_X10_nameOf ((M 4452 3).toNat) 1 (M a2 5) M (fun r1 => (c_X1_thenWord r1 M (fun M2 => ((¬ x1 = 4 → (k30 a2 M2)) ∧ (x1 = 4 → (c_X1_thenNumber (M2 a2 6) M2 (fun M3 => (k30 a2 M3)))))))))
def yX1_showTerm (i : Nat) : e_Y := x_get YX1_showTerm [YX10_nameOf, YX1_thenWord, YX1_thenNumber, YX1_thenDate, YX1_endLine, YX1_putLots] i
def pX1_showTermf : List x_I := [(0, 4, 1, 0, 0, 0, []), (1, 4, 1, 0, 0, 0, []), (2, 25, 1, 3, 4, 0, [(0, 10, 15), (0, 0, 0)]), (5, 0, 1, 0, 0, 1, []), (6, 4, 1, 2, 0, 0, []), (7, 25, 9, 5, 0, 0, []), (10, 40, 0, 3, 12, 0, []), (13, 40, 1, 2, 3, 0, []), (16, 2, 1, 1, 0, 0, []), (17, 0, 1, 0, 0, 4, []), (18, 18, 30, 1, 17, 0, []), (21, 4, 1, 0, 0, 0, []), (22, 4, 1, 2, 0, 0, []), (23, 25, 9, 6, 0, 0, []), (26, 14, 0, 0, 0, 0, []), (27, 40, 2, 2, 3, 0, []), (30, 49, 0, 0, 0, 0, []), (30, 4, 1, 0, 0, 0, []), (31, 4, 1, 2, 0, 0, []), (32, 25, 9, 3, 0, 0, []), (35, 40, 3, 2, 3, 0, []), (38, 4, 1, 0, 0, 0, []), (39, 40, 4, 1, 3, 0, []), (42, 4, 1, 0, 0, 0, []), (43, 38, 3, 1000026, 2, 0, []), (46, 4, 1, 2, 0, 0, []), (47, 25, 9, 9, 4, 0, [(0, 8, 2), (0, 0, 0)]), (50, 40, 5, 3, 3, 0, []), (53, 44, 0, 0, 0, 0, [])]
set_option maxRecDepth 20000 in
theorem qX1_showTermf : f_all yX1_showTerm YX1_showTerm pX1_showTermf :=
  ⟨f_aload_n (n := 0) (e_dx DX1_showTerm_0 0 rfl) rfl,
  f_aload_n (n := 0) (e_dx DX1_showTerm_0 1 rfl) rfl,
  f_getA (e_dx DX1_showTerm_0 2 rfl) fX1_31 rfl (by decide) (Nat.le_of_ble_eq_true rfl) rfl (by decide),
  f_iconst (e_dx DX1_showTerm_0 3 rfl) ⟨by decide, by decide⟩,
  f_aload_n (n := 2) (e_dx DX1_showTerm_0 4 rfl) rfl,
  f_getf (e_dx DX1_showTerm_0 5 rfl) fX1_177 rfl (by decide) (by decide) (by decide),
  x_callV (e_dx DX1_showTerm_0 6 rfl) mwX10_nameOf vwX10_nameOf cX1_120 rfl,
  x_callV (e_dx DX1_showTerm_0 7 rfl) mwX1_thenWord vwX1_thenWord cX1_277 rfl,
  f_iload_n (n := 1) (e_dx DX1_showTerm_0 8 rfl) rfl,
  f_iconst (e_dx DX1_showTerm_0 9 rfl) ⟨by decide, by decide⟩,
  f_icmp_ne (e_dx DX1_showTerm_0 10 rfl) rfl,
  f_aload_n (n := 0) (e_dx DX1_showTerm_0 11 rfl) rfl,
  f_aload_n (n := 2) (e_dx DX1_showTerm_0 12 rfl) rfl,
  f_getf (e_dx DX1_showTerm_0 13 rfl) fX1_232 rfl (by decide) (by decide) (by decide),
  f_g14 (e_dx DX1_showTerm_0 14 rfl),
  x_callV (e_dx DX1_showTerm_0 15 rfl) mwX1_thenNumber vwX1_thenNumber cX1_317 rfl,
  trivial,
  f_aload_n (n := 0) (e_dx DX1_showTerm_0 16 rfl) rfl,
  f_aload_n (n := 2) (e_dx DX1_showTerm_0 17 rfl) rfl,
  f_getf (e_dx DX1_showTerm_0 18 rfl) fX1_252 rfl (by decide) (by decide) (by decide),
  x_callV (e_dx DX1_showTerm_0 19 rfl) mwX1_thenDate vwX1_thenDate cX1_354 rfl,
  f_aload_n (n := 0) (e_dx DX1_showTerm_0 20 rfl) rfl,
  x_callV (e_dx DX1_showTerm_0 21 rfl) mwX1_endLine vwX1_endLine cX1_282 rfl,
  f_aload_n (n := 0) (e_dx DX1_showTerm_0 22 rfl) rfl,
  f_ldcSw (i := 21) (tx := "on") (e_dx DX1_showTerm_0 23 rfl) (by decide) (by decide) rfl rfl,
  f_aload_n (n := 2) (e_dx DX1_showTerm_0 24 rfl) rfl,
  f_getA (e_dx DX1_showTerm_0 25 rfl) fX1_191 rfl (by decide) (Nat.le_of_ble_eq_true rfl) rfl (by decide),
  x_callV (e_dx DX1_showTerm_0 26 rfl) mwX1_putLots vwX1_putLots cX1_364 rfl,
  ⟨(e_dx DX1_showTerm_0 27 rfl), rfl⟩, trivial⟩
def lX1_showTerm (c_X10_nameOf : Nat → Int → Int → e_M → (Int → Prop) → Prop) (c_X1_thenWord : Int → e_M → (e_M → Prop) → Prop) (c_X1_thenNumber : Int → e_M → (e_M → Prop) → Prop) (c_X1_thenDate : Int → e_M → (e_M → Prop) → Prop) (c_X1_endLine : e_M → (e_M → Prop) → Prop) (c_X1_putLots : Nat → Nat → Nat → e_M → (e_M → Prop) → Prop) : List (Nat × f_Wt) := [(0, f_wm [(3, 10, 15), (1, 0, 0), (1, 0, 0)] (fun ar M R => c_X10_nameOf (f_va (f_nth ar 0)) (f_vi (f_nth ar 1)) (f_vi (f_nth ar 2)) M (fun r => R (some (.inr (.inl r))) M))), (1, f_wm [(4462, 1, 7), (2, 0, 0)] (fun ar M R => c_X1_thenWord (f_vi (f_nth ar 1)) M (fun M => R none M))), (2, f_wm [(4462, 1, 7), (2, 0, 0)] (fun ar M R => c_X1_thenNumber (f_vi (f_nth ar 1)) M (fun M => R none M))), (3, f_wm [(4462, 1, 7), (1, 0, 0)] (fun ar M R => c_X1_thenDate (f_vi (f_nth ar 1)) M (fun M => R none M))), (4, f_wm [(4462, 1, 7)] (fun ar M R => c_X1_endLine  M (fun M => R none M))), (5, f_wm [(4462, 1, 7), (4, 0, 0), (3, 8, 2)] (fun ar M R => c_X1_putLots (f_vn (f_nth ar 1)) (f_va (f_nth ar 1)) (f_va (f_nth ar 2)) M (fun M => R none M)))]
set_option maxRecDepth 20000 in
theorem BX1_showTerm_30 {sh : Nat → Nat × Nat} {t : Nat} {rm : Nat × Nat × Nat} {cs : Nat × Nat} {R : f_Rt} {c_X10_nameOf : Nat → Int → Int → e_M → (Int → Prop) → Prop} {c_X1_thenWord : Int → e_M → (e_M → Prop) → Prop} {c_X1_thenNumber : Int → e_M → (e_M → Prop) → Prop} {c_X1_thenDate : Int → e_M → (e_M → Prop) → Prop} {c_X1_endLine : e_M → (e_M → Prop) → Prop} {c_X1_putLots : Nat → Nat → Nat → e_M → (e_M → Prop) → Prop} {a2 : Nat} {M : e_M} (C : f_Hy sh t yX1_showTerm rm cs 8 (lX1_showTerm c_X10_nameOf c_X1_thenWord c_X1_thenNumber c_X1_thenDate c_X1_endLine c_X1_putLots) R) (h : VX1_showTerm_30 c_X10_nameOf c_X1_thenWord c_X1_thenNumber c_X1_thenDate c_X1_endLine c_X1_putLots (fun M => R none M) a2 M) : f_E sh t YX1_showTerm rm cs (f_Q sh t R) 30 [.inr (.inr (.inl (1, 7, 4452))), .inr (.inr (.inr ())), .inr (.inr (.inl (9, 14, a2)))] [] M :=
  f_go (KC := f_kc []) C qX1_showTermf f_kc_nil 31 17 h
set_option maxRecDepth 20000 in
theorem BX1_showTerm {sh : Nat → Nat × Nat} {t : Nat} {rm : Nat × Nat × Nat} {cs : Nat × Nat} {R : f_Rt} {c_X10_nameOf : Nat → Int → Int → e_M → (Int → Prop) → Prop} {c_X1_thenWord : Int → e_M → (e_M → Prop) → Prop} {c_X1_thenNumber : Int → e_M → (e_M → Prop) → Prop} {c_X1_thenDate : Int → e_M → (e_M → Prop) → Prop} {c_X1_endLine : e_M → (e_M → Prop) → Prop} {c_X1_putLots : Nat → Nat → Nat → e_M → (e_M → Prop) → Prop} {k30 : Nat → e_M → Prop} {x1 : Int} {a2 : Nat} {M : e_M} (C : f_Hy sh t yX1_showTerm rm cs 8 (lX1_showTerm c_X10_nameOf c_X1_thenWord c_X1_thenNumber c_X1_thenDate c_X1_endLine c_X1_putLots) R) (h30 : ∀ (a2 : Nat) (M : e_M), k30 a2 M → f_E sh t YX1_showTerm rm cs (f_Q sh t R) 30 [.inr (.inr (.inl (1, 7, 4452))), .inr (.inr (.inr ())), .inr (.inr (.inl (9, 14, a2)))] [] M) (h : VX1_showTerm c_X10_nameOf c_X1_thenWord c_X1_thenNumber c_X1_thenDate c_X1_endLine c_X1_putLots k30 (fun M => R none M) x1 a2 M) : f_E sh t YX1_showTerm rm cs (f_Q sh t R) 0 [.inr (.inr (.inl (1, 7, 4452))), .inl x1, .inr (.inr (.inl (9, 14, a2)))] [] M :=
  f_go (KC := f_kc [(30, f_pl [(4462, 1, 7), (0, 0, 0), (3, 9, 14)] [] (fun ls st M => k30 (f_va (f_nth ls 2)) M))]) C qX1_showTermf (f_kc_cons (f_pl_ok rfl (fun ls st M h => h30 _ M h)) f_kc_nil) 31 0 h
def WX1_showTerm_30 (Q : e_M → Prop) (a2 : Nat) (M : e_M) : Prop :=
  VX1_showTerm_30 WX10_nameOf WX1_thenWord WX1_thenNumber WX1_thenDate WX1_endLine WX1_putLots Q a2 M
def WX1_showTerm (x1 : Int) (a2 : Nat) (M : e_M) (Q : e_M → Prop) : Prop :=
  VX1_showTerm WX10_nameOf WX1_thenWord WX1_thenNumber WX1_thenDate WX1_endLine WX1_putLots (WX1_showTerm_30 Q) Q x1 a2 M
theorem PX1_showTerm_30 {sh : Nat → Nat × Nat} {t : Nat} {rm : Nat × Nat × Nat} {cs : Nat × Nat} {R : f_Rt} {a2 : Nat} {M : e_M} (C : f_Hy sh t yX1_showTerm rm cs 8 (lX1_showTerm WX10_nameOf WX1_thenWord WX1_thenNumber WX1_thenDate WX1_endLine WX1_putLots) R) (h : WX1_showTerm_30 (fun M => R none M) a2 M) : f_E sh t YX1_showTerm rm cs (f_Q sh t R) 30 [.inr (.inr (.inl (1, 7, 4452))), .inr (.inr (.inr ())), .inr (.inr (.inl (9, 14, a2)))] [] M :=
  BX1_showTerm_30 C h
theorem PX1_showTerm {sh : Nat → Nat × Nat} {t : Nat} {rm : Nat × Nat × Nat} {cs : Nat × Nat} {R : f_Rt} {x1 : Int} {a2 : Nat} {M : e_M} (C : f_Hy sh t yX1_showTerm rm cs 8 (lX1_showTerm WX10_nameOf WX1_thenWord WX1_thenNumber WX1_thenDate WX1_endLine WX1_putLots) R) (h : WX1_showTerm x1 a2 M (fun M => R none M)) : f_E sh t YX1_showTerm rm cs (f_Q sh t R) 0 [.inr (.inr (.inl (1, 7, 4452))), .inl x1, .inr (.inr (.inl (9, 14, a2)))] [] M :=
  BX1_showTerm C (fun a2 M h => PX1_showTerm_30 C h) h
def wX1_showTerm : f_Wt := f_wm [(4462, 1, 7), (1, 0, 0), (3, 9, 14)] (fun ar M R => WX1_showTerm (f_vi (f_nth ar 1)) (f_va (f_nth ar 2)) M (fun M => R none M))
theorem TX1_showTerm {sh : Nat → Nat × Nat} {t : Nat} : f_Mt sh t YX1_showTerm 8 (wX1_showTerm) :=
  f_Mt_of (k := 0) (Nat.le_of_ble_eq_true rfl) rfl rfl (fun ar M R rm cs h1 h2 h3 hX h => PX1_showTerm ⟨Nat.le_of_ble_eq_true rfl, h1, h2, h3, ⟨(f_Mt.up (Nat.le_of_ble_eq_true rfl) TX10_nameOf), (f_Mt.up (Nat.le_of_ble_eq_true rfl) TX1_thenWord), (f_Mt.up (Nat.le_of_ble_eq_true rfl) TX1_thenNumber), (f_Mt.up (Nat.le_of_ble_eq_true rfl) TX1_thenDate), (f_Mt.up (Nat.le_of_ble_eq_true rfl) TX1_endLine), (f_Mt.up (Nat.le_of_ble_eq_true rfl) TX1_putLots), trivial⟩, hX⟩ h)
def VX1_show_16 (c_X10_at : Nat → Int → Int → e_M → (Nat → Prop) → Prop) (c_X1_firstWord : Int → Nat → e_M → (Nat → Nat → Prop) → Prop) (c_X1_putText : Nat → Nat → e_M → (e_M → Prop) → Prop) (c_X10_nameOf : Nat → Int → Int → e_M → (Int → Prop) → Prop) (c_X1_thenWord : Int → e_M → (e_M → Prop) → Prop) (c_X10_isThere : Nat → Int → Int → e_M → (Int → Prop) → Prop) (c_X1_put : Int → e_M → (e_M → Prop) → Prop) (c_X1_endLine : e_M → (e_M → Prop) → Prop) (c_X1_showLot : Int → e_M → (e_M → Prop) → Prop) (c_X1_showPerson : Int → e_M → (e_M → Prop) → Prop) (c_X1_showCharge : Int → e_M → (e_M → Prop) → Prop) (c_X1_showServe : Nat → e_M → (e_M → Prop) → Prop) (c_X1_showTerm : Int → Nat → e_M → (e_M → Prop) → Prop) (Q : e_M → Prop) (x1 : Int) (xs1 : Int) (M : e_M) : Prop :=
  (∀ M1 : e_M, M1 = e_up M 4452 0 xs1 → ((0 ≤ x1 → (¬ (100 : Int) = 0 ∧ (¬ (100 : Int) = 0 ∧ (c_X10_at ((M1 4452 3).toNat) (e_w32 (x1.tdiv 100)) (x1.tmod 100) M1 (fun r2 => (c_X1_firstWord (e_w32 (x1.tdiv 100)) r2 M1 (fun n3 r4 => (c_X1_putText n3 r4 M1 (fun M5 => (c_X10_nameOf ((M5 4452 3).toNat) (e_w32 (x1.tdiv 100)) (x1.tmod 100) M5 (fun r6 => (c_X1_thenWord r6 M5 (fun M7 => (c_X10_isThere ((M7 4452 3).toNat) (e_w32 (x1.tdiv 100)) (x1.tmod 100) M7 (fun r8 => ((¬ r8 = 0 → ((¬ (e_w32 (x1.tdiv 100)) = 0 → ((¬ (e_w32 (x1.tdiv 100)) = 1 → ((¬ (e_w32 (x1.tdiv 100)) = 2 → ((¬ (e_w32 (x1.tdiv 100)) = 3 → (c_X10_at ((M7 4452 3).toNat) (e_w32 (x1.tdiv 100)) (x1.tmod 100) M7 (fun r9 => (c_X1_showTerm (e_w32 (x1.tdiv 100)) r9 M7 (fun M10 => (Q M10)))))) ∧ ((e_w32 (x1.tdiv 100)) = 3 → (c_X10_at ((M7 4452 3).toNat) 3 (x1.tmod 100) M7 (fun r11 => (c_X1_showServe r11 M7 (fun M12 => (Q M12)))))))) ∧ ((e_w32 (x1.tdiv 100)) = 2 → (c_X1_showCharge (x1.tmod 100) M7 (fun M13 => (Q M13)))))) ∧ ((e_w32 (x1.tdiv 100)) = 1 → (c_X1_showPerson (x1.tmod 100) M7 (fun M14 => (Q M14)))))) ∧ ((e_w32 (x1.tdiv 100)) = 0 → (c_X1_showLot (x1.tmod 100) M7 (fun M15 => (Q M15)))))) ∧ (r8 = 0 → (c_X1_put 32 M7 (fun M16 => (c_X1_putText 5 1000018 M16 (fun M17 => (c_X1_endLine M17 (fun M18 => (Q M18)))))))))))))))))))))))) ∧ (x1 < 0 → (Q M1))))
def VX1_show (c_X10_at : Nat → Int → Int → e_M → (Nat → Prop) → Prop) (c_X1_firstWord : Int → Nat → e_M → (Nat → Nat → Prop) → Prop) (c_X1_putText : Nat → Nat → e_M → (e_M → Prop) → Prop) (c_X10_nameOf : Nat → Int → Int → e_M → (Int → Prop) → Prop) (c_X1_thenWord : Int → e_M → (e_M → Prop) → Prop) (c_X10_isThere : Nat → Int → Int → e_M → (Int → Prop) → Prop) (c_X1_put : Int → e_M → (e_M → Prop) → Prop) (c_X1_endLine : e_M → (e_M → Prop) → Prop) (c_X1_showLot : Int → e_M → (e_M → Prop) → Prop) (c_X1_showPerson : Int → e_M → (e_M → Prop) → Prop) (c_X1_showCharge : Int → e_M → (e_M → Prop) → Prop) (c_X1_showServe : Nat → e_M → (e_M → Prop) → Prop) (c_X1_showTerm : Int → Nat → e_M → (e_M → Prop) → Prop) (k16 : Int → Int → e_M → Prop) (Q : e_M → Prop) (x1 : Int) (M : e_M) : Prop :=
  ((0 ≤ x1 → (¬ (100 : Int) = 0 ∧ (k16 x1 (e_w32 (x1.tdiv 100)) M))) ∧ (x1 < 0 → (k16 x1 (-1) M)))
def yX1_show (i : Nat) : e_Y := x_get YX1_show [YX10_at, YX1_firstWord, YX1_putText, YX10_nameOf, YX1_thenWord, YX10_isThere, YX1_put, YX1_endLine, YX1_showLot, YX1_showPerson, YX1_showCharge, YX1_showServe, YX1_showTerm] i
def pX1_showf : List x_I := [(0, 4, 1, 0, 0, 0, []), (1, 2, 1, 1, 0, 0, []), (2, 17, 11, 3, 6, 0, []), (5, 1, 3, 0, 0, (-1), []), (8, 19, 16, 0, 10, 0, []), (11, 2, 1, 1, 0, 0, []), (12, 0, 2, 0, 0, 100, []), (14, 9, 0, 3, 0, 0, []), (15, 14, 0, 0, 0, 0, []), (16, 49, 0, 0, 0, 0, []), (16, 26, 1, 0, 3, 0, []), (19, 2, 1, 1, 0, 0, []), (20, 17, 24, 3, 15, 0, []), (23, 44, 0, 0, 0, 0, []), (24, 2, 1, 1, 0, 0, []), (25, 0, 2, 0, 0, 100, []), (27, 9, 0, 3, 0, 0, []), (28, 5, 1, 2, 0, 0, []), (29, 2, 1, 1, 0, 0, []), (30, 0, 2, 0, 0, 100, []), (32, 9, 0, 4, 0, 0, []), (33, 5, 1, 3, 0, 0, []), (34, 4, 1, 0, 0, 0, []), (35, 2, 1, 2, 0, 0, []), (36, 4, 1, 0, 0, 0, []), (37, 25, 1, 3, 4, 0, [(0, 10, 15), (0, 0, 0)]), (40, 2, 1, 2, 0, 0, []), (41, 2, 1, 3, 0, 0, []), (42, 40, 0, 3, 12, 0, []), (45, 40, 1, 2, 0, 0, []), (48, 40, 2, 2, 3, 0, []), (51, 4, 1, 0, 0, 0, []), (52, 4, 1, 0, 0, 0, []), (53, 25, 1, 3, 4, 0, [(0, 10, 15), (0, 0, 0)]), (56, 2, 1, 2, 0, 0, []), (57, 2, 1, 3, 0, 0, []), (58, 40, 3, 3, 12, 0, []), (61, 40, 4, 2, 3, 0, []), (64, 4, 1, 0, 0, 0, []), (65, 25, 1, 3, 4, 0, [(0, 10, 15), (0, 0, 0)]), (68, 2, 1, 2, 0, 0, []), (69, 2, 1, 3, 0, 0, []), (70, 40, 5, 3, 12, 0, []), (73, 17, 96, 1, 54, 0, []), (76, 4, 1, 0, 0, 0, []), (77, 0, 2, 0, 0, 32, []), (79, 40, 6, 2, 3, 0, []), (82, 4, 1, 0, 0, 0, []), (83, 38, 3, 1000018, 5, 0, []), (86, 40, 2, 2, 3, 0, []), (89, 4, 1, 0, 0, 0, []), (90, 40, 7, 1, 3, 0, []), (93, 19, 169, 0, 93, 0, []), (96, 2, 1, 2, 0, 0, []), (97, 17, 108, 1, 60, 0, []), (100, 4, 1, 0, 0, 0, []), (101, 2, 1, 3, 0, 0, []), (102, 40, 8, 2, 3, 0, []), (105, 19, 169, 0, 93, 0, []), (108, 2, 1, 2, 0, 0, []), (109, 0, 1, 0, 0, 1, []), (110, 18, 121, 1, 67, 0, []), (113, 4, 1, 0, 0, 0, []), (114, 2, 1, 3, 0, 0, []), (115, 40, 9, 2, 3, 0, []), (118, 19, 169, 0, 93, 0, []), (121, 2, 1, 2, 0, 0, []), (122, 0, 1, 0, 0, 2, []), (123, 18, 134, 1, 74, 0, []), (126, 4, 1, 0, 0, 0, []), (127, 2, 1, 3, 0, 0, []), (128, 40, 10, 2, 3, 0, []), (131, 19, 169, 0, 93, 0, []), (134, 2, 1, 2, 0, 0, []), (135, 0, 1, 0, 0, 3, []), (136, 18, 155, 1, 85, 0, []), (139, 4, 1, 0, 0, 0, []), (140, 4, 1, 0, 0, 0, []), (141, 25, 1, 3, 4, 0, [(0, 10, 15), (0, 0, 0)]), (144, 0, 1, 0, 0, 3, []), (145, 2, 1, 3, 0, 0, []), (146, 40, 0, 3, 12, 0, []), (149, 40, 11, 2, 3, 0, []), (152, 19, 169, 0, 93, 0, []), (155, 4, 1, 0, 0, 0, []), (156, 2, 1, 2, 0, 0, []), (157, 4, 1, 0, 0, 0, []), (158, 25, 1, 3, 4, 0, [(0, 10, 15), (0, 0, 0)]), (161, 2, 1, 2, 0, 0, []), (162, 2, 1, 3, 0, 0, []), (163, 40, 0, 3, 12, 0, []), (166, 40, 12, 3, 3, 0, []), (169, 44, 0, 0, 0, 0, [])]
set_option maxRecDepth 20000 in
theorem qX1_showf : f_all yX1_show YX1_show pX1_showf :=
  ⟨f_aload_n (n := 0) (e_dx DX1_show_0 0 rfl) rfl,
  f_iload_n (n := 1) (e_dx DX1_show_0 1 rfl) rfl,
  f_if_ge (e_dx DX1_show_0 2 rfl) rfl,
  f_ldc2 (e_dx DX1_show_0 3 rfl) hX1_267 rfl ⟨by decide, by decide⟩,
  f_g19 (e_dx DX1_show_0 4 rfl) rfl,
  f_iload_n (n := 1) (e_dx DX1_show_0 5 rfl) rfl,
  f_bipush (e_dx DX1_show_0 6 rfl) ⟨by decide, by decide⟩,
  f_idiv (e_dx DX1_show_0 7 rfl),
  f_g14 (e_dx DX1_show_0 8 rfl),
  trivial,
  f_putn (e_dx DX1_show_0 9 rfl) fX1_9 (fun q hq => by cases hq; rfl) rfl (Or.inr (Or.inr rfl)) (by decide),
  f_iload_n (n := 1) (e_dx DX1_show_0 10 rfl) rfl,
  f_if_ge (e_dx DX1_show_0 11 rfl) rfl,
  ⟨(e_dx DX1_show_0 12 rfl), rfl⟩,
  f_iload_n (n := 1) (e_dx DX1_show_0 13 rfl) rfl,
  f_bipush (e_dx DX1_show_0 14 rfl) ⟨by decide, by decide⟩,
  f_idiv (e_dx DX1_show_0 15 rfl),
  f_istore_n (n := 2) (e_dx DX1_show_0 16 rfl) rfl (by decide),
  f_iload_n (n := 1) (e_dx DX1_show_0 17 rfl) rfl,
  f_bipush (e_dx DX1_show_0 18 rfl) ⟨by decide, by decide⟩,
  f_irem (e_dx DX1_show_0 19 rfl),
  f_istore_n (n := 3) (e_dx DX1_show_0 20 rfl) rfl (by decide),
  f_aload_n (n := 0) (e_dx DX1_show_0 21 rfl) rfl,
  f_iload_n (n := 2) (e_dx DX1_show_0 22 rfl) rfl,
  f_aload_n (n := 0) (e_dx DX1_show_0 23 rfl) rfl,
  f_getA (e_dx DX1_show_0 24 rfl) fX1_31 rfl (by decide) (Nat.le_of_ble_eq_true rfl) rfl (by decide),
  f_iload_n (n := 2) (e_dx DX1_show_0 25 rfl) rfl,
  f_iload_n (n := 3) (e_dx DX1_show_0 26 rfl) rfl,
  x_callV (e_dx DX1_show_0 27 rfl) mwX10_at vwX10_at cX1_173 rfl,
  x_callS (e_dx DX1_show_0 28 rfl) mwX1_firstWord cX1_269 swX1_firstWord rfl,
  x_callV (e_dx DX1_show_0 29 rfl) mwX1_putText vwX1_putText cX1_273 rfl,
  f_aload_n (n := 0) (e_dx DX1_show_0 30 rfl) rfl,
  f_aload_n (n := 0) (e_dx DX1_show_0 31 rfl) rfl,
  f_getA (e_dx DX1_show_0 32 rfl) fX1_31 rfl (by decide) (Nat.le_of_ble_eq_true rfl) rfl (by decide),
  f_iload_n (n := 2) (e_dx DX1_show_0 33 rfl) rfl,
  f_iload_n (n := 3) (e_dx DX1_show_0 34 rfl) rfl,
  x_callV (e_dx DX1_show_0 35 rfl) mwX10_nameOf vwX10_nameOf cX1_120 rfl,
  x_callV (e_dx DX1_show_0 36 rfl) mwX1_thenWord vwX1_thenWord cX1_277 rfl,
  f_aload_n (n := 0) (e_dx DX1_show_0 37 rfl) rfl,
  f_getA (e_dx DX1_show_0 38 rfl) fX1_31 rfl (by decide) (Nat.le_of_ble_eq_true rfl) rfl (by decide),
  f_iload_n (n := 2) (e_dx DX1_show_0 39 rfl) rfl,
  f_iload_n (n := 3) (e_dx DX1_show_1 0 rfl) rfl,
  x_callV (e_dx DX1_show_1 1 rfl) mwX10_isThere vwX10_isThere cX1_106 rfl,
  f_if_ne (e_dx DX1_show_1 2 rfl) rfl,
  f_aload_n (n := 0) (e_dx DX1_show_1 3 rfl) rfl,
  f_bipush (e_dx DX1_show_1 4 rfl) ⟨by decide, by decide⟩,
  x_callV (e_dx DX1_show_1 5 rfl) mwX1_put vwX1_put cX1_98 rfl,
  f_aload_n (n := 0) (e_dx DX1_show_1 6 rfl) rfl,
  f_ldcSw (i := 13) (tx := "ended") (e_dx DX1_show_1 7 rfl) (by decide) (by decide) rfl rfl,
  x_callV (e_dx DX1_show_1 8 rfl) mwX1_putText vwX1_putText cX1_273 rfl,
  f_aload_n (n := 0) (e_dx DX1_show_1 9 rfl) rfl,
  x_callV (e_dx DX1_show_1 10 rfl) mwX1_endLine vwX1_endLine cX1_282 rfl,
  f_g19 (e_dx DX1_show_1 11 rfl) rfl,
  f_iload_n (n := 2) (e_dx DX1_show_1 12 rfl) rfl,
  f_if_ne (e_dx DX1_show_1 13 rfl) rfl,
  f_aload_n (n := 0) (e_dx DX1_show_1 14 rfl) rfl,
  f_iload_n (n := 3) (e_dx DX1_show_1 15 rfl) rfl,
  x_callV (e_dx DX1_show_1 16 rfl) mwX1_showLot vwX1_showLot cX1_285 rfl,
  f_g19 (e_dx DX1_show_1 17 rfl) rfl,
  f_iload_n (n := 2) (e_dx DX1_show_1 18 rfl) rfl,
  f_iconst (e_dx DX1_show_1 19 rfl) ⟨by decide, by decide⟩,
  f_icmp_ne (e_dx DX1_show_1 20 rfl) rfl,
  f_aload_n (n := 0) (e_dx DX1_show_1 21 rfl) rfl,
  f_iload_n (n := 3) (e_dx DX1_show_1 22 rfl) rfl,
  x_callV (e_dx DX1_show_1 23 rfl) mwX1_showPerson vwX1_showPerson cX1_288 rfl,
  f_g19 (e_dx DX1_show_1 24 rfl) rfl,
  f_iload_n (n := 2) (e_dx DX1_show_1 25 rfl) rfl,
  f_iconst (e_dx DX1_show_1 26 rfl) ⟨by decide, by decide⟩,
  f_icmp_ne (e_dx DX1_show_1 27 rfl) rfl,
  f_aload_n (n := 0) (e_dx DX1_show_1 28 rfl) rfl,
  f_iload_n (n := 3) (e_dx DX1_show_1 29 rfl) rfl,
  x_callV (e_dx DX1_show_1 30 rfl) mwX1_showCharge vwX1_showCharge cX1_291 rfl,
  f_g19 (e_dx DX1_show_1 31 rfl) rfl,
  f_iload_n (n := 2) (e_dx DX1_show_1 32 rfl) rfl,
  f_iconst (e_dx DX1_show_1 33 rfl) ⟨by decide, by decide⟩,
  f_icmp_ne (e_dx DX1_show_1 34 rfl) rfl,
  f_aload_n (n := 0) (e_dx DX1_show_1 35 rfl) rfl,
  f_aload_n (n := 0) (e_dx DX1_show_1 36 rfl) rfl,
  f_getA (e_dx DX1_show_1 37 rfl) fX1_31 rfl (by decide) (Nat.le_of_ble_eq_true rfl) rfl (by decide),
  f_iconst (e_dx DX1_show_1 38 rfl) ⟨by decide, by decide⟩,
  f_iload_n (n := 3) (e_dx DX1_show_1 39 rfl) rfl,
  x_callV (e_dx DX1_show_2 0 rfl) mwX10_at vwX10_at cX1_173 rfl,
  x_callV (e_dx DX1_show_2 1 rfl) mwX1_showServe vwX1_showServe cX1_294 rfl,
  f_g19 (e_dx DX1_show_2 2 rfl) rfl,
  f_aload_n (n := 0) (e_dx DX1_show_2 3 rfl) rfl,
  f_iload_n (n := 2) (e_dx DX1_show_2 4 rfl) rfl,
  f_aload_n (n := 0) (e_dx DX1_show_2 5 rfl) rfl,
  f_getA (e_dx DX1_show_2 6 rfl) fX1_31 rfl (by decide) (Nat.le_of_ble_eq_true rfl) rfl (by decide),
  f_iload_n (n := 2) (e_dx DX1_show_2 7 rfl) rfl,
  f_iload_n (n := 3) (e_dx DX1_show_2 8 rfl) rfl,
  x_callV (e_dx DX1_show_2 9 rfl) mwX10_at vwX10_at cX1_173 rfl,
  x_callV (e_dx DX1_show_2 10 rfl) mwX1_showTerm vwX1_showTerm cX1_298 rfl,
  ⟨(e_dx DX1_show_2 11 rfl), rfl⟩, trivial⟩
def lX1_show (c_X10_at : Nat → Int → Int → e_M → (Nat → Prop) → Prop) (c_X1_firstWord : Int → Nat → e_M → (Nat → Nat → Prop) → Prop) (c_X1_putText : Nat → Nat → e_M → (e_M → Prop) → Prop) (c_X10_nameOf : Nat → Int → Int → e_M → (Int → Prop) → Prop) (c_X1_thenWord : Int → e_M → (e_M → Prop) → Prop) (c_X10_isThere : Nat → Int → Int → e_M → (Int → Prop) → Prop) (c_X1_put : Int → e_M → (e_M → Prop) → Prop) (c_X1_endLine : e_M → (e_M → Prop) → Prop) (c_X1_showLot : Int → e_M → (e_M → Prop) → Prop) (c_X1_showPerson : Int → e_M → (e_M → Prop) → Prop) (c_X1_showCharge : Int → e_M → (e_M → Prop) → Prop) (c_X1_showServe : Nat → e_M → (e_M → Prop) → Prop) (c_X1_showTerm : Int → Nat → e_M → (e_M → Prop) → Prop) : List (Nat × f_Wt) := [(0, f_wm [(3, 10, 15), (1, 0, 0), (1, 0, 0)] (fun ar M R => c_X10_at (f_va (f_nth ar 0)) (f_vi (f_nth ar 1)) (f_vi (f_nth ar 2)) M (fun r => R (some (.inr (.inr (.inl (9, 14, r))))) M))), (1, f_wm [(1, 0, 0), (3, 9, 14)] (fun ar M R => c_X1_firstWord (f_vi (f_nth ar 0)) (f_va (f_nth ar 1)) M (fun n r => R (some (.inr (.inr (.inl (115, n, r))))) M))), (2, f_wm [(4462, 1, 7), (4, 0, 0)] (fun ar M R => c_X1_putText (f_vn (f_nth ar 1)) (f_va (f_nth ar 1)) M (fun M => R none M))), (3, f_wm [(3, 10, 15), (1, 0, 0), (1, 0, 0)] (fun ar M R => c_X10_nameOf (f_va (f_nth ar 0)) (f_vi (f_nth ar 1)) (f_vi (f_nth ar 2)) M (fun r => R (some (.inr (.inl r))) M))), (4, f_wm [(4462, 1, 7), (2, 0, 0)] (fun ar M R => c_X1_thenWord (f_vi (f_nth ar 1)) M (fun M => R none M))), (5, f_wm [(3, 10, 15), (1, 0, 0), (1, 0, 0)] (fun ar M R => c_X10_isThere (f_va (f_nth ar 0)) (f_vi (f_nth ar 1)) (f_vi (f_nth ar 2)) M (fun r => R (some (.inl r)) M))), (6, f_wm [(4462, 1, 7), (1, 0, 0)] (fun ar M R => c_X1_put (f_vi (f_nth ar 1)) M (fun M => R none M))), (7, f_wm [(4462, 1, 7)] (fun ar M R => c_X1_endLine  M (fun M => R none M))), (8, f_wm [(4462, 1, 7), (1, 0, 0)] (fun ar M R => c_X1_showLot (f_vi (f_nth ar 1)) M (fun M => R none M))), (9, f_wm [(4462, 1, 7), (1, 0, 0)] (fun ar M R => c_X1_showPerson (f_vi (f_nth ar 1)) M (fun M => R none M))), (10, f_wm [(4462, 1, 7), (1, 0, 0)] (fun ar M R => c_X1_showCharge (f_vi (f_nth ar 1)) M (fun M => R none M))), (11, f_wm [(4462, 1, 7), (3, 9, 14)] (fun ar M R => c_X1_showServe (f_va (f_nth ar 1)) M (fun M => R none M))), (12, f_wm [(4462, 1, 7), (1, 0, 0), (3, 9, 14)] (fun ar M R => c_X1_showTerm (f_vi (f_nth ar 1)) (f_va (f_nth ar 2)) M (fun M => R none M)))]
set_option maxRecDepth 20000 in
theorem BX1_show_16 {sh : Nat → Nat × Nat} {t : Nat} {rm : Nat × Nat × Nat} {cs : Nat × Nat} {R : f_Rt} {c_X10_at : Nat → Int → Int → e_M → (Nat → Prop) → Prop} {c_X1_firstWord : Int → Nat → e_M → (Nat → Nat → Prop) → Prop} {c_X1_putText : Nat → Nat → e_M → (e_M → Prop) → Prop} {c_X10_nameOf : Nat → Int → Int → e_M → (Int → Prop) → Prop} {c_X1_thenWord : Int → e_M → (e_M → Prop) → Prop} {c_X10_isThere : Nat → Int → Int → e_M → (Int → Prop) → Prop} {c_X1_put : Int → e_M → (e_M → Prop) → Prop} {c_X1_endLine : e_M → (e_M → Prop) → Prop} {c_X1_showLot : Int → e_M → (e_M → Prop) → Prop} {c_X1_showPerson : Int → e_M → (e_M → Prop) → Prop} {c_X1_showCharge : Int → e_M → (e_M → Prop) → Prop} {c_X1_showServe : Nat → e_M → (e_M → Prop) → Prop} {c_X1_showTerm : Int → Nat → e_M → (e_M → Prop) → Prop} {x1 : Int} {xs1 : Int} {M : e_M} (C : f_Hy sh t yX1_show rm cs 9 (lX1_show c_X10_at c_X1_firstWord c_X1_putText c_X10_nameOf c_X1_thenWord c_X10_isThere c_X1_put c_X1_endLine c_X1_showLot c_X1_showPerson c_X1_showCharge c_X1_showServe c_X1_showTerm) R) (h : VX1_show_16 c_X10_at c_X1_firstWord c_X1_putText c_X10_nameOf c_X1_thenWord c_X10_isThere c_X1_put c_X1_endLine c_X1_showLot c_X1_showPerson c_X1_showCharge c_X1_showServe c_X1_showTerm (fun M => R none M) x1 xs1 M) : f_E sh t YX1_show rm cs (f_Q sh t R) 16 [.inr (.inr (.inl (1, 7, 4452))), .inl x1, .inr (.inr (.inr ())), .inr (.inr (.inr ()))] [.inr (.inl xs1), .inr (.inr (.inl (1, 7, 4452)))] M :=
  f_go (KC := f_kc []) C qX1_showf f_kc_nil 95 10 h
set_option maxRecDepth 20000 in
theorem BX1_show {sh : Nat → Nat × Nat} {t : Nat} {rm : Nat × Nat × Nat} {cs : Nat × Nat} {R : f_Rt} {c_X10_at : Nat → Int → Int → e_M → (Nat → Prop) → Prop} {c_X1_firstWord : Int → Nat → e_M → (Nat → Nat → Prop) → Prop} {c_X1_putText : Nat → Nat → e_M → (e_M → Prop) → Prop} {c_X10_nameOf : Nat → Int → Int → e_M → (Int → Prop) → Prop} {c_X1_thenWord : Int → e_M → (e_M → Prop) → Prop} {c_X10_isThere : Nat → Int → Int → e_M → (Int → Prop) → Prop} {c_X1_put : Int → e_M → (e_M → Prop) → Prop} {c_X1_endLine : e_M → (e_M → Prop) → Prop} {c_X1_showLot : Int → e_M → (e_M → Prop) → Prop} {c_X1_showPerson : Int → e_M → (e_M → Prop) → Prop} {c_X1_showCharge : Int → e_M → (e_M → Prop) → Prop} {c_X1_showServe : Nat → e_M → (e_M → Prop) → Prop} {c_X1_showTerm : Int → Nat → e_M → (e_M → Prop) → Prop} {k16 : Int → Int → e_M → Prop} {x1 : Int} {M : e_M} (C : f_Hy sh t yX1_show rm cs 9 (lX1_show c_X10_at c_X1_firstWord c_X1_putText c_X10_nameOf c_X1_thenWord c_X10_isThere c_X1_put c_X1_endLine c_X1_showLot c_X1_showPerson c_X1_showCharge c_X1_showServe c_X1_showTerm) R) (h16 : ∀ (x1 : Int) (xs1 : Int) (M : e_M), k16 x1 xs1 M → f_E sh t YX1_show rm cs (f_Q sh t R) 16 [.inr (.inr (.inl (1, 7, 4452))), .inl x1, .inr (.inr (.inr ())), .inr (.inr (.inr ()))] [.inr (.inl xs1), .inr (.inr (.inl (1, 7, 4452)))] M) (h : VX1_show c_X10_at c_X1_firstWord c_X1_putText c_X10_nameOf c_X1_thenWord c_X10_isThere c_X1_put c_X1_endLine c_X1_showLot c_X1_showPerson c_X1_showCharge c_X1_showServe c_X1_showTerm k16 (fun M => R none M) x1 M) : f_E sh t YX1_show rm cs (f_Q sh t R) 0 [.inr (.inr (.inl (1, 7, 4452))), .inl x1, .inr (.inr (.inr ())), .inr (.inr (.inr ()))] [] M :=
  f_go (KC := f_kc [(16, f_pl [(4462, 1, 7), (1, 0, 0), (0, 0, 0), (0, 0, 0)] [(2, 0, 0), (4462, 1, 7)] (fun ls st M => k16 (f_vi (f_nth ls 1)) (f_vi (f_nth st 0)) M))]) C qX1_showf (f_kc_cons (f_pl_ok rfl (fun ls st M h => h16 _ _ M h)) f_kc_nil) 95 0 h
def WX1_show_16 (Q : e_M → Prop) (x1 : Int) (xs1 : Int) (M : e_M) : Prop :=
  VX1_show_16 WX10_at WX1_firstWord WX1_putText WX10_nameOf WX1_thenWord WX10_isThere WX1_put WX1_endLine WX1_showLot WX1_showPerson WX1_showCharge WX1_showServe WX1_showTerm Q x1 xs1 M
def WX1_show (x1 : Int) (M : e_M) (Q : e_M → Prop) : Prop :=
  VX1_show WX10_at WX1_firstWord WX1_putText WX10_nameOf WX1_thenWord WX10_isThere WX1_put WX1_endLine WX1_showLot WX1_showPerson WX1_showCharge WX1_showServe WX1_showTerm (WX1_show_16 Q) Q x1 M
theorem PX1_show_16 {sh : Nat → Nat × Nat} {t : Nat} {rm : Nat × Nat × Nat} {cs : Nat × Nat} {R : f_Rt} {x1 : Int} {xs1 : Int} {M : e_M} (C : f_Hy sh t yX1_show rm cs 9 (lX1_show WX10_at WX1_firstWord WX1_putText WX10_nameOf WX1_thenWord WX10_isThere WX1_put WX1_endLine WX1_showLot WX1_showPerson WX1_showCharge WX1_showServe WX1_showTerm) R) (h : WX1_show_16 (fun M => R none M) x1 xs1 M) : f_E sh t YX1_show rm cs (f_Q sh t R) 16 [.inr (.inr (.inl (1, 7, 4452))), .inl x1, .inr (.inr (.inr ())), .inr (.inr (.inr ()))] [.inr (.inl xs1), .inr (.inr (.inl (1, 7, 4452)))] M :=
  BX1_show_16 C h
theorem PX1_show {sh : Nat → Nat × Nat} {t : Nat} {rm : Nat × Nat × Nat} {cs : Nat × Nat} {R : f_Rt} {x1 : Int} {M : e_M} (C : f_Hy sh t yX1_show rm cs 9 (lX1_show WX10_at WX1_firstWord WX1_putText WX10_nameOf WX1_thenWord WX10_isThere WX1_put WX1_endLine WX1_showLot WX1_showPerson WX1_showCharge WX1_showServe WX1_showTerm) R) (h : WX1_show x1 M (fun M => R none M)) : f_E sh t YX1_show rm cs (f_Q sh t R) 0 [.inr (.inr (.inl (1, 7, 4452))), .inl x1, .inr (.inr (.inr ())), .inr (.inr (.inr ()))] [] M :=
  BX1_show C (fun x1 xs1 M h => PX1_show_16 C h) h
def wX1_show : f_Wt := f_wm [(4462, 1, 7), (1, 0, 0)] (fun ar M R => WX1_show (f_vi (f_nth ar 1)) M (fun M => R none M))
theorem TX1_show {sh : Nat → Nat × Nat} {t : Nat} : f_Mt sh t YX1_show 9 (wX1_show) :=
  f_Mt_of (k := 2) (Nat.le_of_ble_eq_true rfl) rfl rfl (fun ar M R rm cs h1 h2 h3 hX h => PX1_show ⟨Nat.le_of_ble_eq_true rfl, h1, h2, h3, ⟨(f_Mt.up (Nat.le_of_ble_eq_true rfl) TX10_at), (f_Mt.up (Nat.le_of_ble_eq_true rfl) TX1_firstWord), (f_Mt.up (Nat.le_of_ble_eq_true rfl) TX1_putText), (f_Mt.up (Nat.le_of_ble_eq_true rfl) TX10_nameOf), (f_Mt.up (Nat.le_of_ble_eq_true rfl) TX1_thenWord), (f_Mt.up (Nat.le_of_ble_eq_true rfl) TX10_isThere), (f_Mt.up (Nat.le_of_ble_eq_true rfl) TX1_put), (f_Mt.up (Nat.le_of_ble_eq_true rfl) TX1_endLine), (f_Mt.up (Nat.le_of_ble_eq_true rfl) TX1_showLot), (f_Mt.up (Nat.le_of_ble_eq_true rfl) TX1_showPerson), (f_Mt.up (Nat.le_of_ble_eq_true rfl) TX1_showCharge), (f_Mt.up (Nat.le_of_ble_eq_true rfl) TX1_showServe), (f_Mt.up (Nat.le_of_ble_eq_true rfl) TX1_showTerm), trivial⟩, hX⟩ h)
def VX2_tells_2 (k2 : Nat → Int → Int → Prop) (Q : Int → Prop) (a0 : Nat) (x1 : Int) (x3 : Int) (M : e_M) : Prop :=
  (((M a0 7) ≤ x3 → (Q 0)) ∧ (x3 < (M a0 7) → ((0 ≤ x3 ∧ x3 < 8) ∧ ((¬ (M (a0 + 1) (x3.toNat)) = x1 → (k2 a0 x1 (e_w32 (x3 + 1)))) ∧ ((M (a0 + 1) (x3.toNat)) = x1 → (Q 1))))))
def VX2_tells (k2 : Nat → Int → Int → Prop) (Q : Int → Prop) (a0 : Nat) (x1 : Int) (M : e_M) : Prop :=
  (k2 a0 x1 0)
def yX2_tells (i : Nat) : e_Y := x_get YX2_tells [] i
def pX2_tellsf : List x_I := [(0, 0, 1, 0, 0, 0, []), (1, 5, 1, 3, 0, 0, []), (2, 49, 0, 0, 0, 0, []), (2, 2, 1, 3, 0, 0, []), (3, 4, 1, 0, 0, 0, []), (4, 25, 2, 7, 0, 0, []), (7, 18, 29, 3, 18, 0, []), (10, 4, 1, 0, 0, 0, []), (11, 25, 2, 5, 4, 0, [(0, 23, 8), (0, 1, 1)]), (14, 2, 1, 3, 0, 0, []), (15, 27, 0, 1, 0, 0, []), (16, 3, 1, 1, 0, 0, []), (17, 32, 23, 1, 16, 0, []), (21, 0, 1, 0, 0, 1, []), (22, 48, 0, 0, 0, 0, []), (23, 8, 0, 3, 0, 1, []), (26, 19, 2, 0, 3, 0, []), (29, 0, 1, 0, 0, 0, []), (30, 48, 0, 0, 0, 0, [])]
set_option maxRecDepth 20000 in
theorem qX2_tellsf : f_all yX2_tells YX2_tells pX2_tellsf :=
  ⟨f_iconst (e_dx DX2_tells_0 0 rfl) ⟨by decide, by decide⟩,
  f_istore_n (n := 3) (e_dx DX2_tells_0 1 rfl) rfl (by decide),
  trivial,
  f_iload_n (n := 3) (e_dx DX2_tells_0 2 rfl) rfl,
  f_aload_n (n := 0) (e_dx DX2_tells_0 3 rfl) rfl,
  f_getf (e_dx DX2_tells_0 4 rfl) fX2_47 rfl (by decide) (by decide) (by decide),
  f_icmp_ge (e_dx DX2_tells_0 5 rfl) rfl,
  f_aload_n (n := 0) (e_dx DX2_tells_0 6 rfl) rfl,
  f_getA (e_dx DX2_tells_0 7 rfl) fX2_9 rfl (by decide) (Nat.le_of_ble_eq_true rfl) rfl (by decide),
  f_iload_n (n := 3) (e_dx DX2_tells_0 8 rfl) rfl,
  f_laload (e_dx DX2_tells_0 9 rfl),
  f_lload_n (n := 1) (e_dx DX2_tells_0 10 rfl) rfl,
  f_lif_ne (e_dx DX2_tells_0 11 rfl) (e_dx DX2_tells_0 12 rfl) rfl,
  f_iconst (e_dx DX2_tells_0 13 rfl) ⟨by decide, by decide⟩,
  ⟨(e_dx DX2_tells_0 14 rfl), rfl⟩,
  f_g8 (e_dx DX2_tells_0 15 rfl) ⟨by decide, by decide⟩,
  f_g19 (e_dx DX2_tells_0 16 rfl) rfl,
  f_iconst (e_dx DX2_tells_0 17 rfl) ⟨by decide, by decide⟩,
  ⟨(e_dx DX2_tells_0 18 rfl), rfl⟩, trivial⟩
def lX2_tells : List (Nat × f_Wt) := []
set_option maxRecDepth 20000 in
theorem BX2_tells_2 {sh : Nat → Nat × Nat} {t : Nat} {rm : Nat × Nat × Nat} {cs : Nat × Nat} {R : f_Rt} {k2 : Nat → Int → Int → Prop} {a0 : Nat} {x1 : Int} {x3 : Int} {M : e_M} (C : f_Hy sh t yX2_tells rm cs 4 (lX2_tells) R) (h2 : ∀ (a0 : Nat) (x1 : Int) (x3 : Int), k2 a0 x1 x3 → f_E sh t YX2_tells rm cs (f_Q sh t R) 2 [.inr (.inr (.inl (2, 19, a0))), .inr (.inl x1), .inr (.inr (.inr ())), .inl x3] [] M) (h : VX2_tells_2 k2 (fun r => R (some (.inl r)) M) a0 x1 x3 M) : f_E sh t YX2_tells rm cs (f_Q sh t R) 2 [.inr (.inr (.inl (2, 19, a0))), .inr (.inl x1), .inr (.inr (.inr ())), .inl x3] [] M := by
  rw [f_kk3 M k2] at h
  exact f_go (KC := f_kc [(2, f_pl [(3, 2, 19), (2, 0, 0), (0, 0, 0), (1, 0, 0)] [] (fun ls st M2 => M2 = M ∧ (k2 (f_va (f_nth ls 0)) (f_vi (f_nth ls 1)) (f_vi (f_nth ls 3)))))]) C qX2_tellsf (f_kc_cons (f_pl_ok rfl (fun ls st M2 ⟨e, hh⟩ => by subst e; exact h2 _ _ _ hh)) f_kc_nil) 21 3 h
set_option maxRecDepth 20000 in
theorem BX2_tells {sh : Nat → Nat × Nat} {t : Nat} {rm : Nat × Nat × Nat} {cs : Nat × Nat} {R : f_Rt} {k2 : Nat → Int → Int → Prop} {a0 : Nat} {x1 : Int} {M : e_M} (C : f_Hy sh t yX2_tells rm cs 4 (lX2_tells) R) (h2 : ∀ (a0 : Nat) (x1 : Int) (x3 : Int), k2 a0 x1 x3 → f_E sh t YX2_tells rm cs (f_Q sh t R) 2 [.inr (.inr (.inl (2, 19, a0))), .inr (.inl x1), .inr (.inr (.inr ())), .inl x3] [] M) (h : VX2_tells k2 (fun r => R (some (.inl r)) M) a0 x1 M) : f_E sh t YX2_tells rm cs (f_Q sh t R) 0 [.inr (.inr (.inl (2, 19, a0))), .inr (.inl x1), .inr (.inr (.inr ())), .inr (.inr (.inr ()))] [] M := by
  rw [f_kk3 M k2] at h
  exact f_go (KC := f_kc [(2, f_pl [(3, 2, 19), (2, 0, 0), (0, 0, 0), (1, 0, 0)] [] (fun ls st M2 => M2 = M ∧ (k2 (f_va (f_nth ls 0)) (f_vi (f_nth ls 1)) (f_vi (f_nth ls 3)))))]) C qX2_tellsf (f_kc_cons (f_pl_ok rfl (fun ls st M2 ⟨e, hh⟩ => by subst e; exact h2 _ _ _ hh)) f_kc_nil) 21 0 h
def WX2_tells_2 (M : e_M) (Q : Int → Prop) : Nat → Nat → Int → Int → Prop
  | 0, _, _, _ => False
  | n + 1, a0, x1, x3 =>
    VX2_tells_2 (WX2_tells_2 M Q n) Q a0 x1 x3 M
def WX2_tells (a0 : Nat) (x1 : Int) (M : e_M) (Q : Int → Prop) : Prop :=
  VX2_tells (fun a0 x1 x3 => ∃ j, WX2_tells_2 M Q j a0 x1 x3) Q a0 x1 M
theorem PX2_tells_2 {sh : Nat → Nat × Nat} {t : Nat} {rm : Nat × Nat × Nat} {cs : Nat × Nat} {R : f_Rt} {M : e_M} (C : f_Hy sh t yX2_tells rm cs 4 (lX2_tells) R) : ∀ (n : Nat) (a0 : Nat) (x1 : Int) (x3 : Int), WX2_tells_2 M (fun r => R (some (.inl r)) M) n a0 x1 x3 → f_E sh t YX2_tells rm cs (f_Q sh t R) 2 [.inr (.inr (.inl (2, 19, a0))), .inr (.inl x1), .inr (.inr (.inr ())), .inl x3] [] M := by
  intro n
  induction n with
  | zero => intro a0 x1 x3 h; exact h.elim
  | succ n ih => intro a0 x1 x3 h; exact BX2_tells_2 C ih h
theorem PX2_tells {sh : Nat → Nat × Nat} {t : Nat} {rm : Nat × Nat × Nat} {cs : Nat × Nat} {R : f_Rt} {a0 : Nat} {x1 : Int} {M : e_M} (C : f_Hy sh t yX2_tells rm cs 4 (lX2_tells) R) (h : WX2_tells a0 x1 M (fun r => R (some (.inl r)) M)) : f_E sh t YX2_tells rm cs (f_Q sh t R) 0 [.inr (.inr (.inl (2, 19, a0))), .inr (.inl x1), .inr (.inr (.inr ())), .inr (.inr (.inr ()))] [] M :=
  BX2_tells C (fun a0 x1 x3 ⟨j, h⟩ => PX2_tells_2 C j _ _ _ h) h
def wX2_tells : f_Wt := f_wm [(3, 2, 19), (2, 0, 0)] (fun ar M R => WX2_tells (f_va (f_nth ar 0)) (f_vi (f_nth ar 1)) M (fun r => R (some (.inl r)) M))
theorem TX2_tells {sh : Nat → Nat × Nat} {t : Nat} : f_Mt sh t YX2_tells 4 (wX2_tells) :=
  f_Mt_of (k := 1) (Nat.le_of_ble_eq_true rfl) rfl rfl (fun ar M R rm cs h1 h2 h3 hX h => PX2_tells ⟨Nat.le_of_ble_eq_true rfl, h1, h2, h3, trivial, hX⟩ h)
def VX1_trace_2 (c_X2_tells : Nat → Int → e_M → (Int → Prop) → Prop) (c_X1_putNumber : Int → e_M → (e_M → Prop) → Prop) (c_X1_put : Int → e_M → (e_M → Prop) → Prop) (k81 : Int → e_M → Prop) (Q : e_M → Prop) (x1 : Int) (M : e_M) : Prop :=
  (((M ((M 4452 3).toNat) 9) ≤ x1 → (Q M)) ∧ (x1 < (M ((M 4452 3).toNat) 9) → ((0 ≤ x1 ∧ x1 < 150) ∧ (∀ y1 : Int, y1 = M ((M 4452 3).toNat + 27) (x1.toNat) → ((0 ≤ y1 ∧ y1 < 150) ∧ ((¬ (M ((M 4452 3).toNat + 25) (y1.toNat)) = 0 → (k81 x1 M)) ∧ ((M ((M 4452 3).toNat + 25) (y1.toNat)) = 0 → ((0 ≤ x1 ∧ x1 < 150) ∧ (c_X2_tells ((M ((M 4452 3).toNat + 28) (x1.toNat)).toNat) (M 22 5) M (fun r2 => ((r2 = 0 → (k81 x1 M)) ∧ (¬ r2 = 0 → (∀ M3 : e_M, M3 = e_up M 4452 0 (e_w64 ((M 4452 0) + 1)) → (c_X1_putNumber (e_w32 (y1 + 1)) M3 (fun M4 => (c_X1_put 32 M4 (fun M5 => (k81 x1 M5))))))))))))))))))
def VX1_trace_81 (c_X2_tells : Nat → Int → e_M → (Int → Prop) → Prop) (c_X1_putNumber : Int → e_M → (e_M → Prop) → Prop) (c_X1_put : Int → e_M → (e_M → Prop) → Prop) (k2 : Int → e_M → Prop) (Q : e_M → Prop) (x1 : Int) (M : e_M) : Prop :=
  (k2 (e_w32 (x1 + 1)) M)
def VX1_trace (c_X2_tells : Nat → Int → e_M → (Int → Prop) → Prop) (c_X1_putNumber : Int → e_M → (e_M → Prop) → Prop) (c_X1_put : Int → e_M → (e_M → Prop) → Prop) (k2 : Int → e_M → Prop) (Q : e_M → Prop) (M : e_M) : Prop :=
  (k2 0 M)
def yX1_trace (i : Nat) : e_Y := x_get YX1_trace [YX2_tells, YX1_putNumber, YX1_put] i
def pX1_tracef : List x_I := [(0, 0, 1, 0, 0, 0, []), (1, 5, 1, 1, 0, 0, []), (2, 49, 0, 0, 0, 0, []), (2, 2, 1, 1, 0, 0, []), (3, 4, 1, 0, 0, 0, []), (4, 25, 1, 3, 4, 0, [(0, 10, 15), (0, 0, 0)]), (7, 25, 10, 9, 0, 0, []), (10, 18, 87, 3, 50, 0, []), (13, 4, 1, 0, 0, 0, []), (14, 25, 1, 3, 4, 0, [(0, 10, 15), (0, 0, 0)]), (17, 25, 10, 7, 4, 0, [(0, 20, 150), (0, 1, 27)]), (20, 2, 1, 1, 0, 0, []), (21, 27, 0, 0, 0, 0, []), (22, 33, 0, 0, 0, 0, []), (22, 5, 1, 2, 0, 0, []), (23, 4, 1, 0, 0, 0, []), (24, 25, 1, 3, 4, 0, [(0, 10, 15), (0, 0, 0)]), (27, 25, 10, 5, 4, 0, [(0, 20, 150), (0, 1, 25)]), (30, 2, 1, 2, 0, 0, []), (31, 27, 0, 0, 0, 0, []), (32, 17, 81, 1, 47, 0, []), (35, 4, 1, 0, 0, 0, []), (36, 25, 1, 3, 4, 0, [(0, 10, 15), (0, 0, 0)]), (39, 25, 10, 8, 4, 0, [(0, 32, 150), (0, 1, 28)]), (42, 2, 1, 1, 0, 0, []), (43, 27, 0, 3, 0, 0, [(0, 2, 19), (0, 0, 0)]), (44, 4, 1, 0, 0, 0, []), (45, 25, 1, 4, 4, 0, [(0, 6, 11), (0, 2, 22)]), (48, 25, 6, 5, 3, 0, []), (51, 40, 0, 2, 4, 0, []), (54, 17, 81, 0, 47, 0, []), (57, 4, 1, 0, 0, 0, []), (58, 20, 0, 0, 0, 0, []), (59, 25, 1, 0, 3, 0, []), (62, 1, 1, 0, 0, 1, []), (63, 10, 0, 0, 0, 0, []), (64, 26, 1, 0, 3, 0, []), (67, 4, 1, 0, 0, 0, []), (68, 2, 1, 2, 0, 0, []), (69, 0, 1, 0, 0, 1, []), (70, 9, 0, 0, 0, 0, []), (71, 14, 0, 0, 0, 0, []), (72, 40, 1, 2, 3, 0, []), (75, 4, 1, 0, 0, 0, []), (76, 0, 2, 0, 0, 32, []), (78, 40, 2, 2, 3, 0, []), (81, 49, 0, 0, 0, 0, []), (81, 8, 0, 1, 0, 1, []), (84, 19, 2, 0, 3, 0, []), (87, 44, 0, 0, 0, 0, [])]
set_option maxRecDepth 20000 in
theorem qX1_tracef : f_all yX1_trace YX1_trace pX1_tracef :=
  ⟨f_iconst (e_dx DX1_trace_0 0 rfl) ⟨by decide, by decide⟩,
  f_istore_n (n := 1) (e_dx DX1_trace_0 1 rfl) rfl (by decide),
  trivial,
  f_iload_n (n := 1) (e_dx DX1_trace_0 2 rfl) rfl,
  f_aload_n (n := 0) (e_dx DX1_trace_0 3 rfl) rfl,
  f_getA (e_dx DX1_trace_0 4 rfl) fX1_31 rfl (by decide) (Nat.le_of_ble_eq_true rfl) rfl (by decide),
  f_getf (e_dx DX1_trace_0 5 rfl) fX1_75 rfl (by decide) (by decide) (by decide),
  f_icmp_ge (e_dx DX1_trace_0 6 rfl) rfl,
  f_aload_n (n := 0) (e_dx DX1_trace_0 7 rfl) rfl,
  f_getA (e_dx DX1_trace_0 8 rfl) fX1_31 rfl (by decide) (Nat.le_of_ble_eq_true rfl) rfl (by decide),
  f_getA (e_dx DX1_trace_0 9 rfl) fX1_78 rfl (by decide) (Nat.le_of_ble_eq_true rfl) rfl (by decide),
  f_iload_n (n := 1) (e_dx DX1_trace_0 10 rfl) rfl,
  f_iaload (e_dx DX1_trace_0 11 rfl),
  f_g33,
  f_istore_n (n := 2) (e_dx DX1_trace_0 12 rfl) rfl (by decide),
  f_aload_n (n := 0) (e_dx DX1_trace_0 13 rfl) rfl,
  f_getA (e_dx DX1_trace_0 14 rfl) fX1_31 rfl (by decide) (Nat.le_of_ble_eq_true rfl) rfl (by decide),
  f_getA (e_dx DX1_trace_0 15 rfl) fX1_81 rfl (by decide) (Nat.le_of_ble_eq_true rfl) rfl (by decide),
  f_iload_n (n := 2) (e_dx DX1_trace_0 16 rfl) rfl,
  f_iaload (e_dx DX1_trace_0 17 rfl),
  f_if_ne (e_dx DX1_trace_0 18 rfl) rfl,
  f_aload_n (n := 0) (e_dx DX1_trace_0 19 rfl) rfl,
  f_getA (e_dx DX1_trace_0 20 rfl) fX1_31 rfl (by decide) (Nat.le_of_ble_eq_true rfl) rfl (by decide),
  f_getA (e_dx DX1_trace_0 21 rfl) fX1_84 rfl (by decide) (Nat.le_of_ble_eq_true rfl) rfl (by decide),
  f_iload_n (n := 1) (e_dx DX1_trace_0 22 rfl) rfl,
  f_aaload (e_dx DX1_trace_0 23 rfl) (by decide) rfl,
  f_aload_n (n := 0) (e_dx DX1_trace_0 24 rfl) rfl,
  f_getA (e_dx DX1_trace_0 25 rfl) fX1_35 rfl (by decide) (Nat.le_of_ble_eq_true rfl) rfl (by decide),
  f_getL (e_dx DX1_trace_0 26 rfl) fX1_44 rfl (by decide),
  x_callV (e_dx DX1_trace_0 27 rfl) mwX2_tells vwX2_tells cX1_88 rfl,
  f_if_eq (e_dx DX1_trace_0 28 rfl) rfl,
  f_aload_n (n := 0) (e_dx DX1_trace_0 29 rfl) rfl,
  f_g20 (e_dx DX1_trace_0 30 rfl),
  f_getL (e_dx DX1_trace_0 31 rfl) fX1_9 rfl (by decide),
  f_lconst (n := 1) (e_dx DX1_trace_0 32 rfl) rfl,
  f_ladd (e_dx DX1_trace_0 33 rfl),
  f_putn (e_dx DX1_trace_0 34 rfl) fX1_9 (fun q hq => by cases hq; rfl) rfl (Or.inr (Or.inr rfl)) (by decide),
  f_aload_n (n := 0) (e_dx DX1_trace_0 35 rfl) rfl,
  f_iload_n (n := 2) (e_dx DX1_trace_0 36 rfl) rfl,
  f_iconst (e_dx DX1_trace_0 37 rfl) ⟨by decide, by decide⟩,
  f_iadd (e_dx DX1_trace_0 38 rfl),
  f_g14 (e_dx DX1_trace_0 39 rfl),
  x_callV (e_dx DX1_trace_1 0 rfl) mwX1_putNumber vwX1_putNumber cX1_94 rfl,
  f_aload_n (n := 0) (e_dx DX1_trace_1 1 rfl) rfl,
  f_bipush (e_dx DX1_trace_1 2 rfl) ⟨by decide, by decide⟩,
  x_callV (e_dx DX1_trace_1 3 rfl) mwX1_put vwX1_put cX1_98 rfl,
  trivial,
  f_g8 (e_dx DX1_trace_1 4 rfl) ⟨by decide, by decide⟩,
  f_g19 (e_dx DX1_trace_1 5 rfl) rfl,
  ⟨(e_dx DX1_trace_1 6 rfl), rfl⟩, trivial⟩
def lX1_trace (c_X2_tells : Nat → Int → e_M → (Int → Prop) → Prop) (c_X1_putNumber : Int → e_M → (e_M → Prop) → Prop) (c_X1_put : Int → e_M → (e_M → Prop) → Prop) : List (Nat × f_Wt) := [(0, f_wm [(3, 2, 19), (2, 0, 0)] (fun ar M R => c_X2_tells (f_va (f_nth ar 0)) (f_vi (f_nth ar 1)) M (fun r => R (some (.inl r)) M))), (1, f_wm [(4462, 1, 7), (2, 0, 0)] (fun ar M R => c_X1_putNumber (f_vi (f_nth ar 1)) M (fun M => R none M))), (2, f_wm [(4462, 1, 7), (1, 0, 0)] (fun ar M R => c_X1_put (f_vi (f_nth ar 1)) M (fun M => R none M)))]
set_option maxRecDepth 20000 in
theorem BX1_trace_2 {sh : Nat → Nat × Nat} {t : Nat} {rm : Nat × Nat × Nat} {cs : Nat × Nat} {R : f_Rt} {c_X2_tells : Nat → Int → e_M → (Int → Prop) → Prop} {c_X1_putNumber : Int → e_M → (e_M → Prop) → Prop} {c_X1_put : Int → e_M → (e_M → Prop) → Prop} {k81 : Int → e_M → Prop} {x1 : Int} {M : e_M} (C : f_Hy sh t yX1_trace rm cs 6 (lX1_trace c_X2_tells c_X1_putNumber c_X1_put) R) (h81 : ∀ (x1 : Int) (M : e_M), k81 x1 M → f_E sh t YX1_trace rm cs (f_Q sh t R) 81 [.inr (.inr (.inl (1, 7, 4452))), .inl x1, .inr (.inr (.inr ()))] [] M) (h : VX1_trace_2 c_X2_tells c_X1_putNumber c_X1_put k81 (fun M => R none M) x1 M) : f_E sh t YX1_trace rm cs (f_Q sh t R) 2 [.inr (.inr (.inl (1, 7, 4452))), .inl x1, .inr (.inr (.inr ()))] [] M :=
  f_go (KC := f_kc [(81, f_pl [(4462, 1, 7), (1, 0, 0), (0, 0, 0)] [] (fun ls st M => k81 (f_vi (f_nth ls 1)) M))]) C qX1_tracef (f_kc_cons (f_pl_ok rfl (fun ls st M h => h81 _ M h)) f_kc_nil) 52 3 h
set_option maxRecDepth 20000 in
theorem BX1_trace_81 {sh : Nat → Nat × Nat} {t : Nat} {rm : Nat × Nat × Nat} {cs : Nat × Nat} {R : f_Rt} {c_X2_tells : Nat → Int → e_M → (Int → Prop) → Prop} {c_X1_putNumber : Int → e_M → (e_M → Prop) → Prop} {c_X1_put : Int → e_M → (e_M → Prop) → Prop} {k2 : Int → e_M → Prop} {x1 : Int} {M : e_M} (C : f_Hy sh t yX1_trace rm cs 6 (lX1_trace c_X2_tells c_X1_putNumber c_X1_put) R) (h2 : ∀ (x1 : Int) (M : e_M), k2 x1 M → f_E sh t YX1_trace rm cs (f_Q sh t R) 2 [.inr (.inr (.inl (1, 7, 4452))), .inl x1, .inr (.inr (.inr ()))] [] M) (h : VX1_trace_81 c_X2_tells c_X1_putNumber c_X1_put k2 (fun M => R none M) x1 M) : f_E sh t YX1_trace rm cs (f_Q sh t R) 81 [.inr (.inr (.inl (1, 7, 4452))), .inl x1, .inr (.inr (.inr ()))] [] M :=
  f_go (KC := f_kc [(2, f_pl [(4462, 1, 7), (1, 0, 0), (0, 0, 0)] [] (fun ls st M => k2 (f_vi (f_nth ls 1)) M))]) C qX1_tracef (f_kc_cons (f_pl_ok rfl (fun ls st M h => h2 _ M h)) f_kc_nil) 52 47 h
set_option maxRecDepth 20000 in
theorem BX1_trace {sh : Nat → Nat × Nat} {t : Nat} {rm : Nat × Nat × Nat} {cs : Nat × Nat} {R : f_Rt} {c_X2_tells : Nat → Int → e_M → (Int → Prop) → Prop} {c_X1_putNumber : Int → e_M → (e_M → Prop) → Prop} {c_X1_put : Int → e_M → (e_M → Prop) → Prop} {k2 : Int → e_M → Prop} {M : e_M} (C : f_Hy sh t yX1_trace rm cs 6 (lX1_trace c_X2_tells c_X1_putNumber c_X1_put) R) (h2 : ∀ (x1 : Int) (M : e_M), k2 x1 M → f_E sh t YX1_trace rm cs (f_Q sh t R) 2 [.inr (.inr (.inl (1, 7, 4452))), .inl x1, .inr (.inr (.inr ()))] [] M) (h : VX1_trace c_X2_tells c_X1_putNumber c_X1_put k2 (fun M => R none M) M) : f_E sh t YX1_trace rm cs (f_Q sh t R) 0 [.inr (.inr (.inl (1, 7, 4452))), .inr (.inr (.inr ())), .inr (.inr (.inr ()))] [] M :=
  f_go (KC := f_kc [(2, f_pl [(4462, 1, 7), (1, 0, 0), (0, 0, 0)] [] (fun ls st M => k2 (f_vi (f_nth ls 1)) M))]) C qX1_tracef (f_kc_cons (f_pl_ok rfl (fun ls st M h => h2 _ M h)) f_kc_nil) 52 0 h
def WX1_trace_81 (H2 : Int → e_M → Prop) (Q : e_M → Prop) (x1 : Int) (M : e_M) : Prop :=
  VX1_trace_81 WX2_tells WX1_putNumber WX1_put H2 Q x1 M
def WX1_trace_2 (Q : e_M → Prop) : Nat → Int → e_M → Prop
  | 0, _, _ => False
  | n + 1, x1, M =>
    VX1_trace_2 WX2_tells WX1_putNumber WX1_put (WX1_trace_81 (WX1_trace_2 Q n) Q) Q x1 M
def WX1_trace (M : e_M) (Q : e_M → Prop) : Prop :=
  VX1_trace WX2_tells WX1_putNumber WX1_put (fun x1 M => ∃ j, WX1_trace_2 Q j x1 M) Q M
theorem PX1_trace_81 {sh : Nat → Nat × Nat} {t : Nat} {rm : Nat × Nat × Nat} {cs : Nat × Nat} {R : f_Rt} {H2 : Int → e_M → Prop} {x1 : Int} {M : e_M} (C : f_Hy sh t yX1_trace rm cs 6 (lX1_trace WX2_tells WX1_putNumber WX1_put) R) (g2 : ∀ (x1 : Int) (M : e_M), H2 x1 M → f_E sh t YX1_trace rm cs (f_Q sh t R) 2 [.inr (.inr (.inl (1, 7, 4452))), .inl x1, .inr (.inr (.inr ()))] [] M) (h : WX1_trace_81 H2 (fun M => R none M) x1 M) : f_E sh t YX1_trace rm cs (f_Q sh t R) 81 [.inr (.inr (.inl (1, 7, 4452))), .inl x1, .inr (.inr (.inr ()))] [] M :=
  BX1_trace_81 C g2 h
theorem PX1_trace_2 {sh : Nat → Nat × Nat} {t : Nat} {rm : Nat × Nat × Nat} {cs : Nat × Nat} {R : f_Rt} (C : f_Hy sh t yX1_trace rm cs 6 (lX1_trace WX2_tells WX1_putNumber WX1_put) R) : ∀ (n : Nat) (x1 : Int) (M : e_M), WX1_trace_2 (fun M => R none M) n x1 M → f_E sh t YX1_trace rm cs (f_Q sh t R) 2 [.inr (.inr (.inl (1, 7, 4452))), .inl x1, .inr (.inr (.inr ()))] [] M := by
  intro n
  induction n with
  | zero => intro x1 M h; exact h.elim
  | succ n ih => intro x1 M h; exact BX1_trace_2 C (fun x1 M h => PX1_trace_81 C ih h) h
theorem PX1_trace {sh : Nat → Nat × Nat} {t : Nat} {rm : Nat × Nat × Nat} {cs : Nat × Nat} {R : f_Rt} {M : e_M} (C : f_Hy sh t yX1_trace rm cs 6 (lX1_trace WX2_tells WX1_putNumber WX1_put) R) (h : WX1_trace M (fun M => R none M)) : f_E sh t YX1_trace rm cs (f_Q sh t R) 0 [.inr (.inr (.inl (1, 7, 4452))), .inr (.inr (.inr ())), .inr (.inr (.inr ()))] [] M :=
  BX1_trace C (fun x1 M ⟨j, h⟩ => PX1_trace_2 C j _ _ h) h
def wX1_trace : f_Wt := f_wm [(4462, 1, 7)] (fun ar M R => WX1_trace M (fun M => R none M))
theorem TX1_trace {sh : Nat → Nat × Nat} {t : Nat} : f_Mt sh t YX1_trace 6 (wX1_trace) :=
  f_Mt_of (k := 2) (Nat.le_of_ble_eq_true rfl) rfl rfl (fun ar M R rm cs h1 h2 h3 hX h => PX1_trace ⟨Nat.le_of_ble_eq_true rfl, h1, h2, h3, ⟨(f_Mt.up (Nat.le_of_ble_eq_true rfl) TX2_tells), (f_Mt.up (Nat.le_of_ble_eq_true rfl) TX1_putNumber), (f_Mt.up (Nat.le_of_ble_eq_true rfl) TX1_put), trivial⟩, hX⟩ h)
def VX1_isSign_12 (k26 : Prop) (Q : Int → Prop) (x0 : Int) (M : e_M) : Prop :=
  ((x0 = 255 → (k26)) ∧ (¬ x0 = 255 → ((¬ x0 = 254 → (Q 0)) ∧ (x0 = 254 → (k26)))))
def VX1_isSign_26 (Q : Int → Prop) (M : e_M) : Prop :=
  (Q 1)
def VX1_isSign (k12 : Int → Prop) (k26 : Prop) (Q : Int → Prop) (x0 : Int) (M : e_M) : Prop :=
  ((200 ≤ x0 → (k12 x0)) ∧ (x0 < 200 → ((¬ x0 = 3 → (k26)) ∧ (x0 = 3 → (k12 x0)))))
def yX1_isSign (i : Nat) : e_Y := x_get YX1_isSign [] i
def pX1_isSignf : List x_I := [(0, 2, 1, 0, 0, 0, []), (1, 0, 3, 0, 0, 200, []), (4, 18, 12, 3, 7, 0, []), (7, 2, 1, 0, 0, 0, []), (8, 0, 1, 0, 0, 3, []), (9, 18, 26, 1, 14, 0, []), (12, 49, 0, 0, 0, 0, []), (12, 2, 1, 0, 0, 0, []), (13, 0, 3, 0, 0, 255, []), (16, 18, 26, 0, 14, 0, []), (19, 2, 1, 0, 0, 0, []), (20, 0, 3, 0, 0, 254, []), (23, 18, 30, 1, 17, 0, []), (26, 49, 0, 0, 0, 0, []), (26, 0, 1, 0, 0, 1, []), (27, 19, 31, 0, 18, 0, []), (30, 0, 1, 0, 0, 0, []), (31, 48, 0, 0, 0, 0, [])]
set_option maxRecDepth 20000 in
theorem qX1_isSignf : f_all yX1_isSign YX1_isSign pX1_isSignf :=
  ⟨f_iload_n (n := 0) (e_dx DX1_isSign_0 0 rfl) rfl,
  f_sipush (e_dx DX1_isSign_0 1 rfl) ⟨by decide, by decide⟩,
  f_icmp_ge (e_dx DX1_isSign_0 2 rfl) rfl,
  f_iload_n (n := 0) (e_dx DX1_isSign_0 3 rfl) rfl,
  f_iconst (e_dx DX1_isSign_0 4 rfl) ⟨by decide, by decide⟩,
  f_icmp_ne (e_dx DX1_isSign_0 5 rfl) rfl,
  trivial,
  f_iload_n (n := 0) (e_dx DX1_isSign_0 6 rfl) rfl,
  f_sipush (e_dx DX1_isSign_0 7 rfl) ⟨by decide, by decide⟩,
  f_icmp_eq (e_dx DX1_isSign_0 8 rfl) rfl,
  f_iload_n (n := 0) (e_dx DX1_isSign_0 9 rfl) rfl,
  f_sipush (e_dx DX1_isSign_0 10 rfl) ⟨by decide, by decide⟩,
  f_icmp_ne (e_dx DX1_isSign_0 11 rfl) rfl,
  trivial,
  f_iconst (e_dx DX1_isSign_0 12 rfl) ⟨by decide, by decide⟩,
  f_g19 (e_dx DX1_isSign_0 13 rfl) rfl,
  f_iconst (e_dx DX1_isSign_0 14 rfl) ⟨by decide, by decide⟩,
  ⟨(e_dx DX1_isSign_0 15 rfl), rfl⟩, trivial⟩
def lX1_isSign : List (Nat × f_Wt) := []
set_option maxRecDepth 20000 in
theorem BX1_isSign_12 {sh : Nat → Nat × Nat} {t : Nat} {rm : Nat × Nat × Nat} {cs : Nat × Nat} {R : f_Rt} {k26 : Prop} {x0 : Int} {M : e_M} (C : f_Hy sh t yX1_isSign rm cs 4 (lX1_isSign) R) (h26 : k26 → f_E sh t YX1_isSign rm cs (f_Q sh t R) 26 [.inr (.inr (.inr ()))] [] M) (h : VX1_isSign_12 k26 (fun r => R (some (.inl r)) M) x0 M) : f_E sh t YX1_isSign rm cs (f_Q sh t R) 12 [.inl x0] [] M := by
  rw [f_kk0 M k26] at h
  exact f_go (KC := f_kc [(26, f_pl [(0, 0, 0)] [] (fun ls st M2 => M2 = M ∧ (k26)))]) C qX1_isSignf (f_kc_cons (f_pl_ok rfl (fun ls st M2 ⟨e, hh⟩ => by subst e; exact h26  hh)) f_kc_nil) 20 7 h
set_option maxRecDepth 20000 in
theorem BX1_isSign_26 {sh : Nat → Nat × Nat} {t : Nat} {rm : Nat × Nat × Nat} {cs : Nat × Nat} {R : f_Rt} {M : e_M} (C : f_Hy sh t yX1_isSign rm cs 4 (lX1_isSign) R) (h : VX1_isSign_26 (fun r => R (some (.inl r)) M) M) : f_E sh t YX1_isSign rm cs (f_Q sh t R) 26 [.inr (.inr (.inr ()))] [] M :=
  f_go (KC := f_kc []) C qX1_isSignf f_kc_nil 20 14 h
set_option maxRecDepth 20000 in
theorem BX1_isSign {sh : Nat → Nat × Nat} {t : Nat} {rm : Nat × Nat × Nat} {cs : Nat × Nat} {R : f_Rt} {k12 : Int → Prop} {k26 : Prop} {x0 : Int} {M : e_M} (C : f_Hy sh t yX1_isSign rm cs 4 (lX1_isSign) R) (h12 : ∀ (x0 : Int), k12 x0 → f_E sh t YX1_isSign rm cs (f_Q sh t R) 12 [.inl x0] [] M) (h26 : k26 → f_E sh t YX1_isSign rm cs (f_Q sh t R) 26 [.inr (.inr (.inr ()))] [] M) (h : VX1_isSign k12 k26 (fun r => R (some (.inl r)) M) x0 M) : f_E sh t YX1_isSign rm cs (f_Q sh t R) 0 [.inl x0] [] M := by
  rw [f_kk1 M k12] at h
  rw [f_kk0 M k26] at h
  exact f_go (KC := f_kc [(12, f_pl [(1, 0, 0)] [] (fun ls st M2 => M2 = M ∧ (k12 (f_vi (f_nth ls 0))))), (26, f_pl [(0, 0, 0)] [] (fun ls st M2 => M2 = M ∧ (k26)))]) C qX1_isSignf (f_kc_cons (f_pl_ok rfl (fun ls st M2 ⟨e, hh⟩ => by subst e; exact h12 _ hh)) (f_kc_cons (f_pl_ok rfl (fun ls st M2 ⟨e, hh⟩ => by subst e; exact h26  hh)) f_kc_nil)) 20 0 h
def WX1_isSign_26 (M : e_M) (Q : Int → Prop) : Prop :=
  VX1_isSign_26 Q M
def WX1_isSign_12 (M : e_M) (Q : Int → Prop) (x0 : Int) : Prop :=
  VX1_isSign_12 (WX1_isSign_26 M Q) Q x0 M
def WX1_isSign (x0 : Int) (M : e_M) (Q : Int → Prop) : Prop :=
  VX1_isSign (WX1_isSign_12 M Q) (WX1_isSign_26 M Q) Q x0 M
theorem PX1_isSign_26 {sh : Nat → Nat × Nat} {t : Nat} {rm : Nat × Nat × Nat} {cs : Nat × Nat} {R : f_Rt} {M : e_M} (C : f_Hy sh t yX1_isSign rm cs 4 (lX1_isSign) R) (h : WX1_isSign_26 M (fun r => R (some (.inl r)) M)) : f_E sh t YX1_isSign rm cs (f_Q sh t R) 26 [.inr (.inr (.inr ()))] [] M :=
  BX1_isSign_26 C h
theorem PX1_isSign_12 {sh : Nat → Nat × Nat} {t : Nat} {rm : Nat × Nat × Nat} {cs : Nat × Nat} {R : f_Rt} {x0 : Int} {M : e_M} (C : f_Hy sh t yX1_isSign rm cs 4 (lX1_isSign) R) (h : WX1_isSign_12 M (fun r => R (some (.inl r)) M) x0) : f_E sh t YX1_isSign rm cs (f_Q sh t R) 12 [.inl x0] [] M :=
  BX1_isSign_12 C (fun h => PX1_isSign_26 C h) h
theorem PX1_isSign {sh : Nat → Nat × Nat} {t : Nat} {rm : Nat × Nat × Nat} {cs : Nat × Nat} {R : f_Rt} {x0 : Int} {M : e_M} (C : f_Hy sh t yX1_isSign rm cs 4 (lX1_isSign) R) (h : WX1_isSign x0 M (fun r => R (some (.inl r)) M)) : f_E sh t YX1_isSign rm cs (f_Q sh t R) 0 [.inl x0] [] M :=
  BX1_isSign C (fun x0 h => PX1_isSign_12 C h) (fun h => PX1_isSign_26 C h) h
def wX1_isSign : f_Wt := f_wm [(1, 0, 0)] (fun ar M R => WX1_isSign (f_vi (f_nth ar 0)) M (fun r => R (some (.inl r)) M))
theorem TX1_isSign {sh : Nat → Nat × Nat} {t : Nat} : f_Mt sh t YX1_isSign 4 (wX1_isSign) :=
  f_Mt_of (k := 0) (Nat.le_of_ble_eq_true rfl) rfl rfl (fun ar M R rm cs h1 h2 h3 hX h => PX1_isSign ⟨Nat.le_of_ble_eq_true rfl, h1, h2, h3, trivial, hX⟩ h)
def VX1_combine (Q : Int → Prop) (x0 : Int) (x1 : Int) (x3 : Int) (M : e_M) : Prop :=
  ((x0 = 33 → ((x1 = x3 → (Q 0)) ∧ (¬ x1 = x3 → (Q 1)))) ∧ (¬ x0 = 33 → ((x0 = 42 → (Q (e_w64 (x1 * x3)))) ∧ (¬ x0 = 42 → ((x0 = 43 → (Q (e_w64 (x1 + x3)))) ∧ (¬ x0 = 43 → ((x0 = 45 → (Q (e_w64 (x1 - x3)))) ∧ (¬ x0 = 45 → ((x0 = 60 → ((x3 ≤ x1 → (Q 0)) ∧ (x1 < x3 → (Q 1)))) ∧ (¬ x0 = 60 → ((x0 = 61 → ((¬ x1 = x3 → (Q 0)) ∧ (x1 = x3 → (Q 1)))) ∧ (¬ x0 = 61 → ((x0 = 62 → ((x1 ≤ x3 → (Q 0)) ∧ (x3 < x1 → (Q 1)))) ∧ (¬ x0 = 62 → ((x0 = 128 → ((x3 < x1 → (Q 0)) ∧ (x1 ≤ x3 → (Q 1)))) ∧ (¬ x0 = 128 → ((x0 = 129 → ((x1 < x3 → (Q 0)) ∧ (x3 ≤ x1 → (Q 1)))) ∧ (¬ x0 = 129 → ((x0 = 255 → (Q (f_andJ x1 x3))) ∧ (¬ x0 = 255 → (Q (f_orJ x1 x3))))))))))))))))))))))
def yX1_combine (i : Nat) : e_Y := x_get YX1_combine [] i
def pX1_combinef : List x_I := [(0, 2, 1, 0, 0, 0, []), (1, 24, 180, 0, 61, 0, [(33, 116, 22), (42, 100, 11), (43, 92, 3), (45, 96, 7), (60, 128, 29), (61, 104, 15), (62, 152, 43), (128, 140, 36), (129, 164, 50), (255, 176, 57)]), (92, 3, 1, 1, 0, 0, []), (93, 3, 1, 3, 0, 0, []), (94, 10, 0, 0, 0, 0, []), (95, 43, 0, 0, 0, 0, []), (96, 3, 1, 1, 0, 0, []), (97, 3, 1, 3, 0, 0, []), (98, 10, 0, 1, 0, 0, []), (99, 43, 0, 0, 0, 0, []), (100, 3, 1, 1, 0, 0, []), (101, 3, 1, 3, 0, 0, []), (102, 10, 0, 2, 0, 0, []), (103, 43, 0, 0, 0, 0, []), (104, 3, 1, 1, 0, 0, []), (105, 3, 1, 3, 0, 0, []), (106, 32, 114, 1, 20, 0, []), (110, 1, 1, 0, 0, 1, []), (111, 19, 115, 0, 21, 0, []), (114, 1, 1, 0, 0, 0, []), (115, 43, 0, 0, 0, 0, []), (116, 3, 1, 1, 0, 0, []), (117, 3, 1, 3, 0, 0, []), (118, 32, 126, 0, 27, 0, []), (122, 1, 1, 0, 0, 1, []), (123, 19, 127, 0, 28, 0, []), (126, 1, 1, 0, 0, 0, []), (127, 43, 0, 0, 0, 0, []), (128, 3, 1, 1, 0, 0, []), (129, 3, 1, 3, 0, 0, []), (130, 32, 138, 3, 34, 0, []), (134, 1, 1, 0, 0, 1, []), (135, 19, 139, 0, 35, 0, []), (138, 1, 1, 0, 0, 0, []), (139, 43, 0, 0, 0, 0, []), (140, 3, 1, 1, 0, 0, []), (141, 3, 1, 3, 0, 0, []), (142, 32, 150, 4, 41, 0, []), (146, 1, 1, 0, 0, 1, []), (147, 19, 151, 0, 42, 0, []), (150, 1, 1, 0, 0, 0, []), (151, 43, 0, 0, 0, 0, []), (152, 3, 1, 1, 0, 0, []), (153, 3, 1, 3, 0, 0, []), (154, 32, 162, 5, 48, 0, []), (158, 1, 1, 0, 0, 1, []), (159, 19, 163, 0, 49, 0, []), (162, 1, 1, 0, 0, 0, []), (163, 43, 0, 0, 0, 0, []), (164, 3, 1, 1, 0, 0, []), (165, 3, 1, 3, 0, 0, []), (166, 32, 174, 2, 55, 0, []), (170, 1, 1, 0, 0, 1, []), (171, 19, 175, 0, 56, 0, []), (174, 1, 1, 0, 0, 0, []), (175, 43, 0, 0, 0, 0, []), (176, 3, 1, 1, 0, 0, []), (177, 3, 1, 3, 0, 0, []), (178, 10, 0, 5, 0, 0, []), (179, 43, 0, 0, 0, 0, []), (180, 3, 1, 1, 0, 0, []), (181, 3, 1, 3, 0, 0, []), (182, 10, 0, 6, 0, 0, []), (183, 43, 0, 0, 0, 0, [])]
set_option maxRecDepth 20000 in
theorem qX1_combinef : f_all yX1_combine YX1_combine pX1_combinef :=
  ⟨f_iload_n (n := 0) (e_dx DX1_combine_0 0 rfl) rfl,
  f_lsw (e_dx DX1_combine_0 1 rfl) (by decide) rfl (by decide) rfl,
  f_lload_n (n := 1) (e_dx DX1_combine_0 2 rfl) rfl,
  f_lload_n (n := 3) (e_dx DX1_combine_0 3 rfl) rfl,
  f_ladd (e_dx DX1_combine_0 4 rfl),
  ⟨(e_dx DX1_combine_0 5 rfl), rfl⟩,
  f_lload_n (n := 1) (e_dx DX1_combine_0 6 rfl) rfl,
  f_lload_n (n := 3) (e_dx DX1_combine_0 7 rfl) rfl,
  f_lsub (e_dx DX1_combine_0 8 rfl),
  ⟨(e_dx DX1_combine_0 9 rfl), rfl⟩,
  f_lload_n (n := 1) (e_dx DX1_combine_0 10 rfl) rfl,
  f_lload_n (n := 3) (e_dx DX1_combine_0 11 rfl) rfl,
  f_lmul (e_dx DX1_combine_0 12 rfl),
  ⟨(e_dx DX1_combine_0 13 rfl), rfl⟩,
  f_lload_n (n := 1) (e_dx DX1_combine_0 14 rfl) rfl,
  f_lload_n (n := 3) (e_dx DX1_combine_0 15 rfl) rfl,
  f_lif_ne (e_dx DX1_combine_0 16 rfl) (e_dx DX1_combine_0 17 rfl) rfl,
  f_lconst (n := 1) (e_dx DX1_combine_0 18 rfl) rfl,
  f_g19 (e_dx DX1_combine_0 19 rfl) rfl,
  f_lconst (n := 0) (e_dx DX1_combine_0 20 rfl) rfl,
  ⟨(e_dx DX1_combine_0 21 rfl), rfl⟩,
  f_lload_n (n := 1) (e_dx DX1_combine_0 22 rfl) rfl,
  f_lload_n (n := 3) (e_dx DX1_combine_0 23 rfl) rfl,
  f_lif_eq (e_dx DX1_combine_0 24 rfl) (e_dx DX1_combine_0 25 rfl) rfl,
  f_lconst (n := 1) (e_dx DX1_combine_0 26 rfl) rfl,
  f_g19 (e_dx DX1_combine_0 27 rfl) rfl,
  f_lconst (n := 0) (e_dx DX1_combine_0 28 rfl) rfl,
  ⟨(e_dx DX1_combine_0 29 rfl), rfl⟩,
  f_lload_n (n := 1) (e_dx DX1_combine_0 30 rfl) rfl,
  f_lload_n (n := 3) (e_dx DX1_combine_0 31 rfl) rfl,
  f_lif_ge (e_dx DX1_combine_0 32 rfl) (e_dx DX1_combine_0 33 rfl) rfl,
  f_lconst (n := 1) (e_dx DX1_combine_0 34 rfl) rfl,
  f_g19 (e_dx DX1_combine_0 35 rfl) rfl,
  f_lconst (n := 0) (e_dx DX1_combine_0 36 rfl) rfl,
  ⟨(e_dx DX1_combine_0 37 rfl), rfl⟩,
  f_lload_n (n := 1) (e_dx DX1_combine_0 38 rfl) rfl,
  f_lload_n (n := 3) (e_dx DX1_combine_0 39 rfl) rfl,
  f_lif_gt (e_dx DX1_combine_1 0 rfl) (e_dx DX1_combine_1 1 rfl) rfl,
  f_lconst (n := 1) (e_dx DX1_combine_1 2 rfl) rfl,
  f_g19 (e_dx DX1_combine_1 3 rfl) rfl,
  f_lconst (n := 0) (e_dx DX1_combine_1 4 rfl) rfl,
  ⟨(e_dx DX1_combine_1 5 rfl), rfl⟩,
  f_lload_n (n := 1) (e_dx DX1_combine_1 6 rfl) rfl,
  f_lload_n (n := 3) (e_dx DX1_combine_1 7 rfl) rfl,
  f_lif_le (e_dx DX1_combine_1 8 rfl) (e_dx DX1_combine_1 9 rfl) rfl,
  f_lconst (n := 1) (e_dx DX1_combine_1 10 rfl) rfl,
  f_g19 (e_dx DX1_combine_1 11 rfl) rfl,
  f_lconst (n := 0) (e_dx DX1_combine_1 12 rfl) rfl,
  ⟨(e_dx DX1_combine_1 13 rfl), rfl⟩,
  f_lload_n (n := 1) (e_dx DX1_combine_1 14 rfl) rfl,
  f_lload_n (n := 3) (e_dx DX1_combine_1 15 rfl) rfl,
  f_lif_lt (e_dx DX1_combine_1 16 rfl) (e_dx DX1_combine_1 17 rfl) rfl,
  f_lconst (n := 1) (e_dx DX1_combine_1 18 rfl) rfl,
  f_g19 (e_dx DX1_combine_1 19 rfl) rfl,
  f_lconst (n := 0) (e_dx DX1_combine_1 20 rfl) rfl,
  ⟨(e_dx DX1_combine_1 21 rfl), rfl⟩,
  f_lload_n (n := 1) (e_dx DX1_combine_1 22 rfl) rfl,
  f_lload_n (n := 3) (e_dx DX1_combine_1 23 rfl) rfl,
  f_land (e_dx DX1_combine_1 24 rfl),
  ⟨(e_dx DX1_combine_1 25 rfl), rfl⟩,
  f_lload_n (n := 1) (e_dx DX1_combine_1 26 rfl) rfl,
  f_lload_n (n := 3) (e_dx DX1_combine_1 27 rfl) rfl,
  f_lor (e_dx DX1_combine_1 28 rfl),
  ⟨(e_dx DX1_combine_1 29 rfl), rfl⟩, trivial⟩
def lX1_combine : List (Nat × f_Wt) := []
set_option maxRecDepth 20000 in
theorem BX1_combine {sh : Nat → Nat × Nat} {t : Nat} {rm : Nat × Nat × Nat} {cs : Nat × Nat} {R : f_Rt} {x0 : Int} {x1 : Int} {x3 : Int} {M : e_M} (C : f_Hy sh t yX1_combine rm cs 4 (lX1_combine) R) (h : VX1_combine (fun r => R (some (.inr (.inl r))) M) x0 x1 x3 M) : f_E sh t YX1_combine rm cs (f_Q sh t R) 0 [.inl x0, .inr (.inl x1), .inr (.inr (.inr ())), .inr (.inl x3), .inr (.inr (.inr ()))] [] M :=
  f_go (KC := f_kc []) C qX1_combinef f_kc_nil 66 0 h
def WX1_combine (x0 : Int) (x1 : Int) (x3 : Int) (M : e_M) (Q : Int → Prop) : Prop :=
  VX1_combine Q x0 x1 x3 M
theorem PX1_combine {sh : Nat → Nat × Nat} {t : Nat} {rm : Nat × Nat × Nat} {cs : Nat × Nat} {R : f_Rt} {x0 : Int} {x1 : Int} {x3 : Int} {M : e_M} (C : f_Hy sh t yX1_combine rm cs 4 (lX1_combine) R) (h : WX1_combine x0 x1 x3 M (fun r => R (some (.inr (.inl r))) M)) : f_E sh t YX1_combine rm cs (f_Q sh t R) 0 [.inl x0, .inr (.inl x1), .inr (.inr (.inr ())), .inr (.inl x3), .inr (.inr (.inr ()))] [] M :=
  BX1_combine C h
def wX1_combine : f_Wt := f_wm [(1, 0, 0), (2, 0, 0), (2, 0, 0)] (fun ar M R => WX1_combine (f_vi (f_nth ar 0)) (f_vi (f_nth ar 1)) (f_vi (f_nth ar 2)) M (fun r => R (some (.inr (.inl r))) M))
theorem TX1_combine {sh : Nat → Nat × Nat} {t : Nat} : f_Mt sh t YX1_combine 4 (wX1_combine) :=
  f_Mt_of (k := 0) (Nat.le_of_ble_eq_true rfl) rfl rfl (fun ar M R rm cs h1 h2 h3 hX h => PX1_combine ⟨Nat.le_of_ble_eq_true rfl, h1, h2, h3, trivial, hX⟩ h)
def VX1_factOfLot_76 (c_X3_area : Nat → e_M → (Int → Prop) → Prop) (c_X8_get : Nat → Int → e_M → (Int → Prop) → Prop) (c_X10_at : Nat → Int → Int → e_M → (Nat → Prop) → Prop) (k76 : Nat → Int → Int → Prop) (Q : Int → Prop) (a2 : Nat) (x3 : Int) (x5 : Int) (M : e_M) : Prop :=
  (((M (a2 + 4) 1) ≤ x5 → (Q x3)) ∧ (x5 < (M (a2 + 4) 1) → (c_X8_get (a2 + 4) x5 M (fun r1 => (c_X10_at ((M 4452 3).toNat) 2 r1 M (fun r2 => (k76 a2 (e_w64 (x3 + (M r2 6))) (e_w32 (x5 + 1)))))))))
def VX1_factOfLot (c_X3_area : Nat → e_M → (Int → Prop) → Prop) (c_X8_get : Nat → Int → e_M → (Int → Prop) → Prop) (c_X10_at : Nat → Int → Int → e_M → (Nat → Prop) → Prop) (k76 : Nat → Int → Int → Prop) (Q : Int → Prop) (x1 : Int) (a2 : Nat) (M : e_M) : Prop :=
  ((x1 = 262 → (c_X3_area (a2 + 1) M (fun r1 => (Q r1)))) ∧ (¬ x1 = 262 → ((x1 = 263 → (Q (M (a2 + 1) 2))) ∧ (¬ x1 = 263 → ((x1 = 264 → (Q (M a2 8))) ∧ (¬ x1 = 264 → ((x1 = 265 → (k76 a2 0 0)) ∧ (¬ x1 = 265 → ((x1 = 266 → (Q (M a2 2))) ∧ (¬ x1 = 266 → (Q 0)))))))))))
def yX1_factOfLot (i : Nat) : e_Y := x_get YX1_factOfLot [YX3_area, YX8_get, YX10_at] i
def pX1_factOfLotf : List x_I := [(0, 2, 1, 1, 0, 0, []), (1, 24, 69, 0, 22, 0, [(262, 36, 3), (263, 45, 8), (264, 54, 13), (265, 66, 21), (266, 60, 17)]), (36, 4, 1, 2, 0, 0, []), (37, 25, 4, 3, 4, 0, [(0, 3, 3), (0, 1, 1)]), (40, 40, 0, 1, 5, 0, []), (43, 14, 0, 0, 0, 0, []), (44, 43, 0, 0, 0, 0, []), (45, 4, 1, 2, 0, 0, []), (46, 25, 4, 3, 4, 0, [(0, 3, 3), (0, 1, 1)]), (49, 25, 3, 2, 0, 0, []), (52, 14, 0, 0, 0, 0, []), (53, 43, 0, 0, 0, 0, []), (54, 4, 1, 2, 0, 0, []), (55, 25, 4, 8, 0, 0, []), (58, 14, 0, 0, 0, 0, []), (59, 43, 0, 0, 0, 0, []), (60, 4, 1, 2, 0, 0, []), (61, 25, 4, 2, 0, 0, []), (64, 14, 0, 0, 0, 0, []), (65, 43, 0, 0, 0, 0, []), (66, 19, 71, 0, 24, 0, []), (69, 1, 1, 0, 0, 0, []), (70, 43, 0, 0, 0, 0, []), (71, 1, 1, 0, 0, 0, []), (72, 6, 1, 3, 0, 0, []), (73, 0, 1, 0, 0, 0, []), (74, 5, 2, 5, 0, 0, []), (76, 49, 0, 0, 0, 0, []), (76, 2, 2, 5, 0, 0, []), (78, 4, 1, 2, 0, 0, []), (79, 25, 4, 4, 4, 0, [(0, 8, 2), (0, 1, 4)]), (82, 25, 8, 1, 0, 0, []), (85, 18, 118, 3, 49, 0, []), (88, 3, 1, 3, 0, 0, []), (89, 4, 1, 0, 0, 0, []), (90, 25, 1, 3, 4, 0, [(0, 10, 15), (0, 0, 0)]), (93, 0, 1, 0, 0, 2, []), (94, 4, 1, 2, 0, 0, []), (95, 25, 4, 4, 4, 0, [(0, 8, 2), (0, 1, 4)]), (98, 2, 2, 5, 0, 0, []), (100, 40, 1, 2, 10, 0, []), (103, 40, 2, 3, 12, 0, []), (106, 25, 9, 6, 0, 0, []), (109, 14, 0, 0, 0, 0, []), (110, 10, 0, 0, 0, 0, []), (111, 6, 1, 3, 0, 0, []), (112, 8, 0, 5, 0, 1, []), (115, 19, 76, 0, 28, 0, []), (118, 3, 1, 3, 0, 0, []), (119, 43, 0, 0, 0, 0, [])]
set_option maxRecDepth 20000 in
theorem qX1_factOfLotf : f_all yX1_factOfLot YX1_factOfLot pX1_factOfLotf :=
  ⟨f_iload_n (n := 1) (e_dx DX1_factOfLot_0 0 rfl) rfl,
  f_tsw (e_dx DX1_factOfLot_0 1 rfl) rfl rfl (by decide) rfl,
  f_aload_n (n := 2) (e_dx DX1_factOfLot_0 2 rfl) rfl,
  f_getA (e_dx DX1_factOfLot_0 3 rfl) fX1_198 rfl (by decide) (Nat.le_of_ble_eq_true rfl) rfl (by decide),
  x_callV (e_dx DX1_factOfLot_0 4 rfl) mwX3_area vwX3_area cX1_214 rfl,
  f_g14 (e_dx DX1_factOfLot_0 5 rfl),
  ⟨(e_dx DX1_factOfLot_0 6 rfl), rfl⟩,
  f_aload_n (n := 2) (e_dx DX1_factOfLot_0 7 rfl) rfl,
  f_getA (e_dx DX1_factOfLot_0 8 rfl) fX1_198 rfl (by decide) (Nat.le_of_ble_eq_true rfl) rfl (by decide),
  f_getf (e_dx DX1_factOfLot_0 9 rfl) fX1_218 rfl (by decide) (by decide) (by decide),
  f_g14 (e_dx DX1_factOfLot_0 10 rfl),
  ⟨(e_dx DX1_factOfLot_0 11 rfl), rfl⟩,
  f_aload_n (n := 2) (e_dx DX1_factOfLot_0 12 rfl) rfl,
  f_getf (e_dx DX1_factOfLot_0 13 rfl) fX1_219 rfl (by decide) (by decide) (by decide),
  f_g14 (e_dx DX1_factOfLot_0 14 rfl),
  ⟨(e_dx DX1_factOfLot_0 15 rfl), rfl⟩,
  f_aload_n (n := 2) (e_dx DX1_factOfLot_0 16 rfl) rfl,
  f_getf (e_dx DX1_factOfLot_0 17 rfl) fX1_222 rfl (by decide) (by decide) (by decide),
  f_g14 (e_dx DX1_factOfLot_0 18 rfl),
  ⟨(e_dx DX1_factOfLot_0 19 rfl), rfl⟩,
  f_g19 (e_dx DX1_factOfLot_0 20 rfl) rfl,
  f_lconst (n := 0) (e_dx DX1_factOfLot_0 21 rfl) rfl,
  ⟨(e_dx DX1_factOfLot_0 22 rfl), rfl⟩,
  f_lconst (n := 0) (e_dx DX1_factOfLot_0 23 rfl) rfl,
  f_lstore_n (n := 3) (e_dx DX1_factOfLot_0 24 rfl) rfl (by decide),
  f_iconst (e_dx DX1_factOfLot_0 25 rfl) ⟨by decide, by decide⟩,
  f_istore (e_dx DX1_factOfLot_0 26 rfl) (by decide),
  trivial,
  f_iload (e_dx DX1_factOfLot_0 27 rfl),
  f_aload_n (n := 2) (e_dx DX1_factOfLot_0 28 rfl) rfl,
  f_getA (e_dx DX1_factOfLot_0 29 rfl) fX1_225 rfl (by decide) (Nat.le_of_ble_eq_true rfl) rfl (by decide),
  f_getf (e_dx DX1_factOfLot_0 30 rfl) fX1_228 rfl (by decide) (by decide) (by decide),
  f_icmp_ge (e_dx DX1_factOfLot_0 31 rfl) rfl,
  f_lload_n (n := 3) (e_dx DX1_factOfLot_0 32 rfl) rfl,
  f_aload_n (n := 0) (e_dx DX1_factOfLot_0 33 rfl) rfl,
  f_getA (e_dx DX1_factOfLot_0 34 rfl) fX1_31 rfl (by decide) (Nat.le_of_ble_eq_true rfl) rfl (by decide),
  f_iconst (e_dx DX1_factOfLot_0 35 rfl) ⟨by decide, by decide⟩,
  f_aload_n (n := 2) (e_dx DX1_factOfLot_0 36 rfl) rfl,
  f_getA (e_dx DX1_factOfLot_0 37 rfl) fX1_225 rfl (by decide) (Nat.le_of_ble_eq_true rfl) rfl (by decide),
  f_iload (e_dx DX1_factOfLot_0 38 rfl),
  x_callV (e_dx DX1_factOfLot_0 39 rfl) mwX8_get vwX8_get cX1_229 rfl,
  x_callV (e_dx DX1_factOfLot_1 0 rfl) mwX10_at vwX10_at cX1_173 rfl,
  f_getf (e_dx DX1_factOfLot_1 1 rfl) fX1_232 rfl (by decide) (by decide) (by decide),
  f_g14 (e_dx DX1_factOfLot_1 2 rfl),
  f_ladd (e_dx DX1_factOfLot_1 3 rfl),
  f_lstore_n (n := 3) (e_dx DX1_factOfLot_1 4 rfl) rfl (by decide),
  f_g8 (e_dx DX1_factOfLot_1 5 rfl) ⟨by decide, by decide⟩,
  f_g19 (e_dx DX1_factOfLot_1 6 rfl) rfl,
  f_lload_n (n := 3) (e_dx DX1_factOfLot_1 7 rfl) rfl,
  ⟨(e_dx DX1_factOfLot_1 8 rfl), rfl⟩, trivial⟩
def lX1_factOfLot (c_X3_area : Nat → e_M → (Int → Prop) → Prop) (c_X8_get : Nat → Int → e_M → (Int → Prop) → Prop) (c_X10_at : Nat → Int → Int → e_M → (Nat → Prop) → Prop) : List (Nat × f_Wt) := [(0, f_wm [(3, 3, 3)] (fun ar M R => c_X3_area (f_va (f_nth ar 0)) M (fun r => R (some (.inl r)) M))), (1, f_wm [(3, 8, 2), (1, 0, 0)] (fun ar M R => c_X8_get (f_va (f_nth ar 0)) (f_vi (f_nth ar 1)) M (fun r => R (some (.inl r)) M))), (2, f_wm [(3, 10, 15), (1, 0, 0), (1, 0, 0)] (fun ar M R => c_X10_at (f_va (f_nth ar 0)) (f_vi (f_nth ar 1)) (f_vi (f_nth ar 2)) M (fun r => R (some (.inr (.inr (.inl (9, 14, r))))) M)))]
set_option maxRecDepth 20000 in
theorem BX1_factOfLot_76 {sh : Nat → Nat × Nat} {t : Nat} {rm : Nat × Nat × Nat} {cs : Nat × Nat} {R : f_Rt} {c_X3_area : Nat → e_M → (Int → Prop) → Prop} {c_X8_get : Nat → Int → e_M → (Int → Prop) → Prop} {c_X10_at : Nat → Int → Int → e_M → (Nat → Prop) → Prop} {k76 : Nat → Int → Int → Prop} {a2 : Nat} {x3 : Int} {x5 : Int} {M : e_M} (C : f_Hy sh t yX1_factOfLot rm cs 6 (lX1_factOfLot c_X3_area c_X8_get c_X10_at) R) (h76 : ∀ (a2 : Nat) (x3 : Int) (x5 : Int), k76 a2 x3 x5 → f_E sh t YX1_factOfLot rm cs (f_Q sh t R) 76 [.inr (.inr (.inl (1, 7, 4452))), .inr (.inr (.inr ())), .inr (.inr (.inl (4, 9, a2))), .inr (.inl x3), .inr (.inr (.inr ())), .inl x5] [] M) (h : VX1_factOfLot_76 c_X3_area c_X8_get c_X10_at k76 (fun r => R (some (.inr (.inl r))) M) a2 x3 x5 M) : f_E sh t YX1_factOfLot rm cs (f_Q sh t R) 76 [.inr (.inr (.inl (1, 7, 4452))), .inr (.inr (.inr ())), .inr (.inr (.inl (4, 9, a2))), .inr (.inl x3), .inr (.inr (.inr ())), .inl x5] [] M := by
  rw [f_kk3 M k76] at h
  exact f_go (KC := f_kc [(76, f_pl [(4462, 1, 7), (0, 0, 0), (3, 4, 9), (2, 0, 0), (0, 0, 0), (1, 0, 0)] [] (fun ls st M2 => M2 = M ∧ (k76 (f_va (f_nth ls 2)) (f_vi (f_nth ls 3)) (f_vi (f_nth ls 5)))))]) C qX1_factOfLotf (f_kc_cons (f_pl_ok rfl (fun ls st M2 ⟨e, hh⟩ => by subst e; exact h76 _ _ _ hh)) f_kc_nil) 52 28 h
set_option maxRecDepth 20000 in
theorem BX1_factOfLot {sh : Nat → Nat × Nat} {t : Nat} {rm : Nat × Nat × Nat} {cs : Nat × Nat} {R : f_Rt} {c_X3_area : Nat → e_M → (Int → Prop) → Prop} {c_X8_get : Nat → Int → e_M → (Int → Prop) → Prop} {c_X10_at : Nat → Int → Int → e_M → (Nat → Prop) → Prop} {k76 : Nat → Int → Int → Prop} {x1 : Int} {a2 : Nat} {M : e_M} (C : f_Hy sh t yX1_factOfLot rm cs 6 (lX1_factOfLot c_X3_area c_X8_get c_X10_at) R) (h76 : ∀ (a2 : Nat) (x3 : Int) (x5 : Int), k76 a2 x3 x5 → f_E sh t YX1_factOfLot rm cs (f_Q sh t R) 76 [.inr (.inr (.inl (1, 7, 4452))), .inr (.inr (.inr ())), .inr (.inr (.inl (4, 9, a2))), .inr (.inl x3), .inr (.inr (.inr ())), .inl x5] [] M) (h : VX1_factOfLot c_X3_area c_X8_get c_X10_at k76 (fun r => R (some (.inr (.inl r))) M) x1 a2 M) : f_E sh t YX1_factOfLot rm cs (f_Q sh t R) 0 [.inr (.inr (.inl (1, 7, 4452))), .inl x1, .inr (.inr (.inl (4, 9, a2))), .inr (.inr (.inr ())), .inr (.inr (.inr ())), .inr (.inr (.inr ()))] [] M := by
  rw [f_kk3 M k76] at h
  exact f_go (KC := f_kc [(76, f_pl [(4462, 1, 7), (0, 0, 0), (3, 4, 9), (2, 0, 0), (0, 0, 0), (1, 0, 0)] [] (fun ls st M2 => M2 = M ∧ (k76 (f_va (f_nth ls 2)) (f_vi (f_nth ls 3)) (f_vi (f_nth ls 5)))))]) C qX1_factOfLotf (f_kc_cons (f_pl_ok rfl (fun ls st M2 ⟨e, hh⟩ => by subst e; exact h76 _ _ _ hh)) f_kc_nil) 52 0 h
def WX1_factOfLot_76 (M : e_M) (Q : Int → Prop) : Nat → Nat → Int → Int → Prop
  | 0, _, _, _ => False
  | n + 1, a2, x3, x5 =>
    VX1_factOfLot_76 WX3_area WX8_get WX10_at (WX1_factOfLot_76 M Q n) Q a2 x3 x5 M
def WX1_factOfLot (x1 : Int) (a2 : Nat) (M : e_M) (Q : Int → Prop) : Prop :=
  VX1_factOfLot WX3_area WX8_get WX10_at (fun a2 x3 x5 => ∃ j, WX1_factOfLot_76 M Q j a2 x3 x5) Q x1 a2 M
theorem PX1_factOfLot_76 {sh : Nat → Nat × Nat} {t : Nat} {rm : Nat × Nat × Nat} {cs : Nat × Nat} {R : f_Rt} {M : e_M} (C : f_Hy sh t yX1_factOfLot rm cs 6 (lX1_factOfLot WX3_area WX8_get WX10_at) R) : ∀ (n : Nat) (a2 : Nat) (x3 : Int) (x5 : Int), WX1_factOfLot_76 M (fun r => R (some (.inr (.inl r))) M) n a2 x3 x5 → f_E sh t YX1_factOfLot rm cs (f_Q sh t R) 76 [.inr (.inr (.inl (1, 7, 4452))), .inr (.inr (.inr ())), .inr (.inr (.inl (4, 9, a2))), .inr (.inl x3), .inr (.inr (.inr ())), .inl x5] [] M := by
  intro n
  induction n with
  | zero => intro a2 x3 x5 h; exact h.elim
  | succ n ih => intro a2 x3 x5 h; exact BX1_factOfLot_76 C ih h
theorem PX1_factOfLot {sh : Nat → Nat × Nat} {t : Nat} {rm : Nat × Nat × Nat} {cs : Nat × Nat} {R : f_Rt} {x1 : Int} {a2 : Nat} {M : e_M} (C : f_Hy sh t yX1_factOfLot rm cs 6 (lX1_factOfLot WX3_area WX8_get WX10_at) R) (h : WX1_factOfLot x1 a2 M (fun r => R (some (.inr (.inl r))) M)) : f_E sh t YX1_factOfLot rm cs (f_Q sh t R) 0 [.inr (.inr (.inl (1, 7, 4452))), .inl x1, .inr (.inr (.inl (4, 9, a2))), .inr (.inr (.inr ())), .inr (.inr (.inr ())), .inr (.inr (.inr ()))] [] M :=
  BX1_factOfLot C (fun a2 x3 x5 ⟨j, h⟩ => PX1_factOfLot_76 C j _ _ _ h) h
def wX1_factOfLot : f_Wt := f_wm [(4462, 1, 7), (1, 0, 0), (3, 4, 9)] (fun ar M R => WX1_factOfLot (f_vi (f_nth ar 1)) (f_va (f_nth ar 2)) M (fun r => R (some (.inr (.inl r))) M))
theorem TX1_factOfLot {sh : Nat → Nat × Nat} {t : Nat} : f_Mt sh t YX1_factOfLot 6 (wX1_factOfLot) :=
  f_Mt_of (k := 3) (Nat.le_of_ble_eq_true rfl) rfl rfl (fun ar M R rm cs h1 h2 h3 hX h => PX1_factOfLot ⟨Nat.le_of_ble_eq_true rfl, h1, h2, h3, ⟨(f_Mt.up (Nat.le_of_ble_eq_true rfl) TX3_area), (f_Mt.up (Nat.le_of_ble_eq_true rfl) TX8_get), (f_Mt.up (Nat.le_of_ble_eq_true rfl) TX10_at), trivial⟩, hX⟩ h)
def VX1_debtsTo_5 (c_X10_at : Nat → Int → Int → e_M → (Nat → Prop) → Prop) (c_X9_isThere : Nat → Int → e_M → (Int → Prop) → Prop) (k65 : Int → Int → Int → Prop) (k66 : Int → Int → Int → Int → Prop) (Q : Int → Prop) (x1 : Int) (x2 : Int) (x4 : Int) (M : e_M) : Prop :=
  ((0 ≤ (2 : Int) ∧ (2 : Int) < 8) ∧ (((M ((M 4452 3).toNat + 24) ((2 : Int).toNat)) ≤ x4 → (Q x2)) ∧ (x4 < (M ((M 4452 3).toNat + 24) ((2 : Int).toNat)) → (c_X10_at ((M 4452 3).toNat) 2 x4 M (fun r1 => (c_X9_isThere r1 (M ((M 4452 3).toNat) 11) M (fun r2 => ((r2 = 0 → (k65 x1 x4 x2)) ∧ (¬ r2 = 0 → ((¬ (M r1 5) = x1 → (k65 x1 x4 x2)) ∧ ((M r1 5) = x1 → (k66 x1 x4 (M r1 6) x2))))))))))))
def VX1_debtsTo_65 (c_X10_at : Nat → Int → Int → e_M → (Nat → Prop) → Prop) (c_X9_isThere : Nat → Int → e_M → (Int → Prop) → Prop) (k66 : Int → Int → Int → Int → Prop) (Q : Int → Prop) (x1 : Int) (x4 : Int) (xs0 : Int) (M : e_M) : Prop :=
  (k66 x1 x4 0 xs0)
def VX1_debtsTo_66 (c_X10_at : Nat → Int → Int → e_M → (Nat → Prop) → Prop) (c_X9_isThere : Nat → Int → e_M → (Int → Prop) → Prop) (k5 : Int → Int → Int → Prop) (Q : Int → Prop) (x1 : Int) (x4 : Int) (xs1 : Int) (xs0 : Int) (M : e_M) : Prop :=
  (k5 x1 (e_w64 (xs0 + xs1)) (e_w32 (x4 + 1)))
def VX1_debtsTo (c_X10_at : Nat → Int → Int → e_M → (Nat → Prop) → Prop) (c_X9_isThere : Nat → Int → e_M → (Int → Prop) → Prop) (k5 : Int → Int → Int → Prop) (Q : Int → Prop) (x1 : Int) (M : e_M) : Prop :=
  (k5 x1 0 0)
def yX1_debtsTo (i : Nat) : e_Y := x_get YX1_debtsTo [YX10_at, YX9_isThere] i
def pX1_debtsTof : List x_I := [(0, 1, 1, 0, 0, 0, []), (1, 6, 1, 2, 0, 0, []), (2, 0, 1, 0, 0, 0, []), (3, 5, 2, 4, 0, 0, []), (5, 49, 0, 0, 0, 0, []), (5, 2, 2, 4, 0, 0, []), (7, 4, 1, 0, 0, 0, []), (8, 25, 1, 3, 4, 0, [(0, 10, 15), (0, 0, 0)]), (11, 25, 10, 4, 4, 0, [(0, 20, 8), (0, 1, 24)]), (14, 0, 1, 0, 0, 2, []), (15, 27, 0, 0, 0, 0, []), (16, 18, 74, 3, 41, 0, []), (19, 4, 1, 0, 0, 0, []), (20, 25, 1, 3, 4, 0, [(0, 10, 15), (0, 0, 0)]), (23, 0, 1, 0, 0, 2, []), (24, 2, 2, 4, 0, 0, []), (26, 40, 0, 3, 12, 0, []), (29, 7, 2, 5, 0, 0, []), (31, 3, 1, 2, 0, 0, []), (32, 4, 2, 5, 0, 0, []), (34, 4, 1, 0, 0, 0, []), (35, 25, 1, 3, 4, 0, [(0, 10, 15), (0, 0, 0)]), (38, 25, 10, 11, 0, 0, []), (41, 40, 1, 2, 11, 0, []), (44, 17, 65, 0, 34, 0, []), (47, 4, 2, 5, 0, 0, []), (49, 25, 9, 5, 0, 0, []), (52, 2, 1, 1, 0, 0, []), (53, 18, 65, 1, 34, 0, []), (56, 4, 2, 5, 0, 0, []), (58, 25, 9, 6, 0, 0, []), (61, 14, 0, 0, 0, 0, []), (62, 19, 66, 0, 36, 0, []), (65, 49, 0, 0, 0, 0, []), (65, 1, 1, 0, 0, 0, []), (66, 49, 0, 0, 0, 0, []), (66, 10, 0, 0, 0, 0, []), (67, 6, 1, 2, 0, 0, []), (68, 8, 0, 4, 0, 1, []), (71, 19, 5, 0, 5, 0, []), (74, 3, 1, 2, 0, 0, []), (75, 43, 0, 0, 0, 0, [])]
set_option maxRecDepth 20000 in
theorem qX1_debtsTof : f_all yX1_debtsTo YX1_debtsTo pX1_debtsTof :=
  ⟨f_lconst (n := 0) (e_dx DX1_debtsTo_0 0 rfl) rfl,
  f_lstore_n (n := 2) (e_dx DX1_debtsTo_0 1 rfl) rfl (by decide),
  f_iconst (e_dx DX1_debtsTo_0 2 rfl) ⟨by decide, by decide⟩,
  f_istore (e_dx DX1_debtsTo_0 3 rfl) (by decide),
  trivial,
  f_iload (e_dx DX1_debtsTo_0 4 rfl),
  f_aload_n (n := 0) (e_dx DX1_debtsTo_0 5 rfl) rfl,
  f_getA (e_dx DX1_debtsTo_0 6 rfl) fX1_31 rfl (by decide) (Nat.le_of_ble_eq_true rfl) rfl (by decide),
  f_getA (e_dx DX1_debtsTo_0 7 rfl) fX1_104 rfl (by decide) (Nat.le_of_ble_eq_true rfl) rfl (by decide),
  f_iconst (e_dx DX1_debtsTo_0 8 rfl) ⟨by decide, by decide⟩,
  f_iaload (e_dx DX1_debtsTo_0 9 rfl),
  f_icmp_ge (e_dx DX1_debtsTo_0 10 rfl) rfl,
  f_aload_n (n := 0) (e_dx DX1_debtsTo_0 11 rfl) rfl,
  f_getA (e_dx DX1_debtsTo_0 12 rfl) fX1_31 rfl (by decide) (Nat.le_of_ble_eq_true rfl) rfl (by decide),
  f_iconst (e_dx DX1_debtsTo_0 13 rfl) ⟨by decide, by decide⟩,
  f_iload (e_dx DX1_debtsTo_0 14 rfl),
  x_callV (e_dx DX1_debtsTo_0 15 rfl) mwX10_at vwX10_at cX1_173 rfl,
  f_astore (e_dx DX1_debtsTo_0 16 rfl) (by decide),
  f_lload_n (n := 2) (e_dx DX1_debtsTo_0 17 rfl) rfl,
  f_aload (e_dx DX1_debtsTo_0 18 rfl),
  f_aload_n (n := 0) (e_dx DX1_debtsTo_0 19 rfl) rfl,
  f_getA (e_dx DX1_debtsTo_0 20 rfl) fX1_31 rfl (by decide) (Nat.le_of_ble_eq_true rfl) rfl (by decide),
  f_getf (e_dx DX1_debtsTo_0 21 rfl) fX1_245 rfl (by decide) (by decide) (by decide),
  x_callV (e_dx DX1_debtsTo_0 22 rfl) mwX9_isThere vwX9_isThere cX1_265 rfl,
  f_if_eq (e_dx DX1_debtsTo_0 23 rfl) rfl,
  f_aload (e_dx DX1_debtsTo_0 24 rfl),
  f_getf (e_dx DX1_debtsTo_0 25 rfl) fX1_177 rfl (by decide) (by decide) (by decide),
  f_iload_n (n := 1) (e_dx DX1_debtsTo_0 26 rfl) rfl,
  f_icmp_ne (e_dx DX1_debtsTo_0 27 rfl) rfl,
  f_aload (e_dx DX1_debtsTo_0 28 rfl),
  f_getf (e_dx DX1_debtsTo_0 29 rfl) fX1_232 rfl (by decide) (by decide) (by decide),
  f_g14 (e_dx DX1_debtsTo_0 30 rfl),
  f_g19 (e_dx DX1_debtsTo_0 31 rfl) rfl,
  trivial,
  f_lconst (n := 0) (e_dx DX1_debtsTo_0 32 rfl) rfl,
  trivial,
  f_ladd (e_dx DX1_debtsTo_0 33 rfl),
  f_lstore_n (n := 2) (e_dx DX1_debtsTo_0 34 rfl) rfl (by decide),
  f_g8 (e_dx DX1_debtsTo_0 35 rfl) ⟨by decide, by decide⟩,
  f_g19 (e_dx DX1_debtsTo_0 36 rfl) rfl,
  f_lload_n (n := 2) (e_dx DX1_debtsTo_0 37 rfl) rfl,
  ⟨(e_dx DX1_debtsTo_0 38 rfl), rfl⟩, trivial⟩
def lX1_debtsTo (c_X10_at : Nat → Int → Int → e_M → (Nat → Prop) → Prop) (c_X9_isThere : Nat → Int → e_M → (Int → Prop) → Prop) : List (Nat × f_Wt) := [(0, f_wm [(3, 10, 15), (1, 0, 0), (1, 0, 0)] (fun ar M R => c_X10_at (f_va (f_nth ar 0)) (f_vi (f_nth ar 1)) (f_vi (f_nth ar 2)) M (fun r => R (some (.inr (.inr (.inl (9, 14, r))))) M))), (1, f_wm [(3, 9, 14), (1, 0, 0)] (fun ar M R => c_X9_isThere (f_va (f_nth ar 0)) (f_vi (f_nth ar 1)) M (fun r => R (some (.inl r)) M)))]
set_option maxRecDepth 20000 in
theorem BX1_debtsTo_5 {sh : Nat → Nat × Nat} {t : Nat} {rm : Nat × Nat × Nat} {cs : Nat × Nat} {R : f_Rt} {c_X10_at : Nat → Int → Int → e_M → (Nat → Prop) → Prop} {c_X9_isThere : Nat → Int → e_M → (Int → Prop) → Prop} {k65 : Int → Int → Int → Prop} {k66 : Int → Int → Int → Int → Prop} {x1 : Int} {x2 : Int} {x4 : Int} {M : e_M} (C : f_Hy sh t yX1_debtsTo rm cs 5 (lX1_debtsTo c_X10_at c_X9_isThere) R) (h65 : ∀ (x1 : Int) (x4 : Int) (xs0 : Int), k65 x1 x4 xs0 → f_E sh t YX1_debtsTo rm cs (f_Q sh t R) 65 [.inr (.inr (.inl (1, 7, 4452))), .inl x1, .inr (.inr (.inr ())), .inr (.inr (.inr ())), .inl x4, .inr (.inr (.inr ()))] [.inr (.inl xs0)] M) (h66 : ∀ (x1 : Int) (x4 : Int) (xs1 : Int) (xs0 : Int), k66 x1 x4 xs1 xs0 → f_E sh t YX1_debtsTo rm cs (f_Q sh t R) 66 [.inr (.inr (.inl (1, 7, 4452))), .inl x1, .inr (.inr (.inr ())), .inr (.inr (.inr ())), .inl x4, .inr (.inr (.inr ()))] [.inr (.inl xs1), .inr (.inl xs0)] M) (h : VX1_debtsTo_5 c_X10_at c_X9_isThere k65 k66 (fun r => R (some (.inr (.inl r))) M) x1 x2 x4 M) : f_E sh t YX1_debtsTo rm cs (f_Q sh t R) 5 [.inr (.inr (.inl (1, 7, 4452))), .inl x1, .inr (.inl x2), .inr (.inr (.inr ())), .inl x4, .inr (.inr (.inr ()))] [] M := by
  rw [f_kk3 M k65] at h
  rw [f_kk4 M k66] at h
  exact f_go (KC := f_kc [(65, f_pl [(4462, 1, 7), (1, 0, 0), (0, 0, 0), (0, 0, 0), (1, 0, 0), (0, 0, 0)] [(2, 0, 0)] (fun ls st M2 => M2 = M ∧ (k65 (f_vi (f_nth ls 1)) (f_vi (f_nth ls 4)) (f_vi (f_nth st 0))))), (66, f_pl [(4462, 1, 7), (1, 0, 0), (0, 0, 0), (0, 0, 0), (1, 0, 0), (0, 0, 0)] [(2, 0, 0), (2, 0, 0)] (fun ls st M2 => M2 = M ∧ (k66 (f_vi (f_nth ls 1)) (f_vi (f_nth ls 4)) (f_vi (f_nth st 0)) (f_vi (f_nth st 1)))))]) C qX1_debtsTof (f_kc_cons (f_pl_ok rfl (fun ls st M2 ⟨e, hh⟩ => by subst e; exact h65 _ _ _ hh)) (f_kc_cons (f_pl_ok rfl (fun ls st M2 ⟨e, hh⟩ => by subst e; exact h66 _ _ _ _ hh)) f_kc_nil)) 44 5 h
set_option maxRecDepth 20000 in
theorem BX1_debtsTo_65 {sh : Nat → Nat × Nat} {t : Nat} {rm : Nat × Nat × Nat} {cs : Nat × Nat} {R : f_Rt} {c_X10_at : Nat → Int → Int → e_M → (Nat → Prop) → Prop} {c_X9_isThere : Nat → Int → e_M → (Int → Prop) → Prop} {k66 : Int → Int → Int → Int → Prop} {x1 : Int} {x4 : Int} {xs0 : Int} {M : e_M} (C : f_Hy sh t yX1_debtsTo rm cs 5 (lX1_debtsTo c_X10_at c_X9_isThere) R) (h66 : ∀ (x1 : Int) (x4 : Int) (xs1 : Int) (xs0 : Int), k66 x1 x4 xs1 xs0 → f_E sh t YX1_debtsTo rm cs (f_Q sh t R) 66 [.inr (.inr (.inl (1, 7, 4452))), .inl x1, .inr (.inr (.inr ())), .inr (.inr (.inr ())), .inl x4, .inr (.inr (.inr ()))] [.inr (.inl xs1), .inr (.inl xs0)] M) (h : VX1_debtsTo_65 c_X10_at c_X9_isThere k66 (fun r => R (some (.inr (.inl r))) M) x1 x4 xs0 M) : f_E sh t YX1_debtsTo rm cs (f_Q sh t R) 65 [.inr (.inr (.inl (1, 7, 4452))), .inl x1, .inr (.inr (.inr ())), .inr (.inr (.inr ())), .inl x4, .inr (.inr (.inr ()))] [.inr (.inl xs0)] M := by
  rw [f_kk4 M k66] at h
  exact f_go (KC := f_kc [(66, f_pl [(4462, 1, 7), (1, 0, 0), (0, 0, 0), (0, 0, 0), (1, 0, 0), (0, 0, 0)] [(2, 0, 0), (2, 0, 0)] (fun ls st M2 => M2 = M ∧ (k66 (f_vi (f_nth ls 1)) (f_vi (f_nth ls 4)) (f_vi (f_nth st 0)) (f_vi (f_nth st 1)))))]) C qX1_debtsTof (f_kc_cons (f_pl_ok rfl (fun ls st M2 ⟨e, hh⟩ => by subst e; exact h66 _ _ _ _ hh)) f_kc_nil) 44 34 h
set_option maxRecDepth 20000 in
theorem BX1_debtsTo_66 {sh : Nat → Nat × Nat} {t : Nat} {rm : Nat × Nat × Nat} {cs : Nat × Nat} {R : f_Rt} {c_X10_at : Nat → Int → Int → e_M → (Nat → Prop) → Prop} {c_X9_isThere : Nat → Int → e_M → (Int → Prop) → Prop} {k5 : Int → Int → Int → Prop} {x1 : Int} {x4 : Int} {xs1 : Int} {xs0 : Int} {M : e_M} (C : f_Hy sh t yX1_debtsTo rm cs 5 (lX1_debtsTo c_X10_at c_X9_isThere) R) (h5 : ∀ (x1 : Int) (x2 : Int) (x4 : Int), k5 x1 x2 x4 → f_E sh t YX1_debtsTo rm cs (f_Q sh t R) 5 [.inr (.inr (.inl (1, 7, 4452))), .inl x1, .inr (.inl x2), .inr (.inr (.inr ())), .inl x4, .inr (.inr (.inr ()))] [] M) (h : VX1_debtsTo_66 c_X10_at c_X9_isThere k5 (fun r => R (some (.inr (.inl r))) M) x1 x4 xs1 xs0 M) : f_E sh t YX1_debtsTo rm cs (f_Q sh t R) 66 [.inr (.inr (.inl (1, 7, 4452))), .inl x1, .inr (.inr (.inr ())), .inr (.inr (.inr ())), .inl x4, .inr (.inr (.inr ()))] [.inr (.inl xs1), .inr (.inl xs0)] M := by
  rw [f_kk3 M k5] at h
  exact f_go (KC := f_kc [(5, f_pl [(4462, 1, 7), (1, 0, 0), (2, 0, 0), (0, 0, 0), (1, 0, 0), (0, 0, 0)] [] (fun ls st M2 => M2 = M ∧ (k5 (f_vi (f_nth ls 1)) (f_vi (f_nth ls 2)) (f_vi (f_nth ls 4)))))]) C qX1_debtsTof (f_kc_cons (f_pl_ok rfl (fun ls st M2 ⟨e, hh⟩ => by subst e; exact h5 _ _ _ hh)) f_kc_nil) 44 36 h
set_option maxRecDepth 20000 in
theorem BX1_debtsTo {sh : Nat → Nat × Nat} {t : Nat} {rm : Nat × Nat × Nat} {cs : Nat × Nat} {R : f_Rt} {c_X10_at : Nat → Int → Int → e_M → (Nat → Prop) → Prop} {c_X9_isThere : Nat → Int → e_M → (Int → Prop) → Prop} {k5 : Int → Int → Int → Prop} {x1 : Int} {M : e_M} (C : f_Hy sh t yX1_debtsTo rm cs 5 (lX1_debtsTo c_X10_at c_X9_isThere) R) (h5 : ∀ (x1 : Int) (x2 : Int) (x4 : Int), k5 x1 x2 x4 → f_E sh t YX1_debtsTo rm cs (f_Q sh t R) 5 [.inr (.inr (.inl (1, 7, 4452))), .inl x1, .inr (.inl x2), .inr (.inr (.inr ())), .inl x4, .inr (.inr (.inr ()))] [] M) (h : VX1_debtsTo c_X10_at c_X9_isThere k5 (fun r => R (some (.inr (.inl r))) M) x1 M) : f_E sh t YX1_debtsTo rm cs (f_Q sh t R) 0 [.inr (.inr (.inl (1, 7, 4452))), .inl x1, .inr (.inr (.inr ())), .inr (.inr (.inr ())), .inr (.inr (.inr ())), .inr (.inr (.inr ()))] [] M := by
  rw [f_kk3 M k5] at h
  exact f_go (KC := f_kc [(5, f_pl [(4462, 1, 7), (1, 0, 0), (2, 0, 0), (0, 0, 0), (1, 0, 0), (0, 0, 0)] [] (fun ls st M2 => M2 = M ∧ (k5 (f_vi (f_nth ls 1)) (f_vi (f_nth ls 2)) (f_vi (f_nth ls 4)))))]) C qX1_debtsTof (f_kc_cons (f_pl_ok rfl (fun ls st M2 ⟨e, hh⟩ => by subst e; exact h5 _ _ _ hh)) f_kc_nil) 44 0 h
def WX1_debtsTo_66 (M : e_M) (H5 : Int → Int → Int → Prop) (Q : Int → Prop) (x1 : Int) (x4 : Int) (xs1 : Int) (xs0 : Int) : Prop :=
  VX1_debtsTo_66 WX10_at WX9_isThere H5 Q x1 x4 xs1 xs0 M
def WX1_debtsTo_65 (M : e_M) (H5 : Int → Int → Int → Prop) (Q : Int → Prop) (x1 : Int) (x4 : Int) (xs0 : Int) : Prop :=
  VX1_debtsTo_65 WX10_at WX9_isThere (WX1_debtsTo_66 M H5 Q) Q x1 x4 xs0 M
def WX1_debtsTo_5 (M : e_M) (Q : Int → Prop) : Nat → Int → Int → Int → Prop
  | 0, _, _, _ => False
  | n + 1, x1, x2, x4 =>
    VX1_debtsTo_5 WX10_at WX9_isThere (WX1_debtsTo_65 M (WX1_debtsTo_5 M Q n) Q) (WX1_debtsTo_66 M (WX1_debtsTo_5 M Q n) Q) Q x1 x2 x4 M
def WX1_debtsTo (x1 : Int) (M : e_M) (Q : Int → Prop) : Prop :=
  VX1_debtsTo WX10_at WX9_isThere (fun x1 x2 x4 => ∃ j, WX1_debtsTo_5 M Q j x1 x2 x4) Q x1 M
theorem PX1_debtsTo_66 {sh : Nat → Nat × Nat} {t : Nat} {rm : Nat × Nat × Nat} {cs : Nat × Nat} {R : f_Rt} {H5 : Int → Int → Int → Prop} {x1 : Int} {x4 : Int} {xs1 : Int} {xs0 : Int} {M : e_M} (C : f_Hy sh t yX1_debtsTo rm cs 5 (lX1_debtsTo WX10_at WX9_isThere) R) (g5 : ∀ (x1 : Int) (x2 : Int) (x4 : Int), H5 x1 x2 x4 → f_E sh t YX1_debtsTo rm cs (f_Q sh t R) 5 [.inr (.inr (.inl (1, 7, 4452))), .inl x1, .inr (.inl x2), .inr (.inr (.inr ())), .inl x4, .inr (.inr (.inr ()))] [] M) (h : WX1_debtsTo_66 M H5 (fun r => R (some (.inr (.inl r))) M) x1 x4 xs1 xs0) : f_E sh t YX1_debtsTo rm cs (f_Q sh t R) 66 [.inr (.inr (.inl (1, 7, 4452))), .inl x1, .inr (.inr (.inr ())), .inr (.inr (.inr ())), .inl x4, .inr (.inr (.inr ()))] [.inr (.inl xs1), .inr (.inl xs0)] M :=
  BX1_debtsTo_66 C g5 h
theorem PX1_debtsTo_65 {sh : Nat → Nat × Nat} {t : Nat} {rm : Nat × Nat × Nat} {cs : Nat × Nat} {R : f_Rt} {H5 : Int → Int → Int → Prop} {x1 : Int} {x4 : Int} {xs0 : Int} {M : e_M} (C : f_Hy sh t yX1_debtsTo rm cs 5 (lX1_debtsTo WX10_at WX9_isThere) R) (g5 : ∀ (x1 : Int) (x2 : Int) (x4 : Int), H5 x1 x2 x4 → f_E sh t YX1_debtsTo rm cs (f_Q sh t R) 5 [.inr (.inr (.inl (1, 7, 4452))), .inl x1, .inr (.inl x2), .inr (.inr (.inr ())), .inl x4, .inr (.inr (.inr ()))] [] M) (h : WX1_debtsTo_65 M H5 (fun r => R (some (.inr (.inl r))) M) x1 x4 xs0) : f_E sh t YX1_debtsTo rm cs (f_Q sh t R) 65 [.inr (.inr (.inl (1, 7, 4452))), .inl x1, .inr (.inr (.inr ())), .inr (.inr (.inr ())), .inl x4, .inr (.inr (.inr ()))] [.inr (.inl xs0)] M :=
  BX1_debtsTo_65 C (fun x1 x4 xs1 xs0 h => PX1_debtsTo_66 C g5 h) h
theorem PX1_debtsTo_5 {sh : Nat → Nat × Nat} {t : Nat} {rm : Nat × Nat × Nat} {cs : Nat × Nat} {R : f_Rt} {M : e_M} (C : f_Hy sh t yX1_debtsTo rm cs 5 (lX1_debtsTo WX10_at WX9_isThere) R) : ∀ (n : Nat) (x1 : Int) (x2 : Int) (x4 : Int), WX1_debtsTo_5 M (fun r => R (some (.inr (.inl r))) M) n x1 x2 x4 → f_E sh t YX1_debtsTo rm cs (f_Q sh t R) 5 [.inr (.inr (.inl (1, 7, 4452))), .inl x1, .inr (.inl x2), .inr (.inr (.inr ())), .inl x4, .inr (.inr (.inr ()))] [] M := by
  intro n
  induction n with
  | zero => intro x1 x2 x4 h; exact h.elim
  | succ n ih => intro x1 x2 x4 h; exact BX1_debtsTo_5 C (fun x1 x4 xs0 h => PX1_debtsTo_65 C ih h) (fun x1 x4 xs1 xs0 h => PX1_debtsTo_66 C ih h) h
theorem PX1_debtsTo {sh : Nat → Nat × Nat} {t : Nat} {rm : Nat × Nat × Nat} {cs : Nat × Nat} {R : f_Rt} {x1 : Int} {M : e_M} (C : f_Hy sh t yX1_debtsTo rm cs 5 (lX1_debtsTo WX10_at WX9_isThere) R) (h : WX1_debtsTo x1 M (fun r => R (some (.inr (.inl r))) M)) : f_E sh t YX1_debtsTo rm cs (f_Q sh t R) 0 [.inr (.inr (.inl (1, 7, 4452))), .inl x1, .inr (.inr (.inr ())), .inr (.inr (.inr ())), .inr (.inr (.inr ())), .inr (.inr (.inr ()))] [] M :=
  BX1_debtsTo C (fun x1 x2 x4 ⟨j, h⟩ => PX1_debtsTo_5 C j _ _ _ h) h
def wX1_debtsTo : f_Wt := f_wm [(4462, 1, 7), (1, 0, 0)] (fun ar M R => WX1_debtsTo (f_vi (f_nth ar 1)) M (fun r => R (some (.inr (.inl r))) M))
theorem TX1_debtsTo {sh : Nat → Nat × Nat} {t : Nat} : f_Mt sh t YX1_debtsTo 5 (wX1_debtsTo) :=
  f_Mt_of (k := 4) (Nat.le_of_ble_eq_true rfl) rfl rfl (fun ar M R rm cs h1 h2 h3 hX h => PX1_debtsTo ⟨Nat.le_of_ble_eq_true rfl, h1, h2, h3, ⟨(f_Mt.up (Nat.le_of_ble_eq_true rfl) TX10_at), (f_Mt.up (Nat.le_of_ble_eq_true rfl) TX9_isThere), trivial⟩, hX⟩ h)
def VX11_yearsBetween (c_X11_dateOf : Int → e_M → (Int → Prop) → Prop) (Q : Int → Prop) (x0 : Int) (x1 : Int) (M : e_M) : Prop :=
  (c_X11_dateOf x1 M (fun r1 => (c_X11_dateOf x0 M (fun r2 => (¬ (10000 : Int) = 0 ∧ (Q (e_w32 ((e_w32 (r1 - r2)).tdiv 10000))))))))
def yX11_yearsBetween (i : Nat) : e_Y := x_get YX11_yearsBetween [YX11_dateOf] i
def pX11_yearsBetweenf : List x_I := [(0, 2, 1, 1, 0, 0, []), (1, 40, 0, 1, 0, 0, []), (4, 2, 1, 0, 0, 0, []), (5, 40, 0, 1, 0, 0, []), (8, 9, 0, 1, 0, 0, []), (9, 0, 3, 0, 0, 10000, []), (12, 9, 0, 3, 0, 0, []), (13, 41, 0, 0, 0, 0, [])]
set_option maxRecDepth 20000 in
theorem qX11_yearsBetweenf : f_all yX11_yearsBetween YX11_yearsBetween pX11_yearsBetweenf :=
  ⟨f_iload_n (n := 1) (e_dx DX11_yearsBetween_0 0 rfl) rfl,
  x_callS (e_dx DX11_yearsBetween_0 1 rfl) mwX11_dateOf cX11_260 swX11_dateOf rfl,
  f_iload_n (n := 0) (e_dx DX11_yearsBetween_0 2 rfl) rfl,
  x_callS (e_dx DX11_yearsBetween_0 3 rfl) mwX11_dateOf cX11_260 swX11_dateOf rfl,
  f_isub (e_dx DX11_yearsBetween_0 4 rfl),
  f_sipush (e_dx DX11_yearsBetween_0 5 rfl) ⟨by decide, by decide⟩,
  f_idiv (e_dx DX11_yearsBetween_0 6 rfl),
  ⟨(e_dx DX11_yearsBetween_0 7 rfl), rfl⟩, trivial⟩
def lX11_yearsBetween (c_X11_dateOf : Int → e_M → (Int → Prop) → Prop) : List (Nat × f_Wt) := [(0, f_wm [(1, 0, 0)] (fun ar M R => c_X11_dateOf (f_vi (f_nth ar 0)) M (fun r => R (some (.inl r)) M)))]
set_option maxRecDepth 20000 in
theorem BX11_yearsBetween {sh : Nat → Nat × Nat} {t : Nat} {rm : Nat × Nat × Nat} {cs : Nat × Nat} {R : f_Rt} {c_X11_dateOf : Int → e_M → (Int → Prop) → Prop} {x0 : Int} {x1 : Int} {M : e_M} (C : f_Hy sh t yX11_yearsBetween rm cs 5 (lX11_yearsBetween c_X11_dateOf) R) (h : VX11_yearsBetween c_X11_dateOf (fun r => R (some (.inl r)) M) x0 x1 M) : f_E sh t YX11_yearsBetween rm cs (f_Q sh t R) 0 [.inl x0, .inl x1] [] M :=
  f_go (KC := f_kc []) C qX11_yearsBetweenf f_kc_nil 10 0 h
def WX11_yearsBetween (x0 : Int) (x1 : Int) (M : e_M) (Q : Int → Prop) : Prop :=
  VX11_yearsBetween WX11_dateOf Q x0 x1 M
theorem PX11_yearsBetween {sh : Nat → Nat × Nat} {t : Nat} {rm : Nat × Nat × Nat} {cs : Nat × Nat} {R : f_Rt} {x0 : Int} {x1 : Int} {M : e_M} (C : f_Hy sh t yX11_yearsBetween rm cs 5 (lX11_yearsBetween WX11_dateOf) R) (h : WX11_yearsBetween x0 x1 M (fun r => R (some (.inl r)) M)) : f_E sh t YX11_yearsBetween rm cs (f_Q sh t R) 0 [.inl x0, .inl x1] [] M :=
  BX11_yearsBetween C h
def wX11_yearsBetween : f_Wt := f_wm [(1, 0, 0), (1, 0, 0)] (fun ar M R => WX11_yearsBetween (f_vi (f_nth ar 0)) (f_vi (f_nth ar 1)) M (fun r => R (some (.inl r)) M))
theorem TX11_yearsBetween {sh : Nat → Nat × Nat} {t : Nat} : f_Mt sh t YX11_yearsBetween 5 (wX11_yearsBetween) :=
  f_Mt_of (k := 0) (Nat.le_of_ble_eq_true rfl) rfl rfl (fun ar M R rm cs h1 h2 h3 hX h => PX11_yearsBetween ⟨Nat.le_of_ble_eq_true rfl, h1, h2, h3, ⟨(f_Mt.up (Nat.le_of_ble_eq_true rfl) TX11_dateOf), trivial⟩, hX⟩ h)
def VX1_lotsOf_4 (c_X10_lot : Nat → Int → e_M → (Nat → Prop) → Prop) (c_X4_placeOf : Nat → Int → e_M → (Int → Prop) → Prop) (k49 : Int → Int → Int → Prop) (k50 : Int → Int → Int → Int → Prop) (Q : Int → Prop) (x1 : Int) (x2 : Int) (x3 : Int) (M : e_M) : Prop :=
  ((0 ≤ (0 : Int) ∧ (0 : Int) < 8) ∧ (((M ((M 4452 3).toNat + 24) ((0 : Int).toNat)) ≤ x3 → (Q x2)) ∧ (x3 < (M ((M 4452 3).toNat + 24) ((0 : Int).toNat)) → (c_X10_lot ((M 4452 3).toNat) x3 M (fun r1 => ((¬ (M r1 1) = 0 → (k49 x1 x3 x2)) ∧ ((M r1 1) = 0 → (c_X4_placeOf r1 x1 M (fun r2 => ((r2 < 0 → (k49 x1 x3 x2)) ∧ (0 ≤ r2 → (k50 x1 x3 1 x2))))))))))))
def VX1_lotsOf_49 (c_X10_lot : Nat → Int → e_M → (Nat → Prop) → Prop) (c_X4_placeOf : Nat → Int → e_M → (Int → Prop) → Prop) (k50 : Int → Int → Int → Int → Prop) (Q : Int → Prop) (x1 : Int) (x3 : Int) (xs0 : Int) (M : e_M) : Prop :=
  (k50 x1 x3 0 xs0)
def VX1_lotsOf_50 (c_X10_lot : Nat → Int → e_M → (Nat → Prop) → Prop) (c_X4_placeOf : Nat → Int → e_M → (Int → Prop) → Prop) (k4 : Int → Int → Int → Prop) (Q : Int → Prop) (x1 : Int) (x3 : Int) (xs1 : Int) (xs0 : Int) (M : e_M) : Prop :=
  (k4 x1 (e_w32 (xs0 + xs1)) (e_w32 (x3 + 1)))
def VX1_lotsOf (c_X10_lot : Nat → Int → e_M → (Nat → Prop) → Prop) (c_X4_placeOf : Nat → Int → e_M → (Int → Prop) → Prop) (k4 : Int → Int → Int → Prop) (Q : Int → Prop) (x1 : Int) (M : e_M) : Prop :=
  (k4 x1 0 0)
def yX1_lotsOf (i : Nat) : e_Y := x_get YX1_lotsOf [YX10_lot, YX4_placeOf] i
def pX1_lotsOff : List x_I := [(0, 0, 1, 0, 0, 0, []), (1, 5, 1, 2, 0, 0, []), (2, 0, 1, 0, 0, 0, []), (3, 5, 1, 3, 0, 0, []), (4, 49, 0, 0, 0, 0, []), (4, 2, 1, 3, 0, 0, []), (5, 4, 1, 0, 0, 0, []), (6, 25, 1, 3, 4, 0, [(0, 10, 15), (0, 0, 0)]), (9, 25, 10, 4, 4, 0, [(0, 20, 8), (0, 1, 24)]), (12, 0, 1, 0, 0, 0, []), (13, 27, 0, 0, 0, 0, []), (14, 18, 58, 3, 35, 0, []), (17, 4, 1, 0, 0, 0, []), (18, 25, 1, 3, 4, 0, [(0, 10, 15), (0, 0, 0)]), (21, 2, 1, 3, 0, 0, []), (22, 40, 0, 2, 12, 0, []), (25, 7, 2, 4, 0, 0, []), (27, 2, 1, 2, 0, 0, []), (28, 4, 2, 4, 0, 0, []), (30, 25, 4, 1, 1, 0, []), (33, 17, 49, 1, 28, 0, []), (36, 4, 2, 4, 0, 0, []), (38, 2, 1, 1, 0, 0, []), (39, 40, 1, 2, 6, 0, []), (42, 17, 49, 2, 28, 0, []), (45, 0, 1, 0, 0, 1, []), (46, 19, 50, 0, 30, 0, []), (49, 49, 0, 0, 0, 0, []), (49, 0, 1, 0, 0, 0, []), (50, 49, 0, 0, 0, 0, []), (50, 9, 0, 0, 0, 0, []), (51, 5, 1, 2, 0, 0, []), (52, 8, 0, 3, 0, 1, []), (55, 19, 4, 0, 5, 0, []), (58, 2, 1, 2, 0, 0, []), (59, 41, 0, 0, 0, 0, [])]
set_option maxRecDepth 20000 in
theorem qX1_lotsOff : f_all yX1_lotsOf YX1_lotsOf pX1_lotsOff :=
  ⟨f_iconst (e_dx DX1_lotsOf_0 0 rfl) ⟨by decide, by decide⟩,
  f_istore_n (n := 2) (e_dx DX1_lotsOf_0 1 rfl) rfl (by decide),
  f_iconst (e_dx DX1_lotsOf_0 2 rfl) ⟨by decide, by decide⟩,
  f_istore_n (n := 3) (e_dx DX1_lotsOf_0 3 rfl) rfl (by decide),
  trivial,
  f_iload_n (n := 3) (e_dx DX1_lotsOf_0 4 rfl) rfl,
  f_aload_n (n := 0) (e_dx DX1_lotsOf_0 5 rfl) rfl,
  f_getA (e_dx DX1_lotsOf_0 6 rfl) fX1_31 rfl (by decide) (Nat.le_of_ble_eq_true rfl) rfl (by decide),
  f_getA (e_dx DX1_lotsOf_0 7 rfl) fX1_104 rfl (by decide) (Nat.le_of_ble_eq_true rfl) rfl (by decide),
  f_iconst (e_dx DX1_lotsOf_0 8 rfl) ⟨by decide, by decide⟩,
  f_iaload (e_dx DX1_lotsOf_0 9 rfl),
  f_icmp_ge (e_dx DX1_lotsOf_0 10 rfl) rfl,
  f_aload_n (n := 0) (e_dx DX1_lotsOf_0 11 rfl) rfl,
  f_getA (e_dx DX1_lotsOf_0 12 rfl) fX1_31 rfl (by decide) (Nat.le_of_ble_eq_true rfl) rfl (by decide),
  f_iload_n (n := 3) (e_dx DX1_lotsOf_0 13 rfl) rfl,
  x_callV (e_dx DX1_lotsOf_0 14 rfl) mwX10_lot vwX10_lot cX1_139 rfl,
  f_astore (e_dx DX1_lotsOf_0 15 rfl) (by decide),
  f_iload_n (n := 2) (e_dx DX1_lotsOf_0 16 rfl) rfl,
  f_aload (e_dx DX1_lotsOf_0 17 rfl),
  f_getf (e_dx DX1_lotsOf_0 18 rfl) fX1_194 rfl (by decide) (by decide) (by decide),
  f_if_ne (e_dx DX1_lotsOf_0 19 rfl) rfl,
  f_aload (e_dx DX1_lotsOf_0 20 rfl),
  f_iload_n (n := 1) (e_dx DX1_lotsOf_0 21 rfl) rfl,
  x_callV (e_dx DX1_lotsOf_0 22 rfl) mwX4_placeOf vwX4_placeOf cX1_167 rfl,
  f_if_lt (e_dx DX1_lotsOf_0 23 rfl) rfl,
  f_iconst (e_dx DX1_lotsOf_0 24 rfl) ⟨by decide, by decide⟩,
  f_g19 (e_dx DX1_lotsOf_0 25 rfl) rfl,
  trivial,
  f_iconst (e_dx DX1_lotsOf_0 26 rfl) ⟨by decide, by decide⟩,
  trivial,
  f_iadd (e_dx DX1_lotsOf_0 27 rfl),
  f_istore_n (n := 2) (e_dx DX1_lotsOf_0 28 rfl) rfl (by decide),
  f_g8 (e_dx DX1_lotsOf_0 29 rfl) ⟨by decide, by decide⟩,
  f_g19 (e_dx DX1_lotsOf_0 30 rfl) rfl,
  f_iload_n (n := 2) (e_dx DX1_lotsOf_0 31 rfl) rfl,
  ⟨(e_dx DX1_lotsOf_0 32 rfl), rfl⟩, trivial⟩
def lX1_lotsOf (c_X10_lot : Nat → Int → e_M → (Nat → Prop) → Prop) (c_X4_placeOf : Nat → Int → e_M → (Int → Prop) → Prop) : List (Nat × f_Wt) := [(0, f_wm [(3, 10, 15), (1, 0, 0)] (fun ar M R => c_X10_lot (f_va (f_nth ar 0)) (f_vi (f_nth ar 1)) M (fun r => R (some (.inr (.inr (.inl (4, 9, r))))) M))), (1, f_wm [(3, 4, 9), (1, 0, 0)] (fun ar M R => c_X4_placeOf (f_va (f_nth ar 0)) (f_vi (f_nth ar 1)) M (fun r => R (some (.inl r)) M)))]
set_option maxRecDepth 20000 in
theorem BX1_lotsOf_4 {sh : Nat → Nat × Nat} {t : Nat} {rm : Nat × Nat × Nat} {cs : Nat × Nat} {R : f_Rt} {c_X10_lot : Nat → Int → e_M → (Nat → Prop) → Prop} {c_X4_placeOf : Nat → Int → e_M → (Int → Prop) → Prop} {k49 : Int → Int → Int → Prop} {k50 : Int → Int → Int → Int → Prop} {x1 : Int} {x2 : Int} {x3 : Int} {M : e_M} (C : f_Hy sh t yX1_lotsOf rm cs 5 (lX1_lotsOf c_X10_lot c_X4_placeOf) R) (h49 : ∀ (x1 : Int) (x3 : Int) (xs0 : Int), k49 x1 x3 xs0 → f_E sh t YX1_lotsOf rm cs (f_Q sh t R) 49 [.inr (.inr (.inl (1, 7, 4452))), .inl x1, .inr (.inr (.inr ())), .inl x3, .inr (.inr (.inr ()))] [.inl xs0] M) (h50 : ∀ (x1 : Int) (x3 : Int) (xs1 : Int) (xs0 : Int), k50 x1 x3 xs1 xs0 → f_E sh t YX1_lotsOf rm cs (f_Q sh t R) 50 [.inr (.inr (.inl (1, 7, 4452))), .inl x1, .inr (.inr (.inr ())), .inl x3, .inr (.inr (.inr ()))] [.inl xs1, .inl xs0] M) (h : VX1_lotsOf_4 c_X10_lot c_X4_placeOf k49 k50 (fun r => R (some (.inl r)) M) x1 x2 x3 M) : f_E sh t YX1_lotsOf rm cs (f_Q sh t R) 4 [.inr (.inr (.inl (1, 7, 4452))), .inl x1, .inl x2, .inl x3, .inr (.inr (.inr ()))] [] M := by
  rw [f_kk3 M k49] at h
  rw [f_kk4 M k50] at h
  exact f_go (KC := f_kc [(49, f_pl [(4462, 1, 7), (1, 0, 0), (0, 0, 0), (1, 0, 0), (0, 0, 0)] [(1, 0, 0)] (fun ls st M2 => M2 = M ∧ (k49 (f_vi (f_nth ls 1)) (f_vi (f_nth ls 3)) (f_vi (f_nth st 0))))), (50, f_pl [(4462, 1, 7), (1, 0, 0), (0, 0, 0), (1, 0, 0), (0, 0, 0)] [(1, 0, 0), (1, 0, 0)] (fun ls st M2 => M2 = M ∧ (k50 (f_vi (f_nth ls 1)) (f_vi (f_nth ls 3)) (f_vi (f_nth st 0)) (f_vi (f_nth st 1)))))]) C qX1_lotsOff (f_kc_cons (f_pl_ok rfl (fun ls st M2 ⟨e, hh⟩ => by subst e; exact h49 _ _ _ hh)) (f_kc_cons (f_pl_ok rfl (fun ls st M2 ⟨e, hh⟩ => by subst e; exact h50 _ _ _ _ hh)) f_kc_nil)) 38 5 h
set_option maxRecDepth 20000 in
theorem BX1_lotsOf_49 {sh : Nat → Nat × Nat} {t : Nat} {rm : Nat × Nat × Nat} {cs : Nat × Nat} {R : f_Rt} {c_X10_lot : Nat → Int → e_M → (Nat → Prop) → Prop} {c_X4_placeOf : Nat → Int → e_M → (Int → Prop) → Prop} {k50 : Int → Int → Int → Int → Prop} {x1 : Int} {x3 : Int} {xs0 : Int} {M : e_M} (C : f_Hy sh t yX1_lotsOf rm cs 5 (lX1_lotsOf c_X10_lot c_X4_placeOf) R) (h50 : ∀ (x1 : Int) (x3 : Int) (xs1 : Int) (xs0 : Int), k50 x1 x3 xs1 xs0 → f_E sh t YX1_lotsOf rm cs (f_Q sh t R) 50 [.inr (.inr (.inl (1, 7, 4452))), .inl x1, .inr (.inr (.inr ())), .inl x3, .inr (.inr (.inr ()))] [.inl xs1, .inl xs0] M) (h : VX1_lotsOf_49 c_X10_lot c_X4_placeOf k50 (fun r => R (some (.inl r)) M) x1 x3 xs0 M) : f_E sh t YX1_lotsOf rm cs (f_Q sh t R) 49 [.inr (.inr (.inl (1, 7, 4452))), .inl x1, .inr (.inr (.inr ())), .inl x3, .inr (.inr (.inr ()))] [.inl xs0] M := by
  rw [f_kk4 M k50] at h
  exact f_go (KC := f_kc [(50, f_pl [(4462, 1, 7), (1, 0, 0), (0, 0, 0), (1, 0, 0), (0, 0, 0)] [(1, 0, 0), (1, 0, 0)] (fun ls st M2 => M2 = M ∧ (k50 (f_vi (f_nth ls 1)) (f_vi (f_nth ls 3)) (f_vi (f_nth st 0)) (f_vi (f_nth st 1)))))]) C qX1_lotsOff (f_kc_cons (f_pl_ok rfl (fun ls st M2 ⟨e, hh⟩ => by subst e; exact h50 _ _ _ _ hh)) f_kc_nil) 38 28 h
set_option maxRecDepth 20000 in
theorem BX1_lotsOf_50 {sh : Nat → Nat × Nat} {t : Nat} {rm : Nat × Nat × Nat} {cs : Nat × Nat} {R : f_Rt} {c_X10_lot : Nat → Int → e_M → (Nat → Prop) → Prop} {c_X4_placeOf : Nat → Int → e_M → (Int → Prop) → Prop} {k4 : Int → Int → Int → Prop} {x1 : Int} {x3 : Int} {xs1 : Int} {xs0 : Int} {M : e_M} (C : f_Hy sh t yX1_lotsOf rm cs 5 (lX1_lotsOf c_X10_lot c_X4_placeOf) R) (h4 : ∀ (x1 : Int) (x2 : Int) (x3 : Int), k4 x1 x2 x3 → f_E sh t YX1_lotsOf rm cs (f_Q sh t R) 4 [.inr (.inr (.inl (1, 7, 4452))), .inl x1, .inl x2, .inl x3, .inr (.inr (.inr ()))] [] M) (h : VX1_lotsOf_50 c_X10_lot c_X4_placeOf k4 (fun r => R (some (.inl r)) M) x1 x3 xs1 xs0 M) : f_E sh t YX1_lotsOf rm cs (f_Q sh t R) 50 [.inr (.inr (.inl (1, 7, 4452))), .inl x1, .inr (.inr (.inr ())), .inl x3, .inr (.inr (.inr ()))] [.inl xs1, .inl xs0] M := by
  rw [f_kk3 M k4] at h
  exact f_go (KC := f_kc [(4, f_pl [(4462, 1, 7), (1, 0, 0), (1, 0, 0), (1, 0, 0), (0, 0, 0)] [] (fun ls st M2 => M2 = M ∧ (k4 (f_vi (f_nth ls 1)) (f_vi (f_nth ls 2)) (f_vi (f_nth ls 3)))))]) C qX1_lotsOff (f_kc_cons (f_pl_ok rfl (fun ls st M2 ⟨e, hh⟩ => by subst e; exact h4 _ _ _ hh)) f_kc_nil) 38 30 h
set_option maxRecDepth 20000 in
theorem BX1_lotsOf {sh : Nat → Nat × Nat} {t : Nat} {rm : Nat × Nat × Nat} {cs : Nat × Nat} {R : f_Rt} {c_X10_lot : Nat → Int → e_M → (Nat → Prop) → Prop} {c_X4_placeOf : Nat → Int → e_M → (Int → Prop) → Prop} {k4 : Int → Int → Int → Prop} {x1 : Int} {M : e_M} (C : f_Hy sh t yX1_lotsOf rm cs 5 (lX1_lotsOf c_X10_lot c_X4_placeOf) R) (h4 : ∀ (x1 : Int) (x2 : Int) (x3 : Int), k4 x1 x2 x3 → f_E sh t YX1_lotsOf rm cs (f_Q sh t R) 4 [.inr (.inr (.inl (1, 7, 4452))), .inl x1, .inl x2, .inl x3, .inr (.inr (.inr ()))] [] M) (h : VX1_lotsOf c_X10_lot c_X4_placeOf k4 (fun r => R (some (.inl r)) M) x1 M) : f_E sh t YX1_lotsOf rm cs (f_Q sh t R) 0 [.inr (.inr (.inl (1, 7, 4452))), .inl x1, .inr (.inr (.inr ())), .inr (.inr (.inr ())), .inr (.inr (.inr ()))] [] M := by
  rw [f_kk3 M k4] at h
  exact f_go (KC := f_kc [(4, f_pl [(4462, 1, 7), (1, 0, 0), (1, 0, 0), (1, 0, 0), (0, 0, 0)] [] (fun ls st M2 => M2 = M ∧ (k4 (f_vi (f_nth ls 1)) (f_vi (f_nth ls 2)) (f_vi (f_nth ls 3)))))]) C qX1_lotsOff (f_kc_cons (f_pl_ok rfl (fun ls st M2 ⟨e, hh⟩ => by subst e; exact h4 _ _ _ hh)) f_kc_nil) 38 0 h
def WX1_lotsOf_50 (M : e_M) (H4 : Int → Int → Int → Prop) (Q : Int → Prop) (x1 : Int) (x3 : Int) (xs1 : Int) (xs0 : Int) : Prop :=
  VX1_lotsOf_50 WX10_lot WX4_placeOf H4 Q x1 x3 xs1 xs0 M
def WX1_lotsOf_49 (M : e_M) (H4 : Int → Int → Int → Prop) (Q : Int → Prop) (x1 : Int) (x3 : Int) (xs0 : Int) : Prop :=
  VX1_lotsOf_49 WX10_lot WX4_placeOf (WX1_lotsOf_50 M H4 Q) Q x1 x3 xs0 M
def WX1_lotsOf_4 (M : e_M) (Q : Int → Prop) : Nat → Int → Int → Int → Prop
  | 0, _, _, _ => False
  | n + 1, x1, x2, x3 =>
    VX1_lotsOf_4 WX10_lot WX4_placeOf (WX1_lotsOf_49 M (WX1_lotsOf_4 M Q n) Q) (WX1_lotsOf_50 M (WX1_lotsOf_4 M Q n) Q) Q x1 x2 x3 M
def WX1_lotsOf (x1 : Int) (M : e_M) (Q : Int → Prop) : Prop :=
  VX1_lotsOf WX10_lot WX4_placeOf (fun x1 x2 x3 => ∃ j, WX1_lotsOf_4 M Q j x1 x2 x3) Q x1 M
theorem PX1_lotsOf_50 {sh : Nat → Nat × Nat} {t : Nat} {rm : Nat × Nat × Nat} {cs : Nat × Nat} {R : f_Rt} {H4 : Int → Int → Int → Prop} {x1 : Int} {x3 : Int} {xs1 : Int} {xs0 : Int} {M : e_M} (C : f_Hy sh t yX1_lotsOf rm cs 5 (lX1_lotsOf WX10_lot WX4_placeOf) R) (g4 : ∀ (x1 : Int) (x2 : Int) (x3 : Int), H4 x1 x2 x3 → f_E sh t YX1_lotsOf rm cs (f_Q sh t R) 4 [.inr (.inr (.inl (1, 7, 4452))), .inl x1, .inl x2, .inl x3, .inr (.inr (.inr ()))] [] M) (h : WX1_lotsOf_50 M H4 (fun r => R (some (.inl r)) M) x1 x3 xs1 xs0) : f_E sh t YX1_lotsOf rm cs (f_Q sh t R) 50 [.inr (.inr (.inl (1, 7, 4452))), .inl x1, .inr (.inr (.inr ())), .inl x3, .inr (.inr (.inr ()))] [.inl xs1, .inl xs0] M :=
  BX1_lotsOf_50 C g4 h
theorem PX1_lotsOf_49 {sh : Nat → Nat × Nat} {t : Nat} {rm : Nat × Nat × Nat} {cs : Nat × Nat} {R : f_Rt} {H4 : Int → Int → Int → Prop} {x1 : Int} {x3 : Int} {xs0 : Int} {M : e_M} (C : f_Hy sh t yX1_lotsOf rm cs 5 (lX1_lotsOf WX10_lot WX4_placeOf) R) (g4 : ∀ (x1 : Int) (x2 : Int) (x3 : Int), H4 x1 x2 x3 → f_E sh t YX1_lotsOf rm cs (f_Q sh t R) 4 [.inr (.inr (.inl (1, 7, 4452))), .inl x1, .inl x2, .inl x3, .inr (.inr (.inr ()))] [] M) (h : WX1_lotsOf_49 M H4 (fun r => R (some (.inl r)) M) x1 x3 xs0) : f_E sh t YX1_lotsOf rm cs (f_Q sh t R) 49 [.inr (.inr (.inl (1, 7, 4452))), .inl x1, .inr (.inr (.inr ())), .inl x3, .inr (.inr (.inr ()))] [.inl xs0] M :=
  BX1_lotsOf_49 C (fun x1 x3 xs1 xs0 h => PX1_lotsOf_50 C g4 h) h
theorem PX1_lotsOf_4 {sh : Nat → Nat × Nat} {t : Nat} {rm : Nat × Nat × Nat} {cs : Nat × Nat} {R : f_Rt} {M : e_M} (C : f_Hy sh t yX1_lotsOf rm cs 5 (lX1_lotsOf WX10_lot WX4_placeOf) R) : ∀ (n : Nat) (x1 : Int) (x2 : Int) (x3 : Int), WX1_lotsOf_4 M (fun r => R (some (.inl r)) M) n x1 x2 x3 → f_E sh t YX1_lotsOf rm cs (f_Q sh t R) 4 [.inr (.inr (.inl (1, 7, 4452))), .inl x1, .inl x2, .inl x3, .inr (.inr (.inr ()))] [] M := by
  intro n
  induction n with
  | zero => intro x1 x2 x3 h; exact h.elim
  | succ n ih => intro x1 x2 x3 h; exact BX1_lotsOf_4 C (fun x1 x3 xs0 h => PX1_lotsOf_49 C ih h) (fun x1 x3 xs1 xs0 h => PX1_lotsOf_50 C ih h) h
theorem PX1_lotsOf {sh : Nat → Nat × Nat} {t : Nat} {rm : Nat × Nat × Nat} {cs : Nat × Nat} {R : f_Rt} {x1 : Int} {M : e_M} (C : f_Hy sh t yX1_lotsOf rm cs 5 (lX1_lotsOf WX10_lot WX4_placeOf) R) (h : WX1_lotsOf x1 M (fun r => R (some (.inl r)) M)) : f_E sh t YX1_lotsOf rm cs (f_Q sh t R) 0 [.inr (.inr (.inl (1, 7, 4452))), .inl x1, .inr (.inr (.inr ())), .inr (.inr (.inr ())), .inr (.inr (.inr ()))] [] M :=
  BX1_lotsOf C (fun x1 x2 x3 ⟨j, h⟩ => PX1_lotsOf_4 C j _ _ _ h) h
def wX1_lotsOf : f_Wt := f_wm [(4462, 1, 7), (1, 0, 0)] (fun ar M R => WX1_lotsOf (f_vi (f_nth ar 1)) M (fun r => R (some (.inl r)) M))
theorem TX1_lotsOf {sh : Nat → Nat × Nat} {t : Nat} : f_Mt sh t YX1_lotsOf 5 (wX1_lotsOf) :=
  f_Mt_of (k := 3) (Nat.le_of_ble_eq_true rfl) rfl rfl (fun ar M R rm cs h1 h2 h3 hX h => PX1_lotsOf ⟨Nat.le_of_ble_eq_true rfl, h1, h2, h3, ⟨(f_Mt.up (Nat.le_of_ble_eq_true rfl) TX10_lot), (f_Mt.up (Nat.le_of_ble_eq_true rfl) TX4_placeOf), trivial⟩, hX⟩ h)
def VX1_factOf_27 (c_X10_at : Nat → Int → Int → e_M → (Nat → Prop) → Prop) (c_X1_debtsTo : Int → e_M → (Int → Prop) → Prop) (c_X11_yearsBetween : Int → Int → e_M → (Int → Prop) → Prop) (c_X1_lotsOf : Int → e_M → (Int → Prop) → Prop) (k32 : Int → Int → Int → Nat → Int → Prop) (Q : Int → Prop) (x1 : Int) (x2 : Int) (x3 : Int) (a4 : Nat) (M : e_M) : Prop :=
  (k32 x1 x2 x3 a4 1)
def VX1_factOf_32 (c_X10_at : Nat → Int → Int → e_M → (Nat → Prop) → Prop) (c_X1_debtsTo : Int → e_M → (Int → Prop) → Prop) (c_X11_yearsBetween : Int → Int → e_M → (Int → Prop) → Prop) (c_X1_lotsOf : Int → e_M → (Int → Prop) → Prop) (Q : Int → Prop) (x1 : Int) (x2 : Int) (x3 : Int) (a4 : Nat) (xs0 : Int) (M : e_M) : Prop :=
  ((x1 = 246 → ((¬ x2 = 1 → ((¬ x2 = 3 → (Q (M ((M a4 9).toNat) 1))) ∧ (x2 = 3 → (Q (M ((M a4 10).toNat) 1))))) ∧ (x2 = 1 → (c_X1_lotsOf x3 M (fun r3 => (Q r3)))))) ∧ (¬ x1 = 246 → ((x1 = 265 → ((¬ x2 = 1 → ((¬ x2 = 2 → (Q 0)) ∧ (x2 = 2 → (Q (M a4 6))))) ∧ (x2 = 1 → (c_X1_debtsTo x3 M (fun r2 => (Q r2)))))) ∧ (¬ x1 = 265 → ((x1 = 267 → ((¬ x2 = 1 → (Q 0)) ∧ (x2 = 1 → ((¬ (M a4 7) = 0 → (Q 0)) ∧ ((M a4 7) = 0 → (c_X11_yearsBetween (M a4 4) (M ((M 4452 3).toNat) 11) M (fun r1 => (Q r1)))))))) ∧ (¬ x1 = 267 → ((x1 = 268 → ((¬ x2 = 4 → (Q 0)) ∧ (x2 = 4 → (Q (M a4 6))))) ∧ (¬ x1 = 268 → ((x1 = 269 → ((xs0 = 0 → (Q 0)) ∧ (¬ xs0 = 0 → (Q (e_w32 ((M a4 3) - (M ((M 4452 3).toNat) 11))))))) ∧ (¬ x1 = 269 → ((x1 = 270 → ((¬ x2 = 3 → (Q 0)) ∧ (x2 = 3 → (Q (M ((M a4 11).toNat) 18))))) ∧ (¬ x1 = 270 → (Q 0)))))))))))))
def VX1_factOf (c_X10_at : Nat → Int → Int → e_M → (Nat → Prop) → Prop) (c_X1_debtsTo : Int → e_M → (Int → Prop) → Prop) (c_X11_yearsBetween : Int → Int → e_M → (Int → Prop) → Prop) (c_X1_lotsOf : Int → e_M → (Int → Prop) → Prop) (k27 : Int → Int → Int → Nat → Prop) (k32 : Int → Int → Int → Nat → Int → Prop) (Q : Int → Prop) (x1 : Int) (x2 : Int) (x3 : Int) (M : e_M) : Prop :=
  (c_X10_at ((M 4452 3).toNat) x2 x3 M (fun r1 => ((x2 = 4 → (k27 x1 x2 x3 r1)) ∧ (¬ x2 = 4 → ((x2 = 5 → (k27 x1 x2 x3 r1)) ∧ (¬ x2 = 5 → ((¬ x2 = 6 → (k32 x1 x2 x3 r1 0)) ∧ (x2 = 6 → (k27 x1 x2 x3 r1)))))))))
def yX1_factOf (i : Nat) : e_Y := x_get YX1_factOf [YX10_at, YX1_debtsTo, YX11_yearsBetween, YX1_lotsOf] i
def pX1_factOff : List x_I := [(0, 4, 1, 0, 0, 0, []), (1, 25, 1, 3, 4, 0, [(0, 10, 15), (0, 0, 0)]), (4, 2, 1, 2, 0, 0, []), (5, 2, 1, 3, 0, 0, []), (6, 40, 0, 3, 12, 0, []), (9, 7, 2, 4, 0, 0, []), (11, 2, 1, 2, 0, 0, []), (12, 0, 1, 0, 0, 4, []), (13, 18, 27, 0, 16, 0, []), (16, 2, 1, 2, 0, 0, []), (17, 0, 1, 0, 0, 5, []), (18, 18, 27, 0, 16, 0, []), (21, 2, 1, 2, 0, 0, []), (22, 0, 2, 0, 0, 6, []), (24, 18, 31, 1, 19, 0, []), (27, 49, 0, 0, 0, 0, []), (27, 0, 1, 0, 0, 1, []), (28, 19, 32, 0, 20, 0, []), (31, 0, 1, 0, 0, 0, []), (32, 49, 0, 0, 0, 0, []), (32, 5, 2, 5, 0, 0, []), (34, 2, 1, 1, 0, 0, []), (35, 24, 217, 0, 88, 0, [(246, 214, 87), (265, 92, 24), (267, 121, 40), (268, 155, 56), (269, 171, 65), (270, 195, 77)]), (92, 2, 1, 2, 0, 0, []), (93, 0, 1, 0, 0, 1, []), (94, 18, 105, 1, 31, 0, []), (97, 4, 1, 0, 0, 0, []), (98, 2, 1, 3, 0, 0, []), (99, 40, 1, 2, 3, 0, []), (102, 19, 120, 0, 39, 0, []), (105, 2, 1, 2, 0, 0, []), (106, 0, 1, 0, 0, 2, []), (107, 18, 119, 1, 38, 0, []), (110, 4, 2, 4, 0, 0, []), (112, 25, 9, 6, 0, 0, []), (115, 14, 0, 0, 0, 0, []), (116, 19, 120, 0, 39, 0, []), (119, 1, 1, 0, 0, 0, []), (120, 43, 0, 0, 0, 0, []), (121, 2, 1, 2, 0, 0, []), (122, 0, 1, 0, 0, 1, []), (123, 18, 153, 1, 54, 0, []), (126, 4, 2, 4, 0, 0, []), (128, 25, 9, 7, 0, 0, []), (131, 17, 153, 1, 54, 0, []), (134, 4, 2, 4, 0, 0, []), (136, 25, 9, 4, 0, 0, []), (139, 4, 1, 0, 0, 0, []), (140, 25, 1, 3, 4, 0, [(0, 10, 15), (0, 0, 0)]), (143, 25, 10, 11, 0, 0, []), (146, 40, 2, 2, 0, 0, []), (149, 14, 0, 0, 0, 0, []), (150, 19, 154, 0, 55, 0, []), (153, 1, 1, 0, 0, 0, []), (154, 43, 0, 0, 0, 0, []), (155, 2, 1, 2, 0, 0, []), (156, 0, 1, 0, 0, 4, []), (157, 18, 169, 1, 63, 0, []), (160, 4, 2, 4, 0, 0, []), (162, 25, 9, 6, 0, 0, []), (165, 14, 0, 0, 0, 0, []), (166, 19, 170, 0, 64, 0, []), (169, 1, 1, 0, 0, 0, []), (170, 43, 0, 0, 0, 0, []), (171, 2, 2, 5, 0, 0, []), (173, 17, 193, 0, 75, 0, []), (176, 4, 2, 4, 0, 0, []), (178, 25, 9, 3, 0, 0, []), (181, 4, 1, 0, 0, 0, []), (182, 25, 1, 3, 4, 0, [(0, 10, 15), (0, 0, 0)]), (185, 25, 10, 11, 0, 0, []), (188, 9, 0, 1, 0, 0, []), (189, 14, 0, 0, 0, 0, []), (190, 19, 194, 0, 76, 0, []), (193, 1, 1, 0, 0, 0, []), (194, 43, 0, 0, 0, 0, []), (195, 2, 1, 2, 0, 0, []), (196, 0, 1, 0, 0, 3, []), (197, 18, 212, 1, 85, 0, []), (200, 4, 2, 4, 0, 0, []), (202, 25, 9, 11, 4, 0, [(0, 2, 19), (0, 0, 0)]), (205, 25, 2, 18, 0, 0, []), (208, 14, 0, 0, 0, 0, []), (209, 19, 213, 0, 86, 0, []), (212, 1, 1, 0, 0, 0, []), (213, 43, 0, 0, 0, 0, []), (214, 19, 219, 0, 90, 0, []), (217, 1, 1, 0, 0, 0, []), (218, 43, 0, 0, 0, 0, []), (219, 2, 1, 2, 0, 0, []), (220, 0, 1, 0, 0, 1, []), (221, 18, 231, 1, 98, 0, []), (224, 4, 1, 0, 0, 0, []), (225, 2, 1, 3, 0, 0, []), (226, 40, 3, 2, 3, 0, []), (229, 14, 0, 0, 0, 0, []), (230, 43, 0, 0, 0, 0, []), (231, 2, 1, 2, 0, 0, []), (232, 0, 1, 0, 0, 3, []), (233, 18, 248, 1, 106, 0, []), (236, 4, 2, 4, 0, 0, []), (238, 25, 9, 10, 4, 0, [(0, 8, 2), (0, 0, 0)]), (241, 25, 8, 1, 0, 0, []), (244, 14, 0, 0, 0, 0, []), (245, 19, 257, 0, 110, 0, []), (248, 4, 2, 4, 0, 0, []), (250, 25, 9, 9, 4, 0, [(0, 8, 2), (0, 0, 0)]), (253, 25, 8, 1, 0, 0, []), (256, 14, 0, 0, 0, 0, []), (257, 43, 0, 0, 0, 0, [])]
set_option maxRecDepth 20000 in
theorem qX1_factOff : f_all yX1_factOf YX1_factOf pX1_factOff :=
  ⟨f_aload_n (n := 0) (e_dx DX1_factOf_0 0 rfl) rfl,
  f_getA (e_dx DX1_factOf_0 1 rfl) fX1_31 rfl (by decide) (Nat.le_of_ble_eq_true rfl) rfl (by decide),
  f_iload_n (n := 2) (e_dx DX1_factOf_0 2 rfl) rfl,
  f_iload_n (n := 3) (e_dx DX1_factOf_0 3 rfl) rfl,
  x_callV (e_dx DX1_factOf_0 4 rfl) mwX10_at vwX10_at cX1_173 rfl,
  f_astore (e_dx DX1_factOf_0 5 rfl) (by decide),
  f_iload_n (n := 2) (e_dx DX1_factOf_0 6 rfl) rfl,
  f_iconst (e_dx DX1_factOf_0 7 rfl) ⟨by decide, by decide⟩,
  f_icmp_eq (e_dx DX1_factOf_0 8 rfl) rfl,
  f_iload_n (n := 2) (e_dx DX1_factOf_0 9 rfl) rfl,
  f_iconst (e_dx DX1_factOf_0 10 rfl) ⟨by decide, by decide⟩,
  f_icmp_eq (e_dx DX1_factOf_0 11 rfl) rfl,
  f_iload_n (n := 2) (e_dx DX1_factOf_0 12 rfl) rfl,
  f_bipush (e_dx DX1_factOf_0 13 rfl) ⟨by decide, by decide⟩,
  f_icmp_ne (e_dx DX1_factOf_0 14 rfl) rfl,
  trivial,
  f_iconst (e_dx DX1_factOf_0 15 rfl) ⟨by decide, by decide⟩,
  f_g19 (e_dx DX1_factOf_0 16 rfl) rfl,
  f_iconst (e_dx DX1_factOf_0 17 rfl) ⟨by decide, by decide⟩,
  trivial,
  f_istore (e_dx DX1_factOf_0 18 rfl) (by decide),
  f_iload_n (n := 1) (e_dx DX1_factOf_0 19 rfl) rfl,
  f_lsw (e_dx DX1_factOf_0 20 rfl) (by decide) rfl (by decide) rfl,
  f_iload_n (n := 2) (e_dx DX1_factOf_0 21 rfl) rfl,
  f_iconst (e_dx DX1_factOf_0 22 rfl) ⟨by decide, by decide⟩,
  f_icmp_ne (e_dx DX1_factOf_0 23 rfl) rfl,
  f_aload_n (n := 0) (e_dx DX1_factOf_0 24 rfl) rfl,
  f_iload_n (n := 3) (e_dx DX1_factOf_0 25 rfl) rfl,
  x_callV (e_dx DX1_factOf_0 26 rfl) mwX1_debtsTo vwX1_debtsTo cX1_235 rfl,
  f_g19 (e_dx DX1_factOf_0 27 rfl) rfl,
  f_iload_n (n := 2) (e_dx DX1_factOf_0 28 rfl) rfl,
  f_iconst (e_dx DX1_factOf_0 29 rfl) ⟨by decide, by decide⟩,
  f_icmp_ne (e_dx DX1_factOf_0 30 rfl) rfl,
  f_aload (e_dx DX1_factOf_0 31 rfl),
  f_getf (e_dx DX1_factOf_0 32 rfl) fX1_232 rfl (by decide) (by decide) (by decide),
  f_g14 (e_dx DX1_factOf_0 33 rfl),
  f_g19 (e_dx DX1_factOf_0 34 rfl) rfl,
  f_lconst (n := 0) (e_dx DX1_factOf_0 35 rfl) rfl,
  ⟨(e_dx DX1_factOf_0 36 rfl), rfl⟩,
  f_iload_n (n := 2) (e_dx DX1_factOf_0 37 rfl) rfl,
  f_iconst (e_dx DX1_factOf_0 38 rfl) ⟨by decide, by decide⟩,
  f_icmp_ne (e_dx DX1_factOf_0 39 rfl) rfl,
  f_aload (e_dx DX1_factOf_1 0 rfl),
  f_getf (e_dx DX1_factOf_1 1 rfl) fX1_239 rfl (by decide) (by decide) (by decide),
  f_if_ne (e_dx DX1_factOf_1 2 rfl) rfl,
  f_aload (e_dx DX1_factOf_1 3 rfl),
  f_getf (e_dx DX1_factOf_1 4 rfl) fX1_242 rfl (by decide) (by decide) (by decide),
  f_aload_n (n := 0) (e_dx DX1_factOf_1 5 rfl) rfl,
  f_getA (e_dx DX1_factOf_1 6 rfl) fX1_31 rfl (by decide) (Nat.le_of_ble_eq_true rfl) rfl (by decide),
  f_getf (e_dx DX1_factOf_1 7 rfl) fX1_245 rfl (by decide) (by decide) (by decide),
  x_callSN (e_dx DX1_factOf_1 8 rfl) mwX11_yearsBetween cX1_248 swX11_yearsBetween rfl,
  f_g14 (e_dx DX1_factOf_1 9 rfl),
  f_g19 (e_dx DX1_factOf_1 10 rfl) rfl,
  f_lconst (n := 0) (e_dx DX1_factOf_1 11 rfl) rfl,
  ⟨(e_dx DX1_factOf_1 12 rfl), rfl⟩,
  f_iload_n (n := 2) (e_dx DX1_factOf_1 13 rfl) rfl,
  f_iconst (e_dx DX1_factOf_1 14 rfl) ⟨by decide, by decide⟩,
  f_icmp_ne (e_dx DX1_factOf_1 15 rfl) rfl,
  f_aload (e_dx DX1_factOf_1 16 rfl),
  f_getf (e_dx DX1_factOf_1 17 rfl) fX1_232 rfl (by decide) (by decide) (by decide),
  f_g14 (e_dx DX1_factOf_1 18 rfl),
  f_g19 (e_dx DX1_factOf_1 19 rfl) rfl,
  f_lconst (n := 0) (e_dx DX1_factOf_1 20 rfl) rfl,
  ⟨(e_dx DX1_factOf_1 21 rfl), rfl⟩,
  f_iload (e_dx DX1_factOf_1 22 rfl),
  f_if_eq (e_dx DX1_factOf_1 23 rfl) rfl,
  f_aload (e_dx DX1_factOf_1 24 rfl),
  f_getf (e_dx DX1_factOf_1 25 rfl) fX1_252 rfl (by decide) (by decide) (by decide),
  f_aload_n (n := 0) (e_dx DX1_factOf_1 26 rfl) rfl,
  f_getA (e_dx DX1_factOf_1 27 rfl) fX1_31 rfl (by decide) (Nat.le_of_ble_eq_true rfl) rfl (by decide),
  f_getf (e_dx DX1_factOf_1 28 rfl) fX1_245 rfl (by decide) (by decide) (by decide),
  f_isub (e_dx DX1_factOf_1 29 rfl),
  f_g14 (e_dx DX1_factOf_1 30 rfl),
  f_g19 (e_dx DX1_factOf_1 31 rfl) rfl,
  f_lconst (n := 0) (e_dx DX1_factOf_1 32 rfl) rfl,
  ⟨(e_dx DX1_factOf_1 33 rfl), rfl⟩,
  f_iload_n (n := 2) (e_dx DX1_factOf_1 34 rfl) rfl,
  f_iconst (e_dx DX1_factOf_1 35 rfl) ⟨by decide, by decide⟩,
  f_icmp_ne (e_dx DX1_factOf_1 36 rfl) rfl,
  f_aload (e_dx DX1_factOf_1 37 rfl),
  f_getA (e_dx DX1_factOf_1 38 rfl) fX1_255 rfl (by decide) (Nat.le_of_ble_eq_true rfl) rfl (by decide),
  f_getf (e_dx DX1_factOf_1 39 rfl) fX1_259 rfl (by decide) (by decide) (by decide),
  f_g14 (e_dx DX1_factOf_2 0 rfl),
  f_g19 (e_dx DX1_factOf_2 1 rfl) rfl,
  f_lconst (n := 0) (e_dx DX1_factOf_2 2 rfl) rfl,
  ⟨(e_dx DX1_factOf_2 3 rfl), rfl⟩,
  f_g19 (e_dx DX1_factOf_2 4 rfl) rfl,
  f_lconst (n := 0) (e_dx DX1_factOf_2 5 rfl) rfl,
  ⟨(e_dx DX1_factOf_2 6 rfl), rfl⟩,
  f_iload_n (n := 2) (e_dx DX1_factOf_2 7 rfl) rfl,
  f_iconst (e_dx DX1_factOf_2 8 rfl) ⟨by decide, by decide⟩,
  f_icmp_ne (e_dx DX1_factOf_2 9 rfl) rfl,
  f_aload_n (n := 0) (e_dx DX1_factOf_2 10 rfl) rfl,
  f_iload_n (n := 3) (e_dx DX1_factOf_2 11 rfl) rfl,
  x_callV (e_dx DX1_factOf_2 12 rfl) mwX1_lotsOf vwX1_lotsOf cX1_262 rfl,
  f_g14 (e_dx DX1_factOf_2 13 rfl),
  ⟨(e_dx DX1_factOf_2 14 rfl), rfl⟩,
  f_iload_n (n := 2) (e_dx DX1_factOf_2 15 rfl) rfl,
  f_iconst (e_dx DX1_factOf_2 16 rfl) ⟨by decide, by decide⟩,
  f_icmp_ne (e_dx DX1_factOf_2 17 rfl) rfl,
  f_aload (e_dx DX1_factOf_2 18 rfl),
  f_getA (e_dx DX1_factOf_2 19 rfl) fX1_182 rfl (by decide) (Nat.le_of_ble_eq_true rfl) rfl (by decide),
  f_getf (e_dx DX1_factOf_2 20 rfl) fX1_228 rfl (by decide) (by decide) (by decide),
  f_g14 (e_dx DX1_factOf_2 21 rfl),
  f_g19 (e_dx DX1_factOf_2 22 rfl) rfl,
  f_aload (e_dx DX1_factOf_2 23 rfl),
  f_getA (e_dx DX1_factOf_2 24 rfl) fX1_191 rfl (by decide) (Nat.le_of_ble_eq_true rfl) rfl (by decide),
  f_getf (e_dx DX1_factOf_2 25 rfl) fX1_228 rfl (by decide) (by decide) (by decide),
  f_g14 (e_dx DX1_factOf_2 26 rfl),
  ⟨(e_dx DX1_factOf_2 27 rfl), rfl⟩, trivial⟩
def lX1_factOf (c_X10_at : Nat → Int → Int → e_M → (Nat → Prop) → Prop) (c_X1_debtsTo : Int → e_M → (Int → Prop) → Prop) (c_X11_yearsBetween : Int → Int → e_M → (Int → Prop) → Prop) (c_X1_lotsOf : Int → e_M → (Int → Prop) → Prop) : List (Nat × f_Wt) := [(0, f_wm [(3, 10, 15), (1, 0, 0), (1, 0, 0)] (fun ar M R => c_X10_at (f_va (f_nth ar 0)) (f_vi (f_nth ar 1)) (f_vi (f_nth ar 2)) M (fun r => R (some (.inr (.inr (.inl (9, 14, r))))) M))), (1, f_wm [(4462, 1, 7), (1, 0, 0)] (fun ar M R => c_X1_debtsTo (f_vi (f_nth ar 1)) M (fun r => R (some (.inr (.inl r))) M))), (2, f_wm [(1, 0, 0), (1, 0, 0)] (fun ar M R => c_X11_yearsBetween (f_vi (f_nth ar 0)) (f_vi (f_nth ar 1)) M (fun r => R (some (.inl r)) M))), (3, f_wm [(4462, 1, 7), (1, 0, 0)] (fun ar M R => c_X1_lotsOf (f_vi (f_nth ar 1)) M (fun r => R (some (.inl r)) M)))]
set_option maxRecDepth 20000 in
theorem BX1_factOf_27 {sh : Nat → Nat × Nat} {t : Nat} {rm : Nat × Nat × Nat} {cs : Nat × Nat} {R : f_Rt} {c_X10_at : Nat → Int → Int → e_M → (Nat → Prop) → Prop} {c_X1_debtsTo : Int → e_M → (Int → Prop) → Prop} {c_X11_yearsBetween : Int → Int → e_M → (Int → Prop) → Prop} {c_X1_lotsOf : Int → e_M → (Int → Prop) → Prop} {k32 : Int → Int → Int → Nat → Int → Prop} {x1 : Int} {x2 : Int} {x3 : Int} {a4 : Nat} {M : e_M} (C : f_Hy sh t yX1_factOf rm cs 6 (lX1_factOf c_X10_at c_X1_debtsTo c_X11_yearsBetween c_X1_lotsOf) R) (h32 : ∀ (x1 : Int) (x2 : Int) (x3 : Int) (a4 : Nat) (xs0 : Int), k32 x1 x2 x3 a4 xs0 → f_E sh t YX1_factOf rm cs (f_Q sh t R) 32 [.inr (.inr (.inl (1, 7, 4452))), .inl x1, .inl x2, .inl x3, .inr (.inr (.inl (9, 14, a4))), .inr (.inr (.inr ()))] [.inl xs0] M) (h : VX1_factOf_27 c_X10_at c_X1_debtsTo c_X11_yearsBetween c_X1_lotsOf k32 (fun r => R (some (.inr (.inl r))) M) x1 x2 x3 a4 M) : f_E sh t YX1_factOf rm cs (f_Q sh t R) 27 [.inr (.inr (.inl (1, 7, 4452))), .inl x1, .inl x2, .inl x3, .inr (.inr (.inl (9, 14, a4))), .inr (.inr (.inr ()))] [] M := by
  rw [f_kk5 M k32] at h
  exact f_go (KC := f_kc [(32, f_pl [(4462, 1, 7), (1, 0, 0), (1, 0, 0), (1, 0, 0), (3, 9, 14), (0, 0, 0)] [(1, 0, 0)] (fun ls st M2 => M2 = M ∧ (k32 (f_vi (f_nth ls 1)) (f_vi (f_nth ls 2)) (f_vi (f_nth ls 3)) (f_va (f_nth ls 4)) (f_vi (f_nth st 0)))))]) C qX1_factOff (f_kc_cons (f_pl_ok rfl (fun ls st M2 ⟨e, hh⟩ => by subst e; exact h32 _ _ _ _ _ hh)) f_kc_nil) 112 16 h
set_option maxRecDepth 20000 in
theorem BX1_factOf_32 {sh : Nat → Nat × Nat} {t : Nat} {rm : Nat × Nat × Nat} {cs : Nat × Nat} {R : f_Rt} {c_X10_at : Nat → Int → Int → e_M → (Nat → Prop) → Prop} {c_X1_debtsTo : Int → e_M → (Int → Prop) → Prop} {c_X11_yearsBetween : Int → Int → e_M → (Int → Prop) → Prop} {c_X1_lotsOf : Int → e_M → (Int → Prop) → Prop} {x1 : Int} {x2 : Int} {x3 : Int} {a4 : Nat} {xs0 : Int} {M : e_M} (C : f_Hy sh t yX1_factOf rm cs 6 (lX1_factOf c_X10_at c_X1_debtsTo c_X11_yearsBetween c_X1_lotsOf) R) (h : VX1_factOf_32 c_X10_at c_X1_debtsTo c_X11_yearsBetween c_X1_lotsOf (fun r => R (some (.inr (.inl r))) M) x1 x2 x3 a4 xs0 M) : f_E sh t YX1_factOf rm cs (f_Q sh t R) 32 [.inr (.inr (.inl (1, 7, 4452))), .inl x1, .inl x2, .inl x3, .inr (.inr (.inl (9, 14, a4))), .inr (.inr (.inr ()))] [.inl xs0] M :=
  f_go (KC := f_kc []) C qX1_factOff f_kc_nil 112 20 h
set_option maxRecDepth 20000 in
theorem BX1_factOf {sh : Nat → Nat × Nat} {t : Nat} {rm : Nat × Nat × Nat} {cs : Nat × Nat} {R : f_Rt} {c_X10_at : Nat → Int → Int → e_M → (Nat → Prop) → Prop} {c_X1_debtsTo : Int → e_M → (Int → Prop) → Prop} {c_X11_yearsBetween : Int → Int → e_M → (Int → Prop) → Prop} {c_X1_lotsOf : Int → e_M → (Int → Prop) → Prop} {k27 : Int → Int → Int → Nat → Prop} {k32 : Int → Int → Int → Nat → Int → Prop} {x1 : Int} {x2 : Int} {x3 : Int} {M : e_M} (C : f_Hy sh t yX1_factOf rm cs 6 (lX1_factOf c_X10_at c_X1_debtsTo c_X11_yearsBetween c_X1_lotsOf) R) (h27 : ∀ (x1 : Int) (x2 : Int) (x3 : Int) (a4 : Nat), k27 x1 x2 x3 a4 → f_E sh t YX1_factOf rm cs (f_Q sh t R) 27 [.inr (.inr (.inl (1, 7, 4452))), .inl x1, .inl x2, .inl x3, .inr (.inr (.inl (9, 14, a4))), .inr (.inr (.inr ()))] [] M) (h32 : ∀ (x1 : Int) (x2 : Int) (x3 : Int) (a4 : Nat) (xs0 : Int), k32 x1 x2 x3 a4 xs0 → f_E sh t YX1_factOf rm cs (f_Q sh t R) 32 [.inr (.inr (.inl (1, 7, 4452))), .inl x1, .inl x2, .inl x3, .inr (.inr (.inl (9, 14, a4))), .inr (.inr (.inr ()))] [.inl xs0] M) (h : VX1_factOf c_X10_at c_X1_debtsTo c_X11_yearsBetween c_X1_lotsOf k27 k32 (fun r => R (some (.inr (.inl r))) M) x1 x2 x3 M) : f_E sh t YX1_factOf rm cs (f_Q sh t R) 0 [.inr (.inr (.inl (1, 7, 4452))), .inl x1, .inl x2, .inl x3, .inr (.inr (.inr ())), .inr (.inr (.inr ()))] [] M := by
  rw [f_kk4 M k27] at h
  rw [f_kk5 M k32] at h
  exact f_go (KC := f_kc [(27, f_pl [(4462, 1, 7), (1, 0, 0), (1, 0, 0), (1, 0, 0), (3, 9, 14), (0, 0, 0)] [] (fun ls st M2 => M2 = M ∧ (k27 (f_vi (f_nth ls 1)) (f_vi (f_nth ls 2)) (f_vi (f_nth ls 3)) (f_va (f_nth ls 4))))), (32, f_pl [(4462, 1, 7), (1, 0, 0), (1, 0, 0), (1, 0, 0), (3, 9, 14), (0, 0, 0)] [(1, 0, 0)] (fun ls st M2 => M2 = M ∧ (k32 (f_vi (f_nth ls 1)) (f_vi (f_nth ls 2)) (f_vi (f_nth ls 3)) (f_va (f_nth ls 4)) (f_vi (f_nth st 0)))))]) C qX1_factOff (f_kc_cons (f_pl_ok rfl (fun ls st M2 ⟨e, hh⟩ => by subst e; exact h27 _ _ _ _ hh)) (f_kc_cons (f_pl_ok rfl (fun ls st M2 ⟨e, hh⟩ => by subst e; exact h32 _ _ _ _ _ hh)) f_kc_nil)) 112 0 h
def WX1_factOf_32 (M : e_M) (Q : Int → Prop) (x1 : Int) (x2 : Int) (x3 : Int) (a4 : Nat) (xs0 : Int) : Prop :=
  VX1_factOf_32 WX10_at WX1_debtsTo WX11_yearsBetween WX1_lotsOf Q x1 x2 x3 a4 xs0 M
def WX1_factOf_27 (M : e_M) (Q : Int → Prop) (x1 : Int) (x2 : Int) (x3 : Int) (a4 : Nat) : Prop :=
  VX1_factOf_27 WX10_at WX1_debtsTo WX11_yearsBetween WX1_lotsOf (WX1_factOf_32 M Q) Q x1 x2 x3 a4 M
def WX1_factOf (x1 : Int) (x2 : Int) (x3 : Int) (M : e_M) (Q : Int → Prop) : Prop :=
  VX1_factOf WX10_at WX1_debtsTo WX11_yearsBetween WX1_lotsOf (WX1_factOf_27 M Q) (WX1_factOf_32 M Q) Q x1 x2 x3 M
theorem PX1_factOf_32 {sh : Nat → Nat × Nat} {t : Nat} {rm : Nat × Nat × Nat} {cs : Nat × Nat} {R : f_Rt} {x1 : Int} {x2 : Int} {x3 : Int} {a4 : Nat} {xs0 : Int} {M : e_M} (C : f_Hy sh t yX1_factOf rm cs 6 (lX1_factOf WX10_at WX1_debtsTo WX11_yearsBetween WX1_lotsOf) R) (h : WX1_factOf_32 M (fun r => R (some (.inr (.inl r))) M) x1 x2 x3 a4 xs0) : f_E sh t YX1_factOf rm cs (f_Q sh t R) 32 [.inr (.inr (.inl (1, 7, 4452))), .inl x1, .inl x2, .inl x3, .inr (.inr (.inl (9, 14, a4))), .inr (.inr (.inr ()))] [.inl xs0] M :=
  BX1_factOf_32 C h
theorem PX1_factOf_27 {sh : Nat → Nat × Nat} {t : Nat} {rm : Nat × Nat × Nat} {cs : Nat × Nat} {R : f_Rt} {x1 : Int} {x2 : Int} {x3 : Int} {a4 : Nat} {M : e_M} (C : f_Hy sh t yX1_factOf rm cs 6 (lX1_factOf WX10_at WX1_debtsTo WX11_yearsBetween WX1_lotsOf) R) (h : WX1_factOf_27 M (fun r => R (some (.inr (.inl r))) M) x1 x2 x3 a4) : f_E sh t YX1_factOf rm cs (f_Q sh t R) 27 [.inr (.inr (.inl (1, 7, 4452))), .inl x1, .inl x2, .inl x3, .inr (.inr (.inl (9, 14, a4))), .inr (.inr (.inr ()))] [] M :=
  BX1_factOf_27 C (fun x1 x2 x3 a4 xs0 h => PX1_factOf_32 C h) h
theorem PX1_factOf {sh : Nat → Nat × Nat} {t : Nat} {rm : Nat × Nat × Nat} {cs : Nat × Nat} {R : f_Rt} {x1 : Int} {x2 : Int} {x3 : Int} {M : e_M} (C : f_Hy sh t yX1_factOf rm cs 6 (lX1_factOf WX10_at WX1_debtsTo WX11_yearsBetween WX1_lotsOf) R) (h : WX1_factOf x1 x2 x3 M (fun r => R (some (.inr (.inl r))) M)) : f_E sh t YX1_factOf rm cs (f_Q sh t R) 0 [.inr (.inr (.inl (1, 7, 4452))), .inl x1, .inl x2, .inl x3, .inr (.inr (.inr ())), .inr (.inr (.inr ()))] [] M :=
  BX1_factOf C (fun x1 x2 x3 a4 h => PX1_factOf_27 C h) (fun x1 x2 x3 a4 xs0 h => PX1_factOf_32 C h) h
def wX1_factOf : f_Wt := f_wm [(4462, 1, 7), (1, 0, 0), (1, 0, 0), (1, 0, 0)] (fun ar M R => WX1_factOf (f_vi (f_nth ar 1)) (f_vi (f_nth ar 2)) (f_vi (f_nth ar 3)) M (fun r => R (some (.inr (.inl r))) M))
theorem TX1_factOf {sh : Nat → Nat × Nat} {t : Nat} : f_Mt sh t YX1_factOf 6 (wX1_factOf) :=
  f_Mt_of (k := 2) (Nat.le_of_ble_eq_true rfl) rfl rfl (fun ar M R rm cs h1 h2 h3 hX h => PX1_factOf ⟨Nat.le_of_ble_eq_true rfl, h1, h2, h3, ⟨(f_Mt.up (Nat.le_of_ble_eq_true rfl) TX10_at), (f_Mt.up (Nat.le_of_ble_eq_true rfl) TX1_debtsTo), (f_Mt.up (Nat.le_of_ble_eq_true rfl) TX11_yearsBetween), (f_Mt.up (Nat.le_of_ble_eq_true rfl) TX1_lotsOf), trivial⟩, hX⟩ h)
def VX1_isOwner (c_X10_lot : Nat → Int → e_M → (Nat → Prop) → Prop) (c_X4_placeOf : Nat → Int → e_M → (Int → Prop) → Prop) (c_X10_at : Nat → Int → Int → e_M → (Nat → Prop) → Prop) (Q : Int → Prop) (x1 : Int) (x2 : Int) (x3 : Int) (M : e_M) : Prop :=
  ((x1 < 0 → (Q 0)) ∧ (0 ≤ x1 → (¬ (100 : Int) = 0 ∧ ((¬ (e_w32 (x1.tdiv 100)) = 1 → (Q 0)) ∧ ((e_w32 (x1.tdiv 100)) = 1 → ((x2 = 1 → (Q 0)) ∧ (¬ x2 = 1 → ((¬ x2 = 3 → (¬ (100 : Int) = 0 ∧ ((¬ x2 = 0 → (c_X10_at ((M 4452 3).toNat) x2 x3 M (fun r1 => ((¬ (M r1 5) = (x1.tmod 100) → (Q 0)) ∧ ((M r1 5) = (x1.tmod 100) → (Q 1)))))) ∧ (x2 = 0 → (c_X10_lot ((M 4452 3).toNat) x3 M (fun r2 => (c_X4_placeOf r2 (x1.tmod 100) M (fun r3 => ((r3 < 0 → (Q 0)) ∧ (0 ≤ r3 → (Q 1))))))))))) ∧ (x2 = 3 → (Q 0))))))))))
def yX1_isOwner (i : Nat) : e_Y := x_get YX1_isOwner [YX10_lot, YX4_placeOf, YX10_at] i
def pX1_isOwnerf : List x_I := [(0, 2, 1, 1, 0, 0, []), (1, 17, 22, 2, 14, 0, []), (4, 2, 1, 1, 0, 0, []), (5, 0, 2, 0, 0, 100, []), (7, 9, 0, 3, 0, 0, []), (8, 0, 1, 0, 0, 1, []), (9, 18, 22, 1, 14, 0, []), (12, 2, 1, 2, 0, 0, []), (13, 0, 1, 0, 0, 1, []), (14, 18, 22, 0, 14, 0, []), (17, 2, 1, 2, 0, 0, []), (18, 0, 1, 0, 0, 3, []), (19, 18, 24, 1, 16, 0, []), (22, 0, 1, 0, 0, 0, []), (23, 48, 0, 0, 0, 0, []), (24, 2, 1, 1, 0, 0, []), (25, 0, 2, 0, 0, 100, []), (27, 9, 0, 4, 0, 0, []), (28, 5, 2, 4, 0, 0, []), (30, 2, 1, 2, 0, 0, []), (31, 17, 58, 1, 33, 0, []), (34, 4, 1, 0, 0, 0, []), (35, 25, 1, 3, 4, 0, [(0, 10, 15), (0, 0, 0)]), (38, 2, 1, 3, 0, 0, []), (39, 40, 0, 2, 12, 0, []), (42, 2, 2, 4, 0, 0, []), (44, 40, 1, 2, 6, 0, []), (47, 17, 54, 2, 31, 0, []), (50, 0, 1, 0, 0, 1, []), (51, 19, 80, 0, 44, 0, []), (54, 0, 1, 0, 0, 0, []), (55, 19, 80, 0, 44, 0, []), (58, 4, 1, 0, 0, 0, []), (59, 25, 1, 3, 4, 0, [(0, 10, 15), (0, 0, 0)]), (62, 2, 1, 2, 0, 0, []), (63, 2, 1, 3, 0, 0, []), (64, 40, 2, 3, 12, 0, []), (67, 25, 9, 5, 0, 0, []), (70, 2, 2, 4, 0, 0, []), (72, 18, 79, 1, 43, 0, []), (75, 0, 1, 0, 0, 1, []), (76, 19, 80, 0, 44, 0, []), (79, 0, 1, 0, 0, 0, []), (80, 48, 0, 0, 0, 0, [])]
set_option maxRecDepth 20000 in
theorem qX1_isOwnerf : f_all yX1_isOwner YX1_isOwner pX1_isOwnerf :=
  ⟨f_iload_n (n := 1) (e_dx DX1_isOwner_0 0 rfl) rfl,
  f_if_lt (e_dx DX1_isOwner_0 1 rfl) rfl,
  f_iload_n (n := 1) (e_dx DX1_isOwner_0 2 rfl) rfl,
  f_bipush (e_dx DX1_isOwner_0 3 rfl) ⟨by decide, by decide⟩,
  f_idiv (e_dx DX1_isOwner_0 4 rfl),
  f_iconst (e_dx DX1_isOwner_0 5 rfl) ⟨by decide, by decide⟩,
  f_icmp_ne (e_dx DX1_isOwner_0 6 rfl) rfl,
  f_iload_n (n := 2) (e_dx DX1_isOwner_0 7 rfl) rfl,
  f_iconst (e_dx DX1_isOwner_0 8 rfl) ⟨by decide, by decide⟩,
  f_icmp_eq (e_dx DX1_isOwner_0 9 rfl) rfl,
  f_iload_n (n := 2) (e_dx DX1_isOwner_0 10 rfl) rfl,
  f_iconst (e_dx DX1_isOwner_0 11 rfl) ⟨by decide, by decide⟩,
  f_icmp_ne (e_dx DX1_isOwner_0 12 rfl) rfl,
  f_iconst (e_dx DX1_isOwner_0 13 rfl) ⟨by decide, by decide⟩,
  ⟨(e_dx DX1_isOwner_0 14 rfl), rfl⟩,
  f_iload_n (n := 1) (e_dx DX1_isOwner_0 15 rfl) rfl,
  f_bipush (e_dx DX1_isOwner_0 16 rfl) ⟨by decide, by decide⟩,
  f_irem (e_dx DX1_isOwner_0 17 rfl),
  f_istore (e_dx DX1_isOwner_0 18 rfl) (by decide),
  f_iload_n (n := 2) (e_dx DX1_isOwner_0 19 rfl) rfl,
  f_if_ne (e_dx DX1_isOwner_0 20 rfl) rfl,
  f_aload_n (n := 0) (e_dx DX1_isOwner_0 21 rfl) rfl,
  f_getA (e_dx DX1_isOwner_0 22 rfl) fX1_31 rfl (by decide) (Nat.le_of_ble_eq_true rfl) rfl (by decide),
  f_iload_n (n := 3) (e_dx DX1_isOwner_0 23 rfl) rfl,
  x_callV (e_dx DX1_isOwner_0 24 rfl) mwX10_lot vwX10_lot cX1_139 rfl,
  f_iload (e_dx DX1_isOwner_0 25 rfl),
  x_callV (e_dx DX1_isOwner_0 26 rfl) mwX4_placeOf vwX4_placeOf cX1_167 rfl,
  f_if_lt (e_dx DX1_isOwner_0 27 rfl) rfl,
  f_iconst (e_dx DX1_isOwner_0 28 rfl) ⟨by decide, by decide⟩,
  f_g19 (e_dx DX1_isOwner_0 29 rfl) rfl,
  f_iconst (e_dx DX1_isOwner_0 30 rfl) ⟨by decide, by decide⟩,
  f_g19 (e_dx DX1_isOwner_0 31 rfl) rfl,
  f_aload_n (n := 0) (e_dx DX1_isOwner_0 32 rfl) rfl,
  f_getA (e_dx DX1_isOwner_0 33 rfl) fX1_31 rfl (by decide) (Nat.le_of_ble_eq_true rfl) rfl (by decide),
  f_iload_n (n := 2) (e_dx DX1_isOwner_0 34 rfl) rfl,
  f_iload_n (n := 3) (e_dx DX1_isOwner_0 35 rfl) rfl,
  x_callV (e_dx DX1_isOwner_0 36 rfl) mwX10_at vwX10_at cX1_173 rfl,
  f_getf (e_dx DX1_isOwner_0 37 rfl) fX1_177 rfl (by decide) (by decide) (by decide),
  f_iload (e_dx DX1_isOwner_0 38 rfl),
  f_icmp_ne (e_dx DX1_isOwner_0 39 rfl) rfl,
  f_iconst (e_dx DX1_isOwner_1 0 rfl) ⟨by decide, by decide⟩,
  f_g19 (e_dx DX1_isOwner_1 1 rfl) rfl,
  f_iconst (e_dx DX1_isOwner_1 2 rfl) ⟨by decide, by decide⟩,
  ⟨(e_dx DX1_isOwner_1 3 rfl), rfl⟩, trivial⟩
def lX1_isOwner (c_X10_lot : Nat → Int → e_M → (Nat → Prop) → Prop) (c_X4_placeOf : Nat → Int → e_M → (Int → Prop) → Prop) (c_X10_at : Nat → Int → Int → e_M → (Nat → Prop) → Prop) : List (Nat × f_Wt) := [(0, f_wm [(3, 10, 15), (1, 0, 0)] (fun ar M R => c_X10_lot (f_va (f_nth ar 0)) (f_vi (f_nth ar 1)) M (fun r => R (some (.inr (.inr (.inl (4, 9, r))))) M))), (1, f_wm [(3, 4, 9), (1, 0, 0)] (fun ar M R => c_X4_placeOf (f_va (f_nth ar 0)) (f_vi (f_nth ar 1)) M (fun r => R (some (.inl r)) M))), (2, f_wm [(3, 10, 15), (1, 0, 0), (1, 0, 0)] (fun ar M R => c_X10_at (f_va (f_nth ar 0)) (f_vi (f_nth ar 1)) (f_vi (f_nth ar 2)) M (fun r => R (some (.inr (.inr (.inl (9, 14, r))))) M)))]
set_option maxRecDepth 20000 in
theorem BX1_isOwner {sh : Nat → Nat × Nat} {t : Nat} {rm : Nat × Nat × Nat} {cs : Nat × Nat} {R : f_Rt} {c_X10_lot : Nat → Int → e_M → (Nat → Prop) → Prop} {c_X4_placeOf : Nat → Int → e_M → (Int → Prop) → Prop} {c_X10_at : Nat → Int → Int → e_M → (Nat → Prop) → Prop} {x1 : Int} {x2 : Int} {x3 : Int} {M : e_M} (C : f_Hy sh t yX1_isOwner rm cs 5 (lX1_isOwner c_X10_lot c_X4_placeOf c_X10_at) R) (h : VX1_isOwner c_X10_lot c_X4_placeOf c_X10_at (fun r => R (some (.inl r)) M) x1 x2 x3 M) : f_E sh t YX1_isOwner rm cs (f_Q sh t R) 0 [.inr (.inr (.inl (1, 7, 4452))), .inl x1, .inl x2, .inl x3, .inr (.inr (.inr ()))] [] M :=
  f_go (KC := f_kc []) C qX1_isOwnerf f_kc_nil 46 0 h
def WX1_isOwner (x1 : Int) (x2 : Int) (x3 : Int) (M : e_M) (Q : Int → Prop) : Prop :=
  VX1_isOwner WX10_lot WX4_placeOf WX10_at Q x1 x2 x3 M
theorem PX1_isOwner {sh : Nat → Nat × Nat} {t : Nat} {rm : Nat × Nat × Nat} {cs : Nat × Nat} {R : f_Rt} {x1 : Int} {x2 : Int} {x3 : Int} {M : e_M} (C : f_Hy sh t yX1_isOwner rm cs 5 (lX1_isOwner WX10_lot WX4_placeOf WX10_at) R) (h : WX1_isOwner x1 x2 x3 M (fun r => R (some (.inl r)) M)) : f_E sh t YX1_isOwner rm cs (f_Q sh t R) 0 [.inr (.inr (.inl (1, 7, 4452))), .inl x1, .inl x2, .inl x3, .inr (.inr (.inr ()))] [] M :=
  BX1_isOwner C h
def wX1_isOwner : f_Wt := f_wm [(4462, 1, 7), (1, 0, 0), (1, 0, 0), (1, 0, 0)] (fun ar M R => WX1_isOwner (f_vi (f_nth ar 1)) (f_vi (f_nth ar 2)) (f_vi (f_nth ar 3)) M (fun r => R (some (.inl r)) M))
theorem TX1_isOwner {sh : Nat → Nat × Nat} {t : Nat} : f_Mt sh t YX1_isOwner 5 (wX1_isOwner) :=
  f_Mt_of (k := 1) (Nat.le_of_ble_eq_true rfl) rfl rfl (fun ar M R rm cs h1 h2 h3 hX h => PX1_isOwner ⟨Nat.le_of_ble_eq_true rfl, h1, h2, h3, ⟨(f_Mt.up (Nat.le_of_ble_eq_true rfl) TX10_lot), (f_Mt.up (Nat.le_of_ble_eq_true rfl) TX4_placeOf), (f_Mt.up (Nat.le_of_ble_eq_true rfl) TX10_at), trivial⟩, hX⟩ h)
def VX1_isOnLot (c_X10_at : Nat → Int → Int → e_M → (Nat → Prop) → Prop) (c_X8_has : Nat → Int → e_M → (Int → Prop) → Prop) (Q : Int → Prop) (x1 : Int) (x2 : Int) (x3 : Int) (M : e_M) : Prop :=
  ((x1 < 0 → (Q 0)) ∧ (0 ≤ x1 → (¬ (100 : Int) = 0 ∧ ((¬ (e_w32 (x1.tdiv 100)) = 0 → (Q 0)) ∧ ((e_w32 (x1.tdiv 100)) = 0 → ((x2 = 0 → (Q 0)) ∧ (¬ x2 = 0 → ((¬ x2 = 1 → (c_X10_at ((M 4452 3).toNat) x2 x3 M (fun r1 => ((¬ x2 = 3 → (¬ (100 : Int) = 0 ∧ (c_X8_has ((M r1 9).toNat) (x1.tmod 100) M (fun r2 => ((r2 = 0 ∨ r2 = 1) ∧ Q r2))))) ∧ (x2 = 3 → (¬ (100 : Int) = 0 ∧ (c_X8_has ((M r1 10).toNat) (x1.tmod 100) M (fun r3 => ((r3 = 0 ∨ r3 = 1) ∧ Q r3))))))))) ∧ (x2 = 1 → (Q 0))))))))))
def yX1_isOnLot (i : Nat) : e_Y := x_get YX1_isOnLot [YX10_at, YX8_has] i
def pX1_isOnLotf : List x_I := [(0, 2, 1, 1, 0, 0, []), (1, 17, 20, 2, 12, 0, []), (4, 2, 1, 1, 0, 0, []), (5, 0, 2, 0, 0, 100, []), (7, 9, 0, 3, 0, 0, []), (8, 17, 20, 1, 12, 0, []), (11, 2, 1, 2, 0, 0, []), (12, 17, 20, 0, 12, 0, []), (15, 2, 1, 2, 0, 0, []), (16, 0, 1, 0, 0, 1, []), (17, 18, 22, 1, 14, 0, []), (20, 0, 1, 0, 0, 0, []), (21, 48, 0, 0, 0, 0, []), (22, 4, 1, 0, 0, 0, []), (23, 25, 1, 3, 4, 0, [(0, 10, 15), (0, 0, 0)]), (26, 2, 1, 2, 0, 0, []), (27, 2, 1, 3, 0, 0, []), (28, 40, 0, 3, 12, 0, []), (31, 7, 2, 4, 0, 0, []), (33, 2, 1, 2, 0, 0, []), (34, 0, 1, 0, 0, 3, []), (35, 18, 53, 1, 30, 0, []), (38, 4, 2, 4, 0, 0, []), (40, 25, 9, 10, 4, 0, [(0, 8, 2), (0, 0, 0)]), (43, 2, 1, 1, 0, 0, []), (44, 0, 2, 0, 0, 100, []), (46, 9, 0, 4, 0, 0, []), (47, 40, 1, 2, 10, 0, []), (50, 19, 65, 0, 36, 0, []), (53, 4, 2, 4, 0, 0, []), (55, 25, 9, 9, 4, 0, [(0, 8, 2), (0, 0, 0)]), (58, 2, 1, 1, 0, 0, []), (59, 0, 2, 0, 0, 100, []), (61, 9, 0, 4, 0, 0, []), (62, 40, 1, 2, 10, 0, []), (65, 42, 0, 0, 0, 0, [])]
set_option maxRecDepth 20000 in
theorem qX1_isOnLotf : f_all yX1_isOnLot YX1_isOnLot pX1_isOnLotf :=
  ⟨f_iload_n (n := 1) (e_dx DX1_isOnLot_0 0 rfl) rfl,
  f_if_lt (e_dx DX1_isOnLot_0 1 rfl) rfl,
  f_iload_n (n := 1) (e_dx DX1_isOnLot_0 2 rfl) rfl,
  f_bipush (e_dx DX1_isOnLot_0 3 rfl) ⟨by decide, by decide⟩,
  f_idiv (e_dx DX1_isOnLot_0 4 rfl),
  f_if_ne (e_dx DX1_isOnLot_0 5 rfl) rfl,
  f_iload_n (n := 2) (e_dx DX1_isOnLot_0 6 rfl) rfl,
  f_if_eq (e_dx DX1_isOnLot_0 7 rfl) rfl,
  f_iload_n (n := 2) (e_dx DX1_isOnLot_0 8 rfl) rfl,
  f_iconst (e_dx DX1_isOnLot_0 9 rfl) ⟨by decide, by decide⟩,
  f_icmp_ne (e_dx DX1_isOnLot_0 10 rfl) rfl,
  f_iconst (e_dx DX1_isOnLot_0 11 rfl) ⟨by decide, by decide⟩,
  ⟨(e_dx DX1_isOnLot_0 12 rfl), rfl⟩,
  f_aload_n (n := 0) (e_dx DX1_isOnLot_0 13 rfl) rfl,
  f_getA (e_dx DX1_isOnLot_0 14 rfl) fX1_31 rfl (by decide) (Nat.le_of_ble_eq_true rfl) rfl (by decide),
  f_iload_n (n := 2) (e_dx DX1_isOnLot_0 15 rfl) rfl,
  f_iload_n (n := 3) (e_dx DX1_isOnLot_0 16 rfl) rfl,
  x_callV (e_dx DX1_isOnLot_0 17 rfl) mwX10_at vwX10_at cX1_173 rfl,
  f_astore (e_dx DX1_isOnLot_0 18 rfl) (by decide),
  f_iload_n (n := 2) (e_dx DX1_isOnLot_0 19 rfl) rfl,
  f_iconst (e_dx DX1_isOnLot_0 20 rfl) ⟨by decide, by decide⟩,
  f_icmp_ne (e_dx DX1_isOnLot_0 21 rfl) rfl,
  f_aload (e_dx DX1_isOnLot_0 22 rfl),
  f_getA (e_dx DX1_isOnLot_0 23 rfl) fX1_182 rfl (by decide) (Nat.le_of_ble_eq_true rfl) rfl (by decide),
  f_iload_n (n := 1) (e_dx DX1_isOnLot_0 24 rfl) rfl,
  f_bipush (e_dx DX1_isOnLot_0 25 rfl) ⟨by decide, by decide⟩,
  f_irem (e_dx DX1_isOnLot_0 26 rfl),
  x_callV (e_dx DX1_isOnLot_0 27 rfl) mwX8_has vwX8_has cX1_186 rfl,
  f_g19 (e_dx DX1_isOnLot_0 28 rfl) rfl,
  f_aload (e_dx DX1_isOnLot_0 29 rfl),
  f_getA (e_dx DX1_isOnLot_0 30 rfl) fX1_191 rfl (by decide) (Nat.le_of_ble_eq_true rfl) rfl (by decide),
  f_iload_n (n := 1) (e_dx DX1_isOnLot_0 31 rfl) rfl,
  f_bipush (e_dx DX1_isOnLot_0 32 rfl) ⟨by decide, by decide⟩,
  f_irem (e_dx DX1_isOnLot_0 33 rfl),
  x_callV (e_dx DX1_isOnLot_0 34 rfl) mwX8_has vwX8_has cX1_186 rfl,
  ⟨(e_dx DX1_isOnLot_0 35 rfl), rfl⟩, trivial⟩
def lX1_isOnLot (c_X10_at : Nat → Int → Int → e_M → (Nat → Prop) → Prop) (c_X8_has : Nat → Int → e_M → (Int → Prop) → Prop) : List (Nat × f_Wt) := [(0, f_wm [(3, 10, 15), (1, 0, 0), (1, 0, 0)] (fun ar M R => c_X10_at (f_va (f_nth ar 0)) (f_vi (f_nth ar 1)) (f_vi (f_nth ar 2)) M (fun r => R (some (.inr (.inr (.inl (9, 14, r))))) M))), (1, f_wm [(3, 8, 2), (1, 0, 0)] (fun ar M R => c_X8_has (f_va (f_nth ar 0)) (f_vi (f_nth ar 1)) M (fun r => R (some (.inl r)) M)))]
set_option maxRecDepth 20000 in
theorem BX1_isOnLot {sh : Nat → Nat × Nat} {t : Nat} {rm : Nat × Nat × Nat} {cs : Nat × Nat} {R : f_Rt} {c_X10_at : Nat → Int → Int → e_M → (Nat → Prop) → Prop} {c_X8_has : Nat → Int → e_M → (Int → Prop) → Prop} {x1 : Int} {x2 : Int} {x3 : Int} {M : e_M} (C : f_Hy sh t yX1_isOnLot rm cs 6 (lX1_isOnLot c_X10_at c_X8_has) R) (h : VX1_isOnLot c_X10_at c_X8_has (fun r => R (some (.inl r)) M) x1 x2 x3 M) : f_E sh t YX1_isOnLot rm cs (f_Q sh t R) 0 [.inr (.inr (.inl (1, 7, 4452))), .inl x1, .inl x2, .inl x3, .inr (.inr (.inr ()))] [] M :=
  f_go (KC := f_kc []) C qX1_isOnLotf f_kc_nil 38 0 h
def WX1_isOnLot (x1 : Int) (x2 : Int) (x3 : Int) (M : e_M) (Q : Int → Prop) : Prop :=
  VX1_isOnLot WX10_at WX8_has Q x1 x2 x3 M
theorem PX1_isOnLot {sh : Nat → Nat × Nat} {t : Nat} {rm : Nat × Nat × Nat} {cs : Nat × Nat} {R : f_Rt} {x1 : Int} {x2 : Int} {x3 : Int} {M : e_M} (C : f_Hy sh t yX1_isOnLot rm cs 6 (lX1_isOnLot WX10_at WX8_has) R) (h : WX1_isOnLot x1 x2 x3 M (fun r => R (some (.inl r)) M)) : f_E sh t YX1_isOnLot rm cs (f_Q sh t R) 0 [.inr (.inr (.inl (1, 7, 4452))), .inl x1, .inl x2, .inl x3, .inr (.inr (.inr ()))] [] M :=
  BX1_isOnLot C h
def wX1_isOnLot : f_Wt := f_wm [(4462, 1, 7), (1, 0, 0), (1, 0, 0), (1, 0, 0)] (fun ar M R => WX1_isOnLot (f_vi (f_nth ar 1)) (f_vi (f_nth ar 2)) (f_vi (f_nth ar 3)) M (fun r => R (some (.inl r)) M))
theorem TX1_isOnLot {sh : Nat → Nat × Nat} {t : Nat} : f_Mt sh t YX1_isOnLot 6 (wX1_isOnLot) :=
  f_Mt_of (k := 1) (Nat.le_of_ble_eq_true rfl) rfl rfl (fun ar M R rm cs h1 h2 h3 hX h => PX1_isOnLot ⟨Nat.le_of_ble_eq_true rfl, h1, h2, h3, ⟨(f_Mt.up (Nat.le_of_ble_eq_true rfl) TX10_at), (f_Mt.up (Nat.le_of_ble_eq_true rfl) TX8_has), trivial⟩, hX⟩ h)
def VX3_overlap (Q : Int → Prop) (x0 : Int) (x1 : Int) (x2 : Int) (x3 : Int) (M : e_M) : Prop :=
  (((e_min (e_max x0 x1) (e_max x2 x3)) ≤ (e_max (e_min x0 x1) (e_min x2 x3)) → (Q 0)) ∧ ((e_max (e_min x0 x1) (e_min x2 x3)) < (e_min (e_max x0 x1) (e_max x2 x3)) → (Q 1)))
def yX3_overlap (i : Nat) : e_Y := x_get YX3_overlap [] i
def pX3_overlapf : List x_I := [(0, 2, 1, 0, 0, 0, []), (1, 2, 1, 1, 0, 0, []), (2, 39, 0, 0, 0, 0, []), (5, 2, 1, 2, 0, 0, []), (6, 2, 1, 3, 0, 0, []), (7, 39, 0, 0, 0, 0, []), (10, 39, 0, 1, 0, 0, []), (13, 2, 1, 0, 0, 0, []), (14, 2, 1, 1, 0, 0, []), (15, 39, 0, 1, 0, 0, []), (18, 2, 1, 2, 0, 0, []), (19, 2, 1, 3, 0, 0, []), (20, 39, 0, 1, 0, 0, []), (23, 39, 0, 0, 0, 0, []), (26, 18, 33, 3, 18, 0, []), (29, 0, 1, 0, 0, 1, []), (30, 19, 34, 0, 19, 0, []), (33, 0, 1, 0, 0, 0, []), (34, 48, 0, 0, 0, 0, [])]
set_option maxRecDepth 20000 in
theorem qX3_overlapf : f_all yX3_overlap YX3_overlap pX3_overlapf :=
  ⟨f_iload_n (n := 0) (e_dx DX3_overlap_0 0 rfl) rfl,
  f_iload_n (n := 1) (e_dx DX3_overlap_0 1 rfl) rfl,
  f_mminI (e_dx DX3_overlap_0 2 rfl) cX3_65 fm_s_mminI fm_i fm_c_mminI,
  f_iload_n (n := 2) (e_dx DX3_overlap_0 3 rfl) rfl,
  f_iload_n (n := 3) (e_dx DX3_overlap_0 4 rfl) rfl,
  f_mminI (e_dx DX3_overlap_0 5 rfl) cX3_65 fm_s_mminI fm_i fm_c_mminI,
  f_mmaxI (e_dx DX3_overlap_0 6 rfl) cX3_68 fm_s_mmaxI fm_i fm_c_mmaxI,
  f_iload_n (n := 0) (e_dx DX3_overlap_0 7 rfl) rfl,
  f_iload_n (n := 1) (e_dx DX3_overlap_0 8 rfl) rfl,
  f_mmaxI (e_dx DX3_overlap_0 9 rfl) cX3_68 fm_s_mmaxI fm_i fm_c_mmaxI,
  f_iload_n (n := 2) (e_dx DX3_overlap_0 10 rfl) rfl,
  f_iload_n (n := 3) (e_dx DX3_overlap_0 11 rfl) rfl,
  f_mmaxI (e_dx DX3_overlap_0 12 rfl) cX3_68 fm_s_mmaxI fm_i fm_c_mmaxI,
  f_mminI (e_dx DX3_overlap_0 13 rfl) cX3_65 fm_s_mminI fm_i fm_c_mminI,
  f_icmp_ge (e_dx DX3_overlap_0 14 rfl) rfl,
  f_iconst (e_dx DX3_overlap_0 15 rfl) ⟨by decide, by decide⟩,
  f_g19 (e_dx DX3_overlap_0 16 rfl) rfl,
  f_iconst (e_dx DX3_overlap_0 17 rfl) ⟨by decide, by decide⟩,
  ⟨(e_dx DX3_overlap_0 18 rfl), rfl⟩, trivial⟩
def lX3_overlap : List (Nat × f_Wt) := []
set_option maxRecDepth 20000 in
theorem BX3_overlap {sh : Nat → Nat × Nat} {t : Nat} {rm : Nat × Nat × Nat} {cs : Nat × Nat} {R : f_Rt} {x0 : Int} {x1 : Int} {x2 : Int} {x3 : Int} {M : e_M} (C : f_Hy sh t yX3_overlap rm cs 4 (lX3_overlap) R) (h : VX3_overlap (fun r => R (some (.inl r)) M) x0 x1 x2 x3 M) : f_E sh t YX3_overlap rm cs (f_Q sh t R) 0 [.inl x0, .inl x1, .inl x2, .inl x3] [] M :=
  f_go (KC := f_kc []) C qX3_overlapf f_kc_nil 21 0 h
def WX3_overlap (x0 : Int) (x1 : Int) (x2 : Int) (x3 : Int) (M : e_M) (Q : Int → Prop) : Prop :=
  VX3_overlap Q x0 x1 x2 x3 M
theorem PX3_overlap {sh : Nat → Nat × Nat} {t : Nat} {rm : Nat × Nat × Nat} {cs : Nat × Nat} {R : f_Rt} {x0 : Int} {x1 : Int} {x2 : Int} {x3 : Int} {M : e_M} (C : f_Hy sh t yX3_overlap rm cs 4 (lX3_overlap) R) (h : WX3_overlap x0 x1 x2 x3 M (fun r => R (some (.inl r)) M)) : f_E sh t YX3_overlap rm cs (f_Q sh t R) 0 [.inl x0, .inl x1, .inl x2, .inl x3] [] M :=
  BX3_overlap C h
def wX3_overlap : f_Wt := f_wm [(1, 0, 0), (1, 0, 0), (1, 0, 0), (1, 0, 0)] (fun ar M R => WX3_overlap (f_vi (f_nth ar 0)) (f_vi (f_nth ar 1)) (f_vi (f_nth ar 2)) (f_vi (f_nth ar 3)) M (fun r => R (some (.inl r)) M))
theorem TX3_overlap {sh : Nat → Nat × Nat} {t : Nat} : f_Mt sh t YX3_overlap 4 (wX3_overlap) :=
  f_Mt_of (k := 0) (Nat.le_of_ble_eq_true rfl) rfl rfl (fun ar M R rm cs h1 h2 h3 hX h => PX3_overlap ⟨Nat.le_of_ble_eq_true rfl, h1, h2, h3, trivial, hX⟩ h)
def VX3_isNear_2 (c_X3_next : Nat → Int → e_M → (Int → Prop) → Prop) (c_X11_turn : Int → Int → Int → Int → Int → Int → e_M → (Int → Prop) → Prop) (c_X3_overlap : Int → Int → Int → Int → e_M → (Int → Prop) → Prop) (k19 : Nat → Nat → Int → Int → Int → Prop) (Q : Int → Prop) (a0 : Nat) (a1 : Nat) (x2 : Int) (M : e_M) : Prop :=
  (((M a0 2) ≤ x2 → (Q 0)) ∧ (x2 < (M a0 2) → (c_X3_next a0 x2 M (fun r1 => (k19 a0 a1 x2 r1 0)))))
def VX3_isNear_19 (c_X3_next : Nat → Int → e_M → (Int → Prop) → Prop) (c_X11_turn : Int → Int → Int → Int → Int → Int → e_M → (Int → Prop) → Prop) (c_X3_overlap : Int → Int → Int → Int → e_M → (Int → Prop) → Prop) (k2 : Nat → Nat → Int → Prop) (k132 : Nat → Nat → Int → Int → Int → Int → Prop) (k133 : Nat → Nat → Int → Int → Int → Int → Int → Prop) (Q : Int → Prop) (a0 : Nat) (a1 : Nat) (x2 : Int) (x3 : Int) (x4 : Int) (M : e_M) : Prop :=
  (((M a1 2) ≤ x4 → (k2 a0 a1 (e_w32 (x2 + 1)))) ∧ (x4 < (M a1 2) → (c_X3_next a1 x4 M (fun r1 => ((0 ≤ x2 ∧ x2 < 40) ∧ ((0 ≤ x2 ∧ x2 < 40) ∧ ((0 ≤ x3 ∧ x3 < 40) ∧ ((0 ≤ x3 ∧ x3 < 40) ∧ ((0 ≤ x4 ∧ x4 < 40) ∧ ((0 ≤ x4 ∧ x4 < 40) ∧ (c_X11_turn (M (a0 + 1) (x2.toNat)) (M (a0 + 2) (x2.toNat)) (M (a0 + 1) (x3.toNat)) (M (a0 + 2) (x3.toNat)) (M (a1 + 1) (x4.toNat)) (M (a1 + 2) (x4.toNat)) M (fun r2 => ((¬ r2 = 0 → (k132 a0 a1 x2 x3 x4 r1)) ∧ (r2 = 0 → ((0 ≤ x2 ∧ x2 < 40) ∧ ((0 ≤ x2 ∧ x2 < 40) ∧ ((0 ≤ x3 ∧ x3 < 40) ∧ ((0 ≤ x3 ∧ x3 < 40) ∧ ((0 ≤ r1 ∧ r1 < 40) ∧ ((0 ≤ r1 ∧ r1 < 40) ∧ (c_X11_turn (M (a0 + 1) (x2.toNat)) (M (a0 + 2) (x2.toNat)) (M (a0 + 1) (x3.toNat)) (M (a0 + 2) (x3.toNat)) (M (a1 + 1) (r1.toNat)) (M (a1 + 2) (r1.toNat)) M (fun r3 => ((¬ r3 = 0 → (k132 a0 a1 x2 x3 x4 r1)) ∧ (r3 = 0 → (k133 a0 a1 x2 x3 x4 r1 1)))))))))))))))))))))))))
def VX3_isNear_132 (c_X3_next : Nat → Int → e_M → (Int → Prop) → Prop) (c_X11_turn : Int → Int → Int → Int → Int → Int → e_M → (Int → Prop) → Prop) (c_X3_overlap : Int → Int → Int → Int → e_M → (Int → Prop) → Prop) (k133 : Nat → Nat → Int → Int → Int → Int → Int → Prop) (Q : Int → Prop) (a0 : Nat) (a1 : Nat) (x2 : Int) (x3 : Int) (x4 : Int) (x5 : Int) (M : e_M) : Prop :=
  (k133 a0 a1 x2 x3 x4 x5 0)
def VX3_isNear_133 (c_X3_next : Nat → Int → e_M → (Int → Prop) → Prop) (c_X11_turn : Int → Int → Int → Int → Int → Int → e_M → (Int → Prop) → Prop) (c_X3_overlap : Int → Int → Int → Int → e_M → (Int → Prop) → Prop) (k206 : Nat → Nat → Int → Int → Int → Prop) (Q : Int → Prop) (a0 : Nat) (a1 : Nat) (x2 : Int) (x3 : Int) (x4 : Int) (x5 : Int) (xs0 : Int) (M : e_M) : Prop :=
  ((xs0 = 0 → (k206 a0 a1 x2 x3 x4)) ∧ (¬ xs0 = 0 → ((0 ≤ x2 ∧ x2 < 40) ∧ ((0 ≤ x3 ∧ x3 < 40) ∧ ((0 ≤ x4 ∧ x4 < 40) ∧ ((0 ≤ x5 ∧ x5 < 40) ∧ (c_X3_overlap (M (a0 + 1) (x2.toNat)) (M (a0 + 1) (x3.toNat)) (M (a1 + 1) (x4.toNat)) (M (a1 + 1) (x5.toNat)) M (fun r1 => ((¬ r1 = 0 → (Q 1)) ∧ (r1 = 0 → ((0 ≤ x2 ∧ x2 < 40) ∧ ((0 ≤ x3 ∧ x3 < 40) ∧ ((0 ≤ x4 ∧ x4 < 40) ∧ ((0 ≤ x5 ∧ x5 < 40) ∧ (c_X3_overlap (M (a0 + 2) (x2.toNat)) (M (a0 + 2) (x3.toNat)) (M (a1 + 2) (x4.toNat)) (M (a1 + 2) (x5.toNat)) M (fun r2 => ((r2 = 0 → (k206 a0 a1 x2 x3 x4)) ∧ (¬ r2 = 0 → (Q 1)))))))))))))))))))
def VX3_isNear_206 (c_X3_next : Nat → Int → e_M → (Int → Prop) → Prop) (c_X11_turn : Int → Int → Int → Int → Int → Int → e_M → (Int → Prop) → Prop) (c_X3_overlap : Int → Int → Int → Int → e_M → (Int → Prop) → Prop) (k19 : Nat → Nat → Int → Int → Int → Prop) (Q : Int → Prop) (a0 : Nat) (a1 : Nat) (x2 : Int) (x3 : Int) (x4 : Int) (M : e_M) : Prop :=
  (k19 a0 a1 x2 x3 (e_w32 (x4 + 1)))
def VX3_isNear (c_X3_next : Nat → Int → e_M → (Int → Prop) → Prop) (c_X11_turn : Int → Int → Int → Int → Int → Int → e_M → (Int → Prop) → Prop) (c_X3_overlap : Int → Int → Int → Int → e_M → (Int → Prop) → Prop) (k2 : Nat → Nat → Int → Prop) (Q : Int → Prop) (a0 : Nat) (a1 : Nat) (M : e_M) : Prop :=
  (k2 a0 a1 0)
def yX3_isNear (i : Nat) : e_Y := x_get YX3_isNear [YX3_next, YX11_turn, YX3_overlap] i
def pX3_isNearf : List x_I := [(0, 0, 1, 0, 0, 0, []), (1, 5, 1, 2, 0, 0, []), (2, 49, 0, 0, 0, 0, []), (2, 2, 1, 2, 0, 0, []), (3, 4, 1, 0, 0, 0, []), (4, 25, 3, 2, 0, 0, []), (7, 18, 218, 3, 128, 0, []), (10, 4, 1, 0, 0, 0, []), (11, 2, 1, 2, 0, 0, []), (12, 40, 0, 2, 5, 0, []), (15, 5, 1, 3, 0, 0, []), (16, 0, 1, 0, 0, 0, []), (17, 5, 2, 4, 0, 0, []), (19, 49, 0, 0, 0, 0, []), (19, 2, 2, 4, 0, 0, []), (21, 4, 1, 1, 0, 0, []), (22, 25, 3, 2, 0, 0, []), (25, 18, 212, 3, 126, 0, []), (28, 4, 1, 1, 0, 0, []), (29, 2, 2, 4, 0, 0, []), (31, 40, 0, 2, 5, 0, []), (34, 5, 2, 5, 0, 0, []), (36, 4, 1, 0, 0, 0, []), (37, 25, 3, 0, 4, 0, [(0, 20, 40), (0, 1, 1)]), (40, 2, 1, 2, 0, 0, []), (41, 27, 0, 0, 0, 0, []), (42, 4, 1, 0, 0, 0, []), (43, 25, 3, 1, 4, 0, [(0, 20, 40), (0, 1, 2)]), (46, 2, 1, 2, 0, 0, []), (47, 27, 0, 0, 0, 0, []), (48, 4, 1, 0, 0, 0, []), (49, 25, 3, 0, 4, 0, [(0, 20, 40), (0, 1, 1)]), (52, 2, 1, 3, 0, 0, []), (53, 27, 0, 0, 0, 0, []), (54, 4, 1, 0, 0, 0, []), (55, 25, 3, 1, 4, 0, [(0, 20, 40), (0, 1, 2)]), (58, 2, 1, 3, 0, 0, []), (59, 27, 0, 0, 0, 0, []), (60, 4, 1, 1, 0, 0, []), (61, 25, 3, 0, 4, 0, [(0, 20, 40), (0, 1, 1)]), (64, 2, 2, 4, 0, 0, []), (66, 27, 0, 0, 0, 0, []), (67, 4, 1, 1, 0, 0, []), (68, 25, 3, 1, 4, 0, [(0, 20, 40), (0, 1, 2)]), (71, 2, 2, 4, 0, 0, []), (73, 27, 0, 0, 0, 0, []), (74, 40, 1, 6, 0, 0, []), (77, 1, 1, 0, 0, 0, []), (78, 32, 132, 1, 79, 0, []), (82, 4, 1, 0, 0, 0, []), (83, 25, 3, 0, 4, 0, [(0, 20, 40), (0, 1, 1)]), (86, 2, 1, 2, 0, 0, []), (87, 27, 0, 0, 0, 0, []), (88, 4, 1, 0, 0, 0, []), (89, 25, 3, 1, 4, 0, [(0, 20, 40), (0, 1, 2)]), (92, 2, 1, 2, 0, 0, []), (93, 27, 0, 0, 0, 0, []), (94, 4, 1, 0, 0, 0, []), (95, 25, 3, 0, 4, 0, [(0, 20, 40), (0, 1, 1)]), (98, 2, 1, 3, 0, 0, []), (99, 27, 0, 0, 0, 0, []), (100, 4, 1, 0, 0, 0, []), (101, 25, 3, 1, 4, 0, [(0, 20, 40), (0, 1, 2)]), (104, 2, 1, 3, 0, 0, []), (105, 27, 0, 0, 0, 0, []), (106, 4, 1, 1, 0, 0, []), (107, 25, 3, 0, 4, 0, [(0, 20, 40), (0, 1, 1)]), (110, 2, 2, 5, 0, 0, []), (112, 27, 0, 0, 0, 0, []), (113, 4, 1, 1, 0, 0, []), (114, 25, 3, 1, 4, 0, [(0, 20, 40), (0, 1, 2)]), (117, 2, 2, 5, 0, 0, []), (119, 27, 0, 0, 0, 0, []), (120, 40, 1, 6, 0, 0, []), (123, 1, 1, 0, 0, 0, []), (124, 32, 132, 1, 79, 0, []), (128, 0, 1, 0, 0, 1, []), (129, 19, 133, 0, 81, 0, []), (132, 49, 0, 0, 0, 0, []), (132, 0, 1, 0, 0, 0, []), (133, 49, 0, 0, 0, 0, []), (133, 5, 2, 6, 0, 0, []), (135, 2, 2, 6, 0, 0, []), (137, 17, 206, 0, 123, 0, []), (140, 4, 1, 0, 0, 0, []), (141, 25, 3, 0, 4, 0, [(0, 20, 40), (0, 1, 1)]), (144, 2, 1, 2, 0, 0, []), (145, 27, 0, 0, 0, 0, []), (146, 4, 1, 0, 0, 0, []), (147, 25, 3, 0, 4, 0, [(0, 20, 40), (0, 1, 1)]), (150, 2, 1, 3, 0, 0, []), (151, 27, 0, 0, 0, 0, []), (152, 4, 1, 1, 0, 0, []), (153, 25, 3, 0, 4, 0, [(0, 20, 40), (0, 1, 1)]), (156, 2, 2, 4, 0, 0, []), (158, 27, 0, 0, 0, 0, []), (159, 4, 1, 1, 0, 0, []), (160, 25, 3, 0, 4, 0, [(0, 20, 40), (0, 1, 1)]), (163, 2, 2, 5, 0, 0, []), (165, 27, 0, 0, 0, 0, []), (166, 40, 2, 4, 0, 0, []), (169, 17, 204, 1, 121, 0, []), (172, 4, 1, 0, 0, 0, []), (173, 25, 3, 1, 4, 0, [(0, 20, 40), (0, 1, 2)]), (176, 2, 1, 2, 0, 0, []), (177, 27, 0, 0, 0, 0, []), (178, 4, 1, 0, 0, 0, []), (179, 25, 3, 1, 4, 0, [(0, 20, 40), (0, 1, 2)]), (182, 2, 1, 3, 0, 0, []), (183, 27, 0, 0, 0, 0, []), (184, 4, 1, 1, 0, 0, []), (185, 25, 3, 1, 4, 0, [(0, 20, 40), (0, 1, 2)]), (188, 2, 2, 4, 0, 0, []), (190, 27, 0, 0, 0, 0, []), (191, 4, 1, 1, 0, 0, []), (192, 25, 3, 1, 4, 0, [(0, 20, 40), (0, 1, 2)]), (195, 2, 2, 5, 0, 0, []), (197, 27, 0, 0, 0, 0, []), (198, 40, 2, 4, 0, 0, []), (201, 17, 206, 0, 123, 0, []), (204, 0, 1, 0, 0, 1, []), (205, 48, 0, 0, 0, 0, []), (206, 49, 0, 0, 0, 0, []), (206, 8, 0, 4, 0, 1, []), (209, 19, 19, 0, 14, 0, []), (212, 8, 0, 2, 0, 1, []), (215, 19, 2, 0, 3, 0, []), (218, 0, 1, 0, 0, 0, []), (219, 48, 0, 0, 0, 0, [])]
set_option maxRecDepth 20000 in
theorem qX3_isNearf : f_all yX3_isNear YX3_isNear pX3_isNearf :=
  ⟨f_iconst (e_dx DX3_isNear_0 0 rfl) ⟨by decide, by decide⟩,
  f_istore_n (n := 2) (e_dx DX3_isNear_0 1 rfl) rfl (by decide),
  trivial,
  f_iload_n (n := 2) (e_dx DX3_isNear_0 2 rfl) rfl,
  f_aload_n (n := 0) (e_dx DX3_isNear_0 3 rfl) rfl,
  f_getf (e_dx DX3_isNear_0 4 rfl) fX3_18 rfl (by decide) (by decide) (by decide),
  f_icmp_ge (e_dx DX3_isNear_0 5 rfl) rfl,
  f_aload_n (n := 0) (e_dx DX3_isNear_0 6 rfl) rfl,
  f_iload_n (n := 2) (e_dx DX3_isNear_0 7 rfl) rfl,
  x_callV (e_dx DX3_isNear_0 8 rfl) mwX3_next vwX3_next cX3_29 rfl,
  f_istore_n (n := 3) (e_dx DX3_isNear_0 9 rfl) rfl (by decide),
  f_iconst (e_dx DX3_isNear_0 10 rfl) ⟨by decide, by decide⟩,
  f_istore (e_dx DX3_isNear_0 11 rfl) (by decide),
  trivial,
  f_iload (e_dx DX3_isNear_0 12 rfl),
  f_aload_n (n := 1) (e_dx DX3_isNear_0 13 rfl) rfl,
  f_getf (e_dx DX3_isNear_0 14 rfl) fX3_18 rfl (by decide) (by decide) (by decide),
  f_icmp_ge (e_dx DX3_isNear_0 15 rfl) rfl,
  f_aload_n (n := 1) (e_dx DX3_isNear_0 16 rfl) rfl,
  f_iload (e_dx DX3_isNear_0 17 rfl),
  x_callV (e_dx DX3_isNear_0 18 rfl) mwX3_next vwX3_next cX3_29 rfl,
  f_istore (e_dx DX3_isNear_0 19 rfl) (by decide),
  f_aload_n (n := 0) (e_dx DX3_isNear_0 20 rfl) rfl,
  f_getA (e_dx DX3_isNear_0 21 rfl) fX3_9 rfl (by decide) (Nat.le_of_ble_eq_true rfl) rfl (by decide),
  f_iload_n (n := 2) (e_dx DX3_isNear_0 22 rfl) rfl,
  f_iaload (e_dx DX3_isNear_0 23 rfl),
  f_aload_n (n := 0) (e_dx DX3_isNear_0 24 rfl) rfl,
  f_getA (e_dx DX3_isNear_0 25 rfl) fX3_15 rfl (by decide) (Nat.le_of_ble_eq_true rfl) rfl (by decide),
  f_iload_n (n := 2) (e_dx DX3_isNear_0 26 rfl) rfl,
  f_iaload (e_dx DX3_isNear_0 27 rfl),
  f_aload_n (n := 0) (e_dx DX3_isNear_0 28 rfl) rfl,
  f_getA (e_dx DX3_isNear_0 29 rfl) fX3_9 rfl (by decide) (Nat.le_of_ble_eq_true rfl) rfl (by decide),
  f_iload_n (n := 3) (e_dx DX3_isNear_0 30 rfl) rfl,
  f_iaload (e_dx DX3_isNear_0 31 rfl),
  f_aload_n (n := 0) (e_dx DX3_isNear_0 32 rfl) rfl,
  f_getA (e_dx DX3_isNear_0 33 rfl) fX3_15 rfl (by decide) (Nat.le_of_ble_eq_true rfl) rfl (by decide),
  f_iload_n (n := 3) (e_dx DX3_isNear_0 34 rfl) rfl,
  f_iaload (e_dx DX3_isNear_0 35 rfl),
  f_aload_n (n := 1) (e_dx DX3_isNear_0 36 rfl) rfl,
  f_getA (e_dx DX3_isNear_0 37 rfl) fX3_9 rfl (by decide) (Nat.le_of_ble_eq_true rfl) rfl (by decide),
  f_iload (e_dx DX3_isNear_0 38 rfl),
  f_iaload (e_dx DX3_isNear_0 39 rfl),
  f_aload_n (n := 1) (e_dx DX3_isNear_1 0 rfl) rfl,
  f_getA (e_dx DX3_isNear_1 1 rfl) fX3_15 rfl (by decide) (Nat.le_of_ble_eq_true rfl) rfl (by decide),
  f_iload (e_dx DX3_isNear_1 2 rfl),
  f_iaload (e_dx DX3_isNear_1 3 rfl),
  x_callSN (e_dx DX3_isNear_1 4 rfl) mwX11_turn cX3_57 swX11_turn rfl,
  f_lconst (n := 0) (e_dx DX3_isNear_1 5 rfl) rfl,
  f_lif_ne (e_dx DX3_isNear_1 6 rfl) (e_dx DX3_isNear_1 7 rfl) rfl,
  f_aload_n (n := 0) (e_dx DX3_isNear_1 8 rfl) rfl,
  f_getA (e_dx DX3_isNear_1 9 rfl) fX3_9 rfl (by decide) (Nat.le_of_ble_eq_true rfl) rfl (by decide),
  f_iload_n (n := 2) (e_dx DX3_isNear_1 10 rfl) rfl,
  f_iaload (e_dx DX3_isNear_1 11 rfl),
  f_aload_n (n := 0) (e_dx DX3_isNear_1 12 rfl) rfl,
  f_getA (e_dx DX3_isNear_1 13 rfl) fX3_15 rfl (by decide) (Nat.le_of_ble_eq_true rfl) rfl (by decide),
  f_iload_n (n := 2) (e_dx DX3_isNear_1 14 rfl) rfl,
  f_iaload (e_dx DX3_isNear_1 15 rfl),
  f_aload_n (n := 0) (e_dx DX3_isNear_1 16 rfl) rfl,
  f_getA (e_dx DX3_isNear_1 17 rfl) fX3_9 rfl (by decide) (Nat.le_of_ble_eq_true rfl) rfl (by decide),
  f_iload_n (n := 3) (e_dx DX3_isNear_1 18 rfl) rfl,
  f_iaload (e_dx DX3_isNear_1 19 rfl),
  f_aload_n (n := 0) (e_dx DX3_isNear_1 20 rfl) rfl,
  f_getA (e_dx DX3_isNear_1 21 rfl) fX3_15 rfl (by decide) (Nat.le_of_ble_eq_true rfl) rfl (by decide),
  f_iload_n (n := 3) (e_dx DX3_isNear_1 22 rfl) rfl,
  f_iaload (e_dx DX3_isNear_1 23 rfl),
  f_aload_n (n := 1) (e_dx DX3_isNear_1 24 rfl) rfl,
  f_getA (e_dx DX3_isNear_1 25 rfl) fX3_9 rfl (by decide) (Nat.le_of_ble_eq_true rfl) rfl (by decide),
  f_iload (e_dx DX3_isNear_1 26 rfl),
  f_iaload (e_dx DX3_isNear_1 27 rfl),
  f_aload_n (n := 1) (e_dx DX3_isNear_1 28 rfl) rfl,
  f_getA (e_dx DX3_isNear_1 29 rfl) fX3_15 rfl (by decide) (Nat.le_of_ble_eq_true rfl) rfl (by decide),
  f_iload (e_dx DX3_isNear_1 30 rfl),
  f_iaload (e_dx DX3_isNear_1 31 rfl),
  x_callSN (e_dx DX3_isNear_1 32 rfl) mwX11_turn cX3_57 swX11_turn rfl,
  f_lconst (n := 0) (e_dx DX3_isNear_1 33 rfl) rfl,
  f_lif_ne (e_dx DX3_isNear_1 34 rfl) (e_dx DX3_isNear_1 35 rfl) rfl,
  f_iconst (e_dx DX3_isNear_1 36 rfl) ⟨by decide, by decide⟩,
  f_g19 (e_dx DX3_isNear_1 37 rfl) rfl,
  trivial,
  f_iconst (e_dx DX3_isNear_1 38 rfl) ⟨by decide, by decide⟩,
  trivial,
  f_istore (e_dx DX3_isNear_1 39 rfl) (by decide),
  f_iload (e_dx DX3_isNear_2 0 rfl),
  f_if_eq (e_dx DX3_isNear_2 1 rfl) rfl,
  f_aload_n (n := 0) (e_dx DX3_isNear_2 2 rfl) rfl,
  f_getA (e_dx DX3_isNear_2 3 rfl) fX3_9 rfl (by decide) (Nat.le_of_ble_eq_true rfl) rfl (by decide),
  f_iload_n (n := 2) (e_dx DX3_isNear_2 4 rfl) rfl,
  f_iaload (e_dx DX3_isNear_2 5 rfl),
  f_aload_n (n := 0) (e_dx DX3_isNear_2 6 rfl) rfl,
  f_getA (e_dx DX3_isNear_2 7 rfl) fX3_9 rfl (by decide) (Nat.le_of_ble_eq_true rfl) rfl (by decide),
  f_iload_n (n := 3) (e_dx DX3_isNear_2 8 rfl) rfl,
  f_iaload (e_dx DX3_isNear_2 9 rfl),
  f_aload_n (n := 1) (e_dx DX3_isNear_2 10 rfl) rfl,
  f_getA (e_dx DX3_isNear_2 11 rfl) fX3_9 rfl (by decide) (Nat.le_of_ble_eq_true rfl) rfl (by decide),
  f_iload (e_dx DX3_isNear_2 12 rfl),
  f_iaload (e_dx DX3_isNear_2 13 rfl),
  f_aload_n (n := 1) (e_dx DX3_isNear_2 14 rfl) rfl,
  f_getA (e_dx DX3_isNear_2 15 rfl) fX3_9 rfl (by decide) (Nat.le_of_ble_eq_true rfl) rfl (by decide),
  f_iload (e_dx DX3_isNear_2 16 rfl),
  f_iaload (e_dx DX3_isNear_2 17 rfl),
  x_callS (e_dx DX3_isNear_2 18 rfl) mwX3_overlap cX3_61 swX3_overlap rfl,
  f_if_ne (e_dx DX3_isNear_2 19 rfl) rfl,
  f_aload_n (n := 0) (e_dx DX3_isNear_2 20 rfl) rfl,
  f_getA (e_dx DX3_isNear_2 21 rfl) fX3_15 rfl (by decide) (Nat.le_of_ble_eq_true rfl) rfl (by decide),
  f_iload_n (n := 2) (e_dx DX3_isNear_2 22 rfl) rfl,
  f_iaload (e_dx DX3_isNear_2 23 rfl),
  f_aload_n (n := 0) (e_dx DX3_isNear_2 24 rfl) rfl,
  f_getA (e_dx DX3_isNear_2 25 rfl) fX3_15 rfl (by decide) (Nat.le_of_ble_eq_true rfl) rfl (by decide),
  f_iload_n (n := 3) (e_dx DX3_isNear_2 26 rfl) rfl,
  f_iaload (e_dx DX3_isNear_2 27 rfl),
  f_aload_n (n := 1) (e_dx DX3_isNear_2 28 rfl) rfl,
  f_getA (e_dx DX3_isNear_2 29 rfl) fX3_15 rfl (by decide) (Nat.le_of_ble_eq_true rfl) rfl (by decide),
  f_iload (e_dx DX3_isNear_2 30 rfl),
  f_iaload (e_dx DX3_isNear_2 31 rfl),
  f_aload_n (n := 1) (e_dx DX3_isNear_2 32 rfl) rfl,
  f_getA (e_dx DX3_isNear_2 33 rfl) fX3_15 rfl (by decide) (Nat.le_of_ble_eq_true rfl) rfl (by decide),
  f_iload (e_dx DX3_isNear_2 34 rfl),
  f_iaload (e_dx DX3_isNear_2 35 rfl),
  x_callS (e_dx DX3_isNear_2 36 rfl) mwX3_overlap cX3_61 swX3_overlap rfl,
  f_if_eq (e_dx DX3_isNear_2 37 rfl) rfl,
  f_iconst (e_dx DX3_isNear_2 38 rfl) ⟨by decide, by decide⟩,
  ⟨(e_dx DX3_isNear_2 39 rfl), rfl⟩,
  trivial,
  f_g8 (e_dx DX3_isNear_3 0 rfl) ⟨by decide, by decide⟩,
  f_g19 (e_dx DX3_isNear_3 1 rfl) rfl,
  f_g8 (e_dx DX3_isNear_3 2 rfl) ⟨by decide, by decide⟩,
  f_g19 (e_dx DX3_isNear_3 3 rfl) rfl,
  f_iconst (e_dx DX3_isNear_3 4 rfl) ⟨by decide, by decide⟩,
  ⟨(e_dx DX3_isNear_3 5 rfl), rfl⟩, trivial⟩
def lX3_isNear (c_X3_next : Nat → Int → e_M → (Int → Prop) → Prop) (c_X11_turn : Int → Int → Int → Int → Int → Int → e_M → (Int → Prop) → Prop) (c_X3_overlap : Int → Int → Int → Int → e_M → (Int → Prop) → Prop) : List (Nat × f_Wt) := [(0, f_wm [(3, 3, 3), (1, 0, 0)] (fun ar M R => c_X3_next (f_va (f_nth ar 0)) (f_vi (f_nth ar 1)) M (fun r => R (some (.inl r)) M))), (1, f_wm [(1, 0, 0), (1, 0, 0), (1, 0, 0), (1, 0, 0), (1, 0, 0), (1, 0, 0)] (fun ar M R => c_X11_turn (f_vi (f_nth ar 0)) (f_vi (f_nth ar 1)) (f_vi (f_nth ar 2)) (f_vi (f_nth ar 3)) (f_vi (f_nth ar 4)) (f_vi (f_nth ar 5)) M (fun r => R (some (.inr (.inl r))) M))), (2, f_wm [(1, 0, 0), (1, 0, 0), (1, 0, 0), (1, 0, 0)] (fun ar M R => c_X3_overlap (f_vi (f_nth ar 0)) (f_vi (f_nth ar 1)) (f_vi (f_nth ar 2)) (f_vi (f_nth ar 3)) M (fun r => R (some (.inl r)) M)))]
set_option maxRecDepth 20000 in
theorem BX3_isNear_2 {sh : Nat → Nat × Nat} {t : Nat} {rm : Nat × Nat × Nat} {cs : Nat × Nat} {R : f_Rt} {c_X3_next : Nat → Int → e_M → (Int → Prop) → Prop} {c_X11_turn : Int → Int → Int → Int → Int → Int → e_M → (Int → Prop) → Prop} {c_X3_overlap : Int → Int → Int → Int → e_M → (Int → Prop) → Prop} {k19 : Nat → Nat → Int → Int → Int → Prop} {a0 : Nat} {a1 : Nat} {x2 : Int} {M : e_M} (C : f_Hy sh t yX3_isNear rm cs 5 (lX3_isNear c_X3_next c_X11_turn c_X3_overlap) R) (h19 : ∀ (a0 : Nat) (a1 : Nat) (x2 : Int) (x3 : Int) (x4 : Int), k19 a0 a1 x2 x3 x4 → f_E sh t YX3_isNear rm cs (f_Q sh t R) 19 [.inr (.inr (.inl (3, 3, a0))), .inr (.inr (.inl (3, 3, a1))), .inl x2, .inl x3, .inl x4, .inr (.inr (.inr ())), .inr (.inr (.inr ()))] [] M) (h : VX3_isNear_2 c_X3_next c_X11_turn c_X3_overlap k19 (fun r => R (some (.inl r)) M) a0 a1 x2 M) : f_E sh t YX3_isNear rm cs (f_Q sh t R) 2 [.inr (.inr (.inl (3, 3, a0))), .inr (.inr (.inl (3, 3, a1))), .inl x2, .inr (.inr (.inr ())), .inr (.inr (.inr ())), .inr (.inr (.inr ())), .inr (.inr (.inr ()))] [] M := by
  rw [f_kk5 M k19] at h
  exact f_go (KC := f_kc [(19, f_pl [(3, 3, 3), (3, 3, 3), (1, 0, 0), (1, 0, 0), (1, 0, 0), (0, 0, 0), (0, 0, 0)] [] (fun ls st M2 => M2 = M ∧ (k19 (f_va (f_nth ls 0)) (f_va (f_nth ls 1)) (f_vi (f_nth ls 2)) (f_vi (f_nth ls 3)) (f_vi (f_nth ls 4)))))]) C qX3_isNearf (f_kc_cons (f_pl_ok rfl (fun ls st M2 ⟨e, hh⟩ => by subst e; exact h19 _ _ _ _ _ hh)) f_kc_nil) 131 3 h
set_option maxRecDepth 20000 in
theorem BX3_isNear_19 {sh : Nat → Nat × Nat} {t : Nat} {rm : Nat × Nat × Nat} {cs : Nat × Nat} {R : f_Rt} {c_X3_next : Nat → Int → e_M → (Int → Prop) → Prop} {c_X11_turn : Int → Int → Int → Int → Int → Int → e_M → (Int → Prop) → Prop} {c_X3_overlap : Int → Int → Int → Int → e_M → (Int → Prop) → Prop} {k2 : Nat → Nat → Int → Prop} {k132 : Nat → Nat → Int → Int → Int → Int → Prop} {k133 : Nat → Nat → Int → Int → Int → Int → Int → Prop} {a0 : Nat} {a1 : Nat} {x2 : Int} {x3 : Int} {x4 : Int} {M : e_M} (C : f_Hy sh t yX3_isNear rm cs 5 (lX3_isNear c_X3_next c_X11_turn c_X3_overlap) R) (h2 : ∀ (a0 : Nat) (a1 : Nat) (x2 : Int), k2 a0 a1 x2 → f_E sh t YX3_isNear rm cs (f_Q sh t R) 2 [.inr (.inr (.inl (3, 3, a0))), .inr (.inr (.inl (3, 3, a1))), .inl x2, .inr (.inr (.inr ())), .inr (.inr (.inr ())), .inr (.inr (.inr ())), .inr (.inr (.inr ()))] [] M) (h132 : ∀ (a0 : Nat) (a1 : Nat) (x2 : Int) (x3 : Int) (x4 : Int) (x5 : Int), k132 a0 a1 x2 x3 x4 x5 → f_E sh t YX3_isNear rm cs (f_Q sh t R) 132 [.inr (.inr (.inl (3, 3, a0))), .inr (.inr (.inl (3, 3, a1))), .inl x2, .inl x3, .inl x4, .inl x5, .inr (.inr (.inr ()))] [] M) (h133 : ∀ (a0 : Nat) (a1 : Nat) (x2 : Int) (x3 : Int) (x4 : Int) (x5 : Int) (xs0 : Int), k133 a0 a1 x2 x3 x4 x5 xs0 → f_E sh t YX3_isNear rm cs (f_Q sh t R) 133 [.inr (.inr (.inl (3, 3, a0))), .inr (.inr (.inl (3, 3, a1))), .inl x2, .inl x3, .inl x4, .inl x5, .inr (.inr (.inr ()))] [.inl xs0] M) (h : VX3_isNear_19 c_X3_next c_X11_turn c_X3_overlap k2 k132 k133 (fun r => R (some (.inl r)) M) a0 a1 x2 x3 x4 M) : f_E sh t YX3_isNear rm cs (f_Q sh t R) 19 [.inr (.inr (.inl (3, 3, a0))), .inr (.inr (.inl (3, 3, a1))), .inl x2, .inl x3, .inl x4, .inr (.inr (.inr ())), .inr (.inr (.inr ()))] [] M := by
  rw [f_kk3 M k2] at h
  rw [f_kk6 M k132] at h
  rw [f_kk7 M k133] at h
  exact f_go (KC := f_kc [(2, f_pl [(3, 3, 3), (3, 3, 3), (1, 0, 0), (0, 0, 0), (0, 0, 0), (0, 0, 0), (0, 0, 0)] [] (fun ls st M2 => M2 = M ∧ (k2 (f_va (f_nth ls 0)) (f_va (f_nth ls 1)) (f_vi (f_nth ls 2))))), (132, f_pl [(3, 3, 3), (3, 3, 3), (1, 0, 0), (1, 0, 0), (1, 0, 0), (1, 0, 0), (0, 0, 0)] [] (fun ls st M2 => M2 = M ∧ (k132 (f_va (f_nth ls 0)) (f_va (f_nth ls 1)) (f_vi (f_nth ls 2)) (f_vi (f_nth ls 3)) (f_vi (f_nth ls 4)) (f_vi (f_nth ls 5))))), (133, f_pl [(3, 3, 3), (3, 3, 3), (1, 0, 0), (1, 0, 0), (1, 0, 0), (1, 0, 0), (0, 0, 0)] [(1, 0, 0)] (fun ls st M2 => M2 = M ∧ (k133 (f_va (f_nth ls 0)) (f_va (f_nth ls 1)) (f_vi (f_nth ls 2)) (f_vi (f_nth ls 3)) (f_vi (f_nth ls 4)) (f_vi (f_nth ls 5)) (f_vi (f_nth st 0)))))]) C qX3_isNearf (f_kc_cons (f_pl_ok rfl (fun ls st M2 ⟨e, hh⟩ => by subst e; exact h2 _ _ _ hh)) (f_kc_cons (f_pl_ok rfl (fun ls st M2 ⟨e, hh⟩ => by subst e; exact h132 _ _ _ _ _ _ hh)) (f_kc_cons (f_pl_ok rfl (fun ls st M2 ⟨e, hh⟩ => by subst e; exact h133 _ _ _ _ _ _ _ hh)) f_kc_nil))) 131 14 h
set_option maxRecDepth 20000 in
theorem BX3_isNear_132 {sh : Nat → Nat × Nat} {t : Nat} {rm : Nat × Nat × Nat} {cs : Nat × Nat} {R : f_Rt} {c_X3_next : Nat → Int → e_M → (Int → Prop) → Prop} {c_X11_turn : Int → Int → Int → Int → Int → Int → e_M → (Int → Prop) → Prop} {c_X3_overlap : Int → Int → Int → Int → e_M → (Int → Prop) → Prop} {k133 : Nat → Nat → Int → Int → Int → Int → Int → Prop} {a0 : Nat} {a1 : Nat} {x2 : Int} {x3 : Int} {x4 : Int} {x5 : Int} {M : e_M} (C : f_Hy sh t yX3_isNear rm cs 5 (lX3_isNear c_X3_next c_X11_turn c_X3_overlap) R) (h133 : ∀ (a0 : Nat) (a1 : Nat) (x2 : Int) (x3 : Int) (x4 : Int) (x5 : Int) (xs0 : Int), k133 a0 a1 x2 x3 x4 x5 xs0 → f_E sh t YX3_isNear rm cs (f_Q sh t R) 133 [.inr (.inr (.inl (3, 3, a0))), .inr (.inr (.inl (3, 3, a1))), .inl x2, .inl x3, .inl x4, .inl x5, .inr (.inr (.inr ()))] [.inl xs0] M) (h : VX3_isNear_132 c_X3_next c_X11_turn c_X3_overlap k133 (fun r => R (some (.inl r)) M) a0 a1 x2 x3 x4 x5 M) : f_E sh t YX3_isNear rm cs (f_Q sh t R) 132 [.inr (.inr (.inl (3, 3, a0))), .inr (.inr (.inl (3, 3, a1))), .inl x2, .inl x3, .inl x4, .inl x5, .inr (.inr (.inr ()))] [] M := by
  rw [f_kk7 M k133] at h
  exact f_go (KC := f_kc [(133, f_pl [(3, 3, 3), (3, 3, 3), (1, 0, 0), (1, 0, 0), (1, 0, 0), (1, 0, 0), (0, 0, 0)] [(1, 0, 0)] (fun ls st M2 => M2 = M ∧ (k133 (f_va (f_nth ls 0)) (f_va (f_nth ls 1)) (f_vi (f_nth ls 2)) (f_vi (f_nth ls 3)) (f_vi (f_nth ls 4)) (f_vi (f_nth ls 5)) (f_vi (f_nth st 0)))))]) C qX3_isNearf (f_kc_cons (f_pl_ok rfl (fun ls st M2 ⟨e, hh⟩ => by subst e; exact h133 _ _ _ _ _ _ _ hh)) f_kc_nil) 131 79 h
set_option maxRecDepth 20000 in
theorem BX3_isNear_133 {sh : Nat → Nat × Nat} {t : Nat} {rm : Nat × Nat × Nat} {cs : Nat × Nat} {R : f_Rt} {c_X3_next : Nat → Int → e_M → (Int → Prop) → Prop} {c_X11_turn : Int → Int → Int → Int → Int → Int → e_M → (Int → Prop) → Prop} {c_X3_overlap : Int → Int → Int → Int → e_M → (Int → Prop) → Prop} {k206 : Nat → Nat → Int → Int → Int → Prop} {a0 : Nat} {a1 : Nat} {x2 : Int} {x3 : Int} {x4 : Int} {x5 : Int} {xs0 : Int} {M : e_M} (C : f_Hy sh t yX3_isNear rm cs 5 (lX3_isNear c_X3_next c_X11_turn c_X3_overlap) R) (h206 : ∀ (a0 : Nat) (a1 : Nat) (x2 : Int) (x3 : Int) (x4 : Int), k206 a0 a1 x2 x3 x4 → f_E sh t YX3_isNear rm cs (f_Q sh t R) 206 [.inr (.inr (.inl (3, 3, a0))), .inr (.inr (.inl (3, 3, a1))), .inl x2, .inl x3, .inl x4, .inr (.inr (.inr ())), .inr (.inr (.inr ()))] [] M) (h : VX3_isNear_133 c_X3_next c_X11_turn c_X3_overlap k206 (fun r => R (some (.inl r)) M) a0 a1 x2 x3 x4 x5 xs0 M) : f_E sh t YX3_isNear rm cs (f_Q sh t R) 133 [.inr (.inr (.inl (3, 3, a0))), .inr (.inr (.inl (3, 3, a1))), .inl x2, .inl x3, .inl x4, .inl x5, .inr (.inr (.inr ()))] [.inl xs0] M := by
  rw [f_kk5 M k206] at h
  exact f_go (KC := f_kc [(206, f_pl [(3, 3, 3), (3, 3, 3), (1, 0, 0), (1, 0, 0), (1, 0, 0), (0, 0, 0), (0, 0, 0)] [] (fun ls st M2 => M2 = M ∧ (k206 (f_va (f_nth ls 0)) (f_va (f_nth ls 1)) (f_vi (f_nth ls 2)) (f_vi (f_nth ls 3)) (f_vi (f_nth ls 4)))))]) C qX3_isNearf (f_kc_cons (f_pl_ok rfl (fun ls st M2 ⟨e, hh⟩ => by subst e; exact h206 _ _ _ _ _ hh)) f_kc_nil) 131 81 h
set_option maxRecDepth 20000 in
theorem BX3_isNear_206 {sh : Nat → Nat × Nat} {t : Nat} {rm : Nat × Nat × Nat} {cs : Nat × Nat} {R : f_Rt} {c_X3_next : Nat → Int → e_M → (Int → Prop) → Prop} {c_X11_turn : Int → Int → Int → Int → Int → Int → e_M → (Int → Prop) → Prop} {c_X3_overlap : Int → Int → Int → Int → e_M → (Int → Prop) → Prop} {k19 : Nat → Nat → Int → Int → Int → Prop} {a0 : Nat} {a1 : Nat} {x2 : Int} {x3 : Int} {x4 : Int} {M : e_M} (C : f_Hy sh t yX3_isNear rm cs 5 (lX3_isNear c_X3_next c_X11_turn c_X3_overlap) R) (h19 : ∀ (a0 : Nat) (a1 : Nat) (x2 : Int) (x3 : Int) (x4 : Int), k19 a0 a1 x2 x3 x4 → f_E sh t YX3_isNear rm cs (f_Q sh t R) 19 [.inr (.inr (.inl (3, 3, a0))), .inr (.inr (.inl (3, 3, a1))), .inl x2, .inl x3, .inl x4, .inr (.inr (.inr ())), .inr (.inr (.inr ()))] [] M) (h : VX3_isNear_206 c_X3_next c_X11_turn c_X3_overlap k19 (fun r => R (some (.inl r)) M) a0 a1 x2 x3 x4 M) : f_E sh t YX3_isNear rm cs (f_Q sh t R) 206 [.inr (.inr (.inl (3, 3, a0))), .inr (.inr (.inl (3, 3, a1))), .inl x2, .inl x3, .inl x4, .inr (.inr (.inr ())), .inr (.inr (.inr ()))] [] M := by
  rw [f_kk5 M k19] at h
  exact f_go (KC := f_kc [(19, f_pl [(3, 3, 3), (3, 3, 3), (1, 0, 0), (1, 0, 0), (1, 0, 0), (0, 0, 0), (0, 0, 0)] [] (fun ls st M2 => M2 = M ∧ (k19 (f_va (f_nth ls 0)) (f_va (f_nth ls 1)) (f_vi (f_nth ls 2)) (f_vi (f_nth ls 3)) (f_vi (f_nth ls 4)))))]) C qX3_isNearf (f_kc_cons (f_pl_ok rfl (fun ls st M2 ⟨e, hh⟩ => by subst e; exact h19 _ _ _ _ _ hh)) f_kc_nil) 131 123 h
set_option maxRecDepth 20000 in
theorem BX3_isNear {sh : Nat → Nat × Nat} {t : Nat} {rm : Nat × Nat × Nat} {cs : Nat × Nat} {R : f_Rt} {c_X3_next : Nat → Int → e_M → (Int → Prop) → Prop} {c_X11_turn : Int → Int → Int → Int → Int → Int → e_M → (Int → Prop) → Prop} {c_X3_overlap : Int → Int → Int → Int → e_M → (Int → Prop) → Prop} {k2 : Nat → Nat → Int → Prop} {a0 : Nat} {a1 : Nat} {M : e_M} (C : f_Hy sh t yX3_isNear rm cs 5 (lX3_isNear c_X3_next c_X11_turn c_X3_overlap) R) (h2 : ∀ (a0 : Nat) (a1 : Nat) (x2 : Int), k2 a0 a1 x2 → f_E sh t YX3_isNear rm cs (f_Q sh t R) 2 [.inr (.inr (.inl (3, 3, a0))), .inr (.inr (.inl (3, 3, a1))), .inl x2, .inr (.inr (.inr ())), .inr (.inr (.inr ())), .inr (.inr (.inr ())), .inr (.inr (.inr ()))] [] M) (h : VX3_isNear c_X3_next c_X11_turn c_X3_overlap k2 (fun r => R (some (.inl r)) M) a0 a1 M) : f_E sh t YX3_isNear rm cs (f_Q sh t R) 0 [.inr (.inr (.inl (3, 3, a0))), .inr (.inr (.inl (3, 3, a1))), .inr (.inr (.inr ())), .inr (.inr (.inr ())), .inr (.inr (.inr ())), .inr (.inr (.inr ())), .inr (.inr (.inr ()))] [] M := by
  rw [f_kk3 M k2] at h
  exact f_go (KC := f_kc [(2, f_pl [(3, 3, 3), (3, 3, 3), (1, 0, 0), (0, 0, 0), (0, 0, 0), (0, 0, 0), (0, 0, 0)] [] (fun ls st M2 => M2 = M ∧ (k2 (f_va (f_nth ls 0)) (f_va (f_nth ls 1)) (f_vi (f_nth ls 2)))))]) C qX3_isNearf (f_kc_cons (f_pl_ok rfl (fun ls st M2 ⟨e, hh⟩ => by subst e; exact h2 _ _ _ hh)) f_kc_nil) 131 0 h
def WX3_isNear_206 (M : e_M) (H2 : Nat → Nat → Int → Prop) (H19 : Nat → Nat → Int → Int → Int → Prop) (Q : Int → Prop) (a0 : Nat) (a1 : Nat) (x2 : Int) (x3 : Int) (x4 : Int) : Prop :=
  VX3_isNear_206 WX3_next WX11_turn WX3_overlap H19 Q a0 a1 x2 x3 x4 M
def WX3_isNear_133 (M : e_M) (H2 : Nat → Nat → Int → Prop) (H19 : Nat → Nat → Int → Int → Int → Prop) (Q : Int → Prop) (a0 : Nat) (a1 : Nat) (x2 : Int) (x3 : Int) (x4 : Int) (x5 : Int) (xs0 : Int) : Prop :=
  VX3_isNear_133 WX3_next WX11_turn WX3_overlap (WX3_isNear_206 M H2 H19 Q) Q a0 a1 x2 x3 x4 x5 xs0 M
def WX3_isNear_132 (M : e_M) (H2 : Nat → Nat → Int → Prop) (H19 : Nat → Nat → Int → Int → Int → Prop) (Q : Int → Prop) (a0 : Nat) (a1 : Nat) (x2 : Int) (x3 : Int) (x4 : Int) (x5 : Int) : Prop :=
  VX3_isNear_132 WX3_next WX11_turn WX3_overlap (WX3_isNear_133 M H2 H19 Q) Q a0 a1 x2 x3 x4 x5 M
def WX3_isNear_19 (M : e_M) (H2 : Nat → Nat → Int → Prop) (Q : Int → Prop) : Nat → Nat → Nat → Int → Int → Int → Prop
  | 0, _, _, _, _, _ => False
  | n + 1, a0, a1, x2, x3, x4 =>
    VX3_isNear_19 WX3_next WX11_turn WX3_overlap H2 (WX3_isNear_132 M H2 (WX3_isNear_19 M H2 Q n) Q) (WX3_isNear_133 M H2 (WX3_isNear_19 M H2 Q n) Q) Q a0 a1 x2 x3 x4 M
def WX3_isNear_2 (M : e_M) (Q : Int → Prop) : Nat → Nat → Nat → Int → Prop
  | 0, _, _, _ => False
  | n + 1, a0, a1, x2 =>
    VX3_isNear_2 WX3_next WX11_turn WX3_overlap (fun a0 a1 x2 x3 x4 => ∃ j, WX3_isNear_19 M (WX3_isNear_2 M Q n) Q j a0 a1 x2 x3 x4) Q a0 a1 x2 M
def WX3_isNear (a0 : Nat) (a1 : Nat) (M : e_M) (Q : Int → Prop) : Prop :=
  VX3_isNear WX3_next WX11_turn WX3_overlap (fun a0 a1 x2 => ∃ j, WX3_isNear_2 M Q j a0 a1 x2) Q a0 a1 M
theorem PX3_isNear_206 {sh : Nat → Nat × Nat} {t : Nat} {rm : Nat × Nat × Nat} {cs : Nat × Nat} {R : f_Rt} {H2 : Nat → Nat → Int → Prop} {H19 : Nat → Nat → Int → Int → Int → Prop} {a0 : Nat} {a1 : Nat} {x2 : Int} {x3 : Int} {x4 : Int} {M : e_M} (C : f_Hy sh t yX3_isNear rm cs 5 (lX3_isNear WX3_next WX11_turn WX3_overlap) R) (g2 : ∀ (a0 : Nat) (a1 : Nat) (x2 : Int), H2 a0 a1 x2 → f_E sh t YX3_isNear rm cs (f_Q sh t R) 2 [.inr (.inr (.inl (3, 3, a0))), .inr (.inr (.inl (3, 3, a1))), .inl x2, .inr (.inr (.inr ())), .inr (.inr (.inr ())), .inr (.inr (.inr ())), .inr (.inr (.inr ()))] [] M) (g19 : ∀ (a0 : Nat) (a1 : Nat) (x2 : Int) (x3 : Int) (x4 : Int), H19 a0 a1 x2 x3 x4 → f_E sh t YX3_isNear rm cs (f_Q sh t R) 19 [.inr (.inr (.inl (3, 3, a0))), .inr (.inr (.inl (3, 3, a1))), .inl x2, .inl x3, .inl x4, .inr (.inr (.inr ())), .inr (.inr (.inr ()))] [] M) (h : WX3_isNear_206 M H2 H19 (fun r => R (some (.inl r)) M) a0 a1 x2 x3 x4) : f_E sh t YX3_isNear rm cs (f_Q sh t R) 206 [.inr (.inr (.inl (3, 3, a0))), .inr (.inr (.inl (3, 3, a1))), .inl x2, .inl x3, .inl x4, .inr (.inr (.inr ())), .inr (.inr (.inr ()))] [] M :=
  BX3_isNear_206 C g19 h
theorem PX3_isNear_133 {sh : Nat → Nat × Nat} {t : Nat} {rm : Nat × Nat × Nat} {cs : Nat × Nat} {R : f_Rt} {H2 : Nat → Nat → Int → Prop} {H19 : Nat → Nat → Int → Int → Int → Prop} {a0 : Nat} {a1 : Nat} {x2 : Int} {x3 : Int} {x4 : Int} {x5 : Int} {xs0 : Int} {M : e_M} (C : f_Hy sh t yX3_isNear rm cs 5 (lX3_isNear WX3_next WX11_turn WX3_overlap) R) (g2 : ∀ (a0 : Nat) (a1 : Nat) (x2 : Int), H2 a0 a1 x2 → f_E sh t YX3_isNear rm cs (f_Q sh t R) 2 [.inr (.inr (.inl (3, 3, a0))), .inr (.inr (.inl (3, 3, a1))), .inl x2, .inr (.inr (.inr ())), .inr (.inr (.inr ())), .inr (.inr (.inr ())), .inr (.inr (.inr ()))] [] M) (g19 : ∀ (a0 : Nat) (a1 : Nat) (x2 : Int) (x3 : Int) (x4 : Int), H19 a0 a1 x2 x3 x4 → f_E sh t YX3_isNear rm cs (f_Q sh t R) 19 [.inr (.inr (.inl (3, 3, a0))), .inr (.inr (.inl (3, 3, a1))), .inl x2, .inl x3, .inl x4, .inr (.inr (.inr ())), .inr (.inr (.inr ()))] [] M) (h : WX3_isNear_133 M H2 H19 (fun r => R (some (.inl r)) M) a0 a1 x2 x3 x4 x5 xs0) : f_E sh t YX3_isNear rm cs (f_Q sh t R) 133 [.inr (.inr (.inl (3, 3, a0))), .inr (.inr (.inl (3, 3, a1))), .inl x2, .inl x3, .inl x4, .inl x5, .inr (.inr (.inr ()))] [.inl xs0] M :=
  BX3_isNear_133 C (fun a0 a1 x2 x3 x4 h => PX3_isNear_206 C g2 g19 h) h
theorem PX3_isNear_132 {sh : Nat → Nat × Nat} {t : Nat} {rm : Nat × Nat × Nat} {cs : Nat × Nat} {R : f_Rt} {H2 : Nat → Nat → Int → Prop} {H19 : Nat → Nat → Int → Int → Int → Prop} {a0 : Nat} {a1 : Nat} {x2 : Int} {x3 : Int} {x4 : Int} {x5 : Int} {M : e_M} (C : f_Hy sh t yX3_isNear rm cs 5 (lX3_isNear WX3_next WX11_turn WX3_overlap) R) (g2 : ∀ (a0 : Nat) (a1 : Nat) (x2 : Int), H2 a0 a1 x2 → f_E sh t YX3_isNear rm cs (f_Q sh t R) 2 [.inr (.inr (.inl (3, 3, a0))), .inr (.inr (.inl (3, 3, a1))), .inl x2, .inr (.inr (.inr ())), .inr (.inr (.inr ())), .inr (.inr (.inr ())), .inr (.inr (.inr ()))] [] M) (g19 : ∀ (a0 : Nat) (a1 : Nat) (x2 : Int) (x3 : Int) (x4 : Int), H19 a0 a1 x2 x3 x4 → f_E sh t YX3_isNear rm cs (f_Q sh t R) 19 [.inr (.inr (.inl (3, 3, a0))), .inr (.inr (.inl (3, 3, a1))), .inl x2, .inl x3, .inl x4, .inr (.inr (.inr ())), .inr (.inr (.inr ()))] [] M) (h : WX3_isNear_132 M H2 H19 (fun r => R (some (.inl r)) M) a0 a1 x2 x3 x4 x5) : f_E sh t YX3_isNear rm cs (f_Q sh t R) 132 [.inr (.inr (.inl (3, 3, a0))), .inr (.inr (.inl (3, 3, a1))), .inl x2, .inl x3, .inl x4, .inl x5, .inr (.inr (.inr ()))] [] M :=
  BX3_isNear_132 C (fun a0 a1 x2 x3 x4 x5 xs0 h => PX3_isNear_133 C g2 g19 h) h
theorem PX3_isNear_19 {sh : Nat → Nat × Nat} {t : Nat} {rm : Nat × Nat × Nat} {cs : Nat × Nat} {R : f_Rt} {H2 : Nat → Nat → Int → Prop} {M : e_M} (C : f_Hy sh t yX3_isNear rm cs 5 (lX3_isNear WX3_next WX11_turn WX3_overlap) R) (g2 : ∀ (a0 : Nat) (a1 : Nat) (x2 : Int), H2 a0 a1 x2 → f_E sh t YX3_isNear rm cs (f_Q sh t R) 2 [.inr (.inr (.inl (3, 3, a0))), .inr (.inr (.inl (3, 3, a1))), .inl x2, .inr (.inr (.inr ())), .inr (.inr (.inr ())), .inr (.inr (.inr ())), .inr (.inr (.inr ()))] [] M) : ∀ (n : Nat) (a0 : Nat) (a1 : Nat) (x2 : Int) (x3 : Int) (x4 : Int), WX3_isNear_19 M H2 (fun r => R (some (.inl r)) M) n a0 a1 x2 x3 x4 → f_E sh t YX3_isNear rm cs (f_Q sh t R) 19 [.inr (.inr (.inl (3, 3, a0))), .inr (.inr (.inl (3, 3, a1))), .inl x2, .inl x3, .inl x4, .inr (.inr (.inr ())), .inr (.inr (.inr ()))] [] M := by
  intro n
  induction n with
  | zero => intro a0 a1 x2 x3 x4 h; exact h.elim
  | succ n ih => intro a0 a1 x2 x3 x4 h; exact BX3_isNear_19 C g2 (fun a0 a1 x2 x3 x4 x5 h => PX3_isNear_132 C g2 ih h) (fun a0 a1 x2 x3 x4 x5 xs0 h => PX3_isNear_133 C g2 ih h) h
theorem PX3_isNear_2 {sh : Nat → Nat × Nat} {t : Nat} {rm : Nat × Nat × Nat} {cs : Nat × Nat} {R : f_Rt} {M : e_M} (C : f_Hy sh t yX3_isNear rm cs 5 (lX3_isNear WX3_next WX11_turn WX3_overlap) R) : ∀ (n : Nat) (a0 : Nat) (a1 : Nat) (x2 : Int), WX3_isNear_2 M (fun r => R (some (.inl r)) M) n a0 a1 x2 → f_E sh t YX3_isNear rm cs (f_Q sh t R) 2 [.inr (.inr (.inl (3, 3, a0))), .inr (.inr (.inl (3, 3, a1))), .inl x2, .inr (.inr (.inr ())), .inr (.inr (.inr ())), .inr (.inr (.inr ())), .inr (.inr (.inr ()))] [] M := by
  intro n
  induction n with
  | zero => intro a0 a1 x2 h; exact h.elim
  | succ n ih => intro a0 a1 x2 h; exact BX3_isNear_2 C (fun a0 a1 x2 x3 x4 ⟨j, h⟩ => PX3_isNear_19 C ih j _ _ _ _ _ h) h
theorem PX3_isNear {sh : Nat → Nat × Nat} {t : Nat} {rm : Nat × Nat × Nat} {cs : Nat × Nat} {R : f_Rt} {a0 : Nat} {a1 : Nat} {M : e_M} (C : f_Hy sh t yX3_isNear rm cs 5 (lX3_isNear WX3_next WX11_turn WX3_overlap) R) (h : WX3_isNear a0 a1 M (fun r => R (some (.inl r)) M)) : f_E sh t YX3_isNear rm cs (f_Q sh t R) 0 [.inr (.inr (.inl (3, 3, a0))), .inr (.inr (.inl (3, 3, a1))), .inr (.inr (.inr ())), .inr (.inr (.inr ())), .inr (.inr (.inr ())), .inr (.inr (.inr ())), .inr (.inr (.inr ()))] [] M :=
  BX3_isNear C (fun a0 a1 x2 ⟨j, h⟩ => PX3_isNear_2 C j _ _ _ h) h
def wX3_isNear : f_Wt := f_wm [(3, 3, 3), (3, 3, 3)] (fun ar M R => WX3_isNear (f_va (f_nth ar 0)) (f_va (f_nth ar 1)) M (fun r => R (some (.inl r)) M))
theorem TX3_isNear {sh : Nat → Nat × Nat} {t : Nat} : f_Mt sh t YX3_isNear 5 (wX3_isNear) :=
  f_Mt_of (k := 5) (Nat.le_of_ble_eq_true rfl) rfl rfl (fun ar M R rm cs h1 h2 h3 hX h => PX3_isNear ⟨Nat.le_of_ble_eq_true rfl, h1, h2, h3, ⟨(f_Mt.up (Nat.le_of_ble_eq_true rfl) TX3_next), (f_Mt.up (Nat.le_of_ble_eq_true rfl) TX11_turn), (f_Mt.up (Nat.le_of_ble_eq_true rfl) TX3_overlap), trivial⟩, hX⟩ h)
def VX1_isNearLot (c_X10_lot : Nat → Int → e_M → (Nat → Prop) → Prop) (c_X3_isNear : Nat → Nat → e_M → (Int → Prop) → Prop) (Q : Int → Prop) (x1 : Int) (x2 : Int) (x3 : Int) (M : e_M) : Prop :=
  ((x1 < 0 → (Q 0)) ∧ (0 ≤ x1 → (¬ (100 : Int) = 0 ∧ ((¬ (e_w32 (x1.tdiv 100)) = 0 → (Q 0)) ∧ ((e_w32 (x1.tdiv 100)) = 0 → ((¬ x2 = 0 → (Q 0)) ∧ (x2 = 0 → (¬ (100 : Int) = 0 ∧ ((¬ (x1.tmod 100) = x3 → (¬ (100 : Int) = 0 ∧ (c_X10_lot ((M 4452 3).toNat) (x1.tmod 100) M (fun r1 => ((¬ (M r1 1) = 0 → (Q 0)) ∧ ((M r1 1) = 0 → (c_X10_lot ((M 4452 3).toNat) x3 M (fun r2 => (c_X3_isNear (r2 + 1) (r1 + 1) M (fun r3 => ((r3 = 0 → (Q 0)) ∧ (¬ r3 = 0 → (Q 1))))))))))))) ∧ ((x1.tmod 100) = x3 → (Q 0)))))))))))
def yX1_isNearLot (i : Nat) : e_Y := x_get YX1_isNearLot [YX10_lot, YX3_isNear] i
def pX1_isNearLotf : List x_I := [(0, 2, 1, 1, 0, 0, []), (1, 17, 23, 2, 14, 0, []), (4, 2, 1, 1, 0, 0, []), (5, 0, 2, 0, 0, 100, []), (7, 9, 0, 3, 0, 0, []), (8, 17, 23, 1, 14, 0, []), (11, 2, 1, 2, 0, 0, []), (12, 17, 23, 1, 14, 0, []), (15, 2, 1, 1, 0, 0, []), (16, 0, 2, 0, 0, 100, []), (18, 9, 0, 4, 0, 0, []), (19, 2, 1, 3, 0, 0, []), (20, 18, 25, 1, 16, 0, []), (23, 0, 1, 0, 0, 0, []), (24, 48, 0, 0, 0, 0, []), (25, 4, 1, 0, 0, 0, []), (26, 25, 1, 3, 4, 0, [(0, 10, 15), (0, 0, 0)]), (29, 2, 1, 1, 0, 0, []), (30, 0, 2, 0, 0, 100, []), (32, 9, 0, 4, 0, 0, []), (33, 40, 0, 2, 12, 0, []), (36, 7, 2, 4, 0, 0, []), (38, 4, 2, 4, 0, 0, []), (40, 25, 4, 1, 1, 0, []), (43, 17, 72, 1, 37, 0, []), (46, 4, 1, 0, 0, 0, []), (47, 25, 1, 3, 4, 0, [(0, 10, 15), (0, 0, 0)]), (50, 2, 1, 3, 0, 0, []), (51, 40, 0, 2, 12, 0, []), (54, 25, 4, 3, 4, 0, [(0, 3, 3), (0, 1, 1)]), (57, 4, 2, 4, 0, 0, []), (59, 25, 4, 3, 4, 0, [(0, 3, 3), (0, 1, 1)]), (62, 40, 1, 2, 5, 0, []), (65, 17, 72, 0, 37, 0, []), (68, 0, 1, 0, 0, 1, []), (69, 19, 73, 0, 38, 0, []), (72, 0, 1, 0, 0, 0, []), (73, 48, 0, 0, 0, 0, [])]
set_option maxRecDepth 20000 in
theorem qX1_isNearLotf : f_all yX1_isNearLot YX1_isNearLot pX1_isNearLotf :=
  ⟨f_iload_n (n := 1) (e_dx DX1_isNearLot_0 0 rfl) rfl,
  f_if_lt (e_dx DX1_isNearLot_0 1 rfl) rfl,
  f_iload_n (n := 1) (e_dx DX1_isNearLot_0 2 rfl) rfl,
  f_bipush (e_dx DX1_isNearLot_0 3 rfl) ⟨by decide, by decide⟩,
  f_idiv (e_dx DX1_isNearLot_0 4 rfl),
  f_if_ne (e_dx DX1_isNearLot_0 5 rfl) rfl,
  f_iload_n (n := 2) (e_dx DX1_isNearLot_0 6 rfl) rfl,
  f_if_ne (e_dx DX1_isNearLot_0 7 rfl) rfl,
  f_iload_n (n := 1) (e_dx DX1_isNearLot_0 8 rfl) rfl,
  f_bipush (e_dx DX1_isNearLot_0 9 rfl) ⟨by decide, by decide⟩,
  f_irem (e_dx DX1_isNearLot_0 10 rfl),
  f_iload_n (n := 3) (e_dx DX1_isNearLot_0 11 rfl) rfl,
  f_icmp_ne (e_dx DX1_isNearLot_0 12 rfl) rfl,
  f_iconst (e_dx DX1_isNearLot_0 13 rfl) ⟨by decide, by decide⟩,
  ⟨(e_dx DX1_isNearLot_0 14 rfl), rfl⟩,
  f_aload_n (n := 0) (e_dx DX1_isNearLot_0 15 rfl) rfl,
  f_getA (e_dx DX1_isNearLot_0 16 rfl) fX1_31 rfl (by decide) (Nat.le_of_ble_eq_true rfl) rfl (by decide),
  f_iload_n (n := 1) (e_dx DX1_isNearLot_0 17 rfl) rfl,
  f_bipush (e_dx DX1_isNearLot_0 18 rfl) ⟨by decide, by decide⟩,
  f_irem (e_dx DX1_isNearLot_0 19 rfl),
  x_callV (e_dx DX1_isNearLot_0 20 rfl) mwX10_lot vwX10_lot cX1_139 rfl,
  f_astore (e_dx DX1_isNearLot_0 21 rfl) (by decide),
  f_aload (e_dx DX1_isNearLot_0 22 rfl),
  f_getf (e_dx DX1_isNearLot_0 23 rfl) fX1_194 rfl (by decide) (by decide) (by decide),
  f_if_ne (e_dx DX1_isNearLot_0 24 rfl) rfl,
  f_aload_n (n := 0) (e_dx DX1_isNearLot_0 25 rfl) rfl,
  f_getA (e_dx DX1_isNearLot_0 26 rfl) fX1_31 rfl (by decide) (Nat.le_of_ble_eq_true rfl) rfl (by decide),
  f_iload_n (n := 3) (e_dx DX1_isNearLot_0 27 rfl) rfl,
  x_callV (e_dx DX1_isNearLot_0 28 rfl) mwX10_lot vwX10_lot cX1_139 rfl,
  f_getA (e_dx DX1_isNearLot_0 29 rfl) fX1_198 rfl (by decide) (Nat.le_of_ble_eq_true rfl) rfl (by decide),
  f_aload (e_dx DX1_isNearLot_0 30 rfl),
  f_getA (e_dx DX1_isNearLot_0 31 rfl) fX1_198 rfl (by decide) (Nat.le_of_ble_eq_true rfl) rfl (by decide),
  x_callV (e_dx DX1_isNearLot_0 32 rfl) mwX3_isNear vwX3_isNear cX1_202 rfl,
  f_if_eq (e_dx DX1_isNearLot_0 33 rfl) rfl,
  f_iconst (e_dx DX1_isNearLot_0 34 rfl) ⟨by decide, by decide⟩,
  f_g19 (e_dx DX1_isNearLot_0 35 rfl) rfl,
  f_iconst (e_dx DX1_isNearLot_0 36 rfl) ⟨by decide, by decide⟩,
  ⟨(e_dx DX1_isNearLot_0 37 rfl), rfl⟩, trivial⟩
def lX1_isNearLot (c_X10_lot : Nat → Int → e_M → (Nat → Prop) → Prop) (c_X3_isNear : Nat → Nat → e_M → (Int → Prop) → Prop) : List (Nat × f_Wt) := [(0, f_wm [(3, 10, 15), (1, 0, 0)] (fun ar M R => c_X10_lot (f_va (f_nth ar 0)) (f_vi (f_nth ar 1)) M (fun r => R (some (.inr (.inr (.inl (4, 9, r))))) M))), (1, f_wm [(3, 3, 3), (3, 3, 3)] (fun ar M R => c_X3_isNear (f_va (f_nth ar 0)) (f_va (f_nth ar 1)) M (fun r => R (some (.inl r)) M)))]
set_option maxRecDepth 20000 in
theorem BX1_isNearLot {sh : Nat → Nat × Nat} {t : Nat} {rm : Nat × Nat × Nat} {cs : Nat × Nat} {R : f_Rt} {c_X10_lot : Nat → Int → e_M → (Nat → Prop) → Prop} {c_X3_isNear : Nat → Nat → e_M → (Int → Prop) → Prop} {x1 : Int} {x2 : Int} {x3 : Int} {M : e_M} (C : f_Hy sh t yX1_isNearLot rm cs 6 (lX1_isNearLot c_X10_lot c_X3_isNear) R) (h : VX1_isNearLot c_X10_lot c_X3_isNear (fun r => R (some (.inl r)) M) x1 x2 x3 M) : f_E sh t YX1_isNearLot rm cs (f_Q sh t R) 0 [.inr (.inr (.inl (1, 7, 4452))), .inl x1, .inl x2, .inl x3, .inr (.inr (.inr ()))] [] M :=
  f_go (KC := f_kc []) C qX1_isNearLotf f_kc_nil 40 0 h
def WX1_isNearLot (x1 : Int) (x2 : Int) (x3 : Int) (M : e_M) (Q : Int → Prop) : Prop :=
  VX1_isNearLot WX10_lot WX3_isNear Q x1 x2 x3 M
theorem PX1_isNearLot {sh : Nat → Nat × Nat} {t : Nat} {rm : Nat × Nat × Nat} {cs : Nat × Nat} {R : f_Rt} {x1 : Int} {x2 : Int} {x3 : Int} {M : e_M} (C : f_Hy sh t yX1_isNearLot rm cs 6 (lX1_isNearLot WX10_lot WX3_isNear) R) (h : WX1_isNearLot x1 x2 x3 M (fun r => R (some (.inl r)) M)) : f_E sh t YX1_isNearLot rm cs (f_Q sh t R) 0 [.inr (.inr (.inl (1, 7, 4452))), .inl x1, .inl x2, .inl x3, .inr (.inr (.inr ()))] [] M :=
  BX1_isNearLot C h
def wX1_isNearLot : f_Wt := f_wm [(4462, 1, 7), (1, 0, 0), (1, 0, 0), (1, 0, 0)] (fun ar M R => WX1_isNearLot (f_vi (f_nth ar 1)) (f_vi (f_nth ar 2)) (f_vi (f_nth ar 3)) M (fun r => R (some (.inl r)) M))
theorem TX1_isNearLot {sh : Nat → Nat × Nat} {t : Nat} : f_Mt sh t YX1_isNearLot 6 (wX1_isNearLot) :=
  f_Mt_of (k := 1) (Nat.le_of_ble_eq_true rfl) rfl rfl (fun ar M R rm cs h1 h2 h3 hX h => PX1_isNearLot ⟨Nat.le_of_ble_eq_true rfl, h1, h2, h3, ⟨(f_Mt.up (Nat.le_of_ble_eq_true rfl) TX10_lot), (f_Mt.up (Nat.le_of_ble_eq_true rfl) TX3_isNear), trivial⟩, hX⟩ h)
