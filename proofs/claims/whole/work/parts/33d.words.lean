/-! methods as words over the memory, part 33d -/
def VX1_hasPoint (c_X3_where : Nat → Int → Int → Int → e_M → (Int → Prop) → Prop) (Q : Int → Prop) (a0 : Nat) (x1 : Int) (M : e_M) : Prop :=
  (¬ (1000000 : Int) = 0 ∧ (¬ (1000000 : Int) = 0 ∧ (c_X3_where (a0 + 1) (e_w64 (x1.tdiv 1000000)) (x1.tmod 1000000) 1 M (fun r1 => ((r1 = 0 → (Q 0)) ∧ (¬ r1 = 0 → (Q 1)))))))
def yX1_hasPoint (i : Nat) : e_Y := x_get YX1_hasPoint [YX3_where] i
def pX1_hasPointf : List x_I := [(0, 4, 1, 0, 0, 0, []), (1, 25, 4, 3, 4, 0, [(0, 3, 3), (0, 1, 1)]), (4, 3, 1, 1, 0, 0, []), (5, 1, 3, 0, 0, 1000000, []), (8, 10, 0, 3, 0, 0, []), (9, 3, 1, 1, 0, 0, []), (10, 1, 3, 0, 0, 1000000, []), (13, 10, 0, 4, 0, 0, []), (14, 0, 1, 0, 0, 1, []), (15, 40, 0, 4, 5, 0, []), (18, 17, 25, 0, 14, 0, []), (21, 0, 1, 0, 0, 1, []), (22, 19, 26, 0, 15, 0, []), (25, 0, 1, 0, 0, 0, []), (26, 48, 0, 0, 0, 0, [])]
set_option maxRecDepth 20000 in
theorem qX1_hasPointf : f_all yX1_hasPoint YX1_hasPoint pX1_hasPointf :=
  ⟨f_aload_n (n := 0) (e_dx DX1_hasPoint_0 0 rfl) rfl,
  f_getA (e_dx DX1_hasPoint_0 1 rfl) fX1_198 rfl (by decide) (Nat.le_of_ble_eq_true rfl) rfl (by decide),
  f_lload_n (n := 1) (e_dx DX1_hasPoint_0 2 rfl) rfl,
  f_ldc2 (e_dx DX1_hasPoint_0 3 rfl) hX1_208 rfl ⟨by decide, by decide⟩,
  f_ldiv (e_dx DX1_hasPoint_0 4 rfl),
  f_lload_n (n := 1) (e_dx DX1_hasPoint_0 5 rfl) rfl,
  f_ldc2 (e_dx DX1_hasPoint_0 6 rfl) hX1_208 rfl ⟨by decide, by decide⟩,
  f_lrem (e_dx DX1_hasPoint_0 7 rfl),
  f_iconst (e_dx DX1_hasPoint_0 8 rfl) ⟨by decide, by decide⟩,
  x_callV (e_dx DX1_hasPoint_0 9 rfl) mwX3_where vwX3_where cX1_210 rfl,
  f_if_eq (e_dx DX1_hasPoint_0 10 rfl) rfl,
  f_iconst (e_dx DX1_hasPoint_0 11 rfl) ⟨by decide, by decide⟩,
  f_g19 (e_dx DX1_hasPoint_0 12 rfl) rfl,
  f_iconst (e_dx DX1_hasPoint_0 13 rfl) ⟨by decide, by decide⟩,
  ⟨(e_dx DX1_hasPoint_0 14 rfl), rfl⟩, trivial⟩
def lX1_hasPoint (c_X3_where : Nat → Int → Int → Int → e_M → (Int → Prop) → Prop) : List (Nat × f_Wt) := [(0, f_wm [(3, 3, 3), (2, 0, 0), (2, 0, 0), (1, 0, 0)] (fun ar M R => c_X3_where (f_va (f_nth ar 0)) (f_vi (f_nth ar 1)) (f_vi (f_nth ar 2)) (f_vi (f_nth ar 3)) M (fun r => R (some (.inl r)) M)))]
set_option maxRecDepth 20000 in
theorem BX1_hasPoint {sh : Nat → Nat × Nat} {t : Nat} {rm : Nat × Nat × Nat} {cs : Nat × Nat} {R : f_Rt} {c_X3_where : Nat → Int → Int → Int → e_M → (Int → Prop) → Prop} {a0 : Nat} {x1 : Int} {M : e_M} (C : f_Hy sh t yX1_hasPoint rm cs 6 (lX1_hasPoint c_X3_where) R) (h : VX1_hasPoint c_X3_where (fun r => R (some (.inl r)) M) a0 x1 M) : f_E sh t YX1_hasPoint rm cs (f_Q sh t R) 0 [.inr (.inr (.inl (4, 9, a0))), .inr (.inl x1), .inr (.inr (.inr ()))] [] M :=
  f_go (KC := f_kc []) C qX1_hasPointf f_kc_nil 17 0 h
def WX1_hasPoint (a0 : Nat) (x1 : Int) (M : e_M) (Q : Int → Prop) : Prop :=
  VX1_hasPoint WX3_where Q a0 x1 M
theorem PX1_hasPoint {sh : Nat → Nat × Nat} {t : Nat} {rm : Nat × Nat × Nat} {cs : Nat × Nat} {R : f_Rt} {a0 : Nat} {x1 : Int} {M : e_M} (C : f_Hy sh t yX1_hasPoint rm cs 6 (lX1_hasPoint WX3_where) R) (h : WX1_hasPoint a0 x1 M (fun r => R (some (.inl r)) M)) : f_E sh t YX1_hasPoint rm cs (f_Q sh t R) 0 [.inr (.inr (.inl (4, 9, a0))), .inr (.inl x1), .inr (.inr (.inr ()))] [] M :=
  BX1_hasPoint C h
def wX1_hasPoint : f_Wt := f_wm [(3, 4, 9), (2, 0, 0)] (fun ar M R => WX1_hasPoint (f_va (f_nth ar 0)) (f_vi (f_nth ar 1)) M (fun r => R (some (.inl r)) M))
theorem TX1_hasPoint {sh : Nat → Nat × Nat} {t : Nat} : f_Mt sh t YX1_hasPoint 6 (wX1_hasPoint) :=
  f_Mt_of (k := 0) (Nat.le_of_ble_eq_true rfl) rfl rfl (fun ar M R rm cs h1 h2 h3 hX h => PX1_hasPoint ⟨Nat.le_of_ble_eq_true rfl, h1, h2, h3, ⟨(f_Mt.up (Nat.le_of_ble_eq_true rfl) TX3_where), trivial⟩, hX⟩ h)
def VX1_look_27 (c_X10_lot : Nat → Int → e_M → (Nat → Prop) → Prop) (c_X1_factOfLot : Int → Nat → e_M → (Int → Prop) → Prop) (c_X1_factOf : Int → Int → Int → e_M → (Int → Prop) → Prop) (c_X1_isOwner : Int → Int → Int → e_M → (Int → Prop) → Prop) (c_X1_isOnLot : Int → Int → Int → e_M → (Int → Prop) → Prop) (c_X1_isNearLot : Int → Int → Int → e_M → (Int → Prop) → Prop) (c_X1_hasPoint : Nat → Int → e_M → (Int → Prop) → Prop) (c_X10_isOfAge : Nat → Int → e_M → (Int → Prop) → Prop) (Q : Int → Prop) (x2 : Int) (x3 : Int) (x4 : Int) (M : e_M) : Prop :=
  ((¬ x2 = 0 → (c_X1_factOf x4 x2 x3 M (fun r1 => (Q r1)))) ∧ (x2 = 0 → (c_X10_lot ((M 4452 3).toNat) x3 M (fun r2 => (c_X1_factOfLot x4 r2 M (fun r3 => (Q r3)))))))
def VX1_look_179 (c_X10_lot : Nat → Int → e_M → (Nat → Prop) → Prop) (c_X1_factOfLot : Int → Nat → e_M → (Int → Prop) → Prop) (c_X1_factOf : Int → Int → Int → e_M → (Int → Prop) → Prop) (c_X1_isOwner : Int → Int → Int → e_M → (Int → Prop) → Prop) (c_X1_isOnLot : Int → Int → Int → e_M → (Int → Prop) → Prop) (c_X1_isNearLot : Int → Int → Int → e_M → (Int → Prop) → Prop) (c_X1_hasPoint : Nat → Int → e_M → (Int → Prop) → Prop) (c_X10_isOfAge : Nat → Int → e_M → (Int → Prop) → Prop) (k244 : Int → Prop) (Q : Int → Prop) (xs0 : Int) (M : e_M) : Prop :=
  (k244 xs0)
def VX1_look_215 (c_X10_lot : Nat → Int → e_M → (Nat → Prop) → Prop) (c_X1_factOfLot : Int → Nat → e_M → (Int → Prop) → Prop) (c_X1_factOf : Int → Int → Int → e_M → (Int → Prop) → Prop) (c_X1_isOwner : Int → Int → Int → e_M → (Int → Prop) → Prop) (c_X1_isOnLot : Int → Int → Int → e_M → (Int → Prop) → Prop) (c_X1_isNearLot : Int → Int → Int → e_M → (Int → Prop) → Prop) (c_X1_hasPoint : Nat → Int → e_M → (Int → Prop) → Prop) (c_X10_isOfAge : Nat → Int → e_M → (Int → Prop) → Prop) (k216 : Int → Prop) (Q : Int → Prop) (M : e_M) : Prop :=
  (k216 0)
def VX1_look_216 (c_X10_lot : Nat → Int → e_M → (Nat → Prop) → Prop) (c_X1_factOfLot : Int → Nat → e_M → (Int → Prop) → Prop) (c_X1_factOf : Int → Int → Int → e_M → (Int → Prop) → Prop) (c_X1_isOwner : Int → Int → Int → e_M → (Int → Prop) → Prop) (c_X1_isOnLot : Int → Int → Int → e_M → (Int → Prop) → Prop) (c_X1_isNearLot : Int → Int → Int → e_M → (Int → Prop) → Prop) (c_X1_hasPoint : Nat → Int → e_M → (Int → Prop) → Prop) (c_X10_isOfAge : Nat → Int → e_M → (Int → Prop) → Prop) (k244 : Int → Prop) (Q : Int → Prop) (xs0 : Int) (M : e_M) : Prop :=
  (k244 xs0)
def VX1_look_241 (c_X10_lot : Nat → Int → e_M → (Nat → Prop) → Prop) (c_X1_factOfLot : Int → Nat → e_M → (Int → Prop) → Prop) (c_X1_factOf : Int → Int → Int → e_M → (Int → Prop) → Prop) (c_X1_isOwner : Int → Int → Int → e_M → (Int → Prop) → Prop) (c_X1_isOnLot : Int → Int → Int → e_M → (Int → Prop) → Prop) (c_X1_isNearLot : Int → Int → Int → e_M → (Int → Prop) → Prop) (c_X1_hasPoint : Nat → Int → e_M → (Int → Prop) → Prop) (c_X10_isOfAge : Nat → Int → e_M → (Int → Prop) → Prop) (k242 : Int → Prop) (Q : Int → Prop) (M : e_M) : Prop :=
  (k242 0)
def VX1_look_242 (c_X10_lot : Nat → Int → e_M → (Nat → Prop) → Prop) (c_X1_factOfLot : Int → Nat → e_M → (Int → Prop) → Prop) (c_X1_factOf : Int → Int → Int → e_M → (Int → Prop) → Prop) (c_X1_isOwner : Int → Int → Int → e_M → (Int → Prop) → Prop) (c_X1_isOnLot : Int → Int → Int → e_M → (Int → Prop) → Prop) (c_X1_isNearLot : Int → Int → Int → e_M → (Int → Prop) → Prop) (c_X1_hasPoint : Nat → Int → e_M → (Int → Prop) → Prop) (c_X10_isOfAge : Nat → Int → e_M → (Int → Prop) → Prop) (k244 : Int → Prop) (Q : Int → Prop) (xs0 : Int) (M : e_M) : Prop :=
  (k244 xs0)
def VX1_look_244 (c_X10_lot : Nat → Int → e_M → (Nat → Prop) → Prop) (c_X1_factOfLot : Int → Nat → e_M → (Int → Prop) → Prop) (c_X1_factOf : Int → Int → Int → e_M → (Int → Prop) → Prop) (c_X1_isOwner : Int → Int → Int → e_M → (Int → Prop) → Prop) (c_X1_isOnLot : Int → Int → Int → e_M → (Int → Prop) → Prop) (c_X1_isNearLot : Int → Int → Int → e_M → (Int → Prop) → Prop) (c_X1_hasPoint : Nat → Int → e_M → (Int → Prop) → Prop) (c_X10_isOfAge : Nat → Int → e_M → (Int → Prop) → Prop) (Q : Int → Prop) (x5 : Int) (M : e_M) : Prop :=
  ((x5 = 0 → (Q 0)) ∧ (¬ x5 = 0 → (Q 1)))
def VX1_look (c_X10_lot : Nat → Int → e_M → (Nat → Prop) → Prop) (c_X1_factOfLot : Int → Nat → e_M → (Int → Prop) → Prop) (c_X1_factOf : Int → Int → Int → e_M → (Int → Prop) → Prop) (c_X1_isOwner : Int → Int → Int → e_M → (Int → Prop) → Prop) (c_X1_isOnLot : Int → Int → Int → e_M → (Int → Prop) → Prop) (c_X1_isNearLot : Int → Int → Int → e_M → (Int → Prop) → Prop) (c_X1_hasPoint : Nat → Int → e_M → (Int → Prop) → Prop) (c_X10_isOfAge : Nat → Int → e_M → (Int → Prop) → Prop) (k27 : Int → Int → Int → Prop) (k241 : Prop) (k242 : Int → Prop) (k215 : Prop) (k216 : Int → Prop) (k179 : Int → Prop) (k244 : Int → Prop) (Q : Int → Prop) (x1 : Int) (x2 : Int) (x3 : Int) (M : e_M) : Prop :=
  ((0 ≤ x1 ∧ x1 < 640) ∧ ((262 ≤ (M 23 (x1.toNat)) → (k27 x2 x3 (M 23 (x1.toNat)))) ∧ ((M 23 (x1.toNat)) < 262 → ((¬ (M 23 (x1.toNat)) = 246 → (((M 23 (x1.toNat)) = 224 → ((0 ≤ x1 ∧ x1 < 640) ∧ (c_X1_isOnLot (M 4454 (x1.toNat)) x2 x3 M (fun r6 => (k244 r6))))) ∧ (¬ (M 23 (x1.toNat)) = 224 → (((M 23 (x1.toNat)) = 257 → ((0 ≤ x1 ∧ x1 < 640) ∧ (c_X1_isOwner (M 4454 (x1.toNat)) x2 x3 M (fun r5 => (k244 r5))))) ∧ (¬ (M 23 (x1.toNat)) = 257 → (((M 23 (x1.toNat)) = 258 → ((0 ≤ x1 ∧ x1 < 640) ∧ (c_X1_isNearLot (M 4454 (x1.toNat)) x2 x3 M (fun r4 => (k244 r4))))) ∧ (¬ (M 23 (x1.toNat)) = 258 → (((M 23 (x1.toNat)) = 259 → ((0 ≤ x1 ∧ x1 < 640) ∧ ((¬ (M 4454 (x1.toNat)) = (e_w32 ((e_w32 (x2 * 100)) + x3)) → (k179 0)) ∧ ((M 4454 (x1.toNat)) = (e_w32 ((e_w32 (x2 * 100)) + x3)) → (k179 1))))) ∧ (¬ (M 23 (x1.toNat)) = 259 → (((M 23 (x1.toNat)) = 260 → ((¬ x2 = 0 → (k215)) ∧ (x2 = 0 → (c_X10_lot ((M 4452 3).toNat) x3 M (fun r2 => ((0 ≤ x1 ∧ x1 < 640) ∧ (c_X1_hasPoint r2 (M 24 (x1.toNat)) M (fun r3 => ((r3 = 0 → (k215)) ∧ (¬ r3 = 0 → (k216 1))))))))))) ∧ (¬ (M 23 (x1.toNat)) = 260 → ((¬ x2 = 1 → (k241)) ∧ (x2 = 1 → (c_X10_isOfAge ((M 4452 3).toNat) x3 M (fun r1 => ((r1 = 0 → (k241)) ∧ (¬ r1 = 0 → (k242 1)))))))))))))))))) ∧ ((M 23 (x1.toNat)) = 246 → (k27 x2 x3 (M 23 (x1.toNat))))))))
def yX1_look (i : Nat) : e_Y := x_get YX1_look [YX10_lot, YX1_factOfLot, YX1_factOf, YX1_isOwner, YX1_isOnLot, YX1_isNearLot, YX1_hasPoint, YX10_isOfAge] i
def pX1_lookf : List x_I := [(0, 4, 1, 0, 0, 0, []), (1, 25, 1, 4, 4, 0, [(0, 6, 11), (0, 2, 22)]), (4, 25, 6, 6, 4, 0, [(0, 20, 640), (0, 1, 1)]), (7, 2, 1, 1, 0, 0, []), (8, 27, 0, 0, 0, 0, []), (9, 5, 2, 4, 0, 0, []), (11, 2, 2, 4, 0, 0, []), (13, 0, 3, 0, 0, 262, []), (16, 18, 27, 3, 13, 0, []), (19, 2, 2, 4, 0, 0, []), (21, 0, 3, 0, 0, 246, []), (24, 18, 57, 1, 30, 0, []), (27, 49, 0, 0, 0, 0, []), (27, 2, 1, 2, 0, 0, []), (28, 17, 48, 1, 24, 0, []), (31, 4, 1, 0, 0, 0, []), (32, 2, 2, 4, 0, 0, []), (34, 4, 1, 0, 0, 0, []), (35, 25, 1, 3, 4, 0, [(0, 10, 15), (0, 0, 0)]), (38, 2, 1, 3, 0, 0, []), (39, 40, 0, 2, 12, 0, []), (42, 40, 1, 3, 3, 0, []), (45, 19, 56, 0, 29, 0, []), (48, 4, 1, 0, 0, 0, []), (49, 2, 2, 4, 0, 0, []), (51, 2, 1, 2, 0, 0, []), (52, 2, 1, 3, 0, 0, []), (53, 40, 2, 4, 3, 0, []), (56, 43, 0, 0, 0, 0, []), (57, 2, 2, 4, 0, 0, []), (59, 24, 221, 0, 98, 0, [(224, 125, 42), (257, 108, 32), (258, 142, 52), (259, 159, 62), (260, 184, 78)]), (108, 4, 1, 0, 0, 0, []), (109, 4, 1, 0, 0, 0, []), (110, 25, 1, 5, 4, 0, [(0, 20, 640), (0, 1, 2)]), (113, 2, 1, 1, 0, 0, []), (114, 27, 0, 0, 0, 0, []), (115, 2, 1, 2, 0, 0, []), (116, 2, 1, 3, 0, 0, []), (117, 40, 3, 4, 3, 0, []), (120, 5, 2, 5, 0, 0, []), (122, 19, 244, 0, 112, 0, []), (125, 4, 1, 0, 0, 0, []), (126, 4, 1, 0, 0, 0, []), (127, 25, 1, 5, 4, 0, [(0, 20, 640), (0, 1, 2)]), (130, 2, 1, 1, 0, 0, []), (131, 27, 0, 0, 0, 0, []), (132, 2, 1, 2, 0, 0, []), (133, 2, 1, 3, 0, 0, []), (134, 40, 4, 4, 3, 0, []), (137, 5, 2, 5, 0, 0, []), (139, 19, 244, 0, 112, 0, []), (142, 4, 1, 0, 0, 0, []), (143, 4, 1, 0, 0, 0, []), (144, 25, 1, 5, 4, 0, [(0, 20, 640), (0, 1, 2)]), (147, 2, 1, 1, 0, 0, []), (148, 27, 0, 0, 0, 0, []), (149, 2, 1, 2, 0, 0, []), (150, 2, 1, 3, 0, 0, []), (151, 40, 5, 4, 3, 0, []), (154, 5, 2, 5, 0, 0, []), (156, 19, 244, 0, 112, 0, []), (159, 4, 1, 0, 0, 0, []), (160, 25, 1, 5, 4, 0, [(0, 20, 640), (0, 1, 2)]), (163, 2, 1, 1, 0, 0, []), (164, 27, 0, 0, 0, 0, []), (165, 2, 1, 2, 0, 0, []), (166, 0, 2, 0, 0, 100, []), (168, 9, 0, 2, 0, 0, []), (169, 2, 1, 3, 0, 0, []), (170, 9, 0, 0, 0, 0, []), (171, 18, 178, 1, 74, 0, []), (174, 0, 1, 0, 0, 1, []), (175, 19, 179, 0, 75, 0, []), (178, 0, 1, 0, 0, 0, []), (179, 49, 0, 0, 0, 0, []), (179, 5, 2, 5, 0, 0, []), (181, 19, 244, 0, 112, 0, []), (184, 2, 1, 2, 0, 0, []), (185, 17, 215, 1, 93, 0, []), (188, 4, 1, 0, 0, 0, []), (189, 25, 1, 3, 4, 0, [(0, 10, 15), (0, 0, 0)]), (192, 2, 1, 3, 0, 0, []), (193, 40, 0, 2, 12, 0, []), (196, 4, 1, 0, 0, 0, []), (197, 25, 1, 4, 4, 0, [(0, 6, 11), (0, 2, 22)]), (200, 25, 6, 7, 4, 0, [(0, 23, 640), (0, 1, 2)]), (203, 2, 1, 1, 0, 0, []), (204, 27, 0, 1, 0, 0, []), (205, 40, 6, 2, 0, 0, []), (208, 17, 215, 0, 93, 0, []), (211, 0, 1, 0, 0, 1, []), (212, 19, 216, 0, 95, 0, []), (215, 49, 0, 0, 0, 0, []), (215, 0, 1, 0, 0, 0, []), (216, 49, 0, 0, 0, 0, []), (216, 5, 2, 5, 0, 0, []), (218, 19, 244, 0, 112, 0, []), (221, 2, 1, 2, 0, 0, []), (222, 0, 1, 0, 0, 1, []), (223, 18, 241, 1, 108, 0, []), (226, 4, 1, 0, 0, 0, []), (227, 25, 1, 3, 4, 0, [(0, 10, 15), (0, 0, 0)]), (230, 2, 1, 3, 0, 0, []), (231, 40, 7, 2, 12, 0, []), (234, 17, 241, 0, 108, 0, []), (237, 0, 1, 0, 0, 1, []), (238, 19, 242, 0, 110, 0, []), (241, 49, 0, 0, 0, 0, []), (241, 0, 1, 0, 0, 0, []), (242, 49, 0, 0, 0, 0, []), (242, 5, 2, 5, 0, 0, []), (244, 49, 0, 0, 0, 0, []), (244, 2, 2, 5, 0, 0, []), (246, 17, 253, 0, 117, 0, []), (249, 1, 1, 0, 0, 1, []), (250, 19, 254, 0, 118, 0, []), (253, 1, 1, 0, 0, 0, []), (254, 43, 0, 0, 0, 0, [])]
set_option maxRecDepth 20000 in
theorem qX1_lookf : f_all yX1_look YX1_look pX1_lookf :=
  ⟨f_aload_n (n := 0) (e_dx DX1_look_0 0 rfl) rfl,
  f_getA (e_dx DX1_look_0 1 rfl) fX1_35 rfl (by decide) (Nat.le_of_ble_eq_true rfl) rfl (by decide),
  f_getA (e_dx DX1_look_0 2 rfl) fX1_63 rfl (by decide) (Nat.le_of_ble_eq_true rfl) rfl (by decide),
  f_iload_n (n := 1) (e_dx DX1_look_0 3 rfl) rfl,
  f_iaload (e_dx DX1_look_0 4 rfl),
  f_istore (e_dx DX1_look_0 5 rfl) (by decide),
  f_iload (e_dx DX1_look_0 6 rfl),
  f_sipush (e_dx DX1_look_0 7 rfl) ⟨by decide, by decide⟩,
  f_icmp_ge (e_dx DX1_look_0 8 rfl) rfl,
  f_iload (e_dx DX1_look_0 9 rfl),
  f_sipush (e_dx DX1_look_0 10 rfl) ⟨by decide, by decide⟩,
  f_icmp_ne (e_dx DX1_look_0 11 rfl) rfl,
  trivial,
  f_iload_n (n := 2) (e_dx DX1_look_0 12 rfl) rfl,
  f_if_ne (e_dx DX1_look_0 13 rfl) rfl,
  f_aload_n (n := 0) (e_dx DX1_look_0 14 rfl) rfl,
  f_iload (e_dx DX1_look_0 15 rfl),
  f_aload_n (n := 0) (e_dx DX1_look_0 16 rfl) rfl,
  f_getA (e_dx DX1_look_0 17 rfl) fX1_31 rfl (by decide) (Nat.le_of_ble_eq_true rfl) rfl (by decide),
  f_iload_n (n := 3) (e_dx DX1_look_0 18 rfl) rfl,
  x_callV (e_dx DX1_look_0 19 rfl) mwX10_lot vwX10_lot cX1_139 rfl,
  x_callV (e_dx DX1_look_0 20 rfl) mwX1_factOfLot vwX1_factOfLot cX1_143 rfl,
  f_g19 (e_dx DX1_look_0 21 rfl) rfl,
  f_aload_n (n := 0) (e_dx DX1_look_0 22 rfl) rfl,
  f_iload (e_dx DX1_look_0 23 rfl),
  f_iload_n (n := 2) (e_dx DX1_look_0 24 rfl) rfl,
  f_iload_n (n := 3) (e_dx DX1_look_0 25 rfl) rfl,
  x_callV (e_dx DX1_look_0 26 rfl) mwX1_factOf vwX1_factOf cX1_147 rfl,
  ⟨(e_dx DX1_look_0 27 rfl), rfl⟩,
  f_iload (e_dx DX1_look_0 28 rfl),
  f_lsw (e_dx DX1_look_0 29 rfl) (by decide) rfl (by decide) rfl,
  f_aload_n (n := 0) (e_dx DX1_look_0 30 rfl) rfl,
  f_aload_n (n := 0) (e_dx DX1_look_0 31 rfl) rfl,
  f_getA (e_dx DX1_look_0 32 rfl) fX1_23 rfl (by decide) (Nat.le_of_ble_eq_true rfl) rfl (by decide),
  f_iload_n (n := 1) (e_dx DX1_look_0 33 rfl) rfl,
  f_iaload (e_dx DX1_look_0 34 rfl),
  f_iload_n (n := 2) (e_dx DX1_look_0 35 rfl) rfl,
  f_iload_n (n := 3) (e_dx DX1_look_0 36 rfl) rfl,
  x_callV (e_dx DX1_look_0 37 rfl) mwX1_isOwner vwX1_isOwner cX1_150 rfl,
  f_istore (e_dx DX1_look_0 38 rfl) (by decide),
  f_g19 (e_dx DX1_look_0 39 rfl) rfl,
  f_aload_n (n := 0) (e_dx DX1_look_1 0 rfl) rfl,
  f_aload_n (n := 0) (e_dx DX1_look_1 1 rfl) rfl,
  f_getA (e_dx DX1_look_1 2 rfl) fX1_23 rfl (by decide) (Nat.le_of_ble_eq_true rfl) rfl (by decide),
  f_iload_n (n := 1) (e_dx DX1_look_1 3 rfl) rfl,
  f_iaload (e_dx DX1_look_1 4 rfl),
  f_iload_n (n := 2) (e_dx DX1_look_1 5 rfl) rfl,
  f_iload_n (n := 3) (e_dx DX1_look_1 6 rfl) rfl,
  x_callV (e_dx DX1_look_1 7 rfl) mwX1_isOnLot vwX1_isOnLot cX1_154 rfl,
  f_istore (e_dx DX1_look_1 8 rfl) (by decide),
  f_g19 (e_dx DX1_look_1 9 rfl) rfl,
  f_aload_n (n := 0) (e_dx DX1_look_1 10 rfl) rfl,
  f_aload_n (n := 0) (e_dx DX1_look_1 11 rfl) rfl,
  f_getA (e_dx DX1_look_1 12 rfl) fX1_23 rfl (by decide) (Nat.le_of_ble_eq_true rfl) rfl (by decide),
  f_iload_n (n := 1) (e_dx DX1_look_1 13 rfl) rfl,
  f_iaload (e_dx DX1_look_1 14 rfl),
  f_iload_n (n := 2) (e_dx DX1_look_1 15 rfl) rfl,
  f_iload_n (n := 3) (e_dx DX1_look_1 16 rfl) rfl,
  x_callV (e_dx DX1_look_1 17 rfl) mwX1_isNearLot vwX1_isNearLot cX1_157 rfl,
  f_istore (e_dx DX1_look_1 18 rfl) (by decide),
  f_g19 (e_dx DX1_look_1 19 rfl) rfl,
  f_aload_n (n := 0) (e_dx DX1_look_1 20 rfl) rfl,
  f_getA (e_dx DX1_look_1 21 rfl) fX1_23 rfl (by decide) (Nat.le_of_ble_eq_true rfl) rfl (by decide),
  f_iload_n (n := 1) (e_dx DX1_look_1 22 rfl) rfl,
  f_iaload (e_dx DX1_look_1 23 rfl),
  f_iload_n (n := 2) (e_dx DX1_look_1 24 rfl) rfl,
  f_bipush (e_dx DX1_look_1 25 rfl) ⟨by decide, by decide⟩,
  f_imul (e_dx DX1_look_1 26 rfl),
  f_iload_n (n := 3) (e_dx DX1_look_1 27 rfl) rfl,
  f_iadd (e_dx DX1_look_1 28 rfl),
  f_icmp_ne (e_dx DX1_look_1 29 rfl) rfl,
  f_iconst (e_dx DX1_look_1 30 rfl) ⟨by decide, by decide⟩,
  f_g19 (e_dx DX1_look_1 31 rfl) rfl,
  f_iconst (e_dx DX1_look_1 32 rfl) ⟨by decide, by decide⟩,
  trivial,
  f_istore (e_dx DX1_look_1 33 rfl) (by decide),
  f_g19 (e_dx DX1_look_1 34 rfl) rfl,
  f_iload_n (n := 2) (e_dx DX1_look_1 35 rfl) rfl,
  f_if_ne (e_dx DX1_look_1 36 rfl) rfl,
  f_aload_n (n := 0) (e_dx DX1_look_1 37 rfl) rfl,
  f_getA (e_dx DX1_look_1 38 rfl) fX1_31 rfl (by decide) (Nat.le_of_ble_eq_true rfl) rfl (by decide),
  f_iload_n (n := 3) (e_dx DX1_look_1 39 rfl) rfl,
  x_callV (e_dx DX1_look_2 0 rfl) mwX10_lot vwX10_lot cX1_139 rfl,
  f_aload_n (n := 0) (e_dx DX1_look_2 1 rfl) rfl,
  f_getA (e_dx DX1_look_2 2 rfl) fX1_35 rfl (by decide) (Nat.le_of_ble_eq_true rfl) rfl (by decide),
  f_getA (e_dx DX1_look_2 3 rfl) fX1_66 rfl (by decide) (Nat.le_of_ble_eq_true rfl) rfl (by decide),
  f_iload_n (n := 1) (e_dx DX1_look_2 4 rfl) rfl,
  f_laload (e_dx DX1_look_2 5 rfl),
  x_callS (e_dx DX1_look_2 6 rfl) mwX1_hasPoint cX1_160 swX1_hasPoint rfl,
  f_if_eq (e_dx DX1_look_2 7 rfl) rfl,
  f_iconst (e_dx DX1_look_2 8 rfl) ⟨by decide, by decide⟩,
  f_g19 (e_dx DX1_look_2 9 rfl) rfl,
  trivial,
  f_iconst (e_dx DX1_look_2 10 rfl) ⟨by decide, by decide⟩,
  trivial,
  f_istore (e_dx DX1_look_2 11 rfl) (by decide),
  f_g19 (e_dx DX1_look_2 12 rfl) rfl,
  f_iload_n (n := 2) (e_dx DX1_look_2 13 rfl) rfl,
  f_iconst (e_dx DX1_look_2 14 rfl) ⟨by decide, by decide⟩,
  f_icmp_ne (e_dx DX1_look_2 15 rfl) rfl,
  f_aload_n (n := 0) (e_dx DX1_look_2 16 rfl) rfl,
  f_getA (e_dx DX1_look_2 17 rfl) fX1_31 rfl (by decide) (Nat.le_of_ble_eq_true rfl) rfl (by decide),
  f_iload_n (n := 3) (e_dx DX1_look_2 18 rfl) rfl,
  x_callV (e_dx DX1_look_2 19 rfl) mwX10_isOfAge vwX10_isOfAge cX1_164 rfl,
  f_if_eq (e_dx DX1_look_2 20 rfl) rfl,
  f_iconst (e_dx DX1_look_2 21 rfl) ⟨by decide, by decide⟩,
  f_g19 (e_dx DX1_look_2 22 rfl) rfl,
  trivial,
  f_iconst (e_dx DX1_look_2 23 rfl) ⟨by decide, by decide⟩,
  trivial,
  f_istore (e_dx DX1_look_2 24 rfl) (by decide),
  trivial,
  f_iload (e_dx DX1_look_2 25 rfl),
  f_if_eq (e_dx DX1_look_2 26 rfl) rfl,
  f_lconst (n := 1) (e_dx DX1_look_2 27 rfl) rfl,
  f_g19 (e_dx DX1_look_2 28 rfl) rfl,
  f_lconst (n := 0) (e_dx DX1_look_2 29 rfl) rfl,
  ⟨(e_dx DX1_look_2 30 rfl), rfl⟩, trivial⟩
def lX1_look (c_X10_lot : Nat → Int → e_M → (Nat → Prop) → Prop) (c_X1_factOfLot : Int → Nat → e_M → (Int → Prop) → Prop) (c_X1_factOf : Int → Int → Int → e_M → (Int → Prop) → Prop) (c_X1_isOwner : Int → Int → Int → e_M → (Int → Prop) → Prop) (c_X1_isOnLot : Int → Int → Int → e_M → (Int → Prop) → Prop) (c_X1_isNearLot : Int → Int → Int → e_M → (Int → Prop) → Prop) (c_X1_hasPoint : Nat → Int → e_M → (Int → Prop) → Prop) (c_X10_isOfAge : Nat → Int → e_M → (Int → Prop) → Prop) : List (Nat × f_Wt) := [(0, f_wm [(3, 10, 15), (1, 0, 0)] (fun ar M R => c_X10_lot (f_va (f_nth ar 0)) (f_vi (f_nth ar 1)) M (fun r => R (some (.inr (.inr (.inl (4, 9, r))))) M))), (1, f_wm [(4462, 1, 7), (1, 0, 0), (3, 4, 9)] (fun ar M R => c_X1_factOfLot (f_vi (f_nth ar 1)) (f_va (f_nth ar 2)) M (fun r => R (some (.inr (.inl r))) M))), (2, f_wm [(4462, 1, 7), (1, 0, 0), (1, 0, 0), (1, 0, 0)] (fun ar M R => c_X1_factOf (f_vi (f_nth ar 1)) (f_vi (f_nth ar 2)) (f_vi (f_nth ar 3)) M (fun r => R (some (.inr (.inl r))) M))), (3, f_wm [(4462, 1, 7), (1, 0, 0), (1, 0, 0), (1, 0, 0)] (fun ar M R => c_X1_isOwner (f_vi (f_nth ar 1)) (f_vi (f_nth ar 2)) (f_vi (f_nth ar 3)) M (fun r => R (some (.inl r)) M))), (4, f_wm [(4462, 1, 7), (1, 0, 0), (1, 0, 0), (1, 0, 0)] (fun ar M R => c_X1_isOnLot (f_vi (f_nth ar 1)) (f_vi (f_nth ar 2)) (f_vi (f_nth ar 3)) M (fun r => R (some (.inl r)) M))), (5, f_wm [(4462, 1, 7), (1, 0, 0), (1, 0, 0), (1, 0, 0)] (fun ar M R => c_X1_isNearLot (f_vi (f_nth ar 1)) (f_vi (f_nth ar 2)) (f_vi (f_nth ar 3)) M (fun r => R (some (.inl r)) M))), (6, f_wm [(3, 4, 9), (2, 0, 0)] (fun ar M R => c_X1_hasPoint (f_va (f_nth ar 0)) (f_vi (f_nth ar 1)) M (fun r => R (some (.inl r)) M))), (7, f_wm [(3, 10, 15), (1, 0, 0)] (fun ar M R => c_X10_isOfAge (f_va (f_nth ar 0)) (f_vi (f_nth ar 1)) M (fun r => R (some (.inl r)) M)))]
set_option maxRecDepth 20000 in
theorem BX1_look_27 {sh : Nat → Nat × Nat} {t : Nat} {rm : Nat × Nat × Nat} {cs : Nat × Nat} {R : f_Rt} {c_X10_lot : Nat → Int → e_M → (Nat → Prop) → Prop} {c_X1_factOfLot : Int → Nat → e_M → (Int → Prop) → Prop} {c_X1_factOf : Int → Int → Int → e_M → (Int → Prop) → Prop} {c_X1_isOwner : Int → Int → Int → e_M → (Int → Prop) → Prop} {c_X1_isOnLot : Int → Int → Int → e_M → (Int → Prop) → Prop} {c_X1_isNearLot : Int → Int → Int → e_M → (Int → Prop) → Prop} {c_X1_hasPoint : Nat → Int → e_M → (Int → Prop) → Prop} {c_X10_isOfAge : Nat → Int → e_M → (Int → Prop) → Prop} {x2 : Int} {x3 : Int} {x4 : Int} {M : e_M} (C : f_Hy sh t yX1_look rm cs 7 (lX1_look c_X10_lot c_X1_factOfLot c_X1_factOf c_X1_isOwner c_X1_isOnLot c_X1_isNearLot c_X1_hasPoint c_X10_isOfAge) R) (h : VX1_look_27 c_X10_lot c_X1_factOfLot c_X1_factOf c_X1_isOwner c_X1_isOnLot c_X1_isNearLot c_X1_hasPoint c_X10_isOfAge (fun r => R (some (.inr (.inl r))) M) x2 x3 x4 M) : f_E sh t YX1_look rm cs (f_Q sh t R) 27 [.inr (.inr (.inl (1, 7, 4452))), .inr (.inr (.inr ())), .inl x2, .inl x3, .inl x4, .inr (.inr (.inr ()))] [] M :=
  f_go (KC := f_kc []) C qX1_lookf f_kc_nil 120 13 h
set_option maxRecDepth 20000 in
theorem BX1_look_179 {sh : Nat → Nat × Nat} {t : Nat} {rm : Nat × Nat × Nat} {cs : Nat × Nat} {R : f_Rt} {c_X10_lot : Nat → Int → e_M → (Nat → Prop) → Prop} {c_X1_factOfLot : Int → Nat → e_M → (Int → Prop) → Prop} {c_X1_factOf : Int → Int → Int → e_M → (Int → Prop) → Prop} {c_X1_isOwner : Int → Int → Int → e_M → (Int → Prop) → Prop} {c_X1_isOnLot : Int → Int → Int → e_M → (Int → Prop) → Prop} {c_X1_isNearLot : Int → Int → Int → e_M → (Int → Prop) → Prop} {c_X1_hasPoint : Nat → Int → e_M → (Int → Prop) → Prop} {c_X10_isOfAge : Nat → Int → e_M → (Int → Prop) → Prop} {k244 : Int → Prop} {xs0 : Int} {M : e_M} (C : f_Hy sh t yX1_look rm cs 7 (lX1_look c_X10_lot c_X1_factOfLot c_X1_factOf c_X1_isOwner c_X1_isOnLot c_X1_isNearLot c_X1_hasPoint c_X10_isOfAge) R) (h244 : ∀ (x5 : Int), k244 x5 → f_E sh t YX1_look rm cs (f_Q sh t R) 244 [.inr (.inr (.inr ())), .inr (.inr (.inr ())), .inr (.inr (.inr ())), .inr (.inr (.inr ())), .inr (.inr (.inr ())), .inl x5] [] M) (h : VX1_look_179 c_X10_lot c_X1_factOfLot c_X1_factOf c_X1_isOwner c_X1_isOnLot c_X1_isNearLot c_X1_hasPoint c_X10_isOfAge k244 (fun r => R (some (.inr (.inl r))) M) xs0 M) : f_E sh t YX1_look rm cs (f_Q sh t R) 179 [.inr (.inr (.inr ())), .inr (.inr (.inr ())), .inr (.inr (.inr ())), .inr (.inr (.inr ())), .inr (.inr (.inr ())), .inr (.inr (.inr ()))] [.inl xs0] M := by
  rw [f_kk1 M k244] at h
  exact f_go (KC := f_kc [(244, f_pl [(0, 0, 0), (0, 0, 0), (0, 0, 0), (0, 0, 0), (0, 0, 0), (1, 0, 0)] [] (fun ls st M2 => M2 = M ∧ (k244 (f_vi (f_nth ls 5)))))]) C qX1_lookf (f_kc_cons (f_pl_ok rfl (fun ls st M2 ⟨e, hh⟩ => by subst e; exact h244 _ hh)) f_kc_nil) 120 75 h
set_option maxRecDepth 20000 in
theorem BX1_look_215 {sh : Nat → Nat × Nat} {t : Nat} {rm : Nat × Nat × Nat} {cs : Nat × Nat} {R : f_Rt} {c_X10_lot : Nat → Int → e_M → (Nat → Prop) → Prop} {c_X1_factOfLot : Int → Nat → e_M → (Int → Prop) → Prop} {c_X1_factOf : Int → Int → Int → e_M → (Int → Prop) → Prop} {c_X1_isOwner : Int → Int → Int → e_M → (Int → Prop) → Prop} {c_X1_isOnLot : Int → Int → Int → e_M → (Int → Prop) → Prop} {c_X1_isNearLot : Int → Int → Int → e_M → (Int → Prop) → Prop} {c_X1_hasPoint : Nat → Int → e_M → (Int → Prop) → Prop} {c_X10_isOfAge : Nat → Int → e_M → (Int → Prop) → Prop} {k216 : Int → Prop} {M : e_M} (C : f_Hy sh t yX1_look rm cs 7 (lX1_look c_X10_lot c_X1_factOfLot c_X1_factOf c_X1_isOwner c_X1_isOnLot c_X1_isNearLot c_X1_hasPoint c_X10_isOfAge) R) (h216 : ∀ (xs0 : Int), k216 xs0 → f_E sh t YX1_look rm cs (f_Q sh t R) 216 [.inr (.inr (.inr ())), .inr (.inr (.inr ())), .inr (.inr (.inr ())), .inr (.inr (.inr ())), .inr (.inr (.inr ())), .inr (.inr (.inr ()))] [.inl xs0] M) (h : VX1_look_215 c_X10_lot c_X1_factOfLot c_X1_factOf c_X1_isOwner c_X1_isOnLot c_X1_isNearLot c_X1_hasPoint c_X10_isOfAge k216 (fun r => R (some (.inr (.inl r))) M) M) : f_E sh t YX1_look rm cs (f_Q sh t R) 215 [.inr (.inr (.inr ())), .inr (.inr (.inr ())), .inr (.inr (.inr ())), .inr (.inr (.inr ())), .inr (.inr (.inr ())), .inr (.inr (.inr ()))] [] M := by
  rw [f_kk1 M k216] at h
  exact f_go (KC := f_kc [(216, f_pl [(0, 0, 0), (0, 0, 0), (0, 0, 0), (0, 0, 0), (0, 0, 0), (0, 0, 0)] [(1, 0, 0)] (fun ls st M2 => M2 = M ∧ (k216 (f_vi (f_nth st 0)))))]) C qX1_lookf (f_kc_cons (f_pl_ok rfl (fun ls st M2 ⟨e, hh⟩ => by subst e; exact h216 _ hh)) f_kc_nil) 120 93 h
set_option maxRecDepth 20000 in
theorem BX1_look_216 {sh : Nat → Nat × Nat} {t : Nat} {rm : Nat × Nat × Nat} {cs : Nat × Nat} {R : f_Rt} {c_X10_lot : Nat → Int → e_M → (Nat → Prop) → Prop} {c_X1_factOfLot : Int → Nat → e_M → (Int → Prop) → Prop} {c_X1_factOf : Int → Int → Int → e_M → (Int → Prop) → Prop} {c_X1_isOwner : Int → Int → Int → e_M → (Int → Prop) → Prop} {c_X1_isOnLot : Int → Int → Int → e_M → (Int → Prop) → Prop} {c_X1_isNearLot : Int → Int → Int → e_M → (Int → Prop) → Prop} {c_X1_hasPoint : Nat → Int → e_M → (Int → Prop) → Prop} {c_X10_isOfAge : Nat → Int → e_M → (Int → Prop) → Prop} {k244 : Int → Prop} {xs0 : Int} {M : e_M} (C : f_Hy sh t yX1_look rm cs 7 (lX1_look c_X10_lot c_X1_factOfLot c_X1_factOf c_X1_isOwner c_X1_isOnLot c_X1_isNearLot c_X1_hasPoint c_X10_isOfAge) R) (h244 : ∀ (x5 : Int), k244 x5 → f_E sh t YX1_look rm cs (f_Q sh t R) 244 [.inr (.inr (.inr ())), .inr (.inr (.inr ())), .inr (.inr (.inr ())), .inr (.inr (.inr ())), .inr (.inr (.inr ())), .inl x5] [] M) (h : VX1_look_216 c_X10_lot c_X1_factOfLot c_X1_factOf c_X1_isOwner c_X1_isOnLot c_X1_isNearLot c_X1_hasPoint c_X10_isOfAge k244 (fun r => R (some (.inr (.inl r))) M) xs0 M) : f_E sh t YX1_look rm cs (f_Q sh t R) 216 [.inr (.inr (.inr ())), .inr (.inr (.inr ())), .inr (.inr (.inr ())), .inr (.inr (.inr ())), .inr (.inr (.inr ())), .inr (.inr (.inr ()))] [.inl xs0] M := by
  rw [f_kk1 M k244] at h
  exact f_go (KC := f_kc [(244, f_pl [(0, 0, 0), (0, 0, 0), (0, 0, 0), (0, 0, 0), (0, 0, 0), (1, 0, 0)] [] (fun ls st M2 => M2 = M ∧ (k244 (f_vi (f_nth ls 5)))))]) C qX1_lookf (f_kc_cons (f_pl_ok rfl (fun ls st M2 ⟨e, hh⟩ => by subst e; exact h244 _ hh)) f_kc_nil) 120 95 h
set_option maxRecDepth 20000 in
theorem BX1_look_241 {sh : Nat → Nat × Nat} {t : Nat} {rm : Nat × Nat × Nat} {cs : Nat × Nat} {R : f_Rt} {c_X10_lot : Nat → Int → e_M → (Nat → Prop) → Prop} {c_X1_factOfLot : Int → Nat → e_M → (Int → Prop) → Prop} {c_X1_factOf : Int → Int → Int → e_M → (Int → Prop) → Prop} {c_X1_isOwner : Int → Int → Int → e_M → (Int → Prop) → Prop} {c_X1_isOnLot : Int → Int → Int → e_M → (Int → Prop) → Prop} {c_X1_isNearLot : Int → Int → Int → e_M → (Int → Prop) → Prop} {c_X1_hasPoint : Nat → Int → e_M → (Int → Prop) → Prop} {c_X10_isOfAge : Nat → Int → e_M → (Int → Prop) → Prop} {k242 : Int → Prop} {M : e_M} (C : f_Hy sh t yX1_look rm cs 7 (lX1_look c_X10_lot c_X1_factOfLot c_X1_factOf c_X1_isOwner c_X1_isOnLot c_X1_isNearLot c_X1_hasPoint c_X10_isOfAge) R) (h242 : ∀ (xs0 : Int), k242 xs0 → f_E sh t YX1_look rm cs (f_Q sh t R) 242 [.inr (.inr (.inr ())), .inr (.inr (.inr ())), .inr (.inr (.inr ())), .inr (.inr (.inr ())), .inr (.inr (.inr ())), .inr (.inr (.inr ()))] [.inl xs0] M) (h : VX1_look_241 c_X10_lot c_X1_factOfLot c_X1_factOf c_X1_isOwner c_X1_isOnLot c_X1_isNearLot c_X1_hasPoint c_X10_isOfAge k242 (fun r => R (some (.inr (.inl r))) M) M) : f_E sh t YX1_look rm cs (f_Q sh t R) 241 [.inr (.inr (.inr ())), .inr (.inr (.inr ())), .inr (.inr (.inr ())), .inr (.inr (.inr ())), .inr (.inr (.inr ())), .inr (.inr (.inr ()))] [] M := by
  rw [f_kk1 M k242] at h
  exact f_go (KC := f_kc [(242, f_pl [(0, 0, 0), (0, 0, 0), (0, 0, 0), (0, 0, 0), (0, 0, 0), (0, 0, 0)] [(1, 0, 0)] (fun ls st M2 => M2 = M ∧ (k242 (f_vi (f_nth st 0)))))]) C qX1_lookf (f_kc_cons (f_pl_ok rfl (fun ls st M2 ⟨e, hh⟩ => by subst e; exact h242 _ hh)) f_kc_nil) 120 108 h
set_option maxRecDepth 20000 in
theorem BX1_look_242 {sh : Nat → Nat × Nat} {t : Nat} {rm : Nat × Nat × Nat} {cs : Nat × Nat} {R : f_Rt} {c_X10_lot : Nat → Int → e_M → (Nat → Prop) → Prop} {c_X1_factOfLot : Int → Nat → e_M → (Int → Prop) → Prop} {c_X1_factOf : Int → Int → Int → e_M → (Int → Prop) → Prop} {c_X1_isOwner : Int → Int → Int → e_M → (Int → Prop) → Prop} {c_X1_isOnLot : Int → Int → Int → e_M → (Int → Prop) → Prop} {c_X1_isNearLot : Int → Int → Int → e_M → (Int → Prop) → Prop} {c_X1_hasPoint : Nat → Int → e_M → (Int → Prop) → Prop} {c_X10_isOfAge : Nat → Int → e_M → (Int → Prop) → Prop} {k244 : Int → Prop} {xs0 : Int} {M : e_M} (C : f_Hy sh t yX1_look rm cs 7 (lX1_look c_X10_lot c_X1_factOfLot c_X1_factOf c_X1_isOwner c_X1_isOnLot c_X1_isNearLot c_X1_hasPoint c_X10_isOfAge) R) (h244 : ∀ (x5 : Int), k244 x5 → f_E sh t YX1_look rm cs (f_Q sh t R) 244 [.inr (.inr (.inr ())), .inr (.inr (.inr ())), .inr (.inr (.inr ())), .inr (.inr (.inr ())), .inr (.inr (.inr ())), .inl x5] [] M) (h : VX1_look_242 c_X10_lot c_X1_factOfLot c_X1_factOf c_X1_isOwner c_X1_isOnLot c_X1_isNearLot c_X1_hasPoint c_X10_isOfAge k244 (fun r => R (some (.inr (.inl r))) M) xs0 M) : f_E sh t YX1_look rm cs (f_Q sh t R) 242 [.inr (.inr (.inr ())), .inr (.inr (.inr ())), .inr (.inr (.inr ())), .inr (.inr (.inr ())), .inr (.inr (.inr ())), .inr (.inr (.inr ()))] [.inl xs0] M := by
  rw [f_kk1 M k244] at h
  exact f_go (KC := f_kc [(244, f_pl [(0, 0, 0), (0, 0, 0), (0, 0, 0), (0, 0, 0), (0, 0, 0), (1, 0, 0)] [] (fun ls st M2 => M2 = M ∧ (k244 (f_vi (f_nth ls 5)))))]) C qX1_lookf (f_kc_cons (f_pl_ok rfl (fun ls st M2 ⟨e, hh⟩ => by subst e; exact h244 _ hh)) f_kc_nil) 120 110 h
set_option maxRecDepth 20000 in
theorem BX1_look_244 {sh : Nat → Nat × Nat} {t : Nat} {rm : Nat × Nat × Nat} {cs : Nat × Nat} {R : f_Rt} {c_X10_lot : Nat → Int → e_M → (Nat → Prop) → Prop} {c_X1_factOfLot : Int → Nat → e_M → (Int → Prop) → Prop} {c_X1_factOf : Int → Int → Int → e_M → (Int → Prop) → Prop} {c_X1_isOwner : Int → Int → Int → e_M → (Int → Prop) → Prop} {c_X1_isOnLot : Int → Int → Int → e_M → (Int → Prop) → Prop} {c_X1_isNearLot : Int → Int → Int → e_M → (Int → Prop) → Prop} {c_X1_hasPoint : Nat → Int → e_M → (Int → Prop) → Prop} {c_X10_isOfAge : Nat → Int → e_M → (Int → Prop) → Prop} {x5 : Int} {M : e_M} (C : f_Hy sh t yX1_look rm cs 7 (lX1_look c_X10_lot c_X1_factOfLot c_X1_factOf c_X1_isOwner c_X1_isOnLot c_X1_isNearLot c_X1_hasPoint c_X10_isOfAge) R) (h : VX1_look_244 c_X10_lot c_X1_factOfLot c_X1_factOf c_X1_isOwner c_X1_isOnLot c_X1_isNearLot c_X1_hasPoint c_X10_isOfAge (fun r => R (some (.inr (.inl r))) M) x5 M) : f_E sh t YX1_look rm cs (f_Q sh t R) 244 [.inr (.inr (.inr ())), .inr (.inr (.inr ())), .inr (.inr (.inr ())), .inr (.inr (.inr ())), .inr (.inr (.inr ())), .inl x5] [] M :=
  f_go (KC := f_kc []) C qX1_lookf f_kc_nil 120 112 h
set_option maxRecDepth 20000 in
theorem BX1_look {sh : Nat → Nat × Nat} {t : Nat} {rm : Nat × Nat × Nat} {cs : Nat × Nat} {R : f_Rt} {c_X10_lot : Nat → Int → e_M → (Nat → Prop) → Prop} {c_X1_factOfLot : Int → Nat → e_M → (Int → Prop) → Prop} {c_X1_factOf : Int → Int → Int → e_M → (Int → Prop) → Prop} {c_X1_isOwner : Int → Int → Int → e_M → (Int → Prop) → Prop} {c_X1_isOnLot : Int → Int → Int → e_M → (Int → Prop) → Prop} {c_X1_isNearLot : Int → Int → Int → e_M → (Int → Prop) → Prop} {c_X1_hasPoint : Nat → Int → e_M → (Int → Prop) → Prop} {c_X10_isOfAge : Nat → Int → e_M → (Int → Prop) → Prop} {k27 : Int → Int → Int → Prop} {k241 : Prop} {k242 : Int → Prop} {k215 : Prop} {k216 : Int → Prop} {k179 : Int → Prop} {k244 : Int → Prop} {x1 : Int} {x2 : Int} {x3 : Int} {M : e_M} (C : f_Hy sh t yX1_look rm cs 7 (lX1_look c_X10_lot c_X1_factOfLot c_X1_factOf c_X1_isOwner c_X1_isOnLot c_X1_isNearLot c_X1_hasPoint c_X10_isOfAge) R) (h27 : ∀ (x2 : Int) (x3 : Int) (x4 : Int), k27 x2 x3 x4 → f_E sh t YX1_look rm cs (f_Q sh t R) 27 [.inr (.inr (.inl (1, 7, 4452))), .inr (.inr (.inr ())), .inl x2, .inl x3, .inl x4, .inr (.inr (.inr ()))] [] M) (h241 : k241 → f_E sh t YX1_look rm cs (f_Q sh t R) 241 [.inr (.inr (.inr ())), .inr (.inr (.inr ())), .inr (.inr (.inr ())), .inr (.inr (.inr ())), .inr (.inr (.inr ())), .inr (.inr (.inr ()))] [] M) (h242 : ∀ (xs0 : Int), k242 xs0 → f_E sh t YX1_look rm cs (f_Q sh t R) 242 [.inr (.inr (.inr ())), .inr (.inr (.inr ())), .inr (.inr (.inr ())), .inr (.inr (.inr ())), .inr (.inr (.inr ())), .inr (.inr (.inr ()))] [.inl xs0] M) (h215 : k215 → f_E sh t YX1_look rm cs (f_Q sh t R) 215 [.inr (.inr (.inr ())), .inr (.inr (.inr ())), .inr (.inr (.inr ())), .inr (.inr (.inr ())), .inr (.inr (.inr ())), .inr (.inr (.inr ()))] [] M) (h216 : ∀ (xs0 : Int), k216 xs0 → f_E sh t YX1_look rm cs (f_Q sh t R) 216 [.inr (.inr (.inr ())), .inr (.inr (.inr ())), .inr (.inr (.inr ())), .inr (.inr (.inr ())), .inr (.inr (.inr ())), .inr (.inr (.inr ()))] [.inl xs0] M) (h179 : ∀ (xs0 : Int), k179 xs0 → f_E sh t YX1_look rm cs (f_Q sh t R) 179 [.inr (.inr (.inr ())), .inr (.inr (.inr ())), .inr (.inr (.inr ())), .inr (.inr (.inr ())), .inr (.inr (.inr ())), .inr (.inr (.inr ()))] [.inl xs0] M) (h244 : ∀ (x5 : Int), k244 x5 → f_E sh t YX1_look rm cs (f_Q sh t R) 244 [.inr (.inr (.inr ())), .inr (.inr (.inr ())), .inr (.inr (.inr ())), .inr (.inr (.inr ())), .inr (.inr (.inr ())), .inl x5] [] M) (h : VX1_look c_X10_lot c_X1_factOfLot c_X1_factOf c_X1_isOwner c_X1_isOnLot c_X1_isNearLot c_X1_hasPoint c_X10_isOfAge k27 k241 k242 k215 k216 k179 k244 (fun r => R (some (.inr (.inl r))) M) x1 x2 x3 M) : f_E sh t YX1_look rm cs (f_Q sh t R) 0 [.inr (.inr (.inl (1, 7, 4452))), .inl x1, .inl x2, .inl x3, .inr (.inr (.inr ())), .inr (.inr (.inr ()))] [] M := by
  rw [f_kk3 M k27] at h
  rw [f_kk0 M k241] at h
  rw [f_kk1 M k242] at h
  rw [f_kk0 M k215] at h
  rw [f_kk1 M k216] at h
  rw [f_kk1 M k179] at h
  rw [f_kk1 M k244] at h
  exact f_go (KC := f_kc [(27, f_pl [(4462, 1, 7), (0, 0, 0), (1, 0, 0), (1, 0, 0), (1, 0, 0), (0, 0, 0)] [] (fun ls st M2 => M2 = M ∧ (k27 (f_vi (f_nth ls 2)) (f_vi (f_nth ls 3)) (f_vi (f_nth ls 4))))), (241, f_pl [(0, 0, 0), (0, 0, 0), (0, 0, 0), (0, 0, 0), (0, 0, 0), (0, 0, 0)] [] (fun ls st M2 => M2 = M ∧ (k241))), (242, f_pl [(0, 0, 0), (0, 0, 0), (0, 0, 0), (0, 0, 0), (0, 0, 0), (0, 0, 0)] [(1, 0, 0)] (fun ls st M2 => M2 = M ∧ (k242 (f_vi (f_nth st 0))))), (215, f_pl [(0, 0, 0), (0, 0, 0), (0, 0, 0), (0, 0, 0), (0, 0, 0), (0, 0, 0)] [] (fun ls st M2 => M2 = M ∧ (k215))), (216, f_pl [(0, 0, 0), (0, 0, 0), (0, 0, 0), (0, 0, 0), (0, 0, 0), (0, 0, 0)] [(1, 0, 0)] (fun ls st M2 => M2 = M ∧ (k216 (f_vi (f_nth st 0))))), (179, f_pl [(0, 0, 0), (0, 0, 0), (0, 0, 0), (0, 0, 0), (0, 0, 0), (0, 0, 0)] [(1, 0, 0)] (fun ls st M2 => M2 = M ∧ (k179 (f_vi (f_nth st 0))))), (244, f_pl [(0, 0, 0), (0, 0, 0), (0, 0, 0), (0, 0, 0), (0, 0, 0), (1, 0, 0)] [] (fun ls st M2 => M2 = M ∧ (k244 (f_vi (f_nth ls 5)))))]) C qX1_lookf (f_kc_cons (f_pl_ok rfl (fun ls st M2 ⟨e, hh⟩ => by subst e; exact h27 _ _ _ hh)) (f_kc_cons (f_pl_ok rfl (fun ls st M2 ⟨e, hh⟩ => by subst e; exact h241  hh)) (f_kc_cons (f_pl_ok rfl (fun ls st M2 ⟨e, hh⟩ => by subst e; exact h242 _ hh)) (f_kc_cons (f_pl_ok rfl (fun ls st M2 ⟨e, hh⟩ => by subst e; exact h215  hh)) (f_kc_cons (f_pl_ok rfl (fun ls st M2 ⟨e, hh⟩ => by subst e; exact h216 _ hh)) (f_kc_cons (f_pl_ok rfl (fun ls st M2 ⟨e, hh⟩ => by subst e; exact h179 _ hh)) (f_kc_cons (f_pl_ok rfl (fun ls st M2 ⟨e, hh⟩ => by subst e; exact h244 _ hh)) f_kc_nil))))))) 120 0 h
def WX1_look_27 (M : e_M) (Q : Int → Prop) (x2 : Int) (x3 : Int) (x4 : Int) : Prop :=
  VX1_look_27 WX10_lot WX1_factOfLot WX1_factOf WX1_isOwner WX1_isOnLot WX1_isNearLot WX1_hasPoint WX10_isOfAge Q x2 x3 x4 M
def WX1_look_244 (M : e_M) (Q : Int → Prop) (x5 : Int) : Prop :=
  VX1_look_244 WX10_lot WX1_factOfLot WX1_factOf WX1_isOwner WX1_isOnLot WX1_isNearLot WX1_hasPoint WX10_isOfAge Q x5 M
def WX1_look_179 (M : e_M) (Q : Int → Prop) (xs0 : Int) : Prop :=
  VX1_look_179 WX10_lot WX1_factOfLot WX1_factOf WX1_isOwner WX1_isOnLot WX1_isNearLot WX1_hasPoint WX10_isOfAge (WX1_look_244 M Q) Q xs0 M
def WX1_look_216 (M : e_M) (Q : Int → Prop) (xs0 : Int) : Prop :=
  VX1_look_216 WX10_lot WX1_factOfLot WX1_factOf WX1_isOwner WX1_isOnLot WX1_isNearLot WX1_hasPoint WX10_isOfAge (WX1_look_244 M Q) Q xs0 M
def WX1_look_215 (M : e_M) (Q : Int → Prop) : Prop :=
  VX1_look_215 WX10_lot WX1_factOfLot WX1_factOf WX1_isOwner WX1_isOnLot WX1_isNearLot WX1_hasPoint WX10_isOfAge (WX1_look_216 M Q) Q M
def WX1_look_242 (M : e_M) (Q : Int → Prop) (xs0 : Int) : Prop :=
  VX1_look_242 WX10_lot WX1_factOfLot WX1_factOf WX1_isOwner WX1_isOnLot WX1_isNearLot WX1_hasPoint WX10_isOfAge (WX1_look_244 M Q) Q xs0 M
def WX1_look_241 (M : e_M) (Q : Int → Prop) : Prop :=
  VX1_look_241 WX10_lot WX1_factOfLot WX1_factOf WX1_isOwner WX1_isOnLot WX1_isNearLot WX1_hasPoint WX10_isOfAge (WX1_look_242 M Q) Q M
def WX1_look (x1 : Int) (x2 : Int) (x3 : Int) (M : e_M) (Q : Int → Prop) : Prop :=
  VX1_look WX10_lot WX1_factOfLot WX1_factOf WX1_isOwner WX1_isOnLot WX1_isNearLot WX1_hasPoint WX10_isOfAge (WX1_look_27 M Q) (WX1_look_241 M Q) (WX1_look_242 M Q) (WX1_look_215 M Q) (WX1_look_216 M Q) (WX1_look_179 M Q) (WX1_look_244 M Q) Q x1 x2 x3 M
theorem PX1_look_27 {sh : Nat → Nat × Nat} {t : Nat} {rm : Nat × Nat × Nat} {cs : Nat × Nat} {R : f_Rt} {x2 : Int} {x3 : Int} {x4 : Int} {M : e_M} (C : f_Hy sh t yX1_look rm cs 7 (lX1_look WX10_lot WX1_factOfLot WX1_factOf WX1_isOwner WX1_isOnLot WX1_isNearLot WX1_hasPoint WX10_isOfAge) R) (h : WX1_look_27 M (fun r => R (some (.inr (.inl r))) M) x2 x3 x4) : f_E sh t YX1_look rm cs (f_Q sh t R) 27 [.inr (.inr (.inl (1, 7, 4452))), .inr (.inr (.inr ())), .inl x2, .inl x3, .inl x4, .inr (.inr (.inr ()))] [] M :=
  BX1_look_27 C h
theorem PX1_look_244 {sh : Nat → Nat × Nat} {t : Nat} {rm : Nat × Nat × Nat} {cs : Nat × Nat} {R : f_Rt} {x5 : Int} {M : e_M} (C : f_Hy sh t yX1_look rm cs 7 (lX1_look WX10_lot WX1_factOfLot WX1_factOf WX1_isOwner WX1_isOnLot WX1_isNearLot WX1_hasPoint WX10_isOfAge) R) (h : WX1_look_244 M (fun r => R (some (.inr (.inl r))) M) x5) : f_E sh t YX1_look rm cs (f_Q sh t R) 244 [.inr (.inr (.inr ())), .inr (.inr (.inr ())), .inr (.inr (.inr ())), .inr (.inr (.inr ())), .inr (.inr (.inr ())), .inl x5] [] M :=
  BX1_look_244 C h
theorem PX1_look_179 {sh : Nat → Nat × Nat} {t : Nat} {rm : Nat × Nat × Nat} {cs : Nat × Nat} {R : f_Rt} {xs0 : Int} {M : e_M} (C : f_Hy sh t yX1_look rm cs 7 (lX1_look WX10_lot WX1_factOfLot WX1_factOf WX1_isOwner WX1_isOnLot WX1_isNearLot WX1_hasPoint WX10_isOfAge) R) (h : WX1_look_179 M (fun r => R (some (.inr (.inl r))) M) xs0) : f_E sh t YX1_look rm cs (f_Q sh t R) 179 [.inr (.inr (.inr ())), .inr (.inr (.inr ())), .inr (.inr (.inr ())), .inr (.inr (.inr ())), .inr (.inr (.inr ())), .inr (.inr (.inr ()))] [.inl xs0] M :=
  BX1_look_179 C (fun x5 h => PX1_look_244 C h) h
theorem PX1_look_216 {sh : Nat → Nat × Nat} {t : Nat} {rm : Nat × Nat × Nat} {cs : Nat × Nat} {R : f_Rt} {xs0 : Int} {M : e_M} (C : f_Hy sh t yX1_look rm cs 7 (lX1_look WX10_lot WX1_factOfLot WX1_factOf WX1_isOwner WX1_isOnLot WX1_isNearLot WX1_hasPoint WX10_isOfAge) R) (h : WX1_look_216 M (fun r => R (some (.inr (.inl r))) M) xs0) : f_E sh t YX1_look rm cs (f_Q sh t R) 216 [.inr (.inr (.inr ())), .inr (.inr (.inr ())), .inr (.inr (.inr ())), .inr (.inr (.inr ())), .inr (.inr (.inr ())), .inr (.inr (.inr ()))] [.inl xs0] M :=
  BX1_look_216 C (fun x5 h => PX1_look_244 C h) h
theorem PX1_look_215 {sh : Nat → Nat × Nat} {t : Nat} {rm : Nat × Nat × Nat} {cs : Nat × Nat} {R : f_Rt} {M : e_M} (C : f_Hy sh t yX1_look rm cs 7 (lX1_look WX10_lot WX1_factOfLot WX1_factOf WX1_isOwner WX1_isOnLot WX1_isNearLot WX1_hasPoint WX10_isOfAge) R) (h : WX1_look_215 M (fun r => R (some (.inr (.inl r))) M)) : f_E sh t YX1_look rm cs (f_Q sh t R) 215 [.inr (.inr (.inr ())), .inr (.inr (.inr ())), .inr (.inr (.inr ())), .inr (.inr (.inr ())), .inr (.inr (.inr ())), .inr (.inr (.inr ()))] [] M :=
  BX1_look_215 C (fun xs0 h => PX1_look_216 C h) h
theorem PX1_look_242 {sh : Nat → Nat × Nat} {t : Nat} {rm : Nat × Nat × Nat} {cs : Nat × Nat} {R : f_Rt} {xs0 : Int} {M : e_M} (C : f_Hy sh t yX1_look rm cs 7 (lX1_look WX10_lot WX1_factOfLot WX1_factOf WX1_isOwner WX1_isOnLot WX1_isNearLot WX1_hasPoint WX10_isOfAge) R) (h : WX1_look_242 M (fun r => R (some (.inr (.inl r))) M) xs0) : f_E sh t YX1_look rm cs (f_Q sh t R) 242 [.inr (.inr (.inr ())), .inr (.inr (.inr ())), .inr (.inr (.inr ())), .inr (.inr (.inr ())), .inr (.inr (.inr ())), .inr (.inr (.inr ()))] [.inl xs0] M :=
  BX1_look_242 C (fun x5 h => PX1_look_244 C h) h
theorem PX1_look_241 {sh : Nat → Nat × Nat} {t : Nat} {rm : Nat × Nat × Nat} {cs : Nat × Nat} {R : f_Rt} {M : e_M} (C : f_Hy sh t yX1_look rm cs 7 (lX1_look WX10_lot WX1_factOfLot WX1_factOf WX1_isOwner WX1_isOnLot WX1_isNearLot WX1_hasPoint WX10_isOfAge) R) (h : WX1_look_241 M (fun r => R (some (.inr (.inl r))) M)) : f_E sh t YX1_look rm cs (f_Q sh t R) 241 [.inr (.inr (.inr ())), .inr (.inr (.inr ())), .inr (.inr (.inr ())), .inr (.inr (.inr ())), .inr (.inr (.inr ())), .inr (.inr (.inr ()))] [] M :=
  BX1_look_241 C (fun xs0 h => PX1_look_242 C h) h
theorem PX1_look {sh : Nat → Nat × Nat} {t : Nat} {rm : Nat × Nat × Nat} {cs : Nat × Nat} {R : f_Rt} {x1 : Int} {x2 : Int} {x3 : Int} {M : e_M} (C : f_Hy sh t yX1_look rm cs 7 (lX1_look WX10_lot WX1_factOfLot WX1_factOf WX1_isOwner WX1_isOnLot WX1_isNearLot WX1_hasPoint WX10_isOfAge) R) (h : WX1_look x1 x2 x3 M (fun r => R (some (.inr (.inl r))) M)) : f_E sh t YX1_look rm cs (f_Q sh t R) 0 [.inr (.inr (.inl (1, 7, 4452))), .inl x1, .inl x2, .inl x3, .inr (.inr (.inr ())), .inr (.inr (.inr ()))] [] M :=
  BX1_look C (fun x2 x3 x4 h => PX1_look_27 C h) (fun h => PX1_look_241 C h) (fun xs0 h => PX1_look_242 C h) (fun h => PX1_look_215 C h) (fun xs0 h => PX1_look_216 C h) (fun xs0 h => PX1_look_179 C h) (fun x5 h => PX1_look_244 C h) h
def wX1_look : f_Wt := f_wm [(4462, 1, 7), (1, 0, 0), (1, 0, 0), (1, 0, 0)] (fun ar M R => WX1_look (f_vi (f_nth ar 1)) (f_vi (f_nth ar 2)) (f_vi (f_nth ar 3)) M (fun r => R (some (.inr (.inl r))) M))
theorem TX1_look {sh : Nat → Nat × Nat} {t : Nat} : f_Mt sh t YX1_look 7 (wX1_look) :=
  f_Mt_of (k := 2) (Nat.le_of_ble_eq_true rfl) rfl rfl (fun ar M R rm cs h1 h2 h3 hX h => PX1_look ⟨Nat.le_of_ble_eq_true rfl, h1, h2, h3, ⟨(f_Mt.up (Nat.le_of_ble_eq_true rfl) TX10_lot), (f_Mt.up (Nat.le_of_ble_eq_true rfl) TX1_factOfLot), (f_Mt.up (Nat.le_of_ble_eq_true rfl) TX1_factOf), (f_Mt.up (Nat.le_of_ble_eq_true rfl) TX1_isOwner), (f_Mt.up (Nat.le_of_ble_eq_true rfl) TX1_isOnLot), (f_Mt.up (Nat.le_of_ble_eq_true rfl) TX1_isNearLot), (f_Mt.up (Nat.le_of_ble_eq_true rfl) TX1_hasPoint), (f_Mt.up (Nat.le_of_ble_eq_true rfl) TX10_isOfAge), trivial⟩, hX⟩ h)
def VX1_reckon_13 (c_X1_isSign : Int → e_M → (Int → Prop) → Prop) (c_X1_combine : Int → Int → Int → e_M → (Int → Prop) → Prop) (c_X1_look : Int → Int → Int → e_M → (Int → Prop) → Prop) (k166 : Int → Int → Int → Int → Int → e_M → Prop) (k162 : Int → Int → Int → Int → Int → Int → Int → e_M → Prop) (Q : Int → e_M → Prop) (x2 : Int) (x3 : Int) (x4 : Int) (x5 : Int) (x6 : Int) (M : e_M) : Prop :=
  ((x2 ≤ x6 → ((0 ≤ (0 : Int) ∧ (0 : Int) < 640) ∧ (Q (M 4455 ((0 : Int).toNat)) M))) ∧ (x6 < x2 → ((0 ≤ x6 ∧ x6 < 640) ∧ ((¬ (M 23 (x6.toNat)) = 256 → (c_X1_isSign (M 23 (x6.toNat)) M (fun r1 => ((r1 = 0 → ((640 ≤ x5 → (k166 x2 x3 x4 x5 x6 M)) ∧ (x5 < 640 → ((¬ (M 23 (x6.toNat)) = 3 → (c_X1_look x6 x3 x4 M (fun r2 => (k162 x2 x3 x4 x5 x6 r2 x5 M)))) ∧ ((M 23 (x6.toNat)) = 3 → ((0 ≤ x6 ∧ x6 < 640) ∧ (k162 x2 x3 x4 x5 x6 (M 24 (x6.toNat)) x5 M))))))) ∧ (¬ r1 = 0 → ((x5 < 2 → (k166 x2 x3 x4 x5 x6 M)) ∧ (2 ≤ x5 → ((0 ≤ (e_w32 ((e_w32 (x5 + (-1))) - 1)) ∧ (e_w32 ((e_w32 (x5 + (-1))) - 1)) < 640) ∧ ((0 ≤ (e_w32 (x5 + (-1))) ∧ (e_w32 (x5 + (-1))) < 640) ∧ (c_X1_combine (M 23 (x6.toNat)) (M 4455 ((e_w32 ((e_w32 (x5 + (-1))) - 1)).toNat)) (M 4455 ((e_w32 (x5 + (-1))).toNat)) M (fun r3 => ((0 ≤ (e_w32 ((e_w32 (x5 + (-1))) - 1)) ∧ (e_w32 ((e_w32 (x5 + (-1))) - 1)) < 640) ∧ (∀ M4 : e_M, M4 = e_up M 4455 ((e_w32 ((e_w32 (x5 + (-1))) - 1)).toNat) r3 → (k166 x2 x3 x4 (e_w32 (x5 + (-1))) x6 M4)))))))))))))) ∧ ((M 23 (x6.toNat)) = 256 → ((x5 < 1 → (k166 x2 x3 x4 x5 x6 M)) ∧ (1 ≤ x5 → ((0 ≤ (e_w32 (x5 - 1)) ∧ (e_w32 (x5 - 1)) < 640) ∧ ((0 ≤ (e_w32 (x5 - 1)) ∧ (e_w32 (x5 - 1)) < 640) ∧ (∀ M5 : e_M, M5 = e_up M 4455 ((e_w32 (x5 - 1)).toNat) (e_w64 ((1 : Int) - (M 4455 ((e_w32 (x5 - 1)).toNat)))) → (k166 x2 x3 x4 x5 x6 M5)))))))))))
def VX1_reckon_162 (c_X1_isSign : Int → e_M → (Int → Prop) → Prop) (c_X1_combine : Int → Int → Int → e_M → (Int → Prop) → Prop) (c_X1_look : Int → Int → Int → e_M → (Int → Prop) → Prop) (k166 : Int → Int → Int → Int → Int → e_M → Prop) (Q : Int → e_M → Prop) (x2 : Int) (x3 : Int) (x4 : Int) (x5 : Int) (x6 : Int) (xs2 : Int) (xs1 : Int) (M : e_M) : Prop :=
  ((0 ≤ xs1 ∧ xs1 < 640) ∧ (∀ M1 : e_M, M1 = e_up M 4455 (xs1.toNat) xs2 → (k166 x2 x3 x4 (e_w32 (x5 + 1)) x6 M1)))
def VX1_reckon_166 (c_X1_isSign : Int → e_M → (Int → Prop) → Prop) (c_X1_combine : Int → Int → Int → e_M → (Int → Prop) → Prop) (c_X1_look : Int → Int → Int → e_M → (Int → Prop) → Prop) (k13 : Int → Int → Int → Int → Int → e_M → Prop) (Q : Int → e_M → Prop) (x2 : Int) (x3 : Int) (x4 : Int) (x5 : Int) (x6 : Int) (M : e_M) : Prop :=
  (k13 x2 x3 x4 x5 (e_w32 (x6 + 1)) M)
def VX1_reckon (c_X1_isSign : Int → e_M → (Int → Prop) → Prop) (c_X1_combine : Int → Int → Int → e_M → (Int → Prop) → Prop) (c_X1_look : Int → Int → Int → e_M → (Int → Prop) → Prop) (k13 : Int → Int → Int → Int → Int → e_M → Prop) (Q : Int → e_M → Prop) (x1 : Int) (x2 : Int) (x3 : Int) (x4 : Int) (M : e_M) : Prop :=
  ((0 ≤ (0 : Int) ∧ (0 : Int) < 640) ∧ (∀ M1 : e_M, M1 = e_up M 4455 ((0 : Int).toNat) 0 → (k13 x2 x3 x4 0 x1 M1)))
def yX1_reckon (i : Nat) : e_Y := x_get YX1_reckon [YX1_isSign, YX1_combine, YX1_look] i
def pX1_reckonf : List x_I := [(0, 4, 1, 0, 0, 0, []), (1, 25, 1, 6, 4, 0, [(0, 23, 640), (0, 1, 3)]), (4, 0, 1, 0, 0, 0, []), (5, 1, 1, 0, 0, 0, []), (6, 28, 0, 1, 0, 0, []), (7, 0, 1, 0, 0, 0, []), (8, 5, 2, 5, 0, 0, []), (10, 2, 1, 1, 0, 0, []), (11, 5, 2, 6, 0, 0, []), (13, 49, 0, 0, 0, 0, []), (13, 2, 2, 6, 0, 0, []), (15, 2, 1, 2, 0, 0, []), (16, 18, 172, 3, 95, 0, []), (19, 4, 1, 0, 0, 0, []), (20, 25, 1, 4, 4, 0, [(0, 6, 11), (0, 2, 22)]), (23, 25, 6, 6, 4, 0, [(0, 20, 640), (0, 1, 1)]), (26, 2, 2, 6, 0, 0, []), (28, 27, 0, 0, 0, 0, []), (29, 5, 2, 7, 0, 0, []), (31, 2, 2, 7, 0, 0, []), (33, 0, 3, 0, 0, 256, []), (36, 18, 68, 1, 41, 0, []), (39, 2, 2, 5, 0, 0, []), (41, 0, 1, 0, 0, 1, []), (42, 18, 166, 2, 92, 0, []), (45, 4, 1, 0, 0, 0, []), (46, 25, 1, 6, 4, 0, [(0, 23, 640), (0, 1, 3)]), (49, 2, 2, 5, 0, 0, []), (51, 0, 1, 0, 0, 1, []), (52, 9, 0, 1, 0, 0, []), (53, 1, 1, 0, 0, 1, []), (54, 4, 1, 0, 0, 0, []), (55, 25, 1, 6, 4, 0, [(0, 23, 640), (0, 1, 3)]), (58, 2, 2, 5, 0, 0, []), (60, 0, 1, 0, 0, 1, []), (61, 9, 0, 1, 0, 0, []), (62, 27, 0, 1, 0, 0, []), (63, 10, 0, 1, 0, 0, []), (64, 28, 0, 1, 0, 0, []), (65, 19, 166, 0, 92, 0, []), (68, 2, 2, 7, 0, 0, []), (70, 40, 0, 1, 0, 0, []), (73, 17, 118, 0, 67, 0, []), (76, 2, 2, 5, 0, 0, []), (78, 0, 1, 0, 0, 2, []), (79, 18, 166, 2, 92, 0, []), (82, 8, 0, 5, 0, (-1), []), (85, 4, 1, 0, 0, 0, []), (86, 25, 1, 6, 4, 0, [(0, 23, 640), (0, 1, 3)]), (89, 2, 2, 5, 0, 0, []), (91, 0, 1, 0, 0, 1, []), (92, 9, 0, 1, 0, 0, []), (93, 2, 2, 7, 0, 0, []), (95, 4, 1, 0, 0, 0, []), (96, 25, 1, 6, 4, 0, [(0, 23, 640), (0, 1, 3)]), (99, 2, 2, 5, 0, 0, []), (101, 0, 1, 0, 0, 1, []), (102, 9, 0, 1, 0, 0, []), (103, 27, 0, 1, 0, 0, []), (104, 4, 1, 0, 0, 0, []), (105, 25, 1, 6, 4, 0, [(0, 23, 640), (0, 1, 3)]), (108, 2, 2, 5, 0, 0, []), (110, 27, 0, 1, 0, 0, []), (111, 40, 1, 3, 0, 0, []), (114, 28, 0, 1, 0, 0, []), (115, 19, 166, 0, 92, 0, []), (118, 2, 2, 5, 0, 0, []), (120, 4, 1, 0, 0, 0, []), (121, 25, 1, 6, 4, 0, [(0, 23, 640), (0, 1, 3)]), (124, 31, 0, 0, 0, 0, []), (125, 18, 166, 3, 92, 0, []), (128, 4, 1, 0, 0, 0, []), (129, 25, 1, 6, 4, 0, [(0, 23, 640), (0, 1, 3)]), (132, 2, 2, 5, 0, 0, []), (134, 2, 2, 7, 0, 0, []), (136, 0, 1, 0, 0, 3, []), (137, 18, 153, 1, 84, 0, []), (140, 4, 1, 0, 0, 0, []), (141, 25, 1, 4, 4, 0, [(0, 6, 11), (0, 2, 22)]), (144, 25, 6, 7, 4, 0, [(0, 23, 640), (0, 1, 2)]), (147, 2, 2, 6, 0, 0, []), (149, 27, 0, 1, 0, 0, []), (150, 19, 162, 0, 89, 0, []), (153, 4, 1, 0, 0, 0, []), (154, 2, 2, 6, 0, 0, []), (156, 2, 1, 3, 0, 0, []), (157, 2, 2, 4, 0, 0, []), (159, 40, 2, 4, 3, 0, []), (162, 49, 0, 0, 0, 0, []), (162, 28, 0, 1, 0, 0, []), (163, 8, 0, 5, 0, 1, []), (166, 49, 0, 0, 0, 0, []), (166, 8, 0, 6, 0, 1, []), (169, 19, 13, 0, 10, 0, []), (172, 4, 1, 0, 0, 0, []), (173, 25, 1, 6, 4, 0, [(0, 23, 640), (0, 1, 3)]), (176, 0, 1, 0, 0, 0, []), (177, 27, 0, 1, 0, 0, []), (178, 43, 0, 0, 0, 0, [])]
set_option maxRecDepth 20000 in
theorem qX1_reckonf : f_all yX1_reckon YX1_reckon pX1_reckonf :=
  ⟨f_aload_n (n := 0) (e_dx DX1_reckon_0 0 rfl) rfl,
  f_getA (e_dx DX1_reckon_0 1 rfl) fX1_27 rfl (by decide) (Nat.le_of_ble_eq_true rfl) rfl (by decide),
  f_iconst (e_dx DX1_reckon_0 2 rfl) ⟨by decide, by decide⟩,
  f_lconst (n := 0) (e_dx DX1_reckon_0 3 rfl) rfl,
  f_lastore (e_dx DX1_reckon_0 4 rfl),
  f_iconst (e_dx DX1_reckon_0 5 rfl) ⟨by decide, by decide⟩,
  f_istore (e_dx DX1_reckon_0 6 rfl) (by decide),
  f_iload_n (n := 1) (e_dx DX1_reckon_0 7 rfl) rfl,
  f_istore (e_dx DX1_reckon_0 8 rfl) (by decide),
  trivial,
  f_iload (e_dx DX1_reckon_0 9 rfl),
  f_iload_n (n := 2) (e_dx DX1_reckon_0 10 rfl) rfl,
  f_icmp_ge (e_dx DX1_reckon_0 11 rfl) rfl,
  f_aload_n (n := 0) (e_dx DX1_reckon_0 12 rfl) rfl,
  f_getA (e_dx DX1_reckon_0 13 rfl) fX1_35 rfl (by decide) (Nat.le_of_ble_eq_true rfl) rfl (by decide),
  f_getA (e_dx DX1_reckon_0 14 rfl) fX1_63 rfl (by decide) (Nat.le_of_ble_eq_true rfl) rfl (by decide),
  f_iload (e_dx DX1_reckon_0 15 rfl),
  f_iaload (e_dx DX1_reckon_0 16 rfl),
  f_istore (e_dx DX1_reckon_0 17 rfl) (by decide),
  f_iload (e_dx DX1_reckon_0 18 rfl),
  f_sipush (e_dx DX1_reckon_0 19 rfl) ⟨by decide, by decide⟩,
  f_icmp_ne (e_dx DX1_reckon_0 20 rfl) rfl,
  f_iload (e_dx DX1_reckon_0 21 rfl),
  f_iconst (e_dx DX1_reckon_0 22 rfl) ⟨by decide, by decide⟩,
  f_icmp_lt (e_dx DX1_reckon_0 23 rfl) rfl,
  f_aload_n (n := 0) (e_dx DX1_reckon_0 24 rfl) rfl,
  f_getA (e_dx DX1_reckon_0 25 rfl) fX1_27 rfl (by decide) (Nat.le_of_ble_eq_true rfl) rfl (by decide),
  f_iload (e_dx DX1_reckon_0 26 rfl),
  f_iconst (e_dx DX1_reckon_0 27 rfl) ⟨by decide, by decide⟩,
  f_isub (e_dx DX1_reckon_0 28 rfl),
  f_lconst (n := 1) (e_dx DX1_reckon_0 29 rfl) rfl,
  f_aload_n (n := 0) (e_dx DX1_reckon_0 30 rfl) rfl,
  f_getA (e_dx DX1_reckon_0 31 rfl) fX1_27 rfl (by decide) (Nat.le_of_ble_eq_true rfl) rfl (by decide),
  f_iload (e_dx DX1_reckon_0 32 rfl),
  f_iconst (e_dx DX1_reckon_0 33 rfl) ⟨by decide, by decide⟩,
  f_isub (e_dx DX1_reckon_0 34 rfl),
  f_laload (e_dx DX1_reckon_0 35 rfl),
  f_lsub (e_dx DX1_reckon_0 36 rfl),
  f_lastore (e_dx DX1_reckon_0 37 rfl),
  f_g19 (e_dx DX1_reckon_0 38 rfl) rfl,
  f_iload (e_dx DX1_reckon_0 39 rfl),
  x_callS (e_dx DX1_reckon_1 0 rfl) mwX1_isSign cX1_127 swX1_isSign rfl,
  f_if_eq (e_dx DX1_reckon_1 1 rfl) rfl,
  f_iload (e_dx DX1_reckon_1 2 rfl),
  f_iconst (e_dx DX1_reckon_1 3 rfl) ⟨by decide, by decide⟩,
  f_icmp_lt (e_dx DX1_reckon_1 4 rfl) rfl,
  f_g8 (e_dx DX1_reckon_1 5 rfl) ⟨by decide, by decide⟩,
  f_aload_n (n := 0) (e_dx DX1_reckon_1 6 rfl) rfl,
  f_getA (e_dx DX1_reckon_1 7 rfl) fX1_27 rfl (by decide) (Nat.le_of_ble_eq_true rfl) rfl (by decide),
  f_iload (e_dx DX1_reckon_1 8 rfl),
  f_iconst (e_dx DX1_reckon_1 9 rfl) ⟨by decide, by decide⟩,
  f_isub (e_dx DX1_reckon_1 10 rfl),
  f_iload (e_dx DX1_reckon_1 11 rfl),
  f_aload_n (n := 0) (e_dx DX1_reckon_1 12 rfl) rfl,
  f_getA (e_dx DX1_reckon_1 13 rfl) fX1_27 rfl (by decide) (Nat.le_of_ble_eq_true rfl) rfl (by decide),
  f_iload (e_dx DX1_reckon_1 14 rfl),
  f_iconst (e_dx DX1_reckon_1 15 rfl) ⟨by decide, by decide⟩,
  f_isub (e_dx DX1_reckon_1 16 rfl),
  f_laload (e_dx DX1_reckon_1 17 rfl),
  f_aload_n (n := 0) (e_dx DX1_reckon_1 18 rfl) rfl,
  f_getA (e_dx DX1_reckon_1 19 rfl) fX1_27 rfl (by decide) (Nat.le_of_ble_eq_true rfl) rfl (by decide),
  f_iload (e_dx DX1_reckon_1 20 rfl),
  f_laload (e_dx DX1_reckon_1 21 rfl),
  x_callS (e_dx DX1_reckon_1 22 rfl) mwX1_combine cX1_131 swX1_combine rfl,
  f_lastore (e_dx DX1_reckon_1 23 rfl),
  f_g19 (e_dx DX1_reckon_1 24 rfl) rfl,
  f_iload (e_dx DX1_reckon_1 25 rfl),
  f_aload_n (n := 0) (e_dx DX1_reckon_1 26 rfl) rfl,
  f_getA (e_dx DX1_reckon_1 27 rfl) fX1_27 rfl (by decide) (Nat.le_of_ble_eq_true rfl) rfl (by decide),
  f_g31 (e_dx DX1_reckon_1 28 rfl),
  f_icmp_ge (e_dx DX1_reckon_1 29 rfl) rfl,
  f_aload_n (n := 0) (e_dx DX1_reckon_1 30 rfl) rfl,
  f_getA (e_dx DX1_reckon_1 31 rfl) fX1_27 rfl (by decide) (Nat.le_of_ble_eq_true rfl) rfl (by decide),
  f_iload (e_dx DX1_reckon_1 32 rfl),
  f_iload (e_dx DX1_reckon_1 33 rfl),
  f_iconst (e_dx DX1_reckon_1 34 rfl) ⟨by decide, by decide⟩,
  f_icmp_ne (e_dx DX1_reckon_1 35 rfl) rfl,
  f_aload_n (n := 0) (e_dx DX1_reckon_1 36 rfl) rfl,
  f_getA (e_dx DX1_reckon_1 37 rfl) fX1_35 rfl (by decide) (Nat.le_of_ble_eq_true rfl) rfl (by decide),
  f_getA (e_dx DX1_reckon_1 38 rfl) fX1_66 rfl (by decide) (Nat.le_of_ble_eq_true rfl) rfl (by decide),
  f_iload (e_dx DX1_reckon_1 39 rfl),
  f_laload (e_dx DX1_reckon_2 0 rfl),
  f_g19 (e_dx DX1_reckon_2 1 rfl) rfl,
  f_aload_n (n := 0) (e_dx DX1_reckon_2 2 rfl) rfl,
  f_iload (e_dx DX1_reckon_2 3 rfl),
  f_iload_n (n := 3) (e_dx DX1_reckon_2 4 rfl) rfl,
  f_iload (e_dx DX1_reckon_2 5 rfl),
  x_callV (e_dx DX1_reckon_2 6 rfl) mwX1_look vwX1_look cX1_135 rfl,
  trivial,
  f_lastore (e_dx DX1_reckon_2 7 rfl),
  f_g8 (e_dx DX1_reckon_2 8 rfl) ⟨by decide, by decide⟩,
  trivial,
  f_g8 (e_dx DX1_reckon_2 9 rfl) ⟨by decide, by decide⟩,
  f_g19 (e_dx DX1_reckon_2 10 rfl) rfl,
  f_aload_n (n := 0) (e_dx DX1_reckon_2 11 rfl) rfl,
  f_getA (e_dx DX1_reckon_2 12 rfl) fX1_27 rfl (by decide) (Nat.le_of_ble_eq_true rfl) rfl (by decide),
  f_iconst (e_dx DX1_reckon_2 13 rfl) ⟨by decide, by decide⟩,
  f_laload (e_dx DX1_reckon_2 14 rfl),
  ⟨(e_dx DX1_reckon_2 15 rfl), rfl⟩, trivial⟩
def lX1_reckon (c_X1_isSign : Int → e_M → (Int → Prop) → Prop) (c_X1_combine : Int → Int → Int → e_M → (Int → Prop) → Prop) (c_X1_look : Int → Int → Int → e_M → (Int → Prop) → Prop) : List (Nat × f_Wt) := [(0, f_wm [(1, 0, 0)] (fun ar M R => c_X1_isSign (f_vi (f_nth ar 0)) M (fun r => R (some (.inl r)) M))), (1, f_wm [(1, 0, 0), (2, 0, 0), (2, 0, 0)] (fun ar M R => c_X1_combine (f_vi (f_nth ar 0)) (f_vi (f_nth ar 1)) (f_vi (f_nth ar 2)) M (fun r => R (some (.inr (.inl r))) M))), (2, f_wm [(4462, 1, 7), (1, 0, 0), (1, 0, 0), (1, 0, 0)] (fun ar M R => c_X1_look (f_vi (f_nth ar 1)) (f_vi (f_nth ar 2)) (f_vi (f_nth ar 3)) M (fun r => R (some (.inr (.inl r))) M)))]
set_option maxRecDepth 20000 in
theorem BX1_reckon_13 {sh : Nat → Nat × Nat} {t : Nat} {rm : Nat × Nat × Nat} {cs : Nat × Nat} {R : f_Rt} {c_X1_isSign : Int → e_M → (Int → Prop) → Prop} {c_X1_combine : Int → Int → Int → e_M → (Int → Prop) → Prop} {c_X1_look : Int → Int → Int → e_M → (Int → Prop) → Prop} {k166 : Int → Int → Int → Int → Int → e_M → Prop} {k162 : Int → Int → Int → Int → Int → Int → Int → e_M → Prop} {x2 : Int} {x3 : Int} {x4 : Int} {x5 : Int} {x6 : Int} {M : e_M} (C : f_Hy sh t yX1_reckon rm cs 8 (lX1_reckon c_X1_isSign c_X1_combine c_X1_look) R) (h166 : ∀ (x2 : Int) (x3 : Int) (x4 : Int) (x5 : Int) (x6 : Int) (M : e_M), k166 x2 x3 x4 x5 x6 M → f_E sh t YX1_reckon rm cs (f_Q sh t R) 166 [.inr (.inr (.inl (1, 7, 4452))), .inr (.inr (.inr ())), .inl x2, .inl x3, .inl x4, .inl x5, .inl x6, .inr (.inr (.inr ()))] [] M) (h162 : ∀ (x2 : Int) (x3 : Int) (x4 : Int) (x5 : Int) (x6 : Int) (xs2 : Int) (xs1 : Int) (M : e_M), k162 x2 x3 x4 x5 x6 xs2 xs1 M → f_E sh t YX1_reckon rm cs (f_Q sh t R) 162 [.inr (.inr (.inl (1, 7, 4452))), .inr (.inr (.inr ())), .inl x2, .inl x3, .inl x4, .inl x5, .inl x6, .inr (.inr (.inr ()))] [.inr (.inl xs2), .inl xs1, .inr (.inr (.inl (23, 640, 4455)))] M) (h : VX1_reckon_13 c_X1_isSign c_X1_combine c_X1_look k166 k162 (fun r M => R (some (.inr (.inl r))) M) x2 x3 x4 x5 x6 M) : f_E sh t YX1_reckon rm cs (f_Q sh t R) 13 [.inr (.inr (.inl (1, 7, 4452))), .inr (.inr (.inr ())), .inl x2, .inl x3, .inl x4, .inl x5, .inl x6, .inr (.inr (.inr ()))] [] M :=
  f_go (KC := f_kc [(166, f_pl [(4462, 1, 7), (0, 0, 0), (1, 0, 0), (1, 0, 0), (1, 0, 0), (1, 0, 0), (1, 0, 0), (0, 0, 0)] [] (fun ls st M => k166 (f_vi (f_nth ls 2)) (f_vi (f_nth ls 3)) (f_vi (f_nth ls 4)) (f_vi (f_nth ls 5)) (f_vi (f_nth ls 6)) M)), (162, f_pl [(4462, 1, 7), (0, 0, 0), (1, 0, 0), (1, 0, 0), (1, 0, 0), (1, 0, 0), (1, 0, 0), (0, 0, 0)] [(2, 0, 0), (1, 0, 0), (4465, 23, 640)] (fun ls st M => k162 (f_vi (f_nth ls 2)) (f_vi (f_nth ls 3)) (f_vi (f_nth ls 4)) (f_vi (f_nth ls 5)) (f_vi (f_nth ls 6)) (f_vi (f_nth st 0)) (f_vi (f_nth st 1)) M))]) C qX1_reckonf (f_kc_cons (f_pl_ok rfl (fun ls st M h => h166 _ _ _ _ _ M h)) (f_kc_cons (f_pl_ok rfl (fun ls st M h => h162 _ _ _ _ _ _ _ M h)) f_kc_nil)) 101 10 h
set_option maxRecDepth 20000 in
theorem BX1_reckon_162 {sh : Nat → Nat × Nat} {t : Nat} {rm : Nat × Nat × Nat} {cs : Nat × Nat} {R : f_Rt} {c_X1_isSign : Int → e_M → (Int → Prop) → Prop} {c_X1_combine : Int → Int → Int → e_M → (Int → Prop) → Prop} {c_X1_look : Int → Int → Int → e_M → (Int → Prop) → Prop} {k166 : Int → Int → Int → Int → Int → e_M → Prop} {x2 : Int} {x3 : Int} {x4 : Int} {x5 : Int} {x6 : Int} {xs2 : Int} {xs1 : Int} {M : e_M} (C : f_Hy sh t yX1_reckon rm cs 8 (lX1_reckon c_X1_isSign c_X1_combine c_X1_look) R) (h166 : ∀ (x2 : Int) (x3 : Int) (x4 : Int) (x5 : Int) (x6 : Int) (M : e_M), k166 x2 x3 x4 x5 x6 M → f_E sh t YX1_reckon rm cs (f_Q sh t R) 166 [.inr (.inr (.inl (1, 7, 4452))), .inr (.inr (.inr ())), .inl x2, .inl x3, .inl x4, .inl x5, .inl x6, .inr (.inr (.inr ()))] [] M) (h : VX1_reckon_162 c_X1_isSign c_X1_combine c_X1_look k166 (fun r M => R (some (.inr (.inl r))) M) x2 x3 x4 x5 x6 xs2 xs1 M) : f_E sh t YX1_reckon rm cs (f_Q sh t R) 162 [.inr (.inr (.inl (1, 7, 4452))), .inr (.inr (.inr ())), .inl x2, .inl x3, .inl x4, .inl x5, .inl x6, .inr (.inr (.inr ()))] [.inr (.inl xs2), .inl xs1, .inr (.inr (.inl (23, 640, 4455)))] M :=
  f_go (KC := f_kc [(166, f_pl [(4462, 1, 7), (0, 0, 0), (1, 0, 0), (1, 0, 0), (1, 0, 0), (1, 0, 0), (1, 0, 0), (0, 0, 0)] [] (fun ls st M => k166 (f_vi (f_nth ls 2)) (f_vi (f_nth ls 3)) (f_vi (f_nth ls 4)) (f_vi (f_nth ls 5)) (f_vi (f_nth ls 6)) M))]) C qX1_reckonf (f_kc_cons (f_pl_ok rfl (fun ls st M h => h166 _ _ _ _ _ M h)) f_kc_nil) 101 89 h
set_option maxRecDepth 20000 in
theorem BX1_reckon_166 {sh : Nat → Nat × Nat} {t : Nat} {rm : Nat × Nat × Nat} {cs : Nat × Nat} {R : f_Rt} {c_X1_isSign : Int → e_M → (Int → Prop) → Prop} {c_X1_combine : Int → Int → Int → e_M → (Int → Prop) → Prop} {c_X1_look : Int → Int → Int → e_M → (Int → Prop) → Prop} {k13 : Int → Int → Int → Int → Int → e_M → Prop} {x2 : Int} {x3 : Int} {x4 : Int} {x5 : Int} {x6 : Int} {M : e_M} (C : f_Hy sh t yX1_reckon rm cs 8 (lX1_reckon c_X1_isSign c_X1_combine c_X1_look) R) (h13 : ∀ (x2 : Int) (x3 : Int) (x4 : Int) (x5 : Int) (x6 : Int) (M : e_M), k13 x2 x3 x4 x5 x6 M → f_E sh t YX1_reckon rm cs (f_Q sh t R) 13 [.inr (.inr (.inl (1, 7, 4452))), .inr (.inr (.inr ())), .inl x2, .inl x3, .inl x4, .inl x5, .inl x6, .inr (.inr (.inr ()))] [] M) (h : VX1_reckon_166 c_X1_isSign c_X1_combine c_X1_look k13 (fun r M => R (some (.inr (.inl r))) M) x2 x3 x4 x5 x6 M) : f_E sh t YX1_reckon rm cs (f_Q sh t R) 166 [.inr (.inr (.inl (1, 7, 4452))), .inr (.inr (.inr ())), .inl x2, .inl x3, .inl x4, .inl x5, .inl x6, .inr (.inr (.inr ()))] [] M :=
  f_go (KC := f_kc [(13, f_pl [(4462, 1, 7), (0, 0, 0), (1, 0, 0), (1, 0, 0), (1, 0, 0), (1, 0, 0), (1, 0, 0), (0, 0, 0)] [] (fun ls st M => k13 (f_vi (f_nth ls 2)) (f_vi (f_nth ls 3)) (f_vi (f_nth ls 4)) (f_vi (f_nth ls 5)) (f_vi (f_nth ls 6)) M))]) C qX1_reckonf (f_kc_cons (f_pl_ok rfl (fun ls st M h => h13 _ _ _ _ _ M h)) f_kc_nil) 101 92 h
set_option maxRecDepth 20000 in
theorem BX1_reckon {sh : Nat → Nat × Nat} {t : Nat} {rm : Nat × Nat × Nat} {cs : Nat × Nat} {R : f_Rt} {c_X1_isSign : Int → e_M → (Int → Prop) → Prop} {c_X1_combine : Int → Int → Int → e_M → (Int → Prop) → Prop} {c_X1_look : Int → Int → Int → e_M → (Int → Prop) → Prop} {k13 : Int → Int → Int → Int → Int → e_M → Prop} {x1 : Int} {x2 : Int} {x3 : Int} {x4 : Int} {M : e_M} (C : f_Hy sh t yX1_reckon rm cs 8 (lX1_reckon c_X1_isSign c_X1_combine c_X1_look) R) (h13 : ∀ (x2 : Int) (x3 : Int) (x4 : Int) (x5 : Int) (x6 : Int) (M : e_M), k13 x2 x3 x4 x5 x6 M → f_E sh t YX1_reckon rm cs (f_Q sh t R) 13 [.inr (.inr (.inl (1, 7, 4452))), .inr (.inr (.inr ())), .inl x2, .inl x3, .inl x4, .inl x5, .inl x6, .inr (.inr (.inr ()))] [] M) (h : VX1_reckon c_X1_isSign c_X1_combine c_X1_look k13 (fun r M => R (some (.inr (.inl r))) M) x1 x2 x3 x4 M) : f_E sh t YX1_reckon rm cs (f_Q sh t R) 0 [.inr (.inr (.inl (1, 7, 4452))), .inl x1, .inl x2, .inl x3, .inl x4, .inr (.inr (.inr ())), .inr (.inr (.inr ())), .inr (.inr (.inr ()))] [] M :=
  f_go (KC := f_kc [(13, f_pl [(4462, 1, 7), (0, 0, 0), (1, 0, 0), (1, 0, 0), (1, 0, 0), (1, 0, 0), (1, 0, 0), (0, 0, 0)] [] (fun ls st M => k13 (f_vi (f_nth ls 2)) (f_vi (f_nth ls 3)) (f_vi (f_nth ls 4)) (f_vi (f_nth ls 5)) (f_vi (f_nth ls 6)) M))]) C qX1_reckonf (f_kc_cons (f_pl_ok rfl (fun ls st M h => h13 _ _ _ _ _ M h)) f_kc_nil) 101 0 h
def WX1_reckon_166 (H13 : Int → Int → Int → Int → Int → e_M → Prop) (Q : Int → e_M → Prop) (x2 : Int) (x3 : Int) (x4 : Int) (x5 : Int) (x6 : Int) (M : e_M) : Prop :=
  VX1_reckon_166 WX1_isSign WX1_combine WX1_look H13 Q x2 x3 x4 x5 x6 M
def WX1_reckon_162 (H13 : Int → Int → Int → Int → Int → e_M → Prop) (Q : Int → e_M → Prop) (x2 : Int) (x3 : Int) (x4 : Int) (x5 : Int) (x6 : Int) (xs2 : Int) (xs1 : Int) (M : e_M) : Prop :=
  VX1_reckon_162 WX1_isSign WX1_combine WX1_look (WX1_reckon_166 H13 Q) Q x2 x3 x4 x5 x6 xs2 xs1 M
def WX1_reckon_13 (Q : Int → e_M → Prop) : Nat → Int → Int → Int → Int → Int → e_M → Prop
  | 0, _, _, _, _, _, _ => False
  | n + 1, x2, x3, x4, x5, x6, M =>
    VX1_reckon_13 WX1_isSign WX1_combine WX1_look (WX1_reckon_166 (WX1_reckon_13 Q n) Q) (WX1_reckon_162 (WX1_reckon_13 Q n) Q) Q x2 x3 x4 x5 x6 M
def WX1_reckon (x1 : Int) (x2 : Int) (x3 : Int) (x4 : Int) (M : e_M) (Q : Int → e_M → Prop) : Prop :=
  VX1_reckon WX1_isSign WX1_combine WX1_look (fun x2 x3 x4 x5 x6 M => ∃ j, WX1_reckon_13 Q j x2 x3 x4 x5 x6 M) Q x1 x2 x3 x4 M
theorem PX1_reckon_166 {sh : Nat → Nat × Nat} {t : Nat} {rm : Nat × Nat × Nat} {cs : Nat × Nat} {R : f_Rt} {H13 : Int → Int → Int → Int → Int → e_M → Prop} {x2 : Int} {x3 : Int} {x4 : Int} {x5 : Int} {x6 : Int} {M : e_M} (C : f_Hy sh t yX1_reckon rm cs 8 (lX1_reckon WX1_isSign WX1_combine WX1_look) R) (g13 : ∀ (x2 : Int) (x3 : Int) (x4 : Int) (x5 : Int) (x6 : Int) (M : e_M), H13 x2 x3 x4 x5 x6 M → f_E sh t YX1_reckon rm cs (f_Q sh t R) 13 [.inr (.inr (.inl (1, 7, 4452))), .inr (.inr (.inr ())), .inl x2, .inl x3, .inl x4, .inl x5, .inl x6, .inr (.inr (.inr ()))] [] M) (h : WX1_reckon_166 H13 (fun r M => R (some (.inr (.inl r))) M) x2 x3 x4 x5 x6 M) : f_E sh t YX1_reckon rm cs (f_Q sh t R) 166 [.inr (.inr (.inl (1, 7, 4452))), .inr (.inr (.inr ())), .inl x2, .inl x3, .inl x4, .inl x5, .inl x6, .inr (.inr (.inr ()))] [] M :=
  BX1_reckon_166 C g13 h
theorem PX1_reckon_162 {sh : Nat → Nat × Nat} {t : Nat} {rm : Nat × Nat × Nat} {cs : Nat × Nat} {R : f_Rt} {H13 : Int → Int → Int → Int → Int → e_M → Prop} {x2 : Int} {x3 : Int} {x4 : Int} {x5 : Int} {x6 : Int} {xs2 : Int} {xs1 : Int} {M : e_M} (C : f_Hy sh t yX1_reckon rm cs 8 (lX1_reckon WX1_isSign WX1_combine WX1_look) R) (g13 : ∀ (x2 : Int) (x3 : Int) (x4 : Int) (x5 : Int) (x6 : Int) (M : e_M), H13 x2 x3 x4 x5 x6 M → f_E sh t YX1_reckon rm cs (f_Q sh t R) 13 [.inr (.inr (.inl (1, 7, 4452))), .inr (.inr (.inr ())), .inl x2, .inl x3, .inl x4, .inl x5, .inl x6, .inr (.inr (.inr ()))] [] M) (h : WX1_reckon_162 H13 (fun r M => R (some (.inr (.inl r))) M) x2 x3 x4 x5 x6 xs2 xs1 M) : f_E sh t YX1_reckon rm cs (f_Q sh t R) 162 [.inr (.inr (.inl (1, 7, 4452))), .inr (.inr (.inr ())), .inl x2, .inl x3, .inl x4, .inl x5, .inl x6, .inr (.inr (.inr ()))] [.inr (.inl xs2), .inl xs1, .inr (.inr (.inl (23, 640, 4455)))] M :=
  BX1_reckon_162 C (fun x2 x3 x4 x5 x6 M h => PX1_reckon_166 C g13 h) h
theorem PX1_reckon_13 {sh : Nat → Nat × Nat} {t : Nat} {rm : Nat × Nat × Nat} {cs : Nat × Nat} {R : f_Rt} (C : f_Hy sh t yX1_reckon rm cs 8 (lX1_reckon WX1_isSign WX1_combine WX1_look) R) : ∀ (n : Nat) (x2 : Int) (x3 : Int) (x4 : Int) (x5 : Int) (x6 : Int) (M : e_M), WX1_reckon_13 (fun r M => R (some (.inr (.inl r))) M) n x2 x3 x4 x5 x6 M → f_E sh t YX1_reckon rm cs (f_Q sh t R) 13 [.inr (.inr (.inl (1, 7, 4452))), .inr (.inr (.inr ())), .inl x2, .inl x3, .inl x4, .inl x5, .inl x6, .inr (.inr (.inr ()))] [] M := by
  intro n
  induction n with
  | zero => intro x2 x3 x4 x5 x6 M h; exact h.elim
  | succ n ih => intro x2 x3 x4 x5 x6 M h; exact BX1_reckon_13 C (fun x2 x3 x4 x5 x6 M h => PX1_reckon_166 C ih h) (fun x2 x3 x4 x5 x6 xs2 xs1 M h => PX1_reckon_162 C ih h) h
theorem PX1_reckon {sh : Nat → Nat × Nat} {t : Nat} {rm : Nat × Nat × Nat} {cs : Nat × Nat} {R : f_Rt} {x1 : Int} {x2 : Int} {x3 : Int} {x4 : Int} {M : e_M} (C : f_Hy sh t yX1_reckon rm cs 8 (lX1_reckon WX1_isSign WX1_combine WX1_look) R) (h : WX1_reckon x1 x2 x3 x4 M (fun r M => R (some (.inr (.inl r))) M)) : f_E sh t YX1_reckon rm cs (f_Q sh t R) 0 [.inr (.inr (.inl (1, 7, 4452))), .inl x1, .inl x2, .inl x3, .inl x4, .inr (.inr (.inr ())), .inr (.inr (.inr ())), .inr (.inr (.inr ()))] [] M :=
  BX1_reckon C (fun x2 x3 x4 x5 x6 M ⟨j, h⟩ => PX1_reckon_13 C j _ _ _ _ _ _ h) h
def wX1_reckon : f_Wt := f_wm [(4462, 1, 7), (1, 0, 0), (1, 0, 0), (1, 0, 0), (1, 0, 0)] (fun ar M R => WX1_reckon (f_vi (f_nth ar 1)) (f_vi (f_nth ar 2)) (f_vi (f_nth ar 3)) (f_vi (f_nth ar 4)) M (fun r M => R (some (.inr (.inl r))) M))
theorem TX1_reckon {sh : Nat → Nat × Nat} {t : Nat} : f_Mt sh t YX1_reckon 8 (wX1_reckon) :=
  f_Mt_of (k := 3) (Nat.le_of_ble_eq_true rfl) rfl rfl (fun ar M R rm cs h1 h2 h3 hX h => PX1_reckon ⟨Nat.le_of_ble_eq_true rfl, h1, h2, h3, ⟨(f_Mt.up (Nat.le_of_ble_eq_true rfl) TX1_isSign), (f_Mt.up (Nat.le_of_ble_eq_true rfl) TX1_combine), (f_Mt.up (Nat.le_of_ble_eq_true rfl) TX1_look), trivial⟩, hX⟩ h)
def VX1_survey_16 (c_X10_isThere : Nat → Int → Int → e_M → (Int → Prop) → Prop) (c_X1_reckon : Int → Int → Int → Int → e_M → (Int → e_M → Prop) → Prop) (c_X10_nameOf : Nat → Int → Int → e_M → (Int → Prop) → Prop) (c_X1_putWord : Int → e_M → (e_M → Prop) → Prop) (c_X1_put : Int → e_M → (e_M → Prop) → Prop) (k173 : Int → Int → Int → Int → Int → e_M → Prop) (k77 : Int → Int → Int → Int → Int → e_M → Prop) (Q : e_M → Prop) (x1 : Int) (x2 : Int) (x3 : Int) (x5 : Int) (x7 : Int) (M : e_M) : Prop :=
  ((0 ≤ x1 ∧ x1 < 8) ∧ (((M ((M 4452 3).toNat + 24) (x1.toNat)) ≤ x7 → ((¬ (M 22 3) = 242 → (Q M)) ∧ ((M 22 3) = 242 → (∀ M1 : e_M, M1 = e_up M 4452 0 x5 → (Q M1))))) ∧ (x7 < (M ((M 4452 3).toNat + 24) (x1.toNat)) → (c_X10_isThere ((M 4452 3).toNat) x1 x7 M (fun r2 => ((r2 = 0 → (k173 x1 x2 x3 x5 x7 M)) ∧ (¬ r2 = 0 → (((M 22 8) ≤ x2 → (k77 x1 x2 x3 x5 x7 M)) ∧ (x2 < (M 22 8) → (c_X1_reckon x2 (M 22 8) x1 x7 M (fun r3 M4 => ((¬ r3 = 0 → (k77 x1 x2 x3 x5 x7 M4)) ∧ (r3 = 0 → (k173 x1 x2 x3 x5 x7 M4))))))))))))))
def VX1_survey_77 (c_X10_isThere : Nat → Int → Int → e_M → (Int → Prop) → Prop) (c_X1_reckon : Int → Int → Int → Int → e_M → (Int → e_M → Prop) → Prop) (c_X10_nameOf : Nat → Int → Int → e_M → (Int → Prop) → Prop) (c_X1_putWord : Int → e_M → (e_M → Prop) → Prop) (c_X1_put : Int → e_M → (e_M → Prop) → Prop) (k112 : Int → Int → Int → Int → Int → Int → Int → Int → e_M → Prop) (Q : e_M → Prop) (x1 : Int) (x2 : Int) (x3 : Int) (x5 : Int) (x7 : Int) (M : e_M) : Prop :=
  (c_X1_reckon 0 x2 x1 x7 M (fun r1 M2 => ((¬ (M2 22 3) = 241 → (k112 x1 x2 x3 x5 x7 r1 1 (M2 4452 0) M2)) ∧ ((M2 22 3) = 241 → (k112 x1 x2 x3 x5 x7 r1 r1 (M2 4452 0) M2)))))
def VX1_survey_112 (c_X10_isThere : Nat → Int → Int → e_M → (Int → Prop) → Prop) (c_X1_reckon : Int → Int → Int → Int → e_M → (Int → e_M → Prop) → Prop) (c_X10_nameOf : Nat → Int → Int → e_M → (Int → Prop) → Prop) (c_X1_putWord : Int → e_M → (e_M → Prop) → Prop) (c_X1_put : Int → e_M → (e_M → Prop) → Prop) (k134 : Int → Int → Int → Int → Int → e_M → Prop) (Q : e_M → Prop) (x1 : Int) (x2 : Int) (x3 : Int) (x5 : Int) (x7 : Int) (x8 : Int) (xs2 : Int) (xs1 : Int) (M : e_M) : Prop :=
  (∀ M1 : e_M, M1 = e_up M 4452 0 (e_w64 (xs1 + xs2)) → ((¬ x3 = 0 → (k134 x1 x2 x3 x7 (e_max x5 x8) M1)) ∧ (x3 = 0 → (k134 x1 x2 x3 x7 x8 M1))))
def VX1_survey_134 (c_X10_isThere : Nat → Int → Int → e_M → (Int → Prop) → Prop) (c_X1_reckon : Int → Int → Int → Int → e_M → (Int → e_M → Prop) → Prop) (c_X10_nameOf : Nat → Int → Int → e_M → (Int → Prop) → Prop) (c_X1_putWord : Int → e_M → (e_M → Prop) → Prop) (c_X1_put : Int → e_M → (e_M → Prop) → Prop) (k173 : Int → Int → Int → Int → Int → e_M → Prop) (Q : e_M → Prop) (x1 : Int) (x2 : Int) (x3 : Int) (x7 : Int) (xs0 : Int) (M : e_M) : Prop :=
  ((¬ (M 22 3) = 243 → (k173 x1 x2 (e_w64 (x3 + 1)) xs0 x7 M)) ∧ ((M 22 3) = 243 → (c_X10_nameOf ((M 4452 3).toNat) x1 x7 M (fun r1 => (c_X1_putWord r1 M (fun M2 => (c_X1_put 32 M2 (fun M3 => (k173 x1 x2 (e_w64 (x3 + 1)) xs0 x7 M3)))))))))
def VX1_survey_173 (c_X10_isThere : Nat → Int → Int → e_M → (Int → Prop) → Prop) (c_X1_reckon : Int → Int → Int → Int → e_M → (Int → e_M → Prop) → Prop) (c_X10_nameOf : Nat → Int → Int → e_M → (Int → Prop) → Prop) (c_X1_putWord : Int → e_M → (e_M → Prop) → Prop) (c_X1_put : Int → e_M → (e_M → Prop) → Prop) (k16 : Int → Int → Int → Int → Int → e_M → Prop) (Q : e_M → Prop) (x1 : Int) (x2 : Int) (x3 : Int) (x5 : Int) (x7 : Int) (M : e_M) : Prop :=
  (k16 x1 x2 x3 x5 (e_w32 (x7 + 1)) M)
def VX1_survey (c_X10_isThere : Nat → Int → Int → e_M → (Int → Prop) → Prop) (c_X1_reckon : Int → Int → Int → Int → e_M → (Int → e_M → Prop) → Prop) (c_X10_nameOf : Nat → Int → Int → e_M → (Int → Prop) → Prop) (c_X1_putWord : Int → e_M → (e_M → Prop) → Prop) (c_X1_put : Int → e_M → (e_M → Prop) → Prop) (k16 : Int → Int → Int → Int → Int → e_M → Prop) (Q : e_M → Prop) (x1 : Int) (M : e_M) : Prop :=
  (k16 x1 (M 22 9) 0 0 0 M)
def yX1_survey (i : Nat) : e_Y := x_get YX1_survey [YX10_isThere, YX1_reckon, YX10_nameOf, YX1_putWord, YX1_put] i
def pX1_surveyf : List x_I := [(0, 4, 1, 0, 0, 0, []), (1, 25, 1, 4, 4, 0, [(0, 6, 11), (0, 2, 22)]), (4, 25, 6, 9, 0, 0, []), (7, 5, 1, 2, 0, 0, []), (8, 1, 1, 0, 0, 0, []), (9, 6, 1, 3, 0, 0, []), (10, 1, 1, 0, 0, 0, []), (11, 6, 2, 5, 0, 0, []), (13, 0, 1, 0, 0, 0, []), (14, 5, 2, 7, 0, 0, []), (16, 49, 0, 0, 0, 0, []), (16, 2, 2, 7, 0, 0, []), (18, 4, 1, 0, 0, 0, []), (19, 25, 1, 3, 4, 0, [(0, 10, 15), (0, 0, 0)]), (22, 25, 10, 4, 4, 0, [(0, 20, 8), (0, 1, 24)]), (25, 2, 1, 1, 0, 0, []), (26, 27, 0, 0, 0, 0, []), (27, 18, 179, 3, 95, 0, []), (30, 4, 1, 0, 0, 0, []), (31, 25, 1, 3, 4, 0, [(0, 10, 15), (0, 0, 0)]), (34, 2, 1, 1, 0, 0, []), (35, 2, 2, 7, 0, 0, []), (37, 40, 0, 3, 12, 0, []), (40, 17, 173, 0, 92, 0, []), (43, 2, 1, 2, 0, 0, []), (44, 4, 1, 0, 0, 0, []), (45, 25, 1, 4, 4, 0, [(0, 6, 11), (0, 2, 22)]), (48, 25, 6, 8, 0, 0, []), (51, 18, 77, 3, 41, 0, []), (54, 4, 1, 0, 0, 0, []), (55, 2, 1, 2, 0, 0, []), (56, 4, 1, 0, 0, 0, []), (57, 25, 1, 4, 4, 0, [(0, 6, 11), (0, 2, 22)]), (60, 25, 6, 8, 0, 0, []), (63, 2, 1, 1, 0, 0, []), (64, 2, 2, 7, 0, 0, []), (66, 40, 1, 5, 3, 0, []), (69, 1, 1, 0, 0, 0, []), (70, 32, 77, 1, 41, 0, []), (74, 19, 173, 0, 92, 0, []), (77, 49, 0, 0, 0, 0, []), (77, 4, 1, 0, 0, 0, []), (78, 0, 1, 0, 0, 0, []), (79, 2, 1, 2, 0, 0, []), (80, 2, 1, 1, 0, 0, []), (81, 2, 2, 7, 0, 0, []), (83, 40, 1, 5, 3, 0, []), (86, 6, 2, 8, 0, 0, []), (88, 4, 1, 0, 0, 0, []), (89, 20, 0, 0, 0, 0, []), (90, 25, 1, 0, 3, 0, []), (93, 4, 1, 0, 0, 0, []), (94, 25, 1, 4, 4, 0, [(0, 6, 11), (0, 2, 22)]), (97, 25, 6, 3, 0, 0, []), (100, 0, 3, 0, 0, 241, []), (103, 18, 111, 1, 59, 0, []), (106, 3, 2, 8, 0, 0, []), (108, 19, 112, 0, 60, 0, []), (111, 1, 1, 0, 0, 1, []), (112, 49, 0, 0, 0, 0, []), (112, 10, 0, 0, 0, 0, []), (113, 26, 1, 0, 3, 0, []), (116, 3, 1, 3, 0, 0, []), (117, 1, 1, 0, 0, 0, []), (118, 32, 127, 1, 68, 0, []), (122, 3, 2, 8, 0, 0, []), (124, 19, 134, 0, 71, 0, []), (127, 3, 2, 5, 0, 0, []), (129, 3, 2, 8, 0, 0, []), (131, 39, 0, 1, 3, 0, []), (134, 49, 0, 0, 0, 0, []), (134, 6, 2, 5, 0, 0, []), (136, 3, 1, 3, 0, 0, []), (137, 1, 1, 0, 0, 1, []), (138, 10, 0, 0, 0, 0, []), (139, 6, 1, 3, 0, 0, []), (140, 4, 1, 0, 0, 0, []), (141, 25, 1, 4, 4, 0, [(0, 6, 11), (0, 2, 22)]), (144, 25, 6, 3, 0, 0, []), (147, 0, 3, 0, 0, 243, []), (150, 18, 173, 1, 92, 0, []), (153, 4, 1, 0, 0, 0, []), (154, 4, 1, 0, 0, 0, []), (155, 25, 1, 3, 4, 0, [(0, 10, 15), (0, 0, 0)]), (158, 2, 1, 1, 0, 0, []), (159, 2, 2, 7, 0, 0, []), (161, 40, 2, 3, 12, 0, []), (164, 40, 3, 2, 3, 0, []), (167, 4, 1, 0, 0, 0, []), (168, 0, 2, 0, 0, 32, []), (170, 40, 4, 2, 3, 0, []), (173, 49, 0, 0, 0, 0, []), (173, 8, 0, 7, 0, 1, []), (176, 19, 16, 0, 11, 0, []), (179, 4, 1, 0, 0, 0, []), (180, 25, 1, 4, 4, 0, [(0, 6, 11), (0, 2, 22)]), (183, 25, 6, 3, 0, 0, []), (186, 0, 3, 0, 0, 242, []), (189, 18, 198, 1, 103, 0, []), (192, 4, 1, 0, 0, 0, []), (193, 3, 2, 5, 0, 0, []), (195, 26, 1, 0, 3, 0, []), (198, 44, 0, 0, 0, 0, [])]
set_option maxRecDepth 20000 in
theorem qX1_surveyf : f_all yX1_survey YX1_survey pX1_surveyf :=
  ⟨f_aload_n (n := 0) (e_dx DX1_survey_0 0 rfl) rfl,
  f_getA (e_dx DX1_survey_0 1 rfl) fX1_35 rfl (by decide) (Nat.le_of_ble_eq_true rfl) rfl (by decide),
  f_getf (e_dx DX1_survey_0 2 rfl) fX1_101 rfl (by decide) (by decide) (by decide),
  f_istore_n (n := 2) (e_dx DX1_survey_0 3 rfl) rfl (by decide),
  f_lconst (n := 0) (e_dx DX1_survey_0 4 rfl) rfl,
  f_lstore_n (n := 3) (e_dx DX1_survey_0 5 rfl) rfl (by decide),
  f_lconst (n := 0) (e_dx DX1_survey_0 6 rfl) rfl,
  f_lstore (e_dx DX1_survey_0 7 rfl) (by decide),
  f_iconst (e_dx DX1_survey_0 8 rfl) ⟨by decide, by decide⟩,
  f_istore (e_dx DX1_survey_0 9 rfl) (by decide),
  trivial,
  f_iload (e_dx DX1_survey_0 10 rfl),
  f_aload_n (n := 0) (e_dx DX1_survey_0 11 rfl) rfl,
  f_getA (e_dx DX1_survey_0 12 rfl) fX1_31 rfl (by decide) (Nat.le_of_ble_eq_true rfl) rfl (by decide),
  f_getA (e_dx DX1_survey_0 13 rfl) fX1_104 rfl (by decide) (Nat.le_of_ble_eq_true rfl) rfl (by decide),
  f_iload_n (n := 1) (e_dx DX1_survey_0 14 rfl) rfl,
  f_iaload (e_dx DX1_survey_0 15 rfl),
  f_icmp_ge (e_dx DX1_survey_0 16 rfl) rfl,
  f_aload_n (n := 0) (e_dx DX1_survey_0 17 rfl) rfl,
  f_getA (e_dx DX1_survey_0 18 rfl) fX1_31 rfl (by decide) (Nat.le_of_ble_eq_true rfl) rfl (by decide),
  f_iload_n (n := 1) (e_dx DX1_survey_0 19 rfl) rfl,
  f_iload (e_dx DX1_survey_0 20 rfl),
  x_callV (e_dx DX1_survey_0 21 rfl) mwX10_isThere vwX10_isThere cX1_106 rfl,
  f_if_eq (e_dx DX1_survey_0 22 rfl) rfl,
  f_iload_n (n := 2) (e_dx DX1_survey_0 23 rfl) rfl,
  f_aload_n (n := 0) (e_dx DX1_survey_0 24 rfl) rfl,
  f_getA (e_dx DX1_survey_0 25 rfl) fX1_35 rfl (by decide) (Nat.le_of_ble_eq_true rfl) rfl (by decide),
  f_getf (e_dx DX1_survey_0 26 rfl) fX1_60 rfl (by decide) (by decide) (by decide),
  f_icmp_ge (e_dx DX1_survey_0 27 rfl) rfl,
  f_aload_n (n := 0) (e_dx DX1_survey_0 28 rfl) rfl,
  f_iload_n (n := 2) (e_dx DX1_survey_0 29 rfl) rfl,
  f_aload_n (n := 0) (e_dx DX1_survey_0 30 rfl) rfl,
  f_getA (e_dx DX1_survey_0 31 rfl) fX1_35 rfl (by decide) (Nat.le_of_ble_eq_true rfl) rfl (by decide),
  f_getf (e_dx DX1_survey_0 32 rfl) fX1_60 rfl (by decide) (by decide) (by decide),
  f_iload_n (n := 1) (e_dx DX1_survey_0 33 rfl) rfl,
  f_iload (e_dx DX1_survey_0 34 rfl),
  x_callV (e_dx DX1_survey_0 35 rfl) mwX1_reckon vwX1_reckon cX1_110 rfl,
  f_lconst (n := 0) (e_dx DX1_survey_0 36 rfl) rfl,
  f_lif_ne (e_dx DX1_survey_0 37 rfl) (e_dx DX1_survey_0 38 rfl) rfl,
  f_g19 (e_dx DX1_survey_0 39 rfl) rfl,
  trivial,
  f_aload_n (n := 0) (e_dx DX1_survey_1 0 rfl) rfl,
  f_iconst (e_dx DX1_survey_1 1 rfl) ⟨by decide, by decide⟩,
  f_iload_n (n := 2) (e_dx DX1_survey_1 2 rfl) rfl,
  f_iload_n (n := 1) (e_dx DX1_survey_1 3 rfl) rfl,
  f_iload (e_dx DX1_survey_1 4 rfl),
  x_callV (e_dx DX1_survey_1 5 rfl) mwX1_reckon vwX1_reckon cX1_110 rfl,
  f_lstore (e_dx DX1_survey_1 6 rfl) (by decide),
  f_aload_n (n := 0) (e_dx DX1_survey_1 7 rfl) rfl,
  f_g20 (e_dx DX1_survey_1 8 rfl),
  f_getL (e_dx DX1_survey_1 9 rfl) fX1_9 rfl (by decide),
  f_aload_n (n := 0) (e_dx DX1_survey_1 10 rfl) rfl,
  f_getA (e_dx DX1_survey_1 11 rfl) fX1_35 rfl (by decide) (Nat.le_of_ble_eq_true rfl) rfl (by decide),
  f_getf (e_dx DX1_survey_1 12 rfl) fX1_39 rfl (by decide) (by decide) (by decide),
  f_sipush (e_dx DX1_survey_1 13 rfl) ⟨by decide, by decide⟩,
  f_icmp_ne (e_dx DX1_survey_1 14 rfl) rfl,
  f_lload (e_dx DX1_survey_1 15 rfl),
  f_g19 (e_dx DX1_survey_1 16 rfl) rfl,
  f_lconst (n := 1) (e_dx DX1_survey_1 17 rfl) rfl,
  trivial,
  f_ladd (e_dx DX1_survey_1 18 rfl),
  f_putn (e_dx DX1_survey_1 19 rfl) fX1_9 (fun q hq => by cases hq; rfl) rfl (Or.inr (Or.inr rfl)) (by decide),
  f_lload_n (n := 3) (e_dx DX1_survey_1 20 rfl) rfl,
  f_lconst (n := 0) (e_dx DX1_survey_1 21 rfl) rfl,
  f_lif_ne (e_dx DX1_survey_1 22 rfl) (e_dx DX1_survey_1 23 rfl) rfl,
  f_lload (e_dx DX1_survey_1 24 rfl),
  f_g19 (e_dx DX1_survey_1 25 rfl) rfl,
  f_lload (e_dx DX1_survey_1 26 rfl),
  f_lload (e_dx DX1_survey_1 27 rfl),
  f_mmaxJ (e_dx DX1_survey_1 28 rfl) cX1_114 fm_s_mmaxJ fm_i fm_c_mmaxJ,
  trivial,
  f_lstore (e_dx DX1_survey_1 29 rfl) (by decide),
  f_lload_n (n := 3) (e_dx DX1_survey_1 30 rfl) rfl,
  f_lconst (n := 1) (e_dx DX1_survey_1 31 rfl) rfl,
  f_ladd (e_dx DX1_survey_1 32 rfl),
  f_lstore_n (n := 3) (e_dx DX1_survey_1 33 rfl) rfl (by decide),
  f_aload_n (n := 0) (e_dx DX1_survey_1 34 rfl) rfl,
  f_getA (e_dx DX1_survey_1 35 rfl) fX1_35 rfl (by decide) (Nat.le_of_ble_eq_true rfl) rfl (by decide),
  f_getf (e_dx DX1_survey_1 36 rfl) fX1_39 rfl (by decide) (by decide) (by decide),
  f_sipush (e_dx DX1_survey_1 37 rfl) ⟨by decide, by decide⟩,
  f_icmp_ne (e_dx DX1_survey_1 38 rfl) rfl,
  f_aload_n (n := 0) (e_dx DX1_survey_1 39 rfl) rfl,
  f_aload_n (n := 0) (e_dx DX1_survey_2 0 rfl) rfl,
  f_getA (e_dx DX1_survey_2 1 rfl) fX1_31 rfl (by decide) (Nat.le_of_ble_eq_true rfl) rfl (by decide),
  f_iload_n (n := 1) (e_dx DX1_survey_2 2 rfl) rfl,
  f_iload (e_dx DX1_survey_2 3 rfl),
  x_callV (e_dx DX1_survey_2 4 rfl) mwX10_nameOf vwX10_nameOf cX1_120 rfl,
  x_callV (e_dx DX1_survey_2 5 rfl) mwX1_putWord vwX1_putWord cX1_124 rfl,
  f_aload_n (n := 0) (e_dx DX1_survey_2 6 rfl) rfl,
  f_bipush (e_dx DX1_survey_2 7 rfl) ⟨by decide, by decide⟩,
  x_callV (e_dx DX1_survey_2 8 rfl) mwX1_put vwX1_put cX1_98 rfl,
  trivial,
  f_g8 (e_dx DX1_survey_2 9 rfl) ⟨by decide, by decide⟩,
  f_g19 (e_dx DX1_survey_2 10 rfl) rfl,
  f_aload_n (n := 0) (e_dx DX1_survey_2 11 rfl) rfl,
  f_getA (e_dx DX1_survey_2 12 rfl) fX1_35 rfl (by decide) (Nat.le_of_ble_eq_true rfl) rfl (by decide),
  f_getf (e_dx DX1_survey_2 13 rfl) fX1_39 rfl (by decide) (by decide) (by decide),
  f_sipush (e_dx DX1_survey_2 14 rfl) ⟨by decide, by decide⟩,
  f_icmp_ne (e_dx DX1_survey_2 15 rfl) rfl,
  f_aload_n (n := 0) (e_dx DX1_survey_2 16 rfl) rfl,
  f_lload (e_dx DX1_survey_2 17 rfl),
  f_putn (e_dx DX1_survey_2 18 rfl) fX1_9 (fun q hq => by cases hq; rfl) rfl (Or.inr (Or.inr rfl)) (by decide),
  ⟨(e_dx DX1_survey_2 19 rfl), rfl⟩, trivial⟩
def lX1_survey (c_X10_isThere : Nat → Int → Int → e_M → (Int → Prop) → Prop) (c_X1_reckon : Int → Int → Int → Int → e_M → (Int → e_M → Prop) → Prop) (c_X10_nameOf : Nat → Int → Int → e_M → (Int → Prop) → Prop) (c_X1_putWord : Int → e_M → (e_M → Prop) → Prop) (c_X1_put : Int → e_M → (e_M → Prop) → Prop) : List (Nat × f_Wt) := [(0, f_wm [(3, 10, 15), (1, 0, 0), (1, 0, 0)] (fun ar M R => c_X10_isThere (f_va (f_nth ar 0)) (f_vi (f_nth ar 1)) (f_vi (f_nth ar 2)) M (fun r => R (some (.inl r)) M))), (1, f_wm [(4462, 1, 7), (1, 0, 0), (1, 0, 0), (1, 0, 0), (1, 0, 0)] (fun ar M R => c_X1_reckon (f_vi (f_nth ar 1)) (f_vi (f_nth ar 2)) (f_vi (f_nth ar 3)) (f_vi (f_nth ar 4)) M (fun r M => R (some (.inr (.inl r))) M))), (2, f_wm [(3, 10, 15), (1, 0, 0), (1, 0, 0)] (fun ar M R => c_X10_nameOf (f_va (f_nth ar 0)) (f_vi (f_nth ar 1)) (f_vi (f_nth ar 2)) M (fun r => R (some (.inr (.inl r))) M))), (3, f_wm [(4462, 1, 7), (2, 0, 0)] (fun ar M R => c_X1_putWord (f_vi (f_nth ar 1)) M (fun M => R none M))), (4, f_wm [(4462, 1, 7), (1, 0, 0)] (fun ar M R => c_X1_put (f_vi (f_nth ar 1)) M (fun M => R none M)))]
set_option maxRecDepth 20000 in
theorem BX1_survey_16 {sh : Nat → Nat × Nat} {t : Nat} {rm : Nat × Nat × Nat} {cs : Nat × Nat} {R : f_Rt} {c_X10_isThere : Nat → Int → Int → e_M → (Int → Prop) → Prop} {c_X1_reckon : Int → Int → Int → Int → e_M → (Int → e_M → Prop) → Prop} {c_X10_nameOf : Nat → Int → Int → e_M → (Int → Prop) → Prop} {c_X1_putWord : Int → e_M → (e_M → Prop) → Prop} {c_X1_put : Int → e_M → (e_M → Prop) → Prop} {k173 : Int → Int → Int → Int → Int → e_M → Prop} {k77 : Int → Int → Int → Int → Int → e_M → Prop} {x1 : Int} {x2 : Int} {x3 : Int} {x5 : Int} {x7 : Int} {M : e_M} (C : f_Hy sh t yX1_survey rm cs 9 (lX1_survey c_X10_isThere c_X1_reckon c_X10_nameOf c_X1_putWord c_X1_put) R) (h173 : ∀ (x1 : Int) (x2 : Int) (x3 : Int) (x5 : Int) (x7 : Int) (M : e_M), k173 x1 x2 x3 x5 x7 M → f_E sh t YX1_survey rm cs (f_Q sh t R) 173 [.inr (.inr (.inl (1, 7, 4452))), .inl x1, .inl x2, .inr (.inl x3), .inr (.inr (.inr ())), .inr (.inl x5), .inr (.inr (.inr ())), .inl x7, .inr (.inr (.inr ())), .inr (.inr (.inr ()))] [] M) (h77 : ∀ (x1 : Int) (x2 : Int) (x3 : Int) (x5 : Int) (x7 : Int) (M : e_M), k77 x1 x2 x3 x5 x7 M → f_E sh t YX1_survey rm cs (f_Q sh t R) 77 [.inr (.inr (.inl (1, 7, 4452))), .inl x1, .inl x2, .inr (.inl x3), .inr (.inr (.inr ())), .inr (.inl x5), .inr (.inr (.inr ())), .inl x7, .inr (.inr (.inr ())), .inr (.inr (.inr ()))] [] M) (h : VX1_survey_16 c_X10_isThere c_X1_reckon c_X10_nameOf c_X1_putWord c_X1_put k173 k77 (fun M => R none M) x1 x2 x3 x5 x7 M) : f_E sh t YX1_survey rm cs (f_Q sh t R) 16 [.inr (.inr (.inl (1, 7, 4452))), .inl x1, .inl x2, .inr (.inl x3), .inr (.inr (.inr ())), .inr (.inl x5), .inr (.inr (.inr ())), .inl x7, .inr (.inr (.inr ())), .inr (.inr (.inr ()))] [] M :=
  f_go (KC := f_kc [(173, f_pl [(4462, 1, 7), (1, 0, 0), (1, 0, 0), (2, 0, 0), (0, 0, 0), (2, 0, 0), (0, 0, 0), (1, 0, 0), (0, 0, 0), (0, 0, 0)] [] (fun ls st M => k173 (f_vi (f_nth ls 1)) (f_vi (f_nth ls 2)) (f_vi (f_nth ls 3)) (f_vi (f_nth ls 5)) (f_vi (f_nth ls 7)) M)), (77, f_pl [(4462, 1, 7), (1, 0, 0), (1, 0, 0), (2, 0, 0), (0, 0, 0), (2, 0, 0), (0, 0, 0), (1, 0, 0), (0, 0, 0), (0, 0, 0)] [] (fun ls st M => k77 (f_vi (f_nth ls 1)) (f_vi (f_nth ls 2)) (f_vi (f_nth ls 3)) (f_vi (f_nth ls 5)) (f_vi (f_nth ls 7)) M))]) C qX1_surveyf (f_kc_cons (f_pl_ok rfl (fun ls st M h => h173 _ _ _ _ _ M h)) (f_kc_cons (f_pl_ok rfl (fun ls st M h => h77 _ _ _ _ _ M h)) f_kc_nil)) 105 11 h
set_option maxRecDepth 20000 in
theorem BX1_survey_77 {sh : Nat → Nat × Nat} {t : Nat} {rm : Nat × Nat × Nat} {cs : Nat × Nat} {R : f_Rt} {c_X10_isThere : Nat → Int → Int → e_M → (Int → Prop) → Prop} {c_X1_reckon : Int → Int → Int → Int → e_M → (Int → e_M → Prop) → Prop} {c_X10_nameOf : Nat → Int → Int → e_M → (Int → Prop) → Prop} {c_X1_putWord : Int → e_M → (e_M → Prop) → Prop} {c_X1_put : Int → e_M → (e_M → Prop) → Prop} {k112 : Int → Int → Int → Int → Int → Int → Int → Int → e_M → Prop} {x1 : Int} {x2 : Int} {x3 : Int} {x5 : Int} {x7 : Int} {M : e_M} (C : f_Hy sh t yX1_survey rm cs 9 (lX1_survey c_X10_isThere c_X1_reckon c_X10_nameOf c_X1_putWord c_X1_put) R) (h112 : ∀ (x1 : Int) (x2 : Int) (x3 : Int) (x5 : Int) (x7 : Int) (x8 : Int) (xs2 : Int) (xs1 : Int) (M : e_M), k112 x1 x2 x3 x5 x7 x8 xs2 xs1 M → f_E sh t YX1_survey rm cs (f_Q sh t R) 112 [.inr (.inr (.inl (1, 7, 4452))), .inl x1, .inl x2, .inr (.inl x3), .inr (.inr (.inr ())), .inr (.inl x5), .inr (.inr (.inr ())), .inl x7, .inr (.inl x8), .inr (.inr (.inr ()))] [.inr (.inl xs2), .inr (.inl xs1), .inr (.inr (.inl (1, 7, 4452)))] M) (h : VX1_survey_77 c_X10_isThere c_X1_reckon c_X10_nameOf c_X1_putWord c_X1_put k112 (fun M => R none M) x1 x2 x3 x5 x7 M) : f_E sh t YX1_survey rm cs (f_Q sh t R) 77 [.inr (.inr (.inl (1, 7, 4452))), .inl x1, .inl x2, .inr (.inl x3), .inr (.inr (.inr ())), .inr (.inl x5), .inr (.inr (.inr ())), .inl x7, .inr (.inr (.inr ())), .inr (.inr (.inr ()))] [] M :=
  f_go (KC := f_kc [(112, f_pl [(4462, 1, 7), (1, 0, 0), (1, 0, 0), (2, 0, 0), (0, 0, 0), (2, 0, 0), (0, 0, 0), (1, 0, 0), (2, 0, 0), (0, 0, 0)] [(2, 0, 0), (2, 0, 0), (4462, 1, 7)] (fun ls st M => k112 (f_vi (f_nth ls 1)) (f_vi (f_nth ls 2)) (f_vi (f_nth ls 3)) (f_vi (f_nth ls 5)) (f_vi (f_nth ls 7)) (f_vi (f_nth ls 8)) (f_vi (f_nth st 0)) (f_vi (f_nth st 1)) M))]) C qX1_surveyf (f_kc_cons (f_pl_ok rfl (fun ls st M h => h112 _ _ _ _ _ _ _ _ M h)) f_kc_nil) 105 41 h
set_option maxRecDepth 20000 in
theorem BX1_survey_112 {sh : Nat → Nat × Nat} {t : Nat} {rm : Nat × Nat × Nat} {cs : Nat × Nat} {R : f_Rt} {c_X10_isThere : Nat → Int → Int → e_M → (Int → Prop) → Prop} {c_X1_reckon : Int → Int → Int → Int → e_M → (Int → e_M → Prop) → Prop} {c_X10_nameOf : Nat → Int → Int → e_M → (Int → Prop) → Prop} {c_X1_putWord : Int → e_M → (e_M → Prop) → Prop} {c_X1_put : Int → e_M → (e_M → Prop) → Prop} {k134 : Int → Int → Int → Int → Int → e_M → Prop} {x1 : Int} {x2 : Int} {x3 : Int} {x5 : Int} {x7 : Int} {x8 : Int} {xs2 : Int} {xs1 : Int} {M : e_M} (C : f_Hy sh t yX1_survey rm cs 9 (lX1_survey c_X10_isThere c_X1_reckon c_X10_nameOf c_X1_putWord c_X1_put) R) (h134 : ∀ (x1 : Int) (x2 : Int) (x3 : Int) (x7 : Int) (xs0 : Int) (M : e_M), k134 x1 x2 x3 x7 xs0 M → f_E sh t YX1_survey rm cs (f_Q sh t R) 134 [.inr (.inr (.inl (1, 7, 4452))), .inl x1, .inl x2, .inr (.inl x3), .inr (.inr (.inr ())), .inr (.inr (.inr ())), .inr (.inr (.inr ())), .inl x7, .inr (.inr (.inr ())), .inr (.inr (.inr ()))] [.inr (.inl xs0)] M) (h : VX1_survey_112 c_X10_isThere c_X1_reckon c_X10_nameOf c_X1_putWord c_X1_put k134 (fun M => R none M) x1 x2 x3 x5 x7 x8 xs2 xs1 M) : f_E sh t YX1_survey rm cs (f_Q sh t R) 112 [.inr (.inr (.inl (1, 7, 4452))), .inl x1, .inl x2, .inr (.inl x3), .inr (.inr (.inr ())), .inr (.inl x5), .inr (.inr (.inr ())), .inl x7, .inr (.inl x8), .inr (.inr (.inr ()))] [.inr (.inl xs2), .inr (.inl xs1), .inr (.inr (.inl (1, 7, 4452)))] M :=
  f_go (KC := f_kc [(134, f_pl [(4462, 1, 7), (1, 0, 0), (1, 0, 0), (2, 0, 0), (0, 0, 0), (0, 0, 0), (0, 0, 0), (1, 0, 0), (0, 0, 0), (0, 0, 0)] [(2, 0, 0)] (fun ls st M => k134 (f_vi (f_nth ls 1)) (f_vi (f_nth ls 2)) (f_vi (f_nth ls 3)) (f_vi (f_nth ls 7)) (f_vi (f_nth st 0)) M))]) C qX1_surveyf (f_kc_cons (f_pl_ok rfl (fun ls st M h => h134 _ _ _ _ _ M h)) f_kc_nil) 105 60 h
set_option maxRecDepth 20000 in
theorem BX1_survey_134 {sh : Nat → Nat × Nat} {t : Nat} {rm : Nat × Nat × Nat} {cs : Nat × Nat} {R : f_Rt} {c_X10_isThere : Nat → Int → Int → e_M → (Int → Prop) → Prop} {c_X1_reckon : Int → Int → Int → Int → e_M → (Int → e_M → Prop) → Prop} {c_X10_nameOf : Nat → Int → Int → e_M → (Int → Prop) → Prop} {c_X1_putWord : Int → e_M → (e_M → Prop) → Prop} {c_X1_put : Int → e_M → (e_M → Prop) → Prop} {k173 : Int → Int → Int → Int → Int → e_M → Prop} {x1 : Int} {x2 : Int} {x3 : Int} {x7 : Int} {xs0 : Int} {M : e_M} (C : f_Hy sh t yX1_survey rm cs 9 (lX1_survey c_X10_isThere c_X1_reckon c_X10_nameOf c_X1_putWord c_X1_put) R) (h173 : ∀ (x1 : Int) (x2 : Int) (x3 : Int) (x5 : Int) (x7 : Int) (M : e_M), k173 x1 x2 x3 x5 x7 M → f_E sh t YX1_survey rm cs (f_Q sh t R) 173 [.inr (.inr (.inl (1, 7, 4452))), .inl x1, .inl x2, .inr (.inl x3), .inr (.inr (.inr ())), .inr (.inl x5), .inr (.inr (.inr ())), .inl x7, .inr (.inr (.inr ())), .inr (.inr (.inr ()))] [] M) (h : VX1_survey_134 c_X10_isThere c_X1_reckon c_X10_nameOf c_X1_putWord c_X1_put k173 (fun M => R none M) x1 x2 x3 x7 xs0 M) : f_E sh t YX1_survey rm cs (f_Q sh t R) 134 [.inr (.inr (.inl (1, 7, 4452))), .inl x1, .inl x2, .inr (.inl x3), .inr (.inr (.inr ())), .inr (.inr (.inr ())), .inr (.inr (.inr ())), .inl x7, .inr (.inr (.inr ())), .inr (.inr (.inr ()))] [.inr (.inl xs0)] M :=
  f_go (KC := f_kc [(173, f_pl [(4462, 1, 7), (1, 0, 0), (1, 0, 0), (2, 0, 0), (0, 0, 0), (2, 0, 0), (0, 0, 0), (1, 0, 0), (0, 0, 0), (0, 0, 0)] [] (fun ls st M => k173 (f_vi (f_nth ls 1)) (f_vi (f_nth ls 2)) (f_vi (f_nth ls 3)) (f_vi (f_nth ls 5)) (f_vi (f_nth ls 7)) M))]) C qX1_surveyf (f_kc_cons (f_pl_ok rfl (fun ls st M h => h173 _ _ _ _ _ M h)) f_kc_nil) 105 71 h
set_option maxRecDepth 20000 in
theorem BX1_survey_173 {sh : Nat → Nat × Nat} {t : Nat} {rm : Nat × Nat × Nat} {cs : Nat × Nat} {R : f_Rt} {c_X10_isThere : Nat → Int → Int → e_M → (Int → Prop) → Prop} {c_X1_reckon : Int → Int → Int → Int → e_M → (Int → e_M → Prop) → Prop} {c_X10_nameOf : Nat → Int → Int → e_M → (Int → Prop) → Prop} {c_X1_putWord : Int → e_M → (e_M → Prop) → Prop} {c_X1_put : Int → e_M → (e_M → Prop) → Prop} {k16 : Int → Int → Int → Int → Int → e_M → Prop} {x1 : Int} {x2 : Int} {x3 : Int} {x5 : Int} {x7 : Int} {M : e_M} (C : f_Hy sh t yX1_survey rm cs 9 (lX1_survey c_X10_isThere c_X1_reckon c_X10_nameOf c_X1_putWord c_X1_put) R) (h16 : ∀ (x1 : Int) (x2 : Int) (x3 : Int) (x5 : Int) (x7 : Int) (M : e_M), k16 x1 x2 x3 x5 x7 M → f_E sh t YX1_survey rm cs (f_Q sh t R) 16 [.inr (.inr (.inl (1, 7, 4452))), .inl x1, .inl x2, .inr (.inl x3), .inr (.inr (.inr ())), .inr (.inl x5), .inr (.inr (.inr ())), .inl x7, .inr (.inr (.inr ())), .inr (.inr (.inr ()))] [] M) (h : VX1_survey_173 c_X10_isThere c_X1_reckon c_X10_nameOf c_X1_putWord c_X1_put k16 (fun M => R none M) x1 x2 x3 x5 x7 M) : f_E sh t YX1_survey rm cs (f_Q sh t R) 173 [.inr (.inr (.inl (1, 7, 4452))), .inl x1, .inl x2, .inr (.inl x3), .inr (.inr (.inr ())), .inr (.inl x5), .inr (.inr (.inr ())), .inl x7, .inr (.inr (.inr ())), .inr (.inr (.inr ()))] [] M :=
  f_go (KC := f_kc [(16, f_pl [(4462, 1, 7), (1, 0, 0), (1, 0, 0), (2, 0, 0), (0, 0, 0), (2, 0, 0), (0, 0, 0), (1, 0, 0), (0, 0, 0), (0, 0, 0)] [] (fun ls st M => k16 (f_vi (f_nth ls 1)) (f_vi (f_nth ls 2)) (f_vi (f_nth ls 3)) (f_vi (f_nth ls 5)) (f_vi (f_nth ls 7)) M))]) C qX1_surveyf (f_kc_cons (f_pl_ok rfl (fun ls st M h => h16 _ _ _ _ _ M h)) f_kc_nil) 105 92 h
set_option maxRecDepth 20000 in
theorem BX1_survey {sh : Nat → Nat × Nat} {t : Nat} {rm : Nat × Nat × Nat} {cs : Nat × Nat} {R : f_Rt} {c_X10_isThere : Nat → Int → Int → e_M → (Int → Prop) → Prop} {c_X1_reckon : Int → Int → Int → Int → e_M → (Int → e_M → Prop) → Prop} {c_X10_nameOf : Nat → Int → Int → e_M → (Int → Prop) → Prop} {c_X1_putWord : Int → e_M → (e_M → Prop) → Prop} {c_X1_put : Int → e_M → (e_M → Prop) → Prop} {k16 : Int → Int → Int → Int → Int → e_M → Prop} {x1 : Int} {M : e_M} (C : f_Hy sh t yX1_survey rm cs 9 (lX1_survey c_X10_isThere c_X1_reckon c_X10_nameOf c_X1_putWord c_X1_put) R) (h16 : ∀ (x1 : Int) (x2 : Int) (x3 : Int) (x5 : Int) (x7 : Int) (M : e_M), k16 x1 x2 x3 x5 x7 M → f_E sh t YX1_survey rm cs (f_Q sh t R) 16 [.inr (.inr (.inl (1, 7, 4452))), .inl x1, .inl x2, .inr (.inl x3), .inr (.inr (.inr ())), .inr (.inl x5), .inr (.inr (.inr ())), .inl x7, .inr (.inr (.inr ())), .inr (.inr (.inr ()))] [] M) (h : VX1_survey c_X10_isThere c_X1_reckon c_X10_nameOf c_X1_putWord c_X1_put k16 (fun M => R none M) x1 M) : f_E sh t YX1_survey rm cs (f_Q sh t R) 0 [.inr (.inr (.inl (1, 7, 4452))), .inl x1, .inr (.inr (.inr ())), .inr (.inr (.inr ())), .inr (.inr (.inr ())), .inr (.inr (.inr ())), .inr (.inr (.inr ())), .inr (.inr (.inr ())), .inr (.inr (.inr ())), .inr (.inr (.inr ()))] [] M :=
  f_go (KC := f_kc [(16, f_pl [(4462, 1, 7), (1, 0, 0), (1, 0, 0), (2, 0, 0), (0, 0, 0), (2, 0, 0), (0, 0, 0), (1, 0, 0), (0, 0, 0), (0, 0, 0)] [] (fun ls st M => k16 (f_vi (f_nth ls 1)) (f_vi (f_nth ls 2)) (f_vi (f_nth ls 3)) (f_vi (f_nth ls 5)) (f_vi (f_nth ls 7)) M))]) C qX1_surveyf (f_kc_cons (f_pl_ok rfl (fun ls st M h => h16 _ _ _ _ _ M h)) f_kc_nil) 105 0 h
def WX1_survey_173 (H16 : Int → Int → Int → Int → Int → e_M → Prop) (Q : e_M → Prop) (x1 : Int) (x2 : Int) (x3 : Int) (x5 : Int) (x7 : Int) (M : e_M) : Prop :=
  VX1_survey_173 WX10_isThere WX1_reckon WX10_nameOf WX1_putWord WX1_put H16 Q x1 x2 x3 x5 x7 M
def WX1_survey_134 (H16 : Int → Int → Int → Int → Int → e_M → Prop) (Q : e_M → Prop) (x1 : Int) (x2 : Int) (x3 : Int) (x7 : Int) (xs0 : Int) (M : e_M) : Prop :=
  VX1_survey_134 WX10_isThere WX1_reckon WX10_nameOf WX1_putWord WX1_put (WX1_survey_173 H16 Q) Q x1 x2 x3 x7 xs0 M
def WX1_survey_112 (H16 : Int → Int → Int → Int → Int → e_M → Prop) (Q : e_M → Prop) (x1 : Int) (x2 : Int) (x3 : Int) (x5 : Int) (x7 : Int) (x8 : Int) (xs2 : Int) (xs1 : Int) (M : e_M) : Prop :=
  VX1_survey_112 WX10_isThere WX1_reckon WX10_nameOf WX1_putWord WX1_put (WX1_survey_134 H16 Q) Q x1 x2 x3 x5 x7 x8 xs2 xs1 M
def WX1_survey_77 (H16 : Int → Int → Int → Int → Int → e_M → Prop) (Q : e_M → Prop) (x1 : Int) (x2 : Int) (x3 : Int) (x5 : Int) (x7 : Int) (M : e_M) : Prop :=
  VX1_survey_77 WX10_isThere WX1_reckon WX10_nameOf WX1_putWord WX1_put (WX1_survey_112 H16 Q) Q x1 x2 x3 x5 x7 M
def WX1_survey_16 (Q : e_M → Prop) : Nat → Int → Int → Int → Int → Int → e_M → Prop
  | 0, _, _, _, _, _, _ => False
  | n + 1, x1, x2, x3, x5, x7, M =>
    VX1_survey_16 WX10_isThere WX1_reckon WX10_nameOf WX1_putWord WX1_put (WX1_survey_173 (WX1_survey_16 Q n) Q) (WX1_survey_77 (WX1_survey_16 Q n) Q) Q x1 x2 x3 x5 x7 M
def WX1_survey (x1 : Int) (M : e_M) (Q : e_M → Prop) : Prop :=
  VX1_survey WX10_isThere WX1_reckon WX10_nameOf WX1_putWord WX1_put (fun x1 x2 x3 x5 x7 M => ∃ j, WX1_survey_16 Q j x1 x2 x3 x5 x7 M) Q x1 M
theorem PX1_survey_173 {sh : Nat → Nat × Nat} {t : Nat} {rm : Nat × Nat × Nat} {cs : Nat × Nat} {R : f_Rt} {H16 : Int → Int → Int → Int → Int → e_M → Prop} {x1 : Int} {x2 : Int} {x3 : Int} {x5 : Int} {x7 : Int} {M : e_M} (C : f_Hy sh t yX1_survey rm cs 9 (lX1_survey WX10_isThere WX1_reckon WX10_nameOf WX1_putWord WX1_put) R) (g16 : ∀ (x1 : Int) (x2 : Int) (x3 : Int) (x5 : Int) (x7 : Int) (M : e_M), H16 x1 x2 x3 x5 x7 M → f_E sh t YX1_survey rm cs (f_Q sh t R) 16 [.inr (.inr (.inl (1, 7, 4452))), .inl x1, .inl x2, .inr (.inl x3), .inr (.inr (.inr ())), .inr (.inl x5), .inr (.inr (.inr ())), .inl x7, .inr (.inr (.inr ())), .inr (.inr (.inr ()))] [] M) (h : WX1_survey_173 H16 (fun M => R none M) x1 x2 x3 x5 x7 M) : f_E sh t YX1_survey rm cs (f_Q sh t R) 173 [.inr (.inr (.inl (1, 7, 4452))), .inl x1, .inl x2, .inr (.inl x3), .inr (.inr (.inr ())), .inr (.inl x5), .inr (.inr (.inr ())), .inl x7, .inr (.inr (.inr ())), .inr (.inr (.inr ()))] [] M :=
  BX1_survey_173 C g16 h
theorem PX1_survey_134 {sh : Nat → Nat × Nat} {t : Nat} {rm : Nat × Nat × Nat} {cs : Nat × Nat} {R : f_Rt} {H16 : Int → Int → Int → Int → Int → e_M → Prop} {x1 : Int} {x2 : Int} {x3 : Int} {x7 : Int} {xs0 : Int} {M : e_M} (C : f_Hy sh t yX1_survey rm cs 9 (lX1_survey WX10_isThere WX1_reckon WX10_nameOf WX1_putWord WX1_put) R) (g16 : ∀ (x1 : Int) (x2 : Int) (x3 : Int) (x5 : Int) (x7 : Int) (M : e_M), H16 x1 x2 x3 x5 x7 M → f_E sh t YX1_survey rm cs (f_Q sh t R) 16 [.inr (.inr (.inl (1, 7, 4452))), .inl x1, .inl x2, .inr (.inl x3), .inr (.inr (.inr ())), .inr (.inl x5), .inr (.inr (.inr ())), .inl x7, .inr (.inr (.inr ())), .inr (.inr (.inr ()))] [] M) (h : WX1_survey_134 H16 (fun M => R none M) x1 x2 x3 x7 xs0 M) : f_E sh t YX1_survey rm cs (f_Q sh t R) 134 [.inr (.inr (.inl (1, 7, 4452))), .inl x1, .inl x2, .inr (.inl x3), .inr (.inr (.inr ())), .inr (.inr (.inr ())), .inr (.inr (.inr ())), .inl x7, .inr (.inr (.inr ())), .inr (.inr (.inr ()))] [.inr (.inl xs0)] M :=
  BX1_survey_134 C (fun x1 x2 x3 x5 x7 M h => PX1_survey_173 C g16 h) h
theorem PX1_survey_112 {sh : Nat → Nat × Nat} {t : Nat} {rm : Nat × Nat × Nat} {cs : Nat × Nat} {R : f_Rt} {H16 : Int → Int → Int → Int → Int → e_M → Prop} {x1 : Int} {x2 : Int} {x3 : Int} {x5 : Int} {x7 : Int} {x8 : Int} {xs2 : Int} {xs1 : Int} {M : e_M} (C : f_Hy sh t yX1_survey rm cs 9 (lX1_survey WX10_isThere WX1_reckon WX10_nameOf WX1_putWord WX1_put) R) (g16 : ∀ (x1 : Int) (x2 : Int) (x3 : Int) (x5 : Int) (x7 : Int) (M : e_M), H16 x1 x2 x3 x5 x7 M → f_E sh t YX1_survey rm cs (f_Q sh t R) 16 [.inr (.inr (.inl (1, 7, 4452))), .inl x1, .inl x2, .inr (.inl x3), .inr (.inr (.inr ())), .inr (.inl x5), .inr (.inr (.inr ())), .inl x7, .inr (.inr (.inr ())), .inr (.inr (.inr ()))] [] M) (h : WX1_survey_112 H16 (fun M => R none M) x1 x2 x3 x5 x7 x8 xs2 xs1 M) : f_E sh t YX1_survey rm cs (f_Q sh t R) 112 [.inr (.inr (.inl (1, 7, 4452))), .inl x1, .inl x2, .inr (.inl x3), .inr (.inr (.inr ())), .inr (.inl x5), .inr (.inr (.inr ())), .inl x7, .inr (.inl x8), .inr (.inr (.inr ()))] [.inr (.inl xs2), .inr (.inl xs1), .inr (.inr (.inl (1, 7, 4452)))] M :=
  BX1_survey_112 C (fun x1 x2 x3 x7 xs0 M h => PX1_survey_134 C g16 h) h
theorem PX1_survey_77 {sh : Nat → Nat × Nat} {t : Nat} {rm : Nat × Nat × Nat} {cs : Nat × Nat} {R : f_Rt} {H16 : Int → Int → Int → Int → Int → e_M → Prop} {x1 : Int} {x2 : Int} {x3 : Int} {x5 : Int} {x7 : Int} {M : e_M} (C : f_Hy sh t yX1_survey rm cs 9 (lX1_survey WX10_isThere WX1_reckon WX10_nameOf WX1_putWord WX1_put) R) (g16 : ∀ (x1 : Int) (x2 : Int) (x3 : Int) (x5 : Int) (x7 : Int) (M : e_M), H16 x1 x2 x3 x5 x7 M → f_E sh t YX1_survey rm cs (f_Q sh t R) 16 [.inr (.inr (.inl (1, 7, 4452))), .inl x1, .inl x2, .inr (.inl x3), .inr (.inr (.inr ())), .inr (.inl x5), .inr (.inr (.inr ())), .inl x7, .inr (.inr (.inr ())), .inr (.inr (.inr ()))] [] M) (h : WX1_survey_77 H16 (fun M => R none M) x1 x2 x3 x5 x7 M) : f_E sh t YX1_survey rm cs (f_Q sh t R) 77 [.inr (.inr (.inl (1, 7, 4452))), .inl x1, .inl x2, .inr (.inl x3), .inr (.inr (.inr ())), .inr (.inl x5), .inr (.inr (.inr ())), .inl x7, .inr (.inr (.inr ())), .inr (.inr (.inr ()))] [] M :=
  BX1_survey_77 C (fun x1 x2 x3 x5 x7 x8 xs2 xs1 M h => PX1_survey_112 C g16 h) h
theorem PX1_survey_16 {sh : Nat → Nat × Nat} {t : Nat} {rm : Nat × Nat × Nat} {cs : Nat × Nat} {R : f_Rt} (C : f_Hy sh t yX1_survey rm cs 9 (lX1_survey WX10_isThere WX1_reckon WX10_nameOf WX1_putWord WX1_put) R) : ∀ (n : Nat) (x1 : Int) (x2 : Int) (x3 : Int) (x5 : Int) (x7 : Int) (M : e_M), WX1_survey_16 (fun M => R none M) n x1 x2 x3 x5 x7 M → f_E sh t YX1_survey rm cs (f_Q sh t R) 16 [.inr (.inr (.inl (1, 7, 4452))), .inl x1, .inl x2, .inr (.inl x3), .inr (.inr (.inr ())), .inr (.inl x5), .inr (.inr (.inr ())), .inl x7, .inr (.inr (.inr ())), .inr (.inr (.inr ()))] [] M := by
  intro n
  induction n with
  | zero => intro x1 x2 x3 x5 x7 M h; exact h.elim
  | succ n ih => intro x1 x2 x3 x5 x7 M h; exact BX1_survey_16 C (fun x1 x2 x3 x5 x7 M h => PX1_survey_173 C ih h) (fun x1 x2 x3 x5 x7 M h => PX1_survey_77 C ih h) h
theorem PX1_survey {sh : Nat → Nat × Nat} {t : Nat} {rm : Nat × Nat × Nat} {cs : Nat × Nat} {R : f_Rt} {x1 : Int} {M : e_M} (C : f_Hy sh t yX1_survey rm cs 9 (lX1_survey WX10_isThere WX1_reckon WX10_nameOf WX1_putWord WX1_put) R) (h : WX1_survey x1 M (fun M => R none M)) : f_E sh t YX1_survey rm cs (f_Q sh t R) 0 [.inr (.inr (.inl (1, 7, 4452))), .inl x1, .inr (.inr (.inr ())), .inr (.inr (.inr ())), .inr (.inr (.inr ())), .inr (.inr (.inr ())), .inr (.inr (.inr ())), .inr (.inr (.inr ())), .inr (.inr (.inr ())), .inr (.inr (.inr ()))] [] M :=
  BX1_survey C (fun x1 x2 x3 x5 x7 M ⟨j, h⟩ => PX1_survey_16 C j _ _ _ _ _ _ h) h
def wX1_survey : f_Wt := f_wm [(4462, 1, 7), (1, 0, 0)] (fun ar M R => WX1_survey (f_vi (f_nth ar 1)) M (fun M => R none M))
theorem TX1_survey {sh : Nat → Nat × Nat} {t : Nat} : f_Mt sh t YX1_survey 9 (wX1_survey) :=
  f_Mt_of (k := 8) (Nat.le_of_ble_eq_true rfl) rfl rfl (fun ar M R rm cs h1 h2 h3 hX h => PX1_survey ⟨Nat.le_of_ble_eq_true rfl, h1, h2, h3, ⟨(f_Mt.up (Nat.le_of_ble_eq_true rfl) TX10_isThere), (f_Mt.up (Nat.le_of_ble_eq_true rfl) TX1_reckon), (f_Mt.up (Nat.le_of_ble_eq_true rfl) TX10_nameOf), (f_Mt.up (Nat.le_of_ble_eq_true rfl) TX1_putWord), (f_Mt.up (Nat.le_of_ble_eq_true rfl) TX1_put), trivial⟩, hX⟩ h)
def VX1_reply_76 (c_X10_find : Nat → Int → e_M → (Int → Prop) → Prop) (c_X1_show : Int → e_M → (e_M → Prop) → Prop) (c_X1_trace : e_M → (e_M → Prop) → Prop) (c_X1_survey : Int → e_M → (e_M → Prop) → Prop) (k130 : Int → e_M → Prop) (k135 : Int → Int → e_M → Prop) (Q : e_M → Prop) (x3 : Int) (M : e_M) : Prop :=
  (((M 22 8) ≤ x3 → (c_X1_survey (M 22 4) M (fun M1 => (Q M1)))) ∧ (x3 < (M 22 8) → ((0 ≤ x3 ∧ x3 < 640) ∧ (((M 23 (x3.toNat)) = 257 → (k130 x3 M)) ∧ (¬ (M 23 (x3.toNat)) = 257 → (((M 23 (x3.toNat)) = 224 → (k130 x3 M)) ∧ (¬ (M 23 (x3.toNat)) = 224 → (((M 23 (x3.toNat)) = 258 → (k130 x3 M)) ∧ (¬ (M 23 (x3.toNat)) = 258 → ((¬ (M 23 (x3.toNat)) = 259 → (k135 x3 0 M)) ∧ ((M 23 (x3.toNat)) = 259 → (k130 x3 M))))))))))))
def VX1_reply_130 (c_X10_find : Nat → Int → e_M → (Int → Prop) → Prop) (c_X1_show : Int → e_M → (e_M → Prop) → Prop) (c_X1_trace : e_M → (e_M → Prop) → Prop) (c_X1_survey : Int → e_M → (e_M → Prop) → Prop) (k135 : Int → Int → e_M → Prop) (Q : e_M → Prop) (x3 : Int) (M : e_M) : Prop :=
  (k135 x3 1 M)
def VX1_reply_135 (c_X10_find : Nat → Int → e_M → (Int → Prop) → Prop) (c_X1_show : Int → e_M → (e_M → Prop) → Prop) (c_X1_trace : e_M → (e_M → Prop) → Prop) (c_X1_survey : Int → e_M → (e_M → Prop) → Prop) (k167 : Int → Int → Int → e_M → Prop) (Q : e_M → Prop) (x3 : Int) (xs0 : Int) (M : e_M) : Prop :=
  ((xs0 = 0 → (k167 x3 (-1) x3 M)) ∧ (¬ xs0 = 0 → ((0 ≤ x3 ∧ x3 < 640) ∧ (c_X10_find ((M 4452 3).toNat) (M 24 (x3.toNat)) M (fun r1 => (k167 x3 r1 x3 M))))))
def VX1_reply_167 (c_X10_find : Nat → Int → e_M → (Int → Prop) → Prop) (c_X1_show : Int → e_M → (e_M → Prop) → Prop) (c_X1_trace : e_M → (e_M → Prop) → Prop) (c_X1_survey : Int → e_M → (e_M → Prop) → Prop) (k76 : Int → e_M → Prop) (Q : e_M → Prop) (x3 : Int) (xs2 : Int) (xs1 : Int) (M : e_M) : Prop :=
  ((0 ≤ xs1 ∧ xs1 < 640) ∧ (∀ M1 : e_M, M1 = e_up M 4454 (xs1.toNat) xs2 → (k76 (e_w32 (x3 + 1)) M1)))
def VX1_reply (c_X10_find : Nat → Int → e_M → (Int → Prop) → Prop) (c_X1_show : Int → e_M → (e_M → Prop) → Prop) (c_X1_trace : e_M → (e_M → Prop) → Prop) (c_X1_survey : Int → e_M → (e_M → Prop) → Prop) (k76 : Int → e_M → Prop) (Q : e_M → Prop) (a1 : Nat) (M : e_M) : Prop :=
  (∀ M1 : e_M, M1 = e_up M 4452 3 ((a1 : Nat) : Int) → (∀ M2 : e_M, M2 = e_up M1 4452 4 ((22 : Nat) : Int) → (∀ M3 : e_M, M3 = e_up M2 4452 0 0 → (∀ M4 : e_M, M4 = e_up M3 4452 2 0 → ((¬ (M4 22 3) = 244 → ((¬ (M4 22 3) = 245 → (k76 0 M4)) ∧ ((M4 22 3) = 245 → (c_X1_trace M4 (fun M5 => (Q M5)))))) ∧ ((M4 22 3) = 244 → (c_X10_find ((M4 4452 3).toNat) (M4 22 5) M4 (fun r6 => (c_X1_show r6 M4 (fun M7 => (Q M7)))))))))))
def yX1_reply (i : Nat) : e_Y := x_get YX1_reply [YX10_find, YX1_show, YX1_trace, YX1_survey] i
def pX1_replyf : List x_I := [(0, 4, 1, 0, 0, 0, []), (1, 4, 1, 1, 0, 0, []), (2, 26, 1, 3, 4, 0, [(0, 10, 15), (0, 0, 0)]), (5, 4, 1, 0, 0, 0, []), (6, 4, 1, 2, 0, 0, []), (7, 26, 1, 4, 4, 0, [(0, 6, 11), (0, 2, 22)]), (10, 4, 1, 0, 0, 0, []), (11, 1, 1, 0, 0, 0, []), (12, 26, 1, 0, 3, 0, []), (15, 4, 1, 0, 0, 0, []), (16, 0, 1, 0, 0, 0, []), (17, 26, 1, 2, 0, 0, []), (20, 4, 1, 0, 0, 0, []), (21, 25, 1, 4, 4, 0, [(0, 6, 11), (0, 2, 22)]), (24, 25, 6, 3, 0, 0, []), (27, 0, 3, 0, 0, 244, []), (30, 18, 54, 1, 27, 0, []), (33, 4, 1, 0, 0, 0, []), (34, 4, 1, 0, 0, 0, []), (35, 25, 1, 3, 4, 0, [(0, 10, 15), (0, 0, 0)]), (38, 4, 1, 0, 0, 0, []), (39, 25, 1, 4, 4, 0, [(0, 6, 11), (0, 2, 22)]), (42, 25, 6, 5, 3, 0, []), (45, 40, 0, 2, 12, 0, []), (48, 40, 1, 2, 3, 0, []), (51, 19, 185, 0, 91, 0, []), (54, 4, 1, 0, 0, 0, []), (55, 25, 1, 4, 4, 0, [(0, 6, 11), (0, 2, 22)]), (58, 25, 6, 3, 0, 0, []), (61, 0, 3, 0, 0, 245, []), (64, 18, 74, 1, 35, 0, []), (67, 4, 1, 0, 0, 0, []), (68, 40, 2, 1, 3, 0, []), (71, 19, 185, 0, 91, 0, []), (74, 0, 1, 0, 0, 0, []), (75, 5, 1, 3, 0, 0, []), (76, 49, 0, 0, 0, 0, []), (76, 2, 1, 3, 0, 0, []), (77, 4, 1, 0, 0, 0, []), (78, 25, 1, 4, 4, 0, [(0, 6, 11), (0, 2, 22)]), (81, 25, 6, 8, 0, 0, []), (84, 18, 174, 3, 86, 0, []), (87, 4, 1, 0, 0, 0, []), (88, 25, 1, 4, 4, 0, [(0, 6, 11), (0, 2, 22)]), (91, 25, 6, 6, 4, 0, [(0, 20, 640), (0, 1, 1)]), (94, 2, 1, 3, 0, 0, []), (95, 27, 0, 0, 0, 0, []), (96, 5, 2, 4, 0, 0, []), (98, 2, 2, 4, 0, 0, []), (100, 0, 3, 0, 0, 257, []), (103, 18, 130, 0, 61, 0, []), (106, 2, 2, 4, 0, 0, []), (108, 0, 3, 0, 0, 224, []), (111, 18, 130, 0, 61, 0, []), (114, 2, 2, 4, 0, 0, []), (116, 0, 3, 0, 0, 258, []), (119, 18, 130, 0, 61, 0, []), (122, 2, 2, 4, 0, 0, []), (124, 0, 3, 0, 0, 259, []), (127, 18, 134, 1, 64, 0, []), (130, 49, 0, 0, 0, 0, []), (130, 0, 1, 0, 0, 1, []), (131, 19, 135, 0, 65, 0, []), (134, 0, 1, 0, 0, 0, []), (135, 49, 0, 0, 0, 0, []), (135, 5, 2, 5, 0, 0, []), (137, 4, 1, 0, 0, 0, []), (138, 25, 1, 5, 4, 0, [(0, 20, 640), (0, 1, 2)]), (141, 2, 1, 3, 0, 0, []), (142, 2, 2, 5, 0, 0, []), (144, 17, 166, 0, 81, 0, []), (147, 4, 1, 0, 0, 0, []), (148, 25, 1, 3, 4, 0, [(0, 10, 15), (0, 0, 0)]), (151, 4, 1, 0, 0, 0, []), (152, 25, 1, 4, 4, 0, [(0, 6, 11), (0, 2, 22)]), (155, 25, 6, 7, 4, 0, [(0, 23, 640), (0, 1, 2)]), (158, 2, 1, 3, 0, 0, []), (159, 27, 0, 1, 0, 0, []), (160, 40, 0, 2, 12, 0, []), (163, 19, 167, 0, 82, 0, []), (166, 0, 1, 0, 0, (-1), []), (167, 49, 0, 0, 0, 0, []), (167, 28, 0, 0, 0, 0, []), (168, 8, 0, 3, 0, 1, []), (171, 19, 76, 0, 37, 0, []), (174, 4, 1, 0, 0, 0, []), (175, 4, 1, 0, 0, 0, []), (176, 25, 1, 4, 4, 0, [(0, 6, 11), (0, 2, 22)]), (179, 25, 6, 4, 0, 0, []), (182, 40, 3, 2, 3, 0, []), (185, 44, 0, 0, 0, 0, [])]
set_option maxRecDepth 20000 in
theorem qX1_replyf : f_all yX1_reply YX1_reply pX1_replyf :=
  ⟨f_aload_n (n := 0) (e_dx DX1_reply_0 0 rfl) rfl,
  f_aload_n (n := 1) (e_dx DX1_reply_0 1 rfl) rfl,
  f_putA (e_dx DX1_reply_0 2 rfl) fX1_31 (fun q hq => by cases hq; rfl) rfl (by decide) rfl,
  f_aload_n (n := 0) (e_dx DX1_reply_0 3 rfl) rfl,
  f_aload_n (n := 2) (e_dx DX1_reply_0 4 rfl) rfl,
  f_putA (e_dx DX1_reply_0 5 rfl) fX1_35 (fun q hq => by cases hq; rfl) rfl (by decide) rfl,
  f_aload_n (n := 0) (e_dx DX1_reply_0 6 rfl) rfl,
  f_lconst (n := 0) (e_dx DX1_reply_0 7 rfl) rfl,
  f_putn (e_dx DX1_reply_0 8 rfl) fX1_9 (fun q hq => by cases hq; rfl) rfl (Or.inr (Or.inr rfl)) (by decide),
  f_aload_n (n := 0) (e_dx DX1_reply_0 9 rfl) rfl,
  f_iconst (e_dx DX1_reply_0 10 rfl) ⟨by decide, by decide⟩,
  f_putn (e_dx DX1_reply_0 11 rfl) fX1_19 (fun q hq => by cases hq; rfl) rfl (Or.inl rfl) (by decide),
  f_aload_n (n := 0) (e_dx DX1_reply_0 12 rfl) rfl,
  f_getA (e_dx DX1_reply_0 13 rfl) fX1_35 rfl (by decide) (Nat.le_of_ble_eq_true rfl) rfl (by decide),
  f_getf (e_dx DX1_reply_0 14 rfl) fX1_39 rfl (by decide) (by decide) (by decide),
  f_sipush (e_dx DX1_reply_0 15 rfl) ⟨by decide, by decide⟩,
  f_icmp_ne (e_dx DX1_reply_0 16 rfl) rfl,
  f_aload_n (n := 0) (e_dx DX1_reply_0 17 rfl) rfl,
  f_aload_n (n := 0) (e_dx DX1_reply_0 18 rfl) rfl,
  f_getA (e_dx DX1_reply_0 19 rfl) fX1_31 rfl (by decide) (Nat.le_of_ble_eq_true rfl) rfl (by decide),
  f_aload_n (n := 0) (e_dx DX1_reply_0 20 rfl) rfl,
  f_getA (e_dx DX1_reply_0 21 rfl) fX1_35 rfl (by decide) (Nat.le_of_ble_eq_true rfl) rfl (by decide),
  f_getL (e_dx DX1_reply_0 22 rfl) fX1_44 rfl (by decide),
  x_callV (e_dx DX1_reply_0 23 rfl) mwX10_find vwX10_find cX1_47 rfl,
  x_callV (e_dx DX1_reply_0 24 rfl) mwX1_show vwX1_show cX1_53 rfl,
  f_g19 (e_dx DX1_reply_0 25 rfl) rfl,
  f_aload_n (n := 0) (e_dx DX1_reply_0 26 rfl) rfl,
  f_getA (e_dx DX1_reply_0 27 rfl) fX1_35 rfl (by decide) (Nat.le_of_ble_eq_true rfl) rfl (by decide),
  f_getf (e_dx DX1_reply_0 28 rfl) fX1_39 rfl (by decide) (by decide) (by decide),
  f_sipush (e_dx DX1_reply_0 29 rfl) ⟨by decide, by decide⟩,
  f_icmp_ne (e_dx DX1_reply_0 30 rfl) rfl,
  f_aload_n (n := 0) (e_dx DX1_reply_0 31 rfl) rfl,
  x_callV (e_dx DX1_reply_0 32 rfl) mwX1_trace vwX1_trace cX1_57 rfl,
  f_g19 (e_dx DX1_reply_0 33 rfl) rfl,
  f_iconst (e_dx DX1_reply_0 34 rfl) ⟨by decide, by decide⟩,
  f_istore_n (n := 3) (e_dx DX1_reply_0 35 rfl) rfl (by decide),
  trivial,
  f_iload_n (n := 3) (e_dx DX1_reply_0 36 rfl) rfl,
  f_aload_n (n := 0) (e_dx DX1_reply_0 37 rfl) rfl,
  f_getA (e_dx DX1_reply_0 38 rfl) fX1_35 rfl (by decide) (Nat.le_of_ble_eq_true rfl) rfl (by decide),
  f_getf (e_dx DX1_reply_0 39 rfl) fX1_60 rfl (by decide) (by decide) (by decide),
  f_icmp_ge (e_dx DX1_reply_1 0 rfl) rfl,
  f_aload_n (n := 0) (e_dx DX1_reply_1 1 rfl) rfl,
  f_getA (e_dx DX1_reply_1 2 rfl) fX1_35 rfl (by decide) (Nat.le_of_ble_eq_true rfl) rfl (by decide),
  f_getA (e_dx DX1_reply_1 3 rfl) fX1_63 rfl (by decide) (Nat.le_of_ble_eq_true rfl) rfl (by decide),
  f_iload_n (n := 3) (e_dx DX1_reply_1 4 rfl) rfl,
  f_iaload (e_dx DX1_reply_1 5 rfl),
  f_istore (e_dx DX1_reply_1 6 rfl) (by decide),
  f_iload (e_dx DX1_reply_1 7 rfl),
  f_sipush (e_dx DX1_reply_1 8 rfl) ⟨by decide, by decide⟩,
  f_icmp_eq (e_dx DX1_reply_1 9 rfl) rfl,
  f_iload (e_dx DX1_reply_1 10 rfl),
  f_sipush (e_dx DX1_reply_1 11 rfl) ⟨by decide, by decide⟩,
  f_icmp_eq (e_dx DX1_reply_1 12 rfl) rfl,
  f_iload (e_dx DX1_reply_1 13 rfl),
  f_sipush (e_dx DX1_reply_1 14 rfl) ⟨by decide, by decide⟩,
  f_icmp_eq (e_dx DX1_reply_1 15 rfl) rfl,
  f_iload (e_dx DX1_reply_1 16 rfl),
  f_sipush (e_dx DX1_reply_1 17 rfl) ⟨by decide, by decide⟩,
  f_icmp_ne (e_dx DX1_reply_1 18 rfl) rfl,
  trivial,
  f_iconst (e_dx DX1_reply_1 19 rfl) ⟨by decide, by decide⟩,
  f_g19 (e_dx DX1_reply_1 20 rfl) rfl,
  f_iconst (e_dx DX1_reply_1 21 rfl) ⟨by decide, by decide⟩,
  trivial,
  f_istore (e_dx DX1_reply_1 22 rfl) (by decide),
  f_aload_n (n := 0) (e_dx DX1_reply_1 23 rfl) rfl,
  f_getA (e_dx DX1_reply_1 24 rfl) fX1_23 rfl (by decide) (Nat.le_of_ble_eq_true rfl) rfl (by decide),
  f_iload_n (n := 3) (e_dx DX1_reply_1 25 rfl) rfl,
  f_iload (e_dx DX1_reply_1 26 rfl),
  f_if_eq (e_dx DX1_reply_1 27 rfl) rfl,
  f_aload_n (n := 0) (e_dx DX1_reply_1 28 rfl) rfl,
  f_getA (e_dx DX1_reply_1 29 rfl) fX1_31 rfl (by decide) (Nat.le_of_ble_eq_true rfl) rfl (by decide),
  f_aload_n (n := 0) (e_dx DX1_reply_1 30 rfl) rfl,
  f_getA (e_dx DX1_reply_1 31 rfl) fX1_35 rfl (by decide) (Nat.le_of_ble_eq_true rfl) rfl (by decide),
  f_getA (e_dx DX1_reply_1 32 rfl) fX1_66 rfl (by decide) (Nat.le_of_ble_eq_true rfl) rfl (by decide),
  f_iload_n (n := 3) (e_dx DX1_reply_1 33 rfl) rfl,
  f_laload (e_dx DX1_reply_1 34 rfl),
  x_callV (e_dx DX1_reply_1 35 rfl) mwX10_find vwX10_find cX1_47 rfl,
  f_g19 (e_dx DX1_reply_1 36 rfl) rfl,
  f_iconst (e_dx DX1_reply_1 37 rfl) ⟨by decide, by decide⟩,
  trivial,
  f_iastore (e_dx DX1_reply_1 38 rfl),
  f_g8 (e_dx DX1_reply_1 39 rfl) ⟨by decide, by decide⟩,
  f_g19 (e_dx DX1_reply_2 0 rfl) rfl,
  f_aload_n (n := 0) (e_dx DX1_reply_2 1 rfl) rfl,
  f_aload_n (n := 0) (e_dx DX1_reply_2 2 rfl) rfl,
  f_getA (e_dx DX1_reply_2 3 rfl) fX1_35 rfl (by decide) (Nat.le_of_ble_eq_true rfl) rfl (by decide),
  f_getf (e_dx DX1_reply_2 4 rfl) fX1_69 rfl (by decide) (by decide) (by decide),
  x_callV (e_dx DX1_reply_2 5 rfl) mwX1_survey vwX1_survey cX1_72 rfl,
  ⟨(e_dx DX1_reply_2 6 rfl), rfl⟩, trivial⟩
def lX1_reply (c_X10_find : Nat → Int → e_M → (Int → Prop) → Prop) (c_X1_show : Int → e_M → (e_M → Prop) → Prop) (c_X1_trace : e_M → (e_M → Prop) → Prop) (c_X1_survey : Int → e_M → (e_M → Prop) → Prop) : List (Nat × f_Wt) := [(0, f_wm [(3, 10, 15), (2, 0, 0)] (fun ar M R => c_X10_find (f_va (f_nth ar 0)) (f_vi (f_nth ar 1)) M (fun r => R (some (.inl r)) M))), (1, f_wm [(4462, 1, 7), (1, 0, 0)] (fun ar M R => c_X1_show (f_vi (f_nth ar 1)) M (fun M => R none M))), (2, f_wm [(4462, 1, 7)] (fun ar M R => c_X1_trace  M (fun M => R none M))), (3, f_wm [(4462, 1, 7), (1, 0, 0)] (fun ar M R => c_X1_survey (f_vi (f_nth ar 1)) M (fun M => R none M)))]
set_option maxRecDepth 20000 in
theorem BX1_reply_76 {sh : Nat → Nat × Nat} {t : Nat} {rm : Nat × Nat × Nat} {cs : Nat × Nat} {R : f_Rt} {c_X10_find : Nat → Int → e_M → (Int → Prop) → Prop} {c_X1_show : Int → e_M → (e_M → Prop) → Prop} {c_X1_trace : e_M → (e_M → Prop) → Prop} {c_X1_survey : Int → e_M → (e_M → Prop) → Prop} {k130 : Int → e_M → Prop} {k135 : Int → Int → e_M → Prop} {x3 : Int} {M : e_M} (C : f_Hy sh t yX1_reply rm cs 10 (lX1_reply c_X10_find c_X1_show c_X1_trace c_X1_survey) R) (h130 : ∀ (x3 : Int) (M : e_M), k130 x3 M → f_E sh t YX1_reply rm cs (f_Q sh t R) 130 [.inr (.inr (.inl (1, 7, 4452))), .inr (.inr (.inr ())), .inr (.inr (.inr ())), .inl x3, .inr (.inr (.inr ())), .inr (.inr (.inr ()))] [] M) (h135 : ∀ (x3 : Int) (xs0 : Int) (M : e_M), k135 x3 xs0 M → f_E sh t YX1_reply rm cs (f_Q sh t R) 135 [.inr (.inr (.inl (1, 7, 4452))), .inr (.inr (.inr ())), .inr (.inr (.inr ())), .inl x3, .inr (.inr (.inr ())), .inr (.inr (.inr ()))] [.inl xs0] M) (h : VX1_reply_76 c_X10_find c_X1_show c_X1_trace c_X1_survey k130 k135 (fun M => R none M) x3 M) : f_E sh t YX1_reply rm cs (f_Q sh t R) 76 [.inr (.inr (.inl (1, 7, 4452))), .inr (.inr (.inr ())), .inr (.inr (.inr ())), .inl x3, .inr (.inr (.inr ())), .inr (.inr (.inr ()))] [] M :=
  f_go (KC := f_kc [(130, f_pl [(4462, 1, 7), (0, 0, 0), (0, 0, 0), (1, 0, 0), (0, 0, 0), (0, 0, 0)] [] (fun ls st M => k130 (f_vi (f_nth ls 3)) M)), (135, f_pl [(4462, 1, 7), (0, 0, 0), (0, 0, 0), (1, 0, 0), (0, 0, 0), (0, 0, 0)] [(1, 0, 0)] (fun ls st M => k135 (f_vi (f_nth ls 3)) (f_vi (f_nth st 0)) M))]) C qX1_replyf (f_kc_cons (f_pl_ok rfl (fun ls st M h => h130 _ M h)) (f_kc_cons (f_pl_ok rfl (fun ls st M h => h135 _ _ M h)) f_kc_nil)) 93 37 h
set_option maxRecDepth 20000 in
theorem BX1_reply_130 {sh : Nat → Nat × Nat} {t : Nat} {rm : Nat × Nat × Nat} {cs : Nat × Nat} {R : f_Rt} {c_X10_find : Nat → Int → e_M → (Int → Prop) → Prop} {c_X1_show : Int → e_M → (e_M → Prop) → Prop} {c_X1_trace : e_M → (e_M → Prop) → Prop} {c_X1_survey : Int → e_M → (e_M → Prop) → Prop} {k135 : Int → Int → e_M → Prop} {x3 : Int} {M : e_M} (C : f_Hy sh t yX1_reply rm cs 10 (lX1_reply c_X10_find c_X1_show c_X1_trace c_X1_survey) R) (h135 : ∀ (x3 : Int) (xs0 : Int) (M : e_M), k135 x3 xs0 M → f_E sh t YX1_reply rm cs (f_Q sh t R) 135 [.inr (.inr (.inl (1, 7, 4452))), .inr (.inr (.inr ())), .inr (.inr (.inr ())), .inl x3, .inr (.inr (.inr ())), .inr (.inr (.inr ()))] [.inl xs0] M) (h : VX1_reply_130 c_X10_find c_X1_show c_X1_trace c_X1_survey k135 (fun M => R none M) x3 M) : f_E sh t YX1_reply rm cs (f_Q sh t R) 130 [.inr (.inr (.inl (1, 7, 4452))), .inr (.inr (.inr ())), .inr (.inr (.inr ())), .inl x3, .inr (.inr (.inr ())), .inr (.inr (.inr ()))] [] M :=
  f_go (KC := f_kc [(135, f_pl [(4462, 1, 7), (0, 0, 0), (0, 0, 0), (1, 0, 0), (0, 0, 0), (0, 0, 0)] [(1, 0, 0)] (fun ls st M => k135 (f_vi (f_nth ls 3)) (f_vi (f_nth st 0)) M))]) C qX1_replyf (f_kc_cons (f_pl_ok rfl (fun ls st M h => h135 _ _ M h)) f_kc_nil) 93 61 h
set_option maxRecDepth 20000 in
theorem BX1_reply_135 {sh : Nat → Nat × Nat} {t : Nat} {rm : Nat × Nat × Nat} {cs : Nat × Nat} {R : f_Rt} {c_X10_find : Nat → Int → e_M → (Int → Prop) → Prop} {c_X1_show : Int → e_M → (e_M → Prop) → Prop} {c_X1_trace : e_M → (e_M → Prop) → Prop} {c_X1_survey : Int → e_M → (e_M → Prop) → Prop} {k167 : Int → Int → Int → e_M → Prop} {x3 : Int} {xs0 : Int} {M : e_M} (C : f_Hy sh t yX1_reply rm cs 10 (lX1_reply c_X10_find c_X1_show c_X1_trace c_X1_survey) R) (h167 : ∀ (x3 : Int) (xs2 : Int) (xs1 : Int) (M : e_M), k167 x3 xs2 xs1 M → f_E sh t YX1_reply rm cs (f_Q sh t R) 167 [.inr (.inr (.inl (1, 7, 4452))), .inr (.inr (.inr ())), .inr (.inr (.inr ())), .inl x3, .inr (.inr (.inr ())), .inr (.inr (.inr ()))] [.inl xs2, .inl xs1, .inr (.inr (.inl (20, 640, 4454)))] M) (h : VX1_reply_135 c_X10_find c_X1_show c_X1_trace c_X1_survey k167 (fun M => R none M) x3 xs0 M) : f_E sh t YX1_reply rm cs (f_Q sh t R) 135 [.inr (.inr (.inl (1, 7, 4452))), .inr (.inr (.inr ())), .inr (.inr (.inr ())), .inl x3, .inr (.inr (.inr ())), .inr (.inr (.inr ()))] [.inl xs0] M :=
  f_go (KC := f_kc [(167, f_pl [(4462, 1, 7), (0, 0, 0), (0, 0, 0), (1, 0, 0), (0, 0, 0), (0, 0, 0)] [(1, 0, 0), (1, 0, 0), (4464, 20, 640)] (fun ls st M => k167 (f_vi (f_nth ls 3)) (f_vi (f_nth st 0)) (f_vi (f_nth st 1)) M))]) C qX1_replyf (f_kc_cons (f_pl_ok rfl (fun ls st M h => h167 _ _ _ M h)) f_kc_nil) 93 65 h
set_option maxRecDepth 20000 in
theorem BX1_reply_167 {sh : Nat → Nat × Nat} {t : Nat} {rm : Nat × Nat × Nat} {cs : Nat × Nat} {R : f_Rt} {c_X10_find : Nat → Int → e_M → (Int → Prop) → Prop} {c_X1_show : Int → e_M → (e_M → Prop) → Prop} {c_X1_trace : e_M → (e_M → Prop) → Prop} {c_X1_survey : Int → e_M → (e_M → Prop) → Prop} {k76 : Int → e_M → Prop} {x3 : Int} {xs2 : Int} {xs1 : Int} {M : e_M} (C : f_Hy sh t yX1_reply rm cs 10 (lX1_reply c_X10_find c_X1_show c_X1_trace c_X1_survey) R) (h76 : ∀ (x3 : Int) (M : e_M), k76 x3 M → f_E sh t YX1_reply rm cs (f_Q sh t R) 76 [.inr (.inr (.inl (1, 7, 4452))), .inr (.inr (.inr ())), .inr (.inr (.inr ())), .inl x3, .inr (.inr (.inr ())), .inr (.inr (.inr ()))] [] M) (h : VX1_reply_167 c_X10_find c_X1_show c_X1_trace c_X1_survey k76 (fun M => R none M) x3 xs2 xs1 M) : f_E sh t YX1_reply rm cs (f_Q sh t R) 167 [.inr (.inr (.inl (1, 7, 4452))), .inr (.inr (.inr ())), .inr (.inr (.inr ())), .inl x3, .inr (.inr (.inr ())), .inr (.inr (.inr ()))] [.inl xs2, .inl xs1, .inr (.inr (.inl (20, 640, 4454)))] M :=
  f_go (KC := f_kc [(76, f_pl [(4462, 1, 7), (0, 0, 0), (0, 0, 0), (1, 0, 0), (0, 0, 0), (0, 0, 0)] [] (fun ls st M => k76 (f_vi (f_nth ls 3)) M))]) C qX1_replyf (f_kc_cons (f_pl_ok rfl (fun ls st M h => h76 _ M h)) f_kc_nil) 93 82 h
set_option maxRecDepth 20000 in
theorem BX1_reply {sh : Nat → Nat × Nat} {t : Nat} {rm : Nat × Nat × Nat} {cs : Nat × Nat} {R : f_Rt} {c_X10_find : Nat → Int → e_M → (Int → Prop) → Prop} {c_X1_show : Int → e_M → (e_M → Prop) → Prop} {c_X1_trace : e_M → (e_M → Prop) → Prop} {c_X1_survey : Int → e_M → (e_M → Prop) → Prop} {k76 : Int → e_M → Prop} {a1 : Nat} {M : e_M} (C : f_Hy sh t yX1_reply rm cs 10 (lX1_reply c_X10_find c_X1_show c_X1_trace c_X1_survey) R) (h76 : ∀ (x3 : Int) (M : e_M), k76 x3 M → f_E sh t YX1_reply rm cs (f_Q sh t R) 76 [.inr (.inr (.inl (1, 7, 4452))), .inr (.inr (.inr ())), .inr (.inr (.inr ())), .inl x3, .inr (.inr (.inr ())), .inr (.inr (.inr ()))] [] M) (h : VX1_reply c_X10_find c_X1_show c_X1_trace c_X1_survey k76 (fun M => R none M) a1 M) : f_E sh t YX1_reply rm cs (f_Q sh t R) 0 [.inr (.inr (.inl (1, 7, 4452))), .inr (.inr (.inl (10, 15, a1))), .inr (.inr (.inl (6, 11, 22))), .inr (.inr (.inr ())), .inr (.inr (.inr ())), .inr (.inr (.inr ()))] [] M :=
  f_go (KC := f_kc [(76, f_pl [(4462, 1, 7), (0, 0, 0), (0, 0, 0), (1, 0, 0), (0, 0, 0), (0, 0, 0)] [] (fun ls st M => k76 (f_vi (f_nth ls 3)) M))]) C qX1_replyf (f_kc_cons (f_pl_ok rfl (fun ls st M h => h76 _ M h)) f_kc_nil) 93 0 h
def WX1_reply_167 (H76 : Int → e_M → Prop) (Q : e_M → Prop) (x3 : Int) (xs2 : Int) (xs1 : Int) (M : e_M) : Prop :=
  VX1_reply_167 WX10_find WX1_show WX1_trace WX1_survey H76 Q x3 xs2 xs1 M
def WX1_reply_135 (H76 : Int → e_M → Prop) (Q : e_M → Prop) (x3 : Int) (xs0 : Int) (M : e_M) : Prop :=
  VX1_reply_135 WX10_find WX1_show WX1_trace WX1_survey (WX1_reply_167 H76 Q) Q x3 xs0 M
def WX1_reply_130 (H76 : Int → e_M → Prop) (Q : e_M → Prop) (x3 : Int) (M : e_M) : Prop :=
  VX1_reply_130 WX10_find WX1_show WX1_trace WX1_survey (WX1_reply_135 H76 Q) Q x3 M
def WX1_reply_76 (Q : e_M → Prop) : Nat → Int → e_M → Prop
  | 0, _, _ => False
  | n + 1, x3, M =>
    VX1_reply_76 WX10_find WX1_show WX1_trace WX1_survey (WX1_reply_130 (WX1_reply_76 Q n) Q) (WX1_reply_135 (WX1_reply_76 Q n) Q) Q x3 M
def WX1_reply (a1 : Nat) (M : e_M) (Q : e_M → Prop) : Prop :=
  VX1_reply WX10_find WX1_show WX1_trace WX1_survey (fun x3 M => ∃ j, WX1_reply_76 Q j x3 M) Q a1 M
theorem PX1_reply_167 {sh : Nat → Nat × Nat} {t : Nat} {rm : Nat × Nat × Nat} {cs : Nat × Nat} {R : f_Rt} {H76 : Int → e_M → Prop} {x3 : Int} {xs2 : Int} {xs1 : Int} {M : e_M} (C : f_Hy sh t yX1_reply rm cs 10 (lX1_reply WX10_find WX1_show WX1_trace WX1_survey) R) (g76 : ∀ (x3 : Int) (M : e_M), H76 x3 M → f_E sh t YX1_reply rm cs (f_Q sh t R) 76 [.inr (.inr (.inl (1, 7, 4452))), .inr (.inr (.inr ())), .inr (.inr (.inr ())), .inl x3, .inr (.inr (.inr ())), .inr (.inr (.inr ()))] [] M) (h : WX1_reply_167 H76 (fun M => R none M) x3 xs2 xs1 M) : f_E sh t YX1_reply rm cs (f_Q sh t R) 167 [.inr (.inr (.inl (1, 7, 4452))), .inr (.inr (.inr ())), .inr (.inr (.inr ())), .inl x3, .inr (.inr (.inr ())), .inr (.inr (.inr ()))] [.inl xs2, .inl xs1, .inr (.inr (.inl (20, 640, 4454)))] M :=
  BX1_reply_167 C g76 h
theorem PX1_reply_135 {sh : Nat → Nat × Nat} {t : Nat} {rm : Nat × Nat × Nat} {cs : Nat × Nat} {R : f_Rt} {H76 : Int → e_M → Prop} {x3 : Int} {xs0 : Int} {M : e_M} (C : f_Hy sh t yX1_reply rm cs 10 (lX1_reply WX10_find WX1_show WX1_trace WX1_survey) R) (g76 : ∀ (x3 : Int) (M : e_M), H76 x3 M → f_E sh t YX1_reply rm cs (f_Q sh t R) 76 [.inr (.inr (.inl (1, 7, 4452))), .inr (.inr (.inr ())), .inr (.inr (.inr ())), .inl x3, .inr (.inr (.inr ())), .inr (.inr (.inr ()))] [] M) (h : WX1_reply_135 H76 (fun M => R none M) x3 xs0 M) : f_E sh t YX1_reply rm cs (f_Q sh t R) 135 [.inr (.inr (.inl (1, 7, 4452))), .inr (.inr (.inr ())), .inr (.inr (.inr ())), .inl x3, .inr (.inr (.inr ())), .inr (.inr (.inr ()))] [.inl xs0] M :=
  BX1_reply_135 C (fun x3 xs2 xs1 M h => PX1_reply_167 C g76 h) h
theorem PX1_reply_130 {sh : Nat → Nat × Nat} {t : Nat} {rm : Nat × Nat × Nat} {cs : Nat × Nat} {R : f_Rt} {H76 : Int → e_M → Prop} {x3 : Int} {M : e_M} (C : f_Hy sh t yX1_reply rm cs 10 (lX1_reply WX10_find WX1_show WX1_trace WX1_survey) R) (g76 : ∀ (x3 : Int) (M : e_M), H76 x3 M → f_E sh t YX1_reply rm cs (f_Q sh t R) 76 [.inr (.inr (.inl (1, 7, 4452))), .inr (.inr (.inr ())), .inr (.inr (.inr ())), .inl x3, .inr (.inr (.inr ())), .inr (.inr (.inr ()))] [] M) (h : WX1_reply_130 H76 (fun M => R none M) x3 M) : f_E sh t YX1_reply rm cs (f_Q sh t R) 130 [.inr (.inr (.inl (1, 7, 4452))), .inr (.inr (.inr ())), .inr (.inr (.inr ())), .inl x3, .inr (.inr (.inr ())), .inr (.inr (.inr ()))] [] M :=
  BX1_reply_130 C (fun x3 xs0 M h => PX1_reply_135 C g76 h) h
theorem PX1_reply_76 {sh : Nat → Nat × Nat} {t : Nat} {rm : Nat × Nat × Nat} {cs : Nat × Nat} {R : f_Rt} (C : f_Hy sh t yX1_reply rm cs 10 (lX1_reply WX10_find WX1_show WX1_trace WX1_survey) R) : ∀ (n : Nat) (x3 : Int) (M : e_M), WX1_reply_76 (fun M => R none M) n x3 M → f_E sh t YX1_reply rm cs (f_Q sh t R) 76 [.inr (.inr (.inl (1, 7, 4452))), .inr (.inr (.inr ())), .inr (.inr (.inr ())), .inl x3, .inr (.inr (.inr ())), .inr (.inr (.inr ()))] [] M := by
  intro n
  induction n with
  | zero => intro x3 M h; exact h.elim
  | succ n ih => intro x3 M h; exact BX1_reply_76 C (fun x3 M h => PX1_reply_130 C ih h) (fun x3 xs0 M h => PX1_reply_135 C ih h) h
theorem PX1_reply {sh : Nat → Nat × Nat} {t : Nat} {rm : Nat × Nat × Nat} {cs : Nat × Nat} {R : f_Rt} {a1 : Nat} {M : e_M} (C : f_Hy sh t yX1_reply rm cs 10 (lX1_reply WX10_find WX1_show WX1_trace WX1_survey) R) (h : WX1_reply a1 M (fun M => R none M)) : f_E sh t YX1_reply rm cs (f_Q sh t R) 0 [.inr (.inr (.inl (1, 7, 4452))), .inr (.inr (.inl (10, 15, a1))), .inr (.inr (.inl (6, 11, 22))), .inr (.inr (.inr ())), .inr (.inr (.inr ())), .inr (.inr (.inr ()))] [] M :=
  BX1_reply C (fun x3 M ⟨j, h⟩ => PX1_reply_76 C j _ _ h) h
def wX1_reply : f_Wt := f_wm [(4462, 1, 7), (3, 10, 15), (32, 6, 11)] (fun ar M R => WX1_reply (f_va (f_nth ar 1)) M (fun M => R none M))
theorem TX1_reply {sh : Nat → Nat × Nat} {t : Nat} : f_Mt sh t YX1_reply 10 (wX1_reply) :=
  f_Mt_of (k := 3) (Nat.le_of_ble_eq_true rfl) rfl rfl (fun ar M R rm cs h1 h2 h3 hX h => PX1_reply ⟨Nat.le_of_ble_eq_true rfl, h1, h2, h3, ⟨(f_Mt.up (Nat.le_of_ble_eq_true rfl) TX10_find), (f_Mt.up (Nat.le_of_ble_eq_true rfl) TX1_show), (f_Mt.up (Nat.le_of_ble_eq_true rfl) TX1_trace), (f_Mt.up (Nat.le_of_ble_eq_true rfl) TX1_survey), trivial⟩, hX⟩ h)
def VX2_clear (Q : e_M → Prop) (a0 : Nat) (M : e_M) : Prop :=
  (∀ M1 : e_M, M1 = e_up M a0 0 0 → (∀ M2 : e_M, M2 = e_up M1 a0 1 0 → (∀ M3 : e_M, M3 = e_up M2 a0 2 0 → (∀ M4 : e_M, M4 = e_up M3 a0 3 0 → (∀ M5 : e_M, M5 = e_up M4 a0 4 0 → (∀ M6 : e_M, M6 = e_up M5 a0 7 0 → (∀ M7 : e_M, M7 = e_up M6 a0 8 0 → (∀ M8 : e_M, M8 = e_up M7 a0 9 0 → (∀ M9 : e_M, M9 = e_up M8 a0 10 0 → (∀ M10 : e_M, M10 = e_up M9 a0 11 0 → (∀ M11 : e_M, M11 = e_up M10 a0 12 1 → (∀ M12 : e_M, M12 = e_up M11 a0 15 0 → (∀ M13 : e_M, M13 = e_up M12 a0 18 0 → (Q M13))))))))))))))
def yX2_clear (i : Nat) : e_Y := x_get YX2_clear [] i
def pX2_clearf : List x_I := [(0, 4, 1, 0, 0, 0, []), (1, 0, 1, 0, 0, 0, []), (2, 26, 2, 0, 0, 0, []), (5, 4, 1, 0, 0, 0, []), (6, 0, 1, 0, 0, 0, []), (7, 26, 2, 1, 0, 0, []), (10, 4, 1, 0, 0, 0, []), (11, 0, 1, 0, 0, 0, []), (12, 26, 2, 2, 0, 0, []), (15, 4, 1, 0, 0, 0, []), (16, 0, 1, 0, 0, 0, []), (17, 26, 2, 3, 0, 0, []), (20, 4, 1, 0, 0, 0, []), (21, 0, 1, 0, 0, 0, []), (22, 26, 2, 4, 0, 0, []), (25, 4, 1, 0, 0, 0, []), (26, 0, 1, 0, 0, 0, []), (27, 26, 2, 7, 0, 0, []), (30, 4, 1, 0, 0, 0, []), (31, 0, 1, 0, 0, 0, []), (32, 26, 2, 8, 0, 0, []), (35, 4, 1, 0, 0, 0, []), (36, 0, 1, 0, 0, 0, []), (37, 26, 2, 9, 0, 0, []), (40, 4, 1, 0, 0, 0, []), (41, 0, 1, 0, 0, 0, []), (42, 26, 2, 10, 0, 0, []), (45, 4, 1, 0, 0, 0, []), (46, 1, 1, 0, 0, 0, []), (47, 26, 2, 11, 3, 0, []), (50, 4, 1, 0, 0, 0, []), (51, 1, 1, 0, 0, 1, []), (52, 26, 2, 12, 3, 0, []), (55, 4, 1, 0, 0, 0, []), (56, 0, 1, 0, 0, 0, []), (57, 26, 2, 15, 0, 0, []), (60, 4, 1, 0, 0, 0, []), (61, 0, 1, 0, 0, 0, []), (62, 26, 2, 18, 0, 0, []), (65, 44, 0, 0, 0, 0, [])]
set_option maxRecDepth 20000 in
theorem qX2_clearf : f_all yX2_clear YX2_clear pX2_clearf :=
  ⟨f_aload_n (n := 0) (e_dx DX2_clear_0 0 rfl) rfl,
  f_iconst (e_dx DX2_clear_0 1 rfl) ⟨by decide, by decide⟩,
  f_putn (e_dx DX2_clear_0 2 rfl) fX2_31 (fun q hq => by cases hq; rfl) rfl (Or.inl rfl) (by decide),
  f_aload_n (n := 0) (e_dx DX2_clear_0 3 rfl) rfl,
  f_iconst (e_dx DX2_clear_0 4 rfl) ⟨by decide, by decide⟩,
  f_putn (e_dx DX2_clear_0 5 rfl) fX2_35 (fun q hq => by cases hq; rfl) rfl (Or.inl rfl) (by decide),
  f_aload_n (n := 0) (e_dx DX2_clear_0 6 rfl) rfl,
  f_iconst (e_dx DX2_clear_0 7 rfl) ⟨by decide, by decide⟩,
  f_putn (e_dx DX2_clear_0 8 rfl) fX2_38 (fun q hq => by cases hq; rfl) rfl (Or.inl rfl) (by decide),
  f_aload_n (n := 0) (e_dx DX2_clear_0 9 rfl) rfl,
  f_iconst (e_dx DX2_clear_0 10 rfl) ⟨by decide, by decide⟩,
  f_putn (e_dx DX2_clear_0 11 rfl) fX2_41 (fun q hq => by cases hq; rfl) rfl (Or.inl rfl) (by decide),
  f_aload_n (n := 0) (e_dx DX2_clear_0 12 rfl) rfl,
  f_iconst (e_dx DX2_clear_0 13 rfl) ⟨by decide, by decide⟩,
  f_putn (e_dx DX2_clear_0 14 rfl) fX2_44 (fun q hq => by cases hq; rfl) rfl (Or.inl rfl) (by decide),
  f_aload_n (n := 0) (e_dx DX2_clear_0 15 rfl) rfl,
  f_iconst (e_dx DX2_clear_0 16 rfl) ⟨by decide, by decide⟩,
  f_putn (e_dx DX2_clear_0 17 rfl) fX2_47 (fun q hq => by cases hq; rfl) rfl (Or.inl rfl) (by decide),
  f_aload_n (n := 0) (e_dx DX2_clear_0 18 rfl) rfl,
  f_iconst (e_dx DX2_clear_0 19 rfl) ⟨by decide, by decide⟩,
  f_putn (e_dx DX2_clear_0 20 rfl) fX2_50 (fun q hq => by cases hq; rfl) rfl (Or.inl rfl) (by decide),
  f_aload_n (n := 0) (e_dx DX2_clear_0 21 rfl) rfl,
  f_iconst (e_dx DX2_clear_0 22 rfl) ⟨by decide, by decide⟩,
  f_putn (e_dx DX2_clear_0 23 rfl) fX2_53 (fun q hq => by cases hq; rfl) rfl (Or.inl rfl) (by decide),
  f_aload_n (n := 0) (e_dx DX2_clear_0 24 rfl) rfl,
  f_iconst (e_dx DX2_clear_0 25 rfl) ⟨by decide, by decide⟩,
  f_putn (e_dx DX2_clear_0 26 rfl) fX2_56 (fun q hq => by cases hq; rfl) rfl (Or.inl rfl) (by decide),
  f_aload_n (n := 0) (e_dx DX2_clear_0 27 rfl) rfl,
  f_lconst (n := 0) (e_dx DX2_clear_0 28 rfl) rfl,
  f_putn (e_dx DX2_clear_0 29 rfl) fX2_59 (fun q hq => by cases hq; rfl) rfl (Or.inr (Or.inr rfl)) (by decide),
  f_aload_n (n := 0) (e_dx DX2_clear_0 30 rfl) rfl,
  f_lconst (n := 1) (e_dx DX2_clear_0 31 rfl) rfl,
  f_putn (e_dx DX2_clear_0 32 rfl) fX2_63 (fun q hq => by cases hq; rfl) rfl (Or.inr (Or.inr rfl)) (by decide),
  f_aload_n (n := 0) (e_dx DX2_clear_0 33 rfl) rfl,
  f_iconst (e_dx DX2_clear_0 34 rfl) ⟨by decide, by decide⟩,
  f_putn (e_dx DX2_clear_0 35 rfl) fX2_66 (fun q hq => by cases hq; rfl) rfl (Or.inl rfl) (by decide),
  f_aload_n (n := 0) (e_dx DX2_clear_0 36 rfl) rfl,
  f_iconst (e_dx DX2_clear_0 37 rfl) ⟨by decide, by decide⟩,
  f_putn (e_dx DX2_clear_0 38 rfl) fX2_69 (fun q hq => by cases hq; rfl) rfl (Or.inl rfl) (by decide),
  ⟨(e_dx DX2_clear_0 39 rfl), rfl⟩, trivial⟩
def lX2_clear : List (Nat × f_Wt) := []
set_option maxRecDepth 20000 in
theorem BX2_clear {sh : Nat → Nat × Nat} {t : Nat} {rm : Nat × Nat × Nat} {cs : Nat × Nat} {R : f_Rt} {a0 : Nat} {M : e_M} (C : f_Hy sh t yX2_clear rm cs 4 (lX2_clear) R) (h : VX2_clear (fun M => R none M) a0 M) : f_E sh t YX2_clear rm cs (f_Q sh t R) 0 [.inr (.inr (.inl (2, 19, a0)))] [] M :=
  f_go (KC := f_kc []) C qX2_clearf f_kc_nil 42 0 h
def WX2_clear (a0 : Nat) (M : e_M) (Q : e_M → Prop) : Prop :=
  VX2_clear Q a0 M
theorem PX2_clear {sh : Nat → Nat × Nat} {t : Nat} {rm : Nat × Nat × Nat} {cs : Nat × Nat} {R : f_Rt} {a0 : Nat} {M : e_M} (C : f_Hy sh t yX2_clear rm cs 4 (lX2_clear) R) (h : WX2_clear a0 M (fun M => R none M)) : f_E sh t YX2_clear rm cs (f_Q sh t R) 0 [.inr (.inr (.inl (2, 19, a0)))] [] M :=
  BX2_clear C h
def wX2_clear : f_Wt := f_wm [(3, 2, 19)] (fun ar M R => WX2_clear (f_va (f_nth ar 0)) M (fun M => R none M))
theorem TX2_clear {sh : Nat → Nat × Nat} {t : Nat} : f_Mt sh t YX2_clear 4 (wX2_clear) :=
  f_Mt_of (k := 0) (Nat.le_of_ble_eq_true rfl) rfl rfl (fun ar M R rm cs h1 h2 h3 hX h => PX2_clear ⟨Nat.le_of_ble_eq_true rfl, h1, h2, h3, trivial, hX⟩ h)
def VX2_addName (Q : e_M → Prop) (a0 : Nat) (x1 : Int) (x3 : Int) (M : e_M) : Prop :=
  ((8 ≤ (M a0 7) → (Q M)) ∧ ((M a0 7) < 8 → ((0 ≤ (M a0 7) ∧ (M a0 7) < 8) ∧ (∀ M1 : e_M, M1 = e_up M (a0 + 1) ((M a0 7).toNat) x1 → ((0 ≤ (M1 a0 7) ∧ (M1 a0 7) < 8) ∧ (∀ M2 : e_M, M2 = e_up M1 (a0 + 2) ((M1 a0 7).toNat) x3 → (∀ M3 : e_M, M3 = e_up M2 a0 7 (e_w32 ((M2 a0 7) + 1)) → (Q M3))))))))
def yX2_addName (i : Nat) : e_Y := x_get YX2_addName [] i
def pX2_addNamef : List x_I := [(0, 4, 1, 0, 0, 0, []), (1, 25, 2, 7, 0, 0, []), (4, 0, 2, 0, 0, 8, []), (6, 18, 39, 3, 23, 0, []), (9, 4, 1, 0, 0, 0, []), (10, 25, 2, 5, 4, 0, [(0, 23, 8), (0, 1, 1)]), (13, 4, 1, 0, 0, 0, []), (14, 25, 2, 7, 0, 0, []), (17, 3, 1, 1, 0, 0, []), (18, 28, 0, 1, 0, 0, []), (19, 4, 1, 0, 0, 0, []), (20, 25, 2, 6, 4, 0, [(0, 20, 8), (0, 1, 2)]), (23, 4, 1, 0, 0, 0, []), (24, 25, 2, 7, 0, 0, []), (27, 2, 1, 3, 0, 0, []), (28, 28, 0, 0, 0, 0, []), (29, 4, 1, 0, 0, 0, []), (30, 20, 0, 0, 0, 0, []), (31, 25, 2, 7, 0, 0, []), (34, 0, 1, 0, 0, 1, []), (35, 9, 0, 0, 0, 0, []), (36, 26, 2, 7, 0, 0, []), (39, 44, 0, 0, 0, 0, [])]
set_option maxRecDepth 20000 in
theorem qX2_addNamef : f_all yX2_addName YX2_addName pX2_addNamef :=
  ⟨f_aload_n (n := 0) (e_dx DX2_addName_0 0 rfl) rfl,
  f_getf (e_dx DX2_addName_0 1 rfl) fX2_47 rfl (by decide) (by decide) (by decide),
  f_bipush (e_dx DX2_addName_0 2 rfl) ⟨by decide, by decide⟩,
  f_icmp_ge (e_dx DX2_addName_0 3 rfl) rfl,
  f_aload_n (n := 0) (e_dx DX2_addName_0 4 rfl) rfl,
  f_getA (e_dx DX2_addName_0 5 rfl) fX2_9 rfl (by decide) (Nat.le_of_ble_eq_true rfl) rfl (by decide),
  f_aload_n (n := 0) (e_dx DX2_addName_0 6 rfl) rfl,
  f_getf (e_dx DX2_addName_0 7 rfl) fX2_47 rfl (by decide) (by decide) (by decide),
  f_lload_n (n := 1) (e_dx DX2_addName_0 8 rfl) rfl,
  f_lastore (e_dx DX2_addName_0 9 rfl),
  f_aload_n (n := 0) (e_dx DX2_addName_0 10 rfl) rfl,
  f_getA (e_dx DX2_addName_0 11 rfl) fX2_15 rfl (by decide) (Nat.le_of_ble_eq_true rfl) rfl (by decide),
  f_aload_n (n := 0) (e_dx DX2_addName_0 12 rfl) rfl,
  f_getf (e_dx DX2_addName_0 13 rfl) fX2_47 rfl (by decide) (by decide) (by decide),
  f_iload_n (n := 3) (e_dx DX2_addName_0 14 rfl) rfl,
  f_iastore (e_dx DX2_addName_0 15 rfl),
  f_aload_n (n := 0) (e_dx DX2_addName_0 16 rfl) rfl,
  f_g20 (e_dx DX2_addName_0 17 rfl),
  f_getf (e_dx DX2_addName_0 18 rfl) fX2_47 rfl (by decide) (by decide) (by decide),
  f_iconst (e_dx DX2_addName_0 19 rfl) ⟨by decide, by decide⟩,
  f_iadd (e_dx DX2_addName_0 20 rfl),
  f_putn (e_dx DX2_addName_0 21 rfl) fX2_47 (fun q hq => by cases hq; rfl) rfl (Or.inl rfl) (by decide),
  ⟨(e_dx DX2_addName_0 22 rfl), rfl⟩, trivial⟩
def lX2_addName : List (Nat × f_Wt) := []
set_option maxRecDepth 20000 in
theorem BX2_addName {sh : Nat → Nat × Nat} {t : Nat} {rm : Nat × Nat × Nat} {cs : Nat × Nat} {R : f_Rt} {a0 : Nat} {x1 : Int} {x3 : Int} {M : e_M} (C : f_Hy sh t yX2_addName rm cs 4 (lX2_addName) R) (h : VX2_addName (fun M => R none M) a0 x1 x3 M) : f_E sh t YX2_addName rm cs (f_Q sh t R) 0 [.inr (.inr (.inl (2, 19, a0))), .inr (.inl x1), .inr (.inr (.inr ())), .inl x3] [] M :=
  f_go (KC := f_kc []) C qX2_addNamef f_kc_nil 25 0 h
def WX2_addName (a0 : Nat) (x1 : Int) (x3 : Int) (M : e_M) (Q : e_M → Prop) : Prop :=
  VX2_addName Q a0 x1 x3 M
theorem PX2_addName {sh : Nat → Nat × Nat} {t : Nat} {rm : Nat × Nat × Nat} {cs : Nat × Nat} {R : f_Rt} {a0 : Nat} {x1 : Int} {x3 : Int} {M : e_M} (C : f_Hy sh t yX2_addName rm cs 4 (lX2_addName) R) (h : WX2_addName a0 x1 x3 M (fun M => R none M)) : f_E sh t YX2_addName rm cs (f_Q sh t R) 0 [.inr (.inr (.inl (2, 19, a0))), .inr (.inl x1), .inr (.inr (.inr ())), .inl x3] [] M :=
  BX2_addName C h
def wX2_addName : f_Wt := f_wm [(3, 2, 19), (2, 0, 0), (1, 0, 0)] (fun ar M R => WX2_addName (f_va (f_nth ar 0)) (f_vi (f_nth ar 1)) (f_vi (f_nth ar 2)) M (fun M => R none M))
theorem TX2_addName {sh : Nat → Nat × Nat} {t : Nat} : f_Mt sh t YX2_addName 4 (wX2_addName) :=
  f_Mt_of (k := 0) (Nat.le_of_ble_eq_true rfl) rfl rfl (fun ar M R rm cs h1 h2 h3 hX h => PX2_addName ⟨Nat.le_of_ble_eq_true rfl, h1, h2, h3, trivial, hX⟩ h)
def VX2_addPart (Q : e_M → Prop) (a0 : Nat) (x1 : Int) (x3 : Int) (M : e_M) : Prop :=
  ((6 ≤ (M a0 15) → (Q M)) ∧ ((M a0 15) < 6 → ((0 ≤ (M a0 15) ∧ (M a0 15) < 6) ∧ (∀ M1 : e_M, M1 = e_up M (a0 + 3) ((M a0 15).toNat) x1 → ((0 ≤ (M1 a0 15) ∧ (M1 a0 15) < 6) ∧ (∀ M2 : e_M, M2 = e_up M1 (a0 + 4) ((M1 a0 15).toNat) x3 → (∀ M3 : e_M, M3 = e_up M2 a0 15 (e_w32 ((M2 a0 15) + 1)) → (Q M3))))))))
def yX2_addPart (i : Nat) : e_Y := x_get YX2_addPart [] i
def pX2_addPartf : List x_I := [(0, 4, 1, 0, 0, 0, []), (1, 25, 2, 15, 0, 0, []), (4, 0, 2, 0, 0, 6, []), (6, 18, 39, 3, 23, 0, []), (9, 4, 1, 0, 0, 0, []), (10, 25, 2, 13, 4, 0, [(0, 23, 6), (0, 1, 3)]), (13, 4, 1, 0, 0, 0, []), (14, 25, 2, 15, 0, 0, []), (17, 3, 1, 1, 0, 0, []), (18, 28, 0, 1, 0, 0, []), (19, 4, 1, 0, 0, 0, []), (20, 25, 2, 14, 4, 0, [(0, 23, 6), (0, 1, 4)]), (23, 4, 1, 0, 0, 0, []), (24, 25, 2, 15, 0, 0, []), (27, 3, 1, 3, 0, 0, []), (28, 28, 0, 1, 0, 0, []), (29, 4, 1, 0, 0, 0, []), (30, 20, 0, 0, 0, 0, []), (31, 25, 2, 15, 0, 0, []), (34, 0, 1, 0, 0, 1, []), (35, 9, 0, 0, 0, 0, []), (36, 26, 2, 15, 0, 0, []), (39, 44, 0, 0, 0, 0, [])]
set_option maxRecDepth 20000 in
theorem qX2_addPartf : f_all yX2_addPart YX2_addPart pX2_addPartf :=
  ⟨f_aload_n (n := 0) (e_dx DX2_addPart_0 0 rfl) rfl,
  f_getf (e_dx DX2_addPart_0 1 rfl) fX2_66 rfl (by decide) (by decide) (by decide),
  f_bipush (e_dx DX2_addPart_0 2 rfl) ⟨by decide, by decide⟩,
  f_icmp_ge (e_dx DX2_addPart_0 3 rfl) rfl,
  f_aload_n (n := 0) (e_dx DX2_addPart_0 4 rfl) rfl,
  f_getA (e_dx DX2_addPart_0 5 rfl) fX2_19 rfl (by decide) (Nat.le_of_ble_eq_true rfl) rfl (by decide),
  f_aload_n (n := 0) (e_dx DX2_addPart_0 6 rfl) rfl,
  f_getf (e_dx DX2_addPart_0 7 rfl) fX2_66 rfl (by decide) (by decide) (by decide),
  f_lload_n (n := 1) (e_dx DX2_addPart_0 8 rfl) rfl,
  f_lastore (e_dx DX2_addPart_0 9 rfl),
  f_aload_n (n := 0) (e_dx DX2_addPart_0 10 rfl) rfl,
  f_getA (e_dx DX2_addPart_0 11 rfl) fX2_22 rfl (by decide) (Nat.le_of_ble_eq_true rfl) rfl (by decide),
  f_aload_n (n := 0) (e_dx DX2_addPart_0 12 rfl) rfl,
  f_getf (e_dx DX2_addPart_0 13 rfl) fX2_66 rfl (by decide) (by decide) (by decide),
  f_lload_n (n := 3) (e_dx DX2_addPart_0 14 rfl) rfl,
  f_lastore (e_dx DX2_addPart_0 15 rfl),
  f_aload_n (n := 0) (e_dx DX2_addPart_0 16 rfl) rfl,
  f_g20 (e_dx DX2_addPart_0 17 rfl),
  f_getf (e_dx DX2_addPart_0 18 rfl) fX2_66 rfl (by decide) (by decide) (by decide),
  f_iconst (e_dx DX2_addPart_0 19 rfl) ⟨by decide, by decide⟩,
  f_iadd (e_dx DX2_addPart_0 20 rfl),
  f_putn (e_dx DX2_addPart_0 21 rfl) fX2_66 (fun q hq => by cases hq; rfl) rfl (Or.inl rfl) (by decide),
  ⟨(e_dx DX2_addPart_0 22 rfl), rfl⟩, trivial⟩
def lX2_addPart : List (Nat × f_Wt) := []
set_option maxRecDepth 20000 in
theorem BX2_addPart {sh : Nat → Nat × Nat} {t : Nat} {rm : Nat × Nat × Nat} {cs : Nat × Nat} {R : f_Rt} {a0 : Nat} {x1 : Int} {x3 : Int} {M : e_M} (C : f_Hy sh t yX2_addPart rm cs 4 (lX2_addPart) R) (h : VX2_addPart (fun M => R none M) a0 x1 x3 M) : f_E sh t YX2_addPart rm cs (f_Q sh t R) 0 [.inr (.inr (.inl (2, 19, a0))), .inr (.inl x1), .inr (.inr (.inr ())), .inr (.inl x3), .inr (.inr (.inr ()))] [] M :=
  f_go (KC := f_kc []) C qX2_addPartf f_kc_nil 25 0 h
def WX2_addPart (a0 : Nat) (x1 : Int) (x3 : Int) (M : e_M) (Q : e_M → Prop) : Prop :=
  VX2_addPart Q a0 x1 x3 M
theorem PX2_addPart {sh : Nat → Nat × Nat} {t : Nat} {rm : Nat × Nat × Nat} {cs : Nat × Nat} {R : f_Rt} {a0 : Nat} {x1 : Int} {x3 : Int} {M : e_M} (C : f_Hy sh t yX2_addPart rm cs 4 (lX2_addPart) R) (h : WX2_addPart a0 x1 x3 M (fun M => R none M)) : f_E sh t YX2_addPart rm cs (f_Q sh t R) 0 [.inr (.inr (.inl (2, 19, a0))), .inr (.inl x1), .inr (.inr (.inr ())), .inr (.inl x3), .inr (.inr (.inr ()))] [] M :=
  BX2_addPart C h
def wX2_addPart : f_Wt := f_wm [(3, 2, 19), (2, 0, 0), (2, 0, 0)] (fun ar M R => WX2_addPart (f_va (f_nth ar 0)) (f_vi (f_nth ar 1)) (f_vi (f_nth ar 2)) M (fun M => R none M))
theorem TX2_addPart {sh : Nat → Nat × Nat} {t : Nat} : f_Mt sh t YX2_addPart 4 (wX2_addPart) :=
  f_Mt_of (k := 0) (Nat.le_of_ble_eq_true rfl) rfl rfl (fun ar M R rm cs h1 h2 h3 hX h => PX2_addPart ⟨Nat.le_of_ble_eq_true rfl, h1, h2, h3, trivial, hX⟩ h)
def VX2_addPoint (Q : e_M → Prop) (a0 : Nat) (x1 : Int) (x2 : Int) (M : e_M) : Prop :=
  ((12 ≤ (M a0 18) → (Q M)) ∧ ((M a0 18) < 12 → ((0 ≤ (M a0 18) ∧ (M a0 18) < 12) ∧ (∀ M1 : e_M, M1 = e_up M (a0 + 5) ((M a0 18).toNat) x1 → ((0 ≤ (M1 a0 18) ∧ (M1 a0 18) < 12) ∧ (∀ M2 : e_M, M2 = e_up M1 (a0 + 6) ((M1 a0 18).toNat) x2 → (∀ M3 : e_M, M3 = e_up M2 a0 18 (e_w32 ((M2 a0 18) + 1)) → (Q M3))))))))
def yX2_addPoint (i : Nat) : e_Y := x_get YX2_addPoint [] i
def pX2_addPointf : List x_I := [(0, 4, 1, 0, 0, 0, []), (1, 25, 2, 18, 0, 0, []), (4, 0, 2, 0, 0, 12, []), (6, 18, 39, 3, 23, 0, []), (9, 4, 1, 0, 0, 0, []), (10, 25, 2, 16, 4, 0, [(0, 20, 12), (0, 1, 5)]), (13, 4, 1, 0, 0, 0, []), (14, 25, 2, 18, 0, 0, []), (17, 2, 1, 1, 0, 0, []), (18, 28, 0, 0, 0, 0, []), (19, 4, 1, 0, 0, 0, []), (20, 25, 2, 17, 4, 0, [(0, 20, 12), (0, 1, 6)]), (23, 4, 1, 0, 0, 0, []), (24, 25, 2, 18, 0, 0, []), (27, 2, 1, 2, 0, 0, []), (28, 28, 0, 0, 0, 0, []), (29, 4, 1, 0, 0, 0, []), (30, 20, 0, 0, 0, 0, []), (31, 25, 2, 18, 0, 0, []), (34, 0, 1, 0, 0, 1, []), (35, 9, 0, 0, 0, 0, []), (36, 26, 2, 18, 0, 0, []), (39, 44, 0, 0, 0, 0, [])]
set_option maxRecDepth 20000 in
theorem qX2_addPointf : f_all yX2_addPoint YX2_addPoint pX2_addPointf :=
  ⟨f_aload_n (n := 0) (e_dx DX2_addPoint_0 0 rfl) rfl,
  f_getf (e_dx DX2_addPoint_0 1 rfl) fX2_69 rfl (by decide) (by decide) (by decide),
  f_bipush (e_dx DX2_addPoint_0 2 rfl) ⟨by decide, by decide⟩,
  f_icmp_ge (e_dx DX2_addPoint_0 3 rfl) rfl,
  f_aload_n (n := 0) (e_dx DX2_addPoint_0 4 rfl) rfl,
  f_getA (e_dx DX2_addPoint_0 5 rfl) fX2_25 rfl (by decide) (Nat.le_of_ble_eq_true rfl) rfl (by decide),
  f_aload_n (n := 0) (e_dx DX2_addPoint_0 6 rfl) rfl,
  f_getf (e_dx DX2_addPoint_0 7 rfl) fX2_69 rfl (by decide) (by decide) (by decide),
  f_iload_n (n := 1) (e_dx DX2_addPoint_0 8 rfl) rfl,
  f_iastore (e_dx DX2_addPoint_0 9 rfl),
  f_aload_n (n := 0) (e_dx DX2_addPoint_0 10 rfl) rfl,
  f_getA (e_dx DX2_addPoint_0 11 rfl) fX2_28 rfl (by decide) (Nat.le_of_ble_eq_true rfl) rfl (by decide),
  f_aload_n (n := 0) (e_dx DX2_addPoint_0 12 rfl) rfl,
  f_getf (e_dx DX2_addPoint_0 13 rfl) fX2_69 rfl (by decide) (by decide) (by decide),
  f_iload_n (n := 2) (e_dx DX2_addPoint_0 14 rfl) rfl,
  f_iastore (e_dx DX2_addPoint_0 15 rfl),
  f_aload_n (n := 0) (e_dx DX2_addPoint_0 16 rfl) rfl,
  f_g20 (e_dx DX2_addPoint_0 17 rfl),
  f_getf (e_dx DX2_addPoint_0 18 rfl) fX2_69 rfl (by decide) (by decide) (by decide),
  f_iconst (e_dx DX2_addPoint_0 19 rfl) ⟨by decide, by decide⟩,
  f_iadd (e_dx DX2_addPoint_0 20 rfl),
  f_putn (e_dx DX2_addPoint_0 21 rfl) fX2_69 (fun q hq => by cases hq; rfl) rfl (Or.inl rfl) (by decide),
  ⟨(e_dx DX2_addPoint_0 22 rfl), rfl⟩, trivial⟩
def lX2_addPoint : List (Nat × f_Wt) := []
set_option maxRecDepth 20000 in
theorem BX2_addPoint {sh : Nat → Nat × Nat} {t : Nat} {rm : Nat × Nat × Nat} {cs : Nat × Nat} {R : f_Rt} {a0 : Nat} {x1 : Int} {x2 : Int} {M : e_M} (C : f_Hy sh t yX2_addPoint rm cs 4 (lX2_addPoint) R) (h : VX2_addPoint (fun M => R none M) a0 x1 x2 M) : f_E sh t YX2_addPoint rm cs (f_Q sh t R) 0 [.inr (.inr (.inl (2, 19, a0))), .inl x1, .inl x2] [] M :=
  f_go (KC := f_kc []) C qX2_addPointf f_kc_nil 25 0 h
def WX2_addPoint (a0 : Nat) (x1 : Int) (x2 : Int) (M : e_M) (Q : e_M → Prop) : Prop :=
  VX2_addPoint Q a0 x1 x2 M
theorem PX2_addPoint {sh : Nat → Nat × Nat} {t : Nat} {rm : Nat × Nat × Nat} {cs : Nat × Nat} {R : f_Rt} {a0 : Nat} {x1 : Int} {x2 : Int} {M : e_M} (C : f_Hy sh t yX2_addPoint rm cs 4 (lX2_addPoint) R) (h : WX2_addPoint a0 x1 x2 M (fun M => R none M)) : f_E sh t YX2_addPoint rm cs (f_Q sh t R) 0 [.inr (.inr (.inl (2, 19, a0))), .inl x1, .inl x2] [] M :=
  BX2_addPoint C h
def wX2_addPoint : f_Wt := f_wm [(3, 2, 19), (1, 0, 0), (1, 0, 0)] (fun ar M R => WX2_addPoint (f_va (f_nth ar 0)) (f_vi (f_nth ar 1)) (f_vi (f_nth ar 2)) M (fun M => R none M))
theorem TX2_addPoint {sh : Nat → Nat × Nat} {t : Nat} : f_Mt sh t YX2_addPoint 4 (wX2_addPoint) :=
  f_Mt_of (k := 0) (Nat.le_of_ble_eq_true rfl) rfl rfl (fun ar M R rm cs h1 h2 h3 hX h => PX2_addPoint ⟨Nat.le_of_ble_eq_true rfl, h1, h2, h3, trivial, hX⟩ h)
def VX7_take (Q : e_M → Prop) (M : e_M) : Prop :=
  (((M 10 7) = 0 → ((0 ≤ (M 10 5) ∧ (M 10 5) < 641) ∧ (((M 13 ((M 10 5).toNat)) < 600 → (((M 10 4) ≤ (e_w32 ((M 10 5) + 1)) → (Q M)) ∧ ((e_w32 ((M 10 5) + 1)) < (M 10 4) → (∀ M1 : e_M, M1 = e_up M 10 5 (e_w32 ((M 10 5) + 1)) → ((0 ≤ (M1 10 5) ∧ (M1 10 5) < 641) ∧ (∀ M2 : e_M, M2 = e_up M1 10 6 (M1 12 ((M1 10 5).toNat)) → (Q M2))))))) ∧ (600 ≤ (M 13 ((M 10 5).toNat)) → (∀ M3 : e_M, M3 = e_up M 10 7 4 → ((0 ≤ (M3 10 5) ∧ (M3 10 5) < 641) ∧ (∀ M4 : e_M, M4 = e_up M3 10 8 (M3 13 ((M3 10 5).toNat)) → (∀ M5 : e_M, M5 = e_up M4 10 6 5 → (Q M5))))))))) ∧ (¬ (M 10 7) = 0 → (Q M)))
def yX7_take (i : Nat) : e_Y := x_get YX7_take [] i
def pX7_takef : List x_I := [(0, 4, 1, 0, 0, 0, []), (1, 25, 7, 7, 0, 0, []), (4, 17, 8, 0, 5, 0, []), (7, 44, 0, 0, 0, 0, []), (8, 4, 1, 0, 0, 0, []), (9, 25, 7, 2, 4, 0, [(0, 20, 641), (0, 1, 3)]), (12, 4, 1, 0, 0, 0, []), (13, 25, 7, 5, 0, 0, []), (16, 27, 0, 0, 0, 0, []), (17, 0, 3, 0, 0, 600, []), (20, 18, 49, 2, 26, 0, []), (23, 4, 1, 0, 0, 0, []), (24, 0, 1, 0, 0, 4, []), (25, 26, 7, 7, 0, 0, []), (28, 4, 1, 0, 0, 0, []), (29, 4, 1, 0, 0, 0, []), (30, 25, 7, 2, 4, 0, [(0, 20, 641), (0, 1, 3)]), (33, 4, 1, 0, 0, 0, []), (34, 25, 7, 5, 0, 0, []), (37, 27, 0, 0, 0, 0, []), (38, 26, 7, 8, 0, 0, []), (41, 4, 1, 0, 0, 0, []), (42, 0, 1, 0, 0, 5, []), (43, 26, 7, 6, 0, 0, []), (46, 19, 85, 0, 46, 0, []), (49, 4, 1, 0, 0, 0, []), (50, 25, 7, 5, 0, 0, []), (53, 0, 1, 0, 0, 1, []), (54, 9, 0, 0, 0, 0, []), (55, 4, 1, 0, 0, 0, []), (56, 25, 7, 4, 0, 0, []), (59, 18, 85, 3, 46, 0, []), (62, 4, 1, 0, 0, 0, []), (63, 20, 0, 0, 0, 0, []), (64, 25, 7, 5, 0, 0, []), (67, 0, 1, 0, 0, 1, []), (68, 9, 0, 0, 0, 0, []), (69, 26, 7, 5, 0, 0, []), (72, 4, 1, 0, 0, 0, []), (73, 4, 1, 0, 0, 0, []), (74, 25, 7, 1, 4, 0, [(0, 20, 641), (0, 1, 2)]), (77, 4, 1, 0, 0, 0, []), (78, 25, 7, 5, 0, 0, []), (81, 27, 0, 0, 0, 0, []), (82, 26, 7, 6, 0, 0, []), (85, 44, 0, 0, 0, 0, [])]
set_option maxRecDepth 20000 in
theorem qX7_takef : f_all yX7_take YX7_take pX7_takef :=
  ⟨f_aload_n (n := 0) (e_dx DX7_take_0 0 rfl) rfl,
  f_getf (e_dx DX7_take_0 1 rfl) fX7_35 rfl (by decide) (by decide) (by decide),
  f_if_eq (e_dx DX7_take_0 2 rfl) rfl,
  ⟨(e_dx DX7_take_0 3 rfl), rfl⟩,
  f_aload_n (n := 0) (e_dx DX7_take_0 4 rfl) rfl,
  f_getA (e_dx DX7_take_0 5 rfl) fX7_19 rfl (by decide) (Nat.le_of_ble_eq_true rfl) rfl (by decide),
  f_aload_n (n := 0) (e_dx DX7_take_0 6 rfl) rfl,
  f_getf (e_dx DX7_take_0 7 rfl) fX7_29 rfl (by decide) (by decide) (by decide),
  f_iaload (e_dx DX7_take_0 8 rfl),
  f_sipush (e_dx DX7_take_0 9 rfl) ⟨by decide, by decide⟩,
  f_icmp_lt (e_dx DX7_take_0 10 rfl) rfl,
  f_aload_n (n := 0) (e_dx DX7_take_0 11 rfl) rfl,
  f_iconst (e_dx DX7_take_0 12 rfl) ⟨by decide, by decide⟩,
  f_putn (e_dx DX7_take_0 13 rfl) fX7_35 (fun q hq => by cases hq; rfl) rfl (Or.inl rfl) (by decide),
  f_aload_n (n := 0) (e_dx DX7_take_0 14 rfl) rfl,
  f_aload_n (n := 0) (e_dx DX7_take_0 15 rfl) rfl,
  f_getA (e_dx DX7_take_0 16 rfl) fX7_19 rfl (by decide) (Nat.le_of_ble_eq_true rfl) rfl (by decide),
  f_aload_n (n := 0) (e_dx DX7_take_0 17 rfl) rfl,
  f_getf (e_dx DX7_take_0 18 rfl) fX7_29 rfl (by decide) (by decide) (by decide),
  f_iaload (e_dx DX7_take_0 19 rfl),
  f_putn (e_dx DX7_take_0 20 rfl) fX7_38 (fun q hq => by cases hq; rfl) rfl (Or.inl rfl) (by decide),
  f_aload_n (n := 0) (e_dx DX7_take_0 21 rfl) rfl,
  f_iconst (e_dx DX7_take_0 22 rfl) ⟨by decide, by decide⟩,
  f_putn (e_dx DX7_take_0 23 rfl) fX7_32 (fun q hq => by cases hq; rfl) rfl (Or.inl rfl) (by decide),
  f_g19 (e_dx DX7_take_0 24 rfl) rfl,
  f_aload_n (n := 0) (e_dx DX7_take_0 25 rfl) rfl,
  f_getf (e_dx DX7_take_0 26 rfl) fX7_29 rfl (by decide) (by decide) (by decide),
  f_iconst (e_dx DX7_take_0 27 rfl) ⟨by decide, by decide⟩,
  f_iadd (e_dx DX7_take_0 28 rfl),
  f_aload_n (n := 0) (e_dx DX7_take_0 29 rfl) rfl,
  f_getf (e_dx DX7_take_0 30 rfl) fX7_25 rfl (by decide) (by decide) (by decide),
  f_icmp_ge (e_dx DX7_take_0 31 rfl) rfl,
  f_aload_n (n := 0) (e_dx DX7_take_0 32 rfl) rfl,
  f_g20 (e_dx DX7_take_0 33 rfl),
  f_getf (e_dx DX7_take_0 34 rfl) fX7_29 rfl (by decide) (by decide) (by decide),
  f_iconst (e_dx DX7_take_0 35 rfl) ⟨by decide, by decide⟩,
  f_iadd (e_dx DX7_take_0 36 rfl),
  f_putn (e_dx DX7_take_0 37 rfl) fX7_29 (fun q hq => by cases hq; rfl) rfl (Or.inl rfl) (by decide),
  f_aload_n (n := 0) (e_dx DX7_take_0 38 rfl) rfl,
  f_aload_n (n := 0) (e_dx DX7_take_0 39 rfl) rfl,
  f_getA (e_dx DX7_take_1 0 rfl) fX7_15 rfl (by decide) (Nat.le_of_ble_eq_true rfl) rfl (by decide),
  f_aload_n (n := 0) (e_dx DX7_take_1 1 rfl) rfl,
  f_getf (e_dx DX7_take_1 2 rfl) fX7_29 rfl (by decide) (by decide) (by decide),
  f_iaload (e_dx DX7_take_1 3 rfl),
  f_putn (e_dx DX7_take_1 4 rfl) fX7_32 (fun q hq => by cases hq; rfl) rfl (Or.inl rfl) (by decide),
  ⟨(e_dx DX7_take_1 5 rfl), rfl⟩, trivial⟩
def lX7_take : List (Nat × f_Wt) := []
set_option maxRecDepth 20000 in
theorem BX7_take {sh : Nat → Nat × Nat} {t : Nat} {rm : Nat × Nat × Nat} {cs : Nat × Nat} {R : f_Rt} {M : e_M} (C : f_Hy sh t yX7_take rm cs 4 (lX7_take) R) (h : VX7_take (fun M => R none M) M) : f_E sh t YX7_take rm cs (f_Q sh t R) 0 [.inr (.inr (.inl (7, 12, 10)))] [] M :=
  f_go (KC := f_kc []) C qX7_takef f_kc_nil 48 0 h
def WX7_take (M : e_M) (Q : e_M → Prop) : Prop :=
  VX7_take Q M
theorem PX7_take {sh : Nat → Nat × Nat} {t : Nat} {rm : Nat × Nat × Nat} {cs : Nat × Nat} {R : f_Rt} {M : e_M} (C : f_Hy sh t yX7_take rm cs 4 (lX7_take) R) (h : WX7_take M (fun M => R none M)) : f_E sh t YX7_take rm cs (f_Q sh t R) 0 [.inr (.inr (.inl (7, 12, 10)))] [] M :=
  BX7_take C h
def wX7_take : f_Wt := f_wm [(20, 7, 12)] (fun ar M R => WX7_take M (fun M => R none M))
theorem TX7_take {sh : Nat → Nat × Nat} {t : Nat} : f_Mt sh t YX7_take 4 (wX7_take) :=
  f_Mt_of (k := 0) (Nat.le_of_ble_eq_true rfl) rfl rfl (fun ar M R rm cs h1 h2 h3 hX h => PX7_take ⟨Nat.le_of_ble_eq_true rfl, h1, h2, h3, trivial, hX⟩ h)
def VX7_note (Q : e_M → Prop) (x1 : Int) (M : e_M) : Prop :=
  ((¬ (M 10 7) = 0 → (Q M)) ∧ ((M 10 7) = 0 → (∀ M1 : e_M, M1 = e_up M 10 7 x1 → ((0 ≤ (M1 10 5) ∧ (M1 10 5) < 641) ∧ (∀ M2 : e_M, M2 = e_up M1 10 8 (M1 13 ((M1 10 5).toNat)) → (∀ M3 : e_M, M3 = e_up M2 10 6 5 → (Q M3)))))))
def yX7_note (i : Nat) : e_Y := x_get YX7_note [] i
def pX7_notef : List x_I := [(0, 4, 1, 0, 0, 0, []), (1, 25, 7, 7, 0, 0, []), (4, 17, 30, 1, 17, 0, []), (7, 4, 1, 0, 0, 0, []), (8, 2, 1, 1, 0, 0, []), (9, 26, 7, 7, 0, 0, []), (12, 4, 1, 0, 0, 0, []), (13, 4, 1, 0, 0, 0, []), (14, 25, 7, 2, 4, 0, [(0, 20, 641), (0, 1, 3)]), (17, 4, 1, 0, 0, 0, []), (18, 25, 7, 5, 0, 0, []), (21, 27, 0, 0, 0, 0, []), (22, 26, 7, 8, 0, 0, []), (25, 4, 1, 0, 0, 0, []), (26, 0, 1, 0, 0, 5, []), (27, 26, 7, 6, 0, 0, []), (30, 44, 0, 0, 0, 0, [])]
set_option maxRecDepth 20000 in
theorem qX7_notef : f_all yX7_note YX7_note pX7_notef :=
  ⟨f_aload_n (n := 0) (e_dx DX7_note_0 0 rfl) rfl,
  f_getf (e_dx DX7_note_0 1 rfl) fX7_35 rfl (by decide) (by decide) (by decide),
  f_if_ne (e_dx DX7_note_0 2 rfl) rfl,
  f_aload_n (n := 0) (e_dx DX7_note_0 3 rfl) rfl,
  f_iload_n (n := 1) (e_dx DX7_note_0 4 rfl) rfl,
  f_putn (e_dx DX7_note_0 5 rfl) fX7_35 (fun q hq => by cases hq; rfl) rfl (Or.inl rfl) (by decide),
  f_aload_n (n := 0) (e_dx DX7_note_0 6 rfl) rfl,
  f_aload_n (n := 0) (e_dx DX7_note_0 7 rfl) rfl,
  f_getA (e_dx DX7_note_0 8 rfl) fX7_19 rfl (by decide) (Nat.le_of_ble_eq_true rfl) rfl (by decide),
  f_aload_n (n := 0) (e_dx DX7_note_0 9 rfl) rfl,
  f_getf (e_dx DX7_note_0 10 rfl) fX7_29 rfl (by decide) (by decide) (by decide),
  f_iaload (e_dx DX7_note_0 11 rfl),
  f_putn (e_dx DX7_note_0 12 rfl) fX7_38 (fun q hq => by cases hq; rfl) rfl (Or.inl rfl) (by decide),
  f_aload_n (n := 0) (e_dx DX7_note_0 13 rfl) rfl,
  f_iconst (e_dx DX7_note_0 14 rfl) ⟨by decide, by decide⟩,
  f_putn (e_dx DX7_note_0 15 rfl) fX7_32 (fun q hq => by cases hq; rfl) rfl (Or.inl rfl) (by decide),
  ⟨(e_dx DX7_note_0 16 rfl), rfl⟩, trivial⟩
def lX7_note : List (Nat × f_Wt) := []
set_option maxRecDepth 20000 in
theorem BX7_note {sh : Nat → Nat × Nat} {t : Nat} {rm : Nat × Nat × Nat} {cs : Nat × Nat} {R : f_Rt} {x1 : Int} {M : e_M} (C : f_Hy sh t yX7_note rm cs 4 (lX7_note) R) (h : VX7_note (fun M => R none M) x1 M) : f_E sh t YX7_note rm cs (f_Q sh t R) 0 [.inr (.inr (.inl (7, 12, 10))), .inl x1] [] M :=
  f_go (KC := f_kc []) C qX7_notef f_kc_nil 19 0 h
def WX7_note (x1 : Int) (M : e_M) (Q : e_M → Prop) : Prop :=
  VX7_note Q x1 M
theorem PX7_note {sh : Nat → Nat × Nat} {t : Nat} {rm : Nat × Nat × Nat} {cs : Nat × Nat} {R : f_Rt} {x1 : Int} {M : e_M} (C : f_Hy sh t yX7_note rm cs 4 (lX7_note) R) (h : WX7_note x1 M (fun M => R none M)) : f_E sh t YX7_note rm cs (f_Q sh t R) 0 [.inr (.inr (.inl (7, 12, 10))), .inl x1] [] M :=
  BX7_note C h
def wX7_note : f_Wt := f_wm [(20, 7, 12), (1, 0, 0)] (fun ar M R => WX7_note (f_vi (f_nth ar 1)) M (fun M => R none M))
theorem TX7_note {sh : Nat → Nat × Nat} {t : Nat} : f_Mt sh t YX7_note 4 (wX7_note) :=
  f_Mt_of (k := 0) (Nat.le_of_ble_eq_true rfl) rfl rfl (fun ar M R rm cs h1 h2 h3 hX h => PX7_note ⟨Nat.le_of_ble_eq_true rfl, h1, h2, h3, trivial, hX⟩ h)
def VX7_expect (c_X7_take : e_M → (e_M → Prop) → Prop) (c_X7_note : Int → e_M → (e_M → Prop) → Prop) (Q : e_M → Prop) (x1 : Int) (M : e_M) : Prop :=
  ((¬ (M 10 6) = x1 → (c_X7_note 1 M (fun M1 => (Q M1)))) ∧ ((M 10 6) = x1 → (c_X7_take M (fun M2 => (Q M2)))))
def yX7_expect (i : Nat) : e_Y := x_get YX7_expect [YX7_take, YX7_note] i
def pX7_expectf : List x_I := [(0, 4, 1, 0, 0, 0, []), (1, 25, 7, 6, 0, 0, []), (4, 2, 1, 1, 0, 0, []), (5, 18, 15, 1, 8, 0, []), (8, 4, 1, 0, 0, 0, []), (9, 40, 0, 1, 9, 0, []), (12, 19, 20, 0, 11, 0, []), (15, 4, 1, 0, 0, 0, []), (16, 0, 1, 0, 0, 1, []), (17, 40, 1, 2, 9, 0, []), (20, 44, 0, 0, 0, 0, [])]
set_option maxRecDepth 20000 in
theorem qX7_expectf : f_all yX7_expect YX7_expect pX7_expectf :=
  ⟨f_aload_n (n := 0) (e_dx DX7_expect_0 0 rfl) rfl,
  f_getf (e_dx DX7_expect_0 1 rfl) fX7_32 rfl (by decide) (by decide) (by decide),
  f_iload_n (n := 1) (e_dx DX7_expect_0 2 rfl) rfl,
  f_icmp_ne (e_dx DX7_expect_0 3 rfl) rfl,
  f_aload_n (n := 0) (e_dx DX7_expect_0 4 rfl) rfl,
  x_callV (e_dx DX7_expect_0 5 rfl) mwX7_take vwX7_take cX7_121 rfl,
  f_g19 (e_dx DX7_expect_0 6 rfl) rfl,
  f_aload_n (n := 0) (e_dx DX7_expect_0 7 rfl) rfl,
  f_iconst (e_dx DX7_expect_0 8 rfl) ⟨by decide, by decide⟩,
  x_callV (e_dx DX7_expect_0 9 rfl) mwX7_note vwX7_note cX7_124 rfl,
  ⟨(e_dx DX7_expect_0 10 rfl), rfl⟩, trivial⟩
def lX7_expect (c_X7_take : e_M → (e_M → Prop) → Prop) (c_X7_note : Int → e_M → (e_M → Prop) → Prop) : List (Nat × f_Wt) := [(0, f_wm [(20, 7, 12)] (fun ar M R => c_X7_take  M (fun M => R none M))), (1, f_wm [(20, 7, 12), (1, 0, 0)] (fun ar M R => c_X7_note (f_vi (f_nth ar 1)) M (fun M => R none M)))]
set_option maxRecDepth 20000 in
theorem BX7_expect {sh : Nat → Nat × Nat} {t : Nat} {rm : Nat × Nat × Nat} {cs : Nat × Nat} {R : f_Rt} {c_X7_take : e_M → (e_M → Prop) → Prop} {c_X7_note : Int → e_M → (e_M → Prop) → Prop} {x1 : Int} {M : e_M} (C : f_Hy sh t yX7_expect rm cs 5 (lX7_expect c_X7_take c_X7_note) R) (h : VX7_expect c_X7_take c_X7_note (fun M => R none M) x1 M) : f_E sh t YX7_expect rm cs (f_Q sh t R) 0 [.inr (.inr (.inl (7, 12, 10))), .inl x1] [] M :=
  f_go (KC := f_kc []) C qX7_expectf f_kc_nil 13 0 h
def WX7_expect (x1 : Int) (M : e_M) (Q : e_M → Prop) : Prop :=
  VX7_expect WX7_take WX7_note Q x1 M
theorem PX7_expect {sh : Nat → Nat × Nat} {t : Nat} {rm : Nat × Nat × Nat} {cs : Nat × Nat} {R : f_Rt} {x1 : Int} {M : e_M} (C : f_Hy sh t yX7_expect rm cs 5 (lX7_expect WX7_take WX7_note) R) (h : WX7_expect x1 M (fun M => R none M)) : f_E sh t YX7_expect rm cs (f_Q sh t R) 0 [.inr (.inr (.inl (7, 12, 10))), .inl x1] [] M :=
  BX7_expect C h
def wX7_expect : f_Wt := f_wm [(20, 7, 12), (1, 0, 0)] (fun ar M R => WX7_expect (f_vi (f_nth ar 1)) M (fun M => R none M))
theorem TX7_expect {sh : Nat → Nat × Nat} {t : Nat} : f_Mt sh t YX7_expect 5 (wX7_expect) :=
  f_Mt_of (k := 0) (Nat.le_of_ble_eq_true rfl) rfl rfl (fun ar M R rm cs h1 h2 h3 hX h => PX7_expect ⟨Nat.le_of_ble_eq_true rfl, h1, h2, h3, ⟨(f_Mt.up (Nat.le_of_ble_eq_true rfl) TX7_take), (f_Mt.up (Nat.le_of_ble_eq_true rfl) TX7_note), trivial⟩, hX⟩ h)
def VX7_takeDate_28 (c_X7_note : Int → e_M → (e_M → Prop) → Prop) (c_X7_expect : Int → e_M → (e_M → Prop) → Prop) (Q : Int → e_M → Prop) (x1 : Int) (M : e_M) : Prop :=
  (c_X7_expect 2 M (fun M1 => (Q x1 M1)))
def VX7_takeDate (c_X7_note : Int → e_M → (e_M → Prop) → Prop) (c_X7_expect : Int → e_M → (e_M → Prop) → Prop) (k28 : Int → e_M → Prop) (Q : Int → e_M → Prop) (M : e_M) : Prop :=
  ((0 ≤ (M 10 5) ∧ (M 10 5) < 641) ∧ ((¬ (M 10 6) = 2 → (k28 (e_w32 (M 14 ((M 10 5).toNat))) M)) ∧ ((M 10 6) = 2 → ((0 ≤ (e_w32 (M 14 ((M 10 5).toNat))) → (k28 (e_w32 (M 14 ((M 10 5).toNat))) M)) ∧ ((e_w32 (M 14 ((M 10 5).toNat))) < 0 → (c_X7_note 2 M (fun M1 => (k28 (e_w32 (M 14 ((M 10 5).toNat))) M1))))))))
def yX7_takeDate (i : Nat) : e_Y := x_get YX7_takeDate [YX7_note, YX7_expect] i
def pX7_takeDatef : List x_I := [(0, 4, 1, 0, 0, 0, []), (1, 25, 7, 3, 4, 0, [(0, 23, 641), (0, 1, 4)]), (4, 4, 1, 0, 0, 0, []), (5, 25, 7, 5, 0, 0, []), (8, 27, 0, 1, 0, 0, []), (9, 15, 0, 0, 0, 0, []), (10, 5, 1, 1, 0, 0, []), (11, 4, 1, 0, 0, 0, []), (12, 25, 7, 6, 0, 0, []), (15, 0, 1, 0, 0, 2, []), (16, 18, 28, 1, 17, 0, []), (19, 2, 1, 1, 0, 0, []), (20, 17, 28, 3, 17, 0, []), (23, 4, 1, 0, 0, 0, []), (24, 0, 1, 0, 0, 2, []), (25, 40, 0, 2, 9, 0, []), (28, 49, 0, 0, 0, 0, []), (28, 4, 1, 0, 0, 0, []), (29, 0, 1, 0, 0, 2, []), (30, 40, 1, 2, 9, 0, []), (33, 2, 1, 1, 0, 0, []), (34, 41, 0, 0, 0, 0, [])]
set_option maxRecDepth 20000 in
theorem qX7_takeDatef : f_all yX7_takeDate YX7_takeDate pX7_takeDatef :=
  ⟨f_aload_n (n := 0) (e_dx DX7_takeDate_0 0 rfl) rfl,
  f_getA (e_dx DX7_takeDate_0 1 rfl) fX7_22 rfl (by decide) (Nat.le_of_ble_eq_true rfl) rfl (by decide),
  f_aload_n (n := 0) (e_dx DX7_takeDate_0 2 rfl) rfl,
  f_getf (e_dx DX7_takeDate_0 3 rfl) fX7_29 rfl (by decide) (by decide) (by decide),
  f_laload (e_dx DX7_takeDate_0 4 rfl),
  f_g15 (e_dx DX7_takeDate_0 5 rfl),
  f_istore_n (n := 1) (e_dx DX7_takeDate_0 6 rfl) rfl (by decide),
  f_aload_n (n := 0) (e_dx DX7_takeDate_0 7 rfl) rfl,
  f_getf (e_dx DX7_takeDate_0 8 rfl) fX7_32 rfl (by decide) (by decide) (by decide),
  f_iconst (e_dx DX7_takeDate_0 9 rfl) ⟨by decide, by decide⟩,
  f_icmp_ne (e_dx DX7_takeDate_0 10 rfl) rfl,
  f_iload_n (n := 1) (e_dx DX7_takeDate_0 11 rfl) rfl,
  f_if_ge (e_dx DX7_takeDate_0 12 rfl) rfl,
  f_aload_n (n := 0) (e_dx DX7_takeDate_0 13 rfl) rfl,
  f_iconst (e_dx DX7_takeDate_0 14 rfl) ⟨by decide, by decide⟩,
  x_callV (e_dx DX7_takeDate_0 15 rfl) mwX7_note vwX7_note cX7_124 rfl,
  trivial,
  f_aload_n (n := 0) (e_dx DX7_takeDate_0 16 rfl) rfl,
  f_iconst (e_dx DX7_takeDate_0 17 rfl) ⟨by decide, by decide⟩,
  x_callV (e_dx DX7_takeDate_0 18 rfl) mwX7_expect vwX7_expect cX7_128 rfl,
  f_iload_n (n := 1) (e_dx DX7_takeDate_0 19 rfl) rfl,
  ⟨(e_dx DX7_takeDate_0 20 rfl), rfl⟩, trivial⟩
def lX7_takeDate (c_X7_note : Int → e_M → (e_M → Prop) → Prop) (c_X7_expect : Int → e_M → (e_M → Prop) → Prop) : List (Nat × f_Wt) := [(0, f_wm [(20, 7, 12), (1, 0, 0)] (fun ar M R => c_X7_note (f_vi (f_nth ar 1)) M (fun M => R none M))), (1, f_wm [(20, 7, 12), (1, 0, 0)] (fun ar M R => c_X7_expect (f_vi (f_nth ar 1)) M (fun M => R none M)))]
set_option maxRecDepth 20000 in
theorem BX7_takeDate_28 {sh : Nat → Nat × Nat} {t : Nat} {rm : Nat × Nat × Nat} {cs : Nat × Nat} {R : f_Rt} {c_X7_note : Int → e_M → (e_M → Prop) → Prop} {c_X7_expect : Int → e_M → (e_M → Prop) → Prop} {x1 : Int} {M : e_M} (C : f_Hy sh t yX7_takeDate rm cs 6 (lX7_takeDate c_X7_note c_X7_expect) R) (h : VX7_takeDate_28 c_X7_note c_X7_expect (fun r M => R (some (.inl r)) M) x1 M) : f_E sh t YX7_takeDate rm cs (f_Q sh t R) 28 [.inr (.inr (.inl (7, 12, 10))), .inl x1] [] M :=
  f_go (KC := f_kc []) C qX7_takeDatef f_kc_nil 24 17 h
set_option maxRecDepth 20000 in
theorem BX7_takeDate {sh : Nat → Nat × Nat} {t : Nat} {rm : Nat × Nat × Nat} {cs : Nat × Nat} {R : f_Rt} {c_X7_note : Int → e_M → (e_M → Prop) → Prop} {c_X7_expect : Int → e_M → (e_M → Prop) → Prop} {k28 : Int → e_M → Prop} {M : e_M} (C : f_Hy sh t yX7_takeDate rm cs 6 (lX7_takeDate c_X7_note c_X7_expect) R) (h28 : ∀ (x1 : Int) (M : e_M), k28 x1 M → f_E sh t YX7_takeDate rm cs (f_Q sh t R) 28 [.inr (.inr (.inl (7, 12, 10))), .inl x1] [] M) (h : VX7_takeDate c_X7_note c_X7_expect k28 (fun r M => R (some (.inl r)) M) M) : f_E sh t YX7_takeDate rm cs (f_Q sh t R) 0 [.inr (.inr (.inl (7, 12, 10))), .inr (.inr (.inr ()))] [] M :=
  f_go (KC := f_kc [(28, f_pl [(20, 7, 12), (1, 0, 0)] [] (fun ls st M => k28 (f_vi (f_nth ls 1)) M))]) C qX7_takeDatef (f_kc_cons (f_pl_ok rfl (fun ls st M h => h28 _ M h)) f_kc_nil) 24 0 h
def WX7_takeDate_28 (Q : Int → e_M → Prop) (x1 : Int) (M : e_M) : Prop :=
  VX7_takeDate_28 WX7_note WX7_expect Q x1 M
def WX7_takeDate (M : e_M) (Q : Int → e_M → Prop) : Prop :=
  VX7_takeDate WX7_note WX7_expect (WX7_takeDate_28 Q) Q M
theorem PX7_takeDate_28 {sh : Nat → Nat × Nat} {t : Nat} {rm : Nat × Nat × Nat} {cs : Nat × Nat} {R : f_Rt} {x1 : Int} {M : e_M} (C : f_Hy sh t yX7_takeDate rm cs 6 (lX7_takeDate WX7_note WX7_expect) R) (h : WX7_takeDate_28 (fun r M => R (some (.inl r)) M) x1 M) : f_E sh t YX7_takeDate rm cs (f_Q sh t R) 28 [.inr (.inr (.inl (7, 12, 10))), .inl x1] [] M :=
  BX7_takeDate_28 C h
theorem PX7_takeDate {sh : Nat → Nat × Nat} {t : Nat} {rm : Nat × Nat × Nat} {cs : Nat × Nat} {R : f_Rt} {M : e_M} (C : f_Hy sh t yX7_takeDate rm cs 6 (lX7_takeDate WX7_note WX7_expect) R) (h : WX7_takeDate M (fun r M => R (some (.inl r)) M)) : f_E sh t YX7_takeDate rm cs (f_Q sh t R) 0 [.inr (.inr (.inl (7, 12, 10))), .inr (.inr (.inr ()))] [] M :=
  BX7_takeDate C (fun x1 M h => PX7_takeDate_28 C h) h
def wX7_takeDate : f_Wt := f_wm [(20, 7, 12)] (fun ar M R => WX7_takeDate M (fun r M => R (some (.inl r)) M))
theorem TX7_takeDate {sh : Nat → Nat × Nat} {t : Nat} : f_Mt sh t YX7_takeDate 6 (wX7_takeDate) :=
  f_Mt_of (k := 1) (Nat.le_of_ble_eq_true rfl) rfl rfl (fun ar M R rm cs h1 h2 h3 hX h => PX7_takeDate ⟨Nat.le_of_ble_eq_true rfl, h1, h2, h3, ⟨(f_Mt.up (Nat.le_of_ble_eq_true rfl) TX7_note), (f_Mt.up (Nat.le_of_ble_eq_true rfl) TX7_expect), trivial⟩, hX⟩ h)
def VX6_opens (c_X7_note : Int → e_M → (e_M → Prop) → Prop) (c_X7_take : e_M → (e_M → Prop) → Prop) (Q : Int → e_M → Prop) (M : e_M) : Prop :=
  (((M 22 10) < 10 → (∀ M1 : e_M, M1 = e_up M 22 10 (e_w32 ((M 22 10) + 1)) → (c_X7_take M1 (fun M2 => (Q 1 M2))))) ∧ (10 ≤ (M 22 10) → (c_X7_note 4 M (fun M3 => (Q 0 M3)))))
def yX6_opens (i : Nat) : e_Y := x_get YX6_opens [YX7_note, YX7_take] i
def pX6_opensf : List x_I := [(0, 4, 1, 0, 0, 0, []), (1, 25, 6, 10, 0, 0, []), (4, 0, 2, 0, 0, 10, []), (6, 18, 19, 2, 11, 0, []), (9, 4, 1, 0, 0, 0, []), (10, 25, 6, 0, 4, 0, [(0, 7, 12), (0, 2, 10)]), (13, 0, 1, 0, 0, 4, []), (14, 40, 0, 2, 9, 0, []), (17, 0, 1, 0, 0, 0, []), (18, 48, 0, 0, 0, 0, []), (19, 4, 1, 0, 0, 0, []), (20, 20, 0, 0, 0, 0, []), (21, 25, 6, 10, 0, 0, []), (24, 0, 1, 0, 0, 1, []), (25, 9, 0, 0, 0, 0, []), (26, 26, 6, 10, 0, 0, []), (29, 4, 1, 0, 0, 0, []), (30, 25, 6, 0, 4, 0, [(0, 7, 12), (0, 2, 10)]), (33, 40, 1, 1, 9, 0, []), (36, 0, 1, 0, 0, 1, []), (37, 48, 0, 0, 0, 0, [])]
set_option maxRecDepth 20000 in
theorem qX6_opensf : f_all yX6_opens YX6_opens pX6_opensf :=
  ⟨f_aload_n (n := 0) (e_dx DX6_opens_0 0 rfl) rfl,
  f_getf (e_dx DX6_opens_0 1 rfl) fX6_42 rfl (by decide) (by decide) (by decide),
  f_bipush (e_dx DX6_opens_0 2 rfl) ⟨by decide, by decide⟩,
  f_icmp_lt (e_dx DX6_opens_0 3 rfl) rfl,
  f_aload_n (n := 0) (e_dx DX6_opens_0 4 rfl) rfl,
  f_getA (e_dx DX6_opens_0 5 rfl) fX6_45 rfl (by decide) (Nat.le_of_ble_eq_true rfl) rfl (by decide),
  f_iconst (e_dx DX6_opens_0 6 rfl) ⟨by decide, by decide⟩,
  x_callV (e_dx DX6_opens_0 7 rfl) mwX7_note vwX7_note cX6_77 rfl,
  f_iconst (e_dx DX6_opens_0 8 rfl) ⟨by decide, by decide⟩,
  ⟨(e_dx DX6_opens_0 9 rfl), rfl⟩,
  f_aload_n (n := 0) (e_dx DX6_opens_0 10 rfl) rfl,
  f_g20 (e_dx DX6_opens_0 11 rfl),
  f_getf (e_dx DX6_opens_0 12 rfl) fX6_42 rfl (by decide) (by decide) (by decide),
  f_iconst (e_dx DX6_opens_0 13 rfl) ⟨by decide, by decide⟩,
  f_iadd (e_dx DX6_opens_0 14 rfl),
  f_putn (e_dx DX6_opens_0 15 rfl) fX6_42 (fun q hq => by cases hq; rfl) rfl (Or.inl rfl) (by decide),
  f_aload_n (n := 0) (e_dx DX6_opens_0 16 rfl) rfl,
  f_getA (e_dx DX6_opens_0 17 rfl) fX6_45 rfl (by decide) (Nat.le_of_ble_eq_true rfl) rfl (by decide),
  x_callV (e_dx DX6_opens_0 18 rfl) mwX7_take vwX7_take cX6_54 rfl,
  f_iconst (e_dx DX6_opens_0 19 rfl) ⟨by decide, by decide⟩,
  ⟨(e_dx DX6_opens_0 20 rfl), rfl⟩, trivial⟩
def lX6_opens (c_X7_note : Int → e_M → (e_M → Prop) → Prop) (c_X7_take : e_M → (e_M → Prop) → Prop) : List (Nat × f_Wt) := [(0, f_wm [(20, 7, 12), (1, 0, 0)] (fun ar M R => c_X7_note (f_vi (f_nth ar 1)) M (fun M => R none M))), (1, f_wm [(20, 7, 12)] (fun ar M R => c_X7_take  M (fun M => R none M)))]
set_option maxRecDepth 20000 in
theorem BX6_opens {sh : Nat → Nat × Nat} {t : Nat} {rm : Nat × Nat × Nat} {cs : Nat × Nat} {R : f_Rt} {c_X7_note : Int → e_M → (e_M → Prop) → Prop} {c_X7_take : e_M → (e_M → Prop) → Prop} {M : e_M} (C : f_Hy sh t yX6_opens rm cs 5 (lX6_opens c_X7_note c_X7_take) R) (h : VX6_opens c_X7_note c_X7_take (fun r M => R (some (.inl r)) M) M) : f_E sh t YX6_opens rm cs (f_Q sh t R) 0 [.inr (.inr (.inl (6, 11, 22)))] [] M :=
  f_go (KC := f_kc []) C qX6_opensf f_kc_nil 23 0 h
def WX6_opens (M : e_M) (Q : Int → e_M → Prop) : Prop :=
  VX6_opens WX7_note WX7_take Q M
theorem PX6_opens {sh : Nat → Nat × Nat} {t : Nat} {rm : Nat × Nat × Nat} {cs : Nat × Nat} {R : f_Rt} {M : e_M} (C : f_Hy sh t yX6_opens rm cs 5 (lX6_opens WX7_note WX7_take) R) (h : WX6_opens M (fun r M => R (some (.inl r)) M)) : f_E sh t YX6_opens rm cs (f_Q sh t R) 0 [.inr (.inr (.inl (6, 11, 22)))] [] M :=
  BX6_opens C h
def wX6_opens : f_Wt := f_wm [(32, 6, 11)] (fun ar M R => WX6_opens M (fun r M => R (some (.inl r)) M))
theorem TX6_opens {sh : Nat → Nat × Nat} {t : Nat} : f_Mt sh t YX6_opens 5 (wX6_opens) :=
  f_Mt_of (k := 0) (Nat.le_of_ble_eq_true rfl) rfl rfl (fun ar M R rm cs h1 h2 h3 hX h => PX6_opens ⟨Nat.le_of_ble_eq_true rfl, h1, h2, h3, ⟨(f_Mt.up (Nat.le_of_ble_eq_true rfl) TX7_note), (f_Mt.up (Nat.le_of_ble_eq_true rfl) TX7_take), trivial⟩, hX⟩ h)
def VX7_told (Q : Int → Prop) (M : e_M) : Prop :=
  ((0 ≤ (M 10 5) ∧ (M 10 5) < 641) ∧ (Q (M 14 ((M 10 5).toNat))))
def yX7_told (i : Nat) : e_Y := x_get YX7_told [] i
def pX7_toldf : List x_I := [(0, 4, 1, 0, 0, 0, []), (1, 25, 7, 3, 4, 0, [(0, 23, 641), (0, 1, 4)]), (4, 4, 1, 0, 0, 0, []), (5, 25, 7, 5, 0, 0, []), (8, 27, 0, 1, 0, 0, []), (9, 43, 0, 0, 0, 0, [])]
set_option maxRecDepth 20000 in
theorem qX7_toldf : f_all yX7_told YX7_told pX7_toldf :=
  ⟨f_aload_n (n := 0) (e_dx DX7_told_0 0 rfl) rfl,
  f_getA (e_dx DX7_told_0 1 rfl) fX7_22 rfl (by decide) (Nat.le_of_ble_eq_true rfl) rfl (by decide),
  f_aload_n (n := 0) (e_dx DX7_told_0 2 rfl) rfl,
  f_getf (e_dx DX7_told_0 3 rfl) fX7_29 rfl (by decide) (by decide) (by decide),
  f_laload (e_dx DX7_told_0 4 rfl),
  ⟨(e_dx DX7_told_0 5 rfl), rfl⟩, trivial⟩
def lX7_told : List (Nat × f_Wt) := []
set_option maxRecDepth 20000 in
theorem BX7_told {sh : Nat → Nat × Nat} {t : Nat} {rm : Nat × Nat × Nat} {cs : Nat × Nat} {R : f_Rt} {M : e_M} (C : f_Hy sh t yX7_told rm cs 4 (lX7_told) R) (h : VX7_told (fun r => R (some (.inr (.inl r))) M) M) : f_E sh t YX7_told rm cs (f_Q sh t R) 0 [.inr (.inr (.inl (7, 12, 10)))] [] M :=
  f_go (KC := f_kc []) C qX7_toldf f_kc_nil 8 0 h
def WX7_told (M : e_M) (Q : Int → Prop) : Prop :=
  VX7_told Q M
theorem PX7_told {sh : Nat → Nat × Nat} {t : Nat} {rm : Nat × Nat × Nat} {cs : Nat × Nat} {R : f_Rt} {M : e_M} (C : f_Hy sh t yX7_told rm cs 4 (lX7_told) R) (h : WX7_told M (fun r => R (some (.inr (.inl r))) M)) : f_E sh t YX7_told rm cs (f_Q sh t R) 0 [.inr (.inr (.inl (7, 12, 10)))] [] M :=
  BX7_told C h
def wX7_told : f_Wt := f_wm [(20, 7, 12)] (fun ar M R => WX7_told M (fun r => R (some (.inr (.inl r))) M))
theorem TX7_told {sh : Nat → Nat × Nat} {t : Nat} : f_Mt sh t YX7_told 4 (wX7_told) :=
  f_Mt_of (k := 0) (Nat.le_of_ble_eq_true rfl) rfl rfl (fun ar M R rm cs h1 h2 h3 hX h => PX7_told ⟨Nat.le_of_ble_eq_true rfl, h1, h2, h3, trivial, hX⟩ h)
def VX6_step (Q : e_M → Prop) (x1 : Int) (x2 : Int) (M : e_M) : Prop :=
  ((640 ≤ (M 22 8) → (Q M)) ∧ ((M 22 8) < 640 → ((0 ≤ (M 22 8) ∧ (M 22 8) < 640) ∧ (∀ M1 : e_M, M1 = e_up M 23 ((M 22 8).toNat) x1 → ((0 ≤ (M1 22 8) ∧ (M1 22 8) < 640) ∧ (∀ M2 : e_M, M2 = e_up M1 24 ((M1 22 8).toNat) x2 → (∀ M3 : e_M, M3 = e_up M2 22 8 (e_w32 ((M2 22 8) + 1)) → (Q M3))))))))
def yX6_step (i : Nat) : e_Y := x_get YX6_step [] i
def pX6_stepf : List x_I := [(0, 4, 1, 0, 0, 0, []), (1, 25, 6, 8, 0, 0, []), (4, 4, 1, 0, 0, 0, []), (5, 25, 6, 6, 4, 0, [(0, 20, 640), (0, 1, 1)]), (8, 31, 0, 0, 0, 0, []), (9, 18, 42, 3, 25, 0, []), (12, 4, 1, 0, 0, 0, []), (13, 25, 6, 6, 4, 0, [(0, 20, 640), (0, 1, 1)]), (16, 4, 1, 0, 0, 0, []), (17, 25, 6, 8, 0, 0, []), (20, 2, 1, 1, 0, 0, []), (21, 28, 0, 0, 0, 0, []), (22, 4, 1, 0, 0, 0, []), (23, 25, 6, 7, 4, 0, [(0, 23, 640), (0, 1, 2)]), (26, 4, 1, 0, 0, 0, []), (27, 25, 6, 8, 0, 0, []), (30, 3, 1, 2, 0, 0, []), (31, 28, 0, 1, 0, 0, []), (32, 4, 1, 0, 0, 0, []), (33, 20, 0, 0, 0, 0, []), (34, 25, 6, 8, 0, 0, []), (37, 0, 1, 0, 0, 1, []), (38, 9, 0, 0, 0, 0, []), (39, 26, 6, 8, 0, 0, []), (42, 44, 0, 0, 0, 0, [])]
set_option maxRecDepth 20000 in
theorem qX6_stepf : f_all yX6_step YX6_step pX6_stepf :=
  ⟨f_aload_n (n := 0) (e_dx DX6_step_0 0 rfl) rfl,
  f_getf (e_dx DX6_step_0 1 rfl) fX6_36 rfl (by decide) (by decide) (by decide),
  f_aload_n (n := 0) (e_dx DX6_step_0 2 rfl) rfl,
  f_getA (e_dx DX6_step_0 3 rfl) fX6_28 rfl (by decide) (Nat.le_of_ble_eq_true rfl) rfl (by decide),
  f_g31 (e_dx DX6_step_0 4 rfl),
  f_icmp_ge (e_dx DX6_step_0 5 rfl) rfl,
  f_aload_n (n := 0) (e_dx DX6_step_0 6 rfl) rfl,
  f_getA (e_dx DX6_step_0 7 rfl) fX6_28 rfl (by decide) (Nat.le_of_ble_eq_true rfl) rfl (by decide),
  f_aload_n (n := 0) (e_dx DX6_step_0 8 rfl) rfl,
  f_getf (e_dx DX6_step_0 9 rfl) fX6_36 rfl (by decide) (by decide) (by decide),
  f_iload_n (n := 1) (e_dx DX6_step_0 10 rfl) rfl,
  f_iastore (e_dx DX6_step_0 11 rfl),
  f_aload_n (n := 0) (e_dx DX6_step_0 12 rfl) rfl,
  f_getA (e_dx DX6_step_0 13 rfl) fX6_32 rfl (by decide) (Nat.le_of_ble_eq_true rfl) rfl (by decide),
  f_aload_n (n := 0) (e_dx DX6_step_0 14 rfl) rfl,
  f_getf (e_dx DX6_step_0 15 rfl) fX6_36 rfl (by decide) (by decide) (by decide),
  f_lload_n (n := 2) (e_dx DX6_step_0 16 rfl) rfl,
  f_lastore (e_dx DX6_step_0 17 rfl),
  f_aload_n (n := 0) (e_dx DX6_step_0 18 rfl) rfl,
  f_g20 (e_dx DX6_step_0 19 rfl),
  f_getf (e_dx DX6_step_0 20 rfl) fX6_36 rfl (by decide) (by decide) (by decide),
  f_iconst (e_dx DX6_step_0 21 rfl) ⟨by decide, by decide⟩,
  f_iadd (e_dx DX6_step_0 22 rfl),
  f_putn (e_dx DX6_step_0 23 rfl) fX6_36 (fun q hq => by cases hq; rfl) rfl (Or.inl rfl) (by decide),
  ⟨(e_dx DX6_step_0 24 rfl), rfl⟩, trivial⟩
def lX6_step : List (Nat × f_Wt) := []
set_option maxRecDepth 20000 in
theorem BX6_step {sh : Nat → Nat × Nat} {t : Nat} {rm : Nat × Nat × Nat} {cs : Nat × Nat} {R : f_Rt} {x1 : Int} {x2 : Int} {M : e_M} (C : f_Hy sh t yX6_step rm cs 4 (lX6_step) R) (h : VX6_step (fun M => R none M) x1 x2 M) : f_E sh t YX6_step rm cs (f_Q sh t R) 0 [.inr (.inr (.inl (6, 11, 22))), .inl x1, .inr (.inl x2), .inr (.inr (.inr ()))] [] M :=
  f_go (KC := f_kc []) C qX6_stepf f_kc_nil 27 0 h
def WX6_step (x1 : Int) (x2 : Int) (M : e_M) (Q : e_M → Prop) : Prop :=
  VX6_step Q x1 x2 M
theorem PX6_step {sh : Nat → Nat × Nat} {t : Nat} {rm : Nat × Nat × Nat} {cs : Nat × Nat} {R : f_Rt} {x1 : Int} {x2 : Int} {M : e_M} (C : f_Hy sh t yX6_step rm cs 4 (lX6_step) R) (h : WX6_step x1 x2 M (fun M => R none M)) : f_E sh t YX6_step rm cs (f_Q sh t R) 0 [.inr (.inr (.inl (6, 11, 22))), .inl x1, .inr (.inl x2), .inr (.inr (.inr ()))] [] M :=
  BX6_step C h
def wX6_step : f_Wt := f_wm [(32, 6, 11), (1, 0, 0), (2, 0, 0)] (fun ar M R => WX6_step (f_vi (f_nth ar 1)) (f_vi (f_nth ar 2)) M (fun M => R none M))
theorem TX6_step {sh : Nat → Nat × Nat} {t : Nat} : f_Mt sh t YX6_step 4 (wX6_step) :=
  f_Mt_of (k := 0) (Nat.le_of_ble_eq_true rfl) rfl rfl (fun ar M R rm cs h1 h2 h3 hX h => PX6_step ⟨Nat.le_of_ble_eq_true rfl, h1, h2, h3, trivial, hX⟩ h)
def VX6_readFactor_88 (c_X6_opens : e_M → (Int → e_M → Prop) → Prop) (c_X6_readValue : e_M → (e_M → Prop) → Prop) (c_X7_expect : Int → e_M → (e_M → Prop) → Prop) (c_X7_told : e_M → (Int → Prop) → Prop) (c_X6_step : Int → Int → e_M → (e_M → Prop) → Prop) (c_X7_take : e_M → (e_M → Prop) → Prop) (c_X7_note : Int → e_M → (e_M → Prop) → Prop) (k95 : Int → e_M → Prop) (Q : e_M → Prop) (x1 : Int) (M : e_M) : Prop :=
  ((¬ x1 = 246 → (c_X7_note 1 M (fun M1 => (Q M1)))) ∧ (x1 = 246 → (k95 x1 M)))
def VX6_readFactor_95 (c_X6_opens : e_M → (Int → e_M → Prop) → Prop) (c_X6_readValue : e_M → (e_M → Prop) → Prop) (c_X7_expect : Int → e_M → (e_M → Prop) → Prop) (c_X7_told : e_M → (Int → Prop) → Prop) (c_X6_step : Int → Int → e_M → (e_M → Prop) → Prop) (c_X7_take : e_M → (e_M → Prop) → Prop) (c_X7_note : Int → e_M → (e_M → Prop) → Prop) (Q : e_M → Prop) (x1 : Int) (M : e_M) : Prop :=
  (c_X7_take M (fun M1 => (c_X6_step x1 0 M1 (fun M2 => (Q M2)))))
def VX6_readFactor (c_X6_opens : e_M → (Int → e_M → Prop) → Prop) (c_X6_readValue : e_M → (e_M → Prop) → Prop) (c_X7_expect : Int → e_M → (e_M → Prop) → Prop) (c_X7_told : e_M → (Int → Prop) → Prop) (c_X6_step : Int → Int → e_M → (e_M → Prop) → Prop) (c_X7_take : e_M → (e_M → Prop) → Prop) (c_X7_note : Int → e_M → (e_M → Prop) → Prop) (k88 : Int → e_M → Prop) (k95 : Int → e_M → Prop) (Q : e_M → Prop) (M : e_M) : Prop :=
  ((¬ (M 10 6) = 40 → ((¬ (M 10 6) = 3 → (((M 10 6) < 262 → (k88 (M 10 6) M)) ∧ (262 ≤ (M 10 6) → (((M 10 6) ≤ 270 → (k95 (M 10 6) M)) ∧ (270 < (M 10 6) → (k88 (M 10 6) M)))))) ∧ ((M 10 6) = 3 → (c_X7_told M (fun r1 => (c_X6_step 3 r1 M (fun M2 => (c_X7_take M2 (fun M3 => (Q M3)))))))))) ∧ ((M 10 6) = 40 → (c_X6_opens M (fun r4 M5 => ((r4 = 0 → (Q M5)) ∧ (¬ r4 = 0 → (c_X6_readValue M5 (fun M6 => (∀ M7 : e_M, M7 = e_up M6 22 10 (e_w32 ((M6 22 10) - 1)) → (c_X7_expect 41 M7 (fun M8 => (Q M8))))))))))))
def yX6_readFactor (i : Nat) : e_Y := x_get YX6_readFactor [YX6_opens, YX6_readValue, YX7_expect, YX7_told, YX6_step, YX7_take, YX7_note] i
def pX6_readFactorf : List x_I := [(0, 4, 1, 0, 0, 0, []), (1, 25, 6, 0, 4, 0, [(0, 7, 12), (0, 2, 10)]), (4, 25, 7, 6, 0, 0, []), (7, 5, 1, 1, 0, 0, []), (8, 2, 1, 1, 0, 0, []), (9, 0, 2, 0, 0, 40, []), (11, 18, 47, 1, 24, 0, []), (14, 4, 1, 0, 0, 0, []), (15, 40, 0, 1, 8, 0, []), (18, 17, 119, 0, 60, 0, []), (21, 4, 1, 0, 0, 0, []), (22, 40, 1, 1, 8, 0, []), (25, 4, 1, 0, 0, 0, []), (26, 20, 0, 0, 0, 0, []), (27, 25, 6, 10, 0, 0, []), (30, 0, 1, 0, 0, 1, []), (31, 9, 0, 1, 0, 0, []), (32, 26, 6, 10, 0, 0, []), (35, 4, 1, 0, 0, 0, []), (36, 25, 6, 0, 4, 0, [(0, 7, 12), (0, 2, 10)]), (39, 0, 2, 0, 0, 41, []), (41, 40, 2, 2, 9, 0, []), (44, 19, 119, 0, 60, 0, []), (47, 2, 1, 1, 0, 0, []), (48, 0, 1, 0, 0, 3, []), (49, 18, 74, 1, 37, 0, []), (52, 4, 1, 0, 0, 0, []), (53, 0, 1, 0, 0, 3, []), (54, 4, 1, 0, 0, 0, []), (55, 25, 6, 0, 4, 0, [(0, 7, 12), (0, 2, 10)]), (58, 40, 3, 1, 9, 0, []), (61, 40, 4, 3, 8, 0, []), (64, 4, 1, 0, 0, 0, []), (65, 25, 6, 0, 4, 0, [(0, 7, 12), (0, 2, 10)]), (68, 40, 5, 1, 9, 0, []), (71, 19, 119, 0, 60, 0, []), (74, 2, 1, 1, 0, 0, []), (75, 0, 3, 0, 0, 262, []), (78, 18, 88, 2, 43, 0, []), (81, 2, 1, 1, 0, 0, []), (82, 0, 3, 0, 0, 270, []), (85, 18, 95, 5, 47, 0, []), (88, 49, 0, 0, 0, 0, []), (88, 2, 1, 1, 0, 0, []), (89, 0, 3, 0, 0, 246, []), (92, 18, 111, 1, 56, 0, []), (95, 49, 0, 0, 0, 0, []), (95, 4, 1, 0, 0, 0, []), (96, 25, 6, 0, 4, 0, [(0, 7, 12), (0, 2, 10)]), (99, 40, 5, 1, 9, 0, []), (102, 4, 1, 0, 0, 0, []), (103, 2, 1, 1, 0, 0, []), (104, 1, 1, 0, 0, 0, []), (105, 40, 4, 3, 8, 0, []), (108, 19, 119, 0, 60, 0, []), (111, 4, 1, 0, 0, 0, []), (112, 25, 6, 0, 4, 0, [(0, 7, 12), (0, 2, 10)]), (115, 0, 1, 0, 0, 1, []), (116, 40, 6, 2, 9, 0, []), (119, 44, 0, 0, 0, 0, [])]
set_option maxRecDepth 20000 in
theorem qX6_readFactorf : f_all yX6_readFactor YX6_readFactor pX6_readFactorf :=
  ⟨f_aload_n (n := 0) (e_dx DX6_readFactor_0 0 rfl) rfl,
  f_getA (e_dx DX6_readFactor_0 1 rfl) fX6_45 rfl (by decide) (Nat.le_of_ble_eq_true rfl) rfl (by decide),
  f_getf (e_dx DX6_readFactor_0 2 rfl) fX6_49 rfl (by decide) (by decide) (by decide),
  f_istore_n (n := 1) (e_dx DX6_readFactor_0 3 rfl) rfl (by decide),
  f_iload_n (n := 1) (e_dx DX6_readFactor_0 4 rfl) rfl,
  f_bipush (e_dx DX6_readFactor_0 5 rfl) ⟨by decide, by decide⟩,
  f_icmp_ne (e_dx DX6_readFactor_0 6 rfl) rfl,
  f_aload_n (n := 0) (e_dx DX6_readFactor_0 7 rfl) rfl,
  x_callV (e_dx DX6_readFactor_0 8 rfl) mwX6_opens vwX6_opens cX6_98 rfl,
  f_if_eq (e_dx DX6_readFactor_0 9 rfl) rfl,
  f_aload_n (n := 0) (e_dx DX6_readFactor_0 10 rfl) rfl,
  x_callV (e_dx DX6_readFactor_0 11 rfl) mwX6_readValue vwX6_readValue cX6_81 rfl,
  f_aload_n (n := 0) (e_dx DX6_readFactor_0 12 rfl) rfl,
  f_g20 (e_dx DX6_readFactor_0 13 rfl),
  f_getf (e_dx DX6_readFactor_0 14 rfl) fX6_42 rfl (by decide) (by decide) (by decide),
  f_iconst (e_dx DX6_readFactor_0 15 rfl) ⟨by decide, by decide⟩,
  f_isub (e_dx DX6_readFactor_0 16 rfl),
  f_putn (e_dx DX6_readFactor_0 17 rfl) fX6_42 (fun q hq => by cases hq; rfl) rfl (Or.inl rfl) (by decide),
  f_aload_n (n := 0) (e_dx DX6_readFactor_0 18 rfl) rfl,
  f_getA (e_dx DX6_readFactor_0 19 rfl) fX6_45 rfl (by decide) (Nat.le_of_ble_eq_true rfl) rfl (by decide),
  f_bipush (e_dx DX6_readFactor_0 20 rfl) ⟨by decide, by decide⟩,
  x_callV (e_dx DX6_readFactor_0 21 rfl) mwX7_expect vwX7_expect cX6_84 rfl,
  f_g19 (e_dx DX6_readFactor_0 22 rfl) rfl,
  f_iload_n (n := 1) (e_dx DX6_readFactor_0 23 rfl) rfl,
  f_iconst (e_dx DX6_readFactor_0 24 rfl) ⟨by decide, by decide⟩,
  f_icmp_ne (e_dx DX6_readFactor_0 25 rfl) rfl,
  f_aload_n (n := 0) (e_dx DX6_readFactor_0 26 rfl) rfl,
  f_iconst (e_dx DX6_readFactor_0 27 rfl) ⟨by decide, by decide⟩,
  f_aload_n (n := 0) (e_dx DX6_readFactor_0 28 rfl) rfl,
  f_getA (e_dx DX6_readFactor_0 29 rfl) fX6_45 rfl (by decide) (Nat.le_of_ble_eq_true rfl) rfl (by decide),
  x_callV (e_dx DX6_readFactor_0 30 rfl) mwX7_told vwX7_told cX6_116 rfl,
  x_callV (e_dx DX6_readFactor_0 31 rfl) mwX6_step vwX6_step cX6_94 rfl,
  f_aload_n (n := 0) (e_dx DX6_readFactor_0 32 rfl) rfl,
  f_getA (e_dx DX6_readFactor_0 33 rfl) fX6_45 rfl (by decide) (Nat.le_of_ble_eq_true rfl) rfl (by decide),
  x_callV (e_dx DX6_readFactor_0 34 rfl) mwX7_take vwX7_take cX6_54 rfl,
  f_g19 (e_dx DX6_readFactor_0 35 rfl) rfl,
  f_iload_n (n := 1) (e_dx DX6_readFactor_0 36 rfl) rfl,
  f_sipush (e_dx DX6_readFactor_0 37 rfl) ⟨by decide, by decide⟩,
  f_icmp_lt (e_dx DX6_readFactor_0 38 rfl) rfl,
  f_iload_n (n := 1) (e_dx DX6_readFactor_0 39 rfl) rfl,
  f_sipush (e_dx DX6_readFactor_1 0 rfl) ⟨by decide, by decide⟩,
  f_icmp_le (e_dx DX6_readFactor_1 1 rfl) rfl,
  trivial,
  f_iload_n (n := 1) (e_dx DX6_readFactor_1 2 rfl) rfl,
  f_sipush (e_dx DX6_readFactor_1 3 rfl) ⟨by decide, by decide⟩,
  f_icmp_ne (e_dx DX6_readFactor_1 4 rfl) rfl,
  trivial,
  f_aload_n (n := 0) (e_dx DX6_readFactor_1 5 rfl) rfl,
  f_getA (e_dx DX6_readFactor_1 6 rfl) fX6_45 rfl (by decide) (Nat.le_of_ble_eq_true rfl) rfl (by decide),
  x_callV (e_dx DX6_readFactor_1 7 rfl) mwX7_take vwX7_take cX6_54 rfl,
  f_aload_n (n := 0) (e_dx DX6_readFactor_1 8 rfl) rfl,
  f_iload_n (n := 1) (e_dx DX6_readFactor_1 9 rfl) rfl,
  f_lconst (n := 0) (e_dx DX6_readFactor_1 10 rfl) rfl,
  x_callV (e_dx DX6_readFactor_1 11 rfl) mwX6_step vwX6_step cX6_94 rfl,
  f_g19 (e_dx DX6_readFactor_1 12 rfl) rfl,
  f_aload_n (n := 0) (e_dx DX6_readFactor_1 13 rfl) rfl,
  f_getA (e_dx DX6_readFactor_1 14 rfl) fX6_45 rfl (by decide) (Nat.le_of_ble_eq_true rfl) rfl (by decide),
  f_iconst (e_dx DX6_readFactor_1 15 rfl) ⟨by decide, by decide⟩,
  x_callV (e_dx DX6_readFactor_1 16 rfl) mwX7_note vwX7_note cX6_77 rfl,
  ⟨(e_dx DX6_readFactor_1 17 rfl), rfl⟩, trivial⟩
def lX6_readFactor (c_X6_opens : e_M → (Int → e_M → Prop) → Prop) (c_X6_readValue : e_M → (e_M → Prop) → Prop) (c_X7_expect : Int → e_M → (e_M → Prop) → Prop) (c_X7_told : e_M → (Int → Prop) → Prop) (c_X6_step : Int → Int → e_M → (e_M → Prop) → Prop) (c_X7_take : e_M → (e_M → Prop) → Prop) (c_X7_note : Int → e_M → (e_M → Prop) → Prop) : List (Nat × f_Wt) := [(0, f_wm [(32, 6, 11)] (fun ar M R => c_X6_opens  M (fun r M => R (some (.inl r)) M))), (1, f_wm [(32, 6, 11)] (fun ar M R => c_X6_readValue  M (fun M => R none M))), (2, f_wm [(20, 7, 12), (1, 0, 0)] (fun ar M R => c_X7_expect (f_vi (f_nth ar 1)) M (fun M => R none M))), (3, f_wm [(20, 7, 12)] (fun ar M R => c_X7_told  M (fun r => R (some (.inr (.inl r))) M))), (4, f_wm [(32, 6, 11), (1, 0, 0), (2, 0, 0)] (fun ar M R => c_X6_step (f_vi (f_nth ar 1)) (f_vi (f_nth ar 2)) M (fun M => R none M))), (5, f_wm [(20, 7, 12)] (fun ar M R => c_X7_take  M (fun M => R none M))), (6, f_wm [(20, 7, 12), (1, 0, 0)] (fun ar M R => c_X7_note (f_vi (f_nth ar 1)) M (fun M => R none M)))]
set_option maxRecDepth 20000 in
theorem BX6_readFactor_88 {sh : Nat → Nat × Nat} {t : Nat} {rm : Nat × Nat × Nat} {cs : Nat × Nat} {R : f_Rt} {D : Nat} {c_X6_opens : e_M → (Int → e_M → Prop) → Prop} {c_X6_readValue : e_M → (e_M → Prop) → Prop} {c_X7_expect : Int → e_M → (e_M → Prop) → Prop} {c_X7_told : e_M → (Int → Prop) → Prop} {c_X6_step : Int → Int → e_M → (e_M → Prop) → Prop} {c_X7_take : e_M → (e_M → Prop) → Prop} {c_X7_note : Int → e_M → (e_M → Prop) → Prop} {k95 : Int → e_M → Prop} {x1 : Int} {M : e_M} (C : f_Hy sh t yX6_readFactor rm cs D (lX6_readFactor c_X6_opens c_X6_readValue c_X7_expect c_X7_told c_X6_step c_X7_take c_X7_note) R) (h95 : ∀ (x1 : Int) (M : e_M), k95 x1 M → f_E sh t YX6_readFactor rm cs (f_Q sh t R) 95 [.inr (.inr (.inl (6, 11, 22))), .inl x1] [] M) (h : VX6_readFactor_88 c_X6_opens c_X6_readValue c_X7_expect c_X7_told c_X6_step c_X7_take c_X7_note k95 (fun M => R none M) x1 M) : f_E sh t YX6_readFactor rm cs (f_Q sh t R) 88 [.inr (.inr (.inl (6, 11, 22))), .inl x1] [] M :=
  f_go (KC := f_kc [(95, f_pl [(32, 6, 11), (1, 0, 0)] [] (fun ls st M => k95 (f_vi (f_nth ls 1)) M))]) C qX6_readFactorf (f_kc_cons (f_pl_ok rfl (fun ls st M h => h95 _ M h)) f_kc_nil) 62 43 h
set_option maxRecDepth 20000 in
theorem BX6_readFactor_95 {sh : Nat → Nat × Nat} {t : Nat} {rm : Nat × Nat × Nat} {cs : Nat × Nat} {R : f_Rt} {D : Nat} {c_X6_opens : e_M → (Int → e_M → Prop) → Prop} {c_X6_readValue : e_M → (e_M → Prop) → Prop} {c_X7_expect : Int → e_M → (e_M → Prop) → Prop} {c_X7_told : e_M → (Int → Prop) → Prop} {c_X6_step : Int → Int → e_M → (e_M → Prop) → Prop} {c_X7_take : e_M → (e_M → Prop) → Prop} {c_X7_note : Int → e_M → (e_M → Prop) → Prop} {x1 : Int} {M : e_M} (C : f_Hy sh t yX6_readFactor rm cs D (lX6_readFactor c_X6_opens c_X6_readValue c_X7_expect c_X7_told c_X6_step c_X7_take c_X7_note) R) (h : VX6_readFactor_95 c_X6_opens c_X6_readValue c_X7_expect c_X7_told c_X6_step c_X7_take c_X7_note (fun M => R none M) x1 M) : f_E sh t YX6_readFactor rm cs (f_Q sh t R) 95 [.inr (.inr (.inl (6, 11, 22))), .inl x1] [] M :=
  f_go (KC := f_kc []) C qX6_readFactorf f_kc_nil 62 47 h
set_option maxRecDepth 20000 in
theorem BX6_readFactor {sh : Nat → Nat × Nat} {t : Nat} {rm : Nat × Nat × Nat} {cs : Nat × Nat} {R : f_Rt} {D : Nat} {c_X6_opens : e_M → (Int → e_M → Prop) → Prop} {c_X6_readValue : e_M → (e_M → Prop) → Prop} {c_X7_expect : Int → e_M → (e_M → Prop) → Prop} {c_X7_told : e_M → (Int → Prop) → Prop} {c_X6_step : Int → Int → e_M → (e_M → Prop) → Prop} {c_X7_take : e_M → (e_M → Prop) → Prop} {c_X7_note : Int → e_M → (e_M → Prop) → Prop} {k88 : Int → e_M → Prop} {k95 : Int → e_M → Prop} {M : e_M} (C : f_Hy sh t yX6_readFactor rm cs D (lX6_readFactor c_X6_opens c_X6_readValue c_X7_expect c_X7_told c_X6_step c_X7_take c_X7_note) R) (h88 : ∀ (x1 : Int) (M : e_M), k88 x1 M → f_E sh t YX6_readFactor rm cs (f_Q sh t R) 88 [.inr (.inr (.inl (6, 11, 22))), .inl x1] [] M) (h95 : ∀ (x1 : Int) (M : e_M), k95 x1 M → f_E sh t YX6_readFactor rm cs (f_Q sh t R) 95 [.inr (.inr (.inl (6, 11, 22))), .inl x1] [] M) (h : VX6_readFactor c_X6_opens c_X6_readValue c_X7_expect c_X7_told c_X6_step c_X7_take c_X7_note k88 k95 (fun M => R none M) M) : f_E sh t YX6_readFactor rm cs (f_Q sh t R) 0 [.inr (.inr (.inl (6, 11, 22))), .inr (.inr (.inr ()))] [] M :=
  f_go (KC := f_kc [(88, f_pl [(32, 6, 11), (1, 0, 0)] [] (fun ls st M => k88 (f_vi (f_nth ls 1)) M)), (95, f_pl [(32, 6, 11), (1, 0, 0)] [] (fun ls st M => k95 (f_vi (f_nth ls 1)) M))]) C qX6_readFactorf (f_kc_cons (f_pl_ok rfl (fun ls st M h => h88 _ M h)) (f_kc_cons (f_pl_ok rfl (fun ls st M h => h95 _ M h)) f_kc_nil)) 62 0 h
def WX6_readFactor_95 (c_X6_readValue : e_M → (e_M → Prop) → Prop) (Q : e_M → Prop) (x1 : Int) (M : e_M) : Prop :=
  VX6_readFactor_95 WX6_opens c_X6_readValue WX7_expect WX7_told WX6_step WX7_take WX7_note Q x1 M
def WX6_readFactor_88 (c_X6_readValue : e_M → (e_M → Prop) → Prop) (Q : e_M → Prop) (x1 : Int) (M : e_M) : Prop :=
  VX6_readFactor_88 WX6_opens c_X6_readValue WX7_expect WX7_told WX6_step WX7_take WX7_note (WX6_readFactor_95 c_X6_readValue Q) Q x1 M
def WX6_readFactor (c_X6_readValue : e_M → (e_M → Prop) → Prop) (M : e_M) (Q : e_M → Prop) : Prop :=
  VX6_readFactor WX6_opens c_X6_readValue WX7_expect WX7_told WX6_step WX7_take WX7_note (WX6_readFactor_88 c_X6_readValue Q) (WX6_readFactor_95 c_X6_readValue Q) Q M
theorem PX6_readFactor_95 {sh : Nat → Nat × Nat} {t : Nat} {rm : Nat × Nat × Nat} {cs : Nat × Nat} {R : f_Rt} {D : Nat} {c_X6_readValue : e_M → (e_M → Prop) → Prop} {x1 : Int} {M : e_M} (C : f_Hy sh t yX6_readFactor rm cs D (lX6_readFactor WX6_opens c_X6_readValue WX7_expect WX7_told WX6_step WX7_take WX7_note) R) (h : WX6_readFactor_95 c_X6_readValue (fun M => R none M) x1 M) : f_E sh t YX6_readFactor rm cs (f_Q sh t R) 95 [.inr (.inr (.inl (6, 11, 22))), .inl x1] [] M :=
  BX6_readFactor_95 C h
theorem PX6_readFactor_88 {sh : Nat → Nat × Nat} {t : Nat} {rm : Nat × Nat × Nat} {cs : Nat × Nat} {R : f_Rt} {D : Nat} {c_X6_readValue : e_M → (e_M → Prop) → Prop} {x1 : Int} {M : e_M} (C : f_Hy sh t yX6_readFactor rm cs D (lX6_readFactor WX6_opens c_X6_readValue WX7_expect WX7_told WX6_step WX7_take WX7_note) R) (h : WX6_readFactor_88 c_X6_readValue (fun M => R none M) x1 M) : f_E sh t YX6_readFactor rm cs (f_Q sh t R) 88 [.inr (.inr (.inl (6, 11, 22))), .inl x1] [] M :=
  BX6_readFactor_88 C (fun x1 M h => PX6_readFactor_95 C h) h
theorem PX6_readFactor {sh : Nat → Nat × Nat} {t : Nat} {rm : Nat × Nat × Nat} {cs : Nat × Nat} {R : f_Rt} {D : Nat} {c_X6_readValue : e_M → (e_M → Prop) → Prop} {M : e_M} (C : f_Hy sh t yX6_readFactor rm cs D (lX6_readFactor WX6_opens c_X6_readValue WX7_expect WX7_told WX6_step WX7_take WX7_note) R) (h : WX6_readFactor c_X6_readValue M (fun M => R none M)) : f_E sh t YX6_readFactor rm cs (f_Q sh t R) 0 [.inr (.inr (.inl (6, 11, 22))), .inr (.inr (.inr ()))] [] M :=
  BX6_readFactor C (fun x1 M h => PX6_readFactor_88 C h) (fun x1 M h => PX6_readFactor_95 C h) h
def wX6_readFactor (c_X6_readValue : e_M → (e_M → Prop) → Prop) : f_Wt := f_wm [(32, 6, 11)] (fun ar M R => WX6_readFactor c_X6_readValue M (fun M => R none M))
theorem TX6_readFactor {sh : Nat → Nat × Nat} {t : Nat} {c_X6_readValue : e_M → (e_M → Prop) → Prop} {D : Nat} (hD : 7 ≤ D) (o0 : f_Mt sh t YX6_readValue (D - 1) (f_wm [(32, 6, 11)] (fun ar M R => c_X6_readValue  M (fun M => R none M)))) : f_Mt sh t YX6_readFactor D (wX6_readFactor c_X6_readValue) :=
  f_Mt_of (k := 1) (Nat.le_of_ble_eq_true rfl) rfl rfl (fun ar M R rm cs h1 h2 h3 hX h => PX6_readFactor ⟨by omega, h1, h2, h3, ⟨(f_Mt.up (by omega) TX6_opens), (f_Mt.up (by omega) o0), (f_Mt.up (by omega) TX7_expect), (f_Mt.up (by omega) TX7_told), (f_Mt.up (by omega) TX6_step), (f_Mt.up (by omega) TX7_take), (f_Mt.up (by omega) TX7_note), trivial⟩, hX⟩ h)
def VX6_readValue_4 (c_X6_readFactor : e_M → (e_M → Prop) → Prop) (c_X7_take : e_M → (e_M → Prop) → Prop) (c_X6_step : Int → Int → e_M → (e_M → Prop) → Prop) (k17 : Int → Int → Int → e_M → Prop) (Q : e_M → Prop) (x1 : Int) (x2 : Int) (M : e_M) : Prop :=
  ((640 < x2 → (Q M)) ∧ (x2 ≤ 640 → (c_X6_readFactor M (fun M1 => (k17 x1 x2 0 M1)))))
def VX6_readValue_17 (c_X6_readFactor : e_M → (e_M → Prop) → Prop) (c_X7_take : e_M → (e_M → Prop) → Prop) (c_X6_step : Int → Int → e_M → (e_M → Prop) → Prop) (k60 : Int → Int → e_M → Prop) (k17 : Int → Int → Int → e_M → Prop) (Q : e_M → Prop) (x1 : Int) (x2 : Int) (x3 : Int) (M : e_M) : Prop :=
  ((¬ (M 10 6) = 42 → (k60 x1 x2 M)) ∧ ((M 10 6) = 42 → ((640 < x3 → (k60 x1 x2 M)) ∧ (x3 ≤ 640 → (c_X7_take M (fun M1 => (c_X6_readFactor M1 (fun M2 => (c_X6_step 42 0 M2 (fun M3 => (k17 x1 x2 (e_w32 (x3 + 1)) M3)))))))))))
def VX6_readValue_60 (c_X6_readFactor : e_M → (e_M → Prop) → Prop) (c_X7_take : e_M → (e_M → Prop) → Prop) (c_X6_step : Int → Int → e_M → (e_M → Prop) → Prop) (k70 : Int → e_M → Prop) (Q : e_M → Prop) (x1 : Int) (x2 : Int) (M : e_M) : Prop :=
  ((x2 ≤ 0 → (k70 x2 M)) ∧ (0 < x2 → (c_X6_step x1 0 M (fun M1 => (k70 x2 M1)))))
def VX6_readValue_70 (c_X6_readFactor : e_M → (e_M → Prop) → Prop) (c_X7_take : e_M → (e_M → Prop) → Prop) (c_X6_step : Int → Int → e_M → (e_M → Prop) → Prop) (k91 : Int → Int → e_M → Prop) (Q : e_M → Prop) (x2 : Int) (M : e_M) : Prop :=
  (((M 10 6) = 43 → (k91 (M 10 6) x2 M)) ∧ (¬ (M 10 6) = 43 → (((M 10 6) = 45 → (k91 (M 10 6) x2 M)) ∧ (¬ (M 10 6) = 45 → (Q M)))))
def VX6_readValue_91 (c_X6_readFactor : e_M → (e_M → Prop) → Prop) (c_X7_take : e_M → (e_M → Prop) → Prop) (c_X6_step : Int → Int → e_M → (e_M → Prop) → Prop) (k4 : Int → Int → e_M → Prop) (Q : e_M → Prop) (x1 : Int) (x2 : Int) (M : e_M) : Prop :=
  (c_X7_take M (fun M1 => (k4 x1 (e_w32 (x2 + 1)) M1)))
def VX6_readValue (c_X6_readFactor : e_M → (e_M → Prop) → Prop) (c_X7_take : e_M → (e_M → Prop) → Prop) (c_X6_step : Int → Int → e_M → (e_M → Prop) → Prop) (k4 : Int → Int → e_M → Prop) (Q : e_M → Prop) (M : e_M) : Prop :=
  (k4 0 0 M)
def yX6_readValue (i : Nat) : e_Y := x_get YX6_readValue [YX6_readFactor, YX7_take, YX6_step] i
def pX6_readValuef : List x_I := [(0, 0, 1, 0, 0, 0, []), (1, 5, 1, 1, 0, 0, []), (2, 0, 1, 0, 0, 0, []), (3, 5, 1, 2, 0, 0, []), (4, 49, 0, 0, 0, 0, []), (4, 2, 1, 2, 0, 0, []), (5, 0, 3, 0, 0, 640, []), (8, 18, 104, 4, 58, 0, []), (11, 4, 1, 0, 0, 0, []), (12, 40, 0, 1, 8, 0, []), (15, 0, 1, 0, 0, 0, []), (16, 5, 1, 3, 0, 0, []), (17, 49, 0, 0, 0, 0, []), (17, 4, 1, 0, 0, 0, []), (18, 25, 6, 0, 4, 0, [(0, 7, 12), (0, 2, 10)]), (21, 25, 7, 6, 0, 0, []), (24, 0, 2, 0, 0, 42, []), (26, 18, 60, 1, 33, 0, []), (29, 2, 1, 3, 0, 0, []), (30, 0, 3, 0, 0, 640, []), (33, 18, 60, 4, 33, 0, []), (36, 4, 1, 0, 0, 0, []), (37, 25, 6, 0, 4, 0, [(0, 7, 12), (0, 2, 10)]), (40, 40, 1, 1, 9, 0, []), (43, 4, 1, 0, 0, 0, []), (44, 40, 0, 1, 8, 0, []), (47, 4, 1, 0, 0, 0, []), (48, 0, 2, 0, 0, 42, []), (50, 1, 1, 0, 0, 0, []), (51, 40, 2, 3, 8, 0, []), (54, 8, 0, 3, 0, 1, []), (57, 19, 17, 0, 13, 0, []), (60, 49, 0, 0, 0, 0, []), (60, 2, 1, 2, 0, 0, []), (61, 17, 70, 5, 40, 0, []), (64, 4, 1, 0, 0, 0, []), (65, 2, 1, 1, 0, 0, []), (66, 1, 1, 0, 0, 0, []), (67, 40, 2, 3, 8, 0, []), (70, 49, 0, 0, 0, 0, []), (70, 4, 1, 0, 0, 0, []), (71, 25, 6, 0, 4, 0, [(0, 7, 12), (0, 2, 10)]), (74, 25, 7, 6, 0, 0, []), (77, 5, 1, 1, 0, 0, []), (78, 2, 1, 1, 0, 0, []), (79, 0, 2, 0, 0, 43, []), (81, 18, 91, 0, 52, 0, []), (84, 2, 1, 1, 0, 0, []), (85, 0, 2, 0, 0, 45, []), (87, 18, 91, 0, 52, 0, []), (90, 44, 0, 0, 0, 0, []), (91, 49, 0, 0, 0, 0, []), (91, 4, 1, 0, 0, 0, []), (92, 25, 6, 0, 4, 0, [(0, 7, 12), (0, 2, 10)]), (95, 40, 1, 1, 9, 0, []), (98, 8, 0, 2, 0, 1, []), (101, 19, 4, 0, 5, 0, []), (104, 44, 0, 0, 0, 0, [])]
set_option maxRecDepth 20000 in
theorem qX6_readValuef : f_all yX6_readValue YX6_readValue pX6_readValuef :=
  ⟨f_iconst (e_dx DX6_readValue_0 0 rfl) ⟨by decide, by decide⟩,
  f_istore_n (n := 1) (e_dx DX6_readValue_0 1 rfl) rfl (by decide),
  f_iconst (e_dx DX6_readValue_0 2 rfl) ⟨by decide, by decide⟩,
  f_istore_n (n := 2) (e_dx DX6_readValue_0 3 rfl) rfl (by decide),
  trivial,
  f_iload_n (n := 2) (e_dx DX6_readValue_0 4 rfl) rfl,
  f_sipush (e_dx DX6_readValue_0 5 rfl) ⟨by decide, by decide⟩,
  f_icmp_gt (e_dx DX6_readValue_0 6 rfl) rfl,
  f_aload_n (n := 0) (e_dx DX6_readValue_0 7 rfl) rfl,
  x_callV (e_dx DX6_readValue_0 8 rfl) mwX6_readFactor vwX6_readFactor cX6_113 rfl,
  f_iconst (e_dx DX6_readValue_0 9 rfl) ⟨by decide, by decide⟩,
  f_istore_n (n := 3) (e_dx DX6_readValue_0 10 rfl) rfl (by decide),
  trivial,
  f_aload_n (n := 0) (e_dx DX6_readValue_0 11 rfl) rfl,
  f_getA (e_dx DX6_readValue_0 12 rfl) fX6_45 rfl (by decide) (Nat.le_of_ble_eq_true rfl) rfl (by decide),
  f_getf (e_dx DX6_readValue_0 13 rfl) fX6_49 rfl (by decide) (by decide) (by decide),
  f_bipush (e_dx DX6_readValue_0 14 rfl) ⟨by decide, by decide⟩,
  f_icmp_ne (e_dx DX6_readValue_0 15 rfl) rfl,
  f_iload_n (n := 3) (e_dx DX6_readValue_0 16 rfl) rfl,
  f_sipush (e_dx DX6_readValue_0 17 rfl) ⟨by decide, by decide⟩,
  f_icmp_gt (e_dx DX6_readValue_0 18 rfl) rfl,
  f_aload_n (n := 0) (e_dx DX6_readValue_0 19 rfl) rfl,
  f_getA (e_dx DX6_readValue_0 20 rfl) fX6_45 rfl (by decide) (Nat.le_of_ble_eq_true rfl) rfl (by decide),
  x_callV (e_dx DX6_readValue_0 21 rfl) mwX7_take vwX7_take cX6_54 rfl,
  f_aload_n (n := 0) (e_dx DX6_readValue_0 22 rfl) rfl,
  x_callV (e_dx DX6_readValue_0 23 rfl) mwX6_readFactor vwX6_readFactor cX6_113 rfl,
  f_aload_n (n := 0) (e_dx DX6_readValue_0 24 rfl) rfl,
  f_bipush (e_dx DX6_readValue_0 25 rfl) ⟨by decide, by decide⟩,
  f_lconst (n := 0) (e_dx DX6_readValue_0 26 rfl) rfl,
  x_callV (e_dx DX6_readValue_0 27 rfl) mwX6_step vwX6_step cX6_94 rfl,
  f_g8 (e_dx DX6_readValue_0 28 rfl) ⟨by decide, by decide⟩,
  f_g19 (e_dx DX6_readValue_0 29 rfl) rfl,
  trivial,
  f_iload_n (n := 2) (e_dx DX6_readValue_0 30 rfl) rfl,
  f_if_le (e_dx DX6_readValue_0 31 rfl) rfl,
  f_aload_n (n := 0) (e_dx DX6_readValue_0 32 rfl) rfl,
  f_iload_n (n := 1) (e_dx DX6_readValue_0 33 rfl) rfl,
  f_lconst (n := 0) (e_dx DX6_readValue_0 34 rfl) rfl,
  x_callV (e_dx DX6_readValue_0 35 rfl) mwX6_step vwX6_step cX6_94 rfl,
  trivial,
  f_aload_n (n := 0) (e_dx DX6_readValue_0 36 rfl) rfl,
  f_getA (e_dx DX6_readValue_0 37 rfl) fX6_45 rfl (by decide) (Nat.le_of_ble_eq_true rfl) rfl (by decide),
  f_getf (e_dx DX6_readValue_0 38 rfl) fX6_49 rfl (by decide) (by decide) (by decide),
  f_istore_n (n := 1) (e_dx DX6_readValue_0 39 rfl) rfl (by decide),
  f_iload_n (n := 1) (e_dx DX6_readValue_1 0 rfl) rfl,
  f_bipush (e_dx DX6_readValue_1 1 rfl) ⟨by decide, by decide⟩,
  f_icmp_eq (e_dx DX6_readValue_1 2 rfl) rfl,
  f_iload_n (n := 1) (e_dx DX6_readValue_1 3 rfl) rfl,
  f_bipush (e_dx DX6_readValue_1 4 rfl) ⟨by decide, by decide⟩,
  f_icmp_eq (e_dx DX6_readValue_1 5 rfl) rfl,
  ⟨(e_dx DX6_readValue_1 6 rfl), rfl⟩,
  trivial,
  f_aload_n (n := 0) (e_dx DX6_readValue_1 7 rfl) rfl,
  f_getA (e_dx DX6_readValue_1 8 rfl) fX6_45 rfl (by decide) (Nat.le_of_ble_eq_true rfl) rfl (by decide),
  x_callV (e_dx DX6_readValue_1 9 rfl) mwX7_take vwX7_take cX6_54 rfl,
  f_g8 (e_dx DX6_readValue_1 10 rfl) ⟨by decide, by decide⟩,
  f_g19 (e_dx DX6_readValue_1 11 rfl) rfl,
  ⟨(e_dx DX6_readValue_1 12 rfl), rfl⟩, trivial⟩
def lX6_readValue (c_X6_readFactor : e_M → (e_M → Prop) → Prop) (c_X7_take : e_M → (e_M → Prop) → Prop) (c_X6_step : Int → Int → e_M → (e_M → Prop) → Prop) : List (Nat × f_Wt) := [(0, f_wm [(32, 6, 11)] (fun ar M R => c_X6_readFactor  M (fun M => R none M))), (1, f_wm [(20, 7, 12)] (fun ar M R => c_X7_take  M (fun M => R none M))), (2, f_wm [(32, 6, 11), (1, 0, 0), (2, 0, 0)] (fun ar M R => c_X6_step (f_vi (f_nth ar 1)) (f_vi (f_nth ar 2)) M (fun M => R none M)))]
set_option maxRecDepth 20000 in
theorem BX6_readValue_4 {sh : Nat → Nat × Nat} {t : Nat} {rm : Nat × Nat × Nat} {cs : Nat × Nat} {R : f_Rt} {D : Nat} {c_X6_readFactor : e_M → (e_M → Prop) → Prop} {c_X7_take : e_M → (e_M → Prop) → Prop} {c_X6_step : Int → Int → e_M → (e_M → Prop) → Prop} {k17 : Int → Int → Int → e_M → Prop} {x1 : Int} {x2 : Int} {M : e_M} (C : f_Hy sh t yX6_readValue rm cs D (lX6_readValue c_X6_readFactor c_X7_take c_X6_step) R) (h17 : ∀ (x1 : Int) (x2 : Int) (x3 : Int) (M : e_M), k17 x1 x2 x3 M → f_E sh t YX6_readValue rm cs (f_Q sh t R) 17 [.inr (.inr (.inl (6, 11, 22))), .inl x1, .inl x2, .inl x3] [] M) (h : VX6_readValue_4 c_X6_readFactor c_X7_take c_X6_step k17 (fun M => R none M) x1 x2 M) : f_E sh t YX6_readValue rm cs (f_Q sh t R) 4 [.inr (.inr (.inl (6, 11, 22))), .inl x1, .inl x2, .inr (.inr (.inr ()))] [] M :=
  f_go (KC := f_kc [(17, f_pl [(32, 6, 11), (1, 0, 0), (1, 0, 0), (1, 0, 0)] [] (fun ls st M => k17 (f_vi (f_nth ls 1)) (f_vi (f_nth ls 2)) (f_vi (f_nth ls 3)) M))]) C qX6_readValuef (f_kc_cons (f_pl_ok rfl (fun ls st M h => h17 _ _ _ M h)) f_kc_nil) 60 5 h
set_option maxRecDepth 20000 in
theorem BX6_readValue_17 {sh : Nat → Nat × Nat} {t : Nat} {rm : Nat × Nat × Nat} {cs : Nat × Nat} {R : f_Rt} {D : Nat} {c_X6_readFactor : e_M → (e_M → Prop) → Prop} {c_X7_take : e_M → (e_M → Prop) → Prop} {c_X6_step : Int → Int → e_M → (e_M → Prop) → Prop} {k60 : Int → Int → e_M → Prop} {k17 : Int → Int → Int → e_M → Prop} {x1 : Int} {x2 : Int} {x3 : Int} {M : e_M} (C : f_Hy sh t yX6_readValue rm cs D (lX6_readValue c_X6_readFactor c_X7_take c_X6_step) R) (h60 : ∀ (x1 : Int) (x2 : Int) (M : e_M), k60 x1 x2 M → f_E sh t YX6_readValue rm cs (f_Q sh t R) 60 [.inr (.inr (.inl (6, 11, 22))), .inl x1, .inl x2, .inr (.inr (.inr ()))] [] M) (h17 : ∀ (x1 : Int) (x2 : Int) (x3 : Int) (M : e_M), k17 x1 x2 x3 M → f_E sh t YX6_readValue rm cs (f_Q sh t R) 17 [.inr (.inr (.inl (6, 11, 22))), .inl x1, .inl x2, .inl x3] [] M) (h : VX6_readValue_17 c_X6_readFactor c_X7_take c_X6_step k60 k17 (fun M => R none M) x1 x2 x3 M) : f_E sh t YX6_readValue rm cs (f_Q sh t R) 17 [.inr (.inr (.inl (6, 11, 22))), .inl x1, .inl x2, .inl x3] [] M :=
  f_go (KC := f_kc [(60, f_pl [(32, 6, 11), (1, 0, 0), (1, 0, 0), (0, 0, 0)] [] (fun ls st M => k60 (f_vi (f_nth ls 1)) (f_vi (f_nth ls 2)) M)), (17, f_pl [(32, 6, 11), (1, 0, 0), (1, 0, 0), (1, 0, 0)] [] (fun ls st M => k17 (f_vi (f_nth ls 1)) (f_vi (f_nth ls 2)) (f_vi (f_nth ls 3)) M))]) C qX6_readValuef (f_kc_cons (f_pl_ok rfl (fun ls st M h => h60 _ _ M h)) (f_kc_cons (f_pl_ok rfl (fun ls st M h => h17 _ _ _ M h)) f_kc_nil)) 60 13 h
set_option maxRecDepth 20000 in
theorem BX6_readValue_60 {sh : Nat → Nat × Nat} {t : Nat} {rm : Nat × Nat × Nat} {cs : Nat × Nat} {R : f_Rt} {D : Nat} {c_X6_readFactor : e_M → (e_M → Prop) → Prop} {c_X7_take : e_M → (e_M → Prop) → Prop} {c_X6_step : Int → Int → e_M → (e_M → Prop) → Prop} {k70 : Int → e_M → Prop} {x1 : Int} {x2 : Int} {M : e_M} (C : f_Hy sh t yX6_readValue rm cs D (lX6_readValue c_X6_readFactor c_X7_take c_X6_step) R) (h70 : ∀ (x2 : Int) (M : e_M), k70 x2 M → f_E sh t YX6_readValue rm cs (f_Q sh t R) 70 [.inr (.inr (.inl (6, 11, 22))), .inr (.inr (.inr ())), .inl x2, .inr (.inr (.inr ()))] [] M) (h : VX6_readValue_60 c_X6_readFactor c_X7_take c_X6_step k70 (fun M => R none M) x1 x2 M) : f_E sh t YX6_readValue rm cs (f_Q sh t R) 60 [.inr (.inr (.inl (6, 11, 22))), .inl x1, .inl x2, .inr (.inr (.inr ()))] [] M :=
  f_go (KC := f_kc [(70, f_pl [(32, 6, 11), (0, 0, 0), (1, 0, 0), (0, 0, 0)] [] (fun ls st M => k70 (f_vi (f_nth ls 2)) M))]) C qX6_readValuef (f_kc_cons (f_pl_ok rfl (fun ls st M h => h70 _ M h)) f_kc_nil) 60 33 h
set_option maxRecDepth 20000 in
theorem BX6_readValue_70 {sh : Nat → Nat × Nat} {t : Nat} {rm : Nat × Nat × Nat} {cs : Nat × Nat} {R : f_Rt} {D : Nat} {c_X6_readFactor : e_M → (e_M → Prop) → Prop} {c_X7_take : e_M → (e_M → Prop) → Prop} {c_X6_step : Int → Int → e_M → (e_M → Prop) → Prop} {k91 : Int → Int → e_M → Prop} {x2 : Int} {M : e_M} (C : f_Hy sh t yX6_readValue rm cs D (lX6_readValue c_X6_readFactor c_X7_take c_X6_step) R) (h91 : ∀ (x1 : Int) (x2 : Int) (M : e_M), k91 x1 x2 M → f_E sh t YX6_readValue rm cs (f_Q sh t R) 91 [.inr (.inr (.inl (6, 11, 22))), .inl x1, .inl x2, .inr (.inr (.inr ()))] [] M) (h : VX6_readValue_70 c_X6_readFactor c_X7_take c_X6_step k91 (fun M => R none M) x2 M) : f_E sh t YX6_readValue rm cs (f_Q sh t R) 70 [.inr (.inr (.inl (6, 11, 22))), .inr (.inr (.inr ())), .inl x2, .inr (.inr (.inr ()))] [] M :=
  f_go (KC := f_kc [(91, f_pl [(32, 6, 11), (1, 0, 0), (1, 0, 0), (0, 0, 0)] [] (fun ls st M => k91 (f_vi (f_nth ls 1)) (f_vi (f_nth ls 2)) M))]) C qX6_readValuef (f_kc_cons (f_pl_ok rfl (fun ls st M h => h91 _ _ M h)) f_kc_nil) 60 40 h
set_option maxRecDepth 20000 in
theorem BX6_readValue_91 {sh : Nat → Nat × Nat} {t : Nat} {rm : Nat × Nat × Nat} {cs : Nat × Nat} {R : f_Rt} {D : Nat} {c_X6_readFactor : e_M → (e_M → Prop) → Prop} {c_X7_take : e_M → (e_M → Prop) → Prop} {c_X6_step : Int → Int → e_M → (e_M → Prop) → Prop} {k4 : Int → Int → e_M → Prop} {x1 : Int} {x2 : Int} {M : e_M} (C : f_Hy sh t yX6_readValue rm cs D (lX6_readValue c_X6_readFactor c_X7_take c_X6_step) R) (h4 : ∀ (x1 : Int) (x2 : Int) (M : e_M), k4 x1 x2 M → f_E sh t YX6_readValue rm cs (f_Q sh t R) 4 [.inr (.inr (.inl (6, 11, 22))), .inl x1, .inl x2, .inr (.inr (.inr ()))] [] M) (h : VX6_readValue_91 c_X6_readFactor c_X7_take c_X6_step k4 (fun M => R none M) x1 x2 M) : f_E sh t YX6_readValue rm cs (f_Q sh t R) 91 [.inr (.inr (.inl (6, 11, 22))), .inl x1, .inl x2, .inr (.inr (.inr ()))] [] M :=
  f_go (KC := f_kc [(4, f_pl [(32, 6, 11), (1, 0, 0), (1, 0, 0), (0, 0, 0)] [] (fun ls st M => k4 (f_vi (f_nth ls 1)) (f_vi (f_nth ls 2)) M))]) C qX6_readValuef (f_kc_cons (f_pl_ok rfl (fun ls st M h => h4 _ _ M h)) f_kc_nil) 60 52 h
set_option maxRecDepth 20000 in
theorem BX6_readValue {sh : Nat → Nat × Nat} {t : Nat} {rm : Nat × Nat × Nat} {cs : Nat × Nat} {R : f_Rt} {D : Nat} {c_X6_readFactor : e_M → (e_M → Prop) → Prop} {c_X7_take : e_M → (e_M → Prop) → Prop} {c_X6_step : Int → Int → e_M → (e_M → Prop) → Prop} {k4 : Int → Int → e_M → Prop} {M : e_M} (C : f_Hy sh t yX6_readValue rm cs D (lX6_readValue c_X6_readFactor c_X7_take c_X6_step) R) (h4 : ∀ (x1 : Int) (x2 : Int) (M : e_M), k4 x1 x2 M → f_E sh t YX6_readValue rm cs (f_Q sh t R) 4 [.inr (.inr (.inl (6, 11, 22))), .inl x1, .inl x2, .inr (.inr (.inr ()))] [] M) (h : VX6_readValue c_X6_readFactor c_X7_take c_X6_step k4 (fun M => R none M) M) : f_E sh t YX6_readValue rm cs (f_Q sh t R) 0 [.inr (.inr (.inl (6, 11, 22))), .inr (.inr (.inr ())), .inr (.inr (.inr ())), .inr (.inr (.inr ()))] [] M :=
  f_go (KC := f_kc [(4, f_pl [(32, 6, 11), (1, 0, 0), (1, 0, 0), (0, 0, 0)] [] (fun ls st M => k4 (f_vi (f_nth ls 1)) (f_vi (f_nth ls 2)) M))]) C qX6_readValuef (f_kc_cons (f_pl_ok rfl (fun ls st M h => h4 _ _ M h)) f_kc_nil) 60 0 h
def WX6_readValue_91 (c_X6_readValue : e_M → (e_M → Prop) → Prop) (H4 : Int → Int → e_M → Prop) (Q : e_M → Prop) (x1 : Int) (x2 : Int) (M : e_M) : Prop :=
  VX6_readValue_91 (WX6_readFactor c_X6_readValue) WX7_take WX6_step H4 Q x1 x2 M
def WX6_readValue_70 (c_X6_readValue : e_M → (e_M → Prop) → Prop) (H4 : Int → Int → e_M → Prop) (Q : e_M → Prop) (x2 : Int) (M : e_M) : Prop :=
  VX6_readValue_70 (WX6_readFactor c_X6_readValue) WX7_take WX6_step (WX6_readValue_91 c_X6_readValue H4 Q) Q x2 M
def WX6_readValue_60 (c_X6_readValue : e_M → (e_M → Prop) → Prop) (H4 : Int → Int → e_M → Prop) (Q : e_M → Prop) (x1 : Int) (x2 : Int) (M : e_M) : Prop :=
  VX6_readValue_60 (WX6_readFactor c_X6_readValue) WX7_take WX6_step (WX6_readValue_70 c_X6_readValue H4 Q) Q x1 x2 M
def WX6_readValue_17 (c_X6_readValue : e_M → (e_M → Prop) → Prop) (H4 : Int → Int → e_M → Prop) (Q : e_M → Prop) : Nat → Int → Int → Int → e_M → Prop
  | 0, _, _, _, _ => False
  | n + 1, x1, x2, x3, M =>
    VX6_readValue_17 (WX6_readFactor c_X6_readValue) WX7_take WX6_step (WX6_readValue_60 c_X6_readValue H4 Q) (WX6_readValue_17 c_X6_readValue H4 Q n) Q x1 x2 x3 M
def WX6_readValue_4 (c_X6_readValue : e_M → (e_M → Prop) → Prop) (Q : e_M → Prop) : Nat → Int → Int → e_M → Prop
  | 0, _, _, _ => False
  | n + 1, x1, x2, M =>
    VX6_readValue_4 (WX6_readFactor c_X6_readValue) WX7_take WX6_step (fun x1 x2 x3 M => ∃ j, WX6_readValue_17 c_X6_readValue (WX6_readValue_4 c_X6_readValue Q n) Q j x1 x2 x3 M) Q x1 x2 M
def WX6_readValue (c_X6_readValue : e_M → (e_M → Prop) → Prop) (M : e_M) (Q : e_M → Prop) : Prop :=
  VX6_readValue (WX6_readFactor c_X6_readValue) WX7_take WX6_step (fun x1 x2 M => ∃ j, WX6_readValue_4 c_X6_readValue Q j x1 x2 M) Q M
theorem PX6_readValue_91 {sh : Nat → Nat × Nat} {t : Nat} {rm : Nat × Nat × Nat} {cs : Nat × Nat} {R : f_Rt} {D : Nat} {c_X6_readValue : e_M → (e_M → Prop) → Prop} {H4 : Int → Int → e_M → Prop} {x1 : Int} {x2 : Int} {M : e_M} (C : f_Hy sh t yX6_readValue rm cs D (lX6_readValue (WX6_readFactor c_X6_readValue) WX7_take WX6_step) R) (g4 : ∀ (x1 : Int) (x2 : Int) (M : e_M), H4 x1 x2 M → f_E sh t YX6_readValue rm cs (f_Q sh t R) 4 [.inr (.inr (.inl (6, 11, 22))), .inl x1, .inl x2, .inr (.inr (.inr ()))] [] M) (h : WX6_readValue_91 c_X6_readValue H4 (fun M => R none M) x1 x2 M) : f_E sh t YX6_readValue rm cs (f_Q sh t R) 91 [.inr (.inr (.inl (6, 11, 22))), .inl x1, .inl x2, .inr (.inr (.inr ()))] [] M :=
  BX6_readValue_91 C g4 h
theorem PX6_readValue_70 {sh : Nat → Nat × Nat} {t : Nat} {rm : Nat × Nat × Nat} {cs : Nat × Nat} {R : f_Rt} {D : Nat} {c_X6_readValue : e_M → (e_M → Prop) → Prop} {H4 : Int → Int → e_M → Prop} {x2 : Int} {M : e_M} (C : f_Hy sh t yX6_readValue rm cs D (lX6_readValue (WX6_readFactor c_X6_readValue) WX7_take WX6_step) R) (g4 : ∀ (x1 : Int) (x2 : Int) (M : e_M), H4 x1 x2 M → f_E sh t YX6_readValue rm cs (f_Q sh t R) 4 [.inr (.inr (.inl (6, 11, 22))), .inl x1, .inl x2, .inr (.inr (.inr ()))] [] M) (h : WX6_readValue_70 c_X6_readValue H4 (fun M => R none M) x2 M) : f_E sh t YX6_readValue rm cs (f_Q sh t R) 70 [.inr (.inr (.inl (6, 11, 22))), .inr (.inr (.inr ())), .inl x2, .inr (.inr (.inr ()))] [] M :=
  BX6_readValue_70 C (fun x1 x2 M h => PX6_readValue_91 C g4 h) h
theorem PX6_readValue_60 {sh : Nat → Nat × Nat} {t : Nat} {rm : Nat × Nat × Nat} {cs : Nat × Nat} {R : f_Rt} {D : Nat} {c_X6_readValue : e_M → (e_M → Prop) → Prop} {H4 : Int → Int → e_M → Prop} {x1 : Int} {x2 : Int} {M : e_M} (C : f_Hy sh t yX6_readValue rm cs D (lX6_readValue (WX6_readFactor c_X6_readValue) WX7_take WX6_step) R) (g4 : ∀ (x1 : Int) (x2 : Int) (M : e_M), H4 x1 x2 M → f_E sh t YX6_readValue rm cs (f_Q sh t R) 4 [.inr (.inr (.inl (6, 11, 22))), .inl x1, .inl x2, .inr (.inr (.inr ()))] [] M) (h : WX6_readValue_60 c_X6_readValue H4 (fun M => R none M) x1 x2 M) : f_E sh t YX6_readValue rm cs (f_Q sh t R) 60 [.inr (.inr (.inl (6, 11, 22))), .inl x1, .inl x2, .inr (.inr (.inr ()))] [] M :=
  BX6_readValue_60 C (fun x2 M h => PX6_readValue_70 C g4 h) h
theorem PX6_readValue_17 {sh : Nat → Nat × Nat} {t : Nat} {rm : Nat × Nat × Nat} {cs : Nat × Nat} {R : f_Rt} {D : Nat} {c_X6_readValue : e_M → (e_M → Prop) → Prop} {H4 : Int → Int → e_M → Prop} (C : f_Hy sh t yX6_readValue rm cs D (lX6_readValue (WX6_readFactor c_X6_readValue) WX7_take WX6_step) R) (g4 : ∀ (x1 : Int) (x2 : Int) (M : e_M), H4 x1 x2 M → f_E sh t YX6_readValue rm cs (f_Q sh t R) 4 [.inr (.inr (.inl (6, 11, 22))), .inl x1, .inl x2, .inr (.inr (.inr ()))] [] M) : ∀ (n : Nat) (x1 : Int) (x2 : Int) (x3 : Int) (M : e_M), WX6_readValue_17 c_X6_readValue H4 (fun M => R none M) n x1 x2 x3 M → f_E sh t YX6_readValue rm cs (f_Q sh t R) 17 [.inr (.inr (.inl (6, 11, 22))), .inl x1, .inl x2, .inl x3] [] M := by
  intro n
  induction n with
  | zero => intro x1 x2 x3 M h; exact h.elim
  | succ n ih => intro x1 x2 x3 M h; exact BX6_readValue_17 C (fun x1 x2 M h => PX6_readValue_60 C g4 h) ih h
theorem PX6_readValue_4 {sh : Nat → Nat × Nat} {t : Nat} {rm : Nat × Nat × Nat} {cs : Nat × Nat} {R : f_Rt} {D : Nat} {c_X6_readValue : e_M → (e_M → Prop) → Prop} (C : f_Hy sh t yX6_readValue rm cs D (lX6_readValue (WX6_readFactor c_X6_readValue) WX7_take WX6_step) R) : ∀ (n : Nat) (x1 : Int) (x2 : Int) (M : e_M), WX6_readValue_4 c_X6_readValue (fun M => R none M) n x1 x2 M → f_E sh t YX6_readValue rm cs (f_Q sh t R) 4 [.inr (.inr (.inl (6, 11, 22))), .inl x1, .inl x2, .inr (.inr (.inr ()))] [] M := by
  intro n
  induction n with
  | zero => intro x1 x2 M h; exact h.elim
  | succ n ih => intro x1 x2 M h; exact BX6_readValue_4 C (fun x1 x2 x3 M ⟨j, h⟩ => PX6_readValue_17 C ih j _ _ _ _ h) h
theorem PX6_readValue {sh : Nat → Nat × Nat} {t : Nat} {rm : Nat × Nat × Nat} {cs : Nat × Nat} {R : f_Rt} {D : Nat} {c_X6_readValue : e_M → (e_M → Prop) → Prop} {M : e_M} (C : f_Hy sh t yX6_readValue rm cs D (lX6_readValue (WX6_readFactor c_X6_readValue) WX7_take WX6_step) R) (h : WX6_readValue c_X6_readValue M (fun M => R none M)) : f_E sh t YX6_readValue rm cs (f_Q sh t R) 0 [.inr (.inr (.inl (6, 11, 22))), .inr (.inr (.inr ())), .inr (.inr (.inr ())), .inr (.inr (.inr ()))] [] M :=
  BX6_readValue C (fun x1 x2 M ⟨j, h⟩ => PX6_readValue_4 C j _ _ _ h) h
def wX6_readValue (c_X6_readValue : e_M → (e_M → Prop) → Prop) : f_Wt := f_wm [(32, 6, 11)] (fun ar M R => WX6_readValue c_X6_readValue M (fun M => R none M))
theorem TX6_readValue {sh : Nat → Nat × Nat} {t : Nat} {c_X6_readValue : e_M → (e_M → Prop) → Prop} {D : Nat} (hD : 10 ≤ D) (o0 : f_Mt sh t YX6_readValue (D - 2) (f_wm [(32, 6, 11)] (fun ar M R => c_X6_readValue  M (fun M => R none M)))) : f_Mt sh t YX6_readValue D (wX6_readValue c_X6_readValue) :=
  f_Mt_of (k := 3) (Nat.le_of_ble_eq_true rfl) rfl rfl (fun ar M R rm cs h1 h2 h3 hX h => PX6_readValue ⟨by omega, h1, h2, h3, ⟨(TX6_readFactor (D := D - 1) (by omega) (f_Mt.up (by omega) o0)), (f_Mt.up (by omega) TX7_take), (f_Mt.up (by omega) TX6_step), trivial⟩, hX⟩ h)
def CCX6_readValue : Nat → (e_M → (e_M → Prop) → Prop)
  | 0 => (fun _ _ => False)
  | d + 1 => (WX6_readValue (CCX6_readValue d))
def CX6_readValue (d : Nat) : e_M → (e_M → Prop) → Prop := (CCX6_readValue d)
theorem TCCX6_readValue {sh : Nat → Nat × Nat} {t : Nat} : ∀ d : Nat, f_Mt sh t YX6_readValue (10 + 2 * d) (f_wm [(32, 6, 11)] (fun ar M R => CX6_readValue d  M (fun M => R none M))) := by
  intro d
  induction d with
  | zero => exact ⟨Nat.le_of_ble_eq_true rfl, fun ar M R rm cs h => (f_c_b h).2.elim⟩
  | succ d ih => exact (TX6_readValue (D := 10 + 2 * (d + 1)) (by omega) (f_Mt.up (by omega) ih))
theorem TCX6_readValue {sh : Nat → Nat × Nat} {t : Nat} (d : Nat) : f_Mt sh t YX6_readValue (10 + 2 * d) (f_wm [(32, 6, 11)] (fun ar M R => CX6_readValue d  M (fun M => R none M))) := (TCCX6_readValue d)
def VX7_takeName (c_X7_expect : Int → e_M → (e_M → Prop) → Prop) (Q : Int → e_M → Prop) (M : e_M) : Prop :=
  ((0 ≤ (M 10 5) ∧ (M 10 5) < 641) ∧ (c_X7_expect 4 M (fun M1 => (Q (M 14 ((M 10 5).toNat)) M1))))
def yX7_takeName (i : Nat) : e_Y := x_get YX7_takeName [YX7_expect] i
def pX7_takeNamef : List x_I := [(0, 4, 1, 0, 0, 0, []), (1, 25, 7, 3, 4, 0, [(0, 23, 641), (0, 1, 4)]), (4, 4, 1, 0, 0, 0, []), (5, 25, 7, 5, 0, 0, []), (8, 27, 0, 1, 0, 0, []), (9, 6, 1, 1, 0, 0, []), (10, 4, 1, 0, 0, 0, []), (11, 0, 1, 0, 0, 4, []), (12, 40, 0, 2, 9, 0, []), (15, 3, 1, 1, 0, 0, []), (16, 43, 0, 0, 0, 0, [])]
set_option maxRecDepth 20000 in
theorem qX7_takeNamef : f_all yX7_takeName YX7_takeName pX7_takeNamef :=
  ⟨f_aload_n (n := 0) (e_dx DX7_takeName_0 0 rfl) rfl,
  f_getA (e_dx DX7_takeName_0 1 rfl) fX7_22 rfl (by decide) (Nat.le_of_ble_eq_true rfl) rfl (by decide),
  f_aload_n (n := 0) (e_dx DX7_takeName_0 2 rfl) rfl,
  f_getf (e_dx DX7_takeName_0 3 rfl) fX7_29 rfl (by decide) (by decide) (by decide),
  f_laload (e_dx DX7_takeName_0 4 rfl),
  f_lstore_n (n := 1) (e_dx DX7_takeName_0 5 rfl) rfl (by decide),
  f_aload_n (n := 0) (e_dx DX7_takeName_0 6 rfl) rfl,
  f_iconst (e_dx DX7_takeName_0 7 rfl) ⟨by decide, by decide⟩,
  x_callV (e_dx DX7_takeName_0 8 rfl) mwX7_expect vwX7_expect cX7_128 rfl,
  f_lload_n (n := 1) (e_dx DX7_takeName_0 9 rfl) rfl,
  ⟨(e_dx DX7_takeName_0 10 rfl), rfl⟩, trivial⟩
def lX7_takeName (c_X7_expect : Int → e_M → (e_M → Prop) → Prop) : List (Nat × f_Wt) := [(0, f_wm [(20, 7, 12), (1, 0, 0)] (fun ar M R => c_X7_expect (f_vi (f_nth ar 1)) M (fun M => R none M)))]
set_option maxRecDepth 20000 in
theorem BX7_takeName {sh : Nat → Nat × Nat} {t : Nat} {rm : Nat × Nat × Nat} {cs : Nat × Nat} {R : f_Rt} {c_X7_expect : Int → e_M → (e_M → Prop) → Prop} {M : e_M} (C : f_Hy sh t yX7_takeName rm cs 6 (lX7_takeName c_X7_expect) R) (h : VX7_takeName c_X7_expect (fun r M => R (some (.inr (.inl r))) M) M) : f_E sh t YX7_takeName rm cs (f_Q sh t R) 0 [.inr (.inr (.inl (7, 12, 10))), .inr (.inr (.inr ())), .inr (.inr (.inr ()))] [] M :=
  f_go (KC := f_kc []) C qX7_takeNamef f_kc_nil 13 0 h
def WX7_takeName (M : e_M) (Q : Int → e_M → Prop) : Prop :=
  VX7_takeName WX7_expect Q M
theorem PX7_takeName {sh : Nat → Nat × Nat} {t : Nat} {rm : Nat × Nat × Nat} {cs : Nat × Nat} {R : f_Rt} {M : e_M} (C : f_Hy sh t yX7_takeName rm cs 6 (lX7_takeName WX7_expect) R) (h : WX7_takeName M (fun r M => R (some (.inr (.inl r))) M)) : f_E sh t YX7_takeName rm cs (f_Q sh t R) 0 [.inr (.inr (.inl (7, 12, 10))), .inr (.inr (.inr ())), .inr (.inr (.inr ()))] [] M :=
  BX7_takeName C h
def wX7_takeName : f_Wt := f_wm [(20, 7, 12)] (fun ar M R => WX7_takeName M (fun r M => R (some (.inr (.inl r))) M))
theorem TX7_takeName {sh : Nat → Nat × Nat} {t : Nat} : f_Mt sh t YX7_takeName 6 (wX7_takeName) :=
  f_Mt_of (k := 2) (Nat.le_of_ble_eq_true rfl) rfl rfl (fun ar M R rm cs h1 h2 h3 hX h => PX7_takeName ⟨Nat.le_of_ble_eq_true rfl, h1, h2, h3, ⟨(f_Mt.up (Nat.le_of_ble_eq_true rfl) TX7_expect), trivial⟩, hX⟩ h)
def VX6_readAsk_31 (c_X7_note : Int → e_M → (e_M → Prop) → Prop) (c_X7_take : e_M → (e_M → Prop) → Prop) (c_X6_readValue : e_M → (e_M → Prop) → Prop) (c_X7_expect : Int → e_M → (e_M → Prop) → Prop) (c_X7_takeName : e_M → (Int → e_M → Prop) → Prop) (k39 : e_M → Prop) (Q : e_M → Prop) (M : e_M) : Prop :=
  (c_X7_note 1 M (fun M1 => (k39 M1)))
def VX6_readAsk_39 (c_X7_note : Int → e_M → (e_M → Prop) → Prop) (c_X7_take : e_M → (e_M → Prop) → Prop) (c_X6_readValue : e_M → (e_M → Prop) → Prop) (c_X7_expect : Int → e_M → (e_M → Prop) → Prop) (c_X7_takeName : e_M → (Int → e_M → Prop) → Prop) (k66 : e_M → Prop) (k103 : e_M → Prop) (Q : e_M → Prop) (M : e_M) : Prop :=
  (c_X7_take M (fun M1 => (((M1 22 3) = 241 → (k66 M1)) ∧ (¬ (M1 22 3) = 241 → ((¬ (M1 22 3) = 242 → (((M1 22 3) = 244 → (k103 M1)) ∧ (¬ (M1 22 3) = 244 → ((¬ (M1 22 3) = 245 → (Q M1)) ∧ ((M1 22 3) = 245 → (k103 M1)))))) ∧ ((M1 22 3) = 242 → (k66 M1)))))))
def VX6_readAsk_66 (c_X7_note : Int → e_M → (e_M → Prop) → Prop) (c_X7_take : e_M → (e_M → Prop) → Prop) (c_X6_readValue : e_M → (e_M → Prop) → Prop) (c_X7_expect : Int → e_M → (e_M → Prop) → Prop) (c_X7_takeName : e_M → (Int → e_M → Prop) → Prop) (Q : e_M → Prop) (M : e_M) : Prop :=
  (c_X6_readValue M (fun M1 => (c_X7_expect 233 M1 (fun M2 => (Q M2)))))
def VX6_readAsk_103 (c_X7_note : Int → e_M → (e_M → Prop) → Prop) (c_X7_take : e_M → (e_M → Prop) → Prop) (c_X6_readValue : e_M → (e_M → Prop) → Prop) (c_X7_expect : Int → e_M → (e_M → Prop) → Prop) (c_X7_takeName : e_M → (Int → e_M → Prop) → Prop) (Q : e_M → Prop) (M : e_M) : Prop :=
  (c_X7_takeName M (fun r1 M2 => (∀ M3 : e_M, M3 = e_up M2 22 5 r1 → (Q M3))))
def VX6_readAsk (c_X7_note : Int → e_M → (e_M → Prop) → Prop) (c_X7_take : e_M → (e_M → Prop) → Prop) (c_X6_readValue : e_M → (e_M → Prop) → Prop) (c_X7_expect : Int → e_M → (e_M → Prop) → Prop) (c_X7_takeName : e_M → (Int → e_M → Prop) → Prop) (k31 : e_M → Prop) (k39 : e_M → Prop) (Q : e_M → Prop) (M : e_M) : Prop :=
  (∀ M1 : e_M, M1 = e_up M 22 3 (M 10 6) → (((M1 22 3) < 240 → (k31 M1)) ∧ (240 ≤ (M1 22 3) → (((M1 22 3) ≤ 245 → (k39 M1)) ∧ (245 < (M1 22 3) → (k31 M1))))))
def yX6_readAsk (i : Nat) : e_Y := x_get YX6_readAsk [YX7_note, YX7_take, YX6_readValue, YX7_expect, YX7_takeName] i
def pX6_readAskf : List x_I := [(0, 4, 1, 0, 0, 0, []), (1, 4, 1, 0, 0, 0, []), (2, 25, 6, 0, 4, 0, [(0, 7, 12), (0, 2, 10)]), (5, 25, 7, 6, 0, 0, []), (8, 26, 6, 3, 0, 0, []), (11, 4, 1, 0, 0, 0, []), (12, 25, 6, 3, 0, 0, []), (15, 0, 3, 0, 0, 240, []), (18, 18, 31, 2, 14, 0, []), (21, 4, 1, 0, 0, 0, []), (22, 25, 6, 3, 0, 0, []), (25, 0, 3, 0, 0, 245, []), (28, 18, 39, 5, 19, 0, []), (31, 49, 0, 0, 0, 0, []), (31, 4, 1, 0, 0, 0, []), (32, 25, 6, 0, 4, 0, [(0, 7, 12), (0, 2, 10)]), (35, 0, 1, 0, 0, 1, []), (36, 40, 0, 2, 9, 0, []), (39, 49, 0, 0, 0, 0, []), (39, 4, 1, 0, 0, 0, []), (40, 25, 6, 0, 4, 0, [(0, 7, 12), (0, 2, 10)]), (43, 40, 1, 1, 9, 0, []), (46, 4, 1, 0, 0, 0, []), (47, 25, 6, 3, 0, 0, []), (50, 0, 3, 0, 0, 241, []), (53, 18, 66, 0, 31, 0, []), (56, 4, 1, 0, 0, 0, []), (57, 25, 6, 3, 0, 0, []), (60, 0, 3, 0, 0, 242, []), (63, 18, 83, 1, 39, 0, []), (66, 49, 0, 0, 0, 0, []), (66, 4, 1, 0, 0, 0, []), (67, 40, 2, 1, 8, 0, []), (70, 4, 1, 0, 0, 0, []), (71, 25, 6, 0, 4, 0, [(0, 7, 12), (0, 2, 10)]), (74, 0, 3, 0, 0, 233, []), (77, 40, 3, 2, 9, 0, []), (80, 19, 114, 0, 53, 0, []), (83, 4, 1, 0, 0, 0, []), (84, 25, 6, 3, 0, 0, []), (87, 0, 3, 0, 0, 244, []), (90, 18, 103, 0, 47, 0, []), (93, 4, 1, 0, 0, 0, []), (94, 25, 6, 3, 0, 0, []), (97, 0, 3, 0, 0, 245, []), (100, 18, 114, 1, 53, 0, []), (103, 49, 0, 0, 0, 0, []), (103, 4, 1, 0, 0, 0, []), (104, 4, 1, 0, 0, 0, []), (105, 25, 6, 0, 4, 0, [(0, 7, 12), (0, 2, 10)]), (108, 40, 4, 1, 9, 0, []), (111, 26, 6, 5, 3, 0, []), (114, 44, 0, 0, 0, 0, [])]
set_option maxRecDepth 20000 in
theorem qX6_readAskf : f_all yX6_readAsk YX6_readAsk pX6_readAskf :=
  ⟨f_aload_n (n := 0) (e_dx DX6_readAsk_0 0 rfl) rfl,
  f_aload_n (n := 0) (e_dx DX6_readAsk_0 1 rfl) rfl,
  f_getA (e_dx DX6_readAsk_0 2 rfl) fX6_45 rfl (by decide) (Nat.le_of_ble_eq_true rfl) rfl (by decide),
  f_getf (e_dx DX6_readAsk_0 3 rfl) fX6_49 rfl (by decide) (by decide) (by decide),
  f_putn (e_dx DX6_readAsk_0 4 rfl) fX6_18 (fun q hq => by cases hq; rfl) rfl (Or.inl rfl) (by decide),
  f_aload_n (n := 0) (e_dx DX6_readAsk_0 5 rfl) rfl,
  f_getf (e_dx DX6_readAsk_0 6 rfl) fX6_18 rfl (by decide) (by decide) (by decide),
  f_sipush (e_dx DX6_readAsk_0 7 rfl) ⟨by decide, by decide⟩,
  f_icmp_lt (e_dx DX6_readAsk_0 8 rfl) rfl,
  f_aload_n (n := 0) (e_dx DX6_readAsk_0 9 rfl) rfl,
  f_getf (e_dx DX6_readAsk_0 10 rfl) fX6_18 rfl (by decide) (by decide) (by decide),
  f_sipush (e_dx DX6_readAsk_0 11 rfl) ⟨by decide, by decide⟩,
  f_icmp_le (e_dx DX6_readAsk_0 12 rfl) rfl,
  trivial,
  f_aload_n (n := 0) (e_dx DX6_readAsk_0 13 rfl) rfl,
  f_getA (e_dx DX6_readAsk_0 14 rfl) fX6_45 rfl (by decide) (Nat.le_of_ble_eq_true rfl) rfl (by decide),
  f_iconst (e_dx DX6_readAsk_0 15 rfl) ⟨by decide, by decide⟩,
  x_callV (e_dx DX6_readAsk_0 16 rfl) mwX7_note vwX7_note cX6_77 rfl,
  trivial,
  f_aload_n (n := 0) (e_dx DX6_readAsk_0 17 rfl) rfl,
  f_getA (e_dx DX6_readAsk_0 18 rfl) fX6_45 rfl (by decide) (Nat.le_of_ble_eq_true rfl) rfl (by decide),
  x_callV (e_dx DX6_readAsk_0 19 rfl) mwX7_take vwX7_take cX6_54 rfl,
  f_aload_n (n := 0) (e_dx DX6_readAsk_0 20 rfl) rfl,
  f_getf (e_dx DX6_readAsk_0 21 rfl) fX6_18 rfl (by decide) (by decide) (by decide),
  f_sipush (e_dx DX6_readAsk_0 22 rfl) ⟨by decide, by decide⟩,
  f_icmp_eq (e_dx DX6_readAsk_0 23 rfl) rfl,
  f_aload_n (n := 0) (e_dx DX6_readAsk_0 24 rfl) rfl,
  f_getf (e_dx DX6_readAsk_0 25 rfl) fX6_18 rfl (by decide) (by decide) (by decide),
  f_sipush (e_dx DX6_readAsk_0 26 rfl) ⟨by decide, by decide⟩,
  f_icmp_ne (e_dx DX6_readAsk_0 27 rfl) rfl,
  trivial,
  f_aload_n (n := 0) (e_dx DX6_readAsk_0 28 rfl) rfl,
  x_callV (e_dx DX6_readAsk_0 29 rfl) mwX6_readValue vwX6_readValue cX6_81 rfl,
  f_aload_n (n := 0) (e_dx DX6_readAsk_0 30 rfl) rfl,
  f_getA (e_dx DX6_readAsk_0 31 rfl) fX6_45 rfl (by decide) (Nat.le_of_ble_eq_true rfl) rfl (by decide),
  f_sipush (e_dx DX6_readAsk_0 32 rfl) ⟨by decide, by decide⟩,
  x_callV (e_dx DX6_readAsk_0 33 rfl) mwX7_expect vwX7_expect cX6_84 rfl,
  f_g19 (e_dx DX6_readAsk_0 34 rfl) rfl,
  f_aload_n (n := 0) (e_dx DX6_readAsk_0 35 rfl) rfl,
  f_getf (e_dx DX6_readAsk_0 36 rfl) fX6_18 rfl (by decide) (by decide) (by decide),
  f_sipush (e_dx DX6_readAsk_0 37 rfl) ⟨by decide, by decide⟩,
  f_icmp_eq (e_dx DX6_readAsk_0 38 rfl) rfl,
  f_aload_n (n := 0) (e_dx DX6_readAsk_0 39 rfl) rfl,
  f_getf (e_dx DX6_readAsk_1 0 rfl) fX6_18 rfl (by decide) (by decide) (by decide),
  f_sipush (e_dx DX6_readAsk_1 1 rfl) ⟨by decide, by decide⟩,
  f_icmp_ne (e_dx DX6_readAsk_1 2 rfl) rfl,
  trivial,
  f_aload_n (n := 0) (e_dx DX6_readAsk_1 3 rfl) rfl,
  f_aload_n (n := 0) (e_dx DX6_readAsk_1 4 rfl) rfl,
  f_getA (e_dx DX6_readAsk_1 5 rfl) fX6_45 rfl (by decide) (Nat.le_of_ble_eq_true rfl) rfl (by decide),
  x_callV (e_dx DX6_readAsk_1 6 rfl) mwX7_takeName vwX7_takeName cX6_87 rfl,
  f_putn (e_dx DX6_readAsk_1 7 rfl) fX6_24 (fun q hq => by cases hq; rfl) rfl (Or.inr (Or.inr rfl)) (by decide),
  ⟨(e_dx DX6_readAsk_1 8 rfl), rfl⟩, trivial⟩
def lX6_readAsk (c_X7_note : Int → e_M → (e_M → Prop) → Prop) (c_X7_take : e_M → (e_M → Prop) → Prop) (c_X6_readValue : e_M → (e_M → Prop) → Prop) (c_X7_expect : Int → e_M → (e_M → Prop) → Prop) (c_X7_takeName : e_M → (Int → e_M → Prop) → Prop) : List (Nat × f_Wt) := [(0, f_wm [(20, 7, 12), (1, 0, 0)] (fun ar M R => c_X7_note (f_vi (f_nth ar 1)) M (fun M => R none M))), (1, f_wm [(20, 7, 12)] (fun ar M R => c_X7_take  M (fun M => R none M))), (2, f_wm [(32, 6, 11)] (fun ar M R => c_X6_readValue  M (fun M => R none M))), (3, f_wm [(20, 7, 12), (1, 0, 0)] (fun ar M R => c_X7_expect (f_vi (f_nth ar 1)) M (fun M => R none M))), (4, f_wm [(20, 7, 12)] (fun ar M R => c_X7_takeName  M (fun r M => R (some (.inr (.inl r))) M)))]
set_option maxRecDepth 20000 in
theorem BX6_readAsk_31 {sh : Nat → Nat × Nat} {t : Nat} {rm : Nat × Nat × Nat} {cs : Nat × Nat} {R : f_Rt} {c_X7_note : Int → e_M → (e_M → Prop) → Prop} {c_X7_take : e_M → (e_M → Prop) → Prop} {c_X6_readValue : e_M → (e_M → Prop) → Prop} {c_X7_expect : Int → e_M → (e_M → Prop) → Prop} {c_X7_takeName : e_M → (Int → e_M → Prop) → Prop} {k39 : e_M → Prop} {M : e_M} (C : f_Hy sh t yX6_readAsk rm cs 37 (lX6_readAsk c_X7_note c_X7_take c_X6_readValue c_X7_expect c_X7_takeName) R) (h39 : ∀ (M : e_M), k39 M → f_E sh t YX6_readAsk rm cs (f_Q sh t R) 39 [.inr (.inr (.inl (6, 11, 22)))] [] M) (h : VX6_readAsk_31 c_X7_note c_X7_take c_X6_readValue c_X7_expect c_X7_takeName k39 (fun M => R none M) M) : f_E sh t YX6_readAsk rm cs (f_Q sh t R) 31 [.inr (.inr (.inl (6, 11, 22)))] [] M :=
  f_go (KC := f_kc [(39, f_pl [(32, 6, 11)] [] (fun ls st M => k39 M))]) C qX6_readAskf (f_kc_cons (f_pl_ok rfl (fun ls st M h => h39  M h)) f_kc_nil) 55 14 h
set_option maxRecDepth 20000 in
theorem BX6_readAsk_39 {sh : Nat → Nat × Nat} {t : Nat} {rm : Nat × Nat × Nat} {cs : Nat × Nat} {R : f_Rt} {c_X7_note : Int → e_M → (e_M → Prop) → Prop} {c_X7_take : e_M → (e_M → Prop) → Prop} {c_X6_readValue : e_M → (e_M → Prop) → Prop} {c_X7_expect : Int → e_M → (e_M → Prop) → Prop} {c_X7_takeName : e_M → (Int → e_M → Prop) → Prop} {k66 : e_M → Prop} {k103 : e_M → Prop} {M : e_M} (C : f_Hy sh t yX6_readAsk rm cs 37 (lX6_readAsk c_X7_note c_X7_take c_X6_readValue c_X7_expect c_X7_takeName) R) (h66 : ∀ (M : e_M), k66 M → f_E sh t YX6_readAsk rm cs (f_Q sh t R) 66 [.inr (.inr (.inl (6, 11, 22)))] [] M) (h103 : ∀ (M : e_M), k103 M → f_E sh t YX6_readAsk rm cs (f_Q sh t R) 103 [.inr (.inr (.inl (6, 11, 22)))] [] M) (h : VX6_readAsk_39 c_X7_note c_X7_take c_X6_readValue c_X7_expect c_X7_takeName k66 k103 (fun M => R none M) M) : f_E sh t YX6_readAsk rm cs (f_Q sh t R) 39 [.inr (.inr (.inl (6, 11, 22)))] [] M :=
  f_go (KC := f_kc [(66, f_pl [(32, 6, 11)] [] (fun ls st M => k66 M)), (103, f_pl [(32, 6, 11)] [] (fun ls st M => k103 M))]) C qX6_readAskf (f_kc_cons (f_pl_ok rfl (fun ls st M h => h66  M h)) (f_kc_cons (f_pl_ok rfl (fun ls st M h => h103  M h)) f_kc_nil)) 55 19 h
set_option maxRecDepth 20000 in
theorem BX6_readAsk_66 {sh : Nat → Nat × Nat} {t : Nat} {rm : Nat × Nat × Nat} {cs : Nat × Nat} {R : f_Rt} {c_X7_note : Int → e_M → (e_M → Prop) → Prop} {c_X7_take : e_M → (e_M → Prop) → Prop} {c_X6_readValue : e_M → (e_M → Prop) → Prop} {c_X7_expect : Int → e_M → (e_M → Prop) → Prop} {c_X7_takeName : e_M → (Int → e_M → Prop) → Prop} {M : e_M} (C : f_Hy sh t yX6_readAsk rm cs 37 (lX6_readAsk c_X7_note c_X7_take c_X6_readValue c_X7_expect c_X7_takeName) R) (h : VX6_readAsk_66 c_X7_note c_X7_take c_X6_readValue c_X7_expect c_X7_takeName (fun M => R none M) M) : f_E sh t YX6_readAsk rm cs (f_Q sh t R) 66 [.inr (.inr (.inl (6, 11, 22)))] [] M :=
  f_go (KC := f_kc []) C qX6_readAskf f_kc_nil 55 31 h
set_option maxRecDepth 20000 in
theorem BX6_readAsk_103 {sh : Nat → Nat × Nat} {t : Nat} {rm : Nat × Nat × Nat} {cs : Nat × Nat} {R : f_Rt} {c_X7_note : Int → e_M → (e_M → Prop) → Prop} {c_X7_take : e_M → (e_M → Prop) → Prop} {c_X6_readValue : e_M → (e_M → Prop) → Prop} {c_X7_expect : Int → e_M → (e_M → Prop) → Prop} {c_X7_takeName : e_M → (Int → e_M → Prop) → Prop} {M : e_M} (C : f_Hy sh t yX6_readAsk rm cs 37 (lX6_readAsk c_X7_note c_X7_take c_X6_readValue c_X7_expect c_X7_takeName) R) (h : VX6_readAsk_103 c_X7_note c_X7_take c_X6_readValue c_X7_expect c_X7_takeName (fun M => R none M) M) : f_E sh t YX6_readAsk rm cs (f_Q sh t R) 103 [.inr (.inr (.inl (6, 11, 22)))] [] M :=
  f_go (KC := f_kc []) C qX6_readAskf f_kc_nil 55 47 h
set_option maxRecDepth 20000 in
theorem BX6_readAsk {sh : Nat → Nat × Nat} {t : Nat} {rm : Nat × Nat × Nat} {cs : Nat × Nat} {R : f_Rt} {c_X7_note : Int → e_M → (e_M → Prop) → Prop} {c_X7_take : e_M → (e_M → Prop) → Prop} {c_X6_readValue : e_M → (e_M → Prop) → Prop} {c_X7_expect : Int → e_M → (e_M → Prop) → Prop} {c_X7_takeName : e_M → (Int → e_M → Prop) → Prop} {k31 : e_M → Prop} {k39 : e_M → Prop} {M : e_M} (C : f_Hy sh t yX6_readAsk rm cs 37 (lX6_readAsk c_X7_note c_X7_take c_X6_readValue c_X7_expect c_X7_takeName) R) (h31 : ∀ (M : e_M), k31 M → f_E sh t YX6_readAsk rm cs (f_Q sh t R) 31 [.inr (.inr (.inl (6, 11, 22)))] [] M) (h39 : ∀ (M : e_M), k39 M → f_E sh t YX6_readAsk rm cs (f_Q sh t R) 39 [.inr (.inr (.inl (6, 11, 22)))] [] M) (h : VX6_readAsk c_X7_note c_X7_take c_X6_readValue c_X7_expect c_X7_takeName k31 k39 (fun M => R none M) M) : f_E sh t YX6_readAsk rm cs (f_Q sh t R) 0 [.inr (.inr (.inl (6, 11, 22)))] [] M :=
  f_go (KC := f_kc [(31, f_pl [(32, 6, 11)] [] (fun ls st M => k31 M)), (39, f_pl [(32, 6, 11)] [] (fun ls st M => k39 M))]) C qX6_readAskf (f_kc_cons (f_pl_ok rfl (fun ls st M h => h31  M h)) (f_kc_cons (f_pl_ok rfl (fun ls st M h => h39  M h)) f_kc_nil)) 55 0 h
def WX6_readAsk_66 (Q : e_M → Prop) (M : e_M) : Prop :=
  VX6_readAsk_66 WX7_note WX7_take (CX6_readValue 13) WX7_expect WX7_takeName Q M
def WX6_readAsk_103 (Q : e_M → Prop) (M : e_M) : Prop :=
  VX6_readAsk_103 WX7_note WX7_take (CX6_readValue 13) WX7_expect WX7_takeName Q M
def WX6_readAsk_39 (Q : e_M → Prop) (M : e_M) : Prop :=
  VX6_readAsk_39 WX7_note WX7_take (CX6_readValue 13) WX7_expect WX7_takeName (WX6_readAsk_66 Q) (WX6_readAsk_103 Q) Q M
def WX6_readAsk_31 (Q : e_M → Prop) (M : e_M) : Prop :=
  VX6_readAsk_31 WX7_note WX7_take (CX6_readValue 13) WX7_expect WX7_takeName (WX6_readAsk_39 Q) Q M
def WX6_readAsk (M : e_M) (Q : e_M → Prop) : Prop :=
  VX6_readAsk WX7_note WX7_take (CX6_readValue 13) WX7_expect WX7_takeName (WX6_readAsk_31 Q) (WX6_readAsk_39 Q) Q M
theorem PX6_readAsk_66 {sh : Nat → Nat × Nat} {t : Nat} {rm : Nat × Nat × Nat} {cs : Nat × Nat} {R : f_Rt} {M : e_M} (C : f_Hy sh t yX6_readAsk rm cs 37 (lX6_readAsk WX7_note WX7_take (CX6_readValue 13) WX7_expect WX7_takeName) R) (h : WX6_readAsk_66 (fun M => R none M) M) : f_E sh t YX6_readAsk rm cs (f_Q sh t R) 66 [.inr (.inr (.inl (6, 11, 22)))] [] M :=
  BX6_readAsk_66 C h
theorem PX6_readAsk_103 {sh : Nat → Nat × Nat} {t : Nat} {rm : Nat × Nat × Nat} {cs : Nat × Nat} {R : f_Rt} {M : e_M} (C : f_Hy sh t yX6_readAsk rm cs 37 (lX6_readAsk WX7_note WX7_take (CX6_readValue 13) WX7_expect WX7_takeName) R) (h : WX6_readAsk_103 (fun M => R none M) M) : f_E sh t YX6_readAsk rm cs (f_Q sh t R) 103 [.inr (.inr (.inl (6, 11, 22)))] [] M :=
  BX6_readAsk_103 C h
theorem PX6_readAsk_39 {sh : Nat → Nat × Nat} {t : Nat} {rm : Nat × Nat × Nat} {cs : Nat × Nat} {R : f_Rt} {M : e_M} (C : f_Hy sh t yX6_readAsk rm cs 37 (lX6_readAsk WX7_note WX7_take (CX6_readValue 13) WX7_expect WX7_takeName) R) (h : WX6_readAsk_39 (fun M => R none M) M) : f_E sh t YX6_readAsk rm cs (f_Q sh t R) 39 [.inr (.inr (.inl (6, 11, 22)))] [] M :=
  BX6_readAsk_39 C (fun M h => PX6_readAsk_66 C h) (fun M h => PX6_readAsk_103 C h) h
theorem PX6_readAsk_31 {sh : Nat → Nat × Nat} {t : Nat} {rm : Nat × Nat × Nat} {cs : Nat × Nat} {R : f_Rt} {M : e_M} (C : f_Hy sh t yX6_readAsk rm cs 37 (lX6_readAsk WX7_note WX7_take (CX6_readValue 13) WX7_expect WX7_takeName) R) (h : WX6_readAsk_31 (fun M => R none M) M) : f_E sh t YX6_readAsk rm cs (f_Q sh t R) 31 [.inr (.inr (.inl (6, 11, 22)))] [] M :=
  BX6_readAsk_31 C (fun M h => PX6_readAsk_39 C h) h
theorem PX6_readAsk {sh : Nat → Nat × Nat} {t : Nat} {rm : Nat × Nat × Nat} {cs : Nat × Nat} {R : f_Rt} {M : e_M} (C : f_Hy sh t yX6_readAsk rm cs 37 (lX6_readAsk WX7_note WX7_take (CX6_readValue 13) WX7_expect WX7_takeName) R) (h : WX6_readAsk M (fun M => R none M)) : f_E sh t YX6_readAsk rm cs (f_Q sh t R) 0 [.inr (.inr (.inl (6, 11, 22)))] [] M :=
  BX6_readAsk C (fun M h => PX6_readAsk_31 C h) (fun M h => PX6_readAsk_39 C h) h
def wX6_readAsk : f_Wt := f_wm [(32, 6, 11)] (fun ar M R => WX6_readAsk M (fun M => R none M))
theorem TX6_readAsk {sh : Nat → Nat × Nat} {t : Nat} : f_Mt sh t YX6_readAsk 37 (wX6_readAsk) :=
  f_Mt_of (k := 0) (Nat.le_of_ble_eq_true rfl) rfl rfl (fun ar M R rm cs h1 h2 h3 hX h => PX6_readAsk ⟨Nat.le_of_ble_eq_true rfl, h1, h2, h3, ⟨(f_Mt.up (Nat.le_of_ble_eq_true rfl) TX7_note), (f_Mt.up (Nat.le_of_ble_eq_true rfl) TX7_take), (f_Mt.up (Nat.le_of_ble_eq_true rfl) (TCX6_readValue 13)), (f_Mt.up (Nat.le_of_ble_eq_true rfl) TX7_expect), (f_Mt.up (Nat.le_of_ble_eq_true rfl) TX7_takeName), trivial⟩, hX⟩ h)
def VX6_readSet_41 (c_X7_note : Int → e_M → (e_M → Prop) → Prop) (c_X7_take : e_M → (e_M → Prop) → Prop) (k49 : e_M → Prop) (Q : Int → e_M → Prop) (M : e_M) : Prop :=
  (c_X7_note 1 M (fun M1 => (k49 M1)))
def VX6_readSet_49 (c_X7_note : Int → e_M → (e_M → Prop) → Prop) (c_X7_take : e_M → (e_M → Prop) → Prop) (Q : Int → e_M → Prop) (M : e_M) : Prop :=
  (c_X7_take M (fun M1 => (((M1 10 6) = 253 → (c_X7_take M1 (fun M2 => (Q 1 M2)))) ∧ (¬ (M1 10 6) = 253 → (Q 0 M1)))))
def VX6_readSet (c_X7_note : Int → e_M → (e_M → Prop) → Prop) (c_X7_take : e_M → (e_M → Prop) → Prop) (k41 : e_M → Prop) (k49 : e_M → Prop) (Q : Int → e_M → Prop) (M : e_M) : Prop :=
  (∀ M1 : e_M, M1 = e_up M 22 4 (e_w32 ((M 10 6) - 246)) → (((M1 10 6) < 246 → (k41 M1)) ∧ (246 ≤ (M1 10 6) → (((M1 10 6) ≤ 252 → (k49 M1)) ∧ (252 < (M1 10 6) → (k41 M1))))))
def yX6_readSet (i : Nat) : e_Y := x_get YX6_readSet [YX7_note, YX7_take] i
def pX6_readSetf : List x_I := [(0, 4, 1, 0, 0, 0, []), (1, 4, 1, 0, 0, 0, []), (2, 25, 6, 0, 4, 0, [(0, 7, 12), (0, 2, 10)]), (5, 25, 7, 6, 0, 0, []), (8, 0, 3, 0, 0, 246, []), (11, 9, 0, 1, 0, 0, []), (12, 26, 6, 4, 0, 0, []), (15, 4, 1, 0, 0, 0, []), (16, 25, 6, 0, 4, 0, [(0, 7, 12), (0, 2, 10)]), (19, 25, 7, 6, 0, 0, []), (22, 0, 3, 0, 0, 246, []), (25, 18, 41, 2, 18, 0, []), (28, 4, 1, 0, 0, 0, []), (29, 25, 6, 0, 4, 0, [(0, 7, 12), (0, 2, 10)]), (32, 25, 7, 6, 0, 0, []), (35, 0, 3, 0, 0, 252, []), (38, 18, 49, 5, 23, 0, []), (41, 49, 0, 0, 0, 0, []), (41, 4, 1, 0, 0, 0, []), (42, 25, 6, 0, 4, 0, [(0, 7, 12), (0, 2, 10)]), (45, 0, 1, 0, 0, 1, []), (46, 40, 0, 2, 9, 0, []), (49, 49, 0, 0, 0, 0, []), (49, 4, 1, 0, 0, 0, []), (50, 25, 6, 0, 4, 0, [(0, 7, 12), (0, 2, 10)]), (53, 40, 1, 1, 9, 0, []), (56, 4, 1, 0, 0, 0, []), (57, 25, 6, 0, 4, 0, [(0, 7, 12), (0, 2, 10)]), (60, 25, 7, 6, 0, 0, []), (63, 0, 3, 0, 0, 253, []), (66, 18, 71, 0, 34, 0, []), (69, 0, 1, 0, 0, 0, []), (70, 48, 0, 0, 0, 0, []), (71, 4, 1, 0, 0, 0, []), (72, 25, 6, 0, 4, 0, [(0, 7, 12), (0, 2, 10)]), (75, 40, 1, 1, 9, 0, []), (78, 0, 1, 0, 0, 1, []), (79, 48, 0, 0, 0, 0, [])]
set_option maxRecDepth 20000 in
theorem qX6_readSetf : f_all yX6_readSet YX6_readSet pX6_readSetf :=
  ⟨f_aload_n (n := 0) (e_dx DX6_readSet_0 0 rfl) rfl,
  f_aload_n (n := 0) (e_dx DX6_readSet_0 1 rfl) rfl,
  f_getA (e_dx DX6_readSet_0 2 rfl) fX6_45 rfl (by decide) (Nat.le_of_ble_eq_true rfl) rfl (by decide),
  f_getf (e_dx DX6_readSet_0 3 rfl) fX6_49 rfl (by decide) (by decide) (by decide),
  f_sipush (e_dx DX6_readSet_0 4 rfl) ⟨by decide, by decide⟩,
  f_isub (e_dx DX6_readSet_0 5 rfl),
  f_putn (e_dx DX6_readSet_0 6 rfl) fX6_21 (fun q hq => by cases hq; rfl) rfl (Or.inl rfl) (by decide),
  f_aload_n (n := 0) (e_dx DX6_readSet_0 7 rfl) rfl,
  f_getA (e_dx DX6_readSet_0 8 rfl) fX6_45 rfl (by decide) (Nat.le_of_ble_eq_true rfl) rfl (by decide),
  f_getf (e_dx DX6_readSet_0 9 rfl) fX6_49 rfl (by decide) (by decide) (by decide),
  f_sipush (e_dx DX6_readSet_0 10 rfl) ⟨by decide, by decide⟩,
  f_icmp_lt (e_dx DX6_readSet_0 11 rfl) rfl,
  f_aload_n (n := 0) (e_dx DX6_readSet_0 12 rfl) rfl,
  f_getA (e_dx DX6_readSet_0 13 rfl) fX6_45 rfl (by decide) (Nat.le_of_ble_eq_true rfl) rfl (by decide),
  f_getf (e_dx DX6_readSet_0 14 rfl) fX6_49 rfl (by decide) (by decide) (by decide),
  f_sipush (e_dx DX6_readSet_0 15 rfl) ⟨by decide, by decide⟩,
  f_icmp_le (e_dx DX6_readSet_0 16 rfl) rfl,
  trivial,
  f_aload_n (n := 0) (e_dx DX6_readSet_0 17 rfl) rfl,
  f_getA (e_dx DX6_readSet_0 18 rfl) fX6_45 rfl (by decide) (Nat.le_of_ble_eq_true rfl) rfl (by decide),
  f_iconst (e_dx DX6_readSet_0 19 rfl) ⟨by decide, by decide⟩,
  x_callV (e_dx DX6_readSet_0 20 rfl) mwX7_note vwX7_note cX6_77 rfl,
  trivial,
  f_aload_n (n := 0) (e_dx DX6_readSet_0 21 rfl) rfl,
  f_getA (e_dx DX6_readSet_0 22 rfl) fX6_45 rfl (by decide) (Nat.le_of_ble_eq_true rfl) rfl (by decide),
  x_callV (e_dx DX6_readSet_0 23 rfl) mwX7_take vwX7_take cX6_54 rfl,
  f_aload_n (n := 0) (e_dx DX6_readSet_0 24 rfl) rfl,
  f_getA (e_dx DX6_readSet_0 25 rfl) fX6_45 rfl (by decide) (Nat.le_of_ble_eq_true rfl) rfl (by decide),
  f_getf (e_dx DX6_readSet_0 26 rfl) fX6_49 rfl (by decide) (by decide) (by decide),
  f_sipush (e_dx DX6_readSet_0 27 rfl) ⟨by decide, by decide⟩,
  f_icmp_eq (e_dx DX6_readSet_0 28 rfl) rfl,
  f_iconst (e_dx DX6_readSet_0 29 rfl) ⟨by decide, by decide⟩,
  ⟨(e_dx DX6_readSet_0 30 rfl), rfl⟩,
  f_aload_n (n := 0) (e_dx DX6_readSet_0 31 rfl) rfl,
  f_getA (e_dx DX6_readSet_0 32 rfl) fX6_45 rfl (by decide) (Nat.le_of_ble_eq_true rfl) rfl (by decide),
  x_callV (e_dx DX6_readSet_0 33 rfl) mwX7_take vwX7_take cX6_54 rfl,
  f_iconst (e_dx DX6_readSet_0 34 rfl) ⟨by decide, by decide⟩,
  ⟨(e_dx DX6_readSet_0 35 rfl), rfl⟩, trivial⟩
def lX6_readSet (c_X7_note : Int → e_M → (e_M → Prop) → Prop) (c_X7_take : e_M → (e_M → Prop) → Prop) : List (Nat × f_Wt) := [(0, f_wm [(20, 7, 12), (1, 0, 0)] (fun ar M R => c_X7_note (f_vi (f_nth ar 1)) M (fun M => R none M))), (1, f_wm [(20, 7, 12)] (fun ar M R => c_X7_take  M (fun M => R none M)))]
set_option maxRecDepth 20000 in
theorem BX6_readSet_41 {sh : Nat → Nat × Nat} {t : Nat} {rm : Nat × Nat × Nat} {cs : Nat × Nat} {R : f_Rt} {c_X7_note : Int → e_M → (e_M → Prop) → Prop} {c_X7_take : e_M → (e_M → Prop) → Prop} {k49 : e_M → Prop} {M : e_M} (C : f_Hy sh t yX6_readSet rm cs 5 (lX6_readSet c_X7_note c_X7_take) R) (h49 : ∀ (M : e_M), k49 M → f_E sh t YX6_readSet rm cs (f_Q sh t R) 49 [.inr (.inr (.inl (6, 11, 22)))] [] M) (h : VX6_readSet_41 c_X7_note c_X7_take k49 (fun r M => R (some (.inl r)) M) M) : f_E sh t YX6_readSet rm cs (f_Q sh t R) 41 [.inr (.inr (.inl (6, 11, 22)))] [] M :=
  f_go (KC := f_kc [(49, f_pl [(32, 6, 11)] [] (fun ls st M => k49 M))]) C qX6_readSetf (f_kc_cons (f_pl_ok rfl (fun ls st M h => h49  M h)) f_kc_nil) 40 18 h
set_option maxRecDepth 20000 in
theorem BX6_readSet_49 {sh : Nat → Nat × Nat} {t : Nat} {rm : Nat × Nat × Nat} {cs : Nat × Nat} {R : f_Rt} {c_X7_note : Int → e_M → (e_M → Prop) → Prop} {c_X7_take : e_M → (e_M → Prop) → Prop} {M : e_M} (C : f_Hy sh t yX6_readSet rm cs 5 (lX6_readSet c_X7_note c_X7_take) R) (h : VX6_readSet_49 c_X7_note c_X7_take (fun r M => R (some (.inl r)) M) M) : f_E sh t YX6_readSet rm cs (f_Q sh t R) 49 [.inr (.inr (.inl (6, 11, 22)))] [] M :=
  f_go (KC := f_kc []) C qX6_readSetf f_kc_nil 40 23 h
set_option maxRecDepth 20000 in
theorem BX6_readSet {sh : Nat → Nat × Nat} {t : Nat} {rm : Nat × Nat × Nat} {cs : Nat × Nat} {R : f_Rt} {c_X7_note : Int → e_M → (e_M → Prop) → Prop} {c_X7_take : e_M → (e_M → Prop) → Prop} {k41 : e_M → Prop} {k49 : e_M → Prop} {M : e_M} (C : f_Hy sh t yX6_readSet rm cs 5 (lX6_readSet c_X7_note c_X7_take) R) (h41 : ∀ (M : e_M), k41 M → f_E sh t YX6_readSet rm cs (f_Q sh t R) 41 [.inr (.inr (.inl (6, 11, 22)))] [] M) (h49 : ∀ (M : e_M), k49 M → f_E sh t YX6_readSet rm cs (f_Q sh t R) 49 [.inr (.inr (.inl (6, 11, 22)))] [] M) (h : VX6_readSet c_X7_note c_X7_take k41 k49 (fun r M => R (some (.inl r)) M) M) : f_E sh t YX6_readSet rm cs (f_Q sh t R) 0 [.inr (.inr (.inl (6, 11, 22)))] [] M :=
  f_go (KC := f_kc [(41, f_pl [(32, 6, 11)] [] (fun ls st M => k41 M)), (49, f_pl [(32, 6, 11)] [] (fun ls st M => k49 M))]) C qX6_readSetf (f_kc_cons (f_pl_ok rfl (fun ls st M h => h41  M h)) (f_kc_cons (f_pl_ok rfl (fun ls st M h => h49  M h)) f_kc_nil)) 40 0 h
def WX6_readSet_49 (Q : Int → e_M → Prop) (M : e_M) : Prop :=
  VX6_readSet_49 WX7_note WX7_take Q M
def WX6_readSet_41 (Q : Int → e_M → Prop) (M : e_M) : Prop :=
  VX6_readSet_41 WX7_note WX7_take (WX6_readSet_49 Q) Q M
def WX6_readSet (M : e_M) (Q : Int → e_M → Prop) : Prop :=
  VX6_readSet WX7_note WX7_take (WX6_readSet_41 Q) (WX6_readSet_49 Q) Q M
theorem PX6_readSet_49 {sh : Nat → Nat × Nat} {t : Nat} {rm : Nat × Nat × Nat} {cs : Nat × Nat} {R : f_Rt} {M : e_M} (C : f_Hy sh t yX6_readSet rm cs 5 (lX6_readSet WX7_note WX7_take) R) (h : WX6_readSet_49 (fun r M => R (some (.inl r)) M) M) : f_E sh t YX6_readSet rm cs (f_Q sh t R) 49 [.inr (.inr (.inl (6, 11, 22)))] [] M :=
  BX6_readSet_49 C h
theorem PX6_readSet_41 {sh : Nat → Nat × Nat} {t : Nat} {rm : Nat × Nat × Nat} {cs : Nat × Nat} {R : f_Rt} {M : e_M} (C : f_Hy sh t yX6_readSet rm cs 5 (lX6_readSet WX7_note WX7_take) R) (h : WX6_readSet_41 (fun r M => R (some (.inl r)) M) M) : f_E sh t YX6_readSet rm cs (f_Q sh t R) 41 [.inr (.inr (.inl (6, 11, 22)))] [] M :=
  BX6_readSet_41 C (fun M h => PX6_readSet_49 C h) h
theorem PX6_readSet {sh : Nat → Nat × Nat} {t : Nat} {rm : Nat × Nat × Nat} {cs : Nat × Nat} {R : f_Rt} {M : e_M} (C : f_Hy sh t yX6_readSet rm cs 5 (lX6_readSet WX7_note WX7_take) R) (h : WX6_readSet M (fun r M => R (some (.inl r)) M)) : f_E sh t YX6_readSet rm cs (f_Q sh t R) 0 [.inr (.inr (.inl (6, 11, 22)))] [] M :=
  BX6_readSet C (fun M h => PX6_readSet_41 C h) (fun M h => PX6_readSet_49 C h) h
def wX6_readSet : f_Wt := f_wm [(32, 6, 11)] (fun ar M R => WX6_readSet M (fun r M => R (some (.inl r)) M))
theorem TX6_readSet {sh : Nat → Nat × Nat} {t : Nat} : f_Mt sh t YX6_readSet 5 (wX6_readSet) :=
  f_Mt_of (k := 0) (Nat.le_of_ble_eq_true rfl) rfl rfl (fun ar M R rm cs h1 h2 h3 hX h => PX6_readSet ⟨Nat.le_of_ble_eq_true rfl, h1, h2, h3, ⟨(f_Mt.up (Nat.le_of_ble_eq_true rfl) TX7_note), (f_Mt.up (Nat.le_of_ble_eq_true rfl) TX7_take), trivial⟩, hX⟩ h)
def VX7_takeNumber (c_X7_expect : Int → e_M → (e_M → Prop) → Prop) (Q : Int → e_M → Prop) (M : e_M) : Prop :=
  ((0 ≤ (M 10 5) ∧ (M 10 5) < 641) ∧ (c_X7_expect 3 M (fun M1 => (Q (e_w32 (M 14 ((M 10 5).toNat))) M1))))
def yX7_takeNumber (i : Nat) : e_Y := x_get YX7_takeNumber [YX7_expect] i
def pX7_takeNumberf : List x_I := [(0, 4, 1, 0, 0, 0, []), (1, 25, 7, 3, 4, 0, [(0, 23, 641), (0, 1, 4)]), (4, 4, 1, 0, 0, 0, []), (5, 25, 7, 5, 0, 0, []), (8, 27, 0, 1, 0, 0, []), (9, 15, 0, 0, 0, 0, []), (10, 5, 1, 1, 0, 0, []), (11, 4, 1, 0, 0, 0, []), (12, 0, 1, 0, 0, 3, []), (13, 40, 0, 2, 9, 0, []), (16, 2, 1, 1, 0, 0, []), (17, 41, 0, 0, 0, 0, [])]
set_option maxRecDepth 20000 in
theorem qX7_takeNumberf : f_all yX7_takeNumber YX7_takeNumber pX7_takeNumberf :=
  ⟨f_aload_n (n := 0) (e_dx DX7_takeNumber_0 0 rfl) rfl,
  f_getA (e_dx DX7_takeNumber_0 1 rfl) fX7_22 rfl (by decide) (Nat.le_of_ble_eq_true rfl) rfl (by decide),
  f_aload_n (n := 0) (e_dx DX7_takeNumber_0 2 rfl) rfl,
  f_getf (e_dx DX7_takeNumber_0 3 rfl) fX7_29 rfl (by decide) (by decide) (by decide),
  f_laload (e_dx DX7_takeNumber_0 4 rfl),
  f_g15 (e_dx DX7_takeNumber_0 5 rfl),
  f_istore_n (n := 1) (e_dx DX7_takeNumber_0 6 rfl) rfl (by decide),
  f_aload_n (n := 0) (e_dx DX7_takeNumber_0 7 rfl) rfl,
  f_iconst (e_dx DX7_takeNumber_0 8 rfl) ⟨by decide, by decide⟩,
  x_callV (e_dx DX7_takeNumber_0 9 rfl) mwX7_expect vwX7_expect cX7_128 rfl,
  f_iload_n (n := 1) (e_dx DX7_takeNumber_0 10 rfl) rfl,
  ⟨(e_dx DX7_takeNumber_0 11 rfl), rfl⟩, trivial⟩
def lX7_takeNumber (c_X7_expect : Int → e_M → (e_M → Prop) → Prop) : List (Nat × f_Wt) := [(0, f_wm [(20, 7, 12), (1, 0, 0)] (fun ar M R => c_X7_expect (f_vi (f_nth ar 1)) M (fun M => R none M)))]
set_option maxRecDepth 20000 in
theorem BX7_takeNumber {sh : Nat → Nat × Nat} {t : Nat} {rm : Nat × Nat × Nat} {cs : Nat × Nat} {R : f_Rt} {c_X7_expect : Int → e_M → (e_M → Prop) → Prop} {M : e_M} (C : f_Hy sh t yX7_takeNumber rm cs 6 (lX7_takeNumber c_X7_expect) R) (h : VX7_takeNumber c_X7_expect (fun r M => R (some (.inl r)) M) M) : f_E sh t YX7_takeNumber rm cs (f_Q sh t R) 0 [.inr (.inr (.inl (7, 12, 10))), .inr (.inr (.inr ()))] [] M :=
  f_go (KC := f_kc []) C qX7_takeNumberf f_kc_nil 14 0 h
def WX7_takeNumber (M : e_M) (Q : Int → e_M → Prop) : Prop :=
  VX7_takeNumber WX7_expect Q M
theorem PX7_takeNumber {sh : Nat → Nat × Nat} {t : Nat} {rm : Nat × Nat × Nat} {cs : Nat × Nat} {R : f_Rt} {M : e_M} (C : f_Hy sh t yX7_takeNumber rm cs 6 (lX7_takeNumber WX7_expect) R) (h : WX7_takeNumber M (fun r M => R (some (.inl r)) M)) : f_E sh t YX7_takeNumber rm cs (f_Q sh t R) 0 [.inr (.inr (.inl (7, 12, 10))), .inr (.inr (.inr ()))] [] M :=
  BX7_takeNumber C h
def wX7_takeNumber : f_Wt := f_wm [(20, 7, 12)] (fun ar M R => WX7_takeNumber M (fun r M => R (some (.inl r)) M))
theorem TX7_takeNumber {sh : Nat → Nat × Nat} {t : Nat} : f_Mt sh t YX7_takeNumber 6 (wX7_takeNumber) :=
  f_Mt_of (k := 1) (Nat.le_of_ble_eq_true rfl) rfl rfl (fun ar M R rm cs h1 h2 h3 hX h => PX7_takeNumber ⟨Nat.le_of_ble_eq_true rfl, h1, h2, h3, ⟨(f_Mt.up (Nat.le_of_ble_eq_true rfl) TX7_expect), trivial⟩, hX⟩ h)
def VX6_readPoint (c_X7_take : e_M → (e_M → Prop) → Prop) (c_X7_expect : Int → e_M → (e_M → Prop) → Prop) (c_X7_takeNumber : e_M → (Int → e_M → Prop) → Prop) (c_X6_step : Int → Int → e_M → (e_M → Prop) → Prop) (Q : e_M → Prop) (M : e_M) : Prop :=
  (c_X7_take M (fun M1 => (c_X7_expect 40 M1 (fun M2 => (c_X7_takeNumber M2 (fun r3 M4 => (c_X7_expect 44 M4 (fun M5 => (c_X7_takeNumber M5 (fun r6 M7 => (c_X6_step 260 (e_w64 ((e_w64 (r3 * 1000000)) + r6)) M7 (fun M8 => (c_X7_expect 41 M8 (fun M9 => (Q M9)))))))))))))))
def yX6_readPoint (i : Nat) : e_Y := x_get YX6_readPoint [YX7_take, YX7_expect, YX7_takeNumber, YX6_step] i
def pX6_readPointf : List x_I := [(0, 4, 1, 0, 0, 0, []), (1, 25, 6, 0, 4, 0, [(0, 7, 12), (0, 2, 10)]), (4, 40, 0, 1, 9, 0, []), (7, 4, 1, 0, 0, 0, []), (8, 25, 6, 0, 4, 0, [(0, 7, 12), (0, 2, 10)]), (11, 0, 2, 0, 0, 40, []), (13, 40, 1, 2, 9, 0, []), (16, 4, 1, 0, 0, 0, []), (17, 25, 6, 0, 4, 0, [(0, 7, 12), (0, 2, 10)]), (20, 40, 2, 1, 9, 0, []), (23, 14, 0, 0, 0, 0, []), (24, 6, 1, 1, 0, 0, []), (25, 4, 1, 0, 0, 0, []), (26, 25, 6, 0, 4, 0, [(0, 7, 12), (0, 2, 10)]), (29, 0, 2, 0, 0, 44, []), (31, 40, 1, 2, 9, 0, []), (34, 4, 1, 0, 0, 0, []), (35, 0, 3, 0, 0, 260, []), (38, 3, 1, 1, 0, 0, []), (39, 1, 3, 0, 0, 1000000, []), (42, 10, 0, 2, 0, 0, []), (43, 4, 1, 0, 0, 0, []), (44, 25, 6, 0, 4, 0, [(0, 7, 12), (0, 2, 10)]), (47, 40, 2, 1, 9, 0, []), (50, 14, 0, 0, 0, 0, []), (51, 10, 0, 0, 0, 0, []), (52, 40, 3, 3, 8, 0, []), (55, 4, 1, 0, 0, 0, []), (56, 25, 6, 0, 4, 0, [(0, 7, 12), (0, 2, 10)]), (59, 0, 2, 0, 0, 41, []), (61, 40, 1, 2, 9, 0, []), (64, 44, 0, 0, 0, 0, [])]
set_option maxRecDepth 20000 in
theorem qX6_readPointf : f_all yX6_readPoint YX6_readPoint pX6_readPointf :=
  ⟨f_aload_n (n := 0) (e_dx DX6_readPoint_0 0 rfl) rfl,
  f_getA (e_dx DX6_readPoint_0 1 rfl) fX6_45 rfl (by decide) (Nat.le_of_ble_eq_true rfl) rfl (by decide),
  x_callV (e_dx DX6_readPoint_0 2 rfl) mwX7_take vwX7_take cX6_54 rfl,
  f_aload_n (n := 0) (e_dx DX6_readPoint_0 3 rfl) rfl,
  f_getA (e_dx DX6_readPoint_0 4 rfl) fX6_45 rfl (by decide) (Nat.le_of_ble_eq_true rfl) rfl (by decide),
  f_bipush (e_dx DX6_readPoint_0 5 rfl) ⟨by decide, by decide⟩,
  x_callV (e_dx DX6_readPoint_0 6 rfl) mwX7_expect vwX7_expect cX6_84 rfl,
  f_aload_n (n := 0) (e_dx DX6_readPoint_0 7 rfl) rfl,
  f_getA (e_dx DX6_readPoint_0 8 rfl) fX6_45 rfl (by decide) (Nat.le_of_ble_eq_true rfl) rfl (by decide),
  x_callV (e_dx DX6_readPoint_0 9 rfl) mwX7_takeNumber vwX7_takeNumber cX6_108 rfl,
  f_g14 (e_dx DX6_readPoint_0 10 rfl),
  f_lstore_n (n := 1) (e_dx DX6_readPoint_0 11 rfl) rfl (by decide),
  f_aload_n (n := 0) (e_dx DX6_readPoint_0 12 rfl) rfl,
  f_getA (e_dx DX6_readPoint_0 13 rfl) fX6_45 rfl (by decide) (Nat.le_of_ble_eq_true rfl) rfl (by decide),
  f_bipush (e_dx DX6_readPoint_0 14 rfl) ⟨by decide, by decide⟩,
  x_callV (e_dx DX6_readPoint_0 15 rfl) mwX7_expect vwX7_expect cX6_84 rfl,
  f_aload_n (n := 0) (e_dx DX6_readPoint_0 16 rfl) rfl,
  f_sipush (e_dx DX6_readPoint_0 17 rfl) ⟨by decide, by decide⟩,
  f_lload_n (n := 1) (e_dx DX6_readPoint_0 18 rfl) rfl,
  f_ldc2 (e_dx DX6_readPoint_0 19 rfl) hX6_111 rfl ⟨by decide, by decide⟩,
  f_lmul (e_dx DX6_readPoint_0 20 rfl),
  f_aload_n (n := 0) (e_dx DX6_readPoint_0 21 rfl) rfl,
  f_getA (e_dx DX6_readPoint_0 22 rfl) fX6_45 rfl (by decide) (Nat.le_of_ble_eq_true rfl) rfl (by decide),
  x_callV (e_dx DX6_readPoint_0 23 rfl) mwX7_takeNumber vwX7_takeNumber cX6_108 rfl,
  f_g14 (e_dx DX6_readPoint_0 24 rfl),
  f_ladd (e_dx DX6_readPoint_0 25 rfl),
  x_callV (e_dx DX6_readPoint_0 26 rfl) mwX6_step vwX6_step cX6_94 rfl,
  f_aload_n (n := 0) (e_dx DX6_readPoint_0 27 rfl) rfl,
  f_getA (e_dx DX6_readPoint_0 28 rfl) fX6_45 rfl (by decide) (Nat.le_of_ble_eq_true rfl) rfl (by decide),
  f_bipush (e_dx DX6_readPoint_0 29 rfl) ⟨by decide, by decide⟩,
  x_callV (e_dx DX6_readPoint_0 30 rfl) mwX7_expect vwX7_expect cX6_84 rfl,
  ⟨(e_dx DX6_readPoint_0 31 rfl), rfl⟩, trivial⟩
def lX6_readPoint (c_X7_take : e_M → (e_M → Prop) → Prop) (c_X7_expect : Int → e_M → (e_M → Prop) → Prop) (c_X7_takeNumber : e_M → (Int → e_M → Prop) → Prop) (c_X6_step : Int → Int → e_M → (e_M → Prop) → Prop) : List (Nat × f_Wt) := [(0, f_wm [(20, 7, 12)] (fun ar M R => c_X7_take  M (fun M => R none M))), (1, f_wm [(20, 7, 12), (1, 0, 0)] (fun ar M R => c_X7_expect (f_vi (f_nth ar 1)) M (fun M => R none M))), (2, f_wm [(20, 7, 12)] (fun ar M R => c_X7_takeNumber  M (fun r M => R (some (.inl r)) M))), (3, f_wm [(32, 6, 11), (1, 0, 0), (2, 0, 0)] (fun ar M R => c_X6_step (f_vi (f_nth ar 1)) (f_vi (f_nth ar 2)) M (fun M => R none M)))]
set_option maxRecDepth 20000 in
theorem BX6_readPoint {sh : Nat → Nat × Nat} {t : Nat} {rm : Nat × Nat × Nat} {cs : Nat × Nat} {R : f_Rt} {c_X7_take : e_M → (e_M → Prop) → Prop} {c_X7_expect : Int → e_M → (e_M → Prop) → Prop} {c_X7_takeNumber : e_M → (Int → e_M → Prop) → Prop} {c_X6_step : Int → Int → e_M → (e_M → Prop) → Prop} {M : e_M} (C : f_Hy sh t yX6_readPoint rm cs 7 (lX6_readPoint c_X7_take c_X7_expect c_X7_takeNumber c_X6_step) R) (h : VX6_readPoint c_X7_take c_X7_expect c_X7_takeNumber c_X6_step (fun M => R none M) M) : f_E sh t YX6_readPoint rm cs (f_Q sh t R) 0 [.inr (.inr (.inl (6, 11, 22))), .inr (.inr (.inr ())), .inr (.inr (.inr ()))] [] M :=
  f_go (KC := f_kc []) C qX6_readPointf f_kc_nil 34 0 h
def WX6_readPoint (M : e_M) (Q : e_M → Prop) : Prop :=
  VX6_readPoint WX7_take WX7_expect WX7_takeNumber WX6_step Q M
theorem PX6_readPoint {sh : Nat → Nat × Nat} {t : Nat} {rm : Nat × Nat × Nat} {cs : Nat × Nat} {R : f_Rt} {M : e_M} (C : f_Hy sh t yX6_readPoint rm cs 7 (lX6_readPoint WX7_take WX7_expect WX7_takeNumber WX6_step) R) (h : WX6_readPoint M (fun M => R none M)) : f_E sh t YX6_readPoint rm cs (f_Q sh t R) 0 [.inr (.inr (.inl (6, 11, 22))), .inr (.inr (.inr ())), .inr (.inr (.inr ()))] [] M :=
  BX6_readPoint C h
def wX6_readPoint : f_Wt := f_wm [(32, 6, 11)] (fun ar M R => WX6_readPoint M (fun M => R none M))
theorem TX6_readPoint {sh : Nat → Nat × Nat} {t : Nat} : f_Mt sh t YX6_readPoint 7 (wX6_readPoint) :=
  f_Mt_of (k := 2) (Nat.le_of_ble_eq_true rfl) rfl rfl (fun ar M R rm cs h1 h2 h3 hX h => PX6_readPoint ⟨Nat.le_of_ble_eq_true rfl, h1, h2, h3, ⟨(f_Mt.up (Nat.le_of_ble_eq_true rfl) TX7_take), (f_Mt.up (Nat.le_of_ble_eq_true rfl) TX7_expect), (f_Mt.up (Nat.le_of_ble_eq_true rfl) TX7_takeNumber), (f_Mt.up (Nat.le_of_ble_eq_true rfl) TX6_step), trivial⟩, hX⟩ h)
def VX6_isComparison_38 (Q : Int → Prop) (M : e_M) : Prop :=
  (Q 1)
def VX6_isComparison (k38 : Prop) (Q : Int → Prop) (x0 : Int) (M : e_M) : Prop :=
  ((x0 = 61 → (k38)) ∧ (¬ x0 = 61 → ((x0 = 33 → (k38)) ∧ (¬ x0 = 33 → ((x0 = 60 → (k38)) ∧ (¬ x0 = 60 → ((x0 = 128 → (k38)) ∧ (¬ x0 = 128 → ((x0 = 62 → (k38)) ∧ (¬ x0 = 62 → ((¬ x0 = 129 → (Q 0)) ∧ (x0 = 129 → (k38)))))))))))))
def yX6_isComparison (i : Nat) : e_Y := x_get YX6_isComparison [] i
def pX6_isComparisonf : List x_I := [(0, 2, 1, 0, 0, 0, []), (1, 0, 2, 0, 0, 61, []), (3, 18, 38, 0, 19, 0, []), (6, 2, 1, 0, 0, 0, []), (7, 0, 2, 0, 0, 33, []), (9, 18, 38, 0, 19, 0, []), (12, 2, 1, 0, 0, 0, []), (13, 0, 2, 0, 0, 60, []), (15, 18, 38, 0, 19, 0, []), (18, 2, 1, 0, 0, 0, []), (19, 0, 3, 0, 0, 128, []), (22, 18, 38, 0, 19, 0, []), (25, 2, 1, 0, 0, 0, []), (26, 0, 2, 0, 0, 62, []), (28, 18, 38, 0, 19, 0, []), (31, 2, 1, 0, 0, 0, []), (32, 0, 3, 0, 0, 129, []), (35, 18, 42, 1, 22, 0, []), (38, 49, 0, 0, 0, 0, []), (38, 0, 1, 0, 0, 1, []), (39, 19, 43, 0, 23, 0, []), (42, 0, 1, 0, 0, 0, []), (43, 48, 0, 0, 0, 0, [])]
set_option maxRecDepth 20000 in
theorem qX6_isComparisonf : f_all yX6_isComparison YX6_isComparison pX6_isComparisonf :=
  ⟨f_iload_n (n := 0) (e_dx DX6_isComparison_0 0 rfl) rfl,
  f_bipush (e_dx DX6_isComparison_0 1 rfl) ⟨by decide, by decide⟩,
  f_icmp_eq (e_dx DX6_isComparison_0 2 rfl) rfl,
  f_iload_n (n := 0) (e_dx DX6_isComparison_0 3 rfl) rfl,
  f_bipush (e_dx DX6_isComparison_0 4 rfl) ⟨by decide, by decide⟩,
  f_icmp_eq (e_dx DX6_isComparison_0 5 rfl) rfl,
  f_iload_n (n := 0) (e_dx DX6_isComparison_0 6 rfl) rfl,
  f_bipush (e_dx DX6_isComparison_0 7 rfl) ⟨by decide, by decide⟩,
  f_icmp_eq (e_dx DX6_isComparison_0 8 rfl) rfl,
  f_iload_n (n := 0) (e_dx DX6_isComparison_0 9 rfl) rfl,
  f_sipush (e_dx DX6_isComparison_0 10 rfl) ⟨by decide, by decide⟩,
  f_icmp_eq (e_dx DX6_isComparison_0 11 rfl) rfl,
  f_iload_n (n := 0) (e_dx DX6_isComparison_0 12 rfl) rfl,
  f_bipush (e_dx DX6_isComparison_0 13 rfl) ⟨by decide, by decide⟩,
  f_icmp_eq (e_dx DX6_isComparison_0 14 rfl) rfl,
  f_iload_n (n := 0) (e_dx DX6_isComparison_0 15 rfl) rfl,
  f_sipush (e_dx DX6_isComparison_0 16 rfl) ⟨by decide, by decide⟩,
  f_icmp_ne (e_dx DX6_isComparison_0 17 rfl) rfl,
  trivial,
  f_iconst (e_dx DX6_isComparison_0 18 rfl) ⟨by decide, by decide⟩,
  f_g19 (e_dx DX6_isComparison_0 19 rfl) rfl,
  f_iconst (e_dx DX6_isComparison_0 20 rfl) ⟨by decide, by decide⟩,
  ⟨(e_dx DX6_isComparison_0 21 rfl), rfl⟩, trivial⟩
def lX6_isComparison : List (Nat × f_Wt) := []
set_option maxRecDepth 20000 in
theorem BX6_isComparison_38 {sh : Nat → Nat × Nat} {t : Nat} {rm : Nat × Nat × Nat} {cs : Nat × Nat} {R : f_Rt} {M : e_M} (C : f_Hy sh t yX6_isComparison rm cs 4 (lX6_isComparison) R) (h : VX6_isComparison_38 (fun r => R (some (.inl r)) M) M) : f_E sh t YX6_isComparison rm cs (f_Q sh t R) 38 [.inr (.inr (.inr ()))] [] M :=
  f_go (KC := f_kc []) C qX6_isComparisonf f_kc_nil 25 19 h
set_option maxRecDepth 20000 in
theorem BX6_isComparison {sh : Nat → Nat × Nat} {t : Nat} {rm : Nat × Nat × Nat} {cs : Nat × Nat} {R : f_Rt} {k38 : Prop} {x0 : Int} {M : e_M} (C : f_Hy sh t yX6_isComparison rm cs 4 (lX6_isComparison) R) (h38 : k38 → f_E sh t YX6_isComparison rm cs (f_Q sh t R) 38 [.inr (.inr (.inr ()))] [] M) (h : VX6_isComparison k38 (fun r => R (some (.inl r)) M) x0 M) : f_E sh t YX6_isComparison rm cs (f_Q sh t R) 0 [.inl x0] [] M := by
  rw [f_kk0 M k38] at h
  exact f_go (KC := f_kc [(38, f_pl [(0, 0, 0)] [] (fun ls st M2 => M2 = M ∧ (k38)))]) C qX6_isComparisonf (f_kc_cons (f_pl_ok rfl (fun ls st M2 ⟨e, hh⟩ => by subst e; exact h38  hh)) f_kc_nil) 25 0 h
def WX6_isComparison_38 (M : e_M) (Q : Int → Prop) : Prop :=
  VX6_isComparison_38 Q M
def WX6_isComparison (x0 : Int) (M : e_M) (Q : Int → Prop) : Prop :=
  VX6_isComparison (WX6_isComparison_38 M Q) Q x0 M
theorem PX6_isComparison_38 {sh : Nat → Nat × Nat} {t : Nat} {rm : Nat × Nat × Nat} {cs : Nat × Nat} {R : f_Rt} {M : e_M} (C : f_Hy sh t yX6_isComparison rm cs 4 (lX6_isComparison) R) (h : WX6_isComparison_38 M (fun r => R (some (.inl r)) M)) : f_E sh t YX6_isComparison rm cs (f_Q sh t R) 38 [.inr (.inr (.inr ()))] [] M :=
  BX6_isComparison_38 C h
theorem PX6_isComparison {sh : Nat → Nat × Nat} {t : Nat} {rm : Nat × Nat × Nat} {cs : Nat × Nat} {R : f_Rt} {x0 : Int} {M : e_M} (C : f_Hy sh t yX6_isComparison rm cs 4 (lX6_isComparison) R) (h : WX6_isComparison x0 M (fun r => R (some (.inl r)) M)) : f_E sh t YX6_isComparison rm cs (f_Q sh t R) 0 [.inl x0] [] M :=
  BX6_isComparison C (fun h => PX6_isComparison_38 C h) h
def wX6_isComparison : f_Wt := f_wm [(1, 0, 0)] (fun ar M R => WX6_isComparison (f_vi (f_nth ar 0)) M (fun r => R (some (.inl r)) M))
theorem TX6_isComparison {sh : Nat → Nat × Nat} {t : Nat} : f_Mt sh t YX6_isComparison 4 (wX6_isComparison) :=
  f_Mt_of (k := 0) (Nat.le_of_ble_eq_true rfl) rfl rfl (fun ar M R rm cs h1 h2 h3 hX h => PX6_isComparison ⟨Nat.le_of_ble_eq_true rfl, h1, h2, h3, trivial, hX⟩ h)
def VX6_readOne_114 (c_X6_opens : e_M → (Int → e_M → Prop) → Prop) (c_X6_readOne : e_M → (e_M → Prop) → Prop) (c_X6_step : Int → Int → e_M → (e_M → Prop) → Prop) (c_X6_readCond : e_M → (e_M → Prop) → Prop) (c_X7_expect : Int → e_M → (e_M → Prop) → Prop) (c_X7_take : e_M → (e_M → Prop) → Prop) (c_X7_takeName : e_M → (Int → e_M → Prop) → Prop) (c_X6_readPoint : e_M → (e_M → Prop) → Prop) (c_X6_readValue : e_M → (e_M → Prop) → Prop) (c_X6_isComparison : Int → e_M → (Int → Prop) → Prop) (c_X7_note : Int → e_M → (e_M → Prop) → Prop) (Q : e_M → Prop) (x1 : Int) (M : e_M) : Prop :=
  (c_X7_take M (fun M1 => (c_X7_takeName M1 (fun r2 M3 => (c_X6_step x1 r2 M3 (fun M4 => (Q M4)))))))
def VX6_readOne_202 (c_X6_opens : e_M → (Int → e_M → Prop) → Prop) (c_X6_readOne : e_M → (e_M → Prop) → Prop) (c_X6_step : Int → Int → e_M → (e_M → Prop) → Prop) (c_X6_readCond : e_M → (e_M → Prop) → Prop) (c_X7_expect : Int → e_M → (e_M → Prop) → Prop) (c_X7_take : e_M → (e_M → Prop) → Prop) (c_X7_takeName : e_M → (Int → e_M → Prop) → Prop) (c_X6_readPoint : e_M → (e_M → Prop) → Prop) (c_X6_readValue : e_M → (e_M → Prop) → Prop) (c_X6_isComparison : Int → e_M → (Int → Prop) → Prop) (c_X7_note : Int → e_M → (e_M → Prop) → Prop) (Q : e_M → Prop) (x2 : Int) (M : e_M) : Prop :=
  (c_X7_take M (fun M1 => (c_X6_readValue M1 (fun M2 => (c_X6_step x2 0 M2 (fun M3 => (Q M3)))))))
def VX6_readOne (c_X6_opens : e_M → (Int → e_M → Prop) → Prop) (c_X6_readOne : e_M → (e_M → Prop) → Prop) (c_X6_step : Int → Int → e_M → (e_M → Prop) → Prop) (c_X6_readCond : e_M → (e_M → Prop) → Prop) (c_X7_expect : Int → e_M → (e_M → Prop) → Prop) (c_X7_take : e_M → (e_M → Prop) → Prop) (c_X7_takeName : e_M → (Int → e_M → Prop) → Prop) (c_X6_readPoint : e_M → (e_M → Prop) → Prop) (c_X6_readValue : e_M → (e_M → Prop) → Prop) (c_X6_isComparison : Int → e_M → (Int → Prop) → Prop) (c_X7_note : Int → e_M → (e_M → Prop) → Prop) (k114 : Int → e_M → Prop) (k202 : Int → e_M → Prop) (Q : e_M → Prop) (M : e_M) : Prop :=
  ((¬ (M 10 6) = 256 → ((¬ (M 10 6) = 123 → (((M 10 6) = 257 → (k114 (M 10 6) M)) ∧ (¬ (M 10 6) = 257 → (((M 10 6) = 224 → (k114 (M 10 6) M)) ∧ (¬ (M 10 6) = 224 → (((M 10 6) = 258 → (k114 (M 10 6) M)) ∧ (¬ (M 10 6) = 258 → ((¬ (M 10 6) = 259 → ((¬ (M 10 6) = 260 → ((¬ (M 10 6) = 261 → (c_X6_readValue M (fun M1 => (c_X6_isComparison (M1 10 6) M1 (fun r2 => ((¬ r2 = 0 → (k202 (M1 10 6) M1)) ∧ (r2 = 0 → (c_X7_note 1 M1 (fun M3 => (k202 (M1 10 6) M3)))))))))) ∧ ((M 10 6) = 261 → (c_X7_take M (fun M4 => (c_X6_step 261 0 M4 (fun M5 => (Q M5)))))))) ∧ ((M 10 6) = 260 → (c_X6_readPoint M (fun M6 => (Q M6)))))) ∧ ((M 10 6) = 259 → (k114 (M 10 6) M)))))))))) ∧ ((M 10 6) = 123 → (c_X6_opens M (fun r7 M8 => ((r7 = 0 → (Q M8)) ∧ (¬ r7 = 0 → (c_X6_readCond M8 (fun M9 => (∀ M10 : e_M, M10 = e_up M9 22 10 (e_w32 ((M9 22 10) - 1)) → (c_X7_expect 125 M10 (fun M11 => (Q M11))))))))))))) ∧ ((M 10 6) = 256 → (c_X6_opens M (fun r12 M13 => ((r12 = 0 → (Q M13)) ∧ (¬ r12 = 0 → (c_X6_readOne M13 (fun M14 => (∀ M15 : e_M, M15 = e_up M14 22 10 (e_w32 ((M14 22 10) - 1)) → (c_X6_step 256 0 M15 (fun M16 => (Q M16))))))))))))
def yX6_readOne (i : Nat) : e_Y := x_get YX6_readOne [YX6_opens, YX6_readOne, YX6_step, YX6_readCond, YX7_expect, YX7_take, YX7_takeName, YX6_readPoint, YX6_readValue, YX6_isComparison, YX7_note] i
def pX6_readOnef : List x_I := [(0, 4, 1, 0, 0, 0, []), (1, 25, 6, 0, 4, 0, [(0, 7, 12), (0, 2, 10)]), (4, 25, 7, 6, 0, 0, []), (7, 5, 1, 1, 0, 0, []), (8, 2, 1, 1, 0, 0, []), (9, 0, 3, 0, 0, 256, []), (12, 18, 47, 1, 24, 0, []), (15, 4, 1, 0, 0, 0, []), (16, 40, 0, 1, 8, 0, []), (19, 17, 219, 0, 106, 0, []), (22, 4, 1, 0, 0, 0, []), (23, 40, 1, 1, 8, 0, []), (26, 4, 1, 0, 0, 0, []), (27, 20, 0, 0, 0, 0, []), (28, 25, 6, 10, 0, 0, []), (31, 0, 1, 0, 0, 1, []), (32, 9, 0, 1, 0, 0, []), (33, 26, 6, 10, 0, 0, []), (36, 4, 1, 0, 0, 0, []), (37, 0, 3, 0, 0, 256, []), (40, 1, 1, 0, 0, 0, []), (41, 40, 2, 3, 8, 0, []), (44, 19, 219, 0, 106, 0, []), (47, 2, 1, 1, 0, 0, []), (48, 0, 2, 0, 0, 123, []), (50, 18, 86, 1, 43, 0, []), (53, 4, 1, 0, 0, 0, []), (54, 40, 0, 1, 8, 0, []), (57, 17, 219, 0, 106, 0, []), (60, 4, 1, 0, 0, 0, []), (61, 40, 3, 1, 8, 0, []), (64, 4, 1, 0, 0, 0, []), (65, 20, 0, 0, 0, 0, []), (66, 25, 6, 10, 0, 0, []), (69, 0, 1, 0, 0, 1, []), (70, 9, 0, 1, 0, 0, []), (71, 26, 6, 10, 0, 0, []), (74, 4, 1, 0, 0, 0, []), (75, 25, 6, 0, 4, 0, [(0, 7, 12), (0, 2, 10)]), (78, 0, 2, 0, 0, 125, []), (80, 40, 4, 2, 9, 0, []), (83, 19, 219, 0, 106, 0, []), (86, 2, 1, 1, 0, 0, []), (87, 0, 3, 0, 0, 257, []), (90, 18, 114, 0, 55, 0, []), (93, 2, 1, 1, 0, 0, []), (94, 0, 3, 0, 0, 224, []), (97, 18, 114, 0, 55, 0, []), (100, 2, 1, 1, 0, 0, []), (101, 0, 3, 0, 0, 258, []), (104, 18, 114, 0, 55, 0, []), (107, 2, 1, 1, 0, 0, []), (108, 0, 3, 0, 0, 259, []), (111, 18, 136, 1, 66, 0, []), (114, 49, 0, 0, 0, 0, []), (114, 4, 1, 0, 0, 0, []), (115, 25, 6, 0, 4, 0, [(0, 7, 12), (0, 2, 10)]), (118, 40, 5, 1, 9, 0, []), (121, 4, 1, 0, 0, 0, []), (122, 2, 1, 1, 0, 0, []), (123, 4, 1, 0, 0, 0, []), (124, 25, 6, 0, 4, 0, [(0, 7, 12), (0, 2, 10)]), (127, 40, 6, 1, 9, 0, []), (130, 40, 2, 3, 8, 0, []), (133, 19, 219, 0, 106, 0, []), (136, 2, 1, 1, 0, 0, []), (137, 0, 3, 0, 0, 260, []), (140, 18, 150, 1, 72, 0, []), (143, 4, 1, 0, 0, 0, []), (144, 40, 7, 1, 8, 0, []), (147, 19, 219, 0, 106, 0, []), (150, 2, 1, 1, 0, 0, []), (151, 0, 3, 0, 0, 261, []), (154, 18, 175, 1, 83, 0, []), (157, 4, 1, 0, 0, 0, []), (158, 25, 6, 0, 4, 0, [(0, 7, 12), (0, 2, 10)]), (161, 40, 5, 1, 9, 0, []), (164, 4, 1, 0, 0, 0, []), (165, 0, 3, 0, 0, 261, []), (168, 1, 1, 0, 0, 0, []), (169, 40, 2, 3, 8, 0, []), (172, 19, 219, 0, 106, 0, []), (175, 4, 1, 0, 0, 0, []), (176, 40, 8, 1, 8, 0, []), (179, 4, 1, 0, 0, 0, []), (180, 25, 6, 0, 4, 0, [(0, 7, 12), (0, 2, 10)]), (183, 25, 7, 6, 0, 0, []), (186, 5, 1, 2, 0, 0, []), (187, 2, 1, 2, 0, 0, []), (188, 40, 9, 1, 0, 0, []), (191, 17, 202, 1, 96, 0, []), (194, 4, 1, 0, 0, 0, []), (195, 25, 6, 0, 4, 0, [(0, 7, 12), (0, 2, 10)]), (198, 0, 1, 0, 0, 1, []), (199, 40, 10, 2, 9, 0, []), (202, 49, 0, 0, 0, 0, []), (202, 4, 1, 0, 0, 0, []), (203, 25, 6, 0, 4, 0, [(0, 7, 12), (0, 2, 10)]), (206, 40, 5, 1, 9, 0, []), (209, 4, 1, 0, 0, 0, []), (210, 40, 8, 1, 8, 0, []), (213, 4, 1, 0, 0, 0, []), (214, 2, 1, 2, 0, 0, []), (215, 1, 1, 0, 0, 0, []), (216, 40, 2, 3, 8, 0, []), (219, 44, 0, 0, 0, 0, [])]
set_option maxRecDepth 20000 in
theorem qX6_readOnef : f_all yX6_readOne YX6_readOne pX6_readOnef :=
  ⟨f_aload_n (n := 0) (e_dx DX6_readOne_0 0 rfl) rfl,
  f_getA (e_dx DX6_readOne_0 1 rfl) fX6_45 rfl (by decide) (Nat.le_of_ble_eq_true rfl) rfl (by decide),
  f_getf (e_dx DX6_readOne_0 2 rfl) fX6_49 rfl (by decide) (by decide) (by decide),
  f_istore_n (n := 1) (e_dx DX6_readOne_0 3 rfl) rfl (by decide),
  f_iload_n (n := 1) (e_dx DX6_readOne_0 4 rfl) rfl,
  f_sipush (e_dx DX6_readOne_0 5 rfl) ⟨by decide, by decide⟩,
  f_icmp_ne (e_dx DX6_readOne_0 6 rfl) rfl,
  f_aload_n (n := 0) (e_dx DX6_readOne_0 7 rfl) rfl,
  x_callV (e_dx DX6_readOne_0 8 rfl) mwX6_opens vwX6_opens cX6_98 rfl,
  f_if_eq (e_dx DX6_readOne_0 9 rfl) rfl,
  f_aload_n (n := 0) (e_dx DX6_readOne_0 10 rfl) rfl,
  x_callV (e_dx DX6_readOne_0 11 rfl) mwX6_readOne vwX6_readOne cX6_91 rfl,
  f_aload_n (n := 0) (e_dx DX6_readOne_0 12 rfl) rfl,
  f_g20 (e_dx DX6_readOne_0 13 rfl),
  f_getf (e_dx DX6_readOne_0 14 rfl) fX6_42 rfl (by decide) (by decide) (by decide),
  f_iconst (e_dx DX6_readOne_0 15 rfl) ⟨by decide, by decide⟩,
  f_isub (e_dx DX6_readOne_0 16 rfl),
  f_putn (e_dx DX6_readOne_0 17 rfl) fX6_42 (fun q hq => by cases hq; rfl) rfl (Or.inl rfl) (by decide),
  f_aload_n (n := 0) (e_dx DX6_readOne_0 18 rfl) rfl,
  f_sipush (e_dx DX6_readOne_0 19 rfl) ⟨by decide, by decide⟩,
  f_lconst (n := 0) (e_dx DX6_readOne_0 20 rfl) rfl,
  x_callV (e_dx DX6_readOne_0 21 rfl) mwX6_step vwX6_step cX6_94 rfl,
  f_g19 (e_dx DX6_readOne_0 22 rfl) rfl,
  f_iload_n (n := 1) (e_dx DX6_readOne_0 23 rfl) rfl,
  f_bipush (e_dx DX6_readOne_0 24 rfl) ⟨by decide, by decide⟩,
  f_icmp_ne (e_dx DX6_readOne_0 25 rfl) rfl,
  f_aload_n (n := 0) (e_dx DX6_readOne_0 26 rfl) rfl,
  x_callV (e_dx DX6_readOne_0 27 rfl) mwX6_opens vwX6_opens cX6_98 rfl,
  f_if_eq (e_dx DX6_readOne_0 28 rfl) rfl,
  f_aload_n (n := 0) (e_dx DX6_readOne_0 29 rfl) rfl,
  x_callV (e_dx DX6_readOne_0 30 rfl) mwX6_readCond vwX6_readCond cX6_68 rfl,
  f_aload_n (n := 0) (e_dx DX6_readOne_0 31 rfl) rfl,
  f_g20 (e_dx DX6_readOne_0 32 rfl),
  f_getf (e_dx DX6_readOne_0 33 rfl) fX6_42 rfl (by decide) (by decide) (by decide),
  f_iconst (e_dx DX6_readOne_0 34 rfl) ⟨by decide, by decide⟩,
  f_isub (e_dx DX6_readOne_0 35 rfl),
  f_putn (e_dx DX6_readOne_0 36 rfl) fX6_42 (fun q hq => by cases hq; rfl) rfl (Or.inl rfl) (by decide),
  f_aload_n (n := 0) (e_dx DX6_readOne_0 37 rfl) rfl,
  f_getA (e_dx DX6_readOne_0 38 rfl) fX6_45 rfl (by decide) (Nat.le_of_ble_eq_true rfl) rfl (by decide),
  f_bipush (e_dx DX6_readOne_0 39 rfl) ⟨by decide, by decide⟩,
  x_callV (e_dx DX6_readOne_1 0 rfl) mwX7_expect vwX7_expect cX6_84 rfl,
  f_g19 (e_dx DX6_readOne_1 1 rfl) rfl,
  f_iload_n (n := 1) (e_dx DX6_readOne_1 2 rfl) rfl,
  f_sipush (e_dx DX6_readOne_1 3 rfl) ⟨by decide, by decide⟩,
  f_icmp_eq (e_dx DX6_readOne_1 4 rfl) rfl,
  f_iload_n (n := 1) (e_dx DX6_readOne_1 5 rfl) rfl,
  f_sipush (e_dx DX6_readOne_1 6 rfl) ⟨by decide, by decide⟩,
  f_icmp_eq (e_dx DX6_readOne_1 7 rfl) rfl,
  f_iload_n (n := 1) (e_dx DX6_readOne_1 8 rfl) rfl,
  f_sipush (e_dx DX6_readOne_1 9 rfl) ⟨by decide, by decide⟩,
  f_icmp_eq (e_dx DX6_readOne_1 10 rfl) rfl,
  f_iload_n (n := 1) (e_dx DX6_readOne_1 11 rfl) rfl,
  f_sipush (e_dx DX6_readOne_1 12 rfl) ⟨by decide, by decide⟩,
  f_icmp_ne (e_dx DX6_readOne_1 13 rfl) rfl,
  trivial,
  f_aload_n (n := 0) (e_dx DX6_readOne_1 14 rfl) rfl,
  f_getA (e_dx DX6_readOne_1 15 rfl) fX6_45 rfl (by decide) (Nat.le_of_ble_eq_true rfl) rfl (by decide),
  x_callV (e_dx DX6_readOne_1 16 rfl) mwX7_take vwX7_take cX6_54 rfl,
  f_aload_n (n := 0) (e_dx DX6_readOne_1 17 rfl) rfl,
  f_iload_n (n := 1) (e_dx DX6_readOne_1 18 rfl) rfl,
  f_aload_n (n := 0) (e_dx DX6_readOne_1 19 rfl) rfl,
  f_getA (e_dx DX6_readOne_1 20 rfl) fX6_45 rfl (by decide) (Nat.le_of_ble_eq_true rfl) rfl (by decide),
  x_callV (e_dx DX6_readOne_1 21 rfl) mwX7_takeName vwX7_takeName cX6_87 rfl,
  x_callV (e_dx DX6_readOne_1 22 rfl) mwX6_step vwX6_step cX6_94 rfl,
  f_g19 (e_dx DX6_readOne_1 23 rfl) rfl,
  f_iload_n (n := 1) (e_dx DX6_readOne_1 24 rfl) rfl,
  f_sipush (e_dx DX6_readOne_1 25 rfl) ⟨by decide, by decide⟩,
  f_icmp_ne (e_dx DX6_readOne_1 26 rfl) rfl,
  f_aload_n (n := 0) (e_dx DX6_readOne_1 27 rfl) rfl,
  x_callV (e_dx DX6_readOne_1 28 rfl) mwX6_readPoint vwX6_readPoint cX6_101 rfl,
  f_g19 (e_dx DX6_readOne_1 29 rfl) rfl,
  f_iload_n (n := 1) (e_dx DX6_readOne_1 30 rfl) rfl,
  f_sipush (e_dx DX6_readOne_1 31 rfl) ⟨by decide, by decide⟩,
  f_icmp_ne (e_dx DX6_readOne_1 32 rfl) rfl,
  f_aload_n (n := 0) (e_dx DX6_readOne_1 33 rfl) rfl,
  f_getA (e_dx DX6_readOne_1 34 rfl) fX6_45 rfl (by decide) (Nat.le_of_ble_eq_true rfl) rfl (by decide),
  x_callV (e_dx DX6_readOne_1 35 rfl) mwX7_take vwX7_take cX6_54 rfl,
  f_aload_n (n := 0) (e_dx DX6_readOne_1 36 rfl) rfl,
  f_sipush (e_dx DX6_readOne_1 37 rfl) ⟨by decide, by decide⟩,
  f_lconst (n := 0) (e_dx DX6_readOne_1 38 rfl) rfl,
  x_callV (e_dx DX6_readOne_1 39 rfl) mwX6_step vwX6_step cX6_94 rfl,
  f_g19 (e_dx DX6_readOne_2 0 rfl) rfl,
  f_aload_n (n := 0) (e_dx DX6_readOne_2 1 rfl) rfl,
  x_callV (e_dx DX6_readOne_2 2 rfl) mwX6_readValue vwX6_readValue cX6_81 rfl,
  f_aload_n (n := 0) (e_dx DX6_readOne_2 3 rfl) rfl,
  f_getA (e_dx DX6_readOne_2 4 rfl) fX6_45 rfl (by decide) (Nat.le_of_ble_eq_true rfl) rfl (by decide),
  f_getf (e_dx DX6_readOne_2 5 rfl) fX6_49 rfl (by decide) (by decide) (by decide),
  f_istore_n (n := 2) (e_dx DX6_readOne_2 6 rfl) rfl (by decide),
  f_iload_n (n := 2) (e_dx DX6_readOne_2 7 rfl) rfl,
  x_callS (e_dx DX6_readOne_2 8 rfl) mwX6_isComparison cX6_104 swX6_isComparison rfl,
  f_if_ne (e_dx DX6_readOne_2 9 rfl) rfl,
  f_aload_n (n := 0) (e_dx DX6_readOne_2 10 rfl) rfl,
  f_getA (e_dx DX6_readOne_2 11 rfl) fX6_45 rfl (by decide) (Nat.le_of_ble_eq_true rfl) rfl (by decide),
  f_iconst (e_dx DX6_readOne_2 12 rfl) ⟨by decide, by decide⟩,
  x_callV (e_dx DX6_readOne_2 13 rfl) mwX7_note vwX7_note cX6_77 rfl,
  trivial,
  f_aload_n (n := 0) (e_dx DX6_readOne_2 14 rfl) rfl,
  f_getA (e_dx DX6_readOne_2 15 rfl) fX6_45 rfl (by decide) (Nat.le_of_ble_eq_true rfl) rfl (by decide),
  x_callV (e_dx DX6_readOne_2 16 rfl) mwX7_take vwX7_take cX6_54 rfl,
  f_aload_n (n := 0) (e_dx DX6_readOne_2 17 rfl) rfl,
  x_callV (e_dx DX6_readOne_2 18 rfl) mwX6_readValue vwX6_readValue cX6_81 rfl,
  f_aload_n (n := 0) (e_dx DX6_readOne_2 19 rfl) rfl,
  f_iload_n (n := 2) (e_dx DX6_readOne_2 20 rfl) rfl,
  f_lconst (n := 0) (e_dx DX6_readOne_2 21 rfl) rfl,
  x_callV (e_dx DX6_readOne_2 22 rfl) mwX6_step vwX6_step cX6_94 rfl,
  ⟨(e_dx DX6_readOne_2 23 rfl), rfl⟩, trivial⟩
def lX6_readOne (c_X6_opens : e_M → (Int → e_M → Prop) → Prop) (c_X6_readOne : e_M → (e_M → Prop) → Prop) (c_X6_step : Int → Int → e_M → (e_M → Prop) → Prop) (c_X6_readCond : e_M → (e_M → Prop) → Prop) (c_X7_expect : Int → e_M → (e_M → Prop) → Prop) (c_X7_take : e_M → (e_M → Prop) → Prop) (c_X7_takeName : e_M → (Int → e_M → Prop) → Prop) (c_X6_readPoint : e_M → (e_M → Prop) → Prop) (c_X6_readValue : e_M → (e_M → Prop) → Prop) (c_X6_isComparison : Int → e_M → (Int → Prop) → Prop) (c_X7_note : Int → e_M → (e_M → Prop) → Prop) : List (Nat × f_Wt) := [(0, f_wm [(32, 6, 11)] (fun ar M R => c_X6_opens  M (fun r M => R (some (.inl r)) M))), (1, f_wm [(32, 6, 11)] (fun ar M R => c_X6_readOne  M (fun M => R none M))), (2, f_wm [(32, 6, 11), (1, 0, 0), (2, 0, 0)] (fun ar M R => c_X6_step (f_vi (f_nth ar 1)) (f_vi (f_nth ar 2)) M (fun M => R none M))), (3, f_wm [(32, 6, 11)] (fun ar M R => c_X6_readCond  M (fun M => R none M))), (4, f_wm [(20, 7, 12), (1, 0, 0)] (fun ar M R => c_X7_expect (f_vi (f_nth ar 1)) M (fun M => R none M))), (5, f_wm [(20, 7, 12)] (fun ar M R => c_X7_take  M (fun M => R none M))), (6, f_wm [(20, 7, 12)] (fun ar M R => c_X7_takeName  M (fun r M => R (some (.inr (.inl r))) M))), (7, f_wm [(32, 6, 11)] (fun ar M R => c_X6_readPoint  M (fun M => R none M))), (8, f_wm [(32, 6, 11)] (fun ar M R => c_X6_readValue  M (fun M => R none M))), (9, f_wm [(1, 0, 0)] (fun ar M R => c_X6_isComparison (f_vi (f_nth ar 0)) M (fun r => R (some (.inl r)) M))), (10, f_wm [(20, 7, 12), (1, 0, 0)] (fun ar M R => c_X7_note (f_vi (f_nth ar 1)) M (fun M => R none M)))]
set_option maxRecDepth 20000 in
theorem BX6_readOne_114 {sh : Nat → Nat × Nat} {t : Nat} {rm : Nat × Nat × Nat} {cs : Nat × Nat} {R : f_Rt} {D : Nat} {c_X6_opens : e_M → (Int → e_M → Prop) → Prop} {c_X6_readOne : e_M → (e_M → Prop) → Prop} {c_X6_step : Int → Int → e_M → (e_M → Prop) → Prop} {c_X6_readCond : e_M → (e_M → Prop) → Prop} {c_X7_expect : Int → e_M → (e_M → Prop) → Prop} {c_X7_take : e_M → (e_M → Prop) → Prop} {c_X7_takeName : e_M → (Int → e_M → Prop) → Prop} {c_X6_readPoint : e_M → (e_M → Prop) → Prop} {c_X6_readValue : e_M → (e_M → Prop) → Prop} {c_X6_isComparison : Int → e_M → (Int → Prop) → Prop} {c_X7_note : Int → e_M → (e_M → Prop) → Prop} {x1 : Int} {M : e_M} (C : f_Hy sh t yX6_readOne rm cs D (lX6_readOne c_X6_opens c_X6_readOne c_X6_step c_X6_readCond c_X7_expect c_X7_take c_X7_takeName c_X6_readPoint c_X6_readValue c_X6_isComparison c_X7_note) R) (h : VX6_readOne_114 c_X6_opens c_X6_readOne c_X6_step c_X6_readCond c_X7_expect c_X7_take c_X7_takeName c_X6_readPoint c_X6_readValue c_X6_isComparison c_X7_note (fun M => R none M) x1 M) : f_E sh t YX6_readOne rm cs (f_Q sh t R) 114 [.inr (.inr (.inl (6, 11, 22))), .inl x1, .inr (.inr (.inr ()))] [] M :=
  f_go (KC := f_kc []) C qX6_readOnef f_kc_nil 108 55 h
set_option maxRecDepth 20000 in
theorem BX6_readOne_202 {sh : Nat → Nat × Nat} {t : Nat} {rm : Nat × Nat × Nat} {cs : Nat × Nat} {R : f_Rt} {D : Nat} {c_X6_opens : e_M → (Int → e_M → Prop) → Prop} {c_X6_readOne : e_M → (e_M → Prop) → Prop} {c_X6_step : Int → Int → e_M → (e_M → Prop) → Prop} {c_X6_readCond : e_M → (e_M → Prop) → Prop} {c_X7_expect : Int → e_M → (e_M → Prop) → Prop} {c_X7_take : e_M → (e_M → Prop) → Prop} {c_X7_takeName : e_M → (Int → e_M → Prop) → Prop} {c_X6_readPoint : e_M → (e_M → Prop) → Prop} {c_X6_readValue : e_M → (e_M → Prop) → Prop} {c_X6_isComparison : Int → e_M → (Int → Prop) → Prop} {c_X7_note : Int → e_M → (e_M → Prop) → Prop} {x2 : Int} {M : e_M} (C : f_Hy sh t yX6_readOne rm cs D (lX6_readOne c_X6_opens c_X6_readOne c_X6_step c_X6_readCond c_X7_expect c_X7_take c_X7_takeName c_X6_readPoint c_X6_readValue c_X6_isComparison c_X7_note) R) (h : VX6_readOne_202 c_X6_opens c_X6_readOne c_X6_step c_X6_readCond c_X7_expect c_X7_take c_X7_takeName c_X6_readPoint c_X6_readValue c_X6_isComparison c_X7_note (fun M => R none M) x2 M) : f_E sh t YX6_readOne rm cs (f_Q sh t R) 202 [.inr (.inr (.inl (6, 11, 22))), .inr (.inr (.inr ())), .inl x2] [] M :=
  f_go (KC := f_kc []) C qX6_readOnef f_kc_nil 108 96 h
set_option maxRecDepth 20000 in
theorem BX6_readOne {sh : Nat → Nat × Nat} {t : Nat} {rm : Nat × Nat × Nat} {cs : Nat × Nat} {R : f_Rt} {D : Nat} {c_X6_opens : e_M → (Int → e_M → Prop) → Prop} {c_X6_readOne : e_M → (e_M → Prop) → Prop} {c_X6_step : Int → Int → e_M → (e_M → Prop) → Prop} {c_X6_readCond : e_M → (e_M → Prop) → Prop} {c_X7_expect : Int → e_M → (e_M → Prop) → Prop} {c_X7_take : e_M → (e_M → Prop) → Prop} {c_X7_takeName : e_M → (Int → e_M → Prop) → Prop} {c_X6_readPoint : e_M → (e_M → Prop) → Prop} {c_X6_readValue : e_M → (e_M → Prop) → Prop} {c_X6_isComparison : Int → e_M → (Int → Prop) → Prop} {c_X7_note : Int → e_M → (e_M → Prop) → Prop} {k114 : Int → e_M → Prop} {k202 : Int → e_M → Prop} {M : e_M} (C : f_Hy sh t yX6_readOne rm cs D (lX6_readOne c_X6_opens c_X6_readOne c_X6_step c_X6_readCond c_X7_expect c_X7_take c_X7_takeName c_X6_readPoint c_X6_readValue c_X6_isComparison c_X7_note) R) (h114 : ∀ (x1 : Int) (M : e_M), k114 x1 M → f_E sh t YX6_readOne rm cs (f_Q sh t R) 114 [.inr (.inr (.inl (6, 11, 22))), .inl x1, .inr (.inr (.inr ()))] [] M) (h202 : ∀ (x2 : Int) (M : e_M), k202 x2 M → f_E sh t YX6_readOne rm cs (f_Q sh t R) 202 [.inr (.inr (.inl (6, 11, 22))), .inr (.inr (.inr ())), .inl x2] [] M) (h : VX6_readOne c_X6_opens c_X6_readOne c_X6_step c_X6_readCond c_X7_expect c_X7_take c_X7_takeName c_X6_readPoint c_X6_readValue c_X6_isComparison c_X7_note k114 k202 (fun M => R none M) M) : f_E sh t YX6_readOne rm cs (f_Q sh t R) 0 [.inr (.inr (.inl (6, 11, 22))), .inr (.inr (.inr ())), .inr (.inr (.inr ()))] [] M :=
  f_go (KC := f_kc [(114, f_pl [(32, 6, 11), (1, 0, 0), (0, 0, 0)] [] (fun ls st M => k114 (f_vi (f_nth ls 1)) M)), (202, f_pl [(32, 6, 11), (0, 0, 0), (1, 0, 0)] [] (fun ls st M => k202 (f_vi (f_nth ls 2)) M))]) C qX6_readOnef (f_kc_cons (f_pl_ok rfl (fun ls st M h => h114 _ M h)) (f_kc_cons (f_pl_ok rfl (fun ls st M h => h202 _ M h)) f_kc_nil)) 108 0 h
def WX6_readOne_114 (c_X6_readOne : e_M → (e_M → Prop) → Prop) (c_X6_readCond : e_M → (e_M → Prop) → Prop) (Q : e_M → Prop) (x1 : Int) (M : e_M) : Prop :=
  VX6_readOne_114 WX6_opens c_X6_readOne WX6_step c_X6_readCond WX7_expect WX7_take WX7_takeName WX6_readPoint (CX6_readValue 13) WX6_isComparison WX7_note Q x1 M
def WX6_readOne_202 (c_X6_readOne : e_M → (e_M → Prop) → Prop) (c_X6_readCond : e_M → (e_M → Prop) → Prop) (Q : e_M → Prop) (x2 : Int) (M : e_M) : Prop :=
  VX6_readOne_202 WX6_opens c_X6_readOne WX6_step c_X6_readCond WX7_expect WX7_take WX7_takeName WX6_readPoint (CX6_readValue 13) WX6_isComparison WX7_note Q x2 M
def WX6_readOne (c_X6_readOne : e_M → (e_M → Prop) → Prop) (c_X6_readCond : e_M → (e_M → Prop) → Prop) (M : e_M) (Q : e_M → Prop) : Prop :=
  VX6_readOne WX6_opens c_X6_readOne WX6_step c_X6_readCond WX7_expect WX7_take WX7_takeName WX6_readPoint (CX6_readValue 13) WX6_isComparison WX7_note (WX6_readOne_114 c_X6_readOne c_X6_readCond Q) (WX6_readOne_202 c_X6_readOne c_X6_readCond Q) Q M
theorem PX6_readOne_114 {sh : Nat → Nat × Nat} {t : Nat} {rm : Nat × Nat × Nat} {cs : Nat × Nat} {R : f_Rt} {D : Nat} {c_X6_readOne : e_M → (e_M → Prop) → Prop} {c_X6_readCond : e_M → (e_M → Prop) → Prop} {x1 : Int} {M : e_M} (C : f_Hy sh t yX6_readOne rm cs D (lX6_readOne WX6_opens c_X6_readOne WX6_step c_X6_readCond WX7_expect WX7_take WX7_takeName WX6_readPoint (CX6_readValue 13) WX6_isComparison WX7_note) R) (h : WX6_readOne_114 c_X6_readOne c_X6_readCond (fun M => R none M) x1 M) : f_E sh t YX6_readOne rm cs (f_Q sh t R) 114 [.inr (.inr (.inl (6, 11, 22))), .inl x1, .inr (.inr (.inr ()))] [] M :=
  BX6_readOne_114 C h
theorem PX6_readOne_202 {sh : Nat → Nat × Nat} {t : Nat} {rm : Nat × Nat × Nat} {cs : Nat × Nat} {R : f_Rt} {D : Nat} {c_X6_readOne : e_M → (e_M → Prop) → Prop} {c_X6_readCond : e_M → (e_M → Prop) → Prop} {x2 : Int} {M : e_M} (C : f_Hy sh t yX6_readOne rm cs D (lX6_readOne WX6_opens c_X6_readOne WX6_step c_X6_readCond WX7_expect WX7_take WX7_takeName WX6_readPoint (CX6_readValue 13) WX6_isComparison WX7_note) R) (h : WX6_readOne_202 c_X6_readOne c_X6_readCond (fun M => R none M) x2 M) : f_E sh t YX6_readOne rm cs (f_Q sh t R) 202 [.inr (.inr (.inl (6, 11, 22))), .inr (.inr (.inr ())), .inl x2] [] M :=
  BX6_readOne_202 C h
theorem PX6_readOne {sh : Nat → Nat × Nat} {t : Nat} {rm : Nat × Nat × Nat} {cs : Nat × Nat} {R : f_Rt} {D : Nat} {c_X6_readOne : e_M → (e_M → Prop) → Prop} {c_X6_readCond : e_M → (e_M → Prop) → Prop} {M : e_M} (C : f_Hy sh t yX6_readOne rm cs D (lX6_readOne WX6_opens c_X6_readOne WX6_step c_X6_readCond WX7_expect WX7_take WX7_takeName WX6_readPoint (CX6_readValue 13) WX6_isComparison WX7_note) R) (h : WX6_readOne c_X6_readOne c_X6_readCond M (fun M => R none M)) : f_E sh t YX6_readOne rm cs (f_Q sh t R) 0 [.inr (.inr (.inl (6, 11, 22))), .inr (.inr (.inr ())), .inr (.inr (.inr ()))] [] M :=
  BX6_readOne C (fun x1 M h => PX6_readOne_114 C h) (fun x2 M h => PX6_readOne_202 C h) h
def wX6_readOne (c_X6_readOne : e_M → (e_M → Prop) → Prop) (c_X6_readCond : e_M → (e_M → Prop) → Prop) : f_Wt := f_wm [(32, 6, 11)] (fun ar M R => WX6_readOne c_X6_readOne c_X6_readCond M (fun M => R none M))
theorem TX6_readOne {sh : Nat → Nat × Nat} {t : Nat} {c_X6_readOne : e_M → (e_M → Prop) → Prop} {c_X6_readCond : e_M → (e_M → Prop) → Prop} {D : Nat} (hD : 38 ≤ D) (o0 : f_Mt sh t YX6_readOne (D - 1) (f_wm [(32, 6, 11)] (fun ar M R => c_X6_readOne  M (fun M => R none M)))) (o1 : f_Mt sh t YX6_readCond (D - 1) (f_wm [(32, 6, 11)] (fun ar M R => c_X6_readCond  M (fun M => R none M)))) : f_Mt sh t YX6_readOne D (wX6_readOne c_X6_readOne c_X6_readCond) :=
  f_Mt_of (k := 2) (Nat.le_of_ble_eq_true rfl) rfl rfl (fun ar M R rm cs h1 h2 h3 hX h => PX6_readOne ⟨by omega, h1, h2, h3, ⟨(f_Mt.up (by omega) TX6_opens), (f_Mt.up (by omega) o0), (f_Mt.up (by omega) TX6_step), (f_Mt.up (by omega) o1), (f_Mt.up (by omega) TX7_expect), (f_Mt.up (by omega) TX7_take), (f_Mt.up (by omega) TX7_takeName), (f_Mt.up (by omega) TX6_readPoint), (f_Mt.up (by have := hD; omega) (TCX6_readValue 13)), (f_Mt.up (by omega) TX6_isComparison), (f_Mt.up (by omega) TX7_note), trivial⟩, hX⟩ h)
def VX6_readCond_2 (c_X6_readOne : e_M → (e_M → Prop) → Prop) (c_X7_take : e_M → (e_M → Prop) → Prop) (c_X6_step : Int → Int → e_M → (e_M → Prop) → Prop) (k15 : Int → Int → e_M → Prop) (Q : e_M → Prop) (x1 : Int) (M : e_M) : Prop :=
  ((640 < x1 → (Q M)) ∧ (x1 ≤ 640 → (c_X6_readOne M (fun M1 => (k15 x1 0 M1)))))
def VX6_readCond_15 (c_X6_readOne : e_M → (e_M → Prop) → Prop) (c_X7_take : e_M → (e_M → Prop) → Prop) (c_X6_step : Int → Int → e_M → (e_M → Prop) → Prop) (k60 : Int → e_M → Prop) (k15 : Int → Int → e_M → Prop) (Q : e_M → Prop) (x1 : Int) (x2 : Int) (M : e_M) : Prop :=
  ((¬ (M 10 6) = 255 → (k60 x1 M)) ∧ ((M 10 6) = 255 → ((640 < x2 → (k60 x1 M)) ∧ (x2 ≤ 640 → (c_X7_take M (fun M1 => (c_X6_readOne M1 (fun M2 => (c_X6_step 255 0 M2 (fun M3 => (k15 x1 (e_w32 (x2 + 1)) M3)))))))))))
def VX6_readCond_60 (c_X6_readOne : e_M → (e_M → Prop) → Prop) (c_X7_take : e_M → (e_M → Prop) → Prop) (c_X6_step : Int → Int → e_M → (e_M → Prop) → Prop) (k72 : Int → e_M → Prop) (Q : e_M → Prop) (x1 : Int) (M : e_M) : Prop :=
  ((x1 ≤ 0 → (k72 x1 M)) ∧ (0 < x1 → (c_X6_step 254 0 M (fun M1 => (k72 x1 M1)))))
def VX6_readCond_72 (c_X6_readOne : e_M → (e_M → Prop) → Prop) (c_X7_take : e_M → (e_M → Prop) → Prop) (c_X6_step : Int → Int → e_M → (e_M → Prop) → Prop) (k2 : Int → e_M → Prop) (Q : e_M → Prop) (x1 : Int) (M : e_M) : Prop :=
  (((M 10 6) = 254 → (c_X7_take M (fun M1 => (k2 (e_w32 (x1 + 1)) M1)))) ∧ (¬ (M 10 6) = 254 → (Q M)))
def VX6_readCond (c_X6_readOne : e_M → (e_M → Prop) → Prop) (c_X7_take : e_M → (e_M → Prop) → Prop) (c_X6_step : Int → Int → e_M → (e_M → Prop) → Prop) (k2 : Int → e_M → Prop) (Q : e_M → Prop) (M : e_M) : Prop :=
  (k2 0 M)
def yX6_readCond (i : Nat) : e_Y := x_get YX6_readCond [YX6_readOne, YX7_take, YX6_step] i
def pX6_readCondf : List x_I := [(0, 0, 1, 0, 0, 0, []), (1, 5, 1, 1, 0, 0, []), (2, 49, 0, 0, 0, 0, []), (2, 2, 1, 1, 0, 0, []), (3, 0, 3, 0, 0, 640, []), (6, 18, 99, 4, 50, 0, []), (9, 4, 1, 0, 0, 0, []), (10, 40, 0, 1, 8, 0, []), (13, 0, 1, 0, 0, 0, []), (14, 5, 1, 2, 0, 0, []), (15, 49, 0, 0, 0, 0, []), (15, 4, 1, 0, 0, 0, []), (16, 25, 6, 0, 4, 0, [(0, 7, 12), (0, 2, 10)]), (19, 25, 7, 6, 0, 0, []), (22, 0, 3, 0, 0, 255, []), (25, 18, 60, 1, 31, 0, []), (28, 2, 1, 2, 0, 0, []), (29, 0, 3, 0, 0, 640, []), (32, 18, 60, 4, 31, 0, []), (35, 4, 1, 0, 0, 0, []), (36, 25, 6, 0, 4, 0, [(0, 7, 12), (0, 2, 10)]), (39, 40, 1, 1, 9, 0, []), (42, 4, 1, 0, 0, 0, []), (43, 40, 0, 1, 8, 0, []), (46, 4, 1, 0, 0, 0, []), (47, 0, 3, 0, 0, 255, []), (50, 1, 1, 0, 0, 0, []), (51, 40, 2, 3, 8, 0, []), (54, 8, 0, 2, 0, 1, []), (57, 19, 15, 0, 11, 0, []), (60, 49, 0, 0, 0, 0, []), (60, 2, 1, 1, 0, 0, []), (61, 17, 72, 5, 38, 0, []), (64, 4, 1, 0, 0, 0, []), (65, 0, 3, 0, 0, 254, []), (68, 1, 1, 0, 0, 0, []), (69, 40, 2, 3, 8, 0, []), (72, 49, 0, 0, 0, 0, []), (72, 4, 1, 0, 0, 0, []), (73, 25, 6, 0, 4, 0, [(0, 7, 12), (0, 2, 10)]), (76, 25, 7, 6, 0, 0, []), (79, 0, 3, 0, 0, 254, []), (82, 18, 86, 0, 45, 0, []), (85, 44, 0, 0, 0, 0, []), (86, 4, 1, 0, 0, 0, []), (87, 25, 6, 0, 4, 0, [(0, 7, 12), (0, 2, 10)]), (90, 40, 1, 1, 9, 0, []), (93, 8, 0, 1, 0, 1, []), (96, 19, 2, 0, 3, 0, []), (99, 44, 0, 0, 0, 0, [])]
set_option maxRecDepth 20000 in
theorem qX6_readCondf : f_all yX6_readCond YX6_readCond pX6_readCondf :=
  ⟨f_iconst (e_dx DX6_readCond_0 0 rfl) ⟨by decide, by decide⟩,
  f_istore_n (n := 1) (e_dx DX6_readCond_0 1 rfl) rfl (by decide),
  trivial,
  f_iload_n (n := 1) (e_dx DX6_readCond_0 2 rfl) rfl,
  f_sipush (e_dx DX6_readCond_0 3 rfl) ⟨by decide, by decide⟩,
  f_icmp_gt (e_dx DX6_readCond_0 4 rfl) rfl,
  f_aload_n (n := 0) (e_dx DX6_readCond_0 5 rfl) rfl,
  x_callV (e_dx DX6_readCond_0 6 rfl) mwX6_readOne vwX6_readOne cX6_91 rfl,
  f_iconst (e_dx DX6_readCond_0 7 rfl) ⟨by decide, by decide⟩,
  f_istore_n (n := 2) (e_dx DX6_readCond_0 8 rfl) rfl (by decide),
  trivial,
  f_aload_n (n := 0) (e_dx DX6_readCond_0 9 rfl) rfl,
  f_getA (e_dx DX6_readCond_0 10 rfl) fX6_45 rfl (by decide) (Nat.le_of_ble_eq_true rfl) rfl (by decide),
  f_getf (e_dx DX6_readCond_0 11 rfl) fX6_49 rfl (by decide) (by decide) (by decide),
  f_sipush (e_dx DX6_readCond_0 12 rfl) ⟨by decide, by decide⟩,
  f_icmp_ne (e_dx DX6_readCond_0 13 rfl) rfl,
  f_iload_n (n := 2) (e_dx DX6_readCond_0 14 rfl) rfl,
  f_sipush (e_dx DX6_readCond_0 15 rfl) ⟨by decide, by decide⟩,
  f_icmp_gt (e_dx DX6_readCond_0 16 rfl) rfl,
  f_aload_n (n := 0) (e_dx DX6_readCond_0 17 rfl) rfl,
  f_getA (e_dx DX6_readCond_0 18 rfl) fX6_45 rfl (by decide) (Nat.le_of_ble_eq_true rfl) rfl (by decide),
  x_callV (e_dx DX6_readCond_0 19 rfl) mwX7_take vwX7_take cX6_54 rfl,
  f_aload_n (n := 0) (e_dx DX6_readCond_0 20 rfl) rfl,
  x_callV (e_dx DX6_readCond_0 21 rfl) mwX6_readOne vwX6_readOne cX6_91 rfl,
  f_aload_n (n := 0) (e_dx DX6_readCond_0 22 rfl) rfl,
  f_sipush (e_dx DX6_readCond_0 23 rfl) ⟨by decide, by decide⟩,
  f_lconst (n := 0) (e_dx DX6_readCond_0 24 rfl) rfl,
  x_callV (e_dx DX6_readCond_0 25 rfl) mwX6_step vwX6_step cX6_94 rfl,
  f_g8 (e_dx DX6_readCond_0 26 rfl) ⟨by decide, by decide⟩,
  f_g19 (e_dx DX6_readCond_0 27 rfl) rfl,
  trivial,
  f_iload_n (n := 1) (e_dx DX6_readCond_0 28 rfl) rfl,
  f_if_le (e_dx DX6_readCond_0 29 rfl) rfl,
  f_aload_n (n := 0) (e_dx DX6_readCond_0 30 rfl) rfl,
  f_sipush (e_dx DX6_readCond_0 31 rfl) ⟨by decide, by decide⟩,
  f_lconst (n := 0) (e_dx DX6_readCond_0 32 rfl) rfl,
  x_callV (e_dx DX6_readCond_0 33 rfl) mwX6_step vwX6_step cX6_94 rfl,
  trivial,
  f_aload_n (n := 0) (e_dx DX6_readCond_0 34 rfl) rfl,
  f_getA (e_dx DX6_readCond_0 35 rfl) fX6_45 rfl (by decide) (Nat.le_of_ble_eq_true rfl) rfl (by decide),
  f_getf (e_dx DX6_readCond_0 36 rfl) fX6_49 rfl (by decide) (by decide) (by decide),
  f_sipush (e_dx DX6_readCond_0 37 rfl) ⟨by decide, by decide⟩,
  f_icmp_eq (e_dx DX6_readCond_0 38 rfl) rfl,
  ⟨(e_dx DX6_readCond_0 39 rfl), rfl⟩,
  f_aload_n (n := 0) (e_dx DX6_readCond_1 0 rfl) rfl,
  f_getA (e_dx DX6_readCond_1 1 rfl) fX6_45 rfl (by decide) (Nat.le_of_ble_eq_true rfl) rfl (by decide),
  x_callV (e_dx DX6_readCond_1 2 rfl) mwX7_take vwX7_take cX6_54 rfl,
  f_g8 (e_dx DX6_readCond_1 3 rfl) ⟨by decide, by decide⟩,
  f_g19 (e_dx DX6_readCond_1 4 rfl) rfl,
  ⟨(e_dx DX6_readCond_1 5 rfl), rfl⟩, trivial⟩
def lX6_readCond (c_X6_readOne : e_M → (e_M → Prop) → Prop) (c_X7_take : e_M → (e_M → Prop) → Prop) (c_X6_step : Int → Int → e_M → (e_M → Prop) → Prop) : List (Nat × f_Wt) := [(0, f_wm [(32, 6, 11)] (fun ar M R => c_X6_readOne  M (fun M => R none M))), (1, f_wm [(20, 7, 12)] (fun ar M R => c_X7_take  M (fun M => R none M))), (2, f_wm [(32, 6, 11), (1, 0, 0), (2, 0, 0)] (fun ar M R => c_X6_step (f_vi (f_nth ar 1)) (f_vi (f_nth ar 2)) M (fun M => R none M)))]
set_option maxRecDepth 20000 in
theorem BX6_readCond_2 {sh : Nat → Nat × Nat} {t : Nat} {rm : Nat × Nat × Nat} {cs : Nat × Nat} {R : f_Rt} {D : Nat} {c_X6_readOne : e_M → (e_M → Prop) → Prop} {c_X7_take : e_M → (e_M → Prop) → Prop} {c_X6_step : Int → Int → e_M → (e_M → Prop) → Prop} {k15 : Int → Int → e_M → Prop} {x1 : Int} {M : e_M} (C : f_Hy sh t yX6_readCond rm cs D (lX6_readCond c_X6_readOne c_X7_take c_X6_step) R) (h15 : ∀ (x1 : Int) (x2 : Int) (M : e_M), k15 x1 x2 M → f_E sh t YX6_readCond rm cs (f_Q sh t R) 15 [.inr (.inr (.inl (6, 11, 22))), .inl x1, .inl x2] [] M) (h : VX6_readCond_2 c_X6_readOne c_X7_take c_X6_step k15 (fun M => R none M) x1 M) : f_E sh t YX6_readCond rm cs (f_Q sh t R) 2 [.inr (.inr (.inl (6, 11, 22))), .inl x1, .inr (.inr (.inr ()))] [] M :=
  f_go (KC := f_kc [(15, f_pl [(32, 6, 11), (1, 0, 0), (1, 0, 0)] [] (fun ls st M => k15 (f_vi (f_nth ls 1)) (f_vi (f_nth ls 2)) M))]) C qX6_readCondf (f_kc_cons (f_pl_ok rfl (fun ls st M h => h15 _ _ M h)) f_kc_nil) 52 3 h
set_option maxRecDepth 20000 in
theorem BX6_readCond_15 {sh : Nat → Nat × Nat} {t : Nat} {rm : Nat × Nat × Nat} {cs : Nat × Nat} {R : f_Rt} {D : Nat} {c_X6_readOne : e_M → (e_M → Prop) → Prop} {c_X7_take : e_M → (e_M → Prop) → Prop} {c_X6_step : Int → Int → e_M → (e_M → Prop) → Prop} {k60 : Int → e_M → Prop} {k15 : Int → Int → e_M → Prop} {x1 : Int} {x2 : Int} {M : e_M} (C : f_Hy sh t yX6_readCond rm cs D (lX6_readCond c_X6_readOne c_X7_take c_X6_step) R) (h60 : ∀ (x1 : Int) (M : e_M), k60 x1 M → f_E sh t YX6_readCond rm cs (f_Q sh t R) 60 [.inr (.inr (.inl (6, 11, 22))), .inl x1, .inr (.inr (.inr ()))] [] M) (h15 : ∀ (x1 : Int) (x2 : Int) (M : e_M), k15 x1 x2 M → f_E sh t YX6_readCond rm cs (f_Q sh t R) 15 [.inr (.inr (.inl (6, 11, 22))), .inl x1, .inl x2] [] M) (h : VX6_readCond_15 c_X6_readOne c_X7_take c_X6_step k60 k15 (fun M => R none M) x1 x2 M) : f_E sh t YX6_readCond rm cs (f_Q sh t R) 15 [.inr (.inr (.inl (6, 11, 22))), .inl x1, .inl x2] [] M :=
  f_go (KC := f_kc [(60, f_pl [(32, 6, 11), (1, 0, 0), (0, 0, 0)] [] (fun ls st M => k60 (f_vi (f_nth ls 1)) M)), (15, f_pl [(32, 6, 11), (1, 0, 0), (1, 0, 0)] [] (fun ls st M => k15 (f_vi (f_nth ls 1)) (f_vi (f_nth ls 2)) M))]) C qX6_readCondf (f_kc_cons (f_pl_ok rfl (fun ls st M h => h60 _ M h)) (f_kc_cons (f_pl_ok rfl (fun ls st M h => h15 _ _ M h)) f_kc_nil)) 52 11 h
set_option maxRecDepth 20000 in
theorem BX6_readCond_60 {sh : Nat → Nat × Nat} {t : Nat} {rm : Nat × Nat × Nat} {cs : Nat × Nat} {R : f_Rt} {D : Nat} {c_X6_readOne : e_M → (e_M → Prop) → Prop} {c_X7_take : e_M → (e_M → Prop) → Prop} {c_X6_step : Int → Int → e_M → (e_M → Prop) → Prop} {k72 : Int → e_M → Prop} {x1 : Int} {M : e_M} (C : f_Hy sh t yX6_readCond rm cs D (lX6_readCond c_X6_readOne c_X7_take c_X6_step) R) (h72 : ∀ (x1 : Int) (M : e_M), k72 x1 M → f_E sh t YX6_readCond rm cs (f_Q sh t R) 72 [.inr (.inr (.inl (6, 11, 22))), .inl x1, .inr (.inr (.inr ()))] [] M) (h : VX6_readCond_60 c_X6_readOne c_X7_take c_X6_step k72 (fun M => R none M) x1 M) : f_E sh t YX6_readCond rm cs (f_Q sh t R) 60 [.inr (.inr (.inl (6, 11, 22))), .inl x1, .inr (.inr (.inr ()))] [] M :=
  f_go (KC := f_kc [(72, f_pl [(32, 6, 11), (1, 0, 0), (0, 0, 0)] [] (fun ls st M => k72 (f_vi (f_nth ls 1)) M))]) C qX6_readCondf (f_kc_cons (f_pl_ok rfl (fun ls st M h => h72 _ M h)) f_kc_nil) 52 31 h
set_option maxRecDepth 20000 in
theorem BX6_readCond_72 {sh : Nat → Nat × Nat} {t : Nat} {rm : Nat × Nat × Nat} {cs : Nat × Nat} {R : f_Rt} {D : Nat} {c_X6_readOne : e_M → (e_M → Prop) → Prop} {c_X7_take : e_M → (e_M → Prop) → Prop} {c_X6_step : Int → Int → e_M → (e_M → Prop) → Prop} {k2 : Int → e_M → Prop} {x1 : Int} {M : e_M} (C : f_Hy sh t yX6_readCond rm cs D (lX6_readCond c_X6_readOne c_X7_take c_X6_step) R) (h2 : ∀ (x1 : Int) (M : e_M), k2 x1 M → f_E sh t YX6_readCond rm cs (f_Q sh t R) 2 [.inr (.inr (.inl (6, 11, 22))), .inl x1, .inr (.inr (.inr ()))] [] M) (h : VX6_readCond_72 c_X6_readOne c_X7_take c_X6_step k2 (fun M => R none M) x1 M) : f_E sh t YX6_readCond rm cs (f_Q sh t R) 72 [.inr (.inr (.inl (6, 11, 22))), .inl x1, .inr (.inr (.inr ()))] [] M :=
  f_go (KC := f_kc [(2, f_pl [(32, 6, 11), (1, 0, 0), (0, 0, 0)] [] (fun ls st M => k2 (f_vi (f_nth ls 1)) M))]) C qX6_readCondf (f_kc_cons (f_pl_ok rfl (fun ls st M h => h2 _ M h)) f_kc_nil) 52 38 h
set_option maxRecDepth 20000 in
theorem BX6_readCond {sh : Nat → Nat × Nat} {t : Nat} {rm : Nat × Nat × Nat} {cs : Nat × Nat} {R : f_Rt} {D : Nat} {c_X6_readOne : e_M → (e_M → Prop) → Prop} {c_X7_take : e_M → (e_M → Prop) → Prop} {c_X6_step : Int → Int → e_M → (e_M → Prop) → Prop} {k2 : Int → e_M → Prop} {M : e_M} (C : f_Hy sh t yX6_readCond rm cs D (lX6_readCond c_X6_readOne c_X7_take c_X6_step) R) (h2 : ∀ (x1 : Int) (M : e_M), k2 x1 M → f_E sh t YX6_readCond rm cs (f_Q sh t R) 2 [.inr (.inr (.inl (6, 11, 22))), .inl x1, .inr (.inr (.inr ()))] [] M) (h : VX6_readCond c_X6_readOne c_X7_take c_X6_step k2 (fun M => R none M) M) : f_E sh t YX6_readCond rm cs (f_Q sh t R) 0 [.inr (.inr (.inl (6, 11, 22))), .inr (.inr (.inr ())), .inr (.inr (.inr ()))] [] M :=
  f_go (KC := f_kc [(2, f_pl [(32, 6, 11), (1, 0, 0), (0, 0, 0)] [] (fun ls st M => k2 (f_vi (f_nth ls 1)) M))]) C qX6_readCondf (f_kc_cons (f_pl_ok rfl (fun ls st M h => h2 _ M h)) f_kc_nil) 52 0 h
def WX6_readCond_72 (c_X6_readOne : e_M → (e_M → Prop) → Prop) (c_X6_readCond : e_M → (e_M → Prop) → Prop) (H2 : Int → e_M → Prop) (Q : e_M → Prop) (x1 : Int) (M : e_M) : Prop :=
  VX6_readCond_72 (WX6_readOne c_X6_readOne c_X6_readCond) WX7_take WX6_step H2 Q x1 M
def WX6_readCond_60 (c_X6_readOne : e_M → (e_M → Prop) → Prop) (c_X6_readCond : e_M → (e_M → Prop) → Prop) (H2 : Int → e_M → Prop) (Q : e_M → Prop) (x1 : Int) (M : e_M) : Prop :=
  VX6_readCond_60 (WX6_readOne c_X6_readOne c_X6_readCond) WX7_take WX6_step (WX6_readCond_72 c_X6_readOne c_X6_readCond H2 Q) Q x1 M
def WX6_readCond_15 (c_X6_readOne : e_M → (e_M → Prop) → Prop) (c_X6_readCond : e_M → (e_M → Prop) → Prop) (H2 : Int → e_M → Prop) (Q : e_M → Prop) : Nat → Int → Int → e_M → Prop
  | 0, _, _, _ => False
  | n + 1, x1, x2, M =>
    VX6_readCond_15 (WX6_readOne c_X6_readOne c_X6_readCond) WX7_take WX6_step (WX6_readCond_60 c_X6_readOne c_X6_readCond H2 Q) (WX6_readCond_15 c_X6_readOne c_X6_readCond H2 Q n) Q x1 x2 M
def WX6_readCond_2 (c_X6_readOne : e_M → (e_M → Prop) → Prop) (c_X6_readCond : e_M → (e_M → Prop) → Prop) (Q : e_M → Prop) : Nat → Int → e_M → Prop
  | 0, _, _ => False
  | n + 1, x1, M =>
    VX6_readCond_2 (WX6_readOne c_X6_readOne c_X6_readCond) WX7_take WX6_step (fun x1 x2 M => ∃ j, WX6_readCond_15 c_X6_readOne c_X6_readCond (WX6_readCond_2 c_X6_readOne c_X6_readCond Q n) Q j x1 x2 M) Q x1 M
def WX6_readCond (c_X6_readOne : e_M → (e_M → Prop) → Prop) (c_X6_readCond : e_M → (e_M → Prop) → Prop) (M : e_M) (Q : e_M → Prop) : Prop :=
  VX6_readCond (WX6_readOne c_X6_readOne c_X6_readCond) WX7_take WX6_step (fun x1 M => ∃ j, WX6_readCond_2 c_X6_readOne c_X6_readCond Q j x1 M) Q M
theorem PX6_readCond_72 {sh : Nat → Nat × Nat} {t : Nat} {rm : Nat × Nat × Nat} {cs : Nat × Nat} {R : f_Rt} {D : Nat} {c_X6_readOne : e_M → (e_M → Prop) → Prop} {c_X6_readCond : e_M → (e_M → Prop) → Prop} {H2 : Int → e_M → Prop} {x1 : Int} {M : e_M} (C : f_Hy sh t yX6_readCond rm cs D (lX6_readCond (WX6_readOne c_X6_readOne c_X6_readCond) WX7_take WX6_step) R) (g2 : ∀ (x1 : Int) (M : e_M), H2 x1 M → f_E sh t YX6_readCond rm cs (f_Q sh t R) 2 [.inr (.inr (.inl (6, 11, 22))), .inl x1, .inr (.inr (.inr ()))] [] M) (h : WX6_readCond_72 c_X6_readOne c_X6_readCond H2 (fun M => R none M) x1 M) : f_E sh t YX6_readCond rm cs (f_Q sh t R) 72 [.inr (.inr (.inl (6, 11, 22))), .inl x1, .inr (.inr (.inr ()))] [] M :=
  BX6_readCond_72 C g2 h
theorem PX6_readCond_60 {sh : Nat → Nat × Nat} {t : Nat} {rm : Nat × Nat × Nat} {cs : Nat × Nat} {R : f_Rt} {D : Nat} {c_X6_readOne : e_M → (e_M → Prop) → Prop} {c_X6_readCond : e_M → (e_M → Prop) → Prop} {H2 : Int → e_M → Prop} {x1 : Int} {M : e_M} (C : f_Hy sh t yX6_readCond rm cs D (lX6_readCond (WX6_readOne c_X6_readOne c_X6_readCond) WX7_take WX6_step) R) (g2 : ∀ (x1 : Int) (M : e_M), H2 x1 M → f_E sh t YX6_readCond rm cs (f_Q sh t R) 2 [.inr (.inr (.inl (6, 11, 22))), .inl x1, .inr (.inr (.inr ()))] [] M) (h : WX6_readCond_60 c_X6_readOne c_X6_readCond H2 (fun M => R none M) x1 M) : f_E sh t YX6_readCond rm cs (f_Q sh t R) 60 [.inr (.inr (.inl (6, 11, 22))), .inl x1, .inr (.inr (.inr ()))] [] M :=
  BX6_readCond_60 C (fun x1 M h => PX6_readCond_72 C g2 h) h
theorem PX6_readCond_15 {sh : Nat → Nat × Nat} {t : Nat} {rm : Nat × Nat × Nat} {cs : Nat × Nat} {R : f_Rt} {D : Nat} {c_X6_readOne : e_M → (e_M → Prop) → Prop} {c_X6_readCond : e_M → (e_M → Prop) → Prop} {H2 : Int → e_M → Prop} (C : f_Hy sh t yX6_readCond rm cs D (lX6_readCond (WX6_readOne c_X6_readOne c_X6_readCond) WX7_take WX6_step) R) (g2 : ∀ (x1 : Int) (M : e_M), H2 x1 M → f_E sh t YX6_readCond rm cs (f_Q sh t R) 2 [.inr (.inr (.inl (6, 11, 22))), .inl x1, .inr (.inr (.inr ()))] [] M) : ∀ (n : Nat) (x1 : Int) (x2 : Int) (M : e_M), WX6_readCond_15 c_X6_readOne c_X6_readCond H2 (fun M => R none M) n x1 x2 M → f_E sh t YX6_readCond rm cs (f_Q sh t R) 15 [.inr (.inr (.inl (6, 11, 22))), .inl x1, .inl x2] [] M := by
  intro n
  induction n with
  | zero => intro x1 x2 M h; exact h.elim
  | succ n ih => intro x1 x2 M h; exact BX6_readCond_15 C (fun x1 M h => PX6_readCond_60 C g2 h) ih h
theorem PX6_readCond_2 {sh : Nat → Nat × Nat} {t : Nat} {rm : Nat × Nat × Nat} {cs : Nat × Nat} {R : f_Rt} {D : Nat} {c_X6_readOne : e_M → (e_M → Prop) → Prop} {c_X6_readCond : e_M → (e_M → Prop) → Prop} (C : f_Hy sh t yX6_readCond rm cs D (lX6_readCond (WX6_readOne c_X6_readOne c_X6_readCond) WX7_take WX6_step) R) : ∀ (n : Nat) (x1 : Int) (M : e_M), WX6_readCond_2 c_X6_readOne c_X6_readCond (fun M => R none M) n x1 M → f_E sh t YX6_readCond rm cs (f_Q sh t R) 2 [.inr (.inr (.inl (6, 11, 22))), .inl x1, .inr (.inr (.inr ()))] [] M := by
  intro n
  induction n with
  | zero => intro x1 M h; exact h.elim
  | succ n ih => intro x1 M h; exact BX6_readCond_2 C (fun x1 x2 M ⟨j, h⟩ => PX6_readCond_15 C ih j _ _ _ h) h
theorem PX6_readCond {sh : Nat → Nat × Nat} {t : Nat} {rm : Nat × Nat × Nat} {cs : Nat × Nat} {R : f_Rt} {D : Nat} {c_X6_readOne : e_M → (e_M → Prop) → Prop} {c_X6_readCond : e_M → (e_M → Prop) → Prop} {M : e_M} (C : f_Hy sh t yX6_readCond rm cs D (lX6_readCond (WX6_readOne c_X6_readOne c_X6_readCond) WX7_take WX6_step) R) (h : WX6_readCond c_X6_readOne c_X6_readCond M (fun M => R none M)) : f_E sh t YX6_readCond rm cs (f_Q sh t R) 0 [.inr (.inr (.inl (6, 11, 22))), .inr (.inr (.inr ())), .inr (.inr (.inr ()))] [] M :=
  BX6_readCond C (fun x1 M ⟨j, h⟩ => PX6_readCond_2 C j _ _ h) h
def wX6_readCond (c_X6_readOne : e_M → (e_M → Prop) → Prop) (c_X6_readCond : e_M → (e_M → Prop) → Prop) : f_Wt := f_wm [(32, 6, 11)] (fun ar M R => WX6_readCond c_X6_readOne c_X6_readCond M (fun M => R none M))
theorem TX6_readCond {sh : Nat → Nat × Nat} {t : Nat} {c_X6_readOne : e_M → (e_M → Prop) → Prop} {c_X6_readCond : e_M → (e_M → Prop) → Prop} {D : Nat} (hD : 41 ≤ D) (o0 : f_Mt sh t YX6_readOne (D - 2) (f_wm [(32, 6, 11)] (fun ar M R => c_X6_readOne  M (fun M => R none M)))) (o1 : f_Mt sh t YX6_readCond (D - 2) (f_wm [(32, 6, 11)] (fun ar M R => c_X6_readCond  M (fun M => R none M)))) : f_Mt sh t YX6_readCond D (wX6_readCond c_X6_readOne c_X6_readCond) :=
  f_Mt_of (k := 2) (Nat.le_of_ble_eq_true rfl) rfl rfl (fun ar M R rm cs h1 h2 h3 hX h => PX6_readCond ⟨by omega, h1, h2, h3, ⟨(TX6_readOne (D := D - 1) (by omega) (f_Mt.up (by omega) o0) (f_Mt.up (by omega) o1)), (f_Mt.up (by omega) TX7_take), (f_Mt.up (by omega) TX6_step), trivial⟩, hX⟩ h)
def CCX6_readCond : Nat → (e_M → (e_M → Prop) → Prop) × (e_M → (e_M → Prop) → Prop)
  | 0 => (fun _ _ => False, fun _ _ => False)
  | d + 1 => (WX6_readCond (CCX6_readCond d).2 (CCX6_readCond d).1, WX6_readOne (CCX6_readCond d).2 (CCX6_readCond d).1)
def CX6_readCond (d : Nat) : e_M → (e_M → Prop) → Prop := (CCX6_readCond d).1
def CX6_readOne (d : Nat) : e_M → (e_M → Prop) → Prop := (CCX6_readCond d).2
theorem TCCX6_readCond {sh : Nat → Nat × Nat} {t : Nat} : ∀ d : Nat, f_Mt sh t YX6_readCond (41 + 2 * d) (f_wm [(32, 6, 11)] (fun ar M R => CX6_readCond d  M (fun M => R none M))) ∧ f_Mt sh t YX6_readOne (41 + 2 * d) (f_wm [(32, 6, 11)] (fun ar M R => CX6_readOne d  M (fun M => R none M))) := by
  intro d
  induction d with
  | zero => exact ⟨⟨Nat.le_of_ble_eq_true rfl, fun ar M R rm cs h => (f_c_b h).2.elim⟩, ⟨Nat.le_of_ble_eq_true rfl, fun ar M R rm cs h => (f_c_b h).2.elim⟩⟩
  | succ d ih => exact ⟨(TX6_readCond (D := 41 + 2 * (d + 1)) (by omega) (f_Mt.up (by omega) ih.2) (f_Mt.up (by omega) ih.1)), (TX6_readOne (D := 41 + 2 * (d + 1)) (by omega) (f_Mt.up (by omega) ih.2) (f_Mt.up (by omega) ih.1))⟩
theorem TCX6_readCond {sh : Nat → Nat × Nat} {t : Nat} (d : Nat) : f_Mt sh t YX6_readCond (41 + 2 * d) (f_wm [(32, 6, 11)] (fun ar M R => CX6_readCond d  M (fun M => R none M))) := (TCCX6_readCond d).1
theorem TCX6_readOne {sh : Nat → Nat × Nat} {t : Nat} (d : Nat) : f_Mt sh t YX6_readOne (41 + 2 * d) (f_wm [(32, 6, 11)] (fun ar M R => CX6_readOne d  M (fun M => R none M))) := (TCCX6_readCond d).2
def VX7_finish (c_X7_note : Int → e_M → (e_M → Prop) → Prop) (Q : e_M → Prop) (M : e_M) : Prop :=
  (((M 10 6) = 0 → ((0 ≤ (M 10 5) ∧ (M 10 5) < 641) ∧ (((M 13 ((M 10 5).toNat)) ≤ 600 → (Q M)) ∧ (600 < (M 13 ((M 10 5).toNat)) → (c_X7_note 4 M (fun M1 => (Q M1))))))) ∧ (¬ (M 10 6) = 0 → (c_X7_note 1 M (fun M2 => (Q M2)))))
def yX7_finish (i : Nat) : e_Y := x_get YX7_finish [YX7_note] i
def pX7_finishf : List x_I := [(0, 4, 1, 0, 0, 0, []), (1, 25, 7, 6, 0, 0, []), (4, 17, 15, 0, 8, 0, []), (7, 4, 1, 0, 0, 0, []), (8, 0, 1, 0, 0, 1, []), (9, 40, 0, 2, 9, 0, []), (12, 19, 35, 0, 18, 0, []), (15, 4, 1, 0, 0, 0, []), (16, 25, 7, 2, 4, 0, [(0, 20, 641), (0, 1, 3)]), (19, 4, 1, 0, 0, 0, []), (20, 25, 7, 5, 0, 0, []), (23, 27, 0, 0, 0, 0, []), (24, 0, 3, 0, 0, 600, []), (27, 18, 35, 5, 18, 0, []), (30, 4, 1, 0, 0, 0, []), (31, 0, 1, 0, 0, 4, []), (32, 40, 0, 2, 9, 0, []), (35, 44, 0, 0, 0, 0, [])]
set_option maxRecDepth 20000 in
theorem qX7_finishf : f_all yX7_finish YX7_finish pX7_finishf :=
  ⟨f_aload_n (n := 0) (e_dx DX7_finish_0 0 rfl) rfl,
  f_getf (e_dx DX7_finish_0 1 rfl) fX7_32 rfl (by decide) (by decide) (by decide),
  f_if_eq (e_dx DX7_finish_0 2 rfl) rfl,
  f_aload_n (n := 0) (e_dx DX7_finish_0 3 rfl) rfl,
  f_iconst (e_dx DX7_finish_0 4 rfl) ⟨by decide, by decide⟩,
  x_callV (e_dx DX7_finish_0 5 rfl) mwX7_note vwX7_note cX7_124 rfl,
  f_g19 (e_dx DX7_finish_0 6 rfl) rfl,
  f_aload_n (n := 0) (e_dx DX7_finish_0 7 rfl) rfl,
  f_getA (e_dx DX7_finish_0 8 rfl) fX7_19 rfl (by decide) (Nat.le_of_ble_eq_true rfl) rfl (by decide),
  f_aload_n (n := 0) (e_dx DX7_finish_0 9 rfl) rfl,
  f_getf (e_dx DX7_finish_0 10 rfl) fX7_29 rfl (by decide) (by decide) (by decide),
  f_iaload (e_dx DX7_finish_0 11 rfl),
  f_sipush (e_dx DX7_finish_0 12 rfl) ⟨by decide, by decide⟩,
  f_icmp_le (e_dx DX7_finish_0 13 rfl) rfl,
  f_aload_n (n := 0) (e_dx DX7_finish_0 14 rfl) rfl,
  f_iconst (e_dx DX7_finish_0 15 rfl) ⟨by decide, by decide⟩,
  x_callV (e_dx DX7_finish_0 16 rfl) mwX7_note vwX7_note cX7_124 rfl,
  ⟨(e_dx DX7_finish_0 17 rfl), rfl⟩, trivial⟩
def lX7_finish (c_X7_note : Int → e_M → (e_M → Prop) → Prop) : List (Nat × f_Wt) := [(0, f_wm [(20, 7, 12), (1, 0, 0)] (fun ar M R => c_X7_note (f_vi (f_nth ar 1)) M (fun M => R none M)))]
set_option maxRecDepth 20000 in
theorem BX7_finish {sh : Nat → Nat × Nat} {t : Nat} {rm : Nat × Nat × Nat} {cs : Nat × Nat} {R : f_Rt} {c_X7_note : Int → e_M → (e_M → Prop) → Prop} {M : e_M} (C : f_Hy sh t yX7_finish rm cs 5 (lX7_finish c_X7_note) R) (h : VX7_finish c_X7_note (fun M => R none M) M) : f_E sh t YX7_finish rm cs (f_Q sh t R) 0 [.inr (.inr (.inl (7, 12, 10)))] [] M :=
  f_go (KC := f_kc []) C qX7_finishf f_kc_nil 20 0 h
def WX7_finish (M : e_M) (Q : e_M → Prop) : Prop :=
  VX7_finish WX7_note Q M
theorem PX7_finish {sh : Nat → Nat × Nat} {t : Nat} {rm : Nat × Nat × Nat} {cs : Nat × Nat} {R : f_Rt} {M : e_M} (C : f_Hy sh t yX7_finish rm cs 5 (lX7_finish WX7_note) R) (h : WX7_finish M (fun M => R none M)) : f_E sh t YX7_finish rm cs (f_Q sh t R) 0 [.inr (.inr (.inl (7, 12, 10)))] [] M :=
  BX7_finish C h
def wX7_finish : f_Wt := f_wm [(20, 7, 12)] (fun ar M R => WX7_finish M (fun M => R none M))
theorem TX7_finish {sh : Nat → Nat × Nat} {t : Nat} : f_Mt sh t YX7_finish 5 (wX7_finish) :=
  f_Mt_of (k := 0) (Nat.le_of_ble_eq_true rfl) rfl rfl (fun ar M R rm cs h1 h2 h3 hX h => PX7_finish ⟨Nat.le_of_ble_eq_true rfl, h1, h2, h3, ⟨(f_Mt.up (Nat.le_of_ble_eq_true rfl) TX7_note), trivial⟩, hX⟩ h)
def VX6_read_51 (c_X7_take : e_M → (e_M → Prop) → Prop) (c_X7_takeDate : e_M → (Int → e_M → Prop) → Prop) (c_X6_readAsk : e_M → (e_M → Prop) → Prop) (c_X6_readSet : e_M → (Int → e_M → Prop) → Prop) (c_X6_readCond : e_M → (e_M → Prop) → Prop) (c_X7_finish : e_M → (e_M → Prop) → Prop) (k82 : e_M → Prop) (Q : Int → e_M → Prop) (M : e_M) : Prop :=
  ((¬ (M 10 6) = 239 → (k82 M)) ∧ ((M 10 6) = 239 → (c_X7_take M (fun M1 => (c_X7_takeDate M1 (fun r2 M3 => (∀ M4 : e_M, M4 = e_up M3 22 2 r2 → (k82 M4))))))))
def VX6_read_82 (c_X7_take : e_M → (e_M → Prop) → Prop) (c_X7_takeDate : e_M → (Int → e_M → Prop) → Prop) (c_X6_readAsk : e_M → (e_M → Prop) → Prop) (c_X6_readSet : e_M → (Int → e_M → Prop) → Prop) (c_X6_readCond : e_M → (e_M → Prop) → Prop) (c_X7_finish : e_M → (e_M → Prop) → Prop) (k115 : e_M → Prop) (Q : Int → e_M → Prop) (M : e_M) : Prop :=
  (c_X6_readAsk M (fun M1 => (∀ M2 : e_M, M2 = e_up M1 22 9 (M1 22 8) → ((243 < (M2 22 3) → (k115 M2)) ∧ ((M2 22 3) ≤ 243 → (c_X6_readSet M2 (fun r3 M4 => ((r3 = 0 → (k115 M4)) ∧ (¬ r3 = 0 → (c_X6_readCond M4 (fun M5 => (k115 M5))))))))))))
def VX6_read_115 (c_X7_take : e_M → (e_M → Prop) → Prop) (c_X7_takeDate : e_M → (Int → e_M → Prop) → Prop) (c_X6_readAsk : e_M → (e_M → Prop) → Prop) (c_X6_readSet : e_M → (Int → e_M → Prop) → Prop) (c_X6_readCond : e_M → (e_M → Prop) → Prop) (c_X7_finish : e_M → (e_M → Prop) → Prop) (Q : Int → e_M → Prop) (M : e_M) : Prop :=
  (c_X7_finish M (fun M1 => ((¬ (M1 10 7) = 0 → (Q 0 M1)) ∧ ((M1 10 7) = 0 → (Q 1 M1)))))
def VX6_read (c_X7_take : e_M → (e_M → Prop) → Prop) (c_X7_takeDate : e_M → (Int → e_M → Prop) → Prop) (c_X6_readAsk : e_M → (e_M → Prop) → Prop) (c_X6_readSet : e_M → (Int → e_M → Prop) → Prop) (c_X6_readCond : e_M → (e_M → Prop) → Prop) (c_X7_finish : e_M → (e_M → Prop) → Prop) (k51 : e_M → Prop) (Q : Int → e_M → Prop) (M : e_M) : Prop :=
  (∀ M1 : e_M, M1 = e_up M 22 1 (-1) → (∀ M2 : e_M, M2 = e_up M1 22 2 (-1) → (∀ M3 : e_M, M3 = e_up M2 22 8 0 → (∀ M4 : e_M, M4 = e_up M3 22 10 0 → ((¬ (M4 10 6) = 234 → (k51 M4)) ∧ ((M4 10 6) = 234 → (c_X7_take M4 (fun M5 => (c_X7_takeDate M5 (fun r6 M7 => (∀ M8 : e_M, M8 = e_up M7 22 1 r6 → (k51 M8))))))))))))
def yX6_read (i : Nat) : e_Y := x_get YX6_read [YX7_take, YX7_takeDate, YX6_readAsk, YX6_readSet, YX6_readCond, YX7_finish] i
def pX6_readf : List x_I := [(0, 4, 1, 0, 0, 0, []), (1, 0, 1, 0, 0, (-1), []), (2, 26, 6, 1, 0, 0, []), (5, 4, 1, 0, 0, 0, []), (6, 0, 1, 0, 0, (-1), []), (7, 26, 6, 2, 0, 0, []), (10, 4, 1, 0, 0, 0, []), (11, 0, 1, 0, 0, 0, []), (12, 26, 6, 8, 0, 0, []), (15, 4, 1, 0, 0, 0, []), (16, 0, 1, 0, 0, 0, []), (17, 26, 6, 10, 0, 0, []), (20, 4, 1, 0, 0, 0, []), (21, 25, 6, 0, 4, 0, [(0, 7, 12), (0, 2, 10)]), (24, 25, 7, 6, 0, 0, []), (27, 0, 3, 0, 0, 234, []), (30, 18, 51, 1, 26, 0, []), (33, 4, 1, 0, 0, 0, []), (34, 25, 6, 0, 4, 0, [(0, 7, 12), (0, 2, 10)]), (37, 40, 0, 1, 9, 0, []), (40, 4, 1, 0, 0, 0, []), (41, 4, 1, 0, 0, 0, []), (42, 25, 6, 0, 4, 0, [(0, 7, 12), (0, 2, 10)]), (45, 40, 1, 1, 9, 0, []), (48, 26, 6, 1, 0, 0, []), (51, 49, 0, 0, 0, 0, []), (51, 4, 1, 0, 0, 0, []), (52, 25, 6, 0, 4, 0, [(0, 7, 12), (0, 2, 10)]), (55, 25, 7, 6, 0, 0, []), (58, 0, 3, 0, 0, 239, []), (61, 18, 82, 1, 40, 0, []), (64, 4, 1, 0, 0, 0, []), (65, 25, 6, 0, 4, 0, [(0, 7, 12), (0, 2, 10)]), (68, 40, 0, 1, 9, 0, []), (71, 4, 1, 0, 0, 0, []), (72, 4, 1, 0, 0, 0, []), (73, 25, 6, 0, 4, 0, [(0, 7, 12), (0, 2, 10)]), (76, 40, 1, 1, 9, 0, []), (79, 26, 6, 2, 0, 0, []), (82, 49, 0, 0, 0, 0, []), (82, 4, 1, 0, 0, 0, []), (83, 40, 2, 1, 8, 0, []), (86, 4, 1, 0, 0, 0, []), (87, 4, 1, 0, 0, 0, []), (88, 25, 6, 8, 0, 0, []), (91, 26, 6, 9, 0, 0, []), (94, 4, 1, 0, 0, 0, []), (95, 25, 6, 3, 0, 0, []), (98, 0, 3, 0, 0, 243, []), (101, 18, 115, 4, 56, 0, []), (104, 4, 1, 0, 0, 0, []), (105, 40, 3, 1, 8, 0, []), (108, 17, 115, 0, 56, 0, []), (111, 4, 1, 0, 0, 0, []), (112, 40, 4, 1, 8, 0, []), (115, 49, 0, 0, 0, 0, []), (115, 4, 1, 0, 0, 0, []), (116, 25, 6, 0, 4, 0, [(0, 7, 12), (0, 2, 10)]), (119, 40, 5, 1, 9, 0, []), (122, 4, 1, 0, 0, 0, []), (123, 25, 6, 0, 4, 0, [(0, 7, 12), (0, 2, 10)]), (126, 25, 7, 7, 0, 0, []), (129, 17, 136, 1, 66, 0, []), (132, 0, 1, 0, 0, 1, []), (133, 19, 137, 0, 67, 0, []), (136, 0, 1, 0, 0, 0, []), (137, 48, 0, 0, 0, 0, [])]
set_option maxRecDepth 20000 in
theorem qX6_readf : f_all yX6_read YX6_read pX6_readf :=
  ⟨f_aload_n (n := 0) (e_dx DX6_read_0 0 rfl) rfl,
  f_iconst (e_dx DX6_read_0 1 rfl) ⟨by decide, by decide⟩,
  f_putn (e_dx DX6_read_0 2 rfl) fX6_9 (fun q hq => by cases hq; rfl) rfl (Or.inl rfl) (by decide),
  f_aload_n (n := 0) (e_dx DX6_read_0 3 rfl) rfl,
  f_iconst (e_dx DX6_read_0 4 rfl) ⟨by decide, by decide⟩,
  f_putn (e_dx DX6_read_0 5 rfl) fX6_15 (fun q hq => by cases hq; rfl) rfl (Or.inl rfl) (by decide),
  f_aload_n (n := 0) (e_dx DX6_read_0 6 rfl) rfl,
  f_iconst (e_dx DX6_read_0 7 rfl) ⟨by decide, by decide⟩,
  f_putn (e_dx DX6_read_0 8 rfl) fX6_36 (fun q hq => by cases hq; rfl) rfl (Or.inl rfl) (by decide),
  f_aload_n (n := 0) (e_dx DX6_read_0 9 rfl) rfl,
  f_iconst (e_dx DX6_read_0 10 rfl) ⟨by decide, by decide⟩,
  f_putn (e_dx DX6_read_0 11 rfl) fX6_42 (fun q hq => by cases hq; rfl) rfl (Or.inl rfl) (by decide),
  f_aload_n (n := 0) (e_dx DX6_read_0 12 rfl) rfl,
  f_getA (e_dx DX6_read_0 13 rfl) fX6_45 rfl (by decide) (Nat.le_of_ble_eq_true rfl) rfl (by decide),
  f_getf (e_dx DX6_read_0 14 rfl) fX6_49 rfl (by decide) (by decide) (by decide),
  f_sipush (e_dx DX6_read_0 15 rfl) ⟨by decide, by decide⟩,
  f_icmp_ne (e_dx DX6_read_0 16 rfl) rfl,
  f_aload_n (n := 0) (e_dx DX6_read_0 17 rfl) rfl,
  f_getA (e_dx DX6_read_0 18 rfl) fX6_45 rfl (by decide) (Nat.le_of_ble_eq_true rfl) rfl (by decide),
  x_callV (e_dx DX6_read_0 19 rfl) mwX7_take vwX7_take cX6_54 rfl,
  f_aload_n (n := 0) (e_dx DX6_read_0 20 rfl) rfl,
  f_aload_n (n := 0) (e_dx DX6_read_0 21 rfl) rfl,
  f_getA (e_dx DX6_read_0 22 rfl) fX6_45 rfl (by decide) (Nat.le_of_ble_eq_true rfl) rfl (by decide),
  x_callV (e_dx DX6_read_0 23 rfl) mwX7_takeDate vwX7_takeDate cX6_57 rfl,
  f_putn (e_dx DX6_read_0 24 rfl) fX6_9 (fun q hq => by cases hq; rfl) rfl (Or.inl rfl) (by decide),
  trivial,
  f_aload_n (n := 0) (e_dx DX6_read_0 25 rfl) rfl,
  f_getA (e_dx DX6_read_0 26 rfl) fX6_45 rfl (by decide) (Nat.le_of_ble_eq_true rfl) rfl (by decide),
  f_getf (e_dx DX6_read_0 27 rfl) fX6_49 rfl (by decide) (by decide) (by decide),
  f_sipush (e_dx DX6_read_0 28 rfl) ⟨by decide, by decide⟩,
  f_icmp_ne (e_dx DX6_read_0 29 rfl) rfl,
  f_aload_n (n := 0) (e_dx DX6_read_0 30 rfl) rfl,
  f_getA (e_dx DX6_read_0 31 rfl) fX6_45 rfl (by decide) (Nat.le_of_ble_eq_true rfl) rfl (by decide),
  x_callV (e_dx DX6_read_0 32 rfl) mwX7_take vwX7_take cX6_54 rfl,
  f_aload_n (n := 0) (e_dx DX6_read_0 33 rfl) rfl,
  f_aload_n (n := 0) (e_dx DX6_read_0 34 rfl) rfl,
  f_getA (e_dx DX6_read_0 35 rfl) fX6_45 rfl (by decide) (Nat.le_of_ble_eq_true rfl) rfl (by decide),
  x_callV (e_dx DX6_read_0 36 rfl) mwX7_takeDate vwX7_takeDate cX6_57 rfl,
  f_putn (e_dx DX6_read_0 37 rfl) fX6_15 (fun q hq => by cases hq; rfl) rfl (Or.inl rfl) (by decide),
  trivial,
  f_aload_n (n := 0) (e_dx DX6_read_0 38 rfl) rfl,
  x_callV (e_dx DX6_read_0 39 rfl) mwX6_readAsk vwX6_readAsk cX6_61 rfl,
  f_aload_n (n := 0) (e_dx DX6_read_1 0 rfl) rfl,
  f_aload_n (n := 0) (e_dx DX6_read_1 1 rfl) rfl,
  f_getf (e_dx DX6_read_1 2 rfl) fX6_36 rfl (by decide) (by decide) (by decide),
  f_putn (e_dx DX6_read_1 3 rfl) fX6_39 (fun q hq => by cases hq; rfl) rfl (Or.inl rfl) (by decide),
  f_aload_n (n := 0) (e_dx DX6_read_1 4 rfl) rfl,
  f_getf (e_dx DX6_read_1 5 rfl) fX6_18 rfl (by decide) (by decide) (by decide),
  f_sipush (e_dx DX6_read_1 6 rfl) ⟨by decide, by decide⟩,
  f_icmp_gt (e_dx DX6_read_1 7 rfl) rfl,
  f_aload_n (n := 0) (e_dx DX6_read_1 8 rfl) rfl,
  x_callV (e_dx DX6_read_1 9 rfl) mwX6_readSet vwX6_readSet cX6_64 rfl,
  f_if_eq (e_dx DX6_read_1 10 rfl) rfl,
  f_aload_n (n := 0) (e_dx DX6_read_1 11 rfl) rfl,
  x_callV (e_dx DX6_read_1 12 rfl) mwX6_readCond vwX6_readCond cX6_68 rfl,
  trivial,
  f_aload_n (n := 0) (e_dx DX6_read_1 13 rfl) rfl,
  f_getA (e_dx DX6_read_1 14 rfl) fX6_45 rfl (by decide) (Nat.le_of_ble_eq_true rfl) rfl (by decide),
  x_callV (e_dx DX6_read_1 15 rfl) mwX7_finish vwX7_finish cX6_71 rfl,
  f_aload_n (n := 0) (e_dx DX6_read_1 16 rfl) rfl,
  f_getA (e_dx DX6_read_1 17 rfl) fX6_45 rfl (by decide) (Nat.le_of_ble_eq_true rfl) rfl (by decide),
  f_getf (e_dx DX6_read_1 18 rfl) fX6_74 rfl (by decide) (by decide) (by decide),
  f_if_ne (e_dx DX6_read_1 19 rfl) rfl,
  f_iconst (e_dx DX6_read_1 20 rfl) ⟨by decide, by decide⟩,
  f_g19 (e_dx DX6_read_1 21 rfl) rfl,
  f_iconst (e_dx DX6_read_1 22 rfl) ⟨by decide, by decide⟩,
  ⟨(e_dx DX6_read_1 23 rfl), rfl⟩, trivial⟩
def lX6_read (c_X7_take : e_M → (e_M → Prop) → Prop) (c_X7_takeDate : e_M → (Int → e_M → Prop) → Prop) (c_X6_readAsk : e_M → (e_M → Prop) → Prop) (c_X6_readSet : e_M → (Int → e_M → Prop) → Prop) (c_X6_readCond : e_M → (e_M → Prop) → Prop) (c_X7_finish : e_M → (e_M → Prop) → Prop) : List (Nat × f_Wt) := [(0, f_wm [(20, 7, 12)] (fun ar M R => c_X7_take  M (fun M => R none M))), (1, f_wm [(20, 7, 12)] (fun ar M R => c_X7_takeDate  M (fun r M => R (some (.inl r)) M))), (2, f_wm [(32, 6, 11)] (fun ar M R => c_X6_readAsk  M (fun M => R none M))), (3, f_wm [(32, 6, 11)] (fun ar M R => c_X6_readSet  M (fun r M => R (some (.inl r)) M))), (4, f_wm [(32, 6, 11)] (fun ar M R => c_X6_readCond  M (fun M => R none M))), (5, f_wm [(20, 7, 12)] (fun ar M R => c_X7_finish  M (fun M => R none M)))]
set_option maxRecDepth 20000 in
theorem BX6_read_51 {sh : Nat → Nat × Nat} {t : Nat} {rm : Nat × Nat × Nat} {cs : Nat × Nat} {R : f_Rt} {c_X7_take : e_M → (e_M → Prop) → Prop} {c_X7_takeDate : e_M → (Int → e_M → Prop) → Prop} {c_X6_readAsk : e_M → (e_M → Prop) → Prop} {c_X6_readSet : e_M → (Int → e_M → Prop) → Prop} {c_X6_readCond : e_M → (e_M → Prop) → Prop} {c_X7_finish : e_M → (e_M → Prop) → Prop} {k82 : e_M → Prop} {M : e_M} (C : f_Hy sh t yX6_read rm cs 68 (lX6_read c_X7_take c_X7_takeDate c_X6_readAsk c_X6_readSet c_X6_readCond c_X7_finish) R) (h82 : ∀ (M : e_M), k82 M → f_E sh t YX6_read rm cs (f_Q sh t R) 82 [.inr (.inr (.inl (6, 11, 22)))] [] M) (h : VX6_read_51 c_X7_take c_X7_takeDate c_X6_readAsk c_X6_readSet c_X6_readCond c_X7_finish k82 (fun r M => R (some (.inl r)) M) M) : f_E sh t YX6_read rm cs (f_Q sh t R) 51 [.inr (.inr (.inl (6, 11, 22)))] [] M :=
  f_go (KC := f_kc [(82, f_pl [(32, 6, 11)] [] (fun ls st M => k82 M))]) C qX6_readf (f_kc_cons (f_pl_ok rfl (fun ls st M h => h82  M h)) f_kc_nil) 69 26 h
set_option maxRecDepth 20000 in
theorem BX6_read_82 {sh : Nat → Nat × Nat} {t : Nat} {rm : Nat × Nat × Nat} {cs : Nat × Nat} {R : f_Rt} {c_X7_take : e_M → (e_M → Prop) → Prop} {c_X7_takeDate : e_M → (Int → e_M → Prop) → Prop} {c_X6_readAsk : e_M → (e_M → Prop) → Prop} {c_X6_readSet : e_M → (Int → e_M → Prop) → Prop} {c_X6_readCond : e_M → (e_M → Prop) → Prop} {c_X7_finish : e_M → (e_M → Prop) → Prop} {k115 : e_M → Prop} {M : e_M} (C : f_Hy sh t yX6_read rm cs 68 (lX6_read c_X7_take c_X7_takeDate c_X6_readAsk c_X6_readSet c_X6_readCond c_X7_finish) R) (h115 : ∀ (M : e_M), k115 M → f_E sh t YX6_read rm cs (f_Q sh t R) 115 [.inr (.inr (.inl (6, 11, 22)))] [] M) (h : VX6_read_82 c_X7_take c_X7_takeDate c_X6_readAsk c_X6_readSet c_X6_readCond c_X7_finish k115 (fun r M => R (some (.inl r)) M) M) : f_E sh t YX6_read rm cs (f_Q sh t R) 82 [.inr (.inr (.inl (6, 11, 22)))] [] M :=
  f_go (KC := f_kc [(115, f_pl [(32, 6, 11)] [] (fun ls st M => k115 M))]) C qX6_readf (f_kc_cons (f_pl_ok rfl (fun ls st M h => h115  M h)) f_kc_nil) 69 40 h
set_option maxRecDepth 20000 in
theorem BX6_read_115 {sh : Nat → Nat × Nat} {t : Nat} {rm : Nat × Nat × Nat} {cs : Nat × Nat} {R : f_Rt} {c_X7_take : e_M → (e_M → Prop) → Prop} {c_X7_takeDate : e_M → (Int → e_M → Prop) → Prop} {c_X6_readAsk : e_M → (e_M → Prop) → Prop} {c_X6_readSet : e_M → (Int → e_M → Prop) → Prop} {c_X6_readCond : e_M → (e_M → Prop) → Prop} {c_X7_finish : e_M → (e_M → Prop) → Prop} {M : e_M} (C : f_Hy sh t yX6_read rm cs 68 (lX6_read c_X7_take c_X7_takeDate c_X6_readAsk c_X6_readSet c_X6_readCond c_X7_finish) R) (h : VX6_read_115 c_X7_take c_X7_takeDate c_X6_readAsk c_X6_readSet c_X6_readCond c_X7_finish (fun r M => R (some (.inl r)) M) M) : f_E sh t YX6_read rm cs (f_Q sh t R) 115 [.inr (.inr (.inl (6, 11, 22)))] [] M :=
  f_go (KC := f_kc []) C qX6_readf f_kc_nil 69 56 h
set_option maxRecDepth 20000 in
theorem BX6_read {sh : Nat → Nat × Nat} {t : Nat} {rm : Nat × Nat × Nat} {cs : Nat × Nat} {R : f_Rt} {c_X7_take : e_M → (e_M → Prop) → Prop} {c_X7_takeDate : e_M → (Int → e_M → Prop) → Prop} {c_X6_readAsk : e_M → (e_M → Prop) → Prop} {c_X6_readSet : e_M → (Int → e_M → Prop) → Prop} {c_X6_readCond : e_M → (e_M → Prop) → Prop} {c_X7_finish : e_M → (e_M → Prop) → Prop} {k51 : e_M → Prop} {M : e_M} (C : f_Hy sh t yX6_read rm cs 68 (lX6_read c_X7_take c_X7_takeDate c_X6_readAsk c_X6_readSet c_X6_readCond c_X7_finish) R) (h51 : ∀ (M : e_M), k51 M → f_E sh t YX6_read rm cs (f_Q sh t R) 51 [.inr (.inr (.inl (6, 11, 22)))] [] M) (h : VX6_read c_X7_take c_X7_takeDate c_X6_readAsk c_X6_readSet c_X6_readCond c_X7_finish k51 (fun r M => R (some (.inl r)) M) M) : f_E sh t YX6_read rm cs (f_Q sh t R) 0 [.inr (.inr (.inl (6, 11, 22)))] [] M :=
  f_go (KC := f_kc [(51, f_pl [(32, 6, 11)] [] (fun ls st M => k51 M))]) C qX6_readf (f_kc_cons (f_pl_ok rfl (fun ls st M h => h51  M h)) f_kc_nil) 69 0 h
def WX6_read_115 (Q : Int → e_M → Prop) (M : e_M) : Prop :=
  VX6_read_115 WX7_take WX7_takeDate WX6_readAsk WX6_readSet (CX6_readCond 13) WX7_finish Q M
def WX6_read_82 (Q : Int → e_M → Prop) (M : e_M) : Prop :=
  VX6_read_82 WX7_take WX7_takeDate WX6_readAsk WX6_readSet (CX6_readCond 13) WX7_finish (WX6_read_115 Q) Q M
def WX6_read_51 (Q : Int → e_M → Prop) (M : e_M) : Prop :=
  VX6_read_51 WX7_take WX7_takeDate WX6_readAsk WX6_readSet (CX6_readCond 13) WX7_finish (WX6_read_82 Q) Q M
def WX6_read (M : e_M) (Q : Int → e_M → Prop) : Prop :=
  VX6_read WX7_take WX7_takeDate WX6_readAsk WX6_readSet (CX6_readCond 13) WX7_finish (WX6_read_51 Q) Q M
theorem PX6_read_115 {sh : Nat → Nat × Nat} {t : Nat} {rm : Nat × Nat × Nat} {cs : Nat × Nat} {R : f_Rt} {M : e_M} (C : f_Hy sh t yX6_read rm cs 68 (lX6_read WX7_take WX7_takeDate WX6_readAsk WX6_readSet (CX6_readCond 13) WX7_finish) R) (h : WX6_read_115 (fun r M => R (some (.inl r)) M) M) : f_E sh t YX6_read rm cs (f_Q sh t R) 115 [.inr (.inr (.inl (6, 11, 22)))] [] M :=
  BX6_read_115 C h
theorem PX6_read_82 {sh : Nat → Nat × Nat} {t : Nat} {rm : Nat × Nat × Nat} {cs : Nat × Nat} {R : f_Rt} {M : e_M} (C : f_Hy sh t yX6_read rm cs 68 (lX6_read WX7_take WX7_takeDate WX6_readAsk WX6_readSet (CX6_readCond 13) WX7_finish) R) (h : WX6_read_82 (fun r M => R (some (.inl r)) M) M) : f_E sh t YX6_read rm cs (f_Q sh t R) 82 [.inr (.inr (.inl (6, 11, 22)))] [] M :=
  BX6_read_82 C (fun M h => PX6_read_115 C h) h
theorem PX6_read_51 {sh : Nat → Nat × Nat} {t : Nat} {rm : Nat × Nat × Nat} {cs : Nat × Nat} {R : f_Rt} {M : e_M} (C : f_Hy sh t yX6_read rm cs 68 (lX6_read WX7_take WX7_takeDate WX6_readAsk WX6_readSet (CX6_readCond 13) WX7_finish) R) (h : WX6_read_51 (fun r M => R (some (.inl r)) M) M) : f_E sh t YX6_read rm cs (f_Q sh t R) 51 [.inr (.inr (.inl (6, 11, 22)))] [] M :=
  BX6_read_51 C (fun M h => PX6_read_82 C h) h
theorem PX6_read {sh : Nat → Nat × Nat} {t : Nat} {rm : Nat × Nat × Nat} {cs : Nat × Nat} {R : f_Rt} {M : e_M} (C : f_Hy sh t yX6_read rm cs 68 (lX6_read WX7_take WX7_takeDate WX6_readAsk WX6_readSet (CX6_readCond 13) WX7_finish) R) (h : WX6_read M (fun r M => R (some (.inl r)) M)) : f_E sh t YX6_read rm cs (f_Q sh t R) 0 [.inr (.inr (.inl (6, 11, 22)))] [] M :=
  BX6_read C (fun M h => PX6_read_51 C h) h
def wX6_read : f_Wt := f_wm [(32, 6, 11)] (fun ar M R => WX6_read M (fun r M => R (some (.inl r)) M))
theorem TX6_read {sh : Nat → Nat × Nat} {t : Nat} : f_Mt sh t YX6_read 68 (wX6_read) :=
  f_Mt_of (k := 0) (Nat.le_of_ble_eq_true rfl) rfl rfl (fun ar M R rm cs h1 h2 h3 hX h => PX6_read ⟨Nat.le_of_ble_eq_true rfl, h1, h2, h3, ⟨(f_Mt.up (Nat.le_of_ble_eq_true rfl) TX7_take), (f_Mt.up (Nat.le_of_ble_eq_true rfl) TX7_takeDate), (f_Mt.up (Nat.le_of_ble_eq_true rfl) TX6_readAsk), (f_Mt.up (Nat.le_of_ble_eq_true rfl) TX6_readSet), (f_Mt.up (Nat.le_of_ble_eq_true rfl) (TCX6_readCond 13)), (f_Mt.up (Nat.le_of_ble_eq_true rfl) TX7_finish), trivial⟩, hX⟩ h)
def VX7_learn_12 (k77 : Nat → Nat → Int → Int → Int → Int → e_M → Prop) (Q : Int → e_M → Prop) (n1 : Nat) (a1 : Nat) (x3 : Int) (x4 : Int) (x6 : Int) (x7 : Int) (M : e_M) : Prop :=
  ((((n1 : Nat) : Int) ≤ x7 → (Q x3 M)) ∧ (x7 < ((n1 : Nat) : Int) → ((0 ≤ x7 ∧ x7 < ((n1 : Nat) : Int)) ∧ (((f_kt (a1 + 29) (x7.toNat)) = 32 → ((71 ≤ x3 → (k77 n1 a1 x3 x4 x6 x7 M)) ∧ (x3 < 71 → ((0 ≤ x3 ∧ x3 < 71) ∧ (∀ M1 : e_M, M1 = e_up M 11 (x3.toNat) x4 → (k77 n1 a1 (e_w32 (x3 + 1)) 0 56 x7 M1)))))) ∧ (¬ (f_kt (a1 + 29) (x7.toNat)) = 32 → ((0 ≤ x7 ∧ x7 < ((n1 : Nat) : Int)) ∧ (∀ y2 : Int, y2 = f_orJ x4 (f_shlJ (f_kt (a1 + 29) (x7.toNat)) x6) → (k77 n1 a1 x3 y2 (e_w32 (x6 + (-8))) x7 M))))))))
def VX7_learn_77 (k12 : Nat → Nat → Int → Int → Int → Int → e_M → Prop) (Q : Int → e_M → Prop) (n1 : Nat) (a1 : Nat) (x3 : Int) (x4 : Int) (x6 : Int) (x7 : Int) (M : e_M) : Prop :=
  (k12 n1 a1 x3 x4 x6 (e_w32 (x7 + 1)) M)
def VX7_learn (k12 : Nat → Nat → Int → Int → Int → Int → e_M → Prop) (Q : Int → e_M → Prop) (n1 : Nat) (a1 : Nat) (x2 : Int) (M : e_M) : Prop :=
  (k12 n1 a1 x2 0 56 0 M)
def yX7_learn (i : Nat) : e_Y := x_get YX7_learn [] i
def pX7_learnf : List x_I := [(0, 2, 1, 2, 0, 0, []), (1, 5, 1, 3, 0, 0, []), (2, 1, 1, 0, 0, 0, []), (3, 6, 2, 4, 0, 0, []), (5, 0, 2, 0, 0, 56, []), (7, 5, 2, 6, 0, 0, []), (9, 0, 1, 0, 0, 0, []), (10, 5, 2, 7, 0, 0, []), (12, 49, 0, 0, 0, 0, []), (12, 2, 2, 7, 0, 0, []), (14, 4, 1, 1, 0, 0, []), (15, 36, 0, 0, 0, 0, []), (18, 18, 83, 3, 47, 0, []), (21, 4, 1, 1, 0, 0, []), (22, 2, 2, 7, 0, 0, []), (24, 37, 0, 0, 0, 0, []), (27, 0, 2, 0, 0, 32, []), (29, 18, 53, 0, 31, 0, []), (32, 3, 2, 4, 0, 0, []), (34, 4, 1, 1, 0, 0, []), (35, 2, 2, 7, 0, 0, []), (37, 37, 0, 0, 0, 0, []), (40, 14, 0, 0, 0, 0, []), (41, 2, 2, 6, 0, 0, []), (43, 11, 0, 0, 0, 0, []), (44, 10, 0, 6, 0, 0, []), (45, 33, 0, 0, 0, 0, []), (45, 6, 2, 4, 0, 0, []), (47, 8, 0, 6, 0, (-8), []), (50, 19, 77, 0, 44, 0, []), (53, 2, 1, 3, 0, 0, []), (54, 0, 2, 0, 0, 71, []), (56, 18, 77, 3, 44, 0, []), (59, 4, 1, 0, 0, 0, []), (60, 25, 7, 0, 4, 0, [(0, 23, 71), (0, 1, 1)]), (63, 2, 1, 3, 0, 0, []), (64, 3, 2, 4, 0, 0, []), (66, 28, 0, 1, 0, 0, []), (67, 8, 0, 3, 0, 1, []), (70, 1, 1, 0, 0, 0, []), (71, 6, 2, 4, 0, 0, []), (73, 0, 2, 0, 0, 56, []), (75, 5, 2, 6, 0, 0, []), (77, 49, 0, 0, 0, 0, []), (77, 8, 0, 7, 0, 1, []), (80, 19, 12, 0, 9, 0, []), (83, 2, 1, 3, 0, 0, []), (84, 41, 0, 0, 0, 0, [])]
set_option maxRecDepth 20000 in
theorem qX7_learnf : f_all yX7_learn YX7_learn pX7_learnf :=
  ⟨f_iload_n (n := 2) (e_dx DX7_learn_0 0 rfl) rfl,
  f_istore_n (n := 3) (e_dx DX7_learn_0 1 rfl) rfl (by decide),
  f_lconst (n := 0) (e_dx DX7_learn_0 2 rfl) rfl,
  f_lstore (e_dx DX7_learn_0 3 rfl) (by decide),
  f_bipush (e_dx DX7_learn_0 4 rfl) ⟨by decide, by decide⟩,
  f_istore (e_dx DX7_learn_0 5 rfl) (by decide),
  f_iconst (e_dx DX7_learn_0 6 rfl) ⟨by decide, by decide⟩,
  f_istore (e_dx DX7_learn_0 7 rfl) (by decide),
  trivial,
  f_iload (e_dx DX7_learn_0 8 rfl),
  f_aload_n (n := 1) (e_dx DX7_learn_0 9 rfl) rfl,
  f_slen (e_dx DX7_learn_0 10 rfl) cX7_69,
  f_icmp_ge (e_dx DX7_learn_0 11 rfl) rfl,
  f_aload_n (n := 1) (e_dx DX7_learn_0 12 rfl) rfl,
  f_iload (e_dx DX7_learn_0 13 rfl),
  f_schar (e_dx DX7_learn_0 14 rfl) cX7_75,
  f_bipush (e_dx DX7_learn_0 15 rfl) ⟨by decide, by decide⟩,
  f_icmp_eq (e_dx DX7_learn_0 16 rfl) rfl,
  f_lload (e_dx DX7_learn_0 17 rfl),
  f_aload_n (n := 1) (e_dx DX7_learn_0 18 rfl) rfl,
  f_iload (e_dx DX7_learn_0 19 rfl),
  f_schar (e_dx DX7_learn_0 20 rfl) cX7_75,
  f_g14 (e_dx DX7_learn_0 21 rfl),
  f_iload (e_dx DX7_learn_0 22 rfl),
  f_lshl (e_dx DX7_learn_0 23 rfl),
  f_lor (e_dx DX7_learn_0 24 rfl),
  f_g33,
  f_lstore (e_dx DX7_learn_0 25 rfl) (by decide),
  f_g8 (e_dx DX7_learn_0 26 rfl) ⟨by decide, by decide⟩,
  f_g19 (e_dx DX7_learn_0 27 rfl) rfl,
  f_iload_n (n := 3) (e_dx DX7_learn_0 28 rfl) rfl,
  f_bipush (e_dx DX7_learn_0 29 rfl) ⟨by decide, by decide⟩,
  f_icmp_ge (e_dx DX7_learn_0 30 rfl) rfl,
  f_aload_n (n := 0) (e_dx DX7_learn_0 31 rfl) rfl,
  f_getA (e_dx DX7_learn_0 32 rfl) fX7_9 rfl (by decide) (Nat.le_of_ble_eq_true rfl) rfl (by decide),
  f_iload_n (n := 3) (e_dx DX7_learn_0 33 rfl) rfl,
  f_lload (e_dx DX7_learn_0 34 rfl),
  f_lastore (e_dx DX7_learn_0 35 rfl),
  f_g8 (e_dx DX7_learn_0 36 rfl) ⟨by decide, by decide⟩,
  f_lconst (n := 0) (e_dx DX7_learn_0 37 rfl) rfl,
  f_lstore (e_dx DX7_learn_0 38 rfl) (by decide),
  f_bipush (e_dx DX7_learn_0 39 rfl) ⟨by decide, by decide⟩,
  f_istore (e_dx DX7_learn_1 0 rfl) (by decide),
  trivial,
  f_g8 (e_dx DX7_learn_1 1 rfl) ⟨by decide, by decide⟩,
  f_g19 (e_dx DX7_learn_1 2 rfl) rfl,
  f_iload_n (n := 3) (e_dx DX7_learn_1 3 rfl) rfl,
  ⟨(e_dx DX7_learn_1 4 rfl), rfl⟩, trivial⟩
def lX7_learn : List (Nat × f_Wt) := []
set_option maxRecDepth 20000 in
theorem BX7_learn_12 {sh : Nat → Nat × Nat} {t : Nat} {rm : Nat × Nat × Nat} {cs : Nat × Nat} {R : f_Rt} {k77 : Nat → Nat → Int → Int → Int → Int → e_M → Prop} {n1 : Nat} {a1 : Nat} {x3 : Int} {x4 : Int} {x6 : Int} {x7 : Int} {M : e_M} (C : f_Hy sh t yX7_learn rm cs 4 (lX7_learn) R) (h77 : ∀ (n1 : Nat) (a1 : Nat) (x3 : Int) (x4 : Int) (x6 : Int) (x7 : Int) (M : e_M), k77 n1 a1 x3 x4 x6 x7 M → f_E sh t YX7_learn rm cs (f_Q sh t R) 77 [.inr (.inr (.inl (7, 12, 10))), .inr (.inr (.inl (115, n1, a1))), .inr (.inr (.inr ())), .inl x3, .inr (.inl x4), .inr (.inr (.inr ())), .inl x6, .inl x7] [] M) (h : VX7_learn_12 k77 (fun r M => R (some (.inl r)) M) n1 a1 x3 x4 x6 x7 M) : f_E sh t YX7_learn rm cs (f_Q sh t R) 12 [.inr (.inr (.inl (7, 12, 10))), .inr (.inr (.inl (115, n1, a1))), .inr (.inr (.inr ())), .inl x3, .inr (.inl x4), .inr (.inr (.inr ())), .inl x6, .inl x7] [] M :=
  f_go (KC := f_kc [(77, f_pl [(20, 7, 12), (4, 0, 0), (0, 0, 0), (1, 0, 0), (2, 0, 0), (0, 0, 0), (1, 0, 0), (1, 0, 0)] [] (fun ls st M => k77 (f_vn (f_nth ls 1)) (f_va (f_nth ls 1)) (f_vi (f_nth ls 3)) (f_vi (f_nth ls 4)) (f_vi (f_nth ls 6)) (f_vi (f_nth ls 7)) M))]) C qX7_learnf (f_kc_cons (f_pl_ok rfl (fun ls st M h => h77 _ _ _ _ _ _ M h)) f_kc_nil) 50 9 h
set_option maxRecDepth 20000 in
theorem BX7_learn_77 {sh : Nat → Nat × Nat} {t : Nat} {rm : Nat × Nat × Nat} {cs : Nat × Nat} {R : f_Rt} {k12 : Nat → Nat → Int → Int → Int → Int → e_M → Prop} {n1 : Nat} {a1 : Nat} {x3 : Int} {x4 : Int} {x6 : Int} {x7 : Int} {M : e_M} (C : f_Hy sh t yX7_learn rm cs 4 (lX7_learn) R) (h12 : ∀ (n1 : Nat) (a1 : Nat) (x3 : Int) (x4 : Int) (x6 : Int) (x7 : Int) (M : e_M), k12 n1 a1 x3 x4 x6 x7 M → f_E sh t YX7_learn rm cs (f_Q sh t R) 12 [.inr (.inr (.inl (7, 12, 10))), .inr (.inr (.inl (115, n1, a1))), .inr (.inr (.inr ())), .inl x3, .inr (.inl x4), .inr (.inr (.inr ())), .inl x6, .inl x7] [] M) (h : VX7_learn_77 k12 (fun r M => R (some (.inl r)) M) n1 a1 x3 x4 x6 x7 M) : f_E sh t YX7_learn rm cs (f_Q sh t R) 77 [.inr (.inr (.inl (7, 12, 10))), .inr (.inr (.inl (115, n1, a1))), .inr (.inr (.inr ())), .inl x3, .inr (.inl x4), .inr (.inr (.inr ())), .inl x6, .inl x7] [] M :=
  f_go (KC := f_kc [(12, f_pl [(20, 7, 12), (4, 0, 0), (0, 0, 0), (1, 0, 0), (2, 0, 0), (0, 0, 0), (1, 0, 0), (1, 0, 0)] [] (fun ls st M => k12 (f_vn (f_nth ls 1)) (f_va (f_nth ls 1)) (f_vi (f_nth ls 3)) (f_vi (f_nth ls 4)) (f_vi (f_nth ls 6)) (f_vi (f_nth ls 7)) M))]) C qX7_learnf (f_kc_cons (f_pl_ok rfl (fun ls st M h => h12 _ _ _ _ _ _ M h)) f_kc_nil) 50 44 h
set_option maxRecDepth 20000 in
theorem BX7_learn {sh : Nat → Nat × Nat} {t : Nat} {rm : Nat × Nat × Nat} {cs : Nat × Nat} {R : f_Rt} {k12 : Nat → Nat → Int → Int → Int → Int → e_M → Prop} {n1 : Nat} {a1 : Nat} {x2 : Int} {M : e_M} (C : f_Hy sh t yX7_learn rm cs 4 (lX7_learn) R) (h12 : ∀ (n1 : Nat) (a1 : Nat) (x3 : Int) (x4 : Int) (x6 : Int) (x7 : Int) (M : e_M), k12 n1 a1 x3 x4 x6 x7 M → f_E sh t YX7_learn rm cs (f_Q sh t R) 12 [.inr (.inr (.inl (7, 12, 10))), .inr (.inr (.inl (115, n1, a1))), .inr (.inr (.inr ())), .inl x3, .inr (.inl x4), .inr (.inr (.inr ())), .inl x6, .inl x7] [] M) (h : VX7_learn k12 (fun r M => R (some (.inl r)) M) n1 a1 x2 M) : f_E sh t YX7_learn rm cs (f_Q sh t R) 0 [.inr (.inr (.inl (7, 12, 10))), .inr (.inr (.inl (115, n1, a1))), .inl x2, .inr (.inr (.inr ())), .inr (.inr (.inr ())), .inr (.inr (.inr ())), .inr (.inr (.inr ())), .inr (.inr (.inr ()))] [] M :=
  f_go (KC := f_kc [(12, f_pl [(20, 7, 12), (4, 0, 0), (0, 0, 0), (1, 0, 0), (2, 0, 0), (0, 0, 0), (1, 0, 0), (1, 0, 0)] [] (fun ls st M => k12 (f_vn (f_nth ls 1)) (f_va (f_nth ls 1)) (f_vi (f_nth ls 3)) (f_vi (f_nth ls 4)) (f_vi (f_nth ls 6)) (f_vi (f_nth ls 7)) M))]) C qX7_learnf (f_kc_cons (f_pl_ok rfl (fun ls st M h => h12 _ _ _ _ _ _ M h)) f_kc_nil) 50 0 h
def WX7_learn_77 (H12 : Nat → Nat → Int → Int → Int → Int → e_M → Prop) (Q : Int → e_M → Prop) (n1 : Nat) (a1 : Nat) (x3 : Int) (x4 : Int) (x6 : Int) (x7 : Int) (M : e_M) : Prop :=
  VX7_learn_77 H12 Q n1 a1 x3 x4 x6 x7 M
def WX7_learn_12 (Q : Int → e_M → Prop) : Nat → Nat → Nat → Int → Int → Int → Int → e_M → Prop
  | 0, _, _, _, _, _, _, _ => False
  | n + 1, n1, a1, x3, x4, x6, x7, M =>
    VX7_learn_12 (WX7_learn_77 (WX7_learn_12 Q n) Q) Q n1 a1 x3 x4 x6 x7 M
def WX7_learn (n1 : Nat) (a1 : Nat) (x2 : Int) (M : e_M) (Q : Int → e_M → Prop) : Prop :=
  VX7_learn (fun n1 a1 x3 x4 x6 x7 M => ∃ j, WX7_learn_12 Q j n1 a1 x3 x4 x6 x7 M) Q n1 a1 x2 M
theorem PX7_learn_77 {sh : Nat → Nat × Nat} {t : Nat} {rm : Nat × Nat × Nat} {cs : Nat × Nat} {R : f_Rt} {H12 : Nat → Nat → Int → Int → Int → Int → e_M → Prop} {n1 : Nat} {a1 : Nat} {x3 : Int} {x4 : Int} {x6 : Int} {x7 : Int} {M : e_M} (C : f_Hy sh t yX7_learn rm cs 4 (lX7_learn) R) (g12 : ∀ (n1 : Nat) (a1 : Nat) (x3 : Int) (x4 : Int) (x6 : Int) (x7 : Int) (M : e_M), H12 n1 a1 x3 x4 x6 x7 M → f_E sh t YX7_learn rm cs (f_Q sh t R) 12 [.inr (.inr (.inl (7, 12, 10))), .inr (.inr (.inl (115, n1, a1))), .inr (.inr (.inr ())), .inl x3, .inr (.inl x4), .inr (.inr (.inr ())), .inl x6, .inl x7] [] M) (h : WX7_learn_77 H12 (fun r M => R (some (.inl r)) M) n1 a1 x3 x4 x6 x7 M) : f_E sh t YX7_learn rm cs (f_Q sh t R) 77 [.inr (.inr (.inl (7, 12, 10))), .inr (.inr (.inl (115, n1, a1))), .inr (.inr (.inr ())), .inl x3, .inr (.inl x4), .inr (.inr (.inr ())), .inl x6, .inl x7] [] M :=
  BX7_learn_77 C g12 h
theorem PX7_learn_12 {sh : Nat → Nat × Nat} {t : Nat} {rm : Nat × Nat × Nat} {cs : Nat × Nat} {R : f_Rt} (C : f_Hy sh t yX7_learn rm cs 4 (lX7_learn) R) : ∀ (n : Nat) (n1 : Nat) (a1 : Nat) (x3 : Int) (x4 : Int) (x6 : Int) (x7 : Int) (M : e_M), WX7_learn_12 (fun r M => R (some (.inl r)) M) n n1 a1 x3 x4 x6 x7 M → f_E sh t YX7_learn rm cs (f_Q sh t R) 12 [.inr (.inr (.inl (7, 12, 10))), .inr (.inr (.inl (115, n1, a1))), .inr (.inr (.inr ())), .inl x3, .inr (.inl x4), .inr (.inr (.inr ())), .inl x6, .inl x7] [] M := by
  intro n
  induction n with
  | zero => intro n1 a1 x3 x4 x6 x7 M h; exact h.elim
  | succ n ih => intro n1 a1 x3 x4 x6 x7 M h; exact BX7_learn_12 C (fun n1 a1 x3 x4 x6 x7 M h => PX7_learn_77 C ih h) h
theorem PX7_learn {sh : Nat → Nat × Nat} {t : Nat} {rm : Nat × Nat × Nat} {cs : Nat × Nat} {R : f_Rt} {n1 : Nat} {a1 : Nat} {x2 : Int} {M : e_M} (C : f_Hy sh t yX7_learn rm cs 4 (lX7_learn) R) (h : WX7_learn n1 a1 x2 M (fun r M => R (some (.inl r)) M)) : f_E sh t YX7_learn rm cs (f_Q sh t R) 0 [.inr (.inr (.inl (7, 12, 10))), .inr (.inr (.inl (115, n1, a1))), .inl x2, .inr (.inr (.inr ())), .inr (.inr (.inr ())), .inr (.inr (.inr ())), .inr (.inr (.inr ())), .inr (.inr (.inr ()))] [] M :=
  BX7_learn C (fun n1 a1 x3 x4 x6 x7 M ⟨j, h⟩ => PX7_learn_12 C j _ _ _ _ _ _ _ h) h
def wX7_learn : f_Wt := f_wm [(20, 7, 12), (4, 0, 0), (1, 0, 0)] (fun ar M R => WX7_learn (f_vn (f_nth ar 1)) (f_va (f_nth ar 1)) (f_vi (f_nth ar 2)) M (fun r M => R (some (.inl r)) M))
theorem TX7_learn {sh : Nat → Nat × Nat} {t : Nat} : f_Mt sh t YX7_learn 4 (wX7_learn) :=
  f_Mt_of (k := 5) (Nat.le_of_ble_eq_true rfl) rfl rfl (fun ar M R rm cs h1 h2 h3 hX h => PX7_learn ⟨Nat.le_of_ble_eq_true rfl, h1, h2, h3, trivial, hX⟩ h)
def VX7_isWordByte_12 (k24 : Prop) (Q : Int → Prop) (x0 : Int) (M : e_M) : Prop :=
  ((x0 < 97 → (Q 0)) ∧ (97 ≤ x0 → ((122 < x0 → (Q 0)) ∧ (x0 ≤ 122 → (k24)))))
def VX7_isWordByte_24 (Q : Int → Prop) (M : e_M) : Prop :=
  (Q 1)
def VX7_isWordByte (k12 : Int → Prop) (k24 : Prop) (Q : Int → Prop) (x0 : Int) (M : e_M) : Prop :=
  ((x0 < 48 → (k12 x0)) ∧ (48 ≤ x0 → ((x0 ≤ 57 → (k24)) ∧ (57 < x0 → (k12 x0)))))
def yX7_isWordByte (i : Nat) : e_Y := x_get YX7_isWordByte [] i
def pX7_isWordBytef : List x_I := [(0, 2, 1, 0, 0, 0, []), (1, 0, 2, 0, 0, 48, []), (3, 18, 12, 2, 7, 0, []), (6, 2, 1, 0, 0, 0, []), (7, 0, 2, 0, 0, 57, []), (9, 18, 24, 5, 14, 0, []), (12, 49, 0, 0, 0, 0, []), (12, 2, 1, 0, 0, 0, []), (13, 0, 2, 0, 0, 97, []), (15, 18, 28, 2, 17, 0, []), (18, 2, 1, 0, 0, 0, []), (19, 0, 2, 0, 0, 122, []), (21, 18, 28, 4, 17, 0, []), (24, 49, 0, 0, 0, 0, []), (24, 0, 1, 0, 0, 1, []), (25, 19, 29, 0, 18, 0, []), (28, 0, 1, 0, 0, 0, []), (29, 48, 0, 0, 0, 0, [])]
set_option maxRecDepth 20000 in
theorem qX7_isWordBytef : f_all yX7_isWordByte YX7_isWordByte pX7_isWordBytef :=
  ⟨f_iload_n (n := 0) (e_dx DX7_isWordByte_0 0 rfl) rfl,
  f_bipush (e_dx DX7_isWordByte_0 1 rfl) ⟨by decide, by decide⟩,
  f_icmp_lt (e_dx DX7_isWordByte_0 2 rfl) rfl,
  f_iload_n (n := 0) (e_dx DX7_isWordByte_0 3 rfl) rfl,
  f_bipush (e_dx DX7_isWordByte_0 4 rfl) ⟨by decide, by decide⟩,
  f_icmp_le (e_dx DX7_isWordByte_0 5 rfl) rfl,
  trivial,
  f_iload_n (n := 0) (e_dx DX7_isWordByte_0 6 rfl) rfl,
  f_bipush (e_dx DX7_isWordByte_0 7 rfl) ⟨by decide, by decide⟩,
  f_icmp_lt (e_dx DX7_isWordByte_0 8 rfl) rfl,
  f_iload_n (n := 0) (e_dx DX7_isWordByte_0 9 rfl) rfl,
  f_bipush (e_dx DX7_isWordByte_0 10 rfl) ⟨by decide, by decide⟩,
  f_icmp_gt (e_dx DX7_isWordByte_0 11 rfl) rfl,
  trivial,
  f_iconst (e_dx DX7_isWordByte_0 12 rfl) ⟨by decide, by decide⟩,
  f_g19 (e_dx DX7_isWordByte_0 13 rfl) rfl,
  f_iconst (e_dx DX7_isWordByte_0 14 rfl) ⟨by decide, by decide⟩,
  ⟨(e_dx DX7_isWordByte_0 15 rfl), rfl⟩, trivial⟩
def lX7_isWordByte : List (Nat × f_Wt) := []
set_option maxRecDepth 20000 in
theorem BX7_isWordByte_12 {sh : Nat → Nat × Nat} {t : Nat} {rm : Nat × Nat × Nat} {cs : Nat × Nat} {R : f_Rt} {k24 : Prop} {x0 : Int} {M : e_M} (C : f_Hy sh t yX7_isWordByte rm cs 4 (lX7_isWordByte) R) (h24 : k24 → f_E sh t YX7_isWordByte rm cs (f_Q sh t R) 24 [.inr (.inr (.inr ()))] [] M) (h : VX7_isWordByte_12 k24 (fun r => R (some (.inl r)) M) x0 M) : f_E sh t YX7_isWordByte rm cs (f_Q sh t R) 12 [.inl x0] [] M := by
  rw [f_kk0 M k24] at h
  exact f_go (KC := f_kc [(24, f_pl [(0, 0, 0)] [] (fun ls st M2 => M2 = M ∧ (k24)))]) C qX7_isWordBytef (f_kc_cons (f_pl_ok rfl (fun ls st M2 ⟨e, hh⟩ => by subst e; exact h24  hh)) f_kc_nil) 20 7 h
set_option maxRecDepth 20000 in
theorem BX7_isWordByte_24 {sh : Nat → Nat × Nat} {t : Nat} {rm : Nat × Nat × Nat} {cs : Nat × Nat} {R : f_Rt} {M : e_M} (C : f_Hy sh t yX7_isWordByte rm cs 4 (lX7_isWordByte) R) (h : VX7_isWordByte_24 (fun r => R (some (.inl r)) M) M) : f_E sh t YX7_isWordByte rm cs (f_Q sh t R) 24 [.inr (.inr (.inr ()))] [] M :=
  f_go (KC := f_kc []) C qX7_isWordBytef f_kc_nil 20 14 h
set_option maxRecDepth 20000 in
theorem BX7_isWordByte {sh : Nat → Nat × Nat} {t : Nat} {rm : Nat × Nat × Nat} {cs : Nat × Nat} {R : f_Rt} {k12 : Int → Prop} {k24 : Prop} {x0 : Int} {M : e_M} (C : f_Hy sh t yX7_isWordByte rm cs 4 (lX7_isWordByte) R) (h12 : ∀ (x0 : Int), k12 x0 → f_E sh t YX7_isWordByte rm cs (f_Q sh t R) 12 [.inl x0] [] M) (h24 : k24 → f_E sh t YX7_isWordByte rm cs (f_Q sh t R) 24 [.inr (.inr (.inr ()))] [] M) (h : VX7_isWordByte k12 k24 (fun r => R (some (.inl r)) M) x0 M) : f_E sh t YX7_isWordByte rm cs (f_Q sh t R) 0 [.inl x0] [] M := by
  rw [f_kk1 M k12] at h
  rw [f_kk0 M k24] at h
  exact f_go (KC := f_kc [(12, f_pl [(1, 0, 0)] [] (fun ls st M2 => M2 = M ∧ (k12 (f_vi (f_nth ls 0))))), (24, f_pl [(0, 0, 0)] [] (fun ls st M2 => M2 = M ∧ (k24)))]) C qX7_isWordBytef (f_kc_cons (f_pl_ok rfl (fun ls st M2 ⟨e, hh⟩ => by subst e; exact h12 _ hh)) (f_kc_cons (f_pl_ok rfl (fun ls st M2 ⟨e, hh⟩ => by subst e; exact h24  hh)) f_kc_nil)) 20 0 h
def WX7_isWordByte_24 (M : e_M) (Q : Int → Prop) : Prop :=
  VX7_isWordByte_24 Q M
def WX7_isWordByte_12 (M : e_M) (Q : Int → Prop) (x0 : Int) : Prop :=
  VX7_isWordByte_12 (WX7_isWordByte_24 M Q) Q x0 M
def WX7_isWordByte (x0 : Int) (M : e_M) (Q : Int → Prop) : Prop :=
  VX7_isWordByte (WX7_isWordByte_12 M Q) (WX7_isWordByte_24 M Q) Q x0 M
theorem PX7_isWordByte_24 {sh : Nat → Nat × Nat} {t : Nat} {rm : Nat × Nat × Nat} {cs : Nat × Nat} {R : f_Rt} {M : e_M} (C : f_Hy sh t yX7_isWordByte rm cs 4 (lX7_isWordByte) R) (h : WX7_isWordByte_24 M (fun r => R (some (.inl r)) M)) : f_E sh t YX7_isWordByte rm cs (f_Q sh t R) 24 [.inr (.inr (.inr ()))] [] M :=
  BX7_isWordByte_24 C h
theorem PX7_isWordByte_12 {sh : Nat → Nat × Nat} {t : Nat} {rm : Nat × Nat × Nat} {cs : Nat × Nat} {R : f_Rt} {x0 : Int} {M : e_M} (C : f_Hy sh t yX7_isWordByte rm cs 4 (lX7_isWordByte) R) (h : WX7_isWordByte_12 M (fun r => R (some (.inl r)) M) x0) : f_E sh t YX7_isWordByte rm cs (f_Q sh t R) 12 [.inl x0] [] M :=
  BX7_isWordByte_12 C (fun h => PX7_isWordByte_24 C h) h
theorem PX7_isWordByte {sh : Nat → Nat × Nat} {t : Nat} {rm : Nat × Nat × Nat} {cs : Nat × Nat} {R : f_Rt} {x0 : Int} {M : e_M} (C : f_Hy sh t yX7_isWordByte rm cs 4 (lX7_isWordByte) R) (h : WX7_isWordByte x0 M (fun r => R (some (.inl r)) M)) : f_E sh t YX7_isWordByte rm cs (f_Q sh t R) 0 [.inl x0] [] M :=
  BX7_isWordByte C (fun x0 h => PX7_isWordByte_12 C h) (fun h => PX7_isWordByte_24 C h) h
def wX7_isWordByte : f_Wt := f_wm [(1, 0, 0)] (fun ar M R => WX7_isWordByte (f_vi (f_nth ar 0)) M (fun r => R (some (.inl r)) M))
theorem TX7_isWordByte {sh : Nat → Nat × Nat} {t : Nat} : f_Mt sh t YX7_isWordByte 4 (wX7_isWordByte) :=
  f_Mt_of (k := 0) (Nat.le_of_ble_eq_true rfl) rfl rfl (fun ar M R rm cs h1 h2 h3 hX h => PX7_isWordByte ⟨Nat.le_of_ble_eq_true rfl, h1, h2, h3, trivial, hX⟩ h)
def VX7_isDigit (Q : Int → Prop) (x0 : Int) (M : e_M) : Prop :=
  ((x0 < 48 → (Q 0)) ∧ (48 ≤ x0 → ((57 < x0 → (Q 0)) ∧ (x0 ≤ 57 → (Q 1)))))
def yX7_isDigit (i : Nat) : e_Y := x_get YX7_isDigit [] i
def pX7_isDigitf : List x_I := [(0, 2, 1, 0, 0, 0, []), (1, 0, 2, 0, 0, 48, []), (3, 18, 16, 2, 9, 0, []), (6, 2, 1, 0, 0, 0, []), (7, 0, 2, 0, 0, 57, []), (9, 18, 16, 4, 9, 0, []), (12, 0, 1, 0, 0, 1, []), (13, 19, 17, 0, 10, 0, []), (16, 0, 1, 0, 0, 0, []), (17, 48, 0, 0, 0, 0, [])]
set_option maxRecDepth 20000 in
theorem qX7_isDigitf : f_all yX7_isDigit YX7_isDigit pX7_isDigitf :=
  ⟨f_iload_n (n := 0) (e_dx DX7_isDigit_0 0 rfl) rfl,
  f_bipush (e_dx DX7_isDigit_0 1 rfl) ⟨by decide, by decide⟩,
  f_icmp_lt (e_dx DX7_isDigit_0 2 rfl) rfl,
  f_iload_n (n := 0) (e_dx DX7_isDigit_0 3 rfl) rfl,
  f_bipush (e_dx DX7_isDigit_0 4 rfl) ⟨by decide, by decide⟩,
  f_icmp_gt (e_dx DX7_isDigit_0 5 rfl) rfl,
  f_iconst (e_dx DX7_isDigit_0 6 rfl) ⟨by decide, by decide⟩,
  f_g19 (e_dx DX7_isDigit_0 7 rfl) rfl,
  f_iconst (e_dx DX7_isDigit_0 8 rfl) ⟨by decide, by decide⟩,
  ⟨(e_dx DX7_isDigit_0 9 rfl), rfl⟩, trivial⟩
def lX7_isDigit : List (Nat × f_Wt) := []
set_option maxRecDepth 20000 in
theorem BX7_isDigit {sh : Nat → Nat × Nat} {t : Nat} {rm : Nat × Nat × Nat} {cs : Nat × Nat} {R : f_Rt} {x0 : Int} {M : e_M} (C : f_Hy sh t yX7_isDigit rm cs 4 (lX7_isDigit) R) (h : VX7_isDigit (fun r => R (some (.inl r)) M) x0 M) : f_E sh t YX7_isDigit rm cs (f_Q sh t R) 0 [.inl x0] [] M :=
  f_go (KC := f_kc []) C qX7_isDigitf f_kc_nil 12 0 h
def WX7_isDigit (x0 : Int) (M : e_M) (Q : Int → Prop) : Prop :=
  VX7_isDigit Q x0 M
theorem PX7_isDigit {sh : Nat → Nat × Nat} {t : Nat} {rm : Nat × Nat × Nat} {cs : Nat × Nat} {R : f_Rt} {x0 : Int} {M : e_M} (C : f_Hy sh t yX7_isDigit rm cs 4 (lX7_isDigit) R) (h : WX7_isDigit x0 M (fun r => R (some (.inl r)) M)) : f_E sh t YX7_isDigit rm cs (f_Q sh t R) 0 [.inl x0] [] M :=
  BX7_isDigit C h
def wX7_isDigit : f_Wt := f_wm [(1, 0, 0)] (fun ar M R => WX7_isDigit (f_vi (f_nth ar 0)) M (fun r => R (some (.inl r)) M))
theorem TX7_isDigit {sh : Nat → Nat × Nat} {t : Nat} : f_Mt sh t YX7_isDigit 4 (wX7_isDigit) :=
  f_Mt_of (k := 0) (Nat.le_of_ble_eq_true rfl) rfl rfl (fun ar M R rm cs h1 h2 h3 hX h => PX7_isDigit ⟨Nat.le_of_ble_eq_true rfl, h1, h2, h3, trivial, hX⟩ h)
def VX7_isDate_30 (c_X7_isWordByte : Int → e_M → (Int → Prop) → Prop) (c_X7_isDigit : Int → e_M → (Int → Prop) → Prop) (k32 : Nat → Int → Int → Prop) (Q : Int → Prop) (a0 : Nat) (x2 : Int) (M : e_M) : Prop :=
  (k32 a0 x2 0)
def VX7_isDate_32 (c_X7_isWordByte : Int → e_M → (Int → Prop) → Prop) (c_X7_isDigit : Int → e_M → (Int → Prop) → Prop) (k49 : Nat → Int → Int → Prop) (k75 : Nat → Int → Int → Int → Prop) (Q : Int → Prop) (a0 : Nat) (x2 : Int) (x3 : Int) (M : e_M) : Prop :=
  ((10 ≤ x3 → (Q 1)) ∧ (x3 < 10 → ((x3 = 4 → (k49 a0 x2 x3)) ∧ (¬ x3 = 4 → ((¬ x3 = 7 → ((0 ≤ (e_w32 (x2 + x3)) ∧ (e_w32 (x2 + x3)) < 640) ∧ (c_X7_isDigit (M a0 ((e_w32 (x2 + x3)).toNat)) M (fun r1 => (k75 a0 x2 x3 r1))))) ∧ (x3 = 7 → (k49 a0 x2 x3)))))))
def VX7_isDate_49 (c_X7_isWordByte : Int → e_M → (Int → Prop) → Prop) (c_X7_isDigit : Int → e_M → (Int → Prop) → Prop) (k75 : Nat → Int → Int → Int → Prop) (Q : Int → Prop) (a0 : Nat) (x2 : Int) (x3 : Int) (M : e_M) : Prop :=
  ((0 ≤ (e_w32 (x2 + x3)) ∧ (e_w32 (x2 + x3)) < 640) ∧ ((¬ (M a0 ((e_w32 (x2 + x3)).toNat)) = 45 → (k75 a0 x2 x3 0)) ∧ ((M a0 ((e_w32 (x2 + x3)).toNat)) = 45 → (k75 a0 x2 x3 1))))
def VX7_isDate_75 (c_X7_isWordByte : Int → e_M → (Int → Prop) → Prop) (c_X7_isDigit : Int → e_M → (Int → Prop) → Prop) (k32 : Nat → Int → Int → Prop) (Q : Int → Prop) (a0 : Nat) (x2 : Int) (x3 : Int) (xs0 : Int) (M : e_M) : Prop :=
  ((¬ xs0 = 0 → (k32 a0 x2 (e_w32 (x3 + 1)))) ∧ (xs0 = 0 → (Q 0)))
def VX7_isDate (c_X7_isWordByte : Int → e_M → (Int → Prop) → Prop) (c_X7_isDigit : Int → e_M → (Int → Prop) → Prop) (k30 : Nat → Int → Prop) (Q : Int → Prop) (a0 : Nat) (x1 : Int) (x2 : Int) (M : e_M) : Prop :=
  ((x1 < (e_w32 (x2 + 10)) → (Q 0)) ∧ ((e_w32 (x2 + 10)) ≤ x1 → ((x1 ≤ (e_w32 (x2 + 10)) → (k30 a0 x2)) ∧ ((e_w32 (x2 + 10)) < x1 → ((0 ≤ (e_w32 (x2 + 10)) ∧ (e_w32 (x2 + 10)) < 640) ∧ (c_X7_isWordByte (M a0 ((e_w32 (x2 + 10)).toNat)) M (fun r1 => ((r1 = 0 → (k30 a0 x2)) ∧ (¬ r1 = 0 → (Q 0))))))))))
def yX7_isDate (i : Nat) : e_Y := x_get YX7_isDate [YX7_isWordByte, YX7_isDigit] i
def pX7_isDatef : List x_I := [(0, 2, 1, 2, 0, 0, []), (1, 0, 2, 0, 0, 10, []), (3, 9, 0, 0, 0, 0, []), (4, 2, 1, 1, 0, 0, []), (5, 18, 28, 4, 18, 0, []), (8, 2, 1, 2, 0, 0, []), (9, 0, 2, 0, 0, 10, []), (11, 9, 0, 0, 0, 0, []), (12, 2, 1, 1, 0, 0, []), (13, 18, 30, 3, 20, 0, []), (16, 4, 1, 0, 0, 0, []), (17, 2, 1, 2, 0, 0, []), (18, 0, 2, 0, 0, 10, []), (20, 9, 0, 0, 0, 0, []), (21, 27, 0, 2, 0, 0, []), (22, 40, 0, 1, 0, 0, []), (25, 17, 30, 0, 20, 0, []), (28, 0, 1, 0, 0, 0, []), (29, 48, 0, 0, 0, 0, []), (30, 49, 0, 0, 0, 0, []), (30, 0, 1, 0, 0, 0, []), (31, 5, 1, 3, 0, 0, []), (32, 49, 0, 0, 0, 0, []), (32, 2, 1, 3, 0, 0, []), (33, 0, 2, 0, 0, 10, []), (35, 18, 90, 3, 59, 0, []), (38, 2, 1, 3, 0, 0, []), (39, 0, 1, 0, 0, 4, []), (40, 18, 49, 0, 33, 0, []), (43, 2, 1, 3, 0, 0, []), (44, 0, 2, 0, 0, 7, []), (46, 18, 67, 1, 45, 0, []), (49, 49, 0, 0, 0, 0, []), (49, 4, 1, 0, 0, 0, []), (50, 2, 1, 2, 0, 0, []), (51, 2, 1, 3, 0, 0, []), (52, 9, 0, 0, 0, 0, []), (53, 27, 0, 2, 0, 0, []), (54, 0, 2, 0, 0, 45, []), (56, 18, 63, 1, 43, 0, []), (59, 0, 1, 0, 0, 1, []), (60, 19, 75, 0, 51, 0, []), (63, 0, 1, 0, 0, 0, []), (64, 19, 75, 0, 51, 0, []), (67, 4, 1, 0, 0, 0, []), (68, 2, 1, 2, 0, 0, []), (69, 2, 1, 3, 0, 0, []), (70, 9, 0, 0, 0, 0, []), (71, 27, 0, 2, 0, 0, []), (72, 40, 1, 1, 0, 0, []), (75, 49, 0, 0, 0, 0, []), (75, 5, 2, 4, 0, 0, []), (77, 2, 2, 4, 0, 0, []), (79, 17, 84, 1, 57, 0, []), (82, 0, 1, 0, 0, 0, []), (83, 48, 0, 0, 0, 0, []), (84, 8, 0, 3, 0, 1, []), (87, 19, 32, 0, 23, 0, []), (90, 0, 1, 0, 0, 1, []), (91, 48, 0, 0, 0, 0, [])]
set_option maxRecDepth 20000 in
theorem qX7_isDatef : f_all yX7_isDate YX7_isDate pX7_isDatef :=
  ⟨f_iload_n (n := 2) (e_dx DX7_isDate_0 0 rfl) rfl,
  f_bipush (e_dx DX7_isDate_0 1 rfl) ⟨by decide, by decide⟩,
  f_iadd (e_dx DX7_isDate_0 2 rfl),
  f_iload_n (n := 1) (e_dx DX7_isDate_0 3 rfl) rfl,
  f_icmp_gt (e_dx DX7_isDate_0 4 rfl) rfl,
  f_iload_n (n := 2) (e_dx DX7_isDate_0 5 rfl) rfl,
  f_bipush (e_dx DX7_isDate_0 6 rfl) ⟨by decide, by decide⟩,
  f_iadd (e_dx DX7_isDate_0 7 rfl),
  f_iload_n (n := 1) (e_dx DX7_isDate_0 8 rfl) rfl,
  f_icmp_ge (e_dx DX7_isDate_0 9 rfl) rfl,
  f_aload_n (n := 0) (e_dx DX7_isDate_0 10 rfl) rfl,
  f_iload_n (n := 2) (e_dx DX7_isDate_0 11 rfl) rfl,
  f_bipush (e_dx DX7_isDate_0 12 rfl) ⟨by decide, by decide⟩,
  f_iadd (e_dx DX7_isDate_0 13 rfl),
  f_baload (e_dx DX7_isDate_0 14 rfl),
  x_callS (e_dx DX7_isDate_0 15 rfl) mwX7_isWordByte cX7_104 swX7_isWordByte rfl,
  f_if_eq (e_dx DX7_isDate_0 16 rfl) rfl,
  f_iconst (e_dx DX7_isDate_0 17 rfl) ⟨by decide, by decide⟩,
  ⟨(e_dx DX7_isDate_0 18 rfl), rfl⟩,
  trivial,
  f_iconst (e_dx DX7_isDate_0 19 rfl) ⟨by decide, by decide⟩,
  f_istore_n (n := 3) (e_dx DX7_isDate_0 20 rfl) rfl (by decide),
  trivial,
  f_iload_n (n := 3) (e_dx DX7_isDate_0 21 rfl) rfl,
  f_bipush (e_dx DX7_isDate_0 22 rfl) ⟨by decide, by decide⟩,
  f_icmp_ge (e_dx DX7_isDate_0 23 rfl) rfl,
  f_iload_n (n := 3) (e_dx DX7_isDate_0 24 rfl) rfl,
  f_iconst (e_dx DX7_isDate_0 25 rfl) ⟨by decide, by decide⟩,
  f_icmp_eq (e_dx DX7_isDate_0 26 rfl) rfl,
  f_iload_n (n := 3) (e_dx DX7_isDate_0 27 rfl) rfl,
  f_bipush (e_dx DX7_isDate_0 28 rfl) ⟨by decide, by decide⟩,
  f_icmp_ne (e_dx DX7_isDate_0 29 rfl) rfl,
  trivial,
  f_aload_n (n := 0) (e_dx DX7_isDate_0 30 rfl) rfl,
  f_iload_n (n := 2) (e_dx DX7_isDate_0 31 rfl) rfl,
  f_iload_n (n := 3) (e_dx DX7_isDate_0 32 rfl) rfl,
  f_iadd (e_dx DX7_isDate_0 33 rfl),
  f_baload (e_dx DX7_isDate_0 34 rfl),
  f_bipush (e_dx DX7_isDate_0 35 rfl) ⟨by decide, by decide⟩,
  f_icmp_ne (e_dx DX7_isDate_0 36 rfl) rfl,
  f_iconst (e_dx DX7_isDate_0 37 rfl) ⟨by decide, by decide⟩,
  f_g19 (e_dx DX7_isDate_0 38 rfl) rfl,
  f_iconst (e_dx DX7_isDate_0 39 rfl) ⟨by decide, by decide⟩,
  f_g19 (e_dx DX7_isDate_1 0 rfl) rfl,
  f_aload_n (n := 0) (e_dx DX7_isDate_1 1 rfl) rfl,
  f_iload_n (n := 2) (e_dx DX7_isDate_1 2 rfl) rfl,
  f_iload_n (n := 3) (e_dx DX7_isDate_1 3 rfl) rfl,
  f_iadd (e_dx DX7_isDate_1 4 rfl),
  f_baload (e_dx DX7_isDate_1 5 rfl),
  x_callS (e_dx DX7_isDate_1 6 rfl) mwX7_isDigit cX7_111 swX7_isDigit rfl,
  trivial,
  f_istore (e_dx DX7_isDate_1 7 rfl) (by decide),
  f_iload (e_dx DX7_isDate_1 8 rfl),
  f_if_ne (e_dx DX7_isDate_1 9 rfl) rfl,
  f_iconst (e_dx DX7_isDate_1 10 rfl) ⟨by decide, by decide⟩,
  ⟨(e_dx DX7_isDate_1 11 rfl), rfl⟩,
  f_g8 (e_dx DX7_isDate_1 12 rfl) ⟨by decide, by decide⟩,
  f_g19 (e_dx DX7_isDate_1 13 rfl) rfl,
  f_iconst (e_dx DX7_isDate_1 14 rfl) ⟨by decide, by decide⟩,
  ⟨(e_dx DX7_isDate_1 15 rfl), rfl⟩, trivial⟩
def lX7_isDate (c_X7_isWordByte : Int → e_M → (Int → Prop) → Prop) (c_X7_isDigit : Int → e_M → (Int → Prop) → Prop) : List (Nat × f_Wt) := [(0, f_wm [(1, 0, 0)] (fun ar M R => c_X7_isWordByte (f_vi (f_nth ar 0)) M (fun r => R (some (.inl r)) M))), (1, f_wm [(1, 0, 0)] (fun ar M R => c_X7_isDigit (f_vi (f_nth ar 0)) M (fun r => R (some (.inl r)) M)))]
set_option maxRecDepth 20000 in
theorem BX7_isDate_30 {sh : Nat → Nat × Nat} {t : Nat} {rm : Nat × Nat × Nat} {cs : Nat × Nat} {R : f_Rt} {c_X7_isWordByte : Int → e_M → (Int → Prop) → Prop} {c_X7_isDigit : Int → e_M → (Int → Prop) → Prop} {k32 : Nat → Int → Int → Prop} {a0 : Nat} {x2 : Int} {M : e_M} (C : f_Hy sh t yX7_isDate rm cs 5 (lX7_isDate c_X7_isWordByte c_X7_isDigit) R) (h32 : ∀ (a0 : Nat) (x2 : Int) (x3 : Int), k32 a0 x2 x3 → f_E sh t YX7_isDate rm cs (f_Q sh t R) 32 [.inr (.inr (.inl (22, 640, a0))), .inr (.inr (.inr ())), .inl x2, .inl x3, .inr (.inr (.inr ()))] [] M) (h : VX7_isDate_30 c_X7_isWordByte c_X7_isDigit k32 (fun r => R (some (.inl r)) M) a0 x2 M) : f_E sh t YX7_isDate rm cs (f_Q sh t R) 30 [.inr (.inr (.inl (22, 640, a0))), .inr (.inr (.inr ())), .inl x2, .inr (.inr (.inr ())), .inr (.inr (.inr ()))] [] M := by
  rw [f_kk3 M k32] at h
  exact f_go (KC := f_kc [(32, f_pl [(3, 22, 640), (0, 0, 0), (1, 0, 0), (1, 0, 0), (0, 0, 0)] [] (fun ls st M2 => M2 = M ∧ (k32 (f_va (f_nth ls 0)) (f_vi (f_nth ls 2)) (f_vi (f_nth ls 3)))))]) C qX7_isDatef (f_kc_cons (f_pl_ok rfl (fun ls st M2 ⟨e, hh⟩ => by subst e; exact h32 _ _ _ hh)) f_kc_nil) 62 20 h
set_option maxRecDepth 20000 in
theorem BX7_isDate_32 {sh : Nat → Nat × Nat} {t : Nat} {rm : Nat × Nat × Nat} {cs : Nat × Nat} {R : f_Rt} {c_X7_isWordByte : Int → e_M → (Int → Prop) → Prop} {c_X7_isDigit : Int → e_M → (Int → Prop) → Prop} {k49 : Nat → Int → Int → Prop} {k75 : Nat → Int → Int → Int → Prop} {a0 : Nat} {x2 : Int} {x3 : Int} {M : e_M} (C : f_Hy sh t yX7_isDate rm cs 5 (lX7_isDate c_X7_isWordByte c_X7_isDigit) R) (h49 : ∀ (a0 : Nat) (x2 : Int) (x3 : Int), k49 a0 x2 x3 → f_E sh t YX7_isDate rm cs (f_Q sh t R) 49 [.inr (.inr (.inl (22, 640, a0))), .inr (.inr (.inr ())), .inl x2, .inl x3, .inr (.inr (.inr ()))] [] M) (h75 : ∀ (a0 : Nat) (x2 : Int) (x3 : Int) (xs0 : Int), k75 a0 x2 x3 xs0 → f_E sh t YX7_isDate rm cs (f_Q sh t R) 75 [.inr (.inr (.inl (22, 640, a0))), .inr (.inr (.inr ())), .inl x2, .inl x3, .inr (.inr (.inr ()))] [.inl xs0] M) (h : VX7_isDate_32 c_X7_isWordByte c_X7_isDigit k49 k75 (fun r => R (some (.inl r)) M) a0 x2 x3 M) : f_E sh t YX7_isDate rm cs (f_Q sh t R) 32 [.inr (.inr (.inl (22, 640, a0))), .inr (.inr (.inr ())), .inl x2, .inl x3, .inr (.inr (.inr ()))] [] M := by
  rw [f_kk3 M k49] at h
  rw [f_kk4 M k75] at h
  exact f_go (KC := f_kc [(49, f_pl [(3, 22, 640), (0, 0, 0), (1, 0, 0), (1, 0, 0), (0, 0, 0)] [] (fun ls st M2 => M2 = M ∧ (k49 (f_va (f_nth ls 0)) (f_vi (f_nth ls 2)) (f_vi (f_nth ls 3))))), (75, f_pl [(3, 22, 640), (0, 0, 0), (1, 0, 0), (1, 0, 0), (0, 0, 0)] [(1, 0, 0)] (fun ls st M2 => M2 = M ∧ (k75 (f_va (f_nth ls 0)) (f_vi (f_nth ls 2)) (f_vi (f_nth ls 3)) (f_vi (f_nth st 0)))))]) C qX7_isDatef (f_kc_cons (f_pl_ok rfl (fun ls st M2 ⟨e, hh⟩ => by subst e; exact h49 _ _ _ hh)) (f_kc_cons (f_pl_ok rfl (fun ls st M2 ⟨e, hh⟩ => by subst e; exact h75 _ _ _ _ hh)) f_kc_nil)) 62 23 h
set_option maxRecDepth 20000 in
theorem BX7_isDate_49 {sh : Nat → Nat × Nat} {t : Nat} {rm : Nat × Nat × Nat} {cs : Nat × Nat} {R : f_Rt} {c_X7_isWordByte : Int → e_M → (Int → Prop) → Prop} {c_X7_isDigit : Int → e_M → (Int → Prop) → Prop} {k75 : Nat → Int → Int → Int → Prop} {a0 : Nat} {x2 : Int} {x3 : Int} {M : e_M} (C : f_Hy sh t yX7_isDate rm cs 5 (lX7_isDate c_X7_isWordByte c_X7_isDigit) R) (h75 : ∀ (a0 : Nat) (x2 : Int) (x3 : Int) (xs0 : Int), k75 a0 x2 x3 xs0 → f_E sh t YX7_isDate rm cs (f_Q sh t R) 75 [.inr (.inr (.inl (22, 640, a0))), .inr (.inr (.inr ())), .inl x2, .inl x3, .inr (.inr (.inr ()))] [.inl xs0] M) (h : VX7_isDate_49 c_X7_isWordByte c_X7_isDigit k75 (fun r => R (some (.inl r)) M) a0 x2 x3 M) : f_E sh t YX7_isDate rm cs (f_Q sh t R) 49 [.inr (.inr (.inl (22, 640, a0))), .inr (.inr (.inr ())), .inl x2, .inl x3, .inr (.inr (.inr ()))] [] M := by
  rw [f_kk4 M k75] at h
  exact f_go (KC := f_kc [(75, f_pl [(3, 22, 640), (0, 0, 0), (1, 0, 0), (1, 0, 0), (0, 0, 0)] [(1, 0, 0)] (fun ls st M2 => M2 = M ∧ (k75 (f_va (f_nth ls 0)) (f_vi (f_nth ls 2)) (f_vi (f_nth ls 3)) (f_vi (f_nth st 0)))))]) C qX7_isDatef (f_kc_cons (f_pl_ok rfl (fun ls st M2 ⟨e, hh⟩ => by subst e; exact h75 _ _ _ _ hh)) f_kc_nil) 62 33 h
set_option maxRecDepth 20000 in
theorem BX7_isDate_75 {sh : Nat → Nat × Nat} {t : Nat} {rm : Nat × Nat × Nat} {cs : Nat × Nat} {R : f_Rt} {c_X7_isWordByte : Int → e_M → (Int → Prop) → Prop} {c_X7_isDigit : Int → e_M → (Int → Prop) → Prop} {k32 : Nat → Int → Int → Prop} {a0 : Nat} {x2 : Int} {x3 : Int} {xs0 : Int} {M : e_M} (C : f_Hy sh t yX7_isDate rm cs 5 (lX7_isDate c_X7_isWordByte c_X7_isDigit) R) (h32 : ∀ (a0 : Nat) (x2 : Int) (x3 : Int), k32 a0 x2 x3 → f_E sh t YX7_isDate rm cs (f_Q sh t R) 32 [.inr (.inr (.inl (22, 640, a0))), .inr (.inr (.inr ())), .inl x2, .inl x3, .inr (.inr (.inr ()))] [] M) (h : VX7_isDate_75 c_X7_isWordByte c_X7_isDigit k32 (fun r => R (some (.inl r)) M) a0 x2 x3 xs0 M) : f_E sh t YX7_isDate rm cs (f_Q sh t R) 75 [.inr (.inr (.inl (22, 640, a0))), .inr (.inr (.inr ())), .inl x2, .inl x3, .inr (.inr (.inr ()))] [.inl xs0] M := by
  rw [f_kk3 M k32] at h
  exact f_go (KC := f_kc [(32, f_pl [(3, 22, 640), (0, 0, 0), (1, 0, 0), (1, 0, 0), (0, 0, 0)] [] (fun ls st M2 => M2 = M ∧ (k32 (f_va (f_nth ls 0)) (f_vi (f_nth ls 2)) (f_vi (f_nth ls 3)))))]) C qX7_isDatef (f_kc_cons (f_pl_ok rfl (fun ls st M2 ⟨e, hh⟩ => by subst e; exact h32 _ _ _ hh)) f_kc_nil) 62 51 h
set_option maxRecDepth 20000 in
theorem BX7_isDate {sh : Nat → Nat × Nat} {t : Nat} {rm : Nat × Nat × Nat} {cs : Nat × Nat} {R : f_Rt} {c_X7_isWordByte : Int → e_M → (Int → Prop) → Prop} {c_X7_isDigit : Int → e_M → (Int → Prop) → Prop} {k30 : Nat → Int → Prop} {a0 : Nat} {x1 : Int} {x2 : Int} {M : e_M} (C : f_Hy sh t yX7_isDate rm cs 5 (lX7_isDate c_X7_isWordByte c_X7_isDigit) R) (h30 : ∀ (a0 : Nat) (x2 : Int), k30 a0 x2 → f_E sh t YX7_isDate rm cs (f_Q sh t R) 30 [.inr (.inr (.inl (22, 640, a0))), .inr (.inr (.inr ())), .inl x2, .inr (.inr (.inr ())), .inr (.inr (.inr ()))] [] M) (h : VX7_isDate c_X7_isWordByte c_X7_isDigit k30 (fun r => R (some (.inl r)) M) a0 x1 x2 M) : f_E sh t YX7_isDate rm cs (f_Q sh t R) 0 [.inr (.inr (.inl (22, 640, a0))), .inl x1, .inl x2, .inr (.inr (.inr ())), .inr (.inr (.inr ()))] [] M := by
  rw [f_kk2 M k30] at h
  exact f_go (KC := f_kc [(30, f_pl [(3, 22, 640), (0, 0, 0), (1, 0, 0), (0, 0, 0), (0, 0, 0)] [] (fun ls st M2 => M2 = M ∧ (k30 (f_va (f_nth ls 0)) (f_vi (f_nth ls 2)))))]) C qX7_isDatef (f_kc_cons (f_pl_ok rfl (fun ls st M2 ⟨e, hh⟩ => by subst e; exact h30 _ _ hh)) f_kc_nil) 62 0 h
def WX7_isDate_75 (M : e_M) (H32 : Nat → Int → Int → Prop) (Q : Int → Prop) (a0 : Nat) (x2 : Int) (x3 : Int) (xs0 : Int) : Prop :=
  VX7_isDate_75 WX7_isWordByte WX7_isDigit H32 Q a0 x2 x3 xs0 M
def WX7_isDate_49 (M : e_M) (H32 : Nat → Int → Int → Prop) (Q : Int → Prop) (a0 : Nat) (x2 : Int) (x3 : Int) : Prop :=
  VX7_isDate_49 WX7_isWordByte WX7_isDigit (WX7_isDate_75 M H32 Q) Q a0 x2 x3 M
def WX7_isDate_32 (M : e_M) (Q : Int → Prop) : Nat → Nat → Int → Int → Prop
  | 0, _, _, _ => False
  | n + 1, a0, x2, x3 =>
    VX7_isDate_32 WX7_isWordByte WX7_isDigit (WX7_isDate_49 M (WX7_isDate_32 M Q n) Q) (WX7_isDate_75 M (WX7_isDate_32 M Q n) Q) Q a0 x2 x3 M
def WX7_isDate_30 (M : e_M) (Q : Int → Prop) (a0 : Nat) (x2 : Int) : Prop :=
  VX7_isDate_30 WX7_isWordByte WX7_isDigit (fun a0 x2 x3 => ∃ j, WX7_isDate_32 M Q j a0 x2 x3) Q a0 x2 M
def WX7_isDate (a0 : Nat) (x1 : Int) (x2 : Int) (M : e_M) (Q : Int → Prop) : Prop :=
  VX7_isDate WX7_isWordByte WX7_isDigit (WX7_isDate_30 M Q) Q a0 x1 x2 M
theorem PX7_isDate_75 {sh : Nat → Nat × Nat} {t : Nat} {rm : Nat × Nat × Nat} {cs : Nat × Nat} {R : f_Rt} {H32 : Nat → Int → Int → Prop} {a0 : Nat} {x2 : Int} {x3 : Int} {xs0 : Int} {M : e_M} (C : f_Hy sh t yX7_isDate rm cs 5 (lX7_isDate WX7_isWordByte WX7_isDigit) R) (g32 : ∀ (a0 : Nat) (x2 : Int) (x3 : Int), H32 a0 x2 x3 → f_E sh t YX7_isDate rm cs (f_Q sh t R) 32 [.inr (.inr (.inl (22, 640, a0))), .inr (.inr (.inr ())), .inl x2, .inl x3, .inr (.inr (.inr ()))] [] M) (h : WX7_isDate_75 M H32 (fun r => R (some (.inl r)) M) a0 x2 x3 xs0) : f_E sh t YX7_isDate rm cs (f_Q sh t R) 75 [.inr (.inr (.inl (22, 640, a0))), .inr (.inr (.inr ())), .inl x2, .inl x3, .inr (.inr (.inr ()))] [.inl xs0] M :=
  BX7_isDate_75 C g32 h
theorem PX7_isDate_49 {sh : Nat → Nat × Nat} {t : Nat} {rm : Nat × Nat × Nat} {cs : Nat × Nat} {R : f_Rt} {H32 : Nat → Int → Int → Prop} {a0 : Nat} {x2 : Int} {x3 : Int} {M : e_M} (C : f_Hy sh t yX7_isDate rm cs 5 (lX7_isDate WX7_isWordByte WX7_isDigit) R) (g32 : ∀ (a0 : Nat) (x2 : Int) (x3 : Int), H32 a0 x2 x3 → f_E sh t YX7_isDate rm cs (f_Q sh t R) 32 [.inr (.inr (.inl (22, 640, a0))), .inr (.inr (.inr ())), .inl x2, .inl x3, .inr (.inr (.inr ()))] [] M) (h : WX7_isDate_49 M H32 (fun r => R (some (.inl r)) M) a0 x2 x3) : f_E sh t YX7_isDate rm cs (f_Q sh t R) 49 [.inr (.inr (.inl (22, 640, a0))), .inr (.inr (.inr ())), .inl x2, .inl x3, .inr (.inr (.inr ()))] [] M :=
  BX7_isDate_49 C (fun a0 x2 x3 xs0 h => PX7_isDate_75 C g32 h) h
theorem PX7_isDate_32 {sh : Nat → Nat × Nat} {t : Nat} {rm : Nat × Nat × Nat} {cs : Nat × Nat} {R : f_Rt} {M : e_M} (C : f_Hy sh t yX7_isDate rm cs 5 (lX7_isDate WX7_isWordByte WX7_isDigit) R) : ∀ (n : Nat) (a0 : Nat) (x2 : Int) (x3 : Int), WX7_isDate_32 M (fun r => R (some (.inl r)) M) n a0 x2 x3 → f_E sh t YX7_isDate rm cs (f_Q sh t R) 32 [.inr (.inr (.inl (22, 640, a0))), .inr (.inr (.inr ())), .inl x2, .inl x3, .inr (.inr (.inr ()))] [] M := by
  intro n
  induction n with
  | zero => intro a0 x2 x3 h; exact h.elim
  | succ n ih => intro a0 x2 x3 h; exact BX7_isDate_32 C (fun a0 x2 x3 h => PX7_isDate_49 C ih h) (fun a0 x2 x3 xs0 h => PX7_isDate_75 C ih h) h
theorem PX7_isDate_30 {sh : Nat → Nat × Nat} {t : Nat} {rm : Nat × Nat × Nat} {cs : Nat × Nat} {R : f_Rt} {a0 : Nat} {x2 : Int} {M : e_M} (C : f_Hy sh t yX7_isDate rm cs 5 (lX7_isDate WX7_isWordByte WX7_isDigit) R) (h : WX7_isDate_30 M (fun r => R (some (.inl r)) M) a0 x2) : f_E sh t YX7_isDate rm cs (f_Q sh t R) 30 [.inr (.inr (.inl (22, 640, a0))), .inr (.inr (.inr ())), .inl x2, .inr (.inr (.inr ())), .inr (.inr (.inr ()))] [] M :=
  BX7_isDate_30 C (fun a0 x2 x3 ⟨j, h⟩ => PX7_isDate_32 C j _ _ _ h) h
theorem PX7_isDate {sh : Nat → Nat × Nat} {t : Nat} {rm : Nat × Nat × Nat} {cs : Nat × Nat} {R : f_Rt} {a0 : Nat} {x1 : Int} {x2 : Int} {M : e_M} (C : f_Hy sh t yX7_isDate rm cs 5 (lX7_isDate WX7_isWordByte WX7_isDigit) R) (h : WX7_isDate a0 x1 x2 M (fun r => R (some (.inl r)) M)) : f_E sh t YX7_isDate rm cs (f_Q sh t R) 0 [.inr (.inr (.inl (22, 640, a0))), .inl x1, .inl x2, .inr (.inr (.inr ())), .inr (.inr (.inr ()))] [] M :=
  BX7_isDate C (fun a0 x2 h => PX7_isDate_30 C h) h
def wX7_isDate : f_Wt := f_wm [(3, 22, 640), (1, 0, 0), (1, 0, 0)] (fun ar M R => WX7_isDate (f_va (f_nth ar 0)) (f_vi (f_nth ar 1)) (f_vi (f_nth ar 2)) M (fun r => R (some (.inl r)) M))
theorem TX7_isDate {sh : Nat → Nat × Nat} {t : Nat} : f_Mt sh t YX7_isDate 5 (wX7_isDate) :=
  f_Mt_of (k := 2) (Nat.le_of_ble_eq_true rfl) rfl rfl (fun ar M R rm cs h1 h2 h3 hX h => PX7_isDate ⟨Nat.le_of_ble_eq_true rfl, h1, h2, h3, ⟨(f_Mt.up (Nat.le_of_ble_eq_true rfl) TX7_isWordByte), (f_Mt.up (Nat.le_of_ble_eq_true rfl) TX7_isDigit), trivial⟩, hX⟩ h)
def VX7_digits_5 (k5 : Nat → Int → Int → Int → Prop) (Q : Int → Prop) (a0 : Nat) (x2 : Int) (x3 : Int) (x4 : Int) (M : e_M) : Prop :=
  ((x2 ≤ x4 → (Q x3)) ∧ (x4 < x2 → ((0 ≤ x4 ∧ x4 < 640) ∧ (∀ y1 : Int, y1 = e_w32 ((e_w32 ((e_w32 (x3 * 10)) + (M a0 (x4.toNat)))) - 48) → (k5 a0 x2 y1 (e_w32 (x4 + 1)))))))
def VX7_digits (k5 : Nat → Int → Int → Int → Prop) (Q : Int → Prop) (a0 : Nat) (x1 : Int) (x2 : Int) (M : e_M) : Prop :=
  (k5 a0 x2 0 x1)
def yX7_digits (i : Nat) : e_Y := x_get YX7_digits [] i
def pX7_digitsf : List x_I := [(0, 0, 1, 0, 0, 0, []), (1, 5, 1, 3, 0, 0, []), (2, 2, 1, 1, 0, 0, []), (3, 5, 2, 4, 0, 0, []), (5, 49, 0, 0, 0, 0, []), (5, 2, 2, 4, 0, 0, []), (7, 2, 1, 2, 0, 0, []), (8, 18, 30, 3, 22, 0, []), (11, 2, 1, 3, 0, 0, []), (12, 0, 2, 0, 0, 10, []), (14, 9, 0, 2, 0, 0, []), (15, 4, 1, 0, 0, 0, []), (16, 2, 2, 4, 0, 0, []), (18, 27, 0, 2, 0, 0, []), (19, 9, 0, 0, 0, 0, []), (20, 0, 2, 0, 0, 48, []), (22, 9, 0, 1, 0, 0, []), (23, 33, 0, 0, 0, 0, []), (23, 5, 1, 3, 0, 0, []), (24, 8, 0, 4, 0, 1, []), (27, 19, 5, 0, 5, 0, []), (30, 2, 1, 3, 0, 0, []), (31, 41, 0, 0, 0, 0, [])]
set_option maxRecDepth 20000 in
theorem qX7_digitsf : f_all yX7_digits YX7_digits pX7_digitsf :=
  ⟨f_iconst (e_dx DX7_digits_0 0 rfl) ⟨by decide, by decide⟩,
  f_istore_n (n := 3) (e_dx DX7_digits_0 1 rfl) rfl (by decide),
  f_iload_n (n := 1) (e_dx DX7_digits_0 2 rfl) rfl,
  f_istore (e_dx DX7_digits_0 3 rfl) (by decide),
  trivial,
  f_iload (e_dx DX7_digits_0 4 rfl),
  f_iload_n (n := 2) (e_dx DX7_digits_0 5 rfl) rfl,
  f_icmp_ge (e_dx DX7_digits_0 6 rfl) rfl,
  f_iload_n (n := 3) (e_dx DX7_digits_0 7 rfl) rfl,
  f_bipush (e_dx DX7_digits_0 8 rfl) ⟨by decide, by decide⟩,
  f_imul (e_dx DX7_digits_0 9 rfl),
  f_aload_n (n := 0) (e_dx DX7_digits_0 10 rfl) rfl,
  f_iload (e_dx DX7_digits_0 11 rfl),
  f_baload (e_dx DX7_digits_0 12 rfl),
  f_iadd (e_dx DX7_digits_0 13 rfl),
  f_bipush (e_dx DX7_digits_0 14 rfl) ⟨by decide, by decide⟩,
  f_isub (e_dx DX7_digits_0 15 rfl),
  f_g33,
  f_istore_n (n := 3) (e_dx DX7_digits_0 16 rfl) rfl (by decide),
  f_g8 (e_dx DX7_digits_0 17 rfl) ⟨by decide, by decide⟩,
  f_g19 (e_dx DX7_digits_0 18 rfl) rfl,
  f_iload_n (n := 3) (e_dx DX7_digits_0 19 rfl) rfl,
  ⟨(e_dx DX7_digits_0 20 rfl), rfl⟩, trivial⟩
def lX7_digits : List (Nat × f_Wt) := []
set_option maxRecDepth 20000 in
theorem BX7_digits_5 {sh : Nat → Nat × Nat} {t : Nat} {rm : Nat × Nat × Nat} {cs : Nat × Nat} {R : f_Rt} {k5 : Nat → Int → Int → Int → Prop} {a0 : Nat} {x2 : Int} {x3 : Int} {x4 : Int} {M : e_M} (C : f_Hy sh t yX7_digits rm cs 4 (lX7_digits) R) (h5 : ∀ (a0 : Nat) (x2 : Int) (x3 : Int) (x4 : Int), k5 a0 x2 x3 x4 → f_E sh t YX7_digits rm cs (f_Q sh t R) 5 [.inr (.inr (.inl (22, 640, a0))), .inr (.inr (.inr ())), .inl x2, .inl x3, .inl x4] [] M) (h : VX7_digits_5 k5 (fun r => R (some (.inl r)) M) a0 x2 x3 x4 M) : f_E sh t YX7_digits rm cs (f_Q sh t R) 5 [.inr (.inr (.inl (22, 640, a0))), .inr (.inr (.inr ())), .inl x2, .inl x3, .inl x4] [] M := by
  rw [f_kk4 M k5] at h
  exact f_go (KC := f_kc [(5, f_pl [(3, 22, 640), (0, 0, 0), (1, 0, 0), (1, 0, 0), (1, 0, 0)] [] (fun ls st M2 => M2 = M ∧ (k5 (f_va (f_nth ls 0)) (f_vi (f_nth ls 2)) (f_vi (f_nth ls 3)) (f_vi (f_nth ls 4)))))]) C qX7_digitsf (f_kc_cons (f_pl_ok rfl (fun ls st M2 ⟨e, hh⟩ => by subst e; exact h5 _ _ _ _ hh)) f_kc_nil) 25 5 h
set_option maxRecDepth 20000 in
theorem BX7_digits {sh : Nat → Nat × Nat} {t : Nat} {rm : Nat × Nat × Nat} {cs : Nat × Nat} {R : f_Rt} {k5 : Nat → Int → Int → Int → Prop} {a0 : Nat} {x1 : Int} {x2 : Int} {M : e_M} (C : f_Hy sh t yX7_digits rm cs 4 (lX7_digits) R) (h5 : ∀ (a0 : Nat) (x2 : Int) (x3 : Int) (x4 : Int), k5 a0 x2 x3 x4 → f_E sh t YX7_digits rm cs (f_Q sh t R) 5 [.inr (.inr (.inl (22, 640, a0))), .inr (.inr (.inr ())), .inl x2, .inl x3, .inl x4] [] M) (h : VX7_digits k5 (fun r => R (some (.inl r)) M) a0 x1 x2 M) : f_E sh t YX7_digits rm cs (f_Q sh t R) 0 [.inr (.inr (.inl (22, 640, a0))), .inl x1, .inl x2, .inr (.inr (.inr ())), .inr (.inr (.inr ()))] [] M := by
  rw [f_kk4 M k5] at h
  exact f_go (KC := f_kc [(5, f_pl [(3, 22, 640), (0, 0, 0), (1, 0, 0), (1, 0, 0), (1, 0, 0)] [] (fun ls st M2 => M2 = M ∧ (k5 (f_va (f_nth ls 0)) (f_vi (f_nth ls 2)) (f_vi (f_nth ls 3)) (f_vi (f_nth ls 4)))))]) C qX7_digitsf (f_kc_cons (f_pl_ok rfl (fun ls st M2 ⟨e, hh⟩ => by subst e; exact h5 _ _ _ _ hh)) f_kc_nil) 25 0 h
def WX7_digits_5 (M : e_M) (Q : Int → Prop) : Nat → Nat → Int → Int → Int → Prop
  | 0, _, _, _, _ => False
  | n + 1, a0, x2, x3, x4 =>
    VX7_digits_5 (WX7_digits_5 M Q n) Q a0 x2 x3 x4 M
def WX7_digits (a0 : Nat) (x1 : Int) (x2 : Int) (M : e_M) (Q : Int → Prop) : Prop :=
  VX7_digits (fun a0 x2 x3 x4 => ∃ j, WX7_digits_5 M Q j a0 x2 x3 x4) Q a0 x1 x2 M
theorem PX7_digits_5 {sh : Nat → Nat × Nat} {t : Nat} {rm : Nat × Nat × Nat} {cs : Nat × Nat} {R : f_Rt} {M : e_M} (C : f_Hy sh t yX7_digits rm cs 4 (lX7_digits) R) : ∀ (n : Nat) (a0 : Nat) (x2 : Int) (x3 : Int) (x4 : Int), WX7_digits_5 M (fun r => R (some (.inl r)) M) n a0 x2 x3 x4 → f_E sh t YX7_digits rm cs (f_Q sh t R) 5 [.inr (.inr (.inl (22, 640, a0))), .inr (.inr (.inr ())), .inl x2, .inl x3, .inl x4] [] M := by
  intro n
  induction n with
  | zero => intro a0 x2 x3 x4 h; exact h.elim
  | succ n ih => intro a0 x2 x3 x4 h; exact BX7_digits_5 C ih h
theorem PX7_digits {sh : Nat → Nat × Nat} {t : Nat} {rm : Nat × Nat × Nat} {cs : Nat × Nat} {R : f_Rt} {a0 : Nat} {x1 : Int} {x2 : Int} {M : e_M} (C : f_Hy sh t yX7_digits rm cs 4 (lX7_digits) R) (h : WX7_digits a0 x1 x2 M (fun r => R (some (.inl r)) M)) : f_E sh t YX7_digits rm cs (f_Q sh t R) 0 [.inr (.inr (.inl (22, 640, a0))), .inl x1, .inl x2, .inr (.inr (.inr ())), .inr (.inr (.inr ()))] [] M :=
  BX7_digits C (fun a0 x2 x3 x4 ⟨j, h⟩ => PX7_digits_5 C j _ _ _ _ h) h
def wX7_digits : f_Wt := f_wm [(3, 22, 640), (1, 0, 0), (1, 0, 0)] (fun ar M R => WX7_digits (f_va (f_nth ar 0)) (f_vi (f_nth ar 1)) (f_vi (f_nth ar 2)) M (fun r => R (some (.inl r)) M))
theorem TX7_digits {sh : Nat → Nat × Nat} {t : Nat} : f_Mt sh t YX7_digits 4 (wX7_digits) :=
  f_Mt_of (k := 2) (Nat.le_of_ble_eq_true rfl) rfl rfl (fun ar M R rm cs h1 h2 h3 hX h => PX7_digits ⟨Nat.le_of_ble_eq_true rfl, h1, h2, h3, trivial, hX⟩ h)
def VX7_push (Q : e_M → Prop) (x1 : Int) (x2 : Int) (x3 : Int) (M : e_M) : Prop :=
  ((641 ≤ (M 10 4) → (Q M)) ∧ ((M 10 4) < 641 → ((0 ≤ (M 10 4) ∧ (M 10 4) < 641) ∧ (∀ M1 : e_M, M1 = e_up M 12 ((M 10 4).toNat) x1 → ((0 ≤ (M1 10 4) ∧ (M1 10 4) < 641) ∧ (∀ M2 : e_M, M2 = e_up M1 13 ((M1 10 4).toNat) x2 → ((0 ≤ (M2 10 4) ∧ (M2 10 4) < 641) ∧ (∀ M3 : e_M, M3 = e_up M2 14 ((M2 10 4).toNat) x3 → (∀ M4 : e_M, M4 = e_up M3 10 4 (e_w32 ((M3 10 4) + 1)) → (Q M4))))))))))
def yX7_push (i : Nat) : e_Y := x_get YX7_push [] i
def pX7_pushf : List x_I := [(0, 4, 1, 0, 0, 0, []), (1, 25, 7, 4, 0, 0, []), (4, 4, 1, 0, 0, 0, []), (5, 25, 7, 1, 4, 0, [(0, 20, 641), (0, 1, 2)]), (8, 31, 0, 0, 0, 0, []), (9, 18, 52, 3, 31, 0, []), (12, 4, 1, 0, 0, 0, []), (13, 25, 7, 1, 4, 0, [(0, 20, 641), (0, 1, 2)]), (16, 4, 1, 0, 0, 0, []), (17, 25, 7, 4, 0, 0, []), (20, 2, 1, 1, 0, 0, []), (21, 28, 0, 0, 0, 0, []), (22, 4, 1, 0, 0, 0, []), (23, 25, 7, 2, 4, 0, [(0, 20, 641), (0, 1, 3)]), (26, 4, 1, 0, 0, 0, []), (27, 25, 7, 4, 0, 0, []), (30, 2, 1, 2, 0, 0, []), (31, 28, 0, 0, 0, 0, []), (32, 4, 1, 0, 0, 0, []), (33, 25, 7, 3, 4, 0, [(0, 23, 641), (0, 1, 4)]), (36, 4, 1, 0, 0, 0, []), (37, 25, 7, 4, 0, 0, []), (40, 3, 1, 3, 0, 0, []), (41, 28, 0, 1, 0, 0, []), (42, 4, 1, 0, 0, 0, []), (43, 20, 0, 0, 0, 0, []), (44, 25, 7, 4, 0, 0, []), (47, 0, 1, 0, 0, 1, []), (48, 9, 0, 0, 0, 0, []), (49, 26, 7, 4, 0, 0, []), (52, 44, 0, 0, 0, 0, [])]
set_option maxRecDepth 20000 in
theorem qX7_pushf : f_all yX7_push YX7_push pX7_pushf :=
  ⟨f_aload_n (n := 0) (e_dx DX7_push_0 0 rfl) rfl,
  f_getf (e_dx DX7_push_0 1 rfl) fX7_25 rfl (by decide) (by decide) (by decide),
  f_aload_n (n := 0) (e_dx DX7_push_0 2 rfl) rfl,
  f_getA (e_dx DX7_push_0 3 rfl) fX7_15 rfl (by decide) (Nat.le_of_ble_eq_true rfl) rfl (by decide),
  f_g31 (e_dx DX7_push_0 4 rfl),
  f_icmp_ge (e_dx DX7_push_0 5 rfl) rfl,
  f_aload_n (n := 0) (e_dx DX7_push_0 6 rfl) rfl,
  f_getA (e_dx DX7_push_0 7 rfl) fX7_15 rfl (by decide) (Nat.le_of_ble_eq_true rfl) rfl (by decide),
  f_aload_n (n := 0) (e_dx DX7_push_0 8 rfl) rfl,
  f_getf (e_dx DX7_push_0 9 rfl) fX7_25 rfl (by decide) (by decide) (by decide),
  f_iload_n (n := 1) (e_dx DX7_push_0 10 rfl) rfl,
  f_iastore (e_dx DX7_push_0 11 rfl),
  f_aload_n (n := 0) (e_dx DX7_push_0 12 rfl) rfl,
  f_getA (e_dx DX7_push_0 13 rfl) fX7_19 rfl (by decide) (Nat.le_of_ble_eq_true rfl) rfl (by decide),
  f_aload_n (n := 0) (e_dx DX7_push_0 14 rfl) rfl,
  f_getf (e_dx DX7_push_0 15 rfl) fX7_25 rfl (by decide) (by decide) (by decide),
  f_iload_n (n := 2) (e_dx DX7_push_0 16 rfl) rfl,
  f_iastore (e_dx DX7_push_0 17 rfl),
  f_aload_n (n := 0) (e_dx DX7_push_0 18 rfl) rfl,
  f_getA (e_dx DX7_push_0 19 rfl) fX7_22 rfl (by decide) (Nat.le_of_ble_eq_true rfl) rfl (by decide),
  f_aload_n (n := 0) (e_dx DX7_push_0 20 rfl) rfl,
  f_getf (e_dx DX7_push_0 21 rfl) fX7_25 rfl (by decide) (by decide) (by decide),
  f_lload_n (n := 3) (e_dx DX7_push_0 22 rfl) rfl,
  f_lastore (e_dx DX7_push_0 23 rfl),
  f_aload_n (n := 0) (e_dx DX7_push_0 24 rfl) rfl,
  f_g20 (e_dx DX7_push_0 25 rfl),
  f_getf (e_dx DX7_push_0 26 rfl) fX7_25 rfl (by decide) (by decide) (by decide),
  f_iconst (e_dx DX7_push_0 27 rfl) ⟨by decide, by decide⟩,
  f_iadd (e_dx DX7_push_0 28 rfl),
  f_putn (e_dx DX7_push_0 29 rfl) fX7_25 (fun q hq => by cases hq; rfl) rfl (Or.inl rfl) (by decide),
  ⟨(e_dx DX7_push_0 30 rfl), rfl⟩, trivial⟩
def lX7_push : List (Nat × f_Wt) := []
set_option maxRecDepth 20000 in
theorem BX7_push {sh : Nat → Nat × Nat} {t : Nat} {rm : Nat × Nat × Nat} {cs : Nat × Nat} {R : f_Rt} {x1 : Int} {x2 : Int} {x3 : Int} {M : e_M} (C : f_Hy sh t yX7_push rm cs 4 (lX7_push) R) (h : VX7_push (fun M => R none M) x1 x2 x3 M) : f_E sh t YX7_push rm cs (f_Q sh t R) 0 [.inr (.inr (.inl (7, 12, 10))), .inl x1, .inl x2, .inr (.inl x3), .inr (.inr (.inr ()))] [] M :=
  f_go (KC := f_kc []) C qX7_pushf f_kc_nil 33 0 h
def WX7_push (x1 : Int) (x2 : Int) (x3 : Int) (M : e_M) (Q : e_M → Prop) : Prop :=
  VX7_push Q x1 x2 x3 M
theorem PX7_push {sh : Nat → Nat × Nat} {t : Nat} {rm : Nat × Nat × Nat} {cs : Nat × Nat} {R : f_Rt} {x1 : Int} {x2 : Int} {x3 : Int} {M : e_M} (C : f_Hy sh t yX7_push rm cs 4 (lX7_push) R) (h : WX7_push x1 x2 x3 M (fun M => R none M)) : f_E sh t YX7_push rm cs (f_Q sh t R) 0 [.inr (.inr (.inl (7, 12, 10))), .inl x1, .inl x2, .inr (.inl x3), .inr (.inr (.inr ()))] [] M :=
  BX7_push C h
def wX7_push : f_Wt := f_wm [(20, 7, 12), (1, 0, 0), (1, 0, 0), (2, 0, 0)] (fun ar M R => WX7_push (f_vi (f_nth ar 1)) (f_vi (f_nth ar 2)) (f_vi (f_nth ar 3)) M (fun M => R none M))
theorem TX7_push {sh : Nat → Nat × Nat} {t : Nat} : f_Mt sh t YX7_push 4 (wX7_push) :=
  f_Mt_of (k := 0) (Nat.le_of_ble_eq_true rfl) rfl rfl (fun ar M R rm cs h1 h2 h3 hX h => PX7_push ⟨Nat.le_of_ble_eq_true rfl, h1, h2, h3, trivial, hX⟩ h)
def VX7_scanSign_26 (c_X7_push : Int → Int → Int → e_M → (e_M → Prop) → Prop) (k27 : Int → Int → Int → e_M → Prop) (Q : Int → e_M → Prop) (x3 : Int) (x4 : Int) (M : e_M) : Prop :=
  (k27 x3 x4 0 M)
def VX7_scanSign_27 (c_X7_push : Int → Int → Int → e_M → (e_M → Prop) → Prop) (k255 : Int → Int → Int → e_M → Prop) (k210 : Int → Int → Int → e_M → Prop) (k180 : Int → Int → Int → e_M → Prop) (k238 : Int → Int → Int → e_M → Prop) (Q : Int → e_M → Prop) (x3 : Int) (x4 : Int) (xs0 : Int) (M : e_M) : Prop :=
  ((x4 = 33 → ((xs0 = 0 → (k238 x3 xs0 1 M)) ∧ (¬ xs0 = 0 → (k238 x3 xs0 33 M)))) ∧ (¬ x4 = 33 → ((x4 = 35 → (k255 x3 x4 1 M)) ∧ (¬ x4 = 35 → ((x4 = 40 → (k255 x3 x4 1 M)) ∧ (¬ x4 = 40 → ((x4 = 41 → (k255 x3 x4 1 M)) ∧ (¬ x4 = 41 → ((x4 = 42 → (k255 x3 x4 1 M)) ∧ (¬ x4 = 42 → ((x4 = 43 → (k255 x3 x4 1 M)) ∧ (¬ x4 = 43 → ((x4 = 44 → (k255 x3 x4 1 M)) ∧ (¬ x4 = 44 → ((x4 = 45 → (k255 x3 x4 1 M)) ∧ (¬ x4 = 45 → ((x4 = 47 → (k255 x3 x4 1 M)) ∧ (¬ x4 = 47 → ((x4 = 60 → ((xs0 = 0 → (k180 x3 xs0 x4 M)) ∧ (¬ xs0 = 0 → (k180 x3 xs0 128 M)))) ∧ (¬ x4 = 60 → ((x4 = 61 → (k255 x3 x4 1 M)) ∧ (¬ x4 = 61 → ((x4 = 62 → ((xs0 = 0 → (k210 x3 xs0 x4 M)) ∧ (¬ xs0 = 0 → (k210 x3 xs0 129 M)))) ∧ (¬ x4 = 62 → ((x4 = 123 → (k255 x3 x4 1 M)) ∧ (¬ x4 = 123 → ((x4 = 125 → (k255 x3 x4 1 M)) ∧ (¬ x4 = 125 → (k255 x3 1 1 M)))))))))))))))))))))))))))))
def VX7_scanSign_180 (c_X7_push : Int → Int → Int → e_M → (e_M → Prop) → Prop) (k192 : Int → Int → Int → e_M → Prop) (Q : Int → e_M → Prop) (x3 : Int) (x5 : Int) (xs0 : Int) (M : e_M) : Prop :=
  ((x5 = 0 → (k192 x3 xs0 1 M)) ∧ (¬ x5 = 0 → (k192 x3 xs0 2 M)))
def VX7_scanSign_192 (c_X7_push : Int → Int → Int → e_M → (e_M → Prop) → Prop) (k255 : Int → Int → Int → e_M → Prop) (Q : Int → e_M → Prop) (x3 : Int) (x6 : Int) (xs0 : Int) (M : e_M) : Prop :=
  (k255 x3 x6 xs0 M)
def VX7_scanSign_210 (c_X7_push : Int → Int → Int → e_M → (e_M → Prop) → Prop) (k222 : Int → Int → Int → e_M → Prop) (Q : Int → e_M → Prop) (x3 : Int) (x5 : Int) (xs0 : Int) (M : e_M) : Prop :=
  ((x5 = 0 → (k222 x3 xs0 1 M)) ∧ (¬ x5 = 0 → (k222 x3 xs0 2 M)))
def VX7_scanSign_222 (c_X7_push : Int → Int → Int → e_M → (e_M → Prop) → Prop) (k255 : Int → Int → Int → e_M → Prop) (Q : Int → e_M → Prop) (x3 : Int) (x6 : Int) (xs0 : Int) (M : e_M) : Prop :=
  (k255 x3 x6 xs0 M)
def VX7_scanSign_238 (c_X7_push : Int → Int → Int → e_M → (e_M → Prop) → Prop) (k250 : Int → Int → Int → e_M → Prop) (Q : Int → e_M → Prop) (x3 : Int) (x5 : Int) (xs0 : Int) (M : e_M) : Prop :=
  ((x5 = 0 → (k250 x3 xs0 1 M)) ∧ (¬ x5 = 0 → (k250 x3 xs0 2 M)))
def VX7_scanSign_250 (c_X7_push : Int → Int → Int → e_M → (e_M → Prop) → Prop) (k255 : Int → Int → Int → e_M → Prop) (Q : Int → e_M → Prop) (x3 : Int) (x6 : Int) (xs0 : Int) (M : e_M) : Prop :=
  (k255 x3 x6 xs0 M)
def VX7_scanSign_255 (c_X7_push : Int → Int → Int → e_M → (e_M → Prop) → Prop) (Q : Int → e_M → Prop) (x3 : Int) (x6 : Int) (x7 : Int) (M : e_M) : Prop :=
  (c_X7_push x6 x3 0 M (fun M1 => (Q (e_w32 (x3 + x7)) M1)))
def VX7_scanSign (c_X7_push : Int → Int → Int → e_M → (e_M → Prop) → Prop) (k26 : Int → Int → e_M → Prop) (k27 : Int → Int → Int → e_M → Prop) (Q : Int → e_M → Prop) (a1 : Nat) (x2 : Int) (x3 : Int) (M : e_M) : Prop :=
  ((0 ≤ x3 ∧ x3 < 640) ∧ ((x2 ≤ (e_w32 (x3 + 1)) → (k26 x3 (M a1 (x3.toNat)) M)) ∧ ((e_w32 (x3 + 1)) < x2 → ((0 ≤ (e_w32 (x3 + 1)) ∧ (e_w32 (x3 + 1)) < 640) ∧ ((¬ (M a1 ((e_w32 (x3 + 1)).toNat)) = 61 → (k26 x3 (M a1 (x3.toNat)) M)) ∧ ((M a1 ((e_w32 (x3 + 1)).toNat)) = 61 → (k27 x3 (M a1 (x3.toNat)) 1 M)))))))
def yX7_scanSign (i : Nat) : e_Y := x_get YX7_scanSign [YX7_push] i
def pX7_scanSignf : List x_I := [(0, 4, 1, 1, 0, 0, []), (1, 2, 1, 3, 0, 0, []), (2, 27, 0, 2, 0, 0, []), (3, 5, 2, 4, 0, 0, []), (5, 2, 1, 3, 0, 0, []), (6, 0, 1, 0, 0, 1, []), (7, 9, 0, 0, 0, 0, []), (8, 2, 1, 2, 0, 0, []), (9, 18, 26, 3, 19, 0, []), (12, 4, 1, 1, 0, 0, []), (13, 2, 1, 3, 0, 0, []), (14, 0, 1, 0, 0, 1, []), (15, 9, 0, 0, 0, 0, []), (16, 27, 0, 2, 0, 0, []), (17, 0, 2, 0, 0, 61, []), (19, 18, 26, 1, 19, 0, []), (22, 0, 1, 0, 0, 1, []), (23, 19, 27, 0, 21, 0, []), (26, 49, 0, 0, 0, 0, []), (26, 0, 1, 0, 0, 0, []), (27, 49, 0, 0, 0, 0, []), (27, 5, 2, 5, 0, 0, []), (29, 0, 1, 0, 0, 1, []), (30, 5, 2, 6, 0, 0, []), (32, 0, 1, 0, 0, 1, []), (33, 5, 2, 7, 0, 0, []), (35, 2, 2, 4, 0, 0, []), (37, 24, 255, 0, 77, 0, [(33, 227, 62), (35, 160, 29), (40, 160, 29), (41, 160, 29), (42, 160, 29), (43, 160, 29), (44, 160, 29), (45, 160, 29), (47, 160, 29), (60, 167, 32), (61, 160, 29), (62, 197, 47), (123, 160, 29), (125, 160, 29)]), (160, 2, 2, 4, 0, 0, []), (162, 5, 2, 6, 0, 0, []), (164, 19, 255, 0, 77, 0, []), (167, 2, 2, 5, 0, 0, []), (169, 17, 178, 0, 36, 0, []), (172, 0, 3, 0, 0, 128, []), (175, 19, 180, 0, 37, 0, []), (178, 2, 2, 4, 0, 0, []), (180, 49, 0, 0, 0, 0, []), (180, 5, 2, 6, 0, 0, []), (182, 2, 2, 5, 0, 0, []), (184, 17, 191, 0, 43, 0, []), (187, 0, 1, 0, 0, 2, []), (188, 19, 192, 0, 44, 0, []), (191, 0, 1, 0, 0, 1, []), (192, 49, 0, 0, 0, 0, []), (192, 5, 2, 7, 0, 0, []), (194, 19, 255, 0, 77, 0, []), (197, 2, 2, 5, 0, 0, []), (199, 17, 208, 0, 51, 0, []), (202, 0, 3, 0, 0, 129, []), (205, 19, 210, 0, 52, 0, []), (208, 2, 2, 4, 0, 0, []), (210, 49, 0, 0, 0, 0, []), (210, 5, 2, 6, 0, 0, []), (212, 2, 2, 5, 0, 0, []), (214, 17, 221, 0, 58, 0, []), (217, 0, 1, 0, 0, 2, []), (218, 19, 222, 0, 59, 0, []), (221, 0, 1, 0, 0, 1, []), (222, 49, 0, 0, 0, 0, []), (222, 5, 2, 7, 0, 0, []), (224, 19, 255, 0, 77, 0, []), (227, 2, 2, 5, 0, 0, []), (229, 17, 237, 0, 66, 0, []), (232, 0, 2, 0, 0, 33, []), (234, 19, 238, 0, 67, 0, []), (237, 0, 1, 0, 0, 1, []), (238, 49, 0, 0, 0, 0, []), (238, 5, 2, 6, 0, 0, []), (240, 2, 2, 5, 0, 0, []), (242, 17, 249, 0, 73, 0, []), (245, 0, 1, 0, 0, 2, []), (246, 19, 250, 0, 74, 0, []), (249, 0, 1, 0, 0, 1, []), (250, 49, 0, 0, 0, 0, []), (250, 5, 2, 7, 0, 0, []), (252, 19, 255, 0, 77, 0, []), (255, 49, 0, 0, 0, 0, []), (255, 4, 1, 0, 0, 0, []), (256, 2, 2, 6, 0, 0, []), (258, 2, 1, 3, 0, 0, []), (259, 1, 1, 0, 0, 0, []), (260, 40, 0, 4, 9, 0, []), (263, 2, 1, 3, 0, 0, []), (264, 2, 2, 7, 0, 0, []), (266, 9, 0, 0, 0, 0, []), (267, 41, 0, 0, 0, 0, [])]
set_option maxRecDepth 20000 in
theorem qX7_scanSignf : f_all yX7_scanSign YX7_scanSign pX7_scanSignf :=
  ⟨f_aload_n (n := 1) (e_dx DX7_scanSign_0 0 rfl) rfl,
  f_iload_n (n := 3) (e_dx DX7_scanSign_0 1 rfl) rfl,
  f_baload (e_dx DX7_scanSign_0 2 rfl),
  f_istore (e_dx DX7_scanSign_0 3 rfl) (by decide),
  f_iload_n (n := 3) (e_dx DX7_scanSign_0 4 rfl) rfl,
  f_iconst (e_dx DX7_scanSign_0 5 rfl) ⟨by decide, by decide⟩,
  f_iadd (e_dx DX7_scanSign_0 6 rfl),
  f_iload_n (n := 2) (e_dx DX7_scanSign_0 7 rfl) rfl,
  f_icmp_ge (e_dx DX7_scanSign_0 8 rfl) rfl,
  f_aload_n (n := 1) (e_dx DX7_scanSign_0 9 rfl) rfl,
  f_iload_n (n := 3) (e_dx DX7_scanSign_0 10 rfl) rfl,
  f_iconst (e_dx DX7_scanSign_0 11 rfl) ⟨by decide, by decide⟩,
  f_iadd (e_dx DX7_scanSign_0 12 rfl),
  f_baload (e_dx DX7_scanSign_0 13 rfl),
  f_bipush (e_dx DX7_scanSign_0 14 rfl) ⟨by decide, by decide⟩,
  f_icmp_ne (e_dx DX7_scanSign_0 15 rfl) rfl,
  f_iconst (e_dx DX7_scanSign_0 16 rfl) ⟨by decide, by decide⟩,
  f_g19 (e_dx DX7_scanSign_0 17 rfl) rfl,
  trivial,
  f_iconst (e_dx DX7_scanSign_0 18 rfl) ⟨by decide, by decide⟩,
  trivial,
  f_istore (e_dx DX7_scanSign_0 19 rfl) (by decide),
  f_iconst (e_dx DX7_scanSign_0 20 rfl) ⟨by decide, by decide⟩,
  f_istore (e_dx DX7_scanSign_0 21 rfl) (by decide),
  f_iconst (e_dx DX7_scanSign_0 22 rfl) ⟨by decide, by decide⟩,
  f_istore (e_dx DX7_scanSign_0 23 rfl) (by decide),
  f_iload (e_dx DX7_scanSign_0 24 rfl),
  f_lsw (e_dx DX7_scanSign_0 25 rfl) (by decide) rfl (by decide) rfl,
  f_iload (e_dx DX7_scanSign_0 26 rfl),
  f_istore (e_dx DX7_scanSign_0 27 rfl) (by decide),
  f_g19 (e_dx DX7_scanSign_0 28 rfl) rfl,
  f_iload (e_dx DX7_scanSign_0 29 rfl),
  f_if_eq (e_dx DX7_scanSign_0 30 rfl) rfl,
  f_sipush (e_dx DX7_scanSign_0 31 rfl) ⟨by decide, by decide⟩,
  f_g19 (e_dx DX7_scanSign_0 32 rfl) rfl,
  f_iload (e_dx DX7_scanSign_0 33 rfl),
  trivial,
  f_istore (e_dx DX7_scanSign_0 34 rfl) (by decide),
  f_iload (e_dx DX7_scanSign_0 35 rfl),
  f_if_eq (e_dx DX7_scanSign_0 36 rfl) rfl,
  f_iconst (e_dx DX7_scanSign_0 37 rfl) ⟨by decide, by decide⟩,
  f_g19 (e_dx DX7_scanSign_0 38 rfl) rfl,
  f_iconst (e_dx DX7_scanSign_0 39 rfl) ⟨by decide, by decide⟩,
  trivial,
  f_istore (e_dx DX7_scanSign_1 0 rfl) (by decide),
  f_g19 (e_dx DX7_scanSign_1 1 rfl) rfl,
  f_iload (e_dx DX7_scanSign_1 2 rfl),
  f_if_eq (e_dx DX7_scanSign_1 3 rfl) rfl,
  f_sipush (e_dx DX7_scanSign_1 4 rfl) ⟨by decide, by decide⟩,
  f_g19 (e_dx DX7_scanSign_1 5 rfl) rfl,
  f_iload (e_dx DX7_scanSign_1 6 rfl),
  trivial,
  f_istore (e_dx DX7_scanSign_1 7 rfl) (by decide),
  f_iload (e_dx DX7_scanSign_1 8 rfl),
  f_if_eq (e_dx DX7_scanSign_1 9 rfl) rfl,
  f_iconst (e_dx DX7_scanSign_1 10 rfl) ⟨by decide, by decide⟩,
  f_g19 (e_dx DX7_scanSign_1 11 rfl) rfl,
  f_iconst (e_dx DX7_scanSign_1 12 rfl) ⟨by decide, by decide⟩,
  trivial,
  f_istore (e_dx DX7_scanSign_1 13 rfl) (by decide),
  f_g19 (e_dx DX7_scanSign_1 14 rfl) rfl,
  f_iload (e_dx DX7_scanSign_1 15 rfl),
  f_if_eq (e_dx DX7_scanSign_1 16 rfl) rfl,
  f_bipush (e_dx DX7_scanSign_1 17 rfl) ⟨by decide, by decide⟩,
  f_g19 (e_dx DX7_scanSign_1 18 rfl) rfl,
  f_iconst (e_dx DX7_scanSign_1 19 rfl) ⟨by decide, by decide⟩,
  trivial,
  f_istore (e_dx DX7_scanSign_1 20 rfl) (by decide),
  f_iload (e_dx DX7_scanSign_1 21 rfl),
  f_if_eq (e_dx DX7_scanSign_1 22 rfl) rfl,
  f_iconst (e_dx DX7_scanSign_1 23 rfl) ⟨by decide, by decide⟩,
  f_g19 (e_dx DX7_scanSign_1 24 rfl) rfl,
  f_iconst (e_dx DX7_scanSign_1 25 rfl) ⟨by decide, by decide⟩,
  trivial,
  f_istore (e_dx DX7_scanSign_1 26 rfl) (by decide),
  f_g19 (e_dx DX7_scanSign_1 27 rfl) rfl,
  trivial,
  f_aload_n (n := 0) (e_dx DX7_scanSign_1 28 rfl) rfl,
  f_iload (e_dx DX7_scanSign_1 29 rfl),
  f_iload_n (n := 3) (e_dx DX7_scanSign_1 30 rfl) rfl,
  f_lconst (n := 0) (e_dx DX7_scanSign_1 31 rfl) rfl,
  x_callV (e_dx DX7_scanSign_1 32 rfl) mwX7_push vwX7_push cX7_89 rfl,
  f_iload_n (n := 3) (e_dx DX7_scanSign_1 33 rfl) rfl,
  f_iload (e_dx DX7_scanSign_1 34 rfl),
  f_iadd (e_dx DX7_scanSign_1 35 rfl),
  ⟨(e_dx DX7_scanSign_1 36 rfl), rfl⟩, trivial⟩
def lX7_scanSign (c_X7_push : Int → Int → Int → e_M → (e_M → Prop) → Prop) : List (Nat × f_Wt) := [(0, f_wm [(20, 7, 12), (1, 0, 0), (1, 0, 0), (2, 0, 0)] (fun ar M R => c_X7_push (f_vi (f_nth ar 1)) (f_vi (f_nth ar 2)) (f_vi (f_nth ar 3)) M (fun M => R none M)))]
set_option maxRecDepth 20000 in
theorem BX7_scanSign_26 {sh : Nat → Nat × Nat} {t : Nat} {rm : Nat × Nat × Nat} {cs : Nat × Nat} {R : f_Rt} {c_X7_push : Int → Int → Int → e_M → (e_M → Prop) → Prop} {k27 : Int → Int → Int → e_M → Prop} {x3 : Int} {x4 : Int} {M : e_M} (C : f_Hy sh t yX7_scanSign rm cs 5 (lX7_scanSign c_X7_push) R) (h27 : ∀ (x3 : Int) (x4 : Int) (xs0 : Int) (M : e_M), k27 x3 x4 xs0 M → f_E sh t YX7_scanSign rm cs (f_Q sh t R) 27 [.inr (.inr (.inl (7, 12, 10))), .inr (.inr (.inr ())), .inr (.inr (.inr ())), .inl x3, .inl x4, .inr (.inr (.inr ())), .inr (.inr (.inr ())), .inr (.inr (.inr ()))] [.inl xs0] M) (h : VX7_scanSign_26 c_X7_push k27 (fun r M => R (some (.inl r)) M) x3 x4 M) : f_E sh t YX7_scanSign rm cs (f_Q sh t R) 26 [.inr (.inr (.inl (7, 12, 10))), .inr (.inr (.inr ())), .inr (.inr (.inr ())), .inl x3, .inl x4, .inr (.inr (.inr ())), .inr (.inr (.inr ())), .inr (.inr (.inr ()))] [] M :=
  f_go (KC := f_kc [(27, f_pl [(20, 7, 12), (0, 0, 0), (0, 0, 0), (1, 0, 0), (1, 0, 0), (0, 0, 0), (0, 0, 0), (0, 0, 0)] [(1, 0, 0)] (fun ls st M => k27 (f_vi (f_nth ls 3)) (f_vi (f_nth ls 4)) (f_vi (f_nth st 0)) M))]) C qX7_scanSignf (f_kc_cons (f_pl_ok rfl (fun ls st M h => h27 _ _ _ M h)) f_kc_nil) 88 19 h
set_option maxRecDepth 20000 in
theorem BX7_scanSign_27 {sh : Nat → Nat × Nat} {t : Nat} {rm : Nat × Nat × Nat} {cs : Nat × Nat} {R : f_Rt} {c_X7_push : Int → Int → Int → e_M → (e_M → Prop) → Prop} {k255 : Int → Int → Int → e_M → Prop} {k210 : Int → Int → Int → e_M → Prop} {k180 : Int → Int → Int → e_M → Prop} {k238 : Int → Int → Int → e_M → Prop} {x3 : Int} {x4 : Int} {xs0 : Int} {M : e_M} (C : f_Hy sh t yX7_scanSign rm cs 5 (lX7_scanSign c_X7_push) R) (h255 : ∀ (x3 : Int) (x6 : Int) (x7 : Int) (M : e_M), k255 x3 x6 x7 M → f_E sh t YX7_scanSign rm cs (f_Q sh t R) 255 [.inr (.inr (.inl (7, 12, 10))), .inr (.inr (.inr ())), .inr (.inr (.inr ())), .inl x3, .inr (.inr (.inr ())), .inr (.inr (.inr ())), .inl x6, .inl x7] [] M) (h210 : ∀ (x3 : Int) (x5 : Int) (xs0 : Int) (M : e_M), k210 x3 x5 xs0 M → f_E sh t YX7_scanSign rm cs (f_Q sh t R) 210 [.inr (.inr (.inl (7, 12, 10))), .inr (.inr (.inr ())), .inr (.inr (.inr ())), .inl x3, .inr (.inr (.inr ())), .inl x5, .inr (.inr (.inr ())), .inr (.inr (.inr ()))] [.inl xs0] M) (h180 : ∀ (x3 : Int) (x5 : Int) (xs0 : Int) (M : e_M), k180 x3 x5 xs0 M → f_E sh t YX7_scanSign rm cs (f_Q sh t R) 180 [.inr (.inr (.inl (7, 12, 10))), .inr (.inr (.inr ())), .inr (.inr (.inr ())), .inl x3, .inr (.inr (.inr ())), .inl x5, .inr (.inr (.inr ())), .inr (.inr (.inr ()))] [.inl xs0] M) (h238 : ∀ (x3 : Int) (x5 : Int) (xs0 : Int) (M : e_M), k238 x3 x5 xs0 M → f_E sh t YX7_scanSign rm cs (f_Q sh t R) 238 [.inr (.inr (.inl (7, 12, 10))), .inr (.inr (.inr ())), .inr (.inr (.inr ())), .inl x3, .inr (.inr (.inr ())), .inl x5, .inr (.inr (.inr ())), .inr (.inr (.inr ()))] [.inl xs0] M) (h : VX7_scanSign_27 c_X7_push k255 k210 k180 k238 (fun r M => R (some (.inl r)) M) x3 x4 xs0 M) : f_E sh t YX7_scanSign rm cs (f_Q sh t R) 27 [.inr (.inr (.inl (7, 12, 10))), .inr (.inr (.inr ())), .inr (.inr (.inr ())), .inl x3, .inl x4, .inr (.inr (.inr ())), .inr (.inr (.inr ())), .inr (.inr (.inr ()))] [.inl xs0] M :=
  f_go (KC := f_kc [(255, f_pl [(20, 7, 12), (0, 0, 0), (0, 0, 0), (1, 0, 0), (0, 0, 0), (0, 0, 0), (1, 0, 0), (1, 0, 0)] [] (fun ls st M => k255 (f_vi (f_nth ls 3)) (f_vi (f_nth ls 6)) (f_vi (f_nth ls 7)) M)), (210, f_pl [(20, 7, 12), (0, 0, 0), (0, 0, 0), (1, 0, 0), (0, 0, 0), (1, 0, 0), (0, 0, 0), (0, 0, 0)] [(1, 0, 0)] (fun ls st M => k210 (f_vi (f_nth ls 3)) (f_vi (f_nth ls 5)) (f_vi (f_nth st 0)) M)), (180, f_pl [(20, 7, 12), (0, 0, 0), (0, 0, 0), (1, 0, 0), (0, 0, 0), (1, 0, 0), (0, 0, 0), (0, 0, 0)] [(1, 0, 0)] (fun ls st M => k180 (f_vi (f_nth ls 3)) (f_vi (f_nth ls 5)) (f_vi (f_nth st 0)) M)), (238, f_pl [(20, 7, 12), (0, 0, 0), (0, 0, 0), (1, 0, 0), (0, 0, 0), (1, 0, 0), (0, 0, 0), (0, 0, 0)] [(1, 0, 0)] (fun ls st M => k238 (f_vi (f_nth ls 3)) (f_vi (f_nth ls 5)) (f_vi (f_nth st 0)) M))]) C qX7_scanSignf (f_kc_cons (f_pl_ok rfl (fun ls st M h => h255 _ _ _ M h)) (f_kc_cons (f_pl_ok rfl (fun ls st M h => h210 _ _ _ M h)) (f_kc_cons (f_pl_ok rfl (fun ls st M h => h180 _ _ _ M h)) (f_kc_cons (f_pl_ok rfl (fun ls st M h => h238 _ _ _ M h)) f_kc_nil)))) 88 21 h
set_option maxRecDepth 20000 in
theorem BX7_scanSign_180 {sh : Nat → Nat × Nat} {t : Nat} {rm : Nat × Nat × Nat} {cs : Nat × Nat} {R : f_Rt} {c_X7_push : Int → Int → Int → e_M → (e_M → Prop) → Prop} {k192 : Int → Int → Int → e_M → Prop} {x3 : Int} {x5 : Int} {xs0 : Int} {M : e_M} (C : f_Hy sh t yX7_scanSign rm cs 5 (lX7_scanSign c_X7_push) R) (h192 : ∀ (x3 : Int) (x6 : Int) (xs0 : Int) (M : e_M), k192 x3 x6 xs0 M → f_E sh t YX7_scanSign rm cs (f_Q sh t R) 192 [.inr (.inr (.inl (7, 12, 10))), .inr (.inr (.inr ())), .inr (.inr (.inr ())), .inl x3, .inr (.inr (.inr ())), .inr (.inr (.inr ())), .inl x6, .inr (.inr (.inr ()))] [.inl xs0] M) (h : VX7_scanSign_180 c_X7_push k192 (fun r M => R (some (.inl r)) M) x3 x5 xs0 M) : f_E sh t YX7_scanSign rm cs (f_Q sh t R) 180 [.inr (.inr (.inl (7, 12, 10))), .inr (.inr (.inr ())), .inr (.inr (.inr ())), .inl x3, .inr (.inr (.inr ())), .inl x5, .inr (.inr (.inr ())), .inr (.inr (.inr ()))] [.inl xs0] M :=
  f_go (KC := f_kc [(192, f_pl [(20, 7, 12), (0, 0, 0), (0, 0, 0), (1, 0, 0), (0, 0, 0), (0, 0, 0), (1, 0, 0), (0, 0, 0)] [(1, 0, 0)] (fun ls st M => k192 (f_vi (f_nth ls 3)) (f_vi (f_nth ls 6)) (f_vi (f_nth st 0)) M))]) C qX7_scanSignf (f_kc_cons (f_pl_ok rfl (fun ls st M h => h192 _ _ _ M h)) f_kc_nil) 88 37 h
set_option maxRecDepth 20000 in
theorem BX7_scanSign_192 {sh : Nat → Nat × Nat} {t : Nat} {rm : Nat × Nat × Nat} {cs : Nat × Nat} {R : f_Rt} {c_X7_push : Int → Int → Int → e_M → (e_M → Prop) → Prop} {k255 : Int → Int → Int → e_M → Prop} {x3 : Int} {x6 : Int} {xs0 : Int} {M : e_M} (C : f_Hy sh t yX7_scanSign rm cs 5 (lX7_scanSign c_X7_push) R) (h255 : ∀ (x3 : Int) (x6 : Int) (x7 : Int) (M : e_M), k255 x3 x6 x7 M → f_E sh t YX7_scanSign rm cs (f_Q sh t R) 255 [.inr (.inr (.inl (7, 12, 10))), .inr (.inr (.inr ())), .inr (.inr (.inr ())), .inl x3, .inr (.inr (.inr ())), .inr (.inr (.inr ())), .inl x6, .inl x7] [] M) (h : VX7_scanSign_192 c_X7_push k255 (fun r M => R (some (.inl r)) M) x3 x6 xs0 M) : f_E sh t YX7_scanSign rm cs (f_Q sh t R) 192 [.inr (.inr (.inl (7, 12, 10))), .inr (.inr (.inr ())), .inr (.inr (.inr ())), .inl x3, .inr (.inr (.inr ())), .inr (.inr (.inr ())), .inl x6, .inr (.inr (.inr ()))] [.inl xs0] M :=
  f_go (KC := f_kc [(255, f_pl [(20, 7, 12), (0, 0, 0), (0, 0, 0), (1, 0, 0), (0, 0, 0), (0, 0, 0), (1, 0, 0), (1, 0, 0)] [] (fun ls st M => k255 (f_vi (f_nth ls 3)) (f_vi (f_nth ls 6)) (f_vi (f_nth ls 7)) M))]) C qX7_scanSignf (f_kc_cons (f_pl_ok rfl (fun ls st M h => h255 _ _ _ M h)) f_kc_nil) 88 44 h
set_option maxRecDepth 20000 in
theorem BX7_scanSign_210 {sh : Nat → Nat × Nat} {t : Nat} {rm : Nat × Nat × Nat} {cs : Nat × Nat} {R : f_Rt} {c_X7_push : Int → Int → Int → e_M → (e_M → Prop) → Prop} {k222 : Int → Int → Int → e_M → Prop} {x3 : Int} {x5 : Int} {xs0 : Int} {M : e_M} (C : f_Hy sh t yX7_scanSign rm cs 5 (lX7_scanSign c_X7_push) R) (h222 : ∀ (x3 : Int) (x6 : Int) (xs0 : Int) (M : e_M), k222 x3 x6 xs0 M → f_E sh t YX7_scanSign rm cs (f_Q sh t R) 222 [.inr (.inr (.inl (7, 12, 10))), .inr (.inr (.inr ())), .inr (.inr (.inr ())), .inl x3, .inr (.inr (.inr ())), .inr (.inr (.inr ())), .inl x6, .inr (.inr (.inr ()))] [.inl xs0] M) (h : VX7_scanSign_210 c_X7_push k222 (fun r M => R (some (.inl r)) M) x3 x5 xs0 M) : f_E sh t YX7_scanSign rm cs (f_Q sh t R) 210 [.inr (.inr (.inl (7, 12, 10))), .inr (.inr (.inr ())), .inr (.inr (.inr ())), .inl x3, .inr (.inr (.inr ())), .inl x5, .inr (.inr (.inr ())), .inr (.inr (.inr ()))] [.inl xs0] M :=
  f_go (KC := f_kc [(222, f_pl [(20, 7, 12), (0, 0, 0), (0, 0, 0), (1, 0, 0), (0, 0, 0), (0, 0, 0), (1, 0, 0), (0, 0, 0)] [(1, 0, 0)] (fun ls st M => k222 (f_vi (f_nth ls 3)) (f_vi (f_nth ls 6)) (f_vi (f_nth st 0)) M))]) C qX7_scanSignf (f_kc_cons (f_pl_ok rfl (fun ls st M h => h222 _ _ _ M h)) f_kc_nil) 88 52 h
set_option maxRecDepth 20000 in
theorem BX7_scanSign_222 {sh : Nat → Nat × Nat} {t : Nat} {rm : Nat × Nat × Nat} {cs : Nat × Nat} {R : f_Rt} {c_X7_push : Int → Int → Int → e_M → (e_M → Prop) → Prop} {k255 : Int → Int → Int → e_M → Prop} {x3 : Int} {x6 : Int} {xs0 : Int} {M : e_M} (C : f_Hy sh t yX7_scanSign rm cs 5 (lX7_scanSign c_X7_push) R) (h255 : ∀ (x3 : Int) (x6 : Int) (x7 : Int) (M : e_M), k255 x3 x6 x7 M → f_E sh t YX7_scanSign rm cs (f_Q sh t R) 255 [.inr (.inr (.inl (7, 12, 10))), .inr (.inr (.inr ())), .inr (.inr (.inr ())), .inl x3, .inr (.inr (.inr ())), .inr (.inr (.inr ())), .inl x6, .inl x7] [] M) (h : VX7_scanSign_222 c_X7_push k255 (fun r M => R (some (.inl r)) M) x3 x6 xs0 M) : f_E sh t YX7_scanSign rm cs (f_Q sh t R) 222 [.inr (.inr (.inl (7, 12, 10))), .inr (.inr (.inr ())), .inr (.inr (.inr ())), .inl x3, .inr (.inr (.inr ())), .inr (.inr (.inr ())), .inl x6, .inr (.inr (.inr ()))] [.inl xs0] M :=
  f_go (KC := f_kc [(255, f_pl [(20, 7, 12), (0, 0, 0), (0, 0, 0), (1, 0, 0), (0, 0, 0), (0, 0, 0), (1, 0, 0), (1, 0, 0)] [] (fun ls st M => k255 (f_vi (f_nth ls 3)) (f_vi (f_nth ls 6)) (f_vi (f_nth ls 7)) M))]) C qX7_scanSignf (f_kc_cons (f_pl_ok rfl (fun ls st M h => h255 _ _ _ M h)) f_kc_nil) 88 59 h
set_option maxRecDepth 20000 in
theorem BX7_scanSign_238 {sh : Nat → Nat × Nat} {t : Nat} {rm : Nat × Nat × Nat} {cs : Nat × Nat} {R : f_Rt} {c_X7_push : Int → Int → Int → e_M → (e_M → Prop) → Prop} {k250 : Int → Int → Int → e_M → Prop} {x3 : Int} {x5 : Int} {xs0 : Int} {M : e_M} (C : f_Hy sh t yX7_scanSign rm cs 5 (lX7_scanSign c_X7_push) R) (h250 : ∀ (x3 : Int) (x6 : Int) (xs0 : Int) (M : e_M), k250 x3 x6 xs0 M → f_E sh t YX7_scanSign rm cs (f_Q sh t R) 250 [.inr (.inr (.inl (7, 12, 10))), .inr (.inr (.inr ())), .inr (.inr (.inr ())), .inl x3, .inr (.inr (.inr ())), .inr (.inr (.inr ())), .inl x6, .inr (.inr (.inr ()))] [.inl xs0] M) (h : VX7_scanSign_238 c_X7_push k250 (fun r M => R (some (.inl r)) M) x3 x5 xs0 M) : f_E sh t YX7_scanSign rm cs (f_Q sh t R) 238 [.inr (.inr (.inl (7, 12, 10))), .inr (.inr (.inr ())), .inr (.inr (.inr ())), .inl x3, .inr (.inr (.inr ())), .inl x5, .inr (.inr (.inr ())), .inr (.inr (.inr ()))] [.inl xs0] M :=
  f_go (KC := f_kc [(250, f_pl [(20, 7, 12), (0, 0, 0), (0, 0, 0), (1, 0, 0), (0, 0, 0), (0, 0, 0), (1, 0, 0), (0, 0, 0)] [(1, 0, 0)] (fun ls st M => k250 (f_vi (f_nth ls 3)) (f_vi (f_nth ls 6)) (f_vi (f_nth st 0)) M))]) C qX7_scanSignf (f_kc_cons (f_pl_ok rfl (fun ls st M h => h250 _ _ _ M h)) f_kc_nil) 88 67 h
set_option maxRecDepth 20000 in
theorem BX7_scanSign_250 {sh : Nat → Nat × Nat} {t : Nat} {rm : Nat × Nat × Nat} {cs : Nat × Nat} {R : f_Rt} {c_X7_push : Int → Int → Int → e_M → (e_M → Prop) → Prop} {k255 : Int → Int → Int → e_M → Prop} {x3 : Int} {x6 : Int} {xs0 : Int} {M : e_M} (C : f_Hy sh t yX7_scanSign rm cs 5 (lX7_scanSign c_X7_push) R) (h255 : ∀ (x3 : Int) (x6 : Int) (x7 : Int) (M : e_M), k255 x3 x6 x7 M → f_E sh t YX7_scanSign rm cs (f_Q sh t R) 255 [.inr (.inr (.inl (7, 12, 10))), .inr (.inr (.inr ())), .inr (.inr (.inr ())), .inl x3, .inr (.inr (.inr ())), .inr (.inr (.inr ())), .inl x6, .inl x7] [] M) (h : VX7_scanSign_250 c_X7_push k255 (fun r M => R (some (.inl r)) M) x3 x6 xs0 M) : f_E sh t YX7_scanSign rm cs (f_Q sh t R) 250 [.inr (.inr (.inl (7, 12, 10))), .inr (.inr (.inr ())), .inr (.inr (.inr ())), .inl x3, .inr (.inr (.inr ())), .inr (.inr (.inr ())), .inl x6, .inr (.inr (.inr ()))] [.inl xs0] M :=
  f_go (KC := f_kc [(255, f_pl [(20, 7, 12), (0, 0, 0), (0, 0, 0), (1, 0, 0), (0, 0, 0), (0, 0, 0), (1, 0, 0), (1, 0, 0)] [] (fun ls st M => k255 (f_vi (f_nth ls 3)) (f_vi (f_nth ls 6)) (f_vi (f_nth ls 7)) M))]) C qX7_scanSignf (f_kc_cons (f_pl_ok rfl (fun ls st M h => h255 _ _ _ M h)) f_kc_nil) 88 74 h
set_option maxRecDepth 20000 in
theorem BX7_scanSign_255 {sh : Nat → Nat × Nat} {t : Nat} {rm : Nat × Nat × Nat} {cs : Nat × Nat} {R : f_Rt} {c_X7_push : Int → Int → Int → e_M → (e_M → Prop) → Prop} {x3 : Int} {x6 : Int} {x7 : Int} {M : e_M} (C : f_Hy sh t yX7_scanSign rm cs 5 (lX7_scanSign c_X7_push) R) (h : VX7_scanSign_255 c_X7_push (fun r M => R (some (.inl r)) M) x3 x6 x7 M) : f_E sh t YX7_scanSign rm cs (f_Q sh t R) 255 [.inr (.inr (.inl (7, 12, 10))), .inr (.inr (.inr ())), .inr (.inr (.inr ())), .inl x3, .inr (.inr (.inr ())), .inr (.inr (.inr ())), .inl x6, .inl x7] [] M :=
  f_go (KC := f_kc []) C qX7_scanSignf f_kc_nil 88 77 h
set_option maxRecDepth 20000 in
theorem BX7_scanSign {sh : Nat → Nat × Nat} {t : Nat} {rm : Nat × Nat × Nat} {cs : Nat × Nat} {R : f_Rt} {c_X7_push : Int → Int → Int → e_M → (e_M → Prop) → Prop} {k26 : Int → Int → e_M → Prop} {k27 : Int → Int → Int → e_M → Prop} {a1 : Nat} {x2 : Int} {x3 : Int} {M : e_M} (C : f_Hy sh t yX7_scanSign rm cs 5 (lX7_scanSign c_X7_push) R) (h26 : ∀ (x3 : Int) (x4 : Int) (M : e_M), k26 x3 x4 M → f_E sh t YX7_scanSign rm cs (f_Q sh t R) 26 [.inr (.inr (.inl (7, 12, 10))), .inr (.inr (.inr ())), .inr (.inr (.inr ())), .inl x3, .inl x4, .inr (.inr (.inr ())), .inr (.inr (.inr ())), .inr (.inr (.inr ()))] [] M) (h27 : ∀ (x3 : Int) (x4 : Int) (xs0 : Int) (M : e_M), k27 x3 x4 xs0 M → f_E sh t YX7_scanSign rm cs (f_Q sh t R) 27 [.inr (.inr (.inl (7, 12, 10))), .inr (.inr (.inr ())), .inr (.inr (.inr ())), .inl x3, .inl x4, .inr (.inr (.inr ())), .inr (.inr (.inr ())), .inr (.inr (.inr ()))] [.inl xs0] M) (h : VX7_scanSign c_X7_push k26 k27 (fun r M => R (some (.inl r)) M) a1 x2 x3 M) : f_E sh t YX7_scanSign rm cs (f_Q sh t R) 0 [.inr (.inr (.inl (7, 12, 10))), .inr (.inr (.inl (22, 640, a1))), .inl x2, .inl x3, .inr (.inr (.inr ())), .inr (.inr (.inr ())), .inr (.inr (.inr ())), .inr (.inr (.inr ()))] [] M :=
  f_go (KC := f_kc [(26, f_pl [(20, 7, 12), (0, 0, 0), (0, 0, 0), (1, 0, 0), (1, 0, 0), (0, 0, 0), (0, 0, 0), (0, 0, 0)] [] (fun ls st M => k26 (f_vi (f_nth ls 3)) (f_vi (f_nth ls 4)) M)), (27, f_pl [(20, 7, 12), (0, 0, 0), (0, 0, 0), (1, 0, 0), (1, 0, 0), (0, 0, 0), (0, 0, 0), (0, 0, 0)] [(1, 0, 0)] (fun ls st M => k27 (f_vi (f_nth ls 3)) (f_vi (f_nth ls 4)) (f_vi (f_nth st 0)) M))]) C qX7_scanSignf (f_kc_cons (f_pl_ok rfl (fun ls st M h => h26 _ _ M h)) (f_kc_cons (f_pl_ok rfl (fun ls st M h => h27 _ _ _ M h)) f_kc_nil)) 88 0 h
def WX7_scanSign_255 (Q : Int → e_M → Prop) (x3 : Int) (x6 : Int) (x7 : Int) (M : e_M) : Prop :=
  VX7_scanSign_255 WX7_push Q x3 x6 x7 M
def WX7_scanSign_222 (Q : Int → e_M → Prop) (x3 : Int) (x6 : Int) (xs0 : Int) (M : e_M) : Prop :=
  VX7_scanSign_222 WX7_push (WX7_scanSign_255 Q) Q x3 x6 xs0 M
def WX7_scanSign_210 (Q : Int → e_M → Prop) (x3 : Int) (x5 : Int) (xs0 : Int) (M : e_M) : Prop :=
  VX7_scanSign_210 WX7_push (WX7_scanSign_222 Q) Q x3 x5 xs0 M
def WX7_scanSign_192 (Q : Int → e_M → Prop) (x3 : Int) (x6 : Int) (xs0 : Int) (M : e_M) : Prop :=
  VX7_scanSign_192 WX7_push (WX7_scanSign_255 Q) Q x3 x6 xs0 M
def WX7_scanSign_180 (Q : Int → e_M → Prop) (x3 : Int) (x5 : Int) (xs0 : Int) (M : e_M) : Prop :=
  VX7_scanSign_180 WX7_push (WX7_scanSign_192 Q) Q x3 x5 xs0 M
def WX7_scanSign_250 (Q : Int → e_M → Prop) (x3 : Int) (x6 : Int) (xs0 : Int) (M : e_M) : Prop :=
  VX7_scanSign_250 WX7_push (WX7_scanSign_255 Q) Q x3 x6 xs0 M
def WX7_scanSign_238 (Q : Int → e_M → Prop) (x3 : Int) (x5 : Int) (xs0 : Int) (M : e_M) : Prop :=
  VX7_scanSign_238 WX7_push (WX7_scanSign_250 Q) Q x3 x5 xs0 M
def WX7_scanSign_27 (Q : Int → e_M → Prop) (x3 : Int) (x4 : Int) (xs0 : Int) (M : e_M) : Prop :=
  VX7_scanSign_27 WX7_push (WX7_scanSign_255 Q) (WX7_scanSign_210 Q) (WX7_scanSign_180 Q) (WX7_scanSign_238 Q) Q x3 x4 xs0 M
def WX7_scanSign_26 (Q : Int → e_M → Prop) (x3 : Int) (x4 : Int) (M : e_M) : Prop :=
  VX7_scanSign_26 WX7_push (WX7_scanSign_27 Q) Q x3 x4 M
def WX7_scanSign (a1 : Nat) (x2 : Int) (x3 : Int) (M : e_M) (Q : Int → e_M → Prop) : Prop :=
  VX7_scanSign WX7_push (WX7_scanSign_26 Q) (WX7_scanSign_27 Q) Q a1 x2 x3 M
theorem PX7_scanSign_255 {sh : Nat → Nat × Nat} {t : Nat} {rm : Nat × Nat × Nat} {cs : Nat × Nat} {R : f_Rt} {x3 : Int} {x6 : Int} {x7 : Int} {M : e_M} (C : f_Hy sh t yX7_scanSign rm cs 5 (lX7_scanSign WX7_push) R) (h : WX7_scanSign_255 (fun r M => R (some (.inl r)) M) x3 x6 x7 M) : f_E sh t YX7_scanSign rm cs (f_Q sh t R) 255 [.inr (.inr (.inl (7, 12, 10))), .inr (.inr (.inr ())), .inr (.inr (.inr ())), .inl x3, .inr (.inr (.inr ())), .inr (.inr (.inr ())), .inl x6, .inl x7] [] M :=
  BX7_scanSign_255 C h
theorem PX7_scanSign_222 {sh : Nat → Nat × Nat} {t : Nat} {rm : Nat × Nat × Nat} {cs : Nat × Nat} {R : f_Rt} {x3 : Int} {x6 : Int} {xs0 : Int} {M : e_M} (C : f_Hy sh t yX7_scanSign rm cs 5 (lX7_scanSign WX7_push) R) (h : WX7_scanSign_222 (fun r M => R (some (.inl r)) M) x3 x6 xs0 M) : f_E sh t YX7_scanSign rm cs (f_Q sh t R) 222 [.inr (.inr (.inl (7, 12, 10))), .inr (.inr (.inr ())), .inr (.inr (.inr ())), .inl x3, .inr (.inr (.inr ())), .inr (.inr (.inr ())), .inl x6, .inr (.inr (.inr ()))] [.inl xs0] M :=
  BX7_scanSign_222 C (fun x3 x6 x7 M h => PX7_scanSign_255 C h) h
theorem PX7_scanSign_210 {sh : Nat → Nat × Nat} {t : Nat} {rm : Nat × Nat × Nat} {cs : Nat × Nat} {R : f_Rt} {x3 : Int} {x5 : Int} {xs0 : Int} {M : e_M} (C : f_Hy sh t yX7_scanSign rm cs 5 (lX7_scanSign WX7_push) R) (h : WX7_scanSign_210 (fun r M => R (some (.inl r)) M) x3 x5 xs0 M) : f_E sh t YX7_scanSign rm cs (f_Q sh t R) 210 [.inr (.inr (.inl (7, 12, 10))), .inr (.inr (.inr ())), .inr (.inr (.inr ())), .inl x3, .inr (.inr (.inr ())), .inl x5, .inr (.inr (.inr ())), .inr (.inr (.inr ()))] [.inl xs0] M :=
  BX7_scanSign_210 C (fun x3 x6 xs0 M h => PX7_scanSign_222 C h) h
theorem PX7_scanSign_192 {sh : Nat → Nat × Nat} {t : Nat} {rm : Nat × Nat × Nat} {cs : Nat × Nat} {R : f_Rt} {x3 : Int} {x6 : Int} {xs0 : Int} {M : e_M} (C : f_Hy sh t yX7_scanSign rm cs 5 (lX7_scanSign WX7_push) R) (h : WX7_scanSign_192 (fun r M => R (some (.inl r)) M) x3 x6 xs0 M) : f_E sh t YX7_scanSign rm cs (f_Q sh t R) 192 [.inr (.inr (.inl (7, 12, 10))), .inr (.inr (.inr ())), .inr (.inr (.inr ())), .inl x3, .inr (.inr (.inr ())), .inr (.inr (.inr ())), .inl x6, .inr (.inr (.inr ()))] [.inl xs0] M :=
  BX7_scanSign_192 C (fun x3 x6 x7 M h => PX7_scanSign_255 C h) h
theorem PX7_scanSign_180 {sh : Nat → Nat × Nat} {t : Nat} {rm : Nat × Nat × Nat} {cs : Nat × Nat} {R : f_Rt} {x3 : Int} {x5 : Int} {xs0 : Int} {M : e_M} (C : f_Hy sh t yX7_scanSign rm cs 5 (lX7_scanSign WX7_push) R) (h : WX7_scanSign_180 (fun r M => R (some (.inl r)) M) x3 x5 xs0 M) : f_E sh t YX7_scanSign rm cs (f_Q sh t R) 180 [.inr (.inr (.inl (7, 12, 10))), .inr (.inr (.inr ())), .inr (.inr (.inr ())), .inl x3, .inr (.inr (.inr ())), .inl x5, .inr (.inr (.inr ())), .inr (.inr (.inr ()))] [.inl xs0] M :=
  BX7_scanSign_180 C (fun x3 x6 xs0 M h => PX7_scanSign_192 C h) h
theorem PX7_scanSign_250 {sh : Nat → Nat × Nat} {t : Nat} {rm : Nat × Nat × Nat} {cs : Nat × Nat} {R : f_Rt} {x3 : Int} {x6 : Int} {xs0 : Int} {M : e_M} (C : f_Hy sh t yX7_scanSign rm cs 5 (lX7_scanSign WX7_push) R) (h : WX7_scanSign_250 (fun r M => R (some (.inl r)) M) x3 x6 xs0 M) : f_E sh t YX7_scanSign rm cs (f_Q sh t R) 250 [.inr (.inr (.inl (7, 12, 10))), .inr (.inr (.inr ())), .inr (.inr (.inr ())), .inl x3, .inr (.inr (.inr ())), .inr (.inr (.inr ())), .inl x6, .inr (.inr (.inr ()))] [.inl xs0] M :=
  BX7_scanSign_250 C (fun x3 x6 x7 M h => PX7_scanSign_255 C h) h
theorem PX7_scanSign_238 {sh : Nat → Nat × Nat} {t : Nat} {rm : Nat × Nat × Nat} {cs : Nat × Nat} {R : f_Rt} {x3 : Int} {x5 : Int} {xs0 : Int} {M : e_M} (C : f_Hy sh t yX7_scanSign rm cs 5 (lX7_scanSign WX7_push) R) (h : WX7_scanSign_238 (fun r M => R (some (.inl r)) M) x3 x5 xs0 M) : f_E sh t YX7_scanSign rm cs (f_Q sh t R) 238 [.inr (.inr (.inl (7, 12, 10))), .inr (.inr (.inr ())), .inr (.inr (.inr ())), .inl x3, .inr (.inr (.inr ())), .inl x5, .inr (.inr (.inr ())), .inr (.inr (.inr ()))] [.inl xs0] M :=
  BX7_scanSign_238 C (fun x3 x6 xs0 M h => PX7_scanSign_250 C h) h
theorem PX7_scanSign_27 {sh : Nat → Nat × Nat} {t : Nat} {rm : Nat × Nat × Nat} {cs : Nat × Nat} {R : f_Rt} {x3 : Int} {x4 : Int} {xs0 : Int} {M : e_M} (C : f_Hy sh t yX7_scanSign rm cs 5 (lX7_scanSign WX7_push) R) (h : WX7_scanSign_27 (fun r M => R (some (.inl r)) M) x3 x4 xs0 M) : f_E sh t YX7_scanSign rm cs (f_Q sh t R) 27 [.inr (.inr (.inl (7, 12, 10))), .inr (.inr (.inr ())), .inr (.inr (.inr ())), .inl x3, .inl x4, .inr (.inr (.inr ())), .inr (.inr (.inr ())), .inr (.inr (.inr ()))] [.inl xs0] M :=
  BX7_scanSign_27 C (fun x3 x6 x7 M h => PX7_scanSign_255 C h) (fun x3 x5 xs0 M h => PX7_scanSign_210 C h) (fun x3 x5 xs0 M h => PX7_scanSign_180 C h) (fun x3 x5 xs0 M h => PX7_scanSign_238 C h) h
theorem PX7_scanSign_26 {sh : Nat → Nat × Nat} {t : Nat} {rm : Nat × Nat × Nat} {cs : Nat × Nat} {R : f_Rt} {x3 : Int} {x4 : Int} {M : e_M} (C : f_Hy sh t yX7_scanSign rm cs 5 (lX7_scanSign WX7_push) R) (h : WX7_scanSign_26 (fun r M => R (some (.inl r)) M) x3 x4 M) : f_E sh t YX7_scanSign rm cs (f_Q sh t R) 26 [.inr (.inr (.inl (7, 12, 10))), .inr (.inr (.inr ())), .inr (.inr (.inr ())), .inl x3, .inl x4, .inr (.inr (.inr ())), .inr (.inr (.inr ())), .inr (.inr (.inr ()))] [] M :=
  BX7_scanSign_26 C (fun x3 x4 xs0 M h => PX7_scanSign_27 C h) h
theorem PX7_scanSign {sh : Nat → Nat × Nat} {t : Nat} {rm : Nat × Nat × Nat} {cs : Nat × Nat} {R : f_Rt} {a1 : Nat} {x2 : Int} {x3 : Int} {M : e_M} (C : f_Hy sh t yX7_scanSign rm cs 5 (lX7_scanSign WX7_push) R) (h : WX7_scanSign a1 x2 x3 M (fun r M => R (some (.inl r)) M)) : f_E sh t YX7_scanSign rm cs (f_Q sh t R) 0 [.inr (.inr (.inl (7, 12, 10))), .inr (.inr (.inl (22, 640, a1))), .inl x2, .inl x3, .inr (.inr (.inr ())), .inr (.inr (.inr ())), .inr (.inr (.inr ())), .inr (.inr (.inr ()))] [] M :=
  BX7_scanSign C (fun x3 x4 M h => PX7_scanSign_26 C h) (fun x3 x4 xs0 M h => PX7_scanSign_27 C h) h
def wX7_scanSign : f_Wt := f_wm [(20, 7, 12), (3, 22, 640), (1, 0, 0), (1, 0, 0)] (fun ar M R => WX7_scanSign (f_va (f_nth ar 1)) (f_vi (f_nth ar 2)) (f_vi (f_nth ar 3)) M (fun r M => R (some (.inl r)) M))
theorem TX7_scanSign {sh : Nat → Nat × Nat} {t : Nat} : f_Mt sh t YX7_scanSign 5 (wX7_scanSign) :=
  f_Mt_of (k := 4) (Nat.le_of_ble_eq_true rfl) rfl rfl (fun ar M R rm cs h1 h2 h3 hX h => PX7_scanSign ⟨Nat.le_of_ble_eq_true rfl, h1, h2, h3, ⟨(f_Mt.up (Nat.le_of_ble_eq_true rfl) TX7_push), trivial⟩, hX⟩ h)
def VX7_scanNumber_13 (c_X7_isDigit : Int → e_M → (Int → Prop) → Prop) (c_X7_digits : Nat → Int → Int → e_M → (Int → Prop) → Prop) (c_X7_push : Int → Int → Int → e_M → (e_M → Prop) → Prop) (k18 : Nat → Int → Int → Int → Int → e_M → Prop) (Q : e_M → Prop) (a1 : Nat) (x2 : Int) (x3 : Int) (xs0 : Int) (M : e_M) : Prop :=
  (k18 a1 x2 x3 xs0 x2 M)
def VX7_scanNumber_18 (c_X7_isDigit : Int → e_M → (Int → Prop) → Prop) (c_X7_digits : Nat → Int → Int → e_M → (Int → Prop) → Prop) (c_X7_push : Int → Int → Int → e_M → (e_M → Prop) → Prop) (k63 : Nat → Int → Int → Int → Int → e_M → Prop) (k43 : Nat → Int → Int → Int → e_M → Prop) (k44 : Nat → Int → Int → Int → Int → e_M → Prop) (Q : e_M → Prop) (a1 : Nat) (x2 : Int) (x3 : Int) (x4 : Int) (x5 : Int) (M : e_M) : Prop :=
  ((x3 ≤ x5 → ((x4 = 0 → (k63 a1 x2 x3 x4 1 M)) ∧ (¬ x4 = 0 → (k63 a1 x2 x3 x4 3 M)))) ∧ (x5 < x3 → ((x4 = 0 → (k43 a1 x2 x3 x5 M)) ∧ (¬ x4 = 0 → ((0 ≤ x5 ∧ x5 < 640) ∧ (c_X7_isDigit (M a1 (x5.toNat)) M (fun r1 => ((r1 = 0 → (k43 a1 x2 x3 x5 M)) ∧ (¬ r1 = 0 → (k44 a1 x2 x3 x5 1 M))))))))))
def VX7_scanNumber_43 (c_X7_isDigit : Int → e_M → (Int → Prop) → Prop) (c_X7_digits : Nat → Int → Int → e_M → (Int → Prop) → Prop) (c_X7_push : Int → Int → Int → e_M → (e_M → Prop) → Prop) (k44 : Nat → Int → Int → Int → Int → e_M → Prop) (Q : e_M → Prop) (a1 : Nat) (x2 : Int) (x3 : Int) (x5 : Int) (M : e_M) : Prop :=
  (k44 a1 x2 x3 x5 0 M)
def VX7_scanNumber_44 (c_X7_isDigit : Int → e_M → (Int → Prop) → Prop) (c_X7_digits : Nat → Int → Int → e_M → (Int → Prop) → Prop) (c_X7_push : Int → Int → Int → e_M → (e_M → Prop) → Prop) (k18 : Nat → Int → Int → Int → Int → e_M → Prop) (Q : e_M → Prop) (a1 : Nat) (x2 : Int) (x3 : Int) (x5 : Int) (xs0 : Int) (M : e_M) : Prop :=
  (k18 a1 x2 x3 xs0 (e_w32 (x5 + 1)) M)
def VX7_scanNumber_63 (c_X7_isDigit : Int → e_M → (Int → Prop) → Prop) (c_X7_digits : Nat → Int → Int → e_M → (Int → Prop) → Prop) (c_X7_push : Int → Int → Int → e_M → (e_M → Prop) → Prop) (k80 : Int → Int → Int → e_M → Prop) (Q : e_M → Prop) (a1 : Nat) (x2 : Int) (x3 : Int) (x4 : Int) (xs1 : Int) (M : e_M) : Prop :=
  ((x4 = 0 → (k80 0 x2 xs1 M)) ∧ (¬ x4 = 0 → (c_X7_digits a1 x2 x3 M (fun r1 => (k80 r1 x2 xs1 M)))))
def VX7_scanNumber_80 (c_X7_isDigit : Int → e_M → (Int → Prop) → Prop) (c_X7_digits : Nat → Int → Int → e_M → (Int → Prop) → Prop) (c_X7_push : Int → Int → Int → e_M → (e_M → Prop) → Prop) (Q : e_M → Prop) (xs3 : Int) (xs2 : Int) (xs1 : Int) (M : e_M) : Prop :=
  (c_X7_push xs1 xs2 xs3 M (fun M1 => (Q M1)))
def VX7_scanNumber (c_X7_isDigit : Int → e_M → (Int → Prop) → Prop) (c_X7_digits : Nat → Int → Int → e_M → (Int → Prop) → Prop) (c_X7_push : Int → Int → Int → e_M → (e_M → Prop) → Prop) (k13 : Nat → Int → Int → Int → e_M → Prop) (Q : e_M → Prop) (a1 : Nat) (x2 : Int) (x3 : Int) (M : e_M) : Prop :=
  ((6 < (e_w32 (x3 - x2)) → (k13 a1 x2 x3 0 M)) ∧ ((e_w32 (x3 - x2)) ≤ 6 → (k13 a1 x2 x3 1 M)))
def yX7_scanNumber (i : Nat) : e_Y := x_get YX7_scanNumber [YX7_isDigit, YX7_digits, YX7_push] i
def pX7_scanNumberf : List x_I := [(0, 2, 1, 3, 0, 0, []), (1, 2, 1, 2, 0, 0, []), (2, 9, 0, 1, 0, 0, []), (3, 0, 2, 0, 0, 6, []), (5, 18, 12, 4, 8, 0, []), (8, 0, 1, 0, 0, 1, []), (9, 19, 13, 0, 9, 0, []), (12, 0, 1, 0, 0, 0, []), (13, 49, 0, 0, 0, 0, []), (13, 5, 2, 4, 0, 0, []), (15, 2, 1, 2, 0, 0, []), (16, 5, 2, 5, 0, 0, []), (18, 49, 0, 0, 0, 0, []), (18, 2, 2, 5, 0, 0, []), (20, 2, 1, 3, 0, 0, []), (21, 18, 52, 3, 32, 0, []), (24, 2, 2, 4, 0, 0, []), (26, 17, 43, 0, 26, 0, []), (29, 4, 1, 1, 0, 0, []), (30, 2, 2, 5, 0, 0, []), (32, 27, 0, 2, 0, 0, []), (33, 40, 0, 1, 0, 0, []), (36, 17, 43, 0, 26, 0, []), (39, 0, 1, 0, 0, 1, []), (40, 19, 44, 0, 28, 0, []), (43, 49, 0, 0, 0, 0, []), (43, 0, 1, 0, 0, 0, []), (44, 49, 0, 0, 0, 0, []), (44, 5, 2, 4, 0, 0, []), (46, 8, 0, 5, 0, 1, []), (49, 19, 18, 0, 13, 0, []), (52, 4, 1, 0, 0, 0, []), (53, 2, 2, 4, 0, 0, []), (55, 17, 62, 0, 37, 0, []), (58, 0, 1, 0, 0, 3, []), (59, 19, 63, 0, 38, 0, []), (62, 0, 1, 0, 0, 1, []), (63, 49, 0, 0, 0, 0, []), (63, 2, 1, 2, 0, 0, []), (64, 2, 2, 4, 0, 0, []), (66, 17, 79, 0, 48, 0, []), (69, 4, 1, 1, 0, 0, []), (70, 2, 1, 2, 0, 0, []), (71, 2, 1, 3, 0, 0, []), (72, 40, 1, 3, 0, 0, []), (75, 14, 0, 0, 0, 0, []), (76, 19, 80, 0, 49, 0, []), (79, 1, 1, 0, 0, 0, []), (80, 49, 0, 0, 0, 0, []), (80, 40, 2, 4, 9, 0, []), (83, 44, 0, 0, 0, 0, [])]
set_option maxRecDepth 20000 in
theorem qX7_scanNumberf : f_all yX7_scanNumber YX7_scanNumber pX7_scanNumberf :=
  ⟨f_iload_n (n := 3) (e_dx DX7_scanNumber_0 0 rfl) rfl,
  f_iload_n (n := 2) (e_dx DX7_scanNumber_0 1 rfl) rfl,
  f_isub (e_dx DX7_scanNumber_0 2 rfl),
  f_bipush (e_dx DX7_scanNumber_0 3 rfl) ⟨by decide, by decide⟩,
  f_icmp_gt (e_dx DX7_scanNumber_0 4 rfl) rfl,
  f_iconst (e_dx DX7_scanNumber_0 5 rfl) ⟨by decide, by decide⟩,
  f_g19 (e_dx DX7_scanNumber_0 6 rfl) rfl,
  f_iconst (e_dx DX7_scanNumber_0 7 rfl) ⟨by decide, by decide⟩,
  trivial,
  f_istore (e_dx DX7_scanNumber_0 8 rfl) (by decide),
  f_iload_n (n := 2) (e_dx DX7_scanNumber_0 9 rfl) rfl,
  f_istore (e_dx DX7_scanNumber_0 10 rfl) (by decide),
  trivial,
  f_iload (e_dx DX7_scanNumber_0 11 rfl),
  f_iload_n (n := 3) (e_dx DX7_scanNumber_0 12 rfl) rfl,
  f_icmp_ge (e_dx DX7_scanNumber_0 13 rfl) rfl,
  f_iload (e_dx DX7_scanNumber_0 14 rfl),
  f_if_eq (e_dx DX7_scanNumber_0 15 rfl) rfl,
  f_aload_n (n := 1) (e_dx DX7_scanNumber_0 16 rfl) rfl,
  f_iload (e_dx DX7_scanNumber_0 17 rfl),
  f_baload (e_dx DX7_scanNumber_0 18 rfl),
  x_callS (e_dx DX7_scanNumber_0 19 rfl) mwX7_isDigit cX7_111 swX7_isDigit rfl,
  f_if_eq (e_dx DX7_scanNumber_0 20 rfl) rfl,
  f_iconst (e_dx DX7_scanNumber_0 21 rfl) ⟨by decide, by decide⟩,
  f_g19 (e_dx DX7_scanNumber_0 22 rfl) rfl,
  trivial,
  f_iconst (e_dx DX7_scanNumber_0 23 rfl) ⟨by decide, by decide⟩,
  trivial,
  f_istore (e_dx DX7_scanNumber_0 24 rfl) (by decide),
  f_g8 (e_dx DX7_scanNumber_0 25 rfl) ⟨by decide, by decide⟩,
  f_g19 (e_dx DX7_scanNumber_0 26 rfl) rfl,
  f_aload_n (n := 0) (e_dx DX7_scanNumber_0 27 rfl) rfl,
  f_iload (e_dx DX7_scanNumber_0 28 rfl),
  f_if_eq (e_dx DX7_scanNumber_0 29 rfl) rfl,
  f_iconst (e_dx DX7_scanNumber_0 30 rfl) ⟨by decide, by decide⟩,
  f_g19 (e_dx DX7_scanNumber_0 31 rfl) rfl,
  f_iconst (e_dx DX7_scanNumber_0 32 rfl) ⟨by decide, by decide⟩,
  trivial,
  f_iload_n (n := 2) (e_dx DX7_scanNumber_0 33 rfl) rfl,
  f_iload (e_dx DX7_scanNumber_0 34 rfl),
  f_if_eq (e_dx DX7_scanNumber_0 35 rfl) rfl,
  f_aload_n (n := 1) (e_dx DX7_scanNumber_0 36 rfl) rfl,
  f_iload_n (n := 2) (e_dx DX7_scanNumber_0 37 rfl) rfl,
  f_iload_n (n := 3) (e_dx DX7_scanNumber_0 38 rfl) rfl,
  x_callS (e_dx DX7_scanNumber_0 39 rfl) mwX7_digits cX7_97 swX7_digits rfl,
  f_g14 (e_dx DX7_scanNumber_1 0 rfl),
  f_g19 (e_dx DX7_scanNumber_1 1 rfl) rfl,
  f_lconst (n := 0) (e_dx DX7_scanNumber_1 2 rfl) rfl,
  trivial,
  x_callV (e_dx DX7_scanNumber_1 3 rfl) mwX7_push vwX7_push cX7_89 rfl,
  ⟨(e_dx DX7_scanNumber_1 4 rfl), rfl⟩, trivial⟩
def lX7_scanNumber (c_X7_isDigit : Int → e_M → (Int → Prop) → Prop) (c_X7_digits : Nat → Int → Int → e_M → (Int → Prop) → Prop) (c_X7_push : Int → Int → Int → e_M → (e_M → Prop) → Prop) : List (Nat × f_Wt) := [(0, f_wm [(1, 0, 0)] (fun ar M R => c_X7_isDigit (f_vi (f_nth ar 0)) M (fun r => R (some (.inl r)) M))), (1, f_wm [(3, 22, 640), (1, 0, 0), (1, 0, 0)] (fun ar M R => c_X7_digits (f_va (f_nth ar 0)) (f_vi (f_nth ar 1)) (f_vi (f_nth ar 2)) M (fun r => R (some (.inl r)) M))), (2, f_wm [(20, 7, 12), (1, 0, 0), (1, 0, 0), (2, 0, 0)] (fun ar M R => c_X7_push (f_vi (f_nth ar 1)) (f_vi (f_nth ar 2)) (f_vi (f_nth ar 3)) M (fun M => R none M)))]
set_option maxRecDepth 20000 in
theorem BX7_scanNumber_13 {sh : Nat → Nat × Nat} {t : Nat} {rm : Nat × Nat × Nat} {cs : Nat × Nat} {R : f_Rt} {c_X7_isDigit : Int → e_M → (Int → Prop) → Prop} {c_X7_digits : Nat → Int → Int → e_M → (Int → Prop) → Prop} {c_X7_push : Int → Int → Int → e_M → (e_M → Prop) → Prop} {k18 : Nat → Int → Int → Int → Int → e_M → Prop} {a1 : Nat} {x2 : Int} {x3 : Int} {xs0 : Int} {M : e_M} (C : f_Hy sh t yX7_scanNumber rm cs 5 (lX7_scanNumber c_X7_isDigit c_X7_digits c_X7_push) R) (h18 : ∀ (a1 : Nat) (x2 : Int) (x3 : Int) (x4 : Int) (x5 : Int) (M : e_M), k18 a1 x2 x3 x4 x5 M → f_E sh t YX7_scanNumber rm cs (f_Q sh t R) 18 [.inr (.inr (.inl (7, 12, 10))), .inr (.inr (.inl (22, 640, a1))), .inl x2, .inl x3, .inl x4, .inl x5] [] M) (h : VX7_scanNumber_13 c_X7_isDigit c_X7_digits c_X7_push k18 (fun M => R none M) a1 x2 x3 xs0 M) : f_E sh t YX7_scanNumber rm cs (f_Q sh t R) 13 [.inr (.inr (.inl (7, 12, 10))), .inr (.inr (.inl (22, 640, a1))), .inl x2, .inl x3, .inr (.inr (.inr ())), .inr (.inr (.inr ()))] [.inl xs0] M :=
  f_go (KC := f_kc [(18, f_pl [(20, 7, 12), (3, 22, 640), (1, 0, 0), (1, 0, 0), (1, 0, 0), (1, 0, 0)] [] (fun ls st M => k18 (f_va (f_nth ls 1)) (f_vi (f_nth ls 2)) (f_vi (f_nth ls 3)) (f_vi (f_nth ls 4)) (f_vi (f_nth ls 5)) M))]) C qX7_scanNumberf (f_kc_cons (f_pl_ok rfl (fun ls st M h => h18 _ _ _ _ _ M h)) f_kc_nil) 53 9 h
set_option maxRecDepth 20000 in
theorem BX7_scanNumber_18 {sh : Nat → Nat × Nat} {t : Nat} {rm : Nat × Nat × Nat} {cs : Nat × Nat} {R : f_Rt} {c_X7_isDigit : Int → e_M → (Int → Prop) → Prop} {c_X7_digits : Nat → Int → Int → e_M → (Int → Prop) → Prop} {c_X7_push : Int → Int → Int → e_M → (e_M → Prop) → Prop} {k63 : Nat → Int → Int → Int → Int → e_M → Prop} {k43 : Nat → Int → Int → Int → e_M → Prop} {k44 : Nat → Int → Int → Int → Int → e_M → Prop} {a1 : Nat} {x2 : Int} {x3 : Int} {x4 : Int} {x5 : Int} {M : e_M} (C : f_Hy sh t yX7_scanNumber rm cs 5 (lX7_scanNumber c_X7_isDigit c_X7_digits c_X7_push) R) (h63 : ∀ (a1 : Nat) (x2 : Int) (x3 : Int) (x4 : Int) (xs1 : Int) (M : e_M), k63 a1 x2 x3 x4 xs1 M → f_E sh t YX7_scanNumber rm cs (f_Q sh t R) 63 [.inr (.inr (.inr ())), .inr (.inr (.inl (22, 640, a1))), .inl x2, .inl x3, .inl x4, .inr (.inr (.inr ()))] [.inl xs1, .inr (.inr (.inl (7, 12, 10)))] M) (h43 : ∀ (a1 : Nat) (x2 : Int) (x3 : Int) (x5 : Int) (M : e_M), k43 a1 x2 x3 x5 M → f_E sh t YX7_scanNumber rm cs (f_Q sh t R) 43 [.inr (.inr (.inl (7, 12, 10))), .inr (.inr (.inl (22, 640, a1))), .inl x2, .inl x3, .inr (.inr (.inr ())), .inl x5] [] M) (h44 : ∀ (a1 : Nat) (x2 : Int) (x3 : Int) (x5 : Int) (xs0 : Int) (M : e_M), k44 a1 x2 x3 x5 xs0 M → f_E sh t YX7_scanNumber rm cs (f_Q sh t R) 44 [.inr (.inr (.inl (7, 12, 10))), .inr (.inr (.inl (22, 640, a1))), .inl x2, .inl x3, .inr (.inr (.inr ())), .inl x5] [.inl xs0] M) (h : VX7_scanNumber_18 c_X7_isDigit c_X7_digits c_X7_push k63 k43 k44 (fun M => R none M) a1 x2 x3 x4 x5 M) : f_E sh t YX7_scanNumber rm cs (f_Q sh t R) 18 [.inr (.inr (.inl (7, 12, 10))), .inr (.inr (.inl (22, 640, a1))), .inl x2, .inl x3, .inl x4, .inl x5] [] M :=
  f_go (KC := f_kc [(63, f_pl [(0, 0, 0), (3, 22, 640), (1, 0, 0), (1, 0, 0), (1, 0, 0), (0, 0, 0)] [(1, 0, 0), (20, 7, 12)] (fun ls st M => k63 (f_va (f_nth ls 1)) (f_vi (f_nth ls 2)) (f_vi (f_nth ls 3)) (f_vi (f_nth ls 4)) (f_vi (f_nth st 0)) M)), (43, f_pl [(20, 7, 12), (3, 22, 640), (1, 0, 0), (1, 0, 0), (0, 0, 0), (1, 0, 0)] [] (fun ls st M => k43 (f_va (f_nth ls 1)) (f_vi (f_nth ls 2)) (f_vi (f_nth ls 3)) (f_vi (f_nth ls 5)) M)), (44, f_pl [(20, 7, 12), (3, 22, 640), (1, 0, 0), (1, 0, 0), (0, 0, 0), (1, 0, 0)] [(1, 0, 0)] (fun ls st M => k44 (f_va (f_nth ls 1)) (f_vi (f_nth ls 2)) (f_vi (f_nth ls 3)) (f_vi (f_nth ls 5)) (f_vi (f_nth st 0)) M))]) C qX7_scanNumberf (f_kc_cons (f_pl_ok rfl (fun ls st M h => h63 _ _ _ _ _ M h)) (f_kc_cons (f_pl_ok rfl (fun ls st M h => h43 _ _ _ _ M h)) (f_kc_cons (f_pl_ok rfl (fun ls st M h => h44 _ _ _ _ _ M h)) f_kc_nil))) 53 13 h
set_option maxRecDepth 20000 in
theorem BX7_scanNumber_43 {sh : Nat → Nat × Nat} {t : Nat} {rm : Nat × Nat × Nat} {cs : Nat × Nat} {R : f_Rt} {c_X7_isDigit : Int → e_M → (Int → Prop) → Prop} {c_X7_digits : Nat → Int → Int → e_M → (Int → Prop) → Prop} {c_X7_push : Int → Int → Int → e_M → (e_M → Prop) → Prop} {k44 : Nat → Int → Int → Int → Int → e_M → Prop} {a1 : Nat} {x2 : Int} {x3 : Int} {x5 : Int} {M : e_M} (C : f_Hy sh t yX7_scanNumber rm cs 5 (lX7_scanNumber c_X7_isDigit c_X7_digits c_X7_push) R) (h44 : ∀ (a1 : Nat) (x2 : Int) (x3 : Int) (x5 : Int) (xs0 : Int) (M : e_M), k44 a1 x2 x3 x5 xs0 M → f_E sh t YX7_scanNumber rm cs (f_Q sh t R) 44 [.inr (.inr (.inl (7, 12, 10))), .inr (.inr (.inl (22, 640, a1))), .inl x2, .inl x3, .inr (.inr (.inr ())), .inl x5] [.inl xs0] M) (h : VX7_scanNumber_43 c_X7_isDigit c_X7_digits c_X7_push k44 (fun M => R none M) a1 x2 x3 x5 M) : f_E sh t YX7_scanNumber rm cs (f_Q sh t R) 43 [.inr (.inr (.inl (7, 12, 10))), .inr (.inr (.inl (22, 640, a1))), .inl x2, .inl x3, .inr (.inr (.inr ())), .inl x5] [] M :=
  f_go (KC := f_kc [(44, f_pl [(20, 7, 12), (3, 22, 640), (1, 0, 0), (1, 0, 0), (0, 0, 0), (1, 0, 0)] [(1, 0, 0)] (fun ls st M => k44 (f_va (f_nth ls 1)) (f_vi (f_nth ls 2)) (f_vi (f_nth ls 3)) (f_vi (f_nth ls 5)) (f_vi (f_nth st 0)) M))]) C qX7_scanNumberf (f_kc_cons (f_pl_ok rfl (fun ls st M h => h44 _ _ _ _ _ M h)) f_kc_nil) 53 26 h
set_option maxRecDepth 20000 in
theorem BX7_scanNumber_44 {sh : Nat → Nat × Nat} {t : Nat} {rm : Nat × Nat × Nat} {cs : Nat × Nat} {R : f_Rt} {c_X7_isDigit : Int → e_M → (Int → Prop) → Prop} {c_X7_digits : Nat → Int → Int → e_M → (Int → Prop) → Prop} {c_X7_push : Int → Int → Int → e_M → (e_M → Prop) → Prop} {k18 : Nat → Int → Int → Int → Int → e_M → Prop} {a1 : Nat} {x2 : Int} {x3 : Int} {x5 : Int} {xs0 : Int} {M : e_M} (C : f_Hy sh t yX7_scanNumber rm cs 5 (lX7_scanNumber c_X7_isDigit c_X7_digits c_X7_push) R) (h18 : ∀ (a1 : Nat) (x2 : Int) (x3 : Int) (x4 : Int) (x5 : Int) (M : e_M), k18 a1 x2 x3 x4 x5 M → f_E sh t YX7_scanNumber rm cs (f_Q sh t R) 18 [.inr (.inr (.inl (7, 12, 10))), .inr (.inr (.inl (22, 640, a1))), .inl x2, .inl x3, .inl x4, .inl x5] [] M) (h : VX7_scanNumber_44 c_X7_isDigit c_X7_digits c_X7_push k18 (fun M => R none M) a1 x2 x3 x5 xs0 M) : f_E sh t YX7_scanNumber rm cs (f_Q sh t R) 44 [.inr (.inr (.inl (7, 12, 10))), .inr (.inr (.inl (22, 640, a1))), .inl x2, .inl x3, .inr (.inr (.inr ())), .inl x5] [.inl xs0] M :=
  f_go (KC := f_kc [(18, f_pl [(20, 7, 12), (3, 22, 640), (1, 0, 0), (1, 0, 0), (1, 0, 0), (1, 0, 0)] [] (fun ls st M => k18 (f_va (f_nth ls 1)) (f_vi (f_nth ls 2)) (f_vi (f_nth ls 3)) (f_vi (f_nth ls 4)) (f_vi (f_nth ls 5)) M))]) C qX7_scanNumberf (f_kc_cons (f_pl_ok rfl (fun ls st M h => h18 _ _ _ _ _ M h)) f_kc_nil) 53 28 h
set_option maxRecDepth 20000 in
theorem BX7_scanNumber_63 {sh : Nat → Nat × Nat} {t : Nat} {rm : Nat × Nat × Nat} {cs : Nat × Nat} {R : f_Rt} {c_X7_isDigit : Int → e_M → (Int → Prop) → Prop} {c_X7_digits : Nat → Int → Int → e_M → (Int → Prop) → Prop} {c_X7_push : Int → Int → Int → e_M → (e_M → Prop) → Prop} {k80 : Int → Int → Int → e_M → Prop} {a1 : Nat} {x2 : Int} {x3 : Int} {x4 : Int} {xs1 : Int} {M : e_M} (C : f_Hy sh t yX7_scanNumber rm cs 5 (lX7_scanNumber c_X7_isDigit c_X7_digits c_X7_push) R) (h80 : ∀ (xs3 : Int) (xs2 : Int) (xs1 : Int) (M : e_M), k80 xs3 xs2 xs1 M → f_E sh t YX7_scanNumber rm cs (f_Q sh t R) 80 [.inr (.inr (.inr ())), .inr (.inr (.inr ())), .inr (.inr (.inr ())), .inr (.inr (.inr ())), .inr (.inr (.inr ())), .inr (.inr (.inr ()))] [.inr (.inl xs3), .inl xs2, .inl xs1, .inr (.inr (.inl (7, 12, 10)))] M) (h : VX7_scanNumber_63 c_X7_isDigit c_X7_digits c_X7_push k80 (fun M => R none M) a1 x2 x3 x4 xs1 M) : f_E sh t YX7_scanNumber rm cs (f_Q sh t R) 63 [.inr (.inr (.inr ())), .inr (.inr (.inl (22, 640, a1))), .inl x2, .inl x3, .inl x4, .inr (.inr (.inr ()))] [.inl xs1, .inr (.inr (.inl (7, 12, 10)))] M :=
  f_go (KC := f_kc [(80, f_pl [(0, 0, 0), (0, 0, 0), (0, 0, 0), (0, 0, 0), (0, 0, 0), (0, 0, 0)] [(2, 0, 0), (1, 0, 0), (1, 0, 0), (20, 7, 12)] (fun ls st M => k80 (f_vi (f_nth st 0)) (f_vi (f_nth st 1)) (f_vi (f_nth st 2)) M))]) C qX7_scanNumberf (f_kc_cons (f_pl_ok rfl (fun ls st M h => h80 _ _ _ M h)) f_kc_nil) 53 38 h
set_option maxRecDepth 20000 in
theorem BX7_scanNumber_80 {sh : Nat → Nat × Nat} {t : Nat} {rm : Nat × Nat × Nat} {cs : Nat × Nat} {R : f_Rt} {c_X7_isDigit : Int → e_M → (Int → Prop) → Prop} {c_X7_digits : Nat → Int → Int → e_M → (Int → Prop) → Prop} {c_X7_push : Int → Int → Int → e_M → (e_M → Prop) → Prop} {xs3 : Int} {xs2 : Int} {xs1 : Int} {M : e_M} (C : f_Hy sh t yX7_scanNumber rm cs 5 (lX7_scanNumber c_X7_isDigit c_X7_digits c_X7_push) R) (h : VX7_scanNumber_80 c_X7_isDigit c_X7_digits c_X7_push (fun M => R none M) xs3 xs2 xs1 M) : f_E sh t YX7_scanNumber rm cs (f_Q sh t R) 80 [.inr (.inr (.inr ())), .inr (.inr (.inr ())), .inr (.inr (.inr ())), .inr (.inr (.inr ())), .inr (.inr (.inr ())), .inr (.inr (.inr ()))] [.inr (.inl xs3), .inl xs2, .inl xs1, .inr (.inr (.inl (7, 12, 10)))] M :=
  f_go (KC := f_kc []) C qX7_scanNumberf f_kc_nil 53 49 h
set_option maxRecDepth 20000 in
theorem BX7_scanNumber {sh : Nat → Nat × Nat} {t : Nat} {rm : Nat × Nat × Nat} {cs : Nat × Nat} {R : f_Rt} {c_X7_isDigit : Int → e_M → (Int → Prop) → Prop} {c_X7_digits : Nat → Int → Int → e_M → (Int → Prop) → Prop} {c_X7_push : Int → Int → Int → e_M → (e_M → Prop) → Prop} {k13 : Nat → Int → Int → Int → e_M → Prop} {a1 : Nat} {x2 : Int} {x3 : Int} {M : e_M} (C : f_Hy sh t yX7_scanNumber rm cs 5 (lX7_scanNumber c_X7_isDigit c_X7_digits c_X7_push) R) (h13 : ∀ (a1 : Nat) (x2 : Int) (x3 : Int) (xs0 : Int) (M : e_M), k13 a1 x2 x3 xs0 M → f_E sh t YX7_scanNumber rm cs (f_Q sh t R) 13 [.inr (.inr (.inl (7, 12, 10))), .inr (.inr (.inl (22, 640, a1))), .inl x2, .inl x3, .inr (.inr (.inr ())), .inr (.inr (.inr ()))] [.inl xs0] M) (h : VX7_scanNumber c_X7_isDigit c_X7_digits c_X7_push k13 (fun M => R none M) a1 x2 x3 M) : f_E sh t YX7_scanNumber rm cs (f_Q sh t R) 0 [.inr (.inr (.inl (7, 12, 10))), .inr (.inr (.inl (22, 640, a1))), .inl x2, .inl x3, .inr (.inr (.inr ())), .inr (.inr (.inr ()))] [] M :=
  f_go (KC := f_kc [(13, f_pl [(20, 7, 12), (3, 22, 640), (1, 0, 0), (1, 0, 0), (0, 0, 0), (0, 0, 0)] [(1, 0, 0)] (fun ls st M => k13 (f_va (f_nth ls 1)) (f_vi (f_nth ls 2)) (f_vi (f_nth ls 3)) (f_vi (f_nth st 0)) M))]) C qX7_scanNumberf (f_kc_cons (f_pl_ok rfl (fun ls st M h => h13 _ _ _ _ M h)) f_kc_nil) 53 0 h
def WX7_scanNumber_80 (Q : e_M → Prop) (xs3 : Int) (xs2 : Int) (xs1 : Int) (M : e_M) : Prop :=
  VX7_scanNumber_80 WX7_isDigit WX7_digits WX7_push Q xs3 xs2 xs1 M
def WX7_scanNumber_63 (Q : e_M → Prop) (a1 : Nat) (x2 : Int) (x3 : Int) (x4 : Int) (xs1 : Int) (M : e_M) : Prop :=
  VX7_scanNumber_63 WX7_isDigit WX7_digits WX7_push (WX7_scanNumber_80 Q) Q a1 x2 x3 x4 xs1 M
def WX7_scanNumber_44 (H18 : Nat → Int → Int → Int → Int → e_M → Prop) (Q : e_M → Prop) (a1 : Nat) (x2 : Int) (x3 : Int) (x5 : Int) (xs0 : Int) (M : e_M) : Prop :=
  VX7_scanNumber_44 WX7_isDigit WX7_digits WX7_push H18 Q a1 x2 x3 x5 xs0 M
def WX7_scanNumber_43 (H18 : Nat → Int → Int → Int → Int → e_M → Prop) (Q : e_M → Prop) (a1 : Nat) (x2 : Int) (x3 : Int) (x5 : Int) (M : e_M) : Prop :=
  VX7_scanNumber_43 WX7_isDigit WX7_digits WX7_push (WX7_scanNumber_44 H18 Q) Q a1 x2 x3 x5 M
def WX7_scanNumber_18 (Q : e_M → Prop) : Nat → Nat → Int → Int → Int → Int → e_M → Prop
  | 0, _, _, _, _, _, _ => False
  | n + 1, a1, x2, x3, x4, x5, M =>
    VX7_scanNumber_18 WX7_isDigit WX7_digits WX7_push (WX7_scanNumber_63 Q) (WX7_scanNumber_43 (WX7_scanNumber_18 Q n) Q) (WX7_scanNumber_44 (WX7_scanNumber_18 Q n) Q) Q a1 x2 x3 x4 x5 M
def WX7_scanNumber_13 (Q : e_M → Prop) (a1 : Nat) (x2 : Int) (x3 : Int) (xs0 : Int) (M : e_M) : Prop :=
  VX7_scanNumber_13 WX7_isDigit WX7_digits WX7_push (fun a1 x2 x3 x4 x5 M => ∃ j, WX7_scanNumber_18 Q j a1 x2 x3 x4 x5 M) Q a1 x2 x3 xs0 M
def WX7_scanNumber (a1 : Nat) (x2 : Int) (x3 : Int) (M : e_M) (Q : e_M → Prop) : Prop :=
  VX7_scanNumber WX7_isDigit WX7_digits WX7_push (WX7_scanNumber_13 Q) Q a1 x2 x3 M
theorem PX7_scanNumber_80 {sh : Nat → Nat × Nat} {t : Nat} {rm : Nat × Nat × Nat} {cs : Nat × Nat} {R : f_Rt} {xs3 : Int} {xs2 : Int} {xs1 : Int} {M : e_M} (C : f_Hy sh t yX7_scanNumber rm cs 5 (lX7_scanNumber WX7_isDigit WX7_digits WX7_push) R) (h : WX7_scanNumber_80 (fun M => R none M) xs3 xs2 xs1 M) : f_E sh t YX7_scanNumber rm cs (f_Q sh t R) 80 [.inr (.inr (.inr ())), .inr (.inr (.inr ())), .inr (.inr (.inr ())), .inr (.inr (.inr ())), .inr (.inr (.inr ())), .inr (.inr (.inr ()))] [.inr (.inl xs3), .inl xs2, .inl xs1, .inr (.inr (.inl (7, 12, 10)))] M :=
  BX7_scanNumber_80 C h
theorem PX7_scanNumber_63 {sh : Nat → Nat × Nat} {t : Nat} {rm : Nat × Nat × Nat} {cs : Nat × Nat} {R : f_Rt} {a1 : Nat} {x2 : Int} {x3 : Int} {x4 : Int} {xs1 : Int} {M : e_M} (C : f_Hy sh t yX7_scanNumber rm cs 5 (lX7_scanNumber WX7_isDigit WX7_digits WX7_push) R) (h : WX7_scanNumber_63 (fun M => R none M) a1 x2 x3 x4 xs1 M) : f_E sh t YX7_scanNumber rm cs (f_Q sh t R) 63 [.inr (.inr (.inr ())), .inr (.inr (.inl (22, 640, a1))), .inl x2, .inl x3, .inl x4, .inr (.inr (.inr ()))] [.inl xs1, .inr (.inr (.inl (7, 12, 10)))] M :=
  BX7_scanNumber_63 C (fun xs3 xs2 xs1 M h => PX7_scanNumber_80 C h) h
theorem PX7_scanNumber_44 {sh : Nat → Nat × Nat} {t : Nat} {rm : Nat × Nat × Nat} {cs : Nat × Nat} {R : f_Rt} {H18 : Nat → Int → Int → Int → Int → e_M → Prop} {a1 : Nat} {x2 : Int} {x3 : Int} {x5 : Int} {xs0 : Int} {M : e_M} (C : f_Hy sh t yX7_scanNumber rm cs 5 (lX7_scanNumber WX7_isDigit WX7_digits WX7_push) R) (g18 : ∀ (a1 : Nat) (x2 : Int) (x3 : Int) (x4 : Int) (x5 : Int) (M : e_M), H18 a1 x2 x3 x4 x5 M → f_E sh t YX7_scanNumber rm cs (f_Q sh t R) 18 [.inr (.inr (.inl (7, 12, 10))), .inr (.inr (.inl (22, 640, a1))), .inl x2, .inl x3, .inl x4, .inl x5] [] M) (h : WX7_scanNumber_44 H18 (fun M => R none M) a1 x2 x3 x5 xs0 M) : f_E sh t YX7_scanNumber rm cs (f_Q sh t R) 44 [.inr (.inr (.inl (7, 12, 10))), .inr (.inr (.inl (22, 640, a1))), .inl x2, .inl x3, .inr (.inr (.inr ())), .inl x5] [.inl xs0] M :=
  BX7_scanNumber_44 C g18 h
theorem PX7_scanNumber_43 {sh : Nat → Nat × Nat} {t : Nat} {rm : Nat × Nat × Nat} {cs : Nat × Nat} {R : f_Rt} {H18 : Nat → Int → Int → Int → Int → e_M → Prop} {a1 : Nat} {x2 : Int} {x3 : Int} {x5 : Int} {M : e_M} (C : f_Hy sh t yX7_scanNumber rm cs 5 (lX7_scanNumber WX7_isDigit WX7_digits WX7_push) R) (g18 : ∀ (a1 : Nat) (x2 : Int) (x3 : Int) (x4 : Int) (x5 : Int) (M : e_M), H18 a1 x2 x3 x4 x5 M → f_E sh t YX7_scanNumber rm cs (f_Q sh t R) 18 [.inr (.inr (.inl (7, 12, 10))), .inr (.inr (.inl (22, 640, a1))), .inl x2, .inl x3, .inl x4, .inl x5] [] M) (h : WX7_scanNumber_43 H18 (fun M => R none M) a1 x2 x3 x5 M) : f_E sh t YX7_scanNumber rm cs (f_Q sh t R) 43 [.inr (.inr (.inl (7, 12, 10))), .inr (.inr (.inl (22, 640, a1))), .inl x2, .inl x3, .inr (.inr (.inr ())), .inl x5] [] M :=
  BX7_scanNumber_43 C (fun a1 x2 x3 x5 xs0 M h => PX7_scanNumber_44 C g18 h) h
theorem PX7_scanNumber_18 {sh : Nat → Nat × Nat} {t : Nat} {rm : Nat × Nat × Nat} {cs : Nat × Nat} {R : f_Rt} (C : f_Hy sh t yX7_scanNumber rm cs 5 (lX7_scanNumber WX7_isDigit WX7_digits WX7_push) R) : ∀ (n : Nat) (a1 : Nat) (x2 : Int) (x3 : Int) (x4 : Int) (x5 : Int) (M : e_M), WX7_scanNumber_18 (fun M => R none M) n a1 x2 x3 x4 x5 M → f_E sh t YX7_scanNumber rm cs (f_Q sh t R) 18 [.inr (.inr (.inl (7, 12, 10))), .inr (.inr (.inl (22, 640, a1))), .inl x2, .inl x3, .inl x4, .inl x5] [] M := by
  intro n
  induction n with
  | zero => intro a1 x2 x3 x4 x5 M h; exact h.elim
  | succ n ih => intro a1 x2 x3 x4 x5 M h; exact BX7_scanNumber_18 C (fun a1 x2 x3 x4 xs1 M h => PX7_scanNumber_63 C h) (fun a1 x2 x3 x5 M h => PX7_scanNumber_43 C ih h) (fun a1 x2 x3 x5 xs0 M h => PX7_scanNumber_44 C ih h) h
theorem PX7_scanNumber_13 {sh : Nat → Nat × Nat} {t : Nat} {rm : Nat × Nat × Nat} {cs : Nat × Nat} {R : f_Rt} {a1 : Nat} {x2 : Int} {x3 : Int} {xs0 : Int} {M : e_M} (C : f_Hy sh t yX7_scanNumber rm cs 5 (lX7_scanNumber WX7_isDigit WX7_digits WX7_push) R) (h : WX7_scanNumber_13 (fun M => R none M) a1 x2 x3 xs0 M) : f_E sh t YX7_scanNumber rm cs (f_Q sh t R) 13 [.inr (.inr (.inl (7, 12, 10))), .inr (.inr (.inl (22, 640, a1))), .inl x2, .inl x3, .inr (.inr (.inr ())), .inr (.inr (.inr ()))] [.inl xs0] M :=
  BX7_scanNumber_13 C (fun a1 x2 x3 x4 x5 M ⟨j, h⟩ => PX7_scanNumber_18 C j _ _ _ _ _ _ h) h
theorem PX7_scanNumber {sh : Nat → Nat × Nat} {t : Nat} {rm : Nat × Nat × Nat} {cs : Nat × Nat} {R : f_Rt} {a1 : Nat} {x2 : Int} {x3 : Int} {M : e_M} (C : f_Hy sh t yX7_scanNumber rm cs 5 (lX7_scanNumber WX7_isDigit WX7_digits WX7_push) R) (h : WX7_scanNumber a1 x2 x3 M (fun M => R none M)) : f_E sh t YX7_scanNumber rm cs (f_Q sh t R) 0 [.inr (.inr (.inl (7, 12, 10))), .inr (.inr (.inl (22, 640, a1))), .inl x2, .inl x3, .inr (.inr (.inr ())), .inr (.inr (.inr ()))] [] M :=
  BX7_scanNumber C (fun a1 x2 x3 xs0 M h => PX7_scanNumber_13 C h) h
def wX7_scanNumber : f_Wt := f_wm [(20, 7, 12), (3, 22, 640), (1, 0, 0), (1, 0, 0)] (fun ar M R => WX7_scanNumber (f_va (f_nth ar 1)) (f_vi (f_nth ar 2)) (f_vi (f_nth ar 3)) M (fun M => R none M))
theorem TX7_scanNumber {sh : Nat → Nat × Nat} {t : Nat} : f_Mt sh t YX7_scanNumber 5 (wX7_scanNumber) :=
  f_Mt_of (k := 2) (Nat.le_of_ble_eq_true rfl) rfl rfl (fun ar M R rm cs h1 h2 h3 hX h => PX7_scanNumber ⟨Nat.le_of_ble_eq_true rfl, h1, h2, h3, ⟨(f_Mt.up (Nat.le_of_ble_eq_true rfl) TX7_isDigit), (f_Mt.up (Nat.le_of_ble_eq_true rfl) TX7_digits), (f_Mt.up (Nat.le_of_ble_eq_true rfl) TX7_push), trivial⟩, hX⟩ h)
def VX7_scanWord_22 (c_X7_push : Int → Int → Int → e_M → (e_M → Prop) → Prop) (k61 : Int → Int → Int → Int → e_M → Prop) (k22 : Nat → Int → Int → Int → Int → e_M → Prop) (Q : e_M → Prop) (a1 : Nat) (x2 : Int) (x3 : Int) (x4 : Int) (x6 : Int) (M : e_M) : Prop :=
  ((x3 ≤ x6 → (k61 x2 x4 4 0 M)) ∧ (x6 < x3 → ((0 ≤ x6 ∧ x6 < 640) ∧ (∀ y1 : Int, y1 = f_orJ x4 (f_shlJ (M a1 (x6.toNat)) (e_w32 ((56 : Int) - (e_w32 ((8 : Int) * (e_w32 (x6 - x2))))))) → (k22 a1 x2 x3 y1 (e_w32 (x6 + 1)) M)))))
def VX7_scanWord_61 (c_X7_push : Int → Int → Int → e_M → (e_M → Prop) → Prop) (k89 : Int → Int → Int → Int → e_M → Prop) (Q : e_M → Prop) (x2 : Int) (x4 : Int) (x6 : Int) (x7 : Int) (M : e_M) : Prop :=
  ((71 ≤ x7 → (c_X7_push x6 x2 x4 M (fun M1 => (Q M1)))) ∧ (x7 < 71 → ((0 ≤ x7 ∧ x7 < 71) ∧ ((¬ (M 11 (x7.toNat)) = x4 → (k89 x2 x4 x6 x7 M)) ∧ ((M 11 (x7.toNat)) = x4 → (k89 x2 x4 (e_w32 ((200 : Int) + x7)) x7 M))))))
def VX7_scanWord_89 (c_X7_push : Int → Int → Int → e_M → (e_M → Prop) → Prop) (k61 : Int → Int → Int → Int → e_M → Prop) (Q : e_M → Prop) (x2 : Int) (x4 : Int) (x6 : Int) (x7 : Int) (M : e_M) : Prop :=
  (k61 x2 x4 x6 (e_w32 (x7 + 1)) M)
def VX7_scanWord (c_X7_push : Int → Int → Int → e_M → (e_M → Prop) → Prop) (k22 : Nat → Int → Int → Int → Int → e_M → Prop) (Q : e_M → Prop) (a1 : Nat) (x2 : Int) (x3 : Int) (M : e_M) : Prop :=
  (((e_w32 (x3 - x2)) ≤ 8 → (k22 a1 x2 x3 0 x2 M)) ∧ (8 < (e_w32 (x3 - x2)) → (c_X7_push 1 x2 0 M (fun M1 => (Q M1)))))
def yX7_scanWord (i : Nat) : e_Y := x_get YX7_scanWord [YX7_push] i
def pX7_scanWordf : List x_I := [(0, 2, 1, 3, 0, 0, []), (1, 2, 1, 2, 0, 0, []), (2, 9, 0, 1, 0, 0, []), (3, 0, 2, 0, 0, 8, []), (5, 18, 16, 5, 12, 0, []), (8, 4, 1, 0, 0, 0, []), (9, 0, 1, 0, 0, 1, []), (10, 2, 1, 2, 0, 0, []), (11, 1, 1, 0, 0, 0, []), (12, 40, 0, 4, 9, 0, []), (15, 44, 0, 0, 0, 0, []), (16, 1, 1, 0, 0, 0, []), (17, 6, 2, 4, 0, 0, []), (19, 2, 1, 2, 0, 0, []), (20, 5, 2, 6, 0, 0, []), (22, 49, 0, 0, 0, 0, []), (22, 2, 2, 6, 0, 0, []), (24, 2, 1, 3, 0, 0, []), (25, 18, 55, 3, 38, 0, []), (28, 3, 2, 4, 0, 0, []), (30, 4, 1, 1, 0, 0, []), (31, 2, 2, 6, 0, 0, []), (33, 27, 0, 2, 0, 0, []), (34, 14, 0, 0, 0, 0, []), (35, 0, 2, 0, 0, 56, []), (37, 0, 2, 0, 0, 8, []), (39, 2, 2, 6, 0, 0, []), (41, 2, 1, 2, 0, 0, []), (42, 9, 0, 1, 0, 0, []), (43, 9, 0, 2, 0, 0, []), (44, 9, 0, 1, 0, 0, []), (45, 11, 0, 0, 0, 0, []), (46, 10, 0, 6, 0, 0, []), (47, 33, 0, 0, 0, 0, []), (47, 6, 2, 4, 0, 0, []), (49, 8, 0, 6, 0, 1, []), (52, 19, 22, 0, 16, 0, []), (55, 0, 1, 0, 0, 4, []), (56, 5, 2, 6, 0, 0, []), (58, 0, 1, 0, 0, 0, []), (59, 5, 2, 7, 0, 0, []), (61, 49, 0, 0, 0, 0, []), (61, 2, 2, 7, 0, 0, []), (63, 0, 2, 0, 0, 71, []), (65, 18, 95, 3, 59, 0, []), (68, 4, 1, 0, 0, 0, []), (69, 25, 7, 0, 4, 0, [(0, 23, 71), (0, 1, 1)]), (72, 2, 2, 7, 0, 0, []), (74, 27, 0, 1, 0, 0, []), (75, 3, 2, 4, 0, 0, []), (77, 32, 89, 1, 56, 0, []), (81, 0, 3, 0, 0, 200, []), (84, 2, 2, 7, 0, 0, []), (86, 9, 0, 0, 0, 0, []), (87, 5, 2, 6, 0, 0, []), (89, 49, 0, 0, 0, 0, []), (89, 8, 0, 7, 0, 1, []), (92, 19, 61, 0, 42, 0, []), (95, 4, 1, 0, 0, 0, []), (96, 2, 2, 6, 0, 0, []), (98, 2, 1, 2, 0, 0, []), (99, 3, 2, 4, 0, 0, []), (101, 40, 0, 4, 9, 0, []), (104, 44, 0, 0, 0, 0, [])]
set_option maxRecDepth 20000 in
theorem qX7_scanWordf : f_all yX7_scanWord YX7_scanWord pX7_scanWordf :=
  ⟨f_iload_n (n := 3) (e_dx DX7_scanWord_0 0 rfl) rfl,
  f_iload_n (n := 2) (e_dx DX7_scanWord_0 1 rfl) rfl,
  f_isub (e_dx DX7_scanWord_0 2 rfl),
  f_bipush (e_dx DX7_scanWord_0 3 rfl) ⟨by decide, by decide⟩,
  f_icmp_le (e_dx DX7_scanWord_0 4 rfl) rfl,
  f_aload_n (n := 0) (e_dx DX7_scanWord_0 5 rfl) rfl,
  f_iconst (e_dx DX7_scanWord_0 6 rfl) ⟨by decide, by decide⟩,
  f_iload_n (n := 2) (e_dx DX7_scanWord_0 7 rfl) rfl,
  f_lconst (n := 0) (e_dx DX7_scanWord_0 8 rfl) rfl,
  x_callV (e_dx DX7_scanWord_0 9 rfl) mwX7_push vwX7_push cX7_89 rfl,
  ⟨(e_dx DX7_scanWord_0 10 rfl), rfl⟩,
  f_lconst (n := 0) (e_dx DX7_scanWord_0 11 rfl) rfl,
  f_lstore (e_dx DX7_scanWord_0 12 rfl) (by decide),
  f_iload_n (n := 2) (e_dx DX7_scanWord_0 13 rfl) rfl,
  f_istore (e_dx DX7_scanWord_0 14 rfl) (by decide),
  trivial,
  f_iload (e_dx DX7_scanWord_0 15 rfl),
  f_iload_n (n := 3) (e_dx DX7_scanWord_0 16 rfl) rfl,
  f_icmp_ge (e_dx DX7_scanWord_0 17 rfl) rfl,
  f_lload (e_dx DX7_scanWord_0 18 rfl),
  f_aload_n (n := 1) (e_dx DX7_scanWord_0 19 rfl) rfl,
  f_iload (e_dx DX7_scanWord_0 20 rfl),
  f_baload (e_dx DX7_scanWord_0 21 rfl),
  f_g14 (e_dx DX7_scanWord_0 22 rfl),
  f_bipush (e_dx DX7_scanWord_0 23 rfl) ⟨by decide, by decide⟩,
  f_bipush (e_dx DX7_scanWord_0 24 rfl) ⟨by decide, by decide⟩,
  f_iload (e_dx DX7_scanWord_0 25 rfl),
  f_iload_n (n := 2) (e_dx DX7_scanWord_0 26 rfl) rfl,
  f_isub (e_dx DX7_scanWord_0 27 rfl),
  f_imul (e_dx DX7_scanWord_0 28 rfl),
  f_isub (e_dx DX7_scanWord_0 29 rfl),
  f_lshl (e_dx DX7_scanWord_0 30 rfl),
  f_lor (e_dx DX7_scanWord_0 31 rfl),
  f_g33,
  f_lstore (e_dx DX7_scanWord_0 32 rfl) (by decide),
  f_g8 (e_dx DX7_scanWord_0 33 rfl) ⟨by decide, by decide⟩,
  f_g19 (e_dx DX7_scanWord_0 34 rfl) rfl,
  f_iconst (e_dx DX7_scanWord_0 35 rfl) ⟨by decide, by decide⟩,
  f_istore (e_dx DX7_scanWord_0 36 rfl) (by decide),
  f_iconst (e_dx DX7_scanWord_0 37 rfl) ⟨by decide, by decide⟩,
  f_istore (e_dx DX7_scanWord_0 38 rfl) (by decide),
  trivial,
  f_iload (e_dx DX7_scanWord_0 39 rfl),
  f_bipush (e_dx DX7_scanWord_1 0 rfl) ⟨by decide, by decide⟩,
  f_icmp_ge (e_dx DX7_scanWord_1 1 rfl) rfl,
  f_aload_n (n := 0) (e_dx DX7_scanWord_1 2 rfl) rfl,
  f_getA (e_dx DX7_scanWord_1 3 rfl) fX7_9 rfl (by decide) (Nat.le_of_ble_eq_true rfl) rfl (by decide),
  f_iload (e_dx DX7_scanWord_1 4 rfl),
  f_laload (e_dx DX7_scanWord_1 5 rfl),
  f_lload (e_dx DX7_scanWord_1 6 rfl),
  f_lif_ne (e_dx DX7_scanWord_1 7 rfl) (e_dx DX7_scanWord_1 8 rfl) rfl,
  f_sipush (e_dx DX7_scanWord_1 9 rfl) ⟨by decide, by decide⟩,
  f_iload (e_dx DX7_scanWord_1 10 rfl),
  f_iadd (e_dx DX7_scanWord_1 11 rfl),
  f_istore (e_dx DX7_scanWord_1 12 rfl) (by decide),
  trivial,
  f_g8 (e_dx DX7_scanWord_1 13 rfl) ⟨by decide, by decide⟩,
  f_g19 (e_dx DX7_scanWord_1 14 rfl) rfl,
  f_aload_n (n := 0) (e_dx DX7_scanWord_1 15 rfl) rfl,
  f_iload (e_dx DX7_scanWord_1 16 rfl),
  f_iload_n (n := 2) (e_dx DX7_scanWord_1 17 rfl) rfl,
  f_lload (e_dx DX7_scanWord_1 18 rfl),
  x_callV (e_dx DX7_scanWord_1 19 rfl) mwX7_push vwX7_push cX7_89 rfl,
  ⟨(e_dx DX7_scanWord_1 20 rfl), rfl⟩, trivial⟩
def lX7_scanWord (c_X7_push : Int → Int → Int → e_M → (e_M → Prop) → Prop) : List (Nat × f_Wt) := [(0, f_wm [(20, 7, 12), (1, 0, 0), (1, 0, 0), (2, 0, 0)] (fun ar M R => c_X7_push (f_vi (f_nth ar 1)) (f_vi (f_nth ar 2)) (f_vi (f_nth ar 3)) M (fun M => R none M)))]
set_option maxRecDepth 20000 in
theorem BX7_scanWord_22 {sh : Nat → Nat × Nat} {t : Nat} {rm : Nat × Nat × Nat} {cs : Nat × Nat} {R : f_Rt} {c_X7_push : Int → Int → Int → e_M → (e_M → Prop) → Prop} {k61 : Int → Int → Int → Int → e_M → Prop} {k22 : Nat → Int → Int → Int → Int → e_M → Prop} {a1 : Nat} {x2 : Int} {x3 : Int} {x4 : Int} {x6 : Int} {M : e_M} (C : f_Hy sh t yX7_scanWord rm cs 5 (lX7_scanWord c_X7_push) R) (h61 : ∀ (x2 : Int) (x4 : Int) (x6 : Int) (x7 : Int) (M : e_M), k61 x2 x4 x6 x7 M → f_E sh t YX7_scanWord rm cs (f_Q sh t R) 61 [.inr (.inr (.inl (7, 12, 10))), .inr (.inr (.inr ())), .inl x2, .inr (.inr (.inr ())), .inr (.inl x4), .inr (.inr (.inr ())), .inl x6, .inl x7] [] M) (h22 : ∀ (a1 : Nat) (x2 : Int) (x3 : Int) (x4 : Int) (x6 : Int) (M : e_M), k22 a1 x2 x3 x4 x6 M → f_E sh t YX7_scanWord rm cs (f_Q sh t R) 22 [.inr (.inr (.inl (7, 12, 10))), .inr (.inr (.inl (22, 640, a1))), .inl x2, .inl x3, .inr (.inl x4), .inr (.inr (.inr ())), .inl x6, .inr (.inr (.inr ()))] [] M) (h : VX7_scanWord_22 c_X7_push k61 k22 (fun M => R none M) a1 x2 x3 x4 x6 M) : f_E sh t YX7_scanWord rm cs (f_Q sh t R) 22 [.inr (.inr (.inl (7, 12, 10))), .inr (.inr (.inl (22, 640, a1))), .inl x2, .inl x3, .inr (.inl x4), .inr (.inr (.inr ())), .inl x6, .inr (.inr (.inr ()))] [] M :=
  f_go (KC := f_kc [(61, f_pl [(20, 7, 12), (0, 0, 0), (1, 0, 0), (0, 0, 0), (2, 0, 0), (0, 0, 0), (1, 0, 0), (1, 0, 0)] [] (fun ls st M => k61 (f_vi (f_nth ls 2)) (f_vi (f_nth ls 4)) (f_vi (f_nth ls 6)) (f_vi (f_nth ls 7)) M)), (22, f_pl [(20, 7, 12), (3, 22, 640), (1, 0, 0), (1, 0, 0), (2, 0, 0), (0, 0, 0), (1, 0, 0), (0, 0, 0)] [] (fun ls st M => k22 (f_va (f_nth ls 1)) (f_vi (f_nth ls 2)) (f_vi (f_nth ls 3)) (f_vi (f_nth ls 4)) (f_vi (f_nth ls 6)) M))]) C qX7_scanWordf (f_kc_cons (f_pl_ok rfl (fun ls st M h => h61 _ _ _ _ M h)) (f_kc_cons (f_pl_ok rfl (fun ls st M h => h22 _ _ _ _ _ M h)) f_kc_nil)) 66 16 h
set_option maxRecDepth 20000 in
theorem BX7_scanWord_61 {sh : Nat → Nat × Nat} {t : Nat} {rm : Nat × Nat × Nat} {cs : Nat × Nat} {R : f_Rt} {c_X7_push : Int → Int → Int → e_M → (e_M → Prop) → Prop} {k89 : Int → Int → Int → Int → e_M → Prop} {x2 : Int} {x4 : Int} {x6 : Int} {x7 : Int} {M : e_M} (C : f_Hy sh t yX7_scanWord rm cs 5 (lX7_scanWord c_X7_push) R) (h89 : ∀ (x2 : Int) (x4 : Int) (x6 : Int) (x7 : Int) (M : e_M), k89 x2 x4 x6 x7 M → f_E sh t YX7_scanWord rm cs (f_Q sh t R) 89 [.inr (.inr (.inl (7, 12, 10))), .inr (.inr (.inr ())), .inl x2, .inr (.inr (.inr ())), .inr (.inl x4), .inr (.inr (.inr ())), .inl x6, .inl x7] [] M) (h : VX7_scanWord_61 c_X7_push k89 (fun M => R none M) x2 x4 x6 x7 M) : f_E sh t YX7_scanWord rm cs (f_Q sh t R) 61 [.inr (.inr (.inl (7, 12, 10))), .inr (.inr (.inr ())), .inl x2, .inr (.inr (.inr ())), .inr (.inl x4), .inr (.inr (.inr ())), .inl x6, .inl x7] [] M :=
  f_go (KC := f_kc [(89, f_pl [(20, 7, 12), (0, 0, 0), (1, 0, 0), (0, 0, 0), (2, 0, 0), (0, 0, 0), (1, 0, 0), (1, 0, 0)] [] (fun ls st M => k89 (f_vi (f_nth ls 2)) (f_vi (f_nth ls 4)) (f_vi (f_nth ls 6)) (f_vi (f_nth ls 7)) M))]) C qX7_scanWordf (f_kc_cons (f_pl_ok rfl (fun ls st M h => h89 _ _ _ _ M h)) f_kc_nil) 66 42 h
set_option maxRecDepth 20000 in
theorem BX7_scanWord_89 {sh : Nat → Nat × Nat} {t : Nat} {rm : Nat × Nat × Nat} {cs : Nat × Nat} {R : f_Rt} {c_X7_push : Int → Int → Int → e_M → (e_M → Prop) → Prop} {k61 : Int → Int → Int → Int → e_M → Prop} {x2 : Int} {x4 : Int} {x6 : Int} {x7 : Int} {M : e_M} (C : f_Hy sh t yX7_scanWord rm cs 5 (lX7_scanWord c_X7_push) R) (h61 : ∀ (x2 : Int) (x4 : Int) (x6 : Int) (x7 : Int) (M : e_M), k61 x2 x4 x6 x7 M → f_E sh t YX7_scanWord rm cs (f_Q sh t R) 61 [.inr (.inr (.inl (7, 12, 10))), .inr (.inr (.inr ())), .inl x2, .inr (.inr (.inr ())), .inr (.inl x4), .inr (.inr (.inr ())), .inl x6, .inl x7] [] M) (h : VX7_scanWord_89 c_X7_push k61 (fun M => R none M) x2 x4 x6 x7 M) : f_E sh t YX7_scanWord rm cs (f_Q sh t R) 89 [.inr (.inr (.inl (7, 12, 10))), .inr (.inr (.inr ())), .inl x2, .inr (.inr (.inr ())), .inr (.inl x4), .inr (.inr (.inr ())), .inl x6, .inl x7] [] M :=
  f_go (KC := f_kc [(61, f_pl [(20, 7, 12), (0, 0, 0), (1, 0, 0), (0, 0, 0), (2, 0, 0), (0, 0, 0), (1, 0, 0), (1, 0, 0)] [] (fun ls st M => k61 (f_vi (f_nth ls 2)) (f_vi (f_nth ls 4)) (f_vi (f_nth ls 6)) (f_vi (f_nth ls 7)) M))]) C qX7_scanWordf (f_kc_cons (f_pl_ok rfl (fun ls st M h => h61 _ _ _ _ M h)) f_kc_nil) 66 56 h
set_option maxRecDepth 20000 in
theorem BX7_scanWord {sh : Nat → Nat × Nat} {t : Nat} {rm : Nat × Nat × Nat} {cs : Nat × Nat} {R : f_Rt} {c_X7_push : Int → Int → Int → e_M → (e_M → Prop) → Prop} {k22 : Nat → Int → Int → Int → Int → e_M → Prop} {a1 : Nat} {x2 : Int} {x3 : Int} {M : e_M} (C : f_Hy sh t yX7_scanWord rm cs 5 (lX7_scanWord c_X7_push) R) (h22 : ∀ (a1 : Nat) (x2 : Int) (x3 : Int) (x4 : Int) (x6 : Int) (M : e_M), k22 a1 x2 x3 x4 x6 M → f_E sh t YX7_scanWord rm cs (f_Q sh t R) 22 [.inr (.inr (.inl (7, 12, 10))), .inr (.inr (.inl (22, 640, a1))), .inl x2, .inl x3, .inr (.inl x4), .inr (.inr (.inr ())), .inl x6, .inr (.inr (.inr ()))] [] M) (h : VX7_scanWord c_X7_push k22 (fun M => R none M) a1 x2 x3 M) : f_E sh t YX7_scanWord rm cs (f_Q sh t R) 0 [.inr (.inr (.inl (7, 12, 10))), .inr (.inr (.inl (22, 640, a1))), .inl x2, .inl x3, .inr (.inr (.inr ())), .inr (.inr (.inr ())), .inr (.inr (.inr ())), .inr (.inr (.inr ()))] [] M :=
  f_go (KC := f_kc [(22, f_pl [(20, 7, 12), (3, 22, 640), (1, 0, 0), (1, 0, 0), (2, 0, 0), (0, 0, 0), (1, 0, 0), (0, 0, 0)] [] (fun ls st M => k22 (f_va (f_nth ls 1)) (f_vi (f_nth ls 2)) (f_vi (f_nth ls 3)) (f_vi (f_nth ls 4)) (f_vi (f_nth ls 6)) M))]) C qX7_scanWordf (f_kc_cons (f_pl_ok rfl (fun ls st M h => h22 _ _ _ _ _ M h)) f_kc_nil) 66 0 h
def WX7_scanWord_89 (H61 : Int → Int → Int → Int → e_M → Prop) (Q : e_M → Prop) (x2 : Int) (x4 : Int) (x6 : Int) (x7 : Int) (M : e_M) : Prop :=
  VX7_scanWord_89 WX7_push H61 Q x2 x4 x6 x7 M
def WX7_scanWord_61 (Q : e_M → Prop) : Nat → Int → Int → Int → Int → e_M → Prop
  | 0, _, _, _, _, _ => False
  | n + 1, x2, x4, x6, x7, M =>
    VX7_scanWord_61 WX7_push (WX7_scanWord_89 (WX7_scanWord_61 Q n) Q) Q x2 x4 x6 x7 M
def WX7_scanWord_22 (Q : e_M → Prop) : Nat → Nat → Int → Int → Int → Int → e_M → Prop
  | 0, _, _, _, _, _, _ => False
  | n + 1, a1, x2, x3, x4, x6, M =>
    VX7_scanWord_22 WX7_push (fun x2 x4 x6 x7 M => ∃ j, WX7_scanWord_61 Q j x2 x4 x6 x7 M) (WX7_scanWord_22 Q n) Q a1 x2 x3 x4 x6 M
def WX7_scanWord (a1 : Nat) (x2 : Int) (x3 : Int) (M : e_M) (Q : e_M → Prop) : Prop :=
  VX7_scanWord WX7_push (fun a1 x2 x3 x4 x6 M => ∃ j, WX7_scanWord_22 Q j a1 x2 x3 x4 x6 M) Q a1 x2 x3 M
theorem PX7_scanWord_89 {sh : Nat → Nat × Nat} {t : Nat} {rm : Nat × Nat × Nat} {cs : Nat × Nat} {R : f_Rt} {H61 : Int → Int → Int → Int → e_M → Prop} {x2 : Int} {x4 : Int} {x6 : Int} {x7 : Int} {M : e_M} (C : f_Hy sh t yX7_scanWord rm cs 5 (lX7_scanWord WX7_push) R) (g61 : ∀ (x2 : Int) (x4 : Int) (x6 : Int) (x7 : Int) (M : e_M), H61 x2 x4 x6 x7 M → f_E sh t YX7_scanWord rm cs (f_Q sh t R) 61 [.inr (.inr (.inl (7, 12, 10))), .inr (.inr (.inr ())), .inl x2, .inr (.inr (.inr ())), .inr (.inl x4), .inr (.inr (.inr ())), .inl x6, .inl x7] [] M) (h : WX7_scanWord_89 H61 (fun M => R none M) x2 x4 x6 x7 M) : f_E sh t YX7_scanWord rm cs (f_Q sh t R) 89 [.inr (.inr (.inl (7, 12, 10))), .inr (.inr (.inr ())), .inl x2, .inr (.inr (.inr ())), .inr (.inl x4), .inr (.inr (.inr ())), .inl x6, .inl x7] [] M :=
  BX7_scanWord_89 C g61 h
theorem PX7_scanWord_61 {sh : Nat → Nat × Nat} {t : Nat} {rm : Nat × Nat × Nat} {cs : Nat × Nat} {R : f_Rt} (C : f_Hy sh t yX7_scanWord rm cs 5 (lX7_scanWord WX7_push) R) : ∀ (n : Nat) (x2 : Int) (x4 : Int) (x6 : Int) (x7 : Int) (M : e_M), WX7_scanWord_61 (fun M => R none M) n x2 x4 x6 x7 M → f_E sh t YX7_scanWord rm cs (f_Q sh t R) 61 [.inr (.inr (.inl (7, 12, 10))), .inr (.inr (.inr ())), .inl x2, .inr (.inr (.inr ())), .inr (.inl x4), .inr (.inr (.inr ())), .inl x6, .inl x7] [] M := by
  intro n
  induction n with
  | zero => intro x2 x4 x6 x7 M h; exact h.elim
  | succ n ih => intro x2 x4 x6 x7 M h; exact BX7_scanWord_61 C (fun x2 x4 x6 x7 M h => PX7_scanWord_89 C ih h) h
theorem PX7_scanWord_22 {sh : Nat → Nat × Nat} {t : Nat} {rm : Nat × Nat × Nat} {cs : Nat × Nat} {R : f_Rt} (C : f_Hy sh t yX7_scanWord rm cs 5 (lX7_scanWord WX7_push) R) : ∀ (n : Nat) (a1 : Nat) (x2 : Int) (x3 : Int) (x4 : Int) (x6 : Int) (M : e_M), WX7_scanWord_22 (fun M => R none M) n a1 x2 x3 x4 x6 M → f_E sh t YX7_scanWord rm cs (f_Q sh t R) 22 [.inr (.inr (.inl (7, 12, 10))), .inr (.inr (.inl (22, 640, a1))), .inl x2, .inl x3, .inr (.inl x4), .inr (.inr (.inr ())), .inl x6, .inr (.inr (.inr ()))] [] M := by
  intro n
  induction n with
  | zero => intro a1 x2 x3 x4 x6 M h; exact h.elim
  | succ n ih => intro a1 x2 x3 x4 x6 M h; exact BX7_scanWord_22 C (fun x2 x4 x6 x7 M ⟨j, h⟩ => PX7_scanWord_61 C j _ _ _ _ _ h) ih h
theorem PX7_scanWord {sh : Nat → Nat × Nat} {t : Nat} {rm : Nat × Nat × Nat} {cs : Nat × Nat} {R : f_Rt} {a1 : Nat} {x2 : Int} {x3 : Int} {M : e_M} (C : f_Hy sh t yX7_scanWord rm cs 5 (lX7_scanWord WX7_push) R) (h : WX7_scanWord a1 x2 x3 M (fun M => R none M)) : f_E sh t YX7_scanWord rm cs (f_Q sh t R) 0 [.inr (.inr (.inl (7, 12, 10))), .inr (.inr (.inl (22, 640, a1))), .inl x2, .inl x3, .inr (.inr (.inr ())), .inr (.inr (.inr ())), .inr (.inr (.inr ())), .inr (.inr (.inr ()))] [] M :=
  BX7_scanWord C (fun a1 x2 x3 x4 x6 M ⟨j, h⟩ => PX7_scanWord_22 C j _ _ _ _ _ _ h) h
def wX7_scanWord : f_Wt := f_wm [(20, 7, 12), (3, 22, 640), (1, 0, 0), (1, 0, 0)] (fun ar M R => WX7_scanWord (f_va (f_nth ar 1)) (f_vi (f_nth ar 2)) (f_vi (f_nth ar 3)) M (fun M => R none M))
theorem TX7_scanWord {sh : Nat → Nat × Nat} {t : Nat} : f_Mt sh t YX7_scanWord 5 (wX7_scanWord) :=
  f_Mt_of (k := 4) (Nat.le_of_ble_eq_true rfl) rfl rfl (fun ar M R rm cs h1 h2 h3 hX h => PX7_scanWord ⟨Nat.le_of_ble_eq_true rfl, h1, h2, h3, ⟨(f_Mt.up (Nat.le_of_ble_eq_true rfl) TX7_push), trivial⟩, hX⟩ h)
def VX7_scanToken_85 (c_X7_isDate : Nat → Int → Int → e_M → (Int → Prop) → Prop) (c_X7_digits : Nat → Int → Int → e_M → (Int → Prop) → Prop) (c_X11_dayOf : Int → Int → Int → e_M → (Int → Prop) → Prop) (c_X7_push : Int → Int → Int → e_M → (e_M → Prop) → Prop) (c_X7_isWordByte : Int → e_M → (Int → Prop) → Prop) (c_X7_scanSign : Nat → Int → Int → e_M → (Int → e_M → Prop) → Prop) (c_X7_isDigit : Int → e_M → (Int → Prop) → Prop) (c_X7_scanNumber : Nat → Int → Int → e_M → (e_M → Prop) → Prop) (c_X7_scanWord : Nat → Int → Int → e_M → (e_M → Prop) → Prop) (k107 : Nat → Int → Int → e_M → Prop) (k85 : Nat → Int → Int → Int → e_M → Prop) (Q : Int → e_M → Prop) (a1 : Nat) (x2 : Int) (x3 : Int) (x4 : Int) (M : e_M) : Prop :=
  ((x2 ≤ x4 → (k107 a1 x3 x4 M)) ∧ (x4 < x2 → ((0 ≤ x4 ∧ x4 < 640) ∧ (c_X7_isWordByte (M a1 (x4.toNat)) M (fun r1 => ((r1 = 0 → (k107 a1 x3 x4 M)) ∧ (¬ r1 = 0 → (k85 a1 x2 x3 (e_w32 (x4 + 1)) M))))))))
def VX7_scanToken_107 (c_X7_isDate : Nat → Int → Int → e_M → (Int → Prop) → Prop) (c_X7_digits : Nat → Int → Int → e_M → (Int → Prop) → Prop) (c_X11_dayOf : Int → Int → Int → e_M → (Int → Prop) → Prop) (c_X7_push : Int → Int → Int → e_M → (e_M → Prop) → Prop) (c_X7_isWordByte : Int → e_M → (Int → Prop) → Prop) (c_X7_scanSign : Nat → Int → Int → e_M → (Int → e_M → Prop) → Prop) (c_X7_isDigit : Int → e_M → (Int → Prop) → Prop) (c_X7_scanNumber : Nat → Int → Int → e_M → (e_M → Prop) → Prop) (c_X7_scanWord : Nat → Int → Int → e_M → (e_M → Prop) → Prop) (Q : Int → e_M → Prop) (a1 : Nat) (x3 : Int) (x4 : Int) (M : e_M) : Prop :=
  ((0 ≤ x3 ∧ x3 < 640) ∧ (c_X7_isDigit (M a1 (x3.toNat)) M (fun r1 => ((r1 = 0 → (c_X7_scanWord a1 x3 x4 M (fun M2 => (Q x4 M2)))) ∧ (¬ r1 = 0 → (c_X7_scanNumber a1 x3 x4 M (fun M3 => (Q x4 M3))))))))
def VX7_scanToken (c_X7_isDate : Nat → Int → Int → e_M → (Int → Prop) → Prop) (c_X7_digits : Nat → Int → Int → e_M → (Int → Prop) → Prop) (c_X11_dayOf : Int → Int → Int → e_M → (Int → Prop) → Prop) (c_X7_push : Int → Int → Int → e_M → (e_M → Prop) → Prop) (c_X7_isWordByte : Int → e_M → (Int → Prop) → Prop) (c_X7_scanSign : Nat → Int → Int → e_M → (Int → e_M → Prop) → Prop) (c_X7_isDigit : Int → e_M → (Int → Prop) → Prop) (c_X7_scanNumber : Nat → Int → Int → e_M → (e_M → Prop) → Prop) (c_X7_scanWord : Nat → Int → Int → e_M → (e_M → Prop) → Prop) (k85 : Nat → Int → Int → Int → e_M → Prop) (Q : Int → e_M → Prop) (a1 : Nat) (x2 : Int) (x3 : Int) (M : e_M) : Prop :=
  (c_X7_isDate a1 x2 x3 M (fun r1 => ((r1 = 0 → ((0 ≤ x3 ∧ x3 < 640) ∧ (c_X7_isWordByte (M a1 (x3.toNat)) M (fun r2 => ((¬ r2 = 0 → (k85 a1 x2 x3 (e_w32 (x3 + 1)) M)) ∧ (r2 = 0 → (c_X7_scanSign a1 x2 x3 M (fun r3 M4 => (Q r3 M4))))))))) ∧ (¬ r1 = 0 → (c_X7_digits a1 x3 (e_w32 (x3 + 4)) M (fun r5 => (c_X7_digits a1 (e_w32 (x3 + 5)) (e_w32 (x3 + 7)) M (fun r6 => (c_X7_digits a1 (e_w32 (x3 + 8)) (e_w32 (x3 + 10)) M (fun r7 => (c_X11_dayOf r5 r6 r7 M (fun r8 => (c_X7_push 2 x3 r8 M (fun M9 => (Q (e_w32 (x3 + 10)) M9)))))))))))))))
def yX7_scanToken (i : Nat) : e_Y := x_get YX7_scanToken [YX7_isDate, YX7_digits, YX11_dayOf, YX7_push, YX7_isWordByte, YX7_scanSign, YX7_isDigit, YX7_scanNumber, YX7_scanWord] i
def pX7_scanTokenf : List x_I := [(0, 4, 1, 1, 0, 0, []), (1, 2, 1, 2, 0, 0, []), (2, 2, 1, 3, 0, 0, []), (3, 40, 0, 3, 0, 0, []), (6, 17, 63, 0, 42, 0, []), (9, 4, 1, 1, 0, 0, []), (10, 2, 1, 3, 0, 0, []), (11, 2, 1, 3, 0, 0, []), (12, 0, 1, 0, 0, 4, []), (13, 9, 0, 0, 0, 0, []), (14, 40, 1, 3, 0, 0, []), (17, 5, 2, 4, 0, 0, []), (19, 4, 1, 1, 0, 0, []), (20, 2, 1, 3, 0, 0, []), (21, 0, 1, 0, 0, 5, []), (22, 9, 0, 0, 0, 0, []), (23, 2, 1, 3, 0, 0, []), (24, 0, 2, 0, 0, 7, []), (26, 9, 0, 0, 0, 0, []), (27, 40, 1, 3, 0, 0, []), (30, 5, 2, 5, 0, 0, []), (32, 4, 1, 0, 0, 0, []), (33, 0, 1, 0, 0, 2, []), (34, 2, 1, 3, 0, 0, []), (35, 2, 2, 4, 0, 0, []), (37, 2, 2, 5, 0, 0, []), (39, 4, 1, 1, 0, 0, []), (40, 2, 1, 3, 0, 0, []), (41, 0, 2, 0, 0, 8, []), (43, 9, 0, 0, 0, 0, []), (44, 2, 1, 3, 0, 0, []), (45, 0, 2, 0, 0, 10, []), (47, 9, 0, 0, 0, 0, []), (48, 40, 1, 3, 0, 0, []), (51, 40, 2, 3, 0, 0, []), (54, 14, 0, 0, 0, 0, []), (55, 40, 3, 4, 9, 0, []), (58, 2, 1, 3, 0, 0, []), (59, 0, 2, 0, 0, 10, []), (61, 9, 0, 0, 0, 0, []), (62, 41, 0, 0, 0, 0, []), (63, 4, 1, 1, 0, 0, []), (64, 2, 1, 3, 0, 0, []), (65, 27, 0, 2, 0, 0, []), (66, 40, 4, 1, 0, 0, []), (69, 17, 80, 1, 53, 0, []), (72, 4, 1, 0, 0, 0, []), (73, 4, 1, 1, 0, 0, []), (74, 2, 1, 2, 0, 0, []), (75, 2, 1, 3, 0, 0, []), (76, 40, 5, 4, 9, 0, []), (79, 41, 0, 0, 0, 0, []), (80, 2, 1, 3, 0, 0, []), (81, 0, 1, 0, 0, 1, []), (82, 9, 0, 0, 0, 0, []), (83, 5, 2, 4, 0, 0, []), (85, 49, 0, 0, 0, 0, []), (85, 2, 2, 4, 0, 0, []), (87, 2, 1, 2, 0, 0, []), (88, 18, 107, 3, 68, 0, []), (91, 4, 1, 1, 0, 0, []), (92, 2, 2, 4, 0, 0, []), (94, 27, 0, 2, 0, 0, []), (95, 40, 4, 1, 0, 0, []), (98, 17, 107, 0, 68, 0, []), (101, 8, 0, 4, 0, 1, []), (104, 19, 85, 0, 57, 0, []), (107, 49, 0, 0, 0, 0, []), (107, 4, 1, 1, 0, 0, []), (108, 2, 1, 3, 0, 0, []), (109, 27, 0, 2, 0, 0, []), (110, 40, 6, 1, 0, 0, []), (113, 17, 127, 0, 80, 0, []), (116, 4, 1, 0, 0, 0, []), (117, 4, 1, 1, 0, 0, []), (118, 2, 1, 3, 0, 0, []), (119, 2, 2, 4, 0, 0, []), (121, 40, 7, 4, 9, 0, []), (124, 19, 135, 0, 85, 0, []), (127, 4, 1, 0, 0, 0, []), (128, 4, 1, 1, 0, 0, []), (129, 2, 1, 3, 0, 0, []), (130, 2, 2, 4, 0, 0, []), (132, 40, 8, 4, 9, 0, []), (135, 2, 2, 4, 0, 0, []), (137, 41, 0, 0, 0, 0, [])]
set_option maxRecDepth 20000 in
theorem qX7_scanTokenf : f_all yX7_scanToken YX7_scanToken pX7_scanTokenf :=
  ⟨f_aload_n (n := 1) (e_dx DX7_scanToken_0 0 rfl) rfl,
  f_iload_n (n := 2) (e_dx DX7_scanToken_0 1 rfl) rfl,
  f_iload_n (n := 3) (e_dx DX7_scanToken_0 2 rfl) rfl,
  x_callS (e_dx DX7_scanToken_0 3 rfl) mwX7_isDate cX7_93 swX7_isDate rfl,
  f_if_eq (e_dx DX7_scanToken_0 4 rfl) rfl,
  f_aload_n (n := 1) (e_dx DX7_scanToken_0 5 rfl) rfl,
  f_iload_n (n := 3) (e_dx DX7_scanToken_0 6 rfl) rfl,
  f_iload_n (n := 3) (e_dx DX7_scanToken_0 7 rfl) rfl,
  f_iconst (e_dx DX7_scanToken_0 8 rfl) ⟨by decide, by decide⟩,
  f_iadd (e_dx DX7_scanToken_0 9 rfl),
  x_callS (e_dx DX7_scanToken_0 10 rfl) mwX7_digits cX7_97 swX7_digits rfl,
  f_istore (e_dx DX7_scanToken_0 11 rfl) (by decide),
  f_aload_n (n := 1) (e_dx DX7_scanToken_0 12 rfl) rfl,
  f_iload_n (n := 3) (e_dx DX7_scanToken_0 13 rfl) rfl,
  f_iconst (e_dx DX7_scanToken_0 14 rfl) ⟨by decide, by decide⟩,
  f_iadd (e_dx DX7_scanToken_0 15 rfl),
  f_iload_n (n := 3) (e_dx DX7_scanToken_0 16 rfl) rfl,
  f_bipush (e_dx DX7_scanToken_0 17 rfl) ⟨by decide, by decide⟩,
  f_iadd (e_dx DX7_scanToken_0 18 rfl),
  x_callS (e_dx DX7_scanToken_0 19 rfl) mwX7_digits cX7_97 swX7_digits rfl,
  f_istore (e_dx DX7_scanToken_0 20 rfl) (by decide),
  f_aload_n (n := 0) (e_dx DX7_scanToken_0 21 rfl) rfl,
  f_iconst (e_dx DX7_scanToken_0 22 rfl) ⟨by decide, by decide⟩,
  f_iload_n (n := 3) (e_dx DX7_scanToken_0 23 rfl) rfl,
  f_iload (e_dx DX7_scanToken_0 24 rfl),
  f_iload (e_dx DX7_scanToken_0 25 rfl),
  f_aload_n (n := 1) (e_dx DX7_scanToken_0 26 rfl) rfl,
  f_iload_n (n := 3) (e_dx DX7_scanToken_0 27 rfl) rfl,
  f_bipush (e_dx DX7_scanToken_0 28 rfl) ⟨by decide, by decide⟩,
  f_iadd (e_dx DX7_scanToken_0 29 rfl),
  f_iload_n (n := 3) (e_dx DX7_scanToken_0 30 rfl) rfl,
  f_bipush (e_dx DX7_scanToken_0 31 rfl) ⟨by decide, by decide⟩,
  f_iadd (e_dx DX7_scanToken_0 32 rfl),
  x_callS (e_dx DX7_scanToken_0 33 rfl) mwX7_digits cX7_97 swX7_digits rfl,
  x_callSN (e_dx DX7_scanToken_0 34 rfl) mwX11_dayOf cX7_100 swX11_dayOf rfl,
  f_g14 (e_dx DX7_scanToken_0 35 rfl),
  x_callV (e_dx DX7_scanToken_0 36 rfl) mwX7_push vwX7_push cX7_89 rfl,
  f_iload_n (n := 3) (e_dx DX7_scanToken_0 37 rfl) rfl,
  f_bipush (e_dx DX7_scanToken_0 38 rfl) ⟨by decide, by decide⟩,
  f_iadd (e_dx DX7_scanToken_0 39 rfl),
  ⟨(e_dx DX7_scanToken_1 0 rfl), rfl⟩,
  f_aload_n (n := 1) (e_dx DX7_scanToken_1 1 rfl) rfl,
  f_iload_n (n := 3) (e_dx DX7_scanToken_1 2 rfl) rfl,
  f_baload (e_dx DX7_scanToken_1 3 rfl),
  x_callS (e_dx DX7_scanToken_1 4 rfl) mwX7_isWordByte cX7_104 swX7_isWordByte rfl,
  f_if_ne (e_dx DX7_scanToken_1 5 rfl) rfl,
  f_aload_n (n := 0) (e_dx DX7_scanToken_1 6 rfl) rfl,
  f_aload_n (n := 1) (e_dx DX7_scanToken_1 7 rfl) rfl,
  f_iload_n (n := 2) (e_dx DX7_scanToken_1 8 rfl) rfl,
  f_iload_n (n := 3) (e_dx DX7_scanToken_1 9 rfl) rfl,
  x_callV (e_dx DX7_scanToken_1 10 rfl) mwX7_scanSign vwX7_scanSign cX7_108 rfl,
  ⟨(e_dx DX7_scanToken_1 11 rfl), rfl⟩,
  f_iload_n (n := 3) (e_dx DX7_scanToken_1 12 rfl) rfl,
  f_iconst (e_dx DX7_scanToken_1 13 rfl) ⟨by decide, by decide⟩,
  f_iadd (e_dx DX7_scanToken_1 14 rfl),
  f_istore (e_dx DX7_scanToken_1 15 rfl) (by decide),
  trivial,
  f_iload (e_dx DX7_scanToken_1 16 rfl),
  f_iload_n (n := 2) (e_dx DX7_scanToken_1 17 rfl) rfl,
  f_icmp_ge (e_dx DX7_scanToken_1 18 rfl) rfl,
  f_aload_n (n := 1) (e_dx DX7_scanToken_1 19 rfl) rfl,
  f_iload (e_dx DX7_scanToken_1 20 rfl),
  f_baload (e_dx DX7_scanToken_1 21 rfl),
  x_callS (e_dx DX7_scanToken_1 22 rfl) mwX7_isWordByte cX7_104 swX7_isWordByte rfl,
  f_if_eq (e_dx DX7_scanToken_1 23 rfl) rfl,
  f_g8 (e_dx DX7_scanToken_1 24 rfl) ⟨by decide, by decide⟩,
  f_g19 (e_dx DX7_scanToken_1 25 rfl) rfl,
  trivial,
  f_aload_n (n := 1) (e_dx DX7_scanToken_1 26 rfl) rfl,
  f_iload_n (n := 3) (e_dx DX7_scanToken_1 27 rfl) rfl,
  f_baload (e_dx DX7_scanToken_1 28 rfl),
  x_callS (e_dx DX7_scanToken_1 29 rfl) mwX7_isDigit cX7_111 swX7_isDigit rfl,
  f_if_eq (e_dx DX7_scanToken_1 30 rfl) rfl,
  f_aload_n (n := 0) (e_dx DX7_scanToken_1 31 rfl) rfl,
  f_aload_n (n := 1) (e_dx DX7_scanToken_1 32 rfl) rfl,
  f_iload_n (n := 3) (e_dx DX7_scanToken_1 33 rfl) rfl,
  f_iload (e_dx DX7_scanToken_1 34 rfl),
  x_callV (e_dx DX7_scanToken_1 35 rfl) mwX7_scanNumber vwX7_scanNumber cX7_114 rfl,
  f_g19 (e_dx DX7_scanToken_1 36 rfl) rfl,
  f_aload_n (n := 0) (e_dx DX7_scanToken_1 37 rfl) rfl,
  f_aload_n (n := 1) (e_dx DX7_scanToken_1 38 rfl) rfl,
  f_iload_n (n := 3) (e_dx DX7_scanToken_1 39 rfl) rfl,
  f_iload (e_dx DX7_scanToken_2 0 rfl),
  x_callV (e_dx DX7_scanToken_2 1 rfl) mwX7_scanWord vwX7_scanWord cX7_118 rfl,
  f_iload (e_dx DX7_scanToken_2 2 rfl),
  ⟨(e_dx DX7_scanToken_2 3 rfl), rfl⟩, trivial⟩
def lX7_scanToken (c_X7_isDate : Nat → Int → Int → e_M → (Int → Prop) → Prop) (c_X7_digits : Nat → Int → Int → e_M → (Int → Prop) → Prop) (c_X11_dayOf : Int → Int → Int → e_M → (Int → Prop) → Prop) (c_X7_push : Int → Int → Int → e_M → (e_M → Prop) → Prop) (c_X7_isWordByte : Int → e_M → (Int → Prop) → Prop) (c_X7_scanSign : Nat → Int → Int → e_M → (Int → e_M → Prop) → Prop) (c_X7_isDigit : Int → e_M → (Int → Prop) → Prop) (c_X7_scanNumber : Nat → Int → Int → e_M → (e_M → Prop) → Prop) (c_X7_scanWord : Nat → Int → Int → e_M → (e_M → Prop) → Prop) : List (Nat × f_Wt) := [(0, f_wm [(3, 22, 640), (1, 0, 0), (1, 0, 0)] (fun ar M R => c_X7_isDate (f_va (f_nth ar 0)) (f_vi (f_nth ar 1)) (f_vi (f_nth ar 2)) M (fun r => R (some (.inl r)) M))), (1, f_wm [(3, 22, 640), (1, 0, 0), (1, 0, 0)] (fun ar M R => c_X7_digits (f_va (f_nth ar 0)) (f_vi (f_nth ar 1)) (f_vi (f_nth ar 2)) M (fun r => R (some (.inl r)) M))), (2, f_wm [(1, 0, 0), (1, 0, 0), (1, 0, 0)] (fun ar M R => c_X11_dayOf (f_vi (f_nth ar 0)) (f_vi (f_nth ar 1)) (f_vi (f_nth ar 2)) M (fun r => R (some (.inl r)) M))), (3, f_wm [(20, 7, 12), (1, 0, 0), (1, 0, 0), (2, 0, 0)] (fun ar M R => c_X7_push (f_vi (f_nth ar 1)) (f_vi (f_nth ar 2)) (f_vi (f_nth ar 3)) M (fun M => R none M))), (4, f_wm [(1, 0, 0)] (fun ar M R => c_X7_isWordByte (f_vi (f_nth ar 0)) M (fun r => R (some (.inl r)) M))), (5, f_wm [(20, 7, 12), (3, 22, 640), (1, 0, 0), (1, 0, 0)] (fun ar M R => c_X7_scanSign (f_va (f_nth ar 1)) (f_vi (f_nth ar 2)) (f_vi (f_nth ar 3)) M (fun r M => R (some (.inl r)) M))), (6, f_wm [(1, 0, 0)] (fun ar M R => c_X7_isDigit (f_vi (f_nth ar 0)) M (fun r => R (some (.inl r)) M))), (7, f_wm [(20, 7, 12), (3, 22, 640), (1, 0, 0), (1, 0, 0)] (fun ar M R => c_X7_scanNumber (f_va (f_nth ar 1)) (f_vi (f_nth ar 2)) (f_vi (f_nth ar 3)) M (fun M => R none M))), (8, f_wm [(20, 7, 12), (3, 22, 640), (1, 0, 0), (1, 0, 0)] (fun ar M R => c_X7_scanWord (f_va (f_nth ar 1)) (f_vi (f_nth ar 2)) (f_vi (f_nth ar 3)) M (fun M => R none M)))]
set_option maxRecDepth 20000 in
theorem BX7_scanToken_85 {sh : Nat → Nat × Nat} {t : Nat} {rm : Nat × Nat × Nat} {cs : Nat × Nat} {R : f_Rt} {c_X7_isDate : Nat → Int → Int → e_M → (Int → Prop) → Prop} {c_X7_digits : Nat → Int → Int → e_M → (Int → Prop) → Prop} {c_X11_dayOf : Int → Int → Int → e_M → (Int → Prop) → Prop} {c_X7_push : Int → Int → Int → e_M → (e_M → Prop) → Prop} {c_X7_isWordByte : Int → e_M → (Int → Prop) → Prop} {c_X7_scanSign : Nat → Int → Int → e_M → (Int → e_M → Prop) → Prop} {c_X7_isDigit : Int → e_M → (Int → Prop) → Prop} {c_X7_scanNumber : Nat → Int → Int → e_M → (e_M → Prop) → Prop} {c_X7_scanWord : Nat → Int → Int → e_M → (e_M → Prop) → Prop} {k107 : Nat → Int → Int → e_M → Prop} {k85 : Nat → Int → Int → Int → e_M → Prop} {a1 : Nat} {x2 : Int} {x3 : Int} {x4 : Int} {M : e_M} (C : f_Hy sh t yX7_scanToken rm cs 6 (lX7_scanToken c_X7_isDate c_X7_digits c_X11_dayOf c_X7_push c_X7_isWordByte c_X7_scanSign c_X7_isDigit c_X7_scanNumber c_X7_scanWord) R) (h107 : ∀ (a1 : Nat) (x3 : Int) (x4 : Int) (M : e_M), k107 a1 x3 x4 M → f_E sh t YX7_scanToken rm cs (f_Q sh t R) 107 [.inr (.inr (.inl (7, 12, 10))), .inr (.inr (.inl (22, 640, a1))), .inr (.inr (.inr ())), .inl x3, .inl x4, .inr (.inr (.inr ()))] [] M) (h85 : ∀ (a1 : Nat) (x2 : Int) (x3 : Int) (x4 : Int) (M : e_M), k85 a1 x2 x3 x4 M → f_E sh t YX7_scanToken rm cs (f_Q sh t R) 85 [.inr (.inr (.inl (7, 12, 10))), .inr (.inr (.inl (22, 640, a1))), .inl x2, .inl x3, .inl x4, .inr (.inr (.inr ()))] [] M) (h : VX7_scanToken_85 c_X7_isDate c_X7_digits c_X11_dayOf c_X7_push c_X7_isWordByte c_X7_scanSign c_X7_isDigit c_X7_scanNumber c_X7_scanWord k107 k85 (fun r M => R (some (.inl r)) M) a1 x2 x3 x4 M) : f_E sh t YX7_scanToken rm cs (f_Q sh t R) 85 [.inr (.inr (.inl (7, 12, 10))), .inr (.inr (.inl (22, 640, a1))), .inl x2, .inl x3, .inl x4, .inr (.inr (.inr ()))] [] M :=
  f_go (KC := f_kc [(107, f_pl [(20, 7, 12), (3, 22, 640), (0, 0, 0), (1, 0, 0), (1, 0, 0), (0, 0, 0)] [] (fun ls st M => k107 (f_va (f_nth ls 1)) (f_vi (f_nth ls 3)) (f_vi (f_nth ls 4)) M)), (85, f_pl [(20, 7, 12), (3, 22, 640), (1, 0, 0), (1, 0, 0), (1, 0, 0), (0, 0, 0)] [] (fun ls st M => k85 (f_va (f_nth ls 1)) (f_vi (f_nth ls 2)) (f_vi (f_nth ls 3)) (f_vi (f_nth ls 4)) M))]) C qX7_scanTokenf (f_kc_cons (f_pl_ok rfl (fun ls st M h => h107 _ _ _ M h)) (f_kc_cons (f_pl_ok rfl (fun ls st M h => h85 _ _ _ _ M h)) f_kc_nil)) 88 57 h
set_option maxRecDepth 20000 in
theorem BX7_scanToken_107 {sh : Nat → Nat × Nat} {t : Nat} {rm : Nat × Nat × Nat} {cs : Nat × Nat} {R : f_Rt} {c_X7_isDate : Nat → Int → Int → e_M → (Int → Prop) → Prop} {c_X7_digits : Nat → Int → Int → e_M → (Int → Prop) → Prop} {c_X11_dayOf : Int → Int → Int → e_M → (Int → Prop) → Prop} {c_X7_push : Int → Int → Int → e_M → (e_M → Prop) → Prop} {c_X7_isWordByte : Int → e_M → (Int → Prop) → Prop} {c_X7_scanSign : Nat → Int → Int → e_M → (Int → e_M → Prop) → Prop} {c_X7_isDigit : Int → e_M → (Int → Prop) → Prop} {c_X7_scanNumber : Nat → Int → Int → e_M → (e_M → Prop) → Prop} {c_X7_scanWord : Nat → Int → Int → e_M → (e_M → Prop) → Prop} {a1 : Nat} {x3 : Int} {x4 : Int} {M : e_M} (C : f_Hy sh t yX7_scanToken rm cs 6 (lX7_scanToken c_X7_isDate c_X7_digits c_X11_dayOf c_X7_push c_X7_isWordByte c_X7_scanSign c_X7_isDigit c_X7_scanNumber c_X7_scanWord) R) (h : VX7_scanToken_107 c_X7_isDate c_X7_digits c_X11_dayOf c_X7_push c_X7_isWordByte c_X7_scanSign c_X7_isDigit c_X7_scanNumber c_X7_scanWord (fun r M => R (some (.inl r)) M) a1 x3 x4 M) : f_E sh t YX7_scanToken rm cs (f_Q sh t R) 107 [.inr (.inr (.inl (7, 12, 10))), .inr (.inr (.inl (22, 640, a1))), .inr (.inr (.inr ())), .inl x3, .inl x4, .inr (.inr (.inr ()))] [] M :=
  f_go (KC := f_kc []) C qX7_scanTokenf f_kc_nil 88 68 h
set_option maxRecDepth 20000 in
theorem BX7_scanToken {sh : Nat → Nat × Nat} {t : Nat} {rm : Nat × Nat × Nat} {cs : Nat × Nat} {R : f_Rt} {c_X7_isDate : Nat → Int → Int → e_M → (Int → Prop) → Prop} {c_X7_digits : Nat → Int → Int → e_M → (Int → Prop) → Prop} {c_X11_dayOf : Int → Int → Int → e_M → (Int → Prop) → Prop} {c_X7_push : Int → Int → Int → e_M → (e_M → Prop) → Prop} {c_X7_isWordByte : Int → e_M → (Int → Prop) → Prop} {c_X7_scanSign : Nat → Int → Int → e_M → (Int → e_M → Prop) → Prop} {c_X7_isDigit : Int → e_M → (Int → Prop) → Prop} {c_X7_scanNumber : Nat → Int → Int → e_M → (e_M → Prop) → Prop} {c_X7_scanWord : Nat → Int → Int → e_M → (e_M → Prop) → Prop} {k85 : Nat → Int → Int → Int → e_M → Prop} {a1 : Nat} {x2 : Int} {x3 : Int} {M : e_M} (C : f_Hy sh t yX7_scanToken rm cs 6 (lX7_scanToken c_X7_isDate c_X7_digits c_X11_dayOf c_X7_push c_X7_isWordByte c_X7_scanSign c_X7_isDigit c_X7_scanNumber c_X7_scanWord) R) (h85 : ∀ (a1 : Nat) (x2 : Int) (x3 : Int) (x4 : Int) (M : e_M), k85 a1 x2 x3 x4 M → f_E sh t YX7_scanToken rm cs (f_Q sh t R) 85 [.inr (.inr (.inl (7, 12, 10))), .inr (.inr (.inl (22, 640, a1))), .inl x2, .inl x3, .inl x4, .inr (.inr (.inr ()))] [] M) (h : VX7_scanToken c_X7_isDate c_X7_digits c_X11_dayOf c_X7_push c_X7_isWordByte c_X7_scanSign c_X7_isDigit c_X7_scanNumber c_X7_scanWord k85 (fun r M => R (some (.inl r)) M) a1 x2 x3 M) : f_E sh t YX7_scanToken rm cs (f_Q sh t R) 0 [.inr (.inr (.inl (7, 12, 10))), .inr (.inr (.inl (22, 640, a1))), .inl x2, .inl x3, .inr (.inr (.inr ())), .inr (.inr (.inr ()))] [] M :=
  f_go (KC := f_kc [(85, f_pl [(20, 7, 12), (3, 22, 640), (1, 0, 0), (1, 0, 0), (1, 0, 0), (0, 0, 0)] [] (fun ls st M => k85 (f_va (f_nth ls 1)) (f_vi (f_nth ls 2)) (f_vi (f_nth ls 3)) (f_vi (f_nth ls 4)) M))]) C qX7_scanTokenf (f_kc_cons (f_pl_ok rfl (fun ls st M h => h85 _ _ _ _ M h)) f_kc_nil) 88 0 h
def WX7_scanToken_107 (Q : Int → e_M → Prop) (a1 : Nat) (x3 : Int) (x4 : Int) (M : e_M) : Prop :=
  VX7_scanToken_107 WX7_isDate WX7_digits WX11_dayOf WX7_push WX7_isWordByte WX7_scanSign WX7_isDigit WX7_scanNumber WX7_scanWord Q a1 x3 x4 M
def WX7_scanToken_85 (Q : Int → e_M → Prop) : Nat → Nat → Int → Int → Int → e_M → Prop
  | 0, _, _, _, _, _ => False
  | n + 1, a1, x2, x3, x4, M =>
    VX7_scanToken_85 WX7_isDate WX7_digits WX11_dayOf WX7_push WX7_isWordByte WX7_scanSign WX7_isDigit WX7_scanNumber WX7_scanWord (WX7_scanToken_107 Q) (WX7_scanToken_85 Q n) Q a1 x2 x3 x4 M
def WX7_scanToken (a1 : Nat) (x2 : Int) (x3 : Int) (M : e_M) (Q : Int → e_M → Prop) : Prop :=
  VX7_scanToken WX7_isDate WX7_digits WX11_dayOf WX7_push WX7_isWordByte WX7_scanSign WX7_isDigit WX7_scanNumber WX7_scanWord (fun a1 x2 x3 x4 M => ∃ j, WX7_scanToken_85 Q j a1 x2 x3 x4 M) Q a1 x2 x3 M
theorem PX7_scanToken_107 {sh : Nat → Nat × Nat} {t : Nat} {rm : Nat × Nat × Nat} {cs : Nat × Nat} {R : f_Rt} {a1 : Nat} {x3 : Int} {x4 : Int} {M : e_M} (C : f_Hy sh t yX7_scanToken rm cs 6 (lX7_scanToken WX7_isDate WX7_digits WX11_dayOf WX7_push WX7_isWordByte WX7_scanSign WX7_isDigit WX7_scanNumber WX7_scanWord) R) (h : WX7_scanToken_107 (fun r M => R (some (.inl r)) M) a1 x3 x4 M) : f_E sh t YX7_scanToken rm cs (f_Q sh t R) 107 [.inr (.inr (.inl (7, 12, 10))), .inr (.inr (.inl (22, 640, a1))), .inr (.inr (.inr ())), .inl x3, .inl x4, .inr (.inr (.inr ()))] [] M :=
  BX7_scanToken_107 C h
theorem PX7_scanToken_85 {sh : Nat → Nat × Nat} {t : Nat} {rm : Nat × Nat × Nat} {cs : Nat × Nat} {R : f_Rt} (C : f_Hy sh t yX7_scanToken rm cs 6 (lX7_scanToken WX7_isDate WX7_digits WX11_dayOf WX7_push WX7_isWordByte WX7_scanSign WX7_isDigit WX7_scanNumber WX7_scanWord) R) : ∀ (n : Nat) (a1 : Nat) (x2 : Int) (x3 : Int) (x4 : Int) (M : e_M), WX7_scanToken_85 (fun r M => R (some (.inl r)) M) n a1 x2 x3 x4 M → f_E sh t YX7_scanToken rm cs (f_Q sh t R) 85 [.inr (.inr (.inl (7, 12, 10))), .inr (.inr (.inl (22, 640, a1))), .inl x2, .inl x3, .inl x4, .inr (.inr (.inr ()))] [] M := by
  intro n
  induction n with
  | zero => intro a1 x2 x3 x4 M h; exact h.elim
  | succ n ih => intro a1 x2 x3 x4 M h; exact BX7_scanToken_85 C (fun a1 x3 x4 M h => PX7_scanToken_107 C h) ih h
theorem PX7_scanToken {sh : Nat → Nat × Nat} {t : Nat} {rm : Nat × Nat × Nat} {cs : Nat × Nat} {R : f_Rt} {a1 : Nat} {x2 : Int} {x3 : Int} {M : e_M} (C : f_Hy sh t yX7_scanToken rm cs 6 (lX7_scanToken WX7_isDate WX7_digits WX11_dayOf WX7_push WX7_isWordByte WX7_scanSign WX7_isDigit WX7_scanNumber WX7_scanWord) R) (h : WX7_scanToken a1 x2 x3 M (fun r M => R (some (.inl r)) M)) : f_E sh t YX7_scanToken rm cs (f_Q sh t R) 0 [.inr (.inr (.inl (7, 12, 10))), .inr (.inr (.inl (22, 640, a1))), .inl x2, .inl x3, .inr (.inr (.inr ())), .inr (.inr (.inr ()))] [] M :=
  BX7_scanToken C (fun a1 x2 x3 x4 M ⟨j, h⟩ => PX7_scanToken_85 C j _ _ _ _ _ h) h
def wX7_scanToken : f_Wt := f_wm [(20, 7, 12), (3, 22, 640), (1, 0, 0), (1, 0, 0)] (fun ar M R => WX7_scanToken (f_va (f_nth ar 1)) (f_vi (f_nth ar 2)) (f_vi (f_nth ar 3)) M (fun r M => R (some (.inl r)) M))
theorem TX7_scanToken {sh : Nat → Nat × Nat} {t : Nat} : f_Mt sh t YX7_scanToken 6 (wX7_scanToken) :=
  f_Mt_of (k := 2) (Nat.le_of_ble_eq_true rfl) rfl rfl (fun ar M R rm cs h1 h2 h3 hX h => PX7_scanToken ⟨Nat.le_of_ble_eq_true rfl, h1, h2, h3, ⟨(f_Mt.up (Nat.le_of_ble_eq_true rfl) TX7_isDate), (f_Mt.up (Nat.le_of_ble_eq_true rfl) TX7_digits), (f_Mt.up (Nat.le_of_ble_eq_true rfl) TX11_dayOf), (f_Mt.up (Nat.le_of_ble_eq_true rfl) TX7_push), (f_Mt.up (Nat.le_of_ble_eq_true rfl) TX7_isWordByte), (f_Mt.up (Nat.le_of_ble_eq_true rfl) TX7_scanSign), (f_Mt.up (Nat.le_of_ble_eq_true rfl) TX7_isDigit), (f_Mt.up (Nat.le_of_ble_eq_true rfl) TX7_scanNumber), (f_Mt.up (Nat.le_of_ble_eq_true rfl) TX7_scanWord), trivial⟩, hX⟩ h)
def VX7_scan_15 (c_X7_scanToken : Nat → Int → Int → e_M → (Int → e_M → Prop) → Prop) (c_X7_push : Int → Int → Int → e_M → (e_M → Prop) → Prop) (k39 : Nat → Int → Int → e_M → Prop) (k44 : Nat → Int → Int → Int → e_M → Prop) (Q : e_M → Prop) (a1 : Nat) (x3 : Int) (x4 : Int) (M : e_M) : Prop :=
  ((x3 ≤ x4 → (c_X7_push 0 x3 0 M (fun M1 => (∀ M2 : e_M, M2 = e_up M1 10 5 0 → ((0 ≤ (0 : Int) ∧ (0 : Int) < 641) ∧ (∀ M3 : e_M, M3 = e_up M2 10 6 (M2 12 ((0 : Int).toNat)) → (∀ M4 : e_M, M4 = e_up M3 10 7 0 → (∀ M5 : e_M, M5 = e_up M4 10 8 0 → (Q M5))))))))) ∧ (x4 < x3 → ((0 ≤ x4 ∧ x4 < 640) ∧ (((M a1 (x4.toNat)) = 10 → (k39 a1 x3 x4 M)) ∧ (¬ (M a1 (x4.toNat)) = 10 → ((0 ≤ x4 ∧ x4 < 640) ∧ ((¬ (M a1 (x4.toNat)) = 32 → (k44 a1 x3 x4 0 M)) ∧ ((M a1 (x4.toNat)) = 32 → (k39 a1 x3 x4 M)))))))))
def VX7_scan_39 (c_X7_scanToken : Nat → Int → Int → e_M → (Int → e_M → Prop) → Prop) (c_X7_push : Int → Int → Int → e_M → (e_M → Prop) → Prop) (k44 : Nat → Int → Int → Int → e_M → Prop) (Q : e_M → Prop) (a1 : Nat) (x3 : Int) (x4 : Int) (M : e_M) : Prop :=
  (k44 a1 x3 x4 1 M)
def VX7_scan_44 (c_X7_scanToken : Nat → Int → Int → e_M → (Int → e_M → Prop) → Prop) (c_X7_push : Int → Int → Int → e_M → (e_M → Prop) → Prop) (k66 : Nat → Int → Int → e_M → Prop) (Q : e_M → Prop) (a1 : Nat) (x3 : Int) (x4 : Int) (xs0 : Int) (M : e_M) : Prop :=
  ((xs0 = 0 → (c_X7_scanToken a1 x3 x4 M (fun r1 M2 => (k66 a1 x3 r1 M2)))) ∧ (¬ xs0 = 0 → (k66 a1 x3 (e_w32 (x4 + 1)) M)))
def VX7_scan_66 (c_X7_scanToken : Nat → Int → Int → e_M → (Int → e_M → Prop) → Prop) (c_X7_push : Int → Int → Int → e_M → (e_M → Prop) → Prop) (k15 : Nat → Int → Int → e_M → Prop) (Q : e_M → Prop) (a1 : Nat) (x3 : Int) (xs0 : Int) (M : e_M) : Prop :=
  (k15 a1 x3 xs0 M)
def VX7_scan (c_X7_scanToken : Nat → Int → Int → e_M → (Int → e_M → Prop) → Prop) (c_X7_push : Int → Int → Int → e_M → (e_M → Prop) → Prop) (k15 : Nat → Int → Int → e_M → Prop) (Q : e_M → Prop) (a1 : Nat) (x2 : Int) (M : e_M) : Prop :=
  (∀ M1 : e_M, M1 = e_up M 10 4 0 → (k15 a1 (e_min x2 640) 0 M1))
def yX7_scan (i : Nat) : e_Y := x_get YX7_scan [YX7_scanToken, YX7_push] i
def pX7_scanf : List x_I := [(0, 4, 1, 0, 0, 0, []), (1, 0, 1, 0, 0, 0, []), (2, 26, 7, 4, 0, 0, []), (5, 2, 1, 2, 0, 0, []), (6, 4, 1, 1, 0, 0, []), (7, 31, 0, 0, 0, 0, []), (8, 39, 0, 0, 0, 0, []), (11, 5, 1, 3, 0, 0, []), (12, 0, 1, 0, 0, 0, []), (13, 5, 2, 4, 0, 0, []), (15, 49, 0, 0, 0, 0, []), (15, 2, 2, 4, 0, 0, []), (17, 2, 1, 3, 0, 0, []), (18, 18, 71, 3, 45, 0, []), (21, 4, 1, 1, 0, 0, []), (22, 2, 2, 4, 0, 0, []), (24, 27, 0, 2, 0, 0, []), (25, 0, 2, 0, 0, 10, []), (27, 18, 39, 0, 25, 0, []), (30, 4, 1, 1, 0, 0, []), (31, 2, 2, 4, 0, 0, []), (33, 27, 0, 2, 0, 0, []), (34, 0, 2, 0, 0, 32, []), (36, 18, 43, 1, 28, 0, []), (39, 49, 0, 0, 0, 0, []), (39, 0, 1, 0, 0, 1, []), (40, 19, 44, 0, 29, 0, []), (43, 0, 1, 0, 0, 0, []), (44, 49, 0, 0, 0, 0, []), (44, 5, 2, 5, 0, 0, []), (46, 2, 2, 5, 0, 0, []), (48, 17, 58, 0, 37, 0, []), (51, 2, 2, 4, 0, 0, []), (53, 0, 1, 0, 0, 1, []), (54, 9, 0, 0, 0, 0, []), (55, 19, 66, 0, 42, 0, []), (58, 4, 1, 0, 0, 0, []), (59, 4, 1, 1, 0, 0, []), (60, 2, 1, 3, 0, 0, []), (61, 2, 2, 4, 0, 0, []), (63, 40, 0, 4, 9, 0, []), (66, 49, 0, 0, 0, 0, []), (66, 5, 2, 4, 0, 0, []), (68, 19, 15, 0, 11, 0, []), (71, 4, 1, 0, 0, 0, []), (72, 0, 1, 0, 0, 0, []), (73, 2, 1, 3, 0, 0, []), (74, 1, 1, 0, 0, 0, []), (75, 40, 1, 4, 9, 0, []), (78, 4, 1, 0, 0, 0, []), (79, 0, 1, 0, 0, 0, []), (80, 26, 7, 5, 0, 0, []), (83, 4, 1, 0, 0, 0, []), (84, 4, 1, 0, 0, 0, []), (85, 25, 7, 1, 4, 0, [(0, 20, 641), (0, 1, 2)]), (88, 0, 1, 0, 0, 0, []), (89, 27, 0, 0, 0, 0, []), (90, 26, 7, 6, 0, 0, []), (93, 4, 1, 0, 0, 0, []), (94, 0, 1, 0, 0, 0, []), (95, 26, 7, 7, 0, 0, []), (98, 4, 1, 0, 0, 0, []), (99, 0, 1, 0, 0, 0, []), (100, 26, 7, 8, 0, 0, []), (103, 44, 0, 0, 0, 0, [])]
set_option maxRecDepth 20000 in
theorem qX7_scanf : f_all yX7_scan YX7_scan pX7_scanf :=
  ⟨f_aload_n (n := 0) (e_dx DX7_scan_0 0 rfl) rfl,
  f_iconst (e_dx DX7_scan_0 1 rfl) ⟨by decide, by decide⟩,
  f_putn (e_dx DX7_scan_0 2 rfl) fX7_25 (fun q hq => by cases hq; rfl) rfl (Or.inl rfl) (by decide),
  f_iload_n (n := 2) (e_dx DX7_scan_0 3 rfl) rfl,
  f_aload_n (n := 1) (e_dx DX7_scan_0 4 rfl) rfl,
  f_g31 (e_dx DX7_scan_0 5 rfl),
  f_mminI (e_dx DX7_scan_0 6 rfl) cX7_79 fm_s_mminI fm_i fm_c_mminI,
  f_istore_n (n := 3) (e_dx DX7_scan_0 7 rfl) rfl (by decide),
  f_iconst (e_dx DX7_scan_0 8 rfl) ⟨by decide, by decide⟩,
  f_istore (e_dx DX7_scan_0 9 rfl) (by decide),
  trivial,
  f_iload (e_dx DX7_scan_0 10 rfl),
  f_iload_n (n := 3) (e_dx DX7_scan_0 11 rfl) rfl,
  f_icmp_ge (e_dx DX7_scan_0 12 rfl) rfl,
  f_aload_n (n := 1) (e_dx DX7_scan_0 13 rfl) rfl,
  f_iload (e_dx DX7_scan_0 14 rfl),
  f_baload (e_dx DX7_scan_0 15 rfl),
  f_bipush (e_dx DX7_scan_0 16 rfl) ⟨by decide, by decide⟩,
  f_icmp_eq (e_dx DX7_scan_0 17 rfl) rfl,
  f_aload_n (n := 1) (e_dx DX7_scan_0 18 rfl) rfl,
  f_iload (e_dx DX7_scan_0 19 rfl),
  f_baload (e_dx DX7_scan_0 20 rfl),
  f_bipush (e_dx DX7_scan_0 21 rfl) ⟨by decide, by decide⟩,
  f_icmp_ne (e_dx DX7_scan_0 22 rfl) rfl,
  trivial,
  f_iconst (e_dx DX7_scan_0 23 rfl) ⟨by decide, by decide⟩,
  f_g19 (e_dx DX7_scan_0 24 rfl) rfl,
  f_iconst (e_dx DX7_scan_0 25 rfl) ⟨by decide, by decide⟩,
  trivial,
  f_istore (e_dx DX7_scan_0 26 rfl) (by decide),
  f_iload (e_dx DX7_scan_0 27 rfl),
  f_if_eq (e_dx DX7_scan_0 28 rfl) rfl,
  f_iload (e_dx DX7_scan_0 29 rfl),
  f_iconst (e_dx DX7_scan_0 30 rfl) ⟨by decide, by decide⟩,
  f_iadd (e_dx DX7_scan_0 31 rfl),
  f_g19 (e_dx DX7_scan_0 32 rfl) rfl,
  f_aload_n (n := 0) (e_dx DX7_scan_0 33 rfl) rfl,
  f_aload_n (n := 1) (e_dx DX7_scan_0 34 rfl) rfl,
  f_iload_n (n := 3) (e_dx DX7_scan_0 35 rfl) rfl,
  f_iload (e_dx DX7_scan_0 36 rfl),
  x_callV (e_dx DX7_scan_0 37 rfl) mwX7_scanToken vwX7_scanToken cX7_85 rfl,
  trivial,
  f_istore (e_dx DX7_scan_0 38 rfl) (by decide),
  f_g19 (e_dx DX7_scan_0 39 rfl) rfl,
  f_aload_n (n := 0) (e_dx DX7_scan_1 0 rfl) rfl,
  f_iconst (e_dx DX7_scan_1 1 rfl) ⟨by decide, by decide⟩,
  f_iload_n (n := 3) (e_dx DX7_scan_1 2 rfl) rfl,
  f_lconst (n := 0) (e_dx DX7_scan_1 3 rfl) rfl,
  x_callV (e_dx DX7_scan_1 4 rfl) mwX7_push vwX7_push cX7_89 rfl,
  f_aload_n (n := 0) (e_dx DX7_scan_1 5 rfl) rfl,
  f_iconst (e_dx DX7_scan_1 6 rfl) ⟨by decide, by decide⟩,
  f_putn (e_dx DX7_scan_1 7 rfl) fX7_29 (fun q hq => by cases hq; rfl) rfl (Or.inl rfl) (by decide),
  f_aload_n (n := 0) (e_dx DX7_scan_1 8 rfl) rfl,
  f_aload_n (n := 0) (e_dx DX7_scan_1 9 rfl) rfl,
  f_getA (e_dx DX7_scan_1 10 rfl) fX7_15 rfl (by decide) (Nat.le_of_ble_eq_true rfl) rfl (by decide),
  f_iconst (e_dx DX7_scan_1 11 rfl) ⟨by decide, by decide⟩,
  f_iaload (e_dx DX7_scan_1 12 rfl),
  f_putn (e_dx DX7_scan_1 13 rfl) fX7_32 (fun q hq => by cases hq; rfl) rfl (Or.inl rfl) (by decide),
  f_aload_n (n := 0) (e_dx DX7_scan_1 14 rfl) rfl,
  f_iconst (e_dx DX7_scan_1 15 rfl) ⟨by decide, by decide⟩,
  f_putn (e_dx DX7_scan_1 16 rfl) fX7_35 (fun q hq => by cases hq; rfl) rfl (Or.inl rfl) (by decide),
  f_aload_n (n := 0) (e_dx DX7_scan_1 17 rfl) rfl,
  f_iconst (e_dx DX7_scan_1 18 rfl) ⟨by decide, by decide⟩,
  f_putn (e_dx DX7_scan_1 19 rfl) fX7_38 (fun q hq => by cases hq; rfl) rfl (Or.inl rfl) (by decide),
  ⟨(e_dx DX7_scan_1 20 rfl), rfl⟩, trivial⟩
def lX7_scan (c_X7_scanToken : Nat → Int → Int → e_M → (Int → e_M → Prop) → Prop) (c_X7_push : Int → Int → Int → e_M → (e_M → Prop) → Prop) : List (Nat × f_Wt) := [(0, f_wm [(20, 7, 12), (3, 22, 640), (1, 0, 0), (1, 0, 0)] (fun ar M R => c_X7_scanToken (f_va (f_nth ar 1)) (f_vi (f_nth ar 2)) (f_vi (f_nth ar 3)) M (fun r M => R (some (.inl r)) M))), (1, f_wm [(20, 7, 12), (1, 0, 0), (1, 0, 0), (2, 0, 0)] (fun ar M R => c_X7_push (f_vi (f_nth ar 1)) (f_vi (f_nth ar 2)) (f_vi (f_nth ar 3)) M (fun M => R none M)))]
set_option maxRecDepth 20000 in
theorem BX7_scan_15 {sh : Nat → Nat × Nat} {t : Nat} {rm : Nat × Nat × Nat} {cs : Nat × Nat} {R : f_Rt} {c_X7_scanToken : Nat → Int → Int → e_M → (Int → e_M → Prop) → Prop} {c_X7_push : Int → Int → Int → e_M → (e_M → Prop) → Prop} {k39 : Nat → Int → Int → e_M → Prop} {k44 : Nat → Int → Int → Int → e_M → Prop} {a1 : Nat} {x3 : Int} {x4 : Int} {M : e_M} (C : f_Hy sh t yX7_scan rm cs 7 (lX7_scan c_X7_scanToken c_X7_push) R) (h39 : ∀ (a1 : Nat) (x3 : Int) (x4 : Int) (M : e_M), k39 a1 x3 x4 M → f_E sh t YX7_scan rm cs (f_Q sh t R) 39 [.inr (.inr (.inl (7, 12, 10))), .inr (.inr (.inl (22, 640, a1))), .inr (.inr (.inr ())), .inl x3, .inl x4, .inr (.inr (.inr ()))] [] M) (h44 : ∀ (a1 : Nat) (x3 : Int) (x4 : Int) (xs0 : Int) (M : e_M), k44 a1 x3 x4 xs0 M → f_E sh t YX7_scan rm cs (f_Q sh t R) 44 [.inr (.inr (.inl (7, 12, 10))), .inr (.inr (.inl (22, 640, a1))), .inr (.inr (.inr ())), .inl x3, .inl x4, .inr (.inr (.inr ()))] [.inl xs0] M) (h : VX7_scan_15 c_X7_scanToken c_X7_push k39 k44 (fun M => R none M) a1 x3 x4 M) : f_E sh t YX7_scan rm cs (f_Q sh t R) 15 [.inr (.inr (.inl (7, 12, 10))), .inr (.inr (.inl (22, 640, a1))), .inr (.inr (.inr ())), .inl x3, .inl x4, .inr (.inr (.inr ()))] [] M :=
  f_go (KC := f_kc [(39, f_pl [(20, 7, 12), (3, 22, 640), (0, 0, 0), (1, 0, 0), (1, 0, 0), (0, 0, 0)] [] (fun ls st M => k39 (f_va (f_nth ls 1)) (f_vi (f_nth ls 3)) (f_vi (f_nth ls 4)) M)), (44, f_pl [(20, 7, 12), (3, 22, 640), (0, 0, 0), (1, 0, 0), (1, 0, 0), (0, 0, 0)] [(1, 0, 0)] (fun ls st M => k44 (f_va (f_nth ls 1)) (f_vi (f_nth ls 3)) (f_vi (f_nth ls 4)) (f_vi (f_nth st 0)) M))]) C qX7_scanf (f_kc_cons (f_pl_ok rfl (fun ls st M h => h39 _ _ _ M h)) (f_kc_cons (f_pl_ok rfl (fun ls st M h => h44 _ _ _ _ M h)) f_kc_nil)) 67 11 h
set_option maxRecDepth 20000 in
theorem BX7_scan_39 {sh : Nat → Nat × Nat} {t : Nat} {rm : Nat × Nat × Nat} {cs : Nat × Nat} {R : f_Rt} {c_X7_scanToken : Nat → Int → Int → e_M → (Int → e_M → Prop) → Prop} {c_X7_push : Int → Int → Int → e_M → (e_M → Prop) → Prop} {k44 : Nat → Int → Int → Int → e_M → Prop} {a1 : Nat} {x3 : Int} {x4 : Int} {M : e_M} (C : f_Hy sh t yX7_scan rm cs 7 (lX7_scan c_X7_scanToken c_X7_push) R) (h44 : ∀ (a1 : Nat) (x3 : Int) (x4 : Int) (xs0 : Int) (M : e_M), k44 a1 x3 x4 xs0 M → f_E sh t YX7_scan rm cs (f_Q sh t R) 44 [.inr (.inr (.inl (7, 12, 10))), .inr (.inr (.inl (22, 640, a1))), .inr (.inr (.inr ())), .inl x3, .inl x4, .inr (.inr (.inr ()))] [.inl xs0] M) (h : VX7_scan_39 c_X7_scanToken c_X7_push k44 (fun M => R none M) a1 x3 x4 M) : f_E sh t YX7_scan rm cs (f_Q sh t R) 39 [.inr (.inr (.inl (7, 12, 10))), .inr (.inr (.inl (22, 640, a1))), .inr (.inr (.inr ())), .inl x3, .inl x4, .inr (.inr (.inr ()))] [] M :=
  f_go (KC := f_kc [(44, f_pl [(20, 7, 12), (3, 22, 640), (0, 0, 0), (1, 0, 0), (1, 0, 0), (0, 0, 0)] [(1, 0, 0)] (fun ls st M => k44 (f_va (f_nth ls 1)) (f_vi (f_nth ls 3)) (f_vi (f_nth ls 4)) (f_vi (f_nth st 0)) M))]) C qX7_scanf (f_kc_cons (f_pl_ok rfl (fun ls st M h => h44 _ _ _ _ M h)) f_kc_nil) 67 25 h
set_option maxRecDepth 20000 in
theorem BX7_scan_44 {sh : Nat → Nat × Nat} {t : Nat} {rm : Nat × Nat × Nat} {cs : Nat × Nat} {R : f_Rt} {c_X7_scanToken : Nat → Int → Int → e_M → (Int → e_M → Prop) → Prop} {c_X7_push : Int → Int → Int → e_M → (e_M → Prop) → Prop} {k66 : Nat → Int → Int → e_M → Prop} {a1 : Nat} {x3 : Int} {x4 : Int} {xs0 : Int} {M : e_M} (C : f_Hy sh t yX7_scan rm cs 7 (lX7_scan c_X7_scanToken c_X7_push) R) (h66 : ∀ (a1 : Nat) (x3 : Int) (xs0 : Int) (M : e_M), k66 a1 x3 xs0 M → f_E sh t YX7_scan rm cs (f_Q sh t R) 66 [.inr (.inr (.inl (7, 12, 10))), .inr (.inr (.inl (22, 640, a1))), .inr (.inr (.inr ())), .inl x3, .inr (.inr (.inr ())), .inr (.inr (.inr ()))] [.inl xs0] M) (h : VX7_scan_44 c_X7_scanToken c_X7_push k66 (fun M => R none M) a1 x3 x4 xs0 M) : f_E sh t YX7_scan rm cs (f_Q sh t R) 44 [.inr (.inr (.inl (7, 12, 10))), .inr (.inr (.inl (22, 640, a1))), .inr (.inr (.inr ())), .inl x3, .inl x4, .inr (.inr (.inr ()))] [.inl xs0] M :=
  f_go (KC := f_kc [(66, f_pl [(20, 7, 12), (3, 22, 640), (0, 0, 0), (1, 0, 0), (0, 0, 0), (0, 0, 0)] [(1, 0, 0)] (fun ls st M => k66 (f_va (f_nth ls 1)) (f_vi (f_nth ls 3)) (f_vi (f_nth st 0)) M))]) C qX7_scanf (f_kc_cons (f_pl_ok rfl (fun ls st M h => h66 _ _ _ M h)) f_kc_nil) 67 29 h
set_option maxRecDepth 20000 in
theorem BX7_scan_66 {sh : Nat → Nat × Nat} {t : Nat} {rm : Nat × Nat × Nat} {cs : Nat × Nat} {R : f_Rt} {c_X7_scanToken : Nat → Int → Int → e_M → (Int → e_M → Prop) → Prop} {c_X7_push : Int → Int → Int → e_M → (e_M → Prop) → Prop} {k15 : Nat → Int → Int → e_M → Prop} {a1 : Nat} {x3 : Int} {xs0 : Int} {M : e_M} (C : f_Hy sh t yX7_scan rm cs 7 (lX7_scan c_X7_scanToken c_X7_push) R) (h15 : ∀ (a1 : Nat) (x3 : Int) (x4 : Int) (M : e_M), k15 a1 x3 x4 M → f_E sh t YX7_scan rm cs (f_Q sh t R) 15 [.inr (.inr (.inl (7, 12, 10))), .inr (.inr (.inl (22, 640, a1))), .inr (.inr (.inr ())), .inl x3, .inl x4, .inr (.inr (.inr ()))] [] M) (h : VX7_scan_66 c_X7_scanToken c_X7_push k15 (fun M => R none M) a1 x3 xs0 M) : f_E sh t YX7_scan rm cs (f_Q sh t R) 66 [.inr (.inr (.inl (7, 12, 10))), .inr (.inr (.inl (22, 640, a1))), .inr (.inr (.inr ())), .inl x3, .inr (.inr (.inr ())), .inr (.inr (.inr ()))] [.inl xs0] M :=
  f_go (KC := f_kc [(15, f_pl [(20, 7, 12), (3, 22, 640), (0, 0, 0), (1, 0, 0), (1, 0, 0), (0, 0, 0)] [] (fun ls st M => k15 (f_va (f_nth ls 1)) (f_vi (f_nth ls 3)) (f_vi (f_nth ls 4)) M))]) C qX7_scanf (f_kc_cons (f_pl_ok rfl (fun ls st M h => h15 _ _ _ M h)) f_kc_nil) 67 42 h
set_option maxRecDepth 20000 in
theorem BX7_scan {sh : Nat → Nat × Nat} {t : Nat} {rm : Nat × Nat × Nat} {cs : Nat × Nat} {R : f_Rt} {c_X7_scanToken : Nat → Int → Int → e_M → (Int → e_M → Prop) → Prop} {c_X7_push : Int → Int → Int → e_M → (e_M → Prop) → Prop} {k15 : Nat → Int → Int → e_M → Prop} {a1 : Nat} {x2 : Int} {M : e_M} (C : f_Hy sh t yX7_scan rm cs 7 (lX7_scan c_X7_scanToken c_X7_push) R) (h15 : ∀ (a1 : Nat) (x3 : Int) (x4 : Int) (M : e_M), k15 a1 x3 x4 M → f_E sh t YX7_scan rm cs (f_Q sh t R) 15 [.inr (.inr (.inl (7, 12, 10))), .inr (.inr (.inl (22, 640, a1))), .inr (.inr (.inr ())), .inl x3, .inl x4, .inr (.inr (.inr ()))] [] M) (h : VX7_scan c_X7_scanToken c_X7_push k15 (fun M => R none M) a1 x2 M) : f_E sh t YX7_scan rm cs (f_Q sh t R) 0 [.inr (.inr (.inl (7, 12, 10))), .inr (.inr (.inl (22, 640, a1))), .inl x2, .inr (.inr (.inr ())), .inr (.inr (.inr ())), .inr (.inr (.inr ()))] [] M :=
  f_go (KC := f_kc [(15, f_pl [(20, 7, 12), (3, 22, 640), (0, 0, 0), (1, 0, 0), (1, 0, 0), (0, 0, 0)] [] (fun ls st M => k15 (f_va (f_nth ls 1)) (f_vi (f_nth ls 3)) (f_vi (f_nth ls 4)) M))]) C qX7_scanf (f_kc_cons (f_pl_ok rfl (fun ls st M h => h15 _ _ _ M h)) f_kc_nil) 67 0 h
def WX7_scan_66 (H15 : Nat → Int → Int → e_M → Prop) (Q : e_M → Prop) (a1 : Nat) (x3 : Int) (xs0 : Int) (M : e_M) : Prop :=
  VX7_scan_66 WX7_scanToken WX7_push H15 Q a1 x3 xs0 M
def WX7_scan_44 (H15 : Nat → Int → Int → e_M → Prop) (Q : e_M → Prop) (a1 : Nat) (x3 : Int) (x4 : Int) (xs0 : Int) (M : e_M) : Prop :=
  VX7_scan_44 WX7_scanToken WX7_push (WX7_scan_66 H15 Q) Q a1 x3 x4 xs0 M
def WX7_scan_39 (H15 : Nat → Int → Int → e_M → Prop) (Q : e_M → Prop) (a1 : Nat) (x3 : Int) (x4 : Int) (M : e_M) : Prop :=
  VX7_scan_39 WX7_scanToken WX7_push (WX7_scan_44 H15 Q) Q a1 x3 x4 M
def WX7_scan_15 (Q : e_M → Prop) : Nat → Nat → Int → Int → e_M → Prop
  | 0, _, _, _, _ => False
  | n + 1, a1, x3, x4, M =>
    VX7_scan_15 WX7_scanToken WX7_push (WX7_scan_39 (WX7_scan_15 Q n) Q) (WX7_scan_44 (WX7_scan_15 Q n) Q) Q a1 x3 x4 M
def WX7_scan (a1 : Nat) (x2 : Int) (M : e_M) (Q : e_M → Prop) : Prop :=
  VX7_scan WX7_scanToken WX7_push (fun a1 x3 x4 M => ∃ j, WX7_scan_15 Q j a1 x3 x4 M) Q a1 x2 M
theorem PX7_scan_66 {sh : Nat → Nat × Nat} {t : Nat} {rm : Nat × Nat × Nat} {cs : Nat × Nat} {R : f_Rt} {H15 : Nat → Int → Int → e_M → Prop} {a1 : Nat} {x3 : Int} {xs0 : Int} {M : e_M} (C : f_Hy sh t yX7_scan rm cs 7 (lX7_scan WX7_scanToken WX7_push) R) (g15 : ∀ (a1 : Nat) (x3 : Int) (x4 : Int) (M : e_M), H15 a1 x3 x4 M → f_E sh t YX7_scan rm cs (f_Q sh t R) 15 [.inr (.inr (.inl (7, 12, 10))), .inr (.inr (.inl (22, 640, a1))), .inr (.inr (.inr ())), .inl x3, .inl x4, .inr (.inr (.inr ()))] [] M) (h : WX7_scan_66 H15 (fun M => R none M) a1 x3 xs0 M) : f_E sh t YX7_scan rm cs (f_Q sh t R) 66 [.inr (.inr (.inl (7, 12, 10))), .inr (.inr (.inl (22, 640, a1))), .inr (.inr (.inr ())), .inl x3, .inr (.inr (.inr ())), .inr (.inr (.inr ()))] [.inl xs0] M :=
  BX7_scan_66 C g15 h
theorem PX7_scan_44 {sh : Nat → Nat × Nat} {t : Nat} {rm : Nat × Nat × Nat} {cs : Nat × Nat} {R : f_Rt} {H15 : Nat → Int → Int → e_M → Prop} {a1 : Nat} {x3 : Int} {x4 : Int} {xs0 : Int} {M : e_M} (C : f_Hy sh t yX7_scan rm cs 7 (lX7_scan WX7_scanToken WX7_push) R) (g15 : ∀ (a1 : Nat) (x3 : Int) (x4 : Int) (M : e_M), H15 a1 x3 x4 M → f_E sh t YX7_scan rm cs (f_Q sh t R) 15 [.inr (.inr (.inl (7, 12, 10))), .inr (.inr (.inl (22, 640, a1))), .inr (.inr (.inr ())), .inl x3, .inl x4, .inr (.inr (.inr ()))] [] M) (h : WX7_scan_44 H15 (fun M => R none M) a1 x3 x4 xs0 M) : f_E sh t YX7_scan rm cs (f_Q sh t R) 44 [.inr (.inr (.inl (7, 12, 10))), .inr (.inr (.inl (22, 640, a1))), .inr (.inr (.inr ())), .inl x3, .inl x4, .inr (.inr (.inr ()))] [.inl xs0] M :=
  BX7_scan_44 C (fun a1 x3 xs0 M h => PX7_scan_66 C g15 h) h
theorem PX7_scan_39 {sh : Nat → Nat × Nat} {t : Nat} {rm : Nat × Nat × Nat} {cs : Nat × Nat} {R : f_Rt} {H15 : Nat → Int → Int → e_M → Prop} {a1 : Nat} {x3 : Int} {x4 : Int} {M : e_M} (C : f_Hy sh t yX7_scan rm cs 7 (lX7_scan WX7_scanToken WX7_push) R) (g15 : ∀ (a1 : Nat) (x3 : Int) (x4 : Int) (M : e_M), H15 a1 x3 x4 M → f_E sh t YX7_scan rm cs (f_Q sh t R) 15 [.inr (.inr (.inl (7, 12, 10))), .inr (.inr (.inl (22, 640, a1))), .inr (.inr (.inr ())), .inl x3, .inl x4, .inr (.inr (.inr ()))] [] M) (h : WX7_scan_39 H15 (fun M => R none M) a1 x3 x4 M) : f_E sh t YX7_scan rm cs (f_Q sh t R) 39 [.inr (.inr (.inl (7, 12, 10))), .inr (.inr (.inl (22, 640, a1))), .inr (.inr (.inr ())), .inl x3, .inl x4, .inr (.inr (.inr ()))] [] M :=
  BX7_scan_39 C (fun a1 x3 x4 xs0 M h => PX7_scan_44 C g15 h) h
theorem PX7_scan_15 {sh : Nat → Nat × Nat} {t : Nat} {rm : Nat × Nat × Nat} {cs : Nat × Nat} {R : f_Rt} (C : f_Hy sh t yX7_scan rm cs 7 (lX7_scan WX7_scanToken WX7_push) R) : ∀ (n : Nat) (a1 : Nat) (x3 : Int) (x4 : Int) (M : e_M), WX7_scan_15 (fun M => R none M) n a1 x3 x4 M → f_E sh t YX7_scan rm cs (f_Q sh t R) 15 [.inr (.inr (.inl (7, 12, 10))), .inr (.inr (.inl (22, 640, a1))), .inr (.inr (.inr ())), .inl x3, .inl x4, .inr (.inr (.inr ()))] [] M := by
  intro n
  induction n with
  | zero => intro a1 x3 x4 M h; exact h.elim
  | succ n ih => intro a1 x3 x4 M h; exact BX7_scan_15 C (fun a1 x3 x4 M h => PX7_scan_39 C ih h) (fun a1 x3 x4 xs0 M h => PX7_scan_44 C ih h) h
theorem PX7_scan {sh : Nat → Nat × Nat} {t : Nat} {rm : Nat × Nat × Nat} {cs : Nat × Nat} {R : f_Rt} {a1 : Nat} {x2 : Int} {M : e_M} (C : f_Hy sh t yX7_scan rm cs 7 (lX7_scan WX7_scanToken WX7_push) R) (h : WX7_scan a1 x2 M (fun M => R none M)) : f_E sh t YX7_scan rm cs (f_Q sh t R) 0 [.inr (.inr (.inl (7, 12, 10))), .inr (.inr (.inl (22, 640, a1))), .inl x2, .inr (.inr (.inr ())), .inr (.inr (.inr ())), .inr (.inr (.inr ()))] [] M :=
  BX7_scan C (fun a1 x3 x4 M ⟨j, h⟩ => PX7_scan_15 C j _ _ _ _ h) h
def wX7_scan : f_Wt := f_wm [(20, 7, 12), (3, 22, 640), (1, 0, 0)] (fun ar M R => WX7_scan (f_va (f_nth ar 1)) (f_vi (f_nth ar 2)) M (fun M => R none M))
theorem TX7_scan {sh : Nat → Nat × Nat} {t : Nat} : f_Mt sh t YX7_scan 7 (wX7_scan) :=
  f_Mt_of (k := 3) (Nat.le_of_ble_eq_true rfl) rfl rfl (fun ar M R rm cs h1 h2 h3 hX h => PX7_scan ⟨Nat.le_of_ble_eq_true rfl, h1, h2, h3, ⟨(f_Mt.up (Nat.le_of_ble_eq_true rfl) TX7_scanToken), (f_Mt.up (Nat.le_of_ble_eq_true rfl) TX7_push), trivial⟩, hX⟩ h)
def VX7_readTarget_31 (c_X7_note : Int → e_M → (e_M → Prop) → Prop) (c_X7_expect : Int → e_M → (e_M → Prop) → Prop) (k69 : Int → e_M → Prop) (Q : e_M → Prop) (x3 : Int) (M : e_M) : Prop :=
  (c_X7_note 3 M (fun M1 => (k69 x3 M1)))
def VX7_readTarget_69 (c_X7_note : Int → e_M → (e_M → Prop) → Prop) (c_X7_expect : Int → e_M → (e_M → Prop) → Prop) (Q : e_M → Prop) (x3 : Int) (M : e_M) : Prop :=
  (∀ M1 : e_M, M1 = e_up M ((M 10 9).toNat) 2 (e_w32 x3) → (c_X7_expect 3 M1 (fun M2 => (Q M2))))
def VX7_readTarget (c_X7_note : Int → e_M → (e_M → Prop) → Prop) (c_X7_expect : Int → e_M → (e_M → Prop) → Prop) (k69 : Int → e_M → Prop) (k31 : Int → e_M → Prop) (Q : e_M → Prop) (a1 : Nat) (x2 : Int) (M : e_M) : Prop :=
  ((0 ≤ (M 10 5) ∧ (M 10 5) < 641) ∧ ((¬ (M 10 6) = 3 → (k69 (M 14 ((M 10 5).toNat)) M)) ∧ ((M 10 6) = 3 → (((M 14 ((M 10 5).toNat)) < 1 → (k31 (M 14 ((M 10 5).toNat)) M)) ∧ (1 ≤ (M 14 ((M 10 5).toNat)) → (((M 14 ((M 10 5).toNat)) ≤ x2 → ((¬ (M ((M 10 9).toNat) 1) = 223 → (k69 (M 14 ((M 10 5).toNat)) M)) ∧ ((M ((M 10 9).toNat) 1) = 223 → ((0 ≤ (e_w32 ((e_w32 (M 14 ((M 10 5).toNat))) - 1)) ∧ (e_w32 ((e_w32 (M 14 ((M 10 5).toNat))) - 1)) < 150) ∧ (((M ((M a1 ((e_w32 ((e_w32 (M 14 ((M 10 5).toNat))) - 1)).toNat)).toNat) 1) = 0 → (k69 (M 14 ((M 10 5).toNat)) M)) ∧ (¬ (M ((M a1 ((e_w32 ((e_w32 (M 14 ((M 10 5).toNat))) - 1)).toNat)).toNat) 1) = 0 → (c_X7_note 3 M (fun M1 => (k69 (M 14 ((M 10 5).toNat)) M1))))))))) ∧ (x2 < (M 14 ((M 10 5).toNat)) → (k31 (M 14 ((M 10 5).toNat)) M))))))))
def yX7_readTarget (i : Nat) : e_Y := x_get YX7_readTarget [YX7_note, YX7_expect] i
def pX7_readTargetf : List x_I := [(0, 4, 1, 0, 0, 0, []), (1, 25, 7, 3, 4, 0, [(0, 23, 641), (0, 1, 4)]), (4, 4, 1, 0, 0, 0, []), (5, 25, 7, 5, 0, 0, []), (8, 27, 0, 1, 0, 0, []), (9, 6, 1, 3, 0, 0, []), (10, 4, 1, 0, 0, 0, []), (11, 25, 7, 6, 0, 0, []), (14, 0, 1, 0, 0, 3, []), (15, 18, 69, 1, 39, 0, []), (18, 3, 1, 3, 0, 0, []), (19, 1, 1, 0, 0, 1, []), (20, 32, 31, 2, 18, 0, []), (24, 3, 1, 3, 0, 0, []), (25, 2, 1, 2, 0, 0, []), (26, 14, 0, 0, 0, 0, []), (27, 32, 39, 5, 23, 0, []), (31, 49, 0, 0, 0, 0, []), (31, 4, 1, 0, 0, 0, []), (32, 0, 1, 0, 0, 3, []), (33, 40, 0, 2, 9, 0, []), (36, 19, 69, 0, 39, 0, []), (39, 4, 1, 0, 0, 0, []), (40, 25, 7, 9, 4, 0, [(0, 2, 19), (0, 0, 0)]), (43, 25, 2, 1, 0, 0, []), (46, 0, 3, 0, 0, 223, []), (49, 18, 69, 1, 39, 0, []), (52, 4, 1, 1, 0, 0, []), (53, 3, 1, 3, 0, 0, []), (54, 15, 0, 0, 0, 0, []), (55, 0, 1, 0, 0, 1, []), (56, 9, 0, 1, 0, 0, []), (57, 27, 0, 3, 0, 0, [(0, 2, 19), (0, 0, 0)]), (58, 25, 2, 1, 0, 0, []), (61, 17, 69, 0, 39, 0, []), (64, 4, 1, 0, 0, 0, []), (65, 0, 1, 0, 0, 3, []), (66, 40, 0, 2, 9, 0, []), (69, 49, 0, 0, 0, 0, []), (69, 4, 1, 0, 0, 0, []), (70, 25, 7, 9, 4, 0, [(0, 2, 19), (0, 0, 0)]), (73, 3, 1, 3, 0, 0, []), (74, 15, 0, 0, 0, 0, []), (75, 26, 2, 2, 0, 0, []), (78, 4, 1, 0, 0, 0, []), (79, 0, 1, 0, 0, 3, []), (80, 40, 1, 2, 9, 0, []), (83, 44, 0, 0, 0, 0, [])]
set_option maxRecDepth 20000 in
theorem qX7_readTargetf : f_all yX7_readTarget YX7_readTarget pX7_readTargetf :=
  ⟨f_aload_n (n := 0) (e_dx DX7_readTarget_0 0 rfl) rfl,
  f_getA (e_dx DX7_readTarget_0 1 rfl) fX7_22 rfl (by decide) (Nat.le_of_ble_eq_true rfl) rfl (by decide),
  f_aload_n (n := 0) (e_dx DX7_readTarget_0 2 rfl) rfl,
  f_getf (e_dx DX7_readTarget_0 3 rfl) fX7_29 rfl (by decide) (by decide) (by decide),
  f_laload (e_dx DX7_readTarget_0 4 rfl),
  f_lstore_n (n := 3) (e_dx DX7_readTarget_0 5 rfl) rfl (by decide),
  f_aload_n (n := 0) (e_dx DX7_readTarget_0 6 rfl) rfl,
  f_getf (e_dx DX7_readTarget_0 7 rfl) fX7_32 rfl (by decide) (by decide) (by decide),
  f_iconst (e_dx DX7_readTarget_0 8 rfl) ⟨by decide, by decide⟩,
  f_icmp_ne (e_dx DX7_readTarget_0 9 rfl) rfl,
  f_lload_n (n := 3) (e_dx DX7_readTarget_0 10 rfl) rfl,
  f_lconst (n := 1) (e_dx DX7_readTarget_0 11 rfl) rfl,
  f_lif_lt (e_dx DX7_readTarget_0 12 rfl) (e_dx DX7_readTarget_0 13 rfl) rfl,
  f_lload_n (n := 3) (e_dx DX7_readTarget_0 14 rfl) rfl,
  f_iload_n (n := 2) (e_dx DX7_readTarget_0 15 rfl) rfl,
  f_g14 (e_dx DX7_readTarget_0 16 rfl),
  f_lif_le (e_dx DX7_readTarget_0 17 rfl) (e_dx DX7_readTarget_0 18 rfl) rfl,
  trivial,
  f_aload_n (n := 0) (e_dx DX7_readTarget_0 19 rfl) rfl,
  f_iconst (e_dx DX7_readTarget_0 20 rfl) ⟨by decide, by decide⟩,
  x_callV (e_dx DX7_readTarget_0 21 rfl) mwX7_note vwX7_note cX7_124 rfl,
  f_g19 (e_dx DX7_readTarget_0 22 rfl) rfl,
  f_aload_n (n := 0) (e_dx DX7_readTarget_0 23 rfl) rfl,
  f_getA (e_dx DX7_readTarget_0 24 rfl) fX7_44 rfl (by decide) (Nat.le_of_ble_eq_true rfl) rfl (by decide),
  f_getf (e_dx DX7_readTarget_0 25 rfl) fX7_134 rfl (by decide) (by decide) (by decide),
  f_sipush (e_dx DX7_readTarget_0 26 rfl) ⟨by decide, by decide⟩,
  f_icmp_ne (e_dx DX7_readTarget_0 27 rfl) rfl,
  f_aload_n (n := 1) (e_dx DX7_readTarget_0 28 rfl) rfl,
  f_lload_n (n := 3) (e_dx DX7_readTarget_0 29 rfl) rfl,
  f_g15 (e_dx DX7_readTarget_0 30 rfl),
  f_iconst (e_dx DX7_readTarget_0 31 rfl) ⟨by decide, by decide⟩,
  f_isub (e_dx DX7_readTarget_0 32 rfl),
  f_aaload (e_dx DX7_readTarget_0 33 rfl) (by decide) rfl,
  f_getf (e_dx DX7_readTarget_0 34 rfl) fX7_134 rfl (by decide) (by decide) (by decide),
  f_if_eq (e_dx DX7_readTarget_0 35 rfl) rfl,
  f_aload_n (n := 0) (e_dx DX7_readTarget_0 36 rfl) rfl,
  f_iconst (e_dx DX7_readTarget_0 37 rfl) ⟨by decide, by decide⟩,
  x_callV (e_dx DX7_readTarget_0 38 rfl) mwX7_note vwX7_note cX7_124 rfl,
  trivial,
  f_aload_n (n := 0) (e_dx DX7_readTarget_0 39 rfl) rfl,
  f_getA (e_dx DX7_readTarget_1 0 rfl) fX7_44 rfl (by decide) (Nat.le_of_ble_eq_true rfl) rfl (by decide),
  f_lload_n (n := 3) (e_dx DX7_readTarget_1 1 rfl) rfl,
  f_g15 (e_dx DX7_readTarget_1 2 rfl),
  f_putn (e_dx DX7_readTarget_1 3 rfl) fX7_147 (fun q hq => by cases hq; rfl) rfl (Or.inl rfl) (by decide),
  f_aload_n (n := 0) (e_dx DX7_readTarget_1 4 rfl) rfl,
  f_iconst (e_dx DX7_readTarget_1 5 rfl) ⟨by decide, by decide⟩,
  x_callV (e_dx DX7_readTarget_1 6 rfl) mwX7_expect vwX7_expect cX7_128 rfl,
  ⟨(e_dx DX7_readTarget_1 7 rfl), rfl⟩, trivial⟩
def lX7_readTarget (c_X7_note : Int → e_M → (e_M → Prop) → Prop) (c_X7_expect : Int → e_M → (e_M → Prop) → Prop) : List (Nat × f_Wt) := [(0, f_wm [(20, 7, 12), (1, 0, 0)] (fun ar M R => c_X7_note (f_vi (f_nth ar 1)) M (fun M => R none M))), (1, f_wm [(20, 7, 12), (1, 0, 0)] (fun ar M R => c_X7_expect (f_vi (f_nth ar 1)) M (fun M => R none M)))]
set_option maxRecDepth 20000 in
theorem BX7_readTarget_31 {sh : Nat → Nat × Nat} {t : Nat} {rm : Nat × Nat × Nat} {cs : Nat × Nat} {R : f_Rt} {c_X7_note : Int → e_M → (e_M → Prop) → Prop} {c_X7_expect : Int → e_M → (e_M → Prop) → Prop} {k69 : Int → e_M → Prop} {x3 : Int} {M : e_M} (C : f_Hy sh t yX7_readTarget rm cs 6 (lX7_readTarget c_X7_note c_X7_expect) R) (h69 : ∀ (x3 : Int) (M : e_M), k69 x3 M → f_E sh t YX7_readTarget rm cs (f_Q sh t R) 69 [.inr (.inr (.inl (7, 12, 10))), .inr (.inr (.inr ())), .inr (.inr (.inr ())), .inr (.inl x3), .inr (.inr (.inr ()))] [] M) (h : VX7_readTarget_31 c_X7_note c_X7_expect k69 (fun M => R none M) x3 M) : f_E sh t YX7_readTarget rm cs (f_Q sh t R) 31 [.inr (.inr (.inl (7, 12, 10))), .inr (.inr (.inr ())), .inr (.inr (.inr ())), .inr (.inl x3), .inr (.inr (.inr ()))] [] M :=
  f_go (KC := f_kc [(69, f_pl [(20, 7, 12), (0, 0, 0), (0, 0, 0), (2, 0, 0), (0, 0, 0)] [] (fun ls st M => k69 (f_vi (f_nth ls 3)) M))]) C qX7_readTargetf (f_kc_cons (f_pl_ok rfl (fun ls st M h => h69 _ M h)) f_kc_nil) 50 18 h
set_option maxRecDepth 20000 in
theorem BX7_readTarget_69 {sh : Nat → Nat × Nat} {t : Nat} {rm : Nat × Nat × Nat} {cs : Nat × Nat} {R : f_Rt} {c_X7_note : Int → e_M → (e_M → Prop) → Prop} {c_X7_expect : Int → e_M → (e_M → Prop) → Prop} {x3 : Int} {M : e_M} (C : f_Hy sh t yX7_readTarget rm cs 6 (lX7_readTarget c_X7_note c_X7_expect) R) (h : VX7_readTarget_69 c_X7_note c_X7_expect (fun M => R none M) x3 M) : f_E sh t YX7_readTarget rm cs (f_Q sh t R) 69 [.inr (.inr (.inl (7, 12, 10))), .inr (.inr (.inr ())), .inr (.inr (.inr ())), .inr (.inl x3), .inr (.inr (.inr ()))] [] M :=
  f_go (KC := f_kc []) C qX7_readTargetf f_kc_nil 50 39 h
set_option maxRecDepth 20000 in
theorem BX7_readTarget {sh : Nat → Nat × Nat} {t : Nat} {rm : Nat × Nat × Nat} {cs : Nat × Nat} {R : f_Rt} {c_X7_note : Int → e_M → (e_M → Prop) → Prop} {c_X7_expect : Int → e_M → (e_M → Prop) → Prop} {k69 : Int → e_M → Prop} {k31 : Int → e_M → Prop} {a1 : Nat} {x2 : Int} {M : e_M} (C : f_Hy sh t yX7_readTarget rm cs 6 (lX7_readTarget c_X7_note c_X7_expect) R) (h69 : ∀ (x3 : Int) (M : e_M), k69 x3 M → f_E sh t YX7_readTarget rm cs (f_Q sh t R) 69 [.inr (.inr (.inl (7, 12, 10))), .inr (.inr (.inr ())), .inr (.inr (.inr ())), .inr (.inl x3), .inr (.inr (.inr ()))] [] M) (h31 : ∀ (x3 : Int) (M : e_M), k31 x3 M → f_E sh t YX7_readTarget rm cs (f_Q sh t R) 31 [.inr (.inr (.inl (7, 12, 10))), .inr (.inr (.inr ())), .inr (.inr (.inr ())), .inr (.inl x3), .inr (.inr (.inr ()))] [] M) (h : VX7_readTarget c_X7_note c_X7_expect k69 k31 (fun M => R none M) a1 x2 M) : f_E sh t YX7_readTarget rm cs (f_Q sh t R) 0 [.inr (.inr (.inl (7, 12, 10))), .inr (.inr (.inl (32, 150, a1))), .inl x2, .inr (.inr (.inr ())), .inr (.inr (.inr ()))] [] M :=
  f_go (KC := f_kc [(69, f_pl [(20, 7, 12), (0, 0, 0), (0, 0, 0), (2, 0, 0), (0, 0, 0)] [] (fun ls st M => k69 (f_vi (f_nth ls 3)) M)), (31, f_pl [(20, 7, 12), (0, 0, 0), (0, 0, 0), (2, 0, 0), (0, 0, 0)] [] (fun ls st M => k31 (f_vi (f_nth ls 3)) M))]) C qX7_readTargetf (f_kc_cons (f_pl_ok rfl (fun ls st M h => h69 _ M h)) (f_kc_cons (f_pl_ok rfl (fun ls st M h => h31 _ M h)) f_kc_nil)) 50 0 h
def WX7_readTarget_69 (Q : e_M → Prop) (x3 : Int) (M : e_M) : Prop :=
  VX7_readTarget_69 WX7_note WX7_expect Q x3 M
def WX7_readTarget_31 (Q : e_M → Prop) (x3 : Int) (M : e_M) : Prop :=
  VX7_readTarget_31 WX7_note WX7_expect (WX7_readTarget_69 Q) Q x3 M
def WX7_readTarget (a1 : Nat) (x2 : Int) (M : e_M) (Q : e_M → Prop) : Prop :=
  VX7_readTarget WX7_note WX7_expect (WX7_readTarget_69 Q) (WX7_readTarget_31 Q) Q a1 x2 M
theorem PX7_readTarget_69 {sh : Nat → Nat × Nat} {t : Nat} {rm : Nat × Nat × Nat} {cs : Nat × Nat} {R : f_Rt} {x3 : Int} {M : e_M} (C : f_Hy sh t yX7_readTarget rm cs 6 (lX7_readTarget WX7_note WX7_expect) R) (h : WX7_readTarget_69 (fun M => R none M) x3 M) : f_E sh t YX7_readTarget rm cs (f_Q sh t R) 69 [.inr (.inr (.inl (7, 12, 10))), .inr (.inr (.inr ())), .inr (.inr (.inr ())), .inr (.inl x3), .inr (.inr (.inr ()))] [] M :=
  BX7_readTarget_69 C h
theorem PX7_readTarget_31 {sh : Nat → Nat × Nat} {t : Nat} {rm : Nat × Nat × Nat} {cs : Nat × Nat} {R : f_Rt} {x3 : Int} {M : e_M} (C : f_Hy sh t yX7_readTarget rm cs 6 (lX7_readTarget WX7_note WX7_expect) R) (h : WX7_readTarget_31 (fun M => R none M) x3 M) : f_E sh t YX7_readTarget rm cs (f_Q sh t R) 31 [.inr (.inr (.inl (7, 12, 10))), .inr (.inr (.inr ())), .inr (.inr (.inr ())), .inr (.inl x3), .inr (.inr (.inr ()))] [] M :=
  BX7_readTarget_31 C (fun x3 M h => PX7_readTarget_69 C h) h
theorem PX7_readTarget {sh : Nat → Nat × Nat} {t : Nat} {rm : Nat × Nat × Nat} {cs : Nat × Nat} {R : f_Rt} {a1 : Nat} {x2 : Int} {M : e_M} (C : f_Hy sh t yX7_readTarget rm cs 6 (lX7_readTarget WX7_note WX7_expect) R) (h : WX7_readTarget a1 x2 M (fun M => R none M)) : f_E sh t YX7_readTarget rm cs (f_Q sh t R) 0 [.inr (.inr (.inl (7, 12, 10))), .inr (.inr (.inl (32, 150, a1))), .inl x2, .inr (.inr (.inr ())), .inr (.inr (.inr ()))] [] M :=
  BX7_readTarget C (fun x3 M h => PX7_readTarget_69 C h) (fun x3 M h => PX7_readTarget_31 C h) h
def wX7_readTarget : f_Wt := f_wm [(20, 7, 12), (3, 32, 150), (1, 0, 0)] (fun ar M R => WX7_readTarget (f_va (f_nth ar 1)) (f_vi (f_nth ar 2)) M (fun M => R none M))
theorem TX7_readTarget {sh : Nat → Nat × Nat} {t : Nat} : f_Mt sh t YX7_readTarget 6 (wX7_readTarget) :=
  f_Mt_of (k := 2) (Nat.le_of_ble_eq_true rfl) rfl rfl (fun ar M R rm cs h1 h2 h3 hX h => PX7_readTarget ⟨Nat.le_of_ble_eq_true rfl, h1, h2, h3, ⟨(f_Mt.up (Nat.le_of_ble_eq_true rfl) TX7_note), (f_Mt.up (Nat.le_of_ble_eq_true rfl) TX7_expect), trivial⟩, hX⟩ h)
def VX7_named (c_X2_addName : Nat → Int → Int → e_M → (e_M → Prop) → Prop) (c_X7_expect : Int → e_M → (e_M → Prop) → Prop) (Q : e_M → Prop) (x1 : Int) (M : e_M) : Prop :=
  ((0 ≤ (M 10 5) ∧ (M 10 5) < 641) ∧ (c_X2_addName ((M 10 9).toNat) (M 14 ((M 10 5).toNat)) x1 M (fun M1 => (c_X7_expect 4 M1 (fun M2 => (Q M2))))))
def yX7_named (i : Nat) : e_Y := x_get YX7_named [YX2_addName, YX7_expect] i
def pX7_namedf : List x_I := [(0, 4, 1, 0, 0, 0, []), (1, 25, 7, 9, 4, 0, [(0, 2, 19), (0, 0, 0)]), (4, 4, 1, 0, 0, 0, []), (5, 25, 7, 3, 4, 0, [(0, 23, 641), (0, 1, 4)]), (8, 4, 1, 0, 0, 0, []), (9, 25, 7, 5, 0, 0, []), (12, 27, 0, 1, 0, 0, []), (13, 2, 1, 1, 0, 0, []), (14, 40, 0, 3, 4, 0, []), (17, 4, 1, 0, 0, 0, []), (18, 0, 1, 0, 0, 4, []), (19, 40, 1, 2, 9, 0, []), (22, 44, 0, 0, 0, 0, [])]
set_option maxRecDepth 20000 in
theorem qX7_namedf : f_all yX7_named YX7_named pX7_namedf :=
  ⟨f_aload_n (n := 0) (e_dx DX7_named_0 0 rfl) rfl,
  f_getA (e_dx DX7_named_0 1 rfl) fX7_44 rfl (by decide) (Nat.le_of_ble_eq_true rfl) rfl (by decide),
  f_aload_n (n := 0) (e_dx DX7_named_0 2 rfl) rfl,
  f_getA (e_dx DX7_named_0 3 rfl) fX7_22 rfl (by decide) (Nat.le_of_ble_eq_true rfl) rfl (by decide),
  f_aload_n (n := 0) (e_dx DX7_named_0 4 rfl) rfl,
  f_getf (e_dx DX7_named_0 5 rfl) fX7_29 rfl (by decide) (by decide) (by decide),
  f_laload (e_dx DX7_named_0 6 rfl),
  f_iload_n (n := 1) (e_dx DX7_named_0 7 rfl) rfl,
  x_callV (e_dx DX7_named_0 8 rfl) mwX2_addName vwX2_addName cX7_174 rfl,
  f_aload_n (n := 0) (e_dx DX7_named_0 9 rfl) rfl,
  f_iconst (e_dx DX7_named_0 10 rfl) ⟨by decide, by decide⟩,
  x_callV (e_dx DX7_named_0 11 rfl) mwX7_expect vwX7_expect cX7_128 rfl,
  ⟨(e_dx DX7_named_0 12 rfl), rfl⟩, trivial⟩
def lX7_named (c_X2_addName : Nat → Int → Int → e_M → (e_M → Prop) → Prop) (c_X7_expect : Int → e_M → (e_M → Prop) → Prop) : List (Nat × f_Wt) := [(0, f_wm [(3, 2, 19), (2, 0, 0), (1, 0, 0)] (fun ar M R => c_X2_addName (f_va (f_nth ar 0)) (f_vi (f_nth ar 1)) (f_vi (f_nth ar 2)) M (fun M => R none M))), (1, f_wm [(20, 7, 12), (1, 0, 0)] (fun ar M R => c_X7_expect (f_vi (f_nth ar 1)) M (fun M => R none M)))]
set_option maxRecDepth 20000 in
theorem BX7_named {sh : Nat → Nat × Nat} {t : Nat} {rm : Nat × Nat × Nat} {cs : Nat × Nat} {R : f_Rt} {c_X2_addName : Nat → Int → Int → e_M → (e_M → Prop) → Prop} {c_X7_expect : Int → e_M → (e_M → Prop) → Prop} {x1 : Int} {M : e_M} (C : f_Hy sh t yX7_named rm cs 6 (lX7_named c_X2_addName c_X7_expect) R) (h : VX7_named c_X2_addName c_X7_expect (fun M => R none M) x1 M) : f_E sh t YX7_named rm cs (f_Q sh t R) 0 [.inr (.inr (.inl (7, 12, 10))), .inl x1] [] M :=
  f_go (KC := f_kc []) C qX7_namedf f_kc_nil 15 0 h
def WX7_named (x1 : Int) (M : e_M) (Q : e_M → Prop) : Prop :=
  VX7_named WX2_addName WX7_expect Q x1 M
theorem PX7_named {sh : Nat → Nat × Nat} {t : Nat} {rm : Nat × Nat × Nat} {cs : Nat × Nat} {R : f_Rt} {x1 : Int} {M : e_M} (C : f_Hy sh t yX7_named rm cs 6 (lX7_named WX2_addName WX7_expect) R) (h : WX7_named x1 M (fun M => R none M)) : f_E sh t YX7_named rm cs (f_Q sh t R) 0 [.inr (.inr (.inl (7, 12, 10))), .inl x1] [] M :=
  BX7_named C h
def wX7_named : f_Wt := f_wm [(20, 7, 12), (1, 0, 0)] (fun ar M R => WX7_named (f_vi (f_nth ar 1)) M (fun M => R none M))
theorem TX7_named {sh : Nat → Nat × Nat} {t : Nat} : f_Mt sh t YX7_named 6 (wX7_named) :=
  f_Mt_of (k := 0) (Nat.le_of_ble_eq_true rfl) rfl rfl (fun ar M R rm cs h1 h2 h3 hX h => PX7_named ⟨Nat.le_of_ble_eq_true rfl, h1, h2, h3, ⟨(f_Mt.up (Nat.le_of_ble_eq_true rfl) TX2_addName), (f_Mt.up (Nat.le_of_ble_eq_true rfl) TX7_expect), trivial⟩, hX⟩ h)
def VX7_checkShareNumber_38 (c_X7_note : Int → e_M → (e_M → Prop) → Prop) (Q : e_M → Prop) (M : e_M) : Prop :=
  (c_X7_note 2 M (fun M1 => (Q M1)))
def VX7_checkShareNumber (c_X7_note : Int → e_M → (e_M → Prop) → Prop) (k38 : e_M → Prop) (Q : e_M → Prop) (M : e_M) : Prop :=
  ((¬ (M 10 6) = 3 → (Q M)) ∧ ((M 10 6) = 3 → ((0 ≤ (M 10 5) ∧ (M 10 5) < 641) ∧ (((M 14 ((M 10 5).toNat)) < 1 → (k38 M)) ∧ (1 ≤ (M 14 ((M 10 5).toNat)) → ((0 ≤ (M 10 5) ∧ (M 10 5) < 641) ∧ (((M 14 ((M 10 5).toNat)) ≤ 1000 → (Q M)) ∧ (1000 < (M 14 ((M 10 5).toNat)) → (k38 M)))))))))
def yX7_checkShareNumber (i : Nat) : e_Y := x_get YX7_checkShareNumber [YX7_note] i
def pX7_checkShareNumberf : List x_I := [(0, 4, 1, 0, 0, 0, []), (1, 25, 7, 6, 0, 0, []), (4, 0, 1, 0, 0, 3, []), (5, 18, 43, 1, 23, 0, []), (8, 4, 1, 0, 0, 0, []), (9, 25, 7, 3, 4, 0, [(0, 23, 641), (0, 1, 4)]), (12, 4, 1, 0, 0, 0, []), (13, 25, 7, 5, 0, 0, []), (16, 27, 0, 1, 0, 0, []), (17, 1, 1, 0, 0, 1, []), (18, 32, 38, 2, 19, 0, []), (22, 4, 1, 0, 0, 0, []), (23, 25, 7, 3, 4, 0, [(0, 23, 641), (0, 1, 4)]), (26, 4, 1, 0, 0, 0, []), (27, 25, 7, 5, 0, 0, []), (30, 27, 0, 1, 0, 0, []), (31, 1, 3, 0, 0, 1000, []), (34, 32, 43, 5, 23, 0, []), (38, 49, 0, 0, 0, 0, []), (38, 4, 1, 0, 0, 0, []), (39, 0, 1, 0, 0, 2, []), (40, 40, 0, 2, 9, 0, []), (43, 44, 0, 0, 0, 0, [])]
set_option maxRecDepth 20000 in
theorem qX7_checkShareNumberf : f_all yX7_checkShareNumber YX7_checkShareNumber pX7_checkShareNumberf :=
  ⟨f_aload_n (n := 0) (e_dx DX7_checkShareNumber_0 0 rfl) rfl,
  f_getf (e_dx DX7_checkShareNumber_0 1 rfl) fX7_32 rfl (by decide) (by decide) (by decide),
  f_iconst (e_dx DX7_checkShareNumber_0 2 rfl) ⟨by decide, by decide⟩,
  f_icmp_ne (e_dx DX7_checkShareNumber_0 3 rfl) rfl,
  f_aload_n (n := 0) (e_dx DX7_checkShareNumber_0 4 rfl) rfl,
  f_getA (e_dx DX7_checkShareNumber_0 5 rfl) fX7_22 rfl (by decide) (Nat.le_of_ble_eq_true rfl) rfl (by decide),
  f_aload_n (n := 0) (e_dx DX7_checkShareNumber_0 6 rfl) rfl,
  f_getf (e_dx DX7_checkShareNumber_0 7 rfl) fX7_29 rfl (by decide) (by decide) (by decide),
  f_laload (e_dx DX7_checkShareNumber_0 8 rfl),
  f_lconst (n := 1) (e_dx DX7_checkShareNumber_0 9 rfl) rfl,
  f_lif_lt (e_dx DX7_checkShareNumber_0 10 rfl) (e_dx DX7_checkShareNumber_0 11 rfl) rfl,
  f_aload_n (n := 0) (e_dx DX7_checkShareNumber_0 12 rfl) rfl,
  f_getA (e_dx DX7_checkShareNumber_0 13 rfl) fX7_22 rfl (by decide) (Nat.le_of_ble_eq_true rfl) rfl (by decide),
  f_aload_n (n := 0) (e_dx DX7_checkShareNumber_0 14 rfl) rfl,
  f_getf (e_dx DX7_checkShareNumber_0 15 rfl) fX7_29 rfl (by decide) (by decide) (by decide),
  f_laload (e_dx DX7_checkShareNumber_0 16 rfl),
  f_ldc2 (e_dx DX7_checkShareNumber_0 17 rfl) hX7_234 rfl ⟨by decide, by decide⟩,
  f_lif_le (e_dx DX7_checkShareNumber_0 18 rfl) (e_dx DX7_checkShareNumber_0 19 rfl) rfl,
  trivial,
  f_aload_n (n := 0) (e_dx DX7_checkShareNumber_0 20 rfl) rfl,
  f_iconst (e_dx DX7_checkShareNumber_0 21 rfl) ⟨by decide, by decide⟩,
  x_callV (e_dx DX7_checkShareNumber_0 22 rfl) mwX7_note vwX7_note cX7_124 rfl,
  ⟨(e_dx DX7_checkShareNumber_0 23 rfl), rfl⟩, trivial⟩
def lX7_checkShareNumber (c_X7_note : Int → e_M → (e_M → Prop) → Prop) : List (Nat × f_Wt) := [(0, f_wm [(20, 7, 12), (1, 0, 0)] (fun ar M R => c_X7_note (f_vi (f_nth ar 1)) M (fun M => R none M)))]
set_option maxRecDepth 20000 in
theorem BX7_checkShareNumber_38 {sh : Nat → Nat × Nat} {t : Nat} {rm : Nat × Nat × Nat} {cs : Nat × Nat} {R : f_Rt} {c_X7_note : Int → e_M → (e_M → Prop) → Prop} {M : e_M} (C : f_Hy sh t yX7_checkShareNumber rm cs 5 (lX7_checkShareNumber c_X7_note) R) (h : VX7_checkShareNumber_38 c_X7_note (fun M => R none M) M) : f_E sh t YX7_checkShareNumber rm cs (f_Q sh t R) 38 [.inr (.inr (.inl (7, 12, 10)))] [] M :=
  f_go (KC := f_kc []) C qX7_checkShareNumberf f_kc_nil 25 19 h
set_option maxRecDepth 20000 in
theorem BX7_checkShareNumber {sh : Nat → Nat × Nat} {t : Nat} {rm : Nat × Nat × Nat} {cs : Nat × Nat} {R : f_Rt} {c_X7_note : Int → e_M → (e_M → Prop) → Prop} {k38 : e_M → Prop} {M : e_M} (C : f_Hy sh t yX7_checkShareNumber rm cs 5 (lX7_checkShareNumber c_X7_note) R) (h38 : ∀ (M : e_M), k38 M → f_E sh t YX7_checkShareNumber rm cs (f_Q sh t R) 38 [.inr (.inr (.inl (7, 12, 10)))] [] M) (h : VX7_checkShareNumber c_X7_note k38 (fun M => R none M) M) : f_E sh t YX7_checkShareNumber rm cs (f_Q sh t R) 0 [.inr (.inr (.inl (7, 12, 10)))] [] M :=
  f_go (KC := f_kc [(38, f_pl [(20, 7, 12)] [] (fun ls st M => k38 M))]) C qX7_checkShareNumberf (f_kc_cons (f_pl_ok rfl (fun ls st M h => h38  M h)) f_kc_nil) 25 0 h
def WX7_checkShareNumber_38 (Q : e_M → Prop) (M : e_M) : Prop :=
  VX7_checkShareNumber_38 WX7_note Q M
def WX7_checkShareNumber (M : e_M) (Q : e_M → Prop) : Prop :=
  VX7_checkShareNumber WX7_note (WX7_checkShareNumber_38 Q) Q M
theorem PX7_checkShareNumber_38 {sh : Nat → Nat × Nat} {t : Nat} {rm : Nat × Nat × Nat} {cs : Nat × Nat} {R : f_Rt} {M : e_M} (C : f_Hy sh t yX7_checkShareNumber rm cs 5 (lX7_checkShareNumber WX7_note) R) (h : WX7_checkShareNumber_38 (fun M => R none M) M) : f_E sh t YX7_checkShareNumber rm cs (f_Q sh t R) 38 [.inr (.inr (.inl (7, 12, 10)))] [] M :=
  BX7_checkShareNumber_38 C h
theorem PX7_checkShareNumber {sh : Nat → Nat × Nat} {t : Nat} {rm : Nat × Nat × Nat} {cs : Nat × Nat} {R : f_Rt} {M : e_M} (C : f_Hy sh t yX7_checkShareNumber rm cs 5 (lX7_checkShareNumber WX7_note) R) (h : WX7_checkShareNumber M (fun M => R none M)) : f_E sh t YX7_checkShareNumber rm cs (f_Q sh t R) 0 [.inr (.inr (.inl (7, 12, 10)))] [] M :=
  BX7_checkShareNumber C (fun M h => PX7_checkShareNumber_38 C h) h
def wX7_checkShareNumber : f_Wt := f_wm [(20, 7, 12)] (fun ar M R => WX7_checkShareNumber M (fun M => R none M))
theorem TX7_checkShareNumber {sh : Nat → Nat × Nat} {t : Nat} : f_Mt sh t YX7_checkShareNumber 5 (wX7_checkShareNumber) :=
  f_Mt_of (k := 0) (Nat.le_of_ble_eq_true rfl) rfl rfl (fun ar M R rm cs h1 h2 h3 hX h => PX7_checkShareNumber ⟨Nat.le_of_ble_eq_true rfl, h1, h2, h3, ⟨(f_Mt.up (Nat.le_of_ble_eq_true rfl) TX7_note), trivial⟩, hX⟩ h)
def VX7_readShare (c_X7_checkShareNumber : e_M → (e_M → Prop) → Prop) (c_X7_expect : Int → e_M → (e_M → Prop) → Prop) (c_X11_commonDivisor : Int → Int → e_M → (Int → Prop) → Prop) (Q : e_M → Prop) (M : e_M) : Prop :=
  ((0 ≤ (M 10 5) ∧ (M 10 5) < 641) ∧ (c_X7_checkShareNumber M (fun M1 => (c_X7_expect 3 M1 (fun M2 => (c_X7_expect 47 M2 (fun M3 => ((0 ≤ (M3 10 5) ∧ (M3 10 5) < 641) ∧ (c_X7_checkShareNumber M3 (fun M4 => (c_X7_expect 3 M4 (fun M5 => (c_X11_commonDivisor (M 14 ((M 10 5).toNat)) (M3 14 ((M3 10 5).toNat)) M5 (fun r6 => (¬ r6 = 0 ∧ (∀ M7 : e_M, M7 = e_up M5 10 10 (e_w64 ((M 14 ((M 10 5).toNat)).tdiv r6)) → (¬ r6 = 0 ∧ (∀ M8 : e_M, M8 = e_up M7 10 11 (e_w64 ((M3 14 ((M3 10 5).toNat)).tdiv r6)) → (Q M8)))))))))))))))))))
def yX7_readShare (i : Nat) : e_Y := x_get YX7_readShare [YX7_checkShareNumber, YX7_expect, YX11_commonDivisor] i
def pX7_readSharef : List x_I := [(0, 4, 1, 0, 0, 0, []), (1, 25, 7, 3, 4, 0, [(0, 23, 641), (0, 1, 4)]), (4, 4, 1, 0, 0, 0, []), (5, 25, 7, 5, 0, 0, []), (8, 27, 0, 1, 0, 0, []), (9, 6, 1, 1, 0, 0, []), (10, 4, 1, 0, 0, 0, []), (11, 40, 0, 1, 9, 0, []), (14, 4, 1, 0, 0, 0, []), (15, 0, 1, 0, 0, 3, []), (16, 40, 1, 2, 9, 0, []), (19, 4, 1, 0, 0, 0, []), (20, 0, 2, 0, 0, 47, []), (22, 40, 1, 2, 9, 0, []), (25, 4, 1, 0, 0, 0, []), (26, 25, 7, 3, 4, 0, [(0, 23, 641), (0, 1, 4)]), (29, 4, 1, 0, 0, 0, []), (30, 25, 7, 5, 0, 0, []), (33, 27, 0, 1, 0, 0, []), (34, 6, 1, 3, 0, 0, []), (35, 4, 1, 0, 0, 0, []), (36, 40, 0, 1, 9, 0, []), (39, 4, 1, 0, 0, 0, []), (40, 0, 1, 0, 0, 3, []), (41, 40, 1, 2, 9, 0, []), (44, 3, 1, 1, 0, 0, []), (45, 3, 1, 3, 0, 0, []), (46, 40, 2, 2, 0, 0, []), (49, 6, 2, 5, 0, 0, []), (51, 4, 1, 0, 0, 0, []), (52, 3, 1, 1, 0, 0, []), (53, 3, 2, 5, 0, 0, []), (55, 10, 0, 3, 0, 0, []), (56, 26, 7, 10, 3, 0, []), (59, 4, 1, 0, 0, 0, []), (60, 3, 1, 3, 0, 0, []), (61, 3, 2, 5, 0, 0, []), (63, 10, 0, 3, 0, 0, []), (64, 26, 7, 11, 3, 0, []), (67, 44, 0, 0, 0, 0, [])]
set_option maxRecDepth 20000 in
theorem qX7_readSharef : f_all yX7_readShare YX7_readShare pX7_readSharef :=
  ⟨f_aload_n (n := 0) (e_dx DX7_readShare_0 0 rfl) rfl,
  f_getA (e_dx DX7_readShare_0 1 rfl) fX7_22 rfl (by decide) (Nat.le_of_ble_eq_true rfl) rfl (by decide),
  f_aload_n (n := 0) (e_dx DX7_readShare_0 2 rfl) rfl,
  f_getf (e_dx DX7_readShare_0 3 rfl) fX7_29 rfl (by decide) (by decide) (by decide),
  f_laload (e_dx DX7_readShare_0 4 rfl),
  f_lstore_n (n := 1) (e_dx DX7_readShare_0 5 rfl) rfl (by decide),
  f_aload_n (n := 0) (e_dx DX7_readShare_0 6 rfl) rfl,
  x_callV (e_dx DX7_readShare_0 7 rfl) mwX7_checkShareNumber vwX7_checkShareNumber cX7_227 rfl,
  f_aload_n (n := 0) (e_dx DX7_readShare_0 8 rfl) rfl,
  f_iconst (e_dx DX7_readShare_0 9 rfl) ⟨by decide, by decide⟩,
  x_callV (e_dx DX7_readShare_0 10 rfl) mwX7_expect vwX7_expect cX7_128 rfl,
  f_aload_n (n := 0) (e_dx DX7_readShare_0 11 rfl) rfl,
  f_bipush (e_dx DX7_readShare_0 12 rfl) ⟨by decide, by decide⟩,
  x_callV (e_dx DX7_readShare_0 13 rfl) mwX7_expect vwX7_expect cX7_128 rfl,
  f_aload_n (n := 0) (e_dx DX7_readShare_0 14 rfl) rfl,
  f_getA (e_dx DX7_readShare_0 15 rfl) fX7_22 rfl (by decide) (Nat.le_of_ble_eq_true rfl) rfl (by decide),
  f_aload_n (n := 0) (e_dx DX7_readShare_0 16 rfl) rfl,
  f_getf (e_dx DX7_readShare_0 17 rfl) fX7_29 rfl (by decide) (by decide) (by decide),
  f_laload (e_dx DX7_readShare_0 18 rfl),
  f_lstore_n (n := 3) (e_dx DX7_readShare_0 19 rfl) rfl (by decide),
  f_aload_n (n := 0) (e_dx DX7_readShare_0 20 rfl) rfl,
  x_callV (e_dx DX7_readShare_0 21 rfl) mwX7_checkShareNumber vwX7_checkShareNumber cX7_227 rfl,
  f_aload_n (n := 0) (e_dx DX7_readShare_0 22 rfl) rfl,
  f_iconst (e_dx DX7_readShare_0 23 rfl) ⟨by decide, by decide⟩,
  x_callV (e_dx DX7_readShare_0 24 rfl) mwX7_expect vwX7_expect cX7_128 rfl,
  f_lload_n (n := 1) (e_dx DX7_readShare_0 25 rfl) rfl,
  f_lload_n (n := 3) (e_dx DX7_readShare_0 26 rfl) rfl,
  x_callSN (e_dx DX7_readShare_0 27 rfl) mwX11_commonDivisor cX7_230 swX11_commonDivisor rfl,
  f_lstore (e_dx DX7_readShare_0 28 rfl) (by decide),
  f_aload_n (n := 0) (e_dx DX7_readShare_0 29 rfl) rfl,
  f_lload_n (n := 1) (e_dx DX7_readShare_0 30 rfl) rfl,
  f_lload (e_dx DX7_readShare_0 31 rfl),
  f_ldiv (e_dx DX7_readShare_0 32 rfl),
  f_putn (e_dx DX7_readShare_0 33 rfl) fX7_48 (fun q hq => by cases hq; rfl) rfl (Or.inr (Or.inr rfl)) (by decide),
  f_aload_n (n := 0) (e_dx DX7_readShare_0 34 rfl) rfl,
  f_lload_n (n := 3) (e_dx DX7_readShare_0 35 rfl) rfl,
  f_lload (e_dx DX7_readShare_0 36 rfl),
  f_ldiv (e_dx DX7_readShare_0 37 rfl),
  f_putn (e_dx DX7_readShare_0 38 rfl) fX7_52 (fun q hq => by cases hq; rfl) rfl (Or.inr (Or.inr rfl)) (by decide),
  ⟨(e_dx DX7_readShare_0 39 rfl), rfl⟩, trivial⟩
def lX7_readShare (c_X7_checkShareNumber : e_M → (e_M → Prop) → Prop) (c_X7_expect : Int → e_M → (e_M → Prop) → Prop) (c_X11_commonDivisor : Int → Int → e_M → (Int → Prop) → Prop) : List (Nat × f_Wt) := [(0, f_wm [(20, 7, 12)] (fun ar M R => c_X7_checkShareNumber  M (fun M => R none M))), (1, f_wm [(20, 7, 12), (1, 0, 0)] (fun ar M R => c_X7_expect (f_vi (f_nth ar 1)) M (fun M => R none M))), (2, f_wm [(2, 0, 0), (2, 0, 0)] (fun ar M R => c_X11_commonDivisor (f_vi (f_nth ar 0)) (f_vi (f_nth ar 1)) M (fun r => R (some (.inr (.inl r))) M)))]
set_option maxRecDepth 20000 in
theorem BX7_readShare {sh : Nat → Nat × Nat} {t : Nat} {rm : Nat × Nat × Nat} {cs : Nat × Nat} {R : f_Rt} {c_X7_checkShareNumber : e_M → (e_M → Prop) → Prop} {c_X7_expect : Int → e_M → (e_M → Prop) → Prop} {c_X11_commonDivisor : Int → Int → e_M → (Int → Prop) → Prop} {M : e_M} (C : f_Hy sh t yX7_readShare rm cs 6 (lX7_readShare c_X7_checkShareNumber c_X7_expect c_X11_commonDivisor) R) (h : VX7_readShare c_X7_checkShareNumber c_X7_expect c_X11_commonDivisor (fun M => R none M) M) : f_E sh t YX7_readShare rm cs (f_Q sh t R) 0 [.inr (.inr (.inl (7, 12, 10))), .inr (.inr (.inr ())), .inr (.inr (.inr ())), .inr (.inr (.inr ())), .inr (.inr (.inr ())), .inr (.inr (.inr ())), .inr (.inr (.inr ()))] [] M :=
  f_go (KC := f_kc []) C qX7_readSharef f_kc_nil 42 0 h
def WX7_readShare (M : e_M) (Q : e_M → Prop) : Prop :=
  VX7_readShare WX7_checkShareNumber WX7_expect WX11_commonDivisor Q M
theorem PX7_readShare {sh : Nat → Nat × Nat} {t : Nat} {rm : Nat × Nat × Nat} {cs : Nat × Nat} {R : f_Rt} {M : e_M} (C : f_Hy sh t yX7_readShare rm cs 6 (lX7_readShare WX7_checkShareNumber WX7_expect WX11_commonDivisor) R) (h : WX7_readShare M (fun M => R none M)) : f_E sh t YX7_readShare rm cs (f_Q sh t R) 0 [.inr (.inr (.inl (7, 12, 10))), .inr (.inr (.inr ())), .inr (.inr (.inr ())), .inr (.inr (.inr ())), .inr (.inr (.inr ())), .inr (.inr (.inr ())), .inr (.inr (.inr ()))] [] M :=
  BX7_readShare C h
def wX7_readShare : f_Wt := f_wm [(20, 7, 12)] (fun ar M R => WX7_readShare M (fun M => R none M))
theorem TX7_readShare {sh : Nat → Nat × Nat} {t : Nat} : f_Mt sh t YX7_readShare 6 (wX7_readShare) :=
  f_Mt_of (k := 6) (Nat.le_of_ble_eq_true rfl) rfl rfl (fun ar M R rm cs h1 h2 h3 hX h => PX7_readShare ⟨Nat.le_of_ble_eq_true rfl, h1, h2, h3, ⟨(f_Mt.up (Nat.le_of_ble_eq_true rfl) TX7_checkShareNumber), (f_Mt.up (Nat.le_of_ble_eq_true rfl) TX7_expect), (f_Mt.up (Nat.le_of_ble_eq_true rfl) TX11_commonDivisor), trivial⟩, hX⟩ h)
def VX7_readParts_2 (c_X7_note : Int → e_M → (e_M → Prop) → Prop) (c_X7_named : Int → e_M → (e_M → Prop) → Prop) (c_X7_readShare : e_M → (e_M → Prop) → Prop) (c_X2_addPart : Nat → Int → Int → e_M → (e_M → Prop) → Prop) (c_X7_take : e_M → (e_M → Prop) → Prop) (k93 : e_M → Prop) (k27 : Int → e_M → Prop) (Q : e_M → Prop) (x1 : Int) (M : e_M) : Prop :=
  ((6 < x1 → (k93 M)) ∧ (x1 ≤ 6 → ((¬ x1 = 6 → (k27 x1 M)) ∧ (x1 = 6 → ((¬ (M 10 6) = 4 → (k27 x1 M)) ∧ ((M 10 6) = 4 → (c_X7_note 4 M (fun M1 => (k27 x1 M1)))))))))
def VX7_readParts_27 (c_X7_note : Int → e_M → (e_M → Prop) → Prop) (c_X7_named : Int → e_M → (e_M → Prop) → Prop) (c_X7_readShare : e_M → (e_M → Prop) → Prop) (c_X2_addPart : Nat → Int → Int → e_M → (e_M → Prop) → Prop) (c_X7_take : e_M → (e_M → Prop) → Prop) (k71 : Int → e_M → Prop) (Q : e_M → Prop) (x1 : Int) (M : e_M) : Prop :=
  (c_X7_named 1 M (fun M1 => ((¬ (M1 10 6) = 3 → (c_X2_addPart ((M1 10 9).toNat) 0 1 M1 (fun M2 => (k71 x1 M2)))) ∧ ((M1 10 6) = 3 → (c_X7_readShare M1 (fun M3 => (c_X2_addPart ((M3 10 9).toNat) (M3 10 10) (M3 10 11) M3 (fun M4 => (k71 x1 M4)))))))))
def VX7_readParts_71 (c_X7_note : Int → e_M → (e_M → Prop) → Prop) (c_X7_named : Int → e_M → (e_M → Prop) → Prop) (c_X7_readShare : e_M → (e_M → Prop) → Prop) (c_X2_addPart : Nat → Int → Int → e_M → (e_M → Prop) → Prop) (c_X7_take : e_M → (e_M → Prop) → Prop) (k2 : Int → e_M → Prop) (k93 : e_M → Prop) (Q : e_M → Prop) (x1 : Int) (M : e_M) : Prop :=
  (((M 10 6) = 44 → (c_X7_take M (fun M1 => (k2 (e_w32 (x1 + 1)) M1)))) ∧ (¬ (M 10 6) = 44 → (k93 M)))
def VX7_readParts_93 (c_X7_note : Int → e_M → (e_M → Prop) → Prop) (c_X7_named : Int → e_M → (e_M → Prop) → Prop) (c_X7_readShare : e_M → (e_M → Prop) → Prop) (c_X2_addPart : Nat → Int → Int → e_M → (e_M → Prop) → Prop) (c_X7_take : e_M → (e_M → Prop) → Prop) (k95 : Int → e_M → Prop) (Q : e_M → Prop) (M : e_M) : Prop :=
  (k95 0 M)
def VX7_readParts_95 (c_X7_note : Int → e_M → (e_M → Prop) → Prop) (c_X7_named : Int → e_M → (e_M → Prop) → Prop) (c_X7_readShare : e_M → (e_M → Prop) → Prop) (c_X2_addPart : Nat → Int → Int → e_M → (e_M → Prop) → Prop) (c_X7_take : e_M → (e_M → Prop) → Prop) (k147 : Int → e_M → Prop) (Q : e_M → Prop) (x1 : Int) (M : e_M) : Prop :=
  (((M ((M 10 9).toNat) 15) ≤ x1 → (Q M)) ∧ (x1 < (M ((M 10 9).toNat) 15) → ((0 ≤ x1 ∧ x1 < 6) ∧ ((¬ (M ((M 10 9).toNat + 3) (x1.toNat)) = 0 → (k147 x1 M)) ∧ ((M ((M 10 9).toNat + 3) (x1.toNat)) = 0 → ((0 ≤ x1 ∧ x1 < 6) ∧ (∀ M1 : e_M, M1 = e_up M ((M 10 9).toNat + 3) (x1.toNat) 1 → ((0 ≤ x1 ∧ x1 < 6) ∧ (∀ M2 : e_M, M2 = e_up M1 ((M1 10 9).toNat + 4) (x1.toNat) (M1 ((M1 10 9).toNat) 15) → (k147 x1 M2))))))))))
def VX7_readParts_147 (c_X7_note : Int → e_M → (e_M → Prop) → Prop) (c_X7_named : Int → e_M → (e_M → Prop) → Prop) (c_X7_readShare : e_M → (e_M → Prop) → Prop) (c_X2_addPart : Nat → Int → Int → e_M → (e_M → Prop) → Prop) (c_X7_take : e_M → (e_M → Prop) → Prop) (k95 : Int → e_M → Prop) (Q : e_M → Prop) (x1 : Int) (M : e_M) : Prop :=
  (k95 (e_w32 (x1 + 1)) M)
def VX7_readParts (c_X7_note : Int → e_M → (e_M → Prop) → Prop) (c_X7_named : Int → e_M → (e_M → Prop) → Prop) (c_X7_readShare : e_M → (e_M → Prop) → Prop) (c_X2_addPart : Nat → Int → Int → e_M → (e_M → Prop) → Prop) (c_X7_take : e_M → (e_M → Prop) → Prop) (k2 : Int → e_M → Prop) (Q : e_M → Prop) (M : e_M) : Prop :=
  (k2 0 M)
def yX7_readParts (i : Nat) : e_Y := x_get YX7_readParts [YX7_note, YX7_named, YX7_readShare, YX2_addPart, YX7_take] i
def pX7_readPartsf : List x_I := [(0, 0, 1, 0, 0, 0, []), (1, 5, 1, 1, 0, 0, []), (2, 49, 0, 0, 0, 0, []), (2, 2, 1, 1, 0, 0, []), (3, 0, 2, 0, 0, 6, []), (5, 18, 93, 4, 50, 0, []), (8, 2, 1, 1, 0, 0, []), (9, 0, 2, 0, 0, 6, []), (11, 18, 27, 1, 17, 0, []), (14, 4, 1, 0, 0, 0, []), (15, 25, 7, 6, 0, 0, []), (18, 0, 1, 0, 0, 4, []), (19, 18, 27, 1, 17, 0, []), (22, 4, 1, 0, 0, 0, []), (23, 0, 1, 0, 0, 4, []), (24, 40, 0, 2, 9, 0, []), (27, 49, 0, 0, 0, 0, []), (27, 4, 1, 0, 0, 0, []), (28, 0, 1, 0, 0, 1, []), (29, 40, 1, 2, 9, 0, []), (32, 4, 1, 0, 0, 0, []), (33, 25, 7, 6, 0, 0, []), (36, 0, 1, 0, 0, 3, []), (37, 18, 62, 1, 35, 0, []), (40, 4, 1, 0, 0, 0, []), (41, 40, 2, 1, 9, 0, []), (44, 4, 1, 0, 0, 0, []), (45, 25, 7, 9, 4, 0, [(0, 2, 19), (0, 0, 0)]), (48, 4, 1, 0, 0, 0, []), (49, 25, 7, 10, 3, 0, []), (52, 4, 1, 0, 0, 0, []), (53, 25, 7, 11, 3, 0, []), (56, 40, 3, 3, 4, 0, []), (59, 19, 71, 0, 40, 0, []), (62, 4, 1, 0, 0, 0, []), (63, 25, 7, 9, 4, 0, [(0, 2, 19), (0, 0, 0)]), (66, 1, 1, 0, 0, 0, []), (67, 1, 1, 0, 0, 1, []), (68, 40, 3, 3, 4, 0, []), (71, 49, 0, 0, 0, 0, []), (71, 4, 1, 0, 0, 0, []), (72, 25, 7, 6, 0, 0, []), (75, 0, 2, 0, 0, 44, []), (77, 18, 83, 0, 46, 0, []), (80, 19, 93, 0, 50, 0, []), (83, 4, 1, 0, 0, 0, []), (84, 40, 4, 1, 9, 0, []), (87, 8, 0, 1, 0, 1, []), (90, 19, 2, 0, 3, 0, []), (93, 49, 0, 0, 0, 0, []), (93, 0, 1, 0, 0, 0, []), (94, 5, 1, 1, 0, 0, []), (95, 49, 0, 0, 0, 0, []), (95, 2, 1, 1, 0, 0, []), (96, 4, 1, 0, 0, 0, []), (97, 25, 7, 9, 4, 0, [(0, 2, 19), (0, 0, 0)]), (100, 25, 2, 15, 0, 0, []), (103, 18, 153, 3, 84, 0, []), (106, 4, 1, 0, 0, 0, []), (107, 25, 7, 9, 4, 0, [(0, 2, 19), (0, 0, 0)]), (110, 25, 2, 13, 4, 0, [(0, 23, 6), (0, 1, 3)]), (113, 2, 1, 1, 0, 0, []), (114, 27, 0, 1, 0, 0, []), (115, 1, 1, 0, 0, 0, []), (116, 32, 147, 1, 81, 0, []), (120, 4, 1, 0, 0, 0, []), (121, 25, 7, 9, 4, 0, [(0, 2, 19), (0, 0, 0)]), (124, 25, 2, 13, 4, 0, [(0, 23, 6), (0, 1, 3)]), (127, 2, 1, 1, 0, 0, []), (128, 1, 1, 0, 0, 1, []), (129, 28, 0, 1, 0, 0, []), (130, 4, 1, 0, 0, 0, []), (131, 25, 7, 9, 4, 0, [(0, 2, 19), (0, 0, 0)]), (134, 25, 2, 14, 4, 0, [(0, 23, 6), (0, 1, 4)]), (137, 2, 1, 1, 0, 0, []), (138, 4, 1, 0, 0, 0, []), (139, 25, 7, 9, 4, 0, [(0, 2, 19), (0, 0, 0)]), (142, 25, 2, 15, 0, 0, []), (145, 14, 0, 0, 0, 0, []), (146, 28, 0, 1, 0, 0, []), (147, 49, 0, 0, 0, 0, []), (147, 8, 0, 1, 0, 1, []), (150, 19, 95, 0, 53, 0, []), (153, 44, 0, 0, 0, 0, [])]
set_option maxRecDepth 20000 in
theorem qX7_readPartsf : f_all yX7_readParts YX7_readParts pX7_readPartsf :=
  ⟨f_iconst (e_dx DX7_readParts_0 0 rfl) ⟨by decide, by decide⟩,
  f_istore_n (n := 1) (e_dx DX7_readParts_0 1 rfl) rfl (by decide),
  trivial,
  f_iload_n (n := 1) (e_dx DX7_readParts_0 2 rfl) rfl,
  f_bipush (e_dx DX7_readParts_0 3 rfl) ⟨by decide, by decide⟩,
  f_icmp_gt (e_dx DX7_readParts_0 4 rfl) rfl,
  f_iload_n (n := 1) (e_dx DX7_readParts_0 5 rfl) rfl,
  f_bipush (e_dx DX7_readParts_0 6 rfl) ⟨by decide, by decide⟩,
  f_icmp_ne (e_dx DX7_readParts_0 7 rfl) rfl,
  f_aload_n (n := 0) (e_dx DX7_readParts_0 8 rfl) rfl,
  f_getf (e_dx DX7_readParts_0 9 rfl) fX7_32 rfl (by decide) (by decide) (by decide),
  f_iconst (e_dx DX7_readParts_0 10 rfl) ⟨by decide, by decide⟩,
  f_icmp_ne (e_dx DX7_readParts_0 11 rfl) rfl,
  f_aload_n (n := 0) (e_dx DX7_readParts_0 12 rfl) rfl,
  f_iconst (e_dx DX7_readParts_0 13 rfl) ⟨by decide, by decide⟩,
  x_callV (e_dx DX7_readParts_0 14 rfl) mwX7_note vwX7_note cX7_124 rfl,
  trivial,
  f_aload_n (n := 0) (e_dx DX7_readParts_0 15 rfl) rfl,
  f_iconst (e_dx DX7_readParts_0 16 rfl) ⟨by decide, by decide⟩,
  x_callV (e_dx DX7_readParts_0 17 rfl) mwX7_named vwX7_named cX7_178 rfl,
  f_aload_n (n := 0) (e_dx DX7_readParts_0 18 rfl) rfl,
  f_getf (e_dx DX7_readParts_0 19 rfl) fX7_32 rfl (by decide) (by decide) (by decide),
  f_iconst (e_dx DX7_readParts_0 20 rfl) ⟨by decide, by decide⟩,
  f_icmp_ne (e_dx DX7_readParts_0 21 rfl) rfl,
  f_aload_n (n := 0) (e_dx DX7_readParts_0 22 rfl) rfl,
  x_callV (e_dx DX7_readParts_0 23 rfl) mwX7_readShare vwX7_readShare cX7_187 rfl,
  f_aload_n (n := 0) (e_dx DX7_readParts_0 24 rfl) rfl,
  f_getA (e_dx DX7_readParts_0 25 rfl) fX7_44 rfl (by decide) (Nat.le_of_ble_eq_true rfl) rfl (by decide),
  f_aload_n (n := 0) (e_dx DX7_readParts_0 26 rfl) rfl,
  f_getL (e_dx DX7_readParts_0 27 rfl) fX7_48 rfl (by decide),
  f_aload_n (n := 0) (e_dx DX7_readParts_0 28 rfl) rfl,
  f_getL (e_dx DX7_readParts_0 29 rfl) fX7_52 rfl (by decide),
  x_callV (e_dx DX7_readParts_0 30 rfl) mwX2_addPart vwX2_addPart cX7_214 rfl,
  f_g19 (e_dx DX7_readParts_0 31 rfl) rfl,
  f_aload_n (n := 0) (e_dx DX7_readParts_0 32 rfl) rfl,
  f_getA (e_dx DX7_readParts_0 33 rfl) fX7_44 rfl (by decide) (Nat.le_of_ble_eq_true rfl) rfl (by decide),
  f_lconst (n := 0) (e_dx DX7_readParts_0 34 rfl) rfl,
  f_lconst (n := 1) (e_dx DX7_readParts_0 35 rfl) rfl,
  x_callV (e_dx DX7_readParts_0 36 rfl) mwX2_addPart vwX2_addPart cX7_214 rfl,
  trivial,
  f_aload_n (n := 0) (e_dx DX7_readParts_0 37 rfl) rfl,
  f_getf (e_dx DX7_readParts_0 38 rfl) fX7_32 rfl (by decide) (by decide) (by decide),
  f_bipush (e_dx DX7_readParts_0 39 rfl) ⟨by decide, by decide⟩,
  f_icmp_eq (e_dx DX7_readParts_1 0 rfl) rfl,
  f_g19 (e_dx DX7_readParts_1 1 rfl) rfl,
  f_aload_n (n := 0) (e_dx DX7_readParts_1 2 rfl) rfl,
  x_callV (e_dx DX7_readParts_1 3 rfl) mwX7_take vwX7_take cX7_121 rfl,
  f_g8 (e_dx DX7_readParts_1 4 rfl) ⟨by decide, by decide⟩,
  f_g19 (e_dx DX7_readParts_1 5 rfl) rfl,
  trivial,
  f_iconst (e_dx DX7_readParts_1 6 rfl) ⟨by decide, by decide⟩,
  f_istore_n (n := 1) (e_dx DX7_readParts_1 7 rfl) rfl (by decide),
  trivial,
  f_iload_n (n := 1) (e_dx DX7_readParts_1 8 rfl) rfl,
  f_aload_n (n := 0) (e_dx DX7_readParts_1 9 rfl) rfl,
  f_getA (e_dx DX7_readParts_1 10 rfl) fX7_44 rfl (by decide) (Nat.le_of_ble_eq_true rfl) rfl (by decide),
  f_getf (e_dx DX7_readParts_1 11 rfl) fX7_218 rfl (by decide) (by decide) (by decide),
  f_icmp_ge (e_dx DX7_readParts_1 12 rfl) rfl,
  f_aload_n (n := 0) (e_dx DX7_readParts_1 13 rfl) rfl,
  f_getA (e_dx DX7_readParts_1 14 rfl) fX7_44 rfl (by decide) (Nat.le_of_ble_eq_true rfl) rfl (by decide),
  f_getA (e_dx DX7_readParts_1 15 rfl) fX7_221 rfl (by decide) (Nat.le_of_ble_eq_true rfl) rfl (by decide),
  f_iload_n (n := 1) (e_dx DX7_readParts_1 16 rfl) rfl,
  f_laload (e_dx DX7_readParts_1 17 rfl),
  f_lconst (n := 0) (e_dx DX7_readParts_1 18 rfl) rfl,
  f_lif_ne (e_dx DX7_readParts_1 19 rfl) (e_dx DX7_readParts_1 20 rfl) rfl,
  f_aload_n (n := 0) (e_dx DX7_readParts_1 21 rfl) rfl,
  f_getA (e_dx DX7_readParts_1 22 rfl) fX7_44 rfl (by decide) (Nat.le_of_ble_eq_true rfl) rfl (by decide),
  f_getA (e_dx DX7_readParts_1 23 rfl) fX7_221 rfl (by decide) (Nat.le_of_ble_eq_true rfl) rfl (by decide),
  f_iload_n (n := 1) (e_dx DX7_readParts_1 24 rfl) rfl,
  f_lconst (n := 1) (e_dx DX7_readParts_1 25 rfl) rfl,
  f_lastore (e_dx DX7_readParts_1 26 rfl),
  f_aload_n (n := 0) (e_dx DX7_readParts_1 27 rfl) rfl,
  f_getA (e_dx DX7_readParts_1 28 rfl) fX7_44 rfl (by decide) (Nat.le_of_ble_eq_true rfl) rfl (by decide),
  f_getA (e_dx DX7_readParts_1 29 rfl) fX7_224 rfl (by decide) (Nat.le_of_ble_eq_true rfl) rfl (by decide),
  f_iload_n (n := 1) (e_dx DX7_readParts_1 30 rfl) rfl,
  f_aload_n (n := 0) (e_dx DX7_readParts_1 31 rfl) rfl,
  f_getA (e_dx DX7_readParts_1 32 rfl) fX7_44 rfl (by decide) (Nat.le_of_ble_eq_true rfl) rfl (by decide),
  f_getf (e_dx DX7_readParts_1 33 rfl) fX7_218 rfl (by decide) (by decide) (by decide),
  f_g14 (e_dx DX7_readParts_1 34 rfl),
  f_lastore (e_dx DX7_readParts_1 35 rfl),
  trivial,
  f_g8 (e_dx DX7_readParts_1 36 rfl) ⟨by decide, by decide⟩,
  f_g19 (e_dx DX7_readParts_1 37 rfl) rfl,
  ⟨(e_dx DX7_readParts_1 38 rfl), rfl⟩, trivial⟩
def lX7_readParts (c_X7_note : Int → e_M → (e_M → Prop) → Prop) (c_X7_named : Int → e_M → (e_M → Prop) → Prop) (c_X7_readShare : e_M → (e_M → Prop) → Prop) (c_X2_addPart : Nat → Int → Int → e_M → (e_M → Prop) → Prop) (c_X7_take : e_M → (e_M → Prop) → Prop) : List (Nat × f_Wt) := [(0, f_wm [(20, 7, 12), (1, 0, 0)] (fun ar M R => c_X7_note (f_vi (f_nth ar 1)) M (fun M => R none M))), (1, f_wm [(20, 7, 12), (1, 0, 0)] (fun ar M R => c_X7_named (f_vi (f_nth ar 1)) M (fun M => R none M))), (2, f_wm [(20, 7, 12)] (fun ar M R => c_X7_readShare  M (fun M => R none M))), (3, f_wm [(3, 2, 19), (2, 0, 0), (2, 0, 0)] (fun ar M R => c_X2_addPart (f_va (f_nth ar 0)) (f_vi (f_nth ar 1)) (f_vi (f_nth ar 2)) M (fun M => R none M))), (4, f_wm [(20, 7, 12)] (fun ar M R => c_X7_take  M (fun M => R none M)))]
set_option maxRecDepth 20000 in
theorem BX7_readParts_2 {sh : Nat → Nat × Nat} {t : Nat} {rm : Nat × Nat × Nat} {cs : Nat × Nat} {R : f_Rt} {c_X7_note : Int → e_M → (e_M → Prop) → Prop} {c_X7_named : Int → e_M → (e_M → Prop) → Prop} {c_X7_readShare : e_M → (e_M → Prop) → Prop} {c_X2_addPart : Nat → Int → Int → e_M → (e_M → Prop) → Prop} {c_X7_take : e_M → (e_M → Prop) → Prop} {k93 : e_M → Prop} {k27 : Int → e_M → Prop} {x1 : Int} {M : e_M} (C : f_Hy sh t yX7_readParts rm cs 7 (lX7_readParts c_X7_note c_X7_named c_X7_readShare c_X2_addPart c_X7_take) R) (h93 : ∀ (M : e_M), k93 M → f_E sh t YX7_readParts rm cs (f_Q sh t R) 93 [.inr (.inr (.inl (7, 12, 10))), .inr (.inr (.inr ()))] [] M) (h27 : ∀ (x1 : Int) (M : e_M), k27 x1 M → f_E sh t YX7_readParts rm cs (f_Q sh t R) 27 [.inr (.inr (.inl (7, 12, 10))), .inl x1] [] M) (h : VX7_readParts_2 c_X7_note c_X7_named c_X7_readShare c_X2_addPart c_X7_take k93 k27 (fun M => R none M) x1 M) : f_E sh t YX7_readParts rm cs (f_Q sh t R) 2 [.inr (.inr (.inl (7, 12, 10))), .inl x1] [] M :=
  f_go (KC := f_kc [(93, f_pl [(20, 7, 12), (0, 0, 0)] [] (fun ls st M => k93 M)), (27, f_pl [(20, 7, 12), (1, 0, 0)] [] (fun ls st M => k27 (f_vi (f_nth ls 1)) M))]) C qX7_readPartsf (f_kc_cons (f_pl_ok rfl (fun ls st M h => h93  M h)) (f_kc_cons (f_pl_ok rfl (fun ls st M h => h27 _ M h)) f_kc_nil)) 86 3 h
set_option maxRecDepth 20000 in
theorem BX7_readParts_27 {sh : Nat → Nat × Nat} {t : Nat} {rm : Nat × Nat × Nat} {cs : Nat × Nat} {R : f_Rt} {c_X7_note : Int → e_M → (e_M → Prop) → Prop} {c_X7_named : Int → e_M → (e_M → Prop) → Prop} {c_X7_readShare : e_M → (e_M → Prop) → Prop} {c_X2_addPart : Nat → Int → Int → e_M → (e_M → Prop) → Prop} {c_X7_take : e_M → (e_M → Prop) → Prop} {k71 : Int → e_M → Prop} {x1 : Int} {M : e_M} (C : f_Hy sh t yX7_readParts rm cs 7 (lX7_readParts c_X7_note c_X7_named c_X7_readShare c_X2_addPart c_X7_take) R) (h71 : ∀ (x1 : Int) (M : e_M), k71 x1 M → f_E sh t YX7_readParts rm cs (f_Q sh t R) 71 [.inr (.inr (.inl (7, 12, 10))), .inl x1] [] M) (h : VX7_readParts_27 c_X7_note c_X7_named c_X7_readShare c_X2_addPart c_X7_take k71 (fun M => R none M) x1 M) : f_E sh t YX7_readParts rm cs (f_Q sh t R) 27 [.inr (.inr (.inl (7, 12, 10))), .inl x1] [] M :=
  f_go (KC := f_kc [(71, f_pl [(20, 7, 12), (1, 0, 0)] [] (fun ls st M => k71 (f_vi (f_nth ls 1)) M))]) C qX7_readPartsf (f_kc_cons (f_pl_ok rfl (fun ls st M h => h71 _ M h)) f_kc_nil) 86 17 h
set_option maxRecDepth 20000 in
theorem BX7_readParts_71 {sh : Nat → Nat × Nat} {t : Nat} {rm : Nat × Nat × Nat} {cs : Nat × Nat} {R : f_Rt} {c_X7_note : Int → e_M → (e_M → Prop) → Prop} {c_X7_named : Int → e_M → (e_M → Prop) → Prop} {c_X7_readShare : e_M → (e_M → Prop) → Prop} {c_X2_addPart : Nat → Int → Int → e_M → (e_M → Prop) → Prop} {c_X7_take : e_M → (e_M → Prop) → Prop} {k2 : Int → e_M → Prop} {k93 : e_M → Prop} {x1 : Int} {M : e_M} (C : f_Hy sh t yX7_readParts rm cs 7 (lX7_readParts c_X7_note c_X7_named c_X7_readShare c_X2_addPart c_X7_take) R) (h2 : ∀ (x1 : Int) (M : e_M), k2 x1 M → f_E sh t YX7_readParts rm cs (f_Q sh t R) 2 [.inr (.inr (.inl (7, 12, 10))), .inl x1] [] M) (h93 : ∀ (M : e_M), k93 M → f_E sh t YX7_readParts rm cs (f_Q sh t R) 93 [.inr (.inr (.inl (7, 12, 10))), .inr (.inr (.inr ()))] [] M) (h : VX7_readParts_71 c_X7_note c_X7_named c_X7_readShare c_X2_addPart c_X7_take k2 k93 (fun M => R none M) x1 M) : f_E sh t YX7_readParts rm cs (f_Q sh t R) 71 [.inr (.inr (.inl (7, 12, 10))), .inl x1] [] M :=
  f_go (KC := f_kc [(2, f_pl [(20, 7, 12), (1, 0, 0)] [] (fun ls st M => k2 (f_vi (f_nth ls 1)) M)), (93, f_pl [(20, 7, 12), (0, 0, 0)] [] (fun ls st M => k93 M))]) C qX7_readPartsf (f_kc_cons (f_pl_ok rfl (fun ls st M h => h2 _ M h)) (f_kc_cons (f_pl_ok rfl (fun ls st M h => h93  M h)) f_kc_nil)) 86 40 h
set_option maxRecDepth 20000 in
theorem BX7_readParts_93 {sh : Nat → Nat × Nat} {t : Nat} {rm : Nat × Nat × Nat} {cs : Nat × Nat} {R : f_Rt} {c_X7_note : Int → e_M → (e_M → Prop) → Prop} {c_X7_named : Int → e_M → (e_M → Prop) → Prop} {c_X7_readShare : e_M → (e_M → Prop) → Prop} {c_X2_addPart : Nat → Int → Int → e_M → (e_M → Prop) → Prop} {c_X7_take : e_M → (e_M → Prop) → Prop} {k95 : Int → e_M → Prop} {M : e_M} (C : f_Hy sh t yX7_readParts rm cs 7 (lX7_readParts c_X7_note c_X7_named c_X7_readShare c_X2_addPart c_X7_take) R) (h95 : ∀ (x1 : Int) (M : e_M), k95 x1 M → f_E sh t YX7_readParts rm cs (f_Q sh t R) 95 [.inr (.inr (.inl (7, 12, 10))), .inl x1] [] M) (h : VX7_readParts_93 c_X7_note c_X7_named c_X7_readShare c_X2_addPart c_X7_take k95 (fun M => R none M) M) : f_E sh t YX7_readParts rm cs (f_Q sh t R) 93 [.inr (.inr (.inl (7, 12, 10))), .inr (.inr (.inr ()))] [] M :=
  f_go (KC := f_kc [(95, f_pl [(20, 7, 12), (1, 0, 0)] [] (fun ls st M => k95 (f_vi (f_nth ls 1)) M))]) C qX7_readPartsf (f_kc_cons (f_pl_ok rfl (fun ls st M h => h95 _ M h)) f_kc_nil) 86 50 h
set_option maxRecDepth 20000 in
theorem BX7_readParts_95 {sh : Nat → Nat × Nat} {t : Nat} {rm : Nat × Nat × Nat} {cs : Nat × Nat} {R : f_Rt} {c_X7_note : Int → e_M → (e_M → Prop) → Prop} {c_X7_named : Int → e_M → (e_M → Prop) → Prop} {c_X7_readShare : e_M → (e_M → Prop) → Prop} {c_X2_addPart : Nat → Int → Int → e_M → (e_M → Prop) → Prop} {c_X7_take : e_M → (e_M → Prop) → Prop} {k147 : Int → e_M → Prop} {x1 : Int} {M : e_M} (C : f_Hy sh t yX7_readParts rm cs 7 (lX7_readParts c_X7_note c_X7_named c_X7_readShare c_X2_addPart c_X7_take) R) (h147 : ∀ (x1 : Int) (M : e_M), k147 x1 M → f_E sh t YX7_readParts rm cs (f_Q sh t R) 147 [.inr (.inr (.inl (7, 12, 10))), .inl x1] [] M) (h : VX7_readParts_95 c_X7_note c_X7_named c_X7_readShare c_X2_addPart c_X7_take k147 (fun M => R none M) x1 M) : f_E sh t YX7_readParts rm cs (f_Q sh t R) 95 [.inr (.inr (.inl (7, 12, 10))), .inl x1] [] M :=
  f_go (KC := f_kc [(147, f_pl [(20, 7, 12), (1, 0, 0)] [] (fun ls st M => k147 (f_vi (f_nth ls 1)) M))]) C qX7_readPartsf (f_kc_cons (f_pl_ok rfl (fun ls st M h => h147 _ M h)) f_kc_nil) 86 53 h
set_option maxRecDepth 20000 in
theorem BX7_readParts_147 {sh : Nat → Nat × Nat} {t : Nat} {rm : Nat × Nat × Nat} {cs : Nat × Nat} {R : f_Rt} {c_X7_note : Int → e_M → (e_M → Prop) → Prop} {c_X7_named : Int → e_M → (e_M → Prop) → Prop} {c_X7_readShare : e_M → (e_M → Prop) → Prop} {c_X2_addPart : Nat → Int → Int → e_M → (e_M → Prop) → Prop} {c_X7_take : e_M → (e_M → Prop) → Prop} {k95 : Int → e_M → Prop} {x1 : Int} {M : e_M} (C : f_Hy sh t yX7_readParts rm cs 7 (lX7_readParts c_X7_note c_X7_named c_X7_readShare c_X2_addPart c_X7_take) R) (h95 : ∀ (x1 : Int) (M : e_M), k95 x1 M → f_E sh t YX7_readParts rm cs (f_Q sh t R) 95 [.inr (.inr (.inl (7, 12, 10))), .inl x1] [] M) (h : VX7_readParts_147 c_X7_note c_X7_named c_X7_readShare c_X2_addPart c_X7_take k95 (fun M => R none M) x1 M) : f_E sh t YX7_readParts rm cs (f_Q sh t R) 147 [.inr (.inr (.inl (7, 12, 10))), .inl x1] [] M :=
  f_go (KC := f_kc [(95, f_pl [(20, 7, 12), (1, 0, 0)] [] (fun ls st M => k95 (f_vi (f_nth ls 1)) M))]) C qX7_readPartsf (f_kc_cons (f_pl_ok rfl (fun ls st M h => h95 _ M h)) f_kc_nil) 86 81 h
set_option maxRecDepth 20000 in
theorem BX7_readParts {sh : Nat → Nat × Nat} {t : Nat} {rm : Nat × Nat × Nat} {cs : Nat × Nat} {R : f_Rt} {c_X7_note : Int → e_M → (e_M → Prop) → Prop} {c_X7_named : Int → e_M → (e_M → Prop) → Prop} {c_X7_readShare : e_M → (e_M → Prop) → Prop} {c_X2_addPart : Nat → Int → Int → e_M → (e_M → Prop) → Prop} {c_X7_take : e_M → (e_M → Prop) → Prop} {k2 : Int → e_M → Prop} {M : e_M} (C : f_Hy sh t yX7_readParts rm cs 7 (lX7_readParts c_X7_note c_X7_named c_X7_readShare c_X2_addPart c_X7_take) R) (h2 : ∀ (x1 : Int) (M : e_M), k2 x1 M → f_E sh t YX7_readParts rm cs (f_Q sh t R) 2 [.inr (.inr (.inl (7, 12, 10))), .inl x1] [] M) (h : VX7_readParts c_X7_note c_X7_named c_X7_readShare c_X2_addPart c_X7_take k2 (fun M => R none M) M) : f_E sh t YX7_readParts rm cs (f_Q sh t R) 0 [.inr (.inr (.inl (7, 12, 10))), .inr (.inr (.inr ()))] [] M :=
  f_go (KC := f_kc [(2, f_pl [(20, 7, 12), (1, 0, 0)] [] (fun ls st M => k2 (f_vi (f_nth ls 1)) M))]) C qX7_readPartsf (f_kc_cons (f_pl_ok rfl (fun ls st M h => h2 _ M h)) f_kc_nil) 86 0 h
def WX7_readParts_147 (H95 : Int → e_M → Prop) (Q : e_M → Prop) (x1 : Int) (M : e_M) : Prop :=
  VX7_readParts_147 WX7_note WX7_named WX7_readShare WX2_addPart WX7_take H95 Q x1 M
def WX7_readParts_95 (Q : e_M → Prop) : Nat → Int → e_M → Prop
  | 0, _, _ => False
  | n + 1, x1, M =>
    VX7_readParts_95 WX7_note WX7_named WX7_readShare WX2_addPart WX7_take (WX7_readParts_147 (WX7_readParts_95 Q n) Q) Q x1 M
def WX7_readParts_93 (Q : e_M → Prop) (M : e_M) : Prop :=
  VX7_readParts_93 WX7_note WX7_named WX7_readShare WX2_addPart WX7_take (fun x1 M => ∃ j, WX7_readParts_95 Q j x1 M) Q M
def WX7_readParts_71 (H2 : Int → e_M → Prop) (Q : e_M → Prop) (x1 : Int) (M : e_M) : Prop :=
  VX7_readParts_71 WX7_note WX7_named WX7_readShare WX2_addPart WX7_take H2 (WX7_readParts_93 Q) Q x1 M
def WX7_readParts_27 (H2 : Int → e_M → Prop) (Q : e_M → Prop) (x1 : Int) (M : e_M) : Prop :=
  VX7_readParts_27 WX7_note WX7_named WX7_readShare WX2_addPart WX7_take (WX7_readParts_71 H2 Q) Q x1 M
def WX7_readParts_2 (Q : e_M → Prop) : Nat → Int → e_M → Prop
  | 0, _, _ => False
  | n + 1, x1, M =>
    VX7_readParts_2 WX7_note WX7_named WX7_readShare WX2_addPart WX7_take (WX7_readParts_93 Q) (WX7_readParts_27 (WX7_readParts_2 Q n) Q) Q x1 M
def WX7_readParts (M : e_M) (Q : e_M → Prop) : Prop :=
  VX7_readParts WX7_note WX7_named WX7_readShare WX2_addPart WX7_take (fun x1 M => ∃ j, WX7_readParts_2 Q j x1 M) Q M
theorem PX7_readParts_147 {sh : Nat → Nat × Nat} {t : Nat} {rm : Nat × Nat × Nat} {cs : Nat × Nat} {R : f_Rt} {H95 : Int → e_M → Prop} {x1 : Int} {M : e_M} (C : f_Hy sh t yX7_readParts rm cs 7 (lX7_readParts WX7_note WX7_named WX7_readShare WX2_addPart WX7_take) R) (g95 : ∀ (x1 : Int) (M : e_M), H95 x1 M → f_E sh t YX7_readParts rm cs (f_Q sh t R) 95 [.inr (.inr (.inl (7, 12, 10))), .inl x1] [] M) (h : WX7_readParts_147 H95 (fun M => R none M) x1 M) : f_E sh t YX7_readParts rm cs (f_Q sh t R) 147 [.inr (.inr (.inl (7, 12, 10))), .inl x1] [] M :=
  BX7_readParts_147 C g95 h
theorem PX7_readParts_95 {sh : Nat → Nat × Nat} {t : Nat} {rm : Nat × Nat × Nat} {cs : Nat × Nat} {R : f_Rt} (C : f_Hy sh t yX7_readParts rm cs 7 (lX7_readParts WX7_note WX7_named WX7_readShare WX2_addPart WX7_take) R) : ∀ (n : Nat) (x1 : Int) (M : e_M), WX7_readParts_95 (fun M => R none M) n x1 M → f_E sh t YX7_readParts rm cs (f_Q sh t R) 95 [.inr (.inr (.inl (7, 12, 10))), .inl x1] [] M := by
  intro n
  induction n with
  | zero => intro x1 M h; exact h.elim
  | succ n ih => intro x1 M h; exact BX7_readParts_95 C (fun x1 M h => PX7_readParts_147 C ih h) h
theorem PX7_readParts_93 {sh : Nat → Nat × Nat} {t : Nat} {rm : Nat × Nat × Nat} {cs : Nat × Nat} {R : f_Rt} {M : e_M} (C : f_Hy sh t yX7_readParts rm cs 7 (lX7_readParts WX7_note WX7_named WX7_readShare WX2_addPart WX7_take) R) (h : WX7_readParts_93 (fun M => R none M) M) : f_E sh t YX7_readParts rm cs (f_Q sh t R) 93 [.inr (.inr (.inl (7, 12, 10))), .inr (.inr (.inr ()))] [] M :=
  BX7_readParts_93 C (fun x1 M ⟨j, h⟩ => PX7_readParts_95 C j _ _ h) h
theorem PX7_readParts_71 {sh : Nat → Nat × Nat} {t : Nat} {rm : Nat × Nat × Nat} {cs : Nat × Nat} {R : f_Rt} {H2 : Int → e_M → Prop} {x1 : Int} {M : e_M} (C : f_Hy sh t yX7_readParts rm cs 7 (lX7_readParts WX7_note WX7_named WX7_readShare WX2_addPart WX7_take) R) (g2 : ∀ (x1 : Int) (M : e_M), H2 x1 M → f_E sh t YX7_readParts rm cs (f_Q sh t R) 2 [.inr (.inr (.inl (7, 12, 10))), .inl x1] [] M) (h : WX7_readParts_71 H2 (fun M => R none M) x1 M) : f_E sh t YX7_readParts rm cs (f_Q sh t R) 71 [.inr (.inr (.inl (7, 12, 10))), .inl x1] [] M :=
  BX7_readParts_71 C g2 (fun M h => PX7_readParts_93 C h) h
theorem PX7_readParts_27 {sh : Nat → Nat × Nat} {t : Nat} {rm : Nat × Nat × Nat} {cs : Nat × Nat} {R : f_Rt} {H2 : Int → e_M → Prop} {x1 : Int} {M : e_M} (C : f_Hy sh t yX7_readParts rm cs 7 (lX7_readParts WX7_note WX7_named WX7_readShare WX2_addPart WX7_take) R) (g2 : ∀ (x1 : Int) (M : e_M), H2 x1 M → f_E sh t YX7_readParts rm cs (f_Q sh t R) 2 [.inr (.inr (.inl (7, 12, 10))), .inl x1] [] M) (h : WX7_readParts_27 H2 (fun M => R none M) x1 M) : f_E sh t YX7_readParts rm cs (f_Q sh t R) 27 [.inr (.inr (.inl (7, 12, 10))), .inl x1] [] M :=
  BX7_readParts_27 C (fun x1 M h => PX7_readParts_71 C g2 h) h
theorem PX7_readParts_2 {sh : Nat → Nat × Nat} {t : Nat} {rm : Nat × Nat × Nat} {cs : Nat × Nat} {R : f_Rt} (C : f_Hy sh t yX7_readParts rm cs 7 (lX7_readParts WX7_note WX7_named WX7_readShare WX2_addPart WX7_take) R) : ∀ (n : Nat) (x1 : Int) (M : e_M), WX7_readParts_2 (fun M => R none M) n x1 M → f_E sh t YX7_readParts rm cs (f_Q sh t R) 2 [.inr (.inr (.inl (7, 12, 10))), .inl x1] [] M := by
  intro n
  induction n with
  | zero => intro x1 M h; exact h.elim
  | succ n ih => intro x1 M h; exact BX7_readParts_2 C (fun M h => PX7_readParts_93 C h) (fun x1 M h => PX7_readParts_27 C ih h) h
theorem PX7_readParts {sh : Nat → Nat × Nat} {t : Nat} {rm : Nat × Nat × Nat} {cs : Nat × Nat} {R : f_Rt} {M : e_M} (C : f_Hy sh t yX7_readParts rm cs 7 (lX7_readParts WX7_note WX7_named WX7_readShare WX2_addPart WX7_take) R) (h : WX7_readParts M (fun M => R none M)) : f_E sh t YX7_readParts rm cs (f_Q sh t R) 0 [.inr (.inr (.inl (7, 12, 10))), .inr (.inr (.inr ()))] [] M :=
  BX7_readParts C (fun x1 M ⟨j, h⟩ => PX7_readParts_2 C j _ _ h) h
def wX7_readParts : f_Wt := f_wm [(20, 7, 12)] (fun ar M R => WX7_readParts M (fun M => R none M))
theorem TX7_readParts {sh : Nat → Nat × Nat} {t : Nat} : f_Mt sh t YX7_readParts 7 (wX7_readParts) :=
  f_Mt_of (k := 1) (Nat.le_of_ble_eq_true rfl) rfl rfl (fun ar M R rm cs h1 h2 h3 hX h => PX7_readParts ⟨Nat.le_of_ble_eq_true rfl, h1, h2, h3, ⟨(f_Mt.up (Nat.le_of_ble_eq_true rfl) TX7_note), (f_Mt.up (Nat.le_of_ble_eq_true rfl) TX7_named), (f_Mt.up (Nat.le_of_ble_eq_true rfl) TX7_readShare), (f_Mt.up (Nat.le_of_ble_eq_true rfl) TX2_addPart), (f_Mt.up (Nat.le_of_ble_eq_true rfl) TX7_take), trivial⟩, hX⟩ h)
def VX7_readOfPersons (c_X7_named : Int → e_M → (e_M → Prop) → Prop) (c_X7_expect : Int → e_M → (e_M → Prop) → Prop) (c_X7_takeDate : e_M → (Int → e_M → Prop) → Prop) (c_X7_take : e_M → (e_M → Prop) → Prop) (c_X7_readParts : e_M → (e_M → Prop) → Prop) (Q : e_M → Prop) (x1 : Int) (M : e_M) : Prop :=
  ((¬ x1 = 200 → ((¬ x1 = 201 → ((¬ x1 = 202 → ((¬ x1 = 203 → (c_X7_named 12 M (fun M1 => (Q M1)))) ∧ (x1 = 203 → (c_X7_named 11 M (fun M2 => ((¬ (M2 10 6) = 225 → (Q M2)) ∧ ((M2 10 6) = 225 → (c_X7_take M2 (fun M3 => (c_X7_readParts M3 (fun M4 => (Q M4)))))))))))) ∧ (x1 = 202 → (c_X7_named 11 M (fun M5 => (c_X7_expect 227 M5 (fun M6 => (c_X7_named 11 M6 (fun M7 => (Q M7)))))))))) ∧ (x1 = 201 → (c_X7_named 10 M (fun M8 => (c_X7_expect 227 M8 (fun M9 => (c_X7_named 11 M9 (fun M10 => (Q M10)))))))))) ∧ (x1 = 200 → (c_X7_named 10 M (fun M11 => (c_X7_expect 226 M11 (fun M12 => (c_X7_takeDate M12 (fun r13 M14 => (∀ M15 : e_M, M15 = e_up M14 ((M12 10 9).toNat) 8 r13 → (Q M15))))))))))
def yX7_readOfPersons (i : Nat) : e_Y := x_get YX7_readOfPersons [YX7_named, YX7_expect, YX7_takeDate, YX7_take, YX7_readParts] i
def pX7_readOfPersonsf : List x_I := [(0, 2, 1, 1, 0, 0, []), (1, 0, 3, 0, 0, 200, []), (4, 18, 34, 1, 16, 0, []), (7, 4, 1, 0, 0, 0, []), (8, 0, 2, 0, 0, 10, []), (10, 40, 0, 2, 9, 0, []), (13, 4, 1, 0, 0, 0, []), (14, 0, 3, 0, 0, 226, []), (17, 40, 1, 2, 9, 0, []), (20, 4, 1, 0, 0, 0, []), (21, 25, 7, 9, 4, 0, [(0, 2, 19), (0, 0, 0)]), (24, 4, 1, 0, 0, 0, []), (25, 40, 2, 1, 9, 0, []), (28, 26, 2, 8, 0, 0, []), (31, 19, 132, 0, 60, 0, []), (34, 2, 1, 1, 0, 0, []), (35, 0, 3, 0, 0, 201, []), (38, 18, 63, 1, 29, 0, []), (41, 4, 1, 0, 0, 0, []), (42, 0, 2, 0, 0, 10, []), (44, 40, 0, 2, 9, 0, []), (47, 4, 1, 0, 0, 0, []), (48, 0, 3, 0, 0, 227, []), (51, 40, 1, 2, 9, 0, []), (54, 4, 1, 0, 0, 0, []), (55, 0, 2, 0, 0, 11, []), (57, 40, 0, 2, 9, 0, []), (60, 19, 132, 0, 60, 0, []), (63, 2, 1, 1, 0, 0, []), (64, 0, 3, 0, 0, 202, []), (67, 18, 92, 1, 42, 0, []), (70, 4, 1, 0, 0, 0, []), (71, 0, 2, 0, 0, 11, []), (73, 40, 0, 2, 9, 0, []), (76, 4, 1, 0, 0, 0, []), (77, 0, 3, 0, 0, 227, []), (80, 40, 1, 2, 9, 0, []), (83, 4, 1, 0, 0, 0, []), (84, 0, 2, 0, 0, 11, []), (86, 40, 0, 2, 9, 0, []), (89, 19, 132, 0, 60, 0, []), (92, 2, 1, 1, 0, 0, []), (93, 0, 3, 0, 0, 203, []), (96, 18, 126, 1, 57, 0, []), (99, 4, 1, 0, 0, 0, []), (100, 0, 2, 0, 0, 11, []), (102, 40, 0, 2, 9, 0, []), (105, 4, 1, 0, 0, 0, []), (106, 25, 7, 6, 0, 0, []), (109, 0, 3, 0, 0, 225, []), (112, 18, 132, 1, 60, 0, []), (115, 4, 1, 0, 0, 0, []), (116, 40, 3, 1, 9, 0, []), (119, 4, 1, 0, 0, 0, []), (120, 40, 4, 1, 9, 0, []), (123, 19, 132, 0, 60, 0, []), (126, 4, 1, 0, 0, 0, []), (127, 0, 2, 0, 0, 12, []), (129, 40, 0, 2, 9, 0, []), (132, 44, 0, 0, 0, 0, [])]
set_option maxRecDepth 20000 in
theorem qX7_readOfPersonsf : f_all yX7_readOfPersons YX7_readOfPersons pX7_readOfPersonsf :=
  ⟨f_iload_n (n := 1) (e_dx DX7_readOfPersons_0 0 rfl) rfl,
  f_sipush (e_dx DX7_readOfPersons_0 1 rfl) ⟨by decide, by decide⟩,
  f_icmp_ne (e_dx DX7_readOfPersons_0 2 rfl) rfl,
  f_aload_n (n := 0) (e_dx DX7_readOfPersons_0 3 rfl) rfl,
  f_bipush (e_dx DX7_readOfPersons_0 4 rfl) ⟨by decide, by decide⟩,
  x_callV (e_dx DX7_readOfPersons_0 5 rfl) mwX7_named vwX7_named cX7_178 rfl,
  f_aload_n (n := 0) (e_dx DX7_readOfPersons_0 6 rfl) rfl,
  f_sipush (e_dx DX7_readOfPersons_0 7 rfl) ⟨by decide, by decide⟩,
  x_callV (e_dx DX7_readOfPersons_0 8 rfl) mwX7_expect vwX7_expect cX7_128 rfl,
  f_aload_n (n := 0) (e_dx DX7_readOfPersons_0 9 rfl) rfl,
  f_getA (e_dx DX7_readOfPersons_0 10 rfl) fX7_44 rfl (by decide) (Nat.le_of_ble_eq_true rfl) rfl (by decide),
  f_aload_n (n := 0) (e_dx DX7_readOfPersons_0 11 rfl) rfl,
  x_callV (e_dx DX7_readOfPersons_0 12 rfl) mwX7_takeDate vwX7_takeDate cX7_150 rfl,
  f_putn (e_dx DX7_readOfPersons_0 13 rfl) fX7_181 (fun q hq => by cases hq; rfl) rfl (Or.inl rfl) (by decide),
  f_g19 (e_dx DX7_readOfPersons_0 14 rfl) rfl,
  f_iload_n (n := 1) (e_dx DX7_readOfPersons_0 15 rfl) rfl,
  f_sipush (e_dx DX7_readOfPersons_0 16 rfl) ⟨by decide, by decide⟩,
  f_icmp_ne (e_dx DX7_readOfPersons_0 17 rfl) rfl,
  f_aload_n (n := 0) (e_dx DX7_readOfPersons_0 18 rfl) rfl,
  f_bipush (e_dx DX7_readOfPersons_0 19 rfl) ⟨by decide, by decide⟩,
  x_callV (e_dx DX7_readOfPersons_0 20 rfl) mwX7_named vwX7_named cX7_178 rfl,
  f_aload_n (n := 0) (e_dx DX7_readOfPersons_0 21 rfl) rfl,
  f_sipush (e_dx DX7_readOfPersons_0 22 rfl) ⟨by decide, by decide⟩,
  x_callV (e_dx DX7_readOfPersons_0 23 rfl) mwX7_expect vwX7_expect cX7_128 rfl,
  f_aload_n (n := 0) (e_dx DX7_readOfPersons_0 24 rfl) rfl,
  f_bipush (e_dx DX7_readOfPersons_0 25 rfl) ⟨by decide, by decide⟩,
  x_callV (e_dx DX7_readOfPersons_0 26 rfl) mwX7_named vwX7_named cX7_178 rfl,
  f_g19 (e_dx DX7_readOfPersons_0 27 rfl) rfl,
  f_iload_n (n := 1) (e_dx DX7_readOfPersons_0 28 rfl) rfl,
  f_sipush (e_dx DX7_readOfPersons_0 29 rfl) ⟨by decide, by decide⟩,
  f_icmp_ne (e_dx DX7_readOfPersons_0 30 rfl) rfl,
  f_aload_n (n := 0) (e_dx DX7_readOfPersons_0 31 rfl) rfl,
  f_bipush (e_dx DX7_readOfPersons_0 32 rfl) ⟨by decide, by decide⟩,
  x_callV (e_dx DX7_readOfPersons_0 33 rfl) mwX7_named vwX7_named cX7_178 rfl,
  f_aload_n (n := 0) (e_dx DX7_readOfPersons_0 34 rfl) rfl,
  f_sipush (e_dx DX7_readOfPersons_0 35 rfl) ⟨by decide, by decide⟩,
  x_callV (e_dx DX7_readOfPersons_0 36 rfl) mwX7_expect vwX7_expect cX7_128 rfl,
  f_aload_n (n := 0) (e_dx DX7_readOfPersons_0 37 rfl) rfl,
  f_bipush (e_dx DX7_readOfPersons_0 38 rfl) ⟨by decide, by decide⟩,
  x_callV (e_dx DX7_readOfPersons_0 39 rfl) mwX7_named vwX7_named cX7_178 rfl,
  f_g19 (e_dx DX7_readOfPersons_1 0 rfl) rfl,
  f_iload_n (n := 1) (e_dx DX7_readOfPersons_1 1 rfl) rfl,
  f_sipush (e_dx DX7_readOfPersons_1 2 rfl) ⟨by decide, by decide⟩,
  f_icmp_ne (e_dx DX7_readOfPersons_1 3 rfl) rfl,
  f_aload_n (n := 0) (e_dx DX7_readOfPersons_1 4 rfl) rfl,
  f_bipush (e_dx DX7_readOfPersons_1 5 rfl) ⟨by decide, by decide⟩,
  x_callV (e_dx DX7_readOfPersons_1 6 rfl) mwX7_named vwX7_named cX7_178 rfl,
  f_aload_n (n := 0) (e_dx DX7_readOfPersons_1 7 rfl) rfl,
  f_getf (e_dx DX7_readOfPersons_1 8 rfl) fX7_32 rfl (by decide) (by decide) (by decide),
  f_sipush (e_dx DX7_readOfPersons_1 9 rfl) ⟨by decide, by decide⟩,
  f_icmp_ne (e_dx DX7_readOfPersons_1 10 rfl) rfl,
  f_aload_n (n := 0) (e_dx DX7_readOfPersons_1 11 rfl) rfl,
  x_callV (e_dx DX7_readOfPersons_1 12 rfl) mwX7_take vwX7_take cX7_121 rfl,
  f_aload_n (n := 0) (e_dx DX7_readOfPersons_1 13 rfl) rfl,
  x_callV (e_dx DX7_readOfPersons_1 14 rfl) mwX7_readParts vwX7_readParts cX7_184 rfl,
  f_g19 (e_dx DX7_readOfPersons_1 15 rfl) rfl,
  f_aload_n (n := 0) (e_dx DX7_readOfPersons_1 16 rfl) rfl,
  f_bipush (e_dx DX7_readOfPersons_1 17 rfl) ⟨by decide, by decide⟩,
  x_callV (e_dx DX7_readOfPersons_1 18 rfl) mwX7_named vwX7_named cX7_178 rfl,
  ⟨(e_dx DX7_readOfPersons_1 19 rfl), rfl⟩, trivial⟩
def lX7_readOfPersons (c_X7_named : Int → e_M → (e_M → Prop) → Prop) (c_X7_expect : Int → e_M → (e_M → Prop) → Prop) (c_X7_takeDate : e_M → (Int → e_M → Prop) → Prop) (c_X7_take : e_M → (e_M → Prop) → Prop) (c_X7_readParts : e_M → (e_M → Prop) → Prop) : List (Nat × f_Wt) := [(0, f_wm [(20, 7, 12), (1, 0, 0)] (fun ar M R => c_X7_named (f_vi (f_nth ar 1)) M (fun M => R none M))), (1, f_wm [(20, 7, 12), (1, 0, 0)] (fun ar M R => c_X7_expect (f_vi (f_nth ar 1)) M (fun M => R none M))), (2, f_wm [(20, 7, 12)] (fun ar M R => c_X7_takeDate  M (fun r M => R (some (.inl r)) M))), (3, f_wm [(20, 7, 12)] (fun ar M R => c_X7_take  M (fun M => R none M))), (4, f_wm [(20, 7, 12)] (fun ar M R => c_X7_readParts  M (fun M => R none M)))]
set_option maxRecDepth 20000 in
theorem BX7_readOfPersons {sh : Nat → Nat × Nat} {t : Nat} {rm : Nat × Nat × Nat} {cs : Nat × Nat} {R : f_Rt} {c_X7_named : Int → e_M → (e_M → Prop) → Prop} {c_X7_expect : Int → e_M → (e_M → Prop) → Prop} {c_X7_takeDate : e_M → (Int → e_M → Prop) → Prop} {c_X7_take : e_M → (e_M → Prop) → Prop} {c_X7_readParts : e_M → (e_M → Prop) → Prop} {x1 : Int} {M : e_M} (C : f_Hy sh t yX7_readOfPersons rm cs 8 (lX7_readOfPersons c_X7_named c_X7_expect c_X7_takeDate c_X7_take c_X7_readParts) R) (h : VX7_readOfPersons c_X7_named c_X7_expect c_X7_takeDate c_X7_take c_X7_readParts (fun M => R none M) x1 M) : f_E sh t YX7_readOfPersons rm cs (f_Q sh t R) 0 [.inr (.inr (.inl (7, 12, 10))), .inl x1] [] M :=
  f_go (KC := f_kc []) C qX7_readOfPersonsf f_kc_nil 62 0 h
def WX7_readOfPersons (x1 : Int) (M : e_M) (Q : e_M → Prop) : Prop :=
  VX7_readOfPersons WX7_named WX7_expect WX7_takeDate WX7_take WX7_readParts Q x1 M
theorem PX7_readOfPersons {sh : Nat → Nat × Nat} {t : Nat} {rm : Nat × Nat × Nat} {cs : Nat × Nat} {R : f_Rt} {x1 : Int} {M : e_M} (C : f_Hy sh t yX7_readOfPersons rm cs 8 (lX7_readOfPersons WX7_named WX7_expect WX7_takeDate WX7_take WX7_readParts) R) (h : WX7_readOfPersons x1 M (fun M => R none M)) : f_E sh t YX7_readOfPersons rm cs (f_Q sh t R) 0 [.inr (.inr (.inl (7, 12, 10))), .inl x1] [] M :=
  BX7_readOfPersons C h
def wX7_readOfPersons : f_Wt := f_wm [(20, 7, 12), (1, 0, 0)] (fun ar M R => WX7_readOfPersons (f_vi (f_nth ar 1)) M (fun M => R none M))
theorem TX7_readOfPersons {sh : Nat → Nat × Nat} {t : Nat} : f_Mt sh t YX7_readOfPersons 8 (wX7_readOfPersons) :=
  f_Mt_of (k := 0) (Nat.le_of_ble_eq_true rfl) rfl rfl (fun ar M R rm cs h1 h2 h3 hX h => PX7_readOfPersons ⟨Nat.le_of_ble_eq_true rfl, h1, h2, h3, ⟨(f_Mt.up (Nat.le_of_ble_eq_true rfl) TX7_named), (f_Mt.up (Nat.le_of_ble_eq_true rfl) TX7_expect), (f_Mt.up (Nat.le_of_ble_eq_true rfl) TX7_takeDate), (f_Mt.up (Nat.le_of_ble_eq_true rfl) TX7_take), (f_Mt.up (Nat.le_of_ble_eq_true rfl) TX7_readParts), trivial⟩, hX⟩ h)
def VX7_readPrice (c_X7_expect : Int → e_M → (e_M → Prop) → Prop) (c_X7_takeNumber : e_M → (Int → e_M → Prop) → Prop) (Q : e_M → Prop) (M : e_M) : Prop :=
  (c_X7_expect 229 M (fun M1 => (c_X7_takeNumber M1 (fun r2 M3 => (∀ M4 : e_M, M4 = e_up M3 ((M1 10 9).toNat) 9 r2 → (Q M4))))))
def yX7_readPrice (i : Nat) : e_Y := x_get YX7_readPrice [YX7_expect, YX7_takeNumber] i
def pX7_readPricef : List x_I := [(0, 4, 1, 0, 0, 0, []), (1, 0, 3, 0, 0, 229, []), (4, 40, 0, 2, 9, 0, []), (7, 4, 1, 0, 0, 0, []), (8, 25, 7, 9, 4, 0, [(0, 2, 19), (0, 0, 0)]), (11, 4, 1, 0, 0, 0, []), (12, 40, 1, 1, 9, 0, []), (15, 26, 2, 9, 0, 0, []), (18, 44, 0, 0, 0, 0, [])]
set_option maxRecDepth 20000 in
theorem qX7_readPricef : f_all yX7_readPrice YX7_readPrice pX7_readPricef :=
  ⟨f_aload_n (n := 0) (e_dx DX7_readPrice_0 0 rfl) rfl,
  f_sipush (e_dx DX7_readPrice_0 1 rfl) ⟨by decide, by decide⟩,
  x_callV (e_dx DX7_readPrice_0 2 rfl) mwX7_expect vwX7_expect cX7_128 rfl,
  f_aload_n (n := 0) (e_dx DX7_readPrice_0 3 rfl) rfl,
  f_getA (e_dx DX7_readPrice_0 4 rfl) fX7_44 rfl (by decide) (Nat.le_of_ble_eq_true rfl) rfl (by decide),
  f_aload_n (n := 0) (e_dx DX7_readPrice_0 5 rfl) rfl,
  x_callV (e_dx DX7_readPrice_0 6 rfl) mwX7_takeNumber vwX7_takeNumber cX7_208 rfl,
  f_putn (e_dx DX7_readPrice_0 7 rfl) fX7_211 (fun q hq => by cases hq; rfl) rfl (Or.inl rfl) (by decide),
  ⟨(e_dx DX7_readPrice_0 8 rfl), rfl⟩, trivial⟩
def lX7_readPrice (c_X7_expect : Int → e_M → (e_M → Prop) → Prop) (c_X7_takeNumber : e_M → (Int → e_M → Prop) → Prop) : List (Nat × f_Wt) := [(0, f_wm [(20, 7, 12), (1, 0, 0)] (fun ar M R => c_X7_expect (f_vi (f_nth ar 1)) M (fun M => R none M))), (1, f_wm [(20, 7, 12)] (fun ar M R => c_X7_takeNumber  M (fun r M => R (some (.inl r)) M)))]
set_option maxRecDepth 20000 in
theorem BX7_readPrice {sh : Nat → Nat × Nat} {t : Nat} {rm : Nat × Nat × Nat} {cs : Nat × Nat} {R : f_Rt} {c_X7_expect : Int → e_M → (e_M → Prop) → Prop} {c_X7_takeNumber : e_M → (Int → e_M → Prop) → Prop} {M : e_M} (C : f_Hy sh t yX7_readPrice rm cs 7 (lX7_readPrice c_X7_expect c_X7_takeNumber) R) (h : VX7_readPrice c_X7_expect c_X7_takeNumber (fun M => R none M) M) : f_E sh t YX7_readPrice rm cs (f_Q sh t R) 0 [.inr (.inr (.inl (7, 12, 10)))] [] M :=
  f_go (KC := f_kc []) C qX7_readPricef f_kc_nil 11 0 h
def WX7_readPrice (M : e_M) (Q : e_M → Prop) : Prop :=
  VX7_readPrice WX7_expect WX7_takeNumber Q M
theorem PX7_readPrice {sh : Nat → Nat × Nat} {t : Nat} {rm : Nat × Nat × Nat} {cs : Nat × Nat} {R : f_Rt} {M : e_M} (C : f_Hy sh t yX7_readPrice rm cs 7 (lX7_readPrice WX7_expect WX7_takeNumber) R) (h : WX7_readPrice M (fun M => R none M)) : f_E sh t YX7_readPrice rm cs (f_Q sh t R) 0 [.inr (.inr (.inl (7, 12, 10)))] [] M :=
  BX7_readPrice C h
def wX7_readPrice : f_Wt := f_wm [(20, 7, 12)] (fun ar M R => WX7_readPrice M (fun M => R none M))
theorem TX7_readPrice {sh : Nat → Nat × Nat} {t : Nat} : f_Mt sh t YX7_readPrice 7 (wX7_readPrice) :=
  f_Mt_of (k := 0) (Nat.le_of_ble_eq_true rfl) rfl rfl (fun ar M R rm cs h1 h2 h3 hX h => PX7_readPrice ⟨Nat.le_of_ble_eq_true rfl, h1, h2, h3, ⟨(f_Mt.up (Nat.le_of_ble_eq_true rfl) TX7_expect), (f_Mt.up (Nat.le_of_ble_eq_true rfl) TX7_takeNumber), trivial⟩, hX⟩ h)
def VX7_readPoints_2 (c_X7_note : Int → e_M → (e_M → Prop) → Prop) (c_X7_expect : Int → e_M → (e_M → Prop) → Prop) (c_X7_takeNumber : e_M → (Int → e_M → Prop) → Prop) (c_X2_addPoint : Nat → Int → Int → e_M → (e_M → Prop) → Prop) (k24 : Int → e_M → Prop) (Q : e_M → Prop) (x1 : Int) (M : e_M) : Prop :=
  ((12 < x1 → (Q M)) ∧ (x1 ≤ 12 → ((x1 ≤ 0 → (k24 x1 M)) ∧ (0 < x1 → (((M 10 6) = 40 → (k24 x1 M)) ∧ (¬ (M 10 6) = 40 → (Q M)))))))
def VX7_readPoints_24 (c_X7_note : Int → e_M → (e_M → Prop) → Prop) (c_X7_expect : Int → e_M → (e_M → Prop) → Prop) (c_X7_takeNumber : e_M → (Int → e_M → Prop) → Prop) (c_X2_addPoint : Nat → Int → Int → e_M → (e_M → Prop) → Prop) (k35 : Int → e_M → Prop) (Q : e_M → Prop) (x1 : Int) (M : e_M) : Prop :=
  ((¬ x1 = 12 → (k35 x1 M)) ∧ (x1 = 12 → (c_X7_note 4 M (fun M1 => (k35 x1 M1)))))
def VX7_readPoints_35 (c_X7_note : Int → e_M → (e_M → Prop) → Prop) (c_X7_expect : Int → e_M → (e_M → Prop) → Prop) (c_X7_takeNumber : e_M → (Int → e_M → Prop) → Prop) (c_X2_addPoint : Nat → Int → Int → e_M → (e_M → Prop) → Prop) (k2 : Int → e_M → Prop) (Q : e_M → Prop) (x1 : Int) (M : e_M) : Prop :=
  (c_X7_expect 40 M (fun M1 => (c_X7_takeNumber M1 (fun r2 M3 => (c_X7_expect 44 M3 (fun M4 => (c_X7_takeNumber M4 (fun r5 M6 => (c_X2_addPoint ((M4 10 9).toNat) r2 r5 M6 (fun M7 => (c_X7_expect 41 M7 (fun M8 => (k2 (e_w32 (x1 + 1)) M8)))))))))))))
def VX7_readPoints (c_X7_note : Int → e_M → (e_M → Prop) → Prop) (c_X7_expect : Int → e_M → (e_M → Prop) → Prop) (c_X7_takeNumber : e_M → (Int → e_M → Prop) → Prop) (c_X2_addPoint : Nat → Int → Int → e_M → (e_M → Prop) → Prop) (k2 : Int → e_M → Prop) (Q : e_M → Prop) (M : e_M) : Prop :=
  (k2 0 M)
def yX7_readPoints (i : Nat) : e_Y := x_get YX7_readPoints [YX7_note, YX7_expect, YX7_takeNumber, YX2_addPoint] i
def pX7_readPointsf : List x_I := [(0, 0, 1, 0, 0, 0, []), (1, 5, 1, 1, 0, 0, []), (2, 49, 0, 0, 0, 0, []), (2, 2, 1, 1, 0, 0, []), (3, 0, 2, 0, 0, 12, []), (5, 18, 76, 4, 42, 0, []), (8, 2, 1, 1, 0, 0, []), (9, 17, 24, 5, 14, 0, []), (12, 4, 1, 0, 0, 0, []), (13, 25, 7, 6, 0, 0, []), (16, 0, 2, 0, 0, 40, []), (18, 18, 24, 0, 14, 0, []), (21, 19, 76, 0, 42, 0, []), (24, 49, 0, 0, 0, 0, []), (24, 2, 1, 1, 0, 0, []), (25, 0, 2, 0, 0, 12, []), (27, 18, 35, 1, 21, 0, []), (30, 4, 1, 0, 0, 0, []), (31, 0, 1, 0, 0, 4, []), (32, 40, 0, 2, 9, 0, []), (35, 49, 0, 0, 0, 0, []), (35, 4, 1, 0, 0, 0, []), (36, 0, 2, 0, 0, 40, []), (38, 40, 1, 2, 9, 0, []), (41, 4, 1, 0, 0, 0, []), (42, 40, 2, 1, 9, 0, []), (45, 5, 1, 2, 0, 0, []), (46, 4, 1, 0, 0, 0, []), (47, 0, 2, 0, 0, 44, []), (49, 40, 1, 2, 9, 0, []), (52, 4, 1, 0, 0, 0, []), (53, 25, 7, 9, 4, 0, [(0, 2, 19), (0, 0, 0)]), (56, 2, 1, 2, 0, 0, []), (57, 4, 1, 0, 0, 0, []), (58, 40, 2, 1, 9, 0, []), (61, 40, 3, 3, 4, 0, []), (64, 4, 1, 0, 0, 0, []), (65, 0, 2, 0, 0, 41, []), (67, 40, 1, 2, 9, 0, []), (70, 8, 0, 1, 0, 1, []), (73, 19, 2, 0, 3, 0, []), (76, 44, 0, 0, 0, 0, [])]
set_option maxRecDepth 20000 in
theorem qX7_readPointsf : f_all yX7_readPoints YX7_readPoints pX7_readPointsf :=
  ⟨f_iconst (e_dx DX7_readPoints_0 0 rfl) ⟨by decide, by decide⟩,
  f_istore_n (n := 1) (e_dx DX7_readPoints_0 1 rfl) rfl (by decide),
  trivial,
  f_iload_n (n := 1) (e_dx DX7_readPoints_0 2 rfl) rfl,
  f_bipush (e_dx DX7_readPoints_0 3 rfl) ⟨by decide, by decide⟩,
  f_icmp_gt (e_dx DX7_readPoints_0 4 rfl) rfl,
  f_iload_n (n := 1) (e_dx DX7_readPoints_0 5 rfl) rfl,
  f_if_le (e_dx DX7_readPoints_0 6 rfl) rfl,
  f_aload_n (n := 0) (e_dx DX7_readPoints_0 7 rfl) rfl,
  f_getf (e_dx DX7_readPoints_0 8 rfl) fX7_32 rfl (by decide) (by decide) (by decide),
  f_bipush (e_dx DX7_readPoints_0 9 rfl) ⟨by decide, by decide⟩,
  f_icmp_eq (e_dx DX7_readPoints_0 10 rfl) rfl,
  f_g19 (e_dx DX7_readPoints_0 11 rfl) rfl,
  trivial,
  f_iload_n (n := 1) (e_dx DX7_readPoints_0 12 rfl) rfl,
  f_bipush (e_dx DX7_readPoints_0 13 rfl) ⟨by decide, by decide⟩,
  f_icmp_ne (e_dx DX7_readPoints_0 14 rfl) rfl,
  f_aload_n (n := 0) (e_dx DX7_readPoints_0 15 rfl) rfl,
  f_iconst (e_dx DX7_readPoints_0 16 rfl) ⟨by decide, by decide⟩,
  x_callV (e_dx DX7_readPoints_0 17 rfl) mwX7_note vwX7_note cX7_124 rfl,
  trivial,
  f_aload_n (n := 0) (e_dx DX7_readPoints_0 18 rfl) rfl,
  f_bipush (e_dx DX7_readPoints_0 19 rfl) ⟨by decide, by decide⟩,
  x_callV (e_dx DX7_readPoints_0 20 rfl) mwX7_expect vwX7_expect cX7_128 rfl,
  f_aload_n (n := 0) (e_dx DX7_readPoints_0 21 rfl) rfl,
  x_callV (e_dx DX7_readPoints_0 22 rfl) mwX7_takeNumber vwX7_takeNumber cX7_208 rfl,
  f_istore_n (n := 2) (e_dx DX7_readPoints_0 23 rfl) rfl (by decide),
  f_aload_n (n := 0) (e_dx DX7_readPoints_0 24 rfl) rfl,
  f_bipush (e_dx DX7_readPoints_0 25 rfl) ⟨by decide, by decide⟩,
  x_callV (e_dx DX7_readPoints_0 26 rfl) mwX7_expect vwX7_expect cX7_128 rfl,
  f_aload_n (n := 0) (e_dx DX7_readPoints_0 27 rfl) rfl,
  f_getA (e_dx DX7_readPoints_0 28 rfl) fX7_44 rfl (by decide) (Nat.le_of_ble_eq_true rfl) rfl (by decide),
  f_iload_n (n := 2) (e_dx DX7_readPoints_0 29 rfl) rfl,
  f_aload_n (n := 0) (e_dx DX7_readPoints_0 30 rfl) rfl,
  x_callV (e_dx DX7_readPoints_0 31 rfl) mwX7_takeNumber vwX7_takeNumber cX7_208 rfl,
  x_callV (e_dx DX7_readPoints_0 32 rfl) mwX2_addPoint vwX2_addPoint cX7_236 rfl,
  f_aload_n (n := 0) (e_dx DX7_readPoints_0 33 rfl) rfl,
  f_bipush (e_dx DX7_readPoints_0 34 rfl) ⟨by decide, by decide⟩,
  x_callV (e_dx DX7_readPoints_0 35 rfl) mwX7_expect vwX7_expect cX7_128 rfl,
  f_g8 (e_dx DX7_readPoints_0 36 rfl) ⟨by decide, by decide⟩,
  f_g19 (e_dx DX7_readPoints_0 37 rfl) rfl,
  ⟨(e_dx DX7_readPoints_0 38 rfl), rfl⟩, trivial⟩
def lX7_readPoints (c_X7_note : Int → e_M → (e_M → Prop) → Prop) (c_X7_expect : Int → e_M → (e_M → Prop) → Prop) (c_X7_takeNumber : e_M → (Int → e_M → Prop) → Prop) (c_X2_addPoint : Nat → Int → Int → e_M → (e_M → Prop) → Prop) : List (Nat × f_Wt) := [(0, f_wm [(20, 7, 12), (1, 0, 0)] (fun ar M R => c_X7_note (f_vi (f_nth ar 1)) M (fun M => R none M))), (1, f_wm [(20, 7, 12), (1, 0, 0)] (fun ar M R => c_X7_expect (f_vi (f_nth ar 1)) M (fun M => R none M))), (2, f_wm [(20, 7, 12)] (fun ar M R => c_X7_takeNumber  M (fun r M => R (some (.inl r)) M))), (3, f_wm [(3, 2, 19), (1, 0, 0), (1, 0, 0)] (fun ar M R => c_X2_addPoint (f_va (f_nth ar 0)) (f_vi (f_nth ar 1)) (f_vi (f_nth ar 2)) M (fun M => R none M)))]
set_option maxRecDepth 20000 in
theorem BX7_readPoints_2 {sh : Nat → Nat × Nat} {t : Nat} {rm : Nat × Nat × Nat} {cs : Nat × Nat} {R : f_Rt} {c_X7_note : Int → e_M → (e_M → Prop) → Prop} {c_X7_expect : Int → e_M → (e_M → Prop) → Prop} {c_X7_takeNumber : e_M → (Int → e_M → Prop) → Prop} {c_X2_addPoint : Nat → Int → Int → e_M → (e_M → Prop) → Prop} {k24 : Int → e_M → Prop} {x1 : Int} {M : e_M} (C : f_Hy sh t yX7_readPoints rm cs 7 (lX7_readPoints c_X7_note c_X7_expect c_X7_takeNumber c_X2_addPoint) R) (h24 : ∀ (x1 : Int) (M : e_M), k24 x1 M → f_E sh t YX7_readPoints rm cs (f_Q sh t R) 24 [.inr (.inr (.inl (7, 12, 10))), .inl x1, .inr (.inr (.inr ()))] [] M) (h : VX7_readPoints_2 c_X7_note c_X7_expect c_X7_takeNumber c_X2_addPoint k24 (fun M => R none M) x1 M) : f_E sh t YX7_readPoints rm cs (f_Q sh t R) 2 [.inr (.inr (.inl (7, 12, 10))), .inl x1, .inr (.inr (.inr ()))] [] M :=
  f_go (KC := f_kc [(24, f_pl [(20, 7, 12), (1, 0, 0), (0, 0, 0)] [] (fun ls st M => k24 (f_vi (f_nth ls 1)) M))]) C qX7_readPointsf (f_kc_cons (f_pl_ok rfl (fun ls st M h => h24 _ M h)) f_kc_nil) 44 3 h
set_option maxRecDepth 20000 in
theorem BX7_readPoints_24 {sh : Nat → Nat × Nat} {t : Nat} {rm : Nat × Nat × Nat} {cs : Nat × Nat} {R : f_Rt} {c_X7_note : Int → e_M → (e_M → Prop) → Prop} {c_X7_expect : Int → e_M → (e_M → Prop) → Prop} {c_X7_takeNumber : e_M → (Int → e_M → Prop) → Prop} {c_X2_addPoint : Nat → Int → Int → e_M → (e_M → Prop) → Prop} {k35 : Int → e_M → Prop} {x1 : Int} {M : e_M} (C : f_Hy sh t yX7_readPoints rm cs 7 (lX7_readPoints c_X7_note c_X7_expect c_X7_takeNumber c_X2_addPoint) R) (h35 : ∀ (x1 : Int) (M : e_M), k35 x1 M → f_E sh t YX7_readPoints rm cs (f_Q sh t R) 35 [.inr (.inr (.inl (7, 12, 10))), .inl x1, .inr (.inr (.inr ()))] [] M) (h : VX7_readPoints_24 c_X7_note c_X7_expect c_X7_takeNumber c_X2_addPoint k35 (fun M => R none M) x1 M) : f_E sh t YX7_readPoints rm cs (f_Q sh t R) 24 [.inr (.inr (.inl (7, 12, 10))), .inl x1, .inr (.inr (.inr ()))] [] M :=
  f_go (KC := f_kc [(35, f_pl [(20, 7, 12), (1, 0, 0), (0, 0, 0)] [] (fun ls st M => k35 (f_vi (f_nth ls 1)) M))]) C qX7_readPointsf (f_kc_cons (f_pl_ok rfl (fun ls st M h => h35 _ M h)) f_kc_nil) 44 14 h
set_option maxRecDepth 20000 in
theorem BX7_readPoints_35 {sh : Nat → Nat × Nat} {t : Nat} {rm : Nat × Nat × Nat} {cs : Nat × Nat} {R : f_Rt} {c_X7_note : Int → e_M → (e_M → Prop) → Prop} {c_X7_expect : Int → e_M → (e_M → Prop) → Prop} {c_X7_takeNumber : e_M → (Int → e_M → Prop) → Prop} {c_X2_addPoint : Nat → Int → Int → e_M → (e_M → Prop) → Prop} {k2 : Int → e_M → Prop} {x1 : Int} {M : e_M} (C : f_Hy sh t yX7_readPoints rm cs 7 (lX7_readPoints c_X7_note c_X7_expect c_X7_takeNumber c_X2_addPoint) R) (h2 : ∀ (x1 : Int) (M : e_M), k2 x1 M → f_E sh t YX7_readPoints rm cs (f_Q sh t R) 2 [.inr (.inr (.inl (7, 12, 10))), .inl x1, .inr (.inr (.inr ()))] [] M) (h : VX7_readPoints_35 c_X7_note c_X7_expect c_X7_takeNumber c_X2_addPoint k2 (fun M => R none M) x1 M) : f_E sh t YX7_readPoints rm cs (f_Q sh t R) 35 [.inr (.inr (.inl (7, 12, 10))), .inl x1, .inr (.inr (.inr ()))] [] M :=
  f_go (KC := f_kc [(2, f_pl [(20, 7, 12), (1, 0, 0), (0, 0, 0)] [] (fun ls st M => k2 (f_vi (f_nth ls 1)) M))]) C qX7_readPointsf (f_kc_cons (f_pl_ok rfl (fun ls st M h => h2 _ M h)) f_kc_nil) 44 21 h
set_option maxRecDepth 20000 in
theorem BX7_readPoints {sh : Nat → Nat × Nat} {t : Nat} {rm : Nat × Nat × Nat} {cs : Nat × Nat} {R : f_Rt} {c_X7_note : Int → e_M → (e_M → Prop) → Prop} {c_X7_expect : Int → e_M → (e_M → Prop) → Prop} {c_X7_takeNumber : e_M → (Int → e_M → Prop) → Prop} {c_X2_addPoint : Nat → Int → Int → e_M → (e_M → Prop) → Prop} {k2 : Int → e_M → Prop} {M : e_M} (C : f_Hy sh t yX7_readPoints rm cs 7 (lX7_readPoints c_X7_note c_X7_expect c_X7_takeNumber c_X2_addPoint) R) (h2 : ∀ (x1 : Int) (M : e_M), k2 x1 M → f_E sh t YX7_readPoints rm cs (f_Q sh t R) 2 [.inr (.inr (.inl (7, 12, 10))), .inl x1, .inr (.inr (.inr ()))] [] M) (h : VX7_readPoints c_X7_note c_X7_expect c_X7_takeNumber c_X2_addPoint k2 (fun M => R none M) M) : f_E sh t YX7_readPoints rm cs (f_Q sh t R) 0 [.inr (.inr (.inl (7, 12, 10))), .inr (.inr (.inr ())), .inr (.inr (.inr ()))] [] M :=
  f_go (KC := f_kc [(2, f_pl [(20, 7, 12), (1, 0, 0), (0, 0, 0)] [] (fun ls st M => k2 (f_vi (f_nth ls 1)) M))]) C qX7_readPointsf (f_kc_cons (f_pl_ok rfl (fun ls st M h => h2 _ M h)) f_kc_nil) 44 0 h
def WX7_readPoints_35 (H2 : Int → e_M → Prop) (Q : e_M → Prop) (x1 : Int) (M : e_M) : Prop :=
  VX7_readPoints_35 WX7_note WX7_expect WX7_takeNumber WX2_addPoint H2 Q x1 M
def WX7_readPoints_24 (H2 : Int → e_M → Prop) (Q : e_M → Prop) (x1 : Int) (M : e_M) : Prop :=
  VX7_readPoints_24 WX7_note WX7_expect WX7_takeNumber WX2_addPoint (WX7_readPoints_35 H2 Q) Q x1 M
def WX7_readPoints_2 (Q : e_M → Prop) : Nat → Int → e_M → Prop
  | 0, _, _ => False
  | n + 1, x1, M =>
    VX7_readPoints_2 WX7_note WX7_expect WX7_takeNumber WX2_addPoint (WX7_readPoints_24 (WX7_readPoints_2 Q n) Q) Q x1 M
def WX7_readPoints (M : e_M) (Q : e_M → Prop) : Prop :=
  VX7_readPoints WX7_note WX7_expect WX7_takeNumber WX2_addPoint (fun x1 M => ∃ j, WX7_readPoints_2 Q j x1 M) Q M
theorem PX7_readPoints_35 {sh : Nat → Nat × Nat} {t : Nat} {rm : Nat × Nat × Nat} {cs : Nat × Nat} {R : f_Rt} {H2 : Int → e_M → Prop} {x1 : Int} {M : e_M} (C : f_Hy sh t yX7_readPoints rm cs 7 (lX7_readPoints WX7_note WX7_expect WX7_takeNumber WX2_addPoint) R) (g2 : ∀ (x1 : Int) (M : e_M), H2 x1 M → f_E sh t YX7_readPoints rm cs (f_Q sh t R) 2 [.inr (.inr (.inl (7, 12, 10))), .inl x1, .inr (.inr (.inr ()))] [] M) (h : WX7_readPoints_35 H2 (fun M => R none M) x1 M) : f_E sh t YX7_readPoints rm cs (f_Q sh t R) 35 [.inr (.inr (.inl (7, 12, 10))), .inl x1, .inr (.inr (.inr ()))] [] M :=
  BX7_readPoints_35 C g2 h
theorem PX7_readPoints_24 {sh : Nat → Nat × Nat} {t : Nat} {rm : Nat × Nat × Nat} {cs : Nat × Nat} {R : f_Rt} {H2 : Int → e_M → Prop} {x1 : Int} {M : e_M} (C : f_Hy sh t yX7_readPoints rm cs 7 (lX7_readPoints WX7_note WX7_expect WX7_takeNumber WX2_addPoint) R) (g2 : ∀ (x1 : Int) (M : e_M), H2 x1 M → f_E sh t YX7_readPoints rm cs (f_Q sh t R) 2 [.inr (.inr (.inl (7, 12, 10))), .inl x1, .inr (.inr (.inr ()))] [] M) (h : WX7_readPoints_24 H2 (fun M => R none M) x1 M) : f_E sh t YX7_readPoints rm cs (f_Q sh t R) 24 [.inr (.inr (.inl (7, 12, 10))), .inl x1, .inr (.inr (.inr ()))] [] M :=
  BX7_readPoints_24 C (fun x1 M h => PX7_readPoints_35 C g2 h) h
theorem PX7_readPoints_2 {sh : Nat → Nat × Nat} {t : Nat} {rm : Nat × Nat × Nat} {cs : Nat × Nat} {R : f_Rt} (C : f_Hy sh t yX7_readPoints rm cs 7 (lX7_readPoints WX7_note WX7_expect WX7_takeNumber WX2_addPoint) R) : ∀ (n : Nat) (x1 : Int) (M : e_M), WX7_readPoints_2 (fun M => R none M) n x1 M → f_E sh t YX7_readPoints rm cs (f_Q sh t R) 2 [.inr (.inr (.inl (7, 12, 10))), .inl x1, .inr (.inr (.inr ()))] [] M := by
  intro n
  induction n with
  | zero => intro x1 M h; exact h.elim
  | succ n ih => intro x1 M h; exact BX7_readPoints_2 C (fun x1 M h => PX7_readPoints_24 C ih h) h
theorem PX7_readPoints {sh : Nat → Nat × Nat} {t : Nat} {rm : Nat × Nat × Nat} {cs : Nat × Nat} {R : f_Rt} {M : e_M} (C : f_Hy sh t yX7_readPoints rm cs 7 (lX7_readPoints WX7_note WX7_expect WX7_takeNumber WX2_addPoint) R) (h : WX7_readPoints M (fun M => R none M)) : f_E sh t YX7_readPoints rm cs (f_Q sh t R) 0 [.inr (.inr (.inl (7, 12, 10))), .inr (.inr (.inr ())), .inr (.inr (.inr ()))] [] M :=
  BX7_readPoints C (fun x1 M ⟨j, h⟩ => PX7_readPoints_2 C j _ _ h) h
def wX7_readPoints : f_Wt := f_wm [(20, 7, 12)] (fun ar M R => WX7_readPoints M (fun M => R none M))
theorem TX7_readPoints {sh : Nat → Nat × Nat} {t : Nat} : f_Mt sh t YX7_readPoints 7 (wX7_readPoints) :=
  f_Mt_of (k := 2) (Nat.le_of_ble_eq_true rfl) rfl rfl (fun ar M R rm cs h1 h2 h3 hX h => PX7_readPoints ⟨Nat.le_of_ble_eq_true rfl, h1, h2, h3, ⟨(f_Mt.up (Nat.le_of_ble_eq_true rfl) TX7_note), (f_Mt.up (Nat.le_of_ble_eq_true rfl) TX7_expect), (f_Mt.up (Nat.le_of_ble_eq_true rfl) TX7_takeNumber), (f_Mt.up (Nat.le_of_ble_eq_true rfl) TX2_addPoint), trivial⟩, hX⟩ h)
def VX7_readOfLots_58 (c_X7_named : Int → e_M → (e_M → Prop) → Prop) (c_X7_expect : Int → e_M → (e_M → Prop) → Prop) (c_X7_readShare : e_M → (e_M → Prop) → Prop) (c_X7_readParts : e_M → (e_M → Prop) → Prop) (c_X7_readPrice : e_M → (e_M → Prop) → Prop) (c_X7_readPoints : e_M → (e_M → Prop) → Prop) (Q : e_M → Prop) (M : e_M) : Prop :=
  (c_X7_expect 225 M (fun M1 => (c_X7_readParts M1 (fun M2 => (c_X7_readPrice M2 (fun M3 => (Q M3)))))))
def VX7_readOfLots (c_X7_named : Int → e_M → (e_M → Prop) → Prop) (c_X7_expect : Int → e_M → (e_M → Prop) → Prop) (c_X7_readShare : e_M → (e_M → Prop) → Prop) (c_X7_readParts : e_M → (e_M → Prop) → Prop) (c_X7_readPrice : e_M → (e_M → Prop) → Prop) (c_X7_readPoints : e_M → (e_M → Prop) → Prop) (k58 : e_M → Prop) (Q : e_M → Prop) (x1 : Int) (M : e_M) : Prop :=
  (c_X7_named 0 M (fun M1 => ((¬ x1 = 205 → ((¬ x1 = 206 → (c_X7_expect 44 M1 (fun M2 => (c_X7_named 0 M2 (fun M3 => ((¬ x1 = 207 → (c_X7_expect 227 M3 (fun M4 => (c_X7_readPoints M4 (fun M5 => (Q M5)))))) ∧ (x1 = 207 → (c_X7_expect 230 M3 (fun M6 => (c_X7_named 10 M6 (fun M7 => (Q M7)))))))))))) ∧ (x1 = 206 → (c_X7_expect 227 M1 (fun M8 => (c_X7_readPoints M8 (fun M9 => (c_X7_expect 230 M9 (fun M10 => (c_X7_named 10 M10 (fun M11 => (c_X7_expect 44 M11 (fun M12 => (c_X7_named 10 M12 (fun M13 => (Q M13)))))))))))))))) ∧ (x1 = 205 → (c_X7_expect 228 M1 (fun M14 => (c_X7_named 1 M14 (fun M15 => ((¬ (M15 10 6) = 3 → (k58 M15)) ∧ ((M15 10 6) = 3 → (c_X7_readShare M15 (fun M16 => (∀ M17 : e_M, M17 = e_up M16 ((M16 10 9).toNat) 11 (M16 10 10) → (∀ M18 : e_M, M18 = e_up M17 ((M17 10 9).toNat) 12 (M17 10 11) → (k58 M18)))))))))))))))
def yX7_readOfLots (i : Nat) : e_Y := x_get YX7_readOfLots [YX7_named, YX7_expect, YX7_readShare, YX7_readParts, YX7_readPrice, YX7_readPoints] i
def pX7_readOfLotsf : List x_I := [(0, 4, 1, 0, 0, 0, []), (1, 0, 1, 0, 0, 0, []), (2, 40, 0, 2, 9, 0, []), (5, 2, 1, 1, 0, 0, []), (6, 0, 3, 0, 0, 205, []), (9, 18, 76, 1, 38, 0, []), (12, 4, 1, 0, 0, 0, []), (13, 0, 3, 0, 0, 228, []), (16, 40, 1, 2, 9, 0, []), (19, 4, 1, 0, 0, 0, []), (20, 0, 1, 0, 0, 1, []), (21, 40, 0, 2, 9, 0, []), (24, 4, 1, 0, 0, 0, []), (25, 25, 7, 6, 0, 0, []), (28, 0, 1, 0, 0, 3, []), (29, 18, 58, 1, 29, 0, []), (32, 4, 1, 0, 0, 0, []), (33, 40, 2, 1, 9, 0, []), (36, 4, 1, 0, 0, 0, []), (37, 25, 7, 9, 4, 0, [(0, 2, 19), (0, 0, 0)]), (40, 4, 1, 0, 0, 0, []), (41, 25, 7, 10, 3, 0, []), (44, 26, 2, 11, 3, 0, []), (47, 4, 1, 0, 0, 0, []), (48, 25, 7, 9, 4, 0, [(0, 2, 19), (0, 0, 0)]), (51, 4, 1, 0, 0, 0, []), (52, 25, 7, 11, 3, 0, []), (55, 26, 2, 12, 3, 0, []), (58, 49, 0, 0, 0, 0, []), (58, 4, 1, 0, 0, 0, []), (59, 0, 3, 0, 0, 225, []), (62, 40, 1, 2, 9, 0, []), (65, 4, 1, 0, 0, 0, []), (66, 40, 3, 1, 9, 0, []), (69, 4, 1, 0, 0, 0, []), (70, 40, 4, 1, 9, 0, []), (73, 19, 167, 0, 80, 0, []), (76, 2, 1, 1, 0, 0, []), (77, 0, 3, 0, 0, 206, []), (80, 18, 122, 1, 59, 0, []), (83, 4, 1, 0, 0, 0, []), (84, 0, 3, 0, 0, 227, []), (87, 40, 1, 2, 9, 0, []), (90, 4, 1, 0, 0, 0, []), (91, 40, 5, 1, 9, 0, []), (94, 4, 1, 0, 0, 0, []), (95, 0, 3, 0, 0, 230, []), (98, 40, 1, 2, 9, 0, []), (101, 4, 1, 0, 0, 0, []), (102, 0, 2, 0, 0, 10, []), (104, 40, 0, 2, 9, 0, []), (107, 4, 1, 0, 0, 0, []), (108, 0, 2, 0, 0, 44, []), (110, 40, 1, 2, 9, 0, []), (113, 4, 1, 0, 0, 0, []), (114, 0, 2, 0, 0, 10, []), (116, 40, 0, 2, 9, 0, []), (119, 19, 167, 0, 80, 0, []), (122, 4, 1, 0, 0, 0, []), (123, 0, 2, 0, 0, 44, []), (125, 40, 1, 2, 9, 0, []), (128, 4, 1, 0, 0, 0, []), (129, 0, 1, 0, 0, 0, []), (130, 40, 0, 2, 9, 0, []), (133, 2, 1, 1, 0, 0, []), (134, 0, 3, 0, 0, 207, []), (137, 18, 156, 1, 75, 0, []), (140, 4, 1, 0, 0, 0, []), (141, 0, 3, 0, 0, 230, []), (144, 40, 1, 2, 9, 0, []), (147, 4, 1, 0, 0, 0, []), (148, 0, 2, 0, 0, 10, []), (150, 40, 0, 2, 9, 0, []), (153, 19, 167, 0, 80, 0, []), (156, 4, 1, 0, 0, 0, []), (157, 0, 3, 0, 0, 227, []), (160, 40, 1, 2, 9, 0, []), (163, 4, 1, 0, 0, 0, []), (164, 40, 5, 1, 9, 0, []), (167, 44, 0, 0, 0, 0, [])]
set_option maxRecDepth 20000 in
theorem qX7_readOfLotsf : f_all yX7_readOfLots YX7_readOfLots pX7_readOfLotsf :=
  ⟨f_aload_n (n := 0) (e_dx DX7_readOfLots_0 0 rfl) rfl,
  f_iconst (e_dx DX7_readOfLots_0 1 rfl) ⟨by decide, by decide⟩,
  x_callV (e_dx DX7_readOfLots_0 2 rfl) mwX7_named vwX7_named cX7_178 rfl,
  f_iload_n (n := 1) (e_dx DX7_readOfLots_0 3 rfl) rfl,
  f_sipush (e_dx DX7_readOfLots_0 4 rfl) ⟨by decide, by decide⟩,
  f_icmp_ne (e_dx DX7_readOfLots_0 5 rfl) rfl,
  f_aload_n (n := 0) (e_dx DX7_readOfLots_0 6 rfl) rfl,
  f_sipush (e_dx DX7_readOfLots_0 7 rfl) ⟨by decide, by decide⟩,
  x_callV (e_dx DX7_readOfLots_0 8 rfl) mwX7_expect vwX7_expect cX7_128 rfl,
  f_aload_n (n := 0) (e_dx DX7_readOfLots_0 9 rfl) rfl,
  f_iconst (e_dx DX7_readOfLots_0 10 rfl) ⟨by decide, by decide⟩,
  x_callV (e_dx DX7_readOfLots_0 11 rfl) mwX7_named vwX7_named cX7_178 rfl,
  f_aload_n (n := 0) (e_dx DX7_readOfLots_0 12 rfl) rfl,
  f_getf (e_dx DX7_readOfLots_0 13 rfl) fX7_32 rfl (by decide) (by decide) (by decide),
  f_iconst (e_dx DX7_readOfLots_0 14 rfl) ⟨by decide, by decide⟩,
  f_icmp_ne (e_dx DX7_readOfLots_0 15 rfl) rfl,
  f_aload_n (n := 0) (e_dx DX7_readOfLots_0 16 rfl) rfl,
  x_callV (e_dx DX7_readOfLots_0 17 rfl) mwX7_readShare vwX7_readShare cX7_187 rfl,
  f_aload_n (n := 0) (e_dx DX7_readOfLots_0 18 rfl) rfl,
  f_getA (e_dx DX7_readOfLots_0 19 rfl) fX7_44 rfl (by decide) (Nat.le_of_ble_eq_true rfl) rfl (by decide),
  f_aload_n (n := 0) (e_dx DX7_readOfLots_0 20 rfl) rfl,
  f_getL (e_dx DX7_readOfLots_0 21 rfl) fX7_48 rfl (by decide),
  f_putn (e_dx DX7_readOfLots_0 22 rfl) fX7_190 (fun q hq => by cases hq; rfl) rfl (Or.inr (Or.inr rfl)) (by decide),
  f_aload_n (n := 0) (e_dx DX7_readOfLots_0 23 rfl) rfl,
  f_getA (e_dx DX7_readOfLots_0 24 rfl) fX7_44 rfl (by decide) (Nat.le_of_ble_eq_true rfl) rfl (by decide),
  f_aload_n (n := 0) (e_dx DX7_readOfLots_0 25 rfl) rfl,
  f_getL (e_dx DX7_readOfLots_0 26 rfl) fX7_52 rfl (by decide),
  f_putn (e_dx DX7_readOfLots_0 27 rfl) fX7_193 (fun q hq => by cases hq; rfl) rfl (Or.inr (Or.inr rfl)) (by decide),
  trivial,
  f_aload_n (n := 0) (e_dx DX7_readOfLots_0 28 rfl) rfl,
  f_sipush (e_dx DX7_readOfLots_0 29 rfl) ⟨by decide, by decide⟩,
  x_callV (e_dx DX7_readOfLots_0 30 rfl) mwX7_expect vwX7_expect cX7_128 rfl,
  f_aload_n (n := 0) (e_dx DX7_readOfLots_0 31 rfl) rfl,
  x_callV (e_dx DX7_readOfLots_0 32 rfl) mwX7_readParts vwX7_readParts cX7_184 rfl,
  f_aload_n (n := 0) (e_dx DX7_readOfLots_0 33 rfl) rfl,
  x_callV (e_dx DX7_readOfLots_0 34 rfl) mwX7_readPrice vwX7_readPrice cX7_196 rfl,
  f_g19 (e_dx DX7_readOfLots_0 35 rfl) rfl,
  f_iload_n (n := 1) (e_dx DX7_readOfLots_0 36 rfl) rfl,
  f_sipush (e_dx DX7_readOfLots_0 37 rfl) ⟨by decide, by decide⟩,
  f_icmp_ne (e_dx DX7_readOfLots_0 38 rfl) rfl,
  f_aload_n (n := 0) (e_dx DX7_readOfLots_0 39 rfl) rfl,
  f_sipush (e_dx DX7_readOfLots_1 0 rfl) ⟨by decide, by decide⟩,
  x_callV (e_dx DX7_readOfLots_1 1 rfl) mwX7_expect vwX7_expect cX7_128 rfl,
  f_aload_n (n := 0) (e_dx DX7_readOfLots_1 2 rfl) rfl,
  x_callV (e_dx DX7_readOfLots_1 3 rfl) mwX7_readPoints vwX7_readPoints cX7_199 rfl,
  f_aload_n (n := 0) (e_dx DX7_readOfLots_1 4 rfl) rfl,
  f_sipush (e_dx DX7_readOfLots_1 5 rfl) ⟨by decide, by decide⟩,
  x_callV (e_dx DX7_readOfLots_1 6 rfl) mwX7_expect vwX7_expect cX7_128 rfl,
  f_aload_n (n := 0) (e_dx DX7_readOfLots_1 7 rfl) rfl,
  f_bipush (e_dx DX7_readOfLots_1 8 rfl) ⟨by decide, by decide⟩,
  x_callV (e_dx DX7_readOfLots_1 9 rfl) mwX7_named vwX7_named cX7_178 rfl,
  f_aload_n (n := 0) (e_dx DX7_readOfLots_1 10 rfl) rfl,
  f_bipush (e_dx DX7_readOfLots_1 11 rfl) ⟨by decide, by decide⟩,
  x_callV (e_dx DX7_readOfLots_1 12 rfl) mwX7_expect vwX7_expect cX7_128 rfl,
  f_aload_n (n := 0) (e_dx DX7_readOfLots_1 13 rfl) rfl,
  f_bipush (e_dx DX7_readOfLots_1 14 rfl) ⟨by decide, by decide⟩,
  x_callV (e_dx DX7_readOfLots_1 15 rfl) mwX7_named vwX7_named cX7_178 rfl,
  f_g19 (e_dx DX7_readOfLots_1 16 rfl) rfl,
  f_aload_n (n := 0) (e_dx DX7_readOfLots_1 17 rfl) rfl,
  f_bipush (e_dx DX7_readOfLots_1 18 rfl) ⟨by decide, by decide⟩,
  x_callV (e_dx DX7_readOfLots_1 19 rfl) mwX7_expect vwX7_expect cX7_128 rfl,
  f_aload_n (n := 0) (e_dx DX7_readOfLots_1 20 rfl) rfl,
  f_iconst (e_dx DX7_readOfLots_1 21 rfl) ⟨by decide, by decide⟩,
  x_callV (e_dx DX7_readOfLots_1 22 rfl) mwX7_named vwX7_named cX7_178 rfl,
  f_iload_n (n := 1) (e_dx DX7_readOfLots_1 23 rfl) rfl,
  f_sipush (e_dx DX7_readOfLots_1 24 rfl) ⟨by decide, by decide⟩,
  f_icmp_ne (e_dx DX7_readOfLots_1 25 rfl) rfl,
  f_aload_n (n := 0) (e_dx DX7_readOfLots_1 26 rfl) rfl,
  f_sipush (e_dx DX7_readOfLots_1 27 rfl) ⟨by decide, by decide⟩,
  x_callV (e_dx DX7_readOfLots_1 28 rfl) mwX7_expect vwX7_expect cX7_128 rfl,
  f_aload_n (n := 0) (e_dx DX7_readOfLots_1 29 rfl) rfl,
  f_bipush (e_dx DX7_readOfLots_1 30 rfl) ⟨by decide, by decide⟩,
  x_callV (e_dx DX7_readOfLots_1 31 rfl) mwX7_named vwX7_named cX7_178 rfl,
  f_g19 (e_dx DX7_readOfLots_1 32 rfl) rfl,
  f_aload_n (n := 0) (e_dx DX7_readOfLots_1 33 rfl) rfl,
  f_sipush (e_dx DX7_readOfLots_1 34 rfl) ⟨by decide, by decide⟩,
  x_callV (e_dx DX7_readOfLots_1 35 rfl) mwX7_expect vwX7_expect cX7_128 rfl,
  f_aload_n (n := 0) (e_dx DX7_readOfLots_1 36 rfl) rfl,
  x_callV (e_dx DX7_readOfLots_1 37 rfl) mwX7_readPoints vwX7_readPoints cX7_199 rfl,
  ⟨(e_dx DX7_readOfLots_1 38 rfl), rfl⟩, trivial⟩
def lX7_readOfLots (c_X7_named : Int → e_M → (e_M → Prop) → Prop) (c_X7_expect : Int → e_M → (e_M → Prop) → Prop) (c_X7_readShare : e_M → (e_M → Prop) → Prop) (c_X7_readParts : e_M → (e_M → Prop) → Prop) (c_X7_readPrice : e_M → (e_M → Prop) → Prop) (c_X7_readPoints : e_M → (e_M → Prop) → Prop) : List (Nat × f_Wt) := [(0, f_wm [(20, 7, 12), (1, 0, 0)] (fun ar M R => c_X7_named (f_vi (f_nth ar 1)) M (fun M => R none M))), (1, f_wm [(20, 7, 12), (1, 0, 0)] (fun ar M R => c_X7_expect (f_vi (f_nth ar 1)) M (fun M => R none M))), (2, f_wm [(20, 7, 12)] (fun ar M R => c_X7_readShare  M (fun M => R none M))), (3, f_wm [(20, 7, 12)] (fun ar M R => c_X7_readParts  M (fun M => R none M))), (4, f_wm [(20, 7, 12)] (fun ar M R => c_X7_readPrice  M (fun M => R none M))), (5, f_wm [(20, 7, 12)] (fun ar M R => c_X7_readPoints  M (fun M => R none M)))]
set_option maxRecDepth 20000 in
theorem BX7_readOfLots_58 {sh : Nat → Nat × Nat} {t : Nat} {rm : Nat × Nat × Nat} {cs : Nat × Nat} {R : f_Rt} {c_X7_named : Int → e_M → (e_M → Prop) → Prop} {c_X7_expect : Int → e_M → (e_M → Prop) → Prop} {c_X7_readShare : e_M → (e_M → Prop) → Prop} {c_X7_readParts : e_M → (e_M → Prop) → Prop} {c_X7_readPrice : e_M → (e_M → Prop) → Prop} {c_X7_readPoints : e_M → (e_M → Prop) → Prop} {M : e_M} (C : f_Hy sh t yX7_readOfLots rm cs 8 (lX7_readOfLots c_X7_named c_X7_expect c_X7_readShare c_X7_readParts c_X7_readPrice c_X7_readPoints) R) (h : VX7_readOfLots_58 c_X7_named c_X7_expect c_X7_readShare c_X7_readParts c_X7_readPrice c_X7_readPoints (fun M => R none M) M) : f_E sh t YX7_readOfLots rm cs (f_Q sh t R) 58 [.inr (.inr (.inl (7, 12, 10))), .inr (.inr (.inr ()))] [] M :=
  f_go (KC := f_kc []) C qX7_readOfLotsf f_kc_nil 82 29 h
set_option maxRecDepth 20000 in
theorem BX7_readOfLots {sh : Nat → Nat × Nat} {t : Nat} {rm : Nat × Nat × Nat} {cs : Nat × Nat} {R : f_Rt} {c_X7_named : Int → e_M → (e_M → Prop) → Prop} {c_X7_expect : Int → e_M → (e_M → Prop) → Prop} {c_X7_readShare : e_M → (e_M → Prop) → Prop} {c_X7_readParts : e_M → (e_M → Prop) → Prop} {c_X7_readPrice : e_M → (e_M → Prop) → Prop} {c_X7_readPoints : e_M → (e_M → Prop) → Prop} {k58 : e_M → Prop} {x1 : Int} {M : e_M} (C : f_Hy sh t yX7_readOfLots rm cs 8 (lX7_readOfLots c_X7_named c_X7_expect c_X7_readShare c_X7_readParts c_X7_readPrice c_X7_readPoints) R) (h58 : ∀ (M : e_M), k58 M → f_E sh t YX7_readOfLots rm cs (f_Q sh t R) 58 [.inr (.inr (.inl (7, 12, 10))), .inr (.inr (.inr ()))] [] M) (h : VX7_readOfLots c_X7_named c_X7_expect c_X7_readShare c_X7_readParts c_X7_readPrice c_X7_readPoints k58 (fun M => R none M) x1 M) : f_E sh t YX7_readOfLots rm cs (f_Q sh t R) 0 [.inr (.inr (.inl (7, 12, 10))), .inl x1] [] M :=
  f_go (KC := f_kc [(58, f_pl [(20, 7, 12), (0, 0, 0)] [] (fun ls st M => k58 M))]) C qX7_readOfLotsf (f_kc_cons (f_pl_ok rfl (fun ls st M h => h58  M h)) f_kc_nil) 82 0 h
def WX7_readOfLots_58 (Q : e_M → Prop) (M : e_M) : Prop :=
  VX7_readOfLots_58 WX7_named WX7_expect WX7_readShare WX7_readParts WX7_readPrice WX7_readPoints Q M
def WX7_readOfLots (x1 : Int) (M : e_M) (Q : e_M → Prop) : Prop :=
  VX7_readOfLots WX7_named WX7_expect WX7_readShare WX7_readParts WX7_readPrice WX7_readPoints (WX7_readOfLots_58 Q) Q x1 M
theorem PX7_readOfLots_58 {sh : Nat → Nat × Nat} {t : Nat} {rm : Nat × Nat × Nat} {cs : Nat × Nat} {R : f_Rt} {M : e_M} (C : f_Hy sh t yX7_readOfLots rm cs 8 (lX7_readOfLots WX7_named WX7_expect WX7_readShare WX7_readParts WX7_readPrice WX7_readPoints) R) (h : WX7_readOfLots_58 (fun M => R none M) M) : f_E sh t YX7_readOfLots rm cs (f_Q sh t R) 58 [.inr (.inr (.inl (7, 12, 10))), .inr (.inr (.inr ()))] [] M :=
  BX7_readOfLots_58 C h
theorem PX7_readOfLots {sh : Nat → Nat × Nat} {t : Nat} {rm : Nat × Nat × Nat} {cs : Nat × Nat} {R : f_Rt} {x1 : Int} {M : e_M} (C : f_Hy sh t yX7_readOfLots rm cs 8 (lX7_readOfLots WX7_named WX7_expect WX7_readShare WX7_readParts WX7_readPrice WX7_readPoints) R) (h : WX7_readOfLots x1 M (fun M => R none M)) : f_E sh t YX7_readOfLots rm cs (f_Q sh t R) 0 [.inr (.inr (.inl (7, 12, 10))), .inl x1] [] M :=
  BX7_readOfLots C (fun M h => PX7_readOfLots_58 C h) h
def wX7_readOfLots : f_Wt := f_wm [(20, 7, 12), (1, 0, 0)] (fun ar M R => WX7_readOfLots (f_vi (f_nth ar 1)) M (fun M => R none M))
theorem TX7_readOfLots {sh : Nat → Nat × Nat} {t : Nat} : f_Mt sh t YX7_readOfLots 8 (wX7_readOfLots) :=
  f_Mt_of (k := 0) (Nat.le_of_ble_eq_true rfl) rfl rfl (fun ar M R rm cs h1 h2 h3 hX h => PX7_readOfLots ⟨Nat.le_of_ble_eq_true rfl, h1, h2, h3, ⟨(f_Mt.up (Nat.le_of_ble_eq_true rfl) TX7_named), (f_Mt.up (Nat.le_of_ble_eq_true rfl) TX7_expect), (f_Mt.up (Nat.le_of_ble_eq_true rfl) TX7_readShare), (f_Mt.up (Nat.le_of_ble_eq_true rfl) TX7_readParts), (f_Mt.up (Nat.le_of_ble_eq_true rfl) TX7_readPrice), (f_Mt.up (Nat.le_of_ble_eq_true rfl) TX7_readPoints), trivial⟩, hX⟩ h)
def VX7_readLots_2 (c_X7_note : Int → e_M → (e_M → Prop) → Prop) (c_X7_named : Int → e_M → (e_M → Prop) → Prop) (c_X7_take : e_M → (e_M → Prop) → Prop) (k27 : Int → e_M → Prop) (Q : e_M → Prop) (x1 : Int) (M : e_M) : Prop :=
  ((6 < x1 → (Q M)) ∧ (x1 ≤ 6 → ((¬ x1 = 6 → (k27 x1 M)) ∧ (x1 = 6 → ((¬ (M 10 6) = 4 → (k27 x1 M)) ∧ ((M 10 6) = 4 → (c_X7_note 4 M (fun M1 => (k27 x1 M1)))))))))
def VX7_readLots_27 (c_X7_note : Int → e_M → (e_M → Prop) → Prop) (c_X7_named : Int → e_M → (e_M → Prop) → Prop) (c_X7_take : e_M → (e_M → Prop) → Prop) (k2 : Int → e_M → Prop) (Q : e_M → Prop) (x1 : Int) (M : e_M) : Prop :=
  (c_X7_named 0 M (fun M1 => (((M1 10 6) = 44 → (c_X7_take M1 (fun M2 => (k2 (e_w32 (x1 + 1)) M2)))) ∧ (¬ (M1 10 6) = 44 → (Q M1)))))
def VX7_readLots (c_X7_note : Int → e_M → (e_M → Prop) → Prop) (c_X7_named : Int → e_M → (e_M → Prop) → Prop) (c_X7_take : e_M → (e_M → Prop) → Prop) (k2 : Int → e_M → Prop) (Q : e_M → Prop) (M : e_M) : Prop :=
  (k2 0 M)
def yX7_readLots (i : Nat) : e_Y := x_get YX7_readLots [YX7_note, YX7_named, YX7_take] i
def pX7_readLotsf : List x_I := [(0, 0, 1, 0, 0, 0, []), (1, 5, 1, 1, 0, 0, []), (2, 49, 0, 0, 0, 0, []), (2, 2, 1, 1, 0, 0, []), (3, 0, 2, 0, 0, 6, []), (5, 18, 54, 4, 30, 0, []), (8, 2, 1, 1, 0, 0, []), (9, 0, 2, 0, 0, 6, []), (11, 18, 27, 1, 17, 0, []), (14, 4, 1, 0, 0, 0, []), (15, 25, 7, 6, 0, 0, []), (18, 0, 1, 0, 0, 4, []), (19, 18, 27, 1, 17, 0, []), (22, 4, 1, 0, 0, 0, []), (23, 0, 1, 0, 0, 4, []), (24, 40, 0, 2, 9, 0, []), (27, 49, 0, 0, 0, 0, []), (27, 4, 1, 0, 0, 0, []), (28, 0, 1, 0, 0, 0, []), (29, 40, 1, 2, 9, 0, []), (32, 4, 1, 0, 0, 0, []), (33, 25, 7, 6, 0, 0, []), (36, 0, 2, 0, 0, 44, []), (38, 18, 44, 0, 26, 0, []), (41, 19, 54, 0, 30, 0, []), (44, 4, 1, 0, 0, 0, []), (45, 40, 2, 1, 9, 0, []), (48, 8, 0, 1, 0, 1, []), (51, 19, 2, 0, 3, 0, []), (54, 44, 0, 0, 0, 0, [])]
set_option maxRecDepth 20000 in
theorem qX7_readLotsf : f_all yX7_readLots YX7_readLots pX7_readLotsf :=
  ⟨f_iconst (e_dx DX7_readLots_0 0 rfl) ⟨by decide, by decide⟩,
  f_istore_n (n := 1) (e_dx DX7_readLots_0 1 rfl) rfl (by decide),
  trivial,
  f_iload_n (n := 1) (e_dx DX7_readLots_0 2 rfl) rfl,
  f_bipush (e_dx DX7_readLots_0 3 rfl) ⟨by decide, by decide⟩,
  f_icmp_gt (e_dx DX7_readLots_0 4 rfl) rfl,
  f_iload_n (n := 1) (e_dx DX7_readLots_0 5 rfl) rfl,
  f_bipush (e_dx DX7_readLots_0 6 rfl) ⟨by decide, by decide⟩,
  f_icmp_ne (e_dx DX7_readLots_0 7 rfl) rfl,
  f_aload_n (n := 0) (e_dx DX7_readLots_0 8 rfl) rfl,
  f_getf (e_dx DX7_readLots_0 9 rfl) fX7_32 rfl (by decide) (by decide) (by decide),
  f_iconst (e_dx DX7_readLots_0 10 rfl) ⟨by decide, by decide⟩,
  f_icmp_ne (e_dx DX7_readLots_0 11 rfl) rfl,
  f_aload_n (n := 0) (e_dx DX7_readLots_0 12 rfl) rfl,
  f_iconst (e_dx DX7_readLots_0 13 rfl) ⟨by decide, by decide⟩,
  x_callV (e_dx DX7_readLots_0 14 rfl) mwX7_note vwX7_note cX7_124 rfl,
  trivial,
  f_aload_n (n := 0) (e_dx DX7_readLots_0 15 rfl) rfl,
  f_iconst (e_dx DX7_readLots_0 16 rfl) ⟨by decide, by decide⟩,
  x_callV (e_dx DX7_readLots_0 17 rfl) mwX7_named vwX7_named cX7_178 rfl,
  f_aload_n (n := 0) (e_dx DX7_readLots_0 18 rfl) rfl,
  f_getf (e_dx DX7_readLots_0 19 rfl) fX7_32 rfl (by decide) (by decide) (by decide),
  f_bipush (e_dx DX7_readLots_0 20 rfl) ⟨by decide, by decide⟩,
  f_icmp_eq (e_dx DX7_readLots_0 21 rfl) rfl,
  f_g19 (e_dx DX7_readLots_0 22 rfl) rfl,
  f_aload_n (n := 0) (e_dx DX7_readLots_0 23 rfl) rfl,
  x_callV (e_dx DX7_readLots_0 24 rfl) mwX7_take vwX7_take cX7_121 rfl,
  f_g8 (e_dx DX7_readLots_0 25 rfl) ⟨by decide, by decide⟩,
  f_g19 (e_dx DX7_readLots_0 26 rfl) rfl,
  ⟨(e_dx DX7_readLots_0 27 rfl), rfl⟩, trivial⟩
def lX7_readLots (c_X7_note : Int → e_M → (e_M → Prop) → Prop) (c_X7_named : Int → e_M → (e_M → Prop) → Prop) (c_X7_take : e_M → (e_M → Prop) → Prop) : List (Nat × f_Wt) := [(0, f_wm [(20, 7, 12), (1, 0, 0)] (fun ar M R => c_X7_note (f_vi (f_nth ar 1)) M (fun M => R none M))), (1, f_wm [(20, 7, 12), (1, 0, 0)] (fun ar M R => c_X7_named (f_vi (f_nth ar 1)) M (fun M => R none M))), (2, f_wm [(20, 7, 12)] (fun ar M R => c_X7_take  M (fun M => R none M)))]
set_option maxRecDepth 20000 in
theorem BX7_readLots_2 {sh : Nat → Nat × Nat} {t : Nat} {rm : Nat × Nat × Nat} {cs : Nat × Nat} {R : f_Rt} {c_X7_note : Int → e_M → (e_M → Prop) → Prop} {c_X7_named : Int → e_M → (e_M → Prop) → Prop} {c_X7_take : e_M → (e_M → Prop) → Prop} {k27 : Int → e_M → Prop} {x1 : Int} {M : e_M} (C : f_Hy sh t yX7_readLots rm cs 7 (lX7_readLots c_X7_note c_X7_named c_X7_take) R) (h27 : ∀ (x1 : Int) (M : e_M), k27 x1 M → f_E sh t YX7_readLots rm cs (f_Q sh t R) 27 [.inr (.inr (.inl (7, 12, 10))), .inl x1] [] M) (h : VX7_readLots_2 c_X7_note c_X7_named c_X7_take k27 (fun M => R none M) x1 M) : f_E sh t YX7_readLots rm cs (f_Q sh t R) 2 [.inr (.inr (.inl (7, 12, 10))), .inl x1] [] M :=
  f_go (KC := f_kc [(27, f_pl [(20, 7, 12), (1, 0, 0)] [] (fun ls st M => k27 (f_vi (f_nth ls 1)) M))]) C qX7_readLotsf (f_kc_cons (f_pl_ok rfl (fun ls st M h => h27 _ M h)) f_kc_nil) 32 3 h
set_option maxRecDepth 20000 in
theorem BX7_readLots_27 {sh : Nat → Nat × Nat} {t : Nat} {rm : Nat × Nat × Nat} {cs : Nat × Nat} {R : f_Rt} {c_X7_note : Int → e_M → (e_M → Prop) → Prop} {c_X7_named : Int → e_M → (e_M → Prop) → Prop} {c_X7_take : e_M → (e_M → Prop) → Prop} {k2 : Int → e_M → Prop} {x1 : Int} {M : e_M} (C : f_Hy sh t yX7_readLots rm cs 7 (lX7_readLots c_X7_note c_X7_named c_X7_take) R) (h2 : ∀ (x1 : Int) (M : e_M), k2 x1 M → f_E sh t YX7_readLots rm cs (f_Q sh t R) 2 [.inr (.inr (.inl (7, 12, 10))), .inl x1] [] M) (h : VX7_readLots_27 c_X7_note c_X7_named c_X7_take k2 (fun M => R none M) x1 M) : f_E sh t YX7_readLots rm cs (f_Q sh t R) 27 [.inr (.inr (.inl (7, 12, 10))), .inl x1] [] M :=
  f_go (KC := f_kc [(2, f_pl [(20, 7, 12), (1, 0, 0)] [] (fun ls st M => k2 (f_vi (f_nth ls 1)) M))]) C qX7_readLotsf (f_kc_cons (f_pl_ok rfl (fun ls st M h => h2 _ M h)) f_kc_nil) 32 17 h
set_option maxRecDepth 20000 in
theorem BX7_readLots {sh : Nat → Nat × Nat} {t : Nat} {rm : Nat × Nat × Nat} {cs : Nat × Nat} {R : f_Rt} {c_X7_note : Int → e_M → (e_M → Prop) → Prop} {c_X7_named : Int → e_M → (e_M → Prop) → Prop} {c_X7_take : e_M → (e_M → Prop) → Prop} {k2 : Int → e_M → Prop} {M : e_M} (C : f_Hy sh t yX7_readLots rm cs 7 (lX7_readLots c_X7_note c_X7_named c_X7_take) R) (h2 : ∀ (x1 : Int) (M : e_M), k2 x1 M → f_E sh t YX7_readLots rm cs (f_Q sh t R) 2 [.inr (.inr (.inl (7, 12, 10))), .inl x1] [] M) (h : VX7_readLots c_X7_note c_X7_named c_X7_take k2 (fun M => R none M) M) : f_E sh t YX7_readLots rm cs (f_Q sh t R) 0 [.inr (.inr (.inl (7, 12, 10))), .inr (.inr (.inr ()))] [] M :=
  f_go (KC := f_kc [(2, f_pl [(20, 7, 12), (1, 0, 0)] [] (fun ls st M => k2 (f_vi (f_nth ls 1)) M))]) C qX7_readLotsf (f_kc_cons (f_pl_ok rfl (fun ls st M h => h2 _ M h)) f_kc_nil) 32 0 h
def WX7_readLots_27 (H2 : Int → e_M → Prop) (Q : e_M → Prop) (x1 : Int) (M : e_M) : Prop :=
  VX7_readLots_27 WX7_note WX7_named WX7_take H2 Q x1 M
def WX7_readLots_2 (Q : e_M → Prop) : Nat → Int → e_M → Prop
  | 0, _, _ => False
  | n + 1, x1, M =>
    VX7_readLots_2 WX7_note WX7_named WX7_take (WX7_readLots_27 (WX7_readLots_2 Q n) Q) Q x1 M
def WX7_readLots (M : e_M) (Q : e_M → Prop) : Prop :=
  VX7_readLots WX7_note WX7_named WX7_take (fun x1 M => ∃ j, WX7_readLots_2 Q j x1 M) Q M
theorem PX7_readLots_27 {sh : Nat → Nat × Nat} {t : Nat} {rm : Nat × Nat × Nat} {cs : Nat × Nat} {R : f_Rt} {H2 : Int → e_M → Prop} {x1 : Int} {M : e_M} (C : f_Hy sh t yX7_readLots rm cs 7 (lX7_readLots WX7_note WX7_named WX7_take) R) (g2 : ∀ (x1 : Int) (M : e_M), H2 x1 M → f_E sh t YX7_readLots rm cs (f_Q sh t R) 2 [.inr (.inr (.inl (7, 12, 10))), .inl x1] [] M) (h : WX7_readLots_27 H2 (fun M => R none M) x1 M) : f_E sh t YX7_readLots rm cs (f_Q sh t R) 27 [.inr (.inr (.inl (7, 12, 10))), .inl x1] [] M :=
  BX7_readLots_27 C g2 h
theorem PX7_readLots_2 {sh : Nat → Nat × Nat} {t : Nat} {rm : Nat × Nat × Nat} {cs : Nat × Nat} {R : f_Rt} (C : f_Hy sh t yX7_readLots rm cs 7 (lX7_readLots WX7_note WX7_named WX7_take) R) : ∀ (n : Nat) (x1 : Int) (M : e_M), WX7_readLots_2 (fun M => R none M) n x1 M → f_E sh t YX7_readLots rm cs (f_Q sh t R) 2 [.inr (.inr (.inl (7, 12, 10))), .inl x1] [] M := by
  intro n
  induction n with
  | zero => intro x1 M h; exact h.elim
  | succ n ih => intro x1 M h; exact BX7_readLots_2 C (fun x1 M h => PX7_readLots_27 C ih h) h
theorem PX7_readLots {sh : Nat → Nat × Nat} {t : Nat} {rm : Nat × Nat × Nat} {cs : Nat × Nat} {R : f_Rt} {M : e_M} (C : f_Hy sh t yX7_readLots rm cs 7 (lX7_readLots WX7_note WX7_named WX7_take) R) (h : WX7_readLots M (fun M => R none M)) : f_E sh t YX7_readLots rm cs (f_Q sh t R) 0 [.inr (.inr (.inl (7, 12, 10))), .inr (.inr (.inr ()))] [] M :=
  BX7_readLots C (fun x1 M ⟨j, h⟩ => PX7_readLots_2 C j _ _ h) h
def wX7_readLots : f_Wt := f_wm [(20, 7, 12)] (fun ar M R => WX7_readLots M (fun M => R none M))
theorem TX7_readLots {sh : Nat → Nat × Nat} {t : Nat} : f_Mt sh t YX7_readLots 7 (wX7_readLots) :=
  f_Mt_of (k := 1) (Nat.le_of_ble_eq_true rfl) rfl rfl (fun ar M R rm cs h1 h2 h3 hX h => PX7_readLots ⟨Nat.le_of_ble_eq_true rfl, h1, h2, h3, ⟨(f_Mt.up (Nat.le_of_ble_eq_true rfl) TX7_note), (f_Mt.up (Nat.le_of_ble_eq_true rfl) TX7_named), (f_Mt.up (Nat.le_of_ble_eq_true rfl) TX7_take), trivial⟩, hX⟩ h)
def VX7_readOfCharges (c_X7_named : Int → e_M → (e_M → Prop) → Prop) (c_X7_expect : Int → e_M → (e_M → Prop) → Prop) (c_X7_readLots : e_M → (e_M → Prop) → Prop) (c_X7_readPrice : e_M → (e_M → Prop) → Prop) (Q : e_M → Prop) (x1 : Int) (M : e_M) : Prop :=
  ((¬ x1 = 209 → ((¬ x1 = 210 → ((¬ x1 = 211 → ((¬ x1 = 212 → ((¬ x1 = 213 → (c_X7_named 0 M (fun M1 => (c_X7_expect 227 M1 (fun M2 => (c_X7_named 2 M2 (fun M3 => (c_X7_expect 225 M3 (fun M4 => (c_X7_named 1 M4 (fun M5 => (c_X7_readPrice M5 (fun M6 => (Q M6)))))))))))))) ∧ (x1 = 213 → (c_X7_named 0 M (fun M7 => (c_X7_expect 228 M7 (fun M8 => (c_X7_named 2 M8 (fun M9 => (Q M9)))))))))) ∧ (x1 = 212 → (c_X7_named 2 M (fun M10 => (c_X7_expect 231 M10 (fun M11 => (c_X7_named 2 M11 (fun M12 => (c_X7_expect 224 M12 (fun M13 => (c_X7_named 0 M13 (fun M14 => (Q M14)))))))))))))) ∧ (x1 = 211 → (c_X7_named 2 M (fun M15 => (c_X7_expect 225 M15 (fun M16 => (c_X7_named 1 M16 (fun M17 => (Q M17)))))))))) ∧ (x1 = 210 → (c_X7_named 2 M (fun M18 => (c_X7_readPrice M18 (fun M19 => (Q M19)))))))) ∧ (x1 = 209 → (c_X7_named 10 M (fun M20 => (c_X7_expect 224 M20 (fun M21 => (c_X7_readLots M21 (fun M22 => (c_X7_expect 225 M22 (fun M23 => (c_X7_named 1 M23 (fun M24 => (c_X7_readPrice M24 (fun M25 => (Q M25)))))))))))))))
def yX7_readOfCharges (i : Nat) : e_Y := x_get YX7_readOfCharges [YX7_named, YX7_expect, YX7_readLots, YX7_readPrice] i
def pX7_readOfChargesf : List x_I := [(0, 2, 1, 1, 0, 0, []), (1, 0, 3, 0, 0, 209, []), (4, 18, 43, 1, 21, 0, []), (7, 4, 1, 0, 0, 0, []), (8, 0, 2, 0, 0, 10, []), (10, 40, 0, 2, 9, 0, []), (13, 4, 1, 0, 0, 0, []), (14, 0, 3, 0, 0, 224, []), (17, 40, 1, 2, 9, 0, []), (20, 4, 1, 0, 0, 0, []), (21, 40, 2, 1, 9, 0, []), (24, 4, 1, 0, 0, 0, []), (25, 0, 3, 0, 0, 225, []), (28, 40, 1, 2, 9, 0, []), (31, 4, 1, 0, 0, 0, []), (32, 0, 1, 0, 0, 1, []), (33, 40, 0, 2, 9, 0, []), (36, 4, 1, 0, 0, 0, []), (37, 40, 3, 1, 9, 0, []), (40, 19, 188, 0, 92, 0, []), (43, 2, 1, 1, 0, 0, []), (44, 0, 3, 0, 0, 210, []), (47, 18, 62, 1, 30, 0, []), (50, 4, 1, 0, 0, 0, []), (51, 0, 1, 0, 0, 2, []), (52, 40, 0, 2, 9, 0, []), (55, 4, 1, 0, 0, 0, []), (56, 40, 3, 1, 9, 0, []), (59, 19, 188, 0, 92, 0, []), (62, 2, 1, 1, 0, 0, []), (63, 0, 3, 0, 0, 211, []), (66, 18, 89, 1, 43, 0, []), (69, 4, 1, 0, 0, 0, []), (70, 0, 1, 0, 0, 2, []), (71, 40, 0, 2, 9, 0, []), (74, 4, 1, 0, 0, 0, []), (75, 0, 3, 0, 0, 225, []), (78, 40, 1, 2, 9, 0, []), (81, 4, 1, 0, 0, 0, []), (82, 0, 1, 0, 0, 1, []), (83, 40, 0, 2, 9, 0, []), (86, 19, 188, 0, 92, 0, []), (89, 2, 1, 1, 0, 0, []), (90, 0, 3, 0, 0, 212, []), (93, 18, 128, 1, 62, 0, []), (96, 4, 1, 0, 0, 0, []), (97, 0, 1, 0, 0, 2, []), (98, 40, 0, 2, 9, 0, []), (101, 4, 1, 0, 0, 0, []), (102, 0, 3, 0, 0, 231, []), (105, 40, 1, 2, 9, 0, []), (108, 4, 1, 0, 0, 0, []), (109, 0, 1, 0, 0, 2, []), (110, 40, 0, 2, 9, 0, []), (113, 4, 1, 0, 0, 0, []), (114, 0, 3, 0, 0, 224, []), (117, 40, 1, 2, 9, 0, []), (120, 4, 1, 0, 0, 0, []), (121, 0, 1, 0, 0, 0, []), (122, 40, 0, 2, 9, 0, []), (125, 19, 188, 0, 92, 0, []), (128, 2, 1, 1, 0, 0, []), (129, 0, 3, 0, 0, 213, []), (132, 18, 155, 1, 75, 0, []), (135, 4, 1, 0, 0, 0, []), (136, 0, 1, 0, 0, 0, []), (137, 40, 0, 2, 9, 0, []), (140, 4, 1, 0, 0, 0, []), (141, 0, 3, 0, 0, 228, []), (144, 40, 1, 2, 9, 0, []), (147, 4, 1, 0, 0, 0, []), (148, 0, 1, 0, 0, 2, []), (149, 40, 0, 2, 9, 0, []), (152, 19, 188, 0, 92, 0, []), (155, 4, 1, 0, 0, 0, []), (156, 0, 1, 0, 0, 0, []), (157, 40, 0, 2, 9, 0, []), (160, 4, 1, 0, 0, 0, []), (161, 0, 3, 0, 0, 227, []), (164, 40, 1, 2, 9, 0, []), (167, 4, 1, 0, 0, 0, []), (168, 0, 1, 0, 0, 2, []), (169, 40, 0, 2, 9, 0, []), (172, 4, 1, 0, 0, 0, []), (173, 0, 3, 0, 0, 225, []), (176, 40, 1, 2, 9, 0, []), (179, 4, 1, 0, 0, 0, []), (180, 0, 1, 0, 0, 1, []), (181, 40, 0, 2, 9, 0, []), (184, 4, 1, 0, 0, 0, []), (185, 40, 3, 1, 9, 0, []), (188, 44, 0, 0, 0, 0, [])]
set_option maxRecDepth 20000 in
theorem qX7_readOfChargesf : f_all yX7_readOfCharges YX7_readOfCharges pX7_readOfChargesf :=
  ⟨f_iload_n (n := 1) (e_dx DX7_readOfCharges_0 0 rfl) rfl,
  f_sipush (e_dx DX7_readOfCharges_0 1 rfl) ⟨by decide, by decide⟩,
  f_icmp_ne (e_dx DX7_readOfCharges_0 2 rfl) rfl,
  f_aload_n (n := 0) (e_dx DX7_readOfCharges_0 3 rfl) rfl,
  f_bipush (e_dx DX7_readOfCharges_0 4 rfl) ⟨by decide, by decide⟩,
  x_callV (e_dx DX7_readOfCharges_0 5 rfl) mwX7_named vwX7_named cX7_178 rfl,
  f_aload_n (n := 0) (e_dx DX7_readOfCharges_0 6 rfl) rfl,
  f_sipush (e_dx DX7_readOfCharges_0 7 rfl) ⟨by decide, by decide⟩,
  x_callV (e_dx DX7_readOfCharges_0 8 rfl) mwX7_expect vwX7_expect cX7_128 rfl,
  f_aload_n (n := 0) (e_dx DX7_readOfCharges_0 9 rfl) rfl,
  x_callV (e_dx DX7_readOfCharges_0 10 rfl) mwX7_readLots vwX7_readLots cX7_202 rfl,
  f_aload_n (n := 0) (e_dx DX7_readOfCharges_0 11 rfl) rfl,
  f_sipush (e_dx DX7_readOfCharges_0 12 rfl) ⟨by decide, by decide⟩,
  x_callV (e_dx DX7_readOfCharges_0 13 rfl) mwX7_expect vwX7_expect cX7_128 rfl,
  f_aload_n (n := 0) (e_dx DX7_readOfCharges_0 14 rfl) rfl,
  f_iconst (e_dx DX7_readOfCharges_0 15 rfl) ⟨by decide, by decide⟩,
  x_callV (e_dx DX7_readOfCharges_0 16 rfl) mwX7_named vwX7_named cX7_178 rfl,
  f_aload_n (n := 0) (e_dx DX7_readOfCharges_0 17 rfl) rfl,
  x_callV (e_dx DX7_readOfCharges_0 18 rfl) mwX7_readPrice vwX7_readPrice cX7_196 rfl,
  f_g19 (e_dx DX7_readOfCharges_0 19 rfl) rfl,
  f_iload_n (n := 1) (e_dx DX7_readOfCharges_0 20 rfl) rfl,
  f_sipush (e_dx DX7_readOfCharges_0 21 rfl) ⟨by decide, by decide⟩,
  f_icmp_ne (e_dx DX7_readOfCharges_0 22 rfl) rfl,
  f_aload_n (n := 0) (e_dx DX7_readOfCharges_0 23 rfl) rfl,
  f_iconst (e_dx DX7_readOfCharges_0 24 rfl) ⟨by decide, by decide⟩,
  x_callV (e_dx DX7_readOfCharges_0 25 rfl) mwX7_named vwX7_named cX7_178 rfl,
  f_aload_n (n := 0) (e_dx DX7_readOfCharges_0 26 rfl) rfl,
  x_callV (e_dx DX7_readOfCharges_0 27 rfl) mwX7_readPrice vwX7_readPrice cX7_196 rfl,
  f_g19 (e_dx DX7_readOfCharges_0 28 rfl) rfl,
  f_iload_n (n := 1) (e_dx DX7_readOfCharges_0 29 rfl) rfl,
  f_sipush (e_dx DX7_readOfCharges_0 30 rfl) ⟨by decide, by decide⟩,
  f_icmp_ne (e_dx DX7_readOfCharges_0 31 rfl) rfl,
  f_aload_n (n := 0) (e_dx DX7_readOfCharges_0 32 rfl) rfl,
  f_iconst (e_dx DX7_readOfCharges_0 33 rfl) ⟨by decide, by decide⟩,
  x_callV (e_dx DX7_readOfCharges_0 34 rfl) mwX7_named vwX7_named cX7_178 rfl,
  f_aload_n (n := 0) (e_dx DX7_readOfCharges_0 35 rfl) rfl,
  f_sipush (e_dx DX7_readOfCharges_0 36 rfl) ⟨by decide, by decide⟩,
  x_callV (e_dx DX7_readOfCharges_0 37 rfl) mwX7_expect vwX7_expect cX7_128 rfl,
  f_aload_n (n := 0) (e_dx DX7_readOfCharges_0 38 rfl) rfl,
  f_iconst (e_dx DX7_readOfCharges_0 39 rfl) ⟨by decide, by decide⟩,
  x_callV (e_dx DX7_readOfCharges_1 0 rfl) mwX7_named vwX7_named cX7_178 rfl,
  f_g19 (e_dx DX7_readOfCharges_1 1 rfl) rfl,
  f_iload_n (n := 1) (e_dx DX7_readOfCharges_1 2 rfl) rfl,
  f_sipush (e_dx DX7_readOfCharges_1 3 rfl) ⟨by decide, by decide⟩,
  f_icmp_ne (e_dx DX7_readOfCharges_1 4 rfl) rfl,
  f_aload_n (n := 0) (e_dx DX7_readOfCharges_1 5 rfl) rfl,
  f_iconst (e_dx DX7_readOfCharges_1 6 rfl) ⟨by decide, by decide⟩,
  x_callV (e_dx DX7_readOfCharges_1 7 rfl) mwX7_named vwX7_named cX7_178 rfl,
  f_aload_n (n := 0) (e_dx DX7_readOfCharges_1 8 rfl) rfl,
  f_sipush (e_dx DX7_readOfCharges_1 9 rfl) ⟨by decide, by decide⟩,
  x_callV (e_dx DX7_readOfCharges_1 10 rfl) mwX7_expect vwX7_expect cX7_128 rfl,
  f_aload_n (n := 0) (e_dx DX7_readOfCharges_1 11 rfl) rfl,
  f_iconst (e_dx DX7_readOfCharges_1 12 rfl) ⟨by decide, by decide⟩,
  x_callV (e_dx DX7_readOfCharges_1 13 rfl) mwX7_named vwX7_named cX7_178 rfl,
  f_aload_n (n := 0) (e_dx DX7_readOfCharges_1 14 rfl) rfl,
  f_sipush (e_dx DX7_readOfCharges_1 15 rfl) ⟨by decide, by decide⟩,
  x_callV (e_dx DX7_readOfCharges_1 16 rfl) mwX7_expect vwX7_expect cX7_128 rfl,
  f_aload_n (n := 0) (e_dx DX7_readOfCharges_1 17 rfl) rfl,
  f_iconst (e_dx DX7_readOfCharges_1 18 rfl) ⟨by decide, by decide⟩,
  x_callV (e_dx DX7_readOfCharges_1 19 rfl) mwX7_named vwX7_named cX7_178 rfl,
  f_g19 (e_dx DX7_readOfCharges_1 20 rfl) rfl,
  f_iload_n (n := 1) (e_dx DX7_readOfCharges_1 21 rfl) rfl,
  f_sipush (e_dx DX7_readOfCharges_1 22 rfl) ⟨by decide, by decide⟩,
  f_icmp_ne (e_dx DX7_readOfCharges_1 23 rfl) rfl,
  f_aload_n (n := 0) (e_dx DX7_readOfCharges_1 24 rfl) rfl,
  f_iconst (e_dx DX7_readOfCharges_1 25 rfl) ⟨by decide, by decide⟩,
  x_callV (e_dx DX7_readOfCharges_1 26 rfl) mwX7_named vwX7_named cX7_178 rfl,
  f_aload_n (n := 0) (e_dx DX7_readOfCharges_1 27 rfl) rfl,
  f_sipush (e_dx DX7_readOfCharges_1 28 rfl) ⟨by decide, by decide⟩,
  x_callV (e_dx DX7_readOfCharges_1 29 rfl) mwX7_expect vwX7_expect cX7_128 rfl,
  f_aload_n (n := 0) (e_dx DX7_readOfCharges_1 30 rfl) rfl,
  f_iconst (e_dx DX7_readOfCharges_1 31 rfl) ⟨by decide, by decide⟩,
  x_callV (e_dx DX7_readOfCharges_1 32 rfl) mwX7_named vwX7_named cX7_178 rfl,
  f_g19 (e_dx DX7_readOfCharges_1 33 rfl) rfl,
  f_aload_n (n := 0) (e_dx DX7_readOfCharges_1 34 rfl) rfl,
  f_iconst (e_dx DX7_readOfCharges_1 35 rfl) ⟨by decide, by decide⟩,
  x_callV (e_dx DX7_readOfCharges_1 36 rfl) mwX7_named vwX7_named cX7_178 rfl,
  f_aload_n (n := 0) (e_dx DX7_readOfCharges_1 37 rfl) rfl,
  f_sipush (e_dx DX7_readOfCharges_1 38 rfl) ⟨by decide, by decide⟩,
  x_callV (e_dx DX7_readOfCharges_1 39 rfl) mwX7_expect vwX7_expect cX7_128 rfl,
  f_aload_n (n := 0) (e_dx DX7_readOfCharges_2 0 rfl) rfl,
  f_iconst (e_dx DX7_readOfCharges_2 1 rfl) ⟨by decide, by decide⟩,
  x_callV (e_dx DX7_readOfCharges_2 2 rfl) mwX7_named vwX7_named cX7_178 rfl,
  f_aload_n (n := 0) (e_dx DX7_readOfCharges_2 3 rfl) rfl,
  f_sipush (e_dx DX7_readOfCharges_2 4 rfl) ⟨by decide, by decide⟩,
  x_callV (e_dx DX7_readOfCharges_2 5 rfl) mwX7_expect vwX7_expect cX7_128 rfl,
  f_aload_n (n := 0) (e_dx DX7_readOfCharges_2 6 rfl) rfl,
  f_iconst (e_dx DX7_readOfCharges_2 7 rfl) ⟨by decide, by decide⟩,
  x_callV (e_dx DX7_readOfCharges_2 8 rfl) mwX7_named vwX7_named cX7_178 rfl,
  f_aload_n (n := 0) (e_dx DX7_readOfCharges_2 9 rfl) rfl,
  x_callV (e_dx DX7_readOfCharges_2 10 rfl) mwX7_readPrice vwX7_readPrice cX7_196 rfl,
  ⟨(e_dx DX7_readOfCharges_2 11 rfl), rfl⟩, trivial⟩
def lX7_readOfCharges (c_X7_named : Int → e_M → (e_M → Prop) → Prop) (c_X7_expect : Int → e_M → (e_M → Prop) → Prop) (c_X7_readLots : e_M → (e_M → Prop) → Prop) (c_X7_readPrice : e_M → (e_M → Prop) → Prop) : List (Nat × f_Wt) := [(0, f_wm [(20, 7, 12), (1, 0, 0)] (fun ar M R => c_X7_named (f_vi (f_nth ar 1)) M (fun M => R none M))), (1, f_wm [(20, 7, 12), (1, 0, 0)] (fun ar M R => c_X7_expect (f_vi (f_nth ar 1)) M (fun M => R none M))), (2, f_wm [(20, 7, 12)] (fun ar M R => c_X7_readLots  M (fun M => R none M))), (3, f_wm [(20, 7, 12)] (fun ar M R => c_X7_readPrice  M (fun M => R none M)))]
set_option maxRecDepth 20000 in
theorem BX7_readOfCharges {sh : Nat → Nat × Nat} {t : Nat} {rm : Nat × Nat × Nat} {cs : Nat × Nat} {R : f_Rt} {c_X7_named : Int → e_M → (e_M → Prop) → Prop} {c_X7_expect : Int → e_M → (e_M → Prop) → Prop} {c_X7_readLots : e_M → (e_M → Prop) → Prop} {c_X7_readPrice : e_M → (e_M → Prop) → Prop} {x1 : Int} {M : e_M} (C : f_Hy sh t yX7_readOfCharges rm cs 8 (lX7_readOfCharges c_X7_named c_X7_expect c_X7_readLots c_X7_readPrice) R) (h : VX7_readOfCharges c_X7_named c_X7_expect c_X7_readLots c_X7_readPrice (fun M => R none M) x1 M) : f_E sh t YX7_readOfCharges rm cs (f_Q sh t R) 0 [.inr (.inr (.inl (7, 12, 10))), .inl x1] [] M :=
  f_go (KC := f_kc []) C qX7_readOfChargesf f_kc_nil 94 0 h
def WX7_readOfCharges (x1 : Int) (M : e_M) (Q : e_M → Prop) : Prop :=
  VX7_readOfCharges WX7_named WX7_expect WX7_readLots WX7_readPrice Q x1 M
theorem PX7_readOfCharges {sh : Nat → Nat × Nat} {t : Nat} {rm : Nat × Nat × Nat} {cs : Nat × Nat} {R : f_Rt} {x1 : Int} {M : e_M} (C : f_Hy sh t yX7_readOfCharges rm cs 8 (lX7_readOfCharges WX7_named WX7_expect WX7_readLots WX7_readPrice) R) (h : WX7_readOfCharges x1 M (fun M => R none M)) : f_E sh t YX7_readOfCharges rm cs (f_Q sh t R) 0 [.inr (.inr (.inl (7, 12, 10))), .inl x1] [] M :=
  BX7_readOfCharges C h
def wX7_readOfCharges : f_Wt := f_wm [(20, 7, 12), (1, 0, 0)] (fun ar M R => WX7_readOfCharges (f_vi (f_nth ar 1)) M (fun M => R none M))
theorem TX7_readOfCharges {sh : Nat → Nat × Nat} {t : Nat} : f_Mt sh t YX7_readOfCharges 8 (wX7_readOfCharges) :=
  f_Mt_of (k := 0) (Nat.le_of_ble_eq_true rfl) rfl rfl (fun ar M R rm cs h1 h2 h3 hX h => PX7_readOfCharges ⟨Nat.le_of_ble_eq_true rfl, h1, h2, h3, ⟨(f_Mt.up (Nat.le_of_ble_eq_true rfl) TX7_named), (f_Mt.up (Nat.le_of_ble_eq_true rfl) TX7_expect), (f_Mt.up (Nat.le_of_ble_eq_true rfl) TX7_readLots), (f_Mt.up (Nat.le_of_ble_eq_true rfl) TX7_readPrice), trivial⟩, hX⟩ h)
def VX7_readOfServes_39 (c_X7_named : Int → e_M → (e_M → Prop) → Prop) (c_X7_note : Int → e_M → (e_M → Prop) → Prop) (c_X7_take : e_M → (e_M → Prop) → Prop) (c_X7_expect : Int → e_M → (e_M → Prop) → Prop) (c_X7_readPoints : e_M → (e_M → Prop) → Prop) (k44 : e_M → Prop) (Q : e_M → Prop) (M : e_M) : Prop :=
  (c_X7_note 1 M (fun M1 => (k44 M1)))
def VX7_readOfServes_44 (c_X7_named : Int → e_M → (e_M → Prop) → Prop) (c_X7_note : Int → e_M → (e_M → Prop) → Prop) (c_X7_take : e_M → (e_M → Prop) → Prop) (c_X7_expect : Int → e_M → (e_M → Prop) → Prop) (c_X7_readPoints : e_M → (e_M → Prop) → Prop) (Q : e_M → Prop) (M : e_M) : Prop :=
  (∀ M1 : e_M, M1 = e_up M ((M 10 9).toNat) 10 (e_w32 ((M 10 6) - 236)) → (c_X7_take M1 (fun M2 => (c_X7_expect 232 M2 (fun M3 => (c_X7_named 0 M3 (fun M4 => (c_X7_expect 233 M4 (fun M5 => (c_X7_named 0 M5 (fun M6 => (c_X7_expect 234 M6 (fun M7 => (c_X7_readPoints M7 (fun M8 => (Q M8))))))))))))))))
def VX7_readOfServes (c_X7_named : Int → e_M → (e_M → Prop) → Prop) (c_X7_note : Int → e_M → (e_M → Prop) → Prop) (c_X7_take : e_M → (e_M → Prop) → Prop) (c_X7_expect : Int → e_M → (e_M → Prop) → Prop) (c_X7_readPoints : e_M → (e_M → Prop) → Prop) (k39 : e_M → Prop) (k44 : e_M → Prop) (Q : e_M → Prop) (x1 : Int) (M : e_M) : Prop :=
  ((¬ x1 = 216 → (c_X7_named 10 M (fun M1 => (((M1 10 6) < 236 → (k39 M1)) ∧ (236 ≤ (M1 10 6) → (((M1 10 6) ≤ 238 → (k44 M1)) ∧ (238 < (M1 10 6) → (k39 M1)))))))) ∧ (x1 = 216 → (c_X7_named 3 M (fun M2 => (Q M2)))))
def yX7_readOfServes (i : Nat) : e_Y := x_get YX7_readOfServes [YX7_named, YX7_note, YX7_take, YX7_expect, YX7_readPoints] i
def pX7_readOfServesf : List x_I := [(0, 2, 1, 1, 0, 0, []), (1, 0, 3, 0, 0, 216, []), (4, 18, 13, 1, 8, 0, []), (7, 4, 1, 0, 0, 0, []), (8, 0, 1, 0, 0, 3, []), (9, 40, 0, 2, 9, 0, []), (12, 44, 0, 0, 0, 0, []), (13, 4, 1, 0, 0, 0, []), (14, 0, 2, 0, 0, 10, []), (16, 40, 0, 2, 9, 0, []), (19, 4, 1, 0, 0, 0, []), (20, 25, 7, 6, 0, 0, []), (23, 0, 3, 0, 0, 236, []), (26, 18, 39, 2, 19, 0, []), (29, 4, 1, 0, 0, 0, []), (30, 25, 7, 6, 0, 0, []), (33, 0, 3, 0, 0, 238, []), (36, 18, 44, 5, 23, 0, []), (39, 49, 0, 0, 0, 0, []), (39, 4, 1, 0, 0, 0, []), (40, 0, 1, 0, 0, 1, []), (41, 40, 1, 2, 9, 0, []), (44, 49, 0, 0, 0, 0, []), (44, 4, 1, 0, 0, 0, []), (45, 25, 7, 9, 4, 0, [(0, 2, 19), (0, 0, 0)]), (48, 4, 1, 0, 0, 0, []), (49, 25, 7, 6, 0, 0, []), (52, 0, 3, 0, 0, 236, []), (55, 9, 0, 1, 0, 0, []), (56, 26, 2, 10, 0, 0, []), (59, 4, 1, 0, 0, 0, []), (60, 40, 2, 1, 9, 0, []), (63, 4, 1, 0, 0, 0, []), (64, 0, 3, 0, 0, 232, []), (67, 40, 3, 2, 9, 0, []), (70, 4, 1, 0, 0, 0, []), (71, 0, 1, 0, 0, 0, []), (72, 40, 0, 2, 9, 0, []), (75, 4, 1, 0, 0, 0, []), (76, 0, 3, 0, 0, 233, []), (79, 40, 3, 2, 9, 0, []), (82, 4, 1, 0, 0, 0, []), (83, 0, 1, 0, 0, 0, []), (84, 40, 0, 2, 9, 0, []), (87, 4, 1, 0, 0, 0, []), (88, 0, 3, 0, 0, 234, []), (91, 40, 3, 2, 9, 0, []), (94, 4, 1, 0, 0, 0, []), (95, 40, 4, 1, 9, 0, []), (98, 44, 0, 0, 0, 0, [])]
set_option maxRecDepth 20000 in
theorem qX7_readOfServesf : f_all yX7_readOfServes YX7_readOfServes pX7_readOfServesf :=
  ⟨f_iload_n (n := 1) (e_dx DX7_readOfServes_0 0 rfl) rfl,
  f_sipush (e_dx DX7_readOfServes_0 1 rfl) ⟨by decide, by decide⟩,
  f_icmp_ne (e_dx DX7_readOfServes_0 2 rfl) rfl,
  f_aload_n (n := 0) (e_dx DX7_readOfServes_0 3 rfl) rfl,
  f_iconst (e_dx DX7_readOfServes_0 4 rfl) ⟨by decide, by decide⟩,
  x_callV (e_dx DX7_readOfServes_0 5 rfl) mwX7_named vwX7_named cX7_178 rfl,
  ⟨(e_dx DX7_readOfServes_0 6 rfl), rfl⟩,
  f_aload_n (n := 0) (e_dx DX7_readOfServes_0 7 rfl) rfl,
  f_bipush (e_dx DX7_readOfServes_0 8 rfl) ⟨by decide, by decide⟩,
  x_callV (e_dx DX7_readOfServes_0 9 rfl) mwX7_named vwX7_named cX7_178 rfl,
  f_aload_n (n := 0) (e_dx DX7_readOfServes_0 10 rfl) rfl,
  f_getf (e_dx DX7_readOfServes_0 11 rfl) fX7_32 rfl (by decide) (by decide) (by decide),
  f_sipush (e_dx DX7_readOfServes_0 12 rfl) ⟨by decide, by decide⟩,
  f_icmp_lt (e_dx DX7_readOfServes_0 13 rfl) rfl,
  f_aload_n (n := 0) (e_dx DX7_readOfServes_0 14 rfl) rfl,
  f_getf (e_dx DX7_readOfServes_0 15 rfl) fX7_32 rfl (by decide) (by decide) (by decide),
  f_sipush (e_dx DX7_readOfServes_0 16 rfl) ⟨by decide, by decide⟩,
  f_icmp_le (e_dx DX7_readOfServes_0 17 rfl) rfl,
  trivial,
  f_aload_n (n := 0) (e_dx DX7_readOfServes_0 18 rfl) rfl,
  f_iconst (e_dx DX7_readOfServes_0 19 rfl) ⟨by decide, by decide⟩,
  x_callV (e_dx DX7_readOfServes_0 20 rfl) mwX7_note vwX7_note cX7_124 rfl,
  trivial,
  f_aload_n (n := 0) (e_dx DX7_readOfServes_0 21 rfl) rfl,
  f_getA (e_dx DX7_readOfServes_0 22 rfl) fX7_44 rfl (by decide) (Nat.le_of_ble_eq_true rfl) rfl (by decide),
  f_aload_n (n := 0) (e_dx DX7_readOfServes_0 23 rfl) rfl,
  f_getf (e_dx DX7_readOfServes_0 24 rfl) fX7_32 rfl (by decide) (by decide) (by decide),
  f_sipush (e_dx DX7_readOfServes_0 25 rfl) ⟨by decide, by decide⟩,
  f_isub (e_dx DX7_readOfServes_0 26 rfl),
  f_putn (e_dx DX7_readOfServes_0 27 rfl) fX7_205 (fun q hq => by cases hq; rfl) rfl (Or.inl rfl) (by decide),
  f_aload_n (n := 0) (e_dx DX7_readOfServes_0 28 rfl) rfl,
  x_callV (e_dx DX7_readOfServes_0 29 rfl) mwX7_take vwX7_take cX7_121 rfl,
  f_aload_n (n := 0) (e_dx DX7_readOfServes_0 30 rfl) rfl,
  f_sipush (e_dx DX7_readOfServes_0 31 rfl) ⟨by decide, by decide⟩,
  x_callV (e_dx DX7_readOfServes_0 32 rfl) mwX7_expect vwX7_expect cX7_128 rfl,
  f_aload_n (n := 0) (e_dx DX7_readOfServes_0 33 rfl) rfl,
  f_iconst (e_dx DX7_readOfServes_0 34 rfl) ⟨by decide, by decide⟩,
  x_callV (e_dx DX7_readOfServes_0 35 rfl) mwX7_named vwX7_named cX7_178 rfl,
  f_aload_n (n := 0) (e_dx DX7_readOfServes_0 36 rfl) rfl,
  f_sipush (e_dx DX7_readOfServes_0 37 rfl) ⟨by decide, by decide⟩,
  x_callV (e_dx DX7_readOfServes_0 38 rfl) mwX7_expect vwX7_expect cX7_128 rfl,
  f_aload_n (n := 0) (e_dx DX7_readOfServes_0 39 rfl) rfl,
  f_iconst (e_dx DX7_readOfServes_1 0 rfl) ⟨by decide, by decide⟩,
  x_callV (e_dx DX7_readOfServes_1 1 rfl) mwX7_named vwX7_named cX7_178 rfl,
  f_aload_n (n := 0) (e_dx DX7_readOfServes_1 2 rfl) rfl,
  f_sipush (e_dx DX7_readOfServes_1 3 rfl) ⟨by decide, by decide⟩,
  x_callV (e_dx DX7_readOfServes_1 4 rfl) mwX7_expect vwX7_expect cX7_128 rfl,
  f_aload_n (n := 0) (e_dx DX7_readOfServes_1 5 rfl) rfl,
  x_callV (e_dx DX7_readOfServes_1 6 rfl) mwX7_readPoints vwX7_readPoints cX7_199 rfl,
  ⟨(e_dx DX7_readOfServes_1 7 rfl), rfl⟩, trivial⟩
def lX7_readOfServes (c_X7_named : Int → e_M → (e_M → Prop) → Prop) (c_X7_note : Int → e_M → (e_M → Prop) → Prop) (c_X7_take : e_M → (e_M → Prop) → Prop) (c_X7_expect : Int → e_M → (e_M → Prop) → Prop) (c_X7_readPoints : e_M → (e_M → Prop) → Prop) : List (Nat × f_Wt) := [(0, f_wm [(20, 7, 12), (1, 0, 0)] (fun ar M R => c_X7_named (f_vi (f_nth ar 1)) M (fun M => R none M))), (1, f_wm [(20, 7, 12), (1, 0, 0)] (fun ar M R => c_X7_note (f_vi (f_nth ar 1)) M (fun M => R none M))), (2, f_wm [(20, 7, 12)] (fun ar M R => c_X7_take  M (fun M => R none M))), (3, f_wm [(20, 7, 12), (1, 0, 0)] (fun ar M R => c_X7_expect (f_vi (f_nth ar 1)) M (fun M => R none M))), (4, f_wm [(20, 7, 12)] (fun ar M R => c_X7_readPoints  M (fun M => R none M)))]
set_option maxRecDepth 20000 in
theorem BX7_readOfServes_39 {sh : Nat → Nat × Nat} {t : Nat} {rm : Nat × Nat × Nat} {cs : Nat × Nat} {R : f_Rt} {c_X7_named : Int → e_M → (e_M → Prop) → Prop} {c_X7_note : Int → e_M → (e_M → Prop) → Prop} {c_X7_take : e_M → (e_M → Prop) → Prop} {c_X7_expect : Int → e_M → (e_M → Prop) → Prop} {c_X7_readPoints : e_M → (e_M → Prop) → Prop} {k44 : e_M → Prop} {M : e_M} (C : f_Hy sh t yX7_readOfServes rm cs 8 (lX7_readOfServes c_X7_named c_X7_note c_X7_take c_X7_expect c_X7_readPoints) R) (h44 : ∀ (M : e_M), k44 M → f_E sh t YX7_readOfServes rm cs (f_Q sh t R) 44 [.inr (.inr (.inl (7, 12, 10))), .inr (.inr (.inr ()))] [] M) (h : VX7_readOfServes_39 c_X7_named c_X7_note c_X7_take c_X7_expect c_X7_readPoints k44 (fun M => R none M) M) : f_E sh t YX7_readOfServes rm cs (f_Q sh t R) 39 [.inr (.inr (.inl (7, 12, 10))), .inr (.inr (.inr ()))] [] M :=
  f_go (KC := f_kc [(44, f_pl [(20, 7, 12), (0, 0, 0)] [] (fun ls st M => k44 M))]) C qX7_readOfServesf (f_kc_cons (f_pl_ok rfl (fun ls st M h => h44  M h)) f_kc_nil) 52 19 h
set_option maxRecDepth 20000 in
theorem BX7_readOfServes_44 {sh : Nat → Nat × Nat} {t : Nat} {rm : Nat × Nat × Nat} {cs : Nat × Nat} {R : f_Rt} {c_X7_named : Int → e_M → (e_M → Prop) → Prop} {c_X7_note : Int → e_M → (e_M → Prop) → Prop} {c_X7_take : e_M → (e_M → Prop) → Prop} {c_X7_expect : Int → e_M → (e_M → Prop) → Prop} {c_X7_readPoints : e_M → (e_M → Prop) → Prop} {M : e_M} (C : f_Hy sh t yX7_readOfServes rm cs 8 (lX7_readOfServes c_X7_named c_X7_note c_X7_take c_X7_expect c_X7_readPoints) R) (h : VX7_readOfServes_44 c_X7_named c_X7_note c_X7_take c_X7_expect c_X7_readPoints (fun M => R none M) M) : f_E sh t YX7_readOfServes rm cs (f_Q sh t R) 44 [.inr (.inr (.inl (7, 12, 10))), .inr (.inr (.inr ()))] [] M :=
  f_go (KC := f_kc []) C qX7_readOfServesf f_kc_nil 52 23 h
set_option maxRecDepth 20000 in
theorem BX7_readOfServes {sh : Nat → Nat × Nat} {t : Nat} {rm : Nat × Nat × Nat} {cs : Nat × Nat} {R : f_Rt} {c_X7_named : Int → e_M → (e_M → Prop) → Prop} {c_X7_note : Int → e_M → (e_M → Prop) → Prop} {c_X7_take : e_M → (e_M → Prop) → Prop} {c_X7_expect : Int → e_M → (e_M → Prop) → Prop} {c_X7_readPoints : e_M → (e_M → Prop) → Prop} {k39 : e_M → Prop} {k44 : e_M → Prop} {x1 : Int} {M : e_M} (C : f_Hy sh t yX7_readOfServes rm cs 8 (lX7_readOfServes c_X7_named c_X7_note c_X7_take c_X7_expect c_X7_readPoints) R) (h39 : ∀ (M : e_M), k39 M → f_E sh t YX7_readOfServes rm cs (f_Q sh t R) 39 [.inr (.inr (.inl (7, 12, 10))), .inr (.inr (.inr ()))] [] M) (h44 : ∀ (M : e_M), k44 M → f_E sh t YX7_readOfServes rm cs (f_Q sh t R) 44 [.inr (.inr (.inl (7, 12, 10))), .inr (.inr (.inr ()))] [] M) (h : VX7_readOfServes c_X7_named c_X7_note c_X7_take c_X7_expect c_X7_readPoints k39 k44 (fun M => R none M) x1 M) : f_E sh t YX7_readOfServes rm cs (f_Q sh t R) 0 [.inr (.inr (.inl (7, 12, 10))), .inl x1] [] M :=
  f_go (KC := f_kc [(39, f_pl [(20, 7, 12), (0, 0, 0)] [] (fun ls st M => k39 M)), (44, f_pl [(20, 7, 12), (0, 0, 0)] [] (fun ls st M => k44 M))]) C qX7_readOfServesf (f_kc_cons (f_pl_ok rfl (fun ls st M h => h39  M h)) (f_kc_cons (f_pl_ok rfl (fun ls st M h => h44  M h)) f_kc_nil)) 52 0 h
def WX7_readOfServes_44 (Q : e_M → Prop) (M : e_M) : Prop :=
  VX7_readOfServes_44 WX7_named WX7_note WX7_take WX7_expect WX7_readPoints Q M
def WX7_readOfServes_39 (Q : e_M → Prop) (M : e_M) : Prop :=
  VX7_readOfServes_39 WX7_named WX7_note WX7_take WX7_expect WX7_readPoints (WX7_readOfServes_44 Q) Q M
def WX7_readOfServes (x1 : Int) (M : e_M) (Q : e_M → Prop) : Prop :=
  VX7_readOfServes WX7_named WX7_note WX7_take WX7_expect WX7_readPoints (WX7_readOfServes_39 Q) (WX7_readOfServes_44 Q) Q x1 M
theorem PX7_readOfServes_44 {sh : Nat → Nat × Nat} {t : Nat} {rm : Nat × Nat × Nat} {cs : Nat × Nat} {R : f_Rt} {M : e_M} (C : f_Hy sh t yX7_readOfServes rm cs 8 (lX7_readOfServes WX7_named WX7_note WX7_take WX7_expect WX7_readPoints) R) (h : WX7_readOfServes_44 (fun M => R none M) M) : f_E sh t YX7_readOfServes rm cs (f_Q sh t R) 44 [.inr (.inr (.inl (7, 12, 10))), .inr (.inr (.inr ()))] [] M :=
  BX7_readOfServes_44 C h
theorem PX7_readOfServes_39 {sh : Nat → Nat × Nat} {t : Nat} {rm : Nat × Nat × Nat} {cs : Nat × Nat} {R : f_Rt} {M : e_M} (C : f_Hy sh t yX7_readOfServes rm cs 8 (lX7_readOfServes WX7_named WX7_note WX7_take WX7_expect WX7_readPoints) R) (h : WX7_readOfServes_39 (fun M => R none M) M) : f_E sh t YX7_readOfServes rm cs (f_Q sh t R) 39 [.inr (.inr (.inl (7, 12, 10))), .inr (.inr (.inr ()))] [] M :=
  BX7_readOfServes_39 C (fun M h => PX7_readOfServes_44 C h) h
theorem PX7_readOfServes {sh : Nat → Nat × Nat} {t : Nat} {rm : Nat × Nat × Nat} {cs : Nat × Nat} {R : f_Rt} {x1 : Int} {M : e_M} (C : f_Hy sh t yX7_readOfServes rm cs 8 (lX7_readOfServes WX7_named WX7_note WX7_take WX7_expect WX7_readPoints) R) (h : WX7_readOfServes x1 M (fun M => R none M)) : f_E sh t YX7_readOfServes rm cs (f_Q sh t R) 0 [.inr (.inr (.inl (7, 12, 10))), .inl x1] [] M :=
  BX7_readOfServes C (fun M h => PX7_readOfServes_39 C h) (fun M h => PX7_readOfServes_44 C h) h
def wX7_readOfServes : f_Wt := f_wm [(20, 7, 12), (1, 0, 0)] (fun ar M R => WX7_readOfServes (f_vi (f_nth ar 1)) M (fun M => R none M))
theorem TX7_readOfServes {sh : Nat → Nat × Nat} {t : Nat} : f_Mt sh t YX7_readOfServes 8 (wX7_readOfServes) :=
  f_Mt_of (k := 0) (Nat.le_of_ble_eq_true rfl) rfl rfl (fun ar M R rm cs h1 h2 h3 hX h => PX7_readOfServes ⟨Nat.le_of_ble_eq_true rfl, h1, h2, h3, ⟨(f_Mt.up (Nat.le_of_ble_eq_true rfl) TX7_named), (f_Mt.up (Nat.le_of_ble_eq_true rfl) TX7_note), (f_Mt.up (Nat.le_of_ble_eq_true rfl) TX7_take), (f_Mt.up (Nat.le_of_ble_eq_true rfl) TX7_expect), (f_Mt.up (Nat.le_of_ble_eq_true rfl) TX7_readPoints), trivial⟩, hX⟩ h)
