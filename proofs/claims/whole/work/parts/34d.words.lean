/-! methods as words over the memory, part 34d -/
def VX12_charge_9 (c_X12_areAble : Int → e_M → (Int → Prop) → Prop) (c_X12_isBarred : Int → Int → e_M → (Int → Prop) → Prop) (c_X12_full : Int → Int → e_M → (Int → Prop) → Prop) (c_X12_make : Int → Int → e_M → (Int → e_M → Prop) → Prop) (c_X12_id : Int → Int → e_M → (Int → Prop) → Prop) (c_X12_inOn : Int → Int → Int → e_M → (e_M → Prop) → Prop) (k57 : Int → Int → Int → e_M → Prop) (k19 : Int → Int → Int → Int → e_M → Prop) (Q : Int → e_M → Prop) (x1 : Int) (x2 : Int) (x3 : Int) (M : e_M) : Prop :=
  (((e_w32 (x2 - 1)) ≤ x3 → (k57 x1 x2 1 M)) ∧ (x3 < (e_w32 (x2 - 1)) → (k19 x1 x2 x3 1 M)))
def VX12_charge_19 (c_X12_areAble : Int → e_M → (Int → Prop) → Prop) (c_X12_isBarred : Int → Int → e_M → (Int → Prop) → Prop) (c_X12_full : Int → Int → e_M → (Int → Prop) → Prop) (c_X12_make : Int → Int → e_M → (Int → e_M → Prop) → Prop) (c_X12_id : Int → Int → e_M → (Int → Prop) → Prop) (c_X12_inOn : Int → Int → Int → e_M → (e_M → Prop) → Prop) (k9 : Int → Int → Int → e_M → Prop) (k19 : Int → Int → Int → Int → e_M → Prop) (Q : Int → e_M → Prop) (x1 : Int) (x2 : Int) (x3 : Int) (x4 : Int) (M : e_M) : Prop :=
  ((x3 ≤ x4 → (k9 x1 x2 (e_w32 (x3 + 1)) M)) ∧ (x4 < x3 → ((0 ≤ x4 ∧ x4 < 10) ∧ ((0 ≤ x3 ∧ x3 < 10) ∧ ((¬ (M 4520 (x4.toNat)) = (M 4520 (x3.toNat)) → (k19 x1 x2 x3 (e_w32 (x4 + 1)) M)) ∧ ((M 4520 (x4.toNat)) = (M 4520 (x3.toNat)) → (Q 1 M)))))))
def VX12_charge_57 (c_X12_areAble : Int → e_M → (Int → Prop) → Prop) (c_X12_isBarred : Int → Int → e_M → (Int → Prop) → Prop) (c_X12_full : Int → Int → e_M → (Int → Prop) → Prop) (c_X12_make : Int → Int → e_M → (Int → e_M → Prop) → Prop) (c_X12_id : Int → Int → e_M → (Int → Prop) → Prop) (c_X12_inOn : Int → Int → Int → e_M → (e_M → Prop) → Prop) (k87 : Int → Int → Int → e_M → Prop) (k57 : Int → Int → Int → e_M → Prop) (Q : Int → e_M → Prop) (x1 : Int) (x2 : Int) (x3 : Int) (M : e_M) : Prop :=
  (((e_w32 (x2 - 1)) ≤ x3 → (k87 x1 x2 1 M)) ∧ (x3 < (e_w32 (x2 - 1)) → ((0 ≤ x3 ∧ x3 < 10) ∧ (c_X12_areAble (M 4520 (x3.toNat)) M (fun r1 => ((¬ r1 = 0 → (k57 x1 x2 (e_w32 (x3 + 1)) M)) ∧ (r1 = 0 → (Q 2 M))))))))
def VX12_charge_87 (c_X12_areAble : Int → e_M → (Int → Prop) → Prop) (c_X12_isBarred : Int → Int → e_M → (Int → Prop) → Prop) (c_X12_full : Int → Int → e_M → (Int → Prop) → Prop) (c_X12_make : Int → Int → e_M → (Int → e_M → Prop) → Prop) (c_X12_id : Int → Int → e_M → (Int → Prop) → Prop) (c_X12_inOn : Int → Int → Int → e_M → (e_M → Prop) → Prop) (k142 : Int → Int → Int → e_M → Prop) (k87 : Int → Int → Int → e_M → Prop) (Q : Int → e_M → Prop) (x1 : Int) (x2 : Int) (x3 : Int) (M : e_M) : Prop :=
  (((e_w32 (x2 - 1)) ≤ x3 → ((0 ≤ x1 ∧ x1 < 152) ∧ ((¬ (M 4464 (x1.toNat)) = 0 → (c_X12_full 2 1 M (fun r1 => ((r1 = 0 → (k142 x1 x2 1 M)) ∧ (¬ r1 = 0 → (Q 7 M)))))) ∧ ((M 4464 (x1.toNat)) = 0 → (Q 6 M))))) ∧ (x3 < (e_w32 (x2 - 1)) → ((0 ≤ x3 ∧ x3 < 10) ∧ (c_X12_isBarred (M 4520 (x3.toNat)) (-1) M (fun r2 => ((r2 = 0 → (k87 x1 x2 (e_w32 (x3 + 1)) M)) ∧ (¬ r2 = 0 → (Q 4 M))))))))
def VX12_charge_142 (c_X12_areAble : Int → e_M → (Int → Prop) → Prop) (c_X12_isBarred : Int → Int → e_M → (Int → Prop) → Prop) (c_X12_full : Int → Int → e_M → (Int → Prop) → Prop) (c_X12_make : Int → Int → e_M → (Int → e_M → Prop) → Prop) (c_X12_id : Int → Int → e_M → (Int → Prop) → Prop) (c_X12_inOn : Int → Int → Int → e_M → (e_M → Prop) → Prop) (k227 : Int → Int → Int → Int → e_M → Prop) (k142 : Int → Int → Int → e_M → Prop) (Q : Int → e_M → Prop) (x1 : Int) (x2 : Int) (x3 : Int) (M : e_M) : Prop :=
  (((e_w32 (x2 - 1)) ≤ x3 → ((0 ≤ (e_w32 ((10 : Int) * x1)) ∧ (e_w32 ((10 : Int) * x1)) < 1520) ∧ (c_X12_make 2 (M 4467 ((e_w32 ((10 : Int) * x1)).toNat)) M (fun r1 M2 => (c_X12_id 2 r1 M2 (fun r3 => ((0 ≤ (e_w32 (x2 - 1)) ∧ (e_w32 (x2 - 1)) < 10) ∧ ((0 ≤ r3 ∧ r3 < 560) ∧ (∀ M4 : e_M, M4 = e_up M2 4489 (r3.toNat) (M2 4520 ((e_w32 (x2 - 1)).toNat)) → ((0 ≤ x1 ∧ x1 < 152) ∧ ((0 ≤ r3 ∧ r3 < 560) ∧ (∀ M5 : e_M, M5 = e_up M4 4490 (r3.toNat) (M4 4464 (x1.toNat)) → (k227 x2 r1 r3 1 M5))))))))))))) ∧ (x3 < (e_w32 (x2 - 1)) → ((0 ≤ x3 ∧ x3 < 10) ∧ ((0 ≤ (M 4520 (x3.toNat)) ∧ (M 4520 (x3.toNat)) < 80) ∧ ((¬ (M 4499 ((M 4520 (x3.toNat)).toNat)) = 8 → (k142 x1 x2 (e_w32 (x3 + 1)) M)) ∧ ((M 4499 ((M 4520 (x3.toNat)).toNat)) = 8 → (Q 7 M)))))))
def VX12_charge_227 (c_X12_areAble : Int → e_M → (Int → Prop) → Prop) (c_X12_isBarred : Int → Int → e_M → (Int → Prop) → Prop) (c_X12_full : Int → Int → e_M → (Int → Prop) → Prop) (c_X12_make : Int → Int → e_M → (Int → e_M → Prop) → Prop) (c_X12_id : Int → Int → e_M → (Int → Prop) → Prop) (c_X12_inOn : Int → Int → Int → e_M → (e_M → Prop) → Prop) (k227 : Int → Int → Int → Int → e_M → Prop) (Q : Int → e_M → Prop) (x2 : Int) (x3 : Int) (x4 : Int) (x5 : Int) (M : e_M) : Prop :=
  (((e_w32 (x2 - 1)) ≤ x5 → (Q 0 M)) ∧ (x5 < (e_w32 (x2 - 1)) → ((0 ≤ x5 ∧ x5 < 10) ∧ ((0 ≤ x4 ∧ x4 < 560) ∧ (c_X12_inOn x4 (M 4492 (x4.toNat)) (M 4520 (x5.toNat)) M (fun M1 => ((0 ≤ (M 4520 (x5.toNat)) ∧ (M 4520 (x5.toNat)) < 80) ∧ ((0 ≤ (e_w32 ((e_w32 ((8 : Int) * (M 4520 (x5.toNat)))) + (M1 4499 ((M 4520 (x5.toNat)).toNat)))) ∧ (e_w32 ((e_w32 ((8 : Int) * (M 4520 (x5.toNat)))) + (M1 4499 ((M 4520 (x5.toNat)).toNat)))) < 640) ∧ (∀ M2 : e_M, M2 = e_up M1 4500 ((e_w32 ((e_w32 ((8 : Int) * (M 4520 (x5.toNat)))) + (M1 4499 ((M 4520 (x5.toNat)).toNat)))).toNat) x3 → ((0 ≤ (M 4520 (x5.toNat)) ∧ (M 4520 (x5.toNat)) < 80) ∧ ((0 ≤ (M 4520 (x5.toNat)) ∧ (M 4520 (x5.toNat)) < 80) ∧ (∀ M3 : e_M, M3 = e_up M2 4499 ((M 4520 (x5.toNat)).toNat) (e_w32 ((M2 4499 ((M 4520 (x5.toNat)).toNat)) + 1)) → (k227 x2 x3 x4 (e_w32 (x5 + 1)) M3)))))))))))))
def VX12_charge (c_X12_areAble : Int → e_M → (Int → Prop) → Prop) (c_X12_isBarred : Int → Int → e_M → (Int → Prop) → Prop) (c_X12_full : Int → Int → e_M → (Int → Prop) → Prop) (c_X12_make : Int → Int → e_M → (Int → e_M → Prop) → Prop) (c_X12_id : Int → Int → e_M → (Int → Prop) → Prop) (c_X12_inOn : Int → Int → Int → e_M → (e_M → Prop) → Prop) (k9 : Int → Int → Int → e_M → Prop) (Q : Int → e_M → Prop) (x1 : Int) (M : e_M) : Prop :=
  ((0 ≤ x1 ∧ x1 < 152) ∧ (k9 x1 (M 4463 (x1.toNat)) 1 M))
def yX12_charge (i : Nat) : e_Y := x_get YX12_charge [YX12_areAble, YX12_isBarred, YX12_full, YX12_make, YX12_id, YX12_inOn] i
def pX12_chargef : List x_I := [(0, 4, 1, 0, 0, 0, []), (1, 25, 12, 16, 4, 0, [(0, 20, 152), (0, 1, 7)]), (4, 2, 1, 1, 0, 0, []), (5, 27, 0, 0, 0, 0, []), (6, 5, 1, 2, 0, 0, []), (7, 0, 1, 0, 0, 1, []), (8, 5, 1, 3, 0, 0, []), (9, 49, 0, 0, 0, 0, []), (9, 2, 1, 3, 0, 0, []), (10, 2, 1, 2, 0, 0, []), (11, 0, 1, 0, 0, 1, []), (12, 9, 0, 1, 0, 0, []), (13, 18, 55, 3, 35, 0, []), (16, 0, 1, 0, 0, 1, []), (17, 5, 2, 4, 0, 0, []), (19, 49, 0, 0, 0, 0, []), (19, 2, 2, 4, 0, 0, []), (21, 2, 1, 3, 0, 0, []), (22, 18, 49, 3, 33, 0, []), (25, 4, 1, 0, 0, 0, []), (26, 25, 12, 91, 4, 0, [(0, 20, 10), (0, 1, 64)]), (29, 2, 2, 4, 0, 0, []), (31, 27, 0, 0, 0, 0, []), (32, 4, 1, 0, 0, 0, []), (33, 25, 12, 91, 4, 0, [(0, 20, 10), (0, 1, 64)]), (36, 2, 1, 3, 0, 0, []), (37, 27, 0, 0, 0, 0, []), (38, 18, 43, 1, 31, 0, []), (41, 0, 1, 0, 0, 1, []), (42, 41, 0, 0, 0, 0, []), (43, 8, 0, 4, 0, 1, []), (46, 19, 19, 0, 16, 0, []), (49, 8, 0, 3, 0, 1, []), (52, 19, 9, 0, 8, 0, []), (55, 0, 1, 0, 0, 1, []), (56, 5, 1, 3, 0, 0, []), (57, 49, 0, 0, 0, 0, []), (57, 2, 1, 3, 0, 0, []), (58, 2, 1, 2, 0, 0, []), (59, 0, 1, 0, 0, 1, []), (60, 9, 0, 1, 0, 0, []), (61, 18, 85, 3, 54, 0, []), (64, 4, 1, 0, 0, 0, []), (65, 4, 1, 0, 0, 0, []), (66, 25, 12, 91, 4, 0, [(0, 20, 10), (0, 1, 64)]), (69, 2, 1, 3, 0, 0, []), (70, 27, 0, 0, 0, 0, []), (71, 40, 0, 2, 14, 0, []), (74, 17, 79, 1, 52, 0, []), (77, 0, 1, 0, 0, 2, []), (78, 41, 0, 0, 0, 0, []), (79, 8, 0, 3, 0, 1, []), (82, 19, 57, 0, 37, 0, []), (85, 0, 1, 0, 0, 1, []), (86, 5, 1, 3, 0, 0, []), (87, 49, 0, 0, 0, 0, []), (87, 2, 1, 3, 0, 0, []), (88, 2, 1, 2, 0, 0, []), (89, 0, 1, 0, 0, 1, []), (90, 9, 0, 1, 0, 0, []), (91, 18, 116, 3, 74, 0, []), (94, 4, 1, 0, 0, 0, []), (95, 4, 1, 0, 0, 0, []), (96, 25, 12, 91, 4, 0, [(0, 20, 10), (0, 1, 64)]), (99, 2, 1, 3, 0, 0, []), (100, 27, 0, 0, 0, 0, []), (101, 0, 1, 0, 0, (-1), []), (102, 40, 1, 3, 14, 0, []), (105, 17, 110, 0, 72, 0, []), (108, 0, 1, 0, 0, 4, []), (109, 41, 0, 0, 0, 0, []), (110, 8, 0, 3, 0, 1, []), (113, 19, 87, 0, 56, 0, []), (116, 4, 1, 0, 0, 0, []), (117, 25, 12, 17, 4, 0, [(0, 20, 152), (0, 1, 8)]), (120, 2, 1, 1, 0, 0, []), (121, 27, 0, 0, 0, 0, []), (122, 17, 128, 1, 81, 0, []), (125, 0, 2, 0, 0, 6, []), (127, 41, 0, 0, 0, 0, []), (128, 4, 1, 0, 0, 0, []), (129, 0, 1, 0, 0, 2, []), (130, 0, 1, 0, 0, 1, []), (131, 40, 2, 3, 14, 0, []), (134, 17, 140, 0, 88, 0, []), (137, 0, 2, 0, 0, 7, []), (139, 41, 0, 0, 0, 0, []), (140, 0, 1, 0, 0, 1, []), (141, 5, 1, 3, 0, 0, []), (142, 49, 0, 0, 0, 0, []), (142, 2, 1, 3, 0, 0, []), (143, 2, 1, 2, 0, 0, []), (144, 0, 1, 0, 0, 1, []), (145, 9, 0, 1, 0, 0, []), (146, 18, 174, 3, 109, 0, []), (149, 4, 1, 0, 0, 0, []), (150, 25, 12, 66, 4, 0, [(0, 20, 80), (0, 1, 43)]), (153, 4, 1, 0, 0, 0, []), (154, 25, 12, 91, 4, 0, [(0, 20, 10), (0, 1, 64)]), (157, 2, 1, 3, 0, 0, []), (158, 27, 0, 0, 0, 0, []), (159, 27, 0, 0, 0, 0, []), (160, 0, 2, 0, 0, 8, []), (162, 18, 168, 1, 107, 0, []), (165, 0, 2, 0, 0, 7, []), (167, 41, 0, 0, 0, 0, []), (168, 8, 0, 3, 0, 1, []), (171, 19, 142, 0, 90, 0, []), (174, 4, 1, 0, 0, 0, []), (175, 0, 1, 0, 0, 2, []), (176, 4, 1, 0, 0, 0, []), (177, 25, 12, 20, 4, 0, [(0, 23, 1520), (0, 1, 11)]), (180, 0, 2, 0, 0, 10, []), (182, 2, 1, 1, 0, 0, []), (183, 9, 0, 2, 0, 0, []), (184, 27, 0, 1, 0, 0, []), (185, 40, 3, 3, 14, 0, []), (188, 5, 1, 3, 0, 0, []), (189, 0, 1, 0, 0, 2, []), (190, 2, 1, 3, 0, 0, []), (191, 40, 4, 2, 0, 0, []), (194, 5, 2, 4, 0, 0, []), (196, 4, 1, 0, 0, 0, []), (197, 25, 12, 56, 4, 0, [(0, 20, 560), (0, 1, 33)]), (200, 2, 2, 4, 0, 0, []), (202, 4, 1, 0, 0, 0, []), (203, 25, 12, 91, 4, 0, [(0, 20, 10), (0, 1, 64)]), (206, 2, 1, 2, 0, 0, []), (207, 0, 1, 0, 0, 1, []), (208, 9, 0, 1, 0, 0, []), (209, 27, 0, 0, 0, 0, []), (210, 28, 0, 0, 0, 0, []), (211, 4, 1, 0, 0, 0, []), (212, 25, 12, 57, 4, 0, [(0, 20, 560), (0, 1, 34)]), (215, 2, 2, 4, 0, 0, []), (217, 4, 1, 0, 0, 0, []), (218, 25, 12, 17, 4, 0, [(0, 20, 152), (0, 1, 8)]), (221, 2, 1, 1, 0, 0, []), (222, 27, 0, 0, 0, 0, []), (223, 28, 0, 0, 0, 0, []), (224, 0, 1, 0, 0, 1, []), (225, 5, 2, 5, 0, 0, []), (227, 49, 0, 0, 0, 0, []), (227, 2, 2, 5, 0, 0, []), (229, 2, 1, 2, 0, 0, []), (230, 0, 1, 0, 0, 1, []), (231, 9, 0, 1, 0, 0, []), (232, 18, 295, 3, 184, 0, []), (235, 4, 1, 0, 0, 0, []), (236, 25, 12, 91, 4, 0, [(0, 20, 10), (0, 1, 64)]), (239, 2, 2, 5, 0, 0, []), (241, 27, 0, 0, 0, 0, []), (242, 5, 2, 6, 0, 0, []), (244, 4, 1, 0, 0, 0, []), (245, 2, 2, 4, 0, 0, []), (247, 4, 1, 0, 0, 0, []), (248, 25, 12, 59, 4, 0, [(0, 20, 560), (0, 1, 36)]), (251, 2, 2, 4, 0, 0, []), (253, 27, 0, 0, 0, 0, []), (254, 2, 2, 6, 0, 0, []), (256, 40, 5, 4, 14, 0, []), (259, 4, 1, 0, 0, 0, []), (260, 25, 12, 67, 4, 0, [(0, 20, 640), (0, 1, 44)]), (263, 0, 2, 0, 0, 8, []), (265, 2, 2, 6, 0, 0, []), (267, 9, 0, 2, 0, 0, []), (268, 4, 1, 0, 0, 0, []), (269, 25, 12, 66, 4, 0, [(0, 20, 80), (0, 1, 43)]), (272, 2, 2, 6, 0, 0, []), (274, 27, 0, 0, 0, 0, []), (275, 9, 0, 0, 0, 0, []), (276, 2, 1, 3, 0, 0, []), (277, 28, 0, 0, 0, 0, []), (278, 4, 1, 0, 0, 0, []), (279, 25, 12, 66, 4, 0, [(0, 20, 80), (0, 1, 43)]), (282, 2, 2, 6, 0, 0, []), (284, 23, 0, 0, 0, 0, []), (285, 27, 0, 0, 0, 0, []), (286, 0, 1, 0, 0, 1, []), (287, 9, 0, 0, 0, 0, []), (288, 28, 0, 0, 0, 0, []), (289, 8, 0, 5, 0, 1, []), (292, 19, 227, 0, 143, 0, []), (295, 0, 1, 0, 0, 0, []), (296, 41, 0, 0, 0, 0, [])]
set_option maxRecDepth 20000 in
theorem qX12_chargef : f_all yX12_charge YX12_charge pX12_chargef :=
  ⟨f_aload_n (n := 0) (e_dx DX12_charge_0 0 rfl) rfl,
  f_getA (e_dx DX12_charge_0 1 rfl) fX12_30 rfl (by decide) (Nat.le_of_ble_eq_true rfl) rfl (by decide),
  f_iload_n (n := 1) (e_dx DX12_charge_0 2 rfl) rfl,
  f_iaload (e_dx DX12_charge_0 3 rfl),
  f_istore_n (n := 2) (e_dx DX12_charge_0 4 rfl) rfl (by decide),
  f_iconst (e_dx DX12_charge_0 5 rfl) ⟨by decide, by decide⟩,
  f_istore_n (n := 3) (e_dx DX12_charge_0 6 rfl) rfl (by decide),
  trivial,
  f_iload_n (n := 3) (e_dx DX12_charge_0 7 rfl) rfl,
  f_iload_n (n := 2) (e_dx DX12_charge_0 8 rfl) rfl,
  f_iconst (e_dx DX12_charge_0 9 rfl) ⟨by decide, by decide⟩,
  f_isub (e_dx DX12_charge_0 10 rfl),
  f_icmp_ge (e_dx DX12_charge_0 11 rfl) rfl,
  f_iconst (e_dx DX12_charge_0 12 rfl) ⟨by decide, by decide⟩,
  f_istore (e_dx DX12_charge_0 13 rfl) (by decide),
  trivial,
  f_iload (e_dx DX12_charge_0 14 rfl),
  f_iload_n (n := 3) (e_dx DX12_charge_0 15 rfl) rfl,
  f_icmp_ge (e_dx DX12_charge_0 16 rfl) rfl,
  f_aload_n (n := 0) (e_dx DX12_charge_0 17 rfl) rfl,
  f_getA (e_dx DX12_charge_0 18 rfl) fX12_202 rfl (by decide) (Nat.le_of_ble_eq_true rfl) rfl (by decide),
  f_iload (e_dx DX12_charge_0 19 rfl),
  f_iaload (e_dx DX12_charge_0 20 rfl),
  f_aload_n (n := 0) (e_dx DX12_charge_0 21 rfl) rfl,
  f_getA (e_dx DX12_charge_0 22 rfl) fX12_202 rfl (by decide) (Nat.le_of_ble_eq_true rfl) rfl (by decide),
  f_iload_n (n := 3) (e_dx DX12_charge_0 23 rfl) rfl,
  f_iaload (e_dx DX12_charge_0 24 rfl),
  f_icmp_ne (e_dx DX12_charge_0 25 rfl) rfl,
  f_iconst (e_dx DX12_charge_0 26 rfl) ⟨by decide, by decide⟩,
  ⟨(e_dx DX12_charge_0 27 rfl), rfl⟩,
  f_g8 (e_dx DX12_charge_0 28 rfl) ⟨by decide, by decide⟩,
  f_g19 (e_dx DX12_charge_0 29 rfl) rfl,
  f_g8 (e_dx DX12_charge_0 30 rfl) ⟨by decide, by decide⟩,
  f_g19 (e_dx DX12_charge_0 31 rfl) rfl,
  f_iconst (e_dx DX12_charge_0 32 rfl) ⟨by decide, by decide⟩,
  f_istore_n (n := 3) (e_dx DX12_charge_0 33 rfl) rfl (by decide),
  trivial,
  f_iload_n (n := 3) (e_dx DX12_charge_0 34 rfl) rfl,
  f_iload_n (n := 2) (e_dx DX12_charge_0 35 rfl) rfl,
  f_iconst (e_dx DX12_charge_0 36 rfl) ⟨by decide, by decide⟩,
  f_isub (e_dx DX12_charge_0 37 rfl),
  f_icmp_ge (e_dx DX12_charge_0 38 rfl) rfl,
  f_aload_n (n := 0) (e_dx DX12_charge_0 39 rfl) rfl,
  f_aload_n (n := 0) (e_dx DX12_charge_1 0 rfl) rfl,
  f_getA (e_dx DX12_charge_1 1 rfl) fX12_202 rfl (by decide) (Nat.le_of_ble_eq_true rfl) rfl (by decide),
  f_iload_n (n := 3) (e_dx DX12_charge_1 2 rfl) rfl,
  f_iaload (e_dx DX12_charge_1 3 rfl),
  x_callV (e_dx DX12_charge_1 4 rfl) mwX12_areAble vwX12_areAble cX12_707 rfl,
  f_if_ne (e_dx DX12_charge_1 5 rfl) rfl,
  f_iconst (e_dx DX12_charge_1 6 rfl) ⟨by decide, by decide⟩,
  ⟨(e_dx DX12_charge_1 7 rfl), rfl⟩,
  f_g8 (e_dx DX12_charge_1 8 rfl) ⟨by decide, by decide⟩,
  f_g19 (e_dx DX12_charge_1 9 rfl) rfl,
  f_iconst (e_dx DX12_charge_1 10 rfl) ⟨by decide, by decide⟩,
  f_istore_n (n := 3) (e_dx DX12_charge_1 11 rfl) rfl (by decide),
  trivial,
  f_iload_n (n := 3) (e_dx DX12_charge_1 12 rfl) rfl,
  f_iload_n (n := 2) (e_dx DX12_charge_1 13 rfl) rfl,
  f_iconst (e_dx DX12_charge_1 14 rfl) ⟨by decide, by decide⟩,
  f_isub (e_dx DX12_charge_1 15 rfl),
  f_icmp_ge (e_dx DX12_charge_1 16 rfl) rfl,
  f_aload_n (n := 0) (e_dx DX12_charge_1 17 rfl) rfl,
  f_aload_n (n := 0) (e_dx DX12_charge_1 18 rfl) rfl,
  f_getA (e_dx DX12_charge_1 19 rfl) fX12_202 rfl (by decide) (Nat.le_of_ble_eq_true rfl) rfl (by decide),
  f_iload_n (n := 3) (e_dx DX12_charge_1 20 rfl) rfl,
  f_iaload (e_dx DX12_charge_1 21 rfl),
  f_iconst (e_dx DX12_charge_1 22 rfl) ⟨by decide, by decide⟩,
  x_callV (e_dx DX12_charge_1 23 rfl) mwX12_isBarred vwX12_isBarred cX12_698 rfl,
  f_if_eq (e_dx DX12_charge_1 24 rfl) rfl,
  f_iconst (e_dx DX12_charge_1 25 rfl) ⟨by decide, by decide⟩,
  ⟨(e_dx DX12_charge_1 26 rfl), rfl⟩,
  f_g8 (e_dx DX12_charge_1 27 rfl) ⟨by decide, by decide⟩,
  f_g19 (e_dx DX12_charge_1 28 rfl) rfl,
  f_aload_n (n := 0) (e_dx DX12_charge_1 29 rfl) rfl,
  f_getA (e_dx DX12_charge_1 30 rfl) fX12_33 rfl (by decide) (Nat.le_of_ble_eq_true rfl) rfl (by decide),
  f_iload_n (n := 1) (e_dx DX12_charge_1 31 rfl) rfl,
  f_iaload (e_dx DX12_charge_1 32 rfl),
  f_if_ne (e_dx DX12_charge_1 33 rfl) rfl,
  f_bipush (e_dx DX12_charge_1 34 rfl) ⟨by decide, by decide⟩,
  ⟨(e_dx DX12_charge_1 35 rfl), rfl⟩,
  f_aload_n (n := 0) (e_dx DX12_charge_1 36 rfl) rfl,
  f_iconst (e_dx DX12_charge_1 37 rfl) ⟨by decide, by decide⟩,
  f_iconst (e_dx DX12_charge_1 38 rfl) ⟨by decide, by decide⟩,
  x_callV (e_dx DX12_charge_1 39 rfl) mwX12_full vwX12_full cX12_660 rfl,
  f_if_eq (e_dx DX12_charge_2 0 rfl) rfl,
  f_bipush (e_dx DX12_charge_2 1 rfl) ⟨by decide, by decide⟩,
  ⟨(e_dx DX12_charge_2 2 rfl), rfl⟩,
  f_iconst (e_dx DX12_charge_2 3 rfl) ⟨by decide, by decide⟩,
  f_istore_n (n := 3) (e_dx DX12_charge_2 4 rfl) rfl (by decide),
  trivial,
  f_iload_n (n := 3) (e_dx DX12_charge_2 5 rfl) rfl,
  f_iload_n (n := 2) (e_dx DX12_charge_2 6 rfl) rfl,
  f_iconst (e_dx DX12_charge_2 7 rfl) ⟨by decide, by decide⟩,
  f_isub (e_dx DX12_charge_2 8 rfl),
  f_icmp_ge (e_dx DX12_charge_2 9 rfl) rfl,
  f_aload_n (n := 0) (e_dx DX12_charge_2 10 rfl) rfl,
  f_getA (e_dx DX12_charge_2 11 rfl) fX12_139 rfl (by decide) (Nat.le_of_ble_eq_true rfl) rfl (by decide),
  f_aload_n (n := 0) (e_dx DX12_charge_2 12 rfl) rfl,
  f_getA (e_dx DX12_charge_2 13 rfl) fX12_202 rfl (by decide) (Nat.le_of_ble_eq_true rfl) rfl (by decide),
  f_iload_n (n := 3) (e_dx DX12_charge_2 14 rfl) rfl,
  f_iaload (e_dx DX12_charge_2 15 rfl),
  f_iaload (e_dx DX12_charge_2 16 rfl),
  f_bipush (e_dx DX12_charge_2 17 rfl) ⟨by decide, by decide⟩,
  f_icmp_ne (e_dx DX12_charge_2 18 rfl) rfl,
  f_bipush (e_dx DX12_charge_2 19 rfl) ⟨by decide, by decide⟩,
  ⟨(e_dx DX12_charge_2 20 rfl), rfl⟩,
  f_g8 (e_dx DX12_charge_2 21 rfl) ⟨by decide, by decide⟩,
  f_g19 (e_dx DX12_charge_2 22 rfl) rfl,
  f_aload_n (n := 0) (e_dx DX12_charge_2 23 rfl) rfl,
  f_iconst (e_dx DX12_charge_2 24 rfl) ⟨by decide, by decide⟩,
  f_aload_n (n := 0) (e_dx DX12_charge_2 25 rfl) rfl,
  f_getA (e_dx DX12_charge_2 26 rfl) fX12_42 rfl (by decide) (Nat.le_of_ble_eq_true rfl) rfl (by decide),
  f_bipush (e_dx DX12_charge_2 27 rfl) ⟨by decide, by decide⟩,
  f_iload_n (n := 1) (e_dx DX12_charge_2 28 rfl) rfl,
  f_imul (e_dx DX12_charge_2 29 rfl),
  f_laload (e_dx DX12_charge_2 30 rfl),
  x_callV (e_dx DX12_charge_2 31 rfl) mwX12_make vwX12_make cX12_534 rfl,
  f_istore_n (n := 3) (e_dx DX12_charge_2 32 rfl) rfl (by decide),
  f_iconst (e_dx DX12_charge_2 33 rfl) ⟨by decide, by decide⟩,
  f_iload_n (n := 3) (e_dx DX12_charge_2 34 rfl) rfl,
  x_callS (e_dx DX12_charge_2 35 rfl) mwX12_id cX12_540 swX12_id rfl,
  f_istore (e_dx DX12_charge_2 36 rfl) (by decide),
  f_aload_n (n := 0) (e_dx DX12_charge_2 37 rfl) rfl,
  f_getA (e_dx DX12_charge_2 38 rfl) fX12_109 rfl (by decide) (Nat.le_of_ble_eq_true rfl) rfl (by decide),
  f_iload (e_dx DX12_charge_2 39 rfl),
  f_aload_n (n := 0) (e_dx DX12_charge_3 0 rfl) rfl,
  f_getA (e_dx DX12_charge_3 1 rfl) fX12_202 rfl (by decide) (Nat.le_of_ble_eq_true rfl) rfl (by decide),
  f_iload_n (n := 2) (e_dx DX12_charge_3 2 rfl) rfl,
  f_iconst (e_dx DX12_charge_3 3 rfl) ⟨by decide, by decide⟩,
  f_isub (e_dx DX12_charge_3 4 rfl),
  f_iaload (e_dx DX12_charge_3 5 rfl),
  f_iastore (e_dx DX12_charge_3 6 rfl),
  f_aload_n (n := 0) (e_dx DX12_charge_3 7 rfl) rfl,
  f_getA (e_dx DX12_charge_3 8 rfl) fX12_112 rfl (by decide) (Nat.le_of_ble_eq_true rfl) rfl (by decide),
  f_iload (e_dx DX12_charge_3 9 rfl),
  f_aload_n (n := 0) (e_dx DX12_charge_3 10 rfl) rfl,
  f_getA (e_dx DX12_charge_3 11 rfl) fX12_33 rfl (by decide) (Nat.le_of_ble_eq_true rfl) rfl (by decide),
  f_iload_n (n := 1) (e_dx DX12_charge_3 12 rfl) rfl,
  f_iaload (e_dx DX12_charge_3 13 rfl),
  f_iastore (e_dx DX12_charge_3 14 rfl),
  f_iconst (e_dx DX12_charge_3 15 rfl) ⟨by decide, by decide⟩,
  f_istore (e_dx DX12_charge_3 16 rfl) (by decide),
  trivial,
  f_iload (e_dx DX12_charge_3 17 rfl),
  f_iload_n (n := 2) (e_dx DX12_charge_3 18 rfl) rfl,
  f_iconst (e_dx DX12_charge_3 19 rfl) ⟨by decide, by decide⟩,
  f_isub (e_dx DX12_charge_3 20 rfl),
  f_icmp_ge (e_dx DX12_charge_3 21 rfl) rfl,
  f_aload_n (n := 0) (e_dx DX12_charge_3 22 rfl) rfl,
  f_getA (e_dx DX12_charge_3 23 rfl) fX12_202 rfl (by decide) (Nat.le_of_ble_eq_true rfl) rfl (by decide),
  f_iload (e_dx DX12_charge_3 24 rfl),
  f_iaload (e_dx DX12_charge_3 25 rfl),
  f_istore (e_dx DX12_charge_3 26 rfl) (by decide),
  f_aload_n (n := 0) (e_dx DX12_charge_3 27 rfl) rfl,
  f_iload (e_dx DX12_charge_3 28 rfl),
  f_aload_n (n := 0) (e_dx DX12_charge_3 29 rfl) rfl,
  f_getA (e_dx DX12_charge_3 30 rfl) fX12_118 rfl (by decide) (Nat.le_of_ble_eq_true rfl) rfl (by decide),
  f_iload (e_dx DX12_charge_3 31 rfl),
  f_iaload (e_dx DX12_charge_3 32 rfl),
  f_iload (e_dx DX12_charge_3 33 rfl),
  x_callV (e_dx DX12_charge_3 34 rfl) mwX12_inOn vwX12_inOn cX12_720 rfl,
  f_aload_n (n := 0) (e_dx DX12_charge_3 35 rfl) rfl,
  f_getA (e_dx DX12_charge_3 36 rfl) fX12_142 rfl (by decide) (Nat.le_of_ble_eq_true rfl) rfl (by decide),
  f_bipush (e_dx DX12_charge_3 37 rfl) ⟨by decide, by decide⟩,
  f_iload (e_dx DX12_charge_3 38 rfl),
  f_imul (e_dx DX12_charge_3 39 rfl),
  f_aload_n (n := 0) (e_dx DX12_charge_4 0 rfl) rfl,
  f_getA (e_dx DX12_charge_4 1 rfl) fX12_139 rfl (by decide) (Nat.le_of_ble_eq_true rfl) rfl (by decide),
  f_iload (e_dx DX12_charge_4 2 rfl),
  f_iaload (e_dx DX12_charge_4 3 rfl),
  f_iadd (e_dx DX12_charge_4 4 rfl),
  f_iload_n (n := 3) (e_dx DX12_charge_4 5 rfl) rfl,
  f_iastore (e_dx DX12_charge_4 6 rfl),
  f_aload_n (n := 0) (e_dx DX12_charge_4 7 rfl) rfl,
  f_getA (e_dx DX12_charge_4 8 rfl) fX12_139 rfl (by decide) (Nat.le_of_ble_eq_true rfl) rfl (by decide),
  f_iload (e_dx DX12_charge_4 9 rfl),
  f_g23 (e_dx DX12_charge_4 10 rfl),
  f_iaload (e_dx DX12_charge_4 11 rfl),
  f_iconst (e_dx DX12_charge_4 12 rfl) ⟨by decide, by decide⟩,
  f_iadd (e_dx DX12_charge_4 13 rfl),
  f_iastore (e_dx DX12_charge_4 14 rfl),
  f_g8 (e_dx DX12_charge_4 15 rfl) ⟨by decide, by decide⟩,
  f_g19 (e_dx DX12_charge_4 16 rfl) rfl,
  f_iconst (e_dx DX12_charge_4 17 rfl) ⟨by decide, by decide⟩,
  ⟨(e_dx DX12_charge_4 18 rfl), rfl⟩, trivial⟩
def lX12_charge (c_X12_areAble : Int → e_M → (Int → Prop) → Prop) (c_X12_isBarred : Int → Int → e_M → (Int → Prop) → Prop) (c_X12_full : Int → Int → e_M → (Int → Prop) → Prop) (c_X12_make : Int → Int → e_M → (Int → e_M → Prop) → Prop) (c_X12_id : Int → Int → e_M → (Int → Prop) → Prop) (c_X12_inOn : Int → Int → Int → e_M → (e_M → Prop) → Prop) : List (Nat × f_Wt) := [(0, f_wm [(4466, 12, 123), (1, 0, 0)] (fun ar M R => c_X12_areAble (f_vi (f_nth ar 1)) M (fun r => R (some (.inl r)) M))), (1, f_wm [(4466, 12, 123), (1, 0, 0), (1, 0, 0)] (fun ar M R => c_X12_isBarred (f_vi (f_nth ar 1)) (f_vi (f_nth ar 2)) M (fun r => R (some (.inl r)) M))), (2, f_wm [(4466, 12, 123), (1, 0, 0), (1, 0, 0)] (fun ar M R => c_X12_full (f_vi (f_nth ar 1)) (f_vi (f_nth ar 2)) M (fun r => R (some (.inl r)) M))), (3, f_wm [(4466, 12, 123), (1, 0, 0), (2, 0, 0)] (fun ar M R => c_X12_make (f_vi (f_nth ar 1)) (f_vi (f_nth ar 2)) M (fun r M => R (some (.inl r)) M))), (4, f_wm [(1, 0, 0), (1, 0, 0)] (fun ar M R => c_X12_id (f_vi (f_nth ar 0)) (f_vi (f_nth ar 1)) M (fun r => R (some (.inl r)) M))), (5, f_wm [(4466, 12, 123), (1, 0, 0), (1, 0, 0), (1, 0, 0)] (fun ar M R => c_X12_inOn (f_vi (f_nth ar 1)) (f_vi (f_nth ar 2)) (f_vi (f_nth ar 3)) M (fun M => R none M)))]
set_option maxRecDepth 20000 in
theorem BX12_charge_9 {sh : Nat → Nat × Nat} {t : Nat} {rm : Nat × Nat × Nat} {cs : Nat × Nat} {R : f_Rt} {c_X12_areAble : Int → e_M → (Int → Prop) → Prop} {c_X12_isBarred : Int → Int → e_M → (Int → Prop) → Prop} {c_X12_full : Int → Int → e_M → (Int → Prop) → Prop} {c_X12_make : Int → Int → e_M → (Int → e_M → Prop) → Prop} {c_X12_id : Int → Int → e_M → (Int → Prop) → Prop} {c_X12_inOn : Int → Int → Int → e_M → (e_M → Prop) → Prop} {k57 : Int → Int → Int → e_M → Prop} {k19 : Int → Int → Int → Int → e_M → Prop} {x1 : Int} {x2 : Int} {x3 : Int} {M : e_M} (C : f_Hy sh t yX12_charge rm cs 11 (lX12_charge c_X12_areAble c_X12_isBarred c_X12_full c_X12_make c_X12_id c_X12_inOn) R) (h57 : ∀ (x1 : Int) (x2 : Int) (x3 : Int) (M : e_M), k57 x1 x2 x3 M → f_E sh t YX12_charge rm cs (f_Q sh t R) 57 [.inr (.inr (.inl (12, 123, 4456))), .inl x1, .inl x2, .inl x3, .inr (.inr (.inr ())), .inr (.inr (.inr ())), .inr (.inr (.inr ()))] [] M) (h19 : ∀ (x1 : Int) (x2 : Int) (x3 : Int) (x4 : Int) (M : e_M), k19 x1 x2 x3 x4 M → f_E sh t YX12_charge rm cs (f_Q sh t R) 19 [.inr (.inr (.inl (12, 123, 4456))), .inl x1, .inl x2, .inl x3, .inl x4, .inr (.inr (.inr ())), .inr (.inr (.inr ()))] [] M) (h : VX12_charge_9 c_X12_areAble c_X12_isBarred c_X12_full c_X12_make c_X12_id c_X12_inOn k57 k19 (fun r M => R (some (.inl r)) M) x1 x2 x3 M) : f_E sh t YX12_charge rm cs (f_Q sh t R) 9 [.inr (.inr (.inl (12, 123, 4456))), .inl x1, .inl x2, .inl x3, .inr (.inr (.inr ())), .inr (.inr (.inr ())), .inr (.inr (.inr ()))] [] M :=
  f_go (KC := f_kc [(57, f_pl [(4466, 12, 123), (1, 0, 0), (1, 0, 0), (1, 0, 0), (0, 0, 0), (0, 0, 0), (0, 0, 0)] [] (fun ls st M => k57 (f_vi (f_nth ls 1)) (f_vi (f_nth ls 2)) (f_vi (f_nth ls 3)) M)), (19, f_pl [(4466, 12, 123), (1, 0, 0), (1, 0, 0), (1, 0, 0), (1, 0, 0), (0, 0, 0), (0, 0, 0)] [] (fun ls st M => k19 (f_vi (f_nth ls 1)) (f_vi (f_nth ls 2)) (f_vi (f_nth ls 3)) (f_vi (f_nth ls 4)) M))]) C qX12_chargef (f_kc_cons (f_pl_ok rfl (fun ls st M h => h57 _ _ _ M h)) (f_kc_cons (f_pl_ok rfl (fun ls st M h => h19 _ _ _ _ M h)) f_kc_nil)) 187 8 h
set_option maxRecDepth 20000 in
theorem BX12_charge_19 {sh : Nat → Nat × Nat} {t : Nat} {rm : Nat × Nat × Nat} {cs : Nat × Nat} {R : f_Rt} {c_X12_areAble : Int → e_M → (Int → Prop) → Prop} {c_X12_isBarred : Int → Int → e_M → (Int → Prop) → Prop} {c_X12_full : Int → Int → e_M → (Int → Prop) → Prop} {c_X12_make : Int → Int → e_M → (Int → e_M → Prop) → Prop} {c_X12_id : Int → Int → e_M → (Int → Prop) → Prop} {c_X12_inOn : Int → Int → Int → e_M → (e_M → Prop) → Prop} {k9 : Int → Int → Int → e_M → Prop} {k19 : Int → Int → Int → Int → e_M → Prop} {x1 : Int} {x2 : Int} {x3 : Int} {x4 : Int} {M : e_M} (C : f_Hy sh t yX12_charge rm cs 11 (lX12_charge c_X12_areAble c_X12_isBarred c_X12_full c_X12_make c_X12_id c_X12_inOn) R) (h9 : ∀ (x1 : Int) (x2 : Int) (x3 : Int) (M : e_M), k9 x1 x2 x3 M → f_E sh t YX12_charge rm cs (f_Q sh t R) 9 [.inr (.inr (.inl (12, 123, 4456))), .inl x1, .inl x2, .inl x3, .inr (.inr (.inr ())), .inr (.inr (.inr ())), .inr (.inr (.inr ()))] [] M) (h19 : ∀ (x1 : Int) (x2 : Int) (x3 : Int) (x4 : Int) (M : e_M), k19 x1 x2 x3 x4 M → f_E sh t YX12_charge rm cs (f_Q sh t R) 19 [.inr (.inr (.inl (12, 123, 4456))), .inl x1, .inl x2, .inl x3, .inl x4, .inr (.inr (.inr ())), .inr (.inr (.inr ()))] [] M) (h : VX12_charge_19 c_X12_areAble c_X12_isBarred c_X12_full c_X12_make c_X12_id c_X12_inOn k9 k19 (fun r M => R (some (.inl r)) M) x1 x2 x3 x4 M) : f_E sh t YX12_charge rm cs (f_Q sh t R) 19 [.inr (.inr (.inl (12, 123, 4456))), .inl x1, .inl x2, .inl x3, .inl x4, .inr (.inr (.inr ())), .inr (.inr (.inr ()))] [] M :=
  f_go (KC := f_kc [(9, f_pl [(4466, 12, 123), (1, 0, 0), (1, 0, 0), (1, 0, 0), (0, 0, 0), (0, 0, 0), (0, 0, 0)] [] (fun ls st M => k9 (f_vi (f_nth ls 1)) (f_vi (f_nth ls 2)) (f_vi (f_nth ls 3)) M)), (19, f_pl [(4466, 12, 123), (1, 0, 0), (1, 0, 0), (1, 0, 0), (1, 0, 0), (0, 0, 0), (0, 0, 0)] [] (fun ls st M => k19 (f_vi (f_nth ls 1)) (f_vi (f_nth ls 2)) (f_vi (f_nth ls 3)) (f_vi (f_nth ls 4)) M))]) C qX12_chargef (f_kc_cons (f_pl_ok rfl (fun ls st M h => h9 _ _ _ M h)) (f_kc_cons (f_pl_ok rfl (fun ls st M h => h19 _ _ _ _ M h)) f_kc_nil)) 187 16 h
set_option maxRecDepth 20000 in
theorem BX12_charge_57 {sh : Nat → Nat × Nat} {t : Nat} {rm : Nat × Nat × Nat} {cs : Nat × Nat} {R : f_Rt} {c_X12_areAble : Int → e_M → (Int → Prop) → Prop} {c_X12_isBarred : Int → Int → e_M → (Int → Prop) → Prop} {c_X12_full : Int → Int → e_M → (Int → Prop) → Prop} {c_X12_make : Int → Int → e_M → (Int → e_M → Prop) → Prop} {c_X12_id : Int → Int → e_M → (Int → Prop) → Prop} {c_X12_inOn : Int → Int → Int → e_M → (e_M → Prop) → Prop} {k87 : Int → Int → Int → e_M → Prop} {k57 : Int → Int → Int → e_M → Prop} {x1 : Int} {x2 : Int} {x3 : Int} {M : e_M} (C : f_Hy sh t yX12_charge rm cs 11 (lX12_charge c_X12_areAble c_X12_isBarred c_X12_full c_X12_make c_X12_id c_X12_inOn) R) (h87 : ∀ (x1 : Int) (x2 : Int) (x3 : Int) (M : e_M), k87 x1 x2 x3 M → f_E sh t YX12_charge rm cs (f_Q sh t R) 87 [.inr (.inr (.inl (12, 123, 4456))), .inl x1, .inl x2, .inl x3, .inr (.inr (.inr ())), .inr (.inr (.inr ())), .inr (.inr (.inr ()))] [] M) (h57 : ∀ (x1 : Int) (x2 : Int) (x3 : Int) (M : e_M), k57 x1 x2 x3 M → f_E sh t YX12_charge rm cs (f_Q sh t R) 57 [.inr (.inr (.inl (12, 123, 4456))), .inl x1, .inl x2, .inl x3, .inr (.inr (.inr ())), .inr (.inr (.inr ())), .inr (.inr (.inr ()))] [] M) (h : VX12_charge_57 c_X12_areAble c_X12_isBarred c_X12_full c_X12_make c_X12_id c_X12_inOn k87 k57 (fun r M => R (some (.inl r)) M) x1 x2 x3 M) : f_E sh t YX12_charge rm cs (f_Q sh t R) 57 [.inr (.inr (.inl (12, 123, 4456))), .inl x1, .inl x2, .inl x3, .inr (.inr (.inr ())), .inr (.inr (.inr ())), .inr (.inr (.inr ()))] [] M :=
  f_go (KC := f_kc [(87, f_pl [(4466, 12, 123), (1, 0, 0), (1, 0, 0), (1, 0, 0), (0, 0, 0), (0, 0, 0), (0, 0, 0)] [] (fun ls st M => k87 (f_vi (f_nth ls 1)) (f_vi (f_nth ls 2)) (f_vi (f_nth ls 3)) M)), (57, f_pl [(4466, 12, 123), (1, 0, 0), (1, 0, 0), (1, 0, 0), (0, 0, 0), (0, 0, 0), (0, 0, 0)] [] (fun ls st M => k57 (f_vi (f_nth ls 1)) (f_vi (f_nth ls 2)) (f_vi (f_nth ls 3)) M))]) C qX12_chargef (f_kc_cons (f_pl_ok rfl (fun ls st M h => h87 _ _ _ M h)) (f_kc_cons (f_pl_ok rfl (fun ls st M h => h57 _ _ _ M h)) f_kc_nil)) 187 37 h
set_option maxRecDepth 20000 in
theorem BX12_charge_87 {sh : Nat → Nat × Nat} {t : Nat} {rm : Nat × Nat × Nat} {cs : Nat × Nat} {R : f_Rt} {c_X12_areAble : Int → e_M → (Int → Prop) → Prop} {c_X12_isBarred : Int → Int → e_M → (Int → Prop) → Prop} {c_X12_full : Int → Int → e_M → (Int → Prop) → Prop} {c_X12_make : Int → Int → e_M → (Int → e_M → Prop) → Prop} {c_X12_id : Int → Int → e_M → (Int → Prop) → Prop} {c_X12_inOn : Int → Int → Int → e_M → (e_M → Prop) → Prop} {k142 : Int → Int → Int → e_M → Prop} {k87 : Int → Int → Int → e_M → Prop} {x1 : Int} {x2 : Int} {x3 : Int} {M : e_M} (C : f_Hy sh t yX12_charge rm cs 11 (lX12_charge c_X12_areAble c_X12_isBarred c_X12_full c_X12_make c_X12_id c_X12_inOn) R) (h142 : ∀ (x1 : Int) (x2 : Int) (x3 : Int) (M : e_M), k142 x1 x2 x3 M → f_E sh t YX12_charge rm cs (f_Q sh t R) 142 [.inr (.inr (.inl (12, 123, 4456))), .inl x1, .inl x2, .inl x3, .inr (.inr (.inr ())), .inr (.inr (.inr ())), .inr (.inr (.inr ()))] [] M) (h87 : ∀ (x1 : Int) (x2 : Int) (x3 : Int) (M : e_M), k87 x1 x2 x3 M → f_E sh t YX12_charge rm cs (f_Q sh t R) 87 [.inr (.inr (.inl (12, 123, 4456))), .inl x1, .inl x2, .inl x3, .inr (.inr (.inr ())), .inr (.inr (.inr ())), .inr (.inr (.inr ()))] [] M) (h : VX12_charge_87 c_X12_areAble c_X12_isBarred c_X12_full c_X12_make c_X12_id c_X12_inOn k142 k87 (fun r M => R (some (.inl r)) M) x1 x2 x3 M) : f_E sh t YX12_charge rm cs (f_Q sh t R) 87 [.inr (.inr (.inl (12, 123, 4456))), .inl x1, .inl x2, .inl x3, .inr (.inr (.inr ())), .inr (.inr (.inr ())), .inr (.inr (.inr ()))] [] M :=
  f_go (KC := f_kc [(142, f_pl [(4466, 12, 123), (1, 0, 0), (1, 0, 0), (1, 0, 0), (0, 0, 0), (0, 0, 0), (0, 0, 0)] [] (fun ls st M => k142 (f_vi (f_nth ls 1)) (f_vi (f_nth ls 2)) (f_vi (f_nth ls 3)) M)), (87, f_pl [(4466, 12, 123), (1, 0, 0), (1, 0, 0), (1, 0, 0), (0, 0, 0), (0, 0, 0), (0, 0, 0)] [] (fun ls st M => k87 (f_vi (f_nth ls 1)) (f_vi (f_nth ls 2)) (f_vi (f_nth ls 3)) M))]) C qX12_chargef (f_kc_cons (f_pl_ok rfl (fun ls st M h => h142 _ _ _ M h)) (f_kc_cons (f_pl_ok rfl (fun ls st M h => h87 _ _ _ M h)) f_kc_nil)) 187 56 h
set_option maxRecDepth 20000 in
theorem BX12_charge_142 {sh : Nat → Nat × Nat} {t : Nat} {rm : Nat × Nat × Nat} {cs : Nat × Nat} {R : f_Rt} {c_X12_areAble : Int → e_M → (Int → Prop) → Prop} {c_X12_isBarred : Int → Int → e_M → (Int → Prop) → Prop} {c_X12_full : Int → Int → e_M → (Int → Prop) → Prop} {c_X12_make : Int → Int → e_M → (Int → e_M → Prop) → Prop} {c_X12_id : Int → Int → e_M → (Int → Prop) → Prop} {c_X12_inOn : Int → Int → Int → e_M → (e_M → Prop) → Prop} {k227 : Int → Int → Int → Int → e_M → Prop} {k142 : Int → Int → Int → e_M → Prop} {x1 : Int} {x2 : Int} {x3 : Int} {M : e_M} (C : f_Hy sh t yX12_charge rm cs 11 (lX12_charge c_X12_areAble c_X12_isBarred c_X12_full c_X12_make c_X12_id c_X12_inOn) R) (h227 : ∀ (x2 : Int) (x3 : Int) (x4 : Int) (x5 : Int) (M : e_M), k227 x2 x3 x4 x5 M → f_E sh t YX12_charge rm cs (f_Q sh t R) 227 [.inr (.inr (.inl (12, 123, 4456))), .inr (.inr (.inr ())), .inl x2, .inl x3, .inl x4, .inl x5, .inr (.inr (.inr ()))] [] M) (h142 : ∀ (x1 : Int) (x2 : Int) (x3 : Int) (M : e_M), k142 x1 x2 x3 M → f_E sh t YX12_charge rm cs (f_Q sh t R) 142 [.inr (.inr (.inl (12, 123, 4456))), .inl x1, .inl x2, .inl x3, .inr (.inr (.inr ())), .inr (.inr (.inr ())), .inr (.inr (.inr ()))] [] M) (h : VX12_charge_142 c_X12_areAble c_X12_isBarred c_X12_full c_X12_make c_X12_id c_X12_inOn k227 k142 (fun r M => R (some (.inl r)) M) x1 x2 x3 M) : f_E sh t YX12_charge rm cs (f_Q sh t R) 142 [.inr (.inr (.inl (12, 123, 4456))), .inl x1, .inl x2, .inl x3, .inr (.inr (.inr ())), .inr (.inr (.inr ())), .inr (.inr (.inr ()))] [] M :=
  f_go (KC := f_kc [(227, f_pl [(4466, 12, 123), (0, 0, 0), (1, 0, 0), (1, 0, 0), (1, 0, 0), (1, 0, 0), (0, 0, 0)] [] (fun ls st M => k227 (f_vi (f_nth ls 2)) (f_vi (f_nth ls 3)) (f_vi (f_nth ls 4)) (f_vi (f_nth ls 5)) M)), (142, f_pl [(4466, 12, 123), (1, 0, 0), (1, 0, 0), (1, 0, 0), (0, 0, 0), (0, 0, 0), (0, 0, 0)] [] (fun ls st M => k142 (f_vi (f_nth ls 1)) (f_vi (f_nth ls 2)) (f_vi (f_nth ls 3)) M))]) C qX12_chargef (f_kc_cons (f_pl_ok rfl (fun ls st M h => h227 _ _ _ _ M h)) (f_kc_cons (f_pl_ok rfl (fun ls st M h => h142 _ _ _ M h)) f_kc_nil)) 187 90 h
set_option maxRecDepth 20000 in
theorem BX12_charge_227 {sh : Nat → Nat × Nat} {t : Nat} {rm : Nat × Nat × Nat} {cs : Nat × Nat} {R : f_Rt} {c_X12_areAble : Int → e_M → (Int → Prop) → Prop} {c_X12_isBarred : Int → Int → e_M → (Int → Prop) → Prop} {c_X12_full : Int → Int → e_M → (Int → Prop) → Prop} {c_X12_make : Int → Int → e_M → (Int → e_M → Prop) → Prop} {c_X12_id : Int → Int → e_M → (Int → Prop) → Prop} {c_X12_inOn : Int → Int → Int → e_M → (e_M → Prop) → Prop} {k227 : Int → Int → Int → Int → e_M → Prop} {x2 : Int} {x3 : Int} {x4 : Int} {x5 : Int} {M : e_M} (C : f_Hy sh t yX12_charge rm cs 11 (lX12_charge c_X12_areAble c_X12_isBarred c_X12_full c_X12_make c_X12_id c_X12_inOn) R) (h227 : ∀ (x2 : Int) (x3 : Int) (x4 : Int) (x5 : Int) (M : e_M), k227 x2 x3 x4 x5 M → f_E sh t YX12_charge rm cs (f_Q sh t R) 227 [.inr (.inr (.inl (12, 123, 4456))), .inr (.inr (.inr ())), .inl x2, .inl x3, .inl x4, .inl x5, .inr (.inr (.inr ()))] [] M) (h : VX12_charge_227 c_X12_areAble c_X12_isBarred c_X12_full c_X12_make c_X12_id c_X12_inOn k227 (fun r M => R (some (.inl r)) M) x2 x3 x4 x5 M) : f_E sh t YX12_charge rm cs (f_Q sh t R) 227 [.inr (.inr (.inl (12, 123, 4456))), .inr (.inr (.inr ())), .inl x2, .inl x3, .inl x4, .inl x5, .inr (.inr (.inr ()))] [] M :=
  f_go (KC := f_kc [(227, f_pl [(4466, 12, 123), (0, 0, 0), (1, 0, 0), (1, 0, 0), (1, 0, 0), (1, 0, 0), (0, 0, 0)] [] (fun ls st M => k227 (f_vi (f_nth ls 2)) (f_vi (f_nth ls 3)) (f_vi (f_nth ls 4)) (f_vi (f_nth ls 5)) M))]) C qX12_chargef (f_kc_cons (f_pl_ok rfl (fun ls st M h => h227 _ _ _ _ M h)) f_kc_nil) 187 143 h
set_option maxRecDepth 20000 in
theorem BX12_charge {sh : Nat → Nat × Nat} {t : Nat} {rm : Nat × Nat × Nat} {cs : Nat × Nat} {R : f_Rt} {c_X12_areAble : Int → e_M → (Int → Prop) → Prop} {c_X12_isBarred : Int → Int → e_M → (Int → Prop) → Prop} {c_X12_full : Int → Int → e_M → (Int → Prop) → Prop} {c_X12_make : Int → Int → e_M → (Int → e_M → Prop) → Prop} {c_X12_id : Int → Int → e_M → (Int → Prop) → Prop} {c_X12_inOn : Int → Int → Int → e_M → (e_M → Prop) → Prop} {k9 : Int → Int → Int → e_M → Prop} {x1 : Int} {M : e_M} (C : f_Hy sh t yX12_charge rm cs 11 (lX12_charge c_X12_areAble c_X12_isBarred c_X12_full c_X12_make c_X12_id c_X12_inOn) R) (h9 : ∀ (x1 : Int) (x2 : Int) (x3 : Int) (M : e_M), k9 x1 x2 x3 M → f_E sh t YX12_charge rm cs (f_Q sh t R) 9 [.inr (.inr (.inl (12, 123, 4456))), .inl x1, .inl x2, .inl x3, .inr (.inr (.inr ())), .inr (.inr (.inr ())), .inr (.inr (.inr ()))] [] M) (h : VX12_charge c_X12_areAble c_X12_isBarred c_X12_full c_X12_make c_X12_id c_X12_inOn k9 (fun r M => R (some (.inl r)) M) x1 M) : f_E sh t YX12_charge rm cs (f_Q sh t R) 0 [.inr (.inr (.inl (12, 123, 4456))), .inl x1, .inr (.inr (.inr ())), .inr (.inr (.inr ())), .inr (.inr (.inr ())), .inr (.inr (.inr ())), .inr (.inr (.inr ()))] [] M :=
  f_go (KC := f_kc [(9, f_pl [(4466, 12, 123), (1, 0, 0), (1, 0, 0), (1, 0, 0), (0, 0, 0), (0, 0, 0), (0, 0, 0)] [] (fun ls st M => k9 (f_vi (f_nth ls 1)) (f_vi (f_nth ls 2)) (f_vi (f_nth ls 3)) M))]) C qX12_chargef (f_kc_cons (f_pl_ok rfl (fun ls st M h => h9 _ _ _ M h)) f_kc_nil) 187 0 h
def WX12_charge_227 (Q : Int → e_M → Prop) : Nat → Int → Int → Int → Int → e_M → Prop
  | 0, _, _, _, _, _ => False
  | n + 1, x2, x3, x4, x5, M =>
    VX12_charge_227 WX12_areAble WX12_isBarred WX12_full WX12_make WX12_id WX12_inOn (WX12_charge_227 Q n) Q x2 x3 x4 x5 M
def WX12_charge_142 (Q : Int → e_M → Prop) : Nat → Int → Int → Int → e_M → Prop
  | 0, _, _, _, _ => False
  | n + 1, x1, x2, x3, M =>
    VX12_charge_142 WX12_areAble WX12_isBarred WX12_full WX12_make WX12_id WX12_inOn (fun x2 x3 x4 x5 M => ∃ j, WX12_charge_227 Q j x2 x3 x4 x5 M) (WX12_charge_142 Q n) Q x1 x2 x3 M
def WX12_charge_87 (Q : Int → e_M → Prop) : Nat → Int → Int → Int → e_M → Prop
  | 0, _, _, _, _ => False
  | n + 1, x1, x2, x3, M =>
    VX12_charge_87 WX12_areAble WX12_isBarred WX12_full WX12_make WX12_id WX12_inOn (fun x1 x2 x3 M => ∃ j, WX12_charge_142 Q j x1 x2 x3 M) (WX12_charge_87 Q n) Q x1 x2 x3 M
def WX12_charge_57 (Q : Int → e_M → Prop) : Nat → Int → Int → Int → e_M → Prop
  | 0, _, _, _, _ => False
  | n + 1, x1, x2, x3, M =>
    VX12_charge_57 WX12_areAble WX12_isBarred WX12_full WX12_make WX12_id WX12_inOn (fun x1 x2 x3 M => ∃ j, WX12_charge_87 Q j x1 x2 x3 M) (WX12_charge_57 Q n) Q x1 x2 x3 M
def WX12_charge_19 (H9 : Int → Int → Int → e_M → Prop) (Q : Int → e_M → Prop) : Nat → Int → Int → Int → Int → e_M → Prop
  | 0, _, _, _, _, _ => False
  | n + 1, x1, x2, x3, x4, M =>
    VX12_charge_19 WX12_areAble WX12_isBarred WX12_full WX12_make WX12_id WX12_inOn H9 (WX12_charge_19 H9 Q n) Q x1 x2 x3 x4 M
def WX12_charge_9 (Q : Int → e_M → Prop) : Nat → Int → Int → Int → e_M → Prop
  | 0, _, _, _, _ => False
  | n + 1, x1, x2, x3, M =>
    VX12_charge_9 WX12_areAble WX12_isBarred WX12_full WX12_make WX12_id WX12_inOn (fun x1 x2 x3 M => ∃ j, WX12_charge_57 Q j x1 x2 x3 M) (fun x1 x2 x3 x4 M => ∃ j, WX12_charge_19 (WX12_charge_9 Q n) Q j x1 x2 x3 x4 M) Q x1 x2 x3 M
def WX12_charge (x1 : Int) (M : e_M) (Q : Int → e_M → Prop) : Prop :=
  VX12_charge WX12_areAble WX12_isBarred WX12_full WX12_make WX12_id WX12_inOn (fun x1 x2 x3 M => ∃ j, WX12_charge_9 Q j x1 x2 x3 M) Q x1 M
theorem PX12_charge_227 {sh : Nat → Nat × Nat} {t : Nat} {rm : Nat × Nat × Nat} {cs : Nat × Nat} {R : f_Rt} (C : f_Hy sh t yX12_charge rm cs 11 (lX12_charge WX12_areAble WX12_isBarred WX12_full WX12_make WX12_id WX12_inOn) R) : ∀ (n : Nat) (x2 : Int) (x3 : Int) (x4 : Int) (x5 : Int) (M : e_M), WX12_charge_227 (fun r M => R (some (.inl r)) M) n x2 x3 x4 x5 M → f_E sh t YX12_charge rm cs (f_Q sh t R) 227 [.inr (.inr (.inl (12, 123, 4456))), .inr (.inr (.inr ())), .inl x2, .inl x3, .inl x4, .inl x5, .inr (.inr (.inr ()))] [] M := by
  intro n
  induction n with
  | zero => intro x2 x3 x4 x5 M h; exact h.elim
  | succ n ih => intro x2 x3 x4 x5 M h; exact BX12_charge_227 C ih h
theorem PX12_charge_142 {sh : Nat → Nat × Nat} {t : Nat} {rm : Nat × Nat × Nat} {cs : Nat × Nat} {R : f_Rt} (C : f_Hy sh t yX12_charge rm cs 11 (lX12_charge WX12_areAble WX12_isBarred WX12_full WX12_make WX12_id WX12_inOn) R) : ∀ (n : Nat) (x1 : Int) (x2 : Int) (x3 : Int) (M : e_M), WX12_charge_142 (fun r M => R (some (.inl r)) M) n x1 x2 x3 M → f_E sh t YX12_charge rm cs (f_Q sh t R) 142 [.inr (.inr (.inl (12, 123, 4456))), .inl x1, .inl x2, .inl x3, .inr (.inr (.inr ())), .inr (.inr (.inr ())), .inr (.inr (.inr ()))] [] M := by
  intro n
  induction n with
  | zero => intro x1 x2 x3 M h; exact h.elim
  | succ n ih => intro x1 x2 x3 M h; exact BX12_charge_142 C (fun x2 x3 x4 x5 M ⟨j, h⟩ => PX12_charge_227 C j _ _ _ _ _ h) ih h
theorem PX12_charge_87 {sh : Nat → Nat × Nat} {t : Nat} {rm : Nat × Nat × Nat} {cs : Nat × Nat} {R : f_Rt} (C : f_Hy sh t yX12_charge rm cs 11 (lX12_charge WX12_areAble WX12_isBarred WX12_full WX12_make WX12_id WX12_inOn) R) : ∀ (n : Nat) (x1 : Int) (x2 : Int) (x3 : Int) (M : e_M), WX12_charge_87 (fun r M => R (some (.inl r)) M) n x1 x2 x3 M → f_E sh t YX12_charge rm cs (f_Q sh t R) 87 [.inr (.inr (.inl (12, 123, 4456))), .inl x1, .inl x2, .inl x3, .inr (.inr (.inr ())), .inr (.inr (.inr ())), .inr (.inr (.inr ()))] [] M := by
  intro n
  induction n with
  | zero => intro x1 x2 x3 M h; exact h.elim
  | succ n ih => intro x1 x2 x3 M h; exact BX12_charge_87 C (fun x1 x2 x3 M ⟨j, h⟩ => PX12_charge_142 C j _ _ _ _ h) ih h
theorem PX12_charge_57 {sh : Nat → Nat × Nat} {t : Nat} {rm : Nat × Nat × Nat} {cs : Nat × Nat} {R : f_Rt} (C : f_Hy sh t yX12_charge rm cs 11 (lX12_charge WX12_areAble WX12_isBarred WX12_full WX12_make WX12_id WX12_inOn) R) : ∀ (n : Nat) (x1 : Int) (x2 : Int) (x3 : Int) (M : e_M), WX12_charge_57 (fun r M => R (some (.inl r)) M) n x1 x2 x3 M → f_E sh t YX12_charge rm cs (f_Q sh t R) 57 [.inr (.inr (.inl (12, 123, 4456))), .inl x1, .inl x2, .inl x3, .inr (.inr (.inr ())), .inr (.inr (.inr ())), .inr (.inr (.inr ()))] [] M := by
  intro n
  induction n with
  | zero => intro x1 x2 x3 M h; exact h.elim
  | succ n ih => intro x1 x2 x3 M h; exact BX12_charge_57 C (fun x1 x2 x3 M ⟨j, h⟩ => PX12_charge_87 C j _ _ _ _ h) ih h
theorem PX12_charge_19 {sh : Nat → Nat × Nat} {t : Nat} {rm : Nat × Nat × Nat} {cs : Nat × Nat} {R : f_Rt} {H9 : Int → Int → Int → e_M → Prop} (C : f_Hy sh t yX12_charge rm cs 11 (lX12_charge WX12_areAble WX12_isBarred WX12_full WX12_make WX12_id WX12_inOn) R) (g9 : ∀ (x1 : Int) (x2 : Int) (x3 : Int) (M : e_M), H9 x1 x2 x3 M → f_E sh t YX12_charge rm cs (f_Q sh t R) 9 [.inr (.inr (.inl (12, 123, 4456))), .inl x1, .inl x2, .inl x3, .inr (.inr (.inr ())), .inr (.inr (.inr ())), .inr (.inr (.inr ()))] [] M) : ∀ (n : Nat) (x1 : Int) (x2 : Int) (x3 : Int) (x4 : Int) (M : e_M), WX12_charge_19 H9 (fun r M => R (some (.inl r)) M) n x1 x2 x3 x4 M → f_E sh t YX12_charge rm cs (f_Q sh t R) 19 [.inr (.inr (.inl (12, 123, 4456))), .inl x1, .inl x2, .inl x3, .inl x4, .inr (.inr (.inr ())), .inr (.inr (.inr ()))] [] M := by
  intro n
  induction n with
  | zero => intro x1 x2 x3 x4 M h; exact h.elim
  | succ n ih => intro x1 x2 x3 x4 M h; exact BX12_charge_19 C g9 ih h
theorem PX12_charge_9 {sh : Nat → Nat × Nat} {t : Nat} {rm : Nat × Nat × Nat} {cs : Nat × Nat} {R : f_Rt} (C : f_Hy sh t yX12_charge rm cs 11 (lX12_charge WX12_areAble WX12_isBarred WX12_full WX12_make WX12_id WX12_inOn) R) : ∀ (n : Nat) (x1 : Int) (x2 : Int) (x3 : Int) (M : e_M), WX12_charge_9 (fun r M => R (some (.inl r)) M) n x1 x2 x3 M → f_E sh t YX12_charge rm cs (f_Q sh t R) 9 [.inr (.inr (.inl (12, 123, 4456))), .inl x1, .inl x2, .inl x3, .inr (.inr (.inr ())), .inr (.inr (.inr ())), .inr (.inr (.inr ()))] [] M := by
  intro n
  induction n with
  | zero => intro x1 x2 x3 M h; exact h.elim
  | succ n ih => intro x1 x2 x3 M h; exact BX12_charge_9 C (fun x1 x2 x3 M ⟨j, h⟩ => PX12_charge_57 C j _ _ _ _ h) (fun x1 x2 x3 x4 M ⟨j, h⟩ => PX12_charge_19 C ih j _ _ _ _ _ h) h
theorem PX12_charge {sh : Nat → Nat × Nat} {t : Nat} {rm : Nat × Nat × Nat} {cs : Nat × Nat} {R : f_Rt} {x1 : Int} {M : e_M} (C : f_Hy sh t yX12_charge rm cs 11 (lX12_charge WX12_areAble WX12_isBarred WX12_full WX12_make WX12_id WX12_inOn) R) (h : WX12_charge x1 M (fun r M => R (some (.inl r)) M)) : f_E sh t YX12_charge rm cs (f_Q sh t R) 0 [.inr (.inr (.inl (12, 123, 4456))), .inl x1, .inr (.inr (.inr ())), .inr (.inr (.inr ())), .inr (.inr (.inr ())), .inr (.inr (.inr ())), .inr (.inr (.inr ()))] [] M :=
  BX12_charge C (fun x1 x2 x3 M ⟨j, h⟩ => PX12_charge_9 C j _ _ _ _ h) h
def wX12_charge : f_Wt := f_wm [(4466, 12, 123), (1, 0, 0)] (fun ar M R => WX12_charge (f_vi (f_nth ar 1)) M (fun r M => R (some (.inl r)) M))
theorem TX12_charge {sh : Nat → Nat × Nat} {t : Nat} : f_Mt sh t YX12_charge 11 (wX12_charge) :=
  f_Mt_of (k := 5) (Nat.le_of_ble_eq_true rfl) rfl rfl (fun ar M R rm cs h1 h2 h3 hX h => PX12_charge ⟨Nat.le_of_ble_eq_true rfl, h1, h2, h3, ⟨(f_Mt.up (Nat.le_of_ble_eq_true rfl) TX12_areAble), (f_Mt.up (Nat.le_of_ble_eq_true rfl) TX12_isBarred), (f_Mt.up (Nat.le_of_ble_eq_true rfl) TX12_full), (f_Mt.up (Nat.le_of_ble_eq_true rfl) TX12_make), (f_Mt.up (Nat.le_of_ble_eq_true rfl) TX12_id), (f_Mt.up (Nat.le_of_ble_eq_true rfl) TX12_inOn), trivial⟩, hX⟩ h)
def VX12_pay (c_X12_id : Int → Int → e_M → (Int → Prop) → Prop) (c_X12_endCharge : Int → e_M → (e_M → Prop) → Prop) (Q : Int → e_M → Prop) (x1 : Int) (M : e_M) : Prop :=
  ((0 ≤ (0 : Int) ∧ (0 : Int) < 10) ∧ (c_X12_id 2 (M 4520 ((0 : Int).toNat)) M (fun r1 => ((0 ≤ x1 ∧ x1 < 152) ∧ (((M 4464 (x1.toNat)) = 0 → (Q 6 M)) ∧ (¬ (M 4464 (x1.toNat)) = 0 → ((0 ≤ x1 ∧ x1 < 152) ∧ ((0 ≤ r1 ∧ r1 < 560) ∧ (((M 4464 (x1.toNat)) ≤ (M 4490 (r1.toNat)) → ((0 ≤ r1 ∧ r1 < 560) ∧ ((0 ≤ x1 ∧ x1 < 152) ∧ ((0 ≤ r1 ∧ r1 < 560) ∧ (∀ M2 : e_M, M2 = e_up M 4490 (r1.toNat) (e_w32 ((M 4490 (r1.toNat)) - (M 4464 (x1.toNat)))) → ((0 ≤ r1 ∧ r1 < 560) ∧ ((¬ (M2 4490 (r1.toNat)) = 0 → (Q 0 M2)) ∧ ((M2 4490 (r1.toNat)) = 0 → ((0 ≤ (0 : Int) ∧ (0 : Int) < 10) ∧ (c_X12_endCharge (M2 4520 ((0 : Int).toNat)) M2 (fun M3 => (Q 0 M3)))))))))))) ∧ ((M 4490 (r1.toNat)) < (M 4464 (x1.toNat)) → (Q 6 M)))))))))))
def yX12_pay (i : Nat) : e_Y := x_get YX12_pay [YX12_id, YX12_endCharge] i
def pX12_payf : List x_I := [(0, 0, 1, 0, 0, 2, []), (1, 4, 1, 0, 0, 0, []), (2, 25, 12, 91, 4, 0, [(0, 20, 10), (0, 1, 64)]), (5, 0, 1, 0, 0, 0, []), (6, 27, 0, 0, 0, 0, []), (7, 40, 0, 2, 0, 0, []), (10, 5, 1, 2, 0, 0, []), (11, 4, 1, 0, 0, 0, []), (12, 25, 12, 17, 4, 0, [(0, 20, 152), (0, 1, 8)]), (15, 2, 1, 1, 0, 0, []), (16, 27, 0, 0, 0, 0, []), (17, 17, 35, 0, 22, 0, []), (20, 4, 1, 0, 0, 0, []), (21, 25, 12, 17, 4, 0, [(0, 20, 152), (0, 1, 8)]), (24, 2, 1, 1, 0, 0, []), (25, 27, 0, 0, 0, 0, []), (26, 4, 1, 0, 0, 0, []), (27, 25, 12, 57, 4, 0, [(0, 20, 560), (0, 1, 34)]), (30, 2, 1, 2, 0, 0, []), (31, 27, 0, 0, 0, 0, []), (32, 18, 38, 5, 24, 0, []), (35, 0, 2, 0, 0, 6, []), (37, 41, 0, 0, 0, 0, []), (38, 4, 1, 0, 0, 0, []), (39, 25, 12, 57, 4, 0, [(0, 20, 560), (0, 1, 34)]), (42, 2, 1, 2, 0, 0, []), (43, 23, 0, 0, 0, 0, []), (44, 27, 0, 0, 0, 0, []), (45, 4, 1, 0, 0, 0, []), (46, 25, 12, 17, 4, 0, [(0, 20, 152), (0, 1, 8)]), (49, 2, 1, 1, 0, 0, []), (50, 27, 0, 0, 0, 0, []), (51, 9, 0, 1, 0, 0, []), (52, 28, 0, 0, 0, 0, []), (53, 4, 1, 0, 0, 0, []), (54, 25, 12, 57, 4, 0, [(0, 20, 560), (0, 1, 34)]), (57, 2, 1, 2, 0, 0, []), (58, 27, 0, 0, 0, 0, []), (59, 17, 72, 1, 46, 0, []), (62, 4, 1, 0, 0, 0, []), (63, 4, 1, 0, 0, 0, []), (64, 25, 12, 91, 4, 0, [(0, 20, 10), (0, 1, 64)]), (67, 0, 1, 0, 0, 0, []), (68, 27, 0, 0, 0, 0, []), (69, 40, 1, 2, 14, 0, []), (72, 0, 1, 0, 0, 0, []), (73, 41, 0, 0, 0, 0, [])]
set_option maxRecDepth 20000 in
theorem qX12_payf : f_all yX12_pay YX12_pay pX12_payf :=
  ⟨f_iconst (e_dx DX12_pay_0 0 rfl) ⟨by decide, by decide⟩,
  f_aload_n (n := 0) (e_dx DX12_pay_0 1 rfl) rfl,
  f_getA (e_dx DX12_pay_0 2 rfl) fX12_202 rfl (by decide) (Nat.le_of_ble_eq_true rfl) rfl (by decide),
  f_iconst (e_dx DX12_pay_0 3 rfl) ⟨by decide, by decide⟩,
  f_iaload (e_dx DX12_pay_0 4 rfl),
  x_callS (e_dx DX12_pay_0 5 rfl) mwX12_id cX12_540 swX12_id rfl,
  f_istore_n (n := 2) (e_dx DX12_pay_0 6 rfl) rfl (by decide),
  f_aload_n (n := 0) (e_dx DX12_pay_0 7 rfl) rfl,
  f_getA (e_dx DX12_pay_0 8 rfl) fX12_33 rfl (by decide) (Nat.le_of_ble_eq_true rfl) rfl (by decide),
  f_iload_n (n := 1) (e_dx DX12_pay_0 9 rfl) rfl,
  f_iaload (e_dx DX12_pay_0 10 rfl),
  f_if_eq (e_dx DX12_pay_0 11 rfl) rfl,
  f_aload_n (n := 0) (e_dx DX12_pay_0 12 rfl) rfl,
  f_getA (e_dx DX12_pay_0 13 rfl) fX12_33 rfl (by decide) (Nat.le_of_ble_eq_true rfl) rfl (by decide),
  f_iload_n (n := 1) (e_dx DX12_pay_0 14 rfl) rfl,
  f_iaload (e_dx DX12_pay_0 15 rfl),
  f_aload_n (n := 0) (e_dx DX12_pay_0 16 rfl) rfl,
  f_getA (e_dx DX12_pay_0 17 rfl) fX12_112 rfl (by decide) (Nat.le_of_ble_eq_true rfl) rfl (by decide),
  f_iload_n (n := 2) (e_dx DX12_pay_0 18 rfl) rfl,
  f_iaload (e_dx DX12_pay_0 19 rfl),
  f_icmp_le (e_dx DX12_pay_0 20 rfl) rfl,
  f_bipush (e_dx DX12_pay_0 21 rfl) ⟨by decide, by decide⟩,
  ⟨(e_dx DX12_pay_0 22 rfl), rfl⟩,
  f_aload_n (n := 0) (e_dx DX12_pay_0 23 rfl) rfl,
  f_getA (e_dx DX12_pay_0 24 rfl) fX12_112 rfl (by decide) (Nat.le_of_ble_eq_true rfl) rfl (by decide),
  f_iload_n (n := 2) (e_dx DX12_pay_0 25 rfl) rfl,
  f_g23 (e_dx DX12_pay_0 26 rfl),
  f_iaload (e_dx DX12_pay_0 27 rfl),
  f_aload_n (n := 0) (e_dx DX12_pay_0 28 rfl) rfl,
  f_getA (e_dx DX12_pay_0 29 rfl) fX12_33 rfl (by decide) (Nat.le_of_ble_eq_true rfl) rfl (by decide),
  f_iload_n (n := 1) (e_dx DX12_pay_0 30 rfl) rfl,
  f_iaload (e_dx DX12_pay_0 31 rfl),
  f_isub (e_dx DX12_pay_0 32 rfl),
  f_iastore (e_dx DX12_pay_0 33 rfl),
  f_aload_n (n := 0) (e_dx DX12_pay_0 34 rfl) rfl,
  f_getA (e_dx DX12_pay_0 35 rfl) fX12_112 rfl (by decide) (Nat.le_of_ble_eq_true rfl) rfl (by decide),
  f_iload_n (n := 2) (e_dx DX12_pay_0 36 rfl) rfl,
  f_iaload (e_dx DX12_pay_0 37 rfl),
  f_if_ne (e_dx DX12_pay_0 38 rfl) rfl,
  f_aload_n (n := 0) (e_dx DX12_pay_0 39 rfl) rfl,
  f_aload_n (n := 0) (e_dx DX12_pay_1 0 rfl) rfl,
  f_getA (e_dx DX12_pay_1 1 rfl) fX12_202 rfl (by decide) (Nat.le_of_ble_eq_true rfl) rfl (by decide),
  f_iconst (e_dx DX12_pay_1 2 rfl) ⟨by decide, by decide⟩,
  f_iaload (e_dx DX12_pay_1 3 rfl),
  x_callV (e_dx DX12_pay_1 4 rfl) mwX12_endCharge vwX12_endCharge cX12_746 rfl,
  f_iconst (e_dx DX12_pay_1 5 rfl) ⟨by decide, by decide⟩,
  ⟨(e_dx DX12_pay_1 6 rfl), rfl⟩, trivial⟩
def lX12_pay (c_X12_id : Int → Int → e_M → (Int → Prop) → Prop) (c_X12_endCharge : Int → e_M → (e_M → Prop) → Prop) : List (Nat × f_Wt) := [(0, f_wm [(1, 0, 0), (1, 0, 0)] (fun ar M R => c_X12_id (f_vi (f_nth ar 0)) (f_vi (f_nth ar 1)) M (fun r => R (some (.inl r)) M))), (1, f_wm [(4466, 12, 123), (1, 0, 0)] (fun ar M R => c_X12_endCharge (f_vi (f_nth ar 1)) M (fun M => R none M)))]
set_option maxRecDepth 20000 in
theorem BX12_pay {sh : Nat → Nat × Nat} {t : Nat} {rm : Nat × Nat × Nat} {cs : Nat × Nat} {R : f_Rt} {c_X12_id : Int → Int → e_M → (Int → Prop) → Prop} {c_X12_endCharge : Int → e_M → (e_M → Prop) → Prop} {x1 : Int} {M : e_M} (C : f_Hy sh t yX12_pay rm cs 7 (lX12_pay c_X12_id c_X12_endCharge) R) (h : VX12_pay c_X12_id c_X12_endCharge (fun r M => R (some (.inl r)) M) x1 M) : f_E sh t YX12_pay rm cs (f_Q sh t R) 0 [.inr (.inr (.inl (12, 123, 4456))), .inl x1, .inr (.inr (.inr ()))] [] M :=
  f_go (KC := f_kc []) C qX12_payf f_kc_nil 49 0 h
def WX12_pay (x1 : Int) (M : e_M) (Q : Int → e_M → Prop) : Prop :=
  VX12_pay WX12_id WX12_endCharge Q x1 M
theorem PX12_pay {sh : Nat → Nat × Nat} {t : Nat} {rm : Nat × Nat × Nat} {cs : Nat × Nat} {R : f_Rt} {x1 : Int} {M : e_M} (C : f_Hy sh t yX12_pay rm cs 7 (lX12_pay WX12_id WX12_endCharge) R) (h : WX12_pay x1 M (fun r M => R (some (.inl r)) M)) : f_E sh t YX12_pay rm cs (f_Q sh t R) 0 [.inr (.inr (.inl (12, 123, 4456))), .inl x1, .inr (.inr (.inr ()))] [] M :=
  BX12_pay C h
def wX12_pay : f_Wt := f_wm [(4466, 12, 123), (1, 0, 0)] (fun ar M R => WX12_pay (f_vi (f_nth ar 1)) M (fun r M => R (some (.inl r)) M))
theorem TX12_pay {sh : Nat → Nat × Nat} {t : Nat} : f_Mt sh t YX12_pay 7 (wX12_pay) :=
  f_Mt_of (k := 1) (Nat.le_of_ble_eq_true rfl) rfl rfl (fun ar M R rm cs h1 h2 h3 hX h => PX12_pay ⟨Nat.le_of_ble_eq_true rfl, h1, h2, h3, ⟨(f_Mt.up (Nat.le_of_ble_eq_true rfl) TX12_id), (f_Mt.up (Nat.le_of_ble_eq_true rfl) TX12_endCharge), trivial⟩, hX⟩ h)
def VX12_assign (c_X12_id : Int → Int → e_M → (Int → Prop) → Prop) (c_X12_isAble : Int → Int → e_M → (Int → Prop) → Prop) (Q : Int → e_M → Prop) (M : e_M) : Prop :=
  ((0 ≤ (0 : Int) ∧ (0 : Int) < 10) ∧ (c_X12_id 2 (M 4520 ((0 : Int).toNat)) M (fun r1 => ((0 ≤ r1 ∧ r1 < 560) ∧ (c_X12_isAble (M 4489 (r1.toNat)) (M 4456 86) M (fun r2 => ((¬ r2 = 0 → ((0 ≤ r1 ∧ r1 < 560) ∧ ((0 ≤ (1 : Int) ∧ (1 : Int) < 10) ∧ ((¬ (M 4489 (r1.toNat)) = (M 4520 ((1 : Int).toNat)) → ((0 ≤ (1 : Int) ∧ (1 : Int) < 10) ∧ ((0 ≤ r1 ∧ r1 < 560) ∧ (∀ M3 : e_M, M3 = e_up M 4489 (r1.toNat) (M 4520 ((1 : Int).toNat)) → (Q 0 M3))))) ∧ ((M 4489 (r1.toNat)) = (M 4520 ((1 : Int).toNat)) → (Q 9 M)))))) ∧ (r2 = 0 → (Q 2 M)))))))))
def yX12_assign (i : Nat) : e_Y := x_get YX12_assign [YX12_id, YX12_isAble] i
def pX12_assignf : List x_I := [(0, 0, 1, 0, 0, 2, []), (1, 4, 1, 0, 0, 0, []), (2, 25, 12, 91, 4, 0, [(0, 20, 10), (0, 1, 64)]), (5, 0, 1, 0, 0, 0, []), (6, 27, 0, 0, 0, 0, []), (7, 40, 0, 2, 0, 0, []), (10, 5, 1, 1, 0, 0, []), (11, 4, 1, 0, 0, 0, []), (12, 4, 1, 0, 0, 0, []), (13, 25, 12, 56, 4, 0, [(0, 20, 560), (0, 1, 33)]), (16, 2, 1, 1, 0, 0, []), (17, 27, 0, 0, 0, 0, []), (18, 4, 1, 0, 0, 0, []), (19, 25, 12, 86, 0, 0, []), (22, 40, 1, 3, 14, 0, []), (25, 17, 30, 1, 19, 0, []), (28, 0, 1, 0, 0, 2, []), (29, 41, 0, 0, 0, 0, []), (30, 4, 1, 0, 0, 0, []), (31, 25, 12, 56, 4, 0, [(0, 20, 560), (0, 1, 33)]), (34, 2, 1, 1, 0, 0, []), (35, 27, 0, 0, 0, 0, []), (36, 4, 1, 0, 0, 0, []), (37, 25, 12, 91, 4, 0, [(0, 20, 10), (0, 1, 64)]), (40, 0, 1, 0, 0, 1, []), (41, 27, 0, 0, 0, 0, []), (42, 18, 48, 1, 30, 0, []), (45, 0, 2, 0, 0, 9, []), (47, 41, 0, 0, 0, 0, []), (48, 4, 1, 0, 0, 0, []), (49, 25, 12, 56, 4, 0, [(0, 20, 560), (0, 1, 33)]), (52, 2, 1, 1, 0, 0, []), (53, 4, 1, 0, 0, 0, []), (54, 25, 12, 91, 4, 0, [(0, 20, 10), (0, 1, 64)]), (57, 0, 1, 0, 0, 1, []), (58, 27, 0, 0, 0, 0, []), (59, 28, 0, 0, 0, 0, []), (60, 0, 1, 0, 0, 0, []), (61, 41, 0, 0, 0, 0, [])]
set_option maxRecDepth 20000 in
theorem qX12_assignf : f_all yX12_assign YX12_assign pX12_assignf :=
  ⟨f_iconst (e_dx DX12_assign_0 0 rfl) ⟨by decide, by decide⟩,
  f_aload_n (n := 0) (e_dx DX12_assign_0 1 rfl) rfl,
  f_getA (e_dx DX12_assign_0 2 rfl) fX12_202 rfl (by decide) (Nat.le_of_ble_eq_true rfl) rfl (by decide),
  f_iconst (e_dx DX12_assign_0 3 rfl) ⟨by decide, by decide⟩,
  f_iaload (e_dx DX12_assign_0 4 rfl),
  x_callS (e_dx DX12_assign_0 5 rfl) mwX12_id cX12_540 swX12_id rfl,
  f_istore_n (n := 1) (e_dx DX12_assign_0 6 rfl) rfl (by decide),
  f_aload_n (n := 0) (e_dx DX12_assign_0 7 rfl) rfl,
  f_aload_n (n := 0) (e_dx DX12_assign_0 8 rfl) rfl,
  f_getA (e_dx DX12_assign_0 9 rfl) fX12_109 rfl (by decide) (Nat.le_of_ble_eq_true rfl) rfl (by decide),
  f_iload_n (n := 1) (e_dx DX12_assign_0 10 rfl) rfl,
  f_iaload (e_dx DX12_assign_0 11 rfl),
  f_aload_n (n := 0) (e_dx DX12_assign_0 12 rfl) rfl,
  f_getf (e_dx DX12_assign_0 13 rfl) fX12_543 rfl (by decide) (by decide) (by decide),
  x_callV (e_dx DX12_assign_0 14 rfl) mwX12_isAble vwX12_isAble cX12_582 rfl,
  f_if_ne (e_dx DX12_assign_0 15 rfl) rfl,
  f_iconst (e_dx DX12_assign_0 16 rfl) ⟨by decide, by decide⟩,
  ⟨(e_dx DX12_assign_0 17 rfl), rfl⟩,
  f_aload_n (n := 0) (e_dx DX12_assign_0 18 rfl) rfl,
  f_getA (e_dx DX12_assign_0 19 rfl) fX12_109 rfl (by decide) (Nat.le_of_ble_eq_true rfl) rfl (by decide),
  f_iload_n (n := 1) (e_dx DX12_assign_0 20 rfl) rfl,
  f_iaload (e_dx DX12_assign_0 21 rfl),
  f_aload_n (n := 0) (e_dx DX12_assign_0 22 rfl) rfl,
  f_getA (e_dx DX12_assign_0 23 rfl) fX12_202 rfl (by decide) (Nat.le_of_ble_eq_true rfl) rfl (by decide),
  f_iconst (e_dx DX12_assign_0 24 rfl) ⟨by decide, by decide⟩,
  f_iaload (e_dx DX12_assign_0 25 rfl),
  f_icmp_ne (e_dx DX12_assign_0 26 rfl) rfl,
  f_bipush (e_dx DX12_assign_0 27 rfl) ⟨by decide, by decide⟩,
  ⟨(e_dx DX12_assign_0 28 rfl), rfl⟩,
  f_aload_n (n := 0) (e_dx DX12_assign_0 29 rfl) rfl,
  f_getA (e_dx DX12_assign_0 30 rfl) fX12_109 rfl (by decide) (Nat.le_of_ble_eq_true rfl) rfl (by decide),
  f_iload_n (n := 1) (e_dx DX12_assign_0 31 rfl) rfl,
  f_aload_n (n := 0) (e_dx DX12_assign_0 32 rfl) rfl,
  f_getA (e_dx DX12_assign_0 33 rfl) fX12_202 rfl (by decide) (Nat.le_of_ble_eq_true rfl) rfl (by decide),
  f_iconst (e_dx DX12_assign_0 34 rfl) ⟨by decide, by decide⟩,
  f_iaload (e_dx DX12_assign_0 35 rfl),
  f_iastore (e_dx DX12_assign_0 36 rfl),
  f_iconst (e_dx DX12_assign_0 37 rfl) ⟨by decide, by decide⟩,
  ⟨(e_dx DX12_assign_0 38 rfl), rfl⟩, trivial⟩
def lX12_assign (c_X12_id : Int → Int → e_M → (Int → Prop) → Prop) (c_X12_isAble : Int → Int → e_M → (Int → Prop) → Prop) : List (Nat × f_Wt) := [(0, f_wm [(1, 0, 0), (1, 0, 0)] (fun ar M R => c_X12_id (f_vi (f_nth ar 0)) (f_vi (f_nth ar 1)) M (fun r => R (some (.inl r)) M))), (1, f_wm [(4466, 12, 123), (1, 0, 0), (1, 0, 0)] (fun ar M R => c_X12_isAble (f_vi (f_nth ar 1)) (f_vi (f_nth ar 2)) M (fun r => R (some (.inl r)) M)))]
set_option maxRecDepth 20000 in
theorem BX12_assign {sh : Nat → Nat × Nat} {t : Nat} {rm : Nat × Nat × Nat} {cs : Nat × Nat} {R : f_Rt} {c_X12_id : Int → Int → e_M → (Int → Prop) → Prop} {c_X12_isAble : Int → Int → e_M → (Int → Prop) → Prop} {M : e_M} (C : f_Hy sh t yX12_assign rm cs 10 (lX12_assign c_X12_id c_X12_isAble) R) (h : VX12_assign c_X12_id c_X12_isAble (fun r M => R (some (.inl r)) M) M) : f_E sh t YX12_assign rm cs (f_Q sh t R) 0 [.inr (.inr (.inl (12, 123, 4456))), .inr (.inr (.inr ()))] [] M :=
  f_go (KC := f_kc []) C qX12_assignf f_kc_nil 41 0 h
def WX12_assign (M : e_M) (Q : Int → e_M → Prop) : Prop :=
  VX12_assign WX12_id WX12_isAble Q M
theorem PX12_assign {sh : Nat → Nat × Nat} {t : Nat} {rm : Nat × Nat × Nat} {cs : Nat × Nat} {R : f_Rt} {M : e_M} (C : f_Hy sh t yX12_assign rm cs 10 (lX12_assign WX12_id WX12_isAble) R) (h : WX12_assign M (fun r M => R (some (.inl r)) M)) : f_E sh t YX12_assign rm cs (f_Q sh t R) 0 [.inr (.inr (.inl (12, 123, 4456))), .inr (.inr (.inr ()))] [] M :=
  BX12_assign C h
def wX12_assign : f_Wt := f_wm [(4466, 12, 123)] (fun ar M R => WX12_assign M (fun r M => R (some (.inl r)) M))
theorem TX12_assign {sh : Nat → Nat × Nat} {t : Nat} : f_Mt sh t YX12_assign 10 (wX12_assign) :=
  f_Mt_of (k := 1) (Nat.le_of_ble_eq_true rfl) rfl rfl (fun ar M R rm cs h1 h2 h3 hX h => PX12_assign ⟨Nat.le_of_ble_eq_true rfl, h1, h2, h3, ⟨(f_Mt.up (Nat.le_of_ble_eq_true rfl) TX12_id), (f_Mt.up (Nat.le_of_ble_eq_true rfl) TX12_isAble), trivial⟩, hX⟩ h)
def VX12_ranked_50 (c_X12_rankAt : Int → Int → e_M → (Int → Prop) → Prop) (k50 : Int → Int → Int → e_M → Prop) (Q : Int → e_M → Prop) (x1 : Int) (x3 : Int) (x4 : Int) (M : e_M) : Prop :=
  ((x4 ≤ x3 → ((0 ≤ (0 : Int) ∧ (0 : Int) < 10) ∧ ((0 ≤ (e_w32 ((e_w32 ((8 : Int) * x1)) + x3)) ∧ (e_w32 ((e_w32 ((8 : Int) * x1)) + x3)) < 640) ∧ (∀ M1 : e_M, M1 = e_up M 4500 ((e_w32 ((e_w32 ((8 : Int) * x1)) + x3)).toNat) (M 4520 ((0 : Int).toNat)) → (Q 0 M1))))) ∧ (x3 < x4 → ((0 ≤ (e_w32 ((e_w32 ((e_w32 ((8 : Int) * x1)) + x4)) - 1)) ∧ (e_w32 ((e_w32 ((e_w32 ((8 : Int) * x1)) + x4)) - 1)) < 640) ∧ ((0 ≤ (e_w32 ((e_w32 ((8 : Int) * x1)) + x4)) ∧ (e_w32 ((e_w32 ((8 : Int) * x1)) + x4)) < 640) ∧ (∀ M2 : e_M, M2 = e_up M 4500 ((e_w32 ((e_w32 ((8 : Int) * x1)) + x4)).toNat) (M 4500 ((e_w32 ((e_w32 ((e_w32 ((8 : Int) * x1)) + x4)) - 1)).toNat)) → (k50 x1 x3 (e_w32 (x4 + (-1))) M2))))))
def VX12_ranked (c_X12_rankAt : Int → Int → e_M → (Int → Prop) → Prop) (k50 : Int → Int → Int → e_M → Prop) (Q : Int → e_M → Prop) (M : e_M) : Prop :=
  ((0 ≤ (2 : Int) ∧ (2 : Int) < 10) ∧ ((0 ≤ (0 : Int) ∧ (0 : Int) < 10) ∧ (c_X12_rankAt (M 4520 ((2 : Int).toNat)) (M 4520 ((0 : Int).toNat)) M (fun r1 => ((0 ≤ (1 : Int) ∧ (1 : Int) < 10) ∧ (c_X12_rankAt (M 4520 ((2 : Int).toNat)) (M 4520 ((1 : Int).toNat)) M (fun r2 => ((r1 < 0 → (Q 9 M)) ∧ (0 ≤ r1 → ((r2 < 0 → (Q 9 M)) ∧ (0 ≤ r2 → ((r2 < r1 → (k50 (M 4520 ((2 : Int).toNat)) r2 r1 M)) ∧ (r1 ≤ r2 → (Q 9 M))))))))))))))
def yX12_ranked (i : Nat) : e_Y := x_get YX12_ranked [YX12_rankAt] i
def pX12_rankedf : List x_I := [(0, 4, 1, 0, 0, 0, []), (1, 25, 12, 91, 4, 0, [(0, 20, 10), (0, 1, 64)]), (4, 0, 1, 0, 0, 2, []), (5, 27, 0, 0, 0, 0, []), (6, 5, 1, 1, 0, 0, []), (7, 4, 1, 0, 0, 0, []), (8, 2, 1, 1, 0, 0, []), (9, 4, 1, 0, 0, 0, []), (10, 25, 12, 91, 4, 0, [(0, 20, 10), (0, 1, 64)]), (13, 0, 1, 0, 0, 0, []), (14, 27, 0, 0, 0, 0, []), (15, 40, 0, 3, 14, 0, []), (18, 5, 1, 2, 0, 0, []), (19, 4, 1, 0, 0, 0, []), (20, 2, 1, 1, 0, 0, []), (21, 4, 1, 0, 0, 0, []), (22, 25, 12, 91, 4, 0, [(0, 20, 10), (0, 1, 64)]), (25, 0, 1, 0, 0, 1, []), (26, 27, 0, 0, 0, 0, []), (27, 40, 0, 3, 14, 0, []), (30, 5, 1, 3, 0, 0, []), (31, 2, 1, 2, 0, 0, []), (32, 17, 44, 2, 29, 0, []), (35, 2, 1, 3, 0, 0, []), (36, 17, 44, 2, 29, 0, []), (39, 2, 1, 2, 0, 0, []), (40, 2, 1, 3, 0, 0, []), (41, 18, 47, 4, 31, 0, []), (44, 0, 2, 0, 0, 9, []), (46, 41, 0, 0, 0, 0, []), (47, 2, 1, 2, 0, 0, []), (48, 5, 2, 4, 0, 0, []), (50, 49, 0, 0, 0, 0, []), (50, 2, 2, 4, 0, 0, []), (52, 2, 1, 3, 0, 0, []), (53, 18, 88, 5, 57, 0, []), (56, 4, 1, 0, 0, 0, []), (57, 25, 12, 67, 4, 0, [(0, 20, 640), (0, 1, 44)]), (60, 0, 2, 0, 0, 8, []), (62, 2, 1, 1, 0, 0, []), (63, 9, 0, 2, 0, 0, []), (64, 2, 2, 4, 0, 0, []), (66, 9, 0, 0, 0, 0, []), (67, 4, 1, 0, 0, 0, []), (68, 25, 12, 67, 4, 0, [(0, 20, 640), (0, 1, 44)]), (71, 0, 2, 0, 0, 8, []), (73, 2, 1, 1, 0, 0, []), (74, 9, 0, 2, 0, 0, []), (75, 2, 2, 4, 0, 0, []), (77, 9, 0, 0, 0, 0, []), (78, 0, 1, 0, 0, 1, []), (79, 9, 0, 1, 0, 0, []), (80, 27, 0, 0, 0, 0, []), (81, 28, 0, 0, 0, 0, []), (82, 8, 0, 4, 0, (-1), []), (85, 19, 50, 0, 33, 0, []), (88, 4, 1, 0, 0, 0, []), (89, 25, 12, 67, 4, 0, [(0, 20, 640), (0, 1, 44)]), (92, 0, 2, 0, 0, 8, []), (94, 2, 1, 1, 0, 0, []), (95, 9, 0, 2, 0, 0, []), (96, 2, 1, 3, 0, 0, []), (97, 9, 0, 0, 0, 0, []), (98, 4, 1, 0, 0, 0, []), (99, 25, 12, 91, 4, 0, [(0, 20, 10), (0, 1, 64)]), (102, 0, 1, 0, 0, 0, []), (103, 27, 0, 0, 0, 0, []), (104, 28, 0, 0, 0, 0, []), (105, 0, 1, 0, 0, 0, []), (106, 41, 0, 0, 0, 0, [])]
set_option maxRecDepth 20000 in
theorem qX12_rankedf : f_all yX12_ranked YX12_ranked pX12_rankedf :=
  ⟨f_aload_n (n := 0) (e_dx DX12_ranked_0 0 rfl) rfl,
  f_getA (e_dx DX12_ranked_0 1 rfl) fX12_202 rfl (by decide) (Nat.le_of_ble_eq_true rfl) rfl (by decide),
  f_iconst (e_dx DX12_ranked_0 2 rfl) ⟨by decide, by decide⟩,
  f_iaload (e_dx DX12_ranked_0 3 rfl),
  f_istore_n (n := 1) (e_dx DX12_ranked_0 4 rfl) rfl (by decide),
  f_aload_n (n := 0) (e_dx DX12_ranked_0 5 rfl) rfl,
  f_iload_n (n := 1) (e_dx DX12_ranked_0 6 rfl) rfl,
  f_aload_n (n := 0) (e_dx DX12_ranked_0 7 rfl) rfl,
  f_getA (e_dx DX12_ranked_0 8 rfl) fX12_202 rfl (by decide) (Nat.le_of_ble_eq_true rfl) rfl (by decide),
  f_iconst (e_dx DX12_ranked_0 9 rfl) ⟨by decide, by decide⟩,
  f_iaload (e_dx DX12_ranked_0 10 rfl),
  x_callV (e_dx DX12_ranked_0 11 rfl) mwX12_rankAt vwX12_rankAt cX12_566 rfl,
  f_istore_n (n := 2) (e_dx DX12_ranked_0 12 rfl) rfl (by decide),
  f_aload_n (n := 0) (e_dx DX12_ranked_0 13 rfl) rfl,
  f_iload_n (n := 1) (e_dx DX12_ranked_0 14 rfl) rfl,
  f_aload_n (n := 0) (e_dx DX12_ranked_0 15 rfl) rfl,
  f_getA (e_dx DX12_ranked_0 16 rfl) fX12_202 rfl (by decide) (Nat.le_of_ble_eq_true rfl) rfl (by decide),
  f_iconst (e_dx DX12_ranked_0 17 rfl) ⟨by decide, by decide⟩,
  f_iaload (e_dx DX12_ranked_0 18 rfl),
  x_callV (e_dx DX12_ranked_0 19 rfl) mwX12_rankAt vwX12_rankAt cX12_566 rfl,
  f_istore_n (n := 3) (e_dx DX12_ranked_0 20 rfl) rfl (by decide),
  f_iload_n (n := 2) (e_dx DX12_ranked_0 21 rfl) rfl,
  f_if_lt (e_dx DX12_ranked_0 22 rfl) rfl,
  f_iload_n (n := 3) (e_dx DX12_ranked_0 23 rfl) rfl,
  f_if_lt (e_dx DX12_ranked_0 24 rfl) rfl,
  f_iload_n (n := 2) (e_dx DX12_ranked_0 25 rfl) rfl,
  f_iload_n (n := 3) (e_dx DX12_ranked_0 26 rfl) rfl,
  f_icmp_gt (e_dx DX12_ranked_0 27 rfl) rfl,
  f_bipush (e_dx DX12_ranked_0 28 rfl) ⟨by decide, by decide⟩,
  ⟨(e_dx DX12_ranked_0 29 rfl), rfl⟩,
  f_iload_n (n := 2) (e_dx DX12_ranked_0 30 rfl) rfl,
  f_istore (e_dx DX12_ranked_0 31 rfl) (by decide),
  trivial,
  f_iload (e_dx DX12_ranked_0 32 rfl),
  f_iload_n (n := 3) (e_dx DX12_ranked_0 33 rfl) rfl,
  f_icmp_le (e_dx DX12_ranked_0 34 rfl) rfl,
  f_aload_n (n := 0) (e_dx DX12_ranked_0 35 rfl) rfl,
  f_getA (e_dx DX12_ranked_0 36 rfl) fX12_142 rfl (by decide) (Nat.le_of_ble_eq_true rfl) rfl (by decide),
  f_bipush (e_dx DX12_ranked_0 37 rfl) ⟨by decide, by decide⟩,
  f_iload_n (n := 1) (e_dx DX12_ranked_0 38 rfl) rfl,
  f_imul (e_dx DX12_ranked_0 39 rfl),
  f_iload (e_dx DX12_ranked_1 0 rfl),
  f_iadd (e_dx DX12_ranked_1 1 rfl),
  f_aload_n (n := 0) (e_dx DX12_ranked_1 2 rfl) rfl,
  f_getA (e_dx DX12_ranked_1 3 rfl) fX12_142 rfl (by decide) (Nat.le_of_ble_eq_true rfl) rfl (by decide),
  f_bipush (e_dx DX12_ranked_1 4 rfl) ⟨by decide, by decide⟩,
  f_iload_n (n := 1) (e_dx DX12_ranked_1 5 rfl) rfl,
  f_imul (e_dx DX12_ranked_1 6 rfl),
  f_iload (e_dx DX12_ranked_1 7 rfl),
  f_iadd (e_dx DX12_ranked_1 8 rfl),
  f_iconst (e_dx DX12_ranked_1 9 rfl) ⟨by decide, by decide⟩,
  f_isub (e_dx DX12_ranked_1 10 rfl),
  f_iaload (e_dx DX12_ranked_1 11 rfl),
  f_iastore (e_dx DX12_ranked_1 12 rfl),
  f_g8 (e_dx DX12_ranked_1 13 rfl) ⟨by decide, by decide⟩,
  f_g19 (e_dx DX12_ranked_1 14 rfl) rfl,
  f_aload_n (n := 0) (e_dx DX12_ranked_1 15 rfl) rfl,
  f_getA (e_dx DX12_ranked_1 16 rfl) fX12_142 rfl (by decide) (Nat.le_of_ble_eq_true rfl) rfl (by decide),
  f_bipush (e_dx DX12_ranked_1 17 rfl) ⟨by decide, by decide⟩,
  f_iload_n (n := 1) (e_dx DX12_ranked_1 18 rfl) rfl,
  f_imul (e_dx DX12_ranked_1 19 rfl),
  f_iload_n (n := 3) (e_dx DX12_ranked_1 20 rfl) rfl,
  f_iadd (e_dx DX12_ranked_1 21 rfl),
  f_aload_n (n := 0) (e_dx DX12_ranked_1 22 rfl) rfl,
  f_getA (e_dx DX12_ranked_1 23 rfl) fX12_202 rfl (by decide) (Nat.le_of_ble_eq_true rfl) rfl (by decide),
  f_iconst (e_dx DX12_ranked_1 24 rfl) ⟨by decide, by decide⟩,
  f_iaload (e_dx DX12_ranked_1 25 rfl),
  f_iastore (e_dx DX12_ranked_1 26 rfl),
  f_iconst (e_dx DX12_ranked_1 27 rfl) ⟨by decide, by decide⟩,
  ⟨(e_dx DX12_ranked_1 28 rfl), rfl⟩, trivial⟩
def lX12_ranked (c_X12_rankAt : Int → Int → e_M → (Int → Prop) → Prop) : List (Nat × f_Wt) := [(0, f_wm [(4466, 12, 123), (1, 0, 0), (1, 0, 0)] (fun ar M R => c_X12_rankAt (f_vi (f_nth ar 1)) (f_vi (f_nth ar 2)) M (fun r => R (some (.inl r)) M)))]
set_option maxRecDepth 20000 in
theorem BX12_ranked_50 {sh : Nat → Nat × Nat} {t : Nat} {rm : Nat × Nat × Nat} {cs : Nat × Nat} {R : f_Rt} {c_X12_rankAt : Int → Int → e_M → (Int → Prop) → Prop} {k50 : Int → Int → Int → e_M → Prop} {x1 : Int} {x3 : Int} {x4 : Int} {M : e_M} (C : f_Hy sh t yX12_ranked rm cs 5 (lX12_ranked c_X12_rankAt) R) (h50 : ∀ (x1 : Int) (x3 : Int) (x4 : Int) (M : e_M), k50 x1 x3 x4 M → f_E sh t YX12_ranked rm cs (f_Q sh t R) 50 [.inr (.inr (.inl (12, 123, 4456))), .inl x1, .inr (.inr (.inr ())), .inl x3, .inl x4] [] M) (h : VX12_ranked_50 c_X12_rankAt k50 (fun r M => R (some (.inl r)) M) x1 x3 x4 M) : f_E sh t YX12_ranked rm cs (f_Q sh t R) 50 [.inr (.inr (.inl (12, 123, 4456))), .inl x1, .inr (.inr (.inr ())), .inl x3, .inl x4] [] M :=
  f_go (KC := f_kc [(50, f_pl [(4466, 12, 123), (1, 0, 0), (0, 0, 0), (1, 0, 0), (1, 0, 0)] [] (fun ls st M => k50 (f_vi (f_nth ls 1)) (f_vi (f_nth ls 3)) (f_vi (f_nth ls 4)) M))]) C qX12_rankedf (f_kc_cons (f_pl_ok rfl (fun ls st M h => h50 _ _ _ M h)) f_kc_nil) 72 33 h
set_option maxRecDepth 20000 in
theorem BX12_ranked {sh : Nat → Nat × Nat} {t : Nat} {rm : Nat × Nat × Nat} {cs : Nat × Nat} {R : f_Rt} {c_X12_rankAt : Int → Int → e_M → (Int → Prop) → Prop} {k50 : Int → Int → Int → e_M → Prop} {M : e_M} (C : f_Hy sh t yX12_ranked rm cs 5 (lX12_ranked c_X12_rankAt) R) (h50 : ∀ (x1 : Int) (x3 : Int) (x4 : Int) (M : e_M), k50 x1 x3 x4 M → f_E sh t YX12_ranked rm cs (f_Q sh t R) 50 [.inr (.inr (.inl (12, 123, 4456))), .inl x1, .inr (.inr (.inr ())), .inl x3, .inl x4] [] M) (h : VX12_ranked c_X12_rankAt k50 (fun r M => R (some (.inl r)) M) M) : f_E sh t YX12_ranked rm cs (f_Q sh t R) 0 [.inr (.inr (.inl (12, 123, 4456))), .inr (.inr (.inr ())), .inr (.inr (.inr ())), .inr (.inr (.inr ())), .inr (.inr (.inr ()))] [] M :=
  f_go (KC := f_kc [(50, f_pl [(4466, 12, 123), (1, 0, 0), (0, 0, 0), (1, 0, 0), (1, 0, 0)] [] (fun ls st M => k50 (f_vi (f_nth ls 1)) (f_vi (f_nth ls 3)) (f_vi (f_nth ls 4)) M))]) C qX12_rankedf (f_kc_cons (f_pl_ok rfl (fun ls st M h => h50 _ _ _ M h)) f_kc_nil) 72 0 h
def WX12_ranked_50 (Q : Int → e_M → Prop) : Nat → Int → Int → Int → e_M → Prop
  | 0, _, _, _, _ => False
  | n + 1, x1, x3, x4, M =>
    VX12_ranked_50 WX12_rankAt (WX12_ranked_50 Q n) Q x1 x3 x4 M
def WX12_ranked (M : e_M) (Q : Int → e_M → Prop) : Prop :=
  VX12_ranked WX12_rankAt (fun x1 x3 x4 M => ∃ j, WX12_ranked_50 Q j x1 x3 x4 M) Q M
theorem PX12_ranked_50 {sh : Nat → Nat × Nat} {t : Nat} {rm : Nat × Nat × Nat} {cs : Nat × Nat} {R : f_Rt} (C : f_Hy sh t yX12_ranked rm cs 5 (lX12_ranked WX12_rankAt) R) : ∀ (n : Nat) (x1 : Int) (x3 : Int) (x4 : Int) (M : e_M), WX12_ranked_50 (fun r M => R (some (.inl r)) M) n x1 x3 x4 M → f_E sh t YX12_ranked rm cs (f_Q sh t R) 50 [.inr (.inr (.inl (12, 123, 4456))), .inl x1, .inr (.inr (.inr ())), .inl x3, .inl x4] [] M := by
  intro n
  induction n with
  | zero => intro x1 x3 x4 M h; exact h.elim
  | succ n ih => intro x1 x3 x4 M h; exact BX12_ranked_50 C ih h
theorem PX12_ranked {sh : Nat → Nat × Nat} {t : Nat} {rm : Nat × Nat × Nat} {cs : Nat × Nat} {R : f_Rt} {M : e_M} (C : f_Hy sh t yX12_ranked rm cs 5 (lX12_ranked WX12_rankAt) R) (h : WX12_ranked M (fun r M => R (some (.inl r)) M)) : f_E sh t YX12_ranked rm cs (f_Q sh t R) 0 [.inr (.inr (.inl (12, 123, 4456))), .inr (.inr (.inr ())), .inr (.inr (.inr ())), .inr (.inr (.inr ())), .inr (.inr (.inr ()))] [] M :=
  BX12_ranked C (fun x1 x3 x4 M ⟨j, h⟩ => PX12_ranked_50 C j _ _ _ _ h) h
def wX12_ranked : f_Wt := f_wm [(4466, 12, 123)] (fun ar M R => WX12_ranked M (fun r M => R (some (.inl r)) M))
theorem TX12_ranked {sh : Nat → Nat × Nat} {t : Nat} : f_Mt sh t YX12_ranked 5 (wX12_ranked) :=
  f_Mt_of (k := 4) (Nat.le_of_ble_eq_true rfl) rfl rfl (fun ar M R rm cs h1 h2 h3 hX h => PX12_ranked ⟨Nat.le_of_ble_eq_true rfl, h1, h2, h3, ⟨(f_Mt.up (Nat.le_of_ble_eq_true rfl) TX12_rankAt), trivial⟩, hX⟩ h)
def VX12_freed (c_X12_rankAt : Int → Int → e_M → (Int → Prop) → Prop) (c_X12_offCharge : Int → Int → e_M → (e_M → Prop) → Prop) (Q : Int → e_M → Prop) (M : e_M) : Prop :=
  ((0 ≤ (0 : Int) ∧ (0 : Int) < 10) ∧ ((0 ≤ (1 : Int) ∧ (1 : Int) < 10) ∧ (c_X12_rankAt (M 4520 ((0 : Int).toNat)) (M 4520 ((1 : Int).toNat)) M (fun r1 => ((0 ≤ r1 → ((0 ≤ (1 : Int) ∧ (1 : Int) < 10) ∧ ((0 ≤ (0 : Int) ∧ (0 : Int) < 10) ∧ (c_X12_offCharge (M 4520 ((1 : Int).toNat)) (M 4520 ((0 : Int).toNat)) M (fun M2 => (Q 0 M2)))))) ∧ (r1 < 0 → (Q 9 M)))))))
def yX12_freed (i : Nat) : e_Y := x_get YX12_freed [YX12_rankAt, YX12_offCharge] i
def pX12_freedf : List x_I := [(0, 4, 1, 0, 0, 0, []), (1, 4, 1, 0, 0, 0, []), (2, 25, 12, 91, 4, 0, [(0, 20, 10), (0, 1, 64)]), (5, 0, 1, 0, 0, 0, []), (6, 27, 0, 0, 0, 0, []), (7, 4, 1, 0, 0, 0, []), (8, 25, 12, 91, 4, 0, [(0, 20, 10), (0, 1, 64)]), (11, 0, 1, 0, 0, 1, []), (12, 27, 0, 0, 0, 0, []), (13, 40, 0, 3, 14, 0, []), (16, 17, 22, 3, 14, 0, []), (19, 0, 2, 0, 0, 9, []), (21, 41, 0, 0, 0, 0, []), (22, 4, 1, 0, 0, 0, []), (23, 4, 1, 0, 0, 0, []), (24, 25, 12, 91, 4, 0, [(0, 20, 10), (0, 1, 64)]), (27, 0, 1, 0, 0, 1, []), (28, 27, 0, 0, 0, 0, []), (29, 4, 1, 0, 0, 0, []), (30, 25, 12, 91, 4, 0, [(0, 20, 10), (0, 1, 64)]), (33, 0, 1, 0, 0, 0, []), (34, 27, 0, 0, 0, 0, []), (35, 40, 1, 3, 14, 0, []), (38, 0, 1, 0, 0, 0, []), (39, 41, 0, 0, 0, 0, [])]
set_option maxRecDepth 20000 in
theorem qX12_freedf : f_all yX12_freed YX12_freed pX12_freedf :=
  ⟨f_aload_n (n := 0) (e_dx DX12_freed_0 0 rfl) rfl,
  f_aload_n (n := 0) (e_dx DX12_freed_0 1 rfl) rfl,
  f_getA (e_dx DX12_freed_0 2 rfl) fX12_202 rfl (by decide) (Nat.le_of_ble_eq_true rfl) rfl (by decide),
  f_iconst (e_dx DX12_freed_0 3 rfl) ⟨by decide, by decide⟩,
  f_iaload (e_dx DX12_freed_0 4 rfl),
  f_aload_n (n := 0) (e_dx DX12_freed_0 5 rfl) rfl,
  f_getA (e_dx DX12_freed_0 6 rfl) fX12_202 rfl (by decide) (Nat.le_of_ble_eq_true rfl) rfl (by decide),
  f_iconst (e_dx DX12_freed_0 7 rfl) ⟨by decide, by decide⟩,
  f_iaload (e_dx DX12_freed_0 8 rfl),
  x_callV (e_dx DX12_freed_0 9 rfl) mwX12_rankAt vwX12_rankAt cX12_566 rfl,
  f_if_ge (e_dx DX12_freed_0 10 rfl) rfl,
  f_bipush (e_dx DX12_freed_0 11 rfl) ⟨by decide, by decide⟩,
  ⟨(e_dx DX12_freed_0 12 rfl), rfl⟩,
  f_aload_n (n := 0) (e_dx DX12_freed_0 13 rfl) rfl,
  f_aload_n (n := 0) (e_dx DX12_freed_0 14 rfl) rfl,
  f_getA (e_dx DX12_freed_0 15 rfl) fX12_202 rfl (by decide) (Nat.le_of_ble_eq_true rfl) rfl (by decide),
  f_iconst (e_dx DX12_freed_0 16 rfl) ⟨by decide, by decide⟩,
  f_iaload (e_dx DX12_freed_0 17 rfl),
  f_aload_n (n := 0) (e_dx DX12_freed_0 18 rfl) rfl,
  f_getA (e_dx DX12_freed_0 19 rfl) fX12_202 rfl (by decide) (Nat.le_of_ble_eq_true rfl) rfl (by decide),
  f_iconst (e_dx DX12_freed_0 20 rfl) ⟨by decide, by decide⟩,
  f_iaload (e_dx DX12_freed_0 21 rfl),
  x_callV (e_dx DX12_freed_0 22 rfl) mwX12_offCharge vwX12_offCharge cX12_579 rfl,
  f_iconst (e_dx DX12_freed_0 23 rfl) ⟨by decide, by decide⟩,
  ⟨(e_dx DX12_freed_0 24 rfl), rfl⟩, trivial⟩
def lX12_freed (c_X12_rankAt : Int → Int → e_M → (Int → Prop) → Prop) (c_X12_offCharge : Int → Int → e_M → (e_M → Prop) → Prop) : List (Nat × f_Wt) := [(0, f_wm [(4466, 12, 123), (1, 0, 0), (1, 0, 0)] (fun ar M R => c_X12_rankAt (f_vi (f_nth ar 1)) (f_vi (f_nth ar 2)) M (fun r => R (some (.inl r)) M))), (1, f_wm [(4466, 12, 123), (1, 0, 0), (1, 0, 0)] (fun ar M R => c_X12_offCharge (f_vi (f_nth ar 1)) (f_vi (f_nth ar 2)) M (fun M => R none M)))]
set_option maxRecDepth 20000 in
theorem BX12_freed {sh : Nat → Nat × Nat} {t : Nat} {rm : Nat × Nat × Nat} {cs : Nat × Nat} {R : f_Rt} {c_X12_rankAt : Int → Int → e_M → (Int → Prop) → Prop} {c_X12_offCharge : Int → Int → e_M → (e_M → Prop) → Prop} {M : e_M} (C : f_Hy sh t yX12_freed rm cs 6 (lX12_freed c_X12_rankAt c_X12_offCharge) R) (h : VX12_freed c_X12_rankAt c_X12_offCharge (fun r M => R (some (.inl r)) M) M) : f_E sh t YX12_freed rm cs (f_Q sh t R) 0 [.inr (.inr (.inl (12, 123, 4456)))] [] M :=
  f_go (KC := f_kc []) C qX12_freedf f_kc_nil 27 0 h
def WX12_freed (M : e_M) (Q : Int → e_M → Prop) : Prop :=
  VX12_freed WX12_rankAt WX12_offCharge Q M
theorem PX12_freed {sh : Nat → Nat × Nat} {t : Nat} {rm : Nat × Nat × Nat} {cs : Nat × Nat} {R : f_Rt} {M : e_M} (C : f_Hy sh t yX12_freed rm cs 6 (lX12_freed WX12_rankAt WX12_offCharge) R) (h : WX12_freed M (fun r M => R (some (.inl r)) M)) : f_E sh t YX12_freed rm cs (f_Q sh t R) 0 [.inr (.inr (.inl (12, 123, 4456)))] [] M :=
  BX12_freed C h
def wX12_freed : f_Wt := f_wm [(4466, 12, 123)] (fun ar M R => WX12_freed M (fun r M => R (some (.inl r)) M))
theorem TX12_freed {sh : Nat → Nat × Nat} {t : Nat} : f_Mt sh t YX12_freed 6 (wX12_freed) :=
  f_Mt_of (k := 0) (Nat.le_of_ble_eq_true rfl) rfl rfl (fun ar M R rm cs h1 h2 h3 hX h => PX12_freed ⟨Nat.le_of_ble_eq_true rfl, h1, h2, h3, ⟨(f_Mt.up (Nat.le_of_ble_eq_true rfl) TX12_rankAt), (f_Mt.up (Nat.le_of_ble_eq_true rfl) TX12_offCharge), trivial⟩, hX⟩ h)
def VX12_auction_135 (c_X12_rankAt : Int → Int → e_M → (Int → Prop) → Prop) (c_X12_isAble : Int → Int → e_M → (Int → Prop) → Prop) (c_X12_id : Int → Int → e_M → (Int → Prop) → Prop) (c_X12_isBarred : Int → Int → e_M → (Int → Prop) → Prop) (c_X12_gets : Int → Int → Int → e_M → (e_M → Prop) → Prop) (c_X12_keeps : Int → e_M → (e_M → Prop) → Prop) (c_X12_offCharge : Int → Int → e_M → (e_M → Prop) → Prop) (c_X12_endCharge : Int → e_M → (e_M → Prop) → Prop) (c_X12_isThere : Int → Int → Int → e_M → (Int → Prop) → Prop) (c_X12_offLot : Int → Int → e_M → (e_M → Prop) → Prop) (c_X12_placeOn : Int → Int → e_M → (Int → Prop) → Prop) (k230 : Int → Int → Int → e_M → Prop) (k224 : Int → Int → Int → Int → e_M → Prop) (Q : Int → e_M → Prop) (x2 : Int) (x5 : Int) (x6 : Int) (x7 : Int) (M : e_M) : Prop :=
  ((0 ≤ x2 ∧ x2 < 80) ∧ (((M 4499 (x2.toNat)) ≤ x5 → (k230 x2 x7 0 M)) ∧ (x5 < (M 4499 (x2.toNat)) → ((0 ≤ (e_w32 ((e_w32 ((8 : Int) * x2)) + x5)) ∧ (e_w32 ((e_w32 ((8 : Int) * x2)) + x5)) < 640) ∧ (∀ y1 : Int, y1 = M 4500 ((e_w32 ((e_w32 ((8 : Int) * x2)) + x5)).toNat) → (c_X12_id 2 y1 M (fun r2 => ((0 ≤ r2 ∧ r2 < 560) ∧ (∀ y3 : Int, y3 = e_w32 (x6 - (e_min x6 (M 4490 (r2.toNat)))) → ((0 ≤ r2 ∧ r2 < 560) ∧ ((0 ≤ r2 ∧ r2 < 560) ∧ (∀ M4 : e_M, M4 = e_up M 4490 (r2.toNat) (e_w32 ((M 4490 (r2.toNat)) - (e_min x6 (M 4490 (r2.toNat))))) → (c_X12_offCharge y1 x2 M4 (fun M5 => ((0 ≤ r2 ∧ r2 < 560) ∧ ((¬ (M5 4490 (r2.toNat)) = 0 → (k224 x2 x5 y3 x7 M5)) ∧ ((M5 4490 (r2.toNat)) = 0 → (c_X12_endCharge y1 M5 (fun M6 => (k224 x2 x5 y3 x7 M6))))))))))))))))))))
def VX12_auction_224 (c_X12_rankAt : Int → Int → e_M → (Int → Prop) → Prop) (c_X12_isAble : Int → Int → e_M → (Int → Prop) → Prop) (c_X12_id : Int → Int → e_M → (Int → Prop) → Prop) (c_X12_isBarred : Int → Int → e_M → (Int → Prop) → Prop) (c_X12_gets : Int → Int → Int → e_M → (e_M → Prop) → Prop) (c_X12_keeps : Int → e_M → (e_M → Prop) → Prop) (c_X12_offCharge : Int → Int → e_M → (e_M → Prop) → Prop) (c_X12_endCharge : Int → e_M → (e_M → Prop) → Prop) (c_X12_isThere : Int → Int → Int → e_M → (Int → Prop) → Prop) (c_X12_offLot : Int → Int → e_M → (e_M → Prop) → Prop) (c_X12_placeOn : Int → Int → e_M → (Int → Prop) → Prop) (k135 : Int → Int → Int → Int → e_M → Prop) (Q : Int → e_M → Prop) (x2 : Int) (x5 : Int) (x6 : Int) (x7 : Int) (M : e_M) : Prop :=
  (k135 x2 x5 x6 x7 M)
def VX12_auction_230 (c_X12_rankAt : Int → Int → e_M → (Int → Prop) → Prop) (c_X12_isAble : Int → Int → e_M → (Int → Prop) → Prop) (c_X12_id : Int → Int → e_M → (Int → Prop) → Prop) (c_X12_isBarred : Int → Int → e_M → (Int → Prop) → Prop) (c_X12_gets : Int → Int → Int → e_M → (e_M → Prop) → Prop) (c_X12_keeps : Int → e_M → (e_M → Prop) → Prop) (c_X12_offCharge : Int → Int → e_M → (e_M → Prop) → Prop) (c_X12_endCharge : Int → e_M → (e_M → Prop) → Prop) (c_X12_isThere : Int → Int → Int → e_M → (Int → Prop) → Prop) (c_X12_offLot : Int → Int → e_M → (e_M → Prop) → Prop) (c_X12_placeOn : Int → Int → e_M → (Int → Prop) → Prop) (k291 : Int → Int → e_M → Prop) (k282 : Int → Int → Int → e_M → Prop) (Q : Int → e_M → Prop) (x2 : Int) (x7 : Int) (x8 : Int) (M : e_M) : Prop :=
  ((0 ≤ (4 : Int) ∧ (4 : Int) < 7) ∧ (((M 4483 ((4 : Int).toNat)) ≤ x8 → (k291 x2 0 M)) ∧ (x8 < (M 4483 ((4 : Int).toNat)) → (c_X12_isThere 4 x8 (M 4456 86) M (fun r1 => ((r1 = 0 → (k282 x2 x7 x8 M)) ∧ (¬ r1 = 0 → (c_X12_id 4 x8 M (fun r2 => ((0 ≤ r2 ∧ r2 < 560) ∧ (((M 4488 (r2.toNat)) ≤ x7 → (k282 x2 x7 x8 M)) ∧ (x7 < (M 4488 (r2.toNat)) → (c_X12_id 4 x8 M (fun r3 => (c_X12_offLot r3 x2 M (fun M4 => (k282 x2 x7 x8 M4)))))))))))))))))
def VX12_auction_282 (c_X12_rankAt : Int → Int → e_M → (Int → Prop) → Prop) (c_X12_isAble : Int → Int → e_M → (Int → Prop) → Prop) (c_X12_id : Int → Int → e_M → (Int → Prop) → Prop) (c_X12_isBarred : Int → Int → e_M → (Int → Prop) → Prop) (c_X12_gets : Int → Int → Int → e_M → (e_M → Prop) → Prop) (c_X12_keeps : Int → e_M → (e_M → Prop) → Prop) (c_X12_offCharge : Int → Int → e_M → (e_M → Prop) → Prop) (c_X12_endCharge : Int → e_M → (e_M → Prop) → Prop) (c_X12_isThere : Int → Int → Int → e_M → (Int → Prop) → Prop) (c_X12_offLot : Int → Int → e_M → (e_M → Prop) → Prop) (c_X12_placeOn : Int → Int → e_M → (Int → Prop) → Prop) (k230 : Int → Int → Int → e_M → Prop) (Q : Int → e_M → Prop) (x2 : Int) (x7 : Int) (x8 : Int) (M : e_M) : Prop :=
  (k230 x2 x7 (e_w32 (x8 + 1)) M)
def VX12_auction_291 (c_X12_rankAt : Int → Int → e_M → (Int → Prop) → Prop) (c_X12_isAble : Int → Int → e_M → (Int → Prop) → Prop) (c_X12_id : Int → Int → e_M → (Int → Prop) → Prop) (c_X12_isBarred : Int → Int → e_M → (Int → Prop) → Prop) (c_X12_gets : Int → Int → Int → e_M → (e_M → Prop) → Prop) (c_X12_keeps : Int → e_M → (e_M → Prop) → Prop) (c_X12_offCharge : Int → Int → e_M → (e_M → Prop) → Prop) (c_X12_endCharge : Int → e_M → (e_M → Prop) → Prop) (c_X12_isThere : Int → Int → Int → e_M → (Int → Prop) → Prop) (c_X12_offLot : Int → Int → e_M → (e_M → Prop) → Prop) (c_X12_placeOn : Int → Int → e_M → (Int → Prop) → Prop) (k339 : Int → Int → e_M → Prop) (k330 : Int → Int → e_M → Prop) (Q : Int → e_M → Prop) (x2 : Int) (x8 : Int) (M : e_M) : Prop :=
  ((0 ≤ (6 : Int) ∧ (6 : Int) < 7) ∧ (((M 4483 ((6 : Int).toNat)) ≤ x8 → (k339 x2 0 M)) ∧ (x8 < (M 4483 ((6 : Int).toNat)) → (c_X12_isThere 6 x8 (M 4456 86) M (fun r1 => ((r1 = 0 → (k330 x2 x8 M)) ∧ (¬ r1 = 0 → (c_X12_id 6 x8 M (fun r2 => (c_X12_offLot r2 x2 M (fun M3 => (k330 x2 x8 M3))))))))))))
def VX12_auction_330 (c_X12_rankAt : Int → Int → e_M → (Int → Prop) → Prop) (c_X12_isAble : Int → Int → e_M → (Int → Prop) → Prop) (c_X12_id : Int → Int → e_M → (Int → Prop) → Prop) (c_X12_isBarred : Int → Int → e_M → (Int → Prop) → Prop) (c_X12_gets : Int → Int → Int → e_M → (e_M → Prop) → Prop) (c_X12_keeps : Int → e_M → (e_M → Prop) → Prop) (c_X12_offCharge : Int → Int → e_M → (e_M → Prop) → Prop) (c_X12_endCharge : Int → e_M → (e_M → Prop) → Prop) (c_X12_isThere : Int → Int → Int → e_M → (Int → Prop) → Prop) (c_X12_offLot : Int → Int → e_M → (e_M → Prop) → Prop) (c_X12_placeOn : Int → Int → e_M → (Int → Prop) → Prop) (k291 : Int → Int → e_M → Prop) (Q : Int → e_M → Prop) (x2 : Int) (x8 : Int) (M : e_M) : Prop :=
  (k291 x2 (e_w32 (x8 + 1)) M)
def VX12_auction_339 (c_X12_rankAt : Int → Int → e_M → (Int → Prop) → Prop) (c_X12_isAble : Int → Int → e_M → (Int → Prop) → Prop) (c_X12_id : Int → Int → e_M → (Int → Prop) → Prop) (c_X12_isBarred : Int → Int → e_M → (Int → Prop) → Prop) (c_X12_gets : Int → Int → Int → e_M → (e_M → Prop) → Prop) (c_X12_keeps : Int → e_M → (e_M → Prop) → Prop) (c_X12_offCharge : Int → Int → e_M → (e_M → Prop) → Prop) (c_X12_endCharge : Int → e_M → (e_M → Prop) → Prop) (c_X12_isThere : Int → Int → Int → e_M → (Int → Prop) → Prop) (c_X12_offLot : Int → Int → e_M → (e_M → Prop) → Prop) (c_X12_placeOn : Int → Int → e_M → (Int → Prop) → Prop) (k376 : Int → Int → e_M → Prop) (Q : Int → e_M → Prop) (x2 : Int) (x8 : Int) (M : e_M) : Prop :=
  ((0 ≤ (5 : Int) ∧ (5 : Int) < 7) ∧ (((M 4483 ((5 : Int).toNat)) ≤ x8 → (Q 0 M)) ∧ (x8 < (M 4483 ((5 : Int).toNat)) → (c_X12_id 5 x8 M (fun r1 => (c_X12_placeOn r1 x2 M (fun r2 => ((r2 < 0 → (k376 x2 x8 M)) ∧ (0 ≤ r2 → (c_X12_id 5 x8 M (fun r3 => (((0 ≤ r3 ∧ r3 < 560) ∧ ((1 : Int) = 0 ∨ (1 : Int) = 1)) ∧ (∀ M4 : e_M, M4 = e_up M 4485 (r3.toNat) 1 → (k376 x2 x8 M4))))))))))))))
def VX12_auction_376 (c_X12_rankAt : Int → Int → e_M → (Int → Prop) → Prop) (c_X12_isAble : Int → Int → e_M → (Int → Prop) → Prop) (c_X12_id : Int → Int → e_M → (Int → Prop) → Prop) (c_X12_isBarred : Int → Int → e_M → (Int → Prop) → Prop) (c_X12_gets : Int → Int → Int → e_M → (e_M → Prop) → Prop) (c_X12_keeps : Int → e_M → (e_M → Prop) → Prop) (c_X12_offCharge : Int → Int → e_M → (e_M → Prop) → Prop) (c_X12_endCharge : Int → e_M → (e_M → Prop) → Prop) (c_X12_isThere : Int → Int → Int → e_M → (Int → Prop) → Prop) (c_X12_offLot : Int → Int → e_M → (e_M → Prop) → Prop) (c_X12_placeOn : Int → Int → e_M → (Int → Prop) → Prop) (k339 : Int → Int → e_M → Prop) (Q : Int → e_M → Prop) (x2 : Int) (x8 : Int) (M : e_M) : Prop :=
  (k339 x2 (e_w32 (x8 + 1)) M)
def VX12_auction (c_X12_rankAt : Int → Int → e_M → (Int → Prop) → Prop) (c_X12_isAble : Int → Int → e_M → (Int → Prop) → Prop) (c_X12_id : Int → Int → e_M → (Int → Prop) → Prop) (c_X12_isBarred : Int → Int → e_M → (Int → Prop) → Prop) (c_X12_gets : Int → Int → Int → e_M → (e_M → Prop) → Prop) (c_X12_keeps : Int → e_M → (e_M → Prop) → Prop) (c_X12_offCharge : Int → Int → e_M → (e_M → Prop) → Prop) (c_X12_endCharge : Int → e_M → (e_M → Prop) → Prop) (c_X12_isThere : Int → Int → Int → e_M → (Int → Prop) → Prop) (c_X12_offLot : Int → Int → e_M → (e_M → Prop) → Prop) (c_X12_placeOn : Int → Int → e_M → (Int → Prop) → Prop) (k135 : Int → Int → Int → Int → e_M → Prop) (Q : Int → e_M → Prop) (x1 : Int) (M : e_M) : Prop :=
  ((0 ≤ (0 : Int) ∧ (0 : Int) < 10) ∧ ((0 ≤ (1 : Int) ∧ (1 : Int) < 10) ∧ ((0 ≤ (2 : Int) ∧ (2 : Int) < 10) ∧ (c_X12_rankAt (M 4520 ((0 : Int).toNat)) (M 4520 ((1 : Int).toNat)) M (fun r1 => ((0 ≤ r1 → (c_X12_isAble (M 4520 ((2 : Int).toNat)) (M 4456 86) M (fun r2 => ((¬ r2 = 0 → (c_X12_id 2 (M 4520 ((1 : Int).toNat)) M (fun r3 => ((0 ≤ r3 ∧ r3 < 560) ∧ (c_X12_isBarred (M 4520 ((0 : Int).toNat)) (M 4489 (r3.toNat)) M (fun r4 => ((r4 = 0 → ((0 ≤ x1 ∧ x1 < 152) ∧ ((¬ (M 4464 (x1.toNat)) = 0 → (∀ M5 : e_M, M5 = e_up M 4456 87 0 → (c_X12_gets (M 4520 ((2 : Int).toNat)) 1 1 M5 (fun M6 => (c_X12_keeps (M 4520 ((0 : Int).toNat)) M6 (fun M7 => ((0 ≤ x1 ∧ x1 < 152) ∧ ((0 ≤ (M 4520 ((0 : Int).toNat)) ∧ (M 4520 ((0 : Int).toNat)) < 560) ∧ (∀ M8 : e_M, M8 = e_up M7 4490 ((M 4520 ((0 : Int).toNat)).toNat) (M7 4464 (x1.toNat)) → ((0 ≤ x1 ∧ x1 < 152) ∧ (c_X12_id 2 (M 4520 ((1 : Int).toNat)) M8 (fun r9 => ((0 ≤ r9 ∧ r9 < 560) ∧ (k135 (M 4520 ((0 : Int).toNat)) r1 (M8 4464 (x1.toNat)) (M8 4488 (r9.toNat)) M8)))))))))))))) ∧ ((M 4464 (x1.toNat)) = 0 → (Q 6 M))))) ∧ (¬ r4 = 0 → (Q 4 M))))))))) ∧ (r2 = 0 → (Q 2 M)))))) ∧ (r1 < 0 → (Q 9 M))))))))
def yX12_auction (i : Nat) : e_Y := x_get YX12_auction [YX12_rankAt, YX12_isAble, YX12_id, YX12_isBarred, YX12_gets, YX12_keeps, YX12_offCharge, YX12_endCharge, YX12_isThere, YX12_offLot, YX12_placeOn] i
def pX12_auctionf : List x_I := [(0, 4, 1, 0, 0, 0, []), (1, 25, 12, 91, 4, 0, [(0, 20, 10), (0, 1, 64)]), (4, 0, 1, 0, 0, 0, []), (5, 27, 0, 0, 0, 0, []), (6, 5, 1, 2, 0, 0, []), (7, 4, 1, 0, 0, 0, []), (8, 25, 12, 91, 4, 0, [(0, 20, 10), (0, 1, 64)]), (11, 0, 1, 0, 0, 1, []), (12, 27, 0, 0, 0, 0, []), (13, 5, 1, 3, 0, 0, []), (14, 4, 1, 0, 0, 0, []), (15, 25, 12, 91, 4, 0, [(0, 20, 10), (0, 1, 64)]), (18, 0, 1, 0, 0, 2, []), (19, 27, 0, 0, 0, 0, []), (20, 5, 2, 4, 0, 0, []), (22, 4, 1, 0, 0, 0, []), (23, 2, 1, 2, 0, 0, []), (24, 2, 1, 3, 0, 0, []), (25, 40, 0, 3, 14, 0, []), (28, 5, 2, 5, 0, 0, []), (30, 2, 2, 5, 0, 0, []), (32, 17, 38, 3, 25, 0, []), (35, 0, 2, 0, 0, 9, []), (37, 41, 0, 0, 0, 0, []), (38, 4, 1, 0, 0, 0, []), (39, 2, 2, 4, 0, 0, []), (41, 4, 1, 0, 0, 0, []), (42, 25, 12, 86, 0, 0, []), (45, 40, 1, 3, 14, 0, []), (48, 17, 53, 1, 33, 0, []), (51, 0, 1, 0, 0, 2, []), (52, 41, 0, 0, 0, 0, []), (53, 4, 1, 0, 0, 0, []), (54, 2, 1, 2, 0, 0, []), (55, 4, 1, 0, 0, 0, []), (56, 25, 12, 56, 4, 0, [(0, 20, 560), (0, 1, 33)]), (59, 0, 1, 0, 0, 2, []), (60, 2, 1, 3, 0, 0, []), (61, 40, 2, 2, 0, 0, []), (64, 27, 0, 0, 0, 0, []), (65, 40, 3, 3, 14, 0, []), (68, 17, 73, 0, 45, 0, []), (71, 0, 1, 0, 0, 4, []), (72, 41, 0, 0, 0, 0, []), (73, 4, 1, 0, 0, 0, []), (74, 25, 12, 17, 4, 0, [(0, 20, 152), (0, 1, 8)]), (77, 2, 1, 1, 0, 0, []), (78, 27, 0, 0, 0, 0, []), (79, 17, 85, 1, 52, 0, []), (82, 0, 2, 0, 0, 6, []), (84, 41, 0, 0, 0, 0, []), (85, 4, 1, 0, 0, 0, []), (86, 0, 1, 0, 0, 0, []), (87, 26, 12, 87, 0, 0, []), (90, 4, 1, 0, 0, 0, []), (91, 2, 2, 4, 0, 0, []), (93, 1, 1, 0, 0, 1, []), (94, 1, 1, 0, 0, 1, []), (95, 40, 4, 4, 14, 0, []), (98, 4, 1, 0, 0, 0, []), (99, 2, 1, 2, 0, 0, []), (100, 40, 5, 2, 14, 0, []), (103, 4, 1, 0, 0, 0, []), (104, 25, 12, 57, 4, 0, [(0, 20, 560), (0, 1, 34)]), (107, 2, 1, 2, 0, 0, []), (108, 4, 1, 0, 0, 0, []), (109, 25, 12, 17, 4, 0, [(0, 20, 152), (0, 1, 8)]), (112, 2, 1, 1, 0, 0, []), (113, 27, 0, 0, 0, 0, []), (114, 28, 0, 0, 0, 0, []), (115, 4, 1, 0, 0, 0, []), (116, 25, 12, 17, 4, 0, [(0, 20, 152), (0, 1, 8)]), (119, 2, 1, 1, 0, 0, []), (120, 27, 0, 0, 0, 0, []), (121, 5, 2, 6, 0, 0, []), (123, 4, 1, 0, 0, 0, []), (124, 25, 12, 55, 4, 0, [(0, 20, 560), (0, 1, 32)]), (127, 0, 1, 0, 0, 2, []), (128, 2, 1, 3, 0, 0, []), (129, 40, 2, 2, 0, 0, []), (132, 27, 0, 0, 0, 0, []), (133, 5, 2, 7, 0, 0, []), (135, 49, 0, 0, 0, 0, []), (135, 4, 1, 0, 0, 0, []), (136, 25, 12, 66, 4, 0, [(0, 20, 80), (0, 1, 43)]), (139, 2, 1, 2, 0, 0, []), (140, 27, 0, 0, 0, 0, []), (141, 2, 2, 5, 0, 0, []), (143, 18, 227, 5, 138, 0, []), (146, 4, 1, 0, 0, 0, []), (147, 25, 12, 67, 4, 0, [(0, 20, 640), (0, 1, 44)]), (150, 0, 2, 0, 0, 8, []), (152, 2, 1, 2, 0, 0, []), (153, 9, 0, 2, 0, 0, []), (154, 2, 2, 5, 0, 0, []), (156, 9, 0, 0, 0, 0, []), (157, 27, 0, 0, 0, 0, []), (158, 33, 0, 0, 0, 0, []), (158, 5, 2, 8, 0, 0, []), (160, 0, 1, 0, 0, 2, []), (161, 2, 2, 8, 0, 0, []), (163, 40, 2, 2, 0, 0, []), (166, 5, 2, 9, 0, 0, []), (168, 2, 2, 6, 0, 0, []), (170, 4, 1, 0, 0, 0, []), (171, 25, 12, 57, 4, 0, [(0, 20, 560), (0, 1, 34)]), (174, 2, 2, 9, 0, 0, []), (176, 27, 0, 0, 0, 0, []), (177, 39, 0, 0, 0, 0, []), (180, 5, 2, 10, 0, 0, []), (182, 2, 2, 6, 0, 0, []), (184, 2, 2, 10, 0, 0, []), (186, 9, 0, 1, 0, 0, []), (187, 33, 0, 0, 0, 0, []), (187, 5, 2, 6, 0, 0, []), (189, 4, 1, 0, 0, 0, []), (190, 25, 12, 57, 4, 0, [(0, 20, 560), (0, 1, 34)]), (193, 2, 2, 9, 0, 0, []), (195, 23, 0, 0, 0, 0, []), (196, 27, 0, 0, 0, 0, []), (197, 2, 2, 10, 0, 0, []), (199, 9, 0, 1, 0, 0, []), (200, 28, 0, 0, 0, 0, []), (201, 4, 1, 0, 0, 0, []), (202, 2, 2, 8, 0, 0, []), (204, 2, 1, 2, 0, 0, []), (205, 40, 6, 3, 14, 0, []), (208, 4, 1, 0, 0, 0, []), (209, 25, 12, 57, 4, 0, [(0, 20, 560), (0, 1, 34)]), (212, 2, 2, 9, 0, 0, []), (214, 27, 0, 0, 0, 0, []), (215, 17, 224, 1, 136, 0, []), (218, 4, 1, 0, 0, 0, []), (219, 2, 2, 8, 0, 0, []), (221, 40, 7, 2, 14, 0, []), (224, 49, 0, 0, 0, 0, []), (224, 19, 135, 0, 83, 0, []), (227, 0, 1, 0, 0, 0, []), (228, 5, 2, 8, 0, 0, []), (230, 49, 0, 0, 0, 0, []), (230, 2, 2, 8, 0, 0, []), (232, 4, 1, 0, 0, 0, []), (233, 25, 12, 50, 4, 0, [(0, 20, 7), (0, 1, 27)]), (236, 0, 1, 0, 0, 4, []), (237, 27, 0, 0, 0, 0, []), (238, 18, 288, 3, 171, 0, []), (241, 4, 1, 0, 0, 0, []), (242, 0, 1, 0, 0, 4, []), (243, 2, 2, 8, 0, 0, []), (245, 4, 1, 0, 0, 0, []), (246, 25, 12, 86, 0, 0, []), (249, 40, 8, 4, 14, 0, []), (252, 17, 282, 0, 168, 0, []), (255, 4, 1, 0, 0, 0, []), (256, 25, 12, 55, 4, 0, [(0, 20, 560), (0, 1, 32)]), (259, 0, 1, 0, 0, 4, []), (260, 2, 2, 8, 0, 0, []), (262, 40, 2, 2, 0, 0, []), (265, 27, 0, 0, 0, 0, []), (266, 2, 2, 7, 0, 0, []), (268, 18, 282, 5, 168, 0, []), (271, 4, 1, 0, 0, 0, []), (272, 0, 1, 0, 0, 4, []), (273, 2, 2, 8, 0, 0, []), (275, 40, 2, 2, 0, 0, []), (278, 2, 1, 2, 0, 0, []), (279, 40, 9, 3, 14, 0, []), (282, 49, 0, 0, 0, 0, []), (282, 8, 0, 8, 0, 1, []), (285, 19, 230, 0, 140, 0, []), (288, 0, 1, 0, 0, 0, []), (289, 5, 2, 8, 0, 0, []), (291, 49, 0, 0, 0, 0, []), (291, 2, 2, 8, 0, 0, []), (293, 4, 1, 0, 0, 0, []), (294, 25, 12, 50, 4, 0, [(0, 20, 7), (0, 1, 27)]), (297, 0, 2, 0, 0, 6, []), (299, 27, 0, 0, 0, 0, []), (300, 18, 336, 3, 196, 0, []), (303, 4, 1, 0, 0, 0, []), (304, 0, 2, 0, 0, 6, []), (306, 2, 2, 8, 0, 0, []), (308, 4, 1, 0, 0, 0, []), (309, 25, 12, 86, 0, 0, []), (312, 40, 8, 4, 14, 0, []), (315, 17, 330, 0, 193, 0, []), (318, 4, 1, 0, 0, 0, []), (319, 0, 2, 0, 0, 6, []), (321, 2, 2, 8, 0, 0, []), (323, 40, 2, 2, 0, 0, []), (326, 2, 1, 2, 0, 0, []), (327, 40, 9, 3, 14, 0, []), (330, 49, 0, 0, 0, 0, []), (330, 8, 0, 8, 0, 1, []), (333, 19, 291, 0, 173, 0, []), (336, 0, 1, 0, 0, 0, []), (337, 5, 2, 8, 0, 0, []), (339, 49, 0, 0, 0, 0, []), (339, 2, 2, 8, 0, 0, []), (341, 4, 1, 0, 0, 0, []), (342, 25, 12, 50, 4, 0, [(0, 20, 7), (0, 1, 27)]), (345, 0, 1, 0, 0, 5, []), (346, 27, 0, 0, 0, 0, []), (347, 18, 382, 3, 222, 0, []), (350, 4, 1, 0, 0, 0, []), (351, 0, 1, 0, 0, 5, []), (352, 2, 2, 8, 0, 0, []), (354, 40, 2, 2, 0, 0, []), (357, 2, 1, 2, 0, 0, []), (358, 40, 10, 3, 14, 0, []), (361, 17, 376, 2, 219, 0, []), (364, 4, 1, 0, 0, 0, []), (365, 25, 12, 52, 4, 0, [(0, 21, 560), (0, 1, 29)]), (368, 0, 1, 0, 0, 5, []), (369, 2, 2, 8, 0, 0, []), (371, 40, 2, 2, 0, 0, []), (374, 0, 1, 0, 0, 1, []), (375, 29, 0, 0, 0, 0, []), (376, 49, 0, 0, 0, 0, []), (376, 8, 0, 8, 0, 1, []), (379, 19, 339, 0, 198, 0, []), (382, 0, 1, 0, 0, 0, []), (383, 41, 0, 0, 0, 0, [])]
set_option maxRecDepth 20000 in
theorem qX12_auctionf : f_all yX12_auction YX12_auction pX12_auctionf :=
  ⟨f_aload_n (n := 0) (e_dx DX12_auction_0 0 rfl) rfl,
  f_getA (e_dx DX12_auction_0 1 rfl) fX12_202 rfl (by decide) (Nat.le_of_ble_eq_true rfl) rfl (by decide),
  f_iconst (e_dx DX12_auction_0 2 rfl) ⟨by decide, by decide⟩,
  f_iaload (e_dx DX12_auction_0 3 rfl),
  f_istore_n (n := 2) (e_dx DX12_auction_0 4 rfl) rfl (by decide),
  f_aload_n (n := 0) (e_dx DX12_auction_0 5 rfl) rfl,
  f_getA (e_dx DX12_auction_0 6 rfl) fX12_202 rfl (by decide) (Nat.le_of_ble_eq_true rfl) rfl (by decide),
  f_iconst (e_dx DX12_auction_0 7 rfl) ⟨by decide, by decide⟩,
  f_iaload (e_dx DX12_auction_0 8 rfl),
  f_istore_n (n := 3) (e_dx DX12_auction_0 9 rfl) rfl (by decide),
  f_aload_n (n := 0) (e_dx DX12_auction_0 10 rfl) rfl,
  f_getA (e_dx DX12_auction_0 11 rfl) fX12_202 rfl (by decide) (Nat.le_of_ble_eq_true rfl) rfl (by decide),
  f_iconst (e_dx DX12_auction_0 12 rfl) ⟨by decide, by decide⟩,
  f_iaload (e_dx DX12_auction_0 13 rfl),
  f_istore (e_dx DX12_auction_0 14 rfl) (by decide),
  f_aload_n (n := 0) (e_dx DX12_auction_0 15 rfl) rfl,
  f_iload_n (n := 2) (e_dx DX12_auction_0 16 rfl) rfl,
  f_iload_n (n := 3) (e_dx DX12_auction_0 17 rfl) rfl,
  x_callV (e_dx DX12_auction_0 18 rfl) mwX12_rankAt vwX12_rankAt cX12_566 rfl,
  f_istore (e_dx DX12_auction_0 19 rfl) (by decide),
  f_iload (e_dx DX12_auction_0 20 rfl),
  f_if_ge (e_dx DX12_auction_0 21 rfl) rfl,
  f_bipush (e_dx DX12_auction_0 22 rfl) ⟨by decide, by decide⟩,
  ⟨(e_dx DX12_auction_0 23 rfl), rfl⟩,
  f_aload_n (n := 0) (e_dx DX12_auction_0 24 rfl) rfl,
  f_iload (e_dx DX12_auction_0 25 rfl),
  f_aload_n (n := 0) (e_dx DX12_auction_0 26 rfl) rfl,
  f_getf (e_dx DX12_auction_0 27 rfl) fX12_543 rfl (by decide) (by decide) (by decide),
  x_callV (e_dx DX12_auction_0 28 rfl) mwX12_isAble vwX12_isAble cX12_582 rfl,
  f_if_ne (e_dx DX12_auction_0 29 rfl) rfl,
  f_iconst (e_dx DX12_auction_0 30 rfl) ⟨by decide, by decide⟩,
  ⟨(e_dx DX12_auction_0 31 rfl), rfl⟩,
  f_aload_n (n := 0) (e_dx DX12_auction_0 32 rfl) rfl,
  f_iload_n (n := 2) (e_dx DX12_auction_0 33 rfl) rfl,
  f_aload_n (n := 0) (e_dx DX12_auction_0 34 rfl) rfl,
  f_getA (e_dx DX12_auction_0 35 rfl) fX12_109 rfl (by decide) (Nat.le_of_ble_eq_true rfl) rfl (by decide),
  f_iconst (e_dx DX12_auction_0 36 rfl) ⟨by decide, by decide⟩,
  f_iload_n (n := 3) (e_dx DX12_auction_0 37 rfl) rfl,
  x_callS (e_dx DX12_auction_0 38 rfl) mwX12_id cX12_540 swX12_id rfl,
  f_iaload (e_dx DX12_auction_0 39 rfl),
  x_callV (e_dx DX12_auction_1 0 rfl) mwX12_isBarred vwX12_isBarred cX12_698 rfl,
  f_if_eq (e_dx DX12_auction_1 1 rfl) rfl,
  f_iconst (e_dx DX12_auction_1 2 rfl) ⟨by decide, by decide⟩,
  ⟨(e_dx DX12_auction_1 3 rfl), rfl⟩,
  f_aload_n (n := 0) (e_dx DX12_auction_1 4 rfl) rfl,
  f_getA (e_dx DX12_auction_1 5 rfl) fX12_33 rfl (by decide) (Nat.le_of_ble_eq_true rfl) rfl (by decide),
  f_iload_n (n := 1) (e_dx DX12_auction_1 6 rfl) rfl,
  f_iaload (e_dx DX12_auction_1 7 rfl),
  f_if_ne (e_dx DX12_auction_1 8 rfl) rfl,
  f_bipush (e_dx DX12_auction_1 9 rfl) ⟨by decide, by decide⟩,
  ⟨(e_dx DX12_auction_1 10 rfl), rfl⟩,
  f_aload_n (n := 0) (e_dx DX12_auction_1 11 rfl) rfl,
  f_iconst (e_dx DX12_auction_1 12 rfl) ⟨by decide, by decide⟩,
  f_putn (e_dx DX12_auction_1 13 rfl) fX12_555 (fun q hq => by cases hq; rfl) rfl (Or.inl rfl) (by decide),
  f_aload_n (n := 0) (e_dx DX12_auction_1 14 rfl) rfl,
  f_iload (e_dx DX12_auction_1 15 rfl),
  f_lconst (n := 1) (e_dx DX12_auction_1 16 rfl) rfl,
  f_lconst (n := 1) (e_dx DX12_auction_1 17 rfl) rfl,
  x_callV (e_dx DX12_auction_1 18 rfl) mwX12_gets vwX12_gets cX12_669 rfl,
  f_aload_n (n := 0) (e_dx DX12_auction_1 19 rfl) rfl,
  f_iload_n (n := 2) (e_dx DX12_auction_1 20 rfl) rfl,
  x_callV (e_dx DX12_auction_1 21 rfl) mwX12_keeps vwX12_keeps cX12_692 rfl,
  f_aload_n (n := 0) (e_dx DX12_auction_1 22 rfl) rfl,
  f_getA (e_dx DX12_auction_1 23 rfl) fX12_112 rfl (by decide) (Nat.le_of_ble_eq_true rfl) rfl (by decide),
  f_iload_n (n := 2) (e_dx DX12_auction_1 24 rfl) rfl,
  f_aload_n (n := 0) (e_dx DX12_auction_1 25 rfl) rfl,
  f_getA (e_dx DX12_auction_1 26 rfl) fX12_33 rfl (by decide) (Nat.le_of_ble_eq_true rfl) rfl (by decide),
  f_iload_n (n := 1) (e_dx DX12_auction_1 27 rfl) rfl,
  f_iaload (e_dx DX12_auction_1 28 rfl),
  f_iastore (e_dx DX12_auction_1 29 rfl),
  f_aload_n (n := 0) (e_dx DX12_auction_1 30 rfl) rfl,
  f_getA (e_dx DX12_auction_1 31 rfl) fX12_33 rfl (by decide) (Nat.le_of_ble_eq_true rfl) rfl (by decide),
  f_iload_n (n := 1) (e_dx DX12_auction_1 32 rfl) rfl,
  f_iaload (e_dx DX12_auction_1 33 rfl),
  f_istore (e_dx DX12_auction_1 34 rfl) (by decide),
  f_aload_n (n := 0) (e_dx DX12_auction_1 35 rfl) rfl,
  f_getA (e_dx DX12_auction_1 36 rfl) fX12_106 rfl (by decide) (Nat.le_of_ble_eq_true rfl) rfl (by decide),
  f_iconst (e_dx DX12_auction_1 37 rfl) ⟨by decide, by decide⟩,
  f_iload_n (n := 3) (e_dx DX12_auction_1 38 rfl) rfl,
  x_callS (e_dx DX12_auction_1 39 rfl) mwX12_id cX12_540 swX12_id rfl,
  f_iaload (e_dx DX12_auction_2 0 rfl),
  f_istore (e_dx DX12_auction_2 1 rfl) (by decide),
  trivial,
  f_aload_n (n := 0) (e_dx DX12_auction_2 2 rfl) rfl,
  f_getA (e_dx DX12_auction_2 3 rfl) fX12_139 rfl (by decide) (Nat.le_of_ble_eq_true rfl) rfl (by decide),
  f_iload_n (n := 2) (e_dx DX12_auction_2 4 rfl) rfl,
  f_iaload (e_dx DX12_auction_2 5 rfl),
  f_iload (e_dx DX12_auction_2 6 rfl),
  f_icmp_le (e_dx DX12_auction_2 7 rfl) rfl,
  f_aload_n (n := 0) (e_dx DX12_auction_2 8 rfl) rfl,
  f_getA (e_dx DX12_auction_2 9 rfl) fX12_142 rfl (by decide) (Nat.le_of_ble_eq_true rfl) rfl (by decide),
  f_bipush (e_dx DX12_auction_2 10 rfl) ⟨by decide, by decide⟩,
  f_iload_n (n := 2) (e_dx DX12_auction_2 11 rfl) rfl,
  f_imul (e_dx DX12_auction_2 12 rfl),
  f_iload (e_dx DX12_auction_2 13 rfl),
  f_iadd (e_dx DX12_auction_2 14 rfl),
  f_iaload (e_dx DX12_auction_2 15 rfl),
  f_g33,
  f_istore (e_dx DX12_auction_2 16 rfl) (by decide),
  f_iconst (e_dx DX12_auction_2 17 rfl) ⟨by decide, by decide⟩,
  f_iload (e_dx DX12_auction_2 18 rfl),
  x_callS (e_dx DX12_auction_2 19 rfl) mwX12_id cX12_540 swX12_id rfl,
  f_istore (e_dx DX12_auction_2 20 rfl) (by decide),
  f_iload (e_dx DX12_auction_2 21 rfl),
  f_aload_n (n := 0) (e_dx DX12_auction_2 22 rfl) rfl,
  f_getA (e_dx DX12_auction_2 23 rfl) fX12_112 rfl (by decide) (Nat.le_of_ble_eq_true rfl) rfl (by decide),
  f_iload (e_dx DX12_auction_2 24 rfl),
  f_iaload (e_dx DX12_auction_2 25 rfl),
  f_mminI (e_dx DX12_auction_2 26 rfl) cX12_523 fm_s_mminI fm_i fm_c_mminI,
  f_istore (e_dx DX12_auction_2 27 rfl) (by decide),
  f_iload (e_dx DX12_auction_2 28 rfl),
  f_iload (e_dx DX12_auction_2 29 rfl),
  f_isub (e_dx DX12_auction_2 30 rfl),
  f_g33,
  f_istore (e_dx DX12_auction_2 31 rfl) (by decide),
  f_aload_n (n := 0) (e_dx DX12_auction_2 32 rfl) rfl,
  f_getA (e_dx DX12_auction_2 33 rfl) fX12_112 rfl (by decide) (Nat.le_of_ble_eq_true rfl) rfl (by decide),
  f_iload (e_dx DX12_auction_2 34 rfl),
  f_g23 (e_dx DX12_auction_2 35 rfl),
  f_iaload (e_dx DX12_auction_2 36 rfl),
  f_iload (e_dx DX12_auction_2 37 rfl),
  f_isub (e_dx DX12_auction_2 38 rfl),
  f_iastore (e_dx DX12_auction_2 39 rfl),
  f_aload_n (n := 0) (e_dx DX12_auction_3 0 rfl) rfl,
  f_iload (e_dx DX12_auction_3 1 rfl),
  f_iload_n (n := 2) (e_dx DX12_auction_3 2 rfl) rfl,
  x_callV (e_dx DX12_auction_3 3 rfl) mwX12_offCharge vwX12_offCharge cX12_579 rfl,
  f_aload_n (n := 0) (e_dx DX12_auction_3 4 rfl) rfl,
  f_getA (e_dx DX12_auction_3 5 rfl) fX12_112 rfl (by decide) (Nat.le_of_ble_eq_true rfl) rfl (by decide),
  f_iload (e_dx DX12_auction_3 6 rfl),
  f_iaload (e_dx DX12_auction_3 7 rfl),
  f_if_ne (e_dx DX12_auction_3 8 rfl) rfl,
  f_aload_n (n := 0) (e_dx DX12_auction_3 9 rfl) rfl,
  f_iload (e_dx DX12_auction_3 10 rfl),
  x_callV (e_dx DX12_auction_3 11 rfl) mwX12_endCharge vwX12_endCharge cX12_746 rfl,
  trivial,
  f_g19 (e_dx DX12_auction_3 12 rfl) rfl,
  f_iconst (e_dx DX12_auction_3 13 rfl) ⟨by decide, by decide⟩,
  f_istore (e_dx DX12_auction_3 14 rfl) (by decide),
  trivial,
  f_iload (e_dx DX12_auction_3 15 rfl),
  f_aload_n (n := 0) (e_dx DX12_auction_3 16 rfl) rfl,
  f_getA (e_dx DX12_auction_3 17 rfl) fX12_91 rfl (by decide) (Nat.le_of_ble_eq_true rfl) rfl (by decide),
  f_iconst (e_dx DX12_auction_3 18 rfl) ⟨by decide, by decide⟩,
  f_iaload (e_dx DX12_auction_3 19 rfl),
  f_icmp_ge (e_dx DX12_auction_3 20 rfl) rfl,
  f_aload_n (n := 0) (e_dx DX12_auction_3 21 rfl) rfl,
  f_iconst (e_dx DX12_auction_3 22 rfl) ⟨by decide, by decide⟩,
  f_iload (e_dx DX12_auction_3 23 rfl),
  f_aload_n (n := 0) (e_dx DX12_auction_3 24 rfl) rfl,
  f_getf (e_dx DX12_auction_3 25 rfl) fX12_543 rfl (by decide) (by decide) (by decide),
  x_callV (e_dx DX12_auction_3 26 rfl) mwX12_isThere vwX12_isThere cX12_549 rfl,
  f_if_eq (e_dx DX12_auction_3 27 rfl) rfl,
  f_aload_n (n := 0) (e_dx DX12_auction_3 28 rfl) rfl,
  f_getA (e_dx DX12_auction_3 29 rfl) fX12_106 rfl (by decide) (Nat.le_of_ble_eq_true rfl) rfl (by decide),
  f_iconst (e_dx DX12_auction_3 30 rfl) ⟨by decide, by decide⟩,
  f_iload (e_dx DX12_auction_3 31 rfl),
  x_callS (e_dx DX12_auction_3 32 rfl) mwX12_id cX12_540 swX12_id rfl,
  f_iaload (e_dx DX12_auction_3 33 rfl),
  f_iload (e_dx DX12_auction_3 34 rfl),
  f_icmp_le (e_dx DX12_auction_3 35 rfl) rfl,
  f_aload_n (n := 0) (e_dx DX12_auction_3 36 rfl) rfl,
  f_iconst (e_dx DX12_auction_3 37 rfl) ⟨by decide, by decide⟩,
  f_iload (e_dx DX12_auction_3 38 rfl),
  x_callS (e_dx DX12_auction_3 39 rfl) mwX12_id cX12_540 swX12_id rfl,
  f_iload_n (n := 2) (e_dx DX12_auction_4 0 rfl) rfl,
  x_callV (e_dx DX12_auction_4 1 rfl) mwX12_offLot vwX12_offLot cX12_749 rfl,
  trivial,
  f_g8 (e_dx DX12_auction_4 2 rfl) ⟨by decide, by decide⟩,
  f_g19 (e_dx DX12_auction_4 3 rfl) rfl,
  f_iconst (e_dx DX12_auction_4 4 rfl) ⟨by decide, by decide⟩,
  f_istore (e_dx DX12_auction_4 5 rfl) (by decide),
  trivial,
  f_iload (e_dx DX12_auction_4 6 rfl),
  f_aload_n (n := 0) (e_dx DX12_auction_4 7 rfl) rfl,
  f_getA (e_dx DX12_auction_4 8 rfl) fX12_91 rfl (by decide) (Nat.le_of_ble_eq_true rfl) rfl (by decide),
  f_bipush (e_dx DX12_auction_4 9 rfl) ⟨by decide, by decide⟩,
  f_iaload (e_dx DX12_auction_4 10 rfl),
  f_icmp_ge (e_dx DX12_auction_4 11 rfl) rfl,
  f_aload_n (n := 0) (e_dx DX12_auction_4 12 rfl) rfl,
  f_bipush (e_dx DX12_auction_4 13 rfl) ⟨by decide, by decide⟩,
  f_iload (e_dx DX12_auction_4 14 rfl),
  f_aload_n (n := 0) (e_dx DX12_auction_4 15 rfl) rfl,
  f_getf (e_dx DX12_auction_4 16 rfl) fX12_543 rfl (by decide) (by decide) (by decide),
  x_callV (e_dx DX12_auction_4 17 rfl) mwX12_isThere vwX12_isThere cX12_549 rfl,
  f_if_eq (e_dx DX12_auction_4 18 rfl) rfl,
  f_aload_n (n := 0) (e_dx DX12_auction_4 19 rfl) rfl,
  f_bipush (e_dx DX12_auction_4 20 rfl) ⟨by decide, by decide⟩,
  f_iload (e_dx DX12_auction_4 21 rfl),
  x_callS (e_dx DX12_auction_4 22 rfl) mwX12_id cX12_540 swX12_id rfl,
  f_iload_n (n := 2) (e_dx DX12_auction_4 23 rfl) rfl,
  x_callV (e_dx DX12_auction_4 24 rfl) mwX12_offLot vwX12_offLot cX12_749 rfl,
  trivial,
  f_g8 (e_dx DX12_auction_4 25 rfl) ⟨by decide, by decide⟩,
  f_g19 (e_dx DX12_auction_4 26 rfl) rfl,
  f_iconst (e_dx DX12_auction_4 27 rfl) ⟨by decide, by decide⟩,
  f_istore (e_dx DX12_auction_4 28 rfl) (by decide),
  trivial,
  f_iload (e_dx DX12_auction_4 29 rfl),
  f_aload_n (n := 0) (e_dx DX12_auction_4 30 rfl) rfl,
  f_getA (e_dx DX12_auction_4 31 rfl) fX12_91 rfl (by decide) (Nat.le_of_ble_eq_true rfl) rfl (by decide),
  f_iconst (e_dx DX12_auction_4 32 rfl) ⟨by decide, by decide⟩,
  f_iaload (e_dx DX12_auction_4 33 rfl),
  f_icmp_ge (e_dx DX12_auction_4 34 rfl) rfl,
  f_aload_n (n := 0) (e_dx DX12_auction_4 35 rfl) rfl,
  f_iconst (e_dx DX12_auction_4 36 rfl) ⟨by decide, by decide⟩,
  f_iload (e_dx DX12_auction_4 37 rfl),
  x_callS (e_dx DX12_auction_4 38 rfl) mwX12_id cX12_540 swX12_id rfl,
  f_iload_n (n := 2) (e_dx DX12_auction_4 39 rfl) rfl,
  x_callV (e_dx DX12_auction_5 0 rfl) mwX12_placeOn vwX12_placeOn cX12_573 rfl,
  f_if_lt (e_dx DX12_auction_5 1 rfl) rfl,
  f_aload_n (n := 0) (e_dx DX12_auction_5 2 rfl) rfl,
  f_getA (e_dx DX12_auction_5 3 rfl) fX12_97 rfl (by decide) (Nat.le_of_ble_eq_true rfl) rfl (by decide),
  f_iconst (e_dx DX12_auction_5 4 rfl) ⟨by decide, by decide⟩,
  f_iload (e_dx DX12_auction_5 5 rfl),
  x_callS (e_dx DX12_auction_5 6 rfl) mwX12_id cX12_540 swX12_id rfl,
  f_iconst (e_dx DX12_auction_5 7 rfl) ⟨by decide, by decide⟩,
  f_g29 (e_dx DX12_auction_5 8 rfl),
  trivial,
  f_g8 (e_dx DX12_auction_5 9 rfl) ⟨by decide, by decide⟩,
  f_g19 (e_dx DX12_auction_5 10 rfl) rfl,
  f_iconst (e_dx DX12_auction_5 11 rfl) ⟨by decide, by decide⟩,
  ⟨(e_dx DX12_auction_5 12 rfl), rfl⟩, trivial⟩
def lX12_auction (c_X12_rankAt : Int → Int → e_M → (Int → Prop) → Prop) (c_X12_isAble : Int → Int → e_M → (Int → Prop) → Prop) (c_X12_id : Int → Int → e_M → (Int → Prop) → Prop) (c_X12_isBarred : Int → Int → e_M → (Int → Prop) → Prop) (c_X12_gets : Int → Int → Int → e_M → (e_M → Prop) → Prop) (c_X12_keeps : Int → e_M → (e_M → Prop) → Prop) (c_X12_offCharge : Int → Int → e_M → (e_M → Prop) → Prop) (c_X12_endCharge : Int → e_M → (e_M → Prop) → Prop) (c_X12_isThere : Int → Int → Int → e_M → (Int → Prop) → Prop) (c_X12_offLot : Int → Int → e_M → (e_M → Prop) → Prop) (c_X12_placeOn : Int → Int → e_M → (Int → Prop) → Prop) : List (Nat × f_Wt) := [(0, f_wm [(4466, 12, 123), (1, 0, 0), (1, 0, 0)] (fun ar M R => c_X12_rankAt (f_vi (f_nth ar 1)) (f_vi (f_nth ar 2)) M (fun r => R (some (.inl r)) M))), (1, f_wm [(4466, 12, 123), (1, 0, 0), (1, 0, 0)] (fun ar M R => c_X12_isAble (f_vi (f_nth ar 1)) (f_vi (f_nth ar 2)) M (fun r => R (some (.inl r)) M))), (2, f_wm [(1, 0, 0), (1, 0, 0)] (fun ar M R => c_X12_id (f_vi (f_nth ar 0)) (f_vi (f_nth ar 1)) M (fun r => R (some (.inl r)) M))), (3, f_wm [(4466, 12, 123), (1, 0, 0), (1, 0, 0)] (fun ar M R => c_X12_isBarred (f_vi (f_nth ar 1)) (f_vi (f_nth ar 2)) M (fun r => R (some (.inl r)) M))), (4, f_wm [(4466, 12, 123), (1, 0, 0), (2, 0, 0), (2, 0, 0)] (fun ar M R => c_X12_gets (f_vi (f_nth ar 1)) (f_vi (f_nth ar 2)) (f_vi (f_nth ar 3)) M (fun M => R none M))), (5, f_wm [(4466, 12, 123), (1, 0, 0)] (fun ar M R => c_X12_keeps (f_vi (f_nth ar 1)) M (fun M => R none M))), (6, f_wm [(4466, 12, 123), (1, 0, 0), (1, 0, 0)] (fun ar M R => c_X12_offCharge (f_vi (f_nth ar 1)) (f_vi (f_nth ar 2)) M (fun M => R none M))), (7, f_wm [(4466, 12, 123), (1, 0, 0)] (fun ar M R => c_X12_endCharge (f_vi (f_nth ar 1)) M (fun M => R none M))), (8, f_wm [(4466, 12, 123), (1, 0, 0), (1, 0, 0), (1, 0, 0)] (fun ar M R => c_X12_isThere (f_vi (f_nth ar 1)) (f_vi (f_nth ar 2)) (f_vi (f_nth ar 3)) M (fun r => R (some (.inl r)) M))), (9, f_wm [(4466, 12, 123), (1, 0, 0), (1, 0, 0)] (fun ar M R => c_X12_offLot (f_vi (f_nth ar 1)) (f_vi (f_nth ar 2)) M (fun M => R none M))), (10, f_wm [(4466, 12, 123), (1, 0, 0), (1, 0, 0)] (fun ar M R => c_X12_placeOn (f_vi (f_nth ar 1)) (f_vi (f_nth ar 2)) M (fun r => R (some (.inl r)) M)))]
set_option maxRecDepth 20000 in
theorem BX12_auction_135 {sh : Nat → Nat × Nat} {t : Nat} {rm : Nat × Nat × Nat} {cs : Nat × Nat} {R : f_Rt} {c_X12_rankAt : Int → Int → e_M → (Int → Prop) → Prop} {c_X12_isAble : Int → Int → e_M → (Int → Prop) → Prop} {c_X12_id : Int → Int → e_M → (Int → Prop) → Prop} {c_X12_isBarred : Int → Int → e_M → (Int → Prop) → Prop} {c_X12_gets : Int → Int → Int → e_M → (e_M → Prop) → Prop} {c_X12_keeps : Int → e_M → (e_M → Prop) → Prop} {c_X12_offCharge : Int → Int → e_M → (e_M → Prop) → Prop} {c_X12_endCharge : Int → e_M → (e_M → Prop) → Prop} {c_X12_isThere : Int → Int → Int → e_M → (Int → Prop) → Prop} {c_X12_offLot : Int → Int → e_M → (e_M → Prop) → Prop} {c_X12_placeOn : Int → Int → e_M → (Int → Prop) → Prop} {k230 : Int → Int → Int → e_M → Prop} {k224 : Int → Int → Int → Int → e_M → Prop} {x2 : Int} {x5 : Int} {x6 : Int} {x7 : Int} {M : e_M} (C : f_Hy sh t yX12_auction rm cs 10 (lX12_auction c_X12_rankAt c_X12_isAble c_X12_id c_X12_isBarred c_X12_gets c_X12_keeps c_X12_offCharge c_X12_endCharge c_X12_isThere c_X12_offLot c_X12_placeOn) R) (h230 : ∀ (x2 : Int) (x7 : Int) (x8 : Int) (M : e_M), k230 x2 x7 x8 M → f_E sh t YX12_auction rm cs (f_Q sh t R) 230 [.inr (.inr (.inl (12, 123, 4456))), .inr (.inr (.inr ())), .inl x2, .inr (.inr (.inr ())), .inr (.inr (.inr ())), .inr (.inr (.inr ())), .inr (.inr (.inr ())), .inl x7, .inl x8, .inr (.inr (.inr ())), .inr (.inr (.inr ()))] [] M) (h224 : ∀ (x2 : Int) (x5 : Int) (x6 : Int) (x7 : Int) (M : e_M), k224 x2 x5 x6 x7 M → f_E sh t YX12_auction rm cs (f_Q sh t R) 224 [.inr (.inr (.inl (12, 123, 4456))), .inr (.inr (.inr ())), .inl x2, .inr (.inr (.inr ())), .inr (.inr (.inr ())), .inl x5, .inl x6, .inl x7, .inr (.inr (.inr ())), .inr (.inr (.inr ())), .inr (.inr (.inr ()))] [] M) (h : VX12_auction_135 c_X12_rankAt c_X12_isAble c_X12_id c_X12_isBarred c_X12_gets c_X12_keeps c_X12_offCharge c_X12_endCharge c_X12_isThere c_X12_offLot c_X12_placeOn k230 k224 (fun r M => R (some (.inl r)) M) x2 x5 x6 x7 M) : f_E sh t YX12_auction rm cs (f_Q sh t R) 135 [.inr (.inr (.inl (12, 123, 4456))), .inr (.inr (.inr ())), .inl x2, .inr (.inr (.inr ())), .inr (.inr (.inr ())), .inl x5, .inl x6, .inl x7, .inr (.inr (.inr ())), .inr (.inr (.inr ())), .inr (.inr (.inr ()))] [] M :=
  f_go (KC := f_kc [(230, f_pl [(4466, 12, 123), (0, 0, 0), (1, 0, 0), (0, 0, 0), (0, 0, 0), (0, 0, 0), (0, 0, 0), (1, 0, 0), (1, 0, 0), (0, 0, 0), (0, 0, 0)] [] (fun ls st M => k230 (f_vi (f_nth ls 2)) (f_vi (f_nth ls 7)) (f_vi (f_nth ls 8)) M)), (224, f_pl [(4466, 12, 123), (0, 0, 0), (1, 0, 0), (0, 0, 0), (0, 0, 0), (1, 0, 0), (1, 0, 0), (1, 0, 0), (0, 0, 0), (0, 0, 0), (0, 0, 0)] [] (fun ls st M => k224 (f_vi (f_nth ls 2)) (f_vi (f_nth ls 5)) (f_vi (f_nth ls 6)) (f_vi (f_nth ls 7)) M))]) C qX12_auctionf (f_kc_cons (f_pl_ok rfl (fun ls st M h => h230 _ _ _ M h)) (f_kc_cons (f_pl_ok rfl (fun ls st M h => h224 _ _ _ _ M h)) f_kc_nil)) 225 83 h
set_option maxRecDepth 20000 in
theorem BX12_auction_224 {sh : Nat → Nat × Nat} {t : Nat} {rm : Nat × Nat × Nat} {cs : Nat × Nat} {R : f_Rt} {c_X12_rankAt : Int → Int → e_M → (Int → Prop) → Prop} {c_X12_isAble : Int → Int → e_M → (Int → Prop) → Prop} {c_X12_id : Int → Int → e_M → (Int → Prop) → Prop} {c_X12_isBarred : Int → Int → e_M → (Int → Prop) → Prop} {c_X12_gets : Int → Int → Int → e_M → (e_M → Prop) → Prop} {c_X12_keeps : Int → e_M → (e_M → Prop) → Prop} {c_X12_offCharge : Int → Int → e_M → (e_M → Prop) → Prop} {c_X12_endCharge : Int → e_M → (e_M → Prop) → Prop} {c_X12_isThere : Int → Int → Int → e_M → (Int → Prop) → Prop} {c_X12_offLot : Int → Int → e_M → (e_M → Prop) → Prop} {c_X12_placeOn : Int → Int → e_M → (Int → Prop) → Prop} {k135 : Int → Int → Int → Int → e_M → Prop} {x2 : Int} {x5 : Int} {x6 : Int} {x7 : Int} {M : e_M} (C : f_Hy sh t yX12_auction rm cs 10 (lX12_auction c_X12_rankAt c_X12_isAble c_X12_id c_X12_isBarred c_X12_gets c_X12_keeps c_X12_offCharge c_X12_endCharge c_X12_isThere c_X12_offLot c_X12_placeOn) R) (h135 : ∀ (x2 : Int) (x5 : Int) (x6 : Int) (x7 : Int) (M : e_M), k135 x2 x5 x6 x7 M → f_E sh t YX12_auction rm cs (f_Q sh t R) 135 [.inr (.inr (.inl (12, 123, 4456))), .inr (.inr (.inr ())), .inl x2, .inr (.inr (.inr ())), .inr (.inr (.inr ())), .inl x5, .inl x6, .inl x7, .inr (.inr (.inr ())), .inr (.inr (.inr ())), .inr (.inr (.inr ()))] [] M) (h : VX12_auction_224 c_X12_rankAt c_X12_isAble c_X12_id c_X12_isBarred c_X12_gets c_X12_keeps c_X12_offCharge c_X12_endCharge c_X12_isThere c_X12_offLot c_X12_placeOn k135 (fun r M => R (some (.inl r)) M) x2 x5 x6 x7 M) : f_E sh t YX12_auction rm cs (f_Q sh t R) 224 [.inr (.inr (.inl (12, 123, 4456))), .inr (.inr (.inr ())), .inl x2, .inr (.inr (.inr ())), .inr (.inr (.inr ())), .inl x5, .inl x6, .inl x7, .inr (.inr (.inr ())), .inr (.inr (.inr ())), .inr (.inr (.inr ()))] [] M :=
  f_go (KC := f_kc [(135, f_pl [(4466, 12, 123), (0, 0, 0), (1, 0, 0), (0, 0, 0), (0, 0, 0), (1, 0, 0), (1, 0, 0), (1, 0, 0), (0, 0, 0), (0, 0, 0), (0, 0, 0)] [] (fun ls st M => k135 (f_vi (f_nth ls 2)) (f_vi (f_nth ls 5)) (f_vi (f_nth ls 6)) (f_vi (f_nth ls 7)) M))]) C qX12_auctionf (f_kc_cons (f_pl_ok rfl (fun ls st M h => h135 _ _ _ _ M h)) f_kc_nil) 225 136 h
set_option maxRecDepth 20000 in
theorem BX12_auction_230 {sh : Nat → Nat × Nat} {t : Nat} {rm : Nat × Nat × Nat} {cs : Nat × Nat} {R : f_Rt} {c_X12_rankAt : Int → Int → e_M → (Int → Prop) → Prop} {c_X12_isAble : Int → Int → e_M → (Int → Prop) → Prop} {c_X12_id : Int → Int → e_M → (Int → Prop) → Prop} {c_X12_isBarred : Int → Int → e_M → (Int → Prop) → Prop} {c_X12_gets : Int → Int → Int → e_M → (e_M → Prop) → Prop} {c_X12_keeps : Int → e_M → (e_M → Prop) → Prop} {c_X12_offCharge : Int → Int → e_M → (e_M → Prop) → Prop} {c_X12_endCharge : Int → e_M → (e_M → Prop) → Prop} {c_X12_isThere : Int → Int → Int → e_M → (Int → Prop) → Prop} {c_X12_offLot : Int → Int → e_M → (e_M → Prop) → Prop} {c_X12_placeOn : Int → Int → e_M → (Int → Prop) → Prop} {k291 : Int → Int → e_M → Prop} {k282 : Int → Int → Int → e_M → Prop} {x2 : Int} {x7 : Int} {x8 : Int} {M : e_M} (C : f_Hy sh t yX12_auction rm cs 10 (lX12_auction c_X12_rankAt c_X12_isAble c_X12_id c_X12_isBarred c_X12_gets c_X12_keeps c_X12_offCharge c_X12_endCharge c_X12_isThere c_X12_offLot c_X12_placeOn) R) (h291 : ∀ (x2 : Int) (x8 : Int) (M : e_M), k291 x2 x8 M → f_E sh t YX12_auction rm cs (f_Q sh t R) 291 [.inr (.inr (.inl (12, 123, 4456))), .inr (.inr (.inr ())), .inl x2, .inr (.inr (.inr ())), .inr (.inr (.inr ())), .inr (.inr (.inr ())), .inr (.inr (.inr ())), .inr (.inr (.inr ())), .inl x8, .inr (.inr (.inr ())), .inr (.inr (.inr ()))] [] M) (h282 : ∀ (x2 : Int) (x7 : Int) (x8 : Int) (M : e_M), k282 x2 x7 x8 M → f_E sh t YX12_auction rm cs (f_Q sh t R) 282 [.inr (.inr (.inl (12, 123, 4456))), .inr (.inr (.inr ())), .inl x2, .inr (.inr (.inr ())), .inr (.inr (.inr ())), .inr (.inr (.inr ())), .inr (.inr (.inr ())), .inl x7, .inl x8, .inr (.inr (.inr ())), .inr (.inr (.inr ()))] [] M) (h : VX12_auction_230 c_X12_rankAt c_X12_isAble c_X12_id c_X12_isBarred c_X12_gets c_X12_keeps c_X12_offCharge c_X12_endCharge c_X12_isThere c_X12_offLot c_X12_placeOn k291 k282 (fun r M => R (some (.inl r)) M) x2 x7 x8 M) : f_E sh t YX12_auction rm cs (f_Q sh t R) 230 [.inr (.inr (.inl (12, 123, 4456))), .inr (.inr (.inr ())), .inl x2, .inr (.inr (.inr ())), .inr (.inr (.inr ())), .inr (.inr (.inr ())), .inr (.inr (.inr ())), .inl x7, .inl x8, .inr (.inr (.inr ())), .inr (.inr (.inr ()))] [] M :=
  f_go (KC := f_kc [(291, f_pl [(4466, 12, 123), (0, 0, 0), (1, 0, 0), (0, 0, 0), (0, 0, 0), (0, 0, 0), (0, 0, 0), (0, 0, 0), (1, 0, 0), (0, 0, 0), (0, 0, 0)] [] (fun ls st M => k291 (f_vi (f_nth ls 2)) (f_vi (f_nth ls 8)) M)), (282, f_pl [(4466, 12, 123), (0, 0, 0), (1, 0, 0), (0, 0, 0), (0, 0, 0), (0, 0, 0), (0, 0, 0), (1, 0, 0), (1, 0, 0), (0, 0, 0), (0, 0, 0)] [] (fun ls st M => k282 (f_vi (f_nth ls 2)) (f_vi (f_nth ls 7)) (f_vi (f_nth ls 8)) M))]) C qX12_auctionf (f_kc_cons (f_pl_ok rfl (fun ls st M h => h291 _ _ M h)) (f_kc_cons (f_pl_ok rfl (fun ls st M h => h282 _ _ _ M h)) f_kc_nil)) 225 140 h
set_option maxRecDepth 20000 in
theorem BX12_auction_282 {sh : Nat → Nat × Nat} {t : Nat} {rm : Nat × Nat × Nat} {cs : Nat × Nat} {R : f_Rt} {c_X12_rankAt : Int → Int → e_M → (Int → Prop) → Prop} {c_X12_isAble : Int → Int → e_M → (Int → Prop) → Prop} {c_X12_id : Int → Int → e_M → (Int → Prop) → Prop} {c_X12_isBarred : Int → Int → e_M → (Int → Prop) → Prop} {c_X12_gets : Int → Int → Int → e_M → (e_M → Prop) → Prop} {c_X12_keeps : Int → e_M → (e_M → Prop) → Prop} {c_X12_offCharge : Int → Int → e_M → (e_M → Prop) → Prop} {c_X12_endCharge : Int → e_M → (e_M → Prop) → Prop} {c_X12_isThere : Int → Int → Int → e_M → (Int → Prop) → Prop} {c_X12_offLot : Int → Int → e_M → (e_M → Prop) → Prop} {c_X12_placeOn : Int → Int → e_M → (Int → Prop) → Prop} {k230 : Int → Int → Int → e_M → Prop} {x2 : Int} {x7 : Int} {x8 : Int} {M : e_M} (C : f_Hy sh t yX12_auction rm cs 10 (lX12_auction c_X12_rankAt c_X12_isAble c_X12_id c_X12_isBarred c_X12_gets c_X12_keeps c_X12_offCharge c_X12_endCharge c_X12_isThere c_X12_offLot c_X12_placeOn) R) (h230 : ∀ (x2 : Int) (x7 : Int) (x8 : Int) (M : e_M), k230 x2 x7 x8 M → f_E sh t YX12_auction rm cs (f_Q sh t R) 230 [.inr (.inr (.inl (12, 123, 4456))), .inr (.inr (.inr ())), .inl x2, .inr (.inr (.inr ())), .inr (.inr (.inr ())), .inr (.inr (.inr ())), .inr (.inr (.inr ())), .inl x7, .inl x8, .inr (.inr (.inr ())), .inr (.inr (.inr ()))] [] M) (h : VX12_auction_282 c_X12_rankAt c_X12_isAble c_X12_id c_X12_isBarred c_X12_gets c_X12_keeps c_X12_offCharge c_X12_endCharge c_X12_isThere c_X12_offLot c_X12_placeOn k230 (fun r M => R (some (.inl r)) M) x2 x7 x8 M) : f_E sh t YX12_auction rm cs (f_Q sh t R) 282 [.inr (.inr (.inl (12, 123, 4456))), .inr (.inr (.inr ())), .inl x2, .inr (.inr (.inr ())), .inr (.inr (.inr ())), .inr (.inr (.inr ())), .inr (.inr (.inr ())), .inl x7, .inl x8, .inr (.inr (.inr ())), .inr (.inr (.inr ()))] [] M :=
  f_go (KC := f_kc [(230, f_pl [(4466, 12, 123), (0, 0, 0), (1, 0, 0), (0, 0, 0), (0, 0, 0), (0, 0, 0), (0, 0, 0), (1, 0, 0), (1, 0, 0), (0, 0, 0), (0, 0, 0)] [] (fun ls st M => k230 (f_vi (f_nth ls 2)) (f_vi (f_nth ls 7)) (f_vi (f_nth ls 8)) M))]) C qX12_auctionf (f_kc_cons (f_pl_ok rfl (fun ls st M h => h230 _ _ _ M h)) f_kc_nil) 225 168 h
set_option maxRecDepth 20000 in
theorem BX12_auction_291 {sh : Nat → Nat × Nat} {t : Nat} {rm : Nat × Nat × Nat} {cs : Nat × Nat} {R : f_Rt} {c_X12_rankAt : Int → Int → e_M → (Int → Prop) → Prop} {c_X12_isAble : Int → Int → e_M → (Int → Prop) → Prop} {c_X12_id : Int → Int → e_M → (Int → Prop) → Prop} {c_X12_isBarred : Int → Int → e_M → (Int → Prop) → Prop} {c_X12_gets : Int → Int → Int → e_M → (e_M → Prop) → Prop} {c_X12_keeps : Int → e_M → (e_M → Prop) → Prop} {c_X12_offCharge : Int → Int → e_M → (e_M → Prop) → Prop} {c_X12_endCharge : Int → e_M → (e_M → Prop) → Prop} {c_X12_isThere : Int → Int → Int → e_M → (Int → Prop) → Prop} {c_X12_offLot : Int → Int → e_M → (e_M → Prop) → Prop} {c_X12_placeOn : Int → Int → e_M → (Int → Prop) → Prop} {k339 : Int → Int → e_M → Prop} {k330 : Int → Int → e_M → Prop} {x2 : Int} {x8 : Int} {M : e_M} (C : f_Hy sh t yX12_auction rm cs 10 (lX12_auction c_X12_rankAt c_X12_isAble c_X12_id c_X12_isBarred c_X12_gets c_X12_keeps c_X12_offCharge c_X12_endCharge c_X12_isThere c_X12_offLot c_X12_placeOn) R) (h339 : ∀ (x2 : Int) (x8 : Int) (M : e_M), k339 x2 x8 M → f_E sh t YX12_auction rm cs (f_Q sh t R) 339 [.inr (.inr (.inl (12, 123, 4456))), .inr (.inr (.inr ())), .inl x2, .inr (.inr (.inr ())), .inr (.inr (.inr ())), .inr (.inr (.inr ())), .inr (.inr (.inr ())), .inr (.inr (.inr ())), .inl x8, .inr (.inr (.inr ())), .inr (.inr (.inr ()))] [] M) (h330 : ∀ (x2 : Int) (x8 : Int) (M : e_M), k330 x2 x8 M → f_E sh t YX12_auction rm cs (f_Q sh t R) 330 [.inr (.inr (.inl (12, 123, 4456))), .inr (.inr (.inr ())), .inl x2, .inr (.inr (.inr ())), .inr (.inr (.inr ())), .inr (.inr (.inr ())), .inr (.inr (.inr ())), .inr (.inr (.inr ())), .inl x8, .inr (.inr (.inr ())), .inr (.inr (.inr ()))] [] M) (h : VX12_auction_291 c_X12_rankAt c_X12_isAble c_X12_id c_X12_isBarred c_X12_gets c_X12_keeps c_X12_offCharge c_X12_endCharge c_X12_isThere c_X12_offLot c_X12_placeOn k339 k330 (fun r M => R (some (.inl r)) M) x2 x8 M) : f_E sh t YX12_auction rm cs (f_Q sh t R) 291 [.inr (.inr (.inl (12, 123, 4456))), .inr (.inr (.inr ())), .inl x2, .inr (.inr (.inr ())), .inr (.inr (.inr ())), .inr (.inr (.inr ())), .inr (.inr (.inr ())), .inr (.inr (.inr ())), .inl x8, .inr (.inr (.inr ())), .inr (.inr (.inr ()))] [] M :=
  f_go (KC := f_kc [(339, f_pl [(4466, 12, 123), (0, 0, 0), (1, 0, 0), (0, 0, 0), (0, 0, 0), (0, 0, 0), (0, 0, 0), (0, 0, 0), (1, 0, 0), (0, 0, 0), (0, 0, 0)] [] (fun ls st M => k339 (f_vi (f_nth ls 2)) (f_vi (f_nth ls 8)) M)), (330, f_pl [(4466, 12, 123), (0, 0, 0), (1, 0, 0), (0, 0, 0), (0, 0, 0), (0, 0, 0), (0, 0, 0), (0, 0, 0), (1, 0, 0), (0, 0, 0), (0, 0, 0)] [] (fun ls st M => k330 (f_vi (f_nth ls 2)) (f_vi (f_nth ls 8)) M))]) C qX12_auctionf (f_kc_cons (f_pl_ok rfl (fun ls st M h => h339 _ _ M h)) (f_kc_cons (f_pl_ok rfl (fun ls st M h => h330 _ _ M h)) f_kc_nil)) 225 173 h
set_option maxRecDepth 20000 in
theorem BX12_auction_330 {sh : Nat → Nat × Nat} {t : Nat} {rm : Nat × Nat × Nat} {cs : Nat × Nat} {R : f_Rt} {c_X12_rankAt : Int → Int → e_M → (Int → Prop) → Prop} {c_X12_isAble : Int → Int → e_M → (Int → Prop) → Prop} {c_X12_id : Int → Int → e_M → (Int → Prop) → Prop} {c_X12_isBarred : Int → Int → e_M → (Int → Prop) → Prop} {c_X12_gets : Int → Int → Int → e_M → (e_M → Prop) → Prop} {c_X12_keeps : Int → e_M → (e_M → Prop) → Prop} {c_X12_offCharge : Int → Int → e_M → (e_M → Prop) → Prop} {c_X12_endCharge : Int → e_M → (e_M → Prop) → Prop} {c_X12_isThere : Int → Int → Int → e_M → (Int → Prop) → Prop} {c_X12_offLot : Int → Int → e_M → (e_M → Prop) → Prop} {c_X12_placeOn : Int → Int → e_M → (Int → Prop) → Prop} {k291 : Int → Int → e_M → Prop} {x2 : Int} {x8 : Int} {M : e_M} (C : f_Hy sh t yX12_auction rm cs 10 (lX12_auction c_X12_rankAt c_X12_isAble c_X12_id c_X12_isBarred c_X12_gets c_X12_keeps c_X12_offCharge c_X12_endCharge c_X12_isThere c_X12_offLot c_X12_placeOn) R) (h291 : ∀ (x2 : Int) (x8 : Int) (M : e_M), k291 x2 x8 M → f_E sh t YX12_auction rm cs (f_Q sh t R) 291 [.inr (.inr (.inl (12, 123, 4456))), .inr (.inr (.inr ())), .inl x2, .inr (.inr (.inr ())), .inr (.inr (.inr ())), .inr (.inr (.inr ())), .inr (.inr (.inr ())), .inr (.inr (.inr ())), .inl x8, .inr (.inr (.inr ())), .inr (.inr (.inr ()))] [] M) (h : VX12_auction_330 c_X12_rankAt c_X12_isAble c_X12_id c_X12_isBarred c_X12_gets c_X12_keeps c_X12_offCharge c_X12_endCharge c_X12_isThere c_X12_offLot c_X12_placeOn k291 (fun r M => R (some (.inl r)) M) x2 x8 M) : f_E sh t YX12_auction rm cs (f_Q sh t R) 330 [.inr (.inr (.inl (12, 123, 4456))), .inr (.inr (.inr ())), .inl x2, .inr (.inr (.inr ())), .inr (.inr (.inr ())), .inr (.inr (.inr ())), .inr (.inr (.inr ())), .inr (.inr (.inr ())), .inl x8, .inr (.inr (.inr ())), .inr (.inr (.inr ()))] [] M :=
  f_go (KC := f_kc [(291, f_pl [(4466, 12, 123), (0, 0, 0), (1, 0, 0), (0, 0, 0), (0, 0, 0), (0, 0, 0), (0, 0, 0), (0, 0, 0), (1, 0, 0), (0, 0, 0), (0, 0, 0)] [] (fun ls st M => k291 (f_vi (f_nth ls 2)) (f_vi (f_nth ls 8)) M))]) C qX12_auctionf (f_kc_cons (f_pl_ok rfl (fun ls st M h => h291 _ _ M h)) f_kc_nil) 225 193 h
set_option maxRecDepth 20000 in
theorem BX12_auction_339 {sh : Nat → Nat × Nat} {t : Nat} {rm : Nat × Nat × Nat} {cs : Nat × Nat} {R : f_Rt} {c_X12_rankAt : Int → Int → e_M → (Int → Prop) → Prop} {c_X12_isAble : Int → Int → e_M → (Int → Prop) → Prop} {c_X12_id : Int → Int → e_M → (Int → Prop) → Prop} {c_X12_isBarred : Int → Int → e_M → (Int → Prop) → Prop} {c_X12_gets : Int → Int → Int → e_M → (e_M → Prop) → Prop} {c_X12_keeps : Int → e_M → (e_M → Prop) → Prop} {c_X12_offCharge : Int → Int → e_M → (e_M → Prop) → Prop} {c_X12_endCharge : Int → e_M → (e_M → Prop) → Prop} {c_X12_isThere : Int → Int → Int → e_M → (Int → Prop) → Prop} {c_X12_offLot : Int → Int → e_M → (e_M → Prop) → Prop} {c_X12_placeOn : Int → Int → e_M → (Int → Prop) → Prop} {k376 : Int → Int → e_M → Prop} {x2 : Int} {x8 : Int} {M : e_M} (C : f_Hy sh t yX12_auction rm cs 10 (lX12_auction c_X12_rankAt c_X12_isAble c_X12_id c_X12_isBarred c_X12_gets c_X12_keeps c_X12_offCharge c_X12_endCharge c_X12_isThere c_X12_offLot c_X12_placeOn) R) (h376 : ∀ (x2 : Int) (x8 : Int) (M : e_M), k376 x2 x8 M → f_E sh t YX12_auction rm cs (f_Q sh t R) 376 [.inr (.inr (.inl (12, 123, 4456))), .inr (.inr (.inr ())), .inl x2, .inr (.inr (.inr ())), .inr (.inr (.inr ())), .inr (.inr (.inr ())), .inr (.inr (.inr ())), .inr (.inr (.inr ())), .inl x8, .inr (.inr (.inr ())), .inr (.inr (.inr ()))] [] M) (h : VX12_auction_339 c_X12_rankAt c_X12_isAble c_X12_id c_X12_isBarred c_X12_gets c_X12_keeps c_X12_offCharge c_X12_endCharge c_X12_isThere c_X12_offLot c_X12_placeOn k376 (fun r M => R (some (.inl r)) M) x2 x8 M) : f_E sh t YX12_auction rm cs (f_Q sh t R) 339 [.inr (.inr (.inl (12, 123, 4456))), .inr (.inr (.inr ())), .inl x2, .inr (.inr (.inr ())), .inr (.inr (.inr ())), .inr (.inr (.inr ())), .inr (.inr (.inr ())), .inr (.inr (.inr ())), .inl x8, .inr (.inr (.inr ())), .inr (.inr (.inr ()))] [] M :=
  f_go (KC := f_kc [(376, f_pl [(4466, 12, 123), (0, 0, 0), (1, 0, 0), (0, 0, 0), (0, 0, 0), (0, 0, 0), (0, 0, 0), (0, 0, 0), (1, 0, 0), (0, 0, 0), (0, 0, 0)] [] (fun ls st M => k376 (f_vi (f_nth ls 2)) (f_vi (f_nth ls 8)) M))]) C qX12_auctionf (f_kc_cons (f_pl_ok rfl (fun ls st M h => h376 _ _ M h)) f_kc_nil) 225 198 h
set_option maxRecDepth 20000 in
theorem BX12_auction_376 {sh : Nat → Nat × Nat} {t : Nat} {rm : Nat × Nat × Nat} {cs : Nat × Nat} {R : f_Rt} {c_X12_rankAt : Int → Int → e_M → (Int → Prop) → Prop} {c_X12_isAble : Int → Int → e_M → (Int → Prop) → Prop} {c_X12_id : Int → Int → e_M → (Int → Prop) → Prop} {c_X12_isBarred : Int → Int → e_M → (Int → Prop) → Prop} {c_X12_gets : Int → Int → Int → e_M → (e_M → Prop) → Prop} {c_X12_keeps : Int → e_M → (e_M → Prop) → Prop} {c_X12_offCharge : Int → Int → e_M → (e_M → Prop) → Prop} {c_X12_endCharge : Int → e_M → (e_M → Prop) → Prop} {c_X12_isThere : Int → Int → Int → e_M → (Int → Prop) → Prop} {c_X12_offLot : Int → Int → e_M → (e_M → Prop) → Prop} {c_X12_placeOn : Int → Int → e_M → (Int → Prop) → Prop} {k339 : Int → Int → e_M → Prop} {x2 : Int} {x8 : Int} {M : e_M} (C : f_Hy sh t yX12_auction rm cs 10 (lX12_auction c_X12_rankAt c_X12_isAble c_X12_id c_X12_isBarred c_X12_gets c_X12_keeps c_X12_offCharge c_X12_endCharge c_X12_isThere c_X12_offLot c_X12_placeOn) R) (h339 : ∀ (x2 : Int) (x8 : Int) (M : e_M), k339 x2 x8 M → f_E sh t YX12_auction rm cs (f_Q sh t R) 339 [.inr (.inr (.inl (12, 123, 4456))), .inr (.inr (.inr ())), .inl x2, .inr (.inr (.inr ())), .inr (.inr (.inr ())), .inr (.inr (.inr ())), .inr (.inr (.inr ())), .inr (.inr (.inr ())), .inl x8, .inr (.inr (.inr ())), .inr (.inr (.inr ()))] [] M) (h : VX12_auction_376 c_X12_rankAt c_X12_isAble c_X12_id c_X12_isBarred c_X12_gets c_X12_keeps c_X12_offCharge c_X12_endCharge c_X12_isThere c_X12_offLot c_X12_placeOn k339 (fun r M => R (some (.inl r)) M) x2 x8 M) : f_E sh t YX12_auction rm cs (f_Q sh t R) 376 [.inr (.inr (.inl (12, 123, 4456))), .inr (.inr (.inr ())), .inl x2, .inr (.inr (.inr ())), .inr (.inr (.inr ())), .inr (.inr (.inr ())), .inr (.inr (.inr ())), .inr (.inr (.inr ())), .inl x8, .inr (.inr (.inr ())), .inr (.inr (.inr ()))] [] M :=
  f_go (KC := f_kc [(339, f_pl [(4466, 12, 123), (0, 0, 0), (1, 0, 0), (0, 0, 0), (0, 0, 0), (0, 0, 0), (0, 0, 0), (0, 0, 0), (1, 0, 0), (0, 0, 0), (0, 0, 0)] [] (fun ls st M => k339 (f_vi (f_nth ls 2)) (f_vi (f_nth ls 8)) M))]) C qX12_auctionf (f_kc_cons (f_pl_ok rfl (fun ls st M h => h339 _ _ M h)) f_kc_nil) 225 219 h
set_option maxRecDepth 20000 in
theorem BX12_auction {sh : Nat → Nat × Nat} {t : Nat} {rm : Nat × Nat × Nat} {cs : Nat × Nat} {R : f_Rt} {c_X12_rankAt : Int → Int → e_M → (Int → Prop) → Prop} {c_X12_isAble : Int → Int → e_M → (Int → Prop) → Prop} {c_X12_id : Int → Int → e_M → (Int → Prop) → Prop} {c_X12_isBarred : Int → Int → e_M → (Int → Prop) → Prop} {c_X12_gets : Int → Int → Int → e_M → (e_M → Prop) → Prop} {c_X12_keeps : Int → e_M → (e_M → Prop) → Prop} {c_X12_offCharge : Int → Int → e_M → (e_M → Prop) → Prop} {c_X12_endCharge : Int → e_M → (e_M → Prop) → Prop} {c_X12_isThere : Int → Int → Int → e_M → (Int → Prop) → Prop} {c_X12_offLot : Int → Int → e_M → (e_M → Prop) → Prop} {c_X12_placeOn : Int → Int → e_M → (Int → Prop) → Prop} {k135 : Int → Int → Int → Int → e_M → Prop} {x1 : Int} {M : e_M} (C : f_Hy sh t yX12_auction rm cs 10 (lX12_auction c_X12_rankAt c_X12_isAble c_X12_id c_X12_isBarred c_X12_gets c_X12_keeps c_X12_offCharge c_X12_endCharge c_X12_isThere c_X12_offLot c_X12_placeOn) R) (h135 : ∀ (x2 : Int) (x5 : Int) (x6 : Int) (x7 : Int) (M : e_M), k135 x2 x5 x6 x7 M → f_E sh t YX12_auction rm cs (f_Q sh t R) 135 [.inr (.inr (.inl (12, 123, 4456))), .inr (.inr (.inr ())), .inl x2, .inr (.inr (.inr ())), .inr (.inr (.inr ())), .inl x5, .inl x6, .inl x7, .inr (.inr (.inr ())), .inr (.inr (.inr ())), .inr (.inr (.inr ()))] [] M) (h : VX12_auction c_X12_rankAt c_X12_isAble c_X12_id c_X12_isBarred c_X12_gets c_X12_keeps c_X12_offCharge c_X12_endCharge c_X12_isThere c_X12_offLot c_X12_placeOn k135 (fun r M => R (some (.inl r)) M) x1 M) : f_E sh t YX12_auction rm cs (f_Q sh t R) 0 [.inr (.inr (.inl (12, 123, 4456))), .inl x1, .inr (.inr (.inr ())), .inr (.inr (.inr ())), .inr (.inr (.inr ())), .inr (.inr (.inr ())), .inr (.inr (.inr ())), .inr (.inr (.inr ())), .inr (.inr (.inr ())), .inr (.inr (.inr ())), .inr (.inr (.inr ()))] [] M :=
  f_go (KC := f_kc [(135, f_pl [(4466, 12, 123), (0, 0, 0), (1, 0, 0), (0, 0, 0), (0, 0, 0), (1, 0, 0), (1, 0, 0), (1, 0, 0), (0, 0, 0), (0, 0, 0), (0, 0, 0)] [] (fun ls st M => k135 (f_vi (f_nth ls 2)) (f_vi (f_nth ls 5)) (f_vi (f_nth ls 6)) (f_vi (f_nth ls 7)) M))]) C qX12_auctionf (f_kc_cons (f_pl_ok rfl (fun ls st M h => h135 _ _ _ _ M h)) f_kc_nil) 225 0 h
def WX12_auction_376 (H339 : Int → Int → e_M → Prop) (Q : Int → e_M → Prop) (x2 : Int) (x8 : Int) (M : e_M) : Prop :=
  VX12_auction_376 WX12_rankAt WX12_isAble WX12_id WX12_isBarred WX12_gets WX12_keeps WX12_offCharge WX12_endCharge WX12_isThere WX12_offLot WX12_placeOn H339 Q x2 x8 M
def WX12_auction_339 (Q : Int → e_M → Prop) : Nat → Int → Int → e_M → Prop
  | 0, _, _, _ => False
  | n + 1, x2, x8, M =>
    VX12_auction_339 WX12_rankAt WX12_isAble WX12_id WX12_isBarred WX12_gets WX12_keeps WX12_offCharge WX12_endCharge WX12_isThere WX12_offLot WX12_placeOn (WX12_auction_376 (WX12_auction_339 Q n) Q) Q x2 x8 M
def WX12_auction_330 (H291 : Int → Int → e_M → Prop) (Q : Int → e_M → Prop) (x2 : Int) (x8 : Int) (M : e_M) : Prop :=
  VX12_auction_330 WX12_rankAt WX12_isAble WX12_id WX12_isBarred WX12_gets WX12_keeps WX12_offCharge WX12_endCharge WX12_isThere WX12_offLot WX12_placeOn H291 Q x2 x8 M
def WX12_auction_291 (Q : Int → e_M → Prop) : Nat → Int → Int → e_M → Prop
  | 0, _, _, _ => False
  | n + 1, x2, x8, M =>
    VX12_auction_291 WX12_rankAt WX12_isAble WX12_id WX12_isBarred WX12_gets WX12_keeps WX12_offCharge WX12_endCharge WX12_isThere WX12_offLot WX12_placeOn (fun x2 x8 M => ∃ j, WX12_auction_339 Q j x2 x8 M) (WX12_auction_330 (WX12_auction_291 Q n) Q) Q x2 x8 M
def WX12_auction_282 (H230 : Int → Int → Int → e_M → Prop) (Q : Int → e_M → Prop) (x2 : Int) (x7 : Int) (x8 : Int) (M : e_M) : Prop :=
  VX12_auction_282 WX12_rankAt WX12_isAble WX12_id WX12_isBarred WX12_gets WX12_keeps WX12_offCharge WX12_endCharge WX12_isThere WX12_offLot WX12_placeOn H230 Q x2 x7 x8 M
def WX12_auction_230 (Q : Int → e_M → Prop) : Nat → Int → Int → Int → e_M → Prop
  | 0, _, _, _, _ => False
  | n + 1, x2, x7, x8, M =>
    VX12_auction_230 WX12_rankAt WX12_isAble WX12_id WX12_isBarred WX12_gets WX12_keeps WX12_offCharge WX12_endCharge WX12_isThere WX12_offLot WX12_placeOn (fun x2 x8 M => ∃ j, WX12_auction_291 Q j x2 x8 M) (WX12_auction_282 (WX12_auction_230 Q n) Q) Q x2 x7 x8 M
def WX12_auction_224 (H135 : Int → Int → Int → Int → e_M → Prop) (Q : Int → e_M → Prop) (x2 : Int) (x5 : Int) (x6 : Int) (x7 : Int) (M : e_M) : Prop :=
  VX12_auction_224 WX12_rankAt WX12_isAble WX12_id WX12_isBarred WX12_gets WX12_keeps WX12_offCharge WX12_endCharge WX12_isThere WX12_offLot WX12_placeOn H135 Q x2 x5 x6 x7 M
def WX12_auction_135 (Q : Int → e_M → Prop) : Nat → Int → Int → Int → Int → e_M → Prop
  | 0, _, _, _, _, _ => False
  | n + 1, x2, x5, x6, x7, M =>
    VX12_auction_135 WX12_rankAt WX12_isAble WX12_id WX12_isBarred WX12_gets WX12_keeps WX12_offCharge WX12_endCharge WX12_isThere WX12_offLot WX12_placeOn (fun x2 x7 x8 M => ∃ j, WX12_auction_230 Q j x2 x7 x8 M) (WX12_auction_224 (WX12_auction_135 Q n) Q) Q x2 x5 x6 x7 M
def WX12_auction (x1 : Int) (M : e_M) (Q : Int → e_M → Prop) : Prop :=
  VX12_auction WX12_rankAt WX12_isAble WX12_id WX12_isBarred WX12_gets WX12_keeps WX12_offCharge WX12_endCharge WX12_isThere WX12_offLot WX12_placeOn (fun x2 x5 x6 x7 M => ∃ j, WX12_auction_135 Q j x2 x5 x6 x7 M) Q x1 M
theorem PX12_auction_376 {sh : Nat → Nat × Nat} {t : Nat} {rm : Nat × Nat × Nat} {cs : Nat × Nat} {R : f_Rt} {H339 : Int → Int → e_M → Prop} {x2 : Int} {x8 : Int} {M : e_M} (C : f_Hy sh t yX12_auction rm cs 10 (lX12_auction WX12_rankAt WX12_isAble WX12_id WX12_isBarred WX12_gets WX12_keeps WX12_offCharge WX12_endCharge WX12_isThere WX12_offLot WX12_placeOn) R) (g339 : ∀ (x2 : Int) (x8 : Int) (M : e_M), H339 x2 x8 M → f_E sh t YX12_auction rm cs (f_Q sh t R) 339 [.inr (.inr (.inl (12, 123, 4456))), .inr (.inr (.inr ())), .inl x2, .inr (.inr (.inr ())), .inr (.inr (.inr ())), .inr (.inr (.inr ())), .inr (.inr (.inr ())), .inr (.inr (.inr ())), .inl x8, .inr (.inr (.inr ())), .inr (.inr (.inr ()))] [] M) (h : WX12_auction_376 H339 (fun r M => R (some (.inl r)) M) x2 x8 M) : f_E sh t YX12_auction rm cs (f_Q sh t R) 376 [.inr (.inr (.inl (12, 123, 4456))), .inr (.inr (.inr ())), .inl x2, .inr (.inr (.inr ())), .inr (.inr (.inr ())), .inr (.inr (.inr ())), .inr (.inr (.inr ())), .inr (.inr (.inr ())), .inl x8, .inr (.inr (.inr ())), .inr (.inr (.inr ()))] [] M :=
  BX12_auction_376 C g339 h
theorem PX12_auction_339 {sh : Nat → Nat × Nat} {t : Nat} {rm : Nat × Nat × Nat} {cs : Nat × Nat} {R : f_Rt} (C : f_Hy sh t yX12_auction rm cs 10 (lX12_auction WX12_rankAt WX12_isAble WX12_id WX12_isBarred WX12_gets WX12_keeps WX12_offCharge WX12_endCharge WX12_isThere WX12_offLot WX12_placeOn) R) : ∀ (n : Nat) (x2 : Int) (x8 : Int) (M : e_M), WX12_auction_339 (fun r M => R (some (.inl r)) M) n x2 x8 M → f_E sh t YX12_auction rm cs (f_Q sh t R) 339 [.inr (.inr (.inl (12, 123, 4456))), .inr (.inr (.inr ())), .inl x2, .inr (.inr (.inr ())), .inr (.inr (.inr ())), .inr (.inr (.inr ())), .inr (.inr (.inr ())), .inr (.inr (.inr ())), .inl x8, .inr (.inr (.inr ())), .inr (.inr (.inr ()))] [] M := by
  intro n
  induction n with
  | zero => intro x2 x8 M h; exact h.elim
  | succ n ih => intro x2 x8 M h; exact BX12_auction_339 C (fun x2 x8 M h => PX12_auction_376 C ih h) h
theorem PX12_auction_330 {sh : Nat → Nat × Nat} {t : Nat} {rm : Nat × Nat × Nat} {cs : Nat × Nat} {R : f_Rt} {H291 : Int → Int → e_M → Prop} {x2 : Int} {x8 : Int} {M : e_M} (C : f_Hy sh t yX12_auction rm cs 10 (lX12_auction WX12_rankAt WX12_isAble WX12_id WX12_isBarred WX12_gets WX12_keeps WX12_offCharge WX12_endCharge WX12_isThere WX12_offLot WX12_placeOn) R) (g291 : ∀ (x2 : Int) (x8 : Int) (M : e_M), H291 x2 x8 M → f_E sh t YX12_auction rm cs (f_Q sh t R) 291 [.inr (.inr (.inl (12, 123, 4456))), .inr (.inr (.inr ())), .inl x2, .inr (.inr (.inr ())), .inr (.inr (.inr ())), .inr (.inr (.inr ())), .inr (.inr (.inr ())), .inr (.inr (.inr ())), .inl x8, .inr (.inr (.inr ())), .inr (.inr (.inr ()))] [] M) (h : WX12_auction_330 H291 (fun r M => R (some (.inl r)) M) x2 x8 M) : f_E sh t YX12_auction rm cs (f_Q sh t R) 330 [.inr (.inr (.inl (12, 123, 4456))), .inr (.inr (.inr ())), .inl x2, .inr (.inr (.inr ())), .inr (.inr (.inr ())), .inr (.inr (.inr ())), .inr (.inr (.inr ())), .inr (.inr (.inr ())), .inl x8, .inr (.inr (.inr ())), .inr (.inr (.inr ()))] [] M :=
  BX12_auction_330 C g291 h
theorem PX12_auction_291 {sh : Nat → Nat × Nat} {t : Nat} {rm : Nat × Nat × Nat} {cs : Nat × Nat} {R : f_Rt} (C : f_Hy sh t yX12_auction rm cs 10 (lX12_auction WX12_rankAt WX12_isAble WX12_id WX12_isBarred WX12_gets WX12_keeps WX12_offCharge WX12_endCharge WX12_isThere WX12_offLot WX12_placeOn) R) : ∀ (n : Nat) (x2 : Int) (x8 : Int) (M : e_M), WX12_auction_291 (fun r M => R (some (.inl r)) M) n x2 x8 M → f_E sh t YX12_auction rm cs (f_Q sh t R) 291 [.inr (.inr (.inl (12, 123, 4456))), .inr (.inr (.inr ())), .inl x2, .inr (.inr (.inr ())), .inr (.inr (.inr ())), .inr (.inr (.inr ())), .inr (.inr (.inr ())), .inr (.inr (.inr ())), .inl x8, .inr (.inr (.inr ())), .inr (.inr (.inr ()))] [] M := by
  intro n
  induction n with
  | zero => intro x2 x8 M h; exact h.elim
  | succ n ih => intro x2 x8 M h; exact BX12_auction_291 C (fun x2 x8 M ⟨j, h⟩ => PX12_auction_339 C j _ _ _ h) (fun x2 x8 M h => PX12_auction_330 C ih h) h
theorem PX12_auction_282 {sh : Nat → Nat × Nat} {t : Nat} {rm : Nat × Nat × Nat} {cs : Nat × Nat} {R : f_Rt} {H230 : Int → Int → Int → e_M → Prop} {x2 : Int} {x7 : Int} {x8 : Int} {M : e_M} (C : f_Hy sh t yX12_auction rm cs 10 (lX12_auction WX12_rankAt WX12_isAble WX12_id WX12_isBarred WX12_gets WX12_keeps WX12_offCharge WX12_endCharge WX12_isThere WX12_offLot WX12_placeOn) R) (g230 : ∀ (x2 : Int) (x7 : Int) (x8 : Int) (M : e_M), H230 x2 x7 x8 M → f_E sh t YX12_auction rm cs (f_Q sh t R) 230 [.inr (.inr (.inl (12, 123, 4456))), .inr (.inr (.inr ())), .inl x2, .inr (.inr (.inr ())), .inr (.inr (.inr ())), .inr (.inr (.inr ())), .inr (.inr (.inr ())), .inl x7, .inl x8, .inr (.inr (.inr ())), .inr (.inr (.inr ()))] [] M) (h : WX12_auction_282 H230 (fun r M => R (some (.inl r)) M) x2 x7 x8 M) : f_E sh t YX12_auction rm cs (f_Q sh t R) 282 [.inr (.inr (.inl (12, 123, 4456))), .inr (.inr (.inr ())), .inl x2, .inr (.inr (.inr ())), .inr (.inr (.inr ())), .inr (.inr (.inr ())), .inr (.inr (.inr ())), .inl x7, .inl x8, .inr (.inr (.inr ())), .inr (.inr (.inr ()))] [] M :=
  BX12_auction_282 C g230 h
theorem PX12_auction_230 {sh : Nat → Nat × Nat} {t : Nat} {rm : Nat × Nat × Nat} {cs : Nat × Nat} {R : f_Rt} (C : f_Hy sh t yX12_auction rm cs 10 (lX12_auction WX12_rankAt WX12_isAble WX12_id WX12_isBarred WX12_gets WX12_keeps WX12_offCharge WX12_endCharge WX12_isThere WX12_offLot WX12_placeOn) R) : ∀ (n : Nat) (x2 : Int) (x7 : Int) (x8 : Int) (M : e_M), WX12_auction_230 (fun r M => R (some (.inl r)) M) n x2 x7 x8 M → f_E sh t YX12_auction rm cs (f_Q sh t R) 230 [.inr (.inr (.inl (12, 123, 4456))), .inr (.inr (.inr ())), .inl x2, .inr (.inr (.inr ())), .inr (.inr (.inr ())), .inr (.inr (.inr ())), .inr (.inr (.inr ())), .inl x7, .inl x8, .inr (.inr (.inr ())), .inr (.inr (.inr ()))] [] M := by
  intro n
  induction n with
  | zero => intro x2 x7 x8 M h; exact h.elim
  | succ n ih => intro x2 x7 x8 M h; exact BX12_auction_230 C (fun x2 x8 M ⟨j, h⟩ => PX12_auction_291 C j _ _ _ h) (fun x2 x7 x8 M h => PX12_auction_282 C ih h) h
theorem PX12_auction_224 {sh : Nat → Nat × Nat} {t : Nat} {rm : Nat × Nat × Nat} {cs : Nat × Nat} {R : f_Rt} {H135 : Int → Int → Int → Int → e_M → Prop} {x2 : Int} {x5 : Int} {x6 : Int} {x7 : Int} {M : e_M} (C : f_Hy sh t yX12_auction rm cs 10 (lX12_auction WX12_rankAt WX12_isAble WX12_id WX12_isBarred WX12_gets WX12_keeps WX12_offCharge WX12_endCharge WX12_isThere WX12_offLot WX12_placeOn) R) (g135 : ∀ (x2 : Int) (x5 : Int) (x6 : Int) (x7 : Int) (M : e_M), H135 x2 x5 x6 x7 M → f_E sh t YX12_auction rm cs (f_Q sh t R) 135 [.inr (.inr (.inl (12, 123, 4456))), .inr (.inr (.inr ())), .inl x2, .inr (.inr (.inr ())), .inr (.inr (.inr ())), .inl x5, .inl x6, .inl x7, .inr (.inr (.inr ())), .inr (.inr (.inr ())), .inr (.inr (.inr ()))] [] M) (h : WX12_auction_224 H135 (fun r M => R (some (.inl r)) M) x2 x5 x6 x7 M) : f_E sh t YX12_auction rm cs (f_Q sh t R) 224 [.inr (.inr (.inl (12, 123, 4456))), .inr (.inr (.inr ())), .inl x2, .inr (.inr (.inr ())), .inr (.inr (.inr ())), .inl x5, .inl x6, .inl x7, .inr (.inr (.inr ())), .inr (.inr (.inr ())), .inr (.inr (.inr ()))] [] M :=
  BX12_auction_224 C g135 h
theorem PX12_auction_135 {sh : Nat → Nat × Nat} {t : Nat} {rm : Nat × Nat × Nat} {cs : Nat × Nat} {R : f_Rt} (C : f_Hy sh t yX12_auction rm cs 10 (lX12_auction WX12_rankAt WX12_isAble WX12_id WX12_isBarred WX12_gets WX12_keeps WX12_offCharge WX12_endCharge WX12_isThere WX12_offLot WX12_placeOn) R) : ∀ (n : Nat) (x2 : Int) (x5 : Int) (x6 : Int) (x7 : Int) (M : e_M), WX12_auction_135 (fun r M => R (some (.inl r)) M) n x2 x5 x6 x7 M → f_E sh t YX12_auction rm cs (f_Q sh t R) 135 [.inr (.inr (.inl (12, 123, 4456))), .inr (.inr (.inr ())), .inl x2, .inr (.inr (.inr ())), .inr (.inr (.inr ())), .inl x5, .inl x6, .inl x7, .inr (.inr (.inr ())), .inr (.inr (.inr ())), .inr (.inr (.inr ()))] [] M := by
  intro n
  induction n with
  | zero => intro x2 x5 x6 x7 M h; exact h.elim
  | succ n ih => intro x2 x5 x6 x7 M h; exact BX12_auction_135 C (fun x2 x7 x8 M ⟨j, h⟩ => PX12_auction_230 C j _ _ _ _ h) (fun x2 x5 x6 x7 M h => PX12_auction_224 C ih h) h
theorem PX12_auction {sh : Nat → Nat × Nat} {t : Nat} {rm : Nat × Nat × Nat} {cs : Nat × Nat} {R : f_Rt} {x1 : Int} {M : e_M} (C : f_Hy sh t yX12_auction rm cs 10 (lX12_auction WX12_rankAt WX12_isAble WX12_id WX12_isBarred WX12_gets WX12_keeps WX12_offCharge WX12_endCharge WX12_isThere WX12_offLot WX12_placeOn) R) (h : WX12_auction x1 M (fun r M => R (some (.inl r)) M)) : f_E sh t YX12_auction rm cs (f_Q sh t R) 0 [.inr (.inr (.inl (12, 123, 4456))), .inl x1, .inr (.inr (.inr ())), .inr (.inr (.inr ())), .inr (.inr (.inr ())), .inr (.inr (.inr ())), .inr (.inr (.inr ())), .inr (.inr (.inr ())), .inr (.inr (.inr ())), .inr (.inr (.inr ())), .inr (.inr (.inr ()))] [] M :=
  BX12_auction C (fun x2 x5 x6 x7 M ⟨j, h⟩ => PX12_auction_135 C j _ _ _ _ _ h) h
def wX12_auction : f_Wt := f_wm [(4466, 12, 123), (1, 0, 0)] (fun ar M R => WX12_auction (f_vi (f_nth ar 1)) M (fun r M => R (some (.inl r)) M))
theorem TX12_auction {sh : Nat → Nat × Nat} {t : Nat} : f_Mt sh t YX12_auction 10 (wX12_auction) :=
  f_Mt_of (k := 9) (Nat.le_of_ble_eq_true rfl) rfl rfl (fun ar M R rm cs h1 h2 h3 hX h => PX12_auction ⟨Nat.le_of_ble_eq_true rfl, h1, h2, h3, ⟨(f_Mt.up (Nat.le_of_ble_eq_true rfl) TX12_rankAt), (f_Mt.up (Nat.le_of_ble_eq_true rfl) TX12_isAble), (f_Mt.up (Nat.le_of_ble_eq_true rfl) TX12_id), (f_Mt.up (Nat.le_of_ble_eq_true rfl) TX12_isBarred), (f_Mt.up (Nat.le_of_ble_eq_true rfl) TX12_gets), (f_Mt.up (Nat.le_of_ble_eq_true rfl) TX12_keeps), (f_Mt.up (Nat.le_of_ble_eq_true rfl) TX12_offCharge), (f_Mt.up (Nat.le_of_ble_eq_true rfl) TX12_endCharge), (f_Mt.up (Nat.le_of_ble_eq_true rfl) TX12_isThere), (f_Mt.up (Nat.le_of_ble_eq_true rfl) TX12_offLot), (f_Mt.up (Nat.le_of_ble_eq_true rfl) TX12_placeOn), trivial⟩, hX⟩ h)
def VX12_serve_46 (c_X12_areAble : Int → e_M → (Int → Prop) → Prop) (c_X12_isBarred : Int → Int → e_M → (Int → Prop) → Prop) (c_X12_lieAt : Int → Int → Int → Int → Int → e_M → (Int → Prop) → Prop) (c_X12_full : Int → Int → e_M → (Int → Prop) → Prop) (c_X12_make : Int → Int → e_M → (Int → e_M → Prop) → Prop) (c_X12_id : Int → Int → e_M → (Int → Prop) → Prop) (c_X12_inOn : Int → Int → Int → e_M → (e_M → Prop) → Prop) (c_X12_inOf : Int → Int → Int → e_M → (e_M → Prop) → Prop) (k250 : Int → Int → Int → e_M → Prop) (k88 : Int → Int → Int → Int → Int → Int → Int → e_M → Prop) (Q : Int → e_M → Prop) (x1 : Int) (x2 : Int) (x3 : Int) (x4 : Int) (M : e_M) : Prop :=
  ((0 ≤ x1 ∧ x1 < 152) ∧ (((M 4474 (x1.toNat)) ≤ x4 → (c_X12_full 3 1 M (fun r1 => ((r1 = 0 → ((0 ≤ (e_w32 ((10 : Int) * x1)) ∧ (e_w32 ((10 : Int) * x1)) < 1520) ∧ (c_X12_make 3 (M 4467 ((e_w32 ((10 : Int) * x1)).toNat)) M (fun r2 M3 => (c_X12_id 3 r2 M3 (fun r4 => ((0 ≤ x1 ∧ x1 < 152) ∧ ((0 ≤ r4 ∧ r4 < 560) ∧ (∀ M5 : e_M, M5 = e_up M3 4491 (r4.toNat) (M3 4466 (x1.toNat)) → (c_X12_inOn r4 0 x3 M5 (fun M6 => (c_X12_inOf r4 0 x2 M6 (fun M7 => ((0 ≤ x1 ∧ x1 < 152) ∧ ((0 ≤ r2 ∧ r2 < 80) ∧ (∀ M8 : e_M, M8 = e_up M7 4503 (r2.toNat) (M7 4474 (x1.toNat)) → (k250 x1 r2 0 M8))))))))))))))))) ∧ (¬ r1 = 0 → (Q 7 M)))))) ∧ (x4 < (M 4474 (x1.toNat)) → ((0 ≤ (e_w32 ((e_w32 ((12 : Int) * x1)) + x4)) ∧ (e_w32 ((e_w32 ((12 : Int) * x1)) + x4)) < 1824) ∧ (∀ y9 : Int, y9 = M 4475 ((e_w32 ((e_w32 ((12 : Int) * x1)) + x4)).toNat) → ((0 ≤ (e_w32 ((e_w32 ((12 : Int) * x1)) + x4)) ∧ (e_w32 ((e_w32 ((12 : Int) * x1)) + x4)) < 1824) ∧ (∀ y10 : Int, y10 = M 4476 ((e_w32 ((e_w32 ((12 : Int) * x1)) + x4)).toNat) → (k88 x1 x2 x3 x4 y9 y10 0 M))))))))
def VX12_serve_88 (c_X12_areAble : Int → e_M → (Int → Prop) → Prop) (c_X12_isBarred : Int → Int → e_M → (Int → Prop) → Prop) (c_X12_lieAt : Int → Int → Int → Int → Int → e_M → (Int → Prop) → Prop) (c_X12_full : Int → Int → e_M → (Int → Prop) → Prop) (c_X12_make : Int → Int → e_M → (Int → e_M → Prop) → Prop) (c_X12_id : Int → Int → e_M → (Int → Prop) → Prop) (c_X12_inOn : Int → Int → Int → e_M → (e_M → Prop) → Prop) (c_X12_inOf : Int → Int → Int → e_M → (e_M → Prop) → Prop) (k46 : Int → Int → Int → Int → e_M → Prop) (k131 : Int → Int → Int → Int → Int → Int → Int → e_M → Prop) (Q : Int → e_M → Prop) (x1 : Int) (x2 : Int) (x3 : Int) (x4 : Int) (x5 : Int) (x6 : Int) (x7 : Int) (M : e_M) : Prop :=
  ((x4 ≤ x7 → ((0 ≤ x3 ∧ x3 < 80) ∧ (c_X12_lieAt (e_w32 ((40 : Int) * x3)) (M 4496 (x3.toNat)) x5 x6 1 M (fun r1 => ((¬ r1 = 0 → (k46 x1 x2 x3 (e_w32 (x4 + 1)) M)) ∧ (r1 = 0 → (Q 3 M))))))) ∧ (x7 < x4 → ((0 ≤ (e_w32 ((e_w32 ((12 : Int) * x1)) + x7)) ∧ (e_w32 ((e_w32 ((12 : Int) * x1)) + x7)) < 1824) ∧ ((¬ (M 4475 ((e_w32 ((e_w32 ((12 : Int) * x1)) + x7)).toNat)) = x5 → (k131 x1 x2 x3 x4 x5 x6 x7 M)) ∧ ((M 4475 ((e_w32 ((e_w32 ((12 : Int) * x1)) + x7)).toNat)) = x5 → ((0 ≤ (e_w32 ((e_w32 ((12 : Int) * x1)) + x7)) ∧ (e_w32 ((e_w32 ((12 : Int) * x1)) + x7)) < 1824) ∧ ((¬ (M 4476 ((e_w32 ((e_w32 ((12 : Int) * x1)) + x7)).toNat)) = x6 → (k131 x1 x2 x3 x4 x5 x6 x7 M)) ∧ ((M 4476 ((e_w32 ((e_w32 ((12 : Int) * x1)) + x7)).toNat)) = x6 → (Q 3 M)))))))))
def VX12_serve_131 (c_X12_areAble : Int → e_M → (Int → Prop) → Prop) (c_X12_isBarred : Int → Int → e_M → (Int → Prop) → Prop) (c_X12_lieAt : Int → Int → Int → Int → Int → e_M → (Int → Prop) → Prop) (c_X12_full : Int → Int → e_M → (Int → Prop) → Prop) (c_X12_make : Int → Int → e_M → (Int → e_M → Prop) → Prop) (c_X12_id : Int → Int → e_M → (Int → Prop) → Prop) (c_X12_inOn : Int → Int → Int → e_M → (e_M → Prop) → Prop) (c_X12_inOf : Int → Int → Int → e_M → (e_M → Prop) → Prop) (k88 : Int → Int → Int → Int → Int → Int → Int → e_M → Prop) (Q : Int → e_M → Prop) (x1 : Int) (x2 : Int) (x3 : Int) (x4 : Int) (x5 : Int) (x6 : Int) (x7 : Int) (M : e_M) : Prop :=
  (k88 x1 x2 x3 x4 x5 x6 (e_w32 (x7 + 1)) M)
def VX12_serve_250 (c_X12_areAble : Int → e_M → (Int → Prop) → Prop) (c_X12_isBarred : Int → Int → e_M → (Int → Prop) → Prop) (c_X12_lieAt : Int → Int → Int → Int → Int → e_M → (Int → Prop) → Prop) (c_X12_full : Int → Int → e_M → (Int → Prop) → Prop) (c_X12_make : Int → Int → e_M → (Int → e_M → Prop) → Prop) (c_X12_id : Int → Int → e_M → (Int → Prop) → Prop) (c_X12_inOn : Int → Int → Int → e_M → (e_M → Prop) → Prop) (c_X12_inOf : Int → Int → Int → e_M → (e_M → Prop) → Prop) (k250 : Int → Int → Int → e_M → Prop) (Q : Int → e_M → Prop) (x1 : Int) (x4 : Int) (x6 : Int) (M : e_M) : Prop :=
  ((0 ≤ x1 ∧ x1 < 152) ∧ (((M 4474 (x1.toNat)) ≤ x6 → (Q 0 M)) ∧ (x6 < (M 4474 (x1.toNat)) → ((0 ≤ (e_w32 ((e_w32 ((12 : Int) * x1)) + x6)) ∧ (e_w32 ((e_w32 ((12 : Int) * x1)) + x6)) < 1824) ∧ ((0 ≤ (e_w32 ((e_w32 ((12 : Int) * x4)) + x6)) ∧ (e_w32 ((e_w32 ((12 : Int) * x4)) + x6)) < 960) ∧ (∀ M1 : e_M, M1 = e_up M 4504 ((e_w32 ((e_w32 ((12 : Int) * x4)) + x6)).toNat) (M 4475 ((e_w32 ((e_w32 ((12 : Int) * x1)) + x6)).toNat)) → ((0 ≤ (e_w32 ((e_w32 ((12 : Int) * x1)) + x6)) ∧ (e_w32 ((e_w32 ((12 : Int) * x1)) + x6)) < 1824) ∧ ((0 ≤ (e_w32 ((e_w32 ((12 : Int) * x4)) + x6)) ∧ (e_w32 ((e_w32 ((12 : Int) * x4)) + x6)) < 960) ∧ (∀ M2 : e_M, M2 = e_up M1 4505 ((e_w32 ((e_w32 ((12 : Int) * x4)) + x6)).toNat) (M1 4476 ((e_w32 ((e_w32 ((12 : Int) * x1)) + x6)).toNat)) → (k250 x1 x4 (e_w32 (x6 + 1)) M2))))))))))
def VX12_serve (c_X12_areAble : Int → e_M → (Int → Prop) → Prop) (c_X12_isBarred : Int → Int → e_M → (Int → Prop) → Prop) (c_X12_lieAt : Int → Int → Int → Int → Int → e_M → (Int → Prop) → Prop) (c_X12_full : Int → Int → e_M → (Int → Prop) → Prop) (c_X12_make : Int → Int → e_M → (Int → e_M → Prop) → Prop) (c_X12_id : Int → Int → e_M → (Int → Prop) → Prop) (c_X12_inOn : Int → Int → Int → e_M → (e_M → Prop) → Prop) (c_X12_inOf : Int → Int → Int → e_M → (e_M → Prop) → Prop) (k46 : Int → Int → Int → Int → e_M → Prop) (Q : Int → e_M → Prop) (x1 : Int) (M : e_M) : Prop :=
  ((0 ≤ (1 : Int) ∧ (1 : Int) < 10) ∧ ((0 ≤ (2 : Int) ∧ (2 : Int) < 10) ∧ ((¬ (M 4520 ((1 : Int).toNat)) = (M 4520 ((2 : Int).toNat)) → (c_X12_areAble (M 4520 ((2 : Int).toNat)) M (fun r1 => ((¬ r1 = 0 → (c_X12_isBarred (M 4520 ((2 : Int).toNat)) (-1) M (fun r2 => ((r2 = 0 → (k46 x1 (M 4520 ((1 : Int).toNat)) (M 4520 ((2 : Int).toNat)) 0 M)) ∧ (¬ r2 = 0 → (Q 4 M)))))) ∧ (r1 = 0 → (Q 2 M)))))) ∧ ((M 4520 ((1 : Int).toNat)) = (M 4520 ((2 : Int).toNat)) → (Q 9 M)))))
def yX12_serve (i : Nat) : e_Y := x_get YX12_serve [YX12_areAble, YX12_isBarred, YX12_lieAt, YX12_full, YX12_make, YX12_id, YX12_inOn, YX12_inOf] i
def pX12_servef : List x_I := [(0, 4, 1, 0, 0, 0, []), (1, 25, 12, 91, 4, 0, [(0, 20, 10), (0, 1, 64)]), (4, 0, 1, 0, 0, 1, []), (5, 27, 0, 0, 0, 0, []), (6, 5, 1, 2, 0, 0, []), (7, 4, 1, 0, 0, 0, []), (8, 25, 12, 91, 4, 0, [(0, 20, 10), (0, 1, 64)]), (11, 0, 1, 0, 0, 2, []), (12, 27, 0, 0, 0, 0, []), (13, 5, 1, 3, 0, 0, []), (14, 2, 1, 2, 0, 0, []), (15, 2, 1, 3, 0, 0, []), (16, 18, 22, 1, 16, 0, []), (19, 0, 2, 0, 0, 9, []), (21, 41, 0, 0, 0, 0, []), (22, 4, 1, 0, 0, 0, []), (23, 2, 1, 3, 0, 0, []), (24, 40, 0, 2, 14, 0, []), (27, 17, 32, 1, 22, 0, []), (30, 0, 1, 0, 0, 2, []), (31, 41, 0, 0, 0, 0, []), (32, 4, 1, 0, 0, 0, []), (33, 2, 1, 3, 0, 0, []), (34, 0, 1, 0, 0, (-1), []), (35, 40, 1, 3, 14, 0, []), (38, 17, 43, 0, 29, 0, []), (41, 0, 1, 0, 0, 4, []), (42, 41, 0, 0, 0, 0, []), (43, 0, 1, 0, 0, 0, []), (44, 5, 2, 4, 0, 0, []), (46, 49, 0, 0, 0, 0, []), (46, 2, 2, 4, 0, 0, []), (48, 4, 1, 0, 0, 0, []), (49, 25, 12, 27, 4, 0, [(0, 20, 152), (0, 1, 18)]), (52, 2, 1, 1, 0, 0, []), (53, 27, 0, 0, 0, 0, []), (54, 18, 169, 3, 108, 0, []), (57, 4, 1, 0, 0, 0, []), (58, 25, 12, 28, 4, 0, [(0, 20, 1824), (0, 1, 19)]), (61, 0, 2, 0, 0, 12, []), (63, 2, 1, 1, 0, 0, []), (64, 9, 0, 2, 0, 0, []), (65, 2, 2, 4, 0, 0, []), (67, 9, 0, 0, 0, 0, []), (68, 27, 0, 0, 0, 0, []), (69, 33, 0, 0, 0, 0, []), (69, 5, 2, 5, 0, 0, []), (71, 4, 1, 0, 0, 0, []), (72, 25, 12, 29, 4, 0, [(0, 20, 1824), (0, 1, 20)]), (75, 0, 2, 0, 0, 12, []), (77, 2, 1, 1, 0, 0, []), (78, 9, 0, 2, 0, 0, []), (79, 2, 2, 4, 0, 0, []), (81, 9, 0, 0, 0, 0, []), (82, 27, 0, 0, 0, 0, []), (83, 33, 0, 0, 0, 0, []), (83, 5, 2, 6, 0, 0, []), (85, 0, 1, 0, 0, 0, []), (86, 5, 2, 7, 0, 0, []), (88, 49, 0, 0, 0, 0, []), (88, 2, 2, 7, 0, 0, []), (90, 2, 2, 4, 0, 0, []), (92, 18, 137, 3, 89, 0, []), (95, 4, 1, 0, 0, 0, []), (96, 25, 12, 28, 4, 0, [(0, 20, 1824), (0, 1, 19)]), (99, 0, 2, 0, 0, 12, []), (101, 2, 1, 1, 0, 0, []), (102, 9, 0, 2, 0, 0, []), (103, 2, 2, 7, 0, 0, []), (105, 9, 0, 0, 0, 0, []), (106, 27, 0, 0, 0, 0, []), (107, 2, 2, 5, 0, 0, []), (109, 18, 131, 1, 86, 0, []), (112, 4, 1, 0, 0, 0, []), (113, 25, 12, 29, 4, 0, [(0, 20, 1824), (0, 1, 20)]), (116, 0, 2, 0, 0, 12, []), (118, 2, 1, 1, 0, 0, []), (119, 9, 0, 2, 0, 0, []), (120, 2, 2, 7, 0, 0, []), (122, 9, 0, 0, 0, 0, []), (123, 27, 0, 0, 0, 0, []), (124, 2, 2, 6, 0, 0, []), (126, 18, 131, 1, 86, 0, []), (129, 0, 1, 0, 0, 3, []), (130, 41, 0, 0, 0, 0, []), (131, 49, 0, 0, 0, 0, []), (131, 8, 0, 7, 0, 1, []), (134, 19, 88, 0, 60, 0, []), (137, 4, 1, 0, 0, 0, []), (138, 0, 2, 0, 0, 40, []), (140, 2, 1, 3, 0, 0, []), (141, 9, 0, 2, 0, 0, []), (142, 4, 1, 0, 0, 0, []), (143, 25, 12, 63, 4, 0, [(0, 20, 80), (0, 1, 40)]), (146, 2, 1, 3, 0, 0, []), (147, 27, 0, 0, 0, 0, []), (148, 2, 2, 5, 0, 0, []), (150, 14, 0, 0, 0, 0, []), (151, 2, 2, 6, 0, 0, []), (153, 14, 0, 0, 0, 0, []), (154, 0, 1, 0, 0, 1, []), (155, 40, 2, 6, 14, 0, []), (158, 17, 163, 1, 106, 0, []), (161, 0, 1, 0, 0, 3, []), (162, 41, 0, 0, 0, 0, []), (163, 8, 0, 4, 0, 1, []), (166, 19, 46, 0, 31, 0, []), (169, 4, 1, 0, 0, 0, []), (170, 0, 1, 0, 0, 3, []), (171, 0, 1, 0, 0, 1, []), (172, 40, 3, 3, 14, 0, []), (175, 17, 181, 0, 115, 0, []), (178, 0, 2, 0, 0, 7, []), (180, 41, 0, 0, 0, 0, []), (181, 4, 1, 0, 0, 0, []), (182, 0, 1, 0, 0, 3, []), (183, 4, 1, 0, 0, 0, []), (184, 25, 12, 20, 4, 0, [(0, 23, 1520), (0, 1, 11)]), (187, 0, 2, 0, 0, 10, []), (189, 2, 1, 1, 0, 0, []), (190, 9, 0, 2, 0, 0, []), (191, 27, 0, 1, 0, 0, []), (192, 40, 4, 3, 14, 0, []), (195, 5, 2, 4, 0, 0, []), (197, 0, 1, 0, 0, 3, []), (198, 2, 2, 4, 0, 0, []), (200, 40, 5, 2, 0, 0, []), (203, 5, 2, 5, 0, 0, []), (205, 4, 1, 0, 0, 0, []), (206, 25, 12, 58, 4, 0, [(0, 20, 560), (0, 1, 35)]), (209, 2, 2, 5, 0, 0, []), (211, 4, 1, 0, 0, 0, []), (212, 25, 12, 19, 4, 0, [(0, 20, 152), (0, 1, 10)]), (215, 2, 1, 1, 0, 0, []), (216, 27, 0, 0, 0, 0, []), (217, 28, 0, 0, 0, 0, []), (218, 4, 1, 0, 0, 0, []), (219, 2, 2, 5, 0, 0, []), (221, 0, 1, 0, 0, 0, []), (222, 2, 1, 3, 0, 0, []), (223, 40, 6, 4, 14, 0, []), (226, 4, 1, 0, 0, 0, []), (227, 2, 2, 5, 0, 0, []), (229, 0, 1, 0, 0, 0, []), (230, 2, 1, 2, 0, 0, []), (231, 40, 7, 4, 14, 0, []), (234, 4, 1, 0, 0, 0, []), (235, 25, 12, 70, 4, 0, [(0, 20, 80), (0, 1, 47)]), (238, 2, 2, 4, 0, 0, []), (240, 4, 1, 0, 0, 0, []), (241, 25, 12, 27, 4, 0, [(0, 20, 152), (0, 1, 18)]), (244, 2, 1, 1, 0, 0, []), (245, 27, 0, 0, 0, 0, []), (246, 28, 0, 0, 0, 0, []), (247, 0, 1, 0, 0, 0, []), (248, 5, 2, 6, 0, 0, []), (250, 49, 0, 0, 0, 0, []), (250, 2, 2, 6, 0, 0, []), (252, 4, 1, 0, 0, 0, []), (253, 25, 12, 27, 4, 0, [(0, 20, 152), (0, 1, 18)]), (256, 2, 1, 1, 0, 0, []), (257, 27, 0, 0, 0, 0, []), (258, 18, 317, 3, 198, 0, []), (261, 4, 1, 0, 0, 0, []), (262, 25, 12, 71, 4, 0, [(0, 20, 960), (0, 1, 48)]), (265, 0, 2, 0, 0, 12, []), (267, 2, 2, 4, 0, 0, []), (269, 9, 0, 2, 0, 0, []), (270, 2, 2, 6, 0, 0, []), (272, 9, 0, 0, 0, 0, []), (273, 4, 1, 0, 0, 0, []), (274, 25, 12, 28, 4, 0, [(0, 20, 1824), (0, 1, 19)]), (277, 0, 2, 0, 0, 12, []), (279, 2, 1, 1, 0, 0, []), (280, 9, 0, 2, 0, 0, []), (281, 2, 2, 6, 0, 0, []), (283, 9, 0, 0, 0, 0, []), (284, 27, 0, 0, 0, 0, []), (285, 28, 0, 0, 0, 0, []), (286, 4, 1, 0, 0, 0, []), (287, 25, 12, 72, 4, 0, [(0, 20, 960), (0, 1, 49)]), (290, 0, 2, 0, 0, 12, []), (292, 2, 2, 4, 0, 0, []), (294, 9, 0, 2, 0, 0, []), (295, 2, 2, 6, 0, 0, []), (297, 9, 0, 0, 0, 0, []), (298, 4, 1, 0, 0, 0, []), (299, 25, 12, 29, 4, 0, [(0, 20, 1824), (0, 1, 20)]), (302, 0, 2, 0, 0, 12, []), (304, 2, 1, 1, 0, 0, []), (305, 9, 0, 2, 0, 0, []), (306, 2, 2, 6, 0, 0, []), (308, 9, 0, 0, 0, 0, []), (309, 27, 0, 0, 0, 0, []), (310, 28, 0, 0, 0, 0, []), (311, 8, 0, 6, 0, 1, []), (314, 19, 250, 0, 157, 0, []), (317, 0, 1, 0, 0, 0, []), (318, 41, 0, 0, 0, 0, [])]
set_option maxRecDepth 20000 in
theorem qX12_servef : f_all yX12_serve YX12_serve pX12_servef :=
  ⟨f_aload_n (n := 0) (e_dx DX12_serve_0 0 rfl) rfl,
  f_getA (e_dx DX12_serve_0 1 rfl) fX12_202 rfl (by decide) (Nat.le_of_ble_eq_true rfl) rfl (by decide),
  f_iconst (e_dx DX12_serve_0 2 rfl) ⟨by decide, by decide⟩,
  f_iaload (e_dx DX12_serve_0 3 rfl),
  f_istore_n (n := 2) (e_dx DX12_serve_0 4 rfl) rfl (by decide),
  f_aload_n (n := 0) (e_dx DX12_serve_0 5 rfl) rfl,
  f_getA (e_dx DX12_serve_0 6 rfl) fX12_202 rfl (by decide) (Nat.le_of_ble_eq_true rfl) rfl (by decide),
  f_iconst (e_dx DX12_serve_0 7 rfl) ⟨by decide, by decide⟩,
  f_iaload (e_dx DX12_serve_0 8 rfl),
  f_istore_n (n := 3) (e_dx DX12_serve_0 9 rfl) rfl (by decide),
  f_iload_n (n := 2) (e_dx DX12_serve_0 10 rfl) rfl,
  f_iload_n (n := 3) (e_dx DX12_serve_0 11 rfl) rfl,
  f_icmp_ne (e_dx DX12_serve_0 12 rfl) rfl,
  f_bipush (e_dx DX12_serve_0 13 rfl) ⟨by decide, by decide⟩,
  ⟨(e_dx DX12_serve_0 14 rfl), rfl⟩,
  f_aload_n (n := 0) (e_dx DX12_serve_0 15 rfl) rfl,
  f_iload_n (n := 3) (e_dx DX12_serve_0 16 rfl) rfl,
  x_callV (e_dx DX12_serve_0 17 rfl) mwX12_areAble vwX12_areAble cX12_707 rfl,
  f_if_ne (e_dx DX12_serve_0 18 rfl) rfl,
  f_iconst (e_dx DX12_serve_0 19 rfl) ⟨by decide, by decide⟩,
  ⟨(e_dx DX12_serve_0 20 rfl), rfl⟩,
  f_aload_n (n := 0) (e_dx DX12_serve_0 21 rfl) rfl,
  f_iload_n (n := 3) (e_dx DX12_serve_0 22 rfl) rfl,
  f_iconst (e_dx DX12_serve_0 23 rfl) ⟨by decide, by decide⟩,
  x_callV (e_dx DX12_serve_0 24 rfl) mwX12_isBarred vwX12_isBarred cX12_698 rfl,
  f_if_eq (e_dx DX12_serve_0 25 rfl) rfl,
  f_iconst (e_dx DX12_serve_0 26 rfl) ⟨by decide, by decide⟩,
  ⟨(e_dx DX12_serve_0 27 rfl), rfl⟩,
  f_iconst (e_dx DX12_serve_0 28 rfl) ⟨by decide, by decide⟩,
  f_istore (e_dx DX12_serve_0 29 rfl) (by decide),
  trivial,
  f_iload (e_dx DX12_serve_0 30 rfl),
  f_aload_n (n := 0) (e_dx DX12_serve_0 31 rfl) rfl,
  f_getA (e_dx DX12_serve_0 32 rfl) fX12_63 rfl (by decide) (Nat.le_of_ble_eq_true rfl) rfl (by decide),
  f_iload_n (n := 1) (e_dx DX12_serve_0 33 rfl) rfl,
  f_iaload (e_dx DX12_serve_0 34 rfl),
  f_icmp_ge (e_dx DX12_serve_0 35 rfl) rfl,
  f_aload_n (n := 0) (e_dx DX12_serve_0 36 rfl) rfl,
  f_getA (e_dx DX12_serve_0 37 rfl) fX12_66 rfl (by decide) (Nat.le_of_ble_eq_true rfl) rfl (by decide),
  f_bipush (e_dx DX12_serve_0 38 rfl) ⟨by decide, by decide⟩,
  f_iload_n (n := 1) (e_dx DX12_serve_0 39 rfl) rfl,
  f_imul (e_dx DX12_serve_1 0 rfl),
  f_iload (e_dx DX12_serve_1 1 rfl),
  f_iadd (e_dx DX12_serve_1 2 rfl),
  f_iaload (e_dx DX12_serve_1 3 rfl),
  f_g33,
  f_istore (e_dx DX12_serve_1 4 rfl) (by decide),
  f_aload_n (n := 0) (e_dx DX12_serve_1 5 rfl) rfl,
  f_getA (e_dx DX12_serve_1 6 rfl) fX12_69 rfl (by decide) (Nat.le_of_ble_eq_true rfl) rfl (by decide),
  f_bipush (e_dx DX12_serve_1 7 rfl) ⟨by decide, by decide⟩,
  f_iload_n (n := 1) (e_dx DX12_serve_1 8 rfl) rfl,
  f_imul (e_dx DX12_serve_1 9 rfl),
  f_iload (e_dx DX12_serve_1 10 rfl),
  f_iadd (e_dx DX12_serve_1 11 rfl),
  f_iaload (e_dx DX12_serve_1 12 rfl),
  f_g33,
  f_istore (e_dx DX12_serve_1 13 rfl) (by decide),
  f_iconst (e_dx DX12_serve_1 14 rfl) ⟨by decide, by decide⟩,
  f_istore (e_dx DX12_serve_1 15 rfl) (by decide),
  trivial,
  f_iload (e_dx DX12_serve_1 16 rfl),
  f_iload (e_dx DX12_serve_1 17 rfl),
  f_icmp_ge (e_dx DX12_serve_1 18 rfl) rfl,
  f_aload_n (n := 0) (e_dx DX12_serve_1 19 rfl) rfl,
  f_getA (e_dx DX12_serve_1 20 rfl) fX12_66 rfl (by decide) (Nat.le_of_ble_eq_true rfl) rfl (by decide),
  f_bipush (e_dx DX12_serve_1 21 rfl) ⟨by decide, by decide⟩,
  f_iload_n (n := 1) (e_dx DX12_serve_1 22 rfl) rfl,
  f_imul (e_dx DX12_serve_1 23 rfl),
  f_iload (e_dx DX12_serve_1 24 rfl),
  f_iadd (e_dx DX12_serve_1 25 rfl),
  f_iaload (e_dx DX12_serve_1 26 rfl),
  f_iload (e_dx DX12_serve_1 27 rfl),
  f_icmp_ne (e_dx DX12_serve_1 28 rfl) rfl,
  f_aload_n (n := 0) (e_dx DX12_serve_1 29 rfl) rfl,
  f_getA (e_dx DX12_serve_1 30 rfl) fX12_69 rfl (by decide) (Nat.le_of_ble_eq_true rfl) rfl (by decide),
  f_bipush (e_dx DX12_serve_1 31 rfl) ⟨by decide, by decide⟩,
  f_iload_n (n := 1) (e_dx DX12_serve_1 32 rfl) rfl,
  f_imul (e_dx DX12_serve_1 33 rfl),
  f_iload (e_dx DX12_serve_1 34 rfl),
  f_iadd (e_dx DX12_serve_1 35 rfl),
  f_iaload (e_dx DX12_serve_1 36 rfl),
  f_iload (e_dx DX12_serve_1 37 rfl),
  f_icmp_ne (e_dx DX12_serve_1 38 rfl) rfl,
  f_iconst (e_dx DX12_serve_1 39 rfl) ⟨by decide, by decide⟩,
  ⟨(e_dx DX12_serve_2 0 rfl), rfl⟩,
  trivial,
  f_g8 (e_dx DX12_serve_2 1 rfl) ⟨by decide, by decide⟩,
  f_g19 (e_dx DX12_serve_2 2 rfl) rfl,
  f_aload_n (n := 0) (e_dx DX12_serve_2 3 rfl) rfl,
  f_bipush (e_dx DX12_serve_2 4 rfl) ⟨by decide, by decide⟩,
  f_iload_n (n := 3) (e_dx DX12_serve_2 5 rfl) rfl,
  f_imul (e_dx DX12_serve_2 6 rfl),
  f_aload_n (n := 0) (e_dx DX12_serve_2 7 rfl) rfl,
  f_getA (e_dx DX12_serve_2 8 rfl) fX12_130 rfl (by decide) (Nat.le_of_ble_eq_true rfl) rfl (by decide),
  f_iload_n (n := 3) (e_dx DX12_serve_2 9 rfl) rfl,
  f_iaload (e_dx DX12_serve_2 10 rfl),
  f_iload (e_dx DX12_serve_2 11 rfl),
  f_g14 (e_dx DX12_serve_2 12 rfl),
  f_iload (e_dx DX12_serve_2 13 rfl),
  f_g14 (e_dx DX12_serve_2 14 rfl),
  f_iconst (e_dx DX12_serve_2 15 rfl) ⟨by decide, by decide⟩,
  x_callV (e_dx DX12_serve_2 16 rfl) mwX12_lieAt vwX12_lieAt cX12_452 rfl,
  f_if_ne (e_dx DX12_serve_2 17 rfl) rfl,
  f_iconst (e_dx DX12_serve_2 18 rfl) ⟨by decide, by decide⟩,
  ⟨(e_dx DX12_serve_2 19 rfl), rfl⟩,
  f_g8 (e_dx DX12_serve_2 20 rfl) ⟨by decide, by decide⟩,
  f_g19 (e_dx DX12_serve_2 21 rfl) rfl,
  f_aload_n (n := 0) (e_dx DX12_serve_2 22 rfl) rfl,
  f_iconst (e_dx DX12_serve_2 23 rfl) ⟨by decide, by decide⟩,
  f_iconst (e_dx DX12_serve_2 24 rfl) ⟨by decide, by decide⟩,
  x_callV (e_dx DX12_serve_2 25 rfl) mwX12_full vwX12_full cX12_660 rfl,
  f_if_eq (e_dx DX12_serve_2 26 rfl) rfl,
  f_bipush (e_dx DX12_serve_2 27 rfl) ⟨by decide, by decide⟩,
  ⟨(e_dx DX12_serve_2 28 rfl), rfl⟩,
  f_aload_n (n := 0) (e_dx DX12_serve_2 29 rfl) rfl,
  f_iconst (e_dx DX12_serve_2 30 rfl) ⟨by decide, by decide⟩,
  f_aload_n (n := 0) (e_dx DX12_serve_2 31 rfl) rfl,
  f_getA (e_dx DX12_serve_2 32 rfl) fX12_42 rfl (by decide) (Nat.le_of_ble_eq_true rfl) rfl (by decide),
  f_bipush (e_dx DX12_serve_2 33 rfl) ⟨by decide, by decide⟩,
  f_iload_n (n := 1) (e_dx DX12_serve_2 34 rfl) rfl,
  f_imul (e_dx DX12_serve_2 35 rfl),
  f_laload (e_dx DX12_serve_2 36 rfl),
  x_callV (e_dx DX12_serve_2 37 rfl) mwX12_make vwX12_make cX12_534 rfl,
  f_istore (e_dx DX12_serve_2 38 rfl) (by decide),
  f_iconst (e_dx DX12_serve_2 39 rfl) ⟨by decide, by decide⟩,
  f_iload (e_dx DX12_serve_3 0 rfl),
  x_callS (e_dx DX12_serve_3 1 rfl) mwX12_id cX12_540 swX12_id rfl,
  f_istore (e_dx DX12_serve_3 2 rfl) (by decide),
  f_aload_n (n := 0) (e_dx DX12_serve_3 3 rfl) rfl,
  f_getA (e_dx DX12_serve_3 4 rfl) fX12_115 rfl (by decide) (Nat.le_of_ble_eq_true rfl) rfl (by decide),
  f_iload (e_dx DX12_serve_3 5 rfl),
  f_aload_n (n := 0) (e_dx DX12_serve_3 6 rfl) rfl,
  f_getA (e_dx DX12_serve_3 7 rfl) fX12_39 rfl (by decide) (Nat.le_of_ble_eq_true rfl) rfl (by decide),
  f_iload_n (n := 1) (e_dx DX12_serve_3 8 rfl) rfl,
  f_iaload (e_dx DX12_serve_3 9 rfl),
  f_iastore (e_dx DX12_serve_3 10 rfl),
  f_aload_n (n := 0) (e_dx DX12_serve_3 11 rfl) rfl,
  f_iload (e_dx DX12_serve_3 12 rfl),
  f_iconst (e_dx DX12_serve_3 13 rfl) ⟨by decide, by decide⟩,
  f_iload_n (n := 3) (e_dx DX12_serve_3 14 rfl) rfl,
  x_callV (e_dx DX12_serve_3 15 rfl) mwX12_inOn vwX12_inOn cX12_720 rfl,
  f_aload_n (n := 0) (e_dx DX12_serve_3 16 rfl) rfl,
  f_iload (e_dx DX12_serve_3 17 rfl),
  f_iconst (e_dx DX12_serve_3 18 rfl) ⟨by decide, by decide⟩,
  f_iload_n (n := 2) (e_dx DX12_serve_3 19 rfl) rfl,
  x_callV (e_dx DX12_serve_3 20 rfl) mwX12_inOf vwX12_inOf cX12_726 rfl,
  f_aload_n (n := 0) (e_dx DX12_serve_3 21 rfl) rfl,
  f_getA (e_dx DX12_serve_3 22 rfl) fX12_151 rfl (by decide) (Nat.le_of_ble_eq_true rfl) rfl (by decide),
  f_iload (e_dx DX12_serve_3 23 rfl),
  f_aload_n (n := 0) (e_dx DX12_serve_3 24 rfl) rfl,
  f_getA (e_dx DX12_serve_3 25 rfl) fX12_63 rfl (by decide) (Nat.le_of_ble_eq_true rfl) rfl (by decide),
  f_iload_n (n := 1) (e_dx DX12_serve_3 26 rfl) rfl,
  f_iaload (e_dx DX12_serve_3 27 rfl),
  f_iastore (e_dx DX12_serve_3 28 rfl),
  f_iconst (e_dx DX12_serve_3 29 rfl) ⟨by decide, by decide⟩,
  f_istore (e_dx DX12_serve_3 30 rfl) (by decide),
  trivial,
  f_iload (e_dx DX12_serve_3 31 rfl),
  f_aload_n (n := 0) (e_dx DX12_serve_3 32 rfl) rfl,
  f_getA (e_dx DX12_serve_3 33 rfl) fX12_63 rfl (by decide) (Nat.le_of_ble_eq_true rfl) rfl (by decide),
  f_iload_n (n := 1) (e_dx DX12_serve_3 34 rfl) rfl,
  f_iaload (e_dx DX12_serve_3 35 rfl),
  f_icmp_ge (e_dx DX12_serve_3 36 rfl) rfl,
  f_aload_n (n := 0) (e_dx DX12_serve_3 37 rfl) rfl,
  f_getA (e_dx DX12_serve_3 38 rfl) fX12_154 rfl (by decide) (Nat.le_of_ble_eq_true rfl) rfl (by decide),
  f_bipush (e_dx DX12_serve_3 39 rfl) ⟨by decide, by decide⟩,
  f_iload (e_dx DX12_serve_4 0 rfl),
  f_imul (e_dx DX12_serve_4 1 rfl),
  f_iload (e_dx DX12_serve_4 2 rfl),
  f_iadd (e_dx DX12_serve_4 3 rfl),
  f_aload_n (n := 0) (e_dx DX12_serve_4 4 rfl) rfl,
  f_getA (e_dx DX12_serve_4 5 rfl) fX12_66 rfl (by decide) (Nat.le_of_ble_eq_true rfl) rfl (by decide),
  f_bipush (e_dx DX12_serve_4 6 rfl) ⟨by decide, by decide⟩,
  f_iload_n (n := 1) (e_dx DX12_serve_4 7 rfl) rfl,
  f_imul (e_dx DX12_serve_4 8 rfl),
  f_iload (e_dx DX12_serve_4 9 rfl),
  f_iadd (e_dx DX12_serve_4 10 rfl),
  f_iaload (e_dx DX12_serve_4 11 rfl),
  f_iastore (e_dx DX12_serve_4 12 rfl),
  f_aload_n (n := 0) (e_dx DX12_serve_4 13 rfl) rfl,
  f_getA (e_dx DX12_serve_4 14 rfl) fX12_157 rfl (by decide) (Nat.le_of_ble_eq_true rfl) rfl (by decide),
  f_bipush (e_dx DX12_serve_4 15 rfl) ⟨by decide, by decide⟩,
  f_iload (e_dx DX12_serve_4 16 rfl),
  f_imul (e_dx DX12_serve_4 17 rfl),
  f_iload (e_dx DX12_serve_4 18 rfl),
  f_iadd (e_dx DX12_serve_4 19 rfl),
  f_aload_n (n := 0) (e_dx DX12_serve_4 20 rfl) rfl,
  f_getA (e_dx DX12_serve_4 21 rfl) fX12_69 rfl (by decide) (Nat.le_of_ble_eq_true rfl) rfl (by decide),
  f_bipush (e_dx DX12_serve_4 22 rfl) ⟨by decide, by decide⟩,
  f_iload_n (n := 1) (e_dx DX12_serve_4 23 rfl) rfl,
  f_imul (e_dx DX12_serve_4 24 rfl),
  f_iload (e_dx DX12_serve_4 25 rfl),
  f_iadd (e_dx DX12_serve_4 26 rfl),
  f_iaload (e_dx DX12_serve_4 27 rfl),
  f_iastore (e_dx DX12_serve_4 28 rfl),
  f_g8 (e_dx DX12_serve_4 29 rfl) ⟨by decide, by decide⟩,
  f_g19 (e_dx DX12_serve_4 30 rfl) rfl,
  f_iconst (e_dx DX12_serve_4 31 rfl) ⟨by decide, by decide⟩,
  ⟨(e_dx DX12_serve_4 32 rfl), rfl⟩, trivial⟩
def lX12_serve (c_X12_areAble : Int → e_M → (Int → Prop) → Prop) (c_X12_isBarred : Int → Int → e_M → (Int → Prop) → Prop) (c_X12_lieAt : Int → Int → Int → Int → Int → e_M → (Int → Prop) → Prop) (c_X12_full : Int → Int → e_M → (Int → Prop) → Prop) (c_X12_make : Int → Int → e_M → (Int → e_M → Prop) → Prop) (c_X12_id : Int → Int → e_M → (Int → Prop) → Prop) (c_X12_inOn : Int → Int → Int → e_M → (e_M → Prop) → Prop) (c_X12_inOf : Int → Int → Int → e_M → (e_M → Prop) → Prop) : List (Nat × f_Wt) := [(0, f_wm [(4466, 12, 123), (1, 0, 0)] (fun ar M R => c_X12_areAble (f_vi (f_nth ar 1)) M (fun r => R (some (.inl r)) M))), (1, f_wm [(4466, 12, 123), (1, 0, 0), (1, 0, 0)] (fun ar M R => c_X12_isBarred (f_vi (f_nth ar 1)) (f_vi (f_nth ar 2)) M (fun r => R (some (.inl r)) M))), (2, f_wm [(4466, 12, 123), (1, 0, 0), (1, 0, 0), (2, 0, 0), (2, 0, 0), (1, 0, 0)] (fun ar M R => c_X12_lieAt (f_vi (f_nth ar 1)) (f_vi (f_nth ar 2)) (f_vi (f_nth ar 3)) (f_vi (f_nth ar 4)) (f_vi (f_nth ar 5)) M (fun r => R (some (.inl r)) M))), (3, f_wm [(4466, 12, 123), (1, 0, 0), (1, 0, 0)] (fun ar M R => c_X12_full (f_vi (f_nth ar 1)) (f_vi (f_nth ar 2)) M (fun r => R (some (.inl r)) M))), (4, f_wm [(4466, 12, 123), (1, 0, 0), (2, 0, 0)] (fun ar M R => c_X12_make (f_vi (f_nth ar 1)) (f_vi (f_nth ar 2)) M (fun r M => R (some (.inl r)) M))), (5, f_wm [(1, 0, 0), (1, 0, 0)] (fun ar M R => c_X12_id (f_vi (f_nth ar 0)) (f_vi (f_nth ar 1)) M (fun r => R (some (.inl r)) M))), (6, f_wm [(4466, 12, 123), (1, 0, 0), (1, 0, 0), (1, 0, 0)] (fun ar M R => c_X12_inOn (f_vi (f_nth ar 1)) (f_vi (f_nth ar 2)) (f_vi (f_nth ar 3)) M (fun M => R none M))), (7, f_wm [(4466, 12, 123), (1, 0, 0), (1, 0, 0), (1, 0, 0)] (fun ar M R => c_X12_inOf (f_vi (f_nth ar 1)) (f_vi (f_nth ar 2)) (f_vi (f_nth ar 3)) M (fun M => R none M)))]
set_option maxRecDepth 20000 in
theorem BX12_serve_46 {sh : Nat → Nat × Nat} {t : Nat} {rm : Nat × Nat × Nat} {cs : Nat × Nat} {R : f_Rt} {c_X12_areAble : Int → e_M → (Int → Prop) → Prop} {c_X12_isBarred : Int → Int → e_M → (Int → Prop) → Prop} {c_X12_lieAt : Int → Int → Int → Int → Int → e_M → (Int → Prop) → Prop} {c_X12_full : Int → Int → e_M → (Int → Prop) → Prop} {c_X12_make : Int → Int → e_M → (Int → e_M → Prop) → Prop} {c_X12_id : Int → Int → e_M → (Int → Prop) → Prop} {c_X12_inOn : Int → Int → Int → e_M → (e_M → Prop) → Prop} {c_X12_inOf : Int → Int → Int → e_M → (e_M → Prop) → Prop} {k250 : Int → Int → Int → e_M → Prop} {k88 : Int → Int → Int → Int → Int → Int → Int → e_M → Prop} {x1 : Int} {x2 : Int} {x3 : Int} {x4 : Int} {M : e_M} (C : f_Hy sh t yX12_serve rm cs 11 (lX12_serve c_X12_areAble c_X12_isBarred c_X12_lieAt c_X12_full c_X12_make c_X12_id c_X12_inOn c_X12_inOf) R) (h250 : ∀ (x1 : Int) (x4 : Int) (x6 : Int) (M : e_M), k250 x1 x4 x6 M → f_E sh t YX12_serve rm cs (f_Q sh t R) 250 [.inr (.inr (.inl (12, 123, 4456))), .inl x1, .inr (.inr (.inr ())), .inr (.inr (.inr ())), .inl x4, .inr (.inr (.inr ())), .inl x6, .inr (.inr (.inr ()))] [] M) (h88 : ∀ (x1 : Int) (x2 : Int) (x3 : Int) (x4 : Int) (x5 : Int) (x6 : Int) (x7 : Int) (M : e_M), k88 x1 x2 x3 x4 x5 x6 x7 M → f_E sh t YX12_serve rm cs (f_Q sh t R) 88 [.inr (.inr (.inl (12, 123, 4456))), .inl x1, .inl x2, .inl x3, .inl x4, .inl x5, .inl x6, .inl x7] [] M) (h : VX12_serve_46 c_X12_areAble c_X12_isBarred c_X12_lieAt c_X12_full c_X12_make c_X12_id c_X12_inOn c_X12_inOf k250 k88 (fun r M => R (some (.inl r)) M) x1 x2 x3 x4 M) : f_E sh t YX12_serve rm cs (f_Q sh t R) 46 [.inr (.inr (.inl (12, 123, 4456))), .inl x1, .inl x2, .inl x3, .inl x4, .inr (.inr (.inr ())), .inr (.inr (.inr ())), .inr (.inr (.inr ()))] [] M :=
  f_go (KC := f_kc [(250, f_pl [(4466, 12, 123), (1, 0, 0), (0, 0, 0), (0, 0, 0), (1, 0, 0), (0, 0, 0), (1, 0, 0), (0, 0, 0)] [] (fun ls st M => k250 (f_vi (f_nth ls 1)) (f_vi (f_nth ls 4)) (f_vi (f_nth ls 6)) M)), (88, f_pl [(4466, 12, 123), (1, 0, 0), (1, 0, 0), (1, 0, 0), (1, 0, 0), (1, 0, 0), (1, 0, 0), (1, 0, 0)] [] (fun ls st M => k88 (f_vi (f_nth ls 1)) (f_vi (f_nth ls 2)) (f_vi (f_nth ls 3)) (f_vi (f_nth ls 4)) (f_vi (f_nth ls 5)) (f_vi (f_nth ls 6)) (f_vi (f_nth ls 7)) M))]) C qX12_servef (f_kc_cons (f_pl_ok rfl (fun ls st M h => h250 _ _ _ M h)) (f_kc_cons (f_pl_ok rfl (fun ls st M h => h88 _ _ _ _ _ _ _ M h)) f_kc_nil)) 201 31 h
set_option maxRecDepth 20000 in
theorem BX12_serve_88 {sh : Nat → Nat × Nat} {t : Nat} {rm : Nat × Nat × Nat} {cs : Nat × Nat} {R : f_Rt} {c_X12_areAble : Int → e_M → (Int → Prop) → Prop} {c_X12_isBarred : Int → Int → e_M → (Int → Prop) → Prop} {c_X12_lieAt : Int → Int → Int → Int → Int → e_M → (Int → Prop) → Prop} {c_X12_full : Int → Int → e_M → (Int → Prop) → Prop} {c_X12_make : Int → Int → e_M → (Int → e_M → Prop) → Prop} {c_X12_id : Int → Int → e_M → (Int → Prop) → Prop} {c_X12_inOn : Int → Int → Int → e_M → (e_M → Prop) → Prop} {c_X12_inOf : Int → Int → Int → e_M → (e_M → Prop) → Prop} {k46 : Int → Int → Int → Int → e_M → Prop} {k131 : Int → Int → Int → Int → Int → Int → Int → e_M → Prop} {x1 : Int} {x2 : Int} {x3 : Int} {x4 : Int} {x5 : Int} {x6 : Int} {x7 : Int} {M : e_M} (C : f_Hy sh t yX12_serve rm cs 11 (lX12_serve c_X12_areAble c_X12_isBarred c_X12_lieAt c_X12_full c_X12_make c_X12_id c_X12_inOn c_X12_inOf) R) (h46 : ∀ (x1 : Int) (x2 : Int) (x3 : Int) (x4 : Int) (M : e_M), k46 x1 x2 x3 x4 M → f_E sh t YX12_serve rm cs (f_Q sh t R) 46 [.inr (.inr (.inl (12, 123, 4456))), .inl x1, .inl x2, .inl x3, .inl x4, .inr (.inr (.inr ())), .inr (.inr (.inr ())), .inr (.inr (.inr ()))] [] M) (h131 : ∀ (x1 : Int) (x2 : Int) (x3 : Int) (x4 : Int) (x5 : Int) (x6 : Int) (x7 : Int) (M : e_M), k131 x1 x2 x3 x4 x5 x6 x7 M → f_E sh t YX12_serve rm cs (f_Q sh t R) 131 [.inr (.inr (.inl (12, 123, 4456))), .inl x1, .inl x2, .inl x3, .inl x4, .inl x5, .inl x6, .inl x7] [] M) (h : VX12_serve_88 c_X12_areAble c_X12_isBarred c_X12_lieAt c_X12_full c_X12_make c_X12_id c_X12_inOn c_X12_inOf k46 k131 (fun r M => R (some (.inl r)) M) x1 x2 x3 x4 x5 x6 x7 M) : f_E sh t YX12_serve rm cs (f_Q sh t R) 88 [.inr (.inr (.inl (12, 123, 4456))), .inl x1, .inl x2, .inl x3, .inl x4, .inl x5, .inl x6, .inl x7] [] M :=
  f_go (KC := f_kc [(46, f_pl [(4466, 12, 123), (1, 0, 0), (1, 0, 0), (1, 0, 0), (1, 0, 0), (0, 0, 0), (0, 0, 0), (0, 0, 0)] [] (fun ls st M => k46 (f_vi (f_nth ls 1)) (f_vi (f_nth ls 2)) (f_vi (f_nth ls 3)) (f_vi (f_nth ls 4)) M)), (131, f_pl [(4466, 12, 123), (1, 0, 0), (1, 0, 0), (1, 0, 0), (1, 0, 0), (1, 0, 0), (1, 0, 0), (1, 0, 0)] [] (fun ls st M => k131 (f_vi (f_nth ls 1)) (f_vi (f_nth ls 2)) (f_vi (f_nth ls 3)) (f_vi (f_nth ls 4)) (f_vi (f_nth ls 5)) (f_vi (f_nth ls 6)) (f_vi (f_nth ls 7)) M))]) C qX12_servef (f_kc_cons (f_pl_ok rfl (fun ls st M h => h46 _ _ _ _ M h)) (f_kc_cons (f_pl_ok rfl (fun ls st M h => h131 _ _ _ _ _ _ _ M h)) f_kc_nil)) 201 60 h
set_option maxRecDepth 20000 in
theorem BX12_serve_131 {sh : Nat → Nat × Nat} {t : Nat} {rm : Nat × Nat × Nat} {cs : Nat × Nat} {R : f_Rt} {c_X12_areAble : Int → e_M → (Int → Prop) → Prop} {c_X12_isBarred : Int → Int → e_M → (Int → Prop) → Prop} {c_X12_lieAt : Int → Int → Int → Int → Int → e_M → (Int → Prop) → Prop} {c_X12_full : Int → Int → e_M → (Int → Prop) → Prop} {c_X12_make : Int → Int → e_M → (Int → e_M → Prop) → Prop} {c_X12_id : Int → Int → e_M → (Int → Prop) → Prop} {c_X12_inOn : Int → Int → Int → e_M → (e_M → Prop) → Prop} {c_X12_inOf : Int → Int → Int → e_M → (e_M → Prop) → Prop} {k88 : Int → Int → Int → Int → Int → Int → Int → e_M → Prop} {x1 : Int} {x2 : Int} {x3 : Int} {x4 : Int} {x5 : Int} {x6 : Int} {x7 : Int} {M : e_M} (C : f_Hy sh t yX12_serve rm cs 11 (lX12_serve c_X12_areAble c_X12_isBarred c_X12_lieAt c_X12_full c_X12_make c_X12_id c_X12_inOn c_X12_inOf) R) (h88 : ∀ (x1 : Int) (x2 : Int) (x3 : Int) (x4 : Int) (x5 : Int) (x6 : Int) (x7 : Int) (M : e_M), k88 x1 x2 x3 x4 x5 x6 x7 M → f_E sh t YX12_serve rm cs (f_Q sh t R) 88 [.inr (.inr (.inl (12, 123, 4456))), .inl x1, .inl x2, .inl x3, .inl x4, .inl x5, .inl x6, .inl x7] [] M) (h : VX12_serve_131 c_X12_areAble c_X12_isBarred c_X12_lieAt c_X12_full c_X12_make c_X12_id c_X12_inOn c_X12_inOf k88 (fun r M => R (some (.inl r)) M) x1 x2 x3 x4 x5 x6 x7 M) : f_E sh t YX12_serve rm cs (f_Q sh t R) 131 [.inr (.inr (.inl (12, 123, 4456))), .inl x1, .inl x2, .inl x3, .inl x4, .inl x5, .inl x6, .inl x7] [] M :=
  f_go (KC := f_kc [(88, f_pl [(4466, 12, 123), (1, 0, 0), (1, 0, 0), (1, 0, 0), (1, 0, 0), (1, 0, 0), (1, 0, 0), (1, 0, 0)] [] (fun ls st M => k88 (f_vi (f_nth ls 1)) (f_vi (f_nth ls 2)) (f_vi (f_nth ls 3)) (f_vi (f_nth ls 4)) (f_vi (f_nth ls 5)) (f_vi (f_nth ls 6)) (f_vi (f_nth ls 7)) M))]) C qX12_servef (f_kc_cons (f_pl_ok rfl (fun ls st M h => h88 _ _ _ _ _ _ _ M h)) f_kc_nil) 201 86 h
set_option maxRecDepth 20000 in
theorem BX12_serve_250 {sh : Nat → Nat × Nat} {t : Nat} {rm : Nat × Nat × Nat} {cs : Nat × Nat} {R : f_Rt} {c_X12_areAble : Int → e_M → (Int → Prop) → Prop} {c_X12_isBarred : Int → Int → e_M → (Int → Prop) → Prop} {c_X12_lieAt : Int → Int → Int → Int → Int → e_M → (Int → Prop) → Prop} {c_X12_full : Int → Int → e_M → (Int → Prop) → Prop} {c_X12_make : Int → Int → e_M → (Int → e_M → Prop) → Prop} {c_X12_id : Int → Int → e_M → (Int → Prop) → Prop} {c_X12_inOn : Int → Int → Int → e_M → (e_M → Prop) → Prop} {c_X12_inOf : Int → Int → Int → e_M → (e_M → Prop) → Prop} {k250 : Int → Int → Int → e_M → Prop} {x1 : Int} {x4 : Int} {x6 : Int} {M : e_M} (C : f_Hy sh t yX12_serve rm cs 11 (lX12_serve c_X12_areAble c_X12_isBarred c_X12_lieAt c_X12_full c_X12_make c_X12_id c_X12_inOn c_X12_inOf) R) (h250 : ∀ (x1 : Int) (x4 : Int) (x6 : Int) (M : e_M), k250 x1 x4 x6 M → f_E sh t YX12_serve rm cs (f_Q sh t R) 250 [.inr (.inr (.inl (12, 123, 4456))), .inl x1, .inr (.inr (.inr ())), .inr (.inr (.inr ())), .inl x4, .inr (.inr (.inr ())), .inl x6, .inr (.inr (.inr ()))] [] M) (h : VX12_serve_250 c_X12_areAble c_X12_isBarred c_X12_lieAt c_X12_full c_X12_make c_X12_id c_X12_inOn c_X12_inOf k250 (fun r M => R (some (.inl r)) M) x1 x4 x6 M) : f_E sh t YX12_serve rm cs (f_Q sh t R) 250 [.inr (.inr (.inl (12, 123, 4456))), .inl x1, .inr (.inr (.inr ())), .inr (.inr (.inr ())), .inl x4, .inr (.inr (.inr ())), .inl x6, .inr (.inr (.inr ()))] [] M :=
  f_go (KC := f_kc [(250, f_pl [(4466, 12, 123), (1, 0, 0), (0, 0, 0), (0, 0, 0), (1, 0, 0), (0, 0, 0), (1, 0, 0), (0, 0, 0)] [] (fun ls st M => k250 (f_vi (f_nth ls 1)) (f_vi (f_nth ls 4)) (f_vi (f_nth ls 6)) M))]) C qX12_servef (f_kc_cons (f_pl_ok rfl (fun ls st M h => h250 _ _ _ M h)) f_kc_nil) 201 157 h
set_option maxRecDepth 20000 in
theorem BX12_serve {sh : Nat → Nat × Nat} {t : Nat} {rm : Nat × Nat × Nat} {cs : Nat × Nat} {R : f_Rt} {c_X12_areAble : Int → e_M → (Int → Prop) → Prop} {c_X12_isBarred : Int → Int → e_M → (Int → Prop) → Prop} {c_X12_lieAt : Int → Int → Int → Int → Int → e_M → (Int → Prop) → Prop} {c_X12_full : Int → Int → e_M → (Int → Prop) → Prop} {c_X12_make : Int → Int → e_M → (Int → e_M → Prop) → Prop} {c_X12_id : Int → Int → e_M → (Int → Prop) → Prop} {c_X12_inOn : Int → Int → Int → e_M → (e_M → Prop) → Prop} {c_X12_inOf : Int → Int → Int → e_M → (e_M → Prop) → Prop} {k46 : Int → Int → Int → Int → e_M → Prop} {x1 : Int} {M : e_M} (C : f_Hy sh t yX12_serve rm cs 11 (lX12_serve c_X12_areAble c_X12_isBarred c_X12_lieAt c_X12_full c_X12_make c_X12_id c_X12_inOn c_X12_inOf) R) (h46 : ∀ (x1 : Int) (x2 : Int) (x3 : Int) (x4 : Int) (M : e_M), k46 x1 x2 x3 x4 M → f_E sh t YX12_serve rm cs (f_Q sh t R) 46 [.inr (.inr (.inl (12, 123, 4456))), .inl x1, .inl x2, .inl x3, .inl x4, .inr (.inr (.inr ())), .inr (.inr (.inr ())), .inr (.inr (.inr ()))] [] M) (h : VX12_serve c_X12_areAble c_X12_isBarred c_X12_lieAt c_X12_full c_X12_make c_X12_id c_X12_inOn c_X12_inOf k46 (fun r M => R (some (.inl r)) M) x1 M) : f_E sh t YX12_serve rm cs (f_Q sh t R) 0 [.inr (.inr (.inl (12, 123, 4456))), .inl x1, .inr (.inr (.inr ())), .inr (.inr (.inr ())), .inr (.inr (.inr ())), .inr (.inr (.inr ())), .inr (.inr (.inr ())), .inr (.inr (.inr ()))] [] M :=
  f_go (KC := f_kc [(46, f_pl [(4466, 12, 123), (1, 0, 0), (1, 0, 0), (1, 0, 0), (1, 0, 0), (0, 0, 0), (0, 0, 0), (0, 0, 0)] [] (fun ls st M => k46 (f_vi (f_nth ls 1)) (f_vi (f_nth ls 2)) (f_vi (f_nth ls 3)) (f_vi (f_nth ls 4)) M))]) C qX12_servef (f_kc_cons (f_pl_ok rfl (fun ls st M h => h46 _ _ _ _ M h)) f_kc_nil) 201 0 h
def WX12_serve_250 (Q : Int → e_M → Prop) : Nat → Int → Int → Int → e_M → Prop
  | 0, _, _, _, _ => False
  | n + 1, x1, x4, x6, M =>
    VX12_serve_250 WX12_areAble WX12_isBarred WX12_lieAt WX12_full WX12_make WX12_id WX12_inOn WX12_inOf (WX12_serve_250 Q n) Q x1 x4 x6 M
def WX12_serve_131 (H46 : Int → Int → Int → Int → e_M → Prop) (H88 : Int → Int → Int → Int → Int → Int → Int → e_M → Prop) (Q : Int → e_M → Prop) (x1 : Int) (x2 : Int) (x3 : Int) (x4 : Int) (x5 : Int) (x6 : Int) (x7 : Int) (M : e_M) : Prop :=
  VX12_serve_131 WX12_areAble WX12_isBarred WX12_lieAt WX12_full WX12_make WX12_id WX12_inOn WX12_inOf H88 Q x1 x2 x3 x4 x5 x6 x7 M
def WX12_serve_88 (H46 : Int → Int → Int → Int → e_M → Prop) (Q : Int → e_M → Prop) : Nat → Int → Int → Int → Int → Int → Int → Int → e_M → Prop
  | 0, _, _, _, _, _, _, _, _ => False
  | n + 1, x1, x2, x3, x4, x5, x6, x7, M =>
    VX12_serve_88 WX12_areAble WX12_isBarred WX12_lieAt WX12_full WX12_make WX12_id WX12_inOn WX12_inOf H46 (WX12_serve_131 H46 (WX12_serve_88 H46 Q n) Q) Q x1 x2 x3 x4 x5 x6 x7 M
def WX12_serve_46 (Q : Int → e_M → Prop) : Nat → Int → Int → Int → Int → e_M → Prop
  | 0, _, _, _, _, _ => False
  | n + 1, x1, x2, x3, x4, M =>
    VX12_serve_46 WX12_areAble WX12_isBarred WX12_lieAt WX12_full WX12_make WX12_id WX12_inOn WX12_inOf (fun x1 x4 x6 M => ∃ j, WX12_serve_250 Q j x1 x4 x6 M) (fun x1 x2 x3 x4 x5 x6 x7 M => ∃ j, WX12_serve_88 (WX12_serve_46 Q n) Q j x1 x2 x3 x4 x5 x6 x7 M) Q x1 x2 x3 x4 M
def WX12_serve (x1 : Int) (M : e_M) (Q : Int → e_M → Prop) : Prop :=
  VX12_serve WX12_areAble WX12_isBarred WX12_lieAt WX12_full WX12_make WX12_id WX12_inOn WX12_inOf (fun x1 x2 x3 x4 M => ∃ j, WX12_serve_46 Q j x1 x2 x3 x4 M) Q x1 M
theorem PX12_serve_250 {sh : Nat → Nat × Nat} {t : Nat} {rm : Nat × Nat × Nat} {cs : Nat × Nat} {R : f_Rt} (C : f_Hy sh t yX12_serve rm cs 11 (lX12_serve WX12_areAble WX12_isBarred WX12_lieAt WX12_full WX12_make WX12_id WX12_inOn WX12_inOf) R) : ∀ (n : Nat) (x1 : Int) (x4 : Int) (x6 : Int) (M : e_M), WX12_serve_250 (fun r M => R (some (.inl r)) M) n x1 x4 x6 M → f_E sh t YX12_serve rm cs (f_Q sh t R) 250 [.inr (.inr (.inl (12, 123, 4456))), .inl x1, .inr (.inr (.inr ())), .inr (.inr (.inr ())), .inl x4, .inr (.inr (.inr ())), .inl x6, .inr (.inr (.inr ()))] [] M := by
  intro n
  induction n with
  | zero => intro x1 x4 x6 M h; exact h.elim
  | succ n ih => intro x1 x4 x6 M h; exact BX12_serve_250 C ih h
theorem PX12_serve_131 {sh : Nat → Nat × Nat} {t : Nat} {rm : Nat × Nat × Nat} {cs : Nat × Nat} {R : f_Rt} {H46 : Int → Int → Int → Int → e_M → Prop} {H88 : Int → Int → Int → Int → Int → Int → Int → e_M → Prop} {x1 : Int} {x2 : Int} {x3 : Int} {x4 : Int} {x5 : Int} {x6 : Int} {x7 : Int} {M : e_M} (C : f_Hy sh t yX12_serve rm cs 11 (lX12_serve WX12_areAble WX12_isBarred WX12_lieAt WX12_full WX12_make WX12_id WX12_inOn WX12_inOf) R) (g46 : ∀ (x1 : Int) (x2 : Int) (x3 : Int) (x4 : Int) (M : e_M), H46 x1 x2 x3 x4 M → f_E sh t YX12_serve rm cs (f_Q sh t R) 46 [.inr (.inr (.inl (12, 123, 4456))), .inl x1, .inl x2, .inl x3, .inl x4, .inr (.inr (.inr ())), .inr (.inr (.inr ())), .inr (.inr (.inr ()))] [] M) (g88 : ∀ (x1 : Int) (x2 : Int) (x3 : Int) (x4 : Int) (x5 : Int) (x6 : Int) (x7 : Int) (M : e_M), H88 x1 x2 x3 x4 x5 x6 x7 M → f_E sh t YX12_serve rm cs (f_Q sh t R) 88 [.inr (.inr (.inl (12, 123, 4456))), .inl x1, .inl x2, .inl x3, .inl x4, .inl x5, .inl x6, .inl x7] [] M) (h : WX12_serve_131 H46 H88 (fun r M => R (some (.inl r)) M) x1 x2 x3 x4 x5 x6 x7 M) : f_E sh t YX12_serve rm cs (f_Q sh t R) 131 [.inr (.inr (.inl (12, 123, 4456))), .inl x1, .inl x2, .inl x3, .inl x4, .inl x5, .inl x6, .inl x7] [] M :=
  BX12_serve_131 C g88 h
theorem PX12_serve_88 {sh : Nat → Nat × Nat} {t : Nat} {rm : Nat × Nat × Nat} {cs : Nat × Nat} {R : f_Rt} {H46 : Int → Int → Int → Int → e_M → Prop} (C : f_Hy sh t yX12_serve rm cs 11 (lX12_serve WX12_areAble WX12_isBarred WX12_lieAt WX12_full WX12_make WX12_id WX12_inOn WX12_inOf) R) (g46 : ∀ (x1 : Int) (x2 : Int) (x3 : Int) (x4 : Int) (M : e_M), H46 x1 x2 x3 x4 M → f_E sh t YX12_serve rm cs (f_Q sh t R) 46 [.inr (.inr (.inl (12, 123, 4456))), .inl x1, .inl x2, .inl x3, .inl x4, .inr (.inr (.inr ())), .inr (.inr (.inr ())), .inr (.inr (.inr ()))] [] M) : ∀ (n : Nat) (x1 : Int) (x2 : Int) (x3 : Int) (x4 : Int) (x5 : Int) (x6 : Int) (x7 : Int) (M : e_M), WX12_serve_88 H46 (fun r M => R (some (.inl r)) M) n x1 x2 x3 x4 x5 x6 x7 M → f_E sh t YX12_serve rm cs (f_Q sh t R) 88 [.inr (.inr (.inl (12, 123, 4456))), .inl x1, .inl x2, .inl x3, .inl x4, .inl x5, .inl x6, .inl x7] [] M := by
  intro n
  induction n with
  | zero => intro x1 x2 x3 x4 x5 x6 x7 M h; exact h.elim
  | succ n ih => intro x1 x2 x3 x4 x5 x6 x7 M h; exact BX12_serve_88 C g46 (fun x1 x2 x3 x4 x5 x6 x7 M h => PX12_serve_131 C g46 ih h) h
theorem PX12_serve_46 {sh : Nat → Nat × Nat} {t : Nat} {rm : Nat × Nat × Nat} {cs : Nat × Nat} {R : f_Rt} (C : f_Hy sh t yX12_serve rm cs 11 (lX12_serve WX12_areAble WX12_isBarred WX12_lieAt WX12_full WX12_make WX12_id WX12_inOn WX12_inOf) R) : ∀ (n : Nat) (x1 : Int) (x2 : Int) (x3 : Int) (x4 : Int) (M : e_M), WX12_serve_46 (fun r M => R (some (.inl r)) M) n x1 x2 x3 x4 M → f_E sh t YX12_serve rm cs (f_Q sh t R) 46 [.inr (.inr (.inl (12, 123, 4456))), .inl x1, .inl x2, .inl x3, .inl x4, .inr (.inr (.inr ())), .inr (.inr (.inr ())), .inr (.inr (.inr ()))] [] M := by
  intro n
  induction n with
  | zero => intro x1 x2 x3 x4 M h; exact h.elim
  | succ n ih => intro x1 x2 x3 x4 M h; exact BX12_serve_46 C (fun x1 x4 x6 M ⟨j, h⟩ => PX12_serve_250 C j _ _ _ _ h) (fun x1 x2 x3 x4 x5 x6 x7 M ⟨j, h⟩ => PX12_serve_88 C ih j _ _ _ _ _ _ _ _ h) h
theorem PX12_serve {sh : Nat → Nat × Nat} {t : Nat} {rm : Nat × Nat × Nat} {cs : Nat × Nat} {R : f_Rt} {x1 : Int} {M : e_M} (C : f_Hy sh t yX12_serve rm cs 11 (lX12_serve WX12_areAble WX12_isBarred WX12_lieAt WX12_full WX12_make WX12_id WX12_inOn WX12_inOf) R) (h : WX12_serve x1 M (fun r M => R (some (.inl r)) M)) : f_E sh t YX12_serve rm cs (f_Q sh t R) 0 [.inr (.inr (.inl (12, 123, 4456))), .inl x1, .inr (.inr (.inr ())), .inr (.inr (.inr ())), .inr (.inr (.inr ())), .inr (.inr (.inr ())), .inr (.inr (.inr ())), .inr (.inr (.inr ()))] [] M :=
  BX12_serve C (fun x1 x2 x3 x4 M ⟨j, h⟩ => PX12_serve_46 C j _ _ _ _ _ h) h
def wX12_serve : f_Wt := f_wm [(4466, 12, 123), (1, 0, 0)] (fun ar M R => WX12_serve (f_vi (f_nth ar 1)) M (fun r M => R (some (.inl r)) M))
theorem TX12_serve {sh : Nat → Nat × Nat} {t : Nat} : f_Mt sh t YX12_serve 11 (wX12_serve) :=
  f_Mt_of (k := 6) (Nat.le_of_ble_eq_true rfl) rfl rfl (fun ar M R rm cs h1 h2 h3 hX h => PX12_serve ⟨Nat.le_of_ble_eq_true rfl, h1, h2, h3, ⟨(f_Mt.up (Nat.le_of_ble_eq_true rfl) TX12_areAble), (f_Mt.up (Nat.le_of_ble_eq_true rfl) TX12_isBarred), (f_Mt.up (Nat.le_of_ble_eq_true rfl) TX12_lieAt), (f_Mt.up (Nat.le_of_ble_eq_true rfl) TX12_full), (f_Mt.up (Nat.le_of_ble_eq_true rfl) TX12_make), (f_Mt.up (Nat.le_of_ble_eq_true rfl) TX12_id), (f_Mt.up (Nat.le_of_ble_eq_true rfl) TX12_inOn), (f_Mt.up (Nat.le_of_ble_eq_true rfl) TX12_inOf), trivial⟩, hX⟩ h)
def VX12_waive_13 (c_X12_id : Int → Int → e_M → (Int → Prop) → Prop) (c_X12_areAble : Int → e_M → (Int → Prop) → Prop) (k13 : Int → Int → e_M → Prop) (Q : Int → e_M → Prop) (x1 : Int) (x2 : Int) (M : e_M) : Prop :=
  ((0 ≤ x1 ∧ x1 < 560) ∧ (((M 4494 (x1.toNat)) ≤ x2 → (((0 ≤ x1 ∧ x1 < 560) ∧ ((1 : Int) = 0 ∨ (1 : Int) = 1)) ∧ (∀ M1 : e_M, M1 = e_up M 4485 (x1.toNat) 1 → (Q 0 M1)))) ∧ (x2 < (M 4494 (x1.toNat)) → ((0 ≤ (e_w32 ((e_w32 ((8 : Int) * x1)) + x2)) ∧ (e_w32 ((e_w32 ((8 : Int) * x1)) + x2)) < 4480) ∧ (c_X12_areAble (M 4495 ((e_w32 ((e_w32 ((8 : Int) * x1)) + x2)).toNat)) M (fun r2 => ((¬ r2 = 0 → (k13 x1 (e_w32 (x2 + 1)) M)) ∧ (r2 = 0 → (Q 2 M)))))))))
def VX12_waive (c_X12_id : Int → Int → e_M → (Int → Prop) → Prop) (c_X12_areAble : Int → e_M → (Int → Prop) → Prop) (k13 : Int → Int → e_M → Prop) (Q : Int → e_M → Prop) (M : e_M) : Prop :=
  ((0 ≤ (0 : Int) ∧ (0 : Int) < 10) ∧ (c_X12_id 3 (M 4520 ((0 : Int).toNat)) M (fun r1 => (k13 r1 0 M))))
def yX12_waive (i : Nat) : e_Y := x_get YX12_waive [YX12_id, YX12_areAble] i
def pX12_waivef : List x_I := [(0, 0, 1, 0, 0, 3, []), (1, 4, 1, 0, 0, 0, []), (2, 25, 12, 91, 4, 0, [(0, 20, 10), (0, 1, 64)]), (5, 0, 1, 0, 0, 0, []), (6, 27, 0, 0, 0, 0, []), (7, 40, 0, 2, 0, 0, []), (10, 5, 1, 1, 0, 0, []), (11, 0, 1, 0, 0, 0, []), (12, 5, 1, 2, 0, 0, []), (13, 49, 0, 0, 0, 0, []), (13, 2, 1, 2, 0, 0, []), (14, 4, 1, 0, 0, 0, []), (15, 25, 12, 61, 4, 0, [(0, 20, 560), (0, 1, 38)]), (18, 2, 1, 1, 0, 0, []), (19, 27, 0, 0, 0, 0, []), (20, 18, 49, 3, 32, 0, []), (23, 4, 1, 0, 0, 0, []), (24, 4, 1, 0, 0, 0, []), (25, 25, 12, 62, 4, 0, [(0, 20, 4480), (0, 1, 39)]), (28, 0, 2, 0, 0, 8, []), (30, 2, 1, 1, 0, 0, []), (31, 9, 0, 2, 0, 0, []), (32, 2, 1, 2, 0, 0, []), (33, 9, 0, 0, 0, 0, []), (34, 27, 0, 0, 0, 0, []), (35, 40, 1, 2, 14, 0, []), (38, 17, 43, 1, 30, 0, []), (41, 0, 1, 0, 0, 2, []), (42, 41, 0, 0, 0, 0, []), (43, 8, 0, 2, 0, 1, []), (46, 19, 13, 0, 10, 0, []), (49, 4, 1, 0, 0, 0, []), (50, 25, 12, 52, 4, 0, [(0, 21, 560), (0, 1, 29)]), (53, 2, 1, 1, 0, 0, []), (54, 0, 1, 0, 0, 1, []), (55, 29, 0, 0, 0, 0, []), (56, 0, 1, 0, 0, 0, []), (57, 41, 0, 0, 0, 0, [])]
set_option maxRecDepth 20000 in
theorem qX12_waivef : f_all yX12_waive YX12_waive pX12_waivef :=
  ⟨f_iconst (e_dx DX12_waive_0 0 rfl) ⟨by decide, by decide⟩,
  f_aload_n (n := 0) (e_dx DX12_waive_0 1 rfl) rfl,
  f_getA (e_dx DX12_waive_0 2 rfl) fX12_202 rfl (by decide) (Nat.le_of_ble_eq_true rfl) rfl (by decide),
  f_iconst (e_dx DX12_waive_0 3 rfl) ⟨by decide, by decide⟩,
  f_iaload (e_dx DX12_waive_0 4 rfl),
  x_callS (e_dx DX12_waive_0 5 rfl) mwX12_id cX12_540 swX12_id rfl,
  f_istore_n (n := 1) (e_dx DX12_waive_0 6 rfl) rfl (by decide),
  f_iconst (e_dx DX12_waive_0 7 rfl) ⟨by decide, by decide⟩,
  f_istore_n (n := 2) (e_dx DX12_waive_0 8 rfl) rfl (by decide),
  trivial,
  f_iload_n (n := 2) (e_dx DX12_waive_0 9 rfl) rfl,
  f_aload_n (n := 0) (e_dx DX12_waive_0 10 rfl) rfl,
  f_getA (e_dx DX12_waive_0 11 rfl) fX12_124 rfl (by decide) (Nat.le_of_ble_eq_true rfl) rfl (by decide),
  f_iload_n (n := 1) (e_dx DX12_waive_0 12 rfl) rfl,
  f_iaload (e_dx DX12_waive_0 13 rfl),
  f_icmp_ge (e_dx DX12_waive_0 14 rfl) rfl,
  f_aload_n (n := 0) (e_dx DX12_waive_0 15 rfl) rfl,
  f_aload_n (n := 0) (e_dx DX12_waive_0 16 rfl) rfl,
  f_getA (e_dx DX12_waive_0 17 rfl) fX12_127 rfl (by decide) (Nat.le_of_ble_eq_true rfl) rfl (by decide),
  f_bipush (e_dx DX12_waive_0 18 rfl) ⟨by decide, by decide⟩,
  f_iload_n (n := 1) (e_dx DX12_waive_0 19 rfl) rfl,
  f_imul (e_dx DX12_waive_0 20 rfl),
  f_iload_n (n := 2) (e_dx DX12_waive_0 21 rfl) rfl,
  f_iadd (e_dx DX12_waive_0 22 rfl),
  f_iaload (e_dx DX12_waive_0 23 rfl),
  x_callV (e_dx DX12_waive_0 24 rfl) mwX12_areAble vwX12_areAble cX12_707 rfl,
  f_if_ne (e_dx DX12_waive_0 25 rfl) rfl,
  f_iconst (e_dx DX12_waive_0 26 rfl) ⟨by decide, by decide⟩,
  ⟨(e_dx DX12_waive_0 27 rfl), rfl⟩,
  f_g8 (e_dx DX12_waive_0 28 rfl) ⟨by decide, by decide⟩,
  f_g19 (e_dx DX12_waive_0 29 rfl) rfl,
  f_aload_n (n := 0) (e_dx DX12_waive_0 30 rfl) rfl,
  f_getA (e_dx DX12_waive_0 31 rfl) fX12_97 rfl (by decide) (Nat.le_of_ble_eq_true rfl) rfl (by decide),
  f_iload_n (n := 1) (e_dx DX12_waive_0 32 rfl) rfl,
  f_iconst (e_dx DX12_waive_0 33 rfl) ⟨by decide, by decide⟩,
  f_g29 (e_dx DX12_waive_0 34 rfl),
  f_iconst (e_dx DX12_waive_0 35 rfl) ⟨by decide, by decide⟩,
  ⟨(e_dx DX12_waive_0 36 rfl), rfl⟩, trivial⟩
def lX12_waive (c_X12_id : Int → Int → e_M → (Int → Prop) → Prop) (c_X12_areAble : Int → e_M → (Int → Prop) → Prop) : List (Nat × f_Wt) := [(0, f_wm [(1, 0, 0), (1, 0, 0)] (fun ar M R => c_X12_id (f_vi (f_nth ar 0)) (f_vi (f_nth ar 1)) M (fun r => R (some (.inl r)) M))), (1, f_wm [(4466, 12, 123), (1, 0, 0)] (fun ar M R => c_X12_areAble (f_vi (f_nth ar 1)) M (fun r => R (some (.inl r)) M)))]
set_option maxRecDepth 20000 in
theorem BX12_waive_13 {sh : Nat → Nat × Nat} {t : Nat} {rm : Nat × Nat × Nat} {cs : Nat × Nat} {R : f_Rt} {c_X12_id : Int → Int → e_M → (Int → Prop) → Prop} {c_X12_areAble : Int → e_M → (Int → Prop) → Prop} {k13 : Int → Int → e_M → Prop} {x1 : Int} {x2 : Int} {M : e_M} (C : f_Hy sh t yX12_waive rm cs 11 (lX12_waive c_X12_id c_X12_areAble) R) (h13 : ∀ (x1 : Int) (x2 : Int) (M : e_M), k13 x1 x2 M → f_E sh t YX12_waive rm cs (f_Q sh t R) 13 [.inr (.inr (.inl (12, 123, 4456))), .inl x1, .inl x2] [] M) (h : VX12_waive_13 c_X12_id c_X12_areAble k13 (fun r M => R (some (.inl r)) M) x1 x2 M) : f_E sh t YX12_waive rm cs (f_Q sh t R) 13 [.inr (.inr (.inl (12, 123, 4456))), .inl x1, .inl x2] [] M :=
  f_go (KC := f_kc [(13, f_pl [(4466, 12, 123), (1, 0, 0), (1, 0, 0)] [] (fun ls st M => k13 (f_vi (f_nth ls 1)) (f_vi (f_nth ls 2)) M))]) C qX12_waivef (f_kc_cons (f_pl_ok rfl (fun ls st M h => h13 _ _ M h)) f_kc_nil) 40 10 h
set_option maxRecDepth 20000 in
theorem BX12_waive {sh : Nat → Nat × Nat} {t : Nat} {rm : Nat × Nat × Nat} {cs : Nat × Nat} {R : f_Rt} {c_X12_id : Int → Int → e_M → (Int → Prop) → Prop} {c_X12_areAble : Int → e_M → (Int → Prop) → Prop} {k13 : Int → Int → e_M → Prop} {M : e_M} (C : f_Hy sh t yX12_waive rm cs 11 (lX12_waive c_X12_id c_X12_areAble) R) (h13 : ∀ (x1 : Int) (x2 : Int) (M : e_M), k13 x1 x2 M → f_E sh t YX12_waive rm cs (f_Q sh t R) 13 [.inr (.inr (.inl (12, 123, 4456))), .inl x1, .inl x2] [] M) (h : VX12_waive c_X12_id c_X12_areAble k13 (fun r M => R (some (.inl r)) M) M) : f_E sh t YX12_waive rm cs (f_Q sh t R) 0 [.inr (.inr (.inl (12, 123, 4456))), .inr (.inr (.inr ())), .inr (.inr (.inr ()))] [] M :=
  f_go (KC := f_kc [(13, f_pl [(4466, 12, 123), (1, 0, 0), (1, 0, 0)] [] (fun ls st M => k13 (f_vi (f_nth ls 1)) (f_vi (f_nth ls 2)) M))]) C qX12_waivef (f_kc_cons (f_pl_ok rfl (fun ls st M h => h13 _ _ M h)) f_kc_nil) 40 0 h
def WX12_waive_13 (Q : Int → e_M → Prop) : Nat → Int → Int → e_M → Prop
  | 0, _, _, _ => False
  | n + 1, x1, x2, M =>
    VX12_waive_13 WX12_id WX12_areAble (WX12_waive_13 Q n) Q x1 x2 M
def WX12_waive (M : e_M) (Q : Int → e_M → Prop) : Prop :=
  VX12_waive WX12_id WX12_areAble (fun x1 x2 M => ∃ j, WX12_waive_13 Q j x1 x2 M) Q M
theorem PX12_waive_13 {sh : Nat → Nat × Nat} {t : Nat} {rm : Nat × Nat × Nat} {cs : Nat × Nat} {R : f_Rt} (C : f_Hy sh t yX12_waive rm cs 11 (lX12_waive WX12_id WX12_areAble) R) : ∀ (n : Nat) (x1 : Int) (x2 : Int) (M : e_M), WX12_waive_13 (fun r M => R (some (.inl r)) M) n x1 x2 M → f_E sh t YX12_waive rm cs (f_Q sh t R) 13 [.inr (.inr (.inl (12, 123, 4456))), .inl x1, .inl x2] [] M := by
  intro n
  induction n with
  | zero => intro x1 x2 M h; exact h.elim
  | succ n ih => intro x1 x2 M h; exact BX12_waive_13 C ih h
theorem PX12_waive {sh : Nat → Nat × Nat} {t : Nat} {rm : Nat × Nat × Nat} {cs : Nat × Nat} {R : f_Rt} {M : e_M} (C : f_Hy sh t yX12_waive rm cs 11 (lX12_waive WX12_id WX12_areAble) R) (h : WX12_waive M (fun r M => R (some (.inl r)) M)) : f_E sh t YX12_waive rm cs (f_Q sh t R) 0 [.inr (.inr (.inl (12, 123, 4456))), .inr (.inr (.inr ())), .inr (.inr (.inr ()))] [] M :=
  BX12_waive C (fun x1 x2 M ⟨j, h⟩ => PX12_waive_13 C j _ _ _ h) h
def wX12_waive : f_Wt := f_wm [(4466, 12, 123)] (fun ar M R => WX12_waive M (fun r M => R (some (.inl r)) M))
theorem TX12_waive {sh : Nat → Nat × Nat} {t : Nat} : f_Mt sh t YX12_waive 11 (wX12_waive) :=
  f_Mt_of (k := 2) (Nat.le_of_ble_eq_true rfl) rfl rfl (fun ar M R rm cs h1 h2 h3 hX h => PX12_waive ⟨Nat.le_of_ble_eq_true rfl, h1, h2, h3, ⟨(f_Mt.up (Nat.le_of_ble_eq_true rfl) TX12_id), (f_Mt.up (Nat.le_of_ble_eq_true rfl) TX12_areAble), trivial⟩, hX⟩ h)
def VX12_lease_63 (c_X12_areAble : Int → e_M → (Int → Prop) → Prop) (c_X12_isAble : Int → Int → e_M → (Int → Prop) → Prop) (c_X12_isBarred : Int → Int → e_M → (Int → Prop) → Prop) (c_X12_isThere : Int → Int → Int → e_M → (Int → Prop) → Prop) (c_X12_id : Int → Int → e_M → (Int → Prop) → Prop) (c_X12_placeOn : Int → Int → e_M → (Int → Prop) → Prop) (c_X12_full : Int → Int → e_M → (Int → Prop) → Prop) (c_X12_make : Int → Int → e_M → (Int → e_M → Prop) → Prop) (c_X12_inOn : Int → Int → Int → e_M → (e_M → Prop) → Prop) (k101 : Int → Int → Int → e_M → Prop) (Q : Int → e_M → Prop) (x1 : Int) (x2 : Int) (x3 : Int) (M : e_M) : Prop :=
  ((0 ≤ (4 : Int) ∧ (4 : Int) < 7) ∧ (((M 4483 ((4 : Int).toNat)) ≤ x3 → (c_X12_full 4 1 M (fun r1 => ((r1 = 0 → ((0 ≤ (e_w32 ((10 : Int) * x1)) ∧ (e_w32 ((10 : Int) * x1)) < 1520) ∧ (c_X12_make 4 (M 4467 ((e_w32 ((10 : Int) * x1)).toNat)) M (fun r2 M3 => (c_X12_id 4 r2 M3 (fun r4 => ((0 ≤ (2 : Int) ∧ (2 : Int) < 10) ∧ ((0 ≤ r4 ∧ r4 < 560) ∧ (∀ M5 : e_M, M5 = e_up M3 4489 (r4.toNat) (M3 4520 ((2 : Int).toNat)) → ((0 ≤ x1 ∧ x1 < 152) ∧ ((0 ≤ r4 ∧ r4 < 560) ∧ (∀ M6 : e_M, M6 = e_up M5 4490 (r4.toNat) (M5 4464 (x1.toNat)) → ((0 ≤ x1 ∧ x1 < 152) ∧ ((0 ≤ r4 ∧ r4 < 560) ∧ (∀ M7 : e_M, M7 = e_up M6 4487 (r4.toNat) (M6 4465 (x1.toNat)) → (c_X12_inOn r4 0 x2 M7 (fun M8 => (Q 0 M8)))))))))))))))))) ∧ (¬ r1 = 0 → (Q 7 M)))))) ∧ (x3 < (M 4483 ((4 : Int).toNat)) → (c_X12_isThere 4 x3 (M 4456 86) M (fun r9 => ((r9 = 0 → (k101 x1 x2 x3 M)) ∧ (¬ r9 = 0 → (c_X12_id 4 x3 M (fun r10 => (c_X12_placeOn r10 x2 M (fun r11 => ((r11 < 0 → (k101 x1 x2 x3 M)) ∧ (0 ≤ r11 → (Q 5 M))))))))))))))
def VX12_lease_101 (c_X12_areAble : Int → e_M → (Int → Prop) → Prop) (c_X12_isAble : Int → Int → e_M → (Int → Prop) → Prop) (c_X12_isBarred : Int → Int → e_M → (Int → Prop) → Prop) (c_X12_isThere : Int → Int → Int → e_M → (Int → Prop) → Prop) (c_X12_id : Int → Int → e_M → (Int → Prop) → Prop) (c_X12_placeOn : Int → Int → e_M → (Int → Prop) → Prop) (c_X12_full : Int → Int → e_M → (Int → Prop) → Prop) (c_X12_make : Int → Int → e_M → (Int → e_M → Prop) → Prop) (c_X12_inOn : Int → Int → Int → e_M → (e_M → Prop) → Prop) (k63 : Int → Int → Int → e_M → Prop) (Q : Int → e_M → Prop) (x1 : Int) (x2 : Int) (x3 : Int) (M : e_M) : Prop :=
  (k63 x1 x2 (e_w32 (x3 + 1)) M)
def VX12_lease (c_X12_areAble : Int → e_M → (Int → Prop) → Prop) (c_X12_isAble : Int → Int → e_M → (Int → Prop) → Prop) (c_X12_isBarred : Int → Int → e_M → (Int → Prop) → Prop) (c_X12_isThere : Int → Int → Int → e_M → (Int → Prop) → Prop) (c_X12_id : Int → Int → e_M → (Int → Prop) → Prop) (c_X12_placeOn : Int → Int → e_M → (Int → Prop) → Prop) (c_X12_full : Int → Int → e_M → (Int → Prop) → Prop) (c_X12_make : Int → Int → e_M → (Int → e_M → Prop) → Prop) (c_X12_inOn : Int → Int → Int → e_M → (e_M → Prop) → Prop) (k63 : Int → Int → Int → e_M → Prop) (Q : Int → e_M → Prop) (x1 : Int) (M : e_M) : Prop :=
  ((0 ≤ (1 : Int) ∧ (1 : Int) < 10) ∧ ((0 ≤ x1 ∧ x1 < 152) ∧ (((M 4456 86) < (M 4465 (x1.toNat)) → (c_X12_areAble (M 4520 ((1 : Int).toNat)) M (fun r1 => ((r1 = 0 → (Q 2 M)) ∧ (¬ r1 = 0 → ((0 ≤ (2 : Int) ∧ (2 : Int) < 10) ∧ (c_X12_isAble (M 4520 ((2 : Int).toNat)) (M 4456 86) M (fun r2 => ((¬ r2 = 0 → (c_X12_isBarred (M 4520 ((1 : Int).toNat)) (-1) M (fun r3 => ((r3 = 0 → (k63 x1 (M 4520 ((1 : Int).toNat)) 0 M)) ∧ (¬ r3 = 0 → (Q 4 M)))))) ∧ (r2 = 0 → (Q 2 M))))))))))) ∧ ((M 4465 (x1.toNat)) ≤ (M 4456 86) → (Q 8 M)))))
def yX12_lease (i : Nat) : e_Y := x_get YX12_lease [YX12_areAble, YX12_isAble, YX12_isBarred, YX12_isThere, YX12_id, YX12_placeOn, YX12_full, YX12_make, YX12_inOn] i
def pX12_leasef : List x_I := [(0, 4, 1, 0, 0, 0, []), (1, 25, 12, 91, 4, 0, [(0, 20, 10), (0, 1, 64)]), (4, 0, 1, 0, 0, 1, []), (5, 27, 0, 0, 0, 0, []), (6, 5, 1, 2, 0, 0, []), (7, 4, 1, 0, 0, 0, []), (8, 25, 12, 18, 4, 0, [(0, 20, 152), (0, 1, 9)]), (11, 2, 1, 1, 0, 0, []), (12, 27, 0, 0, 0, 0, []), (13, 4, 1, 0, 0, 0, []), (14, 25, 12, 86, 0, 0, []), (17, 18, 23, 4, 15, 0, []), (20, 0, 2, 0, 0, 8, []), (22, 41, 0, 0, 0, 0, []), (23, 4, 1, 0, 0, 0, []), (24, 2, 1, 2, 0, 0, []), (25, 40, 0, 2, 14, 0, []), (28, 17, 48, 0, 28, 0, []), (31, 4, 1, 0, 0, 0, []), (32, 4, 1, 0, 0, 0, []), (33, 25, 12, 91, 4, 0, [(0, 20, 10), (0, 1, 64)]), (36, 0, 1, 0, 0, 2, []), (37, 27, 0, 0, 0, 0, []), (38, 4, 1, 0, 0, 0, []), (39, 25, 12, 86, 0, 0, []), (42, 40, 1, 3, 14, 0, []), (45, 17, 50, 1, 30, 0, []), (48, 0, 1, 0, 0, 2, []), (49, 41, 0, 0, 0, 0, []), (50, 4, 1, 0, 0, 0, []), (51, 2, 1, 2, 0, 0, []), (52, 0, 1, 0, 0, (-1), []), (53, 40, 2, 3, 14, 0, []), (56, 17, 61, 0, 37, 0, []), (59, 0, 1, 0, 0, 4, []), (60, 41, 0, 0, 0, 0, []), (61, 0, 1, 0, 0, 0, []), (62, 5, 1, 3, 0, 0, []), (63, 49, 0, 0, 0, 0, []), (63, 2, 1, 3, 0, 0, []), (64, 4, 1, 0, 0, 0, []), (65, 25, 12, 50, 4, 0, [(0, 20, 7), (0, 1, 27)]), (68, 0, 1, 0, 0, 4, []), (69, 27, 0, 0, 0, 0, []), (70, 18, 107, 3, 65, 0, []), (73, 4, 1, 0, 0, 0, []), (74, 0, 1, 0, 0, 4, []), (75, 2, 1, 3, 0, 0, []), (76, 4, 1, 0, 0, 0, []), (77, 25, 12, 86, 0, 0, []), (80, 40, 3, 4, 14, 0, []), (83, 17, 101, 0, 62, 0, []), (86, 4, 1, 0, 0, 0, []), (87, 0, 1, 0, 0, 4, []), (88, 2, 1, 3, 0, 0, []), (89, 40, 4, 2, 0, 0, []), (92, 2, 1, 2, 0, 0, []), (93, 40, 5, 3, 14, 0, []), (96, 17, 101, 2, 62, 0, []), (99, 0, 1, 0, 0, 5, []), (100, 41, 0, 0, 0, 0, []), (101, 49, 0, 0, 0, 0, []), (101, 8, 0, 3, 0, 1, []), (104, 19, 63, 0, 39, 0, []), (107, 4, 1, 0, 0, 0, []), (108, 0, 1, 0, 0, 4, []), (109, 0, 1, 0, 0, 1, []), (110, 40, 6, 3, 14, 0, []), (113, 17, 119, 0, 72, 0, []), (116, 0, 2, 0, 0, 7, []), (118, 41, 0, 0, 0, 0, []), (119, 0, 1, 0, 0, 4, []), (120, 4, 1, 0, 0, 0, []), (121, 0, 1, 0, 0, 4, []), (122, 4, 1, 0, 0, 0, []), (123, 25, 12, 20, 4, 0, [(0, 23, 1520), (0, 1, 11)]), (126, 0, 2, 0, 0, 10, []), (128, 2, 1, 1, 0, 0, []), (129, 9, 0, 2, 0, 0, []), (130, 27, 0, 1, 0, 0, []), (131, 40, 7, 3, 14, 0, []), (134, 40, 4, 2, 0, 0, []), (137, 5, 1, 3, 0, 0, []), (138, 4, 1, 0, 0, 0, []), (139, 25, 12, 56, 4, 0, [(0, 20, 560), (0, 1, 33)]), (142, 2, 1, 3, 0, 0, []), (143, 4, 1, 0, 0, 0, []), (144, 25, 12, 91, 4, 0, [(0, 20, 10), (0, 1, 64)]), (147, 0, 1, 0, 0, 2, []), (148, 27, 0, 0, 0, 0, []), (149, 28, 0, 0, 0, 0, []), (150, 4, 1, 0, 0, 0, []), (151, 25, 12, 57, 4, 0, [(0, 20, 560), (0, 1, 34)]), (154, 2, 1, 3, 0, 0, []), (155, 4, 1, 0, 0, 0, []), (156, 25, 12, 17, 4, 0, [(0, 20, 152), (0, 1, 8)]), (159, 2, 1, 1, 0, 0, []), (160, 27, 0, 0, 0, 0, []), (161, 28, 0, 0, 0, 0, []), (162, 4, 1, 0, 0, 0, []), (163, 25, 12, 54, 4, 0, [(0, 20, 560), (0, 1, 31)]), (166, 2, 1, 3, 0, 0, []), (167, 4, 1, 0, 0, 0, []), (168, 25, 12, 18, 4, 0, [(0, 20, 152), (0, 1, 9)]), (171, 2, 1, 1, 0, 0, []), (172, 27, 0, 0, 0, 0, []), (173, 28, 0, 0, 0, 0, []), (174, 4, 1, 0, 0, 0, []), (175, 2, 1, 3, 0, 0, []), (176, 0, 1, 0, 0, 0, []), (177, 2, 1, 2, 0, 0, []), (178, 40, 8, 4, 14, 0, []), (181, 0, 1, 0, 0, 0, []), (182, 41, 0, 0, 0, 0, [])]
set_option maxRecDepth 20000 in
theorem qX12_leasef : f_all yX12_lease YX12_lease pX12_leasef :=
  ⟨f_aload_n (n := 0) (e_dx DX12_lease_0 0 rfl) rfl,
  f_getA (e_dx DX12_lease_0 1 rfl) fX12_202 rfl (by decide) (Nat.le_of_ble_eq_true rfl) rfl (by decide),
  f_iconst (e_dx DX12_lease_0 2 rfl) ⟨by decide, by decide⟩,
  f_iaload (e_dx DX12_lease_0 3 rfl),
  f_istore_n (n := 2) (e_dx DX12_lease_0 4 rfl) rfl (by decide),
  f_aload_n (n := 0) (e_dx DX12_lease_0 5 rfl) rfl,
  f_getA (e_dx DX12_lease_0 6 rfl) fX12_36 rfl (by decide) (Nat.le_of_ble_eq_true rfl) rfl (by decide),
  f_iload_n (n := 1) (e_dx DX12_lease_0 7 rfl) rfl,
  f_iaload (e_dx DX12_lease_0 8 rfl),
  f_aload_n (n := 0) (e_dx DX12_lease_0 9 rfl) rfl,
  f_getf (e_dx DX12_lease_0 10 rfl) fX12_543 rfl (by decide) (by decide) (by decide),
  f_icmp_gt (e_dx DX12_lease_0 11 rfl) rfl,
  f_bipush (e_dx DX12_lease_0 12 rfl) ⟨by decide, by decide⟩,
  ⟨(e_dx DX12_lease_0 13 rfl), rfl⟩,
  f_aload_n (n := 0) (e_dx DX12_lease_0 14 rfl) rfl,
  f_iload_n (n := 2) (e_dx DX12_lease_0 15 rfl) rfl,
  x_callV (e_dx DX12_lease_0 16 rfl) mwX12_areAble vwX12_areAble cX12_707 rfl,
  f_if_eq (e_dx DX12_lease_0 17 rfl) rfl,
  f_aload_n (n := 0) (e_dx DX12_lease_0 18 rfl) rfl,
  f_aload_n (n := 0) (e_dx DX12_lease_0 19 rfl) rfl,
  f_getA (e_dx DX12_lease_0 20 rfl) fX12_202 rfl (by decide) (Nat.le_of_ble_eq_true rfl) rfl (by decide),
  f_iconst (e_dx DX12_lease_0 21 rfl) ⟨by decide, by decide⟩,
  f_iaload (e_dx DX12_lease_0 22 rfl),
  f_aload_n (n := 0) (e_dx DX12_lease_0 23 rfl) rfl,
  f_getf (e_dx DX12_lease_0 24 rfl) fX12_543 rfl (by decide) (by decide) (by decide),
  x_callV (e_dx DX12_lease_0 25 rfl) mwX12_isAble vwX12_isAble cX12_582 rfl,
  f_if_ne (e_dx DX12_lease_0 26 rfl) rfl,
  f_iconst (e_dx DX12_lease_0 27 rfl) ⟨by decide, by decide⟩,
  ⟨(e_dx DX12_lease_0 28 rfl), rfl⟩,
  f_aload_n (n := 0) (e_dx DX12_lease_0 29 rfl) rfl,
  f_iload_n (n := 2) (e_dx DX12_lease_0 30 rfl) rfl,
  f_iconst (e_dx DX12_lease_0 31 rfl) ⟨by decide, by decide⟩,
  x_callV (e_dx DX12_lease_0 32 rfl) mwX12_isBarred vwX12_isBarred cX12_698 rfl,
  f_if_eq (e_dx DX12_lease_0 33 rfl) rfl,
  f_iconst (e_dx DX12_lease_0 34 rfl) ⟨by decide, by decide⟩,
  ⟨(e_dx DX12_lease_0 35 rfl), rfl⟩,
  f_iconst (e_dx DX12_lease_0 36 rfl) ⟨by decide, by decide⟩,
  f_istore_n (n := 3) (e_dx DX12_lease_0 37 rfl) rfl (by decide),
  trivial,
  f_iload_n (n := 3) (e_dx DX12_lease_0 38 rfl) rfl,
  f_aload_n (n := 0) (e_dx DX12_lease_0 39 rfl) rfl,
  f_getA (e_dx DX12_lease_1 0 rfl) fX12_91 rfl (by decide) (Nat.le_of_ble_eq_true rfl) rfl (by decide),
  f_iconst (e_dx DX12_lease_1 1 rfl) ⟨by decide, by decide⟩,
  f_iaload (e_dx DX12_lease_1 2 rfl),
  f_icmp_ge (e_dx DX12_lease_1 3 rfl) rfl,
  f_aload_n (n := 0) (e_dx DX12_lease_1 4 rfl) rfl,
  f_iconst (e_dx DX12_lease_1 5 rfl) ⟨by decide, by decide⟩,
  f_iload_n (n := 3) (e_dx DX12_lease_1 6 rfl) rfl,
  f_aload_n (n := 0) (e_dx DX12_lease_1 7 rfl) rfl,
  f_getf (e_dx DX12_lease_1 8 rfl) fX12_543 rfl (by decide) (by decide) (by decide),
  x_callV (e_dx DX12_lease_1 9 rfl) mwX12_isThere vwX12_isThere cX12_549 rfl,
  f_if_eq (e_dx DX12_lease_1 10 rfl) rfl,
  f_aload_n (n := 0) (e_dx DX12_lease_1 11 rfl) rfl,
  f_iconst (e_dx DX12_lease_1 12 rfl) ⟨by decide, by decide⟩,
  f_iload_n (n := 3) (e_dx DX12_lease_1 13 rfl) rfl,
  x_callS (e_dx DX12_lease_1 14 rfl) mwX12_id cX12_540 swX12_id rfl,
  f_iload_n (n := 2) (e_dx DX12_lease_1 15 rfl) rfl,
  x_callV (e_dx DX12_lease_1 16 rfl) mwX12_placeOn vwX12_placeOn cX12_573 rfl,
  f_if_lt (e_dx DX12_lease_1 17 rfl) rfl,
  f_iconst (e_dx DX12_lease_1 18 rfl) ⟨by decide, by decide⟩,
  ⟨(e_dx DX12_lease_1 19 rfl), rfl⟩,
  trivial,
  f_g8 (e_dx DX12_lease_1 20 rfl) ⟨by decide, by decide⟩,
  f_g19 (e_dx DX12_lease_1 21 rfl) rfl,
  f_aload_n (n := 0) (e_dx DX12_lease_1 22 rfl) rfl,
  f_iconst (e_dx DX12_lease_1 23 rfl) ⟨by decide, by decide⟩,
  f_iconst (e_dx DX12_lease_1 24 rfl) ⟨by decide, by decide⟩,
  x_callV (e_dx DX12_lease_1 25 rfl) mwX12_full vwX12_full cX12_660 rfl,
  f_if_eq (e_dx DX12_lease_1 26 rfl) rfl,
  f_bipush (e_dx DX12_lease_1 27 rfl) ⟨by decide, by decide⟩,
  ⟨(e_dx DX12_lease_1 28 rfl), rfl⟩,
  f_iconst (e_dx DX12_lease_1 29 rfl) ⟨by decide, by decide⟩,
  f_aload_n (n := 0) (e_dx DX12_lease_1 30 rfl) rfl,
  f_iconst (e_dx DX12_lease_1 31 rfl) ⟨by decide, by decide⟩,
  f_aload_n (n := 0) (e_dx DX12_lease_1 32 rfl) rfl,
  f_getA (e_dx DX12_lease_1 33 rfl) fX12_42 rfl (by decide) (Nat.le_of_ble_eq_true rfl) rfl (by decide),
  f_bipush (e_dx DX12_lease_1 34 rfl) ⟨by decide, by decide⟩,
  f_iload_n (n := 1) (e_dx DX12_lease_1 35 rfl) rfl,
  f_imul (e_dx DX12_lease_1 36 rfl),
  f_laload (e_dx DX12_lease_1 37 rfl),
  x_callV (e_dx DX12_lease_1 38 rfl) mwX12_make vwX12_make cX12_534 rfl,
  x_callS (e_dx DX12_lease_1 39 rfl) mwX12_id cX12_540 swX12_id rfl,
  f_istore_n (n := 3) (e_dx DX12_lease_2 0 rfl) rfl (by decide),
  f_aload_n (n := 0) (e_dx DX12_lease_2 1 rfl) rfl,
  f_getA (e_dx DX12_lease_2 2 rfl) fX12_109 rfl (by decide) (Nat.le_of_ble_eq_true rfl) rfl (by decide),
  f_iload_n (n := 3) (e_dx DX12_lease_2 3 rfl) rfl,
  f_aload_n (n := 0) (e_dx DX12_lease_2 4 rfl) rfl,
  f_getA (e_dx DX12_lease_2 5 rfl) fX12_202 rfl (by decide) (Nat.le_of_ble_eq_true rfl) rfl (by decide),
  f_iconst (e_dx DX12_lease_2 6 rfl) ⟨by decide, by decide⟩,
  f_iaload (e_dx DX12_lease_2 7 rfl),
  f_iastore (e_dx DX12_lease_2 8 rfl),
  f_aload_n (n := 0) (e_dx DX12_lease_2 9 rfl) rfl,
  f_getA (e_dx DX12_lease_2 10 rfl) fX12_112 rfl (by decide) (Nat.le_of_ble_eq_true rfl) rfl (by decide),
  f_iload_n (n := 3) (e_dx DX12_lease_2 11 rfl) rfl,
  f_aload_n (n := 0) (e_dx DX12_lease_2 12 rfl) rfl,
  f_getA (e_dx DX12_lease_2 13 rfl) fX12_33 rfl (by decide) (Nat.le_of_ble_eq_true rfl) rfl (by decide),
  f_iload_n (n := 1) (e_dx DX12_lease_2 14 rfl) rfl,
  f_iaload (e_dx DX12_lease_2 15 rfl),
  f_iastore (e_dx DX12_lease_2 16 rfl),
  f_aload_n (n := 0) (e_dx DX12_lease_2 17 rfl) rfl,
  f_getA (e_dx DX12_lease_2 18 rfl) fX12_103 rfl (by decide) (Nat.le_of_ble_eq_true rfl) rfl (by decide),
  f_iload_n (n := 3) (e_dx DX12_lease_2 19 rfl) rfl,
  f_aload_n (n := 0) (e_dx DX12_lease_2 20 rfl) rfl,
  f_getA (e_dx DX12_lease_2 21 rfl) fX12_36 rfl (by decide) (Nat.le_of_ble_eq_true rfl) rfl (by decide),
  f_iload_n (n := 1) (e_dx DX12_lease_2 22 rfl) rfl,
  f_iaload (e_dx DX12_lease_2 23 rfl),
  f_iastore (e_dx DX12_lease_2 24 rfl),
  f_aload_n (n := 0) (e_dx DX12_lease_2 25 rfl) rfl,
  f_iload_n (n := 3) (e_dx DX12_lease_2 26 rfl) rfl,
  f_iconst (e_dx DX12_lease_2 27 rfl) ⟨by decide, by decide⟩,
  f_iload_n (n := 2) (e_dx DX12_lease_2 28 rfl) rfl,
  x_callV (e_dx DX12_lease_2 29 rfl) mwX12_inOn vwX12_inOn cX12_720 rfl,
  f_iconst (e_dx DX12_lease_2 30 rfl) ⟨by decide, by decide⟩,
  ⟨(e_dx DX12_lease_2 31 rfl), rfl⟩, trivial⟩
def lX12_lease (c_X12_areAble : Int → e_M → (Int → Prop) → Prop) (c_X12_isAble : Int → Int → e_M → (Int → Prop) → Prop) (c_X12_isBarred : Int → Int → e_M → (Int → Prop) → Prop) (c_X12_isThere : Int → Int → Int → e_M → (Int → Prop) → Prop) (c_X12_id : Int → Int → e_M → (Int → Prop) → Prop) (c_X12_placeOn : Int → Int → e_M → (Int → Prop) → Prop) (c_X12_full : Int → Int → e_M → (Int → Prop) → Prop) (c_X12_make : Int → Int → e_M → (Int → e_M → Prop) → Prop) (c_X12_inOn : Int → Int → Int → e_M → (e_M → Prop) → Prop) : List (Nat × f_Wt) := [(0, f_wm [(4466, 12, 123), (1, 0, 0)] (fun ar M R => c_X12_areAble (f_vi (f_nth ar 1)) M (fun r => R (some (.inl r)) M))), (1, f_wm [(4466, 12, 123), (1, 0, 0), (1, 0, 0)] (fun ar M R => c_X12_isAble (f_vi (f_nth ar 1)) (f_vi (f_nth ar 2)) M (fun r => R (some (.inl r)) M))), (2, f_wm [(4466, 12, 123), (1, 0, 0), (1, 0, 0)] (fun ar M R => c_X12_isBarred (f_vi (f_nth ar 1)) (f_vi (f_nth ar 2)) M (fun r => R (some (.inl r)) M))), (3, f_wm [(4466, 12, 123), (1, 0, 0), (1, 0, 0), (1, 0, 0)] (fun ar M R => c_X12_isThere (f_vi (f_nth ar 1)) (f_vi (f_nth ar 2)) (f_vi (f_nth ar 3)) M (fun r => R (some (.inl r)) M))), (4, f_wm [(1, 0, 0), (1, 0, 0)] (fun ar M R => c_X12_id (f_vi (f_nth ar 0)) (f_vi (f_nth ar 1)) M (fun r => R (some (.inl r)) M))), (5, f_wm [(4466, 12, 123), (1, 0, 0), (1, 0, 0)] (fun ar M R => c_X12_placeOn (f_vi (f_nth ar 1)) (f_vi (f_nth ar 2)) M (fun r => R (some (.inl r)) M))), (6, f_wm [(4466, 12, 123), (1, 0, 0), (1, 0, 0)] (fun ar M R => c_X12_full (f_vi (f_nth ar 1)) (f_vi (f_nth ar 2)) M (fun r => R (some (.inl r)) M))), (7, f_wm [(4466, 12, 123), (1, 0, 0), (2, 0, 0)] (fun ar M R => c_X12_make (f_vi (f_nth ar 1)) (f_vi (f_nth ar 2)) M (fun r M => R (some (.inl r)) M))), (8, f_wm [(4466, 12, 123), (1, 0, 0), (1, 0, 0), (1, 0, 0)] (fun ar M R => c_X12_inOn (f_vi (f_nth ar 1)) (f_vi (f_nth ar 2)) (f_vi (f_nth ar 3)) M (fun M => R none M)))]
set_option maxRecDepth 20000 in
theorem BX12_lease_63 {sh : Nat → Nat × Nat} {t : Nat} {rm : Nat × Nat × Nat} {cs : Nat × Nat} {R : f_Rt} {c_X12_areAble : Int → e_M → (Int → Prop) → Prop} {c_X12_isAble : Int → Int → e_M → (Int → Prop) → Prop} {c_X12_isBarred : Int → Int → e_M → (Int → Prop) → Prop} {c_X12_isThere : Int → Int → Int → e_M → (Int → Prop) → Prop} {c_X12_id : Int → Int → e_M → (Int → Prop) → Prop} {c_X12_placeOn : Int → Int → e_M → (Int → Prop) → Prop} {c_X12_full : Int → Int → e_M → (Int → Prop) → Prop} {c_X12_make : Int → Int → e_M → (Int → e_M → Prop) → Prop} {c_X12_inOn : Int → Int → Int → e_M → (e_M → Prop) → Prop} {k101 : Int → Int → Int → e_M → Prop} {x1 : Int} {x2 : Int} {x3 : Int} {M : e_M} (C : f_Hy sh t yX12_lease rm cs 11 (lX12_lease c_X12_areAble c_X12_isAble c_X12_isBarred c_X12_isThere c_X12_id c_X12_placeOn c_X12_full c_X12_make c_X12_inOn) R) (h101 : ∀ (x1 : Int) (x2 : Int) (x3 : Int) (M : e_M), k101 x1 x2 x3 M → f_E sh t YX12_lease rm cs (f_Q sh t R) 101 [.inr (.inr (.inl (12, 123, 4456))), .inl x1, .inl x2, .inl x3] [] M) (h : VX12_lease_63 c_X12_areAble c_X12_isAble c_X12_isBarred c_X12_isThere c_X12_id c_X12_placeOn c_X12_full c_X12_make c_X12_inOn k101 (fun r M => R (some (.inl r)) M) x1 x2 x3 M) : f_E sh t YX12_lease rm cs (f_Q sh t R) 63 [.inr (.inr (.inl (12, 123, 4456))), .inl x1, .inl x2, .inl x3] [] M :=
  f_go (KC := f_kc [(101, f_pl [(4466, 12, 123), (1, 0, 0), (1, 0, 0), (1, 0, 0)] [] (fun ls st M => k101 (f_vi (f_nth ls 1)) (f_vi (f_nth ls 2)) (f_vi (f_nth ls 3)) M))]) C qX12_leasef (f_kc_cons (f_pl_ok rfl (fun ls st M h => h101 _ _ _ M h)) f_kc_nil) 116 39 h
set_option maxRecDepth 20000 in
theorem BX12_lease_101 {sh : Nat → Nat × Nat} {t : Nat} {rm : Nat × Nat × Nat} {cs : Nat × Nat} {R : f_Rt} {c_X12_areAble : Int → e_M → (Int → Prop) → Prop} {c_X12_isAble : Int → Int → e_M → (Int → Prop) → Prop} {c_X12_isBarred : Int → Int → e_M → (Int → Prop) → Prop} {c_X12_isThere : Int → Int → Int → e_M → (Int → Prop) → Prop} {c_X12_id : Int → Int → e_M → (Int → Prop) → Prop} {c_X12_placeOn : Int → Int → e_M → (Int → Prop) → Prop} {c_X12_full : Int → Int → e_M → (Int → Prop) → Prop} {c_X12_make : Int → Int → e_M → (Int → e_M → Prop) → Prop} {c_X12_inOn : Int → Int → Int → e_M → (e_M → Prop) → Prop} {k63 : Int → Int → Int → e_M → Prop} {x1 : Int} {x2 : Int} {x3 : Int} {M : e_M} (C : f_Hy sh t yX12_lease rm cs 11 (lX12_lease c_X12_areAble c_X12_isAble c_X12_isBarred c_X12_isThere c_X12_id c_X12_placeOn c_X12_full c_X12_make c_X12_inOn) R) (h63 : ∀ (x1 : Int) (x2 : Int) (x3 : Int) (M : e_M), k63 x1 x2 x3 M → f_E sh t YX12_lease rm cs (f_Q sh t R) 63 [.inr (.inr (.inl (12, 123, 4456))), .inl x1, .inl x2, .inl x3] [] M) (h : VX12_lease_101 c_X12_areAble c_X12_isAble c_X12_isBarred c_X12_isThere c_X12_id c_X12_placeOn c_X12_full c_X12_make c_X12_inOn k63 (fun r M => R (some (.inl r)) M) x1 x2 x3 M) : f_E sh t YX12_lease rm cs (f_Q sh t R) 101 [.inr (.inr (.inl (12, 123, 4456))), .inl x1, .inl x2, .inl x3] [] M :=
  f_go (KC := f_kc [(63, f_pl [(4466, 12, 123), (1, 0, 0), (1, 0, 0), (1, 0, 0)] [] (fun ls st M => k63 (f_vi (f_nth ls 1)) (f_vi (f_nth ls 2)) (f_vi (f_nth ls 3)) M))]) C qX12_leasef (f_kc_cons (f_pl_ok rfl (fun ls st M h => h63 _ _ _ M h)) f_kc_nil) 116 62 h
set_option maxRecDepth 20000 in
theorem BX12_lease {sh : Nat → Nat × Nat} {t : Nat} {rm : Nat × Nat × Nat} {cs : Nat × Nat} {R : f_Rt} {c_X12_areAble : Int → e_M → (Int → Prop) → Prop} {c_X12_isAble : Int → Int → e_M → (Int → Prop) → Prop} {c_X12_isBarred : Int → Int → e_M → (Int → Prop) → Prop} {c_X12_isThere : Int → Int → Int → e_M → (Int → Prop) → Prop} {c_X12_id : Int → Int → e_M → (Int → Prop) → Prop} {c_X12_placeOn : Int → Int → e_M → (Int → Prop) → Prop} {c_X12_full : Int → Int → e_M → (Int → Prop) → Prop} {c_X12_make : Int → Int → e_M → (Int → e_M → Prop) → Prop} {c_X12_inOn : Int → Int → Int → e_M → (e_M → Prop) → Prop} {k63 : Int → Int → Int → e_M → Prop} {x1 : Int} {M : e_M} (C : f_Hy sh t yX12_lease rm cs 11 (lX12_lease c_X12_areAble c_X12_isAble c_X12_isBarred c_X12_isThere c_X12_id c_X12_placeOn c_X12_full c_X12_make c_X12_inOn) R) (h63 : ∀ (x1 : Int) (x2 : Int) (x3 : Int) (M : e_M), k63 x1 x2 x3 M → f_E sh t YX12_lease rm cs (f_Q sh t R) 63 [.inr (.inr (.inl (12, 123, 4456))), .inl x1, .inl x2, .inl x3] [] M) (h : VX12_lease c_X12_areAble c_X12_isAble c_X12_isBarred c_X12_isThere c_X12_id c_X12_placeOn c_X12_full c_X12_make c_X12_inOn k63 (fun r M => R (some (.inl r)) M) x1 M) : f_E sh t YX12_lease rm cs (f_Q sh t R) 0 [.inr (.inr (.inl (12, 123, 4456))), .inl x1, .inr (.inr (.inr ())), .inr (.inr (.inr ()))] [] M :=
  f_go (KC := f_kc [(63, f_pl [(4466, 12, 123), (1, 0, 0), (1, 0, 0), (1, 0, 0)] [] (fun ls st M => k63 (f_vi (f_nth ls 1)) (f_vi (f_nth ls 2)) (f_vi (f_nth ls 3)) M))]) C qX12_leasef (f_kc_cons (f_pl_ok rfl (fun ls st M h => h63 _ _ _ M h)) f_kc_nil) 116 0 h
def WX12_lease_101 (H63 : Int → Int → Int → e_M → Prop) (Q : Int → e_M → Prop) (x1 : Int) (x2 : Int) (x3 : Int) (M : e_M) : Prop :=
  VX12_lease_101 WX12_areAble WX12_isAble WX12_isBarred WX12_isThere WX12_id WX12_placeOn WX12_full WX12_make WX12_inOn H63 Q x1 x2 x3 M
def WX12_lease_63 (Q : Int → e_M → Prop) : Nat → Int → Int → Int → e_M → Prop
  | 0, _, _, _, _ => False
  | n + 1, x1, x2, x3, M =>
    VX12_lease_63 WX12_areAble WX12_isAble WX12_isBarred WX12_isThere WX12_id WX12_placeOn WX12_full WX12_make WX12_inOn (WX12_lease_101 (WX12_lease_63 Q n) Q) Q x1 x2 x3 M
def WX12_lease (x1 : Int) (M : e_M) (Q : Int → e_M → Prop) : Prop :=
  VX12_lease WX12_areAble WX12_isAble WX12_isBarred WX12_isThere WX12_id WX12_placeOn WX12_full WX12_make WX12_inOn (fun x1 x2 x3 M => ∃ j, WX12_lease_63 Q j x1 x2 x3 M) Q x1 M
theorem PX12_lease_101 {sh : Nat → Nat × Nat} {t : Nat} {rm : Nat × Nat × Nat} {cs : Nat × Nat} {R : f_Rt} {H63 : Int → Int → Int → e_M → Prop} {x1 : Int} {x2 : Int} {x3 : Int} {M : e_M} (C : f_Hy sh t yX12_lease rm cs 11 (lX12_lease WX12_areAble WX12_isAble WX12_isBarred WX12_isThere WX12_id WX12_placeOn WX12_full WX12_make WX12_inOn) R) (g63 : ∀ (x1 : Int) (x2 : Int) (x3 : Int) (M : e_M), H63 x1 x2 x3 M → f_E sh t YX12_lease rm cs (f_Q sh t R) 63 [.inr (.inr (.inl (12, 123, 4456))), .inl x1, .inl x2, .inl x3] [] M) (h : WX12_lease_101 H63 (fun r M => R (some (.inl r)) M) x1 x2 x3 M) : f_E sh t YX12_lease rm cs (f_Q sh t R) 101 [.inr (.inr (.inl (12, 123, 4456))), .inl x1, .inl x2, .inl x3] [] M :=
  BX12_lease_101 C g63 h
theorem PX12_lease_63 {sh : Nat → Nat × Nat} {t : Nat} {rm : Nat × Nat × Nat} {cs : Nat × Nat} {R : f_Rt} (C : f_Hy sh t yX12_lease rm cs 11 (lX12_lease WX12_areAble WX12_isAble WX12_isBarred WX12_isThere WX12_id WX12_placeOn WX12_full WX12_make WX12_inOn) R) : ∀ (n : Nat) (x1 : Int) (x2 : Int) (x3 : Int) (M : e_M), WX12_lease_63 (fun r M => R (some (.inl r)) M) n x1 x2 x3 M → f_E sh t YX12_lease rm cs (f_Q sh t R) 63 [.inr (.inr (.inl (12, 123, 4456))), .inl x1, .inl x2, .inl x3] [] M := by
  intro n
  induction n with
  | zero => intro x1 x2 x3 M h; exact h.elim
  | succ n ih => intro x1 x2 x3 M h; exact BX12_lease_63 C (fun x1 x2 x3 M h => PX12_lease_101 C ih h) h
theorem PX12_lease {sh : Nat → Nat × Nat} {t : Nat} {rm : Nat × Nat × Nat} {cs : Nat × Nat} {R : f_Rt} {x1 : Int} {M : e_M} (C : f_Hy sh t yX12_lease rm cs 11 (lX12_lease WX12_areAble WX12_isAble WX12_isBarred WX12_isThere WX12_id WX12_placeOn WX12_full WX12_make WX12_inOn) R) (h : WX12_lease x1 M (fun r M => R (some (.inl r)) M)) : f_E sh t YX12_lease rm cs (f_Q sh t R) 0 [.inr (.inr (.inl (12, 123, 4456))), .inl x1, .inr (.inr (.inr ())), .inr (.inr (.inr ()))] [] M :=
  BX12_lease C (fun x1 x2 x3 M ⟨j, h⟩ => PX12_lease_63 C j _ _ _ _ h) h
def wX12_lease : f_Wt := f_wm [(4466, 12, 123), (1, 0, 0)] (fun ar M R => WX12_lease (f_vi (f_nth ar 1)) M (fun r M => R (some (.inl r)) M))
theorem TX12_lease {sh : Nat → Nat × Nat} {t : Nat} : f_Mt sh t YX12_lease 11 (wX12_lease) :=
  f_Mt_of (k := 2) (Nat.le_of_ble_eq_true rfl) rfl rfl (fun ar M R rm cs h1 h2 h3 hX h => PX12_lease ⟨Nat.le_of_ble_eq_true rfl, h1, h2, h3, ⟨(f_Mt.up (Nat.le_of_ble_eq_true rfl) TX12_areAble), (f_Mt.up (Nat.le_of_ble_eq_true rfl) TX12_isAble), (f_Mt.up (Nat.le_of_ble_eq_true rfl) TX12_isBarred), (f_Mt.up (Nat.le_of_ble_eq_true rfl) TX12_isThere), (f_Mt.up (Nat.le_of_ble_eq_true rfl) TX12_id), (f_Mt.up (Nat.le_of_ble_eq_true rfl) TX12_placeOn), (f_Mt.up (Nat.le_of_ble_eq_true rfl) TX12_full), (f_Mt.up (Nat.le_of_ble_eq_true rfl) TX12_make), (f_Mt.up (Nat.le_of_ble_eq_true rfl) TX12_inOn), trivial⟩, hX⟩ h)
def VX12_caution (c_X12_full : Int → Int → e_M → (Int → Prop) → Prop) (c_X12_make : Int → Int → e_M → (Int → e_M → Prop) → Prop) (c_X12_id : Int → Int → e_M → (Int → Prop) → Prop) (c_X12_inOn : Int → Int → Int → e_M → (e_M → Prop) → Prop) (Q : Int → e_M → Prop) (x1 : Int) (M : e_M) : Prop :=
  (c_X12_full 5 1 M (fun r1 => ((r1 = 0 → ((0 ≤ (e_w32 ((10 : Int) * x1)) ∧ (e_w32 ((10 : Int) * x1)) < 1520) ∧ (c_X12_make 5 (M 4467 ((e_w32 ((10 : Int) * x1)).toNat)) M (fun r2 M3 => (c_X12_id 5 r2 M3 (fun r4 => ((0 ≤ (2 : Int) ∧ (2 : Int) < 10) ∧ ((0 ≤ r4 ∧ r4 < 560) ∧ (∀ M5 : e_M, M5 = e_up M3 4489 (r4.toNat) (M3 4520 ((2 : Int).toNat)) → ((0 ≤ r4 ∧ r4 < 560) ∧ (∀ M6 : e_M, M6 = e_up M5 4487 (r4.toNat) (e_w32 ((M5 4456 86) + 180)) → ((0 ≤ (1 : Int) ∧ (1 : Int) < 10) ∧ (c_X12_inOn r4 0 (M6 4520 ((1 : Int).toNat)) M6 (fun M7 => (Q 0 M7))))))))))))))) ∧ (¬ r1 = 0 → (Q 7 M)))))
def yX12_caution (i : Nat) : e_Y := x_get YX12_caution [YX12_full, YX12_make, YX12_id, YX12_inOn] i
def pX12_cautionf : List x_I := [(0, 4, 1, 0, 0, 0, []), (1, 0, 1, 0, 0, 5, []), (2, 0, 1, 0, 0, 1, []), (3, 40, 0, 3, 14, 0, []), (6, 17, 12, 0, 8, 0, []), (9, 0, 2, 0, 0, 7, []), (11, 41, 0, 0, 0, 0, []), (12, 0, 1, 0, 0, 5, []), (13, 4, 1, 0, 0, 0, []), (14, 0, 1, 0, 0, 5, []), (15, 4, 1, 0, 0, 0, []), (16, 25, 12, 20, 4, 0, [(0, 23, 1520), (0, 1, 11)]), (19, 0, 2, 0, 0, 10, []), (21, 2, 1, 1, 0, 0, []), (22, 9, 0, 2, 0, 0, []), (23, 27, 0, 1, 0, 0, []), (24, 40, 1, 3, 14, 0, []), (27, 40, 2, 2, 0, 0, []), (30, 5, 1, 2, 0, 0, []), (31, 4, 1, 0, 0, 0, []), (32, 25, 12, 56, 4, 0, [(0, 20, 560), (0, 1, 33)]), (35, 2, 1, 2, 0, 0, []), (36, 4, 1, 0, 0, 0, []), (37, 25, 12, 91, 4, 0, [(0, 20, 10), (0, 1, 64)]), (40, 0, 1, 0, 0, 2, []), (41, 27, 0, 0, 0, 0, []), (42, 28, 0, 0, 0, 0, []), (43, 4, 1, 0, 0, 0, []), (44, 25, 12, 54, 4, 0, [(0, 20, 560), (0, 1, 31)]), (47, 2, 1, 2, 0, 0, []), (48, 4, 1, 0, 0, 0, []), (49, 25, 12, 86, 0, 0, []), (52, 0, 3, 0, 0, 180, []), (55, 9, 0, 0, 0, 0, []), (56, 28, 0, 0, 0, 0, []), (57, 4, 1, 0, 0, 0, []), (58, 2, 1, 2, 0, 0, []), (59, 0, 1, 0, 0, 0, []), (60, 4, 1, 0, 0, 0, []), (61, 25, 12, 91, 4, 0, [(0, 20, 10), (0, 1, 64)]), (64, 0, 1, 0, 0, 1, []), (65, 27, 0, 0, 0, 0, []), (66, 40, 3, 4, 14, 0, []), (69, 0, 1, 0, 0, 0, []), (70, 41, 0, 0, 0, 0, [])]
set_option maxRecDepth 20000 in
theorem qX12_cautionf : f_all yX12_caution YX12_caution pX12_cautionf :=
  ⟨f_aload_n (n := 0) (e_dx DX12_caution_0 0 rfl) rfl,
  f_iconst (e_dx DX12_caution_0 1 rfl) ⟨by decide, by decide⟩,
  f_iconst (e_dx DX12_caution_0 2 rfl) ⟨by decide, by decide⟩,
  x_callV (e_dx DX12_caution_0 3 rfl) mwX12_full vwX12_full cX12_660 rfl,
  f_if_eq (e_dx DX12_caution_0 4 rfl) rfl,
  f_bipush (e_dx DX12_caution_0 5 rfl) ⟨by decide, by decide⟩,
  ⟨(e_dx DX12_caution_0 6 rfl), rfl⟩,
  f_iconst (e_dx DX12_caution_0 7 rfl) ⟨by decide, by decide⟩,
  f_aload_n (n := 0) (e_dx DX12_caution_0 8 rfl) rfl,
  f_iconst (e_dx DX12_caution_0 9 rfl) ⟨by decide, by decide⟩,
  f_aload_n (n := 0) (e_dx DX12_caution_0 10 rfl) rfl,
  f_getA (e_dx DX12_caution_0 11 rfl) fX12_42 rfl (by decide) (Nat.le_of_ble_eq_true rfl) rfl (by decide),
  f_bipush (e_dx DX12_caution_0 12 rfl) ⟨by decide, by decide⟩,
  f_iload_n (n := 1) (e_dx DX12_caution_0 13 rfl) rfl,
  f_imul (e_dx DX12_caution_0 14 rfl),
  f_laload (e_dx DX12_caution_0 15 rfl),
  x_callV (e_dx DX12_caution_0 16 rfl) mwX12_make vwX12_make cX12_534 rfl,
  x_callS (e_dx DX12_caution_0 17 rfl) mwX12_id cX12_540 swX12_id rfl,
  f_istore_n (n := 2) (e_dx DX12_caution_0 18 rfl) rfl (by decide),
  f_aload_n (n := 0) (e_dx DX12_caution_0 19 rfl) rfl,
  f_getA (e_dx DX12_caution_0 20 rfl) fX12_109 rfl (by decide) (Nat.le_of_ble_eq_true rfl) rfl (by decide),
  f_iload_n (n := 2) (e_dx DX12_caution_0 21 rfl) rfl,
  f_aload_n (n := 0) (e_dx DX12_caution_0 22 rfl) rfl,
  f_getA (e_dx DX12_caution_0 23 rfl) fX12_202 rfl (by decide) (Nat.le_of_ble_eq_true rfl) rfl (by decide),
  f_iconst (e_dx DX12_caution_0 24 rfl) ⟨by decide, by decide⟩,
  f_iaload (e_dx DX12_caution_0 25 rfl),
  f_iastore (e_dx DX12_caution_0 26 rfl),
  f_aload_n (n := 0) (e_dx DX12_caution_0 27 rfl) rfl,
  f_getA (e_dx DX12_caution_0 28 rfl) fX12_103 rfl (by decide) (Nat.le_of_ble_eq_true rfl) rfl (by decide),
  f_iload_n (n := 2) (e_dx DX12_caution_0 29 rfl) rfl,
  f_aload_n (n := 0) (e_dx DX12_caution_0 30 rfl) rfl,
  f_getf (e_dx DX12_caution_0 31 rfl) fX12_543 rfl (by decide) (by decide) (by decide),
  f_sipush (e_dx DX12_caution_0 32 rfl) ⟨by decide, by decide⟩,
  f_iadd (e_dx DX12_caution_0 33 rfl),
  f_iastore (e_dx DX12_caution_0 34 rfl),
  f_aload_n (n := 0) (e_dx DX12_caution_0 35 rfl) rfl,
  f_iload_n (n := 2) (e_dx DX12_caution_0 36 rfl) rfl,
  f_iconst (e_dx DX12_caution_0 37 rfl) ⟨by decide, by decide⟩,
  f_aload_n (n := 0) (e_dx DX12_caution_0 38 rfl) rfl,
  f_getA (e_dx DX12_caution_0 39 rfl) fX12_202 rfl (by decide) (Nat.le_of_ble_eq_true rfl) rfl (by decide),
  f_iconst (e_dx DX12_caution_1 0 rfl) ⟨by decide, by decide⟩,
  f_iaload (e_dx DX12_caution_1 1 rfl),
  x_callV (e_dx DX12_caution_1 2 rfl) mwX12_inOn vwX12_inOn cX12_720 rfl,
  f_iconst (e_dx DX12_caution_1 3 rfl) ⟨by decide, by decide⟩,
  ⟨(e_dx DX12_caution_1 4 rfl), rfl⟩, trivial⟩
def lX12_caution (c_X12_full : Int → Int → e_M → (Int → Prop) → Prop) (c_X12_make : Int → Int → e_M → (Int → e_M → Prop) → Prop) (c_X12_id : Int → Int → e_M → (Int → Prop) → Prop) (c_X12_inOn : Int → Int → Int → e_M → (e_M → Prop) → Prop) : List (Nat × f_Wt) := [(0, f_wm [(4466, 12, 123), (1, 0, 0), (1, 0, 0)] (fun ar M R => c_X12_full (f_vi (f_nth ar 1)) (f_vi (f_nth ar 2)) M (fun r => R (some (.inl r)) M))), (1, f_wm [(4466, 12, 123), (1, 0, 0), (2, 0, 0)] (fun ar M R => c_X12_make (f_vi (f_nth ar 1)) (f_vi (f_nth ar 2)) M (fun r M => R (some (.inl r)) M))), (2, f_wm [(1, 0, 0), (1, 0, 0)] (fun ar M R => c_X12_id (f_vi (f_nth ar 0)) (f_vi (f_nth ar 1)) M (fun r => R (some (.inl r)) M))), (3, f_wm [(4466, 12, 123), (1, 0, 0), (1, 0, 0), (1, 0, 0)] (fun ar M R => c_X12_inOn (f_vi (f_nth ar 1)) (f_vi (f_nth ar 2)) (f_vi (f_nth ar 3)) M (fun M => R none M)))]
set_option maxRecDepth 20000 in
theorem BX12_caution {sh : Nat → Nat × Nat} {t : Nat} {rm : Nat × Nat × Nat} {cs : Nat × Nat} {R : f_Rt} {c_X12_full : Int → Int → e_M → (Int → Prop) → Prop} {c_X12_make : Int → Int → e_M → (Int → e_M → Prop) → Prop} {c_X12_id : Int → Int → e_M → (Int → Prop) → Prop} {c_X12_inOn : Int → Int → Int → e_M → (e_M → Prop) → Prop} {x1 : Int} {M : e_M} (C : f_Hy sh t yX12_caution rm cs 6 (lX12_caution c_X12_full c_X12_make c_X12_id c_X12_inOn) R) (h : VX12_caution c_X12_full c_X12_make c_X12_id c_X12_inOn (fun r M => R (some (.inl r)) M) x1 M) : f_E sh t YX12_caution rm cs (f_Q sh t R) 0 [.inr (.inr (.inl (12, 123, 4456))), .inl x1, .inr (.inr (.inr ()))] [] M :=
  f_go (KC := f_kc []) C qX12_cautionf f_kc_nil 47 0 h
def WX12_caution (x1 : Int) (M : e_M) (Q : Int → e_M → Prop) : Prop :=
  VX12_caution WX12_full WX12_make WX12_id WX12_inOn Q x1 M
theorem PX12_caution {sh : Nat → Nat × Nat} {t : Nat} {rm : Nat × Nat × Nat} {cs : Nat × Nat} {R : f_Rt} {x1 : Int} {M : e_M} (C : f_Hy sh t yX12_caution rm cs 6 (lX12_caution WX12_full WX12_make WX12_id WX12_inOn) R) (h : WX12_caution x1 M (fun r M => R (some (.inl r)) M)) : f_E sh t YX12_caution rm cs (f_Q sh t R) 0 [.inr (.inr (.inl (12, 123, 4456))), .inl x1, .inr (.inr (.inr ()))] [] M :=
  BX12_caution C h
def wX12_caution : f_Wt := f_wm [(4466, 12, 123), (1, 0, 0)] (fun ar M R => WX12_caution (f_vi (f_nth ar 1)) M (fun r M => R (some (.inl r)) M))
theorem TX12_caution {sh : Nat → Nat × Nat} {t : Nat} : f_Mt sh t YX12_caution 6 (wX12_caution) :=
  f_Mt_of (k := 1) (Nat.le_of_ble_eq_true rfl) rfl rfl (fun ar M R rm cs h1 h2 h3 hX h => PX12_caution ⟨Nat.le_of_ble_eq_true rfl, h1, h2, h3, ⟨(f_Mt.up (Nat.le_of_ble_eq_true rfl) TX12_full), (f_Mt.up (Nat.le_of_ble_eq_true rfl) TX12_make), (f_Mt.up (Nat.le_of_ble_eq_true rfl) TX12_id), (f_Mt.up (Nat.le_of_ble_eq_true rfl) TX12_inOn), trivial⟩, hX⟩ h)
def VX12_option (c_X12_areAble : Int → e_M → (Int → Prop) → Prop) (c_X12_isBarred : Int → Int → e_M → (Int → Prop) → Prop) (c_X12_full : Int → Int → e_M → (Int → Prop) → Prop) (c_X12_make : Int → Int → e_M → (Int → e_M → Prop) → Prop) (c_X12_id : Int → Int → e_M → (Int → Prop) → Prop) (c_X12_inOn : Int → Int → Int → e_M → (e_M → Prop) → Prop) (Q : Int → e_M → Prop) (x1 : Int) (M : e_M) : Prop :=
  ((0 ≤ (1 : Int) ∧ (1 : Int) < 10) ∧ ((0 ≤ x1 ∧ x1 < 152) ∧ (((M 4456 86) < (M 4465 (x1.toNat)) → (c_X12_areAble (M 4520 ((1 : Int).toNat)) M (fun r1 => ((¬ r1 = 0 → (c_X12_isBarred (M 4520 ((1 : Int).toNat)) (-1) M (fun r2 => ((r2 = 0 → (c_X12_full 6 1 M (fun r3 => ((r3 = 0 → ((0 ≤ (e_w32 ((10 : Int) * x1)) ∧ (e_w32 ((10 : Int) * x1)) < 1520) ∧ (c_X12_make 6 (M 4467 ((e_w32 ((10 : Int) * x1)).toNat)) M (fun r4 M5 => (c_X12_id 6 r4 M5 (fun r6 => ((0 ≤ (2 : Int) ∧ (2 : Int) < 10) ∧ ((0 ≤ r6 ∧ r6 < 560) ∧ (∀ M7 : e_M, M7 = e_up M5 4489 (r6.toNat) (M5 4520 ((2 : Int).toNat)) → ((0 ≤ x1 ∧ x1 < 152) ∧ ((0 ≤ r6 ∧ r6 < 560) ∧ (∀ M8 : e_M, M8 = e_up M7 4487 (r6.toNat) (M7 4465 (x1.toNat)) → (c_X12_inOn r6 0 (M 4520 ((1 : Int).toNat)) M8 (fun M9 => (Q 0 M9))))))))))))))) ∧ (¬ r3 = 0 → (Q 7 M)))))) ∧ (¬ r2 = 0 → (Q 4 M)))))) ∧ (r1 = 0 → (Q 2 M)))))) ∧ ((M 4465 (x1.toNat)) ≤ (M 4456 86) → (Q 8 M)))))
def yX12_option (i : Nat) : e_Y := x_get YX12_option [YX12_areAble, YX12_isBarred, YX12_full, YX12_make, YX12_id, YX12_inOn] i
def pX12_optionf : List x_I := [(0, 4, 1, 0, 0, 0, []), (1, 25, 12, 91, 4, 0, [(0, 20, 10), (0, 1, 64)]), (4, 0, 1, 0, 0, 1, []), (5, 27, 0, 0, 0, 0, []), (6, 5, 1, 2, 0, 0, []), (7, 4, 1, 0, 0, 0, []), (8, 25, 12, 18, 4, 0, [(0, 20, 152), (0, 1, 9)]), (11, 2, 1, 1, 0, 0, []), (12, 27, 0, 0, 0, 0, []), (13, 4, 1, 0, 0, 0, []), (14, 25, 12, 86, 0, 0, []), (17, 18, 23, 4, 15, 0, []), (20, 0, 2, 0, 0, 8, []), (22, 41, 0, 0, 0, 0, []), (23, 4, 1, 0, 0, 0, []), (24, 2, 1, 2, 0, 0, []), (25, 40, 0, 2, 14, 0, []), (28, 17, 33, 1, 21, 0, []), (31, 0, 1, 0, 0, 2, []), (32, 41, 0, 0, 0, 0, []), (33, 4, 1, 0, 0, 0, []), (34, 2, 1, 2, 0, 0, []), (35, 0, 1, 0, 0, (-1), []), (36, 40, 1, 3, 14, 0, []), (39, 17, 44, 0, 28, 0, []), (42, 0, 1, 0, 0, 4, []), (43, 41, 0, 0, 0, 0, []), (44, 4, 1, 0, 0, 0, []), (45, 0, 2, 0, 0, 6, []), (47, 0, 1, 0, 0, 1, []), (48, 40, 2, 3, 14, 0, []), (51, 17, 57, 0, 35, 0, []), (54, 0, 2, 0, 0, 7, []), (56, 41, 0, 0, 0, 0, []), (57, 0, 2, 0, 0, 6, []), (59, 4, 1, 0, 0, 0, []), (60, 0, 2, 0, 0, 6, []), (62, 4, 1, 0, 0, 0, []), (63, 25, 12, 20, 4, 0, [(0, 23, 1520), (0, 1, 11)]), (66, 0, 2, 0, 0, 10, []), (68, 2, 1, 1, 0, 0, []), (69, 9, 0, 2, 0, 0, []), (70, 27, 0, 1, 0, 0, []), (71, 40, 3, 3, 14, 0, []), (74, 40, 4, 2, 0, 0, []), (77, 5, 1, 3, 0, 0, []), (78, 4, 1, 0, 0, 0, []), (79, 25, 12, 56, 4, 0, [(0, 20, 560), (0, 1, 33)]), (82, 2, 1, 3, 0, 0, []), (83, 4, 1, 0, 0, 0, []), (84, 25, 12, 91, 4, 0, [(0, 20, 10), (0, 1, 64)]), (87, 0, 1, 0, 0, 2, []), (88, 27, 0, 0, 0, 0, []), (89, 28, 0, 0, 0, 0, []), (90, 4, 1, 0, 0, 0, []), (91, 25, 12, 54, 4, 0, [(0, 20, 560), (0, 1, 31)]), (94, 2, 1, 3, 0, 0, []), (95, 4, 1, 0, 0, 0, []), (96, 25, 12, 18, 4, 0, [(0, 20, 152), (0, 1, 9)]), (99, 2, 1, 1, 0, 0, []), (100, 27, 0, 0, 0, 0, []), (101, 28, 0, 0, 0, 0, []), (102, 4, 1, 0, 0, 0, []), (103, 2, 1, 3, 0, 0, []), (104, 0, 1, 0, 0, 0, []), (105, 2, 1, 2, 0, 0, []), (106, 40, 5, 4, 14, 0, []), (109, 0, 1, 0, 0, 0, []), (110, 41, 0, 0, 0, 0, [])]
set_option maxRecDepth 20000 in
theorem qX12_optionf : f_all yX12_option YX12_option pX12_optionf :=
  ⟨f_aload_n (n := 0) (e_dx DX12_option_0 0 rfl) rfl,
  f_getA (e_dx DX12_option_0 1 rfl) fX12_202 rfl (by decide) (Nat.le_of_ble_eq_true rfl) rfl (by decide),
  f_iconst (e_dx DX12_option_0 2 rfl) ⟨by decide, by decide⟩,
  f_iaload (e_dx DX12_option_0 3 rfl),
  f_istore_n (n := 2) (e_dx DX12_option_0 4 rfl) rfl (by decide),
  f_aload_n (n := 0) (e_dx DX12_option_0 5 rfl) rfl,
  f_getA (e_dx DX12_option_0 6 rfl) fX12_36 rfl (by decide) (Nat.le_of_ble_eq_true rfl) rfl (by decide),
  f_iload_n (n := 1) (e_dx DX12_option_0 7 rfl) rfl,
  f_iaload (e_dx DX12_option_0 8 rfl),
  f_aload_n (n := 0) (e_dx DX12_option_0 9 rfl) rfl,
  f_getf (e_dx DX12_option_0 10 rfl) fX12_543 rfl (by decide) (by decide) (by decide),
  f_icmp_gt (e_dx DX12_option_0 11 rfl) rfl,
  f_bipush (e_dx DX12_option_0 12 rfl) ⟨by decide, by decide⟩,
  ⟨(e_dx DX12_option_0 13 rfl), rfl⟩,
  f_aload_n (n := 0) (e_dx DX12_option_0 14 rfl) rfl,
  f_iload_n (n := 2) (e_dx DX12_option_0 15 rfl) rfl,
  x_callV (e_dx DX12_option_0 16 rfl) mwX12_areAble vwX12_areAble cX12_707 rfl,
  f_if_ne (e_dx DX12_option_0 17 rfl) rfl,
  f_iconst (e_dx DX12_option_0 18 rfl) ⟨by decide, by decide⟩,
  ⟨(e_dx DX12_option_0 19 rfl), rfl⟩,
  f_aload_n (n := 0) (e_dx DX12_option_0 20 rfl) rfl,
  f_iload_n (n := 2) (e_dx DX12_option_0 21 rfl) rfl,
  f_iconst (e_dx DX12_option_0 22 rfl) ⟨by decide, by decide⟩,
  x_callV (e_dx DX12_option_0 23 rfl) mwX12_isBarred vwX12_isBarred cX12_698 rfl,
  f_if_eq (e_dx DX12_option_0 24 rfl) rfl,
  f_iconst (e_dx DX12_option_0 25 rfl) ⟨by decide, by decide⟩,
  ⟨(e_dx DX12_option_0 26 rfl), rfl⟩,
  f_aload_n (n := 0) (e_dx DX12_option_0 27 rfl) rfl,
  f_bipush (e_dx DX12_option_0 28 rfl) ⟨by decide, by decide⟩,
  f_iconst (e_dx DX12_option_0 29 rfl) ⟨by decide, by decide⟩,
  x_callV (e_dx DX12_option_0 30 rfl) mwX12_full vwX12_full cX12_660 rfl,
  f_if_eq (e_dx DX12_option_0 31 rfl) rfl,
  f_bipush (e_dx DX12_option_0 32 rfl) ⟨by decide, by decide⟩,
  ⟨(e_dx DX12_option_0 33 rfl), rfl⟩,
  f_bipush (e_dx DX12_option_0 34 rfl) ⟨by decide, by decide⟩,
  f_aload_n (n := 0) (e_dx DX12_option_0 35 rfl) rfl,
  f_bipush (e_dx DX12_option_0 36 rfl) ⟨by decide, by decide⟩,
  f_aload_n (n := 0) (e_dx DX12_option_0 37 rfl) rfl,
  f_getA (e_dx DX12_option_0 38 rfl) fX12_42 rfl (by decide) (Nat.le_of_ble_eq_true rfl) rfl (by decide),
  f_bipush (e_dx DX12_option_0 39 rfl) ⟨by decide, by decide⟩,
  f_iload_n (n := 1) (e_dx DX12_option_1 0 rfl) rfl,
  f_imul (e_dx DX12_option_1 1 rfl),
  f_laload (e_dx DX12_option_1 2 rfl),
  x_callV (e_dx DX12_option_1 3 rfl) mwX12_make vwX12_make cX12_534 rfl,
  x_callS (e_dx DX12_option_1 4 rfl) mwX12_id cX12_540 swX12_id rfl,
  f_istore_n (n := 3) (e_dx DX12_option_1 5 rfl) rfl (by decide),
  f_aload_n (n := 0) (e_dx DX12_option_1 6 rfl) rfl,
  f_getA (e_dx DX12_option_1 7 rfl) fX12_109 rfl (by decide) (Nat.le_of_ble_eq_true rfl) rfl (by decide),
  f_iload_n (n := 3) (e_dx DX12_option_1 8 rfl) rfl,
  f_aload_n (n := 0) (e_dx DX12_option_1 9 rfl) rfl,
  f_getA (e_dx DX12_option_1 10 rfl) fX12_202 rfl (by decide) (Nat.le_of_ble_eq_true rfl) rfl (by decide),
  f_iconst (e_dx DX12_option_1 11 rfl) ⟨by decide, by decide⟩,
  f_iaload (e_dx DX12_option_1 12 rfl),
  f_iastore (e_dx DX12_option_1 13 rfl),
  f_aload_n (n := 0) (e_dx DX12_option_1 14 rfl) rfl,
  f_getA (e_dx DX12_option_1 15 rfl) fX12_103 rfl (by decide) (Nat.le_of_ble_eq_true rfl) rfl (by decide),
  f_iload_n (n := 3) (e_dx DX12_option_1 16 rfl) rfl,
  f_aload_n (n := 0) (e_dx DX12_option_1 17 rfl) rfl,
  f_getA (e_dx DX12_option_1 18 rfl) fX12_36 rfl (by decide) (Nat.le_of_ble_eq_true rfl) rfl (by decide),
  f_iload_n (n := 1) (e_dx DX12_option_1 19 rfl) rfl,
  f_iaload (e_dx DX12_option_1 20 rfl),
  f_iastore (e_dx DX12_option_1 21 rfl),
  f_aload_n (n := 0) (e_dx DX12_option_1 22 rfl) rfl,
  f_iload_n (n := 3) (e_dx DX12_option_1 23 rfl) rfl,
  f_iconst (e_dx DX12_option_1 24 rfl) ⟨by decide, by decide⟩,
  f_iload_n (n := 2) (e_dx DX12_option_1 25 rfl) rfl,
  x_callV (e_dx DX12_option_1 26 rfl) mwX12_inOn vwX12_inOn cX12_720 rfl,
  f_iconst (e_dx DX12_option_1 27 rfl) ⟨by decide, by decide⟩,
  ⟨(e_dx DX12_option_1 28 rfl), rfl⟩, trivial⟩
def lX12_option (c_X12_areAble : Int → e_M → (Int → Prop) → Prop) (c_X12_isBarred : Int → Int → e_M → (Int → Prop) → Prop) (c_X12_full : Int → Int → e_M → (Int → Prop) → Prop) (c_X12_make : Int → Int → e_M → (Int → e_M → Prop) → Prop) (c_X12_id : Int → Int → e_M → (Int → Prop) → Prop) (c_X12_inOn : Int → Int → Int → e_M → (e_M → Prop) → Prop) : List (Nat × f_Wt) := [(0, f_wm [(4466, 12, 123), (1, 0, 0)] (fun ar M R => c_X12_areAble (f_vi (f_nth ar 1)) M (fun r => R (some (.inl r)) M))), (1, f_wm [(4466, 12, 123), (1, 0, 0), (1, 0, 0)] (fun ar M R => c_X12_isBarred (f_vi (f_nth ar 1)) (f_vi (f_nth ar 2)) M (fun r => R (some (.inl r)) M))), (2, f_wm [(4466, 12, 123), (1, 0, 0), (1, 0, 0)] (fun ar M R => c_X12_full (f_vi (f_nth ar 1)) (f_vi (f_nth ar 2)) M (fun r => R (some (.inl r)) M))), (3, f_wm [(4466, 12, 123), (1, 0, 0), (2, 0, 0)] (fun ar M R => c_X12_make (f_vi (f_nth ar 1)) (f_vi (f_nth ar 2)) M (fun r M => R (some (.inl r)) M))), (4, f_wm [(1, 0, 0), (1, 0, 0)] (fun ar M R => c_X12_id (f_vi (f_nth ar 0)) (f_vi (f_nth ar 1)) M (fun r => R (some (.inl r)) M))), (5, f_wm [(4466, 12, 123), (1, 0, 0), (1, 0, 0), (1, 0, 0)] (fun ar M R => c_X12_inOn (f_vi (f_nth ar 1)) (f_vi (f_nth ar 2)) (f_vi (f_nth ar 3)) M (fun M => R none M)))]
set_option maxRecDepth 20000 in
theorem BX12_option {sh : Nat → Nat × Nat} {t : Nat} {rm : Nat × Nat × Nat} {cs : Nat × Nat} {R : f_Rt} {c_X12_areAble : Int → e_M → (Int → Prop) → Prop} {c_X12_isBarred : Int → Int → e_M → (Int → Prop) → Prop} {c_X12_full : Int → Int → e_M → (Int → Prop) → Prop} {c_X12_make : Int → Int → e_M → (Int → e_M → Prop) → Prop} {c_X12_id : Int → Int → e_M → (Int → Prop) → Prop} {c_X12_inOn : Int → Int → Int → e_M → (e_M → Prop) → Prop} {x1 : Int} {M : e_M} (C : f_Hy sh t yX12_option rm cs 11 (lX12_option c_X12_areAble c_X12_isBarred c_X12_full c_X12_make c_X12_id c_X12_inOn) R) (h : VX12_option c_X12_areAble c_X12_isBarred c_X12_full c_X12_make c_X12_id c_X12_inOn (fun r M => R (some (.inl r)) M) x1 M) : f_E sh t YX12_option rm cs (f_Q sh t R) 0 [.inr (.inr (.inl (12, 123, 4456))), .inl x1, .inr (.inr (.inr ())), .inr (.inr (.inr ()))] [] M :=
  f_go (KC := f_kc []) C qX12_optionf f_kc_nil 71 0 h
def WX12_option (x1 : Int) (M : e_M) (Q : Int → e_M → Prop) : Prop :=
  VX12_option WX12_areAble WX12_isBarred WX12_full WX12_make WX12_id WX12_inOn Q x1 M
theorem PX12_option {sh : Nat → Nat × Nat} {t : Nat} {rm : Nat × Nat × Nat} {cs : Nat × Nat} {R : f_Rt} {x1 : Int} {M : e_M} (C : f_Hy sh t yX12_option rm cs 11 (lX12_option WX12_areAble WX12_isBarred WX12_full WX12_make WX12_id WX12_inOn) R) (h : WX12_option x1 M (fun r M => R (some (.inl r)) M)) : f_E sh t YX12_option rm cs (f_Q sh t R) 0 [.inr (.inr (.inl (12, 123, 4456))), .inl x1, .inr (.inr (.inr ())), .inr (.inr (.inr ()))] [] M :=
  BX12_option C h
def wX12_option : f_Wt := f_wm [(4466, 12, 123), (1, 0, 0)] (fun ar M R => WX12_option (f_vi (f_nth ar 1)) M (fun r M => R (some (.inl r)) M))
theorem TX12_option {sh : Nat → Nat × Nat} {t : Nat} : f_Mt sh t YX12_option 11 (wX12_option) :=
  f_Mt_of (k := 2) (Nat.le_of_ble_eq_true rfl) rfl rfl (fun ar M R rm cs h1 h2 h3 hX h => PX12_option ⟨Nat.le_of_ble_eq_true rfl, h1, h2, h3, ⟨(f_Mt.up (Nat.le_of_ble_eq_true rfl) TX12_areAble), (f_Mt.up (Nat.le_of_ble_eq_true rfl) TX12_isBarred), (f_Mt.up (Nat.le_of_ble_eq_true rfl) TX12_full), (f_Mt.up (Nat.le_of_ble_eq_true rfl) TX12_make), (f_Mt.up (Nat.le_of_ble_eq_true rfl) TX12_id), (f_Mt.up (Nat.le_of_ble_eq_true rfl) TX12_inOn), trivial⟩, hX⟩ h)
def VX12_isOthers_15 (k19 : Int → Int → Int → Int → Prop) (Q : Int → Prop) (x1 : Int) (x2 : Int) (xs0 : Int) (M : e_M) : Prop :=
  (k19 x1 x2 xs0 0)
def VX12_isOthers_19 (k54 : Int → Int → Int → Prop) (k55 : Int → Int → Int → Int → Prop) (Q : Int → Prop) (x1 : Int) (x2 : Int) (x3 : Int) (x4 : Int) (M : e_M) : Prop :=
  ((0 ≤ x1 ∧ x1 < 60) ∧ (((M 4510 (x1.toNat)) ≤ x4 → ((x3 = 0 ∨ x3 = 1) ∧ Q x3)) ∧ (x4 < (M 4510 (x1.toNat)) → ((x3 = 0 → (k54 x1 x2 x4)) ∧ (¬ x3 = 0 → ((0 ≤ (e_w32 ((e_w32 ((6 : Int) * x1)) + x4)) ∧ (e_w32 ((e_w32 ((6 : Int) * x1)) + x4)) < 360) ∧ (((M 4511 ((e_w32 ((e_w32 ((6 : Int) * x1)) + x4)).toNat)) = x2 → (k54 x1 x2 x4)) ∧ (¬ (M 4511 ((e_w32 ((e_w32 ((6 : Int) * x1)) + x4)).toNat)) = x2 → (k55 x1 x2 x4 1)))))))))
def VX12_isOthers_54 (k55 : Int → Int → Int → Int → Prop) (Q : Int → Prop) (x1 : Int) (x2 : Int) (x4 : Int) (M : e_M) : Prop :=
  (k55 x1 x2 x4 0)
def VX12_isOthers_55 (k19 : Int → Int → Int → Int → Prop) (Q : Int → Prop) (x1 : Int) (x2 : Int) (x4 : Int) (xs0 : Int) (M : e_M) : Prop :=
  (k19 x1 x2 xs0 (e_w32 (x4 + 1)))
def VX12_isOthers (k15 : Int → Int → Int → Prop) (Q : Int → Prop) (x1 : Int) (x2 : Int) (M : e_M) : Prop :=
  ((0 ≤ x1 ∧ x1 < 60) ∧ (((M 4507 (x1.toNat)) = x2 → (k15 x1 x2 0)) ∧ (¬ (M 4507 (x1.toNat)) = x2 → (k15 x1 x2 1))))
def yX12_isOthers (i : Nat) : e_Y := x_get YX12_isOthers [] i
def pX12_isOthersf : List x_I := [(0, 4, 1, 0, 0, 0, []), (1, 25, 12, 75, 4, 0, [(0, 20, 60), (0, 1, 51)]), (4, 2, 1, 1, 0, 0, []), (5, 27, 0, 0, 0, 0, []), (6, 2, 1, 2, 0, 0, []), (7, 18, 14, 0, 9, 0, []), (10, 0, 1, 0, 0, 1, []), (11, 19, 15, 0, 10, 0, []), (14, 0, 1, 0, 0, 0, []), (15, 49, 0, 0, 0, 0, []), (15, 5, 1, 3, 0, 0, []), (16, 0, 1, 0, 0, 0, []), (17, 5, 2, 4, 0, 0, []), (19, 49, 0, 0, 0, 0, []), (19, 2, 2, 4, 0, 0, []), (21, 4, 1, 0, 0, 0, []), (22, 25, 12, 78, 4, 0, [(0, 20, 60), (0, 1, 54)]), (25, 2, 1, 1, 0, 0, []), (26, 27, 0, 0, 0, 0, []), (27, 18, 62, 3, 41, 0, []), (30, 2, 1, 3, 0, 0, []), (31, 17, 54, 0, 35, 0, []), (34, 4, 1, 0, 0, 0, []), (35, 25, 12, 79, 4, 0, [(0, 20, 360), (0, 1, 55)]), (38, 0, 2, 0, 0, 6, []), (40, 2, 1, 1, 0, 0, []), (41, 9, 0, 2, 0, 0, []), (42, 2, 2, 4, 0, 0, []), (44, 9, 0, 0, 0, 0, []), (45, 27, 0, 0, 0, 0, []), (46, 2, 1, 2, 0, 0, []), (47, 18, 54, 0, 35, 0, []), (50, 0, 1, 0, 0, 1, []), (51, 19, 55, 0, 37, 0, []), (54, 49, 0, 0, 0, 0, []), (54, 0, 1, 0, 0, 0, []), (55, 49, 0, 0, 0, 0, []), (55, 5, 1, 3, 0, 0, []), (56, 8, 0, 4, 0, 1, []), (59, 19, 19, 0, 14, 0, []), (62, 2, 1, 3, 0, 0, []), (63, 42, 0, 0, 0, 0, [])]
set_option maxRecDepth 20000 in
theorem qX12_isOthersf : f_all yX12_isOthers YX12_isOthers pX12_isOthersf :=
  ⟨f_aload_n (n := 0) (e_dx DX12_isOthers_0 0 rfl) rfl,
  f_getA (e_dx DX12_isOthers_0 1 rfl) fX12_163 rfl (by decide) (Nat.le_of_ble_eq_true rfl) rfl (by decide),
  f_iload_n (n := 1) (e_dx DX12_isOthers_0 2 rfl) rfl,
  f_iaload (e_dx DX12_isOthers_0 3 rfl),
  f_iload_n (n := 2) (e_dx DX12_isOthers_0 4 rfl) rfl,
  f_icmp_eq (e_dx DX12_isOthers_0 5 rfl) rfl,
  f_iconst (e_dx DX12_isOthers_0 6 rfl) ⟨by decide, by decide⟩,
  f_g19 (e_dx DX12_isOthers_0 7 rfl) rfl,
  f_iconst (e_dx DX12_isOthers_0 8 rfl) ⟨by decide, by decide⟩,
  trivial,
  f_istore_n (n := 3) (e_dx DX12_isOthers_0 9 rfl) rfl (by decide),
  f_iconst (e_dx DX12_isOthers_0 10 rfl) ⟨by decide, by decide⟩,
  f_istore (e_dx DX12_isOthers_0 11 rfl) (by decide),
  trivial,
  f_iload (e_dx DX12_isOthers_0 12 rfl),
  f_aload_n (n := 0) (e_dx DX12_isOthers_0 13 rfl) rfl,
  f_getA (e_dx DX12_isOthers_0 14 rfl) fX12_172 rfl (by decide) (Nat.le_of_ble_eq_true rfl) rfl (by decide),
  f_iload_n (n := 1) (e_dx DX12_isOthers_0 15 rfl) rfl,
  f_iaload (e_dx DX12_isOthers_0 16 rfl),
  f_icmp_ge (e_dx DX12_isOthers_0 17 rfl) rfl,
  f_iload_n (n := 3) (e_dx DX12_isOthers_0 18 rfl) rfl,
  f_if_eq (e_dx DX12_isOthers_0 19 rfl) rfl,
  f_aload_n (n := 0) (e_dx DX12_isOthers_0 20 rfl) rfl,
  f_getA (e_dx DX12_isOthers_0 21 rfl) fX12_175 rfl (by decide) (Nat.le_of_ble_eq_true rfl) rfl (by decide),
  f_bipush (e_dx DX12_isOthers_0 22 rfl) ⟨by decide, by decide⟩,
  f_iload_n (n := 1) (e_dx DX12_isOthers_0 23 rfl) rfl,
  f_imul (e_dx DX12_isOthers_0 24 rfl),
  f_iload (e_dx DX12_isOthers_0 25 rfl),
  f_iadd (e_dx DX12_isOthers_0 26 rfl),
  f_iaload (e_dx DX12_isOthers_0 27 rfl),
  f_iload_n (n := 2) (e_dx DX12_isOthers_0 28 rfl) rfl,
  f_icmp_eq (e_dx DX12_isOthers_0 29 rfl) rfl,
  f_iconst (e_dx DX12_isOthers_0 30 rfl) ⟨by decide, by decide⟩,
  f_g19 (e_dx DX12_isOthers_0 31 rfl) rfl,
  trivial,
  f_iconst (e_dx DX12_isOthers_0 32 rfl) ⟨by decide, by decide⟩,
  trivial,
  f_istore_n (n := 3) (e_dx DX12_isOthers_0 33 rfl) rfl (by decide),
  f_g8 (e_dx DX12_isOthers_0 34 rfl) ⟨by decide, by decide⟩,
  f_g19 (e_dx DX12_isOthers_0 35 rfl) rfl,
  f_iload_n (n := 3) (e_dx DX12_isOthers_0 36 rfl) rfl,
  ⟨(e_dx DX12_isOthers_0 37 rfl), rfl⟩, trivial⟩
def lX12_isOthers : List (Nat × f_Wt) := []
set_option maxRecDepth 20000 in
theorem BX12_isOthers_15 {sh : Nat → Nat × Nat} {t : Nat} {rm : Nat × Nat × Nat} {cs : Nat × Nat} {R : f_Rt} {k19 : Int → Int → Int → Int → Prop} {x1 : Int} {x2 : Int} {xs0 : Int} {M : e_M} (C : f_Hy sh t yX12_isOthers rm cs 4 (lX12_isOthers) R) (h19 : ∀ (x1 : Int) (x2 : Int) (x3 : Int) (x4 : Int), k19 x1 x2 x3 x4 → f_E sh t YX12_isOthers rm cs (f_Q sh t R) 19 [.inr (.inr (.inl (12, 123, 4456))), .inl x1, .inl x2, .inl x3, .inl x4] [] M) (h : VX12_isOthers_15 k19 (fun r => R (some (.inl r)) M) x1 x2 xs0 M) : f_E sh t YX12_isOthers rm cs (f_Q sh t R) 15 [.inr (.inr (.inl (12, 123, 4456))), .inl x1, .inl x2, .inr (.inr (.inr ())), .inr (.inr (.inr ()))] [.inl xs0] M := by
  rw [f_kk4 M k19] at h
  exact f_go (KC := f_kc [(19, f_pl [(4466, 12, 123), (1, 0, 0), (1, 0, 0), (1, 0, 0), (1, 0, 0)] [] (fun ls st M2 => M2 = M ∧ (k19 (f_vi (f_nth ls 1)) (f_vi (f_nth ls 2)) (f_vi (f_nth ls 3)) (f_vi (f_nth ls 4)))))]) C qX12_isOthersf (f_kc_cons (f_pl_ok rfl (fun ls st M2 ⟨e, hh⟩ => by subst e; exact h19 _ _ _ _ hh)) f_kc_nil) 44 10 h
set_option maxRecDepth 20000 in
theorem BX12_isOthers_19 {sh : Nat → Nat × Nat} {t : Nat} {rm : Nat × Nat × Nat} {cs : Nat × Nat} {R : f_Rt} {k54 : Int → Int → Int → Prop} {k55 : Int → Int → Int → Int → Prop} {x1 : Int} {x2 : Int} {x3 : Int} {x4 : Int} {M : e_M} (C : f_Hy sh t yX12_isOthers rm cs 4 (lX12_isOthers) R) (h54 : ∀ (x1 : Int) (x2 : Int) (x4 : Int), k54 x1 x2 x4 → f_E sh t YX12_isOthers rm cs (f_Q sh t R) 54 [.inr (.inr (.inl (12, 123, 4456))), .inl x1, .inl x2, .inr (.inr (.inr ())), .inl x4] [] M) (h55 : ∀ (x1 : Int) (x2 : Int) (x4 : Int) (xs0 : Int), k55 x1 x2 x4 xs0 → f_E sh t YX12_isOthers rm cs (f_Q sh t R) 55 [.inr (.inr (.inl (12, 123, 4456))), .inl x1, .inl x2, .inr (.inr (.inr ())), .inl x4] [.inl xs0] M) (h : VX12_isOthers_19 k54 k55 (fun r => R (some (.inl r)) M) x1 x2 x3 x4 M) : f_E sh t YX12_isOthers rm cs (f_Q sh t R) 19 [.inr (.inr (.inl (12, 123, 4456))), .inl x1, .inl x2, .inl x3, .inl x4] [] M := by
  rw [f_kk3 M k54] at h
  rw [f_kk4 M k55] at h
  exact f_go (KC := f_kc [(54, f_pl [(4466, 12, 123), (1, 0, 0), (1, 0, 0), (0, 0, 0), (1, 0, 0)] [] (fun ls st M2 => M2 = M ∧ (k54 (f_vi (f_nth ls 1)) (f_vi (f_nth ls 2)) (f_vi (f_nth ls 4))))), (55, f_pl [(4466, 12, 123), (1, 0, 0), (1, 0, 0), (0, 0, 0), (1, 0, 0)] [(1, 0, 0)] (fun ls st M2 => M2 = M ∧ (k55 (f_vi (f_nth ls 1)) (f_vi (f_nth ls 2)) (f_vi (f_nth ls 4)) (f_vi (f_nth st 0)))))]) C qX12_isOthersf (f_kc_cons (f_pl_ok rfl (fun ls st M2 ⟨e, hh⟩ => by subst e; exact h54 _ _ _ hh)) (f_kc_cons (f_pl_ok rfl (fun ls st M2 ⟨e, hh⟩ => by subst e; exact h55 _ _ _ _ hh)) f_kc_nil)) 44 14 h
set_option maxRecDepth 20000 in
theorem BX12_isOthers_54 {sh : Nat → Nat × Nat} {t : Nat} {rm : Nat × Nat × Nat} {cs : Nat × Nat} {R : f_Rt} {k55 : Int → Int → Int → Int → Prop} {x1 : Int} {x2 : Int} {x4 : Int} {M : e_M} (C : f_Hy sh t yX12_isOthers rm cs 4 (lX12_isOthers) R) (h55 : ∀ (x1 : Int) (x2 : Int) (x4 : Int) (xs0 : Int), k55 x1 x2 x4 xs0 → f_E sh t YX12_isOthers rm cs (f_Q sh t R) 55 [.inr (.inr (.inl (12, 123, 4456))), .inl x1, .inl x2, .inr (.inr (.inr ())), .inl x4] [.inl xs0] M) (h : VX12_isOthers_54 k55 (fun r => R (some (.inl r)) M) x1 x2 x4 M) : f_E sh t YX12_isOthers rm cs (f_Q sh t R) 54 [.inr (.inr (.inl (12, 123, 4456))), .inl x1, .inl x2, .inr (.inr (.inr ())), .inl x4] [] M := by
  rw [f_kk4 M k55] at h
  exact f_go (KC := f_kc [(55, f_pl [(4466, 12, 123), (1, 0, 0), (1, 0, 0), (0, 0, 0), (1, 0, 0)] [(1, 0, 0)] (fun ls st M2 => M2 = M ∧ (k55 (f_vi (f_nth ls 1)) (f_vi (f_nth ls 2)) (f_vi (f_nth ls 4)) (f_vi (f_nth st 0)))))]) C qX12_isOthersf (f_kc_cons (f_pl_ok rfl (fun ls st M2 ⟨e, hh⟩ => by subst e; exact h55 _ _ _ _ hh)) f_kc_nil) 44 35 h
set_option maxRecDepth 20000 in
theorem BX12_isOthers_55 {sh : Nat → Nat × Nat} {t : Nat} {rm : Nat × Nat × Nat} {cs : Nat × Nat} {R : f_Rt} {k19 : Int → Int → Int → Int → Prop} {x1 : Int} {x2 : Int} {x4 : Int} {xs0 : Int} {M : e_M} (C : f_Hy sh t yX12_isOthers rm cs 4 (lX12_isOthers) R) (h19 : ∀ (x1 : Int) (x2 : Int) (x3 : Int) (x4 : Int), k19 x1 x2 x3 x4 → f_E sh t YX12_isOthers rm cs (f_Q sh t R) 19 [.inr (.inr (.inl (12, 123, 4456))), .inl x1, .inl x2, .inl x3, .inl x4] [] M) (h : VX12_isOthers_55 k19 (fun r => R (some (.inl r)) M) x1 x2 x4 xs0 M) : f_E sh t YX12_isOthers rm cs (f_Q sh t R) 55 [.inr (.inr (.inl (12, 123, 4456))), .inl x1, .inl x2, .inr (.inr (.inr ())), .inl x4] [.inl xs0] M := by
  rw [f_kk4 M k19] at h
  exact f_go (KC := f_kc [(19, f_pl [(4466, 12, 123), (1, 0, 0), (1, 0, 0), (1, 0, 0), (1, 0, 0)] [] (fun ls st M2 => M2 = M ∧ (k19 (f_vi (f_nth ls 1)) (f_vi (f_nth ls 2)) (f_vi (f_nth ls 3)) (f_vi (f_nth ls 4)))))]) C qX12_isOthersf (f_kc_cons (f_pl_ok rfl (fun ls st M2 ⟨e, hh⟩ => by subst e; exact h19 _ _ _ _ hh)) f_kc_nil) 44 37 h
set_option maxRecDepth 20000 in
theorem BX12_isOthers {sh : Nat → Nat × Nat} {t : Nat} {rm : Nat × Nat × Nat} {cs : Nat × Nat} {R : f_Rt} {k15 : Int → Int → Int → Prop} {x1 : Int} {x2 : Int} {M : e_M} (C : f_Hy sh t yX12_isOthers rm cs 4 (lX12_isOthers) R) (h15 : ∀ (x1 : Int) (x2 : Int) (xs0 : Int), k15 x1 x2 xs0 → f_E sh t YX12_isOthers rm cs (f_Q sh t R) 15 [.inr (.inr (.inl (12, 123, 4456))), .inl x1, .inl x2, .inr (.inr (.inr ())), .inr (.inr (.inr ()))] [.inl xs0] M) (h : VX12_isOthers k15 (fun r => R (some (.inl r)) M) x1 x2 M) : f_E sh t YX12_isOthers rm cs (f_Q sh t R) 0 [.inr (.inr (.inl (12, 123, 4456))), .inl x1, .inl x2, .inr (.inr (.inr ())), .inr (.inr (.inr ()))] [] M := by
  rw [f_kk3 M k15] at h
  exact f_go (KC := f_kc [(15, f_pl [(4466, 12, 123), (1, 0, 0), (1, 0, 0), (0, 0, 0), (0, 0, 0)] [(1, 0, 0)] (fun ls st M2 => M2 = M ∧ (k15 (f_vi (f_nth ls 1)) (f_vi (f_nth ls 2)) (f_vi (f_nth st 0)))))]) C qX12_isOthersf (f_kc_cons (f_pl_ok rfl (fun ls st M2 ⟨e, hh⟩ => by subst e; exact h15 _ _ _ hh)) f_kc_nil) 44 0 h
def WX12_isOthers_55 (M : e_M) (H19 : Int → Int → Int → Int → Prop) (Q : Int → Prop) (x1 : Int) (x2 : Int) (x4 : Int) (xs0 : Int) : Prop :=
  VX12_isOthers_55 H19 Q x1 x2 x4 xs0 M
def WX12_isOthers_54 (M : e_M) (H19 : Int → Int → Int → Int → Prop) (Q : Int → Prop) (x1 : Int) (x2 : Int) (x4 : Int) : Prop :=
  VX12_isOthers_54 (WX12_isOthers_55 M H19 Q) Q x1 x2 x4 M
def WX12_isOthers_19 (M : e_M) (Q : Int → Prop) : Nat → Int → Int → Int → Int → Prop
  | 0, _, _, _, _ => False
  | n + 1, x1, x2, x3, x4 =>
    VX12_isOthers_19 (WX12_isOthers_54 M (WX12_isOthers_19 M Q n) Q) (WX12_isOthers_55 M (WX12_isOthers_19 M Q n) Q) Q x1 x2 x3 x4 M
def WX12_isOthers_15 (M : e_M) (Q : Int → Prop) (x1 : Int) (x2 : Int) (xs0 : Int) : Prop :=
  VX12_isOthers_15 (fun x1 x2 x3 x4 => ∃ j, WX12_isOthers_19 M Q j x1 x2 x3 x4) Q x1 x2 xs0 M
def WX12_isOthers (x1 : Int) (x2 : Int) (M : e_M) (Q : Int → Prop) : Prop :=
  VX12_isOthers (WX12_isOthers_15 M Q) Q x1 x2 M
theorem PX12_isOthers_55 {sh : Nat → Nat × Nat} {t : Nat} {rm : Nat × Nat × Nat} {cs : Nat × Nat} {R : f_Rt} {H19 : Int → Int → Int → Int → Prop} {x1 : Int} {x2 : Int} {x4 : Int} {xs0 : Int} {M : e_M} (C : f_Hy sh t yX12_isOthers rm cs 4 (lX12_isOthers) R) (g19 : ∀ (x1 : Int) (x2 : Int) (x3 : Int) (x4 : Int), H19 x1 x2 x3 x4 → f_E sh t YX12_isOthers rm cs (f_Q sh t R) 19 [.inr (.inr (.inl (12, 123, 4456))), .inl x1, .inl x2, .inl x3, .inl x4] [] M) (h : WX12_isOthers_55 M H19 (fun r => R (some (.inl r)) M) x1 x2 x4 xs0) : f_E sh t YX12_isOthers rm cs (f_Q sh t R) 55 [.inr (.inr (.inl (12, 123, 4456))), .inl x1, .inl x2, .inr (.inr (.inr ())), .inl x4] [.inl xs0] M :=
  BX12_isOthers_55 C g19 h
theorem PX12_isOthers_54 {sh : Nat → Nat × Nat} {t : Nat} {rm : Nat × Nat × Nat} {cs : Nat × Nat} {R : f_Rt} {H19 : Int → Int → Int → Int → Prop} {x1 : Int} {x2 : Int} {x4 : Int} {M : e_M} (C : f_Hy sh t yX12_isOthers rm cs 4 (lX12_isOthers) R) (g19 : ∀ (x1 : Int) (x2 : Int) (x3 : Int) (x4 : Int), H19 x1 x2 x3 x4 → f_E sh t YX12_isOthers rm cs (f_Q sh t R) 19 [.inr (.inr (.inl (12, 123, 4456))), .inl x1, .inl x2, .inl x3, .inl x4] [] M) (h : WX12_isOthers_54 M H19 (fun r => R (some (.inl r)) M) x1 x2 x4) : f_E sh t YX12_isOthers rm cs (f_Q sh t R) 54 [.inr (.inr (.inl (12, 123, 4456))), .inl x1, .inl x2, .inr (.inr (.inr ())), .inl x4] [] M :=
  BX12_isOthers_54 C (fun x1 x2 x4 xs0 h => PX12_isOthers_55 C g19 h) h
theorem PX12_isOthers_19 {sh : Nat → Nat × Nat} {t : Nat} {rm : Nat × Nat × Nat} {cs : Nat × Nat} {R : f_Rt} {M : e_M} (C : f_Hy sh t yX12_isOthers rm cs 4 (lX12_isOthers) R) : ∀ (n : Nat) (x1 : Int) (x2 : Int) (x3 : Int) (x4 : Int), WX12_isOthers_19 M (fun r => R (some (.inl r)) M) n x1 x2 x3 x4 → f_E sh t YX12_isOthers rm cs (f_Q sh t R) 19 [.inr (.inr (.inl (12, 123, 4456))), .inl x1, .inl x2, .inl x3, .inl x4] [] M := by
  intro n
  induction n with
  | zero => intro x1 x2 x3 x4 h; exact h.elim
  | succ n ih => intro x1 x2 x3 x4 h; exact BX12_isOthers_19 C (fun x1 x2 x4 h => PX12_isOthers_54 C ih h) (fun x1 x2 x4 xs0 h => PX12_isOthers_55 C ih h) h
theorem PX12_isOthers_15 {sh : Nat → Nat × Nat} {t : Nat} {rm : Nat × Nat × Nat} {cs : Nat × Nat} {R : f_Rt} {x1 : Int} {x2 : Int} {xs0 : Int} {M : e_M} (C : f_Hy sh t yX12_isOthers rm cs 4 (lX12_isOthers) R) (h : WX12_isOthers_15 M (fun r => R (some (.inl r)) M) x1 x2 xs0) : f_E sh t YX12_isOthers rm cs (f_Q sh t R) 15 [.inr (.inr (.inl (12, 123, 4456))), .inl x1, .inl x2, .inr (.inr (.inr ())), .inr (.inr (.inr ()))] [.inl xs0] M :=
  BX12_isOthers_15 C (fun x1 x2 x3 x4 ⟨j, h⟩ => PX12_isOthers_19 C j _ _ _ _ h) h
theorem PX12_isOthers {sh : Nat → Nat × Nat} {t : Nat} {rm : Nat × Nat × Nat} {cs : Nat × Nat} {R : f_Rt} {x1 : Int} {x2 : Int} {M : e_M} (C : f_Hy sh t yX12_isOthers rm cs 4 (lX12_isOthers) R) (h : WX12_isOthers x1 x2 M (fun r => R (some (.inl r)) M)) : f_E sh t YX12_isOthers rm cs (f_Q sh t R) 0 [.inr (.inr (.inl (12, 123, 4456))), .inl x1, .inl x2, .inr (.inr (.inr ())), .inr (.inr (.inr ()))] [] M :=
  BX12_isOthers C (fun x1 x2 xs0 h => PX12_isOthers_15 C h) h
def wX12_isOthers : f_Wt := f_wm [(4466, 12, 123), (1, 0, 0), (1, 0, 0)] (fun ar M R => WX12_isOthers (f_vi (f_nth ar 1)) (f_vi (f_nth ar 2)) M (fun r => R (some (.inl r)) M))
theorem TX12_isOthers {sh : Nat → Nat × Nat} {t : Nat} : f_Mt sh t YX12_isOthers 4 (wX12_isOthers) :=
  f_Mt_of (k := 2) (Nat.le_of_ble_eq_true rfl) rfl rfl (fun ar M R rm cs h1 h2 h3 hX h => PX12_isOthers ⟨Nat.le_of_ble_eq_true rfl, h1, h2, h3, trivial, hX⟩ h)
def VX12_take_40 (c_X12_id : Int → Int → e_M → (Int → Prop) → Prop) (c_X12_isAble : Int → Int → e_M → (Int → Prop) → Prop) (c_X12_placeOn : Int → Int → e_M → (Int → Prop) → Prop) (c_X12_isOthers : Int → Int → e_M → (Int → Prop) → Prop) (c_X12_loads : Int → e_M → (e_M → Prop) → Prop) (c_X12_ownAt : Int → e_M → (Int → Prop) → Prop) (c_X12_gives : Int → Int → Int → e_M → (e_M → Prop) → Prop) (c_X12_gets : Int → Int → Int → e_M → (e_M → Prop) → Prop) (c_X12_isGreat : e_M → (Int → Prop) → Prop) (c_X12_keeps : Int → e_M → (e_M → Prop) → Prop) (k127 : Int → Int → e_M → Prop) (k121 : Int → Int → Int → e_M → Prop) (Q : Int → e_M → Prop) (x1 : Int) (x2 : Int) (x3 : Int) (M : e_M) : Prop :=
  ((x3 < 0 → (k127 x2 x3 M)) ∧ (0 ≤ x3 → ((0 ≤ x3 ∧ x3 < 60) ∧ (c_X12_placeOn x1 (M 4506 (x3.toNat)) M (fun r1 => ((r1 < 0 → (k121 x1 x2 x3 M)) ∧ (0 ≤ r1 → ((0 ≤ x3 ∧ x3 < 60) ∧ ((0 ≤ (M 4506 (x3.toNat)) ∧ (M 4506 (x3.toNat)) < 560) ∧ ((¬ (M 4485 ((M 4506 (x3.toNat)).toNat)) = 0 → (k121 x1 x2 x3 M)) ∧ ((M 4485 ((M 4506 (x3.toNat)).toNat)) = 0 → ((0 ≤ x3 ∧ x3 < 60) ∧ ((0 ≤ x1 ∧ x1 < 560) ∧ (((M 4509 (x3.toNat)) ≤ (M 4488 (x1.toNat)) → (k121 x1 x2 x3 M)) ∧ ((M 4488 (x1.toNat)) < (M 4509 (x3.toNat)) → ((0 ≤ x3 ∧ x3 < 60) ∧ ((60 < (e_w32 ((M 4456 86) - (M 4508 (x3.toNat)))) → (k121 x1 x2 x3 M)) ∧ ((e_w32 ((M 4456 86) - (M 4508 (x3.toNat)))) ≤ 60 → ((0 ≤ x3 ∧ x3 < 60) ∧ ((¬ (M 4516 (x3.toNat)) = 0 → (k121 x1 x2 x3 M)) ∧ ((M 4516 (x3.toNat)) = 0 → (c_X12_isOthers x3 x2 M (fun r2 => ((¬ r2 = 0 → (k127 x2 x3 M)) ∧ (r2 = 0 → (k121 x1 x2 x3 M))))))))))))))))))))))))))
def VX12_take_121 (c_X12_id : Int → Int → e_M → (Int → Prop) → Prop) (c_X12_isAble : Int → Int → e_M → (Int → Prop) → Prop) (c_X12_placeOn : Int → Int → e_M → (Int → Prop) → Prop) (c_X12_isOthers : Int → Int → e_M → (Int → Prop) → Prop) (c_X12_loads : Int → e_M → (e_M → Prop) → Prop) (c_X12_ownAt : Int → e_M → (Int → Prop) → Prop) (c_X12_gives : Int → Int → Int → e_M → (e_M → Prop) → Prop) (c_X12_gets : Int → Int → Int → e_M → (e_M → Prop) → Prop) (c_X12_isGreat : e_M → (Int → Prop) → Prop) (c_X12_keeps : Int → e_M → (e_M → Prop) → Prop) (k40 : Int → Int → Int → e_M → Prop) (Q : Int → e_M → Prop) (x1 : Int) (x2 : Int) (x3 : Int) (M : e_M) : Prop :=
  (k40 x1 x2 (e_w32 (x3 + (-1))) M)
def VX12_take_127 (c_X12_id : Int → Int → e_M → (Int → Prop) → Prop) (c_X12_isAble : Int → Int → e_M → (Int → Prop) → Prop) (c_X12_placeOn : Int → Int → e_M → (Int → Prop) → Prop) (c_X12_isOthers : Int → Int → e_M → (Int → Prop) → Prop) (c_X12_loads : Int → e_M → (e_M → Prop) → Prop) (c_X12_ownAt : Int → e_M → (Int → Prop) → Prop) (c_X12_gives : Int → Int → Int → e_M → (e_M → Prop) → Prop) (c_X12_gets : Int → Int → Int → e_M → (e_M → Prop) → Prop) (c_X12_isGreat : e_M → (Int → Prop) → Prop) (c_X12_keeps : Int → e_M → (e_M → Prop) → Prop) (k151 : Int → Int → Int → Int → e_M → Prop) (Q : Int → e_M → Prop) (x2 : Int) (x3 : Int) (M : e_M) : Prop :=
  ((0 ≤ x3 → ((0 ≤ x3 ∧ x3 < 60) ∧ (c_X12_loads (M 4506 (x3.toNat)) M (fun M1 => (k151 x2 x3 (M 4506 (x3.toNat)) 0 M1))))) ∧ (x3 < 0 → (Q 9 M)))
def VX12_take_151 (c_X12_id : Int → Int → e_M → (Int → Prop) → Prop) (c_X12_isAble : Int → Int → e_M → (Int → Prop) → Prop) (c_X12_placeOn : Int → Int → e_M → (Int → Prop) → Prop) (c_X12_isOthers : Int → Int → e_M → (Int → Prop) → Prop) (c_X12_loads : Int → e_M → (e_M → Prop) → Prop) (c_X12_ownAt : Int → e_M → (Int → Prop) → Prop) (c_X12_gives : Int → Int → Int → e_M → (e_M → Prop) → Prop) (c_X12_gets : Int → Int → Int → e_M → (e_M → Prop) → Prop) (c_X12_isGreat : e_M → (Int → Prop) → Prop) (c_X12_keeps : Int → e_M → (e_M → Prop) → Prop) (k241 : Int → Int → Int → Int → e_M → Prop) (k151 : Int → Int → Int → Int → e_M → Prop) (Q : Int → e_M → Prop) (x2 : Int) (x3 : Int) (x4 : Int) (x5 : Int) (M : e_M) : Prop :=
  ((0 ≤ x3 ∧ x3 < 60) ∧ (((M 4510 (x3.toNat)) ≤ x5 → (k241 x2 x3 x4 0 M)) ∧ (x5 < (M 4510 (x3.toNat)) → ((0 ≤ (e_w32 ((e_w32 ((6 : Int) * x3)) + x5)) ∧ (e_w32 ((e_w32 ((6 : Int) * x3)) + x5)) < 360) ∧ (c_X12_ownAt (M 4511 ((e_w32 ((e_w32 ((6 : Int) * x3)) + x5)).toNat)) M (fun r1 => ((r1 < 0 → (Q 6 M)) ∧ (0 ≤ r1 → ((0 ≤ r1 ∧ r1 < 16) ∧ ((0 ≤ (e_w32 ((e_w32 ((6 : Int) * x3)) + x5)) ∧ (e_w32 ((e_w32 ((6 : Int) * x3)) + x5)) < 360) ∧ ((0 ≤ (e_w32 ((e_w32 ((6 : Int) * x3)) + x5)) ∧ (e_w32 ((e_w32 ((6 : Int) * x3)) + x5)) < 360) ∧ ((0 ≤ r1 ∧ r1 < 16) ∧ (((e_w64 ((M 4514 ((e_w32 ((e_w32 ((6 : Int) * x3)) + x5)).toNat)) * (M 4519 (r1.toNat)))) ≤ (e_w64 ((M 4518 (r1.toNat)) * (M 4515 ((e_w32 ((e_w32 ((6 : Int) * x3)) + x5)).toNat)))) → (k151 x2 x3 x4 (e_w32 (x5 + 1)) M)) ∧ ((e_w64 ((M 4518 (r1.toNat)) * (M 4515 ((e_w32 ((e_w32 ((6 : Int) * x3)) + x5)).toNat)))) < (e_w64 ((M 4514 ((e_w32 ((e_w32 ((6 : Int) * x3)) + x5)).toNat)) * (M 4519 (r1.toNat)))) → (Q 6 M)))))))))))))))
def VX12_take_241 (c_X12_id : Int → Int → e_M → (Int → Prop) → Prop) (c_X12_isAble : Int → Int → e_M → (Int → Prop) → Prop) (c_X12_placeOn : Int → Int → e_M → (Int → Prop) → Prop) (c_X12_isOthers : Int → Int → e_M → (Int → Prop) → Prop) (c_X12_loads : Int → e_M → (e_M → Prop) → Prop) (c_X12_ownAt : Int → e_M → (Int → Prop) → Prop) (c_X12_gives : Int → Int → Int → e_M → (e_M → Prop) → Prop) (c_X12_gets : Int → Int → Int → e_M → (e_M → Prop) → Prop) (c_X12_isGreat : e_M → (Int → Prop) → Prop) (c_X12_keeps : Int → e_M → (e_M → Prop) → Prop) (k241 : Int → Int → Int → Int → e_M → Prop) (Q : Int → e_M → Prop) (x2 : Int) (x3 : Int) (x4 : Int) (x5 : Int) (M : e_M) : Prop :=
  ((0 ≤ x3 ∧ x3 < 60) ∧ (((M 4510 (x3.toNat)) ≤ x5 → ((0 ≤ x3 ∧ x3 < 60) ∧ ((0 ≤ x3 ∧ x3 < 60) ∧ (c_X12_gets x2 (M 4512 (x3.toNat)) (M 4513 (x3.toNat)) M (fun M1 => (c_X12_isGreat M1 (fun r2 => ((r2 = 0 → (((M1 4456 87) ≤ 8 → (c_X12_keeps x4 M1 (fun M3 => (((0 ≤ x3 ∧ x3 < 60) ∧ ((1 : Int) = 0 ∨ (1 : Int) = 1)) ∧ (∀ M4 : e_M, M4 = e_up M3 4516 (x3.toNat) 1 → (Q 0 M4)))))) ∧ (8 < (M1 4456 87) → (Q 7 M1)))) ∧ (¬ r2 = 0 → (Q 6 M1)))))))))) ∧ (x5 < (M 4510 (x3.toNat)) → ((0 ≤ (e_w32 ((e_w32 ((6 : Int) * x3)) + x5)) ∧ (e_w32 ((e_w32 ((6 : Int) * x3)) + x5)) < 360) ∧ ((0 ≤ (e_w32 ((e_w32 ((6 : Int) * x3)) + x5)) ∧ (e_w32 ((e_w32 ((6 : Int) * x3)) + x5)) < 360) ∧ ((0 ≤ (e_w32 ((e_w32 ((6 : Int) * x3)) + x5)) ∧ (e_w32 ((e_w32 ((6 : Int) * x3)) + x5)) < 360) ∧ (c_X12_gives (M 4511 ((e_w32 ((e_w32 ((6 : Int) * x3)) + x5)).toNat)) (M 4514 ((e_w32 ((e_w32 ((6 : Int) * x3)) + x5)).toNat)) (M 4515 ((e_w32 ((e_w32 ((6 : Int) * x3)) + x5)).toNat)) M (fun M5 => (k241 x2 x3 x4 (e_w32 (x5 + 1)) M5)))))))))
def VX12_take (c_X12_id : Int → Int → e_M → (Int → Prop) → Prop) (c_X12_isAble : Int → Int → e_M → (Int → Prop) → Prop) (c_X12_placeOn : Int → Int → e_M → (Int → Prop) → Prop) (c_X12_isOthers : Int → Int → e_M → (Int → Prop) → Prop) (c_X12_loads : Int → e_M → (e_M → Prop) → Prop) (c_X12_ownAt : Int → e_M → (Int → Prop) → Prop) (c_X12_gives : Int → Int → Int → e_M → (e_M → Prop) → Prop) (c_X12_gets : Int → Int → Int → e_M → (e_M → Prop) → Prop) (c_X12_isGreat : e_M → (Int → Prop) → Prop) (c_X12_keeps : Int → e_M → (e_M → Prop) → Prop) (k40 : Int → Int → Int → e_M → Prop) (Q : Int → e_M → Prop) (M : e_M) : Prop :=
  ((0 ≤ (0 : Int) ∧ (0 : Int) < 10) ∧ (c_X12_id 6 (M 4520 ((0 : Int).toNat)) M (fun r1 => ((0 ≤ r1 ∧ r1 < 560) ∧ (c_X12_isAble (M 4489 (r1.toNat)) (M 4456 86) M (fun r2 => ((¬ r2 = 0 → (k40 r1 (M 4489 (r1.toNat)) (e_w32 ((M 4456 73) - 1)) M)) ∧ (r2 = 0 → (Q 2 M)))))))))
def yX12_take (i : Nat) : e_Y := x_get YX12_take [YX12_id, YX12_isAble, YX12_placeOn, YX12_isOthers, YX12_loads, YX12_ownAt, YX12_gives, YX12_gets, YX12_isGreat, YX12_keeps] i
def pX12_takef : List x_I := [(0, 0, 2, 0, 0, 6, []), (2, 4, 1, 0, 0, 0, []), (3, 25, 12, 91, 4, 0, [(0, 20, 10), (0, 1, 64)]), (6, 0, 1, 0, 0, 0, []), (7, 27, 0, 0, 0, 0, []), (8, 40, 0, 2, 0, 0, []), (11, 5, 1, 1, 0, 0, []), (12, 4, 1, 0, 0, 0, []), (13, 25, 12, 56, 4, 0, [(0, 20, 560), (0, 1, 33)]), (16, 2, 1, 1, 0, 0, []), (17, 27, 0, 0, 0, 0, []), (18, 5, 1, 2, 0, 0, []), (19, 4, 1, 0, 0, 0, []), (20, 2, 1, 2, 0, 0, []), (21, 4, 1, 0, 0, 0, []), (22, 25, 12, 86, 0, 0, []), (25, 40, 1, 3, 14, 0, []), (28, 17, 33, 1, 21, 0, []), (31, 0, 1, 0, 0, 2, []), (32, 41, 0, 0, 0, 0, []), (33, 4, 1, 0, 0, 0, []), (34, 25, 12, 73, 0, 0, []), (37, 0, 1, 0, 0, 1, []), (38, 9, 0, 1, 0, 0, []), (39, 5, 1, 3, 0, 0, []), (40, 49, 0, 0, 0, 0, []), (40, 2, 1, 3, 0, 0, []), (41, 17, 127, 2, 76, 0, []), (44, 4, 1, 0, 0, 0, []), (45, 2, 1, 1, 0, 0, []), (46, 4, 1, 0, 0, 0, []), (47, 25, 12, 74, 4, 0, [(0, 20, 60), (0, 1, 50)]), (50, 2, 1, 3, 0, 0, []), (51, 27, 0, 0, 0, 0, []), (52, 40, 2, 3, 14, 0, []), (55, 17, 121, 2, 73, 0, []), (58, 4, 1, 0, 0, 0, []), (59, 25, 12, 52, 4, 0, [(0, 21, 560), (0, 1, 29)]), (62, 4, 1, 0, 0, 0, []), (63, 25, 12, 74, 4, 0, [(0, 20, 60), (0, 1, 50)]), (66, 2, 1, 3, 0, 0, []), (67, 27, 0, 0, 0, 0, []), (68, 27, 0, 2, 0, 0, []), (69, 17, 121, 1, 73, 0, []), (72, 4, 1, 0, 0, 0, []), (73, 25, 12, 77, 4, 0, [(0, 20, 60), (0, 1, 53)]), (76, 2, 1, 3, 0, 0, []), (77, 27, 0, 0, 0, 0, []), (78, 4, 1, 0, 0, 0, []), (79, 25, 12, 55, 4, 0, [(0, 20, 560), (0, 1, 32)]), (82, 2, 1, 1, 0, 0, []), (83, 27, 0, 0, 0, 0, []), (84, 18, 121, 5, 73, 0, []), (87, 4, 1, 0, 0, 0, []), (88, 25, 12, 86, 0, 0, []), (91, 4, 1, 0, 0, 0, []), (92, 25, 12, 76, 4, 0, [(0, 20, 60), (0, 1, 52)]), (95, 2, 1, 3, 0, 0, []), (96, 27, 0, 0, 0, 0, []), (97, 9, 0, 1, 0, 0, []), (98, 0, 2, 0, 0, 60, []), (100, 18, 121, 4, 73, 0, []), (103, 4, 1, 0, 0, 0, []), (104, 25, 12, 84, 4, 0, [(0, 21, 60), (0, 1, 60)]), (107, 2, 1, 3, 0, 0, []), (108, 27, 0, 2, 0, 0, []), (109, 17, 121, 1, 73, 0, []), (112, 4, 1, 0, 0, 0, []), (113, 2, 1, 3, 0, 0, []), (114, 2, 1, 2, 0, 0, []), (115, 40, 3, 3, 14, 0, []), (118, 17, 127, 1, 76, 0, []), (121, 49, 0, 0, 0, 0, []), (121, 8, 0, 3, 0, (-1), []), (124, 19, 40, 0, 26, 0, []), (127, 49, 0, 0, 0, 0, []), (127, 2, 1, 3, 0, 0, []), (128, 17, 134, 3, 81, 0, []), (131, 0, 2, 0, 0, 9, []), (133, 41, 0, 0, 0, 0, []), (134, 4, 1, 0, 0, 0, []), (135, 25, 12, 74, 4, 0, [(0, 20, 60), (0, 1, 50)]), (138, 2, 1, 3, 0, 0, []), (139, 27, 0, 0, 0, 0, []), (140, 5, 2, 4, 0, 0, []), (142, 4, 1, 0, 0, 0, []), (143, 2, 2, 4, 0, 0, []), (145, 40, 4, 2, 14, 0, []), (148, 0, 1, 0, 0, 0, []), (149, 5, 2, 5, 0, 0, []), (151, 49, 0, 0, 0, 0, []), (151, 2, 2, 5, 0, 0, []), (153, 4, 1, 0, 0, 0, []), (154, 25, 12, 78, 4, 0, [(0, 20, 60), (0, 1, 54)]), (157, 2, 1, 3, 0, 0, []), (158, 27, 0, 0, 0, 0, []), (159, 18, 238, 3, 142, 0, []), (162, 4, 1, 0, 0, 0, []), (163, 4, 1, 0, 0, 0, []), (164, 25, 12, 79, 4, 0, [(0, 20, 360), (0, 1, 55)]), (167, 0, 2, 0, 0, 6, []), (169, 2, 1, 3, 0, 0, []), (170, 9, 0, 2, 0, 0, []), (171, 2, 2, 5, 0, 0, []), (173, 9, 0, 0, 0, 0, []), (174, 27, 0, 0, 0, 0, []), (175, 40, 5, 2, 14, 0, []), (178, 5, 2, 6, 0, 0, []), (180, 2, 2, 6, 0, 0, []), (182, 17, 229, 2, 138, 0, []), (185, 4, 1, 0, 0, 0, []), (186, 25, 12, 89, 4, 0, [(0, 23, 16), (0, 1, 62)]), (189, 2, 2, 6, 0, 0, []), (191, 27, 0, 1, 0, 0, []), (192, 4, 1, 0, 0, 0, []), (193, 25, 12, 83, 4, 0, [(0, 23, 360), (0, 1, 59)]), (196, 0, 2, 0, 0, 6, []), (198, 2, 1, 3, 0, 0, []), (199, 9, 0, 2, 0, 0, []), (200, 2, 2, 5, 0, 0, []), (202, 9, 0, 0, 0, 0, []), (203, 27, 0, 1, 0, 0, []), (204, 10, 0, 2, 0, 0, []), (205, 4, 1, 0, 0, 0, []), (206, 25, 12, 82, 4, 0, [(0, 23, 360), (0, 1, 58)]), (209, 0, 2, 0, 0, 6, []), (211, 2, 1, 3, 0, 0, []), (212, 9, 0, 2, 0, 0, []), (213, 2, 2, 5, 0, 0, []), (215, 9, 0, 0, 0, 0, []), (216, 27, 0, 1, 0, 0, []), (217, 4, 1, 0, 0, 0, []), (218, 25, 12, 90, 4, 0, [(0, 23, 16), (0, 1, 63)]), (221, 2, 2, 6, 0, 0, []), (223, 27, 0, 1, 0, 0, []), (224, 10, 0, 2, 0, 0, []), (225, 32, 232, 3, 140, 0, []), (229, 0, 2, 0, 0, 6, []), (231, 41, 0, 0, 0, 0, []), (232, 8, 0, 5, 0, 1, []), (235, 19, 151, 0, 91, 0, []), (238, 0, 1, 0, 0, 0, []), (239, 5, 2, 5, 0, 0, []), (241, 49, 0, 0, 0, 0, []), (241, 2, 2, 5, 0, 0, []), (243, 4, 1, 0, 0, 0, []), (244, 25, 12, 78, 4, 0, [(0, 20, 60), (0, 1, 54)]), (247, 2, 1, 3, 0, 0, []), (248, 27, 0, 0, 0, 0, []), (249, 18, 298, 3, 179, 0, []), (252, 4, 1, 0, 0, 0, []), (253, 4, 1, 0, 0, 0, []), (254, 25, 12, 79, 4, 0, [(0, 20, 360), (0, 1, 55)]), (257, 0, 2, 0, 0, 6, []), (259, 2, 1, 3, 0, 0, []), (260, 9, 0, 2, 0, 0, []), (261, 2, 2, 5, 0, 0, []), (263, 9, 0, 0, 0, 0, []), (264, 27, 0, 0, 0, 0, []), (265, 4, 1, 0, 0, 0, []), (266, 25, 12, 82, 4, 0, [(0, 23, 360), (0, 1, 58)]), (269, 0, 2, 0, 0, 6, []), (271, 2, 1, 3, 0, 0, []), (272, 9, 0, 2, 0, 0, []), (273, 2, 2, 5, 0, 0, []), (275, 9, 0, 0, 0, 0, []), (276, 27, 0, 1, 0, 0, []), (277, 4, 1, 0, 0, 0, []), (278, 25, 12, 83, 4, 0, [(0, 23, 360), (0, 1, 59)]), (281, 0, 2, 0, 0, 6, []), (283, 2, 1, 3, 0, 0, []), (284, 9, 0, 2, 0, 0, []), (285, 2, 2, 5, 0, 0, []), (287, 9, 0, 0, 0, 0, []), (288, 27, 0, 1, 0, 0, []), (289, 40, 6, 4, 14, 0, []), (292, 8, 0, 5, 0, 1, []), (295, 19, 241, 0, 144, 0, []), (298, 4, 1, 0, 0, 0, []), (299, 2, 1, 2, 0, 0, []), (300, 4, 1, 0, 0, 0, []), (301, 25, 12, 80, 4, 0, [(0, 23, 60), (0, 1, 56)]), (304, 2, 1, 3, 0, 0, []), (305, 27, 0, 1, 0, 0, []), (306, 4, 1, 0, 0, 0, []), (307, 25, 12, 81, 4, 0, [(0, 23, 60), (0, 1, 57)]), (310, 2, 1, 3, 0, 0, []), (311, 27, 0, 1, 0, 0, []), (312, 40, 7, 4, 14, 0, []), (315, 4, 1, 0, 0, 0, []), (316, 40, 8, 1, 14, 0, []), (319, 17, 325, 0, 195, 0, []), (322, 0, 2, 0, 0, 6, []), (324, 41, 0, 0, 0, 0, []), (325, 4, 1, 0, 0, 0, []), (326, 25, 12, 87, 0, 0, []), (329, 0, 2, 0, 0, 8, []), (331, 18, 337, 5, 201, 0, []), (334, 0, 2, 0, 0, 7, []), (336, 41, 0, 0, 0, 0, []), (337, 4, 1, 0, 0, 0, []), (338, 2, 2, 4, 0, 0, []), (340, 40, 9, 2, 14, 0, []), (343, 4, 1, 0, 0, 0, []), (344, 25, 12, 84, 4, 0, [(0, 21, 60), (0, 1, 60)]), (347, 2, 1, 3, 0, 0, []), (348, 0, 1, 0, 0, 1, []), (349, 29, 0, 0, 0, 0, []), (350, 0, 1, 0, 0, 0, []), (351, 41, 0, 0, 0, 0, [])]
set_option maxRecDepth 20000 in
theorem qX12_takef : f_all yX12_take YX12_take pX12_takef :=
  ⟨f_bipush (e_dx DX12_take_0 0 rfl) ⟨by decide, by decide⟩,
  f_aload_n (n := 0) (e_dx DX12_take_0 1 rfl) rfl,
  f_getA (e_dx DX12_take_0 2 rfl) fX12_202 rfl (by decide) (Nat.le_of_ble_eq_true rfl) rfl (by decide),
  f_iconst (e_dx DX12_take_0 3 rfl) ⟨by decide, by decide⟩,
  f_iaload (e_dx DX12_take_0 4 rfl),
  x_callS (e_dx DX12_take_0 5 rfl) mwX12_id cX12_540 swX12_id rfl,
  f_istore_n (n := 1) (e_dx DX12_take_0 6 rfl) rfl (by decide),
  f_aload_n (n := 0) (e_dx DX12_take_0 7 rfl) rfl,
  f_getA (e_dx DX12_take_0 8 rfl) fX12_109 rfl (by decide) (Nat.le_of_ble_eq_true rfl) rfl (by decide),
  f_iload_n (n := 1) (e_dx DX12_take_0 9 rfl) rfl,
  f_iaload (e_dx DX12_take_0 10 rfl),
  f_istore_n (n := 2) (e_dx DX12_take_0 11 rfl) rfl (by decide),
  f_aload_n (n := 0) (e_dx DX12_take_0 12 rfl) rfl,
  f_iload_n (n := 2) (e_dx DX12_take_0 13 rfl) rfl,
  f_aload_n (n := 0) (e_dx DX12_take_0 14 rfl) rfl,
  f_getf (e_dx DX12_take_0 15 rfl) fX12_543 rfl (by decide) (by decide) (by decide),
  x_callV (e_dx DX12_take_0 16 rfl) mwX12_isAble vwX12_isAble cX12_582 rfl,
  f_if_ne (e_dx DX12_take_0 17 rfl) rfl,
  f_iconst (e_dx DX12_take_0 18 rfl) ⟨by decide, by decide⟩,
  ⟨(e_dx DX12_take_0 19 rfl), rfl⟩,
  f_aload_n (n := 0) (e_dx DX12_take_0 20 rfl) rfl,
  f_getf (e_dx DX12_take_0 21 rfl) fX12_526 rfl (by decide) (by decide) (by decide),
  f_iconst (e_dx DX12_take_0 22 rfl) ⟨by decide, by decide⟩,
  f_isub (e_dx DX12_take_0 23 rfl),
  f_istore_n (n := 3) (e_dx DX12_take_0 24 rfl) rfl (by decide),
  trivial,
  f_iload_n (n := 3) (e_dx DX12_take_0 25 rfl) rfl,
  f_if_lt (e_dx DX12_take_0 26 rfl) rfl,
  f_aload_n (n := 0) (e_dx DX12_take_0 27 rfl) rfl,
  f_iload_n (n := 1) (e_dx DX12_take_0 28 rfl) rfl,
  f_aload_n (n := 0) (e_dx DX12_take_0 29 rfl) rfl,
  f_getA (e_dx DX12_take_0 30 rfl) fX12_160 rfl (by decide) (Nat.le_of_ble_eq_true rfl) rfl (by decide),
  f_iload_n (n := 3) (e_dx DX12_take_0 31 rfl) rfl,
  f_iaload (e_dx DX12_take_0 32 rfl),
  x_callV (e_dx DX12_take_0 33 rfl) mwX12_placeOn vwX12_placeOn cX12_573 rfl,
  f_if_lt (e_dx DX12_take_0 34 rfl) rfl,
  f_aload_n (n := 0) (e_dx DX12_take_0 35 rfl) rfl,
  f_getA (e_dx DX12_take_0 36 rfl) fX12_97 rfl (by decide) (Nat.le_of_ble_eq_true rfl) rfl (by decide),
  f_aload_n (n := 0) (e_dx DX12_take_0 37 rfl) rfl,
  f_getA (e_dx DX12_take_0 38 rfl) fX12_160 rfl (by decide) (Nat.le_of_ble_eq_true rfl) rfl (by decide),
  f_iload_n (n := 3) (e_dx DX12_take_0 39 rfl) rfl,
  f_iaload (e_dx DX12_take_1 0 rfl),
  f_baload (e_dx DX12_take_1 1 rfl),
  f_if_ne (e_dx DX12_take_1 2 rfl) rfl,
  f_aload_n (n := 0) (e_dx DX12_take_1 3 rfl) rfl,
  f_getA (e_dx DX12_take_1 4 rfl) fX12_169 rfl (by decide) (Nat.le_of_ble_eq_true rfl) rfl (by decide),
  f_iload_n (n := 3) (e_dx DX12_take_1 5 rfl) rfl,
  f_iaload (e_dx DX12_take_1 6 rfl),
  f_aload_n (n := 0) (e_dx DX12_take_1 7 rfl) rfl,
  f_getA (e_dx DX12_take_1 8 rfl) fX12_106 rfl (by decide) (Nat.le_of_ble_eq_true rfl) rfl (by decide),
  f_iload_n (n := 1) (e_dx DX12_take_1 9 rfl) rfl,
  f_iaload (e_dx DX12_take_1 10 rfl),
  f_icmp_le (e_dx DX12_take_1 11 rfl) rfl,
  f_aload_n (n := 0) (e_dx DX12_take_1 12 rfl) rfl,
  f_getf (e_dx DX12_take_1 13 rfl) fX12_543 rfl (by decide) (by decide) (by decide),
  f_aload_n (n := 0) (e_dx DX12_take_1 14 rfl) rfl,
  f_getA (e_dx DX12_take_1 15 rfl) fX12_166 rfl (by decide) (Nat.le_of_ble_eq_true rfl) rfl (by decide),
  f_iload_n (n := 3) (e_dx DX12_take_1 16 rfl) rfl,
  f_iaload (e_dx DX12_take_1 17 rfl),
  f_isub (e_dx DX12_take_1 18 rfl),
  f_bipush (e_dx DX12_take_1 19 rfl) ⟨by decide, by decide⟩,
  f_icmp_gt (e_dx DX12_take_1 20 rfl) rfl,
  f_aload_n (n := 0) (e_dx DX12_take_1 21 rfl) rfl,
  f_getA (e_dx DX12_take_1 22 rfl) fX12_190 rfl (by decide) (Nat.le_of_ble_eq_true rfl) rfl (by decide),
  f_iload_n (n := 3) (e_dx DX12_take_1 23 rfl) rfl,
  f_baload (e_dx DX12_take_1 24 rfl),
  f_if_ne (e_dx DX12_take_1 25 rfl) rfl,
  f_aload_n (n := 0) (e_dx DX12_take_1 26 rfl) rfl,
  f_iload_n (n := 3) (e_dx DX12_take_1 27 rfl) rfl,
  f_iload_n (n := 2) (e_dx DX12_take_1 28 rfl) rfl,
  x_callV (e_dx DX12_take_1 29 rfl) mwX12_isOthers vwX12_isOthers cX12_752 rfl,
  f_if_ne (e_dx DX12_take_1 30 rfl) rfl,
  trivial,
  f_g8 (e_dx DX12_take_1 31 rfl) ⟨by decide, by decide⟩,
  f_g19 (e_dx DX12_take_1 32 rfl) rfl,
  trivial,
  f_iload_n (n := 3) (e_dx DX12_take_1 33 rfl) rfl,
  f_if_ge (e_dx DX12_take_1 34 rfl) rfl,
  f_bipush (e_dx DX12_take_1 35 rfl) ⟨by decide, by decide⟩,
  ⟨(e_dx DX12_take_1 36 rfl), rfl⟩,
  f_aload_n (n := 0) (e_dx DX12_take_1 37 rfl) rfl,
  f_getA (e_dx DX12_take_1 38 rfl) fX12_160 rfl (by decide) (Nat.le_of_ble_eq_true rfl) rfl (by decide),
  f_iload_n (n := 3) (e_dx DX12_take_1 39 rfl) rfl,
  f_iaload (e_dx DX12_take_2 0 rfl),
  f_istore (e_dx DX12_take_2 1 rfl) (by decide),
  f_aload_n (n := 0) (e_dx DX12_take_2 2 rfl) rfl,
  f_iload (e_dx DX12_take_2 3 rfl),
  x_callV (e_dx DX12_take_2 4 rfl) mwX12_loads vwX12_loads cX12_673 rfl,
  f_iconst (e_dx DX12_take_2 5 rfl) ⟨by decide, by decide⟩,
  f_istore (e_dx DX12_take_2 6 rfl) (by decide),
  trivial,
  f_iload (e_dx DX12_take_2 7 rfl),
  f_aload_n (n := 0) (e_dx DX12_take_2 8 rfl) rfl,
  f_getA (e_dx DX12_take_2 9 rfl) fX12_172 rfl (by decide) (Nat.le_of_ble_eq_true rfl) rfl (by decide),
  f_iload_n (n := 3) (e_dx DX12_take_2 10 rfl) rfl,
  f_iaload (e_dx DX12_take_2 11 rfl),
  f_icmp_ge (e_dx DX12_take_2 12 rfl) rfl,
  f_aload_n (n := 0) (e_dx DX12_take_2 13 rfl) rfl,
  f_aload_n (n := 0) (e_dx DX12_take_2 14 rfl) rfl,
  f_getA (e_dx DX12_take_2 15 rfl) fX12_175 rfl (by decide) (Nat.le_of_ble_eq_true rfl) rfl (by decide),
  f_bipush (e_dx DX12_take_2 16 rfl) ⟨by decide, by decide⟩,
  f_iload_n (n := 3) (e_dx DX12_take_2 17 rfl) rfl,
  f_imul (e_dx DX12_take_2 18 rfl),
  f_iload (e_dx DX12_take_2 19 rfl),
  f_iadd (e_dx DX12_take_2 20 rfl),
  f_iaload (e_dx DX12_take_2 21 rfl),
  x_callV (e_dx DX12_take_2 22 rfl) mwX12_ownAt vwX12_ownAt cX12_558 rfl,
  f_istore (e_dx DX12_take_2 23 rfl) (by decide),
  f_iload (e_dx DX12_take_2 24 rfl),
  f_if_lt (e_dx DX12_take_2 25 rfl) rfl,
  f_aload_n (n := 0) (e_dx DX12_take_2 26 rfl) rfl,
  f_getA (e_dx DX12_take_2 27 rfl) fX12_196 rfl (by decide) (Nat.le_of_ble_eq_true rfl) rfl (by decide),
  f_iload (e_dx DX12_take_2 28 rfl),
  f_laload (e_dx DX12_take_2 29 rfl),
  f_aload_n (n := 0) (e_dx DX12_take_2 30 rfl) rfl,
  f_getA (e_dx DX12_take_2 31 rfl) fX12_187 rfl (by decide) (Nat.le_of_ble_eq_true rfl) rfl (by decide),
  f_bipush (e_dx DX12_take_2 32 rfl) ⟨by decide, by decide⟩,
  f_iload_n (n := 3) (e_dx DX12_take_2 33 rfl) rfl,
  f_imul (e_dx DX12_take_2 34 rfl),
  f_iload (e_dx DX12_take_2 35 rfl),
  f_iadd (e_dx DX12_take_2 36 rfl),
  f_laload (e_dx DX12_take_2 37 rfl),
  f_lmul (e_dx DX12_take_2 38 rfl),
  f_aload_n (n := 0) (e_dx DX12_take_2 39 rfl) rfl,
  f_getA (e_dx DX12_take_3 0 rfl) fX12_184 rfl (by decide) (Nat.le_of_ble_eq_true rfl) rfl (by decide),
  f_bipush (e_dx DX12_take_3 1 rfl) ⟨by decide, by decide⟩,
  f_iload_n (n := 3) (e_dx DX12_take_3 2 rfl) rfl,
  f_imul (e_dx DX12_take_3 3 rfl),
  f_iload (e_dx DX12_take_3 4 rfl),
  f_iadd (e_dx DX12_take_3 5 rfl),
  f_laload (e_dx DX12_take_3 6 rfl),
  f_aload_n (n := 0) (e_dx DX12_take_3 7 rfl) rfl,
  f_getA (e_dx DX12_take_3 8 rfl) fX12_199 rfl (by decide) (Nat.le_of_ble_eq_true rfl) rfl (by decide),
  f_iload (e_dx DX12_take_3 9 rfl),
  f_laload (e_dx DX12_take_3 10 rfl),
  f_lmul (e_dx DX12_take_3 11 rfl),
  f_lif_ge (e_dx DX12_take_3 12 rfl) (e_dx DX12_take_3 13 rfl) rfl,
  f_bipush (e_dx DX12_take_3 14 rfl) ⟨by decide, by decide⟩,
  ⟨(e_dx DX12_take_3 15 rfl), rfl⟩,
  f_g8 (e_dx DX12_take_3 16 rfl) ⟨by decide, by decide⟩,
  f_g19 (e_dx DX12_take_3 17 rfl) rfl,
  f_iconst (e_dx DX12_take_3 18 rfl) ⟨by decide, by decide⟩,
  f_istore (e_dx DX12_take_3 19 rfl) (by decide),
  trivial,
  f_iload (e_dx DX12_take_3 20 rfl),
  f_aload_n (n := 0) (e_dx DX12_take_3 21 rfl) rfl,
  f_getA (e_dx DX12_take_3 22 rfl) fX12_172 rfl (by decide) (Nat.le_of_ble_eq_true rfl) rfl (by decide),
  f_iload_n (n := 3) (e_dx DX12_take_3 23 rfl) rfl,
  f_iaload (e_dx DX12_take_3 24 rfl),
  f_icmp_ge (e_dx DX12_take_3 25 rfl) rfl,
  f_aload_n (n := 0) (e_dx DX12_take_3 26 rfl) rfl,
  f_aload_n (n := 0) (e_dx DX12_take_3 27 rfl) rfl,
  f_getA (e_dx DX12_take_3 28 rfl) fX12_175 rfl (by decide) (Nat.le_of_ble_eq_true rfl) rfl (by decide),
  f_bipush (e_dx DX12_take_3 29 rfl) ⟨by decide, by decide⟩,
  f_iload_n (n := 3) (e_dx DX12_take_3 30 rfl) rfl,
  f_imul (e_dx DX12_take_3 31 rfl),
  f_iload (e_dx DX12_take_3 32 rfl),
  f_iadd (e_dx DX12_take_3 33 rfl),
  f_iaload (e_dx DX12_take_3 34 rfl),
  f_aload_n (n := 0) (e_dx DX12_take_3 35 rfl) rfl,
  f_getA (e_dx DX12_take_3 36 rfl) fX12_184 rfl (by decide) (Nat.le_of_ble_eq_true rfl) rfl (by decide),
  f_bipush (e_dx DX12_take_3 37 rfl) ⟨by decide, by decide⟩,
  f_iload_n (n := 3) (e_dx DX12_take_3 38 rfl) rfl,
  f_imul (e_dx DX12_take_3 39 rfl),
  f_iload (e_dx DX12_take_4 0 rfl),
  f_iadd (e_dx DX12_take_4 1 rfl),
  f_laload (e_dx DX12_take_4 2 rfl),
  f_aload_n (n := 0) (e_dx DX12_take_4 3 rfl) rfl,
  f_getA (e_dx DX12_take_4 4 rfl) fX12_187 rfl (by decide) (Nat.le_of_ble_eq_true rfl) rfl (by decide),
  f_bipush (e_dx DX12_take_4 5 rfl) ⟨by decide, by decide⟩,
  f_iload_n (n := 3) (e_dx DX12_take_4 6 rfl) rfl,
  f_imul (e_dx DX12_take_4 7 rfl),
  f_iload (e_dx DX12_take_4 8 rfl),
  f_iadd (e_dx DX12_take_4 9 rfl),
  f_laload (e_dx DX12_take_4 10 rfl),
  x_callV (e_dx DX12_take_4 11 rfl) mwX12_gives vwX12_gives cX12_676 rfl,
  f_g8 (e_dx DX12_take_4 12 rfl) ⟨by decide, by decide⟩,
  f_g19 (e_dx DX12_take_4 13 rfl) rfl,
  f_aload_n (n := 0) (e_dx DX12_take_4 14 rfl) rfl,
  f_iload_n (n := 2) (e_dx DX12_take_4 15 rfl) rfl,
  f_aload_n (n := 0) (e_dx DX12_take_4 16 rfl) rfl,
  f_getA (e_dx DX12_take_4 17 rfl) fX12_178 rfl (by decide) (Nat.le_of_ble_eq_true rfl) rfl (by decide),
  f_iload_n (n := 3) (e_dx DX12_take_4 18 rfl) rfl,
  f_laload (e_dx DX12_take_4 19 rfl),
  f_aload_n (n := 0) (e_dx DX12_take_4 20 rfl) rfl,
  f_getA (e_dx DX12_take_4 21 rfl) fX12_181 rfl (by decide) (Nat.le_of_ble_eq_true rfl) rfl (by decide),
  f_iload_n (n := 3) (e_dx DX12_take_4 22 rfl) rfl,
  f_laload (e_dx DX12_take_4 23 rfl),
  x_callV (e_dx DX12_take_4 24 rfl) mwX12_gets vwX12_gets cX12_669 rfl,
  f_aload_n (n := 0) (e_dx DX12_take_4 25 rfl) rfl,
  x_callV (e_dx DX12_take_4 26 rfl) mwX12_isGreat vwX12_isGreat cX12_689 rfl,
  f_if_eq (e_dx DX12_take_4 27 rfl) rfl,
  f_bipush (e_dx DX12_take_4 28 rfl) ⟨by decide, by decide⟩,
  ⟨(e_dx DX12_take_4 29 rfl), rfl⟩,
  f_aload_n (n := 0) (e_dx DX12_take_4 30 rfl) rfl,
  f_getf (e_dx DX12_take_4 31 rfl) fX12_555 rfl (by decide) (by decide) (by decide),
  f_bipush (e_dx DX12_take_4 32 rfl) ⟨by decide, by decide⟩,
  f_icmp_le (e_dx DX12_take_4 33 rfl) rfl,
  f_bipush (e_dx DX12_take_4 34 rfl) ⟨by decide, by decide⟩,
  ⟨(e_dx DX12_take_4 35 rfl), rfl⟩,
  f_aload_n (n := 0) (e_dx DX12_take_4 36 rfl) rfl,
  f_iload (e_dx DX12_take_4 37 rfl),
  x_callV (e_dx DX12_take_4 38 rfl) mwX12_keeps vwX12_keeps cX12_692 rfl,
  f_aload_n (n := 0) (e_dx DX12_take_4 39 rfl) rfl,
  f_getA (e_dx DX12_take_5 0 rfl) fX12_190 rfl (by decide) (Nat.le_of_ble_eq_true rfl) rfl (by decide),
  f_iload_n (n := 3) (e_dx DX12_take_5 1 rfl) rfl,
  f_iconst (e_dx DX12_take_5 2 rfl) ⟨by decide, by decide⟩,
  f_g29 (e_dx DX12_take_5 3 rfl),
  f_iconst (e_dx DX12_take_5 4 rfl) ⟨by decide, by decide⟩,
  ⟨(e_dx DX12_take_5 5 rfl), rfl⟩, trivial⟩
def lX12_take (c_X12_id : Int → Int → e_M → (Int → Prop) → Prop) (c_X12_isAble : Int → Int → e_M → (Int → Prop) → Prop) (c_X12_placeOn : Int → Int → e_M → (Int → Prop) → Prop) (c_X12_isOthers : Int → Int → e_M → (Int → Prop) → Prop) (c_X12_loads : Int → e_M → (e_M → Prop) → Prop) (c_X12_ownAt : Int → e_M → (Int → Prop) → Prop) (c_X12_gives : Int → Int → Int → e_M → (e_M → Prop) → Prop) (c_X12_gets : Int → Int → Int → e_M → (e_M → Prop) → Prop) (c_X12_isGreat : e_M → (Int → Prop) → Prop) (c_X12_keeps : Int → e_M → (e_M → Prop) → Prop) : List (Nat × f_Wt) := [(0, f_wm [(1, 0, 0), (1, 0, 0)] (fun ar M R => c_X12_id (f_vi (f_nth ar 0)) (f_vi (f_nth ar 1)) M (fun r => R (some (.inl r)) M))), (1, f_wm [(4466, 12, 123), (1, 0, 0), (1, 0, 0)] (fun ar M R => c_X12_isAble (f_vi (f_nth ar 1)) (f_vi (f_nth ar 2)) M (fun r => R (some (.inl r)) M))), (2, f_wm [(4466, 12, 123), (1, 0, 0), (1, 0, 0)] (fun ar M R => c_X12_placeOn (f_vi (f_nth ar 1)) (f_vi (f_nth ar 2)) M (fun r => R (some (.inl r)) M))), (3, f_wm [(4466, 12, 123), (1, 0, 0), (1, 0, 0)] (fun ar M R => c_X12_isOthers (f_vi (f_nth ar 1)) (f_vi (f_nth ar 2)) M (fun r => R (some (.inl r)) M))), (4, f_wm [(4466, 12, 123), (1, 0, 0)] (fun ar M R => c_X12_loads (f_vi (f_nth ar 1)) M (fun M => R none M))), (5, f_wm [(4466, 12, 123), (1, 0, 0)] (fun ar M R => c_X12_ownAt (f_vi (f_nth ar 1)) M (fun r => R (some (.inl r)) M))), (6, f_wm [(4466, 12, 123), (1, 0, 0), (2, 0, 0), (2, 0, 0)] (fun ar M R => c_X12_gives (f_vi (f_nth ar 1)) (f_vi (f_nth ar 2)) (f_vi (f_nth ar 3)) M (fun M => R none M))), (7, f_wm [(4466, 12, 123), (1, 0, 0), (2, 0, 0), (2, 0, 0)] (fun ar M R => c_X12_gets (f_vi (f_nth ar 1)) (f_vi (f_nth ar 2)) (f_vi (f_nth ar 3)) M (fun M => R none M))), (8, f_wm [(4466, 12, 123)] (fun ar M R => c_X12_isGreat  M (fun r => R (some (.inl r)) M))), (9, f_wm [(4466, 12, 123), (1, 0, 0)] (fun ar M R => c_X12_keeps (f_vi (f_nth ar 1)) M (fun M => R none M)))]
set_option maxRecDepth 20000 in
theorem BX12_take_40 {sh : Nat → Nat × Nat} {t : Nat} {rm : Nat × Nat × Nat} {cs : Nat × Nat} {R : f_Rt} {c_X12_id : Int → Int → e_M → (Int → Prop) → Prop} {c_X12_isAble : Int → Int → e_M → (Int → Prop) → Prop} {c_X12_placeOn : Int → Int → e_M → (Int → Prop) → Prop} {c_X12_isOthers : Int → Int → e_M → (Int → Prop) → Prop} {c_X12_loads : Int → e_M → (e_M → Prop) → Prop} {c_X12_ownAt : Int → e_M → (Int → Prop) → Prop} {c_X12_gives : Int → Int → Int → e_M → (e_M → Prop) → Prop} {c_X12_gets : Int → Int → Int → e_M → (e_M → Prop) → Prop} {c_X12_isGreat : e_M → (Int → Prop) → Prop} {c_X12_keeps : Int → e_M → (e_M → Prop) → Prop} {k127 : Int → Int → e_M → Prop} {k121 : Int → Int → Int → e_M → Prop} {x1 : Int} {x2 : Int} {x3 : Int} {M : e_M} (C : f_Hy sh t yX12_take rm cs 10 (lX12_take c_X12_id c_X12_isAble c_X12_placeOn c_X12_isOthers c_X12_loads c_X12_ownAt c_X12_gives c_X12_gets c_X12_isGreat c_X12_keeps) R) (h127 : ∀ (x2 : Int) (x3 : Int) (M : e_M), k127 x2 x3 M → f_E sh t YX12_take rm cs (f_Q sh t R) 127 [.inr (.inr (.inl (12, 123, 4456))), .inr (.inr (.inr ())), .inl x2, .inl x3, .inr (.inr (.inr ())), .inr (.inr (.inr ())), .inr (.inr (.inr ()))] [] M) (h121 : ∀ (x1 : Int) (x2 : Int) (x3 : Int) (M : e_M), k121 x1 x2 x3 M → f_E sh t YX12_take rm cs (f_Q sh t R) 121 [.inr (.inr (.inl (12, 123, 4456))), .inl x1, .inl x2, .inl x3, .inr (.inr (.inr ())), .inr (.inr (.inr ())), .inr (.inr (.inr ()))] [] M) (h : VX12_take_40 c_X12_id c_X12_isAble c_X12_placeOn c_X12_isOthers c_X12_loads c_X12_ownAt c_X12_gives c_X12_gets c_X12_isGreat c_X12_keeps k127 k121 (fun r M => R (some (.inl r)) M) x1 x2 x3 M) : f_E sh t YX12_take rm cs (f_Q sh t R) 40 [.inr (.inr (.inl (12, 123, 4456))), .inl x1, .inl x2, .inl x3, .inr (.inr (.inr ())), .inr (.inr (.inr ())), .inr (.inr (.inr ()))] [] M :=
  f_go (KC := f_kc [(127, f_pl [(4466, 12, 123), (0, 0, 0), (1, 0, 0), (1, 0, 0), (0, 0, 0), (0, 0, 0), (0, 0, 0)] [] (fun ls st M => k127 (f_vi (f_nth ls 2)) (f_vi (f_nth ls 3)) M)), (121, f_pl [(4466, 12, 123), (1, 0, 0), (1, 0, 0), (1, 0, 0), (0, 0, 0), (0, 0, 0), (0, 0, 0)] [] (fun ls st M => k121 (f_vi (f_nth ls 1)) (f_vi (f_nth ls 2)) (f_vi (f_nth ls 3)) M))]) C qX12_takef (f_kc_cons (f_pl_ok rfl (fun ls st M h => h127 _ _ M h)) (f_kc_cons (f_pl_ok rfl (fun ls st M h => h121 _ _ _ M h)) f_kc_nil)) 212 26 h
set_option maxRecDepth 20000 in
theorem BX12_take_121 {sh : Nat → Nat × Nat} {t : Nat} {rm : Nat × Nat × Nat} {cs : Nat × Nat} {R : f_Rt} {c_X12_id : Int → Int → e_M → (Int → Prop) → Prop} {c_X12_isAble : Int → Int → e_M → (Int → Prop) → Prop} {c_X12_placeOn : Int → Int → e_M → (Int → Prop) → Prop} {c_X12_isOthers : Int → Int → e_M → (Int → Prop) → Prop} {c_X12_loads : Int → e_M → (e_M → Prop) → Prop} {c_X12_ownAt : Int → e_M → (Int → Prop) → Prop} {c_X12_gives : Int → Int → Int → e_M → (e_M → Prop) → Prop} {c_X12_gets : Int → Int → Int → e_M → (e_M → Prop) → Prop} {c_X12_isGreat : e_M → (Int → Prop) → Prop} {c_X12_keeps : Int → e_M → (e_M → Prop) → Prop} {k40 : Int → Int → Int → e_M → Prop} {x1 : Int} {x2 : Int} {x3 : Int} {M : e_M} (C : f_Hy sh t yX12_take rm cs 10 (lX12_take c_X12_id c_X12_isAble c_X12_placeOn c_X12_isOthers c_X12_loads c_X12_ownAt c_X12_gives c_X12_gets c_X12_isGreat c_X12_keeps) R) (h40 : ∀ (x1 : Int) (x2 : Int) (x3 : Int) (M : e_M), k40 x1 x2 x3 M → f_E sh t YX12_take rm cs (f_Q sh t R) 40 [.inr (.inr (.inl (12, 123, 4456))), .inl x1, .inl x2, .inl x3, .inr (.inr (.inr ())), .inr (.inr (.inr ())), .inr (.inr (.inr ()))] [] M) (h : VX12_take_121 c_X12_id c_X12_isAble c_X12_placeOn c_X12_isOthers c_X12_loads c_X12_ownAt c_X12_gives c_X12_gets c_X12_isGreat c_X12_keeps k40 (fun r M => R (some (.inl r)) M) x1 x2 x3 M) : f_E sh t YX12_take rm cs (f_Q sh t R) 121 [.inr (.inr (.inl (12, 123, 4456))), .inl x1, .inl x2, .inl x3, .inr (.inr (.inr ())), .inr (.inr (.inr ())), .inr (.inr (.inr ()))] [] M :=
  f_go (KC := f_kc [(40, f_pl [(4466, 12, 123), (1, 0, 0), (1, 0, 0), (1, 0, 0), (0, 0, 0), (0, 0, 0), (0, 0, 0)] [] (fun ls st M => k40 (f_vi (f_nth ls 1)) (f_vi (f_nth ls 2)) (f_vi (f_nth ls 3)) M))]) C qX12_takef (f_kc_cons (f_pl_ok rfl (fun ls st M h => h40 _ _ _ M h)) f_kc_nil) 212 73 h
set_option maxRecDepth 20000 in
theorem BX12_take_127 {sh : Nat → Nat × Nat} {t : Nat} {rm : Nat × Nat × Nat} {cs : Nat × Nat} {R : f_Rt} {c_X12_id : Int → Int → e_M → (Int → Prop) → Prop} {c_X12_isAble : Int → Int → e_M → (Int → Prop) → Prop} {c_X12_placeOn : Int → Int → e_M → (Int → Prop) → Prop} {c_X12_isOthers : Int → Int → e_M → (Int → Prop) → Prop} {c_X12_loads : Int → e_M → (e_M → Prop) → Prop} {c_X12_ownAt : Int → e_M → (Int → Prop) → Prop} {c_X12_gives : Int → Int → Int → e_M → (e_M → Prop) → Prop} {c_X12_gets : Int → Int → Int → e_M → (e_M → Prop) → Prop} {c_X12_isGreat : e_M → (Int → Prop) → Prop} {c_X12_keeps : Int → e_M → (e_M → Prop) → Prop} {k151 : Int → Int → Int → Int → e_M → Prop} {x2 : Int} {x3 : Int} {M : e_M} (C : f_Hy sh t yX12_take rm cs 10 (lX12_take c_X12_id c_X12_isAble c_X12_placeOn c_X12_isOthers c_X12_loads c_X12_ownAt c_X12_gives c_X12_gets c_X12_isGreat c_X12_keeps) R) (h151 : ∀ (x2 : Int) (x3 : Int) (x4 : Int) (x5 : Int) (M : e_M), k151 x2 x3 x4 x5 M → f_E sh t YX12_take rm cs (f_Q sh t R) 151 [.inr (.inr (.inl (12, 123, 4456))), .inr (.inr (.inr ())), .inl x2, .inl x3, .inl x4, .inl x5, .inr (.inr (.inr ()))] [] M) (h : VX12_take_127 c_X12_id c_X12_isAble c_X12_placeOn c_X12_isOthers c_X12_loads c_X12_ownAt c_X12_gives c_X12_gets c_X12_isGreat c_X12_keeps k151 (fun r M => R (some (.inl r)) M) x2 x3 M) : f_E sh t YX12_take rm cs (f_Q sh t R) 127 [.inr (.inr (.inl (12, 123, 4456))), .inr (.inr (.inr ())), .inl x2, .inl x3, .inr (.inr (.inr ())), .inr (.inr (.inr ())), .inr (.inr (.inr ()))] [] M :=
  f_go (KC := f_kc [(151, f_pl [(4466, 12, 123), (0, 0, 0), (1, 0, 0), (1, 0, 0), (1, 0, 0), (1, 0, 0), (0, 0, 0)] [] (fun ls st M => k151 (f_vi (f_nth ls 2)) (f_vi (f_nth ls 3)) (f_vi (f_nth ls 4)) (f_vi (f_nth ls 5)) M))]) C qX12_takef (f_kc_cons (f_pl_ok rfl (fun ls st M h => h151 _ _ _ _ M h)) f_kc_nil) 212 76 h
set_option maxRecDepth 20000 in
theorem BX12_take_151 {sh : Nat → Nat × Nat} {t : Nat} {rm : Nat × Nat × Nat} {cs : Nat × Nat} {R : f_Rt} {c_X12_id : Int → Int → e_M → (Int → Prop) → Prop} {c_X12_isAble : Int → Int → e_M → (Int → Prop) → Prop} {c_X12_placeOn : Int → Int → e_M → (Int → Prop) → Prop} {c_X12_isOthers : Int → Int → e_M → (Int → Prop) → Prop} {c_X12_loads : Int → e_M → (e_M → Prop) → Prop} {c_X12_ownAt : Int → e_M → (Int → Prop) → Prop} {c_X12_gives : Int → Int → Int → e_M → (e_M → Prop) → Prop} {c_X12_gets : Int → Int → Int → e_M → (e_M → Prop) → Prop} {c_X12_isGreat : e_M → (Int → Prop) → Prop} {c_X12_keeps : Int → e_M → (e_M → Prop) → Prop} {k241 : Int → Int → Int → Int → e_M → Prop} {k151 : Int → Int → Int → Int → e_M → Prop} {x2 : Int} {x3 : Int} {x4 : Int} {x5 : Int} {M : e_M} (C : f_Hy sh t yX12_take rm cs 10 (lX12_take c_X12_id c_X12_isAble c_X12_placeOn c_X12_isOthers c_X12_loads c_X12_ownAt c_X12_gives c_X12_gets c_X12_isGreat c_X12_keeps) R) (h241 : ∀ (x2 : Int) (x3 : Int) (x4 : Int) (x5 : Int) (M : e_M), k241 x2 x3 x4 x5 M → f_E sh t YX12_take rm cs (f_Q sh t R) 241 [.inr (.inr (.inl (12, 123, 4456))), .inr (.inr (.inr ())), .inl x2, .inl x3, .inl x4, .inl x5, .inr (.inr (.inr ()))] [] M) (h151 : ∀ (x2 : Int) (x3 : Int) (x4 : Int) (x5 : Int) (M : e_M), k151 x2 x3 x4 x5 M → f_E sh t YX12_take rm cs (f_Q sh t R) 151 [.inr (.inr (.inl (12, 123, 4456))), .inr (.inr (.inr ())), .inl x2, .inl x3, .inl x4, .inl x5, .inr (.inr (.inr ()))] [] M) (h : VX12_take_151 c_X12_id c_X12_isAble c_X12_placeOn c_X12_isOthers c_X12_loads c_X12_ownAt c_X12_gives c_X12_gets c_X12_isGreat c_X12_keeps k241 k151 (fun r M => R (some (.inl r)) M) x2 x3 x4 x5 M) : f_E sh t YX12_take rm cs (f_Q sh t R) 151 [.inr (.inr (.inl (12, 123, 4456))), .inr (.inr (.inr ())), .inl x2, .inl x3, .inl x4, .inl x5, .inr (.inr (.inr ()))] [] M :=
  f_go (KC := f_kc [(241, f_pl [(4466, 12, 123), (0, 0, 0), (1, 0, 0), (1, 0, 0), (1, 0, 0), (1, 0, 0), (0, 0, 0)] [] (fun ls st M => k241 (f_vi (f_nth ls 2)) (f_vi (f_nth ls 3)) (f_vi (f_nth ls 4)) (f_vi (f_nth ls 5)) M)), (151, f_pl [(4466, 12, 123), (0, 0, 0), (1, 0, 0), (1, 0, 0), (1, 0, 0), (1, 0, 0), (0, 0, 0)] [] (fun ls st M => k151 (f_vi (f_nth ls 2)) (f_vi (f_nth ls 3)) (f_vi (f_nth ls 4)) (f_vi (f_nth ls 5)) M))]) C qX12_takef (f_kc_cons (f_pl_ok rfl (fun ls st M h => h241 _ _ _ _ M h)) (f_kc_cons (f_pl_ok rfl (fun ls st M h => h151 _ _ _ _ M h)) f_kc_nil)) 212 91 h
set_option maxRecDepth 20000 in
theorem BX12_take_241 {sh : Nat → Nat × Nat} {t : Nat} {rm : Nat × Nat × Nat} {cs : Nat × Nat} {R : f_Rt} {c_X12_id : Int → Int → e_M → (Int → Prop) → Prop} {c_X12_isAble : Int → Int → e_M → (Int → Prop) → Prop} {c_X12_placeOn : Int → Int → e_M → (Int → Prop) → Prop} {c_X12_isOthers : Int → Int → e_M → (Int → Prop) → Prop} {c_X12_loads : Int → e_M → (e_M → Prop) → Prop} {c_X12_ownAt : Int → e_M → (Int → Prop) → Prop} {c_X12_gives : Int → Int → Int → e_M → (e_M → Prop) → Prop} {c_X12_gets : Int → Int → Int → e_M → (e_M → Prop) → Prop} {c_X12_isGreat : e_M → (Int → Prop) → Prop} {c_X12_keeps : Int → e_M → (e_M → Prop) → Prop} {k241 : Int → Int → Int → Int → e_M → Prop} {x2 : Int} {x3 : Int} {x4 : Int} {x5 : Int} {M : e_M} (C : f_Hy sh t yX12_take rm cs 10 (lX12_take c_X12_id c_X12_isAble c_X12_placeOn c_X12_isOthers c_X12_loads c_X12_ownAt c_X12_gives c_X12_gets c_X12_isGreat c_X12_keeps) R) (h241 : ∀ (x2 : Int) (x3 : Int) (x4 : Int) (x5 : Int) (M : e_M), k241 x2 x3 x4 x5 M → f_E sh t YX12_take rm cs (f_Q sh t R) 241 [.inr (.inr (.inl (12, 123, 4456))), .inr (.inr (.inr ())), .inl x2, .inl x3, .inl x4, .inl x5, .inr (.inr (.inr ()))] [] M) (h : VX12_take_241 c_X12_id c_X12_isAble c_X12_placeOn c_X12_isOthers c_X12_loads c_X12_ownAt c_X12_gives c_X12_gets c_X12_isGreat c_X12_keeps k241 (fun r M => R (some (.inl r)) M) x2 x3 x4 x5 M) : f_E sh t YX12_take rm cs (f_Q sh t R) 241 [.inr (.inr (.inl (12, 123, 4456))), .inr (.inr (.inr ())), .inl x2, .inl x3, .inl x4, .inl x5, .inr (.inr (.inr ()))] [] M :=
  f_go (KC := f_kc [(241, f_pl [(4466, 12, 123), (0, 0, 0), (1, 0, 0), (1, 0, 0), (1, 0, 0), (1, 0, 0), (0, 0, 0)] [] (fun ls st M => k241 (f_vi (f_nth ls 2)) (f_vi (f_nth ls 3)) (f_vi (f_nth ls 4)) (f_vi (f_nth ls 5)) M))]) C qX12_takef (f_kc_cons (f_pl_ok rfl (fun ls st M h => h241 _ _ _ _ M h)) f_kc_nil) 212 144 h
set_option maxRecDepth 20000 in
theorem BX12_take {sh : Nat → Nat × Nat} {t : Nat} {rm : Nat × Nat × Nat} {cs : Nat × Nat} {R : f_Rt} {c_X12_id : Int → Int → e_M → (Int → Prop) → Prop} {c_X12_isAble : Int → Int → e_M → (Int → Prop) → Prop} {c_X12_placeOn : Int → Int → e_M → (Int → Prop) → Prop} {c_X12_isOthers : Int → Int → e_M → (Int → Prop) → Prop} {c_X12_loads : Int → e_M → (e_M → Prop) → Prop} {c_X12_ownAt : Int → e_M → (Int → Prop) → Prop} {c_X12_gives : Int → Int → Int → e_M → (e_M → Prop) → Prop} {c_X12_gets : Int → Int → Int → e_M → (e_M → Prop) → Prop} {c_X12_isGreat : e_M → (Int → Prop) → Prop} {c_X12_keeps : Int → e_M → (e_M → Prop) → Prop} {k40 : Int → Int → Int → e_M → Prop} {M : e_M} (C : f_Hy sh t yX12_take rm cs 10 (lX12_take c_X12_id c_X12_isAble c_X12_placeOn c_X12_isOthers c_X12_loads c_X12_ownAt c_X12_gives c_X12_gets c_X12_isGreat c_X12_keeps) R) (h40 : ∀ (x1 : Int) (x2 : Int) (x3 : Int) (M : e_M), k40 x1 x2 x3 M → f_E sh t YX12_take rm cs (f_Q sh t R) 40 [.inr (.inr (.inl (12, 123, 4456))), .inl x1, .inl x2, .inl x3, .inr (.inr (.inr ())), .inr (.inr (.inr ())), .inr (.inr (.inr ()))] [] M) (h : VX12_take c_X12_id c_X12_isAble c_X12_placeOn c_X12_isOthers c_X12_loads c_X12_ownAt c_X12_gives c_X12_gets c_X12_isGreat c_X12_keeps k40 (fun r M => R (some (.inl r)) M) M) : f_E sh t YX12_take rm cs (f_Q sh t R) 0 [.inr (.inr (.inl (12, 123, 4456))), .inr (.inr (.inr ())), .inr (.inr (.inr ())), .inr (.inr (.inr ())), .inr (.inr (.inr ())), .inr (.inr (.inr ())), .inr (.inr (.inr ()))] [] M :=
  f_go (KC := f_kc [(40, f_pl [(4466, 12, 123), (1, 0, 0), (1, 0, 0), (1, 0, 0), (0, 0, 0), (0, 0, 0), (0, 0, 0)] [] (fun ls st M => k40 (f_vi (f_nth ls 1)) (f_vi (f_nth ls 2)) (f_vi (f_nth ls 3)) M))]) C qX12_takef (f_kc_cons (f_pl_ok rfl (fun ls st M h => h40 _ _ _ M h)) f_kc_nil) 212 0 h
def WX12_take_241 (Q : Int → e_M → Prop) : Nat → Int → Int → Int → Int → e_M → Prop
  | 0, _, _, _, _, _ => False
  | n + 1, x2, x3, x4, x5, M =>
    VX12_take_241 WX12_id WX12_isAble WX12_placeOn WX12_isOthers WX12_loads WX12_ownAt WX12_gives WX12_gets WX12_isGreat WX12_keeps (WX12_take_241 Q n) Q x2 x3 x4 x5 M
def WX12_take_151 (Q : Int → e_M → Prop) : Nat → Int → Int → Int → Int → e_M → Prop
  | 0, _, _, _, _, _ => False
  | n + 1, x2, x3, x4, x5, M =>
    VX12_take_151 WX12_id WX12_isAble WX12_placeOn WX12_isOthers WX12_loads WX12_ownAt WX12_gives WX12_gets WX12_isGreat WX12_keeps (fun x2 x3 x4 x5 M => ∃ j, WX12_take_241 Q j x2 x3 x4 x5 M) (WX12_take_151 Q n) Q x2 x3 x4 x5 M
def WX12_take_127 (Q : Int → e_M → Prop) (x2 : Int) (x3 : Int) (M : e_M) : Prop :=
  VX12_take_127 WX12_id WX12_isAble WX12_placeOn WX12_isOthers WX12_loads WX12_ownAt WX12_gives WX12_gets WX12_isGreat WX12_keeps (fun x2 x3 x4 x5 M => ∃ j, WX12_take_151 Q j x2 x3 x4 x5 M) Q x2 x3 M
def WX12_take_121 (H40 : Int → Int → Int → e_M → Prop) (Q : Int → e_M → Prop) (x1 : Int) (x2 : Int) (x3 : Int) (M : e_M) : Prop :=
  VX12_take_121 WX12_id WX12_isAble WX12_placeOn WX12_isOthers WX12_loads WX12_ownAt WX12_gives WX12_gets WX12_isGreat WX12_keeps H40 Q x1 x2 x3 M
def WX12_take_40 (Q : Int → e_M → Prop) : Nat → Int → Int → Int → e_M → Prop
  | 0, _, _, _, _ => False
  | n + 1, x1, x2, x3, M =>
    VX12_take_40 WX12_id WX12_isAble WX12_placeOn WX12_isOthers WX12_loads WX12_ownAt WX12_gives WX12_gets WX12_isGreat WX12_keeps (WX12_take_127 Q) (WX12_take_121 (WX12_take_40 Q n) Q) Q x1 x2 x3 M
def WX12_take (M : e_M) (Q : Int → e_M → Prop) : Prop :=
  VX12_take WX12_id WX12_isAble WX12_placeOn WX12_isOthers WX12_loads WX12_ownAt WX12_gives WX12_gets WX12_isGreat WX12_keeps (fun x1 x2 x3 M => ∃ j, WX12_take_40 Q j x1 x2 x3 M) Q M
theorem PX12_take_241 {sh : Nat → Nat × Nat} {t : Nat} {rm : Nat × Nat × Nat} {cs : Nat × Nat} {R : f_Rt} (C : f_Hy sh t yX12_take rm cs 10 (lX12_take WX12_id WX12_isAble WX12_placeOn WX12_isOthers WX12_loads WX12_ownAt WX12_gives WX12_gets WX12_isGreat WX12_keeps) R) : ∀ (n : Nat) (x2 : Int) (x3 : Int) (x4 : Int) (x5 : Int) (M : e_M), WX12_take_241 (fun r M => R (some (.inl r)) M) n x2 x3 x4 x5 M → f_E sh t YX12_take rm cs (f_Q sh t R) 241 [.inr (.inr (.inl (12, 123, 4456))), .inr (.inr (.inr ())), .inl x2, .inl x3, .inl x4, .inl x5, .inr (.inr (.inr ()))] [] M := by
  intro n
  induction n with
  | zero => intro x2 x3 x4 x5 M h; exact h.elim
  | succ n ih => intro x2 x3 x4 x5 M h; exact BX12_take_241 C ih h
theorem PX12_take_151 {sh : Nat → Nat × Nat} {t : Nat} {rm : Nat × Nat × Nat} {cs : Nat × Nat} {R : f_Rt} (C : f_Hy sh t yX12_take rm cs 10 (lX12_take WX12_id WX12_isAble WX12_placeOn WX12_isOthers WX12_loads WX12_ownAt WX12_gives WX12_gets WX12_isGreat WX12_keeps) R) : ∀ (n : Nat) (x2 : Int) (x3 : Int) (x4 : Int) (x5 : Int) (M : e_M), WX12_take_151 (fun r M => R (some (.inl r)) M) n x2 x3 x4 x5 M → f_E sh t YX12_take rm cs (f_Q sh t R) 151 [.inr (.inr (.inl (12, 123, 4456))), .inr (.inr (.inr ())), .inl x2, .inl x3, .inl x4, .inl x5, .inr (.inr (.inr ()))] [] M := by
  intro n
  induction n with
  | zero => intro x2 x3 x4 x5 M h; exact h.elim
  | succ n ih => intro x2 x3 x4 x5 M h; exact BX12_take_151 C (fun x2 x3 x4 x5 M ⟨j, h⟩ => PX12_take_241 C j _ _ _ _ _ h) ih h
theorem PX12_take_127 {sh : Nat → Nat × Nat} {t : Nat} {rm : Nat × Nat × Nat} {cs : Nat × Nat} {R : f_Rt} {x2 : Int} {x3 : Int} {M : e_M} (C : f_Hy sh t yX12_take rm cs 10 (lX12_take WX12_id WX12_isAble WX12_placeOn WX12_isOthers WX12_loads WX12_ownAt WX12_gives WX12_gets WX12_isGreat WX12_keeps) R) (h : WX12_take_127 (fun r M => R (some (.inl r)) M) x2 x3 M) : f_E sh t YX12_take rm cs (f_Q sh t R) 127 [.inr (.inr (.inl (12, 123, 4456))), .inr (.inr (.inr ())), .inl x2, .inl x3, .inr (.inr (.inr ())), .inr (.inr (.inr ())), .inr (.inr (.inr ()))] [] M :=
  BX12_take_127 C (fun x2 x3 x4 x5 M ⟨j, h⟩ => PX12_take_151 C j _ _ _ _ _ h) h
theorem PX12_take_121 {sh : Nat → Nat × Nat} {t : Nat} {rm : Nat × Nat × Nat} {cs : Nat × Nat} {R : f_Rt} {H40 : Int → Int → Int → e_M → Prop} {x1 : Int} {x2 : Int} {x3 : Int} {M : e_M} (C : f_Hy sh t yX12_take rm cs 10 (lX12_take WX12_id WX12_isAble WX12_placeOn WX12_isOthers WX12_loads WX12_ownAt WX12_gives WX12_gets WX12_isGreat WX12_keeps) R) (g40 : ∀ (x1 : Int) (x2 : Int) (x3 : Int) (M : e_M), H40 x1 x2 x3 M → f_E sh t YX12_take rm cs (f_Q sh t R) 40 [.inr (.inr (.inl (12, 123, 4456))), .inl x1, .inl x2, .inl x3, .inr (.inr (.inr ())), .inr (.inr (.inr ())), .inr (.inr (.inr ()))] [] M) (h : WX12_take_121 H40 (fun r M => R (some (.inl r)) M) x1 x2 x3 M) : f_E sh t YX12_take rm cs (f_Q sh t R) 121 [.inr (.inr (.inl (12, 123, 4456))), .inl x1, .inl x2, .inl x3, .inr (.inr (.inr ())), .inr (.inr (.inr ())), .inr (.inr (.inr ()))] [] M :=
  BX12_take_121 C g40 h
theorem PX12_take_40 {sh : Nat → Nat × Nat} {t : Nat} {rm : Nat × Nat × Nat} {cs : Nat × Nat} {R : f_Rt} (C : f_Hy sh t yX12_take rm cs 10 (lX12_take WX12_id WX12_isAble WX12_placeOn WX12_isOthers WX12_loads WX12_ownAt WX12_gives WX12_gets WX12_isGreat WX12_keeps) R) : ∀ (n : Nat) (x1 : Int) (x2 : Int) (x3 : Int) (M : e_M), WX12_take_40 (fun r M => R (some (.inl r)) M) n x1 x2 x3 M → f_E sh t YX12_take rm cs (f_Q sh t R) 40 [.inr (.inr (.inl (12, 123, 4456))), .inl x1, .inl x2, .inl x3, .inr (.inr (.inr ())), .inr (.inr (.inr ())), .inr (.inr (.inr ()))] [] M := by
  intro n
  induction n with
  | zero => intro x1 x2 x3 M h; exact h.elim
  | succ n ih => intro x1 x2 x3 M h; exact BX12_take_40 C (fun x2 x3 M h => PX12_take_127 C h) (fun x1 x2 x3 M h => PX12_take_121 C ih h) h
theorem PX12_take {sh : Nat → Nat × Nat} {t : Nat} {rm : Nat × Nat × Nat} {cs : Nat × Nat} {R : f_Rt} {M : e_M} (C : f_Hy sh t yX12_take rm cs 10 (lX12_take WX12_id WX12_isAble WX12_placeOn WX12_isOthers WX12_loads WX12_ownAt WX12_gives WX12_gets WX12_isGreat WX12_keeps) R) (h : WX12_take M (fun r M => R (some (.inl r)) M)) : f_E sh t YX12_take rm cs (f_Q sh t R) 0 [.inr (.inr (.inl (12, 123, 4456))), .inr (.inr (.inr ())), .inr (.inr (.inr ())), .inr (.inr (.inr ())), .inr (.inr (.inr ())), .inr (.inr (.inr ())), .inr (.inr (.inr ()))] [] M :=
  BX12_take C (fun x1 x2 x3 M ⟨j, h⟩ => PX12_take_40 C j _ _ _ _ h) h
def wX12_take : f_Wt := f_wm [(4466, 12, 123)] (fun ar M R => WX12_take M (fun r M => R (some (.inl r)) M))
theorem TX12_take {sh : Nat → Nat × Nat} {t : Nat} : f_Mt sh t YX12_take 10 (wX12_take) :=
  f_Mt_of (k := 6) (Nat.le_of_ble_eq_true rfl) rfl rfl (fun ar M R rm cs h1 h2 h3 hX h => PX12_take ⟨Nat.le_of_ble_eq_true rfl, h1, h2, h3, ⟨(f_Mt.up (Nat.le_of_ble_eq_true rfl) TX12_id), (f_Mt.up (Nat.le_of_ble_eq_true rfl) TX12_isAble), (f_Mt.up (Nat.le_of_ble_eq_true rfl) TX12_placeOn), (f_Mt.up (Nat.le_of_ble_eq_true rfl) TX12_isOthers), (f_Mt.up (Nat.le_of_ble_eq_true rfl) TX12_loads), (f_Mt.up (Nat.le_of_ble_eq_true rfl) TX12_ownAt), (f_Mt.up (Nat.le_of_ble_eq_true rfl) TX12_gives), (f_Mt.up (Nat.le_of_ble_eq_true rfl) TX12_gets), (f_Mt.up (Nat.le_of_ble_eq_true rfl) TX12_isGreat), (f_Mt.up (Nat.le_of_ble_eq_true rfl) TX12_keeps), trivial⟩, hX⟩ h)
def VX12_ended (c_X12_isAble : Int → Int → e_M → (Int → Prop) → Prop) (Q : Int → e_M → Prop) (M : e_M) : Prop :=
  ((0 ≤ (0 : Int) ∧ (0 : Int) < 10) ∧ ((0 ≤ (M 4520 ((0 : Int).toNat)) ∧ (M 4520 ((0 : Int).toNat)) < 560) ∧ (c_X12_isAble (M 4489 ((M 4520 ((0 : Int).toNat)).toNat)) (M 4456 86) M (fun r1 => ((¬ r1 = 0 → (((0 ≤ (M 4520 ((0 : Int).toNat)) ∧ (M 4520 ((0 : Int).toNat)) < 560) ∧ ((1 : Int) = 0 ∨ (1 : Int) = 1)) ∧ (∀ M2 : e_M, M2 = e_up M 4485 ((M 4520 ((0 : Int).toNat)).toNat) 1 → (Q 0 M2)))) ∧ (r1 = 0 → (Q 2 M)))))))
def yX12_ended (i : Nat) : e_Y := x_get YX12_ended [YX12_isAble] i
def pX12_endedf : List x_I := [(0, 4, 1, 0, 0, 0, []), (1, 25, 12, 91, 4, 0, [(0, 20, 10), (0, 1, 64)]), (4, 0, 1, 0, 0, 0, []), (5, 27, 0, 0, 0, 0, []), (6, 5, 1, 1, 0, 0, []), (7, 4, 1, 0, 0, 0, []), (8, 4, 1, 0, 0, 0, []), (9, 25, 12, 56, 4, 0, [(0, 20, 560), (0, 1, 33)]), (12, 2, 1, 1, 0, 0, []), (13, 27, 0, 0, 0, 0, []), (14, 4, 1, 0, 0, 0, []), (15, 25, 12, 86, 0, 0, []), (18, 40, 0, 3, 14, 0, []), (21, 17, 26, 1, 17, 0, []), (24, 0, 1, 0, 0, 2, []), (25, 41, 0, 0, 0, 0, []), (26, 4, 1, 0, 0, 0, []), (27, 25, 12, 52, 4, 0, [(0, 21, 560), (0, 1, 29)]), (30, 2, 1, 1, 0, 0, []), (31, 0, 1, 0, 0, 1, []), (32, 29, 0, 0, 0, 0, []), (33, 0, 1, 0, 0, 0, []), (34, 41, 0, 0, 0, 0, [])]
set_option maxRecDepth 20000 in
theorem qX12_endedf : f_all yX12_ended YX12_ended pX12_endedf :=
  ⟨f_aload_n (n := 0) (e_dx DX12_ended_0 0 rfl) rfl,
  f_getA (e_dx DX12_ended_0 1 rfl) fX12_202 rfl (by decide) (Nat.le_of_ble_eq_true rfl) rfl (by decide),
  f_iconst (e_dx DX12_ended_0 2 rfl) ⟨by decide, by decide⟩,
  f_iaload (e_dx DX12_ended_0 3 rfl),
  f_istore_n (n := 1) (e_dx DX12_ended_0 4 rfl) rfl (by decide),
  f_aload_n (n := 0) (e_dx DX12_ended_0 5 rfl) rfl,
  f_aload_n (n := 0) (e_dx DX12_ended_0 6 rfl) rfl,
  f_getA (e_dx DX12_ended_0 7 rfl) fX12_109 rfl (by decide) (Nat.le_of_ble_eq_true rfl) rfl (by decide),
  f_iload_n (n := 1) (e_dx DX12_ended_0 8 rfl) rfl,
  f_iaload (e_dx DX12_ended_0 9 rfl),
  f_aload_n (n := 0) (e_dx DX12_ended_0 10 rfl) rfl,
  f_getf (e_dx DX12_ended_0 11 rfl) fX12_543 rfl (by decide) (by decide) (by decide),
  x_callV (e_dx DX12_ended_0 12 rfl) mwX12_isAble vwX12_isAble cX12_582 rfl,
  f_if_ne (e_dx DX12_ended_0 13 rfl) rfl,
  f_iconst (e_dx DX12_ended_0 14 rfl) ⟨by decide, by decide⟩,
  ⟨(e_dx DX12_ended_0 15 rfl), rfl⟩,
  f_aload_n (n := 0) (e_dx DX12_ended_0 16 rfl) rfl,
  f_getA (e_dx DX12_ended_0 17 rfl) fX12_97 rfl (by decide) (Nat.le_of_ble_eq_true rfl) rfl (by decide),
  f_iload_n (n := 1) (e_dx DX12_ended_0 18 rfl) rfl,
  f_iconst (e_dx DX12_ended_0 19 rfl) ⟨by decide, by decide⟩,
  f_g29 (e_dx DX12_ended_0 20 rfl),
  f_iconst (e_dx DX12_ended_0 21 rfl) ⟨by decide, by decide⟩,
  ⟨(e_dx DX12_ended_0 22 rfl), rfl⟩, trivial⟩
def lX12_ended (c_X12_isAble : Int → Int → e_M → (Int → Prop) → Prop) : List (Nat × f_Wt) := [(0, f_wm [(4466, 12, 123), (1, 0, 0), (1, 0, 0)] (fun ar M R => c_X12_isAble (f_vi (f_nth ar 1)) (f_vi (f_nth ar 2)) M (fun r => R (some (.inl r)) M)))]
set_option maxRecDepth 20000 in
theorem BX12_ended {sh : Nat → Nat × Nat} {t : Nat} {rm : Nat × Nat × Nat} {cs : Nat × Nat} {R : f_Rt} {c_X12_isAble : Int → Int → e_M → (Int → Prop) → Prop} {M : e_M} (C : f_Hy sh t yX12_ended rm cs 10 (lX12_ended c_X12_isAble) R) (h : VX12_ended c_X12_isAble (fun r M => R (some (.inl r)) M) M) : f_E sh t YX12_ended rm cs (f_Q sh t R) 0 [.inr (.inr (.inl (12, 123, 4456))), .inr (.inr (.inr ()))] [] M :=
  f_go (KC := f_kc []) C qX12_endedf f_kc_nil 25 0 h
def WX12_ended (M : e_M) (Q : Int → e_M → Prop) : Prop :=
  VX12_ended WX12_isAble Q M
theorem PX12_ended {sh : Nat → Nat × Nat} {t : Nat} {rm : Nat × Nat × Nat} {cs : Nat × Nat} {R : f_Rt} {M : e_M} (C : f_Hy sh t yX12_ended rm cs 10 (lX12_ended WX12_isAble) R) (h : WX12_ended M (fun r M => R (some (.inl r)) M)) : f_E sh t YX12_ended rm cs (f_Q sh t R) 0 [.inr (.inr (.inl (12, 123, 4456))), .inr (.inr (.inr ()))] [] M :=
  BX12_ended C h
def wX12_ended : f_Wt := f_wm [(4466, 12, 123)] (fun ar M R => WX12_ended M (fun r M => R (some (.inl r)) M))
theorem TX12_ended {sh : Nat → Nat × Nat} {t : Nat} : f_Mt sh t YX12_ended 10 (wX12_ended) :=
  f_Mt_of (k := 1) (Nat.le_of_ble_eq_true rfl) rfl rfl (fun ar M R rm cs h1 h2 h3 hX h => PX12_ended ⟨Nat.le_of_ble_eq_true rfl, h1, h2, h3, ⟨(f_Mt.up (Nat.le_of_ble_eq_true rfl) TX12_isAble), trivial⟩, hX⟩ h)
def VX12_done (c_X12_areNamed : Int → e_M → (Int → e_M → Prop) → Prop) (c_X12_born : Int → e_M → (Int → e_M → Prop) → Prop) (c_X12_firm : Int → e_M → (Int → e_M → Prop) → Prop) (c_X12_guard : e_M → (Int → e_M → Prop) → Prop) (c_X12_death : Int → e_M → (Int → e_M → Prop) → Prop) (c_X12_close : e_M → (Int → e_M → Prop) → Prop) (c_X12_sell : Int → e_M → (Int → e_M → Prop) → Prop) (c_X12_split : Int → e_M → (Int → e_M → Prop) → Prop) (c_X12_join : Int → e_M → (Int → e_M → Prop) → Prop) (c_X12_border : Int → e_M → (Int → e_M → Prop) → Prop) (c_X12_charge : Int → e_M → (Int → e_M → Prop) → Prop) (c_X12_pay : Int → e_M → (Int → e_M → Prop) → Prop) (c_X12_assign : e_M → (Int → e_M → Prop) → Prop) (c_X12_ranked : e_M → (Int → e_M → Prop) → Prop) (c_X12_freed : e_M → (Int → e_M → Prop) → Prop) (c_X12_auction : Int → e_M → (Int → e_M → Prop) → Prop) (c_X12_serve : Int → e_M → (Int → e_M → Prop) → Prop) (c_X12_waive : e_M → (Int → e_M → Prop) → Prop) (c_X12_lease : Int → e_M → (Int → e_M → Prop) → Prop) (c_X12_caution : Int → e_M → (Int → e_M → Prop) → Prop) (c_X12_option : Int → e_M → (Int → e_M → Prop) → Prop) (c_X12_take : e_M → (Int → e_M → Prop) → Prop) (c_X12_ended : e_M → (Int → e_M → Prop) → Prop) (Q : Int → e_M → Prop) (x1 : Int) (M : e_M) : Prop :=
  ((0 ≤ x1 ∧ x1 < 152) ∧ (∀ M1 : e_M, M1 = e_up M 4456 86 (M 4462 (x1.toNat)) → (c_X12_areNamed x1 M1 (fun r2 M3 => ((¬ r2 = 0 → ((0 ≤ x1 ∧ x1 < 152) ∧ (((M3 4461 (x1.toNat)) = 4 → (c_X12_born x1 M3 (fun r66 M67 => (Q r66 M67)))) ∧ (¬ (M3 4461 (x1.toNat)) = 4 → (((M3 4461 (x1.toNat)) = 5 → (c_X12_ended M3 (fun r64 M65 => (Q r64 M65)))) ∧ (¬ (M3 4461 (x1.toNat)) = 5 → (((M3 4461 (x1.toNat)) = 6 → (c_X12_firm x1 M3 (fun r62 M63 => (Q r62 M63)))) ∧ (¬ (M3 4461 (x1.toNat)) = 6 → (((M3 4461 (x1.toNat)) = 7 → (c_X12_ended M3 (fun r60 M61 => (Q r60 M61)))) ∧ (¬ (M3 4461 (x1.toNat)) = 7 → (((M3 4461 (x1.toNat)) = 8 → (c_X12_guard M3 (fun r58 M59 => (Q r58 M59)))) ∧ (¬ (M3 4461 (x1.toNat)) = 8 → (((M3 4461 (x1.toNat)) = 9 → (c_X12_death x1 M3 (fun r56 M57 => (Q r56 M57)))) ∧ (¬ (M3 4461 (x1.toNat)) = 9 → (((M3 4461 (x1.toNat)) = 10 → (c_X12_close M3 (fun r54 M55 => (Q r54 M55)))) ∧ (¬ (M3 4461 (x1.toNat)) = 10 → (((M3 4461 (x1.toNat)) = 11 → (c_X12_sell x1 M3 (fun r52 M53 => (Q r52 M53)))) ∧ (¬ (M3 4461 (x1.toNat)) = 11 → (((M3 4461 (x1.toNat)) = 12 → (c_X12_ended M3 (fun r50 M51 => (Q r50 M51)))) ∧ (¬ (M3 4461 (x1.toNat)) = 12 → (((M3 4461 (x1.toNat)) = 13 → (c_X12_ended M3 (fun r48 M49 => (Q r48 M49)))) ∧ (¬ (M3 4461 (x1.toNat)) = 13 → (((M3 4461 (x1.toNat)) = 14 → (c_X12_split x1 M3 (fun r46 M47 => (Q r46 M47)))) ∧ (¬ (M3 4461 (x1.toNat)) = 14 → (((M3 4461 (x1.toNat)) = 15 → (c_X12_ended M3 (fun r44 M45 => (Q r44 M45)))) ∧ (¬ (M3 4461 (x1.toNat)) = 15 → (((M3 4461 (x1.toNat)) = 16 → (c_X12_join x1 M3 (fun r42 M43 => (Q r42 M43)))) ∧ (¬ (M3 4461 (x1.toNat)) = 16 → (((M3 4461 (x1.toNat)) = 17 → (c_X12_border x1 M3 (fun r40 M41 => (Q r40 M41)))) ∧ (¬ (M3 4461 (x1.toNat)) = 17 → (((M3 4461 (x1.toNat)) = 18 → (c_X12_charge x1 M3 (fun r38 M39 => (Q r38 M39)))) ∧ (¬ (M3 4461 (x1.toNat)) = 18 → (((M3 4461 (x1.toNat)) = 19 → (c_X12_pay x1 M3 (fun r36 M37 => (Q r36 M37)))) ∧ (¬ (M3 4461 (x1.toNat)) = 19 → (((M3 4461 (x1.toNat)) = 20 → (c_X12_assign M3 (fun r34 M35 => (Q r34 M35)))) ∧ (¬ (M3 4461 (x1.toNat)) = 20 → (((M3 4461 (x1.toNat)) = 21 → (c_X12_ranked M3 (fun r32 M33 => (Q r32 M33)))) ∧ (¬ (M3 4461 (x1.toNat)) = 21 → (((M3 4461 (x1.toNat)) = 22 → (c_X12_ended M3 (fun r30 M31 => (Q r30 M31)))) ∧ (¬ (M3 4461 (x1.toNat)) = 22 → (((M3 4461 (x1.toNat)) = 23 → (c_X12_freed M3 (fun r28 M29 => (Q r28 M29)))) ∧ (¬ (M3 4461 (x1.toNat)) = 23 → (((M3 4461 (x1.toNat)) = 24 → (c_X12_auction x1 M3 (fun r26 M27 => (Q r26 M27)))) ∧ (¬ (M3 4461 (x1.toNat)) = 24 → (((M3 4461 (x1.toNat)) = 25 → (c_X12_serve x1 M3 (fun r24 M25 => (Q r24 M25)))) ∧ (¬ (M3 4461 (x1.toNat)) = 25 → (((M3 4461 (x1.toNat)) = 26 → (c_X12_ended M3 (fun r22 M23 => (Q r22 M23)))) ∧ (¬ (M3 4461 (x1.toNat)) = 26 → (((M3 4461 (x1.toNat)) = 27 → (c_X12_ended M3 (fun r20 M21 => (Q r20 M21)))) ∧ (¬ (M3 4461 (x1.toNat)) = 27 → (((M3 4461 (x1.toNat)) = 28 → (c_X12_ended M3 (fun r18 M19 => (Q r18 M19)))) ∧ (¬ (M3 4461 (x1.toNat)) = 28 → (((M3 4461 (x1.toNat)) = 29 → (c_X12_waive M3 (fun r16 M17 => (Q r16 M17)))) ∧ (¬ (M3 4461 (x1.toNat)) = 29 → (((M3 4461 (x1.toNat)) = 30 → (c_X12_lease x1 M3 (fun r14 M15 => (Q r14 M15)))) ∧ (¬ (M3 4461 (x1.toNat)) = 30 → (((M3 4461 (x1.toNat)) = 31 → (c_X12_ended M3 (fun r12 M13 => (Q r12 M13)))) ∧ (¬ (M3 4461 (x1.toNat)) = 31 → (((M3 4461 (x1.toNat)) = 32 → (c_X12_caution x1 M3 (fun r10 M11 => (Q r10 M11)))) ∧ (¬ (M3 4461 (x1.toNat)) = 32 → (((M3 4461 (x1.toNat)) = 33 → (c_X12_option x1 M3 (fun r8 M9 => (Q r8 M9)))) ∧ (¬ (M3 4461 (x1.toNat)) = 33 → (((M3 4461 (x1.toNat)) = 34 → (c_X12_take M3 (fun r6 M7 => (Q r6 M7)))) ∧ (¬ (M3 4461 (x1.toNat)) = 34 → (c_X12_ended M3 (fun r4 M5 => (Q r4 M5))))))))))))))))))))))))))))))))))))))))))))))))))))))))))))))))))) ∧ (r2 = 0 → (Q 1 M3)))))))
def yX12_done (i : Nat) : e_Y := x_get YX12_done [YX12_areNamed, YX12_born, YX12_firm, YX12_guard, YX12_death, YX12_close, YX12_sell, YX12_split, YX12_join, YX12_border, YX12_charge, YX12_pay, YX12_assign, YX12_ranked, YX12_freed, YX12_auction, YX12_serve, YX12_waive, YX12_lease, YX12_caution, YX12_option, YX12_take, YX12_ended] i
def pX12_donef : List x_I := [(0, 4, 1, 0, 0, 0, []), (1, 4, 1, 0, 0, 0, []), (2, 25, 12, 15, 4, 0, [(0, 20, 152), (0, 1, 6)]), (5, 2, 1, 1, 0, 0, []), (6, 27, 0, 0, 0, 0, []), (7, 26, 12, 86, 0, 0, []), (10, 4, 1, 0, 0, 0, []), (11, 2, 1, 1, 0, 0, []), (12, 40, 0, 2, 14, 0, []), (15, 17, 20, 1, 13, 0, []), (18, 0, 1, 0, 0, 1, []), (19, 41, 0, 0, 0, 0, []), (20, 4, 1, 0, 0, 0, []), (21, 25, 12, 14, 4, 0, [(0, 20, 152), (0, 1, 5)]), (24, 2, 1, 1, 0, 0, []), (25, 27, 0, 0, 0, 0, []), (26, 24, 283, 0, 95, 0, [(4, 164, 18), (5, 283, 95), (6, 170, 22), (7, 283, 95), (8, 176, 26), (9, 181, 29), (10, 187, 33), (11, 192, 36), (12, 283, 95), (13, 283, 95), (14, 198, 40), (15, 283, 95), (16, 204, 44), (17, 210, 48), (18, 216, 52), (19, 222, 56), (20, 228, 60), (21, 233, 63), (22, 283, 95), (23, 238, 66), (24, 243, 69), (25, 249, 73), (26, 283, 95), (27, 283, 95), (28, 283, 95), (29, 255, 77), (30, 260, 80), (31, 283, 95), (32, 266, 84), (33, 272, 88), (34, 278, 92)]), (164, 4, 1, 0, 0, 0, []), (165, 2, 1, 1, 0, 0, []), (166, 40, 1, 2, 14, 0, []), (169, 41, 0, 0, 0, 0, []), (170, 4, 1, 0, 0, 0, []), (171, 2, 1, 1, 0, 0, []), (172, 40, 2, 2, 14, 0, []), (175, 41, 0, 0, 0, 0, []), (176, 4, 1, 0, 0, 0, []), (177, 40, 3, 1, 14, 0, []), (180, 41, 0, 0, 0, 0, []), (181, 4, 1, 0, 0, 0, []), (182, 2, 1, 1, 0, 0, []), (183, 40, 4, 2, 14, 0, []), (186, 41, 0, 0, 0, 0, []), (187, 4, 1, 0, 0, 0, []), (188, 40, 5, 1, 14, 0, []), (191, 41, 0, 0, 0, 0, []), (192, 4, 1, 0, 0, 0, []), (193, 2, 1, 1, 0, 0, []), (194, 40, 6, 2, 14, 0, []), (197, 41, 0, 0, 0, 0, []), (198, 4, 1, 0, 0, 0, []), (199, 2, 1, 1, 0, 0, []), (200, 40, 7, 2, 14, 0, []), (203, 41, 0, 0, 0, 0, []), (204, 4, 1, 0, 0, 0, []), (205, 2, 1, 1, 0, 0, []), (206, 40, 8, 2, 14, 0, []), (209, 41, 0, 0, 0, 0, []), (210, 4, 1, 0, 0, 0, []), (211, 2, 1, 1, 0, 0, []), (212, 40, 9, 2, 14, 0, []), (215, 41, 0, 0, 0, 0, []), (216, 4, 1, 0, 0, 0, []), (217, 2, 1, 1, 0, 0, []), (218, 40, 10, 2, 14, 0, []), (221, 41, 0, 0, 0, 0, []), (222, 4, 1, 0, 0, 0, []), (223, 2, 1, 1, 0, 0, []), (224, 40, 11, 2, 14, 0, []), (227, 41, 0, 0, 0, 0, []), (228, 4, 1, 0, 0, 0, []), (229, 40, 12, 1, 14, 0, []), (232, 41, 0, 0, 0, 0, []), (233, 4, 1, 0, 0, 0, []), (234, 40, 13, 1, 14, 0, []), (237, 41, 0, 0, 0, 0, []), (238, 4, 1, 0, 0, 0, []), (239, 40, 14, 1, 14, 0, []), (242, 41, 0, 0, 0, 0, []), (243, 4, 1, 0, 0, 0, []), (244, 2, 1, 1, 0, 0, []), (245, 40, 15, 2, 14, 0, []), (248, 41, 0, 0, 0, 0, []), (249, 4, 1, 0, 0, 0, []), (250, 2, 1, 1, 0, 0, []), (251, 40, 16, 2, 14, 0, []), (254, 41, 0, 0, 0, 0, []), (255, 4, 1, 0, 0, 0, []), (256, 40, 17, 1, 14, 0, []), (259, 41, 0, 0, 0, 0, []), (260, 4, 1, 0, 0, 0, []), (261, 2, 1, 1, 0, 0, []), (262, 40, 18, 2, 14, 0, []), (265, 41, 0, 0, 0, 0, []), (266, 4, 1, 0, 0, 0, []), (267, 2, 1, 1, 0, 0, []), (268, 40, 19, 2, 14, 0, []), (271, 41, 0, 0, 0, 0, []), (272, 4, 1, 0, 0, 0, []), (273, 2, 1, 1, 0, 0, []), (274, 40, 20, 2, 14, 0, []), (277, 41, 0, 0, 0, 0, []), (278, 4, 1, 0, 0, 0, []), (279, 40, 21, 1, 14, 0, []), (282, 41, 0, 0, 0, 0, []), (283, 4, 1, 0, 0, 0, []), (284, 40, 22, 1, 14, 0, []), (287, 41, 0, 0, 0, 0, [])]
set_option maxRecDepth 20000 in
theorem qX12_donef : f_all yX12_done YX12_done pX12_donef :=
  ⟨f_aload_n (n := 0) (e_dx DX12_done_0 0 rfl) rfl,
  f_aload_n (n := 0) (e_dx DX12_done_0 1 rfl) rfl,
  f_getA (e_dx DX12_done_0 2 rfl) fX12_27 rfl (by decide) (Nat.le_of_ble_eq_true rfl) rfl (by decide),
  f_iload_n (n := 1) (e_dx DX12_done_0 3 rfl) rfl,
  f_iaload (e_dx DX12_done_0 4 rfl),
  f_putn (e_dx DX12_done_0 5 rfl) fX12_543 (fun q hq => by cases hq; rfl) rfl (Or.inl rfl) (by decide),
  f_aload_n (n := 0) (e_dx DX12_done_0 6 rfl) rfl,
  f_iload_n (n := 1) (e_dx DX12_done_0 7 rfl) rfl,
  x_callV (e_dx DX12_done_0 8 rfl) mwX12_areNamed vwX12_areNamed cX12_591 rfl,
  f_if_ne (e_dx DX12_done_0 9 rfl) rfl,
  f_iconst (e_dx DX12_done_0 10 rfl) ⟨by decide, by decide⟩,
  ⟨(e_dx DX12_done_0 11 rfl), rfl⟩,
  f_aload_n (n := 0) (e_dx DX12_done_0 12 rfl) rfl,
  f_getA (e_dx DX12_done_0 13 rfl) fX12_24 rfl (by decide) (Nat.le_of_ble_eq_true rfl) rfl (by decide),
  f_iload_n (n := 1) (e_dx DX12_done_0 14 rfl) rfl,
  f_iaload (e_dx DX12_done_0 15 rfl),
  f_tsw (e_dx DX12_done_0 16 rfl) rfl rfl (by decide) rfl,
  f_aload_n (n := 0) (e_dx DX12_done_0 17 rfl) rfl,
  f_iload_n (n := 1) (e_dx DX12_done_0 18 rfl) rfl,
  x_callV (e_dx DX12_done_0 19 rfl) mwX12_born vwX12_born cX12_594 rfl,
  ⟨(e_dx DX12_done_0 20 rfl), rfl⟩,
  f_aload_n (n := 0) (e_dx DX12_done_0 21 rfl) rfl,
  f_iload_n (n := 1) (e_dx DX12_done_0 22 rfl) rfl,
  x_callV (e_dx DX12_done_0 23 rfl) mwX12_firm vwX12_firm cX12_597 rfl,
  ⟨(e_dx DX12_done_0 24 rfl), rfl⟩,
  f_aload_n (n := 0) (e_dx DX12_done_0 25 rfl) rfl,
  x_callV (e_dx DX12_done_0 26 rfl) mwX12_guard vwX12_guard cX12_600 rfl,
  ⟨(e_dx DX12_done_0 27 rfl), rfl⟩,
  f_aload_n (n := 0) (e_dx DX12_done_0 28 rfl) rfl,
  f_iload_n (n := 1) (e_dx DX12_done_0 29 rfl) rfl,
  x_callV (e_dx DX12_done_0 30 rfl) mwX12_death vwX12_death cX12_603 rfl,
  ⟨(e_dx DX12_done_0 31 rfl), rfl⟩,
  f_aload_n (n := 0) (e_dx DX12_done_0 32 rfl) rfl,
  x_callV (e_dx DX12_done_0 33 rfl) mwX12_close vwX12_close cX12_606 rfl,
  ⟨(e_dx DX12_done_0 34 rfl), rfl⟩,
  f_aload_n (n := 0) (e_dx DX12_done_0 35 rfl) rfl,
  f_iload_n (n := 1) (e_dx DX12_done_0 36 rfl) rfl,
  x_callV (e_dx DX12_done_0 37 rfl) mwX12_sell vwX12_sell cX12_609 rfl,
  ⟨(e_dx DX12_done_0 38 rfl), rfl⟩,
  f_aload_n (n := 0) (e_dx DX12_done_0 39 rfl) rfl,
  f_iload_n (n := 1) (e_dx DX12_done_1 0 rfl) rfl,
  x_callV (e_dx DX12_done_1 1 rfl) mwX12_split vwX12_split cX12_612 rfl,
  ⟨(e_dx DX12_done_1 2 rfl), rfl⟩,
  f_aload_n (n := 0) (e_dx DX12_done_1 3 rfl) rfl,
  f_iload_n (n := 1) (e_dx DX12_done_1 4 rfl) rfl,
  x_callV (e_dx DX12_done_1 5 rfl) mwX12_join vwX12_join cX12_615 rfl,
  ⟨(e_dx DX12_done_1 6 rfl), rfl⟩,
  f_aload_n (n := 0) (e_dx DX12_done_1 7 rfl) rfl,
  f_iload_n (n := 1) (e_dx DX12_done_1 8 rfl) rfl,
  x_callV (e_dx DX12_done_1 9 rfl) mwX12_border vwX12_border cX12_618 rfl,
  ⟨(e_dx DX12_done_1 10 rfl), rfl⟩,
  f_aload_n (n := 0) (e_dx DX12_done_1 11 rfl) rfl,
  f_iload_n (n := 1) (e_dx DX12_done_1 12 rfl) rfl,
  x_callV (e_dx DX12_done_1 13 rfl) mwX12_charge vwX12_charge cX12_621 rfl,
  ⟨(e_dx DX12_done_1 14 rfl), rfl⟩,
  f_aload_n (n := 0) (e_dx DX12_done_1 15 rfl) rfl,
  f_iload_n (n := 1) (e_dx DX12_done_1 16 rfl) rfl,
  x_callV (e_dx DX12_done_1 17 rfl) mwX12_pay vwX12_pay cX12_624 rfl,
  ⟨(e_dx DX12_done_1 18 rfl), rfl⟩,
  f_aload_n (n := 0) (e_dx DX12_done_1 19 rfl) rfl,
  x_callV (e_dx DX12_done_1 20 rfl) mwX12_assign vwX12_assign cX12_627 rfl,
  ⟨(e_dx DX12_done_1 21 rfl), rfl⟩,
  f_aload_n (n := 0) (e_dx DX12_done_1 22 rfl) rfl,
  x_callV (e_dx DX12_done_1 23 rfl) mwX12_ranked vwX12_ranked cX12_630 rfl,
  ⟨(e_dx DX12_done_1 24 rfl), rfl⟩,
  f_aload_n (n := 0) (e_dx DX12_done_1 25 rfl) rfl,
  x_callV (e_dx DX12_done_1 26 rfl) mwX12_freed vwX12_freed cX12_633 rfl,
  ⟨(e_dx DX12_done_1 27 rfl), rfl⟩,
  f_aload_n (n := 0) (e_dx DX12_done_1 28 rfl) rfl,
  f_iload_n (n := 1) (e_dx DX12_done_1 29 rfl) rfl,
  x_callV (e_dx DX12_done_1 30 rfl) mwX12_auction vwX12_auction cX12_636 rfl,
  ⟨(e_dx DX12_done_1 31 rfl), rfl⟩,
  f_aload_n (n := 0) (e_dx DX12_done_1 32 rfl) rfl,
  f_iload_n (n := 1) (e_dx DX12_done_1 33 rfl) rfl,
  x_callV (e_dx DX12_done_1 34 rfl) mwX12_serve vwX12_serve cX12_639 rfl,
  ⟨(e_dx DX12_done_1 35 rfl), rfl⟩,
  f_aload_n (n := 0) (e_dx DX12_done_1 36 rfl) rfl,
  x_callV (e_dx DX12_done_1 37 rfl) mwX12_waive vwX12_waive cX12_642 rfl,
  ⟨(e_dx DX12_done_1 38 rfl), rfl⟩,
  f_aload_n (n := 0) (e_dx DX12_done_1 39 rfl) rfl,
  f_iload_n (n := 1) (e_dx DX12_done_2 0 rfl) rfl,
  x_callV (e_dx DX12_done_2 1 rfl) mwX12_lease vwX12_lease cX12_645 rfl,
  ⟨(e_dx DX12_done_2 2 rfl), rfl⟩,
  f_aload_n (n := 0) (e_dx DX12_done_2 3 rfl) rfl,
  f_iload_n (n := 1) (e_dx DX12_done_2 4 rfl) rfl,
  x_callV (e_dx DX12_done_2 5 rfl) mwX12_caution vwX12_caution cX12_648 rfl,
  ⟨(e_dx DX12_done_2 6 rfl), rfl⟩,
  f_aload_n (n := 0) (e_dx DX12_done_2 7 rfl) rfl,
  f_iload_n (n := 1) (e_dx DX12_done_2 8 rfl) rfl,
  x_callV (e_dx DX12_done_2 9 rfl) mwX12_option vwX12_option cX12_651 rfl,
  ⟨(e_dx DX12_done_2 10 rfl), rfl⟩,
  f_aload_n (n := 0) (e_dx DX12_done_2 11 rfl) rfl,
  x_callV (e_dx DX12_done_2 12 rfl) mwX12_take vwX12_take cX12_654 rfl,
  ⟨(e_dx DX12_done_2 13 rfl), rfl⟩,
  f_aload_n (n := 0) (e_dx DX12_done_2 14 rfl) rfl,
  x_callV (e_dx DX12_done_2 15 rfl) mwX12_ended vwX12_ended cX12_657 rfl,
  ⟨(e_dx DX12_done_2 16 rfl), rfl⟩, trivial⟩
def lX12_done (c_X12_areNamed : Int → e_M → (Int → e_M → Prop) → Prop) (c_X12_born : Int → e_M → (Int → e_M → Prop) → Prop) (c_X12_firm : Int → e_M → (Int → e_M → Prop) → Prop) (c_X12_guard : e_M → (Int → e_M → Prop) → Prop) (c_X12_death : Int → e_M → (Int → e_M → Prop) → Prop) (c_X12_close : e_M → (Int → e_M → Prop) → Prop) (c_X12_sell : Int → e_M → (Int → e_M → Prop) → Prop) (c_X12_split : Int → e_M → (Int → e_M → Prop) → Prop) (c_X12_join : Int → e_M → (Int → e_M → Prop) → Prop) (c_X12_border : Int → e_M → (Int → e_M → Prop) → Prop) (c_X12_charge : Int → e_M → (Int → e_M → Prop) → Prop) (c_X12_pay : Int → e_M → (Int → e_M → Prop) → Prop) (c_X12_assign : e_M → (Int → e_M → Prop) → Prop) (c_X12_ranked : e_M → (Int → e_M → Prop) → Prop) (c_X12_freed : e_M → (Int → e_M → Prop) → Prop) (c_X12_auction : Int → e_M → (Int → e_M → Prop) → Prop) (c_X12_serve : Int → e_M → (Int → e_M → Prop) → Prop) (c_X12_waive : e_M → (Int → e_M → Prop) → Prop) (c_X12_lease : Int → e_M → (Int → e_M → Prop) → Prop) (c_X12_caution : Int → e_M → (Int → e_M → Prop) → Prop) (c_X12_option : Int → e_M → (Int → e_M → Prop) → Prop) (c_X12_take : e_M → (Int → e_M → Prop) → Prop) (c_X12_ended : e_M → (Int → e_M → Prop) → Prop) : List (Nat × f_Wt) := [(0, f_wm [(4466, 12, 123), (1, 0, 0)] (fun ar M R => c_X12_areNamed (f_vi (f_nth ar 1)) M (fun r M => R (some (.inl r)) M))), (1, f_wm [(4466, 12, 123), (1, 0, 0)] (fun ar M R => c_X12_born (f_vi (f_nth ar 1)) M (fun r M => R (some (.inl r)) M))), (2, f_wm [(4466, 12, 123), (1, 0, 0)] (fun ar M R => c_X12_firm (f_vi (f_nth ar 1)) M (fun r M => R (some (.inl r)) M))), (3, f_wm [(4466, 12, 123)] (fun ar M R => c_X12_guard  M (fun r M => R (some (.inl r)) M))), (4, f_wm [(4466, 12, 123), (1, 0, 0)] (fun ar M R => c_X12_death (f_vi (f_nth ar 1)) M (fun r M => R (some (.inl r)) M))), (5, f_wm [(4466, 12, 123)] (fun ar M R => c_X12_close  M (fun r M => R (some (.inl r)) M))), (6, f_wm [(4466, 12, 123), (1, 0, 0)] (fun ar M R => c_X12_sell (f_vi (f_nth ar 1)) M (fun r M => R (some (.inl r)) M))), (7, f_wm [(4466, 12, 123), (1, 0, 0)] (fun ar M R => c_X12_split (f_vi (f_nth ar 1)) M (fun r M => R (some (.inl r)) M))), (8, f_wm [(4466, 12, 123), (1, 0, 0)] (fun ar M R => c_X12_join (f_vi (f_nth ar 1)) M (fun r M => R (some (.inl r)) M))), (9, f_wm [(4466, 12, 123), (1, 0, 0)] (fun ar M R => c_X12_border (f_vi (f_nth ar 1)) M (fun r M => R (some (.inl r)) M))), (10, f_wm [(4466, 12, 123), (1, 0, 0)] (fun ar M R => c_X12_charge (f_vi (f_nth ar 1)) M (fun r M => R (some (.inl r)) M))), (11, f_wm [(4466, 12, 123), (1, 0, 0)] (fun ar M R => c_X12_pay (f_vi (f_nth ar 1)) M (fun r M => R (some (.inl r)) M))), (12, f_wm [(4466, 12, 123)] (fun ar M R => c_X12_assign  M (fun r M => R (some (.inl r)) M))), (13, f_wm [(4466, 12, 123)] (fun ar M R => c_X12_ranked  M (fun r M => R (some (.inl r)) M))), (14, f_wm [(4466, 12, 123)] (fun ar M R => c_X12_freed  M (fun r M => R (some (.inl r)) M))), (15, f_wm [(4466, 12, 123), (1, 0, 0)] (fun ar M R => c_X12_auction (f_vi (f_nth ar 1)) M (fun r M => R (some (.inl r)) M))), (16, f_wm [(4466, 12, 123), (1, 0, 0)] (fun ar M R => c_X12_serve (f_vi (f_nth ar 1)) M (fun r M => R (some (.inl r)) M))), (17, f_wm [(4466, 12, 123)] (fun ar M R => c_X12_waive  M (fun r M => R (some (.inl r)) M))), (18, f_wm [(4466, 12, 123), (1, 0, 0)] (fun ar M R => c_X12_lease (f_vi (f_nth ar 1)) M (fun r M => R (some (.inl r)) M))), (19, f_wm [(4466, 12, 123), (1, 0, 0)] (fun ar M R => c_X12_caution (f_vi (f_nth ar 1)) M (fun r M => R (some (.inl r)) M))), (20, f_wm [(4466, 12, 123), (1, 0, 0)] (fun ar M R => c_X12_option (f_vi (f_nth ar 1)) M (fun r M => R (some (.inl r)) M))), (21, f_wm [(4466, 12, 123)] (fun ar M R => c_X12_take  M (fun r M => R (some (.inl r)) M))), (22, f_wm [(4466, 12, 123)] (fun ar M R => c_X12_ended  M (fun r M => R (some (.inl r)) M)))]
set_option maxRecDepth 20000 in
theorem BX12_done {sh : Nat → Nat × Nat} {t : Nat} {rm : Nat × Nat × Nat} {cs : Nat × Nat} {R : f_Rt} {c_X12_areNamed : Int → e_M → (Int → e_M → Prop) → Prop} {c_X12_born : Int → e_M → (Int → e_M → Prop) → Prop} {c_X12_firm : Int → e_M → (Int → e_M → Prop) → Prop} {c_X12_guard : e_M → (Int → e_M → Prop) → Prop} {c_X12_death : Int → e_M → (Int → e_M → Prop) → Prop} {c_X12_close : e_M → (Int → e_M → Prop) → Prop} {c_X12_sell : Int → e_M → (Int → e_M → Prop) → Prop} {c_X12_split : Int → e_M → (Int → e_M → Prop) → Prop} {c_X12_join : Int → e_M → (Int → e_M → Prop) → Prop} {c_X12_border : Int → e_M → (Int → e_M → Prop) → Prop} {c_X12_charge : Int → e_M → (Int → e_M → Prop) → Prop} {c_X12_pay : Int → e_M → (Int → e_M → Prop) → Prop} {c_X12_assign : e_M → (Int → e_M → Prop) → Prop} {c_X12_ranked : e_M → (Int → e_M → Prop) → Prop} {c_X12_freed : e_M → (Int → e_M → Prop) → Prop} {c_X12_auction : Int → e_M → (Int → e_M → Prop) → Prop} {c_X12_serve : Int → e_M → (Int → e_M → Prop) → Prop} {c_X12_waive : e_M → (Int → e_M → Prop) → Prop} {c_X12_lease : Int → e_M → (Int → e_M → Prop) → Prop} {c_X12_caution : Int → e_M → (Int → e_M → Prop) → Prop} {c_X12_option : Int → e_M → (Int → e_M → Prop) → Prop} {c_X12_take : e_M → (Int → e_M → Prop) → Prop} {c_X12_ended : e_M → (Int → e_M → Prop) → Prop} {x1 : Int} {M : e_M} (C : f_Hy sh t yX12_done rm cs 12 (lX12_done c_X12_areNamed c_X12_born c_X12_firm c_X12_guard c_X12_death c_X12_close c_X12_sell c_X12_split c_X12_join c_X12_border c_X12_charge c_X12_pay c_X12_assign c_X12_ranked c_X12_freed c_X12_auction c_X12_serve c_X12_waive c_X12_lease c_X12_caution c_X12_option c_X12_take c_X12_ended) R) (h : VX12_done c_X12_areNamed c_X12_born c_X12_firm c_X12_guard c_X12_death c_X12_close c_X12_sell c_X12_split c_X12_join c_X12_border c_X12_charge c_X12_pay c_X12_assign c_X12_ranked c_X12_freed c_X12_auction c_X12_serve c_X12_waive c_X12_lease c_X12_caution c_X12_option c_X12_take c_X12_ended (fun r M => R (some (.inl r)) M) x1 M) : f_E sh t YX12_done rm cs (f_Q sh t R) 0 [.inr (.inr (.inl (12, 123, 4456))), .inl x1] [] M :=
  f_go (KC := f_kc []) C qX12_donef f_kc_nil 99 0 h
def WX12_done (x1 : Int) (M : e_M) (Q : Int → e_M → Prop) : Prop :=
  VX12_done WX12_areNamed WX12_born WX12_firm WX12_guard WX12_death WX12_close WX12_sell WX12_split WX12_join WX12_border WX12_charge WX12_pay WX12_assign WX12_ranked WX12_freed WX12_auction WX12_serve WX12_waive WX12_lease WX12_caution WX12_option WX12_take WX12_ended Q x1 M
theorem PX12_done {sh : Nat → Nat × Nat} {t : Nat} {rm : Nat × Nat × Nat} {cs : Nat × Nat} {R : f_Rt} {x1 : Int} {M : e_M} (C : f_Hy sh t yX12_done rm cs 12 (lX12_done WX12_areNamed WX12_born WX12_firm WX12_guard WX12_death WX12_close WX12_sell WX12_split WX12_join WX12_border WX12_charge WX12_pay WX12_assign WX12_ranked WX12_freed WX12_auction WX12_serve WX12_waive WX12_lease WX12_caution WX12_option WX12_take WX12_ended) R) (h : WX12_done x1 M (fun r M => R (some (.inl r)) M)) : f_E sh t YX12_done rm cs (f_Q sh t R) 0 [.inr (.inr (.inl (12, 123, 4456))), .inl x1] [] M :=
  BX12_done C h
def wX12_done : f_Wt := f_wm [(4466, 12, 123), (1, 0, 0)] (fun ar M R => WX12_done (f_vi (f_nth ar 1)) M (fun r M => R (some (.inl r)) M))
theorem TX12_done {sh : Nat → Nat × Nat} {t : Nat} : f_Mt sh t YX12_done 12 (wX12_done) :=
  f_Mt_of (k := 0) (Nat.le_of_ble_eq_true rfl) rfl rfl (fun ar M R rm cs h1 h2 h3 hX h => PX12_done ⟨Nat.le_of_ble_eq_true rfl, h1, h2, h3, ⟨(f_Mt.up (Nat.le_of_ble_eq_true rfl) TX12_areNamed), (f_Mt.up (Nat.le_of_ble_eq_true rfl) TX12_born), (f_Mt.up (Nat.le_of_ble_eq_true rfl) TX12_firm), (f_Mt.up (Nat.le_of_ble_eq_true rfl) TX12_guard), (f_Mt.up (Nat.le_of_ble_eq_true rfl) TX12_death), (f_Mt.up (Nat.le_of_ble_eq_true rfl) TX12_close), (f_Mt.up (Nat.le_of_ble_eq_true rfl) TX12_sell), (f_Mt.up (Nat.le_of_ble_eq_true rfl) TX12_split), (f_Mt.up (Nat.le_of_ble_eq_true rfl) TX12_join), (f_Mt.up (Nat.le_of_ble_eq_true rfl) TX12_border), (f_Mt.up (Nat.le_of_ble_eq_true rfl) TX12_charge), (f_Mt.up (Nat.le_of_ble_eq_true rfl) TX12_pay), (f_Mt.up (Nat.le_of_ble_eq_true rfl) TX12_assign), (f_Mt.up (Nat.le_of_ble_eq_true rfl) TX12_ranked), (f_Mt.up (Nat.le_of_ble_eq_true rfl) TX12_freed), (f_Mt.up (Nat.le_of_ble_eq_true rfl) TX12_auction), (f_Mt.up (Nat.le_of_ble_eq_true rfl) TX12_serve), (f_Mt.up (Nat.le_of_ble_eq_true rfl) TX12_waive), (f_Mt.up (Nat.le_of_ble_eq_true rfl) TX12_lease), (f_Mt.up (Nat.le_of_ble_eq_true rfl) TX12_caution), (f_Mt.up (Nat.le_of_ble_eq_true rfl) TX12_option), (f_Mt.up (Nat.le_of_ble_eq_true rfl) TX12_take), (f_Mt.up (Nat.le_of_ble_eq_true rfl) TX12_ended), trivial⟩, hX⟩ h)
def VX12_judge_2 (k42 : Int → Int → e_M → Prop) (k2 : Int → Int → e_M → Prop) (Q : e_M → Prop) (x1 : Int) (x2 : Int) (M : e_M) : Prop :=
  (((M 4456 33) < x2 → (k42 x1 (M 4456 33) M)) ∧ (x2 ≤ (M 4456 33) → (((0 ≤ x2 ∧ x2 < 152) ∧ ((0 : Int) = 0 ∨ (0 : Int) = 1)) ∧ (∀ M1 : e_M, M1 = e_up M 4521 (x2.toNat) 0 → (((0 ≤ x2 ∧ x2 < 152) ∧ ((0 : Int) = 0 ∨ (0 : Int) = 1)) ∧ (∀ M2 : e_M, M2 = e_up M1 4522 (x2.toNat) 0 → ((0 ≤ x2 ∧ x2 < 152) ∧ (∀ M3 : e_M, M3 = e_up M2 4523 (x2.toNat) x2 → (k2 x1 (e_w32 (x2 + 1)) M3)))))))))
def VX12_judge_42 (k141 : Int → Int → e_M → Prop) (Q : e_M → Prop) (x1 : Int) (x2 : Int) (M : e_M) : Prop :=
  ((x2 < 1 → (Q M)) ∧ (1 ≤ x2 → ((0 ≤ x2 ∧ x2 < 152) ∧ ((x1 < (M 4477 (x2.toNat)) → (k141 x1 x2 M)) ∧ ((M 4477 (x2.toNat)) ≤ x1 → ((0 ≤ x2 ∧ x2 < 152) ∧ (((M 4478 (x2.toNat)) = 0 → (k141 x1 x2 M)) ∧ (¬ (M 4478 (x2.toNat)) = 0 → ((0 ≤ x2 ∧ x2 < 152) ∧ (((M 4522 (x2.toNat)) = 0 → (((0 ≤ x2 ∧ x2 < 152) ∧ ((1 : Int) = 0 ∨ (1 : Int) = 1)) ∧ (∀ M1 : e_M, M1 = e_up M 4521 (x2.toNat) 1 → ((0 ≤ x2 ∧ x2 < 152) ∧ (((M1 4479 (x2.toNat)) = 0 → ((0 ≤ x2 ∧ x2 < 152) ∧ ((0 ≤ (M1 4478 (x2.toNat)) ∧ (M1 4478 (x2.toNat)) < 152) ∧ ((0 ≤ x2 ∧ x2 < 152) ∧ ((¬ (M1 4523 ((M1 4478 (x2.toNat)).toNat)) = (M1 4478 (x2.toNat)) → (k141 x1 x2 M1)) ∧ ((M1 4523 ((M1 4478 (x2.toNat)).toNat)) = (M1 4478 (x2.toNat)) → ((0 ≤ x2 ∧ x2 < 152) ∧ ((0 ≤ (M1 4478 (x2.toNat)) ∧ (M1 4478 (x2.toNat)) < 152) ∧ (∀ M2 : e_M, M2 = e_up M1 4523 ((M1 4478 (x2.toNat)).toNat) x2 → (k141 x1 x2 M2)))))))))) ∧ (¬ (M1 4479 (x2.toNat)) = 0 → ((0 ≤ x2 ∧ x2 < 152) ∧ (((0 ≤ (M1 4478 (x2.toNat)) ∧ (M1 4478 (x2.toNat)) < 152) ∧ ((1 : Int) = 0 ∨ (1 : Int) = 1)) ∧ (∀ M3 : e_M, M3 = e_up M1 4522 ((M1 4478 (x2.toNat)).toNat) 1 → (k141 x1 x2 M3)))))))))) ∧ (¬ (M 4522 (x2.toNat)) = 0 → (k141 x1 x2 M))))))))))))
def VX12_judge_141 (k42 : Int → Int → e_M → Prop) (Q : e_M → Prop) (x1 : Int) (x2 : Int) (M : e_M) : Prop :=
  (k42 x1 (e_w32 (x2 + (-1))) M)
def VX12_judge (k2 : Int → Int → e_M → Prop) (Q : e_M → Prop) (x1 : Int) (M : e_M) : Prop :=
  (k2 x1 1 M)
def yX12_judge (i : Nat) : e_Y := x_get YX12_judge [] i
def pX12_judgef : List x_I := [(0, 0, 1, 0, 0, 1, []), (1, 5, 1, 2, 0, 0, []), (2, 49, 0, 0, 0, 0, []), (2, 2, 1, 2, 0, 0, []), (3, 4, 1, 0, 0, 0, []), (4, 25, 12, 33, 0, 0, []), (7, 18, 37, 4, 25, 0, []), (10, 4, 1, 0, 0, 0, []), (11, 25, 12, 92, 4, 0, [(0, 21, 152), (0, 1, 65)]), (14, 2, 1, 2, 0, 0, []), (15, 0, 1, 0, 0, 0, []), (16, 29, 0, 0, 0, 0, []), (17, 4, 1, 0, 0, 0, []), (18, 25, 12, 93, 4, 0, [(0, 21, 152), (0, 1, 66)]), (21, 2, 1, 2, 0, 0, []), (22, 0, 1, 0, 0, 0, []), (23, 29, 0, 0, 0, 0, []), (24, 4, 1, 0, 0, 0, []), (25, 25, 12, 94, 4, 0, [(0, 20, 152), (0, 1, 67)]), (28, 2, 1, 2, 0, 0, []), (29, 2, 1, 2, 0, 0, []), (30, 28, 0, 0, 0, 0, []), (31, 8, 0, 2, 0, 1, []), (34, 19, 2, 0, 3, 0, []), (37, 4, 1, 0, 0, 0, []), (38, 25, 12, 33, 0, 0, []), (41, 5, 1, 2, 0, 0, []), (42, 49, 0, 0, 0, 0, []), (42, 2, 1, 2, 0, 0, []), (43, 0, 1, 0, 0, 1, []), (44, 18, 147, 2, 91, 0, []), (47, 4, 1, 0, 0, 0, []), (48, 25, 12, 30, 4, 0, [(0, 20, 152), (0, 1, 21)]), (51, 2, 1, 2, 0, 0, []), (52, 27, 0, 0, 0, 0, []), (53, 2, 1, 1, 0, 0, []), (54, 18, 141, 4, 88, 0, []), (57, 4, 1, 0, 0, 0, []), (58, 25, 12, 31, 4, 0, [(0, 20, 152), (0, 1, 22)]), (61, 2, 1, 2, 0, 0, []), (62, 27, 0, 0, 0, 0, []), (63, 17, 141, 0, 88, 0, []), (66, 4, 1, 0, 0, 0, []), (67, 25, 12, 93, 4, 0, [(0, 21, 152), (0, 1, 66)]), (70, 2, 1, 2, 0, 0, []), (71, 27, 0, 2, 0, 0, []), (72, 17, 78, 0, 49, 0, []), (75, 19, 141, 0, 88, 0, []), (78, 4, 1, 0, 0, 0, []), (79, 25, 12, 92, 4, 0, [(0, 21, 152), (0, 1, 65)]), (82, 2, 1, 2, 0, 0, []), (83, 0, 1, 0, 0, 1, []), (84, 29, 0, 0, 0, 0, []), (85, 4, 1, 0, 0, 0, []), (86, 25, 12, 32, 4, 0, [(0, 21, 152), (0, 1, 23)]), (89, 2, 1, 2, 0, 0, []), (90, 27, 0, 2, 0, 0, []), (91, 17, 109, 0, 68, 0, []), (94, 4, 1, 0, 0, 0, []), (95, 25, 12, 93, 4, 0, [(0, 21, 152), (0, 1, 66)]), (98, 4, 1, 0, 0, 0, []), (99, 25, 12, 31, 4, 0, [(0, 20, 152), (0, 1, 22)]), (102, 2, 1, 2, 0, 0, []), (103, 27, 0, 0, 0, 0, []), (104, 0, 1, 0, 0, 1, []), (105, 29, 0, 0, 0, 0, []), (106, 19, 141, 0, 88, 0, []), (109, 4, 1, 0, 0, 0, []), (110, 25, 12, 94, 4, 0, [(0, 20, 152), (0, 1, 67)]), (113, 4, 1, 0, 0, 0, []), (114, 25, 12, 31, 4, 0, [(0, 20, 152), (0, 1, 22)]), (117, 2, 1, 2, 0, 0, []), (118, 27, 0, 0, 0, 0, []), (119, 27, 0, 0, 0, 0, []), (120, 4, 1, 0, 0, 0, []), (121, 25, 12, 31, 4, 0, [(0, 20, 152), (0, 1, 22)]), (124, 2, 1, 2, 0, 0, []), (125, 27, 0, 0, 0, 0, []), (126, 18, 141, 1, 88, 0, []), (129, 4, 1, 0, 0, 0, []), (130, 25, 12, 94, 4, 0, [(0, 20, 152), (0, 1, 67)]), (133, 4, 1, 0, 0, 0, []), (134, 25, 12, 31, 4, 0, [(0, 20, 152), (0, 1, 22)]), (137, 2, 1, 2, 0, 0, []), (138, 27, 0, 0, 0, 0, []), (139, 2, 1, 2, 0, 0, []), (140, 28, 0, 0, 0, 0, []), (141, 49, 0, 0, 0, 0, []), (141, 8, 0, 2, 0, (-1), []), (144, 19, 42, 0, 28, 0, []), (147, 44, 0, 0, 0, 0, [])]
set_option maxRecDepth 20000 in
theorem qX12_judgef : f_all yX12_judge YX12_judge pX12_judgef :=
  ⟨f_iconst (e_dx DX12_judge_0 0 rfl) ⟨by decide, by decide⟩,
  f_istore_n (n := 2) (e_dx DX12_judge_0 1 rfl) rfl (by decide),
  trivial,
  f_iload_n (n := 2) (e_dx DX12_judge_0 2 rfl) rfl,
  f_aload_n (n := 0) (e_dx DX12_judge_0 3 rfl) rfl,
  f_getf (e_dx DX12_judge_0 4 rfl) fX12_755 rfl (by decide) (by decide) (by decide),
  f_icmp_gt (e_dx DX12_judge_0 5 rfl) rfl,
  f_aload_n (n := 0) (e_dx DX12_judge_0 6 rfl) rfl,
  f_getA (e_dx DX12_judge_0 7 rfl) fX12_205 rfl (by decide) (Nat.le_of_ble_eq_true rfl) rfl (by decide),
  f_iload_n (n := 2) (e_dx DX12_judge_0 8 rfl) rfl,
  f_iconst (e_dx DX12_judge_0 9 rfl) ⟨by decide, by decide⟩,
  f_g29 (e_dx DX12_judge_0 10 rfl),
  f_aload_n (n := 0) (e_dx DX12_judge_0 11 rfl) rfl,
  f_getA (e_dx DX12_judge_0 12 rfl) fX12_208 rfl (by decide) (Nat.le_of_ble_eq_true rfl) rfl (by decide),
  f_iload_n (n := 2) (e_dx DX12_judge_0 13 rfl) rfl,
  f_iconst (e_dx DX12_judge_0 14 rfl) ⟨by decide, by decide⟩,
  f_g29 (e_dx DX12_judge_0 15 rfl),
  f_aload_n (n := 0) (e_dx DX12_judge_0 16 rfl) rfl,
  f_getA (e_dx DX12_judge_0 17 rfl) fX12_211 rfl (by decide) (Nat.le_of_ble_eq_true rfl) rfl (by decide),
  f_iload_n (n := 2) (e_dx DX12_judge_0 18 rfl) rfl,
  f_iload_n (n := 2) (e_dx DX12_judge_0 19 rfl) rfl,
  f_iastore (e_dx DX12_judge_0 20 rfl),
  f_g8 (e_dx DX12_judge_0 21 rfl) ⟨by decide, by decide⟩,
  f_g19 (e_dx DX12_judge_0 22 rfl) rfl,
  f_aload_n (n := 0) (e_dx DX12_judge_0 23 rfl) rfl,
  f_getf (e_dx DX12_judge_0 24 rfl) fX12_755 rfl (by decide) (by decide) (by decide),
  f_istore_n (n := 2) (e_dx DX12_judge_0 25 rfl) rfl (by decide),
  trivial,
  f_iload_n (n := 2) (e_dx DX12_judge_0 26 rfl) rfl,
  f_iconst (e_dx DX12_judge_0 27 rfl) ⟨by decide, by decide⟩,
  f_icmp_lt (e_dx DX12_judge_0 28 rfl) rfl,
  f_aload_n (n := 0) (e_dx DX12_judge_0 29 rfl) rfl,
  f_getA (e_dx DX12_judge_0 30 rfl) fX12_72 rfl (by decide) (Nat.le_of_ble_eq_true rfl) rfl (by decide),
  f_iload_n (n := 2) (e_dx DX12_judge_0 31 rfl) rfl,
  f_iaload (e_dx DX12_judge_0 32 rfl),
  f_iload_n (n := 1) (e_dx DX12_judge_0 33 rfl) rfl,
  f_icmp_gt (e_dx DX12_judge_0 34 rfl) rfl,
  f_aload_n (n := 0) (e_dx DX12_judge_0 35 rfl) rfl,
  f_getA (e_dx DX12_judge_0 36 rfl) fX12_75 rfl (by decide) (Nat.le_of_ble_eq_true rfl) rfl (by decide),
  f_iload_n (n := 2) (e_dx DX12_judge_0 37 rfl) rfl,
  f_iaload (e_dx DX12_judge_0 38 rfl),
  f_if_eq (e_dx DX12_judge_0 39 rfl) rfl,
  f_aload_n (n := 0) (e_dx DX12_judge_1 0 rfl) rfl,
  f_getA (e_dx DX12_judge_1 1 rfl) fX12_208 rfl (by decide) (Nat.le_of_ble_eq_true rfl) rfl (by decide),
  f_iload_n (n := 2) (e_dx DX12_judge_1 2 rfl) rfl,
  f_baload (e_dx DX12_judge_1 3 rfl),
  f_if_eq (e_dx DX12_judge_1 4 rfl) rfl,
  f_g19 (e_dx DX12_judge_1 5 rfl) rfl,
  f_aload_n (n := 0) (e_dx DX12_judge_1 6 rfl) rfl,
  f_getA (e_dx DX12_judge_1 7 rfl) fX12_205 rfl (by decide) (Nat.le_of_ble_eq_true rfl) rfl (by decide),
  f_iload_n (n := 2) (e_dx DX12_judge_1 8 rfl) rfl,
  f_iconst (e_dx DX12_judge_1 9 rfl) ⟨by decide, by decide⟩,
  f_g29 (e_dx DX12_judge_1 10 rfl),
  f_aload_n (n := 0) (e_dx DX12_judge_1 11 rfl) rfl,
  f_getA (e_dx DX12_judge_1 12 rfl) fX12_78 rfl (by decide) (Nat.le_of_ble_eq_true rfl) rfl (by decide),
  f_iload_n (n := 2) (e_dx DX12_judge_1 13 rfl) rfl,
  f_baload (e_dx DX12_judge_1 14 rfl),
  f_if_eq (e_dx DX12_judge_1 15 rfl) rfl,
  f_aload_n (n := 0) (e_dx DX12_judge_1 16 rfl) rfl,
  f_getA (e_dx DX12_judge_1 17 rfl) fX12_208 rfl (by decide) (Nat.le_of_ble_eq_true rfl) rfl (by decide),
  f_aload_n (n := 0) (e_dx DX12_judge_1 18 rfl) rfl,
  f_getA (e_dx DX12_judge_1 19 rfl) fX12_75 rfl (by decide) (Nat.le_of_ble_eq_true rfl) rfl (by decide),
  f_iload_n (n := 2) (e_dx DX12_judge_1 20 rfl) rfl,
  f_iaload (e_dx DX12_judge_1 21 rfl),
  f_iconst (e_dx DX12_judge_1 22 rfl) ⟨by decide, by decide⟩,
  f_g29 (e_dx DX12_judge_1 23 rfl),
  f_g19 (e_dx DX12_judge_1 24 rfl) rfl,
  f_aload_n (n := 0) (e_dx DX12_judge_1 25 rfl) rfl,
  f_getA (e_dx DX12_judge_1 26 rfl) fX12_211 rfl (by decide) (Nat.le_of_ble_eq_true rfl) rfl (by decide),
  f_aload_n (n := 0) (e_dx DX12_judge_1 27 rfl) rfl,
  f_getA (e_dx DX12_judge_1 28 rfl) fX12_75 rfl (by decide) (Nat.le_of_ble_eq_true rfl) rfl (by decide),
  f_iload_n (n := 2) (e_dx DX12_judge_1 29 rfl) rfl,
  f_iaload (e_dx DX12_judge_1 30 rfl),
  f_iaload (e_dx DX12_judge_1 31 rfl),
  f_aload_n (n := 0) (e_dx DX12_judge_1 32 rfl) rfl,
  f_getA (e_dx DX12_judge_1 33 rfl) fX12_75 rfl (by decide) (Nat.le_of_ble_eq_true rfl) rfl (by decide),
  f_iload_n (n := 2) (e_dx DX12_judge_1 34 rfl) rfl,
  f_iaload (e_dx DX12_judge_1 35 rfl),
  f_icmp_ne (e_dx DX12_judge_1 36 rfl) rfl,
  f_aload_n (n := 0) (e_dx DX12_judge_1 37 rfl) rfl,
  f_getA (e_dx DX12_judge_1 38 rfl) fX12_211 rfl (by decide) (Nat.le_of_ble_eq_true rfl) rfl (by decide),
  f_aload_n (n := 0) (e_dx DX12_judge_1 39 rfl) rfl,
  f_getA (e_dx DX12_judge_2 0 rfl) fX12_75 rfl (by decide) (Nat.le_of_ble_eq_true rfl) rfl (by decide),
  f_iload_n (n := 2) (e_dx DX12_judge_2 1 rfl) rfl,
  f_iaload (e_dx DX12_judge_2 2 rfl),
  f_iload_n (n := 2) (e_dx DX12_judge_2 3 rfl) rfl,
  f_iastore (e_dx DX12_judge_2 4 rfl),
  trivial,
  f_g8 (e_dx DX12_judge_2 5 rfl) ⟨by decide, by decide⟩,
  f_g19 (e_dx DX12_judge_2 6 rfl) rfl,
  ⟨(e_dx DX12_judge_2 7 rfl), rfl⟩, trivial⟩
def lX12_judge : List (Nat × f_Wt) := []
set_option maxRecDepth 20000 in
theorem BX12_judge_2 {sh : Nat → Nat × Nat} {t : Nat} {rm : Nat × Nat × Nat} {cs : Nat × Nat} {R : f_Rt} {k42 : Int → Int → e_M → Prop} {k2 : Int → Int → e_M → Prop} {x1 : Int} {x2 : Int} {M : e_M} (C : f_Hy sh t yX12_judge rm cs 4 (lX12_judge) R) (h42 : ∀ (x1 : Int) (x2 : Int) (M : e_M), k42 x1 x2 M → f_E sh t YX12_judge rm cs (f_Q sh t R) 42 [.inr (.inr (.inl (12, 123, 4456))), .inl x1, .inl x2] [] M) (h2 : ∀ (x1 : Int) (x2 : Int) (M : e_M), k2 x1 x2 M → f_E sh t YX12_judge rm cs (f_Q sh t R) 2 [.inr (.inr (.inl (12, 123, 4456))), .inl x1, .inl x2] [] M) (h : VX12_judge_2 k42 k2 (fun M => R none M) x1 x2 M) : f_E sh t YX12_judge rm cs (f_Q sh t R) 2 [.inr (.inr (.inl (12, 123, 4456))), .inl x1, .inl x2] [] M :=
  f_go (KC := f_kc [(42, f_pl [(4466, 12, 123), (1, 0, 0), (1, 0, 0)] [] (fun ls st M => k42 (f_vi (f_nth ls 1)) (f_vi (f_nth ls 2)) M)), (2, f_pl [(4466, 12, 123), (1, 0, 0), (1, 0, 0)] [] (fun ls st M => k2 (f_vi (f_nth ls 1)) (f_vi (f_nth ls 2)) M))]) C qX12_judgef (f_kc_cons (f_pl_ok rfl (fun ls st M h => h42 _ _ M h)) (f_kc_cons (f_pl_ok rfl (fun ls st M h => h2 _ _ M h)) f_kc_nil)) 93 3 h
set_option maxRecDepth 20000 in
theorem BX12_judge_42 {sh : Nat → Nat × Nat} {t : Nat} {rm : Nat × Nat × Nat} {cs : Nat × Nat} {R : f_Rt} {k141 : Int → Int → e_M → Prop} {x1 : Int} {x2 : Int} {M : e_M} (C : f_Hy sh t yX12_judge rm cs 4 (lX12_judge) R) (h141 : ∀ (x1 : Int) (x2 : Int) (M : e_M), k141 x1 x2 M → f_E sh t YX12_judge rm cs (f_Q sh t R) 141 [.inr (.inr (.inl (12, 123, 4456))), .inl x1, .inl x2] [] M) (h : VX12_judge_42 k141 (fun M => R none M) x1 x2 M) : f_E sh t YX12_judge rm cs (f_Q sh t R) 42 [.inr (.inr (.inl (12, 123, 4456))), .inl x1, .inl x2] [] M :=
  f_go (KC := f_kc [(141, f_pl [(4466, 12, 123), (1, 0, 0), (1, 0, 0)] [] (fun ls st M => k141 (f_vi (f_nth ls 1)) (f_vi (f_nth ls 2)) M))]) C qX12_judgef (f_kc_cons (f_pl_ok rfl (fun ls st M h => h141 _ _ M h)) f_kc_nil) 93 28 h
set_option maxRecDepth 20000 in
theorem BX12_judge_141 {sh : Nat → Nat × Nat} {t : Nat} {rm : Nat × Nat × Nat} {cs : Nat × Nat} {R : f_Rt} {k42 : Int → Int → e_M → Prop} {x1 : Int} {x2 : Int} {M : e_M} (C : f_Hy sh t yX12_judge rm cs 4 (lX12_judge) R) (h42 : ∀ (x1 : Int) (x2 : Int) (M : e_M), k42 x1 x2 M → f_E sh t YX12_judge rm cs (f_Q sh t R) 42 [.inr (.inr (.inl (12, 123, 4456))), .inl x1, .inl x2] [] M) (h : VX12_judge_141 k42 (fun M => R none M) x1 x2 M) : f_E sh t YX12_judge rm cs (f_Q sh t R) 141 [.inr (.inr (.inl (12, 123, 4456))), .inl x1, .inl x2] [] M :=
  f_go (KC := f_kc [(42, f_pl [(4466, 12, 123), (1, 0, 0), (1, 0, 0)] [] (fun ls st M => k42 (f_vi (f_nth ls 1)) (f_vi (f_nth ls 2)) M))]) C qX12_judgef (f_kc_cons (f_pl_ok rfl (fun ls st M h => h42 _ _ M h)) f_kc_nil) 93 88 h
set_option maxRecDepth 20000 in
theorem BX12_judge {sh : Nat → Nat × Nat} {t : Nat} {rm : Nat × Nat × Nat} {cs : Nat × Nat} {R : f_Rt} {k2 : Int → Int → e_M → Prop} {x1 : Int} {M : e_M} (C : f_Hy sh t yX12_judge rm cs 4 (lX12_judge) R) (h2 : ∀ (x1 : Int) (x2 : Int) (M : e_M), k2 x1 x2 M → f_E sh t YX12_judge rm cs (f_Q sh t R) 2 [.inr (.inr (.inl (12, 123, 4456))), .inl x1, .inl x2] [] M) (h : VX12_judge k2 (fun M => R none M) x1 M) : f_E sh t YX12_judge rm cs (f_Q sh t R) 0 [.inr (.inr (.inl (12, 123, 4456))), .inl x1, .inr (.inr (.inr ()))] [] M :=
  f_go (KC := f_kc [(2, f_pl [(4466, 12, 123), (1, 0, 0), (1, 0, 0)] [] (fun ls st M => k2 (f_vi (f_nth ls 1)) (f_vi (f_nth ls 2)) M))]) C qX12_judgef (f_kc_cons (f_pl_ok rfl (fun ls st M h => h2 _ _ M h)) f_kc_nil) 93 0 h
def WX12_judge_141 (H42 : Int → Int → e_M → Prop) (Q : e_M → Prop) (x1 : Int) (x2 : Int) (M : e_M) : Prop :=
  VX12_judge_141 H42 Q x1 x2 M
def WX12_judge_42 (Q : e_M → Prop) : Nat → Int → Int → e_M → Prop
  | 0, _, _, _ => False
  | n + 1, x1, x2, M =>
    VX12_judge_42 (WX12_judge_141 (WX12_judge_42 Q n) Q) Q x1 x2 M
def WX12_judge_2 (Q : e_M → Prop) : Nat → Int → Int → e_M → Prop
  | 0, _, _, _ => False
  | n + 1, x1, x2, M =>
    VX12_judge_2 (fun x1 x2 M => ∃ j, WX12_judge_42 Q j x1 x2 M) (WX12_judge_2 Q n) Q x1 x2 M
def WX12_judge (x1 : Int) (M : e_M) (Q : e_M → Prop) : Prop :=
  VX12_judge (fun x1 x2 M => ∃ j, WX12_judge_2 Q j x1 x2 M) Q x1 M
theorem PX12_judge_141 {sh : Nat → Nat × Nat} {t : Nat} {rm : Nat × Nat × Nat} {cs : Nat × Nat} {R : f_Rt} {H42 : Int → Int → e_M → Prop} {x1 : Int} {x2 : Int} {M : e_M} (C : f_Hy sh t yX12_judge rm cs 4 (lX12_judge) R) (g42 : ∀ (x1 : Int) (x2 : Int) (M : e_M), H42 x1 x2 M → f_E sh t YX12_judge rm cs (f_Q sh t R) 42 [.inr (.inr (.inl (12, 123, 4456))), .inl x1, .inl x2] [] M) (h : WX12_judge_141 H42 (fun M => R none M) x1 x2 M) : f_E sh t YX12_judge rm cs (f_Q sh t R) 141 [.inr (.inr (.inl (12, 123, 4456))), .inl x1, .inl x2] [] M :=
  BX12_judge_141 C g42 h
theorem PX12_judge_42 {sh : Nat → Nat × Nat} {t : Nat} {rm : Nat × Nat × Nat} {cs : Nat × Nat} {R : f_Rt} (C : f_Hy sh t yX12_judge rm cs 4 (lX12_judge) R) : ∀ (n : Nat) (x1 : Int) (x2 : Int) (M : e_M), WX12_judge_42 (fun M => R none M) n x1 x2 M → f_E sh t YX12_judge rm cs (f_Q sh t R) 42 [.inr (.inr (.inl (12, 123, 4456))), .inl x1, .inl x2] [] M := by
  intro n
  induction n with
  | zero => intro x1 x2 M h; exact h.elim
  | succ n ih => intro x1 x2 M h; exact BX12_judge_42 C (fun x1 x2 M h => PX12_judge_141 C ih h) h
theorem PX12_judge_2 {sh : Nat → Nat × Nat} {t : Nat} {rm : Nat × Nat × Nat} {cs : Nat × Nat} {R : f_Rt} (C : f_Hy sh t yX12_judge rm cs 4 (lX12_judge) R) : ∀ (n : Nat) (x1 : Int) (x2 : Int) (M : e_M), WX12_judge_2 (fun M => R none M) n x1 x2 M → f_E sh t YX12_judge rm cs (f_Q sh t R) 2 [.inr (.inr (.inl (12, 123, 4456))), .inl x1, .inl x2] [] M := by
  intro n
  induction n with
  | zero => intro x1 x2 M h; exact h.elim
  | succ n ih => intro x1 x2 M h; exact BX12_judge_2 C (fun x1 x2 M ⟨j, h⟩ => PX12_judge_42 C j _ _ _ h) ih h
theorem PX12_judge {sh : Nat → Nat × Nat} {t : Nat} {rm : Nat × Nat × Nat} {cs : Nat × Nat} {R : f_Rt} {x1 : Int} {M : e_M} (C : f_Hy sh t yX12_judge rm cs 4 (lX12_judge) R) (h : WX12_judge x1 M (fun M => R none M)) : f_E sh t YX12_judge rm cs (f_Q sh t R) 0 [.inr (.inr (.inl (12, 123, 4456))), .inl x1, .inr (.inr (.inr ()))] [] M :=
  BX12_judge C (fun x1 x2 M ⟨j, h⟩ => PX12_judge_2 C j _ _ _ h) h
def wX12_judge : f_Wt := f_wm [(4466, 12, 123), (1, 0, 0)] (fun ar M R => WX12_judge (f_vi (f_nth ar 1)) M (fun M => R none M))
theorem TX12_judge {sh : Nat → Nat × Nat} {t : Nat} : f_Mt sh t YX12_judge 4 (wX12_judge) :=
  f_Mt_of (k := 1) (Nat.le_of_ble_eq_true rfl) rfl rfl (fun ar M R rm cs h1 h2 h3 hX h => PX12_judge ⟨Nat.le_of_ble_eq_true rfl, h1, h2, h3, trivial, hX⟩ h)
def VX12_through_12 (c_X12_judge : Int → e_M → (e_M → Prop) → Prop) (c_X12_empty : e_M → (e_M → Prop) → Prop) (c_X12_done : Int → e_M → (Int → e_M → Prop) → Prop) (k246 : Int → Int → e_M → Prop) (k103 : Int → Int → Int → Int → Int → e_M → Prop) (Q : e_M → Prop) (x1 : Int) (x2 : Int) (x3 : Int) (M : e_M) : Prop :=
  (((M 4456 33) < x3 → (∀ M1 : e_M, M1 = e_up M 4456 86 0 → (c_X12_empty M1 (fun M2 => (∀ M3 : e_M, M3 = e_up M2 4456 99 0 → (k246 x1 0 M3)))))) ∧ (x3 ≤ (M 4456 33) → ((0 ≤ x3 ∧ x3 < 152) ∧ (((M 4477 (x3.toNat)) ≤ x2 → ((0 ≤ x3 ∧ x3 < 152) ∧ (((M 4478 (x3.toNat)) ≤ 0 → ((0 ≤ x3 ∧ x3 < 152) ∧ (((M 4522 (x3.toNat)) = 0 → ((0 ≤ x3 ∧ x3 < 152) ∧ ((0 ≤ (M 4523 (x3.toNat)) ∧ (M 4523 (x3.toNat)) < 152) ∧ (((M 4462 ((M 4523 (x3.toNat)).toNat)) ≤ x1 → (k103 x1 x2 x3 0 x3 M)) ∧ (x1 < (M 4462 ((M 4523 (x3.toNat)).toNat)) → (k103 x1 x2 x3 20 x3 M)))))) ∧ (¬ (M 4522 (x3.toNat)) = 0 → (k103 x1 x2 x3 21 x3 M))))) ∧ (0 < (M 4478 (x3.toNat)) → ((0 ≤ x3 ∧ x3 < 152) ∧ (((M 4521 (x3.toNat)) = 0 → (k103 x1 x2 x3 24 x3 M)) ∧ (¬ (M 4521 (x3.toNat)) = 0 → (k103 x1 x2 x3 23 x3 M)))))))) ∧ (x2 < (M 4477 (x3.toNat)) → (k103 x1 x2 x3 22 x3 M))))))
def VX12_through_103 (c_X12_judge : Int → e_M → (e_M → Prop) → Prop) (c_X12_empty : e_M → (e_M → Prop) → Prop) (c_X12_done : Int → e_M → (Int → e_M → Prop) → Prop) (k122 : Int → Int → Int → Int → e_M → Prop) (k224 : Int → Int → Int → e_M → Prop) (Q : e_M → Prop) (x1 : Int) (x2 : Int) (x3 : Int) (xs2 : Int) (xs1 : Int) (M : e_M) : Prop :=
  ((0 ≤ xs1 ∧ xs1 < 152) ∧ (∀ M1 : e_M, M1 = e_up M 4524 (xs1.toNat) xs2 → ((0 ≤ x3 ∧ x3 < 152) ∧ (((M1 4524 (x3.toNat)) ≤ 0 → (k122 x1 x2 x3 (M1 4456 98) M1)) ∧ (0 < (M1 4524 (x3.toNat)) → (k224 x1 x2 x3 M1))))))
def VX12_through_122 (c_X12_judge : Int → e_M → (e_M → Prop) → Prop) (c_X12_empty : e_M → (e_M → Prop) → Prop) (c_X12_done : Int → e_M → (Int → e_M → Prop) → Prop) (k193 : Int → Int → Int → Int → e_M → Prop) (k122 : Int → Int → Int → Int → e_M → Prop) (Q : e_M → Prop) (x1 : Int) (x2 : Int) (x3 : Int) (x4 : Int) (M : e_M) : Prop :=
  ((x4 ≤ 0 → (k193 x1 x2 x3 x4 M)) ∧ (0 < x4 → ((0 ≤ (e_w32 (x4 - 1)) ∧ (e_w32 (x4 - 1)) < 152) ∧ ((0 ≤ (M 4526 ((e_w32 (x4 - 1)).toNat)) ∧ (M 4526 ((e_w32 (x4 - 1)).toNat)) < 152) ∧ ((0 ≤ x3 ∧ x3 < 152) ∧ ((0 ≤ (M 4523 (x3.toNat)) ∧ (M 4523 (x3.toNat)) < 152) ∧ (((M 4462 ((M 4526 ((e_w32 (x4 - 1)).toNat)).toNat)) ≤ (M 4462 ((M 4523 (x3.toNat)).toNat)) → (k193 x1 x2 x3 x4 M)) ∧ ((M 4462 ((M 4523 (x3.toNat)).toNat)) < (M 4462 ((M 4526 ((e_w32 (x4 - 1)).toNat)).toNat)) → ((0 ≤ (e_w32 (x4 - 1)) ∧ (e_w32 (x4 - 1)) < 152) ∧ ((0 ≤ x4 ∧ x4 < 152) ∧ (∀ M1 : e_M, M1 = e_up M 4525 (x4.toNat) (M 4525 ((e_w32 (x4 - 1)).toNat)) → ((0 ≤ (e_w32 (x4 - 1)) ∧ (e_w32 (x4 - 1)) < 152) ∧ ((0 ≤ x4 ∧ x4 < 152) ∧ (∀ M2 : e_M, M2 = e_up M1 4526 (x4.toNat) (M1 4526 ((e_w32 (x4 - 1)).toNat)) → (k122 x1 x2 x3 (e_w32 (x4 + (-1))) M2)))))))))))))))
def VX12_through_193 (c_X12_judge : Int → e_M → (e_M → Prop) → Prop) (c_X12_empty : e_M → (e_M → Prop) → Prop) (c_X12_done : Int → e_M → (Int → e_M → Prop) → Prop) (k224 : Int → Int → Int → e_M → Prop) (Q : e_M → Prop) (x1 : Int) (x2 : Int) (x3 : Int) (x4 : Int) (M : e_M) : Prop :=
  ((0 ≤ x4 ∧ x4 < 152) ∧ (∀ M1 : e_M, M1 = e_up M 4525 (x4.toNat) x3 → ((0 ≤ x3 ∧ x3 < 152) ∧ ((0 ≤ x4 ∧ x4 < 152) ∧ (∀ M2 : e_M, M2 = e_up M1 4526 (x4.toNat) (M1 4523 (x3.toNat)) → (∀ M3 : e_M, M3 = e_up M2 4456 98 (e_w32 ((M2 4456 98) + 1)) → (k224 x1 x2 x3 M3)))))))
def VX12_through_224 (c_X12_judge : Int → e_M → (e_M → Prop) → Prop) (c_X12_empty : e_M → (e_M → Prop) → Prop) (c_X12_done : Int → e_M → (Int → e_M → Prop) → Prop) (k12 : Int → Int → Int → e_M → Prop) (Q : e_M → Prop) (x1 : Int) (x2 : Int) (x3 : Int) (M : e_M) : Prop :=
  (k12 x1 x2 (e_w32 (x3 + 1)) M)
def VX12_through_246 (c_X12_judge : Int → e_M → (e_M → Prop) → Prop) (c_X12_empty : e_M → (e_M → Prop) → Prop) (c_X12_done : Int → e_M → (Int → e_M → Prop) → Prop) (k299 : Int → Int → Int → Int → e_M → Prop) (Q : e_M → Prop) (x1 : Int) (x3 : Int) (M : e_M) : Prop :=
  (((M 4456 98) ≤ x3 → (∀ M1 : e_M, M1 = e_up M 4456 86 x1 → (Q M1))) ∧ (x3 < (M 4456 98) → ((0 ≤ x3 ∧ x3 < 152) ∧ ((0 ≤ x3 ∧ x3 < 152) ∧ (c_X12_done (M 4526 (x3.toNat)) M (fun r2 M3 => ((0 ≤ (M 4525 (x3.toNat)) ∧ (M 4525 (x3.toNat)) < 152) ∧ (∀ M4 : e_M, M4 = e_up M3 4524 ((M 4525 (x3.toNat)).toNat) r2 → ((0 ≤ x3 ∧ x3 < 152) ∧ ((0 ≤ (M4 4525 (x3.toNat)) ∧ (M4 4525 (x3.toNat)) < 152) ∧ ((¬ (M4 4524 ((M4 4525 (x3.toNat)).toNat)) = 0 → (k299 x1 x3 0 (M4 4456 99) M4)) ∧ ((M4 4524 ((M4 4525 (x3.toNat)).toNat)) = 0 → (k299 x1 x3 1 (M4 4456 99) M4)))))))))))))
def VX12_through_299 (c_X12_judge : Int → e_M → (e_M → Prop) → Prop) (c_X12_empty : e_M → (e_M → Prop) → Prop) (c_X12_done : Int → e_M → (Int → e_M → Prop) → Prop) (k246 : Int → Int → e_M → Prop) (Q : e_M → Prop) (x1 : Int) (x3 : Int) (xs2 : Int) (xs1 : Int) (M : e_M) : Prop :=
  (∀ M1 : e_M, M1 = e_up M 4456 99 (e_w32 (xs1 + xs2)) → (k246 x1 (e_w32 (x3 + 1)) M1))
def VX12_through (c_X12_judge : Int → e_M → (e_M → Prop) → Prop) (c_X12_empty : e_M → (e_M → Prop) → Prop) (c_X12_done : Int → e_M → (Int → e_M → Prop) → Prop) (k12 : Int → Int → Int → e_M → Prop) (Q : e_M → Prop) (x1 : Int) (x2 : Int) (M : e_M) : Prop :=
  (c_X12_judge x2 M (fun M1 => (∀ M2 : e_M, M2 = e_up M1 4456 98 0 → (k12 x1 x2 1 M2))))
def yX12_through (i : Nat) : e_Y := x_get YX12_through [YX12_judge, YX12_empty, YX12_done] i
def pX12_throughf : List x_I := [(0, 4, 1, 0, 0, 0, []), (1, 2, 1, 2, 0, 0, []), (2, 40, 0, 2, 14, 0, []), (5, 4, 1, 0, 0, 0, []), (6, 0, 1, 0, 0, 0, []), (7, 26, 12, 98, 0, 0, []), (10, 0, 1, 0, 0, 1, []), (11, 5, 1, 3, 0, 0, []), (12, 49, 0, 0, 0, 0, []), (12, 2, 1, 3, 0, 0, []), (13, 4, 1, 0, 0, 0, []), (14, 25, 12, 33, 0, 0, []), (17, 18, 230, 4, 134, 0, []), (20, 4, 1, 0, 0, 0, []), (21, 25, 12, 95, 4, 0, [(0, 20, 152), (0, 1, 68)]), (24, 2, 1, 3, 0, 0, []), (25, 4, 1, 0, 0, 0, []), (26, 25, 12, 30, 4, 0, [(0, 20, 152), (0, 1, 21)]), (29, 2, 1, 3, 0, 0, []), (30, 27, 0, 0, 0, 0, []), (31, 2, 1, 2, 0, 0, []), (32, 18, 40, 5, 25, 0, []), (35, 0, 2, 0, 0, 22, []), (37, 19, 103, 0, 58, 0, []), (40, 4, 1, 0, 0, 0, []), (41, 25, 12, 31, 4, 0, [(0, 20, 152), (0, 1, 22)]), (44, 2, 1, 3, 0, 0, []), (45, 27, 0, 0, 0, 0, []), (46, 17, 68, 5, 39, 0, []), (49, 4, 1, 0, 0, 0, []), (50, 25, 12, 92, 4, 0, [(0, 21, 152), (0, 1, 65)]), (53, 2, 1, 3, 0, 0, []), (54, 27, 0, 2, 0, 0, []), (55, 17, 63, 0, 37, 0, []), (58, 0, 2, 0, 0, 23, []), (60, 19, 103, 0, 58, 0, []), (63, 0, 2, 0, 0, 24, []), (65, 19, 103, 0, 58, 0, []), (68, 4, 1, 0, 0, 0, []), (69, 25, 12, 93, 4, 0, [(0, 21, 152), (0, 1, 66)]), (72, 2, 1, 3, 0, 0, []), (73, 27, 0, 2, 0, 0, []), (74, 17, 82, 0, 46, 0, []), (77, 0, 2, 0, 0, 21, []), (79, 19, 103, 0, 58, 0, []), (82, 4, 1, 0, 0, 0, []), (83, 25, 12, 15, 4, 0, [(0, 20, 152), (0, 1, 6)]), (86, 4, 1, 0, 0, 0, []), (87, 25, 12, 94, 4, 0, [(0, 20, 152), (0, 1, 67)]), (90, 2, 1, 3, 0, 0, []), (91, 27, 0, 0, 0, 0, []), (92, 27, 0, 0, 0, 0, []), (93, 2, 1, 1, 0, 0, []), (94, 18, 102, 5, 57, 0, []), (97, 0, 2, 0, 0, 20, []), (99, 19, 103, 0, 58, 0, []), (102, 0, 1, 0, 0, 0, []), (103, 49, 0, 0, 0, 0, []), (103, 28, 0, 0, 0, 0, []), (104, 4, 1, 0, 0, 0, []), (105, 25, 12, 95, 4, 0, [(0, 20, 152), (0, 1, 68)]), (108, 2, 1, 3, 0, 0, []), (109, 27, 0, 0, 0, 0, []), (110, 17, 116, 5, 66, 0, []), (113, 19, 224, 0, 131, 0, []), (116, 4, 1, 0, 0, 0, []), (117, 25, 12, 98, 0, 0, []), (120, 5, 2, 4, 0, 0, []), (122, 49, 0, 0, 0, 0, []), (122, 2, 2, 4, 0, 0, []), (124, 17, 193, 5, 111, 0, []), (127, 4, 1, 0, 0, 0, []), (128, 25, 12, 15, 4, 0, [(0, 20, 152), (0, 1, 6)]), (131, 4, 1, 0, 0, 0, []), (132, 25, 12, 97, 4, 0, [(0, 20, 152), (0, 1, 70)]), (135, 2, 2, 4, 0, 0, []), (137, 0, 1, 0, 0, 1, []), (138, 9, 0, 1, 0, 0, []), (139, 27, 0, 0, 0, 0, []), (140, 27, 0, 0, 0, 0, []), (141, 4, 1, 0, 0, 0, []), (142, 25, 12, 15, 4, 0, [(0, 20, 152), (0, 1, 6)]), (145, 4, 1, 0, 0, 0, []), (146, 25, 12, 94, 4, 0, [(0, 20, 152), (0, 1, 67)]), (149, 2, 1, 3, 0, 0, []), (150, 27, 0, 0, 0, 0, []), (151, 27, 0, 0, 0, 0, []), (152, 18, 193, 5, 111, 0, []), (155, 4, 1, 0, 0, 0, []), (156, 25, 12, 96, 4, 0, [(0, 20, 152), (0, 1, 69)]), (159, 2, 2, 4, 0, 0, []), (161, 4, 1, 0, 0, 0, []), (162, 25, 12, 96, 4, 0, [(0, 20, 152), (0, 1, 69)]), (165, 2, 2, 4, 0, 0, []), (167, 0, 1, 0, 0, 1, []), (168, 9, 0, 1, 0, 0, []), (169, 27, 0, 0, 0, 0, []), (170, 28, 0, 0, 0, 0, []), (171, 4, 1, 0, 0, 0, []), (172, 25, 12, 97, 4, 0, [(0, 20, 152), (0, 1, 70)]), (175, 2, 2, 4, 0, 0, []), (177, 4, 1, 0, 0, 0, []), (178, 25, 12, 97, 4, 0, [(0, 20, 152), (0, 1, 70)]), (181, 2, 2, 4, 0, 0, []), (183, 0, 1, 0, 0, 1, []), (184, 9, 0, 1, 0, 0, []), (185, 27, 0, 0, 0, 0, []), (186, 28, 0, 0, 0, 0, []), (187, 8, 0, 4, 0, (-1), []), (190, 19, 122, 0, 69, 0, []), (193, 49, 0, 0, 0, 0, []), (193, 4, 1, 0, 0, 0, []), (194, 25, 12, 96, 4, 0, [(0, 20, 152), (0, 1, 69)]), (197, 2, 2, 4, 0, 0, []), (199, 2, 1, 3, 0, 0, []), (200, 28, 0, 0, 0, 0, []), (201, 4, 1, 0, 0, 0, []), (202, 25, 12, 97, 4, 0, [(0, 20, 152), (0, 1, 70)]), (205, 2, 2, 4, 0, 0, []), (207, 4, 1, 0, 0, 0, []), (208, 25, 12, 94, 4, 0, [(0, 20, 152), (0, 1, 67)]), (211, 2, 1, 3, 0, 0, []), (212, 27, 0, 0, 0, 0, []), (213, 28, 0, 0, 0, 0, []), (214, 4, 1, 0, 0, 0, []), (215, 20, 0, 0, 0, 0, []), (216, 25, 12, 98, 0, 0, []), (219, 0, 1, 0, 0, 1, []), (220, 9, 0, 0, 0, 0, []), (221, 26, 12, 98, 0, 0, []), (224, 49, 0, 0, 0, 0, []), (224, 8, 0, 3, 0, 1, []), (227, 19, 12, 0, 9, 0, []), (230, 4, 1, 0, 0, 0, []), (231, 0, 1, 0, 0, 0, []), (232, 26, 12, 86, 0, 0, []), (235, 4, 1, 0, 0, 0, []), (236, 40, 1, 1, 14, 0, []), (239, 4, 1, 0, 0, 0, []), (240, 0, 1, 0, 0, 0, []), (241, 26, 12, 99, 0, 0, []), (244, 0, 1, 0, 0, 0, []), (245, 5, 1, 3, 0, 0, []), (246, 49, 0, 0, 0, 0, []), (246, 2, 1, 3, 0, 0, []), (247, 4, 1, 0, 0, 0, []), (248, 25, 12, 98, 0, 0, []), (251, 18, 309, 3, 181, 0, []), (254, 4, 1, 0, 0, 0, []), (255, 25, 12, 95, 4, 0, [(0, 20, 152), (0, 1, 68)]), (258, 4, 1, 0, 0, 0, []), (259, 25, 12, 96, 4, 0, [(0, 20, 152), (0, 1, 69)]), (262, 2, 1, 3, 0, 0, []), (263, 27, 0, 0, 0, 0, []), (264, 4, 1, 0, 0, 0, []), (265, 4, 1, 0, 0, 0, []), (266, 25, 12, 97, 4, 0, [(0, 20, 152), (0, 1, 70)]), (269, 2, 1, 3, 0, 0, []), (270, 27, 0, 0, 0, 0, []), (271, 40, 2, 2, 14, 0, []), (274, 28, 0, 0, 0, 0, []), (275, 4, 1, 0, 0, 0, []), (276, 20, 0, 0, 0, 0, []), (277, 25, 12, 99, 0, 0, []), (280, 4, 1, 0, 0, 0, []), (281, 25, 12, 95, 4, 0, [(0, 20, 152), (0, 1, 68)]), (284, 4, 1, 0, 0, 0, []), (285, 25, 12, 96, 4, 0, [(0, 20, 152), (0, 1, 69)]), (288, 2, 1, 3, 0, 0, []), (289, 27, 0, 0, 0, 0, []), (290, 27, 0, 0, 0, 0, []), (291, 17, 298, 1, 175, 0, []), (294, 0, 1, 0, 0, 1, []), (295, 19, 299, 0, 176, 0, []), (298, 0, 1, 0, 0, 0, []), (299, 49, 0, 0, 0, 0, []), (299, 9, 0, 0, 0, 0, []), (300, 26, 12, 99, 0, 0, []), (303, 8, 0, 3, 0, 1, []), (306, 19, 246, 0, 144, 0, []), (309, 4, 1, 0, 0, 0, []), (310, 2, 1, 1, 0, 0, []), (311, 26, 12, 86, 0, 0, []), (314, 44, 0, 0, 0, 0, [])]
set_option maxRecDepth 20000 in
theorem qX12_throughf : f_all yX12_through YX12_through pX12_throughf :=
  ⟨f_aload_n (n := 0) (e_dx DX12_through_0 0 rfl) rfl,
  f_iload_n (n := 2) (e_dx DX12_through_0 1 rfl) rfl,
  x_callV (e_dx DX12_through_0 2 rfl) mwX12_judge vwX12_judge cX12_758 rfl,
  f_aload_n (n := 0) (e_dx DX12_through_0 3 rfl) rfl,
  f_iconst (e_dx DX12_through_0 4 rfl) ⟨by decide, by decide⟩,
  f_putn (e_dx DX12_through_0 5 rfl) fX12_761 (fun q hq => by cases hq; rfl) rfl (Or.inl rfl) (by decide),
  f_iconst (e_dx DX12_through_0 6 rfl) ⟨by decide, by decide⟩,
  f_istore_n (n := 3) (e_dx DX12_through_0 7 rfl) rfl (by decide),
  trivial,
  f_iload_n (n := 3) (e_dx DX12_through_0 8 rfl) rfl,
  f_aload_n (n := 0) (e_dx DX12_through_0 9 rfl) rfl,
  f_getf (e_dx DX12_through_0 10 rfl) fX12_755 rfl (by decide) (by decide) (by decide),
  f_icmp_gt (e_dx DX12_through_0 11 rfl) rfl,
  f_aload_n (n := 0) (e_dx DX12_through_0 12 rfl) rfl,
  f_getA (e_dx DX12_through_0 13 rfl) fX12_214 rfl (by decide) (Nat.le_of_ble_eq_true rfl) rfl (by decide),
  f_iload_n (n := 3) (e_dx DX12_through_0 14 rfl) rfl,
  f_aload_n (n := 0) (e_dx DX12_through_0 15 rfl) rfl,
  f_getA (e_dx DX12_through_0 16 rfl) fX12_72 rfl (by decide) (Nat.le_of_ble_eq_true rfl) rfl (by decide),
  f_iload_n (n := 3) (e_dx DX12_through_0 17 rfl) rfl,
  f_iaload (e_dx DX12_through_0 18 rfl),
  f_iload_n (n := 2) (e_dx DX12_through_0 19 rfl) rfl,
  f_icmp_le (e_dx DX12_through_0 20 rfl) rfl,
  f_bipush (e_dx DX12_through_0 21 rfl) ⟨by decide, by decide⟩,
  f_g19 (e_dx DX12_through_0 22 rfl) rfl,
  f_aload_n (n := 0) (e_dx DX12_through_0 23 rfl) rfl,
  f_getA (e_dx DX12_through_0 24 rfl) fX12_75 rfl (by decide) (Nat.le_of_ble_eq_true rfl) rfl (by decide),
  f_iload_n (n := 3) (e_dx DX12_through_0 25 rfl) rfl,
  f_iaload (e_dx DX12_through_0 26 rfl),
  f_if_le (e_dx DX12_through_0 27 rfl) rfl,
  f_aload_n (n := 0) (e_dx DX12_through_0 28 rfl) rfl,
  f_getA (e_dx DX12_through_0 29 rfl) fX12_205 rfl (by decide) (Nat.le_of_ble_eq_true rfl) rfl (by decide),
  f_iload_n (n := 3) (e_dx DX12_through_0 30 rfl) rfl,
  f_baload (e_dx DX12_through_0 31 rfl),
  f_if_eq (e_dx DX12_through_0 32 rfl) rfl,
  f_bipush (e_dx DX12_through_0 33 rfl) ⟨by decide, by decide⟩,
  f_g19 (e_dx DX12_through_0 34 rfl) rfl,
  f_bipush (e_dx DX12_through_0 35 rfl) ⟨by decide, by decide⟩,
  f_g19 (e_dx DX12_through_0 36 rfl) rfl,
  f_aload_n (n := 0) (e_dx DX12_through_0 37 rfl) rfl,
  f_getA (e_dx DX12_through_0 38 rfl) fX12_208 rfl (by decide) (Nat.le_of_ble_eq_true rfl) rfl (by decide),
  f_iload_n (n := 3) (e_dx DX12_through_0 39 rfl) rfl,
  f_baload (e_dx DX12_through_1 0 rfl),
  f_if_eq (e_dx DX12_through_1 1 rfl) rfl,
  f_bipush (e_dx DX12_through_1 2 rfl) ⟨by decide, by decide⟩,
  f_g19 (e_dx DX12_through_1 3 rfl) rfl,
  f_aload_n (n := 0) (e_dx DX12_through_1 4 rfl) rfl,
  f_getA (e_dx DX12_through_1 5 rfl) fX12_27 rfl (by decide) (Nat.le_of_ble_eq_true rfl) rfl (by decide),
  f_aload_n (n := 0) (e_dx DX12_through_1 6 rfl) rfl,
  f_getA (e_dx DX12_through_1 7 rfl) fX12_211 rfl (by decide) (Nat.le_of_ble_eq_true rfl) rfl (by decide),
  f_iload_n (n := 3) (e_dx DX12_through_1 8 rfl) rfl,
  f_iaload (e_dx DX12_through_1 9 rfl),
  f_iaload (e_dx DX12_through_1 10 rfl),
  f_iload_n (n := 1) (e_dx DX12_through_1 11 rfl) rfl,
  f_icmp_le (e_dx DX12_through_1 12 rfl) rfl,
  f_bipush (e_dx DX12_through_1 13 rfl) ⟨by decide, by decide⟩,
  f_g19 (e_dx DX12_through_1 14 rfl) rfl,
  f_iconst (e_dx DX12_through_1 15 rfl) ⟨by decide, by decide⟩,
  trivial,
  f_iastore (e_dx DX12_through_1 16 rfl),
  f_aload_n (n := 0) (e_dx DX12_through_1 17 rfl) rfl,
  f_getA (e_dx DX12_through_1 18 rfl) fX12_214 rfl (by decide) (Nat.le_of_ble_eq_true rfl) rfl (by decide),
  f_iload_n (n := 3) (e_dx DX12_through_1 19 rfl) rfl,
  f_iaload (e_dx DX12_through_1 20 rfl),
  f_if_le (e_dx DX12_through_1 21 rfl) rfl,
  f_g19 (e_dx DX12_through_1 22 rfl) rfl,
  f_aload_n (n := 0) (e_dx DX12_through_1 23 rfl) rfl,
  f_getf (e_dx DX12_through_1 24 rfl) fX12_761 rfl (by decide) (by decide) (by decide),
  f_istore (e_dx DX12_through_1 25 rfl) (by decide),
  trivial,
  f_iload (e_dx DX12_through_1 26 rfl),
  f_if_le (e_dx DX12_through_1 27 rfl) rfl,
  f_aload_n (n := 0) (e_dx DX12_through_1 28 rfl) rfl,
  f_getA (e_dx DX12_through_1 29 rfl) fX12_27 rfl (by decide) (Nat.le_of_ble_eq_true rfl) rfl (by decide),
  f_aload_n (n := 0) (e_dx DX12_through_1 30 rfl) rfl,
  f_getA (e_dx DX12_through_1 31 rfl) fX12_220 rfl (by decide) (Nat.le_of_ble_eq_true rfl) rfl (by decide),
  f_iload (e_dx DX12_through_1 32 rfl),
  f_iconst (e_dx DX12_through_1 33 rfl) ⟨by decide, by decide⟩,
  f_isub (e_dx DX12_through_1 34 rfl),
  f_iaload (e_dx DX12_through_1 35 rfl),
  f_iaload (e_dx DX12_through_1 36 rfl),
  f_aload_n (n := 0) (e_dx DX12_through_1 37 rfl) rfl,
  f_getA (e_dx DX12_through_1 38 rfl) fX12_27 rfl (by decide) (Nat.le_of_ble_eq_true rfl) rfl (by decide),
  f_aload_n (n := 0) (e_dx DX12_through_1 39 rfl) rfl,
  f_getA (e_dx DX12_through_2 0 rfl) fX12_211 rfl (by decide) (Nat.le_of_ble_eq_true rfl) rfl (by decide),
  f_iload_n (n := 3) (e_dx DX12_through_2 1 rfl) rfl,
  f_iaload (e_dx DX12_through_2 2 rfl),
  f_iaload (e_dx DX12_through_2 3 rfl),
  f_icmp_le (e_dx DX12_through_2 4 rfl) rfl,
  f_aload_n (n := 0) (e_dx DX12_through_2 5 rfl) rfl,
  f_getA (e_dx DX12_through_2 6 rfl) fX12_217 rfl (by decide) (Nat.le_of_ble_eq_true rfl) rfl (by decide),
  f_iload (e_dx DX12_through_2 7 rfl),
  f_aload_n (n := 0) (e_dx DX12_through_2 8 rfl) rfl,
  f_getA (e_dx DX12_through_2 9 rfl) fX12_217 rfl (by decide) (Nat.le_of_ble_eq_true rfl) rfl (by decide),
  f_iload (e_dx DX12_through_2 10 rfl),
  f_iconst (e_dx DX12_through_2 11 rfl) ⟨by decide, by decide⟩,
  f_isub (e_dx DX12_through_2 12 rfl),
  f_iaload (e_dx DX12_through_2 13 rfl),
  f_iastore (e_dx DX12_through_2 14 rfl),
  f_aload_n (n := 0) (e_dx DX12_through_2 15 rfl) rfl,
  f_getA (e_dx DX12_through_2 16 rfl) fX12_220 rfl (by decide) (Nat.le_of_ble_eq_true rfl) rfl (by decide),
  f_iload (e_dx DX12_through_2 17 rfl),
  f_aload_n (n := 0) (e_dx DX12_through_2 18 rfl) rfl,
  f_getA (e_dx DX12_through_2 19 rfl) fX12_220 rfl (by decide) (Nat.le_of_ble_eq_true rfl) rfl (by decide),
  f_iload (e_dx DX12_through_2 20 rfl),
  f_iconst (e_dx DX12_through_2 21 rfl) ⟨by decide, by decide⟩,
  f_isub (e_dx DX12_through_2 22 rfl),
  f_iaload (e_dx DX12_through_2 23 rfl),
  f_iastore (e_dx DX12_through_2 24 rfl),
  f_g8 (e_dx DX12_through_2 25 rfl) ⟨by decide, by decide⟩,
  f_g19 (e_dx DX12_through_2 26 rfl) rfl,
  trivial,
  f_aload_n (n := 0) (e_dx DX12_through_2 27 rfl) rfl,
  f_getA (e_dx DX12_through_2 28 rfl) fX12_217 rfl (by decide) (Nat.le_of_ble_eq_true rfl) rfl (by decide),
  f_iload (e_dx DX12_through_2 29 rfl),
  f_iload_n (n := 3) (e_dx DX12_through_2 30 rfl) rfl,
  f_iastore (e_dx DX12_through_2 31 rfl),
  f_aload_n (n := 0) (e_dx DX12_through_2 32 rfl) rfl,
  f_getA (e_dx DX12_through_2 33 rfl) fX12_220 rfl (by decide) (Nat.le_of_ble_eq_true rfl) rfl (by decide),
  f_iload (e_dx DX12_through_2 34 rfl),
  f_aload_n (n := 0) (e_dx DX12_through_2 35 rfl) rfl,
  f_getA (e_dx DX12_through_2 36 rfl) fX12_211 rfl (by decide) (Nat.le_of_ble_eq_true rfl) rfl (by decide),
  f_iload_n (n := 3) (e_dx DX12_through_2 37 rfl) rfl,
  f_iaload (e_dx DX12_through_2 38 rfl),
  f_iastore (e_dx DX12_through_2 39 rfl),
  f_aload_n (n := 0) (e_dx DX12_through_3 0 rfl) rfl,
  f_g20 (e_dx DX12_through_3 1 rfl),
  f_getf (e_dx DX12_through_3 2 rfl) fX12_761 rfl (by decide) (by decide) (by decide),
  f_iconst (e_dx DX12_through_3 3 rfl) ⟨by decide, by decide⟩,
  f_iadd (e_dx DX12_through_3 4 rfl),
  f_putn (e_dx DX12_through_3 5 rfl) fX12_761 (fun q hq => by cases hq; rfl) rfl (Or.inl rfl) (by decide),
  trivial,
  f_g8 (e_dx DX12_through_3 6 rfl) ⟨by decide, by decide⟩,
  f_g19 (e_dx DX12_through_3 7 rfl) rfl,
  f_aload_n (n := 0) (e_dx DX12_through_3 8 rfl) rfl,
  f_iconst (e_dx DX12_through_3 9 rfl) ⟨by decide, by decide⟩,
  f_putn (e_dx DX12_through_3 10 rfl) fX12_543 (fun q hq => by cases hq; rfl) rfl (Or.inl rfl) (by decide),
  f_aload_n (n := 0) (e_dx DX12_through_3 11 rfl) rfl,
  x_callV (e_dx DX12_through_3 12 rfl) mwX12_empty vwX12_empty cX12_267 rfl,
  f_aload_n (n := 0) (e_dx DX12_through_3 13 rfl) rfl,
  f_iconst (e_dx DX12_through_3 14 rfl) ⟨by decide, by decide⟩,
  f_putn (e_dx DX12_through_3 15 rfl) fX12_764 (fun q hq => by cases hq; rfl) rfl (Or.inl rfl) (by decide),
  f_iconst (e_dx DX12_through_3 16 rfl) ⟨by decide, by decide⟩,
  f_istore_n (n := 3) (e_dx DX12_through_3 17 rfl) rfl (by decide),
  trivial,
  f_iload_n (n := 3) (e_dx DX12_through_3 18 rfl) rfl,
  f_aload_n (n := 0) (e_dx DX12_through_3 19 rfl) rfl,
  f_getf (e_dx DX12_through_3 20 rfl) fX12_761 rfl (by decide) (by decide) (by decide),
  f_icmp_ge (e_dx DX12_through_3 21 rfl) rfl,
  f_aload_n (n := 0) (e_dx DX12_through_3 22 rfl) rfl,
  f_getA (e_dx DX12_through_3 23 rfl) fX12_214 rfl (by decide) (Nat.le_of_ble_eq_true rfl) rfl (by decide),
  f_aload_n (n := 0) (e_dx DX12_through_3 24 rfl) rfl,
  f_getA (e_dx DX12_through_3 25 rfl) fX12_217 rfl (by decide) (Nat.le_of_ble_eq_true rfl) rfl (by decide),
  f_iload_n (n := 3) (e_dx DX12_through_3 26 rfl) rfl,
  f_iaload (e_dx DX12_through_3 27 rfl),
  f_aload_n (n := 0) (e_dx DX12_through_3 28 rfl) rfl,
  f_aload_n (n := 0) (e_dx DX12_through_3 29 rfl) rfl,
  f_getA (e_dx DX12_through_3 30 rfl) fX12_220 rfl (by decide) (Nat.le_of_ble_eq_true rfl) rfl (by decide),
  f_iload_n (n := 3) (e_dx DX12_through_3 31 rfl) rfl,
  f_iaload (e_dx DX12_through_3 32 rfl),
  x_callV (e_dx DX12_through_3 33 rfl) mwX12_done vwX12_done cX12_767 rfl,
  f_iastore (e_dx DX12_through_3 34 rfl),
  f_aload_n (n := 0) (e_dx DX12_through_3 35 rfl) rfl,
  f_g20 (e_dx DX12_through_3 36 rfl),
  f_getf (e_dx DX12_through_3 37 rfl) fX12_764 rfl (by decide) (by decide) (by decide),
  f_aload_n (n := 0) (e_dx DX12_through_3 38 rfl) rfl,
  f_getA (e_dx DX12_through_3 39 rfl) fX12_214 rfl (by decide) (Nat.le_of_ble_eq_true rfl) rfl (by decide),
  f_aload_n (n := 0) (e_dx DX12_through_4 0 rfl) rfl,
  f_getA (e_dx DX12_through_4 1 rfl) fX12_217 rfl (by decide) (Nat.le_of_ble_eq_true rfl) rfl (by decide),
  f_iload_n (n := 3) (e_dx DX12_through_4 2 rfl) rfl,
  f_iaload (e_dx DX12_through_4 3 rfl),
  f_iaload (e_dx DX12_through_4 4 rfl),
  f_if_ne (e_dx DX12_through_4 5 rfl) rfl,
  f_iconst (e_dx DX12_through_4 6 rfl) ⟨by decide, by decide⟩,
  f_g19 (e_dx DX12_through_4 7 rfl) rfl,
  f_iconst (e_dx DX12_through_4 8 rfl) ⟨by decide, by decide⟩,
  trivial,
  f_iadd (e_dx DX12_through_4 9 rfl),
  f_putn (e_dx DX12_through_4 10 rfl) fX12_764 (fun q hq => by cases hq; rfl) rfl (Or.inl rfl) (by decide),
  f_g8 (e_dx DX12_through_4 11 rfl) ⟨by decide, by decide⟩,
  f_g19 (e_dx DX12_through_4 12 rfl) rfl,
  f_aload_n (n := 0) (e_dx DX12_through_4 13 rfl) rfl,
  f_iload_n (n := 1) (e_dx DX12_through_4 14 rfl) rfl,
  f_putn (e_dx DX12_through_4 15 rfl) fX12_543 (fun q hq => by cases hq; rfl) rfl (Or.inl rfl) (by decide),
  ⟨(e_dx DX12_through_4 16 rfl), rfl⟩, trivial⟩
def lX12_through (c_X12_judge : Int → e_M → (e_M → Prop) → Prop) (c_X12_empty : e_M → (e_M → Prop) → Prop) (c_X12_done : Int → e_M → (Int → e_M → Prop) → Prop) : List (Nat × f_Wt) := [(0, f_wm [(4466, 12, 123), (1, 0, 0)] (fun ar M R => c_X12_judge (f_vi (f_nth ar 1)) M (fun M => R none M))), (1, f_wm [(4466, 12, 123)] (fun ar M R => c_X12_empty  M (fun M => R none M))), (2, f_wm [(4466, 12, 123), (1, 0, 0)] (fun ar M R => c_X12_done (f_vi (f_nth ar 1)) M (fun r M => R (some (.inl r)) M)))]
set_option maxRecDepth 20000 in
theorem BX12_through_12 {sh : Nat → Nat × Nat} {t : Nat} {rm : Nat × Nat × Nat} {cs : Nat × Nat} {R : f_Rt} {c_X12_judge : Int → e_M → (e_M → Prop) → Prop} {c_X12_empty : e_M → (e_M → Prop) → Prop} {c_X12_done : Int → e_M → (Int → e_M → Prop) → Prop} {k246 : Int → Int → e_M → Prop} {k103 : Int → Int → Int → Int → Int → e_M → Prop} {x1 : Int} {x2 : Int} {x3 : Int} {M : e_M} (C : f_Hy sh t yX12_through rm cs 13 (lX12_through c_X12_judge c_X12_empty c_X12_done) R) (h246 : ∀ (x1 : Int) (x3 : Int) (M : e_M), k246 x1 x3 M → f_E sh t YX12_through rm cs (f_Q sh t R) 246 [.inr (.inr (.inl (12, 123, 4456))), .inl x1, .inr (.inr (.inr ())), .inl x3, .inr (.inr (.inr ()))] [] M) (h103 : ∀ (x1 : Int) (x2 : Int) (x3 : Int) (xs2 : Int) (xs1 : Int) (M : e_M), k103 x1 x2 x3 xs2 xs1 M → f_E sh t YX12_through rm cs (f_Q sh t R) 103 [.inr (.inr (.inl (12, 123, 4456))), .inl x1, .inl x2, .inl x3, .inr (.inr (.inr ()))] [.inl xs2, .inl xs1, .inr (.inr (.inl (20, 152, 4524)))] M) (h : VX12_through_12 c_X12_judge c_X12_empty c_X12_done k246 k103 (fun M => R none M) x1 x2 x3 M) : f_E sh t YX12_through rm cs (f_Q sh t R) 12 [.inr (.inr (.inl (12, 123, 4456))), .inl x1, .inl x2, .inl x3, .inr (.inr (.inr ()))] [] M :=
  f_go (KC := f_kc [(246, f_pl [(4466, 12, 123), (1, 0, 0), (0, 0, 0), (1, 0, 0), (0, 0, 0)] [] (fun ls st M => k246 (f_vi (f_nth ls 1)) (f_vi (f_nth ls 3)) M)), (103, f_pl [(4466, 12, 123), (1, 0, 0), (1, 0, 0), (1, 0, 0), (0, 0, 0)] [(1, 0, 0), (1, 0, 0), (4534, 20, 152)] (fun ls st M => k103 (f_vi (f_nth ls 1)) (f_vi (f_nth ls 2)) (f_vi (f_nth ls 3)) (f_vi (f_nth st 0)) (f_vi (f_nth st 1)) M))]) C qX12_throughf (f_kc_cons (f_pl_ok rfl (fun ls st M h => h246 _ _ M h)) (f_kc_cons (f_pl_ok rfl (fun ls st M h => h103 _ _ _ _ _ M h)) f_kc_nil)) 186 9 h
set_option maxRecDepth 20000 in
theorem BX12_through_103 {sh : Nat → Nat × Nat} {t : Nat} {rm : Nat × Nat × Nat} {cs : Nat × Nat} {R : f_Rt} {c_X12_judge : Int → e_M → (e_M → Prop) → Prop} {c_X12_empty : e_M → (e_M → Prop) → Prop} {c_X12_done : Int → e_M → (Int → e_M → Prop) → Prop} {k122 : Int → Int → Int → Int → e_M → Prop} {k224 : Int → Int → Int → e_M → Prop} {x1 : Int} {x2 : Int} {x3 : Int} {xs2 : Int} {xs1 : Int} {M : e_M} (C : f_Hy sh t yX12_through rm cs 13 (lX12_through c_X12_judge c_X12_empty c_X12_done) R) (h122 : ∀ (x1 : Int) (x2 : Int) (x3 : Int) (x4 : Int) (M : e_M), k122 x1 x2 x3 x4 M → f_E sh t YX12_through rm cs (f_Q sh t R) 122 [.inr (.inr (.inl (12, 123, 4456))), .inl x1, .inl x2, .inl x3, .inl x4] [] M) (h224 : ∀ (x1 : Int) (x2 : Int) (x3 : Int) (M : e_M), k224 x1 x2 x3 M → f_E sh t YX12_through rm cs (f_Q sh t R) 224 [.inr (.inr (.inl (12, 123, 4456))), .inl x1, .inl x2, .inl x3, .inr (.inr (.inr ()))] [] M) (h : VX12_through_103 c_X12_judge c_X12_empty c_X12_done k122 k224 (fun M => R none M) x1 x2 x3 xs2 xs1 M) : f_E sh t YX12_through rm cs (f_Q sh t R) 103 [.inr (.inr (.inl (12, 123, 4456))), .inl x1, .inl x2, .inl x3, .inr (.inr (.inr ()))] [.inl xs2, .inl xs1, .inr (.inr (.inl (20, 152, 4524)))] M :=
  f_go (KC := f_kc [(122, f_pl [(4466, 12, 123), (1, 0, 0), (1, 0, 0), (1, 0, 0), (1, 0, 0)] [] (fun ls st M => k122 (f_vi (f_nth ls 1)) (f_vi (f_nth ls 2)) (f_vi (f_nth ls 3)) (f_vi (f_nth ls 4)) M)), (224, f_pl [(4466, 12, 123), (1, 0, 0), (1, 0, 0), (1, 0, 0), (0, 0, 0)] [] (fun ls st M => k224 (f_vi (f_nth ls 1)) (f_vi (f_nth ls 2)) (f_vi (f_nth ls 3)) M))]) C qX12_throughf (f_kc_cons (f_pl_ok rfl (fun ls st M h => h122 _ _ _ _ M h)) (f_kc_cons (f_pl_ok rfl (fun ls st M h => h224 _ _ _ M h)) f_kc_nil)) 186 58 h
set_option maxRecDepth 20000 in
theorem BX12_through_122 {sh : Nat → Nat × Nat} {t : Nat} {rm : Nat × Nat × Nat} {cs : Nat × Nat} {R : f_Rt} {c_X12_judge : Int → e_M → (e_M → Prop) → Prop} {c_X12_empty : e_M → (e_M → Prop) → Prop} {c_X12_done : Int → e_M → (Int → e_M → Prop) → Prop} {k193 : Int → Int → Int → Int → e_M → Prop} {k122 : Int → Int → Int → Int → e_M → Prop} {x1 : Int} {x2 : Int} {x3 : Int} {x4 : Int} {M : e_M} (C : f_Hy sh t yX12_through rm cs 13 (lX12_through c_X12_judge c_X12_empty c_X12_done) R) (h193 : ∀ (x1 : Int) (x2 : Int) (x3 : Int) (x4 : Int) (M : e_M), k193 x1 x2 x3 x4 M → f_E sh t YX12_through rm cs (f_Q sh t R) 193 [.inr (.inr (.inl (12, 123, 4456))), .inl x1, .inl x2, .inl x3, .inl x4] [] M) (h122 : ∀ (x1 : Int) (x2 : Int) (x3 : Int) (x4 : Int) (M : e_M), k122 x1 x2 x3 x4 M → f_E sh t YX12_through rm cs (f_Q sh t R) 122 [.inr (.inr (.inl (12, 123, 4456))), .inl x1, .inl x2, .inl x3, .inl x4] [] M) (h : VX12_through_122 c_X12_judge c_X12_empty c_X12_done k193 k122 (fun M => R none M) x1 x2 x3 x4 M) : f_E sh t YX12_through rm cs (f_Q sh t R) 122 [.inr (.inr (.inl (12, 123, 4456))), .inl x1, .inl x2, .inl x3, .inl x4] [] M :=
  f_go (KC := f_kc [(193, f_pl [(4466, 12, 123), (1, 0, 0), (1, 0, 0), (1, 0, 0), (1, 0, 0)] [] (fun ls st M => k193 (f_vi (f_nth ls 1)) (f_vi (f_nth ls 2)) (f_vi (f_nth ls 3)) (f_vi (f_nth ls 4)) M)), (122, f_pl [(4466, 12, 123), (1, 0, 0), (1, 0, 0), (1, 0, 0), (1, 0, 0)] [] (fun ls st M => k122 (f_vi (f_nth ls 1)) (f_vi (f_nth ls 2)) (f_vi (f_nth ls 3)) (f_vi (f_nth ls 4)) M))]) C qX12_throughf (f_kc_cons (f_pl_ok rfl (fun ls st M h => h193 _ _ _ _ M h)) (f_kc_cons (f_pl_ok rfl (fun ls st M h => h122 _ _ _ _ M h)) f_kc_nil)) 186 69 h
set_option maxRecDepth 20000 in
theorem BX12_through_193 {sh : Nat → Nat × Nat} {t : Nat} {rm : Nat × Nat × Nat} {cs : Nat × Nat} {R : f_Rt} {c_X12_judge : Int → e_M → (e_M → Prop) → Prop} {c_X12_empty : e_M → (e_M → Prop) → Prop} {c_X12_done : Int → e_M → (Int → e_M → Prop) → Prop} {k224 : Int → Int → Int → e_M → Prop} {x1 : Int} {x2 : Int} {x3 : Int} {x4 : Int} {M : e_M} (C : f_Hy sh t yX12_through rm cs 13 (lX12_through c_X12_judge c_X12_empty c_X12_done) R) (h224 : ∀ (x1 : Int) (x2 : Int) (x3 : Int) (M : e_M), k224 x1 x2 x3 M → f_E sh t YX12_through rm cs (f_Q sh t R) 224 [.inr (.inr (.inl (12, 123, 4456))), .inl x1, .inl x2, .inl x3, .inr (.inr (.inr ()))] [] M) (h : VX12_through_193 c_X12_judge c_X12_empty c_X12_done k224 (fun M => R none M) x1 x2 x3 x4 M) : f_E sh t YX12_through rm cs (f_Q sh t R) 193 [.inr (.inr (.inl (12, 123, 4456))), .inl x1, .inl x2, .inl x3, .inl x4] [] M :=
  f_go (KC := f_kc [(224, f_pl [(4466, 12, 123), (1, 0, 0), (1, 0, 0), (1, 0, 0), (0, 0, 0)] [] (fun ls st M => k224 (f_vi (f_nth ls 1)) (f_vi (f_nth ls 2)) (f_vi (f_nth ls 3)) M))]) C qX12_throughf (f_kc_cons (f_pl_ok rfl (fun ls st M h => h224 _ _ _ M h)) f_kc_nil) 186 111 h
set_option maxRecDepth 20000 in
theorem BX12_through_224 {sh : Nat → Nat × Nat} {t : Nat} {rm : Nat × Nat × Nat} {cs : Nat × Nat} {R : f_Rt} {c_X12_judge : Int → e_M → (e_M → Prop) → Prop} {c_X12_empty : e_M → (e_M → Prop) → Prop} {c_X12_done : Int → e_M → (Int → e_M → Prop) → Prop} {k12 : Int → Int → Int → e_M → Prop} {x1 : Int} {x2 : Int} {x3 : Int} {M : e_M} (C : f_Hy sh t yX12_through rm cs 13 (lX12_through c_X12_judge c_X12_empty c_X12_done) R) (h12 : ∀ (x1 : Int) (x2 : Int) (x3 : Int) (M : e_M), k12 x1 x2 x3 M → f_E sh t YX12_through rm cs (f_Q sh t R) 12 [.inr (.inr (.inl (12, 123, 4456))), .inl x1, .inl x2, .inl x3, .inr (.inr (.inr ()))] [] M) (h : VX12_through_224 c_X12_judge c_X12_empty c_X12_done k12 (fun M => R none M) x1 x2 x3 M) : f_E sh t YX12_through rm cs (f_Q sh t R) 224 [.inr (.inr (.inl (12, 123, 4456))), .inl x1, .inl x2, .inl x3, .inr (.inr (.inr ()))] [] M :=
  f_go (KC := f_kc [(12, f_pl [(4466, 12, 123), (1, 0, 0), (1, 0, 0), (1, 0, 0), (0, 0, 0)] [] (fun ls st M => k12 (f_vi (f_nth ls 1)) (f_vi (f_nth ls 2)) (f_vi (f_nth ls 3)) M))]) C qX12_throughf (f_kc_cons (f_pl_ok rfl (fun ls st M h => h12 _ _ _ M h)) f_kc_nil) 186 131 h
set_option maxRecDepth 20000 in
theorem BX12_through_246 {sh : Nat → Nat × Nat} {t : Nat} {rm : Nat × Nat × Nat} {cs : Nat × Nat} {R : f_Rt} {c_X12_judge : Int → e_M → (e_M → Prop) → Prop} {c_X12_empty : e_M → (e_M → Prop) → Prop} {c_X12_done : Int → e_M → (Int → e_M → Prop) → Prop} {k299 : Int → Int → Int → Int → e_M → Prop} {x1 : Int} {x3 : Int} {M : e_M} (C : f_Hy sh t yX12_through rm cs 13 (lX12_through c_X12_judge c_X12_empty c_X12_done) R) (h299 : ∀ (x1 : Int) (x3 : Int) (xs2 : Int) (xs1 : Int) (M : e_M), k299 x1 x3 xs2 xs1 M → f_E sh t YX12_through rm cs (f_Q sh t R) 299 [.inr (.inr (.inl (12, 123, 4456))), .inl x1, .inr (.inr (.inr ())), .inl x3, .inr (.inr (.inr ()))] [.inl xs2, .inl xs1, .inr (.inr (.inl (12, 123, 4456)))] M) (h : VX12_through_246 c_X12_judge c_X12_empty c_X12_done k299 (fun M => R none M) x1 x3 M) : f_E sh t YX12_through rm cs (f_Q sh t R) 246 [.inr (.inr (.inl (12, 123, 4456))), .inl x1, .inr (.inr (.inr ())), .inl x3, .inr (.inr (.inr ()))] [] M :=
  f_go (KC := f_kc [(299, f_pl [(4466, 12, 123), (1, 0, 0), (0, 0, 0), (1, 0, 0), (0, 0, 0)] [(1, 0, 0), (1, 0, 0), (4466, 12, 123)] (fun ls st M => k299 (f_vi (f_nth ls 1)) (f_vi (f_nth ls 3)) (f_vi (f_nth st 0)) (f_vi (f_nth st 1)) M))]) C qX12_throughf (f_kc_cons (f_pl_ok rfl (fun ls st M h => h299 _ _ _ _ M h)) f_kc_nil) 186 144 h
set_option maxRecDepth 20000 in
theorem BX12_through_299 {sh : Nat → Nat × Nat} {t : Nat} {rm : Nat × Nat × Nat} {cs : Nat × Nat} {R : f_Rt} {c_X12_judge : Int → e_M → (e_M → Prop) → Prop} {c_X12_empty : e_M → (e_M → Prop) → Prop} {c_X12_done : Int → e_M → (Int → e_M → Prop) → Prop} {k246 : Int → Int → e_M → Prop} {x1 : Int} {x3 : Int} {xs2 : Int} {xs1 : Int} {M : e_M} (C : f_Hy sh t yX12_through rm cs 13 (lX12_through c_X12_judge c_X12_empty c_X12_done) R) (h246 : ∀ (x1 : Int) (x3 : Int) (M : e_M), k246 x1 x3 M → f_E sh t YX12_through rm cs (f_Q sh t R) 246 [.inr (.inr (.inl (12, 123, 4456))), .inl x1, .inr (.inr (.inr ())), .inl x3, .inr (.inr (.inr ()))] [] M) (h : VX12_through_299 c_X12_judge c_X12_empty c_X12_done k246 (fun M => R none M) x1 x3 xs2 xs1 M) : f_E sh t YX12_through rm cs (f_Q sh t R) 299 [.inr (.inr (.inl (12, 123, 4456))), .inl x1, .inr (.inr (.inr ())), .inl x3, .inr (.inr (.inr ()))] [.inl xs2, .inl xs1, .inr (.inr (.inl (12, 123, 4456)))] M :=
  f_go (KC := f_kc [(246, f_pl [(4466, 12, 123), (1, 0, 0), (0, 0, 0), (1, 0, 0), (0, 0, 0)] [] (fun ls st M => k246 (f_vi (f_nth ls 1)) (f_vi (f_nth ls 3)) M))]) C qX12_throughf (f_kc_cons (f_pl_ok rfl (fun ls st M h => h246 _ _ M h)) f_kc_nil) 186 176 h
set_option maxRecDepth 20000 in
theorem BX12_through {sh : Nat → Nat × Nat} {t : Nat} {rm : Nat × Nat × Nat} {cs : Nat × Nat} {R : f_Rt} {c_X12_judge : Int → e_M → (e_M → Prop) → Prop} {c_X12_empty : e_M → (e_M → Prop) → Prop} {c_X12_done : Int → e_M → (Int → e_M → Prop) → Prop} {k12 : Int → Int → Int → e_M → Prop} {x1 : Int} {x2 : Int} {M : e_M} (C : f_Hy sh t yX12_through rm cs 13 (lX12_through c_X12_judge c_X12_empty c_X12_done) R) (h12 : ∀ (x1 : Int) (x2 : Int) (x3 : Int) (M : e_M), k12 x1 x2 x3 M → f_E sh t YX12_through rm cs (f_Q sh t R) 12 [.inr (.inr (.inl (12, 123, 4456))), .inl x1, .inl x2, .inl x3, .inr (.inr (.inr ()))] [] M) (h : VX12_through c_X12_judge c_X12_empty c_X12_done k12 (fun M => R none M) x1 x2 M) : f_E sh t YX12_through rm cs (f_Q sh t R) 0 [.inr (.inr (.inl (12, 123, 4456))), .inl x1, .inl x2, .inr (.inr (.inr ())), .inr (.inr (.inr ()))] [] M :=
  f_go (KC := f_kc [(12, f_pl [(4466, 12, 123), (1, 0, 0), (1, 0, 0), (1, 0, 0), (0, 0, 0)] [] (fun ls st M => k12 (f_vi (f_nth ls 1)) (f_vi (f_nth ls 2)) (f_vi (f_nth ls 3)) M))]) C qX12_throughf (f_kc_cons (f_pl_ok rfl (fun ls st M h => h12 _ _ _ M h)) f_kc_nil) 186 0 h
def WX12_through_299 (H246 : Int → Int → e_M → Prop) (Q : e_M → Prop) (x1 : Int) (x3 : Int) (xs2 : Int) (xs1 : Int) (M : e_M) : Prop :=
  VX12_through_299 WX12_judge WX12_empty WX12_done H246 Q x1 x3 xs2 xs1 M
def WX12_through_246 (Q : e_M → Prop) : Nat → Int → Int → e_M → Prop
  | 0, _, _, _ => False
  | n + 1, x1, x3, M =>
    VX12_through_246 WX12_judge WX12_empty WX12_done (WX12_through_299 (WX12_through_246 Q n) Q) Q x1 x3 M
def WX12_through_224 (H12 : Int → Int → Int → e_M → Prop) (Q : e_M → Prop) (x1 : Int) (x2 : Int) (x3 : Int) (M : e_M) : Prop :=
  VX12_through_224 WX12_judge WX12_empty WX12_done H12 Q x1 x2 x3 M
def WX12_through_193 (H12 : Int → Int → Int → e_M → Prop) (Q : e_M → Prop) (x1 : Int) (x2 : Int) (x3 : Int) (x4 : Int) (M : e_M) : Prop :=
  VX12_through_193 WX12_judge WX12_empty WX12_done (WX12_through_224 H12 Q) Q x1 x2 x3 x4 M
def WX12_through_122 (H12 : Int → Int → Int → e_M → Prop) (Q : e_M → Prop) : Nat → Int → Int → Int → Int → e_M → Prop
  | 0, _, _, _, _, _ => False
  | n + 1, x1, x2, x3, x4, M =>
    VX12_through_122 WX12_judge WX12_empty WX12_done (WX12_through_193 H12 Q) (WX12_through_122 H12 Q n) Q x1 x2 x3 x4 M
def WX12_through_103 (H12 : Int → Int → Int → e_M → Prop) (Q : e_M → Prop) (x1 : Int) (x2 : Int) (x3 : Int) (xs2 : Int) (xs1 : Int) (M : e_M) : Prop :=
  VX12_through_103 WX12_judge WX12_empty WX12_done (fun x1 x2 x3 x4 M => ∃ j, WX12_through_122 H12 Q j x1 x2 x3 x4 M) (WX12_through_224 H12 Q) Q x1 x2 x3 xs2 xs1 M
def WX12_through_12 (Q : e_M → Prop) : Nat → Int → Int → Int → e_M → Prop
  | 0, _, _, _, _ => False
  | n + 1, x1, x2, x3, M =>
    VX12_through_12 WX12_judge WX12_empty WX12_done (fun x1 x3 M => ∃ j, WX12_through_246 Q j x1 x3 M) (WX12_through_103 (WX12_through_12 Q n) Q) Q x1 x2 x3 M
def WX12_through (x1 : Int) (x2 : Int) (M : e_M) (Q : e_M → Prop) : Prop :=
  VX12_through WX12_judge WX12_empty WX12_done (fun x1 x2 x3 M => ∃ j, WX12_through_12 Q j x1 x2 x3 M) Q x1 x2 M
theorem PX12_through_299 {sh : Nat → Nat × Nat} {t : Nat} {rm : Nat × Nat × Nat} {cs : Nat × Nat} {R : f_Rt} {H246 : Int → Int → e_M → Prop} {x1 : Int} {x3 : Int} {xs2 : Int} {xs1 : Int} {M : e_M} (C : f_Hy sh t yX12_through rm cs 13 (lX12_through WX12_judge WX12_empty WX12_done) R) (g246 : ∀ (x1 : Int) (x3 : Int) (M : e_M), H246 x1 x3 M → f_E sh t YX12_through rm cs (f_Q sh t R) 246 [.inr (.inr (.inl (12, 123, 4456))), .inl x1, .inr (.inr (.inr ())), .inl x3, .inr (.inr (.inr ()))] [] M) (h : WX12_through_299 H246 (fun M => R none M) x1 x3 xs2 xs1 M) : f_E sh t YX12_through rm cs (f_Q sh t R) 299 [.inr (.inr (.inl (12, 123, 4456))), .inl x1, .inr (.inr (.inr ())), .inl x3, .inr (.inr (.inr ()))] [.inl xs2, .inl xs1, .inr (.inr (.inl (12, 123, 4456)))] M :=
  BX12_through_299 C g246 h
theorem PX12_through_246 {sh : Nat → Nat × Nat} {t : Nat} {rm : Nat × Nat × Nat} {cs : Nat × Nat} {R : f_Rt} (C : f_Hy sh t yX12_through rm cs 13 (lX12_through WX12_judge WX12_empty WX12_done) R) : ∀ (n : Nat) (x1 : Int) (x3 : Int) (M : e_M), WX12_through_246 (fun M => R none M) n x1 x3 M → f_E sh t YX12_through rm cs (f_Q sh t R) 246 [.inr (.inr (.inl (12, 123, 4456))), .inl x1, .inr (.inr (.inr ())), .inl x3, .inr (.inr (.inr ()))] [] M := by
  intro n
  induction n with
  | zero => intro x1 x3 M h; exact h.elim
  | succ n ih => intro x1 x3 M h; exact BX12_through_246 C (fun x1 x3 xs2 xs1 M h => PX12_through_299 C ih h) h
theorem PX12_through_224 {sh : Nat → Nat × Nat} {t : Nat} {rm : Nat × Nat × Nat} {cs : Nat × Nat} {R : f_Rt} {H12 : Int → Int → Int → e_M → Prop} {x1 : Int} {x2 : Int} {x3 : Int} {M : e_M} (C : f_Hy sh t yX12_through rm cs 13 (lX12_through WX12_judge WX12_empty WX12_done) R) (g12 : ∀ (x1 : Int) (x2 : Int) (x3 : Int) (M : e_M), H12 x1 x2 x3 M → f_E sh t YX12_through rm cs (f_Q sh t R) 12 [.inr (.inr (.inl (12, 123, 4456))), .inl x1, .inl x2, .inl x3, .inr (.inr (.inr ()))] [] M) (h : WX12_through_224 H12 (fun M => R none M) x1 x2 x3 M) : f_E sh t YX12_through rm cs (f_Q sh t R) 224 [.inr (.inr (.inl (12, 123, 4456))), .inl x1, .inl x2, .inl x3, .inr (.inr (.inr ()))] [] M :=
  BX12_through_224 C g12 h
theorem PX12_through_193 {sh : Nat → Nat × Nat} {t : Nat} {rm : Nat × Nat × Nat} {cs : Nat × Nat} {R : f_Rt} {H12 : Int → Int → Int → e_M → Prop} {x1 : Int} {x2 : Int} {x3 : Int} {x4 : Int} {M : e_M} (C : f_Hy sh t yX12_through rm cs 13 (lX12_through WX12_judge WX12_empty WX12_done) R) (g12 : ∀ (x1 : Int) (x2 : Int) (x3 : Int) (M : e_M), H12 x1 x2 x3 M → f_E sh t YX12_through rm cs (f_Q sh t R) 12 [.inr (.inr (.inl (12, 123, 4456))), .inl x1, .inl x2, .inl x3, .inr (.inr (.inr ()))] [] M) (h : WX12_through_193 H12 (fun M => R none M) x1 x2 x3 x4 M) : f_E sh t YX12_through rm cs (f_Q sh t R) 193 [.inr (.inr (.inl (12, 123, 4456))), .inl x1, .inl x2, .inl x3, .inl x4] [] M :=
  BX12_through_193 C (fun x1 x2 x3 M h => PX12_through_224 C g12 h) h
theorem PX12_through_122 {sh : Nat → Nat × Nat} {t : Nat} {rm : Nat × Nat × Nat} {cs : Nat × Nat} {R : f_Rt} {H12 : Int → Int → Int → e_M → Prop} (C : f_Hy sh t yX12_through rm cs 13 (lX12_through WX12_judge WX12_empty WX12_done) R) (g12 : ∀ (x1 : Int) (x2 : Int) (x3 : Int) (M : e_M), H12 x1 x2 x3 M → f_E sh t YX12_through rm cs (f_Q sh t R) 12 [.inr (.inr (.inl (12, 123, 4456))), .inl x1, .inl x2, .inl x3, .inr (.inr (.inr ()))] [] M) : ∀ (n : Nat) (x1 : Int) (x2 : Int) (x3 : Int) (x4 : Int) (M : e_M), WX12_through_122 H12 (fun M => R none M) n x1 x2 x3 x4 M → f_E sh t YX12_through rm cs (f_Q sh t R) 122 [.inr (.inr (.inl (12, 123, 4456))), .inl x1, .inl x2, .inl x3, .inl x4] [] M := by
  intro n
  induction n with
  | zero => intro x1 x2 x3 x4 M h; exact h.elim
  | succ n ih => intro x1 x2 x3 x4 M h; exact BX12_through_122 C (fun x1 x2 x3 x4 M h => PX12_through_193 C g12 h) ih h
theorem PX12_through_103 {sh : Nat → Nat × Nat} {t : Nat} {rm : Nat × Nat × Nat} {cs : Nat × Nat} {R : f_Rt} {H12 : Int → Int → Int → e_M → Prop} {x1 : Int} {x2 : Int} {x3 : Int} {xs2 : Int} {xs1 : Int} {M : e_M} (C : f_Hy sh t yX12_through rm cs 13 (lX12_through WX12_judge WX12_empty WX12_done) R) (g12 : ∀ (x1 : Int) (x2 : Int) (x3 : Int) (M : e_M), H12 x1 x2 x3 M → f_E sh t YX12_through rm cs (f_Q sh t R) 12 [.inr (.inr (.inl (12, 123, 4456))), .inl x1, .inl x2, .inl x3, .inr (.inr (.inr ()))] [] M) (h : WX12_through_103 H12 (fun M => R none M) x1 x2 x3 xs2 xs1 M) : f_E sh t YX12_through rm cs (f_Q sh t R) 103 [.inr (.inr (.inl (12, 123, 4456))), .inl x1, .inl x2, .inl x3, .inr (.inr (.inr ()))] [.inl xs2, .inl xs1, .inr (.inr (.inl (20, 152, 4524)))] M :=
  BX12_through_103 C (fun x1 x2 x3 x4 M ⟨j, h⟩ => PX12_through_122 C g12 j _ _ _ _ _ h) (fun x1 x2 x3 M h => PX12_through_224 C g12 h) h
theorem PX12_through_12 {sh : Nat → Nat × Nat} {t : Nat} {rm : Nat × Nat × Nat} {cs : Nat × Nat} {R : f_Rt} (C : f_Hy sh t yX12_through rm cs 13 (lX12_through WX12_judge WX12_empty WX12_done) R) : ∀ (n : Nat) (x1 : Int) (x2 : Int) (x3 : Int) (M : e_M), WX12_through_12 (fun M => R none M) n x1 x2 x3 M → f_E sh t YX12_through rm cs (f_Q sh t R) 12 [.inr (.inr (.inl (12, 123, 4456))), .inl x1, .inl x2, .inl x3, .inr (.inr (.inr ()))] [] M := by
  intro n
  induction n with
  | zero => intro x1 x2 x3 M h; exact h.elim
  | succ n ih => intro x1 x2 x3 M h; exact BX12_through_12 C (fun x1 x3 M ⟨j, h⟩ => PX12_through_246 C j _ _ _ h) (fun x1 x2 x3 xs2 xs1 M h => PX12_through_103 C ih h) h
theorem PX12_through {sh : Nat → Nat × Nat} {t : Nat} {rm : Nat × Nat × Nat} {cs : Nat × Nat} {R : f_Rt} {x1 : Int} {x2 : Int} {M : e_M} (C : f_Hy sh t yX12_through rm cs 13 (lX12_through WX12_judge WX12_empty WX12_done) R) (h : WX12_through x1 x2 M (fun M => R none M)) : f_E sh t YX12_through rm cs (f_Q sh t R) 0 [.inr (.inr (.inl (12, 123, 4456))), .inl x1, .inl x2, .inr (.inr (.inr ())), .inr (.inr (.inr ()))] [] M :=
  BX12_through C (fun x1 x2 x3 M ⟨j, h⟩ => PX12_through_12 C j _ _ _ _ h) h
def wX12_through : f_Wt := f_wm [(4466, 12, 123), (1, 0, 0), (1, 0, 0)] (fun ar M R => WX12_through (f_vi (f_nth ar 1)) (f_vi (f_nth ar 2)) M (fun M => R none M))
theorem TX12_through {sh : Nat → Nat × Nat} {t : Nat} : f_Mt sh t YX12_through 13 (wX12_through) :=
  f_Mt_of (k := 2) (Nat.le_of_ble_eq_true rfl) rfl rfl (fun ar M R rm cs h1 h2 h3 hX h => PX12_through ⟨Nat.le_of_ble_eq_true rfl, h1, h2, h3, ⟨(f_Mt.up (Nat.le_of_ble_eq_true rfl) TX12_judge), (f_Mt.up (Nat.le_of_ble_eq_true rfl) TX12_empty), (f_Mt.up (Nat.le_of_ble_eq_true rfl) TX12_done), trivial⟩, hX⟩ h)
def VX12_look_28 (c_X12_through : Int → Int → e_M → (e_M → Prop) → Prop) (Q : e_M → Prop) (x1 : Int) (x2 : Int) (M : e_M) : Prop :=
  (c_X12_through x1 x2 M (fun M1 => (∀ M2 : e_M, M2 = e_up M1 4456 100 x1 → (∀ M3 : e_M, M3 = e_up M2 4456 101 x2 → (∀ M4 : e_M, M4 = e_up M3 4456 102 (M3 4456 33) → (Q M4))))))
def VX12_look (c_X12_through : Int → Int → e_M → (e_M → Prop) → Prop) (k28 : Int → Int → e_M → Prop) (Q : e_M → Prop) (x1 : Int) (x2 : Int) (M : e_M) : Prop :=
  ((¬ x1 = (M 4456 100) → (k28 x1 x2 M)) ∧ (x1 = (M 4456 100) → ((¬ x2 = (M 4456 101) → (k28 x1 x2 M)) ∧ (x2 = (M 4456 101) → ((¬ (M 4456 33) = (M 4456 102) → (k28 x1 x2 M)) ∧ ((M 4456 33) = (M 4456 102) → (Q M)))))))
def yX12_look (i : Nat) : e_Y := x_get YX12_look [YX12_through] i
def pX12_lookf : List x_I := [(0, 2, 1, 1, 0, 0, []), (1, 4, 1, 0, 0, 0, []), (2, 25, 12, 100, 0, 0, []), (5, 18, 28, 1, 15, 0, []), (8, 2, 1, 2, 0, 0, []), (9, 4, 1, 0, 0, 0, []), (10, 25, 12, 101, 0, 0, []), (13, 18, 28, 1, 15, 0, []), (16, 4, 1, 0, 0, 0, []), (17, 25, 12, 33, 0, 0, []), (20, 4, 1, 0, 0, 0, []), (21, 25, 12, 102, 0, 0, []), (24, 18, 28, 1, 15, 0, []), (27, 44, 0, 0, 0, 0, []), (28, 49, 0, 0, 0, 0, []), (28, 4, 1, 0, 0, 0, []), (29, 2, 1, 1, 0, 0, []), (30, 2, 1, 2, 0, 0, []), (31, 40, 0, 3, 14, 0, []), (34, 4, 1, 0, 0, 0, []), (35, 2, 1, 1, 0, 0, []), (36, 26, 12, 100, 0, 0, []), (39, 4, 1, 0, 0, 0, []), (40, 2, 1, 2, 0, 0, []), (41, 26, 12, 101, 0, 0, []), (44, 4, 1, 0, 0, 0, []), (45, 4, 1, 0, 0, 0, []), (46, 25, 12, 33, 0, 0, []), (49, 26, 12, 102, 0, 0, []), (52, 44, 0, 0, 0, 0, [])]
set_option maxRecDepth 20000 in
theorem qX12_lookf : f_all yX12_look YX12_look pX12_lookf :=
  ⟨f_iload_n (n := 1) (e_dx DX12_look_0 0 rfl) rfl,
  f_aload_n (n := 0) (e_dx DX12_look_0 1 rfl) rfl,
  f_getf (e_dx DX12_look_0 2 rfl) fX12_223 rfl (by decide) (by decide) (by decide),
  f_icmp_ne (e_dx DX12_look_0 3 rfl) rfl,
  f_iload_n (n := 2) (e_dx DX12_look_0 4 rfl) rfl,
  f_aload_n (n := 0) (e_dx DX12_look_0 5 rfl) rfl,
  f_getf (e_dx DX12_look_0 6 rfl) fX12_227 rfl (by decide) (by decide) (by decide),
  f_icmp_ne (e_dx DX12_look_0 7 rfl) rfl,
  f_aload_n (n := 0) (e_dx DX12_look_0 8 rfl) rfl,
  f_getf (e_dx DX12_look_0 9 rfl) fX12_755 rfl (by decide) (by decide) (by decide),
  f_aload_n (n := 0) (e_dx DX12_look_0 10 rfl) rfl,
  f_getf (e_dx DX12_look_0 11 rfl) fX12_230 rfl (by decide) (by decide) (by decide),
  f_icmp_ne (e_dx DX12_look_0 12 rfl) rfl,
  ⟨(e_dx DX12_look_0 13 rfl), rfl⟩,
  trivial,
  f_aload_n (n := 0) (e_dx DX12_look_0 14 rfl) rfl,
  f_iload_n (n := 1) (e_dx DX12_look_0 15 rfl) rfl,
  f_iload_n (n := 2) (e_dx DX12_look_0 16 rfl) rfl,
  x_callV (e_dx DX12_look_0 17 rfl) mwX12_through vwX12_through cX12_770 rfl,
  f_aload_n (n := 0) (e_dx DX12_look_0 18 rfl) rfl,
  f_iload_n (n := 1) (e_dx DX12_look_0 19 rfl) rfl,
  f_putn (e_dx DX12_look_0 20 rfl) fX12_223 (fun q hq => by cases hq; rfl) rfl (Or.inl rfl) (by decide),
  f_aload_n (n := 0) (e_dx DX12_look_0 21 rfl) rfl,
  f_iload_n (n := 2) (e_dx DX12_look_0 22 rfl) rfl,
  f_putn (e_dx DX12_look_0 23 rfl) fX12_227 (fun q hq => by cases hq; rfl) rfl (Or.inl rfl) (by decide),
  f_aload_n (n := 0) (e_dx DX12_look_0 24 rfl) rfl,
  f_aload_n (n := 0) (e_dx DX12_look_0 25 rfl) rfl,
  f_getf (e_dx DX12_look_0 26 rfl) fX12_755 rfl (by decide) (by decide) (by decide),
  f_putn (e_dx DX12_look_0 27 rfl) fX12_230 (fun q hq => by cases hq; rfl) rfl (Or.inl rfl) (by decide),
  ⟨(e_dx DX12_look_0 28 rfl), rfl⟩, trivial⟩
def lX12_look (c_X12_through : Int → Int → e_M → (e_M → Prop) → Prop) : List (Nat × f_Wt) := [(0, f_wm [(4466, 12, 123), (1, 0, 0), (1, 0, 0)] (fun ar M R => c_X12_through (f_vi (f_nth ar 1)) (f_vi (f_nth ar 2)) M (fun M => R none M)))]
set_option maxRecDepth 20000 in
theorem BX12_look_28 {sh : Nat → Nat × Nat} {t : Nat} {rm : Nat × Nat × Nat} {cs : Nat × Nat} {R : f_Rt} {c_X12_through : Int → Int → e_M → (e_M → Prop) → Prop} {x1 : Int} {x2 : Int} {M : e_M} (C : f_Hy sh t yX12_look rm cs 14 (lX12_look c_X12_through) R) (h : VX12_look_28 c_X12_through (fun M => R none M) x1 x2 M) : f_E sh t YX12_look rm cs (f_Q sh t R) 28 [.inr (.inr (.inl (12, 123, 4456))), .inl x1, .inl x2] [] M :=
  f_go (KC := f_kc []) C qX12_lookf f_kc_nil 32 15 h
set_option maxRecDepth 20000 in
theorem BX12_look {sh : Nat → Nat × Nat} {t : Nat} {rm : Nat × Nat × Nat} {cs : Nat × Nat} {R : f_Rt} {c_X12_through : Int → Int → e_M → (e_M → Prop) → Prop} {k28 : Int → Int → e_M → Prop} {x1 : Int} {x2 : Int} {M : e_M} (C : f_Hy sh t yX12_look rm cs 14 (lX12_look c_X12_through) R) (h28 : ∀ (x1 : Int) (x2 : Int) (M : e_M), k28 x1 x2 M → f_E sh t YX12_look rm cs (f_Q sh t R) 28 [.inr (.inr (.inl (12, 123, 4456))), .inl x1, .inl x2] [] M) (h : VX12_look c_X12_through k28 (fun M => R none M) x1 x2 M) : f_E sh t YX12_look rm cs (f_Q sh t R) 0 [.inr (.inr (.inl (12, 123, 4456))), .inl x1, .inl x2] [] M :=
  f_go (KC := f_kc [(28, f_pl [(4466, 12, 123), (1, 0, 0), (1, 0, 0)] [] (fun ls st M => k28 (f_vi (f_nth ls 1)) (f_vi (f_nth ls 2)) M))]) C qX12_lookf (f_kc_cons (f_pl_ok rfl (fun ls st M h => h28 _ _ M h)) f_kc_nil) 32 0 h
def WX12_look_28 (Q : e_M → Prop) (x1 : Int) (x2 : Int) (M : e_M) : Prop :=
  VX12_look_28 WX12_through Q x1 x2 M
def WX12_look (x1 : Int) (x2 : Int) (M : e_M) (Q : e_M → Prop) : Prop :=
  VX12_look WX12_through (WX12_look_28 Q) Q x1 x2 M
theorem PX12_look_28 {sh : Nat → Nat × Nat} {t : Nat} {rm : Nat × Nat × Nat} {cs : Nat × Nat} {R : f_Rt} {x1 : Int} {x2 : Int} {M : e_M} (C : f_Hy sh t yX12_look rm cs 14 (lX12_look WX12_through) R) (h : WX12_look_28 (fun M => R none M) x1 x2 M) : f_E sh t YX12_look rm cs (f_Q sh t R) 28 [.inr (.inr (.inl (12, 123, 4456))), .inl x1, .inl x2] [] M :=
  BX12_look_28 C h
theorem PX12_look {sh : Nat → Nat × Nat} {t : Nat} {rm : Nat × Nat × Nat} {cs : Nat × Nat} {R : f_Rt} {x1 : Int} {x2 : Int} {M : e_M} (C : f_Hy sh t yX12_look rm cs 14 (lX12_look WX12_through) R) (h : WX12_look x1 x2 M (fun M => R none M)) : f_E sh t YX12_look rm cs (f_Q sh t R) 0 [.inr (.inr (.inl (12, 123, 4456))), .inl x1, .inl x2] [] M :=
  BX12_look C (fun x1 x2 M h => PX12_look_28 C h) h
def wX12_look : f_Wt := f_wm [(4466, 12, 123), (1, 0, 0), (1, 0, 0)] (fun ar M R => WX12_look (f_vi (f_nth ar 1)) (f_vi (f_nth ar 2)) M (fun M => R none M))
theorem TX12_look {sh : Nat → Nat × Nat} {t : Nat} : f_Mt sh t YX12_look 14 (wX12_look) :=
  f_Mt_of (k := 0) (Nat.le_of_ble_eq_true rfl) rfl rfl (fun ar M R rm cs h1 h2 h3 hX h => PX12_look ⟨Nat.le_of_ble_eq_true rfl, h1, h2, h3, ⟨(f_Mt.up (Nat.le_of_ble_eq_true rfl) TX12_through), trivial⟩, hX⟩ h)
def VX12_isHere (c_X12_isThere : Int → Int → Int → e_M → (Int → Prop) → Prop) (Q : Int → Prop) (x1 : Int) (x2 : Int) (M : e_M) : Prop :=
  (c_X12_isThere x1 x2 (M 4456 100) M (fun r1 => ((r1 = 0 ∨ r1 = 1) ∧ Q r1)))
def yX12_isHere (i : Nat) : e_Y := x_get YX12_isHere [YX12_isThere] i
def pX12_isHeref : List x_I := [(0, 4, 1, 0, 0, 0, []), (1, 2, 1, 1, 0, 0, []), (2, 2, 1, 2, 0, 0, []), (3, 4, 1, 0, 0, 0, []), (4, 25, 12, 100, 0, 0, []), (7, 40, 0, 4, 14, 0, []), (10, 42, 0, 0, 0, 0, [])]
set_option maxRecDepth 20000 in
theorem qX12_isHeref : f_all yX12_isHere YX12_isHere pX12_isHeref :=
  ⟨f_aload_n (n := 0) (e_dx DX12_isHere_0 0 rfl) rfl,
  f_iload_n (n := 1) (e_dx DX12_isHere_0 1 rfl) rfl,
  f_iload_n (n := 2) (e_dx DX12_isHere_0 2 rfl) rfl,
  f_aload_n (n := 0) (e_dx DX12_isHere_0 3 rfl) rfl,
  f_getf (e_dx DX12_isHere_0 4 rfl) fX12_223 rfl (by decide) (by decide) (by decide),
  x_callV (e_dx DX12_isHere_0 5 rfl) mwX12_isThere vwX12_isThere cX12_549 rfl,
  ⟨(e_dx DX12_isHere_0 6 rfl), rfl⟩, trivial⟩
def lX12_isHere (c_X12_isThere : Int → Int → Int → e_M → (Int → Prop) → Prop) : List (Nat × f_Wt) := [(0, f_wm [(4466, 12, 123), (1, 0, 0), (1, 0, 0), (1, 0, 0)] (fun ar M R => c_X12_isThere (f_vi (f_nth ar 1)) (f_vi (f_nth ar 2)) (f_vi (f_nth ar 3)) M (fun r => R (some (.inl r)) M)))]
set_option maxRecDepth 20000 in
theorem BX12_isHere {sh : Nat → Nat × Nat} {t : Nat} {rm : Nat × Nat × Nat} {cs : Nat × Nat} {R : f_Rt} {c_X12_isThere : Int → Int → Int → e_M → (Int → Prop) → Prop} {x1 : Int} {x2 : Int} {M : e_M} (C : f_Hy sh t yX12_isHere rm cs 6 (lX12_isHere c_X12_isThere) R) (h : VX12_isHere c_X12_isThere (fun r => R (some (.inl r)) M) x1 x2 M) : f_E sh t YX12_isHere rm cs (f_Q sh t R) 0 [.inr (.inr (.inl (12, 123, 4456))), .inl x1, .inl x2] [] M :=
  f_go (KC := f_kc []) C qX12_isHeref f_kc_nil 9 0 h
def WX12_isHere (x1 : Int) (x2 : Int) (M : e_M) (Q : Int → Prop) : Prop :=
  VX12_isHere WX12_isThere Q x1 x2 M
theorem PX12_isHere {sh : Nat → Nat × Nat} {t : Nat} {rm : Nat × Nat × Nat} {cs : Nat × Nat} {R : f_Rt} {x1 : Int} {x2 : Int} {M : e_M} (C : f_Hy sh t yX12_isHere rm cs 6 (lX12_isHere WX12_isThere) R) (h : WX12_isHere x1 x2 M (fun r => R (some (.inl r)) M)) : f_E sh t YX12_isHere rm cs (f_Q sh t R) 0 [.inr (.inr (.inl (12, 123, 4456))), .inl x1, .inl x2] [] M :=
  BX12_isHere C h
def wX12_isHere : f_Wt := f_wm [(4466, 12, 123), (1, 0, 0), (1, 0, 0)] (fun ar M R => WX12_isHere (f_vi (f_nth ar 1)) (f_vi (f_nth ar 2)) M (fun r => R (some (.inl r)) M))
theorem TX12_isHere {sh : Nat → Nat × Nat} {t : Nat} : f_Mt sh t YX12_isHere 6 (wX12_isHere) :=
  f_Mt_of (k := 0) (Nat.le_of_ble_eq_true rfl) rfl rfl (fun ar M R rm cs h1 h2 h3 hX h => PX12_isHere ⟨Nat.le_of_ble_eq_true rfl, h1, h2, h3, ⟨(f_Mt.up (Nat.le_of_ble_eq_true rfl) TX12_isThere), trivial⟩, hX⟩ h)
def VX12_four_3 (k3 : Int → Int → e_M → Prop) (Q : e_M → Prop) (x1 : Int) (x2 : Int) (M : e_M) : Prop :=
  ((x2 < 0 → (Q M)) ∧ (0 ≤ x2 → ((0 ≤ (M 4456 4) ∧ (M 4456 4) < 640) ∧ (∀ M1 : e_M, M1 = e_up M 4460 ((M 4456 4).toNat) (e_w8 (e_w8 (f_shr x1 x2))) → (∀ M2 : e_M, M2 = e_up M1 4456 4 (e_w32 ((M1 4456 4) + 1)) → (k3 x1 (e_w32 (x2 + (-8))) M2))))))
def VX12_four (k3 : Int → Int → e_M → Prop) (Q : e_M → Prop) (x1 : Int) (M : e_M) : Prop :=
  (k3 x1 24 M)
def yX12_four (i : Nat) : e_Y := x_get YX12_four [] i
def pX12_fourf : List x_I := [(0, 0, 2, 0, 0, 24, []), (2, 5, 1, 2, 0, 0, []), (3, 49, 0, 0, 0, 0, []), (3, 2, 1, 2, 0, 0, []), (4, 17, 36, 2, 23, 0, []), (7, 4, 1, 0, 0, 0, []), (8, 25, 12, 3, 4, 0, [(0, 22, 640), (0, 1, 4)]), (11, 4, 1, 0, 0, 0, []), (12, 25, 12, 4, 0, 0, []), (15, 2, 1, 1, 0, 0, []), (16, 2, 1, 2, 0, 0, []), (17, 9, 0, 9, 0, 0, []), (18, 12, 0, 1, 0, 0, []), (19, 29, 0, 0, 0, 0, []), (20, 4, 1, 0, 0, 0, []), (21, 20, 0, 0, 0, 0, []), (22, 25, 12, 4, 0, 0, []), (25, 0, 1, 0, 0, 1, []), (26, 9, 0, 0, 0, 0, []), (27, 26, 12, 4, 0, 0, []), (30, 8, 0, 2, 0, (-8), []), (33, 19, 3, 0, 3, 0, []), (36, 44, 0, 0, 0, 0, [])]
set_option maxRecDepth 20000 in
theorem qX12_fourf : f_all yX12_four YX12_four pX12_fourf :=
  ⟨f_bipush (e_dx DX12_four_0 0 rfl) ⟨by decide, by decide⟩,
  f_istore_n (n := 2) (e_dx DX12_four_0 1 rfl) rfl (by decide),
  trivial,
  f_iload_n (n := 2) (e_dx DX12_four_0 2 rfl) rfl,
  f_if_lt (e_dx DX12_four_0 3 rfl) rfl,
  f_aload_n (n := 0) (e_dx DX12_four_0 4 rfl) rfl,
  f_getA (e_dx DX12_four_0 5 rfl) fX12_20 rfl (by decide) (Nat.le_of_ble_eq_true rfl) rfl (by decide),
  f_aload_n (n := 0) (e_dx DX12_four_0 6 rfl) rfl,
  f_getf (e_dx DX12_four_0 7 rfl) fX12_357 rfl (by decide) (by decide) (by decide),
  f_iload_n (n := 1) (e_dx DX12_four_0 8 rfl) rfl,
  f_iload_n (n := 2) (e_dx DX12_four_0 9 rfl) rfl,
  f_ishr (e_dx DX12_four_0 10 rfl),
  f_i2b (e_dx DX12_four_0 11 rfl),
  f_g29 (e_dx DX12_four_0 12 rfl),
  f_aload_n (n := 0) (e_dx DX12_four_0 13 rfl) rfl,
  f_g20 (e_dx DX12_four_0 14 rfl),
  f_getf (e_dx DX12_four_0 15 rfl) fX12_357 rfl (by decide) (by decide) (by decide),
  f_iconst (e_dx DX12_four_0 16 rfl) ⟨by decide, by decide⟩,
  f_iadd (e_dx DX12_four_0 17 rfl),
  f_putn (e_dx DX12_four_0 18 rfl) fX12_357 (fun q hq => by cases hq; rfl) rfl (Or.inl rfl) (by decide),
  f_g8 (e_dx DX12_four_0 19 rfl) ⟨by decide, by decide⟩,
  f_g19 (e_dx DX12_four_0 20 rfl) rfl,
  ⟨(e_dx DX12_four_0 21 rfl), rfl⟩, trivial⟩
def lX12_four : List (Nat × f_Wt) := []
set_option maxRecDepth 20000 in
theorem BX12_four_3 {sh : Nat → Nat × Nat} {t : Nat} {rm : Nat × Nat × Nat} {cs : Nat × Nat} {R : f_Rt} {k3 : Int → Int → e_M → Prop} {x1 : Int} {x2 : Int} {M : e_M} (C : f_Hy sh t yX12_four rm cs 4 (lX12_four) R) (h3 : ∀ (x1 : Int) (x2 : Int) (M : e_M), k3 x1 x2 M → f_E sh t YX12_four rm cs (f_Q sh t R) 3 [.inr (.inr (.inl (12, 123, 4456))), .inl x1, .inl x2] [] M) (h : VX12_four_3 k3 (fun M => R none M) x1 x2 M) : f_E sh t YX12_four rm cs (f_Q sh t R) 3 [.inr (.inr (.inl (12, 123, 4456))), .inl x1, .inl x2] [] M :=
  f_go (KC := f_kc [(3, f_pl [(4466, 12, 123), (1, 0, 0), (1, 0, 0)] [] (fun ls st M => k3 (f_vi (f_nth ls 1)) (f_vi (f_nth ls 2)) M))]) C qX12_fourf (f_kc_cons (f_pl_ok rfl (fun ls st M h => h3 _ _ M h)) f_kc_nil) 25 3 h
set_option maxRecDepth 20000 in
theorem BX12_four {sh : Nat → Nat × Nat} {t : Nat} {rm : Nat × Nat × Nat} {cs : Nat × Nat} {R : f_Rt} {k3 : Int → Int → e_M → Prop} {x1 : Int} {M : e_M} (C : f_Hy sh t yX12_four rm cs 4 (lX12_four) R) (h3 : ∀ (x1 : Int) (x2 : Int) (M : e_M), k3 x1 x2 M → f_E sh t YX12_four rm cs (f_Q sh t R) 3 [.inr (.inr (.inl (12, 123, 4456))), .inl x1, .inl x2] [] M) (h : VX12_four k3 (fun M => R none M) x1 M) : f_E sh t YX12_four rm cs (f_Q sh t R) 0 [.inr (.inr (.inl (12, 123, 4456))), .inl x1, .inr (.inr (.inr ()))] [] M :=
  f_go (KC := f_kc [(3, f_pl [(4466, 12, 123), (1, 0, 0), (1, 0, 0)] [] (fun ls st M => k3 (f_vi (f_nth ls 1)) (f_vi (f_nth ls 2)) M))]) C qX12_fourf (f_kc_cons (f_pl_ok rfl (fun ls st M h => h3 _ _ M h)) f_kc_nil) 25 0 h
def WX12_four_3 (Q : e_M → Prop) : Nat → Int → Int → e_M → Prop
  | 0, _, _, _ => False
  | n + 1, x1, x2, M =>
    VX12_four_3 (WX12_four_3 Q n) Q x1 x2 M
def WX12_four (x1 : Int) (M : e_M) (Q : e_M → Prop) : Prop :=
  VX12_four (fun x1 x2 M => ∃ j, WX12_four_3 Q j x1 x2 M) Q x1 M
theorem PX12_four_3 {sh : Nat → Nat × Nat} {t : Nat} {rm : Nat × Nat × Nat} {cs : Nat × Nat} {R : f_Rt} (C : f_Hy sh t yX12_four rm cs 4 (lX12_four) R) : ∀ (n : Nat) (x1 : Int) (x2 : Int) (M : e_M), WX12_four_3 (fun M => R none M) n x1 x2 M → f_E sh t YX12_four rm cs (f_Q sh t R) 3 [.inr (.inr (.inl (12, 123, 4456))), .inl x1, .inl x2] [] M := by
  intro n
  induction n with
  | zero => intro x1 x2 M h; exact h.elim
  | succ n ih => intro x1 x2 M h; exact BX12_four_3 C ih h
theorem PX12_four {sh : Nat → Nat × Nat} {t : Nat} {rm : Nat × Nat × Nat} {cs : Nat × Nat} {R : f_Rt} {x1 : Int} {M : e_M} (C : f_Hy sh t yX12_four rm cs 4 (lX12_four) R) (h : WX12_four x1 M (fun M => R none M)) : f_E sh t YX12_four rm cs (f_Q sh t R) 0 [.inr (.inr (.inl (12, 123, 4456))), .inl x1, .inr (.inr (.inr ()))] [] M :=
  BX12_four C (fun x1 x2 M ⟨j, h⟩ => PX12_four_3 C j _ _ _ h) h
def wX12_four : f_Wt := f_wm [(4466, 12, 123), (1, 0, 0)] (fun ar M R => WX12_four (f_vi (f_nth ar 1)) M (fun M => R none M))
theorem TX12_four {sh : Nat → Nat × Nat} {t : Nat} : f_Mt sh t YX12_four 4 (wX12_four) :=
  f_Mt_of (k := 1) (Nat.le_of_ble_eq_true rfl) rfl rfl (fun ar M R rm cs h1 h2 h3 hX h => PX12_four ⟨Nat.le_of_ble_eq_true rfl, h1, h2, h3, trivial, hX⟩ h)
def VX12_feed (c_X12_four : Int → e_M → (e_M → Prop) → Prop) (Q : Int → e_M → Prop) (x1 : Int) (x2 : Int) (x3 : Int) (x4 : Int) (x5 : Int) (M : e_M) : Prop :=
  (∀ M1 : e_M, M1 = e_up M 4456 121 0 → (((e_w32 ((M1 4456 4) + 20)) ≤ 640 → (c_X12_four x1 M1 (fun M2 => (c_X12_four x2 M2 (fun M3 => (c_X12_four x3 M3 (fun M4 => (c_X12_four x4 M4 (fun M5 => (c_X12_four x5 M5 (fun M6 => (Q 1 M6)))))))))))) ∧ (640 < (e_w32 ((M1 4456 4) + 20)) → (Q 0 M1))))
def yX12_feed (i : Nat) : e_Y := x_get YX12_feed [YX12_four] i
def pX12_feedf : List x_I := [(0, 4, 1, 0, 0, 0, []), (1, 0, 1, 0, 0, 0, []), (2, 26, 12, 121, 0, 0, []), (5, 4, 1, 0, 0, 0, []), (6, 25, 12, 4, 0, 0, []), (9, 0, 2, 0, 0, 20, []), (11, 9, 0, 0, 0, 0, []), (12, 0, 3, 0, 0, 640, []), (15, 18, 20, 5, 12, 0, []), (18, 0, 1, 0, 0, 0, []), (19, 48, 0, 0, 0, 0, []), (20, 4, 1, 0, 0, 0, []), (21, 2, 1, 1, 0, 0, []), (22, 40, 0, 2, 14, 0, []), (25, 4, 1, 0, 0, 0, []), (26, 2, 1, 2, 0, 0, []), (27, 40, 0, 2, 14, 0, []), (30, 4, 1, 0, 0, 0, []), (31, 2, 1, 3, 0, 0, []), (32, 40, 0, 2, 14, 0, []), (35, 4, 1, 0, 0, 0, []), (36, 2, 2, 4, 0, 0, []), (38, 40, 0, 2, 14, 0, []), (41, 4, 1, 0, 0, 0, []), (42, 2, 2, 5, 0, 0, []), (44, 40, 0, 2, 14, 0, []), (47, 0, 1, 0, 0, 1, []), (48, 48, 0, 0, 0, 0, [])]
set_option maxRecDepth 20000 in
theorem qX12_feedf : f_all yX12_feed YX12_feed pX12_feedf :=
  ⟨f_aload_n (n := 0) (e_dx DX12_feed_0 0 rfl) rfl,
  f_iconst (e_dx DX12_feed_0 1 rfl) ⟨by decide, by decide⟩,
  f_putn (e_dx DX12_feed_0 2 rfl) fX12_773 (fun q hq => by cases hq; rfl) rfl (Or.inl rfl) (by decide),
  f_aload_n (n := 0) (e_dx DX12_feed_0 3 rfl) rfl,
  f_getf (e_dx DX12_feed_0 4 rfl) fX12_357 rfl (by decide) (by decide) (by decide),
  f_bipush (e_dx DX12_feed_0 5 rfl) ⟨by decide, by decide⟩,
  f_iadd (e_dx DX12_feed_0 6 rfl),
  f_sipush (e_dx DX12_feed_0 7 rfl) ⟨by decide, by decide⟩,
  f_icmp_le (e_dx DX12_feed_0 8 rfl) rfl,
  f_iconst (e_dx DX12_feed_0 9 rfl) ⟨by decide, by decide⟩,
  ⟨(e_dx DX12_feed_0 10 rfl), rfl⟩,
  f_aload_n (n := 0) (e_dx DX12_feed_0 11 rfl) rfl,
  f_iload_n (n := 1) (e_dx DX12_feed_0 12 rfl) rfl,
  x_callV (e_dx DX12_feed_0 13 rfl) mwX12_four vwX12_four cX12_776 rfl,
  f_aload_n (n := 0) (e_dx DX12_feed_0 14 rfl) rfl,
  f_iload_n (n := 2) (e_dx DX12_feed_0 15 rfl) rfl,
  x_callV (e_dx DX12_feed_0 16 rfl) mwX12_four vwX12_four cX12_776 rfl,
  f_aload_n (n := 0) (e_dx DX12_feed_0 17 rfl) rfl,
  f_iload_n (n := 3) (e_dx DX12_feed_0 18 rfl) rfl,
  x_callV (e_dx DX12_feed_0 19 rfl) mwX12_four vwX12_four cX12_776 rfl,
  f_aload_n (n := 0) (e_dx DX12_feed_0 20 rfl) rfl,
  f_iload (e_dx DX12_feed_0 21 rfl),
  x_callV (e_dx DX12_feed_0 22 rfl) mwX12_four vwX12_four cX12_776 rfl,
  f_aload_n (n := 0) (e_dx DX12_feed_0 23 rfl) rfl,
  f_iload (e_dx DX12_feed_0 24 rfl),
  x_callV (e_dx DX12_feed_0 25 rfl) mwX12_four vwX12_four cX12_776 rfl,
  f_iconst (e_dx DX12_feed_0 26 rfl) ⟨by decide, by decide⟩,
  ⟨(e_dx DX12_feed_0 27 rfl), rfl⟩, trivial⟩
def lX12_feed (c_X12_four : Int → e_M → (e_M → Prop) → Prop) : List (Nat × f_Wt) := [(0, f_wm [(4466, 12, 123), (1, 0, 0)] (fun ar M R => c_X12_four (f_vi (f_nth ar 1)) M (fun M => R none M)))]
set_option maxRecDepth 20000 in
theorem BX12_feed {sh : Nat → Nat × Nat} {t : Nat} {rm : Nat × Nat × Nat} {cs : Nat × Nat} {R : f_Rt} {c_X12_four : Int → e_M → (e_M → Prop) → Prop} {x1 : Int} {x2 : Int} {x3 : Int} {x4 : Int} {x5 : Int} {M : e_M} (C : f_Hy sh t yX12_feed rm cs 5 (lX12_feed c_X12_four) R) (h : VX12_feed c_X12_four (fun r M => R (some (.inl r)) M) x1 x2 x3 x4 x5 M) : f_E sh t YX12_feed rm cs (f_Q sh t R) 0 [.inr (.inr (.inl (12, 123, 4456))), .inl x1, .inl x2, .inl x3, .inl x4, .inl x5] [] M :=
  f_go (KC := f_kc []) C qX12_feedf f_kc_nil 30 0 h
def WX12_feed (x1 : Int) (x2 : Int) (x3 : Int) (x4 : Int) (x5 : Int) (M : e_M) (Q : Int → e_M → Prop) : Prop :=
  VX12_feed WX12_four Q x1 x2 x3 x4 x5 M
theorem PX12_feed {sh : Nat → Nat × Nat} {t : Nat} {rm : Nat × Nat × Nat} {cs : Nat × Nat} {R : f_Rt} {x1 : Int} {x2 : Int} {x3 : Int} {x4 : Int} {x5 : Int} {M : e_M} (C : f_Hy sh t yX12_feed rm cs 5 (lX12_feed WX12_four) R) (h : WX12_feed x1 x2 x3 x4 x5 M (fun r M => R (some (.inl r)) M)) : f_E sh t YX12_feed rm cs (f_Q sh t R) 0 [.inr (.inr (.inl (12, 123, 4456))), .inl x1, .inl x2, .inl x3, .inl x4, .inl x5] [] M :=
  BX12_feed C h
def wX12_feed : f_Wt := f_wm [(4466, 12, 123), (1, 0, 0), (1, 0, 0), (1, 0, 0), (1, 0, 0), (1, 0, 0)] (fun ar M R => WX12_feed (f_vi (f_nth ar 1)) (f_vi (f_nth ar 2)) (f_vi (f_nth ar 3)) (f_vi (f_nth ar 4)) (f_vi (f_nth ar 5)) M (fun r M => R (some (.inl r)) M))
theorem TX12_feed {sh : Nat → Nat × Nat} {t : Nat} : f_Mt sh t YX12_feed 5 (wX12_feed) :=
  f_Mt_of (k := 0) (Nat.le_of_ble_eq_true rfl) rfl rfl (fun ar M R rm cs h1 h2 h3 hX h => PX12_feed ⟨Nat.le_of_ble_eq_true rfl, h1, h2, h3, ⟨(f_Mt.up (Nat.le_of_ble_eq_true rfl) TX12_four), trivial⟩, hX⟩ h)
def VX12_end (Q : Int → e_M → Prop) (x1 : Int) (M : e_M) : Prop :=
  (∀ M1 : e_M, M1 = e_up M 4456 121 0 → ((x1 < 0 → (Q 0 M1)) ∧ (0 ≤ x1 → ((x1 ≤ (M1 4456 4) → (∀ M2 : e_M, M2 = e_up M1 4456 4 x1 → (Q 1 M2))) ∧ ((M1 4456 4) < x1 → (Q 0 M1))))))
def yX12_end (i : Nat) : e_Y := x_get YX12_end [] i
def pX12_endf : List x_I := [(0, 4, 1, 0, 0, 0, []), (1, 0, 1, 0, 0, 0, []), (2, 26, 12, 121, 0, 0, []), (5, 2, 1, 1, 0, 0, []), (6, 17, 17, 2, 10, 0, []), (9, 2, 1, 1, 0, 0, []), (10, 4, 1, 0, 0, 0, []), (11, 25, 12, 4, 0, 0, []), (14, 18, 19, 5, 12, 0, []), (17, 0, 1, 0, 0, 0, []), (18, 48, 0, 0, 0, 0, []), (19, 4, 1, 0, 0, 0, []), (20, 2, 1, 1, 0, 0, []), (21, 26, 12, 4, 0, 0, []), (24, 0, 1, 0, 0, 1, []), (25, 48, 0, 0, 0, 0, [])]
set_option maxRecDepth 20000 in
theorem qX12_endf : f_all yX12_end YX12_end pX12_endf :=
  ⟨f_aload_n (n := 0) (e_dx DX12_end_0 0 rfl) rfl,
  f_iconst (e_dx DX12_end_0 1 rfl) ⟨by decide, by decide⟩,
  f_putn (e_dx DX12_end_0 2 rfl) fX12_773 (fun q hq => by cases hq; rfl) rfl (Or.inl rfl) (by decide),
  f_iload_n (n := 1) (e_dx DX12_end_0 3 rfl) rfl,
  f_if_lt (e_dx DX12_end_0 4 rfl) rfl,
  f_iload_n (n := 1) (e_dx DX12_end_0 5 rfl) rfl,
  f_aload_n (n := 0) (e_dx DX12_end_0 6 rfl) rfl,
  f_getf (e_dx DX12_end_0 7 rfl) fX12_357 rfl (by decide) (by decide) (by decide),
  f_icmp_le (e_dx DX12_end_0 8 rfl) rfl,
  f_iconst (e_dx DX12_end_0 9 rfl) ⟨by decide, by decide⟩,
  ⟨(e_dx DX12_end_0 10 rfl), rfl⟩,
  f_aload_n (n := 0) (e_dx DX12_end_0 11 rfl) rfl,
  f_iload_n (n := 1) (e_dx DX12_end_0 12 rfl) rfl,
  f_putn (e_dx DX12_end_0 13 rfl) fX12_357 (fun q hq => by cases hq; rfl) rfl (Or.inl rfl) (by decide),
  f_iconst (e_dx DX12_end_0 14 rfl) ⟨by decide, by decide⟩,
  ⟨(e_dx DX12_end_0 15 rfl), rfl⟩, trivial⟩
def lX12_end : List (Nat × f_Wt) := []
set_option maxRecDepth 20000 in
theorem BX12_end {sh : Nat → Nat × Nat} {t : Nat} {rm : Nat × Nat × Nat} {cs : Nat × Nat} {R : f_Rt} {x1 : Int} {M : e_M} (C : f_Hy sh t yX12_end rm cs 4 (lX12_end) R) (h : VX12_end (fun r M => R (some (.inl r)) M) x1 M) : f_E sh t YX12_end rm cs (f_Q sh t R) 0 [.inr (.inr (.inl (12, 123, 4456))), .inl x1] [] M :=
  f_go (KC := f_kc []) C qX12_endf f_kc_nil 18 0 h
def WX12_end (x1 : Int) (M : e_M) (Q : Int → e_M → Prop) : Prop :=
  VX12_end Q x1 M
theorem PX12_end {sh : Nat → Nat × Nat} {t : Nat} {rm : Nat × Nat × Nat} {cs : Nat × Nat} {R : f_Rt} {x1 : Int} {M : e_M} (C : f_Hy sh t yX12_end rm cs 4 (lX12_end) R) (h : WX12_end x1 M (fun r M => R (some (.inl r)) M)) : f_E sh t YX12_end rm cs (f_Q sh t R) 0 [.inr (.inr (.inl (12, 123, 4456))), .inl x1] [] M :=
  BX12_end C h
def wX12_end : f_Wt := f_wm [(4466, 12, 123), (1, 0, 0)] (fun ar M R => WX12_end (f_vi (f_nth ar 1)) M (fun r M => R (some (.inl r)) M))
theorem TX12_end {sh : Nat → Nat × Nat} {t : Nat} : f_Mt sh t YX12_end 4 (wX12_end) :=
  f_Mt_of (k := 0) (Nat.le_of_ble_eq_true rfl) rfl rfl (fun ar M R rm cs h1 h2 h3 hX h => PX12_end ⟨Nat.le_of_ble_eq_true rfl, h1, h2, h3, trivial, hX⟩ h)
def VX12_clock (Q : Int → e_M → Prop) (x1 : Int) (M : e_M) : Prop :=
  (∀ M1 : e_M, M1 = e_up M 4456 121 0 → ((x1 < (M1 4456 34) → (Q 0 M1)) ∧ ((M1 4456 34) ≤ x1 → ((x1 < 219145 → (∀ M2 : e_M, M2 = e_up M1 4456 34 x1 → (Q 1 M2))) ∧ (219145 ≤ x1 → (Q 0 M1))))))
def yX12_clock (i : Nat) : e_Y := x_get YX12_clock [] i
def pX12_clockf : List x_I := [(0, 4, 1, 0, 0, 0, []), (1, 0, 1, 0, 0, 0, []), (2, 26, 12, 121, 0, 0, []), (5, 2, 1, 1, 0, 0, []), (6, 4, 1, 0, 0, 0, []), (7, 25, 12, 34, 0, 0, []), (10, 18, 20, 2, 11, 0, []), (13, 2, 1, 1, 0, 0, []), (14, 0, 3, 0, 0, 219145, []), (17, 18, 22, 2, 13, 0, []), (20, 0, 1, 0, 0, 0, []), (21, 48, 0, 0, 0, 0, []), (22, 4, 1, 0, 0, 0, []), (23, 2, 1, 1, 0, 0, []), (24, 26, 12, 34, 0, 0, []), (27, 0, 1, 0, 0, 1, []), (28, 48, 0, 0, 0, 0, [])]
set_option maxRecDepth 20000 in
theorem qX12_clockf : f_all yX12_clock YX12_clock pX12_clockf :=
  ⟨f_aload_n (n := 0) (e_dx DX12_clock_0 0 rfl) rfl,
  f_iconst (e_dx DX12_clock_0 1 rfl) ⟨by decide, by decide⟩,
  f_putn (e_dx DX12_clock_0 2 rfl) fX12_773 (fun q hq => by cases hq; rfl) rfl (Or.inl rfl) (by decide),
  f_iload_n (n := 1) (e_dx DX12_clock_0 3 rfl) rfl,
  f_aload_n (n := 0) (e_dx DX12_clock_0 4 rfl) rfl,
  f_getf (e_dx DX12_clock_0 5 rfl) fX12_779 rfl (by decide) (by decide) (by decide),
  f_icmp_lt (e_dx DX12_clock_0 6 rfl) rfl,
  f_iload_n (n := 1) (e_dx DX12_clock_0 7 rfl) rfl,
  f_ldcw (e_dx DX12_clock_0 8 rfl) hX12_782 rfl ⟨by decide, by decide⟩,
  f_icmp_lt (e_dx DX12_clock_0 9 rfl) rfl,
  f_iconst (e_dx DX12_clock_0 10 rfl) ⟨by decide, by decide⟩,
  ⟨(e_dx DX12_clock_0 11 rfl), rfl⟩,
  f_aload_n (n := 0) (e_dx DX12_clock_0 12 rfl) rfl,
  f_iload_n (n := 1) (e_dx DX12_clock_0 13 rfl) rfl,
  f_putn (e_dx DX12_clock_0 14 rfl) fX12_779 (fun q hq => by cases hq; rfl) rfl (Or.inl rfl) (by decide),
  f_iconst (e_dx DX12_clock_0 15 rfl) ⟨by decide, by decide⟩,
  ⟨(e_dx DX12_clock_0 16 rfl), rfl⟩, trivial⟩
def lX12_clock : List (Nat × f_Wt) := []
set_option maxRecDepth 20000 in
theorem BX12_clock {sh : Nat → Nat × Nat} {t : Nat} {rm : Nat × Nat × Nat} {cs : Nat × Nat} {R : f_Rt} {x1 : Int} {M : e_M} (C : f_Hy sh t yX12_clock rm cs 4 (lX12_clock) R) (h : VX12_clock (fun r M => R (some (.inl r)) M) x1 M) : f_E sh t YX12_clock rm cs (f_Q sh t R) 0 [.inr (.inr (.inl (12, 123, 4456))), .inl x1] [] M :=
  f_go (KC := f_kc []) C qX12_clockf f_kc_nil 19 0 h
def WX12_clock (x1 : Int) (M : e_M) (Q : Int → e_M → Prop) : Prop :=
  VX12_clock Q x1 M
theorem PX12_clock {sh : Nat → Nat × Nat} {t : Nat} {rm : Nat × Nat × Nat} {cs : Nat × Nat} {R : f_Rt} {x1 : Int} {M : e_M} (C : f_Hy sh t yX12_clock rm cs 4 (lX12_clock) R) (h : WX12_clock x1 M (fun r M => R (some (.inl r)) M)) : f_E sh t YX12_clock rm cs (f_Q sh t R) 0 [.inr (.inr (.inl (12, 123, 4456))), .inl x1] [] M :=
  BX12_clock C h
def wX12_clock : f_Wt := f_wm [(4466, 12, 123), (1, 0, 0)] (fun ar M R => WX12_clock (f_vi (f_nth ar 1)) M (fun r M => R (some (.inl r)) M))
theorem TX12_clock {sh : Nat → Nat × Nat} {t : Nat} : f_Mt sh t YX12_clock 4 (wX12_clock) :=
  f_Mt_of (k := 0) (Nat.le_of_ble_eq_true rfl) rfl rfl (fun ar M R rm cs h1 h2 h3 hX h => PX12_clock ⟨Nat.le_of_ble_eq_true rfl, h1, h2, h3, trivial, hX⟩ h)
def VX12_mustEntry_58 (c_X12_mustSign : Int → e_M → (Int → e_M → Prop) → Prop) (c_X12_wrong : Int → e_M → (Int → e_M → Prop) → Prop) (c_X12_good : Int → e_M → (Int → e_M → Prop) → Prop) (k63 : Int → Int → e_M → Prop) (Q : Int → e_M → Prop) (x2 : Int) (M : e_M) : Prop :=
  (k63 x2 1 M)
def VX12_mustEntry_62 (c_X12_mustSign : Int → e_M → (Int → e_M → Prop) → Prop) (c_X12_wrong : Int → e_M → (Int → e_M → Prop) → Prop) (c_X12_good : Int → e_M → (Int → e_M → Prop) → Prop) (k63 : Int → Int → e_M → Prop) (Q : Int → e_M → Prop) (x2 : Int) (M : e_M) : Prop :=
  (k63 x2 0 M)
def VX12_mustEntry_63 (c_X12_mustSign : Int → e_M → (Int → e_M → Prop) → Prop) (c_X12_wrong : Int → e_M → (Int → e_M → Prop) → Prop) (c_X12_good : Int → e_M → (Int → e_M → Prop) → Prop) (k74 : Int → Int → e_M → Prop) (Q : Int → e_M → Prop) (x2 : Int) (xs0 : Int) (M : e_M) : Prop :=
  ((xs0 = 0 → (k74 x2 3 M)) ∧ (¬ xs0 = 0 → (k74 x2 0 M)))
def VX12_mustEntry_74 (c_X12_mustSign : Int → e_M → (Int → e_M → Prop) → Prop) (c_X12_wrong : Int → e_M → (Int → e_M → Prop) → Prop) (c_X12_good : Int → e_M → (Int → e_M → Prop) → Prop) (Q : Int → e_M → Prop) (x2 : Int) (xs1 : Int) (M : e_M) : Prop :=
  (c_X12_good xs1 M (fun r1 M2 => ((r1 = 0 → (Q 0 M2)) ∧ (¬ r1 = 0 → (Q x2 M2)))))
def VX12_mustEntry (c_X12_mustSign : Int → e_M → (Int → e_M → Prop) → Prop) (c_X12_wrong : Int → e_M → (Int → e_M → Prop) → Prop) (c_X12_good : Int → e_M → (Int → e_M → Prop) → Prop) (k62 : Int → e_M → Prop) (k58 : Int → e_M → Prop) (Q : Int → e_M → Prop) (x1 : Int) (M : e_M) : Prop :=
  (c_X12_mustSign 35 M (fun r1 M2 => ((¬ r1 = 0 → (((M2 4456 7) = 2 → (((M2 4456 9) < 1 → (k62 (M2 4456 9) M2)) ∧ (1 ≤ (M2 4456 9) → (((M2 4456 33) < (M2 4456 9) → (k62 (M2 4456 9) M2)) ∧ ((M2 4456 9) ≤ (M2 4456 33) → ((x1 = 0 → (k58 (M2 4456 9) M2)) ∧ (¬ x1 = 0 → ((0 ≤ (M2 4456 9) ∧ (M2 4456 9) < 152) ∧ ((¬ (M2 4478 ((M2 4456 9).toNat)) = 0 → (k62 (M2 4456 9) M2)) ∧ ((M2 4478 ((M2 4456 9).toNat)) = 0 → (k58 (M2 4456 9) M2))))))))))) ∧ (¬ (M2 4456 7) = 2 → (c_X12_wrong 1 M2 (fun r3 M4 => (Q 0 M4)))))) ∧ (r1 = 0 → (Q 0 M2)))))
def yX12_mustEntry (i : Nat) : e_Y := x_get YX12_mustEntry [YX12_mustSign, YX12_wrong, YX12_good] i
def pX12_mustEntryf : List x_I := [(0, 4, 1, 0, 0, 0, []), (1, 0, 2, 0, 0, 35, []), (3, 40, 0, 2, 14, 0, []), (6, 17, 11, 1, 7, 0, []), (9, 0, 1, 0, 0, 0, []), (10, 41, 0, 0, 0, 0, []), (11, 4, 1, 0, 0, 0, []), (12, 25, 12, 7, 0, 0, []), (15, 0, 1, 0, 0, 2, []), (16, 18, 27, 0, 17, 0, []), (19, 4, 1, 0, 0, 0, []), (20, 0, 1, 0, 0, 1, []), (21, 40, 1, 2, 14, 0, []), (24, 21, 0, 0, 0, 0, []), (25, 0, 1, 0, 0, 0, []), (26, 41, 0, 0, 0, 0, []), (27, 4, 1, 0, 0, 0, []), (28, 25, 12, 9, 0, 0, []), (31, 5, 1, 2, 0, 0, []), (32, 2, 1, 2, 0, 0, []), (33, 0, 1, 0, 0, 1, []), (34, 18, 62, 2, 37, 0, []), (37, 2, 1, 2, 0, 0, []), (38, 4, 1, 0, 0, 0, []), (39, 25, 12, 33, 0, 0, []), (42, 18, 62, 4, 37, 0, []), (45, 2, 1, 1, 0, 0, []), (46, 17, 58, 0, 34, 0, []), (49, 4, 1, 0, 0, 0, []), (50, 25, 12, 31, 4, 0, [(0, 20, 152), (0, 1, 22)]), (53, 2, 1, 2, 0, 0, []), (54, 27, 0, 0, 0, 0, []), (55, 17, 62, 1, 37, 0, []), (58, 49, 0, 0, 0, 0, []), (58, 0, 1, 0, 0, 1, []), (59, 19, 63, 0, 39, 0, []), (62, 49, 0, 0, 0, 0, []), (62, 0, 1, 0, 0, 0, []), (63, 49, 0, 0, 0, 0, []), (63, 5, 1, 3, 0, 0, []), (64, 4, 1, 0, 0, 0, []), (65, 2, 1, 3, 0, 0, []), (66, 17, 73, 0, 46, 0, []), (69, 0, 1, 0, 0, 0, []), (70, 19, 74, 0, 47, 0, []), (73, 0, 1, 0, 0, 3, []), (74, 49, 0, 0, 0, 0, []), (74, 40, 2, 2, 14, 0, []), (77, 17, 84, 0, 52, 0, []), (80, 2, 1, 2, 0, 0, []), (81, 19, 85, 0, 53, 0, []), (84, 0, 1, 0, 0, 0, []), (85, 41, 0, 0, 0, 0, [])]
set_option maxRecDepth 20000 in
theorem qX12_mustEntryf : f_all yX12_mustEntry YX12_mustEntry pX12_mustEntryf :=
  ⟨f_aload_n (n := 0) (e_dx DX12_mustEntry_0 0 rfl) rfl,
  f_bipush (e_dx DX12_mustEntry_0 1 rfl) ⟨by decide, by decide⟩,
  x_callV (e_dx DX12_mustEntry_0 2 rfl) mwX12_mustSign vwX12_mustSign cX12_369 rfl,
  f_if_ne (e_dx DX12_mustEntry_0 3 rfl) rfl,
  f_iconst (e_dx DX12_mustEntry_0 4 rfl) ⟨by decide, by decide⟩,
  ⟨(e_dx DX12_mustEntry_0 5 rfl), rfl⟩,
  f_aload_n (n := 0) (e_dx DX12_mustEntry_0 6 rfl) rfl,
  f_getf (e_dx DX12_mustEntry_0 7 rfl) fX12_309 rfl (by decide) (by decide) (by decide),
  f_iconst (e_dx DX12_mustEntry_0 8 rfl) ⟨by decide, by decide⟩,
  f_icmp_eq (e_dx DX12_mustEntry_0 9 rfl) rfl,
  f_aload_n (n := 0) (e_dx DX12_mustEntry_0 10 rfl) rfl,
  f_iconst (e_dx DX12_mustEntry_0 11 rfl) ⟨by decide, by decide⟩,
  x_callV (e_dx DX12_mustEntry_0 12 rfl) mwX12_wrong vwX12_wrong cX12_342 rfl,
  f_g21 (e_dx DX12_mustEntry_0 13 rfl),
  f_iconst (e_dx DX12_mustEntry_0 14 rfl) ⟨by decide, by decide⟩,
  ⟨(e_dx DX12_mustEntry_0 15 rfl), rfl⟩,
  f_aload_n (n := 0) (e_dx DX12_mustEntry_0 16 rfl) rfl,
  f_getf (e_dx DX12_mustEntry_0 17 rfl) fX12_321 rfl (by decide) (by decide) (by decide),
  f_istore_n (n := 2) (e_dx DX12_mustEntry_0 18 rfl) rfl (by decide),
  f_iload_n (n := 2) (e_dx DX12_mustEntry_0 19 rfl) rfl,
  f_iconst (e_dx DX12_mustEntry_0 20 rfl) ⟨by decide, by decide⟩,
  f_icmp_lt (e_dx DX12_mustEntry_0 21 rfl) rfl,
  f_iload_n (n := 2) (e_dx DX12_mustEntry_0 22 rfl) rfl,
  f_aload_n (n := 0) (e_dx DX12_mustEntry_0 23 rfl) rfl,
  f_getf (e_dx DX12_mustEntry_0 24 rfl) fX12_755 rfl (by decide) (by decide) (by decide),
  f_icmp_gt (e_dx DX12_mustEntry_0 25 rfl) rfl,
  f_iload_n (n := 1) (e_dx DX12_mustEntry_0 26 rfl) rfl,
  f_if_eq (e_dx DX12_mustEntry_0 27 rfl) rfl,
  f_aload_n (n := 0) (e_dx DX12_mustEntry_0 28 rfl) rfl,
  f_getA (e_dx DX12_mustEntry_0 29 rfl) fX12_75 rfl (by decide) (Nat.le_of_ble_eq_true rfl) rfl (by decide),
  f_iload_n (n := 2) (e_dx DX12_mustEntry_0 30 rfl) rfl,
  f_iaload (e_dx DX12_mustEntry_0 31 rfl),
  f_if_ne (e_dx DX12_mustEntry_0 32 rfl) rfl,
  trivial,
  f_iconst (e_dx DX12_mustEntry_0 33 rfl) ⟨by decide, by decide⟩,
  f_g19 (e_dx DX12_mustEntry_0 34 rfl) rfl,
  trivial,
  f_iconst (e_dx DX12_mustEntry_0 35 rfl) ⟨by decide, by decide⟩,
  trivial,
  f_istore_n (n := 3) (e_dx DX12_mustEntry_0 36 rfl) rfl (by decide),
  f_aload_n (n := 0) (e_dx DX12_mustEntry_0 37 rfl) rfl,
  f_iload_n (n := 3) (e_dx DX12_mustEntry_0 38 rfl) rfl,
  f_if_eq (e_dx DX12_mustEntry_0 39 rfl) rfl,
  f_iconst (e_dx DX12_mustEntry_1 0 rfl) ⟨by decide, by decide⟩,
  f_g19 (e_dx DX12_mustEntry_1 1 rfl) rfl,
  f_iconst (e_dx DX12_mustEntry_1 2 rfl) ⟨by decide, by decide⟩,
  trivial,
  x_callV (e_dx DX12_mustEntry_1 3 rfl) mwX12_good vwX12_good cX12_351 rfl,
  f_if_eq (e_dx DX12_mustEntry_1 4 rfl) rfl,
  f_iload_n (n := 2) (e_dx DX12_mustEntry_1 5 rfl) rfl,
  f_g19 (e_dx DX12_mustEntry_1 6 rfl) rfl,
  f_iconst (e_dx DX12_mustEntry_1 7 rfl) ⟨by decide, by decide⟩,
  ⟨(e_dx DX12_mustEntry_1 8 rfl), rfl⟩, trivial⟩
def lX12_mustEntry (c_X12_mustSign : Int → e_M → (Int → e_M → Prop) → Prop) (c_X12_wrong : Int → e_M → (Int → e_M → Prop) → Prop) (c_X12_good : Int → e_M → (Int → e_M → Prop) → Prop) : List (Nat × f_Wt) := [(0, f_wm [(4466, 12, 123), (1, 0, 0)] (fun ar M R => c_X12_mustSign (f_vi (f_nth ar 1)) M (fun r M => R (some (.inl r)) M))), (1, f_wm [(4466, 12, 123), (1, 0, 0)] (fun ar M R => c_X12_wrong (f_vi (f_nth ar 1)) M (fun r M => R (some (.inl r)) M))), (2, f_wm [(4466, 12, 123), (1, 0, 0)] (fun ar M R => c_X12_good (f_vi (f_nth ar 1)) M (fun r M => R (some (.inl r)) M)))]
set_option maxRecDepth 20000 in
theorem BX12_mustEntry_58 {sh : Nat → Nat × Nat} {t : Nat} {rm : Nat × Nat × Nat} {cs : Nat × Nat} {R : f_Rt} {c_X12_mustSign : Int → e_M → (Int → e_M → Prop) → Prop} {c_X12_wrong : Int → e_M → (Int → e_M → Prop) → Prop} {c_X12_good : Int → e_M → (Int → e_M → Prop) → Prop} {k63 : Int → Int → e_M → Prop} {x2 : Int} {M : e_M} (C : f_Hy sh t yX12_mustEntry rm cs 10 (lX12_mustEntry c_X12_mustSign c_X12_wrong c_X12_good) R) (h63 : ∀ (x2 : Int) (xs0 : Int) (M : e_M), k63 x2 xs0 M → f_E sh t YX12_mustEntry rm cs (f_Q sh t R) 63 [.inr (.inr (.inl (12, 123, 4456))), .inr (.inr (.inr ())), .inl x2, .inr (.inr (.inr ()))] [.inl xs0] M) (h : VX12_mustEntry_58 c_X12_mustSign c_X12_wrong c_X12_good k63 (fun r M => R (some (.inl r)) M) x2 M) : f_E sh t YX12_mustEntry rm cs (f_Q sh t R) 58 [.inr (.inr (.inl (12, 123, 4456))), .inr (.inr (.inr ())), .inl x2, .inr (.inr (.inr ()))] [] M :=
  f_go (KC := f_kc [(63, f_pl [(4466, 12, 123), (0, 0, 0), (1, 0, 0), (0, 0, 0)] [(1, 0, 0)] (fun ls st M => k63 (f_vi (f_nth ls 2)) (f_vi (f_nth st 0)) M))]) C qX12_mustEntryf (f_kc_cons (f_pl_ok rfl (fun ls st M h => h63 _ _ M h)) f_kc_nil) 55 34 h
set_option maxRecDepth 20000 in
theorem BX12_mustEntry_62 {sh : Nat → Nat × Nat} {t : Nat} {rm : Nat × Nat × Nat} {cs : Nat × Nat} {R : f_Rt} {c_X12_mustSign : Int → e_M → (Int → e_M → Prop) → Prop} {c_X12_wrong : Int → e_M → (Int → e_M → Prop) → Prop} {c_X12_good : Int → e_M → (Int → e_M → Prop) → Prop} {k63 : Int → Int → e_M → Prop} {x2 : Int} {M : e_M} (C : f_Hy sh t yX12_mustEntry rm cs 10 (lX12_mustEntry c_X12_mustSign c_X12_wrong c_X12_good) R) (h63 : ∀ (x2 : Int) (xs0 : Int) (M : e_M), k63 x2 xs0 M → f_E sh t YX12_mustEntry rm cs (f_Q sh t R) 63 [.inr (.inr (.inl (12, 123, 4456))), .inr (.inr (.inr ())), .inl x2, .inr (.inr (.inr ()))] [.inl xs0] M) (h : VX12_mustEntry_62 c_X12_mustSign c_X12_wrong c_X12_good k63 (fun r M => R (some (.inl r)) M) x2 M) : f_E sh t YX12_mustEntry rm cs (f_Q sh t R) 62 [.inr (.inr (.inl (12, 123, 4456))), .inr (.inr (.inr ())), .inl x2, .inr (.inr (.inr ()))] [] M :=
  f_go (KC := f_kc [(63, f_pl [(4466, 12, 123), (0, 0, 0), (1, 0, 0), (0, 0, 0)] [(1, 0, 0)] (fun ls st M => k63 (f_vi (f_nth ls 2)) (f_vi (f_nth st 0)) M))]) C qX12_mustEntryf (f_kc_cons (f_pl_ok rfl (fun ls st M h => h63 _ _ M h)) f_kc_nil) 55 37 h
set_option maxRecDepth 20000 in
theorem BX12_mustEntry_63 {sh : Nat → Nat × Nat} {t : Nat} {rm : Nat × Nat × Nat} {cs : Nat × Nat} {R : f_Rt} {c_X12_mustSign : Int → e_M → (Int → e_M → Prop) → Prop} {c_X12_wrong : Int → e_M → (Int → e_M → Prop) → Prop} {c_X12_good : Int → e_M → (Int → e_M → Prop) → Prop} {k74 : Int → Int → e_M → Prop} {x2 : Int} {xs0 : Int} {M : e_M} (C : f_Hy sh t yX12_mustEntry rm cs 10 (lX12_mustEntry c_X12_mustSign c_X12_wrong c_X12_good) R) (h74 : ∀ (x2 : Int) (xs1 : Int) (M : e_M), k74 x2 xs1 M → f_E sh t YX12_mustEntry rm cs (f_Q sh t R) 74 [.inr (.inr (.inr ())), .inr (.inr (.inr ())), .inl x2, .inr (.inr (.inr ()))] [.inl xs1, .inr (.inr (.inl (12, 123, 4456)))] M) (h : VX12_mustEntry_63 c_X12_mustSign c_X12_wrong c_X12_good k74 (fun r M => R (some (.inl r)) M) x2 xs0 M) : f_E sh t YX12_mustEntry rm cs (f_Q sh t R) 63 [.inr (.inr (.inl (12, 123, 4456))), .inr (.inr (.inr ())), .inl x2, .inr (.inr (.inr ()))] [.inl xs0] M :=
  f_go (KC := f_kc [(74, f_pl [(0, 0, 0), (0, 0, 0), (1, 0, 0), (0, 0, 0)] [(1, 0, 0), (4466, 12, 123)] (fun ls st M => k74 (f_vi (f_nth ls 2)) (f_vi (f_nth st 0)) M))]) C qX12_mustEntryf (f_kc_cons (f_pl_ok rfl (fun ls st M h => h74 _ _ M h)) f_kc_nil) 55 39 h
set_option maxRecDepth 20000 in
theorem BX12_mustEntry_74 {sh : Nat → Nat × Nat} {t : Nat} {rm : Nat × Nat × Nat} {cs : Nat × Nat} {R : f_Rt} {c_X12_mustSign : Int → e_M → (Int → e_M → Prop) → Prop} {c_X12_wrong : Int → e_M → (Int → e_M → Prop) → Prop} {c_X12_good : Int → e_M → (Int → e_M → Prop) → Prop} {x2 : Int} {xs1 : Int} {M : e_M} (C : f_Hy sh t yX12_mustEntry rm cs 10 (lX12_mustEntry c_X12_mustSign c_X12_wrong c_X12_good) R) (h : VX12_mustEntry_74 c_X12_mustSign c_X12_wrong c_X12_good (fun r M => R (some (.inl r)) M) x2 xs1 M) : f_E sh t YX12_mustEntry rm cs (f_Q sh t R) 74 [.inr (.inr (.inr ())), .inr (.inr (.inr ())), .inl x2, .inr (.inr (.inr ()))] [.inl xs1, .inr (.inr (.inl (12, 123, 4456)))] M :=
  f_go (KC := f_kc []) C qX12_mustEntryf f_kc_nil 55 47 h
set_option maxRecDepth 20000 in
theorem BX12_mustEntry {sh : Nat → Nat × Nat} {t : Nat} {rm : Nat × Nat × Nat} {cs : Nat × Nat} {R : f_Rt} {c_X12_mustSign : Int → e_M → (Int → e_M → Prop) → Prop} {c_X12_wrong : Int → e_M → (Int → e_M → Prop) → Prop} {c_X12_good : Int → e_M → (Int → e_M → Prop) → Prop} {k62 : Int → e_M → Prop} {k58 : Int → e_M → Prop} {x1 : Int} {M : e_M} (C : f_Hy sh t yX12_mustEntry rm cs 10 (lX12_mustEntry c_X12_mustSign c_X12_wrong c_X12_good) R) (h62 : ∀ (x2 : Int) (M : e_M), k62 x2 M → f_E sh t YX12_mustEntry rm cs (f_Q sh t R) 62 [.inr (.inr (.inl (12, 123, 4456))), .inr (.inr (.inr ())), .inl x2, .inr (.inr (.inr ()))] [] M) (h58 : ∀ (x2 : Int) (M : e_M), k58 x2 M → f_E sh t YX12_mustEntry rm cs (f_Q sh t R) 58 [.inr (.inr (.inl (12, 123, 4456))), .inr (.inr (.inr ())), .inl x2, .inr (.inr (.inr ()))] [] M) (h : VX12_mustEntry c_X12_mustSign c_X12_wrong c_X12_good k62 k58 (fun r M => R (some (.inl r)) M) x1 M) : f_E sh t YX12_mustEntry rm cs (f_Q sh t R) 0 [.inr (.inr (.inl (12, 123, 4456))), .inl x1, .inr (.inr (.inr ())), .inr (.inr (.inr ()))] [] M :=
  f_go (KC := f_kc [(62, f_pl [(4466, 12, 123), (0, 0, 0), (1, 0, 0), (0, 0, 0)] [] (fun ls st M => k62 (f_vi (f_nth ls 2)) M)), (58, f_pl [(4466, 12, 123), (0, 0, 0), (1, 0, 0), (0, 0, 0)] [] (fun ls st M => k58 (f_vi (f_nth ls 2)) M))]) C qX12_mustEntryf (f_kc_cons (f_pl_ok rfl (fun ls st M h => h62 _ M h)) (f_kc_cons (f_pl_ok rfl (fun ls st M h => h58 _ M h)) f_kc_nil)) 55 0 h
def WX12_mustEntry_74 (Q : Int → e_M → Prop) (x2 : Int) (xs1 : Int) (M : e_M) : Prop :=
  VX12_mustEntry_74 WX12_mustSign WX12_wrong WX12_good Q x2 xs1 M
def WX12_mustEntry_63 (Q : Int → e_M → Prop) (x2 : Int) (xs0 : Int) (M : e_M) : Prop :=
  VX12_mustEntry_63 WX12_mustSign WX12_wrong WX12_good (WX12_mustEntry_74 Q) Q x2 xs0 M
def WX12_mustEntry_58 (Q : Int → e_M → Prop) (x2 : Int) (M : e_M) : Prop :=
  VX12_mustEntry_58 WX12_mustSign WX12_wrong WX12_good (WX12_mustEntry_63 Q) Q x2 M
def WX12_mustEntry_62 (Q : Int → e_M → Prop) (x2 : Int) (M : e_M) : Prop :=
  VX12_mustEntry_62 WX12_mustSign WX12_wrong WX12_good (WX12_mustEntry_63 Q) Q x2 M
def WX12_mustEntry (x1 : Int) (M : e_M) (Q : Int → e_M → Prop) : Prop :=
  VX12_mustEntry WX12_mustSign WX12_wrong WX12_good (WX12_mustEntry_62 Q) (WX12_mustEntry_58 Q) Q x1 M
theorem PX12_mustEntry_74 {sh : Nat → Nat × Nat} {t : Nat} {rm : Nat × Nat × Nat} {cs : Nat × Nat} {R : f_Rt} {x2 : Int} {xs1 : Int} {M : e_M} (C : f_Hy sh t yX12_mustEntry rm cs 10 (lX12_mustEntry WX12_mustSign WX12_wrong WX12_good) R) (h : WX12_mustEntry_74 (fun r M => R (some (.inl r)) M) x2 xs1 M) : f_E sh t YX12_mustEntry rm cs (f_Q sh t R) 74 [.inr (.inr (.inr ())), .inr (.inr (.inr ())), .inl x2, .inr (.inr (.inr ()))] [.inl xs1, .inr (.inr (.inl (12, 123, 4456)))] M :=
  BX12_mustEntry_74 C h
theorem PX12_mustEntry_63 {sh : Nat → Nat × Nat} {t : Nat} {rm : Nat × Nat × Nat} {cs : Nat × Nat} {R : f_Rt} {x2 : Int} {xs0 : Int} {M : e_M} (C : f_Hy sh t yX12_mustEntry rm cs 10 (lX12_mustEntry WX12_mustSign WX12_wrong WX12_good) R) (h : WX12_mustEntry_63 (fun r M => R (some (.inl r)) M) x2 xs0 M) : f_E sh t YX12_mustEntry rm cs (f_Q sh t R) 63 [.inr (.inr (.inl (12, 123, 4456))), .inr (.inr (.inr ())), .inl x2, .inr (.inr (.inr ()))] [.inl xs0] M :=
  BX12_mustEntry_63 C (fun x2 xs1 M h => PX12_mustEntry_74 C h) h
theorem PX12_mustEntry_58 {sh : Nat → Nat × Nat} {t : Nat} {rm : Nat × Nat × Nat} {cs : Nat × Nat} {R : f_Rt} {x2 : Int} {M : e_M} (C : f_Hy sh t yX12_mustEntry rm cs 10 (lX12_mustEntry WX12_mustSign WX12_wrong WX12_good) R) (h : WX12_mustEntry_58 (fun r M => R (some (.inl r)) M) x2 M) : f_E sh t YX12_mustEntry rm cs (f_Q sh t R) 58 [.inr (.inr (.inl (12, 123, 4456))), .inr (.inr (.inr ())), .inl x2, .inr (.inr (.inr ()))] [] M :=
  BX12_mustEntry_58 C (fun x2 xs0 M h => PX12_mustEntry_63 C h) h
theorem PX12_mustEntry_62 {sh : Nat → Nat × Nat} {t : Nat} {rm : Nat × Nat × Nat} {cs : Nat × Nat} {R : f_Rt} {x2 : Int} {M : e_M} (C : f_Hy sh t yX12_mustEntry rm cs 10 (lX12_mustEntry WX12_mustSign WX12_wrong WX12_good) R) (h : WX12_mustEntry_62 (fun r M => R (some (.inl r)) M) x2 M) : f_E sh t YX12_mustEntry rm cs (f_Q sh t R) 62 [.inr (.inr (.inl (12, 123, 4456))), .inr (.inr (.inr ())), .inl x2, .inr (.inr (.inr ()))] [] M :=
  BX12_mustEntry_62 C (fun x2 xs0 M h => PX12_mustEntry_63 C h) h
theorem PX12_mustEntry {sh : Nat → Nat × Nat} {t : Nat} {rm : Nat × Nat × Nat} {cs : Nat × Nat} {R : f_Rt} {x1 : Int} {M : e_M} (C : f_Hy sh t yX12_mustEntry rm cs 10 (lX12_mustEntry WX12_mustSign WX12_wrong WX12_good) R) (h : WX12_mustEntry x1 M (fun r M => R (some (.inl r)) M)) : f_E sh t YX12_mustEntry rm cs (f_Q sh t R) 0 [.inr (.inr (.inl (12, 123, 4456))), .inl x1, .inr (.inr (.inr ())), .inr (.inr (.inr ()))] [] M :=
  BX12_mustEntry C (fun x2 M h => PX12_mustEntry_62 C h) (fun x2 M h => PX12_mustEntry_58 C h) h
def wX12_mustEntry : f_Wt := f_wm [(4466, 12, 123), (1, 0, 0)] (fun ar M R => WX12_mustEntry (f_vi (f_nth ar 1)) M (fun r M => R (some (.inl r)) M))
theorem TX12_mustEntry {sh : Nat → Nat × Nat} {t : Nat} : f_Mt sh t YX12_mustEntry 10 (wX12_mustEntry) :=
  f_Mt_of (k := 2) (Nat.le_of_ble_eq_true rfl) rfl rfl (fun ar M R rm cs h1 h2 h3 hX h => PX12_mustEntry ⟨Nat.le_of_ble_eq_true rfl, h1, h2, h3, ⟨(f_Mt.up (Nat.le_of_ble_eq_true rfl) TX12_mustSign), (f_Mt.up (Nat.le_of_ble_eq_true rfl) TX12_wrong), (f_Mt.up (Nat.le_of_ble_eq_true rfl) TX12_good), trivial⟩, hX⟩ h)
def VX12_reads (c_X12_isWord : Int → e_M → (Int → Prop) → Prop) (c_X12_good : Int → e_M → (Int → e_M → Prop) → Prop) (c_X12_mustEntry : Int → e_M → (Int → e_M → Prop) → Prop) (c_X12_stops : e_M → (Int → e_M → Prop) → Prop) (c_X12_must : Int → e_M → (Int → e_M → Prop) → Prop) (c_X12_mustDeed : Int → e_M → (Int → e_M → Prop) → Prop) (Q : Int → e_M → Prop) (x1 : Int) (M : e_M) : Prop :=
  ((0 ≤ x1 ∧ x1 < 152) ∧ (∀ M1 : e_M, M1 = e_up M 4478 (x1.toNat) 0 → (((0 ≤ x1 ∧ x1 < 152) ∧ ((0 : Int) = 0 ∨ (0 : Int) = 1)) ∧ (∀ M2 : e_M, M2 = e_up M1 4479 (x1.toNat) 0 → (c_X12_isWord 1 M2 (fun r3 => ((r3 = 0 → (c_X12_isWord 2 M2 (fun r4 => ((r4 = 0 → (c_X12_mustDeed x1 M2 (fun r5 M6 => ((r5 = 0 → (Q 0 M6)) ∧ (¬ r5 = 0 → (c_X12_stops M6 (fun r7 M8 => ((r7 = 0 → (Q 0 M8)) ∧ (¬ r7 = 0 → (Q 1 M8)))))))))) ∧ (¬ r4 = 0 → (c_X12_good 0 M2 (fun r9 M10 => ((¬ r9 = 0 → (c_X12_mustEntry 1 M10 (fun r11 M12 => ((r11 = 0 → (Q 0 M12)) ∧ (¬ r11 = 0 → (c_X12_must 3 M12 (fun r13 M14 => ((r13 = 0 → (Q 0 M14)) ∧ (¬ r13 = 0 → (c_X12_mustDeed x1 M14 (fun r15 M16 => ((¬ r15 = 0 → ((0 ≤ x1 ∧ x1 < 152) ∧ (∀ M17 : e_M, M17 = e_up M16 4478 (x1.toNat) r11 → (c_X12_stops M17 (fun r18 M19 => ((r18 = 0 ∨ r18 = 1) ∧ Q r18 M19)))))) ∧ (r15 = 0 → (Q 0 M16)))))))))))))) ∧ (r9 = 0 → (Q 0 M10)))))))))) ∧ (¬ r3 = 0 → (c_X12_good 0 M2 (fun r20 M21 => ((¬ r20 = 0 → (((0 ≤ x1 ∧ x1 < 152) ∧ ((1 : Int) = 0 ∨ (1 : Int) = 1)) ∧ (∀ M22 : e_M, M22 = e_up M21 4479 (x1.toNat) 1 → (c_X12_mustEntry 0 M22 (fun r23 M24 => ((0 ≤ x1 ∧ x1 < 152) ∧ (∀ M25 : e_M, M25 = e_up M24 4478 (x1.toNat) r23 → ((0 ≤ x1 ∧ x1 < 152) ∧ (((M25 4478 (x1.toNat)) ≤ 0 → (Q 0 M25)) ∧ (0 < (M25 4478 (x1.toNat)) → (c_X12_stops M25 (fun r26 M27 => ((r26 = 0 → (Q 0 M27)) ∧ (¬ r26 = 0 → (Q 1 M27))))))))))))))) ∧ (r20 = 0 → (Q 0 M21)))))))))))))
def yX12_reads (i : Nat) : e_Y := x_get YX12_reads [YX12_isWord, YX12_good, YX12_mustEntry, YX12_stops, YX12_must, YX12_mustDeed] i
def pX12_readsf : List x_I := [(0, 4, 1, 0, 0, 0, []), (1, 25, 12, 31, 4, 0, [(0, 20, 152), (0, 1, 22)]), (4, 2, 1, 1, 0, 0, []), (5, 0, 1, 0, 0, 0, []), (6, 28, 0, 0, 0, 0, []), (7, 4, 1, 0, 0, 0, []), (8, 25, 12, 32, 4, 0, [(0, 21, 152), (0, 1, 23)]), (11, 2, 1, 1, 0, 0, []), (12, 0, 1, 0, 0, 0, []), (13, 29, 0, 0, 0, 0, []), (14, 4, 1, 0, 0, 0, []), (15, 0, 1, 0, 0, 1, []), (16, 40, 0, 2, 14, 0, []), (19, 17, 72, 0, 45, 0, []), (22, 4, 1, 0, 0, 0, []), (23, 0, 1, 0, 0, 0, []), (24, 40, 1, 2, 14, 0, []), (27, 17, 32, 1, 21, 0, []), (30, 0, 1, 0, 0, 0, []), (31, 48, 0, 0, 0, 0, []), (32, 4, 1, 0, 0, 0, []), (33, 25, 12, 32, 4, 0, [(0, 21, 152), (0, 1, 23)]), (36, 2, 1, 1, 0, 0, []), (37, 0, 1, 0, 0, 1, []), (38, 29, 0, 0, 0, 0, []), (39, 4, 1, 0, 0, 0, []), (40, 25, 12, 31, 4, 0, [(0, 20, 152), (0, 1, 22)]), (43, 2, 1, 1, 0, 0, []), (44, 4, 1, 0, 0, 0, []), (45, 0, 1, 0, 0, 0, []), (46, 40, 2, 2, 14, 0, []), (49, 28, 0, 0, 0, 0, []), (50, 4, 1, 0, 0, 0, []), (51, 25, 12, 31, 4, 0, [(0, 20, 152), (0, 1, 22)]), (54, 2, 1, 1, 0, 0, []), (55, 27, 0, 0, 0, 0, []), (56, 17, 70, 5, 43, 0, []), (59, 4, 1, 0, 0, 0, []), (60, 40, 3, 1, 14, 0, []), (63, 17, 70, 0, 43, 0, []), (66, 0, 1, 0, 0, 1, []), (67, 19, 71, 0, 44, 0, []), (70, 0, 1, 0, 0, 0, []), (71, 48, 0, 0, 0, 0, []), (72, 4, 1, 0, 0, 0, []), (73, 0, 1, 0, 0, 2, []), (74, 40, 0, 2, 14, 0, []), (77, 17, 130, 0, 79, 0, []), (80, 4, 1, 0, 0, 0, []), (81, 0, 1, 0, 0, 0, []), (82, 40, 1, 2, 14, 0, []), (85, 17, 90, 1, 55, 0, []), (88, 0, 1, 0, 0, 0, []), (89, 48, 0, 0, 0, 0, []), (90, 4, 1, 0, 0, 0, []), (91, 0, 1, 0, 0, 1, []), (92, 40, 2, 2, 14, 0, []), (95, 5, 1, 2, 0, 0, []), (96, 2, 1, 2, 0, 0, []), (97, 17, 116, 0, 69, 0, []), (100, 4, 1, 0, 0, 0, []), (101, 0, 1, 0, 0, 3, []), (102, 40, 4, 2, 14, 0, []), (105, 17, 116, 0, 69, 0, []), (108, 4, 1, 0, 0, 0, []), (109, 2, 1, 1, 0, 0, []), (110, 40, 5, 2, 14, 0, []), (113, 17, 118, 1, 71, 0, []), (116, 0, 1, 0, 0, 0, []), (117, 48, 0, 0, 0, 0, []), (118, 4, 1, 0, 0, 0, []), (119, 25, 12, 31, 4, 0, [(0, 20, 152), (0, 1, 22)]), (122, 2, 1, 1, 0, 0, []), (123, 2, 1, 2, 0, 0, []), (124, 28, 0, 0, 0, 0, []), (125, 4, 1, 0, 0, 0, []), (126, 40, 3, 1, 14, 0, []), (129, 42, 0, 0, 0, 0, []), (130, 4, 1, 0, 0, 0, []), (131, 2, 1, 1, 0, 0, []), (132, 40, 5, 2, 14, 0, []), (135, 17, 149, 0, 88, 0, []), (138, 4, 1, 0, 0, 0, []), (139, 40, 3, 1, 14, 0, []), (142, 17, 149, 0, 88, 0, []), (145, 0, 1, 0, 0, 1, []), (146, 19, 150, 0, 89, 0, []), (149, 0, 1, 0, 0, 0, []), (150, 48, 0, 0, 0, 0, [])]
set_option maxRecDepth 20000 in
theorem qX12_readsf : f_all yX12_reads YX12_reads pX12_readsf :=
  ⟨f_aload_n (n := 0) (e_dx DX12_reads_0 0 rfl) rfl,
  f_getA (e_dx DX12_reads_0 1 rfl) fX12_75 rfl (by decide) (Nat.le_of_ble_eq_true rfl) rfl (by decide),
  f_iload_n (n := 1) (e_dx DX12_reads_0 2 rfl) rfl,
  f_iconst (e_dx DX12_reads_0 3 rfl) ⟨by decide, by decide⟩,
  f_iastore (e_dx DX12_reads_0 4 rfl),
  f_aload_n (n := 0) (e_dx DX12_reads_0 5 rfl) rfl,
  f_getA (e_dx DX12_reads_0 6 rfl) fX12_78 rfl (by decide) (Nat.le_of_ble_eq_true rfl) rfl (by decide),
  f_iload_n (n := 1) (e_dx DX12_reads_0 7 rfl) rfl,
  f_iconst (e_dx DX12_reads_0 8 rfl) ⟨by decide, by decide⟩,
  f_g29 (e_dx DX12_reads_0 9 rfl),
  f_aload_n (n := 0) (e_dx DX12_reads_0 10 rfl) rfl,
  f_iconst (e_dx DX12_reads_0 11 rfl) ⟨by decide, by decide⟩,
  x_callV (e_dx DX12_reads_0 12 rfl) mwX12_isWord vwX12_isWord cX12_348 rfl,
  f_if_eq (e_dx DX12_reads_0 13 rfl) rfl,
  f_aload_n (n := 0) (e_dx DX12_reads_0 14 rfl) rfl,
  f_iconst (e_dx DX12_reads_0 15 rfl) ⟨by decide, by decide⟩,
  x_callV (e_dx DX12_reads_0 16 rfl) mwX12_good vwX12_good cX12_351 rfl,
  f_if_ne (e_dx DX12_reads_0 17 rfl) rfl,
  f_iconst (e_dx DX12_reads_0 18 rfl) ⟨by decide, by decide⟩,
  ⟨(e_dx DX12_reads_0 19 rfl), rfl⟩,
  f_aload_n (n := 0) (e_dx DX12_reads_0 20 rfl) rfl,
  f_getA (e_dx DX12_reads_0 21 rfl) fX12_78 rfl (by decide) (Nat.le_of_ble_eq_true rfl) rfl (by decide),
  f_iload_n (n := 1) (e_dx DX12_reads_0 22 rfl) rfl,
  f_iconst (e_dx DX12_reads_0 23 rfl) ⟨by decide, by decide⟩,
  f_g29 (e_dx DX12_reads_0 24 rfl),
  f_aload_n (n := 0) (e_dx DX12_reads_0 25 rfl) rfl,
  f_getA (e_dx DX12_reads_0 26 rfl) fX12_75 rfl (by decide) (Nat.le_of_ble_eq_true rfl) rfl (by decide),
  f_iload_n (n := 1) (e_dx DX12_reads_0 27 rfl) rfl,
  f_aload_n (n := 0) (e_dx DX12_reads_0 28 rfl) rfl,
  f_iconst (e_dx DX12_reads_0 29 rfl) ⟨by decide, by decide⟩,
  x_callV (e_dx DX12_reads_0 30 rfl) mwX12_mustEntry vwX12_mustEntry cX12_783 rfl,
  f_iastore (e_dx DX12_reads_0 31 rfl),
  f_aload_n (n := 0) (e_dx DX12_reads_0 32 rfl) rfl,
  f_getA (e_dx DX12_reads_0 33 rfl) fX12_75 rfl (by decide) (Nat.le_of_ble_eq_true rfl) rfl (by decide),
  f_iload_n (n := 1) (e_dx DX12_reads_0 34 rfl) rfl,
  f_iaload (e_dx DX12_reads_0 35 rfl),
  f_if_le (e_dx DX12_reads_0 36 rfl) rfl,
  f_aload_n (n := 0) (e_dx DX12_reads_0 37 rfl) rfl,
  x_callV (e_dx DX12_reads_0 38 rfl) mwX12_stops vwX12_stops cX12_787 rfl,
  f_if_eq (e_dx DX12_reads_0 39 rfl) rfl,
  f_iconst (e_dx DX12_reads_1 0 rfl) ⟨by decide, by decide⟩,
  f_g19 (e_dx DX12_reads_1 1 rfl) rfl,
  f_iconst (e_dx DX12_reads_1 2 rfl) ⟨by decide, by decide⟩,
  ⟨(e_dx DX12_reads_1 3 rfl), rfl⟩,
  f_aload_n (n := 0) (e_dx DX12_reads_1 4 rfl) rfl,
  f_iconst (e_dx DX12_reads_1 5 rfl) ⟨by decide, by decide⟩,
  x_callV (e_dx DX12_reads_1 6 rfl) mwX12_isWord vwX12_isWord cX12_348 rfl,
  f_if_eq (e_dx DX12_reads_1 7 rfl) rfl,
  f_aload_n (n := 0) (e_dx DX12_reads_1 8 rfl) rfl,
  f_iconst (e_dx DX12_reads_1 9 rfl) ⟨by decide, by decide⟩,
  x_callV (e_dx DX12_reads_1 10 rfl) mwX12_good vwX12_good cX12_351 rfl,
  f_if_ne (e_dx DX12_reads_1 11 rfl) rfl,
  f_iconst (e_dx DX12_reads_1 12 rfl) ⟨by decide, by decide⟩,
  ⟨(e_dx DX12_reads_1 13 rfl), rfl⟩,
  f_aload_n (n := 0) (e_dx DX12_reads_1 14 rfl) rfl,
  f_iconst (e_dx DX12_reads_1 15 rfl) ⟨by decide, by decide⟩,
  x_callV (e_dx DX12_reads_1 16 rfl) mwX12_mustEntry vwX12_mustEntry cX12_783 rfl,
  f_istore_n (n := 2) (e_dx DX12_reads_1 17 rfl) rfl (by decide),
  f_iload_n (n := 2) (e_dx DX12_reads_1 18 rfl) rfl,
  f_if_eq (e_dx DX12_reads_1 19 rfl) rfl,
  f_aload_n (n := 0) (e_dx DX12_reads_1 20 rfl) rfl,
  f_iconst (e_dx DX12_reads_1 21 rfl) ⟨by decide, by decide⟩,
  x_callV (e_dx DX12_reads_1 22 rfl) mwX12_must vwX12_must cX12_389 rfl,
  f_if_eq (e_dx DX12_reads_1 23 rfl) rfl,
  f_aload_n (n := 0) (e_dx DX12_reads_1 24 rfl) rfl,
  f_iload_n (n := 1) (e_dx DX12_reads_1 25 rfl) rfl,
  x_callV (e_dx DX12_reads_1 26 rfl) mwX12_mustDeed vwX12_mustDeed cX12_790 rfl,
  f_if_ne (e_dx DX12_reads_1 27 rfl) rfl,
  f_iconst (e_dx DX12_reads_1 28 rfl) ⟨by decide, by decide⟩,
  ⟨(e_dx DX12_reads_1 29 rfl), rfl⟩,
  f_aload_n (n := 0) (e_dx DX12_reads_1 30 rfl) rfl,
  f_getA (e_dx DX12_reads_1 31 rfl) fX12_75 rfl (by decide) (Nat.le_of_ble_eq_true rfl) rfl (by decide),
  f_iload_n (n := 1) (e_dx DX12_reads_1 32 rfl) rfl,
  f_iload_n (n := 2) (e_dx DX12_reads_1 33 rfl) rfl,
  f_iastore (e_dx DX12_reads_1 34 rfl),
  f_aload_n (n := 0) (e_dx DX12_reads_1 35 rfl) rfl,
  x_callV (e_dx DX12_reads_1 36 rfl) mwX12_stops vwX12_stops cX12_787 rfl,
  ⟨(e_dx DX12_reads_1 37 rfl), rfl⟩,
  f_aload_n (n := 0) (e_dx DX12_reads_1 38 rfl) rfl,
  f_iload_n (n := 1) (e_dx DX12_reads_1 39 rfl) rfl,
  x_callV (e_dx DX12_reads_2 0 rfl) mwX12_mustDeed vwX12_mustDeed cX12_790 rfl,
  f_if_eq (e_dx DX12_reads_2 1 rfl) rfl,
  f_aload_n (n := 0) (e_dx DX12_reads_2 2 rfl) rfl,
  x_callV (e_dx DX12_reads_2 3 rfl) mwX12_stops vwX12_stops cX12_787 rfl,
  f_if_eq (e_dx DX12_reads_2 4 rfl) rfl,
  f_iconst (e_dx DX12_reads_2 5 rfl) ⟨by decide, by decide⟩,
  f_g19 (e_dx DX12_reads_2 6 rfl) rfl,
  f_iconst (e_dx DX12_reads_2 7 rfl) ⟨by decide, by decide⟩,
  ⟨(e_dx DX12_reads_2 8 rfl), rfl⟩, trivial⟩
def lX12_reads (c_X12_isWord : Int → e_M → (Int → Prop) → Prop) (c_X12_good : Int → e_M → (Int → e_M → Prop) → Prop) (c_X12_mustEntry : Int → e_M → (Int → e_M → Prop) → Prop) (c_X12_stops : e_M → (Int → e_M → Prop) → Prop) (c_X12_must : Int → e_M → (Int → e_M → Prop) → Prop) (c_X12_mustDeed : Int → e_M → (Int → e_M → Prop) → Prop) : List (Nat × f_Wt) := [(0, f_wm [(4466, 12, 123), (1, 0, 0)] (fun ar M R => c_X12_isWord (f_vi (f_nth ar 1)) M (fun r => R (some (.inl r)) M))), (1, f_wm [(4466, 12, 123), (1, 0, 0)] (fun ar M R => c_X12_good (f_vi (f_nth ar 1)) M (fun r M => R (some (.inl r)) M))), (2, f_wm [(4466, 12, 123), (1, 0, 0)] (fun ar M R => c_X12_mustEntry (f_vi (f_nth ar 1)) M (fun r M => R (some (.inl r)) M))), (3, f_wm [(4466, 12, 123)] (fun ar M R => c_X12_stops  M (fun r M => R (some (.inl r)) M))), (4, f_wm [(4466, 12, 123), (1, 0, 0)] (fun ar M R => c_X12_must (f_vi (f_nth ar 1)) M (fun r M => R (some (.inl r)) M))), (5, f_wm [(4466, 12, 123), (1, 0, 0)] (fun ar M R => c_X12_mustDeed (f_vi (f_nth ar 1)) M (fun r M => R (some (.inl r)) M)))]
set_option maxRecDepth 20000 in
theorem BX12_reads {sh : Nat → Nat × Nat} {t : Nat} {rm : Nat × Nat × Nat} {cs : Nat × Nat} {R : f_Rt} {c_X12_isWord : Int → e_M → (Int → Prop) → Prop} {c_X12_good : Int → e_M → (Int → e_M → Prop) → Prop} {c_X12_mustEntry : Int → e_M → (Int → e_M → Prop) → Prop} {c_X12_stops : e_M → (Int → e_M → Prop) → Prop} {c_X12_must : Int → e_M → (Int → e_M → Prop) → Prop} {c_X12_mustDeed : Int → e_M → (Int → e_M → Prop) → Prop} {x1 : Int} {M : e_M} (C : f_Hy sh t yX12_reads rm cs 14 (lX12_reads c_X12_isWord c_X12_good c_X12_mustEntry c_X12_stops c_X12_must c_X12_mustDeed) R) (h : VX12_reads c_X12_isWord c_X12_good c_X12_mustEntry c_X12_stops c_X12_must c_X12_mustDeed (fun r M => R (some (.inl r)) M) x1 M) : f_E sh t YX12_reads rm cs (f_Q sh t R) 0 [.inr (.inr (.inl (12, 123, 4456))), .inl x1, .inr (.inr (.inr ()))] [] M :=
  f_go (KC := f_kc []) C qX12_readsf f_kc_nil 91 0 h
def WX12_reads (x1 : Int) (M : e_M) (Q : Int → e_M → Prop) : Prop :=
  VX12_reads WX12_isWord WX12_good WX12_mustEntry WX12_stops WX12_must WX12_mustDeed Q x1 M
theorem PX12_reads {sh : Nat → Nat × Nat} {t : Nat} {rm : Nat × Nat × Nat} {cs : Nat × Nat} {R : f_Rt} {x1 : Int} {M : e_M} (C : f_Hy sh t yX12_reads rm cs 14 (lX12_reads WX12_isWord WX12_good WX12_mustEntry WX12_stops WX12_must WX12_mustDeed) R) (h : WX12_reads x1 M (fun r M => R (some (.inl r)) M)) : f_E sh t YX12_reads rm cs (f_Q sh t R) 0 [.inr (.inr (.inl (12, 123, 4456))), .inl x1, .inr (.inr (.inr ()))] [] M :=
  BX12_reads C h
def wX12_reads : f_Wt := f_wm [(4466, 12, 123), (1, 0, 0)] (fun ar M R => WX12_reads (f_vi (f_nth ar 1)) M (fun r M => R (some (.inl r)) M))
theorem TX12_reads {sh : Nat → Nat × Nat} {t : Nat} : f_Mt sh t YX12_reads 14 (wX12_reads) :=
  f_Mt_of (k := 1) (Nat.le_of_ble_eq_true rfl) rfl rfl (fun ar M R rm cs h1 h2 h3 hX h => PX12_reads ⟨Nat.le_of_ble_eq_true rfl, h1, h2, h3, ⟨(f_Mt.up (Nat.le_of_ble_eq_true rfl) TX12_isWord), (f_Mt.up (Nat.le_of_ble_eq_true rfl) TX12_good), (f_Mt.up (Nat.le_of_ble_eq_true rfl) TX12_mustEntry), (f_Mt.up (Nat.le_of_ble_eq_true rfl) TX12_stops), (f_Mt.up (Nat.le_of_ble_eq_true rfl) TX12_must), (f_Mt.up (Nat.le_of_ble_eq_true rfl) TX12_mustDeed), trivial⟩, hX⟩ h)
def VX12_enter_31 (c_X12_begins : e_M → (e_M → Prop) → Prop) (c_X12_reads : Int → e_M → (Int → e_M → Prop) → Prop) (Q : Int → e_M → Prop) (xs0 : Int) (M : e_M) : Prop :=
  (c_X12_reads xs0 M (fun r1 M2 => ((¬ r1 = 0 → ((¬ (M2 4456 33) = 150 → (∀ M3 : e_M, M3 = e_up M2 4456 33 xs0 → ((0 ≤ xs0 ∧ xs0 < 152) ∧ (∀ M4 : e_M, M4 = e_up M3 4477 (xs0.toNat) (M3 4456 34) → (Q xs0 M4))))) ∧ ((M2 4456 33) = 150 → (Q (-1000) M2)))) ∧ (r1 = 0 → (Q (e_w32 ((-1 : Int) - (M2 4456 13))) M2)))))
def VX12_enter (c_X12_begins : e_M → (e_M → Prop) → Prop) (c_X12_reads : Int → e_M → (Int → e_M → Prop) → Prop) (k31 : Int → e_M → Prop) (Q : Int → e_M → Prop) (M : e_M) : Prop :=
  (∀ M1 : e_M, M1 = e_up M 4456 121 0 → (c_X12_begins M1 (fun M2 => ((150 ≤ (M2 4456 33) → (k31 151 M2)) ∧ ((M2 4456 33) < 150 → (k31 (e_w32 ((M2 4456 33) + 1)) M2))))))
def yX12_enter (i : Nat) : e_Y := x_get YX12_enter [YX12_begins, YX12_reads] i
def pX12_enterf : List x_I := [(0, 4, 1, 0, 0, 0, []), (1, 0, 1, 0, 0, 0, []), (2, 26, 12, 121, 0, 0, []), (5, 4, 1, 0, 0, 0, []), (6, 40, 0, 1, 14, 0, []), (9, 4, 1, 0, 0, 0, []), (10, 25, 12, 33, 0, 0, []), (13, 0, 3, 0, 0, 150, []), (16, 18, 28, 3, 15, 0, []), (19, 4, 1, 0, 0, 0, []), (20, 25, 12, 33, 0, 0, []), (23, 0, 1, 0, 0, 1, []), (24, 9, 0, 0, 0, 0, []), (25, 19, 31, 0, 16, 0, []), (28, 0, 3, 0, 0, 151, []), (31, 49, 0, 0, 0, 0, []), (31, 5, 1, 1, 0, 0, []), (32, 4, 1, 0, 0, 0, []), (33, 2, 1, 1, 0, 0, []), (34, 40, 1, 2, 14, 0, []), (37, 17, 47, 1, 27, 0, []), (40, 0, 1, 0, 0, (-1), []), (41, 4, 1, 0, 0, 0, []), (42, 25, 12, 13, 0, 0, []), (45, 9, 0, 1, 0, 0, []), (46, 41, 0, 0, 0, 0, []), (47, 4, 1, 0, 0, 0, []), (48, 25, 12, 33, 0, 0, []), (51, 0, 3, 0, 0, 150, []), (54, 18, 61, 1, 33, 0, []), (57, 0, 3, 0, 0, (-1000), []), (60, 41, 0, 0, 0, 0, []), (61, 4, 1, 0, 0, 0, []), (62, 2, 1, 1, 0, 0, []), (63, 26, 12, 33, 0, 0, []), (66, 4, 1, 0, 0, 0, []), (67, 25, 12, 30, 4, 0, [(0, 20, 152), (0, 1, 21)]), (70, 2, 1, 1, 0, 0, []), (71, 4, 1, 0, 0, 0, []), (72, 25, 12, 34, 0, 0, []), (75, 28, 0, 0, 0, 0, []), (76, 2, 1, 1, 0, 0, []), (77, 41, 0, 0, 0, 0, [])]
set_option maxRecDepth 20000 in
theorem qX12_enterf : f_all yX12_enter YX12_enter pX12_enterf :=
  ⟨f_aload_n (n := 0) (e_dx DX12_enter_0 0 rfl) rfl,
  f_iconst (e_dx DX12_enter_0 1 rfl) ⟨by decide, by decide⟩,
  f_putn (e_dx DX12_enter_0 2 rfl) fX12_773 (fun q hq => by cases hq; rfl) rfl (Or.inl rfl) (by decide),
  f_aload_n (n := 0) (e_dx DX12_enter_0 3 rfl) rfl,
  x_callV (e_dx DX12_enter_0 4 rfl) mwX12_begins vwX12_begins cX12_793 rfl,
  f_aload_n (n := 0) (e_dx DX12_enter_0 5 rfl) rfl,
  f_getf (e_dx DX12_enter_0 6 rfl) fX12_755 rfl (by decide) (by decide) (by decide),
  f_sipush (e_dx DX12_enter_0 7 rfl) ⟨by decide, by decide⟩,
  f_icmp_ge (e_dx DX12_enter_0 8 rfl) rfl,
  f_aload_n (n := 0) (e_dx DX12_enter_0 9 rfl) rfl,
  f_getf (e_dx DX12_enter_0 10 rfl) fX12_755 rfl (by decide) (by decide) (by decide),
  f_iconst (e_dx DX12_enter_0 11 rfl) ⟨by decide, by decide⟩,
  f_iadd (e_dx DX12_enter_0 12 rfl),
  f_g19 (e_dx DX12_enter_0 13 rfl) rfl,
  f_sipush (e_dx DX12_enter_0 14 rfl) ⟨by decide, by decide⟩,
  trivial,
  f_istore_n (n := 1) (e_dx DX12_enter_0 15 rfl) rfl (by decide),
  f_aload_n (n := 0) (e_dx DX12_enter_0 16 rfl) rfl,
  f_iload_n (n := 1) (e_dx DX12_enter_0 17 rfl) rfl,
  x_callV (e_dx DX12_enter_0 18 rfl) mwX12_reads vwX12_reads cX12_796 rfl,
  f_if_ne (e_dx DX12_enter_0 19 rfl) rfl,
  f_iconst (e_dx DX12_enter_0 20 rfl) ⟨by decide, by decide⟩,
  f_aload_n (n := 0) (e_dx DX12_enter_0 21 rfl) rfl,
  f_getf (e_dx DX12_enter_0 22 rfl) fX12_339 rfl (by decide) (by decide) (by decide),
  f_isub (e_dx DX12_enter_0 23 rfl),
  ⟨(e_dx DX12_enter_0 24 rfl), rfl⟩,
  f_aload_n (n := 0) (e_dx DX12_enter_0 25 rfl) rfl,
  f_getf (e_dx DX12_enter_0 26 rfl) fX12_755 rfl (by decide) (by decide) (by decide),
  f_sipush (e_dx DX12_enter_0 27 rfl) ⟨by decide, by decide⟩,
  f_icmp_ne (e_dx DX12_enter_0 28 rfl) rfl,
  f_sipush (e_dx DX12_enter_0 29 rfl) ⟨by decide, by decide⟩,
  ⟨(e_dx DX12_enter_0 30 rfl), rfl⟩,
  f_aload_n (n := 0) (e_dx DX12_enter_0 31 rfl) rfl,
  f_iload_n (n := 1) (e_dx DX12_enter_0 32 rfl) rfl,
  f_putn (e_dx DX12_enter_0 33 rfl) fX12_755 (fun q hq => by cases hq; rfl) rfl (Or.inl rfl) (by decide),
  f_aload_n (n := 0) (e_dx DX12_enter_0 34 rfl) rfl,
  f_getA (e_dx DX12_enter_0 35 rfl) fX12_72 rfl (by decide) (Nat.le_of_ble_eq_true rfl) rfl (by decide),
  f_iload_n (n := 1) (e_dx DX12_enter_0 36 rfl) rfl,
  f_aload_n (n := 0) (e_dx DX12_enter_0 37 rfl) rfl,
  f_getf (e_dx DX12_enter_0 38 rfl) fX12_779 rfl (by decide) (by decide) (by decide),
  f_iastore (e_dx DX12_enter_0 39 rfl),
  f_iload_n (n := 1) (e_dx DX12_enter_1 0 rfl) rfl,
  ⟨(e_dx DX12_enter_1 1 rfl), rfl⟩, trivial⟩
def lX12_enter (c_X12_begins : e_M → (e_M → Prop) → Prop) (c_X12_reads : Int → e_M → (Int → e_M → Prop) → Prop) : List (Nat × f_Wt) := [(0, f_wm [(4466, 12, 123)] (fun ar M R => c_X12_begins  M (fun M => R none M))), (1, f_wm [(4466, 12, 123), (1, 0, 0)] (fun ar M R => c_X12_reads (f_vi (f_nth ar 1)) M (fun r M => R (some (.inl r)) M)))]
set_option maxRecDepth 20000 in
theorem BX12_enter_31 {sh : Nat → Nat × Nat} {t : Nat} {rm : Nat × Nat × Nat} {cs : Nat × Nat} {R : f_Rt} {c_X12_begins : e_M → (e_M → Prop) → Prop} {c_X12_reads : Int → e_M → (Int → e_M → Prop) → Prop} {xs0 : Int} {M : e_M} (C : f_Hy sh t yX12_enter rm cs 15 (lX12_enter c_X12_begins c_X12_reads) R) (h : VX12_enter_31 c_X12_begins c_X12_reads (fun r M => R (some (.inl r)) M) xs0 M) : f_E sh t YX12_enter rm cs (f_Q sh t R) 31 [.inr (.inr (.inl (12, 123, 4456))), .inr (.inr (.inr ()))] [.inl xs0] M :=
  f_go (KC := f_kc []) C qX12_enterf f_kc_nil 45 16 h
set_option maxRecDepth 20000 in
theorem BX12_enter {sh : Nat → Nat × Nat} {t : Nat} {rm : Nat × Nat × Nat} {cs : Nat × Nat} {R : f_Rt} {c_X12_begins : e_M → (e_M → Prop) → Prop} {c_X12_reads : Int → e_M → (Int → e_M → Prop) → Prop} {k31 : Int → e_M → Prop} {M : e_M} (C : f_Hy sh t yX12_enter rm cs 15 (lX12_enter c_X12_begins c_X12_reads) R) (h31 : ∀ (xs0 : Int) (M : e_M), k31 xs0 M → f_E sh t YX12_enter rm cs (f_Q sh t R) 31 [.inr (.inr (.inl (12, 123, 4456))), .inr (.inr (.inr ()))] [.inl xs0] M) (h : VX12_enter c_X12_begins c_X12_reads k31 (fun r M => R (some (.inl r)) M) M) : f_E sh t YX12_enter rm cs (f_Q sh t R) 0 [.inr (.inr (.inl (12, 123, 4456))), .inr (.inr (.inr ()))] [] M :=
  f_go (KC := f_kc [(31, f_pl [(4466, 12, 123), (0, 0, 0)] [(1, 0, 0)] (fun ls st M => k31 (f_vi (f_nth st 0)) M))]) C qX12_enterf (f_kc_cons (f_pl_ok rfl (fun ls st M h => h31 _ M h)) f_kc_nil) 45 0 h
def WX12_enter_31 (Q : Int → e_M → Prop) (xs0 : Int) (M : e_M) : Prop :=
  VX12_enter_31 WX12_begins WX12_reads Q xs0 M
def WX12_enter (M : e_M) (Q : Int → e_M → Prop) : Prop :=
  VX12_enter WX12_begins WX12_reads (WX12_enter_31 Q) Q M
theorem PX12_enter_31 {sh : Nat → Nat × Nat} {t : Nat} {rm : Nat × Nat × Nat} {cs : Nat × Nat} {R : f_Rt} {xs0 : Int} {M : e_M} (C : f_Hy sh t yX12_enter rm cs 15 (lX12_enter WX12_begins WX12_reads) R) (h : WX12_enter_31 (fun r M => R (some (.inl r)) M) xs0 M) : f_E sh t YX12_enter rm cs (f_Q sh t R) 31 [.inr (.inr (.inl (12, 123, 4456))), .inr (.inr (.inr ()))] [.inl xs0] M :=
  BX12_enter_31 C h
theorem PX12_enter {sh : Nat → Nat × Nat} {t : Nat} {rm : Nat × Nat × Nat} {cs : Nat × Nat} {R : f_Rt} {M : e_M} (C : f_Hy sh t yX12_enter rm cs 15 (lX12_enter WX12_begins WX12_reads) R) (h : WX12_enter M (fun r M => R (some (.inl r)) M)) : f_E sh t YX12_enter rm cs (f_Q sh t R) 0 [.inr (.inr (.inl (12, 123, 4456))), .inr (.inr (.inr ()))] [] M :=
  BX12_enter C (fun xs0 M h => PX12_enter_31 C h) h
def wX12_enter : f_Wt := f_wm [(4466, 12, 123)] (fun ar M R => WX12_enter M (fun r M => R (some (.inl r)) M))
theorem TX12_enter {sh : Nat → Nat × Nat} {t : Nat} : f_Mt sh t YX12_enter 15 (wX12_enter) :=
  f_Mt_of (k := 1) (Nat.le_of_ble_eq_true rfl) rfl rfl (fun ar M R rm cs h1 h2 h3 hX h => PX12_enter ⟨Nat.le_of_ble_eq_true rfl, h1, h2, h3, ⟨(f_Mt.up (Nat.le_of_ble_eq_true rfl) TX12_begins), (f_Mt.up (Nat.le_of_ble_eq_true rfl) TX12_reads), trivial⟩, hX⟩ h)
def VX12_fault (Q : Int → e_M → Prop) (M : e_M) : Prop :=
  (∀ M1 : e_M, M1 = e_up M 4456 121 0 → (Q (M1 4456 12) M1))
def yX12_fault (i : Nat) : e_Y := x_get YX12_fault [] i
def pX12_faultf : List x_I := [(0, 4, 1, 0, 0, 0, []), (1, 0, 1, 0, 0, 0, []), (2, 26, 12, 121, 0, 0, []), (5, 4, 1, 0, 0, 0, []), (6, 25, 12, 12, 0, 0, []), (9, 41, 0, 0, 0, 0, [])]
set_option maxRecDepth 20000 in
theorem qX12_faultf : f_all yX12_fault YX12_fault pX12_faultf :=
  ⟨f_aload_n (n := 0) (e_dx DX12_fault_0 0 rfl) rfl,
  f_iconst (e_dx DX12_fault_0 1 rfl) ⟨by decide, by decide⟩,
  f_putn (e_dx DX12_fault_0 2 rfl) fX12_773 (fun q hq => by cases hq; rfl) rfl (Or.inl rfl) (by decide),
  f_aload_n (n := 0) (e_dx DX12_fault_0 3 rfl) rfl,
  f_getf (e_dx DX12_fault_0 4 rfl) fX12_336 rfl (by decide) (by decide) (by decide),
  ⟨(e_dx DX12_fault_0 5 rfl), rfl⟩, trivial⟩
def lX12_fault : List (Nat × f_Wt) := []
set_option maxRecDepth 20000 in
theorem BX12_fault {sh : Nat → Nat × Nat} {t : Nat} {rm : Nat × Nat × Nat} {cs : Nat × Nat} {R : f_Rt} {M : e_M} (C : f_Hy sh t yX12_fault rm cs 4 (lX12_fault) R) (h : VX12_fault (fun r M => R (some (.inl r)) M) M) : f_E sh t YX12_fault rm cs (f_Q sh t R) 0 [.inr (.inr (.inl (12, 123, 4456)))] [] M :=
  f_go (KC := f_kc []) C qX12_faultf f_kc_nil 8 0 h
def WX12_fault (M : e_M) (Q : Int → e_M → Prop) : Prop :=
  VX12_fault Q M
theorem PX12_fault {sh : Nat → Nat × Nat} {t : Nat} {rm : Nat × Nat × Nat} {cs : Nat × Nat} {R : f_Rt} {M : e_M} (C : f_Hy sh t yX12_fault rm cs 4 (lX12_fault) R) (h : WX12_fault M (fun r M => R (some (.inl r)) M)) : f_E sh t YX12_fault rm cs (f_Q sh t R) 0 [.inr (.inr (.inl (12, 123, 4456)))] [] M :=
  BX12_fault C h
def wX12_fault : f_Wt := f_wm [(4466, 12, 123)] (fun ar M R => WX12_fault M (fun r M => R (some (.inl r)) M))
theorem TX12_fault {sh : Nat → Nat × Nat} {t : Nat} : f_Mt sh t YX12_fault 4 (wX12_fault) :=
  f_Mt_of (k := 0) (Nat.le_of_ble_eq_true rfl) rfl rfl (fun ar M R rm cs h1 h2 h3 hX h => PX12_fault ⟨Nat.le_of_ble_eq_true rfl, h1, h2, h3, trivial, hX⟩ h)
def VX12_suppose_26 (c_X12_begins : e_M → (e_M → Prop) → Prop) (c_X12_mustDeed : Int → e_M → (Int → e_M → Prop) → Prop) (c_X12_stops : e_M → (Int → e_M → Prop) → Prop) (c_X12_through : Int → Int → e_M → (e_M → Prop) → Prop) (c_X12_done : Int → e_M → (Int → e_M → Prop) → Prop) (Q : Int → e_M → Prop) (M : e_M) : Prop :=
  (Q (e_w32 ((-1 : Int) - (M 4456 13))) M)
def VX12_suppose (c_X12_begins : e_M → (e_M → Prop) → Prop) (c_X12_mustDeed : Int → e_M → (Int → e_M → Prop) → Prop) (c_X12_stops : e_M → (Int → e_M → Prop) → Prop) (c_X12_through : Int → Int → e_M → (e_M → Prop) → Prop) (c_X12_done : Int → e_M → (Int → e_M → Prop) → Prop) (k26 : e_M → Prop) (Q : Int → e_M → Prop) (M : e_M) : Prop :=
  (∀ M1 : e_M, M1 = e_up M 4456 121 0 → (c_X12_begins M1 (fun M2 => (c_X12_mustDeed 151 M2 (fun r3 M4 => ((r3 = 0 → (k26 M4)) ∧ (¬ r3 = 0 → (c_X12_stops M4 (fun r5 M6 => ((¬ r5 = 0 → (∀ M7 : e_M, M7 = e_up M6 4456 100 (-1) → ((0 ≤ (151 : Int) ∧ (151 : Int) < 152) ∧ (c_X12_through (M7 4462 ((151 : Int).toNat)) (M7 4456 34) M7 (fun M8 => (c_X12_done 151 M8 (fun r9 M10 => (Q r9 M10)))))))) ∧ (r5 = 0 → (k26 M6))))))))))))
def yX12_suppose (i : Nat) : e_Y := x_get YX12_suppose [YX12_begins, YX12_mustDeed, YX12_stops, YX12_through, YX12_done] i
def pX12_supposef : List x_I := [(0, 4, 1, 0, 0, 0, []), (1, 0, 1, 0, 0, 0, []), (2, 26, 12, 121, 0, 0, []), (5, 4, 1, 0, 0, 0, []), (6, 40, 0, 1, 14, 0, []), (9, 4, 1, 0, 0, 0, []), (10, 0, 3, 0, 0, 151, []), (13, 40, 1, 2, 14, 0, []), (16, 17, 26, 0, 13, 0, []), (19, 4, 1, 0, 0, 0, []), (20, 40, 2, 1, 14, 0, []), (23, 17, 33, 1, 19, 0, []), (26, 49, 0, 0, 0, 0, []), (26, 0, 1, 0, 0, (-1), []), (27, 4, 1, 0, 0, 0, []), (28, 25, 12, 13, 0, 0, []), (31, 9, 0, 1, 0, 0, []), (32, 41, 0, 0, 0, 0, []), (33, 4, 1, 0, 0, 0, []), (34, 0, 1, 0, 0, (-1), []), (35, 26, 12, 100, 0, 0, []), (38, 4, 1, 0, 0, 0, []), (39, 4, 1, 0, 0, 0, []), (40, 25, 12, 15, 4, 0, [(0, 20, 152), (0, 1, 6)]), (43, 0, 3, 0, 0, 151, []), (46, 27, 0, 0, 0, 0, []), (47, 4, 1, 0, 0, 0, []), (48, 25, 12, 34, 0, 0, []), (51, 40, 3, 3, 14, 0, []), (54, 4, 1, 0, 0, 0, []), (55, 0, 3, 0, 0, 151, []), (58, 40, 4, 2, 14, 0, []), (61, 41, 0, 0, 0, 0, [])]
set_option maxRecDepth 20000 in
theorem qX12_supposef : f_all yX12_suppose YX12_suppose pX12_supposef :=
  ⟨f_aload_n (n := 0) (e_dx DX12_suppose_0 0 rfl) rfl,
  f_iconst (e_dx DX12_suppose_0 1 rfl) ⟨by decide, by decide⟩,
  f_putn (e_dx DX12_suppose_0 2 rfl) fX12_773 (fun q hq => by cases hq; rfl) rfl (Or.inl rfl) (by decide),
  f_aload_n (n := 0) (e_dx DX12_suppose_0 3 rfl) rfl,
  x_callV (e_dx DX12_suppose_0 4 rfl) mwX12_begins vwX12_begins cX12_793 rfl,
  f_aload_n (n := 0) (e_dx DX12_suppose_0 5 rfl) rfl,
  f_sipush (e_dx DX12_suppose_0 6 rfl) ⟨by decide, by decide⟩,
  x_callV (e_dx DX12_suppose_0 7 rfl) mwX12_mustDeed vwX12_mustDeed cX12_790 rfl,
  f_if_eq (e_dx DX12_suppose_0 8 rfl) rfl,
  f_aload_n (n := 0) (e_dx DX12_suppose_0 9 rfl) rfl,
  x_callV (e_dx DX12_suppose_0 10 rfl) mwX12_stops vwX12_stops cX12_787 rfl,
  f_if_ne (e_dx DX12_suppose_0 11 rfl) rfl,
  trivial,
  f_iconst (e_dx DX12_suppose_0 12 rfl) ⟨by decide, by decide⟩,
  f_aload_n (n := 0) (e_dx DX12_suppose_0 13 rfl) rfl,
  f_getf (e_dx DX12_suppose_0 14 rfl) fX12_339 rfl (by decide) (by decide) (by decide),
  f_isub (e_dx DX12_suppose_0 15 rfl),
  ⟨(e_dx DX12_suppose_0 16 rfl), rfl⟩,
  f_aload_n (n := 0) (e_dx DX12_suppose_0 17 rfl) rfl,
  f_iconst (e_dx DX12_suppose_0 18 rfl) ⟨by decide, by decide⟩,
  f_putn (e_dx DX12_suppose_0 19 rfl) fX12_223 (fun q hq => by cases hq; rfl) rfl (Or.inl rfl) (by decide),
  f_aload_n (n := 0) (e_dx DX12_suppose_0 20 rfl) rfl,
  f_aload_n (n := 0) (e_dx DX12_suppose_0 21 rfl) rfl,
  f_getA (e_dx DX12_suppose_0 22 rfl) fX12_27 rfl (by decide) (Nat.le_of_ble_eq_true rfl) rfl (by decide),
  f_sipush (e_dx DX12_suppose_0 23 rfl) ⟨by decide, by decide⟩,
  f_iaload (e_dx DX12_suppose_0 24 rfl),
  f_aload_n (n := 0) (e_dx DX12_suppose_0 25 rfl) rfl,
  f_getf (e_dx DX12_suppose_0 26 rfl) fX12_779 rfl (by decide) (by decide) (by decide),
  x_callV (e_dx DX12_suppose_0 27 rfl) mwX12_through vwX12_through cX12_770 rfl,
  f_aload_n (n := 0) (e_dx DX12_suppose_0 28 rfl) rfl,
  f_sipush (e_dx DX12_suppose_0 29 rfl) ⟨by decide, by decide⟩,
  x_callV (e_dx DX12_suppose_0 30 rfl) mwX12_done vwX12_done cX12_767 rfl,
  ⟨(e_dx DX12_suppose_0 31 rfl), rfl⟩, trivial⟩
def lX12_suppose (c_X12_begins : e_M → (e_M → Prop) → Prop) (c_X12_mustDeed : Int → e_M → (Int → e_M → Prop) → Prop) (c_X12_stops : e_M → (Int → e_M → Prop) → Prop) (c_X12_through : Int → Int → e_M → (e_M → Prop) → Prop) (c_X12_done : Int → e_M → (Int → e_M → Prop) → Prop) : List (Nat × f_Wt) := [(0, f_wm [(4466, 12, 123)] (fun ar M R => c_X12_begins  M (fun M => R none M))), (1, f_wm [(4466, 12, 123), (1, 0, 0)] (fun ar M R => c_X12_mustDeed (f_vi (f_nth ar 1)) M (fun r M => R (some (.inl r)) M))), (2, f_wm [(4466, 12, 123)] (fun ar M R => c_X12_stops  M (fun r M => R (some (.inl r)) M))), (3, f_wm [(4466, 12, 123), (1, 0, 0), (1, 0, 0)] (fun ar M R => c_X12_through (f_vi (f_nth ar 1)) (f_vi (f_nth ar 2)) M (fun M => R none M))), (4, f_wm [(4466, 12, 123), (1, 0, 0)] (fun ar M R => c_X12_done (f_vi (f_nth ar 1)) M (fun r M => R (some (.inl r)) M)))]
set_option maxRecDepth 20000 in
theorem BX12_suppose_26 {sh : Nat → Nat × Nat} {t : Nat} {rm : Nat × Nat × Nat} {cs : Nat × Nat} {R : f_Rt} {c_X12_begins : e_M → (e_M → Prop) → Prop} {c_X12_mustDeed : Int → e_M → (Int → e_M → Prop) → Prop} {c_X12_stops : e_M → (Int → e_M → Prop) → Prop} {c_X12_through : Int → Int → e_M → (e_M → Prop) → Prop} {c_X12_done : Int → e_M → (Int → e_M → Prop) → Prop} {M : e_M} (C : f_Hy sh t yX12_suppose rm cs 14 (lX12_suppose c_X12_begins c_X12_mustDeed c_X12_stops c_X12_through c_X12_done) R) (h : VX12_suppose_26 c_X12_begins c_X12_mustDeed c_X12_stops c_X12_through c_X12_done (fun r M => R (some (.inl r)) M) M) : f_E sh t YX12_suppose rm cs (f_Q sh t R) 26 [.inr (.inr (.inl (12, 123, 4456)))] [] M :=
  f_go (KC := f_kc []) C qX12_supposef f_kc_nil 35 13 h
set_option maxRecDepth 20000 in
theorem BX12_suppose {sh : Nat → Nat × Nat} {t : Nat} {rm : Nat × Nat × Nat} {cs : Nat × Nat} {R : f_Rt} {c_X12_begins : e_M → (e_M → Prop) → Prop} {c_X12_mustDeed : Int → e_M → (Int → e_M → Prop) → Prop} {c_X12_stops : e_M → (Int → e_M → Prop) → Prop} {c_X12_through : Int → Int → e_M → (e_M → Prop) → Prop} {c_X12_done : Int → e_M → (Int → e_M → Prop) → Prop} {k26 : e_M → Prop} {M : e_M} (C : f_Hy sh t yX12_suppose rm cs 14 (lX12_suppose c_X12_begins c_X12_mustDeed c_X12_stops c_X12_through c_X12_done) R) (h26 : ∀ (M : e_M), k26 M → f_E sh t YX12_suppose rm cs (f_Q sh t R) 26 [.inr (.inr (.inl (12, 123, 4456)))] [] M) (h : VX12_suppose c_X12_begins c_X12_mustDeed c_X12_stops c_X12_through c_X12_done k26 (fun r M => R (some (.inl r)) M) M) : f_E sh t YX12_suppose rm cs (f_Q sh t R) 0 [.inr (.inr (.inl (12, 123, 4456)))] [] M :=
  f_go (KC := f_kc [(26, f_pl [(4466, 12, 123)] [] (fun ls st M => k26 M))]) C qX12_supposef (f_kc_cons (f_pl_ok rfl (fun ls st M h => h26  M h)) f_kc_nil) 35 0 h
def WX12_suppose_26 (Q : Int → e_M → Prop) (M : e_M) : Prop :=
  VX12_suppose_26 WX12_begins WX12_mustDeed WX12_stops WX12_through WX12_done Q M
def WX12_suppose (M : e_M) (Q : Int → e_M → Prop) : Prop :=
  VX12_suppose WX12_begins WX12_mustDeed WX12_stops WX12_through WX12_done (WX12_suppose_26 Q) Q M
theorem PX12_suppose_26 {sh : Nat → Nat × Nat} {t : Nat} {rm : Nat × Nat × Nat} {cs : Nat × Nat} {R : f_Rt} {M : e_M} (C : f_Hy sh t yX12_suppose rm cs 14 (lX12_suppose WX12_begins WX12_mustDeed WX12_stops WX12_through WX12_done) R) (h : WX12_suppose_26 (fun r M => R (some (.inl r)) M) M) : f_E sh t YX12_suppose rm cs (f_Q sh t R) 26 [.inr (.inr (.inl (12, 123, 4456)))] [] M :=
  BX12_suppose_26 C h
theorem PX12_suppose {sh : Nat → Nat × Nat} {t : Nat} {rm : Nat × Nat × Nat} {cs : Nat × Nat} {R : f_Rt} {M : e_M} (C : f_Hy sh t yX12_suppose rm cs 14 (lX12_suppose WX12_begins WX12_mustDeed WX12_stops WX12_through WX12_done) R) (h : WX12_suppose M (fun r M => R (some (.inl r)) M)) : f_E sh t YX12_suppose rm cs (f_Q sh t R) 0 [.inr (.inr (.inl (12, 123, 4456)))] [] M :=
  BX12_suppose C (fun M h => PX12_suppose_26 C h) h
def wX12_suppose : f_Wt := f_wm [(4466, 12, 123)] (fun ar M R => WX12_suppose M (fun r M => R (some (.inl r)) M))
theorem TX12_suppose {sh : Nat → Nat × Nat} {t : Nat} : f_Mt sh t YX12_suppose 14 (wX12_suppose) :=
  f_Mt_of (k := 0) (Nat.le_of_ble_eq_true rfl) rfl rfl (fun ar M R rm cs h1 h2 h3 hX h => PX12_suppose ⟨Nat.le_of_ble_eq_true rfl, h1, h2, h3, ⟨(f_Mt.up (Nat.le_of_ble_eq_true rfl) TX12_begins), (f_Mt.up (Nat.le_of_ble_eq_true rfl) TX12_mustDeed), (f_Mt.up (Nat.le_of_ble_eq_true rfl) TX12_stops), (f_Mt.up (Nat.le_of_ble_eq_true rfl) TX12_through), (f_Mt.up (Nat.le_of_ble_eq_true rfl) TX12_done), trivial⟩, hX⟩ h)
def VX12_view (c_X12_look : Int → Int → e_M → (e_M → Prop) → Prop) (Q : Int → e_M → Prop) (x1 : Int) (x2 : Int) (M : e_M) : Prop :=
  (∀ M1 : e_M, M1 = e_up M 4456 121 0 → ((x1 < 0 → (Q (-1) M1)) ∧ (0 ≤ x1 → ((219145 ≤ x1 → (Q (-1) M1)) ∧ (x1 < 219145 → ((x2 < 0 → (Q (-1) M1)) ∧ (0 ≤ x2 → ((x2 ≤ (M1 4456 34) → (∀ M2 : e_M, M2 = e_up M1 4456 103 x1 → (∀ M3 : e_M, M3 = e_up M2 4456 104 x2 → (c_X12_look (M3 4456 103) (M3 4456 104) M3 (fun M4 => (Q (M4 4456 99) M4)))))) ∧ ((M1 4456 34) < x2 → (Q (-1) M1))))))))))
def yX12_view (i : Nat) : e_Y := x_get YX12_view [YX12_look] i
def pX12_viewf : List x_I := [(0, 4, 1, 0, 0, 0, []), (1, 0, 1, 0, 0, 0, []), (2, 26, 12, 121, 0, 0, []), (5, 2, 1, 1, 0, 0, []), (6, 17, 28, 2, 15, 0, []), (9, 2, 1, 1, 0, 0, []), (10, 0, 3, 0, 0, 219145, []), (13, 18, 28, 3, 15, 0, []), (16, 2, 1, 2, 0, 0, []), (17, 17, 28, 2, 15, 0, []), (20, 2, 1, 2, 0, 0, []), (21, 4, 1, 0, 0, 0, []), (22, 25, 12, 34, 0, 0, []), (25, 18, 30, 5, 17, 0, []), (28, 0, 1, 0, 0, (-1), []), (29, 41, 0, 0, 0, 0, []), (30, 4, 1, 0, 0, 0, []), (31, 2, 1, 1, 0, 0, []), (32, 26, 12, 103, 0, 0, []), (35, 4, 1, 0, 0, 0, []), (36, 2, 1, 2, 0, 0, []), (37, 26, 12, 104, 0, 0, []), (40, 4, 1, 0, 0, 0, []), (41, 4, 1, 0, 0, 0, []), (42, 25, 12, 103, 0, 0, []), (45, 4, 1, 0, 0, 0, []), (46, 25, 12, 104, 0, 0, []), (49, 40, 0, 3, 14, 0, []), (52, 4, 1, 0, 0, 0, []), (53, 25, 12, 99, 0, 0, []), (56, 41, 0, 0, 0, 0, [])]
set_option maxRecDepth 20000 in
theorem qX12_viewf : f_all yX12_view YX12_view pX12_viewf :=
  ⟨f_aload_n (n := 0) (e_dx DX12_view_0 0 rfl) rfl,
  f_iconst (e_dx DX12_view_0 1 rfl) ⟨by decide, by decide⟩,
  f_putn (e_dx DX12_view_0 2 rfl) fX12_773 (fun q hq => by cases hq; rfl) rfl (Or.inl rfl) (by decide),
  f_iload_n (n := 1) (e_dx DX12_view_0 3 rfl) rfl,
  f_if_lt (e_dx DX12_view_0 4 rfl) rfl,
  f_iload_n (n := 1) (e_dx DX12_view_0 5 rfl) rfl,
  f_ldcw (e_dx DX12_view_0 6 rfl) hX12_782 rfl ⟨by decide, by decide⟩,
  f_icmp_ge (e_dx DX12_view_0 7 rfl) rfl,
  f_iload_n (n := 2) (e_dx DX12_view_0 8 rfl) rfl,
  f_if_lt (e_dx DX12_view_0 9 rfl) rfl,
  f_iload_n (n := 2) (e_dx DX12_view_0 10 rfl) rfl,
  f_aload_n (n := 0) (e_dx DX12_view_0 11 rfl) rfl,
  f_getf (e_dx DX12_view_0 12 rfl) fX12_779 rfl (by decide) (by decide) (by decide),
  f_icmp_le (e_dx DX12_view_0 13 rfl) rfl,
  f_iconst (e_dx DX12_view_0 14 rfl) ⟨by decide, by decide⟩,
  ⟨(e_dx DX12_view_0 15 rfl), rfl⟩,
  f_aload_n (n := 0) (e_dx DX12_view_0 16 rfl) rfl,
  f_iload_n (n := 1) (e_dx DX12_view_0 17 rfl) rfl,
  f_putn (e_dx DX12_view_0 18 rfl) fX12_799 (fun q hq => by cases hq; rfl) rfl (Or.inl rfl) (by decide),
  f_aload_n (n := 0) (e_dx DX12_view_0 19 rfl) rfl,
  f_iload_n (n := 2) (e_dx DX12_view_0 20 rfl) rfl,
  f_putn (e_dx DX12_view_0 21 rfl) fX12_802 (fun q hq => by cases hq; rfl) rfl (Or.inl rfl) (by decide),
  f_aload_n (n := 0) (e_dx DX12_view_0 22 rfl) rfl,
  f_aload_n (n := 0) (e_dx DX12_view_0 23 rfl) rfl,
  f_getf (e_dx DX12_view_0 24 rfl) fX12_799 rfl (by decide) (by decide) (by decide),
  f_aload_n (n := 0) (e_dx DX12_view_0 25 rfl) rfl,
  f_getf (e_dx DX12_view_0 26 rfl) fX12_802 rfl (by decide) (by decide) (by decide),
  x_callV (e_dx DX12_view_0 27 rfl) mwX12_look vwX12_look cX12_805 rfl,
  f_aload_n (n := 0) (e_dx DX12_view_0 28 rfl) rfl,
  f_getf (e_dx DX12_view_0 29 rfl) fX12_764 rfl (by decide) (by decide) (by decide),
  ⟨(e_dx DX12_view_0 30 rfl), rfl⟩, trivial⟩
def lX12_view (c_X12_look : Int → Int → e_M → (e_M → Prop) → Prop) : List (Nat × f_Wt) := [(0, f_wm [(4466, 12, 123), (1, 0, 0), (1, 0, 0)] (fun ar M R => c_X12_look (f_vi (f_nth ar 1)) (f_vi (f_nth ar 2)) M (fun M => R none M)))]
set_option maxRecDepth 20000 in
theorem BX12_view {sh : Nat → Nat × Nat} {t : Nat} {rm : Nat × Nat × Nat} {cs : Nat × Nat} {R : f_Rt} {c_X12_look : Int → Int → e_M → (e_M → Prop) → Prop} {x1 : Int} {x2 : Int} {M : e_M} (C : f_Hy sh t yX12_view rm cs 15 (lX12_view c_X12_look) R) (h : VX12_view c_X12_look (fun r M => R (some (.inl r)) M) x1 x2 M) : f_E sh t YX12_view rm cs (f_Q sh t R) 0 [.inr (.inr (.inl (12, 123, 4456))), .inl x1, .inl x2] [] M :=
  f_go (KC := f_kc []) C qX12_viewf f_kc_nil 33 0 h
def WX12_view (x1 : Int) (x2 : Int) (M : e_M) (Q : Int → e_M → Prop) : Prop :=
  VX12_view WX12_look Q x1 x2 M
theorem PX12_view {sh : Nat → Nat × Nat} {t : Nat} {rm : Nat × Nat × Nat} {cs : Nat × Nat} {R : f_Rt} {x1 : Int} {x2 : Int} {M : e_M} (C : f_Hy sh t yX12_view rm cs 15 (lX12_view WX12_look) R) (h : WX12_view x1 x2 M (fun r M => R (some (.inl r)) M)) : f_E sh t YX12_view rm cs (f_Q sh t R) 0 [.inr (.inr (.inl (12, 123, 4456))), .inl x1, .inl x2] [] M :=
  BX12_view C h
def wX12_view : f_Wt := f_wm [(4466, 12, 123), (1, 0, 0), (1, 0, 0)] (fun ar M R => WX12_view (f_vi (f_nth ar 1)) (f_vi (f_nth ar 2)) M (fun r M => R (some (.inl r)) M))
theorem TX12_view {sh : Nat → Nat × Nat} {t : Nat} : f_Mt sh t YX12_view 15 (wX12_view) :=
  f_Mt_of (k := 0) (Nat.le_of_ble_eq_true rfl) rfl rfl (fun ar M R rm cs h1 h2 h3 hX h => PX12_view ⟨Nat.le_of_ble_eq_true rfl, h1, h2, h3, ⟨(f_Mt.up (Nat.le_of_ble_eq_true rfl) TX12_look), trivial⟩, hX⟩ h)
def VX12_came (c_X12_look : Int → Int → e_M → (e_M → Prop) → Prop) (Q : Int → e_M → Prop) (x1 : Int) (M : e_M) : Prop :=
  (∀ M1 : e_M, M1 = e_up M 4456 121 0 → ((x1 < 1 → (Q (-1) M1)) ∧ (1 ≤ x1 → ((x1 ≤ (M1 4456 33) → (c_X12_look (M1 4456 103) (M1 4456 104) M1 (fun M2 => ((0 ≤ x1 ∧ x1 < 152) ∧ (Q (M2 4524 (x1.toNat)) M2))))) ∧ ((M1 4456 33) < x1 → (Q (-1) M1))))))
def yX12_came (i : Nat) : e_Y := x_get YX12_came [YX12_look] i
def pX12_camef : List x_I := [(0, 4, 1, 0, 0, 0, []), (1, 0, 1, 0, 0, 0, []), (2, 26, 12, 121, 0, 0, []), (5, 2, 1, 1, 0, 0, []), (6, 0, 1, 0, 0, 1, []), (7, 18, 18, 2, 11, 0, []), (10, 2, 1, 1, 0, 0, []), (11, 4, 1, 0, 0, 0, []), (12, 25, 12, 33, 0, 0, []), (15, 18, 20, 5, 13, 0, []), (18, 0, 1, 0, 0, (-1), []), (19, 41, 0, 0, 0, 0, []), (20, 4, 1, 0, 0, 0, []), (21, 4, 1, 0, 0, 0, []), (22, 25, 12, 103, 0, 0, []), (25, 4, 1, 0, 0, 0, []), (26, 25, 12, 104, 0, 0, []), (29, 40, 0, 3, 14, 0, []), (32, 4, 1, 0, 0, 0, []), (33, 25, 12, 95, 4, 0, [(0, 20, 152), (0, 1, 68)]), (36, 2, 1, 1, 0, 0, []), (37, 27, 0, 0, 0, 0, []), (38, 41, 0, 0, 0, 0, [])]
set_option maxRecDepth 20000 in
theorem qX12_camef : f_all yX12_came YX12_came pX12_camef :=
  ⟨f_aload_n (n := 0) (e_dx DX12_came_0 0 rfl) rfl,
  f_iconst (e_dx DX12_came_0 1 rfl) ⟨by decide, by decide⟩,
  f_putn (e_dx DX12_came_0 2 rfl) fX12_773 (fun q hq => by cases hq; rfl) rfl (Or.inl rfl) (by decide),
  f_iload_n (n := 1) (e_dx DX12_came_0 3 rfl) rfl,
  f_iconst (e_dx DX12_came_0 4 rfl) ⟨by decide, by decide⟩,
  f_icmp_lt (e_dx DX12_came_0 5 rfl) rfl,
  f_iload_n (n := 1) (e_dx DX12_came_0 6 rfl) rfl,
  f_aload_n (n := 0) (e_dx DX12_came_0 7 rfl) rfl,
  f_getf (e_dx DX12_came_0 8 rfl) fX12_755 rfl (by decide) (by decide) (by decide),
  f_icmp_le (e_dx DX12_came_0 9 rfl) rfl,
  f_iconst (e_dx DX12_came_0 10 rfl) ⟨by decide, by decide⟩,
  ⟨(e_dx DX12_came_0 11 rfl), rfl⟩,
  f_aload_n (n := 0) (e_dx DX12_came_0 12 rfl) rfl,
  f_aload_n (n := 0) (e_dx DX12_came_0 13 rfl) rfl,
  f_getf (e_dx DX12_came_0 14 rfl) fX12_799 rfl (by decide) (by decide) (by decide),
  f_aload_n (n := 0) (e_dx DX12_came_0 15 rfl) rfl,
  f_getf (e_dx DX12_came_0 16 rfl) fX12_802 rfl (by decide) (by decide) (by decide),
  x_callV (e_dx DX12_came_0 17 rfl) mwX12_look vwX12_look cX12_805 rfl,
  f_aload_n (n := 0) (e_dx DX12_came_0 18 rfl) rfl,
  f_getA (e_dx DX12_came_0 19 rfl) fX12_214 rfl (by decide) (Nat.le_of_ble_eq_true rfl) rfl (by decide),
  f_iload_n (n := 1) (e_dx DX12_came_0 20 rfl) rfl,
  f_iaload (e_dx DX12_came_0 21 rfl),
  ⟨(e_dx DX12_came_0 22 rfl), rfl⟩, trivial⟩
def lX12_came (c_X12_look : Int → Int → e_M → (e_M → Prop) → Prop) : List (Nat × f_Wt) := [(0, f_wm [(4466, 12, 123), (1, 0, 0), (1, 0, 0)] (fun ar M R => c_X12_look (f_vi (f_nth ar 1)) (f_vi (f_nth ar 2)) M (fun M => R none M)))]
set_option maxRecDepth 20000 in
theorem BX12_came {sh : Nat → Nat × Nat} {t : Nat} {rm : Nat × Nat × Nat} {cs : Nat × Nat} {R : f_Rt} {c_X12_look : Int → Int → e_M → (e_M → Prop) → Prop} {x1 : Int} {M : e_M} (C : f_Hy sh t yX12_came rm cs 15 (lX12_came c_X12_look) R) (h : VX12_came c_X12_look (fun r M => R (some (.inl r)) M) x1 M) : f_E sh t YX12_came rm cs (f_Q sh t R) 0 [.inr (.inr (.inl (12, 123, 4456))), .inl x1] [] M :=
  f_go (KC := f_kc []) C qX12_camef f_kc_nil 25 0 h
def WX12_came (x1 : Int) (M : e_M) (Q : Int → e_M → Prop) : Prop :=
  VX12_came WX12_look Q x1 M
theorem PX12_came {sh : Nat → Nat × Nat} {t : Nat} {rm : Nat × Nat × Nat} {cs : Nat × Nat} {R : f_Rt} {x1 : Int} {M : e_M} (C : f_Hy sh t yX12_came rm cs 15 (lX12_came WX12_look) R) (h : WX12_came x1 M (fun r M => R (some (.inl r)) M)) : f_E sh t YX12_came rm cs (f_Q sh t R) 0 [.inr (.inr (.inl (12, 123, 4456))), .inl x1] [] M :=
  BX12_came C h
def wX12_came : f_Wt := f_wm [(4466, 12, 123), (1, 0, 0)] (fun ar M R => WX12_came (f_vi (f_nth ar 1)) M (fun r M => R (some (.inl r)) M))
theorem TX12_came {sh : Nat → Nat × Nat} {t : Nat} : f_Mt sh t YX12_came 15 (wX12_came) :=
  f_Mt_of (k := 0) (Nat.le_of_ble_eq_true rfl) rfl rfl (fun ar M R rm cs h1 h2 h3 hX h => PX12_came ⟨Nat.le_of_ble_eq_true rfl, h1, h2, h3, ⟨(f_Mt.up (Nat.le_of_ble_eq_true rfl) TX12_look), trivial⟩, hX⟩ h)
def VX12_put (Q : e_M → Prop) (x1 : Int) (x2 : Int) (x3 : Int) (x4 : Int) (M : e_M) : Prop :=
  ((0 ≤ (M 4456 109) ∧ (M 4456 109) < 1300) ∧ (∀ M1 : e_M, M1 = e_up M 4527 ((M 4456 109).toNat) x1 → ((0 ≤ (M1 4456 109) ∧ (M1 4456 109) < 1300) ∧ (∀ M2 : e_M, M2 = e_up M1 4528 ((M1 4456 109).toNat) x2 → ((0 ≤ (M2 4456 109) ∧ (M2 4456 109) < 1300) ∧ (∀ M3 : e_M, M3 = e_up M2 4529 ((M2 4456 109).toNat) x3 → ((0 ≤ (M3 4456 109) ∧ (M3 4456 109) < 1300) ∧ (∀ M4 : e_M, M4 = e_up M3 4530 ((M3 4456 109).toNat) x4 → (∀ M5 : e_M, M5 = e_up M4 4456 109 (e_w32 ((M4 4456 109) + 1)) → (Q M5))))))))))
def yX12_put (i : Nat) : e_Y := x_get YX12_put [] i
def pX12_putf : List x_I := [(0, 4, 1, 0, 0, 0, []), (1, 25, 12, 105, 4, 0, [(0, 20, 1300), (0, 1, 71)]), (4, 4, 1, 0, 0, 0, []), (5, 25, 12, 109, 0, 0, []), (8, 2, 1, 1, 0, 0, []), (9, 28, 0, 0, 0, 0, []), (10, 4, 1, 0, 0, 0, []), (11, 25, 12, 106, 4, 0, [(0, 20, 1300), (0, 1, 72)]), (14, 4, 1, 0, 0, 0, []), (15, 25, 12, 109, 0, 0, []), (18, 2, 1, 2, 0, 0, []), (19, 28, 0, 0, 0, 0, []), (20, 4, 1, 0, 0, 0, []), (21, 25, 12, 107, 4, 0, [(0, 20, 1300), (0, 1, 73)]), (24, 4, 1, 0, 0, 0, []), (25, 25, 12, 109, 0, 0, []), (28, 2, 1, 3, 0, 0, []), (29, 28, 0, 0, 0, 0, []), (30, 4, 1, 0, 0, 0, []), (31, 25, 12, 108, 4, 0, [(0, 23, 1300), (0, 1, 74)]), (34, 4, 1, 0, 0, 0, []), (35, 25, 12, 109, 0, 0, []), (38, 3, 2, 4, 0, 0, []), (40, 28, 0, 1, 0, 0, []), (41, 4, 1, 0, 0, 0, []), (42, 20, 0, 0, 0, 0, []), (43, 25, 12, 109, 0, 0, []), (46, 0, 1, 0, 0, 1, []), (47, 9, 0, 0, 0, 0, []), (48, 26, 12, 109, 0, 0, []), (51, 44, 0, 0, 0, 0, [])]
set_option maxRecDepth 20000 in
theorem qX12_putf : f_all yX12_put YX12_put pX12_putf :=
  ⟨f_aload_n (n := 0) (e_dx DX12_put_0 0 rfl) rfl,
  f_getA (e_dx DX12_put_0 1 rfl) fX12_233 rfl (by decide) (Nat.le_of_ble_eq_true rfl) rfl (by decide),
  f_aload_n (n := 0) (e_dx DX12_put_0 2 rfl) rfl,
  f_getf (e_dx DX12_put_0 3 rfl) fX12_808 rfl (by decide) (by decide) (by decide),
  f_iload_n (n := 1) (e_dx DX12_put_0 4 rfl) rfl,
  f_iastore (e_dx DX12_put_0 5 rfl),
  f_aload_n (n := 0) (e_dx DX12_put_0 6 rfl) rfl,
  f_getA (e_dx DX12_put_0 7 rfl) fX12_236 rfl (by decide) (Nat.le_of_ble_eq_true rfl) rfl (by decide),
  f_aload_n (n := 0) (e_dx DX12_put_0 8 rfl) rfl,
  f_getf (e_dx DX12_put_0 9 rfl) fX12_808 rfl (by decide) (by decide) (by decide),
  f_iload_n (n := 2) (e_dx DX12_put_0 10 rfl) rfl,
  f_iastore (e_dx DX12_put_0 11 rfl),
  f_aload_n (n := 0) (e_dx DX12_put_0 12 rfl) rfl,
  f_getA (e_dx DX12_put_0 13 rfl) fX12_239 rfl (by decide) (Nat.le_of_ble_eq_true rfl) rfl (by decide),
  f_aload_n (n := 0) (e_dx DX12_put_0 14 rfl) rfl,
  f_getf (e_dx DX12_put_0 15 rfl) fX12_808 rfl (by decide) (by decide) (by decide),
  f_iload_n (n := 3) (e_dx DX12_put_0 16 rfl) rfl,
  f_iastore (e_dx DX12_put_0 17 rfl),
  f_aload_n (n := 0) (e_dx DX12_put_0 18 rfl) rfl,
  f_getA (e_dx DX12_put_0 19 rfl) fX12_242 rfl (by decide) (Nat.le_of_ble_eq_true rfl) rfl (by decide),
  f_aload_n (n := 0) (e_dx DX12_put_0 20 rfl) rfl,
  f_getf (e_dx DX12_put_0 21 rfl) fX12_808 rfl (by decide) (by decide) (by decide),
  f_lload (e_dx DX12_put_0 22 rfl),
  f_lastore (e_dx DX12_put_0 23 rfl),
  f_aload_n (n := 0) (e_dx DX12_put_0 24 rfl) rfl,
  f_g20 (e_dx DX12_put_0 25 rfl),
  f_getf (e_dx DX12_put_0 26 rfl) fX12_808 rfl (by decide) (by decide) (by decide),
  f_iconst (e_dx DX12_put_0 27 rfl) ⟨by decide, by decide⟩,
  f_iadd (e_dx DX12_put_0 28 rfl),
  f_putn (e_dx DX12_put_0 29 rfl) fX12_808 (fun q hq => by cases hq; rfl) rfl (Or.inl rfl) (by decide),
  ⟨(e_dx DX12_put_0 30 rfl), rfl⟩, trivial⟩
def lX12_put : List (Nat × f_Wt) := []
set_option maxRecDepth 20000 in
theorem BX12_put {sh : Nat → Nat × Nat} {t : Nat} {rm : Nat × Nat × Nat} {cs : Nat × Nat} {R : f_Rt} {x1 : Int} {x2 : Int} {x3 : Int} {x4 : Int} {M : e_M} (C : f_Hy sh t yX12_put rm cs 4 (lX12_put) R) (h : VX12_put (fun M => R none M) x1 x2 x3 x4 M) : f_E sh t YX12_put rm cs (f_Q sh t R) 0 [.inr (.inr (.inl (12, 123, 4456))), .inl x1, .inl x2, .inl x3, .inr (.inl x4), .inr (.inr (.inr ()))] [] M :=
  f_go (KC := f_kc []) C qX12_putf f_kc_nil 33 0 h
def WX12_put (x1 : Int) (x2 : Int) (x3 : Int) (x4 : Int) (M : e_M) (Q : e_M → Prop) : Prop :=
  VX12_put Q x1 x2 x3 x4 M
theorem PX12_put {sh : Nat → Nat × Nat} {t : Nat} {rm : Nat × Nat × Nat} {cs : Nat × Nat} {R : f_Rt} {x1 : Int} {x2 : Int} {x3 : Int} {x4 : Int} {M : e_M} (C : f_Hy sh t yX12_put rm cs 4 (lX12_put) R) (h : WX12_put x1 x2 x3 x4 M (fun M => R none M)) : f_E sh t YX12_put rm cs (f_Q sh t R) 0 [.inr (.inr (.inl (12, 123, 4456))), .inl x1, .inl x2, .inl x3, .inr (.inl x4), .inr (.inr (.inr ()))] [] M :=
  BX12_put C h
def wX12_put : f_Wt := f_wm [(4466, 12, 123), (1, 0, 0), (1, 0, 0), (1, 0, 0), (2, 0, 0)] (fun ar M R => WX12_put (f_vi (f_nth ar 1)) (f_vi (f_nth ar 2)) (f_vi (f_nth ar 3)) (f_vi (f_nth ar 4)) M (fun M => R none M))
theorem TX12_put {sh : Nat → Nat × Nat} {t : Nat} : f_Mt sh t YX12_put 4 (wX12_put) :=
  f_Mt_of (k := 0) (Nat.le_of_ble_eq_true rfl) rfl rfl (fun ar M R rm cs h1 h2 h3 hX h => PX12_put ⟨Nat.le_of_ble_eq_true rfl, h1, h2, h3, trivial, hX⟩ h)
def VX12_opens_15 (c_X12_good : Int → e_M → (Int → e_M → Prop) → Prop) (Q : Int → e_M → Prop) (xs1 : Int) (M : e_M) : Prop :=
  (c_X12_good xs1 M (fun r1 M2 => ((¬ r1 = 0 → (∀ M3 : e_M, M3 = e_up M2 4456 111 (e_w32 ((M2 4456 111) + 1)) → (Q 1 M3))) ∧ (r1 = 0 → (Q 0 M2)))))
def VX12_opens (c_X12_good : Int → e_M → (Int → e_M → Prop) → Prop) (k15 : Int → e_M → Prop) (Q : Int → e_M → Prop) (M : e_M) : Prop :=
  ((¬ (M 4456 111) = 10 → (k15 0 M)) ∧ ((M 4456 111) = 10 → (k15 4 M)))
def yX12_opens (i : Nat) : e_Y := x_get YX12_opens [YX12_good] i
def pX12_opensf : List x_I := [(0, 4, 1, 0, 0, 0, []), (1, 4, 1, 0, 0, 0, []), (2, 25, 12, 111, 0, 0, []), (5, 0, 2, 0, 0, 10, []), (7, 18, 14, 1, 8, 0, []), (10, 0, 1, 0, 0, 4, []), (11, 19, 15, 0, 9, 0, []), (14, 0, 1, 0, 0, 0, []), (15, 49, 0, 0, 0, 0, []), (15, 40, 0, 2, 14, 0, []), (18, 17, 23, 1, 14, 0, []), (21, 0, 1, 0, 0, 0, []), (22, 48, 0, 0, 0, 0, []), (23, 4, 1, 0, 0, 0, []), (24, 20, 0, 0, 0, 0, []), (25, 25, 12, 111, 0, 0, []), (28, 0, 1, 0, 0, 1, []), (29, 9, 0, 0, 0, 0, []), (30, 26, 12, 111, 0, 0, []), (33, 0, 1, 0, 0, 1, []), (34, 48, 0, 0, 0, 0, [])]
set_option maxRecDepth 20000 in
theorem qX12_opensf : f_all yX12_opens YX12_opens pX12_opensf :=
  ⟨f_aload_n (n := 0) (e_dx DX12_opens_0 0 rfl) rfl,
  f_aload_n (n := 0) (e_dx DX12_opens_0 1 rfl) rfl,
  f_getf (e_dx DX12_opens_0 2 rfl) fX12_811 rfl (by decide) (by decide) (by decide),
  f_bipush (e_dx DX12_opens_0 3 rfl) ⟨by decide, by decide⟩,
  f_icmp_ne (e_dx DX12_opens_0 4 rfl) rfl,
  f_iconst (e_dx DX12_opens_0 5 rfl) ⟨by decide, by decide⟩,
  f_g19 (e_dx DX12_opens_0 6 rfl) rfl,
  f_iconst (e_dx DX12_opens_0 7 rfl) ⟨by decide, by decide⟩,
  trivial,
  x_callV (e_dx DX12_opens_0 8 rfl) mwX12_good vwX12_good cX12_351 rfl,
  f_if_ne (e_dx DX12_opens_0 9 rfl) rfl,
  f_iconst (e_dx DX12_opens_0 10 rfl) ⟨by decide, by decide⟩,
  ⟨(e_dx DX12_opens_0 11 rfl), rfl⟩,
  f_aload_n (n := 0) (e_dx DX12_opens_0 12 rfl) rfl,
  f_g20 (e_dx DX12_opens_0 13 rfl),
  f_getf (e_dx DX12_opens_0 14 rfl) fX12_811 rfl (by decide) (by decide) (by decide),
  f_iconst (e_dx DX12_opens_0 15 rfl) ⟨by decide, by decide⟩,
  f_iadd (e_dx DX12_opens_0 16 rfl),
  f_putn (e_dx DX12_opens_0 17 rfl) fX12_811 (fun q hq => by cases hq; rfl) rfl (Or.inl rfl) (by decide),
  f_iconst (e_dx DX12_opens_0 18 rfl) ⟨by decide, by decide⟩,
  ⟨(e_dx DX12_opens_0 19 rfl), rfl⟩, trivial⟩
def lX12_opens (c_X12_good : Int → e_M → (Int → e_M → Prop) → Prop) : List (Nat × f_Wt) := [(0, f_wm [(4466, 12, 123), (1, 0, 0)] (fun ar M R => c_X12_good (f_vi (f_nth ar 1)) M (fun r M => R (some (.inl r)) M)))]
set_option maxRecDepth 20000 in
theorem BX12_opens_15 {sh : Nat → Nat × Nat} {t : Nat} {rm : Nat × Nat × Nat} {cs : Nat × Nat} {R : f_Rt} {c_X12_good : Int → e_M → (Int → e_M → Prop) → Prop} {xs1 : Int} {M : e_M} (C : f_Hy sh t yX12_opens rm cs 9 (lX12_opens c_X12_good) R) (h : VX12_opens_15 c_X12_good (fun r M => R (some (.inl r)) M) xs1 M) : f_E sh t YX12_opens rm cs (f_Q sh t R) 15 [.inr (.inr (.inl (12, 123, 4456)))] [.inl xs1, .inr (.inr (.inl (12, 123, 4456)))] M :=
  f_go (KC := f_kc []) C qX12_opensf f_kc_nil 23 9 h
set_option maxRecDepth 20000 in
theorem BX12_opens {sh : Nat → Nat × Nat} {t : Nat} {rm : Nat × Nat × Nat} {cs : Nat × Nat} {R : f_Rt} {c_X12_good : Int → e_M → (Int → e_M → Prop) → Prop} {k15 : Int → e_M → Prop} {M : e_M} (C : f_Hy sh t yX12_opens rm cs 9 (lX12_opens c_X12_good) R) (h15 : ∀ (xs1 : Int) (M : e_M), k15 xs1 M → f_E sh t YX12_opens rm cs (f_Q sh t R) 15 [.inr (.inr (.inl (12, 123, 4456)))] [.inl xs1, .inr (.inr (.inl (12, 123, 4456)))] M) (h : VX12_opens c_X12_good k15 (fun r M => R (some (.inl r)) M) M) : f_E sh t YX12_opens rm cs (f_Q sh t R) 0 [.inr (.inr (.inl (12, 123, 4456)))] [] M :=
  f_go (KC := f_kc [(15, f_pl [(4466, 12, 123)] [(1, 0, 0), (4466, 12, 123)] (fun ls st M => k15 (f_vi (f_nth st 0)) M))]) C qX12_opensf (f_kc_cons (f_pl_ok rfl (fun ls st M h => h15 _ M h)) f_kc_nil) 23 0 h
def WX12_opens_15 (Q : Int → e_M → Prop) (xs1 : Int) (M : e_M) : Prop :=
  VX12_opens_15 WX12_good Q xs1 M
def WX12_opens (M : e_M) (Q : Int → e_M → Prop) : Prop :=
  VX12_opens WX12_good (WX12_opens_15 Q) Q M
theorem PX12_opens_15 {sh : Nat → Nat × Nat} {t : Nat} {rm : Nat × Nat × Nat} {cs : Nat × Nat} {R : f_Rt} {xs1 : Int} {M : e_M} (C : f_Hy sh t yX12_opens rm cs 9 (lX12_opens WX12_good) R) (h : WX12_opens_15 (fun r M => R (some (.inl r)) M) xs1 M) : f_E sh t YX12_opens rm cs (f_Q sh t R) 15 [.inr (.inr (.inl (12, 123, 4456)))] [.inl xs1, .inr (.inr (.inl (12, 123, 4456)))] M :=
  BX12_opens_15 C h
theorem PX12_opens {sh : Nat → Nat × Nat} {t : Nat} {rm : Nat × Nat × Nat} {cs : Nat × Nat} {R : f_Rt} {M : e_M} (C : f_Hy sh t yX12_opens rm cs 9 (lX12_opens WX12_good) R) (h : WX12_opens M (fun r M => R (some (.inl r)) M)) : f_E sh t YX12_opens rm cs (f_Q sh t R) 0 [.inr (.inr (.inl (12, 123, 4456)))] [] M :=
  BX12_opens C (fun xs1 M h => PX12_opens_15 C h) h
def wX12_opens : f_Wt := f_wm [(4466, 12, 123)] (fun ar M R => WX12_opens M (fun r M => R (some (.inl r)) M))
theorem TX12_opens {sh : Nat → Nat × Nat} {t : Nat} : f_Mt sh t YX12_opens 9 (wX12_opens) :=
  f_Mt_of (k := 0) (Nat.le_of_ble_eq_true rfl) rfl rfl (fun ar M R rm cs h1 h2 h3 hX h => PX12_opens ⟨Nat.le_of_ble_eq_true rfl, h1, h2, h3, ⟨(f_Mt.up (Nat.le_of_ble_eq_true rfl) TX12_good), trivial⟩, hX⟩ h)
def VX12_factor_98 (c_X12_put : Int → Int → Int → Int → e_M → (e_M → Prop) → Prop) (c_X12_good : Int → e_M → (Int → e_M → Prop) → Prop) (c_X12_isSign : Int → e_M → (Int → Prop) → Prop) (c_X12_opens : e_M → (Int → e_M → Prop) → Prop) (c_X12_value : e_M → (Int → e_M → Prop) → Prop) (c_X12_mustSign : Int → e_M → (Int → e_M → Prop) → Prop) (c_X12_wrong : Int → e_M → (Int → e_M → Prop) → Prop) (k124 : e_M → Prop) (k107 : e_M → Prop) (Q : Int → e_M → Prop) (M : e_M) : Prop :=
  ((¬ (M 4456 10) = 46 → (k124 M)) ∧ ((M 4456 10) = 46 → (k107 M)))
def VX12_factor_107 (c_X12_put : Int → Int → Int → Int → e_M → (e_M → Prop) → Prop) (c_X12_good : Int → e_M → (Int → e_M → Prop) → Prop) (c_X12_isSign : Int → e_M → (Int → Prop) → Prop) (c_X12_opens : e_M → (Int → e_M → Prop) → Prop) (c_X12_value : e_M → (Int → e_M → Prop) → Prop) (c_X12_mustSign : Int → e_M → (Int → e_M → Prop) → Prop) (c_X12_wrong : Int → e_M → (Int → e_M → Prop) → Prop) (Q : Int → e_M → Prop) (M : e_M) : Prop :=
  (c_X12_put 1 (M 4456 10) 0 0 M (fun M1 => (c_X12_good 0 M1 (fun r2 M3 => ((r2 = 0 ∨ r2 = 1) ∧ Q r2 M3)))))
def VX12_factor_124 (c_X12_put : Int → Int → Int → Int → e_M → (e_M → Prop) → Prop) (c_X12_good : Int → e_M → (Int → e_M → Prop) → Prop) (c_X12_isSign : Int → e_M → (Int → Prop) → Prop) (c_X12_opens : e_M → (Int → e_M → Prop) → Prop) (c_X12_value : e_M → (Int → e_M → Prop) → Prop) (c_X12_mustSign : Int → e_M → (Int → e_M → Prop) → Prop) (c_X12_wrong : Int → e_M → (Int → e_M → Prop) → Prop) (Q : Int → e_M → Prop) (M : e_M) : Prop :=
  (c_X12_wrong 1 M (fun r1 M2 => ((r1 = 0 ∨ r1 = 1) ∧ Q r1 M2)))
def VX12_factor (c_X12_put : Int → Int → Int → Int → e_M → (e_M → Prop) → Prop) (c_X12_good : Int → e_M → (Int → e_M → Prop) → Prop) (c_X12_isSign : Int → e_M → (Int → Prop) → Prop) (c_X12_opens : e_M → (Int → e_M → Prop) → Prop) (c_X12_value : e_M → (Int → e_M → Prop) → Prop) (c_X12_mustSign : Int → e_M → (Int → e_M → Prop) → Prop) (c_X12_wrong : Int → e_M → (Int → e_M → Prop) → Prop) (k124 : e_M → Prop) (k98 : e_M → Prop) (k107 : e_M → Prop) (Q : Int → e_M → Prop) (M : e_M) : Prop :=
  ((¬ (M 4456 7) = 2 → (c_X12_isSign 40 M (fun r1 => ((r1 = 0 → ((¬ (M 4456 7) = 3 → (k124 M)) ∧ ((M 4456 7) = 3 → (((M 4456 10) < 62 → (k98 M)) ∧ (62 ≤ (M 4456 10) → (((M 4456 10) ≤ 70 → (k107 M)) ∧ (70 < (M 4456 10) → (k98 M)))))))) ∧ (¬ r1 = 0 → (c_X12_opens M (fun r2 M3 => ((r2 = 0 → (Q 0 M3)) ∧ (¬ r2 = 0 → (c_X12_value M3 (fun r4 M5 => ((r4 = 0 → (Q 0 M5)) ∧ (¬ r4 = 0 → (c_X12_mustSign 41 M5 (fun r6 M7 => ((¬ r6 = 0 → (∀ M8 : e_M, M8 = e_up M7 4456 111 (e_w32 ((M7 4456 111) - 1)) → (Q 1 M8))) ∧ (r6 = 0 → (Q 0 M7)))))))))))))))))) ∧ ((M 4456 7) = 2 → (c_X12_put 0 0 0 (M 4456 9) M (fun M9 => (c_X12_good 0 M9 (fun r10 M11 => ((r10 = 0 ∨ r10 = 1) ∧ Q r10 M11)))))))
def yX12_factor (i : Nat) : e_Y := x_get YX12_factor [YX12_put, YX12_good, YX12_isSign, YX12_opens, YX12_value, YX12_mustSign, YX12_wrong] i
def pX12_factorf : List x_I := [(0, 4, 1, 0, 0, 0, []), (1, 25, 12, 7, 0, 0, []), (4, 0, 1, 0, 0, 2, []), (5, 18, 26, 1, 17, 0, []), (8, 4, 1, 0, 0, 0, []), (9, 0, 1, 0, 0, 0, []), (10, 0, 1, 0, 0, 0, []), (11, 0, 1, 0, 0, 0, []), (12, 4, 1, 0, 0, 0, []), (13, 25, 12, 9, 0, 0, []), (16, 14, 0, 0, 0, 0, []), (17, 40, 0, 5, 14, 0, []), (20, 4, 1, 0, 0, 0, []), (21, 0, 1, 0, 0, 0, []), (22, 40, 1, 2, 14, 0, []), (25, 42, 0, 0, 0, 0, []), (26, 4, 1, 0, 0, 0, []), (27, 0, 2, 0, 0, 40, []), (29, 40, 2, 2, 14, 0, []), (32, 17, 72, 0, 41, 0, []), (35, 4, 1, 0, 0, 0, []), (36, 40, 3, 1, 14, 0, []), (39, 17, 58, 0, 31, 0, []), (42, 4, 1, 0, 0, 0, []), (43, 40, 4, 1, 14, 0, []), (46, 17, 58, 0, 31, 0, []), (49, 4, 1, 0, 0, 0, []), (50, 0, 2, 0, 0, 41, []), (52, 40, 5, 2, 14, 0, []), (55, 17, 60, 1, 33, 0, []), (58, 0, 1, 0, 0, 0, []), (59, 48, 0, 0, 0, 0, []), (60, 4, 1, 0, 0, 0, []), (61, 20, 0, 0, 0, 0, []), (62, 25, 12, 111, 0, 0, []), (65, 0, 1, 0, 0, 1, []), (66, 9, 0, 1, 0, 0, []), (67, 26, 12, 111, 0, 0, []), (70, 0, 1, 0, 0, 1, []), (71, 48, 0, 0, 0, 0, []), (72, 4, 1, 0, 0, 0, []), (73, 25, 12, 7, 0, 0, []), (76, 0, 1, 0, 0, 3, []), (77, 18, 124, 1, 70, 0, []), (80, 4, 1, 0, 0, 0, []), (81, 25, 12, 10, 0, 0, []), (84, 0, 2, 0, 0, 62, []), (86, 18, 98, 2, 53, 0, []), (89, 4, 1, 0, 0, 0, []), (90, 25, 12, 10, 0, 0, []), (93, 0, 2, 0, 0, 70, []), (95, 18, 107, 5, 58, 0, []), (98, 49, 0, 0, 0, 0, []), (98, 4, 1, 0, 0, 0, []), (99, 25, 12, 10, 0, 0, []), (102, 0, 2, 0, 0, 46, []), (104, 18, 124, 1, 70, 0, []), (107, 49, 0, 0, 0, 0, []), (107, 4, 1, 0, 0, 0, []), (108, 0, 1, 0, 0, 1, []), (109, 4, 1, 0, 0, 0, []), (110, 25, 12, 10, 0, 0, []), (113, 0, 1, 0, 0, 0, []), (114, 1, 1, 0, 0, 0, []), (115, 40, 0, 5, 14, 0, []), (118, 4, 1, 0, 0, 0, []), (119, 0, 1, 0, 0, 0, []), (120, 40, 1, 2, 14, 0, []), (123, 42, 0, 0, 0, 0, []), (124, 49, 0, 0, 0, 0, []), (124, 4, 1, 0, 0, 0, []), (125, 0, 1, 0, 0, 1, []), (126, 40, 6, 2, 14, 0, []), (129, 42, 0, 0, 0, 0, [])]
set_option maxRecDepth 20000 in
theorem qX12_factorf : f_all yX12_factor YX12_factor pX12_factorf :=
  ⟨f_aload_n (n := 0) (e_dx DX12_factor_0 0 rfl) rfl,
  f_getf (e_dx DX12_factor_0 1 rfl) fX12_309 rfl (by decide) (by decide) (by decide),
  f_iconst (e_dx DX12_factor_0 2 rfl) ⟨by decide, by decide⟩,
  f_icmp_ne (e_dx DX12_factor_0 3 rfl) rfl,
  f_aload_n (n := 0) (e_dx DX12_factor_0 4 rfl) rfl,
  f_iconst (e_dx DX12_factor_0 5 rfl) ⟨by decide, by decide⟩,
  f_iconst (e_dx DX12_factor_0 6 rfl) ⟨by decide, by decide⟩,
  f_iconst (e_dx DX12_factor_0 7 rfl) ⟨by decide, by decide⟩,
  f_aload_n (n := 0) (e_dx DX12_factor_0 8 rfl) rfl,
  f_getf (e_dx DX12_factor_0 9 rfl) fX12_321 rfl (by decide) (by decide) (by decide),
  f_g14 (e_dx DX12_factor_0 10 rfl),
  x_callV (e_dx DX12_factor_0 11 rfl) mwX12_put vwX12_put cX12_814 rfl,
  f_aload_n (n := 0) (e_dx DX12_factor_0 12 rfl) rfl,
  f_iconst (e_dx DX12_factor_0 13 rfl) ⟨by decide, by decide⟩,
  x_callV (e_dx DX12_factor_0 14 rfl) mwX12_good vwX12_good cX12_351 rfl,
  ⟨(e_dx DX12_factor_0 15 rfl), rfl⟩,
  f_aload_n (n := 0) (e_dx DX12_factor_0 16 rfl) rfl,
  f_bipush (e_dx DX12_factor_0 17 rfl) ⟨by decide, by decide⟩,
  x_callV (e_dx DX12_factor_0 18 rfl) mwX12_isSign vwX12_isSign cX12_354 rfl,
  f_if_eq (e_dx DX12_factor_0 19 rfl) rfl,
  f_aload_n (n := 0) (e_dx DX12_factor_0 20 rfl) rfl,
  x_callV (e_dx DX12_factor_0 21 rfl) mwX12_opens vwX12_opens cX12_818 rfl,
  f_if_eq (e_dx DX12_factor_0 22 rfl) rfl,
  f_aload_n (n := 0) (e_dx DX12_factor_0 23 rfl) rfl,
  x_callV (e_dx DX12_factor_0 24 rfl) mwX12_value vwX12_value cX12_821 rfl,
  f_if_eq (e_dx DX12_factor_0 25 rfl) rfl,
  f_aload_n (n := 0) (e_dx DX12_factor_0 26 rfl) rfl,
  f_bipush (e_dx DX12_factor_0 27 rfl) ⟨by decide, by decide⟩,
  x_callV (e_dx DX12_factor_0 28 rfl) mwX12_mustSign vwX12_mustSign cX12_369 rfl,
  f_if_ne (e_dx DX12_factor_0 29 rfl) rfl,
  f_iconst (e_dx DX12_factor_0 30 rfl) ⟨by decide, by decide⟩,
  ⟨(e_dx DX12_factor_0 31 rfl), rfl⟩,
  f_aload_n (n := 0) (e_dx DX12_factor_0 32 rfl) rfl,
  f_g20 (e_dx DX12_factor_0 33 rfl),
  f_getf (e_dx DX12_factor_0 34 rfl) fX12_811 rfl (by decide) (by decide) (by decide),
  f_iconst (e_dx DX12_factor_0 35 rfl) ⟨by decide, by decide⟩,
  f_isub (e_dx DX12_factor_0 36 rfl),
  f_putn (e_dx DX12_factor_0 37 rfl) fX12_811 (fun q hq => by cases hq; rfl) rfl (Or.inl rfl) (by decide),
  f_iconst (e_dx DX12_factor_0 38 rfl) ⟨by decide, by decide⟩,
  ⟨(e_dx DX12_factor_0 39 rfl), rfl⟩,
  f_aload_n (n := 0) (e_dx DX12_factor_1 0 rfl) rfl,
  f_getf (e_dx DX12_factor_1 1 rfl) fX12_309 rfl (by decide) (by decide) (by decide),
  f_iconst (e_dx DX12_factor_1 2 rfl) ⟨by decide, by decide⟩,
  f_icmp_ne (e_dx DX12_factor_1 3 rfl) rfl,
  f_aload_n (n := 0) (e_dx DX12_factor_1 4 rfl) rfl,
  f_getf (e_dx DX12_factor_1 5 rfl) fX12_306 rfl (by decide) (by decide) (by decide),
  f_bipush (e_dx DX12_factor_1 6 rfl) ⟨by decide, by decide⟩,
  f_icmp_lt (e_dx DX12_factor_1 7 rfl) rfl,
  f_aload_n (n := 0) (e_dx DX12_factor_1 8 rfl) rfl,
  f_getf (e_dx DX12_factor_1 9 rfl) fX12_306 rfl (by decide) (by decide) (by decide),
  f_bipush (e_dx DX12_factor_1 10 rfl) ⟨by decide, by decide⟩,
  f_icmp_le (e_dx DX12_factor_1 11 rfl) rfl,
  trivial,
  f_aload_n (n := 0) (e_dx DX12_factor_1 12 rfl) rfl,
  f_getf (e_dx DX12_factor_1 13 rfl) fX12_306 rfl (by decide) (by decide) (by decide),
  f_bipush (e_dx DX12_factor_1 14 rfl) ⟨by decide, by decide⟩,
  f_icmp_ne (e_dx DX12_factor_1 15 rfl) rfl,
  trivial,
  f_aload_n (n := 0) (e_dx DX12_factor_1 16 rfl) rfl,
  f_iconst (e_dx DX12_factor_1 17 rfl) ⟨by decide, by decide⟩,
  f_aload_n (n := 0) (e_dx DX12_factor_1 18 rfl) rfl,
  f_getf (e_dx DX12_factor_1 19 rfl) fX12_306 rfl (by decide) (by decide) (by decide),
  f_iconst (e_dx DX12_factor_1 20 rfl) ⟨by decide, by decide⟩,
  f_lconst (n := 0) (e_dx DX12_factor_1 21 rfl) rfl,
  x_callV (e_dx DX12_factor_1 22 rfl) mwX12_put vwX12_put cX12_814 rfl,
  f_aload_n (n := 0) (e_dx DX12_factor_1 23 rfl) rfl,
  f_iconst (e_dx DX12_factor_1 24 rfl) ⟨by decide, by decide⟩,
  x_callV (e_dx DX12_factor_1 25 rfl) mwX12_good vwX12_good cX12_351 rfl,
  ⟨(e_dx DX12_factor_1 26 rfl), rfl⟩,
  trivial,
  f_aload_n (n := 0) (e_dx DX12_factor_1 27 rfl) rfl,
  f_iconst (e_dx DX12_factor_1 28 rfl) ⟨by decide, by decide⟩,
  x_callV (e_dx DX12_factor_1 29 rfl) mwX12_wrong vwX12_wrong cX12_342 rfl,
  ⟨(e_dx DX12_factor_1 30 rfl), rfl⟩, trivial⟩
def lX12_factor (c_X12_put : Int → Int → Int → Int → e_M → (e_M → Prop) → Prop) (c_X12_good : Int → e_M → (Int → e_M → Prop) → Prop) (c_X12_isSign : Int → e_M → (Int → Prop) → Prop) (c_X12_opens : e_M → (Int → e_M → Prop) → Prop) (c_X12_value : e_M → (Int → e_M → Prop) → Prop) (c_X12_mustSign : Int → e_M → (Int → e_M → Prop) → Prop) (c_X12_wrong : Int → e_M → (Int → e_M → Prop) → Prop) : List (Nat × f_Wt) := [(0, f_wm [(4466, 12, 123), (1, 0, 0), (1, 0, 0), (1, 0, 0), (2, 0, 0)] (fun ar M R => c_X12_put (f_vi (f_nth ar 1)) (f_vi (f_nth ar 2)) (f_vi (f_nth ar 3)) (f_vi (f_nth ar 4)) M (fun M => R none M))), (1, f_wm [(4466, 12, 123), (1, 0, 0)] (fun ar M R => c_X12_good (f_vi (f_nth ar 1)) M (fun r M => R (some (.inl r)) M))), (2, f_wm [(4466, 12, 123), (1, 0, 0)] (fun ar M R => c_X12_isSign (f_vi (f_nth ar 1)) M (fun r => R (some (.inl r)) M))), (3, f_wm [(4466, 12, 123)] (fun ar M R => c_X12_opens  M (fun r M => R (some (.inl r)) M))), (4, f_wm [(4466, 12, 123)] (fun ar M R => c_X12_value  M (fun r M => R (some (.inl r)) M))), (5, f_wm [(4466, 12, 123), (1, 0, 0)] (fun ar M R => c_X12_mustSign (f_vi (f_nth ar 1)) M (fun r M => R (some (.inl r)) M))), (6, f_wm [(4466, 12, 123), (1, 0, 0)] (fun ar M R => c_X12_wrong (f_vi (f_nth ar 1)) M (fun r M => R (some (.inl r)) M)))]
set_option maxRecDepth 20000 in
theorem BX12_factor_98 {sh : Nat → Nat × Nat} {t : Nat} {rm : Nat × Nat × Nat} {cs : Nat × Nat} {R : f_Rt} {D : Nat} {c_X12_put : Int → Int → Int → Int → e_M → (e_M → Prop) → Prop} {c_X12_good : Int → e_M → (Int → e_M → Prop) → Prop} {c_X12_isSign : Int → e_M → (Int → Prop) → Prop} {c_X12_opens : e_M → (Int → e_M → Prop) → Prop} {c_X12_value : e_M → (Int → e_M → Prop) → Prop} {c_X12_mustSign : Int → e_M → (Int → e_M → Prop) → Prop} {c_X12_wrong : Int → e_M → (Int → e_M → Prop) → Prop} {k124 : e_M → Prop} {k107 : e_M → Prop} {M : e_M} (C : f_Hy sh t yX12_factor rm cs D (lX12_factor c_X12_put c_X12_good c_X12_isSign c_X12_opens c_X12_value c_X12_mustSign c_X12_wrong) R) (h124 : ∀ (M : e_M), k124 M → f_E sh t YX12_factor rm cs (f_Q sh t R) 124 [.inr (.inr (.inl (12, 123, 4456)))] [] M) (h107 : ∀ (M : e_M), k107 M → f_E sh t YX12_factor rm cs (f_Q sh t R) 107 [.inr (.inr (.inl (12, 123, 4456)))] [] M) (h : VX12_factor_98 c_X12_put c_X12_good c_X12_isSign c_X12_opens c_X12_value c_X12_mustSign c_X12_wrong k124 k107 (fun r M => R (some (.inl r)) M) M) : f_E sh t YX12_factor rm cs (f_Q sh t R) 98 [.inr (.inr (.inl (12, 123, 4456)))] [] M :=
  f_go (KC := f_kc [(124, f_pl [(4466, 12, 123)] [] (fun ls st M => k124 M)), (107, f_pl [(4466, 12, 123)] [] (fun ls st M => k107 M))]) C qX12_factorf (f_kc_cons (f_pl_ok rfl (fun ls st M h => h124  M h)) (f_kc_cons (f_pl_ok rfl (fun ls st M h => h107  M h)) f_kc_nil)) 76 53 h
set_option maxRecDepth 20000 in
theorem BX12_factor_107 {sh : Nat → Nat × Nat} {t : Nat} {rm : Nat × Nat × Nat} {cs : Nat × Nat} {R : f_Rt} {D : Nat} {c_X12_put : Int → Int → Int → Int → e_M → (e_M → Prop) → Prop} {c_X12_good : Int → e_M → (Int → e_M → Prop) → Prop} {c_X12_isSign : Int → e_M → (Int → Prop) → Prop} {c_X12_opens : e_M → (Int → e_M → Prop) → Prop} {c_X12_value : e_M → (Int → e_M → Prop) → Prop} {c_X12_mustSign : Int → e_M → (Int → e_M → Prop) → Prop} {c_X12_wrong : Int → e_M → (Int → e_M → Prop) → Prop} {M : e_M} (C : f_Hy sh t yX12_factor rm cs D (lX12_factor c_X12_put c_X12_good c_X12_isSign c_X12_opens c_X12_value c_X12_mustSign c_X12_wrong) R) (h : VX12_factor_107 c_X12_put c_X12_good c_X12_isSign c_X12_opens c_X12_value c_X12_mustSign c_X12_wrong (fun r M => R (some (.inl r)) M) M) : f_E sh t YX12_factor rm cs (f_Q sh t R) 107 [.inr (.inr (.inl (12, 123, 4456)))] [] M :=
  f_go (KC := f_kc []) C qX12_factorf f_kc_nil 76 58 h
set_option maxRecDepth 20000 in
theorem BX12_factor_124 {sh : Nat → Nat × Nat} {t : Nat} {rm : Nat × Nat × Nat} {cs : Nat × Nat} {R : f_Rt} {D : Nat} {c_X12_put : Int → Int → Int → Int → e_M → (e_M → Prop) → Prop} {c_X12_good : Int → e_M → (Int → e_M → Prop) → Prop} {c_X12_isSign : Int → e_M → (Int → Prop) → Prop} {c_X12_opens : e_M → (Int → e_M → Prop) → Prop} {c_X12_value : e_M → (Int → e_M → Prop) → Prop} {c_X12_mustSign : Int → e_M → (Int → e_M → Prop) → Prop} {c_X12_wrong : Int → e_M → (Int → e_M → Prop) → Prop} {M : e_M} (C : f_Hy sh t yX12_factor rm cs D (lX12_factor c_X12_put c_X12_good c_X12_isSign c_X12_opens c_X12_value c_X12_mustSign c_X12_wrong) R) (h : VX12_factor_124 c_X12_put c_X12_good c_X12_isSign c_X12_opens c_X12_value c_X12_mustSign c_X12_wrong (fun r M => R (some (.inl r)) M) M) : f_E sh t YX12_factor rm cs (f_Q sh t R) 124 [.inr (.inr (.inl (12, 123, 4456)))] [] M :=
  f_go (KC := f_kc []) C qX12_factorf f_kc_nil 76 70 h
set_option maxRecDepth 20000 in
theorem BX12_factor {sh : Nat → Nat × Nat} {t : Nat} {rm : Nat × Nat × Nat} {cs : Nat × Nat} {R : f_Rt} {D : Nat} {c_X12_put : Int → Int → Int → Int → e_M → (e_M → Prop) → Prop} {c_X12_good : Int → e_M → (Int → e_M → Prop) → Prop} {c_X12_isSign : Int → e_M → (Int → Prop) → Prop} {c_X12_opens : e_M → (Int → e_M → Prop) → Prop} {c_X12_value : e_M → (Int → e_M → Prop) → Prop} {c_X12_mustSign : Int → e_M → (Int → e_M → Prop) → Prop} {c_X12_wrong : Int → e_M → (Int → e_M → Prop) → Prop} {k124 : e_M → Prop} {k98 : e_M → Prop} {k107 : e_M → Prop} {M : e_M} (C : f_Hy sh t yX12_factor rm cs D (lX12_factor c_X12_put c_X12_good c_X12_isSign c_X12_opens c_X12_value c_X12_mustSign c_X12_wrong) R) (h124 : ∀ (M : e_M), k124 M → f_E sh t YX12_factor rm cs (f_Q sh t R) 124 [.inr (.inr (.inl (12, 123, 4456)))] [] M) (h98 : ∀ (M : e_M), k98 M → f_E sh t YX12_factor rm cs (f_Q sh t R) 98 [.inr (.inr (.inl (12, 123, 4456)))] [] M) (h107 : ∀ (M : e_M), k107 M → f_E sh t YX12_factor rm cs (f_Q sh t R) 107 [.inr (.inr (.inl (12, 123, 4456)))] [] M) (h : VX12_factor c_X12_put c_X12_good c_X12_isSign c_X12_opens c_X12_value c_X12_mustSign c_X12_wrong k124 k98 k107 (fun r M => R (some (.inl r)) M) M) : f_E sh t YX12_factor rm cs (f_Q sh t R) 0 [.inr (.inr (.inl (12, 123, 4456)))] [] M :=
  f_go (KC := f_kc [(124, f_pl [(4466, 12, 123)] [] (fun ls st M => k124 M)), (98, f_pl [(4466, 12, 123)] [] (fun ls st M => k98 M)), (107, f_pl [(4466, 12, 123)] [] (fun ls st M => k107 M))]) C qX12_factorf (f_kc_cons (f_pl_ok rfl (fun ls st M h => h124  M h)) (f_kc_cons (f_pl_ok rfl (fun ls st M h => h98  M h)) (f_kc_cons (f_pl_ok rfl (fun ls st M h => h107  M h)) f_kc_nil))) 76 0 h
def WX12_factor_124 (c_X12_value : e_M → (Int → e_M → Prop) → Prop) (Q : Int → e_M → Prop) (M : e_M) : Prop :=
  VX12_factor_124 WX12_put WX12_good WX12_isSign WX12_opens c_X12_value WX12_mustSign WX12_wrong Q M
def WX12_factor_107 (c_X12_value : e_M → (Int → e_M → Prop) → Prop) (Q : Int → e_M → Prop) (M : e_M) : Prop :=
  VX12_factor_107 WX12_put WX12_good WX12_isSign WX12_opens c_X12_value WX12_mustSign WX12_wrong Q M
def WX12_factor_98 (c_X12_value : e_M → (Int → e_M → Prop) → Prop) (Q : Int → e_M → Prop) (M : e_M) : Prop :=
  VX12_factor_98 WX12_put WX12_good WX12_isSign WX12_opens c_X12_value WX12_mustSign WX12_wrong (WX12_factor_124 c_X12_value Q) (WX12_factor_107 c_X12_value Q) Q M
def WX12_factor (c_X12_value : e_M → (Int → e_M → Prop) → Prop) (M : e_M) (Q : Int → e_M → Prop) : Prop :=
  VX12_factor WX12_put WX12_good WX12_isSign WX12_opens c_X12_value WX12_mustSign WX12_wrong (WX12_factor_124 c_X12_value Q) (WX12_factor_98 c_X12_value Q) (WX12_factor_107 c_X12_value Q) Q M
theorem PX12_factor_124 {sh : Nat → Nat × Nat} {t : Nat} {rm : Nat × Nat × Nat} {cs : Nat × Nat} {R : f_Rt} {D : Nat} {c_X12_value : e_M → (Int → e_M → Prop) → Prop} {M : e_M} (C : f_Hy sh t yX12_factor rm cs D (lX12_factor WX12_put WX12_good WX12_isSign WX12_opens c_X12_value WX12_mustSign WX12_wrong) R) (h : WX12_factor_124 c_X12_value (fun r M => R (some (.inl r)) M) M) : f_E sh t YX12_factor rm cs (f_Q sh t R) 124 [.inr (.inr (.inl (12, 123, 4456)))] [] M :=
  BX12_factor_124 C h
theorem PX12_factor_107 {sh : Nat → Nat × Nat} {t : Nat} {rm : Nat × Nat × Nat} {cs : Nat × Nat} {R : f_Rt} {D : Nat} {c_X12_value : e_M → (Int → e_M → Prop) → Prop} {M : e_M} (C : f_Hy sh t yX12_factor rm cs D (lX12_factor WX12_put WX12_good WX12_isSign WX12_opens c_X12_value WX12_mustSign WX12_wrong) R) (h : WX12_factor_107 c_X12_value (fun r M => R (some (.inl r)) M) M) : f_E sh t YX12_factor rm cs (f_Q sh t R) 107 [.inr (.inr (.inl (12, 123, 4456)))] [] M :=
  BX12_factor_107 C h
theorem PX12_factor_98 {sh : Nat → Nat × Nat} {t : Nat} {rm : Nat × Nat × Nat} {cs : Nat × Nat} {R : f_Rt} {D : Nat} {c_X12_value : e_M → (Int → e_M → Prop) → Prop} {M : e_M} (C : f_Hy sh t yX12_factor rm cs D (lX12_factor WX12_put WX12_good WX12_isSign WX12_opens c_X12_value WX12_mustSign WX12_wrong) R) (h : WX12_factor_98 c_X12_value (fun r M => R (some (.inl r)) M) M) : f_E sh t YX12_factor rm cs (f_Q sh t R) 98 [.inr (.inr (.inl (12, 123, 4456)))] [] M :=
  BX12_factor_98 C (fun M h => PX12_factor_124 C h) (fun M h => PX12_factor_107 C h) h
theorem PX12_factor {sh : Nat → Nat × Nat} {t : Nat} {rm : Nat × Nat × Nat} {cs : Nat × Nat} {R : f_Rt} {D : Nat} {c_X12_value : e_M → (Int → e_M → Prop) → Prop} {M : e_M} (C : f_Hy sh t yX12_factor rm cs D (lX12_factor WX12_put WX12_good WX12_isSign WX12_opens c_X12_value WX12_mustSign WX12_wrong) R) (h : WX12_factor c_X12_value M (fun r M => R (some (.inl r)) M)) : f_E sh t YX12_factor rm cs (f_Q sh t R) 0 [.inr (.inr (.inl (12, 123, 4456)))] [] M :=
  BX12_factor C (fun M h => PX12_factor_124 C h) (fun M h => PX12_factor_98 C h) (fun M h => PX12_factor_107 C h) h
def wX12_factor (c_X12_value : e_M → (Int → e_M → Prop) → Prop) : f_Wt := f_wm [(4466, 12, 123)] (fun ar M R => WX12_factor c_X12_value M (fun r M => R (some (.inl r)) M))
theorem TX12_factor {sh : Nat → Nat × Nat} {t : Nat} {c_X12_value : e_M → (Int → e_M → Prop) → Prop} {D : Nat} (hD : 11 ≤ D) (o0 : f_Mt sh t YX12_value (D - 1) (f_wm [(4466, 12, 123)] (fun ar M R => c_X12_value  M (fun r M => R (some (.inl r)) M)))) : f_Mt sh t YX12_factor D (wX12_factor c_X12_value) :=
  f_Mt_of (k := 0) (Nat.le_of_ble_eq_true rfl) rfl rfl (fun ar M R rm cs h1 h2 h3 hX h => PX12_factor ⟨by omega, h1, h2, h3, ⟨(f_Mt.up (by omega) TX12_put), (f_Mt.up (by omega) TX12_good), (f_Mt.up (by omega) TX12_isSign), (f_Mt.up (by omega) TX12_opens), (f_Mt.up (by omega) o0), (f_Mt.up (by omega) TX12_mustSign), (f_Mt.up (by omega) TX12_wrong), trivial⟩, hX⟩ h)
def VX12_term_9 (c_X12_factor : e_M → (Int → e_M → Prop) → Prop) (c_X12_isSign : Int → e_M → (Int → Prop) → Prop) (c_X12_good : Int → e_M → (Int → e_M → Prop) → Prop) (c_X12_put : Int → Int → Int → Int → e_M → (e_M → Prop) → Prop) (k9 : e_M → Prop) (Q : Int → e_M → Prop) (M : e_M) : Prop :=
  (c_X12_isSign 42 M (fun r1 => ((r1 = 0 → (Q 1 M)) ∧ (¬ r1 = 0 → (c_X12_good 0 M (fun r2 M3 => ((r2 = 0 → (Q 0 M3)) ∧ (¬ r2 = 0 → (c_X12_factor M3 (fun r4 M5 => ((¬ r4 = 0 → (c_X12_put 4 0 0 0 M5 (fun M6 => (k9 M6)))) ∧ (r4 = 0 → (Q 0 M5)))))))))))))
def VX12_term (c_X12_factor : e_M → (Int → e_M → Prop) → Prop) (c_X12_isSign : Int → e_M → (Int → Prop) → Prop) (c_X12_good : Int → e_M → (Int → e_M → Prop) → Prop) (c_X12_put : Int → Int → Int → Int → e_M → (e_M → Prop) → Prop) (k9 : e_M → Prop) (Q : Int → e_M → Prop) (M : e_M) : Prop :=
  (c_X12_factor M (fun r1 M2 => ((¬ r1 = 0 → (k9 M2)) ∧ (r1 = 0 → (Q 0 M2)))))
def yX12_term (i : Nat) : e_Y := x_get YX12_term [YX12_factor, YX12_isSign, YX12_good, YX12_put] i
def pX12_termf : List x_I := [(0, 4, 1, 0, 0, 0, []), (1, 40, 0, 1, 14, 0, []), (4, 17, 9, 1, 6, 0, []), (7, 0, 1, 0, 0, 0, []), (8, 48, 0, 0, 0, 0, []), (9, 49, 0, 0, 0, 0, []), (9, 4, 1, 0, 0, 0, []), (10, 0, 2, 0, 0, 42, []), (12, 40, 1, 2, 14, 0, []), (15, 17, 46, 0, 27, 0, []), (18, 4, 1, 0, 0, 0, []), (19, 0, 1, 0, 0, 0, []), (20, 40, 2, 2, 14, 0, []), (23, 17, 33, 0, 18, 0, []), (26, 4, 1, 0, 0, 0, []), (27, 40, 0, 1, 14, 0, []), (30, 17, 35, 1, 20, 0, []), (33, 0, 1, 0, 0, 0, []), (34, 48, 0, 0, 0, 0, []), (35, 4, 1, 0, 0, 0, []), (36, 0, 1, 0, 0, 4, []), (37, 0, 1, 0, 0, 0, []), (38, 0, 1, 0, 0, 0, []), (39, 1, 1, 0, 0, 0, []), (40, 40, 3, 5, 14, 0, []), (43, 19, 9, 0, 6, 0, []), (46, 0, 1, 0, 0, 1, []), (47, 48, 0, 0, 0, 0, [])]
set_option maxRecDepth 20000 in
theorem qX12_termf : f_all yX12_term YX12_term pX12_termf :=
  ⟨f_aload_n (n := 0) (e_dx DX12_term_0 0 rfl) rfl,
  x_callV (e_dx DX12_term_0 1 rfl) mwX12_factor vwX12_factor cX12_824 rfl,
  f_if_ne (e_dx DX12_term_0 2 rfl) rfl,
  f_iconst (e_dx DX12_term_0 3 rfl) ⟨by decide, by decide⟩,
  ⟨(e_dx DX12_term_0 4 rfl), rfl⟩,
  trivial,
  f_aload_n (n := 0) (e_dx DX12_term_0 5 rfl) rfl,
  f_bipush (e_dx DX12_term_0 6 rfl) ⟨by decide, by decide⟩,
  x_callV (e_dx DX12_term_0 7 rfl) mwX12_isSign vwX12_isSign cX12_354 rfl,
  f_if_eq (e_dx DX12_term_0 8 rfl) rfl,
  f_aload_n (n := 0) (e_dx DX12_term_0 9 rfl) rfl,
  f_iconst (e_dx DX12_term_0 10 rfl) ⟨by decide, by decide⟩,
  x_callV (e_dx DX12_term_0 11 rfl) mwX12_good vwX12_good cX12_351 rfl,
  f_if_eq (e_dx DX12_term_0 12 rfl) rfl,
  f_aload_n (n := 0) (e_dx DX12_term_0 13 rfl) rfl,
  x_callV (e_dx DX12_term_0 14 rfl) mwX12_factor vwX12_factor cX12_824 rfl,
  f_if_ne (e_dx DX12_term_0 15 rfl) rfl,
  f_iconst (e_dx DX12_term_0 16 rfl) ⟨by decide, by decide⟩,
  ⟨(e_dx DX12_term_0 17 rfl), rfl⟩,
  f_aload_n (n := 0) (e_dx DX12_term_0 18 rfl) rfl,
  f_iconst (e_dx DX12_term_0 19 rfl) ⟨by decide, by decide⟩,
  f_iconst (e_dx DX12_term_0 20 rfl) ⟨by decide, by decide⟩,
  f_iconst (e_dx DX12_term_0 21 rfl) ⟨by decide, by decide⟩,
  f_lconst (n := 0) (e_dx DX12_term_0 22 rfl) rfl,
  x_callV (e_dx DX12_term_0 23 rfl) mwX12_put vwX12_put cX12_814 rfl,
  f_g19 (e_dx DX12_term_0 24 rfl) rfl,
  f_iconst (e_dx DX12_term_0 25 rfl) ⟨by decide, by decide⟩,
  ⟨(e_dx DX12_term_0 26 rfl), rfl⟩, trivial⟩
def lX12_term (c_X12_factor : e_M → (Int → e_M → Prop) → Prop) (c_X12_isSign : Int → e_M → (Int → Prop) → Prop) (c_X12_good : Int → e_M → (Int → e_M → Prop) → Prop) (c_X12_put : Int → Int → Int → Int → e_M → (e_M → Prop) → Prop) : List (Nat × f_Wt) := [(0, f_wm [(4466, 12, 123)] (fun ar M R => c_X12_factor  M (fun r M => R (some (.inl r)) M))), (1, f_wm [(4466, 12, 123), (1, 0, 0)] (fun ar M R => c_X12_isSign (f_vi (f_nth ar 1)) M (fun r => R (some (.inl r)) M))), (2, f_wm [(4466, 12, 123), (1, 0, 0)] (fun ar M R => c_X12_good (f_vi (f_nth ar 1)) M (fun r M => R (some (.inl r)) M))), (3, f_wm [(4466, 12, 123), (1, 0, 0), (1, 0, 0), (1, 0, 0), (2, 0, 0)] (fun ar M R => c_X12_put (f_vi (f_nth ar 1)) (f_vi (f_nth ar 2)) (f_vi (f_nth ar 3)) (f_vi (f_nth ar 4)) M (fun M => R none M)))]
set_option maxRecDepth 20000 in
theorem BX12_term_9 {sh : Nat → Nat × Nat} {t : Nat} {rm : Nat × Nat × Nat} {cs : Nat × Nat} {R : f_Rt} {D : Nat} {c_X12_factor : e_M → (Int → e_M → Prop) → Prop} {c_X12_isSign : Int → e_M → (Int → Prop) → Prop} {c_X12_good : Int → e_M → (Int → e_M → Prop) → Prop} {c_X12_put : Int → Int → Int → Int → e_M → (e_M → Prop) → Prop} {k9 : e_M → Prop} {M : e_M} (C : f_Hy sh t yX12_term rm cs D (lX12_term c_X12_factor c_X12_isSign c_X12_good c_X12_put) R) (h9 : ∀ (M : e_M), k9 M → f_E sh t YX12_term rm cs (f_Q sh t R) 9 [.inr (.inr (.inl (12, 123, 4456)))] [] M) (h : VX12_term_9 c_X12_factor c_X12_isSign c_X12_good c_X12_put k9 (fun r M => R (some (.inl r)) M) M) : f_E sh t YX12_term rm cs (f_Q sh t R) 9 [.inr (.inr (.inl (12, 123, 4456)))] [] M :=
  f_go (KC := f_kc [(9, f_pl [(4466, 12, 123)] [] (fun ls st M => k9 M))]) C qX12_termf (f_kc_cons (f_pl_ok rfl (fun ls st M h => h9  M h)) f_kc_nil) 30 6 h
set_option maxRecDepth 20000 in
theorem BX12_term {sh : Nat → Nat × Nat} {t : Nat} {rm : Nat × Nat × Nat} {cs : Nat × Nat} {R : f_Rt} {D : Nat} {c_X12_factor : e_M → (Int → e_M → Prop) → Prop} {c_X12_isSign : Int → e_M → (Int → Prop) → Prop} {c_X12_good : Int → e_M → (Int → e_M → Prop) → Prop} {c_X12_put : Int → Int → Int → Int → e_M → (e_M → Prop) → Prop} {k9 : e_M → Prop} {M : e_M} (C : f_Hy sh t yX12_term rm cs D (lX12_term c_X12_factor c_X12_isSign c_X12_good c_X12_put) R) (h9 : ∀ (M : e_M), k9 M → f_E sh t YX12_term rm cs (f_Q sh t R) 9 [.inr (.inr (.inl (12, 123, 4456)))] [] M) (h : VX12_term c_X12_factor c_X12_isSign c_X12_good c_X12_put k9 (fun r M => R (some (.inl r)) M) M) : f_E sh t YX12_term rm cs (f_Q sh t R) 0 [.inr (.inr (.inl (12, 123, 4456)))] [] M :=
  f_go (KC := f_kc [(9, f_pl [(4466, 12, 123)] [] (fun ls st M => k9 M))]) C qX12_termf (f_kc_cons (f_pl_ok rfl (fun ls st M h => h9  M h)) f_kc_nil) 30 0 h
def WX12_term_9 (c_X12_value : e_M → (Int → e_M → Prop) → Prop) (Q : Int → e_M → Prop) : Nat → e_M → Prop
  | 0, _ => False
  | n + 1, M =>
    VX12_term_9 (WX12_factor c_X12_value) WX12_isSign WX12_good WX12_put (WX12_term_9 c_X12_value Q n) Q M
def WX12_term (c_X12_value : e_M → (Int → e_M → Prop) → Prop) (M : e_M) (Q : Int → e_M → Prop) : Prop :=
  VX12_term (WX12_factor c_X12_value) WX12_isSign WX12_good WX12_put (fun M => ∃ j, WX12_term_9 c_X12_value Q j M) Q M
theorem PX12_term_9 {sh : Nat → Nat × Nat} {t : Nat} {rm : Nat × Nat × Nat} {cs : Nat × Nat} {R : f_Rt} {D : Nat} {c_X12_value : e_M → (Int → e_M → Prop) → Prop} (C : f_Hy sh t yX12_term rm cs D (lX12_term (WX12_factor c_X12_value) WX12_isSign WX12_good WX12_put) R) : ∀ (n : Nat) (M : e_M), WX12_term_9 c_X12_value (fun r M => R (some (.inl r)) M) n M → f_E sh t YX12_term rm cs (f_Q sh t R) 9 [.inr (.inr (.inl (12, 123, 4456)))] [] M := by
  intro n
  induction n with
  | zero => intro M h; exact h.elim
  | succ n ih => intro M h; exact BX12_term_9 C ih h
theorem PX12_term {sh : Nat → Nat × Nat} {t : Nat} {rm : Nat × Nat × Nat} {cs : Nat × Nat} {R : f_Rt} {D : Nat} {c_X12_value : e_M → (Int → e_M → Prop) → Prop} {M : e_M} (C : f_Hy sh t yX12_term rm cs D (lX12_term (WX12_factor c_X12_value) WX12_isSign WX12_good WX12_put) R) (h : WX12_term c_X12_value M (fun r M => R (some (.inl r)) M)) : f_E sh t YX12_term rm cs (f_Q sh t R) 0 [.inr (.inr (.inl (12, 123, 4456)))] [] M :=
  BX12_term C (fun M ⟨j, h⟩ => PX12_term_9 C j _ h) h
def wX12_term (c_X12_value : e_M → (Int → e_M → Prop) → Prop) : f_Wt := f_wm [(4466, 12, 123)] (fun ar M R => WX12_term c_X12_value M (fun r M => R (some (.inl r)) M))
theorem TX12_term {sh : Nat → Nat × Nat} {t : Nat} {c_X12_value : e_M → (Int → e_M → Prop) → Prop} {D : Nat} (hD : 14 ≤ D) (o0 : f_Mt sh t YX12_value (D - 2) (f_wm [(4466, 12, 123)] (fun ar M R => c_X12_value  M (fun r M => R (some (.inl r)) M)))) : f_Mt sh t YX12_term D (wX12_term c_X12_value) :=
  f_Mt_of (k := 0) (Nat.le_of_ble_eq_true rfl) rfl rfl (fun ar M R rm cs h1 h2 h3 hX h => PX12_term ⟨by omega, h1, h2, h3, ⟨(TX12_factor (D := D - 1) (by omega) (f_Mt.up (by omega) o0)), (f_Mt.up (by omega) TX12_isSign), (f_Mt.up (by omega) TX12_good), (f_Mt.up (by omega) TX12_put), trivial⟩, hX⟩ h)
def VX12_value_9 (c_X12_term : e_M → (Int → e_M → Prop) → Prop) (c_X12_isSign : Int → e_M → (Int → Prop) → Prop) (c_X12_good : Int → e_M → (Int → e_M → Prop) → Prop) (c_X12_put : Int → Int → Int → Int → e_M → (e_M → Prop) → Prop) (k27 : e_M → Prop) (Q : Int → e_M → Prop) (M : e_M) : Prop :=
  (c_X12_isSign 43 M (fun r1 => ((¬ r1 = 0 → (k27 M)) ∧ (r1 = 0 → (c_X12_isSign 45 M (fun r2 => ((r2 = 0 → (Q 1 M)) ∧ (¬ r2 = 0 → (k27 M)))))))))
def VX12_value_27 (c_X12_term : e_M → (Int → e_M → Prop) → Prop) (c_X12_isSign : Int → e_M → (Int → Prop) → Prop) (c_X12_good : Int → e_M → (Int → e_M → Prop) → Prop) (c_X12_put : Int → Int → Int → Int → e_M → (e_M → Prop) → Prop) (k41 : Int → e_M → Prop) (Q : Int → e_M → Prop) (M : e_M) : Prop :=
  (c_X12_isSign 43 M (fun r1 => ((r1 = 0 → (k41 3 M)) ∧ (¬ r1 = 0 → (k41 2 M)))))
def VX12_value_41 (c_X12_term : e_M → (Int → e_M → Prop) → Prop) (c_X12_isSign : Int → e_M → (Int → Prop) → Prop) (c_X12_good : Int → e_M → (Int → e_M → Prop) → Prop) (c_X12_put : Int → Int → Int → Int → e_M → (e_M → Prop) → Prop) (k9 : e_M → Prop) (Q : Int → e_M → Prop) (xs0 : Int) (M : e_M) : Prop :=
  (c_X12_good 0 M (fun r1 M2 => ((r1 = 0 → (Q 0 M2)) ∧ (¬ r1 = 0 → (c_X12_term M2 (fun r3 M4 => ((¬ r3 = 0 → (c_X12_put xs0 0 0 0 M4 (fun M5 => (k9 M5)))) ∧ (r3 = 0 → (Q 0 M4)))))))))
def VX12_value (c_X12_term : e_M → (Int → e_M → Prop) → Prop) (c_X12_isSign : Int → e_M → (Int → Prop) → Prop) (c_X12_good : Int → e_M → (Int → e_M → Prop) → Prop) (c_X12_put : Int → Int → Int → Int → e_M → (e_M → Prop) → Prop) (k9 : e_M → Prop) (Q : Int → e_M → Prop) (M : e_M) : Prop :=
  (c_X12_term M (fun r1 M2 => ((¬ r1 = 0 → (k9 M2)) ∧ (r1 = 0 → (Q 0 M2)))))
def yX12_value (i : Nat) : e_Y := x_get YX12_value [YX12_term, YX12_isSign, YX12_good, YX12_put] i
def pX12_valuef : List x_I := [(0, 4, 1, 0, 0, 0, []), (1, 40, 0, 1, 14, 0, []), (4, 17, 9, 1, 6, 0, []), (7, 0, 1, 0, 0, 0, []), (8, 48, 0, 0, 0, 0, []), (9, 49, 0, 0, 0, 0, []), (9, 4, 1, 0, 0, 0, []), (10, 0, 2, 0, 0, 43, []), (12, 40, 1, 2, 14, 0, []), (15, 17, 27, 1, 15, 0, []), (18, 4, 1, 0, 0, 0, []), (19, 0, 2, 0, 0, 45, []), (21, 40, 1, 2, 14, 0, []), (24, 17, 70, 0, 41, 0, []), (27, 49, 0, 0, 0, 0, []), (27, 4, 1, 0, 0, 0, []), (28, 0, 2, 0, 0, 43, []), (30, 40, 1, 2, 14, 0, []), (33, 17, 40, 0, 22, 0, []), (36, 0, 1, 0, 0, 2, []), (37, 19, 41, 0, 23, 0, []), (40, 0, 1, 0, 0, 3, []), (41, 49, 0, 0, 0, 0, []), (41, 5, 1, 1, 0, 0, []), (42, 4, 1, 0, 0, 0, []), (43, 0, 1, 0, 0, 0, []), (44, 40, 2, 2, 14, 0, []), (47, 17, 57, 0, 32, 0, []), (50, 4, 1, 0, 0, 0, []), (51, 40, 0, 1, 14, 0, []), (54, 17, 59, 1, 34, 0, []), (57, 0, 1, 0, 0, 0, []), (58, 48, 0, 0, 0, 0, []), (59, 4, 1, 0, 0, 0, []), (60, 2, 1, 1, 0, 0, []), (61, 0, 1, 0, 0, 0, []), (62, 0, 1, 0, 0, 0, []), (63, 1, 1, 0, 0, 0, []), (64, 40, 3, 5, 14, 0, []), (67, 19, 9, 0, 6, 0, []), (70, 0, 1, 0, 0, 1, []), (71, 48, 0, 0, 0, 0, [])]
set_option maxRecDepth 20000 in
theorem qX12_valuef : f_all yX12_value YX12_value pX12_valuef :=
  ⟨f_aload_n (n := 0) (e_dx DX12_value_0 0 rfl) rfl,
  x_callV (e_dx DX12_value_0 1 rfl) mwX12_term vwX12_term cX12_827 rfl,
  f_if_ne (e_dx DX12_value_0 2 rfl) rfl,
  f_iconst (e_dx DX12_value_0 3 rfl) ⟨by decide, by decide⟩,
  ⟨(e_dx DX12_value_0 4 rfl), rfl⟩,
  trivial,
  f_aload_n (n := 0) (e_dx DX12_value_0 5 rfl) rfl,
  f_bipush (e_dx DX12_value_0 6 rfl) ⟨by decide, by decide⟩,
  x_callV (e_dx DX12_value_0 7 rfl) mwX12_isSign vwX12_isSign cX12_354 rfl,
  f_if_ne (e_dx DX12_value_0 8 rfl) rfl,
  f_aload_n (n := 0) (e_dx DX12_value_0 9 rfl) rfl,
  f_bipush (e_dx DX12_value_0 10 rfl) ⟨by decide, by decide⟩,
  x_callV (e_dx DX12_value_0 11 rfl) mwX12_isSign vwX12_isSign cX12_354 rfl,
  f_if_eq (e_dx DX12_value_0 12 rfl) rfl,
  trivial,
  f_aload_n (n := 0) (e_dx DX12_value_0 13 rfl) rfl,
  f_bipush (e_dx DX12_value_0 14 rfl) ⟨by decide, by decide⟩,
  x_callV (e_dx DX12_value_0 15 rfl) mwX12_isSign vwX12_isSign cX12_354 rfl,
  f_if_eq (e_dx DX12_value_0 16 rfl) rfl,
  f_iconst (e_dx DX12_value_0 17 rfl) ⟨by decide, by decide⟩,
  f_g19 (e_dx DX12_value_0 18 rfl) rfl,
  f_iconst (e_dx DX12_value_0 19 rfl) ⟨by decide, by decide⟩,
  trivial,
  f_istore_n (n := 1) (e_dx DX12_value_0 20 rfl) rfl (by decide),
  f_aload_n (n := 0) (e_dx DX12_value_0 21 rfl) rfl,
  f_iconst (e_dx DX12_value_0 22 rfl) ⟨by decide, by decide⟩,
  x_callV (e_dx DX12_value_0 23 rfl) mwX12_good vwX12_good cX12_351 rfl,
  f_if_eq (e_dx DX12_value_0 24 rfl) rfl,
  f_aload_n (n := 0) (e_dx DX12_value_0 25 rfl) rfl,
  x_callV (e_dx DX12_value_0 26 rfl) mwX12_term vwX12_term cX12_827 rfl,
  f_if_ne (e_dx DX12_value_0 27 rfl) rfl,
  f_iconst (e_dx DX12_value_0 28 rfl) ⟨by decide, by decide⟩,
  ⟨(e_dx DX12_value_0 29 rfl), rfl⟩,
  f_aload_n (n := 0) (e_dx DX12_value_0 30 rfl) rfl,
  f_iload_n (n := 1) (e_dx DX12_value_0 31 rfl) rfl,
  f_iconst (e_dx DX12_value_0 32 rfl) ⟨by decide, by decide⟩,
  f_iconst (e_dx DX12_value_0 33 rfl) ⟨by decide, by decide⟩,
  f_lconst (n := 0) (e_dx DX12_value_0 34 rfl) rfl,
  x_callV (e_dx DX12_value_0 35 rfl) mwX12_put vwX12_put cX12_814 rfl,
  f_g19 (e_dx DX12_value_0 36 rfl) rfl,
  f_iconst (e_dx DX12_value_0 37 rfl) ⟨by decide, by decide⟩,
  ⟨(e_dx DX12_value_0 38 rfl), rfl⟩, trivial⟩
def lX12_value (c_X12_term : e_M → (Int → e_M → Prop) → Prop) (c_X12_isSign : Int → e_M → (Int → Prop) → Prop) (c_X12_good : Int → e_M → (Int → e_M → Prop) → Prop) (c_X12_put : Int → Int → Int → Int → e_M → (e_M → Prop) → Prop) : List (Nat × f_Wt) := [(0, f_wm [(4466, 12, 123)] (fun ar M R => c_X12_term  M (fun r M => R (some (.inl r)) M))), (1, f_wm [(4466, 12, 123), (1, 0, 0)] (fun ar M R => c_X12_isSign (f_vi (f_nth ar 1)) M (fun r => R (some (.inl r)) M))), (2, f_wm [(4466, 12, 123), (1, 0, 0)] (fun ar M R => c_X12_good (f_vi (f_nth ar 1)) M (fun r M => R (some (.inl r)) M))), (3, f_wm [(4466, 12, 123), (1, 0, 0), (1, 0, 0), (1, 0, 0), (2, 0, 0)] (fun ar M R => c_X12_put (f_vi (f_nth ar 1)) (f_vi (f_nth ar 2)) (f_vi (f_nth ar 3)) (f_vi (f_nth ar 4)) M (fun M => R none M)))]
set_option maxRecDepth 20000 in
theorem BX12_value_9 {sh : Nat → Nat × Nat} {t : Nat} {rm : Nat × Nat × Nat} {cs : Nat × Nat} {R : f_Rt} {D : Nat} {c_X12_term : e_M → (Int → e_M → Prop) → Prop} {c_X12_isSign : Int → e_M → (Int → Prop) → Prop} {c_X12_good : Int → e_M → (Int → e_M → Prop) → Prop} {c_X12_put : Int → Int → Int → Int → e_M → (e_M → Prop) → Prop} {k27 : e_M → Prop} {M : e_M} (C : f_Hy sh t yX12_value rm cs D (lX12_value c_X12_term c_X12_isSign c_X12_good c_X12_put) R) (h27 : ∀ (M : e_M), k27 M → f_E sh t YX12_value rm cs (f_Q sh t R) 27 [.inr (.inr (.inl (12, 123, 4456))), .inr (.inr (.inr ()))] [] M) (h : VX12_value_9 c_X12_term c_X12_isSign c_X12_good c_X12_put k27 (fun r M => R (some (.inl r)) M) M) : f_E sh t YX12_value rm cs (f_Q sh t R) 9 [.inr (.inr (.inl (12, 123, 4456))), .inr (.inr (.inr ()))] [] M :=
  f_go (KC := f_kc [(27, f_pl [(4466, 12, 123), (0, 0, 0)] [] (fun ls st M => k27 M))]) C qX12_valuef (f_kc_cons (f_pl_ok rfl (fun ls st M h => h27  M h)) f_kc_nil) 44 6 h
set_option maxRecDepth 20000 in
theorem BX12_value_27 {sh : Nat → Nat × Nat} {t : Nat} {rm : Nat × Nat × Nat} {cs : Nat × Nat} {R : f_Rt} {D : Nat} {c_X12_term : e_M → (Int → e_M → Prop) → Prop} {c_X12_isSign : Int → e_M → (Int → Prop) → Prop} {c_X12_good : Int → e_M → (Int → e_M → Prop) → Prop} {c_X12_put : Int → Int → Int → Int → e_M → (e_M → Prop) → Prop} {k41 : Int → e_M → Prop} {M : e_M} (C : f_Hy sh t yX12_value rm cs D (lX12_value c_X12_term c_X12_isSign c_X12_good c_X12_put) R) (h41 : ∀ (xs0 : Int) (M : e_M), k41 xs0 M → f_E sh t YX12_value rm cs (f_Q sh t R) 41 [.inr (.inr (.inl (12, 123, 4456))), .inr (.inr (.inr ()))] [.inl xs0] M) (h : VX12_value_27 c_X12_term c_X12_isSign c_X12_good c_X12_put k41 (fun r M => R (some (.inl r)) M) M) : f_E sh t YX12_value rm cs (f_Q sh t R) 27 [.inr (.inr (.inl (12, 123, 4456))), .inr (.inr (.inr ()))] [] M :=
  f_go (KC := f_kc [(41, f_pl [(4466, 12, 123), (0, 0, 0)] [(1, 0, 0)] (fun ls st M => k41 (f_vi (f_nth st 0)) M))]) C qX12_valuef (f_kc_cons (f_pl_ok rfl (fun ls st M h => h41 _ M h)) f_kc_nil) 44 15 h
set_option maxRecDepth 20000 in
theorem BX12_value_41 {sh : Nat → Nat × Nat} {t : Nat} {rm : Nat × Nat × Nat} {cs : Nat × Nat} {R : f_Rt} {D : Nat} {c_X12_term : e_M → (Int → e_M → Prop) → Prop} {c_X12_isSign : Int → e_M → (Int → Prop) → Prop} {c_X12_good : Int → e_M → (Int → e_M → Prop) → Prop} {c_X12_put : Int → Int → Int → Int → e_M → (e_M → Prop) → Prop} {k9 : e_M → Prop} {xs0 : Int} {M : e_M} (C : f_Hy sh t yX12_value rm cs D (lX12_value c_X12_term c_X12_isSign c_X12_good c_X12_put) R) (h9 : ∀ (M : e_M), k9 M → f_E sh t YX12_value rm cs (f_Q sh t R) 9 [.inr (.inr (.inl (12, 123, 4456))), .inr (.inr (.inr ()))] [] M) (h : VX12_value_41 c_X12_term c_X12_isSign c_X12_good c_X12_put k9 (fun r M => R (some (.inl r)) M) xs0 M) : f_E sh t YX12_value rm cs (f_Q sh t R) 41 [.inr (.inr (.inl (12, 123, 4456))), .inr (.inr (.inr ()))] [.inl xs0] M :=
  f_go (KC := f_kc [(9, f_pl [(4466, 12, 123), (0, 0, 0)] [] (fun ls st M => k9 M))]) C qX12_valuef (f_kc_cons (f_pl_ok rfl (fun ls st M h => h9  M h)) f_kc_nil) 44 23 h
set_option maxRecDepth 20000 in
theorem BX12_value {sh : Nat → Nat × Nat} {t : Nat} {rm : Nat × Nat × Nat} {cs : Nat × Nat} {R : f_Rt} {D : Nat} {c_X12_term : e_M → (Int → e_M → Prop) → Prop} {c_X12_isSign : Int → e_M → (Int → Prop) → Prop} {c_X12_good : Int → e_M → (Int → e_M → Prop) → Prop} {c_X12_put : Int → Int → Int → Int → e_M → (e_M → Prop) → Prop} {k9 : e_M → Prop} {M : e_M} (C : f_Hy sh t yX12_value rm cs D (lX12_value c_X12_term c_X12_isSign c_X12_good c_X12_put) R) (h9 : ∀ (M : e_M), k9 M → f_E sh t YX12_value rm cs (f_Q sh t R) 9 [.inr (.inr (.inl (12, 123, 4456))), .inr (.inr (.inr ()))] [] M) (h : VX12_value c_X12_term c_X12_isSign c_X12_good c_X12_put k9 (fun r M => R (some (.inl r)) M) M) : f_E sh t YX12_value rm cs (f_Q sh t R) 0 [.inr (.inr (.inl (12, 123, 4456))), .inr (.inr (.inr ()))] [] M :=
  f_go (KC := f_kc [(9, f_pl [(4466, 12, 123), (0, 0, 0)] [] (fun ls st M => k9 M))]) C qX12_valuef (f_kc_cons (f_pl_ok rfl (fun ls st M h => h9  M h)) f_kc_nil) 44 0 h
def WX12_value_41 (c_X12_value : e_M → (Int → e_M → Prop) → Prop) (H9 : e_M → Prop) (Q : Int → e_M → Prop) (xs0 : Int) (M : e_M) : Prop :=
  VX12_value_41 (WX12_term c_X12_value) WX12_isSign WX12_good WX12_put H9 Q xs0 M
def WX12_value_27 (c_X12_value : e_M → (Int → e_M → Prop) → Prop) (H9 : e_M → Prop) (Q : Int → e_M → Prop) (M : e_M) : Prop :=
  VX12_value_27 (WX12_term c_X12_value) WX12_isSign WX12_good WX12_put (WX12_value_41 c_X12_value H9 Q) Q M
def WX12_value_9 (c_X12_value : e_M → (Int → e_M → Prop) → Prop) (Q : Int → e_M → Prop) : Nat → e_M → Prop
  | 0, _ => False
  | n + 1, M =>
    VX12_value_9 (WX12_term c_X12_value) WX12_isSign WX12_good WX12_put (WX12_value_27 c_X12_value (WX12_value_9 c_X12_value Q n) Q) Q M
def WX12_value (c_X12_value : e_M → (Int → e_M → Prop) → Prop) (M : e_M) (Q : Int → e_M → Prop) : Prop :=
  VX12_value (WX12_term c_X12_value) WX12_isSign WX12_good WX12_put (fun M => ∃ j, WX12_value_9 c_X12_value Q j M) Q M
theorem PX12_value_41 {sh : Nat → Nat × Nat} {t : Nat} {rm : Nat × Nat × Nat} {cs : Nat × Nat} {R : f_Rt} {D : Nat} {c_X12_value : e_M → (Int → e_M → Prop) → Prop} {H9 : e_M → Prop} {xs0 : Int} {M : e_M} (C : f_Hy sh t yX12_value rm cs D (lX12_value (WX12_term c_X12_value) WX12_isSign WX12_good WX12_put) R) (g9 : ∀ (M : e_M), H9 M → f_E sh t YX12_value rm cs (f_Q sh t R) 9 [.inr (.inr (.inl (12, 123, 4456))), .inr (.inr (.inr ()))] [] M) (h : WX12_value_41 c_X12_value H9 (fun r M => R (some (.inl r)) M) xs0 M) : f_E sh t YX12_value rm cs (f_Q sh t R) 41 [.inr (.inr (.inl (12, 123, 4456))), .inr (.inr (.inr ()))] [.inl xs0] M :=
  BX12_value_41 C g9 h
theorem PX12_value_27 {sh : Nat → Nat × Nat} {t : Nat} {rm : Nat × Nat × Nat} {cs : Nat × Nat} {R : f_Rt} {D : Nat} {c_X12_value : e_M → (Int → e_M → Prop) → Prop} {H9 : e_M → Prop} {M : e_M} (C : f_Hy sh t yX12_value rm cs D (lX12_value (WX12_term c_X12_value) WX12_isSign WX12_good WX12_put) R) (g9 : ∀ (M : e_M), H9 M → f_E sh t YX12_value rm cs (f_Q sh t R) 9 [.inr (.inr (.inl (12, 123, 4456))), .inr (.inr (.inr ()))] [] M) (h : WX12_value_27 c_X12_value H9 (fun r M => R (some (.inl r)) M) M) : f_E sh t YX12_value rm cs (f_Q sh t R) 27 [.inr (.inr (.inl (12, 123, 4456))), .inr (.inr (.inr ()))] [] M :=
  BX12_value_27 C (fun xs0 M h => PX12_value_41 C g9 h) h
theorem PX12_value_9 {sh : Nat → Nat × Nat} {t : Nat} {rm : Nat × Nat × Nat} {cs : Nat × Nat} {R : f_Rt} {D : Nat} {c_X12_value : e_M → (Int → e_M → Prop) → Prop} (C : f_Hy sh t yX12_value rm cs D (lX12_value (WX12_term c_X12_value) WX12_isSign WX12_good WX12_put) R) : ∀ (n : Nat) (M : e_M), WX12_value_9 c_X12_value (fun r M => R (some (.inl r)) M) n M → f_E sh t YX12_value rm cs (f_Q sh t R) 9 [.inr (.inr (.inl (12, 123, 4456))), .inr (.inr (.inr ()))] [] M := by
  intro n
  induction n with
  | zero => intro M h; exact h.elim
  | succ n ih => intro M h; exact BX12_value_9 C (fun M h => PX12_value_27 C ih h) h
theorem PX12_value {sh : Nat → Nat × Nat} {t : Nat} {rm : Nat × Nat × Nat} {cs : Nat × Nat} {R : f_Rt} {D : Nat} {c_X12_value : e_M → (Int → e_M → Prop) → Prop} {M : e_M} (C : f_Hy sh t yX12_value rm cs D (lX12_value (WX12_term c_X12_value) WX12_isSign WX12_good WX12_put) R) (h : WX12_value c_X12_value M (fun r M => R (some (.inl r)) M)) : f_E sh t YX12_value rm cs (f_Q sh t R) 0 [.inr (.inr (.inl (12, 123, 4456))), .inr (.inr (.inr ()))] [] M :=
  BX12_value C (fun M ⟨j, h⟩ => PX12_value_9 C j _ h) h
def wX12_value (c_X12_value : e_M → (Int → e_M → Prop) → Prop) : f_Wt := f_wm [(4466, 12, 123)] (fun ar M R => WX12_value c_X12_value M (fun r M => R (some (.inl r)) M))
theorem TX12_value {sh : Nat → Nat × Nat} {t : Nat} {c_X12_value : e_M → (Int → e_M → Prop) → Prop} {D : Nat} (hD : 18 ≤ D) (o0 : f_Mt sh t YX12_value (D - 3) (f_wm [(4466, 12, 123)] (fun ar M R => c_X12_value  M (fun r M => R (some (.inl r)) M)))) : f_Mt sh t YX12_value D (wX12_value c_X12_value) :=
  f_Mt_of (k := 1) (Nat.le_of_ble_eq_true rfl) rfl rfl (fun ar M R rm cs h1 h2 h3 hX h => PX12_value ⟨by omega, h1, h2, h3, ⟨(TX12_term (D := D - 1) (by omega) (f_Mt.up (by omega) o0)), (f_Mt.up (by omega) TX12_isSign), (f_Mt.up (by omega) TX12_good), (f_Mt.up (by omega) TX12_put), trivial⟩, hX⟩ h)
def CCX12_value : Nat → (e_M → (Int → e_M → Prop) → Prop)
  | 0 => (fun _ _ => False)
  | d + 1 => (WX12_value (CCX12_value d))
def CX12_value (d : Nat) : e_M → (Int → e_M → Prop) → Prop := (CCX12_value d)
theorem TCCX12_value {sh : Nat → Nat × Nat} {t : Nat} : ∀ d : Nat, f_Mt sh t YX12_value (18 + 3 * d) (f_wm [(4466, 12, 123)] (fun ar M R => CX12_value d  M (fun r M => R (some (.inl r)) M))) := by
  intro d
  induction d with
  | zero => exact ⟨Nat.le_of_ble_eq_true rfl, fun ar M R rm cs h => (f_c_b h).2.elim⟩
  | succ d ih => exact (TX12_value (D := 18 + 3 * (d + 1)) (by omega) (f_Mt.up (by omega) ih))
theorem TCX12_value {sh : Nat → Nat × Nat} {t : Nat} (d : Nat) : f_Mt sh t YX12_value (18 + 3 * d) (f_wm [(4466, 12, 123)] (fun ar M R => CX12_value d  M (fun r M => R (some (.inl r)) M))) := (TCCX12_value d)
