/-! methods as words over the memory, part 34e -/
def VX12_compares (Q : Int → Prop) (M : e_M) : Prop :=
  (((M 4456 7) = 4 → (((M 4456 9) = 60 → (Q 5)) ∧ (¬ (M 4456 9) = 60 → (((M 4456 9) = 61 → (Q 9)) ∧ (¬ (M 4456 9) = 61 → (((M 4456 9) = 62 → (Q 7)) ∧ (¬ (M 4456 9) = 62 → (((M 4456 9) = 289 → (Q 10)) ∧ (¬ (M 4456 9) = 289 → (((M 4456 9) = 316 → (Q 6)) ∧ (¬ (M 4456 9) = 316 → (((M 4456 9) = 318 → (Q 8)) ∧ (¬ (M 4456 9) = 318 → (Q (-1))))))))))))))) ∧ (¬ (M 4456 7) = 4 → (Q (-1))))
def yX12_compares (i : Nat) : e_Y := x_get YX12_compares [] i
def pX12_comparesf : List x_I := [(0, 4, 1, 0, 0, 0, []), (1, 25, 12, 7, 0, 0, []), (4, 0, 1, 0, 0, 4, []), (5, 18, 10, 0, 7, 0, []), (8, 0, 1, 0, 0, (-1), []), (9, 41, 0, 0, 0, 0, []), (10, 4, 1, 0, 0, 0, []), (11, 25, 12, 9, 0, 0, []), (14, 24, 89, 0, 22, 0, [(60, 72, 10), (61, 83, 18), (62, 77, 14), (289, 86, 20), (316, 74, 12), (318, 80, 16)]), (72, 0, 1, 0, 0, 5, []), (73, 41, 0, 0, 0, 0, []), (74, 0, 2, 0, 0, 6, []), (76, 41, 0, 0, 0, 0, []), (77, 0, 2, 0, 0, 7, []), (79, 41, 0, 0, 0, 0, []), (80, 0, 2, 0, 0, 8, []), (82, 41, 0, 0, 0, 0, []), (83, 0, 2, 0, 0, 9, []), (85, 41, 0, 0, 0, 0, []), (86, 0, 2, 0, 0, 10, []), (88, 41, 0, 0, 0, 0, []), (89, 0, 1, 0, 0, (-1), []), (90, 41, 0, 0, 0, 0, [])]
set_option maxRecDepth 20000 in
theorem qX12_comparesf : f_all yX12_compares YX12_compares pX12_comparesf :=
  ⟨f_aload_n (n := 0) (e_dx DX12_compares_0 0 rfl) rfl,
  f_getf (e_dx DX12_compares_0 1 rfl) fX12_309 rfl (by decide) (by decide) (by decide),
  f_iconst (e_dx DX12_compares_0 2 rfl) ⟨by decide, by decide⟩,
  f_icmp_eq (e_dx DX12_compares_0 3 rfl) rfl,
  f_iconst (e_dx DX12_compares_0 4 rfl) ⟨by decide, by decide⟩,
  ⟨(e_dx DX12_compares_0 5 rfl), rfl⟩,
  f_aload_n (n := 0) (e_dx DX12_compares_0 6 rfl) rfl,
  f_getf (e_dx DX12_compares_0 7 rfl) fX12_321 rfl (by decide) (by decide) (by decide),
  f_lsw (e_dx DX12_compares_0 8 rfl) (by decide) rfl (by decide) rfl,
  f_iconst (e_dx DX12_compares_0 9 rfl) ⟨by decide, by decide⟩,
  ⟨(e_dx DX12_compares_0 10 rfl), rfl⟩,
  f_bipush (e_dx DX12_compares_0 11 rfl) ⟨by decide, by decide⟩,
  ⟨(e_dx DX12_compares_0 12 rfl), rfl⟩,
  f_bipush (e_dx DX12_compares_0 13 rfl) ⟨by decide, by decide⟩,
  ⟨(e_dx DX12_compares_0 14 rfl), rfl⟩,
  f_bipush (e_dx DX12_compares_0 15 rfl) ⟨by decide, by decide⟩,
  ⟨(e_dx DX12_compares_0 16 rfl), rfl⟩,
  f_bipush (e_dx DX12_compares_0 17 rfl) ⟨by decide, by decide⟩,
  ⟨(e_dx DX12_compares_0 18 rfl), rfl⟩,
  f_bipush (e_dx DX12_compares_0 19 rfl) ⟨by decide, by decide⟩,
  ⟨(e_dx DX12_compares_0 20 rfl), rfl⟩,
  f_iconst (e_dx DX12_compares_0 21 rfl) ⟨by decide, by decide⟩,
  ⟨(e_dx DX12_compares_0 22 rfl), rfl⟩, trivial⟩
def lX12_compares : List (Nat × f_Wt) := []
set_option maxRecDepth 20000 in
theorem BX12_compares {sh : Nat → Nat × Nat} {t : Nat} {rm : Nat × Nat × Nat} {cs : Nat × Nat} {R : f_Rt} {M : e_M} (C : f_Hy sh t yX12_compares rm cs 4 (lX12_compares) R) (h : VX12_compares (fun r => R (some (.inl r)) M) M) : f_E sh t YX12_compares rm cs (f_Q sh t R) 0 [.inr (.inr (.inl (12, 123, 4456)))] [] M :=
  f_go (KC := f_kc []) C qX12_comparesf f_kc_nil 25 0 h
def WX12_compares (M : e_M) (Q : Int → Prop) : Prop :=
  VX12_compares Q M
theorem PX12_compares {sh : Nat → Nat × Nat} {t : Nat} {rm : Nat × Nat × Nat} {cs : Nat × Nat} {R : f_Rt} {M : e_M} (C : f_Hy sh t yX12_compares rm cs 4 (lX12_compares) R) (h : WX12_compares M (fun r => R (some (.inl r)) M)) : f_E sh t YX12_compares rm cs (f_Q sh t R) 0 [.inr (.inr (.inl (12, 123, 4456)))] [] M :=
  BX12_compares C h
def wX12_compares : f_Wt := f_wm [(4466, 12, 123)] (fun ar M R => WX12_compares M (fun r => R (some (.inl r)) M))
theorem TX12_compares {sh : Nat → Nat × Nat} {t : Nat} : f_Mt sh t YX12_compares 4 (wX12_compares) :=
  f_Mt_of (k := 0) (Nat.le_of_ble_eq_true rfl) rfl rfl (fun ar M R rm cs h1 h2 h3 hX h => PX12_compares ⟨Nat.le_of_ble_eq_true rfl, h1, h2, h3, trivial, hX⟩ h)
def VX12_has (c_X12_good : Int → e_M → (Int → e_M → Prop) → Prop) (c_X12_mustSign : Int → e_M → (Int → e_M → Prop) → Prop) (c_X12_wrong : Int → e_M → (Int → e_M → Prop) → Prop) (c_X12_put : Int → Int → Int → Int → e_M → (e_M → Prop) → Prop) (Q : Int → e_M → Prop) (M : e_M) : Prop :=
  (c_X12_good 0 M (fun r1 M2 => ((r1 = 0 → (Q 0 M2)) ∧ (¬ r1 = 0 → (c_X12_mustSign 40 M2 (fun r3 M4 => ((¬ r3 = 0 → (((M4 4456 7) = 2 → (c_X12_good 0 M4 (fun r5 M6 => ((r5 = 0 → (Q 0 M6)) ∧ (¬ r5 = 0 → (c_X12_mustSign 44 M6 (fun r7 M8 => ((¬ r7 = 0 → (((M8 4456 7) = 2 → (c_X12_good 0 M8 (fun r9 M10 => ((r9 = 0 → (Q 0 M10)) ∧ (¬ r9 = 0 → (c_X12_mustSign 41 M10 (fun r11 M12 => ((¬ r11 = 0 → (c_X12_put 15 (M4 4456 9) (M8 4456 9) 0 M12 (fun M13 => (Q 1 M13)))) ∧ (r11 = 0 → (Q 0 M12)))))))))) ∧ (¬ (M8 4456 7) = 2 → (c_X12_wrong 1 M8 (fun r14 M15 => ((r14 = 0 ∨ r14 = 1) ∧ Q r14 M15)))))) ∧ (r7 = 0 → (Q 0 M8)))))))))) ∧ (¬ (M4 4456 7) = 2 → (c_X12_wrong 1 M4 (fun r16 M17 => ((r16 = 0 ∨ r16 = 1) ∧ Q r16 M17)))))) ∧ (r3 = 0 → (Q 0 M4)))))))))
def yX12_has (i : Nat) : e_Y := x_get YX12_has [YX12_good, YX12_mustSign, YX12_wrong, YX12_put] i
def pX12_hasf : List x_I := [(0, 4, 1, 0, 0, 0, []), (1, 0, 1, 0, 0, 0, []), (2, 40, 0, 2, 14, 0, []), (5, 17, 17, 0, 9, 0, []), (8, 4, 1, 0, 0, 0, []), (9, 0, 2, 0, 0, 40, []), (11, 40, 1, 2, 14, 0, []), (14, 17, 19, 1, 11, 0, []), (17, 0, 1, 0, 0, 0, []), (18, 48, 0, 0, 0, 0, []), (19, 4, 1, 0, 0, 0, []), (20, 25, 12, 7, 0, 0, []), (23, 0, 1, 0, 0, 2, []), (24, 18, 33, 0, 19, 0, []), (27, 4, 1, 0, 0, 0, []), (28, 0, 1, 0, 0, 1, []), (29, 40, 2, 2, 14, 0, []), (32, 42, 0, 0, 0, 0, []), (33, 4, 1, 0, 0, 0, []), (34, 25, 12, 9, 0, 0, []), (37, 5, 1, 1, 0, 0, []), (38, 4, 1, 0, 0, 0, []), (39, 0, 1, 0, 0, 0, []), (40, 40, 0, 2, 14, 0, []), (43, 17, 55, 0, 30, 0, []), (46, 4, 1, 0, 0, 0, []), (47, 0, 2, 0, 0, 44, []), (49, 40, 1, 2, 14, 0, []), (52, 17, 57, 1, 32, 0, []), (55, 0, 1, 0, 0, 0, []), (56, 48, 0, 0, 0, 0, []), (57, 4, 1, 0, 0, 0, []), (58, 25, 12, 7, 0, 0, []), (61, 0, 1, 0, 0, 2, []), (62, 18, 71, 0, 40, 0, []), (65, 4, 1, 0, 0, 0, []), (66, 0, 1, 0, 0, 1, []), (67, 40, 2, 2, 14, 0, []), (70, 42, 0, 0, 0, 0, []), (71, 4, 1, 0, 0, 0, []), (72, 25, 12, 9, 0, 0, []), (75, 5, 1, 2, 0, 0, []), (76, 4, 1, 0, 0, 0, []), (77, 0, 1, 0, 0, 0, []), (78, 40, 0, 2, 14, 0, []), (81, 17, 93, 0, 51, 0, []), (84, 4, 1, 0, 0, 0, []), (85, 0, 2, 0, 0, 41, []), (87, 40, 1, 2, 14, 0, []), (90, 17, 95, 1, 53, 0, []), (93, 0, 1, 0, 0, 0, []), (94, 48, 0, 0, 0, 0, []), (95, 4, 1, 0, 0, 0, []), (96, 0, 2, 0, 0, 15, []), (98, 2, 1, 1, 0, 0, []), (99, 2, 1, 2, 0, 0, []), (100, 1, 1, 0, 0, 0, []), (101, 40, 3, 5, 14, 0, []), (104, 0, 1, 0, 0, 1, []), (105, 48, 0, 0, 0, 0, [])]
set_option maxRecDepth 20000 in
theorem qX12_hasf : f_all yX12_has YX12_has pX12_hasf :=
  ⟨f_aload_n (n := 0) (e_dx DX12_has_0 0 rfl) rfl,
  f_iconst (e_dx DX12_has_0 1 rfl) ⟨by decide, by decide⟩,
  x_callV (e_dx DX12_has_0 2 rfl) mwX12_good vwX12_good cX12_351 rfl,
  f_if_eq (e_dx DX12_has_0 3 rfl) rfl,
  f_aload_n (n := 0) (e_dx DX12_has_0 4 rfl) rfl,
  f_bipush (e_dx DX12_has_0 5 rfl) ⟨by decide, by decide⟩,
  x_callV (e_dx DX12_has_0 6 rfl) mwX12_mustSign vwX12_mustSign cX12_369 rfl,
  f_if_ne (e_dx DX12_has_0 7 rfl) rfl,
  f_iconst (e_dx DX12_has_0 8 rfl) ⟨by decide, by decide⟩,
  ⟨(e_dx DX12_has_0 9 rfl), rfl⟩,
  f_aload_n (n := 0) (e_dx DX12_has_0 10 rfl) rfl,
  f_getf (e_dx DX12_has_0 11 rfl) fX12_309 rfl (by decide) (by decide) (by decide),
  f_iconst (e_dx DX12_has_0 12 rfl) ⟨by decide, by decide⟩,
  f_icmp_eq (e_dx DX12_has_0 13 rfl) rfl,
  f_aload_n (n := 0) (e_dx DX12_has_0 14 rfl) rfl,
  f_iconst (e_dx DX12_has_0 15 rfl) ⟨by decide, by decide⟩,
  x_callV (e_dx DX12_has_0 16 rfl) mwX12_wrong vwX12_wrong cX12_342 rfl,
  ⟨(e_dx DX12_has_0 17 rfl), rfl⟩,
  f_aload_n (n := 0) (e_dx DX12_has_0 18 rfl) rfl,
  f_getf (e_dx DX12_has_0 19 rfl) fX12_321 rfl (by decide) (by decide) (by decide),
  f_istore_n (n := 1) (e_dx DX12_has_0 20 rfl) rfl (by decide),
  f_aload_n (n := 0) (e_dx DX12_has_0 21 rfl) rfl,
  f_iconst (e_dx DX12_has_0 22 rfl) ⟨by decide, by decide⟩,
  x_callV (e_dx DX12_has_0 23 rfl) mwX12_good vwX12_good cX12_351 rfl,
  f_if_eq (e_dx DX12_has_0 24 rfl) rfl,
  f_aload_n (n := 0) (e_dx DX12_has_0 25 rfl) rfl,
  f_bipush (e_dx DX12_has_0 26 rfl) ⟨by decide, by decide⟩,
  x_callV (e_dx DX12_has_0 27 rfl) mwX12_mustSign vwX12_mustSign cX12_369 rfl,
  f_if_ne (e_dx DX12_has_0 28 rfl) rfl,
  f_iconst (e_dx DX12_has_0 29 rfl) ⟨by decide, by decide⟩,
  ⟨(e_dx DX12_has_0 30 rfl), rfl⟩,
  f_aload_n (n := 0) (e_dx DX12_has_0 31 rfl) rfl,
  f_getf (e_dx DX12_has_0 32 rfl) fX12_309 rfl (by decide) (by decide) (by decide),
  f_iconst (e_dx DX12_has_0 33 rfl) ⟨by decide, by decide⟩,
  f_icmp_eq (e_dx DX12_has_0 34 rfl) rfl,
  f_aload_n (n := 0) (e_dx DX12_has_0 35 rfl) rfl,
  f_iconst (e_dx DX12_has_0 36 rfl) ⟨by decide, by decide⟩,
  x_callV (e_dx DX12_has_0 37 rfl) mwX12_wrong vwX12_wrong cX12_342 rfl,
  ⟨(e_dx DX12_has_0 38 rfl), rfl⟩,
  f_aload_n (n := 0) (e_dx DX12_has_0 39 rfl) rfl,
  f_getf (e_dx DX12_has_1 0 rfl) fX12_321 rfl (by decide) (by decide) (by decide),
  f_istore_n (n := 2) (e_dx DX12_has_1 1 rfl) rfl (by decide),
  f_aload_n (n := 0) (e_dx DX12_has_1 2 rfl) rfl,
  f_iconst (e_dx DX12_has_1 3 rfl) ⟨by decide, by decide⟩,
  x_callV (e_dx DX12_has_1 4 rfl) mwX12_good vwX12_good cX12_351 rfl,
  f_if_eq (e_dx DX12_has_1 5 rfl) rfl,
  f_aload_n (n := 0) (e_dx DX12_has_1 6 rfl) rfl,
  f_bipush (e_dx DX12_has_1 7 rfl) ⟨by decide, by decide⟩,
  x_callV (e_dx DX12_has_1 8 rfl) mwX12_mustSign vwX12_mustSign cX12_369 rfl,
  f_if_ne (e_dx DX12_has_1 9 rfl) rfl,
  f_iconst (e_dx DX12_has_1 10 rfl) ⟨by decide, by decide⟩,
  ⟨(e_dx DX12_has_1 11 rfl), rfl⟩,
  f_aload_n (n := 0) (e_dx DX12_has_1 12 rfl) rfl,
  f_bipush (e_dx DX12_has_1 13 rfl) ⟨by decide, by decide⟩,
  f_iload_n (n := 1) (e_dx DX12_has_1 14 rfl) rfl,
  f_iload_n (n := 2) (e_dx DX12_has_1 15 rfl) rfl,
  f_lconst (n := 0) (e_dx DX12_has_1 16 rfl) rfl,
  x_callV (e_dx DX12_has_1 17 rfl) mwX12_put vwX12_put cX12_814 rfl,
  f_iconst (e_dx DX12_has_1 18 rfl) ⟨by decide, by decide⟩,
  ⟨(e_dx DX12_has_1 19 rfl), rfl⟩, trivial⟩
def lX12_has (c_X12_good : Int → e_M → (Int → e_M → Prop) → Prop) (c_X12_mustSign : Int → e_M → (Int → e_M → Prop) → Prop) (c_X12_wrong : Int → e_M → (Int → e_M → Prop) → Prop) (c_X12_put : Int → Int → Int → Int → e_M → (e_M → Prop) → Prop) : List (Nat × f_Wt) := [(0, f_wm [(4466, 12, 123), (1, 0, 0)] (fun ar M R => c_X12_good (f_vi (f_nth ar 1)) M (fun r M => R (some (.inl r)) M))), (1, f_wm [(4466, 12, 123), (1, 0, 0)] (fun ar M R => c_X12_mustSign (f_vi (f_nth ar 1)) M (fun r M => R (some (.inl r)) M))), (2, f_wm [(4466, 12, 123), (1, 0, 0)] (fun ar M R => c_X12_wrong (f_vi (f_nth ar 1)) M (fun r M => R (some (.inl r)) M))), (3, f_wm [(4466, 12, 123), (1, 0, 0), (1, 0, 0), (1, 0, 0), (2, 0, 0)] (fun ar M R => c_X12_put (f_vi (f_nth ar 1)) (f_vi (f_nth ar 2)) (f_vi (f_nth ar 3)) (f_vi (f_nth ar 4)) M (fun M => R none M)))]
set_option maxRecDepth 20000 in
theorem BX12_has {sh : Nat → Nat × Nat} {t : Nat} {rm : Nat × Nat × Nat} {cs : Nat × Nat} {R : f_Rt} {c_X12_good : Int → e_M → (Int → e_M → Prop) → Prop} {c_X12_mustSign : Int → e_M → (Int → e_M → Prop) → Prop} {c_X12_wrong : Int → e_M → (Int → e_M → Prop) → Prop} {c_X12_put : Int → Int → Int → Int → e_M → (e_M → Prop) → Prop} {M : e_M} (C : f_Hy sh t yX12_has rm cs 10 (lX12_has c_X12_good c_X12_mustSign c_X12_wrong c_X12_put) R) (h : VX12_has c_X12_good c_X12_mustSign c_X12_wrong c_X12_put (fun r M => R (some (.inl r)) M) M) : f_E sh t YX12_has rm cs (f_Q sh t R) 0 [.inr (.inr (.inl (12, 123, 4456))), .inr (.inr (.inr ())), .inr (.inr (.inr ()))] [] M :=
  f_go (KC := f_kc []) C qX12_hasf f_kc_nil 62 0 h
def WX12_has (M : e_M) (Q : Int → e_M → Prop) : Prop :=
  VX12_has WX12_good WX12_mustSign WX12_wrong WX12_put Q M
theorem PX12_has {sh : Nat → Nat × Nat} {t : Nat} {rm : Nat × Nat × Nat} {cs : Nat × Nat} {R : f_Rt} {M : e_M} (C : f_Hy sh t yX12_has rm cs 10 (lX12_has WX12_good WX12_mustSign WX12_wrong WX12_put) R) (h : WX12_has M (fun r M => R (some (.inl r)) M)) : f_E sh t YX12_has rm cs (f_Q sh t R) 0 [.inr (.inr (.inl (12, 123, 4456))), .inr (.inr (.inr ())), .inr (.inr (.inr ()))] [] M :=
  BX12_has C h
def wX12_has : f_Wt := f_wm [(4466, 12, 123)] (fun ar M R => WX12_has M (fun r M => R (some (.inl r)) M))
theorem TX12_has {sh : Nat → Nat × Nat} {t : Nat} : f_Mt sh t YX12_has 10 (wX12_has) :=
  f_Mt_of (k := 2) (Nat.le_of_ble_eq_true rfl) rfl rfl (fun ar M R rm cs h1 h2 h3 hX h => PX12_has ⟨Nat.le_of_ble_eq_true rfl, h1, h2, h3, ⟨(f_Mt.up (Nat.le_of_ble_eq_true rfl) TX12_good), (f_Mt.up (Nat.le_of_ble_eq_true rfl) TX12_mustSign), (f_Mt.up (Nat.le_of_ble_eq_true rfl) TX12_wrong), (f_Mt.up (Nat.le_of_ble_eq_true rfl) TX12_put), trivial⟩, hX⟩ h)
def VX12_one_127 (c_X12_isWord : Int → e_M → (Int → Prop) → Prop) (c_X12_opens : e_M → (Int → e_M → Prop) → Prop) (c_X12_one : e_M → (Int → e_M → Prop) → Prop) (c_X12_put : Int → Int → Int → Int → e_M → (e_M → Prop) → Prop) (c_X12_isSign : Int → e_M → (Int → Prop) → Prop) (c_X12_cond : e_M → (Int → e_M → Prop) → Prop) (c_X12_mustSign : Int → e_M → (Int → e_M → Prop) → Prop) (c_X12_good : Int → e_M → (Int → e_M → Prop) → Prop) (c_X12_isName : e_M → (Int → Prop) → Prop) (c_X12_wrong : Int → e_M → (Int → e_M → Prop) → Prop) (c_X12_has : e_M → (Int → e_M → Prop) → Prop) (c_X12_value : e_M → (Int → e_M → Prop) → Prop) (c_X12_compares : e_M → (Int → Prop) → Prop) (Q : Int → e_M → Prop) (M : e_M) : Prop :=
  (c_X12_good 0 M (fun r1 M2 => ((¬ r1 = 0 → (c_X12_isName M2 (fun r3 => ((¬ r3 = 0 → (c_X12_put 14 (M 4456 10) 0 (M2 4456 11) M2 (fun M4 => (c_X12_good 0 M4 (fun r5 M6 => ((r5 = 0 ∨ r5 = 1) ∧ Q r5 M6)))))) ∧ (r3 = 0 → (c_X12_wrong 1 M2 (fun r7 M8 => ((r7 = 0 ∨ r7 = 1) ∧ Q r7 M8)))))))) ∧ (r1 = 0 → (Q 0 M2)))))
def VX12_one (c_X12_isWord : Int → e_M → (Int → Prop) → Prop) (c_X12_opens : e_M → (Int → e_M → Prop) → Prop) (c_X12_one : e_M → (Int → e_M → Prop) → Prop) (c_X12_put : Int → Int → Int → Int → e_M → (e_M → Prop) → Prop) (c_X12_isSign : Int → e_M → (Int → Prop) → Prop) (c_X12_cond : e_M → (Int → e_M → Prop) → Prop) (c_X12_mustSign : Int → e_M → (Int → e_M → Prop) → Prop) (c_X12_good : Int → e_M → (Int → e_M → Prop) → Prop) (c_X12_isName : e_M → (Int → Prop) → Prop) (c_X12_wrong : Int → e_M → (Int → e_M → Prop) → Prop) (c_X12_has : e_M → (Int → e_M → Prop) → Prop) (c_X12_value : e_M → (Int → e_M → Prop) → Prop) (c_X12_compares : e_M → (Int → Prop) → Prop) (k127 : e_M → Prop) (Q : Int → e_M → Prop) (M : e_M) : Prop :=
  (c_X12_isWord 56 M (fun r1 => ((r1 = 0 → (c_X12_isSign 123 M (fun r2 => ((r2 = 0 → (c_X12_isWord 57 M (fun r3 => ((¬ r3 = 0 → (k127 M)) ∧ (r3 = 0 → (c_X12_isWord 0 M (fun r4 => ((¬ r4 = 0 → (k127 M)) ∧ (r4 = 0 → (c_X12_isWord 58 M (fun r5 => ((¬ r5 = 0 → (k127 M)) ∧ (r5 = 0 → (c_X12_isWord 59 M (fun r6 => ((r6 = 0 → (c_X12_isWord 61 M (fun r7 => ((r7 = 0 → (c_X12_isWord 60 M (fun r8 => ((r8 = 0 → (c_X12_value M (fun r9 M10 => ((¬ r9 = 0 → (c_X12_compares M10 (fun r11 => ((0 ≤ r11 → (c_X12_good 0 M10 (fun r12 M13 => ((r12 = 0 → (Q 0 M13)) ∧ (¬ r12 = 0 → (c_X12_value M13 (fun r14 M15 => ((¬ r14 = 0 → (c_X12_put r11 0 0 0 M15 (fun M16 => (Q 1 M16)))) ∧ (r14 = 0 → (Q 0 M15)))))))))) ∧ (r11 < 0 → (c_X12_wrong 1 M10 (fun r17 M18 => ((r17 = 0 ∨ r17 = 1) ∧ Q r17 M18)))))))) ∧ (r9 = 0 → (Q 0 M10)))))) ∧ (¬ r8 = 0 → (c_X12_has M (fun r19 M20 => ((r19 = 0 ∨ r19 = 1) ∧ Q r19 M20)))))))) ∧ (¬ r7 = 0 → (c_X12_put 14 61 0 0 M (fun M21 => (c_X12_good 0 M21 (fun r22 M23 => ((r22 = 0 ∨ r22 = 1) ∧ Q r22 M23)))))))))) ∧ (¬ r6 = 0 → (k127 M)))))))))))))))))) ∧ (¬ r2 = 0 → (c_X12_opens M (fun r24 M25 => ((r24 = 0 → (Q 0 M25)) ∧ (¬ r24 = 0 → (c_X12_cond M25 (fun r26 M27 => ((r26 = 0 → (Q 0 M27)) ∧ (¬ r26 = 0 → (c_X12_mustSign 125 M27 (fun r28 M29 => ((¬ r28 = 0 → (∀ M30 : e_M, M30 = e_up M29 4456 111 (e_w32 ((M29 4456 111) - 1)) → (Q 1 M30))) ∧ (r28 = 0 → (Q 0 M29)))))))))))))))))) ∧ (¬ r1 = 0 → (c_X12_opens M (fun r31 M32 => ((r31 = 0 → (Q 0 M32)) ∧ (¬ r31 = 0 → (c_X12_one M32 (fun r33 M34 => ((¬ r33 = 0 → (∀ M35 : e_M, M35 = e_up M34 4456 111 (e_w32 ((M34 4456 111) - 1)) → (c_X12_put 11 0 0 0 M35 (fun M36 => (Q 1 M36))))) ∧ (r33 = 0 → (Q 0 M34)))))))))))))
def yX12_one (i : Nat) : e_Y := x_get YX12_one [YX12_isWord, YX12_opens, YX12_one, YX12_put, YX12_isSign, YX12_cond, YX12_mustSign, YX12_good, YX12_isName, YX12_wrong, YX12_has, YX12_value, YX12_compares] i
def pX12_onef : List x_I := [(0, 4, 1, 0, 0, 0, []), (1, 0, 2, 0, 0, 56, []), (3, 40, 0, 2, 14, 0, []), (6, 17, 46, 0, 27, 0, []), (9, 4, 1, 0, 0, 0, []), (10, 40, 1, 1, 14, 0, []), (13, 17, 23, 0, 11, 0, []), (16, 4, 1, 0, 0, 0, []), (17, 40, 2, 1, 14, 0, []), (20, 17, 25, 1, 13, 0, []), (23, 0, 1, 0, 0, 0, []), (24, 48, 0, 0, 0, 0, []), (25, 4, 1, 0, 0, 0, []), (26, 20, 0, 0, 0, 0, []), (27, 25, 12, 111, 0, 0, []), (30, 0, 1, 0, 0, 1, []), (31, 9, 0, 1, 0, 0, []), (32, 26, 12, 111, 0, 0, []), (35, 4, 1, 0, 0, 0, []), (36, 0, 2, 0, 0, 11, []), (38, 0, 1, 0, 0, 0, []), (39, 0, 1, 0, 0, 0, []), (40, 1, 1, 0, 0, 0, []), (41, 40, 3, 5, 14, 0, []), (44, 0, 1, 0, 0, 1, []), (45, 48, 0, 0, 0, 0, []), (46, 4, 1, 0, 0, 0, []), (47, 0, 2, 0, 0, 123, []), (49, 40, 4, 2, 14, 0, []), (52, 17, 92, 0, 51, 0, []), (55, 4, 1, 0, 0, 0, []), (56, 40, 1, 1, 14, 0, []), (59, 17, 78, 0, 41, 0, []), (62, 4, 1, 0, 0, 0, []), (63, 40, 5, 1, 14, 0, []), (66, 17, 78, 0, 41, 0, []), (69, 4, 1, 0, 0, 0, []), (70, 0, 2, 0, 0, 125, []), (72, 40, 6, 2, 14, 0, []), (75, 17, 80, 1, 43, 0, []), (78, 0, 1, 0, 0, 0, []), (79, 48, 0, 0, 0, 0, []), (80, 4, 1, 0, 0, 0, []), (81, 20, 0, 0, 0, 0, []), (82, 25, 12, 111, 0, 0, []), (85, 0, 1, 0, 0, 1, []), (86, 9, 0, 1, 0, 0, []), (87, 26, 12, 111, 0, 0, []), (90, 0, 1, 0, 0, 1, []), (91, 48, 0, 0, 0, 0, []), (92, 4, 1, 0, 0, 0, []), (93, 0, 2, 0, 0, 57, []), (95, 40, 0, 2, 14, 0, []), (98, 17, 127, 1, 67, 0, []), (101, 4, 1, 0, 0, 0, []), (102, 0, 1, 0, 0, 0, []), (103, 40, 0, 2, 14, 0, []), (106, 17, 127, 1, 67, 0, []), (109, 4, 1, 0, 0, 0, []), (110, 0, 2, 0, 0, 58, []), (112, 40, 0, 2, 14, 0, []), (115, 17, 127, 1, 67, 0, []), (118, 4, 1, 0, 0, 0, []), (119, 0, 2, 0, 0, 59, []), (121, 40, 0, 2, 14, 0, []), (124, 17, 173, 0, 95, 0, []), (127, 49, 0, 0, 0, 0, []), (127, 4, 1, 0, 0, 0, []), (128, 25, 12, 10, 0, 0, []), (131, 5, 1, 1, 0, 0, []), (132, 4, 1, 0, 0, 0, []), (133, 0, 1, 0, 0, 0, []), (134, 40, 7, 2, 14, 0, []), (137, 17, 142, 1, 77, 0, []), (140, 0, 1, 0, 0, 0, []), (141, 48, 0, 0, 0, 0, []), (142, 4, 1, 0, 0, 0, []), (143, 40, 8, 1, 14, 0, []), (146, 17, 155, 1, 84, 0, []), (149, 4, 1, 0, 0, 0, []), (150, 0, 1, 0, 0, 1, []), (151, 40, 9, 2, 14, 0, []), (154, 42, 0, 0, 0, 0, []), (155, 4, 1, 0, 0, 0, []), (156, 0, 2, 0, 0, 14, []), (158, 2, 1, 1, 0, 0, []), (159, 0, 1, 0, 0, 0, []), (160, 4, 1, 0, 0, 0, []), (161, 25, 12, 11, 3, 0, []), (164, 40, 3, 5, 14, 0, []), (167, 4, 1, 0, 0, 0, []), (168, 0, 1, 0, 0, 0, []), (169, 40, 7, 2, 14, 0, []), (172, 42, 0, 0, 0, 0, []), (173, 4, 1, 0, 0, 0, []), (174, 0, 2, 0, 0, 61, []), (176, 40, 0, 2, 14, 0, []), (179, 17, 198, 0, 109, 0, []), (182, 4, 1, 0, 0, 0, []), (183, 0, 2, 0, 0, 14, []), (185, 0, 2, 0, 0, 61, []), (187, 0, 1, 0, 0, 0, []), (188, 1, 1, 0, 0, 0, []), (189, 40, 3, 5, 14, 0, []), (192, 4, 1, 0, 0, 0, []), (193, 0, 1, 0, 0, 0, []), (194, 40, 7, 2, 14, 0, []), (197, 42, 0, 0, 0, 0, []), (198, 4, 1, 0, 0, 0, []), (199, 0, 2, 0, 0, 60, []), (201, 40, 0, 2, 14, 0, []), (204, 17, 212, 0, 116, 0, []), (207, 4, 1, 0, 0, 0, []), (208, 40, 10, 1, 14, 0, []), (211, 42, 0, 0, 0, 0, []), (212, 4, 1, 0, 0, 0, []), (213, 40, 11, 1, 14, 0, []), (216, 17, 221, 1, 121, 0, []), (219, 0, 1, 0, 0, 0, []), (220, 48, 0, 0, 0, 0, []), (221, 4, 1, 0, 0, 0, []), (222, 40, 12, 1, 14, 0, []), (225, 5, 1, 1, 0, 0, []), (226, 2, 1, 1, 0, 0, []), (227, 17, 236, 3, 130, 0, []), (230, 4, 1, 0, 0, 0, []), (231, 0, 1, 0, 0, 1, []), (232, 40, 9, 2, 14, 0, []), (235, 42, 0, 0, 0, 0, []), (236, 4, 1, 0, 0, 0, []), (237, 0, 1, 0, 0, 0, []), (238, 40, 7, 2, 14, 0, []), (241, 17, 251, 0, 137, 0, []), (244, 4, 1, 0, 0, 0, []), (245, 40, 11, 1, 14, 0, []), (248, 17, 253, 1, 139, 0, []), (251, 0, 1, 0, 0, 0, []), (252, 48, 0, 0, 0, 0, []), (253, 4, 1, 0, 0, 0, []), (254, 2, 1, 1, 0, 0, []), (255, 0, 1, 0, 0, 0, []), (256, 0, 1, 0, 0, 0, []), (257, 1, 1, 0, 0, 0, []), (258, 40, 3, 5, 14, 0, []), (261, 0, 1, 0, 0, 1, []), (262, 48, 0, 0, 0, 0, [])]
set_option maxRecDepth 20000 in
theorem qX12_onef : f_all yX12_one YX12_one pX12_onef :=
  ⟨f_aload_n (n := 0) (e_dx DX12_one_0 0 rfl) rfl,
  f_bipush (e_dx DX12_one_0 1 rfl) ⟨by decide, by decide⟩,
  x_callV (e_dx DX12_one_0 2 rfl) mwX12_isWord vwX12_isWord cX12_348 rfl,
  f_if_eq (e_dx DX12_one_0 3 rfl) rfl,
  f_aload_n (n := 0) (e_dx DX12_one_0 4 rfl) rfl,
  x_callV (e_dx DX12_one_0 5 rfl) mwX12_opens vwX12_opens cX12_818 rfl,
  f_if_eq (e_dx DX12_one_0 6 rfl) rfl,
  f_aload_n (n := 0) (e_dx DX12_one_0 7 rfl) rfl,
  x_callV (e_dx DX12_one_0 8 rfl) mwX12_one vwX12_one cX12_830 rfl,
  f_if_ne (e_dx DX12_one_0 9 rfl) rfl,
  f_iconst (e_dx DX12_one_0 10 rfl) ⟨by decide, by decide⟩,
  ⟨(e_dx DX12_one_0 11 rfl), rfl⟩,
  f_aload_n (n := 0) (e_dx DX12_one_0 12 rfl) rfl,
  f_g20 (e_dx DX12_one_0 13 rfl),
  f_getf (e_dx DX12_one_0 14 rfl) fX12_811 rfl (by decide) (by decide) (by decide),
  f_iconst (e_dx DX12_one_0 15 rfl) ⟨by decide, by decide⟩,
  f_isub (e_dx DX12_one_0 16 rfl),
  f_putn (e_dx DX12_one_0 17 rfl) fX12_811 (fun q hq => by cases hq; rfl) rfl (Or.inl rfl) (by decide),
  f_aload_n (n := 0) (e_dx DX12_one_0 18 rfl) rfl,
  f_bipush (e_dx DX12_one_0 19 rfl) ⟨by decide, by decide⟩,
  f_iconst (e_dx DX12_one_0 20 rfl) ⟨by decide, by decide⟩,
  f_iconst (e_dx DX12_one_0 21 rfl) ⟨by decide, by decide⟩,
  f_lconst (n := 0) (e_dx DX12_one_0 22 rfl) rfl,
  x_callV (e_dx DX12_one_0 23 rfl) mwX12_put vwX12_put cX12_814 rfl,
  f_iconst (e_dx DX12_one_0 24 rfl) ⟨by decide, by decide⟩,
  ⟨(e_dx DX12_one_0 25 rfl), rfl⟩,
  f_aload_n (n := 0) (e_dx DX12_one_0 26 rfl) rfl,
  f_bipush (e_dx DX12_one_0 27 rfl) ⟨by decide, by decide⟩,
  x_callV (e_dx DX12_one_0 28 rfl) mwX12_isSign vwX12_isSign cX12_354 rfl,
  f_if_eq (e_dx DX12_one_0 29 rfl) rfl,
  f_aload_n (n := 0) (e_dx DX12_one_0 30 rfl) rfl,
  x_callV (e_dx DX12_one_0 31 rfl) mwX12_opens vwX12_opens cX12_818 rfl,
  f_if_eq (e_dx DX12_one_0 32 rfl) rfl,
  f_aload_n (n := 0) (e_dx DX12_one_0 33 rfl) rfl,
  x_callV (e_dx DX12_one_0 34 rfl) mwX12_cond vwX12_cond cX12_833 rfl,
  f_if_eq (e_dx DX12_one_0 35 rfl) rfl,
  f_aload_n (n := 0) (e_dx DX12_one_0 36 rfl) rfl,
  f_bipush (e_dx DX12_one_0 37 rfl) ⟨by decide, by decide⟩,
  x_callV (e_dx DX12_one_0 38 rfl) mwX12_mustSign vwX12_mustSign cX12_369 rfl,
  f_if_ne (e_dx DX12_one_0 39 rfl) rfl,
  f_iconst (e_dx DX12_one_1 0 rfl) ⟨by decide, by decide⟩,
  ⟨(e_dx DX12_one_1 1 rfl), rfl⟩,
  f_aload_n (n := 0) (e_dx DX12_one_1 2 rfl) rfl,
  f_g20 (e_dx DX12_one_1 3 rfl),
  f_getf (e_dx DX12_one_1 4 rfl) fX12_811 rfl (by decide) (by decide) (by decide),
  f_iconst (e_dx DX12_one_1 5 rfl) ⟨by decide, by decide⟩,
  f_isub (e_dx DX12_one_1 6 rfl),
  f_putn (e_dx DX12_one_1 7 rfl) fX12_811 (fun q hq => by cases hq; rfl) rfl (Or.inl rfl) (by decide),
  f_iconst (e_dx DX12_one_1 8 rfl) ⟨by decide, by decide⟩,
  ⟨(e_dx DX12_one_1 9 rfl), rfl⟩,
  f_aload_n (n := 0) (e_dx DX12_one_1 10 rfl) rfl,
  f_bipush (e_dx DX12_one_1 11 rfl) ⟨by decide, by decide⟩,
  x_callV (e_dx DX12_one_1 12 rfl) mwX12_isWord vwX12_isWord cX12_348 rfl,
  f_if_ne (e_dx DX12_one_1 13 rfl) rfl,
  f_aload_n (n := 0) (e_dx DX12_one_1 14 rfl) rfl,
  f_iconst (e_dx DX12_one_1 15 rfl) ⟨by decide, by decide⟩,
  x_callV (e_dx DX12_one_1 16 rfl) mwX12_isWord vwX12_isWord cX12_348 rfl,
  f_if_ne (e_dx DX12_one_1 17 rfl) rfl,
  f_aload_n (n := 0) (e_dx DX12_one_1 18 rfl) rfl,
  f_bipush (e_dx DX12_one_1 19 rfl) ⟨by decide, by decide⟩,
  x_callV (e_dx DX12_one_1 20 rfl) mwX12_isWord vwX12_isWord cX12_348 rfl,
  f_if_ne (e_dx DX12_one_1 21 rfl) rfl,
  f_aload_n (n := 0) (e_dx DX12_one_1 22 rfl) rfl,
  f_bipush (e_dx DX12_one_1 23 rfl) ⟨by decide, by decide⟩,
  x_callV (e_dx DX12_one_1 24 rfl) mwX12_isWord vwX12_isWord cX12_348 rfl,
  f_if_eq (e_dx DX12_one_1 25 rfl) rfl,
  trivial,
  f_aload_n (n := 0) (e_dx DX12_one_1 26 rfl) rfl,
  f_getf (e_dx DX12_one_1 27 rfl) fX12_306 rfl (by decide) (by decide) (by decide),
  f_istore_n (n := 1) (e_dx DX12_one_1 28 rfl) rfl (by decide),
  f_aload_n (n := 0) (e_dx DX12_one_1 29 rfl) rfl,
  f_iconst (e_dx DX12_one_1 30 rfl) ⟨by decide, by decide⟩,
  x_callV (e_dx DX12_one_1 31 rfl) mwX12_good vwX12_good cX12_351 rfl,
  f_if_ne (e_dx DX12_one_1 32 rfl) rfl,
  f_iconst (e_dx DX12_one_1 33 rfl) ⟨by decide, by decide⟩,
  ⟨(e_dx DX12_one_1 34 rfl), rfl⟩,
  f_aload_n (n := 0) (e_dx DX12_one_1 35 rfl) rfl,
  x_callV (e_dx DX12_one_1 36 rfl) mwX12_isName vwX12_isName cX12_359 rfl,
  f_if_ne (e_dx DX12_one_1 37 rfl) rfl,
  f_aload_n (n := 0) (e_dx DX12_one_1 38 rfl) rfl,
  f_iconst (e_dx DX12_one_1 39 rfl) ⟨by decide, by decide⟩,
  x_callV (e_dx DX12_one_2 0 rfl) mwX12_wrong vwX12_wrong cX12_342 rfl,
  ⟨(e_dx DX12_one_2 1 rfl), rfl⟩,
  f_aload_n (n := 0) (e_dx DX12_one_2 2 rfl) rfl,
  f_bipush (e_dx DX12_one_2 3 rfl) ⟨by decide, by decide⟩,
  f_iload_n (n := 1) (e_dx DX12_one_2 4 rfl) rfl,
  f_iconst (e_dx DX12_one_2 5 rfl) ⟨by decide, by decide⟩,
  f_aload_n (n := 0) (e_dx DX12_one_2 6 rfl) rfl,
  f_getL (e_dx DX12_one_2 7 rfl) fX12_332 rfl (by decide),
  x_callV (e_dx DX12_one_2 8 rfl) mwX12_put vwX12_put cX12_814 rfl,
  f_aload_n (n := 0) (e_dx DX12_one_2 9 rfl) rfl,
  f_iconst (e_dx DX12_one_2 10 rfl) ⟨by decide, by decide⟩,
  x_callV (e_dx DX12_one_2 11 rfl) mwX12_good vwX12_good cX12_351 rfl,
  ⟨(e_dx DX12_one_2 12 rfl), rfl⟩,
  f_aload_n (n := 0) (e_dx DX12_one_2 13 rfl) rfl,
  f_bipush (e_dx DX12_one_2 14 rfl) ⟨by decide, by decide⟩,
  x_callV (e_dx DX12_one_2 15 rfl) mwX12_isWord vwX12_isWord cX12_348 rfl,
  f_if_eq (e_dx DX12_one_2 16 rfl) rfl,
  f_aload_n (n := 0) (e_dx DX12_one_2 17 rfl) rfl,
  f_bipush (e_dx DX12_one_2 18 rfl) ⟨by decide, by decide⟩,
  f_bipush (e_dx DX12_one_2 19 rfl) ⟨by decide, by decide⟩,
  f_iconst (e_dx DX12_one_2 20 rfl) ⟨by decide, by decide⟩,
  f_lconst (n := 0) (e_dx DX12_one_2 21 rfl) rfl,
  x_callV (e_dx DX12_one_2 22 rfl) mwX12_put vwX12_put cX12_814 rfl,
  f_aload_n (n := 0) (e_dx DX12_one_2 23 rfl) rfl,
  f_iconst (e_dx DX12_one_2 24 rfl) ⟨by decide, by decide⟩,
  x_callV (e_dx DX12_one_2 25 rfl) mwX12_good vwX12_good cX12_351 rfl,
  ⟨(e_dx DX12_one_2 26 rfl), rfl⟩,
  f_aload_n (n := 0) (e_dx DX12_one_2 27 rfl) rfl,
  f_bipush (e_dx DX12_one_2 28 rfl) ⟨by decide, by decide⟩,
  x_callV (e_dx DX12_one_2 29 rfl) mwX12_isWord vwX12_isWord cX12_348 rfl,
  f_if_eq (e_dx DX12_one_2 30 rfl) rfl,
  f_aload_n (n := 0) (e_dx DX12_one_2 31 rfl) rfl,
  x_callV (e_dx DX12_one_2 32 rfl) mwX12_has vwX12_has cX12_836 rfl,
  ⟨(e_dx DX12_one_2 33 rfl), rfl⟩,
  f_aload_n (n := 0) (e_dx DX12_one_2 34 rfl) rfl,
  x_callV (e_dx DX12_one_2 35 rfl) mwX12_value vwX12_value cX12_821 rfl,
  f_if_ne (e_dx DX12_one_2 36 rfl) rfl,
  f_iconst (e_dx DX12_one_2 37 rfl) ⟨by decide, by decide⟩,
  ⟨(e_dx DX12_one_2 38 rfl), rfl⟩,
  f_aload_n (n := 0) (e_dx DX12_one_2 39 rfl) rfl,
  x_callV (e_dx DX12_one_3 0 rfl) mwX12_compares vwX12_compares cX12_839 rfl,
  f_istore_n (n := 1) (e_dx DX12_one_3 1 rfl) rfl (by decide),
  f_iload_n (n := 1) (e_dx DX12_one_3 2 rfl) rfl,
  f_if_ge (e_dx DX12_one_3 3 rfl) rfl,
  f_aload_n (n := 0) (e_dx DX12_one_3 4 rfl) rfl,
  f_iconst (e_dx DX12_one_3 5 rfl) ⟨by decide, by decide⟩,
  x_callV (e_dx DX12_one_3 6 rfl) mwX12_wrong vwX12_wrong cX12_342 rfl,
  ⟨(e_dx DX12_one_3 7 rfl), rfl⟩,
  f_aload_n (n := 0) (e_dx DX12_one_3 8 rfl) rfl,
  f_iconst (e_dx DX12_one_3 9 rfl) ⟨by decide, by decide⟩,
  x_callV (e_dx DX12_one_3 10 rfl) mwX12_good vwX12_good cX12_351 rfl,
  f_if_eq (e_dx DX12_one_3 11 rfl) rfl,
  f_aload_n (n := 0) (e_dx DX12_one_3 12 rfl) rfl,
  x_callV (e_dx DX12_one_3 13 rfl) mwX12_value vwX12_value cX12_821 rfl,
  f_if_ne (e_dx DX12_one_3 14 rfl) rfl,
  f_iconst (e_dx DX12_one_3 15 rfl) ⟨by decide, by decide⟩,
  ⟨(e_dx DX12_one_3 16 rfl), rfl⟩,
  f_aload_n (n := 0) (e_dx DX12_one_3 17 rfl) rfl,
  f_iload_n (n := 1) (e_dx DX12_one_3 18 rfl) rfl,
  f_iconst (e_dx DX12_one_3 19 rfl) ⟨by decide, by decide⟩,
  f_iconst (e_dx DX12_one_3 20 rfl) ⟨by decide, by decide⟩,
  f_lconst (n := 0) (e_dx DX12_one_3 21 rfl) rfl,
  x_callV (e_dx DX12_one_3 22 rfl) mwX12_put vwX12_put cX12_814 rfl,
  f_iconst (e_dx DX12_one_3 23 rfl) ⟨by decide, by decide⟩,
  ⟨(e_dx DX12_one_3 24 rfl), rfl⟩, trivial⟩
def lX12_one (c_X12_isWord : Int → e_M → (Int → Prop) → Prop) (c_X12_opens : e_M → (Int → e_M → Prop) → Prop) (c_X12_one : e_M → (Int → e_M → Prop) → Prop) (c_X12_put : Int → Int → Int → Int → e_M → (e_M → Prop) → Prop) (c_X12_isSign : Int → e_M → (Int → Prop) → Prop) (c_X12_cond : e_M → (Int → e_M → Prop) → Prop) (c_X12_mustSign : Int → e_M → (Int → e_M → Prop) → Prop) (c_X12_good : Int → e_M → (Int → e_M → Prop) → Prop) (c_X12_isName : e_M → (Int → Prop) → Prop) (c_X12_wrong : Int → e_M → (Int → e_M → Prop) → Prop) (c_X12_has : e_M → (Int → e_M → Prop) → Prop) (c_X12_value : e_M → (Int → e_M → Prop) → Prop) (c_X12_compares : e_M → (Int → Prop) → Prop) : List (Nat × f_Wt) := [(0, f_wm [(4466, 12, 123), (1, 0, 0)] (fun ar M R => c_X12_isWord (f_vi (f_nth ar 1)) M (fun r => R (some (.inl r)) M))), (1, f_wm [(4466, 12, 123)] (fun ar M R => c_X12_opens  M (fun r M => R (some (.inl r)) M))), (2, f_wm [(4466, 12, 123)] (fun ar M R => c_X12_one  M (fun r M => R (some (.inl r)) M))), (3, f_wm [(4466, 12, 123), (1, 0, 0), (1, 0, 0), (1, 0, 0), (2, 0, 0)] (fun ar M R => c_X12_put (f_vi (f_nth ar 1)) (f_vi (f_nth ar 2)) (f_vi (f_nth ar 3)) (f_vi (f_nth ar 4)) M (fun M => R none M))), (4, f_wm [(4466, 12, 123), (1, 0, 0)] (fun ar M R => c_X12_isSign (f_vi (f_nth ar 1)) M (fun r => R (some (.inl r)) M))), (5, f_wm [(4466, 12, 123)] (fun ar M R => c_X12_cond  M (fun r M => R (some (.inl r)) M))), (6, f_wm [(4466, 12, 123), (1, 0, 0)] (fun ar M R => c_X12_mustSign (f_vi (f_nth ar 1)) M (fun r M => R (some (.inl r)) M))), (7, f_wm [(4466, 12, 123), (1, 0, 0)] (fun ar M R => c_X12_good (f_vi (f_nth ar 1)) M (fun r M => R (some (.inl r)) M))), (8, f_wm [(4466, 12, 123)] (fun ar M R => c_X12_isName  M (fun r => R (some (.inl r)) M))), (9, f_wm [(4466, 12, 123), (1, 0, 0)] (fun ar M R => c_X12_wrong (f_vi (f_nth ar 1)) M (fun r M => R (some (.inl r)) M))), (10, f_wm [(4466, 12, 123)] (fun ar M R => c_X12_has  M (fun r M => R (some (.inl r)) M))), (11, f_wm [(4466, 12, 123)] (fun ar M R => c_X12_value  M (fun r M => R (some (.inl r)) M))), (12, f_wm [(4466, 12, 123)] (fun ar M R => c_X12_compares  M (fun r => R (some (.inl r)) M)))]
set_option maxRecDepth 20000 in
theorem BX12_one_127 {sh : Nat → Nat × Nat} {t : Nat} {rm : Nat × Nat × Nat} {cs : Nat × Nat} {R : f_Rt} {D : Nat} {c_X12_isWord : Int → e_M → (Int → Prop) → Prop} {c_X12_opens : e_M → (Int → e_M → Prop) → Prop} {c_X12_one : e_M → (Int → e_M → Prop) → Prop} {c_X12_put : Int → Int → Int → Int → e_M → (e_M → Prop) → Prop} {c_X12_isSign : Int → e_M → (Int → Prop) → Prop} {c_X12_cond : e_M → (Int → e_M → Prop) → Prop} {c_X12_mustSign : Int → e_M → (Int → e_M → Prop) → Prop} {c_X12_good : Int → e_M → (Int → e_M → Prop) → Prop} {c_X12_isName : e_M → (Int → Prop) → Prop} {c_X12_wrong : Int → e_M → (Int → e_M → Prop) → Prop} {c_X12_has : e_M → (Int → e_M → Prop) → Prop} {c_X12_value : e_M → (Int → e_M → Prop) → Prop} {c_X12_compares : e_M → (Int → Prop) → Prop} {M : e_M} (C : f_Hy sh t yX12_one rm cs D (lX12_one c_X12_isWord c_X12_opens c_X12_one c_X12_put c_X12_isSign c_X12_cond c_X12_mustSign c_X12_good c_X12_isName c_X12_wrong c_X12_has c_X12_value c_X12_compares) R) (h : VX12_one_127 c_X12_isWord c_X12_opens c_X12_one c_X12_put c_X12_isSign c_X12_cond c_X12_mustSign c_X12_good c_X12_isName c_X12_wrong c_X12_has c_X12_value c_X12_compares (fun r M => R (some (.inl r)) M) M) : f_E sh t YX12_one rm cs (f_Q sh t R) 127 [.inr (.inr (.inl (12, 123, 4456))), .inr (.inr (.inr ()))] [] M :=
  f_go (KC := f_kc []) C qX12_onef f_kc_nil 148 67 h
set_option maxRecDepth 20000 in
theorem BX12_one {sh : Nat → Nat × Nat} {t : Nat} {rm : Nat × Nat × Nat} {cs : Nat × Nat} {R : f_Rt} {D : Nat} {c_X12_isWord : Int → e_M → (Int → Prop) → Prop} {c_X12_opens : e_M → (Int → e_M → Prop) → Prop} {c_X12_one : e_M → (Int → e_M → Prop) → Prop} {c_X12_put : Int → Int → Int → Int → e_M → (e_M → Prop) → Prop} {c_X12_isSign : Int → e_M → (Int → Prop) → Prop} {c_X12_cond : e_M → (Int → e_M → Prop) → Prop} {c_X12_mustSign : Int → e_M → (Int → e_M → Prop) → Prop} {c_X12_good : Int → e_M → (Int → e_M → Prop) → Prop} {c_X12_isName : e_M → (Int → Prop) → Prop} {c_X12_wrong : Int → e_M → (Int → e_M → Prop) → Prop} {c_X12_has : e_M → (Int → e_M → Prop) → Prop} {c_X12_value : e_M → (Int → e_M → Prop) → Prop} {c_X12_compares : e_M → (Int → Prop) → Prop} {k127 : e_M → Prop} {M : e_M} (C : f_Hy sh t yX12_one rm cs D (lX12_one c_X12_isWord c_X12_opens c_X12_one c_X12_put c_X12_isSign c_X12_cond c_X12_mustSign c_X12_good c_X12_isName c_X12_wrong c_X12_has c_X12_value c_X12_compares) R) (h127 : ∀ (M : e_M), k127 M → f_E sh t YX12_one rm cs (f_Q sh t R) 127 [.inr (.inr (.inl (12, 123, 4456))), .inr (.inr (.inr ()))] [] M) (h : VX12_one c_X12_isWord c_X12_opens c_X12_one c_X12_put c_X12_isSign c_X12_cond c_X12_mustSign c_X12_good c_X12_isName c_X12_wrong c_X12_has c_X12_value c_X12_compares k127 (fun r M => R (some (.inl r)) M) M) : f_E sh t YX12_one rm cs (f_Q sh t R) 0 [.inr (.inr (.inl (12, 123, 4456))), .inr (.inr (.inr ()))] [] M :=
  f_go (KC := f_kc [(127, f_pl [(4466, 12, 123), (0, 0, 0)] [] (fun ls st M => k127 M))]) C qX12_onef (f_kc_cons (f_pl_ok rfl (fun ls st M h => h127  M h)) f_kc_nil) 148 0 h
def WX12_one_127 (c_X12_one : e_M → (Int → e_M → Prop) → Prop) (c_X12_cond : e_M → (Int → e_M → Prop) → Prop) (Q : Int → e_M → Prop) (M : e_M) : Prop :=
  VX12_one_127 WX12_isWord WX12_opens c_X12_one WX12_put WX12_isSign c_X12_cond WX12_mustSign WX12_good WX12_isName WX12_wrong WX12_has (CX12_value 13) WX12_compares Q M
def WX12_one (c_X12_one : e_M → (Int → e_M → Prop) → Prop) (c_X12_cond : e_M → (Int → e_M → Prop) → Prop) (M : e_M) (Q : Int → e_M → Prop) : Prop :=
  VX12_one WX12_isWord WX12_opens c_X12_one WX12_put WX12_isSign c_X12_cond WX12_mustSign WX12_good WX12_isName WX12_wrong WX12_has (CX12_value 13) WX12_compares (WX12_one_127 c_X12_one c_X12_cond Q) Q M
theorem PX12_one_127 {sh : Nat → Nat × Nat} {t : Nat} {rm : Nat × Nat × Nat} {cs : Nat × Nat} {R : f_Rt} {D : Nat} {c_X12_one : e_M → (Int → e_M → Prop) → Prop} {c_X12_cond : e_M → (Int → e_M → Prop) → Prop} {M : e_M} (C : f_Hy sh t yX12_one rm cs D (lX12_one WX12_isWord WX12_opens c_X12_one WX12_put WX12_isSign c_X12_cond WX12_mustSign WX12_good WX12_isName WX12_wrong WX12_has (CX12_value 13) WX12_compares) R) (h : WX12_one_127 c_X12_one c_X12_cond (fun r M => R (some (.inl r)) M) M) : f_E sh t YX12_one rm cs (f_Q sh t R) 127 [.inr (.inr (.inl (12, 123, 4456))), .inr (.inr (.inr ()))] [] M :=
  BX12_one_127 C h
theorem PX12_one {sh : Nat → Nat × Nat} {t : Nat} {rm : Nat × Nat × Nat} {cs : Nat × Nat} {R : f_Rt} {D : Nat} {c_X12_one : e_M → (Int → e_M → Prop) → Prop} {c_X12_cond : e_M → (Int → e_M → Prop) → Prop} {M : e_M} (C : f_Hy sh t yX12_one rm cs D (lX12_one WX12_isWord WX12_opens c_X12_one WX12_put WX12_isSign c_X12_cond WX12_mustSign WX12_good WX12_isName WX12_wrong WX12_has (CX12_value 13) WX12_compares) R) (h : WX12_one c_X12_one c_X12_cond M (fun r M => R (some (.inl r)) M)) : f_E sh t YX12_one rm cs (f_Q sh t R) 0 [.inr (.inr (.inl (12, 123, 4456))), .inr (.inr (.inr ()))] [] M :=
  BX12_one C (fun M h => PX12_one_127 C h) h
def wX12_one (c_X12_one : e_M → (Int → e_M → Prop) → Prop) (c_X12_cond : e_M → (Int → e_M → Prop) → Prop) : f_Wt := f_wm [(4466, 12, 123)] (fun ar M R => WX12_one c_X12_one c_X12_cond M (fun r M => R (some (.inl r)) M))
theorem TX12_one {sh : Nat → Nat × Nat} {t : Nat} {c_X12_one : e_M → (Int → e_M → Prop) → Prop} {c_X12_cond : e_M → (Int → e_M → Prop) → Prop} {D : Nat} (hD : 59 ≤ D) (o0 : f_Mt sh t YX12_one (D - 1) (f_wm [(4466, 12, 123)] (fun ar M R => c_X12_one  M (fun r M => R (some (.inl r)) M)))) (o1 : f_Mt sh t YX12_cond (D - 1) (f_wm [(4466, 12, 123)] (fun ar M R => c_X12_cond  M (fun r M => R (some (.inl r)) M)))) : f_Mt sh t YX12_one D (wX12_one c_X12_one c_X12_cond) :=
  f_Mt_of (k := 1) (Nat.le_of_ble_eq_true rfl) rfl rfl (fun ar M R rm cs h1 h2 h3 hX h => PX12_one ⟨by omega, h1, h2, h3, ⟨(f_Mt.up (by omega) TX12_isWord), (f_Mt.up (by omega) TX12_opens), (f_Mt.up (by omega) o0), (f_Mt.up (by omega) TX12_put), (f_Mt.up (by omega) TX12_isSign), (f_Mt.up (by omega) o1), (f_Mt.up (by omega) TX12_mustSign), (f_Mt.up (by omega) TX12_good), (f_Mt.up (by omega) TX12_isName), (f_Mt.up (by omega) TX12_wrong), (f_Mt.up (by omega) TX12_has), (f_Mt.up (by have := hD; omega) (TCX12_value 13)), (f_Mt.up (by omega) TX12_compares), trivial⟩, hX⟩ h)
def VX12_both_9 (c_X12_one : e_M → (Int → e_M → Prop) → Prop) (c_X12_isWord : Int → e_M → (Int → Prop) → Prop) (c_X12_good : Int → e_M → (Int → e_M → Prop) → Prop) (c_X12_put : Int → Int → Int → Int → e_M → (e_M → Prop) → Prop) (k9 : e_M → Prop) (Q : Int → e_M → Prop) (M : e_M) : Prop :=
  (c_X12_isWord 55 M (fun r1 => ((r1 = 0 → (Q 1 M)) ∧ (¬ r1 = 0 → (c_X12_good 0 M (fun r2 M3 => ((r2 = 0 → (Q 0 M3)) ∧ (¬ r2 = 0 → (c_X12_one M3 (fun r4 M5 => ((¬ r4 = 0 → (c_X12_put 12 0 0 0 M5 (fun M6 => (k9 M6)))) ∧ (r4 = 0 → (Q 0 M5)))))))))))))
def VX12_both (c_X12_one : e_M → (Int → e_M → Prop) → Prop) (c_X12_isWord : Int → e_M → (Int → Prop) → Prop) (c_X12_good : Int → e_M → (Int → e_M → Prop) → Prop) (c_X12_put : Int → Int → Int → Int → e_M → (e_M → Prop) → Prop) (k9 : e_M → Prop) (Q : Int → e_M → Prop) (M : e_M) : Prop :=
  (c_X12_one M (fun r1 M2 => ((¬ r1 = 0 → (k9 M2)) ∧ (r1 = 0 → (Q 0 M2)))))
def yX12_both (i : Nat) : e_Y := x_get YX12_both [YX12_one, YX12_isWord, YX12_good, YX12_put] i
def pX12_bothf : List x_I := [(0, 4, 1, 0, 0, 0, []), (1, 40, 0, 1, 14, 0, []), (4, 17, 9, 1, 6, 0, []), (7, 0, 1, 0, 0, 0, []), (8, 48, 0, 0, 0, 0, []), (9, 49, 0, 0, 0, 0, []), (9, 4, 1, 0, 0, 0, []), (10, 0, 2, 0, 0, 55, []), (12, 40, 1, 2, 14, 0, []), (15, 17, 47, 0, 27, 0, []), (18, 4, 1, 0, 0, 0, []), (19, 0, 1, 0, 0, 0, []), (20, 40, 2, 2, 14, 0, []), (23, 17, 33, 0, 18, 0, []), (26, 4, 1, 0, 0, 0, []), (27, 40, 0, 1, 14, 0, []), (30, 17, 35, 1, 20, 0, []), (33, 0, 1, 0, 0, 0, []), (34, 48, 0, 0, 0, 0, []), (35, 4, 1, 0, 0, 0, []), (36, 0, 2, 0, 0, 12, []), (38, 0, 1, 0, 0, 0, []), (39, 0, 1, 0, 0, 0, []), (40, 1, 1, 0, 0, 0, []), (41, 40, 3, 5, 14, 0, []), (44, 19, 9, 0, 6, 0, []), (47, 0, 1, 0, 0, 1, []), (48, 48, 0, 0, 0, 0, [])]
set_option maxRecDepth 20000 in
theorem qX12_bothf : f_all yX12_both YX12_both pX12_bothf :=
  ⟨f_aload_n (n := 0) (e_dx DX12_both_0 0 rfl) rfl,
  x_callV (e_dx DX12_both_0 1 rfl) mwX12_one vwX12_one cX12_830 rfl,
  f_if_ne (e_dx DX12_both_0 2 rfl) rfl,
  f_iconst (e_dx DX12_both_0 3 rfl) ⟨by decide, by decide⟩,
  ⟨(e_dx DX12_both_0 4 rfl), rfl⟩,
  trivial,
  f_aload_n (n := 0) (e_dx DX12_both_0 5 rfl) rfl,
  f_bipush (e_dx DX12_both_0 6 rfl) ⟨by decide, by decide⟩,
  x_callV (e_dx DX12_both_0 7 rfl) mwX12_isWord vwX12_isWord cX12_348 rfl,
  f_if_eq (e_dx DX12_both_0 8 rfl) rfl,
  f_aload_n (n := 0) (e_dx DX12_both_0 9 rfl) rfl,
  f_iconst (e_dx DX12_both_0 10 rfl) ⟨by decide, by decide⟩,
  x_callV (e_dx DX12_both_0 11 rfl) mwX12_good vwX12_good cX12_351 rfl,
  f_if_eq (e_dx DX12_both_0 12 rfl) rfl,
  f_aload_n (n := 0) (e_dx DX12_both_0 13 rfl) rfl,
  x_callV (e_dx DX12_both_0 14 rfl) mwX12_one vwX12_one cX12_830 rfl,
  f_if_ne (e_dx DX12_both_0 15 rfl) rfl,
  f_iconst (e_dx DX12_both_0 16 rfl) ⟨by decide, by decide⟩,
  ⟨(e_dx DX12_both_0 17 rfl), rfl⟩,
  f_aload_n (n := 0) (e_dx DX12_both_0 18 rfl) rfl,
  f_bipush (e_dx DX12_both_0 19 rfl) ⟨by decide, by decide⟩,
  f_iconst (e_dx DX12_both_0 20 rfl) ⟨by decide, by decide⟩,
  f_iconst (e_dx DX12_both_0 21 rfl) ⟨by decide, by decide⟩,
  f_lconst (n := 0) (e_dx DX12_both_0 22 rfl) rfl,
  x_callV (e_dx DX12_both_0 23 rfl) mwX12_put vwX12_put cX12_814 rfl,
  f_g19 (e_dx DX12_both_0 24 rfl) rfl,
  f_iconst (e_dx DX12_both_0 25 rfl) ⟨by decide, by decide⟩,
  ⟨(e_dx DX12_both_0 26 rfl), rfl⟩, trivial⟩
def lX12_both (c_X12_one : e_M → (Int → e_M → Prop) → Prop) (c_X12_isWord : Int → e_M → (Int → Prop) → Prop) (c_X12_good : Int → e_M → (Int → e_M → Prop) → Prop) (c_X12_put : Int → Int → Int → Int → e_M → (e_M → Prop) → Prop) : List (Nat × f_Wt) := [(0, f_wm [(4466, 12, 123)] (fun ar M R => c_X12_one  M (fun r M => R (some (.inl r)) M))), (1, f_wm [(4466, 12, 123), (1, 0, 0)] (fun ar M R => c_X12_isWord (f_vi (f_nth ar 1)) M (fun r => R (some (.inl r)) M))), (2, f_wm [(4466, 12, 123), (1, 0, 0)] (fun ar M R => c_X12_good (f_vi (f_nth ar 1)) M (fun r M => R (some (.inl r)) M))), (3, f_wm [(4466, 12, 123), (1, 0, 0), (1, 0, 0), (1, 0, 0), (2, 0, 0)] (fun ar M R => c_X12_put (f_vi (f_nth ar 1)) (f_vi (f_nth ar 2)) (f_vi (f_nth ar 3)) (f_vi (f_nth ar 4)) M (fun M => R none M)))]
set_option maxRecDepth 20000 in
theorem BX12_both_9 {sh : Nat → Nat × Nat} {t : Nat} {rm : Nat × Nat × Nat} {cs : Nat × Nat} {R : f_Rt} {D : Nat} {c_X12_one : e_M → (Int → e_M → Prop) → Prop} {c_X12_isWord : Int → e_M → (Int → Prop) → Prop} {c_X12_good : Int → e_M → (Int → e_M → Prop) → Prop} {c_X12_put : Int → Int → Int → Int → e_M → (e_M → Prop) → Prop} {k9 : e_M → Prop} {M : e_M} (C : f_Hy sh t yX12_both rm cs D (lX12_both c_X12_one c_X12_isWord c_X12_good c_X12_put) R) (h9 : ∀ (M : e_M), k9 M → f_E sh t YX12_both rm cs (f_Q sh t R) 9 [.inr (.inr (.inl (12, 123, 4456)))] [] M) (h : VX12_both_9 c_X12_one c_X12_isWord c_X12_good c_X12_put k9 (fun r M => R (some (.inl r)) M) M) : f_E sh t YX12_both rm cs (f_Q sh t R) 9 [.inr (.inr (.inl (12, 123, 4456)))] [] M :=
  f_go (KC := f_kc [(9, f_pl [(4466, 12, 123)] [] (fun ls st M => k9 M))]) C qX12_bothf (f_kc_cons (f_pl_ok rfl (fun ls st M h => h9  M h)) f_kc_nil) 30 6 h
set_option maxRecDepth 20000 in
theorem BX12_both {sh : Nat → Nat × Nat} {t : Nat} {rm : Nat × Nat × Nat} {cs : Nat × Nat} {R : f_Rt} {D : Nat} {c_X12_one : e_M → (Int → e_M → Prop) → Prop} {c_X12_isWord : Int → e_M → (Int → Prop) → Prop} {c_X12_good : Int → e_M → (Int → e_M → Prop) → Prop} {c_X12_put : Int → Int → Int → Int → e_M → (e_M → Prop) → Prop} {k9 : e_M → Prop} {M : e_M} (C : f_Hy sh t yX12_both rm cs D (lX12_both c_X12_one c_X12_isWord c_X12_good c_X12_put) R) (h9 : ∀ (M : e_M), k9 M → f_E sh t YX12_both rm cs (f_Q sh t R) 9 [.inr (.inr (.inl (12, 123, 4456)))] [] M) (h : VX12_both c_X12_one c_X12_isWord c_X12_good c_X12_put k9 (fun r M => R (some (.inl r)) M) M) : f_E sh t YX12_both rm cs (f_Q sh t R) 0 [.inr (.inr (.inl (12, 123, 4456)))] [] M :=
  f_go (KC := f_kc [(9, f_pl [(4466, 12, 123)] [] (fun ls st M => k9 M))]) C qX12_bothf (f_kc_cons (f_pl_ok rfl (fun ls st M h => h9  M h)) f_kc_nil) 30 0 h
def WX12_both_9 (c_X12_one : e_M → (Int → e_M → Prop) → Prop) (c_X12_cond : e_M → (Int → e_M → Prop) → Prop) (Q : Int → e_M → Prop) : Nat → e_M → Prop
  | 0, _ => False
  | n + 1, M =>
    VX12_both_9 (WX12_one c_X12_one c_X12_cond) WX12_isWord WX12_good WX12_put (WX12_both_9 c_X12_one c_X12_cond Q n) Q M
def WX12_both (c_X12_one : e_M → (Int → e_M → Prop) → Prop) (c_X12_cond : e_M → (Int → e_M → Prop) → Prop) (M : e_M) (Q : Int → e_M → Prop) : Prop :=
  VX12_both (WX12_one c_X12_one c_X12_cond) WX12_isWord WX12_good WX12_put (fun M => ∃ j, WX12_both_9 c_X12_one c_X12_cond Q j M) Q M
theorem PX12_both_9 {sh : Nat → Nat × Nat} {t : Nat} {rm : Nat × Nat × Nat} {cs : Nat × Nat} {R : f_Rt} {D : Nat} {c_X12_one : e_M → (Int → e_M → Prop) → Prop} {c_X12_cond : e_M → (Int → e_M → Prop) → Prop} (C : f_Hy sh t yX12_both rm cs D (lX12_both (WX12_one c_X12_one c_X12_cond) WX12_isWord WX12_good WX12_put) R) : ∀ (n : Nat) (M : e_M), WX12_both_9 c_X12_one c_X12_cond (fun r M => R (some (.inl r)) M) n M → f_E sh t YX12_both rm cs (f_Q sh t R) 9 [.inr (.inr (.inl (12, 123, 4456)))] [] M := by
  intro n
  induction n with
  | zero => intro M h; exact h.elim
  | succ n ih => intro M h; exact BX12_both_9 C ih h
theorem PX12_both {sh : Nat → Nat × Nat} {t : Nat} {rm : Nat × Nat × Nat} {cs : Nat × Nat} {R : f_Rt} {D : Nat} {c_X12_one : e_M → (Int → e_M → Prop) → Prop} {c_X12_cond : e_M → (Int → e_M → Prop) → Prop} {M : e_M} (C : f_Hy sh t yX12_both rm cs D (lX12_both (WX12_one c_X12_one c_X12_cond) WX12_isWord WX12_good WX12_put) R) (h : WX12_both c_X12_one c_X12_cond M (fun r M => R (some (.inl r)) M)) : f_E sh t YX12_both rm cs (f_Q sh t R) 0 [.inr (.inr (.inl (12, 123, 4456)))] [] M :=
  BX12_both C (fun M ⟨j, h⟩ => PX12_both_9 C j _ h) h
def wX12_both (c_X12_one : e_M → (Int → e_M → Prop) → Prop) (c_X12_cond : e_M → (Int → e_M → Prop) → Prop) : f_Wt := f_wm [(4466, 12, 123)] (fun ar M R => WX12_both c_X12_one c_X12_cond M (fun r M => R (some (.inl r)) M))
theorem TX12_both {sh : Nat → Nat × Nat} {t : Nat} {c_X12_one : e_M → (Int → e_M → Prop) → Prop} {c_X12_cond : e_M → (Int → e_M → Prop) → Prop} {D : Nat} (hD : 62 ≤ D) (o0 : f_Mt sh t YX12_one (D - 2) (f_wm [(4466, 12, 123)] (fun ar M R => c_X12_one  M (fun r M => R (some (.inl r)) M)))) (o1 : f_Mt sh t YX12_cond (D - 2) (f_wm [(4466, 12, 123)] (fun ar M R => c_X12_cond  M (fun r M => R (some (.inl r)) M)))) : f_Mt sh t YX12_both D (wX12_both c_X12_one c_X12_cond) :=
  f_Mt_of (k := 0) (Nat.le_of_ble_eq_true rfl) rfl rfl (fun ar M R rm cs h1 h2 h3 hX h => PX12_both ⟨by omega, h1, h2, h3, ⟨(TX12_one (D := D - 1) (by omega) (f_Mt.up (by omega) o0) (f_Mt.up (by omega) o1)), (f_Mt.up (by omega) TX12_isWord), (f_Mt.up (by omega) TX12_good), (f_Mt.up (by omega) TX12_put), trivial⟩, hX⟩ h)
def VX12_cond_9 (c_X12_both : e_M → (Int → e_M → Prop) → Prop) (c_X12_isWord : Int → e_M → (Int → Prop) → Prop) (c_X12_good : Int → e_M → (Int → e_M → Prop) → Prop) (c_X12_put : Int → Int → Int → Int → e_M → (e_M → Prop) → Prop) (k9 : e_M → Prop) (Q : Int → e_M → Prop) (M : e_M) : Prop :=
  (c_X12_isWord 54 M (fun r1 => ((r1 = 0 → (Q 1 M)) ∧ (¬ r1 = 0 → (c_X12_good 0 M (fun r2 M3 => ((r2 = 0 → (Q 0 M3)) ∧ (¬ r2 = 0 → (c_X12_both M3 (fun r4 M5 => ((¬ r4 = 0 → (c_X12_put 13 0 0 0 M5 (fun M6 => (k9 M6)))) ∧ (r4 = 0 → (Q 0 M5)))))))))))))
def VX12_cond (c_X12_both : e_M → (Int → e_M → Prop) → Prop) (c_X12_isWord : Int → e_M → (Int → Prop) → Prop) (c_X12_good : Int → e_M → (Int → e_M → Prop) → Prop) (c_X12_put : Int → Int → Int → Int → e_M → (e_M → Prop) → Prop) (k9 : e_M → Prop) (Q : Int → e_M → Prop) (M : e_M) : Prop :=
  (c_X12_both M (fun r1 M2 => ((¬ r1 = 0 → (k9 M2)) ∧ (r1 = 0 → (Q 0 M2)))))
def yX12_cond (i : Nat) : e_Y := x_get YX12_cond [YX12_both, YX12_isWord, YX12_good, YX12_put] i
def pX12_condf : List x_I := [(0, 4, 1, 0, 0, 0, []), (1, 40, 0, 1, 14, 0, []), (4, 17, 9, 1, 6, 0, []), (7, 0, 1, 0, 0, 0, []), (8, 48, 0, 0, 0, 0, []), (9, 49, 0, 0, 0, 0, []), (9, 4, 1, 0, 0, 0, []), (10, 0, 2, 0, 0, 54, []), (12, 40, 1, 2, 14, 0, []), (15, 17, 47, 0, 27, 0, []), (18, 4, 1, 0, 0, 0, []), (19, 0, 1, 0, 0, 0, []), (20, 40, 2, 2, 14, 0, []), (23, 17, 33, 0, 18, 0, []), (26, 4, 1, 0, 0, 0, []), (27, 40, 0, 1, 14, 0, []), (30, 17, 35, 1, 20, 0, []), (33, 0, 1, 0, 0, 0, []), (34, 48, 0, 0, 0, 0, []), (35, 4, 1, 0, 0, 0, []), (36, 0, 2, 0, 0, 13, []), (38, 0, 1, 0, 0, 0, []), (39, 0, 1, 0, 0, 0, []), (40, 1, 1, 0, 0, 0, []), (41, 40, 3, 5, 14, 0, []), (44, 19, 9, 0, 6, 0, []), (47, 0, 1, 0, 0, 1, []), (48, 48, 0, 0, 0, 0, [])]
set_option maxRecDepth 20000 in
theorem qX12_condf : f_all yX12_cond YX12_cond pX12_condf :=
  ⟨f_aload_n (n := 0) (e_dx DX12_cond_0 0 rfl) rfl,
  x_callV (e_dx DX12_cond_0 1 rfl) mwX12_both vwX12_both cX12_842 rfl,
  f_if_ne (e_dx DX12_cond_0 2 rfl) rfl,
  f_iconst (e_dx DX12_cond_0 3 rfl) ⟨by decide, by decide⟩,
  ⟨(e_dx DX12_cond_0 4 rfl), rfl⟩,
  trivial,
  f_aload_n (n := 0) (e_dx DX12_cond_0 5 rfl) rfl,
  f_bipush (e_dx DX12_cond_0 6 rfl) ⟨by decide, by decide⟩,
  x_callV (e_dx DX12_cond_0 7 rfl) mwX12_isWord vwX12_isWord cX12_348 rfl,
  f_if_eq (e_dx DX12_cond_0 8 rfl) rfl,
  f_aload_n (n := 0) (e_dx DX12_cond_0 9 rfl) rfl,
  f_iconst (e_dx DX12_cond_0 10 rfl) ⟨by decide, by decide⟩,
  x_callV (e_dx DX12_cond_0 11 rfl) mwX12_good vwX12_good cX12_351 rfl,
  f_if_eq (e_dx DX12_cond_0 12 rfl) rfl,
  f_aload_n (n := 0) (e_dx DX12_cond_0 13 rfl) rfl,
  x_callV (e_dx DX12_cond_0 14 rfl) mwX12_both vwX12_both cX12_842 rfl,
  f_if_ne (e_dx DX12_cond_0 15 rfl) rfl,
  f_iconst (e_dx DX12_cond_0 16 rfl) ⟨by decide, by decide⟩,
  ⟨(e_dx DX12_cond_0 17 rfl), rfl⟩,
  f_aload_n (n := 0) (e_dx DX12_cond_0 18 rfl) rfl,
  f_bipush (e_dx DX12_cond_0 19 rfl) ⟨by decide, by decide⟩,
  f_iconst (e_dx DX12_cond_0 20 rfl) ⟨by decide, by decide⟩,
  f_iconst (e_dx DX12_cond_0 21 rfl) ⟨by decide, by decide⟩,
  f_lconst (n := 0) (e_dx DX12_cond_0 22 rfl) rfl,
  x_callV (e_dx DX12_cond_0 23 rfl) mwX12_put vwX12_put cX12_814 rfl,
  f_g19 (e_dx DX12_cond_0 24 rfl) rfl,
  f_iconst (e_dx DX12_cond_0 25 rfl) ⟨by decide, by decide⟩,
  ⟨(e_dx DX12_cond_0 26 rfl), rfl⟩, trivial⟩
def lX12_cond (c_X12_both : e_M → (Int → e_M → Prop) → Prop) (c_X12_isWord : Int → e_M → (Int → Prop) → Prop) (c_X12_good : Int → e_M → (Int → e_M → Prop) → Prop) (c_X12_put : Int → Int → Int → Int → e_M → (e_M → Prop) → Prop) : List (Nat × f_Wt) := [(0, f_wm [(4466, 12, 123)] (fun ar M R => c_X12_both  M (fun r M => R (some (.inl r)) M))), (1, f_wm [(4466, 12, 123), (1, 0, 0)] (fun ar M R => c_X12_isWord (f_vi (f_nth ar 1)) M (fun r => R (some (.inl r)) M))), (2, f_wm [(4466, 12, 123), (1, 0, 0)] (fun ar M R => c_X12_good (f_vi (f_nth ar 1)) M (fun r M => R (some (.inl r)) M))), (3, f_wm [(4466, 12, 123), (1, 0, 0), (1, 0, 0), (1, 0, 0), (2, 0, 0)] (fun ar M R => c_X12_put (f_vi (f_nth ar 1)) (f_vi (f_nth ar 2)) (f_vi (f_nth ar 3)) (f_vi (f_nth ar 4)) M (fun M => R none M)))]
set_option maxRecDepth 20000 in
theorem BX12_cond_9 {sh : Nat → Nat × Nat} {t : Nat} {rm : Nat × Nat × Nat} {cs : Nat × Nat} {R : f_Rt} {D : Nat} {c_X12_both : e_M → (Int → e_M → Prop) → Prop} {c_X12_isWord : Int → e_M → (Int → Prop) → Prop} {c_X12_good : Int → e_M → (Int → e_M → Prop) → Prop} {c_X12_put : Int → Int → Int → Int → e_M → (e_M → Prop) → Prop} {k9 : e_M → Prop} {M : e_M} (C : f_Hy sh t yX12_cond rm cs D (lX12_cond c_X12_both c_X12_isWord c_X12_good c_X12_put) R) (h9 : ∀ (M : e_M), k9 M → f_E sh t YX12_cond rm cs (f_Q sh t R) 9 [.inr (.inr (.inl (12, 123, 4456)))] [] M) (h : VX12_cond_9 c_X12_both c_X12_isWord c_X12_good c_X12_put k9 (fun r M => R (some (.inl r)) M) M) : f_E sh t YX12_cond rm cs (f_Q sh t R) 9 [.inr (.inr (.inl (12, 123, 4456)))] [] M :=
  f_go (KC := f_kc [(9, f_pl [(4466, 12, 123)] [] (fun ls st M => k9 M))]) C qX12_condf (f_kc_cons (f_pl_ok rfl (fun ls st M h => h9  M h)) f_kc_nil) 30 6 h
set_option maxRecDepth 20000 in
theorem BX12_cond {sh : Nat → Nat × Nat} {t : Nat} {rm : Nat × Nat × Nat} {cs : Nat × Nat} {R : f_Rt} {D : Nat} {c_X12_both : e_M → (Int → e_M → Prop) → Prop} {c_X12_isWord : Int → e_M → (Int → Prop) → Prop} {c_X12_good : Int → e_M → (Int → e_M → Prop) → Prop} {c_X12_put : Int → Int → Int → Int → e_M → (e_M → Prop) → Prop} {k9 : e_M → Prop} {M : e_M} (C : f_Hy sh t yX12_cond rm cs D (lX12_cond c_X12_both c_X12_isWord c_X12_good c_X12_put) R) (h9 : ∀ (M : e_M), k9 M → f_E sh t YX12_cond rm cs (f_Q sh t R) 9 [.inr (.inr (.inl (12, 123, 4456)))] [] M) (h : VX12_cond c_X12_both c_X12_isWord c_X12_good c_X12_put k9 (fun r M => R (some (.inl r)) M) M) : f_E sh t YX12_cond rm cs (f_Q sh t R) 0 [.inr (.inr (.inl (12, 123, 4456)))] [] M :=
  f_go (KC := f_kc [(9, f_pl [(4466, 12, 123)] [] (fun ls st M => k9 M))]) C qX12_condf (f_kc_cons (f_pl_ok rfl (fun ls st M h => h9  M h)) f_kc_nil) 30 0 h
def WX12_cond_9 (c_X12_one : e_M → (Int → e_M → Prop) → Prop) (c_X12_cond : e_M → (Int → e_M → Prop) → Prop) (Q : Int → e_M → Prop) : Nat → e_M → Prop
  | 0, _ => False
  | n + 1, M =>
    VX12_cond_9 (WX12_both c_X12_one c_X12_cond) WX12_isWord WX12_good WX12_put (WX12_cond_9 c_X12_one c_X12_cond Q n) Q M
def WX12_cond (c_X12_one : e_M → (Int → e_M → Prop) → Prop) (c_X12_cond : e_M → (Int → e_M → Prop) → Prop) (M : e_M) (Q : Int → e_M → Prop) : Prop :=
  VX12_cond (WX12_both c_X12_one c_X12_cond) WX12_isWord WX12_good WX12_put (fun M => ∃ j, WX12_cond_9 c_X12_one c_X12_cond Q j M) Q M
theorem PX12_cond_9 {sh : Nat → Nat × Nat} {t : Nat} {rm : Nat × Nat × Nat} {cs : Nat × Nat} {R : f_Rt} {D : Nat} {c_X12_one : e_M → (Int → e_M → Prop) → Prop} {c_X12_cond : e_M → (Int → e_M → Prop) → Prop} (C : f_Hy sh t yX12_cond rm cs D (lX12_cond (WX12_both c_X12_one c_X12_cond) WX12_isWord WX12_good WX12_put) R) : ∀ (n : Nat) (M : e_M), WX12_cond_9 c_X12_one c_X12_cond (fun r M => R (some (.inl r)) M) n M → f_E sh t YX12_cond rm cs (f_Q sh t R) 9 [.inr (.inr (.inl (12, 123, 4456)))] [] M := by
  intro n
  induction n with
  | zero => intro M h; exact h.elim
  | succ n ih => intro M h; exact BX12_cond_9 C ih h
theorem PX12_cond {sh : Nat → Nat × Nat} {t : Nat} {rm : Nat × Nat × Nat} {cs : Nat × Nat} {R : f_Rt} {D : Nat} {c_X12_one : e_M → (Int → e_M → Prop) → Prop} {c_X12_cond : e_M → (Int → e_M → Prop) → Prop} {M : e_M} (C : f_Hy sh t yX12_cond rm cs D (lX12_cond (WX12_both c_X12_one c_X12_cond) WX12_isWord WX12_good WX12_put) R) (h : WX12_cond c_X12_one c_X12_cond M (fun r M => R (some (.inl r)) M)) : f_E sh t YX12_cond rm cs (f_Q sh t R) 0 [.inr (.inr (.inl (12, 123, 4456)))] [] M :=
  BX12_cond C (fun M ⟨j, h⟩ => PX12_cond_9 C j _ h) h
def wX12_cond (c_X12_one : e_M → (Int → e_M → Prop) → Prop) (c_X12_cond : e_M → (Int → e_M → Prop) → Prop) : f_Wt := f_wm [(4466, 12, 123)] (fun ar M R => WX12_cond c_X12_one c_X12_cond M (fun r M => R (some (.inl r)) M))
theorem TX12_cond {sh : Nat → Nat × Nat} {t : Nat} {c_X12_one : e_M → (Int → e_M → Prop) → Prop} {c_X12_cond : e_M → (Int → e_M → Prop) → Prop} {D : Nat} (hD : 66 ≤ D) (o0 : f_Mt sh t YX12_one (D - 3) (f_wm [(4466, 12, 123)] (fun ar M R => c_X12_one  M (fun r M => R (some (.inl r)) M)))) (o1 : f_Mt sh t YX12_cond (D - 3) (f_wm [(4466, 12, 123)] (fun ar M R => c_X12_cond  M (fun r M => R (some (.inl r)) M)))) : f_Mt sh t YX12_cond D (wX12_cond c_X12_one c_X12_cond) :=
  f_Mt_of (k := 0) (Nat.le_of_ble_eq_true rfl) rfl rfl (fun ar M R rm cs h1 h2 h3 hX h => PX12_cond ⟨by omega, h1, h2, h3, ⟨(TX12_both (D := D - 1) (by omega) (f_Mt.up (by omega) o0) (f_Mt.up (by omega) o1)), (f_Mt.up (by omega) TX12_isWord), (f_Mt.up (by omega) TX12_good), (f_Mt.up (by omega) TX12_put), trivial⟩, hX⟩ h)
def CCX12_cond : Nat → (e_M → (Int → e_M → Prop) → Prop) × (e_M → (Int → e_M → Prop) → Prop)
  | 0 => (fun _ _ => False, fun _ _ => False)
  | d + 1 => (WX12_cond (CCX12_cond d).2 (CCX12_cond d).1, WX12_one (CCX12_cond d).2 (CCX12_cond d).1)
def CX12_cond (d : Nat) : e_M → (Int → e_M → Prop) → Prop := (CCX12_cond d).1
def CX12_one (d : Nat) : e_M → (Int → e_M → Prop) → Prop := (CCX12_cond d).2
theorem TCCX12_cond {sh : Nat → Nat × Nat} {t : Nat} : ∀ d : Nat, f_Mt sh t YX12_cond (66 + 3 * d) (f_wm [(4466, 12, 123)] (fun ar M R => CX12_cond d  M (fun r M => R (some (.inl r)) M))) ∧ f_Mt sh t YX12_one (66 + 3 * d) (f_wm [(4466, 12, 123)] (fun ar M R => CX12_one d  M (fun r M => R (some (.inl r)) M))) := by
  intro d
  induction d with
  | zero => exact ⟨⟨Nat.le_of_ble_eq_true rfl, fun ar M R rm cs h => (f_c_b h).2.elim⟩, ⟨Nat.le_of_ble_eq_true rfl, fun ar M R rm cs h => (f_c_b h).2.elim⟩⟩
  | succ d ih => exact ⟨(TX12_cond (D := 66 + 3 * (d + 1)) (by omega) (f_Mt.up (by omega) ih.2) (f_Mt.up (by omega) ih.1)), (TX12_one (D := 66 + 3 * (d + 1)) (by omega) (f_Mt.up (by omega) ih.2) (f_Mt.up (by omega) ih.1))⟩
theorem TCX12_cond {sh : Nat → Nat × Nat} {t : Nat} (d : Nat) : f_Mt sh t YX12_cond (66 + 3 * d) (f_wm [(4466, 12, 123)] (fun ar M R => CX12_cond d  M (fun r M => R (some (.inl r)) M))) := (TCCX12_cond d).1
theorem TCX12_one {sh : Nat → Nat × Nat} {t : Nat} (d : Nat) : f_Mt sh t YX12_one (66 + 3 * d) (f_wm [(4466, 12, 123)] (fun ar M R => CX12_one d  M (fun r M => R (some (.inl r)) M))) := (TCCX12_cond d).2
def VX12_set_26 (c_X12_wrong : Int → e_M → (Int → e_M → Prop) → Prop) (c_X12_good : Int → e_M → (Int → e_M → Prop) → Prop) (c_X12_isWord : Int → e_M → (Int → Prop) → Prop) (c_X12_cond : e_M → (Int → e_M → Prop) → Prop) (Q : Int → e_M → Prop) (M : e_M) : Prop :=
  (c_X12_wrong 1 M (fun r1 M2 => ((r1 = 0 ∨ r1 = 1) ∧ Q r1 M2)))
def VX12_set (c_X12_wrong : Int → e_M → (Int → e_M → Prop) → Prop) (c_X12_good : Int → e_M → (Int → e_M → Prop) → Prop) (c_X12_isWord : Int → e_M → (Int → Prop) → Prop) (c_X12_cond : e_M → (Int → e_M → Prop) → Prop) (k26 : e_M → Prop) (Q : Int → e_M → Prop) (M : e_M) : Prop :=
  ((¬ (M 4456 7) = 3 → (k26 M)) ∧ ((M 4456 7) = 3 → (((M 4456 10) < 46 → (k26 M)) ∧ (46 ≤ (M 4456 10) → (((M 4456 10) ≤ 52 → (∀ M1 : e_M, M1 = e_up M 4456 115 (e_w32 ((M 4456 10) - 46)) → (c_X12_good 0 M1 (fun r2 M3 => ((¬ r2 = 0 → (c_X12_isWord 53 M3 (fun r4 => ((¬ r4 = 0 → (c_X12_good 0 M3 (fun r5 M6 => ((r5 = 0 → (Q 0 M6)) ∧ (¬ r5 = 0 → (c_X12_cond M6 (fun r7 M8 => ((r7 = 0 → (Q 0 M8)) ∧ (¬ r7 = 0 → (Q 1 M8)))))))))) ∧ (r4 = 0 → (Q 1 M3)))))) ∧ (r2 = 0 → (Q 0 M3))))))) ∧ (52 < (M 4456 10) → (k26 M)))))))
def yX12_set (i : Nat) : e_Y := x_get YX12_set [YX12_wrong, YX12_good, YX12_isWord, YX12_cond] i
def pX12_setf : List x_I := [(0, 4, 1, 0, 0, 0, []), (1, 25, 12, 7, 0, 0, []), (4, 0, 1, 0, 0, 3, []), (5, 18, 26, 1, 13, 0, []), (8, 4, 1, 0, 0, 0, []), (9, 25, 12, 10, 0, 0, []), (12, 0, 2, 0, 0, 46, []), (14, 18, 26, 2, 13, 0, []), (17, 4, 1, 0, 0, 0, []), (18, 25, 12, 10, 0, 0, []), (21, 0, 2, 0, 0, 52, []), (23, 18, 32, 5, 18, 0, []), (26, 49, 0, 0, 0, 0, []), (26, 4, 1, 0, 0, 0, []), (27, 0, 1, 0, 0, 1, []), (28, 40, 0, 2, 14, 0, []), (31, 42, 0, 0, 0, 0, []), (32, 4, 1, 0, 0, 0, []), (33, 4, 1, 0, 0, 0, []), (34, 25, 12, 10, 0, 0, []), (37, 0, 2, 0, 0, 46, []), (39, 9, 0, 1, 0, 0, []), (40, 26, 12, 115, 0, 0, []), (43, 4, 1, 0, 0, 0, []), (44, 0, 1, 0, 0, 0, []), (45, 40, 1, 2, 14, 0, []), (48, 17, 53, 1, 30, 0, []), (51, 0, 1, 0, 0, 0, []), (52, 48, 0, 0, 0, 0, []), (53, 4, 1, 0, 0, 0, []), (54, 0, 2, 0, 0, 53, []), (56, 40, 2, 2, 14, 0, []), (59, 17, 64, 1, 36, 0, []), (62, 0, 1, 0, 0, 1, []), (63, 48, 0, 0, 0, 0, []), (64, 4, 1, 0, 0, 0, []), (65, 0, 1, 0, 0, 0, []), (66, 40, 1, 2, 14, 0, []), (69, 17, 83, 0, 45, 0, []), (72, 4, 1, 0, 0, 0, []), (73, 40, 3, 1, 14, 0, []), (76, 17, 83, 0, 45, 0, []), (79, 0, 1, 0, 0, 1, []), (80, 19, 84, 0, 46, 0, []), (83, 0, 1, 0, 0, 0, []), (84, 48, 0, 0, 0, 0, [])]
set_option maxRecDepth 20000 in
theorem qX12_setf : f_all yX12_set YX12_set pX12_setf :=
  ⟨f_aload_n (n := 0) (e_dx DX12_set_0 0 rfl) rfl,
  f_getf (e_dx DX12_set_0 1 rfl) fX12_309 rfl (by decide) (by decide) (by decide),
  f_iconst (e_dx DX12_set_0 2 rfl) ⟨by decide, by decide⟩,
  f_icmp_ne (e_dx DX12_set_0 3 rfl) rfl,
  f_aload_n (n := 0) (e_dx DX12_set_0 4 rfl) rfl,
  f_getf (e_dx DX12_set_0 5 rfl) fX12_306 rfl (by decide) (by decide) (by decide),
  f_bipush (e_dx DX12_set_0 6 rfl) ⟨by decide, by decide⟩,
  f_icmp_lt (e_dx DX12_set_0 7 rfl) rfl,
  f_aload_n (n := 0) (e_dx DX12_set_0 8 rfl) rfl,
  f_getf (e_dx DX12_set_0 9 rfl) fX12_306 rfl (by decide) (by decide) (by decide),
  f_bipush (e_dx DX12_set_0 10 rfl) ⟨by decide, by decide⟩,
  f_icmp_le (e_dx DX12_set_0 11 rfl) rfl,
  trivial,
  f_aload_n (n := 0) (e_dx DX12_set_0 12 rfl) rfl,
  f_iconst (e_dx DX12_set_0 13 rfl) ⟨by decide, by decide⟩,
  x_callV (e_dx DX12_set_0 14 rfl) mwX12_wrong vwX12_wrong cX12_342 rfl,
  ⟨(e_dx DX12_set_0 15 rfl), rfl⟩,
  f_aload_n (n := 0) (e_dx DX12_set_0 16 rfl) rfl,
  f_aload_n (n := 0) (e_dx DX12_set_0 17 rfl) rfl,
  f_getf (e_dx DX12_set_0 18 rfl) fX12_306 rfl (by decide) (by decide) (by decide),
  f_bipush (e_dx DX12_set_0 19 rfl) ⟨by decide, by decide⟩,
  f_isub (e_dx DX12_set_0 20 rfl),
  f_putn (e_dx DX12_set_0 21 rfl) fX12_845 (fun q hq => by cases hq; rfl) rfl (Or.inl rfl) (by decide),
  f_aload_n (n := 0) (e_dx DX12_set_0 22 rfl) rfl,
  f_iconst (e_dx DX12_set_0 23 rfl) ⟨by decide, by decide⟩,
  x_callV (e_dx DX12_set_0 24 rfl) mwX12_good vwX12_good cX12_351 rfl,
  f_if_ne (e_dx DX12_set_0 25 rfl) rfl,
  f_iconst (e_dx DX12_set_0 26 rfl) ⟨by decide, by decide⟩,
  ⟨(e_dx DX12_set_0 27 rfl), rfl⟩,
  f_aload_n (n := 0) (e_dx DX12_set_0 28 rfl) rfl,
  f_bipush (e_dx DX12_set_0 29 rfl) ⟨by decide, by decide⟩,
  x_callV (e_dx DX12_set_0 30 rfl) mwX12_isWord vwX12_isWord cX12_348 rfl,
  f_if_ne (e_dx DX12_set_0 31 rfl) rfl,
  f_iconst (e_dx DX12_set_0 32 rfl) ⟨by decide, by decide⟩,
  ⟨(e_dx DX12_set_0 33 rfl), rfl⟩,
  f_aload_n (n := 0) (e_dx DX12_set_0 34 rfl) rfl,
  f_iconst (e_dx DX12_set_0 35 rfl) ⟨by decide, by decide⟩,
  x_callV (e_dx DX12_set_0 36 rfl) mwX12_good vwX12_good cX12_351 rfl,
  f_if_eq (e_dx DX12_set_0 37 rfl) rfl,
  f_aload_n (n := 0) (e_dx DX12_set_0 38 rfl) rfl,
  x_callV (e_dx DX12_set_0 39 rfl) mwX12_cond vwX12_cond cX12_833 rfl,
  f_if_eq (e_dx DX12_set_1 0 rfl) rfl,
  f_iconst (e_dx DX12_set_1 1 rfl) ⟨by decide, by decide⟩,
  f_g19 (e_dx DX12_set_1 2 rfl) rfl,
  f_iconst (e_dx DX12_set_1 3 rfl) ⟨by decide, by decide⟩,
  ⟨(e_dx DX12_set_1 4 rfl), rfl⟩, trivial⟩
def lX12_set (c_X12_wrong : Int → e_M → (Int → e_M → Prop) → Prop) (c_X12_good : Int → e_M → (Int → e_M → Prop) → Prop) (c_X12_isWord : Int → e_M → (Int → Prop) → Prop) (c_X12_cond : e_M → (Int → e_M → Prop) → Prop) : List (Nat × f_Wt) := [(0, f_wm [(4466, 12, 123), (1, 0, 0)] (fun ar M R => c_X12_wrong (f_vi (f_nth ar 1)) M (fun r M => R (some (.inl r)) M))), (1, f_wm [(4466, 12, 123), (1, 0, 0)] (fun ar M R => c_X12_good (f_vi (f_nth ar 1)) M (fun r M => R (some (.inl r)) M))), (2, f_wm [(4466, 12, 123), (1, 0, 0)] (fun ar M R => c_X12_isWord (f_vi (f_nth ar 1)) M (fun r => R (some (.inl r)) M))), (3, f_wm [(4466, 12, 123)] (fun ar M R => c_X12_cond  M (fun r M => R (some (.inl r)) M)))]
set_option maxRecDepth 20000 in
theorem BX12_set_26 {sh : Nat → Nat × Nat} {t : Nat} {rm : Nat × Nat × Nat} {cs : Nat × Nat} {R : f_Rt} {c_X12_wrong : Int → e_M → (Int → e_M → Prop) → Prop} {c_X12_good : Int → e_M → (Int → e_M → Prop) → Prop} {c_X12_isWord : Int → e_M → (Int → Prop) → Prop} {c_X12_cond : e_M → (Int → e_M → Prop) → Prop} {M : e_M} (C : f_Hy sh t yX12_set rm cs 106 (lX12_set c_X12_wrong c_X12_good c_X12_isWord c_X12_cond) R) (h : VX12_set_26 c_X12_wrong c_X12_good c_X12_isWord c_X12_cond (fun r M => R (some (.inl r)) M) M) : f_E sh t YX12_set rm cs (f_Q sh t R) 26 [.inr (.inr (.inl (12, 123, 4456)))] [] M :=
  f_go (KC := f_kc []) C qX12_setf f_kc_nil 48 13 h
set_option maxRecDepth 20000 in
theorem BX12_set {sh : Nat → Nat × Nat} {t : Nat} {rm : Nat × Nat × Nat} {cs : Nat × Nat} {R : f_Rt} {c_X12_wrong : Int → e_M → (Int → e_M → Prop) → Prop} {c_X12_good : Int → e_M → (Int → e_M → Prop) → Prop} {c_X12_isWord : Int → e_M → (Int → Prop) → Prop} {c_X12_cond : e_M → (Int → e_M → Prop) → Prop} {k26 : e_M → Prop} {M : e_M} (C : f_Hy sh t yX12_set rm cs 106 (lX12_set c_X12_wrong c_X12_good c_X12_isWord c_X12_cond) R) (h26 : ∀ (M : e_M), k26 M → f_E sh t YX12_set rm cs (f_Q sh t R) 26 [.inr (.inr (.inl (12, 123, 4456)))] [] M) (h : VX12_set c_X12_wrong c_X12_good c_X12_isWord c_X12_cond k26 (fun r M => R (some (.inl r)) M) M) : f_E sh t YX12_set rm cs (f_Q sh t R) 0 [.inr (.inr (.inl (12, 123, 4456)))] [] M :=
  f_go (KC := f_kc [(26, f_pl [(4466, 12, 123)] [] (fun ls st M => k26 M))]) C qX12_setf (f_kc_cons (f_pl_ok rfl (fun ls st M h => h26  M h)) f_kc_nil) 48 0 h
def WX12_set_26 (Q : Int → e_M → Prop) (M : e_M) : Prop :=
  VX12_set_26 WX12_wrong WX12_good WX12_isWord (CX12_cond 13) Q M
def WX12_set (M : e_M) (Q : Int → e_M → Prop) : Prop :=
  VX12_set WX12_wrong WX12_good WX12_isWord (CX12_cond 13) (WX12_set_26 Q) Q M
theorem PX12_set_26 {sh : Nat → Nat × Nat} {t : Nat} {rm : Nat × Nat × Nat} {cs : Nat × Nat} {R : f_Rt} {M : e_M} (C : f_Hy sh t yX12_set rm cs 106 (lX12_set WX12_wrong WX12_good WX12_isWord (CX12_cond 13)) R) (h : WX12_set_26 (fun r M => R (some (.inl r)) M) M) : f_E sh t YX12_set rm cs (f_Q sh t R) 26 [.inr (.inr (.inl (12, 123, 4456)))] [] M :=
  BX12_set_26 C h
theorem PX12_set {sh : Nat → Nat × Nat} {t : Nat} {rm : Nat × Nat × Nat} {cs : Nat × Nat} {R : f_Rt} {M : e_M} (C : f_Hy sh t yX12_set rm cs 106 (lX12_set WX12_wrong WX12_good WX12_isWord (CX12_cond 13)) R) (h : WX12_set M (fun r M => R (some (.inl r)) M)) : f_E sh t YX12_set rm cs (f_Q sh t R) 0 [.inr (.inr (.inl (12, 123, 4456)))] [] M :=
  BX12_set C (fun M h => PX12_set_26 C h) h
def wX12_set : f_Wt := f_wm [(4466, 12, 123)] (fun ar M R => WX12_set M (fun r M => R (some (.inl r)) M))
theorem TX12_set {sh : Nat → Nat × Nat} {t : Nat} : f_Mt sh t YX12_set 106 (wX12_set) :=
  f_Mt_of (k := 0) (Nat.le_of_ble_eq_true rfl) rfl rfl (fun ar M R rm cs h1 h2 h3 hX h => PX12_set ⟨Nat.le_of_ble_eq_true rfl, h1, h2, h3, ⟨(f_Mt.up (Nat.le_of_ble_eq_true rfl) TX12_wrong), (f_Mt.up (Nat.le_of_ble_eq_true rfl) TX12_good), (f_Mt.up (Nat.le_of_ble_eq_true rfl) TX12_isWord), (f_Mt.up (Nat.le_of_ble_eq_true rfl) (TCX12_cond 13)), trivial⟩, hX⟩ h)
def VX12_question_85 (c_X12_isWord : Int → e_M → (Int → Prop) → Prop) (c_X12_good : Int → e_M → (Int → e_M → Prop) → Prop) (c_X12_wrong : Int → e_M → (Int → e_M → Prop) → Prop) (c_X12_isName : e_M → (Int → Prop) → Prop) (c_X12_set : e_M → (Int → e_M → Prop) → Prop) (c_X12_value : e_M → (Int → e_M → Prop) → Prop) (c_X12_must : Int → e_M → (Int → e_M → Prop) → Prop) (k93 : e_M → Prop) (Q : Int → e_M → Prop) (xs1 : Int) (M : e_M) : Prop :=
  (c_X12_good xs1 M (fun r1 M2 => ((¬ r1 = 0 → (k93 M2)) ∧ (r1 = 0 → (Q 0 M2)))))
def VX12_question_93 (c_X12_isWord : Int → e_M → (Int → Prop) → Prop) (c_X12_good : Int → e_M → (Int → e_M → Prop) → Prop) (c_X12_wrong : Int → e_M → (Int → e_M → Prop) → Prop) (c_X12_isName : e_M → (Int → Prop) → Prop) (c_X12_set : e_M → (Int → e_M → Prop) → Prop) (c_X12_value : e_M → (Int → e_M → Prop) → Prop) (c_X12_must : Int → e_M → (Int → e_M → Prop) → Prop) (k155 : e_M → Prop) (k147 : Int → e_M → Prop) (Q : Int → e_M → Prop) (M : e_M) : Prop :=
  (c_X12_isWord 39 M (fun r1 => ((r1 = 0 → (k155 M)) ∧ (¬ r1 = 0 → (c_X12_good 0 M (fun r2 M3 => ((¬ r2 = 0 → (((M3 4456 7) = 1 → (∀ M4 : e_M, M4 = e_up M3 4456 113 (M3 4456 9) → ((0 ≤ (M4 4456 9) → (k147 0 M4)) ∧ ((M4 4456 9) < 0 → (k147 2 M4))))) ∧ (¬ (M3 4456 7) = 1 → (c_X12_wrong 1 M3 (fun r5 M6 => ((r5 = 0 ∨ r5 = 1) ∧ Q r5 M6)))))) ∧ (r2 = 0 → (Q 0 M3)))))))))
def VX12_question_147 (c_X12_isWord : Int → e_M → (Int → Prop) → Prop) (c_X12_good : Int → e_M → (Int → e_M → Prop) → Prop) (c_X12_wrong : Int → e_M → (Int → e_M → Prop) → Prop) (c_X12_isName : e_M → (Int → Prop) → Prop) (c_X12_set : e_M → (Int → e_M → Prop) → Prop) (c_X12_value : e_M → (Int → e_M → Prop) → Prop) (c_X12_must : Int → e_M → (Int → e_M → Prop) → Prop) (k155 : e_M → Prop) (Q : Int → e_M → Prop) (xs1 : Int) (M : e_M) : Prop :=
  (c_X12_good xs1 M (fun r1 M2 => ((¬ r1 = 0 → (k155 M2)) ∧ (r1 = 0 → (Q 0 M2)))))
def VX12_question_155 (c_X12_isWord : Int → e_M → (Int → Prop) → Prop) (c_X12_good : Int → e_M → (Int → e_M → Prop) → Prop) (c_X12_wrong : Int → e_M → (Int → e_M → Prop) → Prop) (c_X12_isName : e_M → (Int → Prop) → Prop) (c_X12_set : e_M → (Int → e_M → Prop) → Prop) (c_X12_value : e_M → (Int → e_M → Prop) → Prop) (c_X12_must : Int → e_M → (Int → e_M → Prop) → Prop) (k181 : e_M → Prop) (k223 : e_M → Prop) (k268 : e_M → Prop) (Q : Int → e_M → Prop) (M : e_M) : Prop :=
  ((¬ (M 4456 7) = 3 → (k181 M)) ∧ ((M 4456 7) = 3 → (((M 4456 10) < 40 → (k181 M)) ∧ (40 ≤ (M 4456 10) → (((M 4456 10) ≤ 45 → (∀ M1 : e_M, M1 = e_up M 4456 114 (M 4456 10) → (c_X12_good 0 M1 (fun r2 M3 => ((¬ r2 = 0 → (((M3 4456 114) = 44 → (k223 M3)) ∧ (¬ (M3 4456 114) = 44 → ((¬ (M3 4456 114) = 45 → (((M3 4456 114) = 40 → (k268 M3)) ∧ (¬ (M3 4456 114) = 40 → ((¬ (M3 4456 114) = 43 → (c_X12_value M3 (fun r4 M5 => ((¬ r4 = 0 → (∀ M6 : e_M, M6 = e_up M5 4456 110 (M5 4456 109) → (c_X12_must 27 M6 (fun r7 M8 => ((r7 = 0 → (Q 0 M8)) ∧ (¬ r7 = 0 → (c_X12_set M8 (fun r9 M10 => ((r9 = 0 → (Q 0 M10)) ∧ (¬ r9 = 0 → (Q 1 M10))))))))))) ∧ (r4 = 0 → (Q 0 M5)))))) ∧ ((M3 4456 114) = 43 → (k268 M3)))))) ∧ ((M3 4456 114) = 45 → (k223 M3)))))) ∧ (r2 = 0 → (Q 0 M3))))))) ∧ (45 < (M 4456 10) → (k181 M)))))))
def VX12_question_181 (c_X12_isWord : Int → e_M → (Int → Prop) → Prop) (c_X12_good : Int → e_M → (Int → e_M → Prop) → Prop) (c_X12_wrong : Int → e_M → (Int → e_M → Prop) → Prop) (c_X12_isName : e_M → (Int → Prop) → Prop) (c_X12_set : e_M → (Int → e_M → Prop) → Prop) (c_X12_value : e_M → (Int → e_M → Prop) → Prop) (c_X12_must : Int → e_M → (Int → e_M → Prop) → Prop) (Q : Int → e_M → Prop) (M : e_M) : Prop :=
  (c_X12_wrong 1 M (fun r1 M2 => ((r1 = 0 ∨ r1 = 1) ∧ Q r1 M2)))
def VX12_question_223 (c_X12_isWord : Int → e_M → (Int → Prop) → Prop) (c_X12_good : Int → e_M → (Int → e_M → Prop) → Prop) (c_X12_wrong : Int → e_M → (Int → e_M → Prop) → Prop) (c_X12_isName : e_M → (Int → Prop) → Prop) (c_X12_set : e_M → (Int → e_M → Prop) → Prop) (c_X12_value : e_M → (Int → e_M → Prop) → Prop) (c_X12_must : Int → e_M → (Int → e_M → Prop) → Prop) (Q : Int → e_M → Prop) (M : e_M) : Prop :=
  (c_X12_isName M (fun r1 => ((¬ r1 = 0 → (∀ M2 : e_M, M2 = e_up M 4456 116 (M 4456 11) → (c_X12_good 0 M2 (fun r3 M4 => ((r3 = 0 ∨ r3 = 1) ∧ Q r3 M4))))) ∧ (r1 = 0 → (c_X12_wrong 1 M (fun r5 M6 => ((r5 = 0 ∨ r5 = 1) ∧ Q r5 M6)))))))
def VX12_question_268 (c_X12_isWord : Int → e_M → (Int → Prop) → Prop) (c_X12_good : Int → e_M → (Int → e_M → Prop) → Prop) (c_X12_wrong : Int → e_M → (Int → e_M → Prop) → Prop) (c_X12_isName : e_M → (Int → Prop) → Prop) (c_X12_set : e_M → (Int → e_M → Prop) → Prop) (c_X12_value : e_M → (Int → e_M → Prop) → Prop) (c_X12_must : Int → e_M → (Int → e_M → Prop) → Prop) (Q : Int → e_M → Prop) (M : e_M) : Prop :=
  (c_X12_set M (fun r1 M2 => ((r1 = 0 ∨ r1 = 1) ∧ Q r1 M2)))
def VX12_question (c_X12_isWord : Int → e_M → (Int → Prop) → Prop) (c_X12_good : Int → e_M → (Int → e_M → Prop) → Prop) (c_X12_wrong : Int → e_M → (Int → e_M → Prop) → Prop) (c_X12_isName : e_M → (Int → Prop) → Prop) (c_X12_set : e_M → (Int → e_M → Prop) → Prop) (c_X12_value : e_M → (Int → e_M → Prop) → Prop) (c_X12_must : Int → e_M → (Int → e_M → Prop) → Prop) (k93 : e_M → Prop) (k85 : Int → e_M → Prop) (Q : Int → e_M → Prop) (M : e_M) : Prop :=
  (∀ M1 : e_M, M1 = e_up M 4456 109 0 → (∀ M2 : e_M, M2 = e_up M1 4456 110 0 → (∀ M3 : e_M, M3 = e_up M2 4456 111 0 → (∀ M4 : e_M, M4 = e_up M3 4456 112 (M3 4456 34) → (∀ M5 : e_M, M5 = e_up M4 4456 113 (M4 4456 34) → (c_X12_isWord 28 M5 (fun r6 => ((r6 = 0 → (k93 M5)) ∧ (¬ r6 = 0 → (c_X12_good 0 M5 (fun r7 M8 => ((¬ r7 = 0 → (((M8 4456 7) = 1 → (∀ M9 : e_M, M9 = e_up M8 4456 112 (M8 4456 9) → ((0 ≤ (M9 4456 9) → (k85 0 M9)) ∧ ((M9 4456 9) < 0 → (k85 2 M9))))) ∧ (¬ (M8 4456 7) = 1 → (c_X12_wrong 1 M8 (fun r10 M11 => ((r10 = 0 ∨ r10 = 1) ∧ Q r10 M11)))))) ∧ (r7 = 0 → (Q 0 M8))))))))))))))
def yX12_question (i : Nat) : e_Y := x_get YX12_question [YX12_isWord, YX12_good, YX12_wrong, YX12_isName, YX12_set, YX12_value, YX12_must] i
def pX12_questionf : List x_I := [(0, 4, 1, 0, 0, 0, []), (1, 0, 1, 0, 0, 0, []), (2, 26, 12, 109, 0, 0, []), (5, 4, 1, 0, 0, 0, []), (6, 0, 1, 0, 0, 0, []), (7, 26, 12, 110, 0, 0, []), (10, 4, 1, 0, 0, 0, []), (11, 0, 1, 0, 0, 0, []), (12, 26, 12, 111, 0, 0, []), (15, 4, 1, 0, 0, 0, []), (16, 4, 1, 0, 0, 0, []), (17, 25, 12, 34, 0, 0, []), (20, 26, 12, 112, 0, 0, []), (23, 4, 1, 0, 0, 0, []), (24, 4, 1, 0, 0, 0, []), (25, 25, 12, 34, 0, 0, []), (28, 26, 12, 113, 0, 0, []), (31, 4, 1, 0, 0, 0, []), (32, 0, 2, 0, 0, 28, []), (34, 40, 0, 2, 14, 0, []), (37, 17, 93, 0, 52, 0, []), (40, 4, 1, 0, 0, 0, []), (41, 0, 1, 0, 0, 0, []), (42, 40, 1, 2, 14, 0, []), (45, 17, 50, 1, 28, 0, []), (48, 0, 1, 0, 0, 0, []), (49, 48, 0, 0, 0, 0, []), (50, 4, 1, 0, 0, 0, []), (51, 25, 12, 7, 0, 0, []), (54, 0, 1, 0, 0, 1, []), (55, 18, 64, 0, 36, 0, []), (58, 4, 1, 0, 0, 0, []), (59, 0, 1, 0, 0, 1, []), (60, 40, 2, 2, 14, 0, []), (63, 42, 0, 0, 0, 0, []), (64, 4, 1, 0, 0, 0, []), (65, 4, 1, 0, 0, 0, []), (66, 25, 12, 9, 0, 0, []), (69, 26, 12, 112, 0, 0, []), (72, 4, 1, 0, 0, 0, []), (73, 4, 1, 0, 0, 0, []), (74, 25, 12, 9, 0, 0, []), (77, 17, 84, 3, 46, 0, []), (80, 0, 1, 0, 0, 2, []), (81, 19, 85, 0, 47, 0, []), (84, 0, 1, 0, 0, 0, []), (85, 49, 0, 0, 0, 0, []), (85, 40, 1, 2, 14, 0, []), (88, 17, 93, 1, 52, 0, []), (91, 0, 1, 0, 0, 0, []), (92, 48, 0, 0, 0, 0, []), (93, 49, 0, 0, 0, 0, []), (93, 4, 1, 0, 0, 0, []), (94, 0, 2, 0, 0, 39, []), (96, 40, 0, 2, 14, 0, []), (99, 17, 155, 0, 87, 0, []), (102, 4, 1, 0, 0, 0, []), (103, 0, 1, 0, 0, 0, []), (104, 40, 1, 2, 14, 0, []), (107, 17, 112, 1, 63, 0, []), (110, 0, 1, 0, 0, 0, []), (111, 48, 0, 0, 0, 0, []), (112, 4, 1, 0, 0, 0, []), (113, 25, 12, 7, 0, 0, []), (116, 0, 1, 0, 0, 1, []), (117, 18, 126, 0, 71, 0, []), (120, 4, 1, 0, 0, 0, []), (121, 0, 1, 0, 0, 1, []), (122, 40, 2, 2, 14, 0, []), (125, 42, 0, 0, 0, 0, []), (126, 4, 1, 0, 0, 0, []), (127, 4, 1, 0, 0, 0, []), (128, 25, 12, 9, 0, 0, []), (131, 26, 12, 113, 0, 0, []), (134, 4, 1, 0, 0, 0, []), (135, 4, 1, 0, 0, 0, []), (136, 25, 12, 9, 0, 0, []), (139, 17, 146, 3, 81, 0, []), (142, 0, 1, 0, 0, 2, []), (143, 19, 147, 0, 82, 0, []), (146, 0, 1, 0, 0, 0, []), (147, 49, 0, 0, 0, 0, []), (147, 40, 1, 2, 14, 0, []), (150, 17, 155, 1, 87, 0, []), (153, 0, 1, 0, 0, 0, []), (154, 48, 0, 0, 0, 0, []), (155, 49, 0, 0, 0, 0, []), (155, 4, 1, 0, 0, 0, []), (156, 25, 12, 7, 0, 0, []), (159, 0, 1, 0, 0, 3, []), (160, 18, 181, 1, 100, 0, []), (163, 4, 1, 0, 0, 0, []), (164, 25, 12, 10, 0, 0, []), (167, 0, 2, 0, 0, 40, []), (169, 18, 181, 2, 100, 0, []), (172, 4, 1, 0, 0, 0, []), (173, 25, 12, 10, 0, 0, []), (176, 0, 2, 0, 0, 45, []), (178, 18, 187, 5, 105, 0, []), (181, 49, 0, 0, 0, 0, []), (181, 4, 1, 0, 0, 0, []), (182, 0, 1, 0, 0, 1, []), (183, 40, 2, 2, 14, 0, []), (186, 42, 0, 0, 0, 0, []), (187, 4, 1, 0, 0, 0, []), (188, 4, 1, 0, 0, 0, []), (189, 25, 12, 10, 0, 0, []), (192, 26, 12, 114, 0, 0, []), (195, 4, 1, 0, 0, 0, []), (196, 0, 1, 0, 0, 0, []), (197, 40, 1, 2, 14, 0, []), (200, 17, 205, 1, 115, 0, []), (203, 0, 1, 0, 0, 0, []), (204, 48, 0, 0, 0, 0, []), (205, 4, 1, 0, 0, 0, []), (206, 25, 12, 114, 0, 0, []), (209, 0, 2, 0, 0, 44, []), (211, 18, 223, 0, 123, 0, []), (214, 4, 1, 0, 0, 0, []), (215, 25, 12, 114, 0, 0, []), (218, 0, 2, 0, 0, 45, []), (220, 18, 250, 1, 139, 0, []), (223, 49, 0, 0, 0, 0, []), (223, 4, 1, 0, 0, 0, []), (224, 40, 3, 1, 14, 0, []), (227, 17, 236, 1, 131, 0, []), (230, 4, 1, 0, 0, 0, []), (231, 0, 1, 0, 0, 1, []), (232, 40, 2, 2, 14, 0, []), (235, 42, 0, 0, 0, 0, []), (236, 4, 1, 0, 0, 0, []), (237, 4, 1, 0, 0, 0, []), (238, 25, 12, 11, 3, 0, []), (241, 26, 12, 116, 3, 0, []), (244, 4, 1, 0, 0, 0, []), (245, 0, 1, 0, 0, 0, []), (246, 40, 1, 2, 14, 0, []), (249, 42, 0, 0, 0, 0, []), (250, 4, 1, 0, 0, 0, []), (251, 25, 12, 114, 0, 0, []), (254, 0, 2, 0, 0, 40, []), (256, 18, 268, 0, 147, 0, []), (259, 4, 1, 0, 0, 0, []), (260, 25, 12, 114, 0, 0, []), (263, 0, 2, 0, 0, 43, []), (265, 18, 273, 1, 151, 0, []), (268, 49, 0, 0, 0, 0, []), (268, 4, 1, 0, 0, 0, []), (269, 40, 4, 1, 14, 0, []), (272, 42, 0, 0, 0, 0, []), (273, 4, 1, 0, 0, 0, []), (274, 40, 5, 1, 14, 0, []), (277, 17, 282, 1, 156, 0, []), (280, 0, 1, 0, 0, 0, []), (281, 48, 0, 0, 0, 0, []), (282, 4, 1, 0, 0, 0, []), (283, 4, 1, 0, 0, 0, []), (284, 25, 12, 109, 0, 0, []), (287, 26, 12, 110, 0, 0, []), (290, 4, 1, 0, 0, 0, []), (291, 0, 2, 0, 0, 27, []), (293, 40, 6, 2, 14, 0, []), (296, 17, 310, 0, 169, 0, []), (299, 4, 1, 0, 0, 0, []), (300, 40, 4, 1, 14, 0, []), (303, 17, 310, 0, 169, 0, []), (306, 0, 1, 0, 0, 1, []), (307, 19, 311, 0, 170, 0, []), (310, 0, 1, 0, 0, 0, []), (311, 48, 0, 0, 0, 0, [])]
set_option maxRecDepth 20000 in
theorem qX12_questionf : f_all yX12_question YX12_question pX12_questionf :=
  ⟨f_aload_n (n := 0) (e_dx DX12_question_0 0 rfl) rfl,
  f_iconst (e_dx DX12_question_0 1 rfl) ⟨by decide, by decide⟩,
  f_putn (e_dx DX12_question_0 2 rfl) fX12_808 (fun q hq => by cases hq; rfl) rfl (Or.inl rfl) (by decide),
  f_aload_n (n := 0) (e_dx DX12_question_0 3 rfl) rfl,
  f_iconst (e_dx DX12_question_0 4 rfl) ⟨by decide, by decide⟩,
  f_putn (e_dx DX12_question_0 5 rfl) fX12_848 (fun q hq => by cases hq; rfl) rfl (Or.inl rfl) (by decide),
  f_aload_n (n := 0) (e_dx DX12_question_0 6 rfl) rfl,
  f_iconst (e_dx DX12_question_0 7 rfl) ⟨by decide, by decide⟩,
  f_putn (e_dx DX12_question_0 8 rfl) fX12_811 (fun q hq => by cases hq; rfl) rfl (Or.inl rfl) (by decide),
  f_aload_n (n := 0) (e_dx DX12_question_0 9 rfl) rfl,
  f_aload_n (n := 0) (e_dx DX12_question_0 10 rfl) rfl,
  f_getf (e_dx DX12_question_0 11 rfl) fX12_779 rfl (by decide) (by decide) (by decide),
  f_putn (e_dx DX12_question_0 12 rfl) fX12_851 (fun q hq => by cases hq; rfl) rfl (Or.inl rfl) (by decide),
  f_aload_n (n := 0) (e_dx DX12_question_0 13 rfl) rfl,
  f_aload_n (n := 0) (e_dx DX12_question_0 14 rfl) rfl,
  f_getf (e_dx DX12_question_0 15 rfl) fX12_779 rfl (by decide) (by decide) (by decide),
  f_putn (e_dx DX12_question_0 16 rfl) fX12_854 (fun q hq => by cases hq; rfl) rfl (Or.inl rfl) (by decide),
  f_aload_n (n := 0) (e_dx DX12_question_0 17 rfl) rfl,
  f_bipush (e_dx DX12_question_0 18 rfl) ⟨by decide, by decide⟩,
  x_callV (e_dx DX12_question_0 19 rfl) mwX12_isWord vwX12_isWord cX12_348 rfl,
  f_if_eq (e_dx DX12_question_0 20 rfl) rfl,
  f_aload_n (n := 0) (e_dx DX12_question_0 21 rfl) rfl,
  f_iconst (e_dx DX12_question_0 22 rfl) ⟨by decide, by decide⟩,
  x_callV (e_dx DX12_question_0 23 rfl) mwX12_good vwX12_good cX12_351 rfl,
  f_if_ne (e_dx DX12_question_0 24 rfl) rfl,
  f_iconst (e_dx DX12_question_0 25 rfl) ⟨by decide, by decide⟩,
  ⟨(e_dx DX12_question_0 26 rfl), rfl⟩,
  f_aload_n (n := 0) (e_dx DX12_question_0 27 rfl) rfl,
  f_getf (e_dx DX12_question_0 28 rfl) fX12_309 rfl (by decide) (by decide) (by decide),
  f_iconst (e_dx DX12_question_0 29 rfl) ⟨by decide, by decide⟩,
  f_icmp_eq (e_dx DX12_question_0 30 rfl) rfl,
  f_aload_n (n := 0) (e_dx DX12_question_0 31 rfl) rfl,
  f_iconst (e_dx DX12_question_0 32 rfl) ⟨by decide, by decide⟩,
  x_callV (e_dx DX12_question_0 33 rfl) mwX12_wrong vwX12_wrong cX12_342 rfl,
  ⟨(e_dx DX12_question_0 34 rfl), rfl⟩,
  f_aload_n (n := 0) (e_dx DX12_question_0 35 rfl) rfl,
  f_aload_n (n := 0) (e_dx DX12_question_0 36 rfl) rfl,
  f_getf (e_dx DX12_question_0 37 rfl) fX12_321 rfl (by decide) (by decide) (by decide),
  f_putn (e_dx DX12_question_0 38 rfl) fX12_851 (fun q hq => by cases hq; rfl) rfl (Or.inl rfl) (by decide),
  f_aload_n (n := 0) (e_dx DX12_question_0 39 rfl) rfl,
  f_aload_n (n := 0) (e_dx DX12_question_1 0 rfl) rfl,
  f_getf (e_dx DX12_question_1 1 rfl) fX12_321 rfl (by decide) (by decide) (by decide),
  f_if_ge (e_dx DX12_question_1 2 rfl) rfl,
  f_iconst (e_dx DX12_question_1 3 rfl) ⟨by decide, by decide⟩,
  f_g19 (e_dx DX12_question_1 4 rfl) rfl,
  f_iconst (e_dx DX12_question_1 5 rfl) ⟨by decide, by decide⟩,
  trivial,
  x_callV (e_dx DX12_question_1 6 rfl) mwX12_good vwX12_good cX12_351 rfl,
  f_if_ne (e_dx DX12_question_1 7 rfl) rfl,
  f_iconst (e_dx DX12_question_1 8 rfl) ⟨by decide, by decide⟩,
  ⟨(e_dx DX12_question_1 9 rfl), rfl⟩,
  trivial,
  f_aload_n (n := 0) (e_dx DX12_question_1 10 rfl) rfl,
  f_bipush (e_dx DX12_question_1 11 rfl) ⟨by decide, by decide⟩,
  x_callV (e_dx DX12_question_1 12 rfl) mwX12_isWord vwX12_isWord cX12_348 rfl,
  f_if_eq (e_dx DX12_question_1 13 rfl) rfl,
  f_aload_n (n := 0) (e_dx DX12_question_1 14 rfl) rfl,
  f_iconst (e_dx DX12_question_1 15 rfl) ⟨by decide, by decide⟩,
  x_callV (e_dx DX12_question_1 16 rfl) mwX12_good vwX12_good cX12_351 rfl,
  f_if_ne (e_dx DX12_question_1 17 rfl) rfl,
  f_iconst (e_dx DX12_question_1 18 rfl) ⟨by decide, by decide⟩,
  ⟨(e_dx DX12_question_1 19 rfl), rfl⟩,
  f_aload_n (n := 0) (e_dx DX12_question_1 20 rfl) rfl,
  f_getf (e_dx DX12_question_1 21 rfl) fX12_309 rfl (by decide) (by decide) (by decide),
  f_iconst (e_dx DX12_question_1 22 rfl) ⟨by decide, by decide⟩,
  f_icmp_eq (e_dx DX12_question_1 23 rfl) rfl,
  f_aload_n (n := 0) (e_dx DX12_question_1 24 rfl) rfl,
  f_iconst (e_dx DX12_question_1 25 rfl) ⟨by decide, by decide⟩,
  x_callV (e_dx DX12_question_1 26 rfl) mwX12_wrong vwX12_wrong cX12_342 rfl,
  ⟨(e_dx DX12_question_1 27 rfl), rfl⟩,
  f_aload_n (n := 0) (e_dx DX12_question_1 28 rfl) rfl,
  f_aload_n (n := 0) (e_dx DX12_question_1 29 rfl) rfl,
  f_getf (e_dx DX12_question_1 30 rfl) fX12_321 rfl (by decide) (by decide) (by decide),
  f_putn (e_dx DX12_question_1 31 rfl) fX12_854 (fun q hq => by cases hq; rfl) rfl (Or.inl rfl) (by decide),
  f_aload_n (n := 0) (e_dx DX12_question_1 32 rfl) rfl,
  f_aload_n (n := 0) (e_dx DX12_question_1 33 rfl) rfl,
  f_getf (e_dx DX12_question_1 34 rfl) fX12_321 rfl (by decide) (by decide) (by decide),
  f_if_ge (e_dx DX12_question_1 35 rfl) rfl,
  f_iconst (e_dx DX12_question_1 36 rfl) ⟨by decide, by decide⟩,
  f_g19 (e_dx DX12_question_1 37 rfl) rfl,
  f_iconst (e_dx DX12_question_1 38 rfl) ⟨by decide, by decide⟩,
  trivial,
  x_callV (e_dx DX12_question_1 39 rfl) mwX12_good vwX12_good cX12_351 rfl,
  f_if_ne (e_dx DX12_question_2 0 rfl) rfl,
  f_iconst (e_dx DX12_question_2 1 rfl) ⟨by decide, by decide⟩,
  ⟨(e_dx DX12_question_2 2 rfl), rfl⟩,
  trivial,
  f_aload_n (n := 0) (e_dx DX12_question_2 3 rfl) rfl,
  f_getf (e_dx DX12_question_2 4 rfl) fX12_309 rfl (by decide) (by decide) (by decide),
  f_iconst (e_dx DX12_question_2 5 rfl) ⟨by decide, by decide⟩,
  f_icmp_ne (e_dx DX12_question_2 6 rfl) rfl,
  f_aload_n (n := 0) (e_dx DX12_question_2 7 rfl) rfl,
  f_getf (e_dx DX12_question_2 8 rfl) fX12_306 rfl (by decide) (by decide) (by decide),
  f_bipush (e_dx DX12_question_2 9 rfl) ⟨by decide, by decide⟩,
  f_icmp_lt (e_dx DX12_question_2 10 rfl) rfl,
  f_aload_n (n := 0) (e_dx DX12_question_2 11 rfl) rfl,
  f_getf (e_dx DX12_question_2 12 rfl) fX12_306 rfl (by decide) (by decide) (by decide),
  f_bipush (e_dx DX12_question_2 13 rfl) ⟨by decide, by decide⟩,
  f_icmp_le (e_dx DX12_question_2 14 rfl) rfl,
  trivial,
  f_aload_n (n := 0) (e_dx DX12_question_2 15 rfl) rfl,
  f_iconst (e_dx DX12_question_2 16 rfl) ⟨by decide, by decide⟩,
  x_callV (e_dx DX12_question_2 17 rfl) mwX12_wrong vwX12_wrong cX12_342 rfl,
  ⟨(e_dx DX12_question_2 18 rfl), rfl⟩,
  f_aload_n (n := 0) (e_dx DX12_question_2 19 rfl) rfl,
  f_aload_n (n := 0) (e_dx DX12_question_2 20 rfl) rfl,
  f_getf (e_dx DX12_question_2 21 rfl) fX12_306 rfl (by decide) (by decide) (by decide),
  f_putn (e_dx DX12_question_2 22 rfl) fX12_857 (fun q hq => by cases hq; rfl) rfl (Or.inl rfl) (by decide),
  f_aload_n (n := 0) (e_dx DX12_question_2 23 rfl) rfl,
  f_iconst (e_dx DX12_question_2 24 rfl) ⟨by decide, by decide⟩,
  x_callV (e_dx DX12_question_2 25 rfl) mwX12_good vwX12_good cX12_351 rfl,
  f_if_ne (e_dx DX12_question_2 26 rfl) rfl,
  f_iconst (e_dx DX12_question_2 27 rfl) ⟨by decide, by decide⟩,
  ⟨(e_dx DX12_question_2 28 rfl), rfl⟩,
  f_aload_n (n := 0) (e_dx DX12_question_2 29 rfl) rfl,
  f_getf (e_dx DX12_question_2 30 rfl) fX12_857 rfl (by decide) (by decide) (by decide),
  f_bipush (e_dx DX12_question_2 31 rfl) ⟨by decide, by decide⟩,
  f_icmp_eq (e_dx DX12_question_2 32 rfl) rfl,
  f_aload_n (n := 0) (e_dx DX12_question_2 33 rfl) rfl,
  f_getf (e_dx DX12_question_2 34 rfl) fX12_857 rfl (by decide) (by decide) (by decide),
  f_bipush (e_dx DX12_question_2 35 rfl) ⟨by decide, by decide⟩,
  f_icmp_ne (e_dx DX12_question_2 36 rfl) rfl,
  trivial,
  f_aload_n (n := 0) (e_dx DX12_question_2 37 rfl) rfl,
  x_callV (e_dx DX12_question_2 38 rfl) mwX12_isName vwX12_isName cX12_359 rfl,
  f_if_ne (e_dx DX12_question_2 39 rfl) rfl,
  f_aload_n (n := 0) (e_dx DX12_question_3 0 rfl) rfl,
  f_iconst (e_dx DX12_question_3 1 rfl) ⟨by decide, by decide⟩,
  x_callV (e_dx DX12_question_3 2 rfl) mwX12_wrong vwX12_wrong cX12_342 rfl,
  ⟨(e_dx DX12_question_3 3 rfl), rfl⟩,
  f_aload_n (n := 0) (e_dx DX12_question_3 4 rfl) rfl,
  f_aload_n (n := 0) (e_dx DX12_question_3 5 rfl) rfl,
  f_getL (e_dx DX12_question_3 6 rfl) fX12_332 rfl (by decide),
  f_putn (e_dx DX12_question_3 7 rfl) fX12_860 (fun q hq => by cases hq; rfl) rfl (Or.inr (Or.inr rfl)) (by decide),
  f_aload_n (n := 0) (e_dx DX12_question_3 8 rfl) rfl,
  f_iconst (e_dx DX12_question_3 9 rfl) ⟨by decide, by decide⟩,
  x_callV (e_dx DX12_question_3 10 rfl) mwX12_good vwX12_good cX12_351 rfl,
  ⟨(e_dx DX12_question_3 11 rfl), rfl⟩,
  f_aload_n (n := 0) (e_dx DX12_question_3 12 rfl) rfl,
  f_getf (e_dx DX12_question_3 13 rfl) fX12_857 rfl (by decide) (by decide) (by decide),
  f_bipush (e_dx DX12_question_3 14 rfl) ⟨by decide, by decide⟩,
  f_icmp_eq (e_dx DX12_question_3 15 rfl) rfl,
  f_aload_n (n := 0) (e_dx DX12_question_3 16 rfl) rfl,
  f_getf (e_dx DX12_question_3 17 rfl) fX12_857 rfl (by decide) (by decide) (by decide),
  f_bipush (e_dx DX12_question_3 18 rfl) ⟨by decide, by decide⟩,
  f_icmp_ne (e_dx DX12_question_3 19 rfl) rfl,
  trivial,
  f_aload_n (n := 0) (e_dx DX12_question_3 20 rfl) rfl,
  x_callV (e_dx DX12_question_3 21 rfl) mwX12_set vwX12_set cX12_863 rfl,
  ⟨(e_dx DX12_question_3 22 rfl), rfl⟩,
  f_aload_n (n := 0) (e_dx DX12_question_3 23 rfl) rfl,
  x_callV (e_dx DX12_question_3 24 rfl) mwX12_value vwX12_value cX12_821 rfl,
  f_if_ne (e_dx DX12_question_3 25 rfl) rfl,
  f_iconst (e_dx DX12_question_3 26 rfl) ⟨by decide, by decide⟩,
  ⟨(e_dx DX12_question_3 27 rfl), rfl⟩,
  f_aload_n (n := 0) (e_dx DX12_question_3 28 rfl) rfl,
  f_aload_n (n := 0) (e_dx DX12_question_3 29 rfl) rfl,
  f_getf (e_dx DX12_question_3 30 rfl) fX12_808 rfl (by decide) (by decide) (by decide),
  f_putn (e_dx DX12_question_3 31 rfl) fX12_848 (fun q hq => by cases hq; rfl) rfl (Or.inl rfl) (by decide),
  f_aload_n (n := 0) (e_dx DX12_question_3 32 rfl) rfl,
  f_bipush (e_dx DX12_question_3 33 rfl) ⟨by decide, by decide⟩,
  x_callV (e_dx DX12_question_3 34 rfl) mwX12_must vwX12_must cX12_389 rfl,
  f_if_eq (e_dx DX12_question_3 35 rfl) rfl,
  f_aload_n (n := 0) (e_dx DX12_question_3 36 rfl) rfl,
  x_callV (e_dx DX12_question_3 37 rfl) mwX12_set vwX12_set cX12_863 rfl,
  f_if_eq (e_dx DX12_question_3 38 rfl) rfl,
  f_iconst (e_dx DX12_question_3 39 rfl) ⟨by decide, by decide⟩,
  f_g19 (e_dx DX12_question_4 0 rfl) rfl,
  f_iconst (e_dx DX12_question_4 1 rfl) ⟨by decide, by decide⟩,
  ⟨(e_dx DX12_question_4 2 rfl), rfl⟩, trivial⟩
def lX12_question (c_X12_isWord : Int → e_M → (Int → Prop) → Prop) (c_X12_good : Int → e_M → (Int → e_M → Prop) → Prop) (c_X12_wrong : Int → e_M → (Int → e_M → Prop) → Prop) (c_X12_isName : e_M → (Int → Prop) → Prop) (c_X12_set : e_M → (Int → e_M → Prop) → Prop) (c_X12_value : e_M → (Int → e_M → Prop) → Prop) (c_X12_must : Int → e_M → (Int → e_M → Prop) → Prop) : List (Nat × f_Wt) := [(0, f_wm [(4466, 12, 123), (1, 0, 0)] (fun ar M R => c_X12_isWord (f_vi (f_nth ar 1)) M (fun r => R (some (.inl r)) M))), (1, f_wm [(4466, 12, 123), (1, 0, 0)] (fun ar M R => c_X12_good (f_vi (f_nth ar 1)) M (fun r M => R (some (.inl r)) M))), (2, f_wm [(4466, 12, 123), (1, 0, 0)] (fun ar M R => c_X12_wrong (f_vi (f_nth ar 1)) M (fun r M => R (some (.inl r)) M))), (3, f_wm [(4466, 12, 123)] (fun ar M R => c_X12_isName  M (fun r => R (some (.inl r)) M))), (4, f_wm [(4466, 12, 123)] (fun ar M R => c_X12_set  M (fun r M => R (some (.inl r)) M))), (5, f_wm [(4466, 12, 123)] (fun ar M R => c_X12_value  M (fun r M => R (some (.inl r)) M))), (6, f_wm [(4466, 12, 123), (1, 0, 0)] (fun ar M R => c_X12_must (f_vi (f_nth ar 1)) M (fun r M => R (some (.inl r)) M)))]
set_option maxRecDepth 20000 in
theorem BX12_question_85 {sh : Nat → Nat × Nat} {t : Nat} {rm : Nat × Nat × Nat} {cs : Nat × Nat} {R : f_Rt} {c_X12_isWord : Int → e_M → (Int → Prop) → Prop} {c_X12_good : Int → e_M → (Int → e_M → Prop) → Prop} {c_X12_wrong : Int → e_M → (Int → e_M → Prop) → Prop} {c_X12_isName : e_M → (Int → Prop) → Prop} {c_X12_set : e_M → (Int → e_M → Prop) → Prop} {c_X12_value : e_M → (Int → e_M → Prop) → Prop} {c_X12_must : Int → e_M → (Int → e_M → Prop) → Prop} {k93 : e_M → Prop} {xs1 : Int} {M : e_M} (C : f_Hy sh t yX12_question rm cs 107 (lX12_question c_X12_isWord c_X12_good c_X12_wrong c_X12_isName c_X12_set c_X12_value c_X12_must) R) (h93 : ∀ (M : e_M), k93 M → f_E sh t YX12_question rm cs (f_Q sh t R) 93 [.inr (.inr (.inl (12, 123, 4456)))] [] M) (h : VX12_question_85 c_X12_isWord c_X12_good c_X12_wrong c_X12_isName c_X12_set c_X12_value c_X12_must k93 (fun r M => R (some (.inl r)) M) xs1 M) : f_E sh t YX12_question rm cs (f_Q sh t R) 85 [.inr (.inr (.inl (12, 123, 4456)))] [.inl xs1, .inr (.inr (.inl (12, 123, 4456)))] M :=
  f_go (KC := f_kc [(93, f_pl [(4466, 12, 123)] [] (fun ls st M => k93 M))]) C qX12_questionf (f_kc_cons (f_pl_ok rfl (fun ls st M h => h93  M h)) f_kc_nil) 172 47 h
set_option maxRecDepth 20000 in
theorem BX12_question_93 {sh : Nat → Nat × Nat} {t : Nat} {rm : Nat × Nat × Nat} {cs : Nat × Nat} {R : f_Rt} {c_X12_isWord : Int → e_M → (Int → Prop) → Prop} {c_X12_good : Int → e_M → (Int → e_M → Prop) → Prop} {c_X12_wrong : Int → e_M → (Int → e_M → Prop) → Prop} {c_X12_isName : e_M → (Int → Prop) → Prop} {c_X12_set : e_M → (Int → e_M → Prop) → Prop} {c_X12_value : e_M → (Int → e_M → Prop) → Prop} {c_X12_must : Int → e_M → (Int → e_M → Prop) → Prop} {k155 : e_M → Prop} {k147 : Int → e_M → Prop} {M : e_M} (C : f_Hy sh t yX12_question rm cs 107 (lX12_question c_X12_isWord c_X12_good c_X12_wrong c_X12_isName c_X12_set c_X12_value c_X12_must) R) (h155 : ∀ (M : e_M), k155 M → f_E sh t YX12_question rm cs (f_Q sh t R) 155 [.inr (.inr (.inl (12, 123, 4456)))] [] M) (h147 : ∀ (xs1 : Int) (M : e_M), k147 xs1 M → f_E sh t YX12_question rm cs (f_Q sh t R) 147 [.inr (.inr (.inl (12, 123, 4456)))] [.inl xs1, .inr (.inr (.inl (12, 123, 4456)))] M) (h : VX12_question_93 c_X12_isWord c_X12_good c_X12_wrong c_X12_isName c_X12_set c_X12_value c_X12_must k155 k147 (fun r M => R (some (.inl r)) M) M) : f_E sh t YX12_question rm cs (f_Q sh t R) 93 [.inr (.inr (.inl (12, 123, 4456)))] [] M :=
  f_go (KC := f_kc [(155, f_pl [(4466, 12, 123)] [] (fun ls st M => k155 M)), (147, f_pl [(4466, 12, 123)] [(1, 0, 0), (4466, 12, 123)] (fun ls st M => k147 (f_vi (f_nth st 0)) M))]) C qX12_questionf (f_kc_cons (f_pl_ok rfl (fun ls st M h => h155  M h)) (f_kc_cons (f_pl_ok rfl (fun ls st M h => h147 _ M h)) f_kc_nil)) 172 52 h
set_option maxRecDepth 20000 in
theorem BX12_question_147 {sh : Nat → Nat × Nat} {t : Nat} {rm : Nat × Nat × Nat} {cs : Nat × Nat} {R : f_Rt} {c_X12_isWord : Int → e_M → (Int → Prop) → Prop} {c_X12_good : Int → e_M → (Int → e_M → Prop) → Prop} {c_X12_wrong : Int → e_M → (Int → e_M → Prop) → Prop} {c_X12_isName : e_M → (Int → Prop) → Prop} {c_X12_set : e_M → (Int → e_M → Prop) → Prop} {c_X12_value : e_M → (Int → e_M → Prop) → Prop} {c_X12_must : Int → e_M → (Int → e_M → Prop) → Prop} {k155 : e_M → Prop} {xs1 : Int} {M : e_M} (C : f_Hy sh t yX12_question rm cs 107 (lX12_question c_X12_isWord c_X12_good c_X12_wrong c_X12_isName c_X12_set c_X12_value c_X12_must) R) (h155 : ∀ (M : e_M), k155 M → f_E sh t YX12_question rm cs (f_Q sh t R) 155 [.inr (.inr (.inl (12, 123, 4456)))] [] M) (h : VX12_question_147 c_X12_isWord c_X12_good c_X12_wrong c_X12_isName c_X12_set c_X12_value c_X12_must k155 (fun r M => R (some (.inl r)) M) xs1 M) : f_E sh t YX12_question rm cs (f_Q sh t R) 147 [.inr (.inr (.inl (12, 123, 4456)))] [.inl xs1, .inr (.inr (.inl (12, 123, 4456)))] M :=
  f_go (KC := f_kc [(155, f_pl [(4466, 12, 123)] [] (fun ls st M => k155 M))]) C qX12_questionf (f_kc_cons (f_pl_ok rfl (fun ls st M h => h155  M h)) f_kc_nil) 172 82 h
set_option maxRecDepth 20000 in
theorem BX12_question_155 {sh : Nat → Nat × Nat} {t : Nat} {rm : Nat × Nat × Nat} {cs : Nat × Nat} {R : f_Rt} {c_X12_isWord : Int → e_M → (Int → Prop) → Prop} {c_X12_good : Int → e_M → (Int → e_M → Prop) → Prop} {c_X12_wrong : Int → e_M → (Int → e_M → Prop) → Prop} {c_X12_isName : e_M → (Int → Prop) → Prop} {c_X12_set : e_M → (Int → e_M → Prop) → Prop} {c_X12_value : e_M → (Int → e_M → Prop) → Prop} {c_X12_must : Int → e_M → (Int → e_M → Prop) → Prop} {k181 : e_M → Prop} {k223 : e_M → Prop} {k268 : e_M → Prop} {M : e_M} (C : f_Hy sh t yX12_question rm cs 107 (lX12_question c_X12_isWord c_X12_good c_X12_wrong c_X12_isName c_X12_set c_X12_value c_X12_must) R) (h181 : ∀ (M : e_M), k181 M → f_E sh t YX12_question rm cs (f_Q sh t R) 181 [.inr (.inr (.inl (12, 123, 4456)))] [] M) (h223 : ∀ (M : e_M), k223 M → f_E sh t YX12_question rm cs (f_Q sh t R) 223 [.inr (.inr (.inl (12, 123, 4456)))] [] M) (h268 : ∀ (M : e_M), k268 M → f_E sh t YX12_question rm cs (f_Q sh t R) 268 [.inr (.inr (.inl (12, 123, 4456)))] [] M) (h : VX12_question_155 c_X12_isWord c_X12_good c_X12_wrong c_X12_isName c_X12_set c_X12_value c_X12_must k181 k223 k268 (fun r M => R (some (.inl r)) M) M) : f_E sh t YX12_question rm cs (f_Q sh t R) 155 [.inr (.inr (.inl (12, 123, 4456)))] [] M :=
  f_go (KC := f_kc [(181, f_pl [(4466, 12, 123)] [] (fun ls st M => k181 M)), (223, f_pl [(4466, 12, 123)] [] (fun ls st M => k223 M)), (268, f_pl [(4466, 12, 123)] [] (fun ls st M => k268 M))]) C qX12_questionf (f_kc_cons (f_pl_ok rfl (fun ls st M h => h181  M h)) (f_kc_cons (f_pl_ok rfl (fun ls st M h => h223  M h)) (f_kc_cons (f_pl_ok rfl (fun ls st M h => h268  M h)) f_kc_nil))) 172 87 h
set_option maxRecDepth 20000 in
theorem BX12_question_181 {sh : Nat → Nat × Nat} {t : Nat} {rm : Nat × Nat × Nat} {cs : Nat × Nat} {R : f_Rt} {c_X12_isWord : Int → e_M → (Int → Prop) → Prop} {c_X12_good : Int → e_M → (Int → e_M → Prop) → Prop} {c_X12_wrong : Int → e_M → (Int → e_M → Prop) → Prop} {c_X12_isName : e_M → (Int → Prop) → Prop} {c_X12_set : e_M → (Int → e_M → Prop) → Prop} {c_X12_value : e_M → (Int → e_M → Prop) → Prop} {c_X12_must : Int → e_M → (Int → e_M → Prop) → Prop} {M : e_M} (C : f_Hy sh t yX12_question rm cs 107 (lX12_question c_X12_isWord c_X12_good c_X12_wrong c_X12_isName c_X12_set c_X12_value c_X12_must) R) (h : VX12_question_181 c_X12_isWord c_X12_good c_X12_wrong c_X12_isName c_X12_set c_X12_value c_X12_must (fun r M => R (some (.inl r)) M) M) : f_E sh t YX12_question rm cs (f_Q sh t R) 181 [.inr (.inr (.inl (12, 123, 4456)))] [] M :=
  f_go (KC := f_kc []) C qX12_questionf f_kc_nil 172 100 h
set_option maxRecDepth 20000 in
theorem BX12_question_223 {sh : Nat → Nat × Nat} {t : Nat} {rm : Nat × Nat × Nat} {cs : Nat × Nat} {R : f_Rt} {c_X12_isWord : Int → e_M → (Int → Prop) → Prop} {c_X12_good : Int → e_M → (Int → e_M → Prop) → Prop} {c_X12_wrong : Int → e_M → (Int → e_M → Prop) → Prop} {c_X12_isName : e_M → (Int → Prop) → Prop} {c_X12_set : e_M → (Int → e_M → Prop) → Prop} {c_X12_value : e_M → (Int → e_M → Prop) → Prop} {c_X12_must : Int → e_M → (Int → e_M → Prop) → Prop} {M : e_M} (C : f_Hy sh t yX12_question rm cs 107 (lX12_question c_X12_isWord c_X12_good c_X12_wrong c_X12_isName c_X12_set c_X12_value c_X12_must) R) (h : VX12_question_223 c_X12_isWord c_X12_good c_X12_wrong c_X12_isName c_X12_set c_X12_value c_X12_must (fun r M => R (some (.inl r)) M) M) : f_E sh t YX12_question rm cs (f_Q sh t R) 223 [.inr (.inr (.inl (12, 123, 4456)))] [] M :=
  f_go (KC := f_kc []) C qX12_questionf f_kc_nil 172 123 h
set_option maxRecDepth 20000 in
theorem BX12_question_268 {sh : Nat → Nat × Nat} {t : Nat} {rm : Nat × Nat × Nat} {cs : Nat × Nat} {R : f_Rt} {c_X12_isWord : Int → e_M → (Int → Prop) → Prop} {c_X12_good : Int → e_M → (Int → e_M → Prop) → Prop} {c_X12_wrong : Int → e_M → (Int → e_M → Prop) → Prop} {c_X12_isName : e_M → (Int → Prop) → Prop} {c_X12_set : e_M → (Int → e_M → Prop) → Prop} {c_X12_value : e_M → (Int → e_M → Prop) → Prop} {c_X12_must : Int → e_M → (Int → e_M → Prop) → Prop} {M : e_M} (C : f_Hy sh t yX12_question rm cs 107 (lX12_question c_X12_isWord c_X12_good c_X12_wrong c_X12_isName c_X12_set c_X12_value c_X12_must) R) (h : VX12_question_268 c_X12_isWord c_X12_good c_X12_wrong c_X12_isName c_X12_set c_X12_value c_X12_must (fun r M => R (some (.inl r)) M) M) : f_E sh t YX12_question rm cs (f_Q sh t R) 268 [.inr (.inr (.inl (12, 123, 4456)))] [] M :=
  f_go (KC := f_kc []) C qX12_questionf f_kc_nil 172 147 h
set_option maxRecDepth 20000 in
theorem BX12_question {sh : Nat → Nat × Nat} {t : Nat} {rm : Nat × Nat × Nat} {cs : Nat × Nat} {R : f_Rt} {c_X12_isWord : Int → e_M → (Int → Prop) → Prop} {c_X12_good : Int → e_M → (Int → e_M → Prop) → Prop} {c_X12_wrong : Int → e_M → (Int → e_M → Prop) → Prop} {c_X12_isName : e_M → (Int → Prop) → Prop} {c_X12_set : e_M → (Int → e_M → Prop) → Prop} {c_X12_value : e_M → (Int → e_M → Prop) → Prop} {c_X12_must : Int → e_M → (Int → e_M → Prop) → Prop} {k93 : e_M → Prop} {k85 : Int → e_M → Prop} {M : e_M} (C : f_Hy sh t yX12_question rm cs 107 (lX12_question c_X12_isWord c_X12_good c_X12_wrong c_X12_isName c_X12_set c_X12_value c_X12_must) R) (h93 : ∀ (M : e_M), k93 M → f_E sh t YX12_question rm cs (f_Q sh t R) 93 [.inr (.inr (.inl (12, 123, 4456)))] [] M) (h85 : ∀ (xs1 : Int) (M : e_M), k85 xs1 M → f_E sh t YX12_question rm cs (f_Q sh t R) 85 [.inr (.inr (.inl (12, 123, 4456)))] [.inl xs1, .inr (.inr (.inl (12, 123, 4456)))] M) (h : VX12_question c_X12_isWord c_X12_good c_X12_wrong c_X12_isName c_X12_set c_X12_value c_X12_must k93 k85 (fun r M => R (some (.inl r)) M) M) : f_E sh t YX12_question rm cs (f_Q sh t R) 0 [.inr (.inr (.inl (12, 123, 4456)))] [] M :=
  f_go (KC := f_kc [(93, f_pl [(4466, 12, 123)] [] (fun ls st M => k93 M)), (85, f_pl [(4466, 12, 123)] [(1, 0, 0), (4466, 12, 123)] (fun ls st M => k85 (f_vi (f_nth st 0)) M))]) C qX12_questionf (f_kc_cons (f_pl_ok rfl (fun ls st M h => h93  M h)) (f_kc_cons (f_pl_ok rfl (fun ls st M h => h85 _ M h)) f_kc_nil)) 172 0 h
def WX12_question_181 (Q : Int → e_M → Prop) (M : e_M) : Prop :=
  VX12_question_181 WX12_isWord WX12_good WX12_wrong WX12_isName WX12_set (CX12_value 13) WX12_must Q M
def WX12_question_223 (Q : Int → e_M → Prop) (M : e_M) : Prop :=
  VX12_question_223 WX12_isWord WX12_good WX12_wrong WX12_isName WX12_set (CX12_value 13) WX12_must Q M
def WX12_question_268 (Q : Int → e_M → Prop) (M : e_M) : Prop :=
  VX12_question_268 WX12_isWord WX12_good WX12_wrong WX12_isName WX12_set (CX12_value 13) WX12_must Q M
def WX12_question_155 (Q : Int → e_M → Prop) (M : e_M) : Prop :=
  VX12_question_155 WX12_isWord WX12_good WX12_wrong WX12_isName WX12_set (CX12_value 13) WX12_must (WX12_question_181 Q) (WX12_question_223 Q) (WX12_question_268 Q) Q M
def WX12_question_147 (Q : Int → e_M → Prop) (xs1 : Int) (M : e_M) : Prop :=
  VX12_question_147 WX12_isWord WX12_good WX12_wrong WX12_isName WX12_set (CX12_value 13) WX12_must (WX12_question_155 Q) Q xs1 M
def WX12_question_93 (Q : Int → e_M → Prop) (M : e_M) : Prop :=
  VX12_question_93 WX12_isWord WX12_good WX12_wrong WX12_isName WX12_set (CX12_value 13) WX12_must (WX12_question_155 Q) (WX12_question_147 Q) Q M
def WX12_question_85 (Q : Int → e_M → Prop) (xs1 : Int) (M : e_M) : Prop :=
  VX12_question_85 WX12_isWord WX12_good WX12_wrong WX12_isName WX12_set (CX12_value 13) WX12_must (WX12_question_93 Q) Q xs1 M
def WX12_question (M : e_M) (Q : Int → e_M → Prop) : Prop :=
  VX12_question WX12_isWord WX12_good WX12_wrong WX12_isName WX12_set (CX12_value 13) WX12_must (WX12_question_93 Q) (WX12_question_85 Q) Q M
theorem PX12_question_181 {sh : Nat → Nat × Nat} {t : Nat} {rm : Nat × Nat × Nat} {cs : Nat × Nat} {R : f_Rt} {M : e_M} (C : f_Hy sh t yX12_question rm cs 107 (lX12_question WX12_isWord WX12_good WX12_wrong WX12_isName WX12_set (CX12_value 13) WX12_must) R) (h : WX12_question_181 (fun r M => R (some (.inl r)) M) M) : f_E sh t YX12_question rm cs (f_Q sh t R) 181 [.inr (.inr (.inl (12, 123, 4456)))] [] M :=
  BX12_question_181 C h
theorem PX12_question_223 {sh : Nat → Nat × Nat} {t : Nat} {rm : Nat × Nat × Nat} {cs : Nat × Nat} {R : f_Rt} {M : e_M} (C : f_Hy sh t yX12_question rm cs 107 (lX12_question WX12_isWord WX12_good WX12_wrong WX12_isName WX12_set (CX12_value 13) WX12_must) R) (h : WX12_question_223 (fun r M => R (some (.inl r)) M) M) : f_E sh t YX12_question rm cs (f_Q sh t R) 223 [.inr (.inr (.inl (12, 123, 4456)))] [] M :=
  BX12_question_223 C h
theorem PX12_question_268 {sh : Nat → Nat × Nat} {t : Nat} {rm : Nat × Nat × Nat} {cs : Nat × Nat} {R : f_Rt} {M : e_M} (C : f_Hy sh t yX12_question rm cs 107 (lX12_question WX12_isWord WX12_good WX12_wrong WX12_isName WX12_set (CX12_value 13) WX12_must) R) (h : WX12_question_268 (fun r M => R (some (.inl r)) M) M) : f_E sh t YX12_question rm cs (f_Q sh t R) 268 [.inr (.inr (.inl (12, 123, 4456)))] [] M :=
  BX12_question_268 C h
theorem PX12_question_155 {sh : Nat → Nat × Nat} {t : Nat} {rm : Nat × Nat × Nat} {cs : Nat × Nat} {R : f_Rt} {M : e_M} (C : f_Hy sh t yX12_question rm cs 107 (lX12_question WX12_isWord WX12_good WX12_wrong WX12_isName WX12_set (CX12_value 13) WX12_must) R) (h : WX12_question_155 (fun r M => R (some (.inl r)) M) M) : f_E sh t YX12_question rm cs (f_Q sh t R) 155 [.inr (.inr (.inl (12, 123, 4456)))] [] M :=
  BX12_question_155 C (fun M h => PX12_question_181 C h) (fun M h => PX12_question_223 C h) (fun M h => PX12_question_268 C h) h
theorem PX12_question_147 {sh : Nat → Nat × Nat} {t : Nat} {rm : Nat × Nat × Nat} {cs : Nat × Nat} {R : f_Rt} {xs1 : Int} {M : e_M} (C : f_Hy sh t yX12_question rm cs 107 (lX12_question WX12_isWord WX12_good WX12_wrong WX12_isName WX12_set (CX12_value 13) WX12_must) R) (h : WX12_question_147 (fun r M => R (some (.inl r)) M) xs1 M) : f_E sh t YX12_question rm cs (f_Q sh t R) 147 [.inr (.inr (.inl (12, 123, 4456)))] [.inl xs1, .inr (.inr (.inl (12, 123, 4456)))] M :=
  BX12_question_147 C (fun M h => PX12_question_155 C h) h
theorem PX12_question_93 {sh : Nat → Nat × Nat} {t : Nat} {rm : Nat × Nat × Nat} {cs : Nat × Nat} {R : f_Rt} {M : e_M} (C : f_Hy sh t yX12_question rm cs 107 (lX12_question WX12_isWord WX12_good WX12_wrong WX12_isName WX12_set (CX12_value 13) WX12_must) R) (h : WX12_question_93 (fun r M => R (some (.inl r)) M) M) : f_E sh t YX12_question rm cs (f_Q sh t R) 93 [.inr (.inr (.inl (12, 123, 4456)))] [] M :=
  BX12_question_93 C (fun M h => PX12_question_155 C h) (fun xs1 M h => PX12_question_147 C h) h
theorem PX12_question_85 {sh : Nat → Nat × Nat} {t : Nat} {rm : Nat × Nat × Nat} {cs : Nat × Nat} {R : f_Rt} {xs1 : Int} {M : e_M} (C : f_Hy sh t yX12_question rm cs 107 (lX12_question WX12_isWord WX12_good WX12_wrong WX12_isName WX12_set (CX12_value 13) WX12_must) R) (h : WX12_question_85 (fun r M => R (some (.inl r)) M) xs1 M) : f_E sh t YX12_question rm cs (f_Q sh t R) 85 [.inr (.inr (.inl (12, 123, 4456)))] [.inl xs1, .inr (.inr (.inl (12, 123, 4456)))] M :=
  BX12_question_85 C (fun M h => PX12_question_93 C h) h
theorem PX12_question {sh : Nat → Nat × Nat} {t : Nat} {rm : Nat × Nat × Nat} {cs : Nat × Nat} {R : f_Rt} {M : e_M} (C : f_Hy sh t yX12_question rm cs 107 (lX12_question WX12_isWord WX12_good WX12_wrong WX12_isName WX12_set (CX12_value 13) WX12_must) R) (h : WX12_question M (fun r M => R (some (.inl r)) M)) : f_E sh t YX12_question rm cs (f_Q sh t R) 0 [.inr (.inr (.inl (12, 123, 4456)))] [] M :=
  BX12_question C (fun M h => PX12_question_93 C h) (fun xs1 M h => PX12_question_85 C h) h
def wX12_question : f_Wt := f_wm [(4466, 12, 123)] (fun ar M R => WX12_question M (fun r M => R (some (.inl r)) M))
theorem TX12_question {sh : Nat → Nat × Nat} {t : Nat} : f_Mt sh t YX12_question 107 (wX12_question) :=
  f_Mt_of (k := 0) (Nat.le_of_ble_eq_true rfl) rfl rfl (fun ar M R rm cs h1 h2 h3 hX h => PX12_question ⟨Nat.le_of_ble_eq_true rfl, h1, h2, h3, ⟨(f_Mt.up (Nat.le_of_ble_eq_true rfl) TX12_isWord), (f_Mt.up (Nat.le_of_ble_eq_true rfl) TX12_good), (f_Mt.up (Nat.le_of_ble_eq_true rfl) TX12_wrong), (f_Mt.up (Nat.le_of_ble_eq_true rfl) TX12_isName), (f_Mt.up (Nat.le_of_ble_eq_true rfl) TX12_set), (f_Mt.up (Nat.le_of_ble_eq_true rfl) (TCX12_value 13)), (f_Mt.up (Nat.le_of_ble_eq_true rfl) TX12_must), trivial⟩, hX⟩ h)
def VX12_debts_26 (c_X12_id : Int → Int → e_M → (Int → Prop) → Prop) (c_X12_isHere : Int → Int → e_M → (Int → Prop) → Prop) (k68 : Int → Int → Int → Prop) (k26 : Int → Int → Int → Int → Prop) (Q : Int → Prop) (x1 : Int) (x2 : Int) (x3 : Int) (x5 : Int) (M : e_M) : Prop :=
  ((0 ≤ x2 ∧ x2 < 80) ∧ (((M 4499 (x2.toNat)) ≤ x5 → (k68 x1 x2 x3)) ∧ (x5 < (M 4499 (x2.toNat)) → ((0 ≤ (e_w32 ((e_w32 ((8 : Int) * x2)) + x5)) ∧ (e_w32 ((e_w32 ((8 : Int) * x2)) + x5)) < 640) ∧ (c_X12_id 2 (M 4500 ((e_w32 ((e_w32 ((8 : Int) * x2)) + x5)).toNat)) M (fun r1 => ((0 ≤ r1 ∧ r1 < 560) ∧ (k26 x1 x2 (e_w64 (x3 + (M 4490 (r1.toNat)))) (e_w32 (x5 + 1))))))))))
def VX12_debts_68 (c_X12_id : Int → Int → e_M → (Int → Prop) → Prop) (c_X12_isHere : Int → Int → e_M → (Int → Prop) → Prop) (k76 : Int → Int → Int → Prop) (Q : Int → Prop) (x1 : Int) (x2 : Int) (x3 : Int) (M : e_M) : Prop :=
  ((¬ x1 = 1 → (Q x3)) ∧ (x1 = 1 → (k76 x2 x3 0)))
def VX12_debts_76 (c_X12_id : Int → Int → e_M → (Int → Prop) → Prop) (c_X12_isHere : Int → Int → e_M → (Int → Prop) → Prop) (k128 : Int → Int → Int → Prop) (k129 : Int → Int → Int → Int → Prop) (Q : Int → Prop) (x2 : Int) (x3 : Int) (x5 : Int) (M : e_M) : Prop :=
  ((0 ≤ (2 : Int) ∧ (2 : Int) < 7) ∧ (((M 4483 ((2 : Int).toNat)) ≤ x5 → (Q x3)) ∧ (x5 < (M 4483 ((2 : Int).toNat)) → (c_X12_isHere 2 x5 M (fun r1 => ((r1 = 0 → (k128 x2 x5 x3)) ∧ (¬ r1 = 0 → (c_X12_id 2 x5 M (fun r2 => ((0 ≤ r2 ∧ r2 < 560) ∧ ((¬ (M 4489 (r2.toNat)) = x2 → (k128 x2 x5 x3)) ∧ ((M 4489 (r2.toNat)) = x2 → (c_X12_id 2 x5 M (fun r3 => ((0 ≤ r3 ∧ r3 < 560) ∧ (k129 x2 x5 (M 4490 (r3.toNat)) x3))))))))))))))))
def VX12_debts_128 (c_X12_id : Int → Int → e_M → (Int → Prop) → Prop) (c_X12_isHere : Int → Int → e_M → (Int → Prop) → Prop) (k129 : Int → Int → Int → Int → Prop) (Q : Int → Prop) (x2 : Int) (x5 : Int) (xs0 : Int) (M : e_M) : Prop :=
  (k129 x2 x5 0 xs0)
def VX12_debts_129 (c_X12_id : Int → Int → e_M → (Int → Prop) → Prop) (c_X12_isHere : Int → Int → e_M → (Int → Prop) → Prop) (k76 : Int → Int → Int → Prop) (Q : Int → Prop) (x2 : Int) (x5 : Int) (xs1 : Int) (xs0 : Int) (M : e_M) : Prop :=
  (k76 x2 (e_w64 (xs0 + xs1)) (e_w32 (x5 + 1)))
def VX12_debts (c_X12_id : Int → Int → e_M → (Int → Prop) → Prop) (c_X12_isHere : Int → Int → e_M → (Int → Prop) → Prop) (k68 : Int → Int → Int → Prop) (k26 : Int → Int → Int → Int → Prop) (Q : Int → Prop) (x1 : Int) (x2 : Int) (M : e_M) : Prop :=
  ((¬ x1 = 2 → ((¬ x1 = 0 → (k68 x1 x2 0)) ∧ (x1 = 0 → (k26 x1 x2 0 0)))) ∧ (x1 = 2 → (c_X12_id x1 x2 M (fun r1 => ((0 ≤ r1 ∧ r1 < 560) ∧ (Q (M 4490 (r1.toNat))))))))
def yX12_debts (i : Nat) : e_Y := x_get YX12_debts [YX12_id, YX12_isHere] i
def pX12_debtsf : List x_I := [(0, 2, 1, 1, 0, 0, []), (1, 0, 1, 0, 0, 2, []), (2, 18, 17, 1, 12, 0, []), (5, 4, 1, 0, 0, 0, []), (6, 25, 12, 57, 4, 0, [(0, 20, 560), (0, 1, 34)]), (9, 2, 1, 1, 0, 0, []), (10, 2, 1, 2, 0, 0, []), (11, 40, 0, 2, 0, 0, []), (14, 27, 0, 0, 0, 0, []), (15, 14, 0, 0, 0, 0, []), (16, 43, 0, 0, 0, 0, []), (17, 1, 1, 0, 0, 0, []), (18, 6, 1, 3, 0, 0, []), (19, 2, 1, 1, 0, 0, []), (20, 17, 68, 1, 44, 0, []), (23, 0, 1, 0, 0, 0, []), (24, 5, 2, 5, 0, 0, []), (26, 49, 0, 0, 0, 0, []), (26, 2, 2, 5, 0, 0, []), (28, 4, 1, 0, 0, 0, []), (29, 25, 12, 66, 4, 0, [(0, 20, 80), (0, 1, 43)]), (32, 2, 1, 2, 0, 0, []), (33, 27, 0, 0, 0, 0, []), (34, 18, 68, 3, 44, 0, []), (37, 3, 1, 3, 0, 0, []), (38, 4, 1, 0, 0, 0, []), (39, 25, 12, 57, 4, 0, [(0, 20, 560), (0, 1, 34)]), (42, 0, 1, 0, 0, 2, []), (43, 4, 1, 0, 0, 0, []), (44, 25, 12, 67, 4, 0, [(0, 20, 640), (0, 1, 44)]), (47, 0, 2, 0, 0, 8, []), (49, 2, 1, 2, 0, 0, []), (50, 9, 0, 2, 0, 0, []), (51, 2, 2, 5, 0, 0, []), (53, 9, 0, 0, 0, 0, []), (54, 27, 0, 0, 0, 0, []), (55, 40, 0, 2, 0, 0, []), (58, 27, 0, 0, 0, 0, []), (59, 14, 0, 0, 0, 0, []), (60, 10, 0, 0, 0, 0, []), (61, 6, 1, 3, 0, 0, []), (62, 8, 0, 5, 0, 1, []), (65, 19, 26, 0, 18, 0, []), (68, 49, 0, 0, 0, 0, []), (68, 2, 1, 1, 0, 0, []), (69, 0, 1, 0, 0, 1, []), (70, 18, 137, 1, 86, 0, []), (73, 0, 1, 0, 0, 0, []), (74, 5, 2, 5, 0, 0, []), (76, 49, 0, 0, 0, 0, []), (76, 2, 2, 5, 0, 0, []), (78, 4, 1, 0, 0, 0, []), (79, 25, 12, 50, 4, 0, [(0, 20, 7), (0, 1, 27)]), (82, 0, 1, 0, 0, 2, []), (83, 27, 0, 0, 0, 0, []), (84, 18, 137, 3, 86, 0, []), (87, 3, 1, 3, 0, 0, []), (88, 4, 1, 0, 0, 0, []), (89, 0, 1, 0, 0, 2, []), (90, 2, 2, 5, 0, 0, []), (92, 40, 1, 3, 14, 0, []), (95, 17, 128, 0, 79, 0, []), (98, 4, 1, 0, 0, 0, []), (99, 25, 12, 56, 4, 0, [(0, 20, 560), (0, 1, 33)]), (102, 0, 1, 0, 0, 2, []), (103, 2, 2, 5, 0, 0, []), (105, 40, 0, 2, 0, 0, []), (108, 27, 0, 0, 0, 0, []), (109, 2, 1, 2, 0, 0, []), (110, 18, 128, 1, 79, 0, []), (113, 4, 1, 0, 0, 0, []), (114, 25, 12, 57, 4, 0, [(0, 20, 560), (0, 1, 34)]), (117, 0, 1, 0, 0, 2, []), (118, 2, 2, 5, 0, 0, []), (120, 40, 0, 2, 0, 0, []), (123, 27, 0, 0, 0, 0, []), (124, 14, 0, 0, 0, 0, []), (125, 19, 129, 0, 81, 0, []), (128, 49, 0, 0, 0, 0, []), (128, 1, 1, 0, 0, 0, []), (129, 49, 0, 0, 0, 0, []), (129, 10, 0, 0, 0, 0, []), (130, 6, 1, 3, 0, 0, []), (131, 8, 0, 5, 0, 1, []), (134, 19, 76, 0, 50, 0, []), (137, 3, 1, 3, 0, 0, []), (138, 43, 0, 0, 0, 0, [])]
set_option maxRecDepth 20000 in
theorem qX12_debtsf : f_all yX12_debts YX12_debts pX12_debtsf :=
  ⟨f_iload_n (n := 1) (e_dx DX12_debts_0 0 rfl) rfl,
  f_iconst (e_dx DX12_debts_0 1 rfl) ⟨by decide, by decide⟩,
  f_icmp_ne (e_dx DX12_debts_0 2 rfl) rfl,
  f_aload_n (n := 0) (e_dx DX12_debts_0 3 rfl) rfl,
  f_getA (e_dx DX12_debts_0 4 rfl) fX12_112 rfl (by decide) (Nat.le_of_ble_eq_true rfl) rfl (by decide),
  f_iload_n (n := 1) (e_dx DX12_debts_0 5 rfl) rfl,
  f_iload_n (n := 2) (e_dx DX12_debts_0 6 rfl) rfl,
  x_callS (e_dx DX12_debts_0 7 rfl) mwX12_id cX12_540 swX12_id rfl,
  f_iaload (e_dx DX12_debts_0 8 rfl),
  f_g14 (e_dx DX12_debts_0 9 rfl),
  ⟨(e_dx DX12_debts_0 10 rfl), rfl⟩,
  f_lconst (n := 0) (e_dx DX12_debts_0 11 rfl) rfl,
  f_lstore_n (n := 3) (e_dx DX12_debts_0 12 rfl) rfl (by decide),
  f_iload_n (n := 1) (e_dx DX12_debts_0 13 rfl) rfl,
  f_if_ne (e_dx DX12_debts_0 14 rfl) rfl,
  f_iconst (e_dx DX12_debts_0 15 rfl) ⟨by decide, by decide⟩,
  f_istore (e_dx DX12_debts_0 16 rfl) (by decide),
  trivial,
  f_iload (e_dx DX12_debts_0 17 rfl),
  f_aload_n (n := 0) (e_dx DX12_debts_0 18 rfl) rfl,
  f_getA (e_dx DX12_debts_0 19 rfl) fX12_139 rfl (by decide) (Nat.le_of_ble_eq_true rfl) rfl (by decide),
  f_iload_n (n := 2) (e_dx DX12_debts_0 20 rfl) rfl,
  f_iaload (e_dx DX12_debts_0 21 rfl),
  f_icmp_ge (e_dx DX12_debts_0 22 rfl) rfl,
  f_lload_n (n := 3) (e_dx DX12_debts_0 23 rfl) rfl,
  f_aload_n (n := 0) (e_dx DX12_debts_0 24 rfl) rfl,
  f_getA (e_dx DX12_debts_0 25 rfl) fX12_112 rfl (by decide) (Nat.le_of_ble_eq_true rfl) rfl (by decide),
  f_iconst (e_dx DX12_debts_0 26 rfl) ⟨by decide, by decide⟩,
  f_aload_n (n := 0) (e_dx DX12_debts_0 27 rfl) rfl,
  f_getA (e_dx DX12_debts_0 28 rfl) fX12_142 rfl (by decide) (Nat.le_of_ble_eq_true rfl) rfl (by decide),
  f_bipush (e_dx DX12_debts_0 29 rfl) ⟨by decide, by decide⟩,
  f_iload_n (n := 2) (e_dx DX12_debts_0 30 rfl) rfl,
  f_imul (e_dx DX12_debts_0 31 rfl),
  f_iload (e_dx DX12_debts_0 32 rfl),
  f_iadd (e_dx DX12_debts_0 33 rfl),
  f_iaload (e_dx DX12_debts_0 34 rfl),
  x_callS (e_dx DX12_debts_0 35 rfl) mwX12_id cX12_540 swX12_id rfl,
  f_iaload (e_dx DX12_debts_0 36 rfl),
  f_g14 (e_dx DX12_debts_0 37 rfl),
  f_ladd (e_dx DX12_debts_0 38 rfl),
  f_lstore_n (n := 3) (e_dx DX12_debts_0 39 rfl) rfl (by decide),
  f_g8 (e_dx DX12_debts_1 0 rfl) ⟨by decide, by decide⟩,
  f_g19 (e_dx DX12_debts_1 1 rfl) rfl,
  trivial,
  f_iload_n (n := 1) (e_dx DX12_debts_1 2 rfl) rfl,
  f_iconst (e_dx DX12_debts_1 3 rfl) ⟨by decide, by decide⟩,
  f_icmp_ne (e_dx DX12_debts_1 4 rfl) rfl,
  f_iconst (e_dx DX12_debts_1 5 rfl) ⟨by decide, by decide⟩,
  f_istore (e_dx DX12_debts_1 6 rfl) (by decide),
  trivial,
  f_iload (e_dx DX12_debts_1 7 rfl),
  f_aload_n (n := 0) (e_dx DX12_debts_1 8 rfl) rfl,
  f_getA (e_dx DX12_debts_1 9 rfl) fX12_91 rfl (by decide) (Nat.le_of_ble_eq_true rfl) rfl (by decide),
  f_iconst (e_dx DX12_debts_1 10 rfl) ⟨by decide, by decide⟩,
  f_iaload (e_dx DX12_debts_1 11 rfl),
  f_icmp_ge (e_dx DX12_debts_1 12 rfl) rfl,
  f_lload_n (n := 3) (e_dx DX12_debts_1 13 rfl) rfl,
  f_aload_n (n := 0) (e_dx DX12_debts_1 14 rfl) rfl,
  f_iconst (e_dx DX12_debts_1 15 rfl) ⟨by decide, by decide⟩,
  f_iload (e_dx DX12_debts_1 16 rfl),
  x_callV (e_dx DX12_debts_1 17 rfl) mwX12_isHere vwX12_isHere cX12_875 rfl,
  f_if_eq (e_dx DX12_debts_1 18 rfl) rfl,
  f_aload_n (n := 0) (e_dx DX12_debts_1 19 rfl) rfl,
  f_getA (e_dx DX12_debts_1 20 rfl) fX12_109 rfl (by decide) (Nat.le_of_ble_eq_true rfl) rfl (by decide),
  f_iconst (e_dx DX12_debts_1 21 rfl) ⟨by decide, by decide⟩,
  f_iload (e_dx DX12_debts_1 22 rfl),
  x_callS (e_dx DX12_debts_1 23 rfl) mwX12_id cX12_540 swX12_id rfl,
  f_iaload (e_dx DX12_debts_1 24 rfl),
  f_iload_n (n := 2) (e_dx DX12_debts_1 25 rfl) rfl,
  f_icmp_ne (e_dx DX12_debts_1 26 rfl) rfl,
  f_aload_n (n := 0) (e_dx DX12_debts_1 27 rfl) rfl,
  f_getA (e_dx DX12_debts_1 28 rfl) fX12_112 rfl (by decide) (Nat.le_of_ble_eq_true rfl) rfl (by decide),
  f_iconst (e_dx DX12_debts_1 29 rfl) ⟨by decide, by decide⟩,
  f_iload (e_dx DX12_debts_1 30 rfl),
  x_callS (e_dx DX12_debts_1 31 rfl) mwX12_id cX12_540 swX12_id rfl,
  f_iaload (e_dx DX12_debts_1 32 rfl),
  f_g14 (e_dx DX12_debts_1 33 rfl),
  f_g19 (e_dx DX12_debts_1 34 rfl) rfl,
  trivial,
  f_lconst (n := 0) (e_dx DX12_debts_1 35 rfl) rfl,
  trivial,
  f_ladd (e_dx DX12_debts_1 36 rfl),
  f_lstore_n (n := 3) (e_dx DX12_debts_1 37 rfl) rfl (by decide),
  f_g8 (e_dx DX12_debts_1 38 rfl) ⟨by decide, by decide⟩,
  f_g19 (e_dx DX12_debts_1 39 rfl) rfl,
  f_lload_n (n := 3) (e_dx DX12_debts_2 0 rfl) rfl,
  ⟨(e_dx DX12_debts_2 1 rfl), rfl⟩, trivial⟩
def lX12_debts (c_X12_id : Int → Int → e_M → (Int → Prop) → Prop) (c_X12_isHere : Int → Int → e_M → (Int → Prop) → Prop) : List (Nat × f_Wt) := [(0, f_wm [(1, 0, 0), (1, 0, 0)] (fun ar M R => c_X12_id (f_vi (f_nth ar 0)) (f_vi (f_nth ar 1)) M (fun r => R (some (.inl r)) M))), (1, f_wm [(4466, 12, 123), (1, 0, 0), (1, 0, 0)] (fun ar M R => c_X12_isHere (f_vi (f_nth ar 1)) (f_vi (f_nth ar 2)) M (fun r => R (some (.inl r)) M)))]
set_option maxRecDepth 20000 in
theorem BX12_debts_26 {sh : Nat → Nat × Nat} {t : Nat} {rm : Nat × Nat × Nat} {cs : Nat × Nat} {R : f_Rt} {c_X12_id : Int → Int → e_M → (Int → Prop) → Prop} {c_X12_isHere : Int → Int → e_M → (Int → Prop) → Prop} {k68 : Int → Int → Int → Prop} {k26 : Int → Int → Int → Int → Prop} {x1 : Int} {x2 : Int} {x3 : Int} {x5 : Int} {M : e_M} (C : f_Hy sh t yX12_debts rm cs 7 (lX12_debts c_X12_id c_X12_isHere) R) (h68 : ∀ (x1 : Int) (x2 : Int) (x3 : Int), k68 x1 x2 x3 → f_E sh t YX12_debts rm cs (f_Q sh t R) 68 [.inr (.inr (.inl (12, 123, 4456))), .inl x1, .inl x2, .inr (.inl x3), .inr (.inr (.inr ())), .inr (.inr (.inr ()))] [] M) (h26 : ∀ (x1 : Int) (x2 : Int) (x3 : Int) (x5 : Int), k26 x1 x2 x3 x5 → f_E sh t YX12_debts rm cs (f_Q sh t R) 26 [.inr (.inr (.inl (12, 123, 4456))), .inl x1, .inl x2, .inr (.inl x3), .inr (.inr (.inr ())), .inl x5] [] M) (h : VX12_debts_26 c_X12_id c_X12_isHere k68 k26 (fun r => R (some (.inr (.inl r))) M) x1 x2 x3 x5 M) : f_E sh t YX12_debts rm cs (f_Q sh t R) 26 [.inr (.inr (.inl (12, 123, 4456))), .inl x1, .inl x2, .inr (.inl x3), .inr (.inr (.inr ())), .inl x5] [] M := by
  rw [f_kk3 M k68] at h
  rw [f_kk4 M k26] at h
  exact f_go (KC := f_kc [(68, f_pl [(4466, 12, 123), (1, 0, 0), (1, 0, 0), (2, 0, 0), (0, 0, 0), (0, 0, 0)] [] (fun ls st M2 => M2 = M ∧ (k68 (f_vi (f_nth ls 1)) (f_vi (f_nth ls 2)) (f_vi (f_nth ls 3))))), (26, f_pl [(4466, 12, 123), (1, 0, 0), (1, 0, 0), (2, 0, 0), (0, 0, 0), (1, 0, 0)] [] (fun ls st M2 => M2 = M ∧ (k26 (f_vi (f_nth ls 1)) (f_vi (f_nth ls 2)) (f_vi (f_nth ls 3)) (f_vi (f_nth ls 5)))))]) C qX12_debtsf (f_kc_cons (f_pl_ok rfl (fun ls st M2 ⟨e, hh⟩ => by subst e; exact h68 _ _ _ hh)) (f_kc_cons (f_pl_ok rfl (fun ls st M2 ⟨e, hh⟩ => by subst e; exact h26 _ _ _ _ hh)) f_kc_nil)) 89 18 h
set_option maxRecDepth 20000 in
theorem BX12_debts_68 {sh : Nat → Nat × Nat} {t : Nat} {rm : Nat × Nat × Nat} {cs : Nat × Nat} {R : f_Rt} {c_X12_id : Int → Int → e_M → (Int → Prop) → Prop} {c_X12_isHere : Int → Int → e_M → (Int → Prop) → Prop} {k76 : Int → Int → Int → Prop} {x1 : Int} {x2 : Int} {x3 : Int} {M : e_M} (C : f_Hy sh t yX12_debts rm cs 7 (lX12_debts c_X12_id c_X12_isHere) R) (h76 : ∀ (x2 : Int) (x3 : Int) (x5 : Int), k76 x2 x3 x5 → f_E sh t YX12_debts rm cs (f_Q sh t R) 76 [.inr (.inr (.inl (12, 123, 4456))), .inr (.inr (.inr ())), .inl x2, .inr (.inl x3), .inr (.inr (.inr ())), .inl x5] [] M) (h : VX12_debts_68 c_X12_id c_X12_isHere k76 (fun r => R (some (.inr (.inl r))) M) x1 x2 x3 M) : f_E sh t YX12_debts rm cs (f_Q sh t R) 68 [.inr (.inr (.inl (12, 123, 4456))), .inl x1, .inl x2, .inr (.inl x3), .inr (.inr (.inr ())), .inr (.inr (.inr ()))] [] M := by
  rw [f_kk3 M k76] at h
  exact f_go (KC := f_kc [(76, f_pl [(4466, 12, 123), (0, 0, 0), (1, 0, 0), (2, 0, 0), (0, 0, 0), (1, 0, 0)] [] (fun ls st M2 => M2 = M ∧ (k76 (f_vi (f_nth ls 2)) (f_vi (f_nth ls 3)) (f_vi (f_nth ls 5)))))]) C qX12_debtsf (f_kc_cons (f_pl_ok rfl (fun ls st M2 ⟨e, hh⟩ => by subst e; exact h76 _ _ _ hh)) f_kc_nil) 89 44 h
set_option maxRecDepth 20000 in
theorem BX12_debts_76 {sh : Nat → Nat × Nat} {t : Nat} {rm : Nat × Nat × Nat} {cs : Nat × Nat} {R : f_Rt} {c_X12_id : Int → Int → e_M → (Int → Prop) → Prop} {c_X12_isHere : Int → Int → e_M → (Int → Prop) → Prop} {k128 : Int → Int → Int → Prop} {k129 : Int → Int → Int → Int → Prop} {x2 : Int} {x3 : Int} {x5 : Int} {M : e_M} (C : f_Hy sh t yX12_debts rm cs 7 (lX12_debts c_X12_id c_X12_isHere) R) (h128 : ∀ (x2 : Int) (x5 : Int) (xs0 : Int), k128 x2 x5 xs0 → f_E sh t YX12_debts rm cs (f_Q sh t R) 128 [.inr (.inr (.inl (12, 123, 4456))), .inr (.inr (.inr ())), .inl x2, .inr (.inr (.inr ())), .inr (.inr (.inr ())), .inl x5] [.inr (.inl xs0)] M) (h129 : ∀ (x2 : Int) (x5 : Int) (xs1 : Int) (xs0 : Int), k129 x2 x5 xs1 xs0 → f_E sh t YX12_debts rm cs (f_Q sh t R) 129 [.inr (.inr (.inl (12, 123, 4456))), .inr (.inr (.inr ())), .inl x2, .inr (.inr (.inr ())), .inr (.inr (.inr ())), .inl x5] [.inr (.inl xs1), .inr (.inl xs0)] M) (h : VX12_debts_76 c_X12_id c_X12_isHere k128 k129 (fun r => R (some (.inr (.inl r))) M) x2 x3 x5 M) : f_E sh t YX12_debts rm cs (f_Q sh t R) 76 [.inr (.inr (.inl (12, 123, 4456))), .inr (.inr (.inr ())), .inl x2, .inr (.inl x3), .inr (.inr (.inr ())), .inl x5] [] M := by
  rw [f_kk3 M k128] at h
  rw [f_kk4 M k129] at h
  exact f_go (KC := f_kc [(128, f_pl [(4466, 12, 123), (0, 0, 0), (1, 0, 0), (0, 0, 0), (0, 0, 0), (1, 0, 0)] [(2, 0, 0)] (fun ls st M2 => M2 = M ∧ (k128 (f_vi (f_nth ls 2)) (f_vi (f_nth ls 5)) (f_vi (f_nth st 0))))), (129, f_pl [(4466, 12, 123), (0, 0, 0), (1, 0, 0), (0, 0, 0), (0, 0, 0), (1, 0, 0)] [(2, 0, 0), (2, 0, 0)] (fun ls st M2 => M2 = M ∧ (k129 (f_vi (f_nth ls 2)) (f_vi (f_nth ls 5)) (f_vi (f_nth st 0)) (f_vi (f_nth st 1)))))]) C qX12_debtsf (f_kc_cons (f_pl_ok rfl (fun ls st M2 ⟨e, hh⟩ => by subst e; exact h128 _ _ _ hh)) (f_kc_cons (f_pl_ok rfl (fun ls st M2 ⟨e, hh⟩ => by subst e; exact h129 _ _ _ _ hh)) f_kc_nil)) 89 50 h
set_option maxRecDepth 20000 in
theorem BX12_debts_128 {sh : Nat → Nat × Nat} {t : Nat} {rm : Nat × Nat × Nat} {cs : Nat × Nat} {R : f_Rt} {c_X12_id : Int → Int → e_M → (Int → Prop) → Prop} {c_X12_isHere : Int → Int → e_M → (Int → Prop) → Prop} {k129 : Int → Int → Int → Int → Prop} {x2 : Int} {x5 : Int} {xs0 : Int} {M : e_M} (C : f_Hy sh t yX12_debts rm cs 7 (lX12_debts c_X12_id c_X12_isHere) R) (h129 : ∀ (x2 : Int) (x5 : Int) (xs1 : Int) (xs0 : Int), k129 x2 x5 xs1 xs0 → f_E sh t YX12_debts rm cs (f_Q sh t R) 129 [.inr (.inr (.inl (12, 123, 4456))), .inr (.inr (.inr ())), .inl x2, .inr (.inr (.inr ())), .inr (.inr (.inr ())), .inl x5] [.inr (.inl xs1), .inr (.inl xs0)] M) (h : VX12_debts_128 c_X12_id c_X12_isHere k129 (fun r => R (some (.inr (.inl r))) M) x2 x5 xs0 M) : f_E sh t YX12_debts rm cs (f_Q sh t R) 128 [.inr (.inr (.inl (12, 123, 4456))), .inr (.inr (.inr ())), .inl x2, .inr (.inr (.inr ())), .inr (.inr (.inr ())), .inl x5] [.inr (.inl xs0)] M := by
  rw [f_kk4 M k129] at h
  exact f_go (KC := f_kc [(129, f_pl [(4466, 12, 123), (0, 0, 0), (1, 0, 0), (0, 0, 0), (0, 0, 0), (1, 0, 0)] [(2, 0, 0), (2, 0, 0)] (fun ls st M2 => M2 = M ∧ (k129 (f_vi (f_nth ls 2)) (f_vi (f_nth ls 5)) (f_vi (f_nth st 0)) (f_vi (f_nth st 1)))))]) C qX12_debtsf (f_kc_cons (f_pl_ok rfl (fun ls st M2 ⟨e, hh⟩ => by subst e; exact h129 _ _ _ _ hh)) f_kc_nil) 89 79 h
set_option maxRecDepth 20000 in
theorem BX12_debts_129 {sh : Nat → Nat × Nat} {t : Nat} {rm : Nat × Nat × Nat} {cs : Nat × Nat} {R : f_Rt} {c_X12_id : Int → Int → e_M → (Int → Prop) → Prop} {c_X12_isHere : Int → Int → e_M → (Int → Prop) → Prop} {k76 : Int → Int → Int → Prop} {x2 : Int} {x5 : Int} {xs1 : Int} {xs0 : Int} {M : e_M} (C : f_Hy sh t yX12_debts rm cs 7 (lX12_debts c_X12_id c_X12_isHere) R) (h76 : ∀ (x2 : Int) (x3 : Int) (x5 : Int), k76 x2 x3 x5 → f_E sh t YX12_debts rm cs (f_Q sh t R) 76 [.inr (.inr (.inl (12, 123, 4456))), .inr (.inr (.inr ())), .inl x2, .inr (.inl x3), .inr (.inr (.inr ())), .inl x5] [] M) (h : VX12_debts_129 c_X12_id c_X12_isHere k76 (fun r => R (some (.inr (.inl r))) M) x2 x5 xs1 xs0 M) : f_E sh t YX12_debts rm cs (f_Q sh t R) 129 [.inr (.inr (.inl (12, 123, 4456))), .inr (.inr (.inr ())), .inl x2, .inr (.inr (.inr ())), .inr (.inr (.inr ())), .inl x5] [.inr (.inl xs1), .inr (.inl xs0)] M := by
  rw [f_kk3 M k76] at h
  exact f_go (KC := f_kc [(76, f_pl [(4466, 12, 123), (0, 0, 0), (1, 0, 0), (2, 0, 0), (0, 0, 0), (1, 0, 0)] [] (fun ls st M2 => M2 = M ∧ (k76 (f_vi (f_nth ls 2)) (f_vi (f_nth ls 3)) (f_vi (f_nth ls 5)))))]) C qX12_debtsf (f_kc_cons (f_pl_ok rfl (fun ls st M2 ⟨e, hh⟩ => by subst e; exact h76 _ _ _ hh)) f_kc_nil) 89 81 h
set_option maxRecDepth 20000 in
theorem BX12_debts {sh : Nat → Nat × Nat} {t : Nat} {rm : Nat × Nat × Nat} {cs : Nat × Nat} {R : f_Rt} {c_X12_id : Int → Int → e_M → (Int → Prop) → Prop} {c_X12_isHere : Int → Int → e_M → (Int → Prop) → Prop} {k68 : Int → Int → Int → Prop} {k26 : Int → Int → Int → Int → Prop} {x1 : Int} {x2 : Int} {M : e_M} (C : f_Hy sh t yX12_debts rm cs 7 (lX12_debts c_X12_id c_X12_isHere) R) (h68 : ∀ (x1 : Int) (x2 : Int) (x3 : Int), k68 x1 x2 x3 → f_E sh t YX12_debts rm cs (f_Q sh t R) 68 [.inr (.inr (.inl (12, 123, 4456))), .inl x1, .inl x2, .inr (.inl x3), .inr (.inr (.inr ())), .inr (.inr (.inr ()))] [] M) (h26 : ∀ (x1 : Int) (x2 : Int) (x3 : Int) (x5 : Int), k26 x1 x2 x3 x5 → f_E sh t YX12_debts rm cs (f_Q sh t R) 26 [.inr (.inr (.inl (12, 123, 4456))), .inl x1, .inl x2, .inr (.inl x3), .inr (.inr (.inr ())), .inl x5] [] M) (h : VX12_debts c_X12_id c_X12_isHere k68 k26 (fun r => R (some (.inr (.inl r))) M) x1 x2 M) : f_E sh t YX12_debts rm cs (f_Q sh t R) 0 [.inr (.inr (.inl (12, 123, 4456))), .inl x1, .inl x2, .inr (.inr (.inr ())), .inr (.inr (.inr ())), .inr (.inr (.inr ()))] [] M := by
  rw [f_kk3 M k68] at h
  rw [f_kk4 M k26] at h
  exact f_go (KC := f_kc [(68, f_pl [(4466, 12, 123), (1, 0, 0), (1, 0, 0), (2, 0, 0), (0, 0, 0), (0, 0, 0)] [] (fun ls st M2 => M2 = M ∧ (k68 (f_vi (f_nth ls 1)) (f_vi (f_nth ls 2)) (f_vi (f_nth ls 3))))), (26, f_pl [(4466, 12, 123), (1, 0, 0), (1, 0, 0), (2, 0, 0), (0, 0, 0), (1, 0, 0)] [] (fun ls st M2 => M2 = M ∧ (k26 (f_vi (f_nth ls 1)) (f_vi (f_nth ls 2)) (f_vi (f_nth ls 3)) (f_vi (f_nth ls 5)))))]) C qX12_debtsf (f_kc_cons (f_pl_ok rfl (fun ls st M2 ⟨e, hh⟩ => by subst e; exact h68 _ _ _ hh)) (f_kc_cons (f_pl_ok rfl (fun ls st M2 ⟨e, hh⟩ => by subst e; exact h26 _ _ _ _ hh)) f_kc_nil)) 89 0 h
def WX12_debts_129 (M : e_M) (H76 : Int → Int → Int → Prop) (Q : Int → Prop) (x2 : Int) (x5 : Int) (xs1 : Int) (xs0 : Int) : Prop :=
  VX12_debts_129 WX12_id WX12_isHere H76 Q x2 x5 xs1 xs0 M
def WX12_debts_128 (M : e_M) (H76 : Int → Int → Int → Prop) (Q : Int → Prop) (x2 : Int) (x5 : Int) (xs0 : Int) : Prop :=
  VX12_debts_128 WX12_id WX12_isHere (WX12_debts_129 M H76 Q) Q x2 x5 xs0 M
def WX12_debts_76 (M : e_M) (Q : Int → Prop) : Nat → Int → Int → Int → Prop
  | 0, _, _, _ => False
  | n + 1, x2, x3, x5 =>
    VX12_debts_76 WX12_id WX12_isHere (WX12_debts_128 M (WX12_debts_76 M Q n) Q) (WX12_debts_129 M (WX12_debts_76 M Q n) Q) Q x2 x3 x5 M
def WX12_debts_68 (M : e_M) (Q : Int → Prop) (x1 : Int) (x2 : Int) (x3 : Int) : Prop :=
  VX12_debts_68 WX12_id WX12_isHere (fun x2 x3 x5 => ∃ j, WX12_debts_76 M Q j x2 x3 x5) Q x1 x2 x3 M
def WX12_debts_26 (M : e_M) (Q : Int → Prop) : Nat → Int → Int → Int → Int → Prop
  | 0, _, _, _, _ => False
  | n + 1, x1, x2, x3, x5 =>
    VX12_debts_26 WX12_id WX12_isHere (WX12_debts_68 M Q) (WX12_debts_26 M Q n) Q x1 x2 x3 x5 M
def WX12_debts (x1 : Int) (x2 : Int) (M : e_M) (Q : Int → Prop) : Prop :=
  VX12_debts WX12_id WX12_isHere (WX12_debts_68 M Q) (fun x1 x2 x3 x5 => ∃ j, WX12_debts_26 M Q j x1 x2 x3 x5) Q x1 x2 M
theorem PX12_debts_129 {sh : Nat → Nat × Nat} {t : Nat} {rm : Nat × Nat × Nat} {cs : Nat × Nat} {R : f_Rt} {H76 : Int → Int → Int → Prop} {x2 : Int} {x5 : Int} {xs1 : Int} {xs0 : Int} {M : e_M} (C : f_Hy sh t yX12_debts rm cs 7 (lX12_debts WX12_id WX12_isHere) R) (g76 : ∀ (x2 : Int) (x3 : Int) (x5 : Int), H76 x2 x3 x5 → f_E sh t YX12_debts rm cs (f_Q sh t R) 76 [.inr (.inr (.inl (12, 123, 4456))), .inr (.inr (.inr ())), .inl x2, .inr (.inl x3), .inr (.inr (.inr ())), .inl x5] [] M) (h : WX12_debts_129 M H76 (fun r => R (some (.inr (.inl r))) M) x2 x5 xs1 xs0) : f_E sh t YX12_debts rm cs (f_Q sh t R) 129 [.inr (.inr (.inl (12, 123, 4456))), .inr (.inr (.inr ())), .inl x2, .inr (.inr (.inr ())), .inr (.inr (.inr ())), .inl x5] [.inr (.inl xs1), .inr (.inl xs0)] M :=
  BX12_debts_129 C g76 h
theorem PX12_debts_128 {sh : Nat → Nat × Nat} {t : Nat} {rm : Nat × Nat × Nat} {cs : Nat × Nat} {R : f_Rt} {H76 : Int → Int → Int → Prop} {x2 : Int} {x5 : Int} {xs0 : Int} {M : e_M} (C : f_Hy sh t yX12_debts rm cs 7 (lX12_debts WX12_id WX12_isHere) R) (g76 : ∀ (x2 : Int) (x3 : Int) (x5 : Int), H76 x2 x3 x5 → f_E sh t YX12_debts rm cs (f_Q sh t R) 76 [.inr (.inr (.inl (12, 123, 4456))), .inr (.inr (.inr ())), .inl x2, .inr (.inl x3), .inr (.inr (.inr ())), .inl x5] [] M) (h : WX12_debts_128 M H76 (fun r => R (some (.inr (.inl r))) M) x2 x5 xs0) : f_E sh t YX12_debts rm cs (f_Q sh t R) 128 [.inr (.inr (.inl (12, 123, 4456))), .inr (.inr (.inr ())), .inl x2, .inr (.inr (.inr ())), .inr (.inr (.inr ())), .inl x5] [.inr (.inl xs0)] M :=
  BX12_debts_128 C (fun x2 x5 xs1 xs0 h => PX12_debts_129 C g76 h) h
theorem PX12_debts_76 {sh : Nat → Nat × Nat} {t : Nat} {rm : Nat × Nat × Nat} {cs : Nat × Nat} {R : f_Rt} {M : e_M} (C : f_Hy sh t yX12_debts rm cs 7 (lX12_debts WX12_id WX12_isHere) R) : ∀ (n : Nat) (x2 : Int) (x3 : Int) (x5 : Int), WX12_debts_76 M (fun r => R (some (.inr (.inl r))) M) n x2 x3 x5 → f_E sh t YX12_debts rm cs (f_Q sh t R) 76 [.inr (.inr (.inl (12, 123, 4456))), .inr (.inr (.inr ())), .inl x2, .inr (.inl x3), .inr (.inr (.inr ())), .inl x5] [] M := by
  intro n
  induction n with
  | zero => intro x2 x3 x5 h; exact h.elim
  | succ n ih => intro x2 x3 x5 h; exact BX12_debts_76 C (fun x2 x5 xs0 h => PX12_debts_128 C ih h) (fun x2 x5 xs1 xs0 h => PX12_debts_129 C ih h) h
theorem PX12_debts_68 {sh : Nat → Nat × Nat} {t : Nat} {rm : Nat × Nat × Nat} {cs : Nat × Nat} {R : f_Rt} {x1 : Int} {x2 : Int} {x3 : Int} {M : e_M} (C : f_Hy sh t yX12_debts rm cs 7 (lX12_debts WX12_id WX12_isHere) R) (h : WX12_debts_68 M (fun r => R (some (.inr (.inl r))) M) x1 x2 x3) : f_E sh t YX12_debts rm cs (f_Q sh t R) 68 [.inr (.inr (.inl (12, 123, 4456))), .inl x1, .inl x2, .inr (.inl x3), .inr (.inr (.inr ())), .inr (.inr (.inr ()))] [] M :=
  BX12_debts_68 C (fun x2 x3 x5 ⟨j, h⟩ => PX12_debts_76 C j _ _ _ h) h
theorem PX12_debts_26 {sh : Nat → Nat × Nat} {t : Nat} {rm : Nat × Nat × Nat} {cs : Nat × Nat} {R : f_Rt} {M : e_M} (C : f_Hy sh t yX12_debts rm cs 7 (lX12_debts WX12_id WX12_isHere) R) : ∀ (n : Nat) (x1 : Int) (x2 : Int) (x3 : Int) (x5 : Int), WX12_debts_26 M (fun r => R (some (.inr (.inl r))) M) n x1 x2 x3 x5 → f_E sh t YX12_debts rm cs (f_Q sh t R) 26 [.inr (.inr (.inl (12, 123, 4456))), .inl x1, .inl x2, .inr (.inl x3), .inr (.inr (.inr ())), .inl x5] [] M := by
  intro n
  induction n with
  | zero => intro x1 x2 x3 x5 h; exact h.elim
  | succ n ih => intro x1 x2 x3 x5 h; exact BX12_debts_26 C (fun x1 x2 x3 h => PX12_debts_68 C h) ih h
theorem PX12_debts {sh : Nat → Nat × Nat} {t : Nat} {rm : Nat × Nat × Nat} {cs : Nat × Nat} {R : f_Rt} {x1 : Int} {x2 : Int} {M : e_M} (C : f_Hy sh t yX12_debts rm cs 7 (lX12_debts WX12_id WX12_isHere) R) (h : WX12_debts x1 x2 M (fun r => R (some (.inr (.inl r))) M)) : f_E sh t YX12_debts rm cs (f_Q sh t R) 0 [.inr (.inr (.inl (12, 123, 4456))), .inl x1, .inl x2, .inr (.inr (.inr ())), .inr (.inr (.inr ())), .inr (.inr (.inr ()))] [] M :=
  BX12_debts C (fun x1 x2 x3 h => PX12_debts_68 C h) (fun x1 x2 x3 x5 ⟨j, h⟩ => PX12_debts_26 C j _ _ _ _ h) h
def wX12_debts : f_Wt := f_wm [(4466, 12, 123), (1, 0, 0), (1, 0, 0)] (fun ar M R => WX12_debts (f_vi (f_nth ar 1)) (f_vi (f_nth ar 2)) M (fun r => R (some (.inr (.inl r))) M))
theorem TX12_debts {sh : Nat → Nat × Nat} {t : Nat} : f_Mt sh t YX12_debts 7 (wX12_debts) :=
  f_Mt_of (k := 3) (Nat.le_of_ble_eq_true rfl) rfl rfl (fun ar M R rm cs h1 h2 h3 hX h => PX12_debts ⟨Nat.le_of_ble_eq_true rfl, h1, h2, h3, ⟨(f_Mt.up (Nat.le_of_ble_eq_true rfl) TX12_id), (f_Mt.up (Nat.le_of_ble_eq_true rfl) TX12_isHere), trivial⟩, hX⟩ h)
def VX12_lotsOf_28 (c_X12_id : Int → Int → e_M → (Int → Prop) → Prop) (c_X12_isHere : Int → Int → e_M → (Int → Prop) → Prop) (c_X12_isOwner : Int → Int → e_M → (Int → Prop) → Prop) (k64 : Int → Int → Int → Prop) (k65 : Int → Int → Int → Int → Prop) (Q : Int → Prop) (x2 : Int) (x3 : Int) (x5 : Int) (M : e_M) : Prop :=
  ((0 ≤ (0 : Int) ∧ (0 : Int) < 7) ∧ (((M 4483 ((0 : Int).toNat)) ≤ x5 → (Q x3)) ∧ (x5 < (M 4483 ((0 : Int).toNat)) → (c_X12_isHere 0 x5 M (fun r1 => ((r1 = 0 → (k64 x2 x5 x3)) ∧ (¬ r1 = 0 → (c_X12_isOwner x5 x2 M (fun r2 => ((r2 = 0 → (k64 x2 x5 x3)) ∧ (¬ r2 = 0 → (k65 x2 x5 1 x3))))))))))))
def VX12_lotsOf_64 (c_X12_id : Int → Int → e_M → (Int → Prop) → Prop) (c_X12_isHere : Int → Int → e_M → (Int → Prop) → Prop) (c_X12_isOwner : Int → Int → e_M → (Int → Prop) → Prop) (k65 : Int → Int → Int → Int → Prop) (Q : Int → Prop) (x2 : Int) (x5 : Int) (xs0 : Int) (M : e_M) : Prop :=
  (k65 x2 x5 0 xs0)
def VX12_lotsOf_65 (c_X12_id : Int → Int → e_M → (Int → Prop) → Prop) (c_X12_isHere : Int → Int → e_M → (Int → Prop) → Prop) (c_X12_isOwner : Int → Int → e_M → (Int → Prop) → Prop) (k28 : Int → Int → Int → Prop) (Q : Int → Prop) (x2 : Int) (x5 : Int) (xs1 : Int) (xs0 : Int) (M : e_M) : Prop :=
  (k28 x2 (e_w64 (xs0 + xs1)) (e_w32 (x5 + 1)))
def VX12_lotsOf (c_X12_id : Int → Int → e_M → (Int → Prop) → Prop) (c_X12_isHere : Int → Int → e_M → (Int → Prop) → Prop) (c_X12_isOwner : Int → Int → e_M → (Int → Prop) → Prop) (k28 : Int → Int → Int → Prop) (Q : Int → Prop) (x1 : Int) (x2 : Int) (M : e_M) : Prop :=
  ((¬ x1 = 0 → ((x1 = 1 → (k28 x2 0 0)) ∧ (¬ x1 = 1 → (c_X12_id x1 x2 M (fun r1 => ((0 ≤ r1 ∧ r1 < 560) ∧ (Q (M 4492 (r1.toNat))))))))) ∧ (x1 = 0 → (Q 0)))
def yX12_lotsOf (i : Nat) : e_Y := x_get YX12_lotsOf [YX12_id, YX12_isHere, YX12_isOwner] i
def pX12_lotsOff : List x_I := [(0, 2, 1, 1, 0, 0, []), (1, 17, 6, 1, 5, 0, []), (4, 1, 1, 0, 0, 0, []), (5, 43, 0, 0, 0, 0, []), (6, 2, 1, 1, 0, 0, []), (7, 0, 1, 0, 0, 1, []), (8, 18, 23, 0, 16, 0, []), (11, 4, 1, 0, 0, 0, []), (12, 25, 12, 59, 4, 0, [(0, 20, 560), (0, 1, 36)]), (15, 2, 1, 1, 0, 0, []), (16, 2, 1, 2, 0, 0, []), (17, 40, 0, 2, 0, 0, []), (20, 27, 0, 0, 0, 0, []), (21, 14, 0, 0, 0, 0, []), (22, 43, 0, 0, 0, 0, []), (23, 1, 1, 0, 0, 0, []), (24, 6, 1, 3, 0, 0, []), (25, 0, 1, 0, 0, 0, []), (26, 5, 2, 5, 0, 0, []), (28, 49, 0, 0, 0, 0, []), (28, 2, 2, 5, 0, 0, []), (30, 4, 1, 0, 0, 0, []), (31, 25, 12, 50, 4, 0, [(0, 20, 7), (0, 1, 27)]), (34, 0, 1, 0, 0, 0, []), (35, 27, 0, 0, 0, 0, []), (36, 18, 73, 3, 47, 0, []), (39, 3, 1, 3, 0, 0, []), (40, 4, 1, 0, 0, 0, []), (41, 0, 1, 0, 0, 0, []), (42, 2, 2, 5, 0, 0, []), (44, 40, 1, 3, 14, 0, []), (47, 17, 64, 0, 40, 0, []), (50, 4, 1, 0, 0, 0, []), (51, 2, 2, 5, 0, 0, []), (53, 2, 1, 2, 0, 0, []), (54, 40, 2, 3, 14, 0, []), (57, 17, 64, 0, 40, 0, []), (60, 1, 1, 0, 0, 1, []), (61, 19, 65, 0, 42, 0, []), (64, 49, 0, 0, 0, 0, []), (64, 1, 1, 0, 0, 0, []), (65, 49, 0, 0, 0, 0, []), (65, 10, 0, 0, 0, 0, []), (66, 6, 1, 3, 0, 0, []), (67, 8, 0, 5, 0, 1, []), (70, 19, 28, 0, 20, 0, []), (73, 3, 1, 3, 0, 0, []), (74, 43, 0, 0, 0, 0, [])]
set_option maxRecDepth 20000 in
theorem qX12_lotsOff : f_all yX12_lotsOf YX12_lotsOf pX12_lotsOff :=
  ⟨f_iload_n (n := 1) (e_dx DX12_lotsOf_0 0 rfl) rfl,
  f_if_ne (e_dx DX12_lotsOf_0 1 rfl) rfl,
  f_lconst (n := 0) (e_dx DX12_lotsOf_0 2 rfl) rfl,
  ⟨(e_dx DX12_lotsOf_0 3 rfl), rfl⟩,
  f_iload_n (n := 1) (e_dx DX12_lotsOf_0 4 rfl) rfl,
  f_iconst (e_dx DX12_lotsOf_0 5 rfl) ⟨by decide, by decide⟩,
  f_icmp_eq (e_dx DX12_lotsOf_0 6 rfl) rfl,
  f_aload_n (n := 0) (e_dx DX12_lotsOf_0 7 rfl) rfl,
  f_getA (e_dx DX12_lotsOf_0 8 rfl) fX12_118 rfl (by decide) (Nat.le_of_ble_eq_true rfl) rfl (by decide),
  f_iload_n (n := 1) (e_dx DX12_lotsOf_0 9 rfl) rfl,
  f_iload_n (n := 2) (e_dx DX12_lotsOf_0 10 rfl) rfl,
  x_callS (e_dx DX12_lotsOf_0 11 rfl) mwX12_id cX12_540 swX12_id rfl,
  f_iaload (e_dx DX12_lotsOf_0 12 rfl),
  f_g14 (e_dx DX12_lotsOf_0 13 rfl),
  ⟨(e_dx DX12_lotsOf_0 14 rfl), rfl⟩,
  f_lconst (n := 0) (e_dx DX12_lotsOf_0 15 rfl) rfl,
  f_lstore_n (n := 3) (e_dx DX12_lotsOf_0 16 rfl) rfl (by decide),
  f_iconst (e_dx DX12_lotsOf_0 17 rfl) ⟨by decide, by decide⟩,
  f_istore (e_dx DX12_lotsOf_0 18 rfl) (by decide),
  trivial,
  f_iload (e_dx DX12_lotsOf_0 19 rfl),
  f_aload_n (n := 0) (e_dx DX12_lotsOf_0 20 rfl) rfl,
  f_getA (e_dx DX12_lotsOf_0 21 rfl) fX12_91 rfl (by decide) (Nat.le_of_ble_eq_true rfl) rfl (by decide),
  f_iconst (e_dx DX12_lotsOf_0 22 rfl) ⟨by decide, by decide⟩,
  f_iaload (e_dx DX12_lotsOf_0 23 rfl),
  f_icmp_ge (e_dx DX12_lotsOf_0 24 rfl) rfl,
  f_lload_n (n := 3) (e_dx DX12_lotsOf_0 25 rfl) rfl,
  f_aload_n (n := 0) (e_dx DX12_lotsOf_0 26 rfl) rfl,
  f_iconst (e_dx DX12_lotsOf_0 27 rfl) ⟨by decide, by decide⟩,
  f_iload (e_dx DX12_lotsOf_0 28 rfl),
  x_callV (e_dx DX12_lotsOf_0 29 rfl) mwX12_isHere vwX12_isHere cX12_875 rfl,
  f_if_eq (e_dx DX12_lotsOf_0 30 rfl) rfl,
  f_aload_n (n := 0) (e_dx DX12_lotsOf_0 31 rfl) rfl,
  f_iload (e_dx DX12_lotsOf_0 32 rfl),
  f_iload_n (n := 2) (e_dx DX12_lotsOf_0 33 rfl) rfl,
  x_callV (e_dx DX12_lotsOf_0 34 rfl) mwX12_isOwner vwX12_isOwner cX12_695 rfl,
  f_if_eq (e_dx DX12_lotsOf_0 35 rfl) rfl,
  f_lconst (n := 1) (e_dx DX12_lotsOf_0 36 rfl) rfl,
  f_g19 (e_dx DX12_lotsOf_0 37 rfl) rfl,
  trivial,
  f_lconst (n := 0) (e_dx DX12_lotsOf_0 38 rfl) rfl,
  trivial,
  f_ladd (e_dx DX12_lotsOf_0 39 rfl),
  f_lstore_n (n := 3) (e_dx DX12_lotsOf_1 0 rfl) rfl (by decide),
  f_g8 (e_dx DX12_lotsOf_1 1 rfl) ⟨by decide, by decide⟩,
  f_g19 (e_dx DX12_lotsOf_1 2 rfl) rfl,
  f_lload_n (n := 3) (e_dx DX12_lotsOf_1 3 rfl) rfl,
  ⟨(e_dx DX12_lotsOf_1 4 rfl), rfl⟩, trivial⟩
def lX12_lotsOf (c_X12_id : Int → Int → e_M → (Int → Prop) → Prop) (c_X12_isHere : Int → Int → e_M → (Int → Prop) → Prop) (c_X12_isOwner : Int → Int → e_M → (Int → Prop) → Prop) : List (Nat × f_Wt) := [(0, f_wm [(1, 0, 0), (1, 0, 0)] (fun ar M R => c_X12_id (f_vi (f_nth ar 0)) (f_vi (f_nth ar 1)) M (fun r => R (some (.inl r)) M))), (1, f_wm [(4466, 12, 123), (1, 0, 0), (1, 0, 0)] (fun ar M R => c_X12_isHere (f_vi (f_nth ar 1)) (f_vi (f_nth ar 2)) M (fun r => R (some (.inl r)) M))), (2, f_wm [(4466, 12, 123), (1, 0, 0), (1, 0, 0)] (fun ar M R => c_X12_isOwner (f_vi (f_nth ar 1)) (f_vi (f_nth ar 2)) M (fun r => R (some (.inl r)) M)))]
set_option maxRecDepth 20000 in
theorem BX12_lotsOf_28 {sh : Nat → Nat × Nat} {t : Nat} {rm : Nat × Nat × Nat} {cs : Nat × Nat} {R : f_Rt} {c_X12_id : Int → Int → e_M → (Int → Prop) → Prop} {c_X12_isHere : Int → Int → e_M → (Int → Prop) → Prop} {c_X12_isOwner : Int → Int → e_M → (Int → Prop) → Prop} {k64 : Int → Int → Int → Prop} {k65 : Int → Int → Int → Int → Prop} {x2 : Int} {x3 : Int} {x5 : Int} {M : e_M} (C : f_Hy sh t yX12_lotsOf rm cs 7 (lX12_lotsOf c_X12_id c_X12_isHere c_X12_isOwner) R) (h64 : ∀ (x2 : Int) (x5 : Int) (xs0 : Int), k64 x2 x5 xs0 → f_E sh t YX12_lotsOf rm cs (f_Q sh t R) 64 [.inr (.inr (.inl (12, 123, 4456))), .inr (.inr (.inr ())), .inl x2, .inr (.inr (.inr ())), .inr (.inr (.inr ())), .inl x5] [.inr (.inl xs0)] M) (h65 : ∀ (x2 : Int) (x5 : Int) (xs1 : Int) (xs0 : Int), k65 x2 x5 xs1 xs0 → f_E sh t YX12_lotsOf rm cs (f_Q sh t R) 65 [.inr (.inr (.inl (12, 123, 4456))), .inr (.inr (.inr ())), .inl x2, .inr (.inr (.inr ())), .inr (.inr (.inr ())), .inl x5] [.inr (.inl xs1), .inr (.inl xs0)] M) (h : VX12_lotsOf_28 c_X12_id c_X12_isHere c_X12_isOwner k64 k65 (fun r => R (some (.inr (.inl r))) M) x2 x3 x5 M) : f_E sh t YX12_lotsOf rm cs (f_Q sh t R) 28 [.inr (.inr (.inl (12, 123, 4456))), .inr (.inr (.inr ())), .inl x2, .inr (.inl x3), .inr (.inr (.inr ())), .inl x5] [] M := by
  rw [f_kk3 M k64] at h
  rw [f_kk4 M k65] at h
  exact f_go (KC := f_kc [(64, f_pl [(4466, 12, 123), (0, 0, 0), (1, 0, 0), (0, 0, 0), (0, 0, 0), (1, 0, 0)] [(2, 0, 0)] (fun ls st M2 => M2 = M ∧ (k64 (f_vi (f_nth ls 2)) (f_vi (f_nth ls 5)) (f_vi (f_nth st 0))))), (65, f_pl [(4466, 12, 123), (0, 0, 0), (1, 0, 0), (0, 0, 0), (0, 0, 0), (1, 0, 0)] [(2, 0, 0), (2, 0, 0)] (fun ls st M2 => M2 = M ∧ (k65 (f_vi (f_nth ls 2)) (f_vi (f_nth ls 5)) (f_vi (f_nth st 0)) (f_vi (f_nth st 1)))))]) C qX12_lotsOff (f_kc_cons (f_pl_ok rfl (fun ls st M2 ⟨e, hh⟩ => by subst e; exact h64 _ _ _ hh)) (f_kc_cons (f_pl_ok rfl (fun ls st M2 ⟨e, hh⟩ => by subst e; exact h65 _ _ _ _ hh)) f_kc_nil)) 50 20 h
set_option maxRecDepth 20000 in
theorem BX12_lotsOf_64 {sh : Nat → Nat × Nat} {t : Nat} {rm : Nat × Nat × Nat} {cs : Nat × Nat} {R : f_Rt} {c_X12_id : Int → Int → e_M → (Int → Prop) → Prop} {c_X12_isHere : Int → Int → e_M → (Int → Prop) → Prop} {c_X12_isOwner : Int → Int → e_M → (Int → Prop) → Prop} {k65 : Int → Int → Int → Int → Prop} {x2 : Int} {x5 : Int} {xs0 : Int} {M : e_M} (C : f_Hy sh t yX12_lotsOf rm cs 7 (lX12_lotsOf c_X12_id c_X12_isHere c_X12_isOwner) R) (h65 : ∀ (x2 : Int) (x5 : Int) (xs1 : Int) (xs0 : Int), k65 x2 x5 xs1 xs0 → f_E sh t YX12_lotsOf rm cs (f_Q sh t R) 65 [.inr (.inr (.inl (12, 123, 4456))), .inr (.inr (.inr ())), .inl x2, .inr (.inr (.inr ())), .inr (.inr (.inr ())), .inl x5] [.inr (.inl xs1), .inr (.inl xs0)] M) (h : VX12_lotsOf_64 c_X12_id c_X12_isHere c_X12_isOwner k65 (fun r => R (some (.inr (.inl r))) M) x2 x5 xs0 M) : f_E sh t YX12_lotsOf rm cs (f_Q sh t R) 64 [.inr (.inr (.inl (12, 123, 4456))), .inr (.inr (.inr ())), .inl x2, .inr (.inr (.inr ())), .inr (.inr (.inr ())), .inl x5] [.inr (.inl xs0)] M := by
  rw [f_kk4 M k65] at h
  exact f_go (KC := f_kc [(65, f_pl [(4466, 12, 123), (0, 0, 0), (1, 0, 0), (0, 0, 0), (0, 0, 0), (1, 0, 0)] [(2, 0, 0), (2, 0, 0)] (fun ls st M2 => M2 = M ∧ (k65 (f_vi (f_nth ls 2)) (f_vi (f_nth ls 5)) (f_vi (f_nth st 0)) (f_vi (f_nth st 1)))))]) C qX12_lotsOff (f_kc_cons (f_pl_ok rfl (fun ls st M2 ⟨e, hh⟩ => by subst e; exact h65 _ _ _ _ hh)) f_kc_nil) 50 40 h
set_option maxRecDepth 20000 in
theorem BX12_lotsOf_65 {sh : Nat → Nat × Nat} {t : Nat} {rm : Nat × Nat × Nat} {cs : Nat × Nat} {R : f_Rt} {c_X12_id : Int → Int → e_M → (Int → Prop) → Prop} {c_X12_isHere : Int → Int → e_M → (Int → Prop) → Prop} {c_X12_isOwner : Int → Int → e_M → (Int → Prop) → Prop} {k28 : Int → Int → Int → Prop} {x2 : Int} {x5 : Int} {xs1 : Int} {xs0 : Int} {M : e_M} (C : f_Hy sh t yX12_lotsOf rm cs 7 (lX12_lotsOf c_X12_id c_X12_isHere c_X12_isOwner) R) (h28 : ∀ (x2 : Int) (x3 : Int) (x5 : Int), k28 x2 x3 x5 → f_E sh t YX12_lotsOf rm cs (f_Q sh t R) 28 [.inr (.inr (.inl (12, 123, 4456))), .inr (.inr (.inr ())), .inl x2, .inr (.inl x3), .inr (.inr (.inr ())), .inl x5] [] M) (h : VX12_lotsOf_65 c_X12_id c_X12_isHere c_X12_isOwner k28 (fun r => R (some (.inr (.inl r))) M) x2 x5 xs1 xs0 M) : f_E sh t YX12_lotsOf rm cs (f_Q sh t R) 65 [.inr (.inr (.inl (12, 123, 4456))), .inr (.inr (.inr ())), .inl x2, .inr (.inr (.inr ())), .inr (.inr (.inr ())), .inl x5] [.inr (.inl xs1), .inr (.inl xs0)] M := by
  rw [f_kk3 M k28] at h
  exact f_go (KC := f_kc [(28, f_pl [(4466, 12, 123), (0, 0, 0), (1, 0, 0), (2, 0, 0), (0, 0, 0), (1, 0, 0)] [] (fun ls st M2 => M2 = M ∧ (k28 (f_vi (f_nth ls 2)) (f_vi (f_nth ls 3)) (f_vi (f_nth ls 5)))))]) C qX12_lotsOff (f_kc_cons (f_pl_ok rfl (fun ls st M2 ⟨e, hh⟩ => by subst e; exact h28 _ _ _ hh)) f_kc_nil) 50 42 h
set_option maxRecDepth 20000 in
theorem BX12_lotsOf {sh : Nat → Nat × Nat} {t : Nat} {rm : Nat × Nat × Nat} {cs : Nat × Nat} {R : f_Rt} {c_X12_id : Int → Int → e_M → (Int → Prop) → Prop} {c_X12_isHere : Int → Int → e_M → (Int → Prop) → Prop} {c_X12_isOwner : Int → Int → e_M → (Int → Prop) → Prop} {k28 : Int → Int → Int → Prop} {x1 : Int} {x2 : Int} {M : e_M} (C : f_Hy sh t yX12_lotsOf rm cs 7 (lX12_lotsOf c_X12_id c_X12_isHere c_X12_isOwner) R) (h28 : ∀ (x2 : Int) (x3 : Int) (x5 : Int), k28 x2 x3 x5 → f_E sh t YX12_lotsOf rm cs (f_Q sh t R) 28 [.inr (.inr (.inl (12, 123, 4456))), .inr (.inr (.inr ())), .inl x2, .inr (.inl x3), .inr (.inr (.inr ())), .inl x5] [] M) (h : VX12_lotsOf c_X12_id c_X12_isHere c_X12_isOwner k28 (fun r => R (some (.inr (.inl r))) M) x1 x2 M) : f_E sh t YX12_lotsOf rm cs (f_Q sh t R) 0 [.inr (.inr (.inl (12, 123, 4456))), .inl x1, .inl x2, .inr (.inr (.inr ())), .inr (.inr (.inr ())), .inr (.inr (.inr ()))] [] M := by
  rw [f_kk3 M k28] at h
  exact f_go (KC := f_kc [(28, f_pl [(4466, 12, 123), (0, 0, 0), (1, 0, 0), (2, 0, 0), (0, 0, 0), (1, 0, 0)] [] (fun ls st M2 => M2 = M ∧ (k28 (f_vi (f_nth ls 2)) (f_vi (f_nth ls 3)) (f_vi (f_nth ls 5)))))]) C qX12_lotsOff (f_kc_cons (f_pl_ok rfl (fun ls st M2 ⟨e, hh⟩ => by subst e; exact h28 _ _ _ hh)) f_kc_nil) 50 0 h
def WX12_lotsOf_65 (M : e_M) (H28 : Int → Int → Int → Prop) (Q : Int → Prop) (x2 : Int) (x5 : Int) (xs1 : Int) (xs0 : Int) : Prop :=
  VX12_lotsOf_65 WX12_id WX12_isHere WX12_isOwner H28 Q x2 x5 xs1 xs0 M
def WX12_lotsOf_64 (M : e_M) (H28 : Int → Int → Int → Prop) (Q : Int → Prop) (x2 : Int) (x5 : Int) (xs0 : Int) : Prop :=
  VX12_lotsOf_64 WX12_id WX12_isHere WX12_isOwner (WX12_lotsOf_65 M H28 Q) Q x2 x5 xs0 M
def WX12_lotsOf_28 (M : e_M) (Q : Int → Prop) : Nat → Int → Int → Int → Prop
  | 0, _, _, _ => False
  | n + 1, x2, x3, x5 =>
    VX12_lotsOf_28 WX12_id WX12_isHere WX12_isOwner (WX12_lotsOf_64 M (WX12_lotsOf_28 M Q n) Q) (WX12_lotsOf_65 M (WX12_lotsOf_28 M Q n) Q) Q x2 x3 x5 M
def WX12_lotsOf (x1 : Int) (x2 : Int) (M : e_M) (Q : Int → Prop) : Prop :=
  VX12_lotsOf WX12_id WX12_isHere WX12_isOwner (fun x2 x3 x5 => ∃ j, WX12_lotsOf_28 M Q j x2 x3 x5) Q x1 x2 M
theorem PX12_lotsOf_65 {sh : Nat → Nat × Nat} {t : Nat} {rm : Nat × Nat × Nat} {cs : Nat × Nat} {R : f_Rt} {H28 : Int → Int → Int → Prop} {x2 : Int} {x5 : Int} {xs1 : Int} {xs0 : Int} {M : e_M} (C : f_Hy sh t yX12_lotsOf rm cs 7 (lX12_lotsOf WX12_id WX12_isHere WX12_isOwner) R) (g28 : ∀ (x2 : Int) (x3 : Int) (x5 : Int), H28 x2 x3 x5 → f_E sh t YX12_lotsOf rm cs (f_Q sh t R) 28 [.inr (.inr (.inl (12, 123, 4456))), .inr (.inr (.inr ())), .inl x2, .inr (.inl x3), .inr (.inr (.inr ())), .inl x5] [] M) (h : WX12_lotsOf_65 M H28 (fun r => R (some (.inr (.inl r))) M) x2 x5 xs1 xs0) : f_E sh t YX12_lotsOf rm cs (f_Q sh t R) 65 [.inr (.inr (.inl (12, 123, 4456))), .inr (.inr (.inr ())), .inl x2, .inr (.inr (.inr ())), .inr (.inr (.inr ())), .inl x5] [.inr (.inl xs1), .inr (.inl xs0)] M :=
  BX12_lotsOf_65 C g28 h
theorem PX12_lotsOf_64 {sh : Nat → Nat × Nat} {t : Nat} {rm : Nat × Nat × Nat} {cs : Nat × Nat} {R : f_Rt} {H28 : Int → Int → Int → Prop} {x2 : Int} {x5 : Int} {xs0 : Int} {M : e_M} (C : f_Hy sh t yX12_lotsOf rm cs 7 (lX12_lotsOf WX12_id WX12_isHere WX12_isOwner) R) (g28 : ∀ (x2 : Int) (x3 : Int) (x5 : Int), H28 x2 x3 x5 → f_E sh t YX12_lotsOf rm cs (f_Q sh t R) 28 [.inr (.inr (.inl (12, 123, 4456))), .inr (.inr (.inr ())), .inl x2, .inr (.inl x3), .inr (.inr (.inr ())), .inl x5] [] M) (h : WX12_lotsOf_64 M H28 (fun r => R (some (.inr (.inl r))) M) x2 x5 xs0) : f_E sh t YX12_lotsOf rm cs (f_Q sh t R) 64 [.inr (.inr (.inl (12, 123, 4456))), .inr (.inr (.inr ())), .inl x2, .inr (.inr (.inr ())), .inr (.inr (.inr ())), .inl x5] [.inr (.inl xs0)] M :=
  BX12_lotsOf_64 C (fun x2 x5 xs1 xs0 h => PX12_lotsOf_65 C g28 h) h
theorem PX12_lotsOf_28 {sh : Nat → Nat × Nat} {t : Nat} {rm : Nat × Nat × Nat} {cs : Nat × Nat} {R : f_Rt} {M : e_M} (C : f_Hy sh t yX12_lotsOf rm cs 7 (lX12_lotsOf WX12_id WX12_isHere WX12_isOwner) R) : ∀ (n : Nat) (x2 : Int) (x3 : Int) (x5 : Int), WX12_lotsOf_28 M (fun r => R (some (.inr (.inl r))) M) n x2 x3 x5 → f_E sh t YX12_lotsOf rm cs (f_Q sh t R) 28 [.inr (.inr (.inl (12, 123, 4456))), .inr (.inr (.inr ())), .inl x2, .inr (.inl x3), .inr (.inr (.inr ())), .inl x5] [] M := by
  intro n
  induction n with
  | zero => intro x2 x3 x5 h; exact h.elim
  | succ n ih => intro x2 x3 x5 h; exact BX12_lotsOf_28 C (fun x2 x5 xs0 h => PX12_lotsOf_64 C ih h) (fun x2 x5 xs1 xs0 h => PX12_lotsOf_65 C ih h) h
theorem PX12_lotsOf {sh : Nat → Nat × Nat} {t : Nat} {rm : Nat × Nat × Nat} {cs : Nat × Nat} {R : f_Rt} {x1 : Int} {x2 : Int} {M : e_M} (C : f_Hy sh t yX12_lotsOf rm cs 7 (lX12_lotsOf WX12_id WX12_isHere WX12_isOwner) R) (h : WX12_lotsOf x1 x2 M (fun r => R (some (.inr (.inl r))) M)) : f_E sh t YX12_lotsOf rm cs (f_Q sh t R) 0 [.inr (.inr (.inl (12, 123, 4456))), .inl x1, .inl x2, .inr (.inr (.inr ())), .inr (.inr (.inr ())), .inr (.inr (.inr ()))] [] M :=
  BX12_lotsOf C (fun x2 x3 x5 ⟨j, h⟩ => PX12_lotsOf_28 C j _ _ _ h) h
def wX12_lotsOf : f_Wt := f_wm [(4466, 12, 123), (1, 0, 0), (1, 0, 0)] (fun ar M R => WX12_lotsOf (f_vi (f_nth ar 1)) (f_vi (f_nth ar 2)) M (fun r => R (some (.inr (.inl r))) M))
theorem TX12_lotsOf {sh : Nat → Nat × Nat} {t : Nat} : f_Mt sh t YX12_lotsOf 7 (wX12_lotsOf) :=
  f_Mt_of (k := 3) (Nat.le_of_ble_eq_true rfl) rfl rfl (fun ar M R rm cs h1 h2 h3 hX h => PX12_lotsOf ⟨Nat.le_of_ble_eq_true rfl, h1, h2, h3, ⟨(f_Mt.up (Nat.le_of_ble_eq_true rfl) TX12_id), (f_Mt.up (Nat.le_of_ble_eq_true rfl) TX12_isHere), (f_Mt.up (Nat.le_of_ble_eq_true rfl) TX12_isOwner), trivial⟩, hX⟩ h)
def VX12_fact (c_X12_id : Int → Int → e_M → (Int → Prop) → Prop) (c_X12_areaOf : Int → Int → e_M → (Int → Prop) → Prop) (c_X12_debts : Int → Int → e_M → (Int → Prop) → Prop) (c_X12_fullYears : Int → Int → e_M → (Int → Prop) → Prop) (c_X12_lotsOf : Int → Int → e_M → (Int → Prop) → Prop) (Q : Int → Prop) (x1 : Int) (x2 : Int) (x3 : Int) (M : e_M) : Prop :=
  (c_X12_id x2 x3 M (fun r1 => ((x1 = 62 → ((¬ x2 = 0 → (Q 0)) ∧ (x2 = 0 → ((0 ≤ x3 ∧ x3 < 80) ∧ (c_X12_areaOf (e_w32 ((40 : Int) * x3)) (M 4496 (x3.toNat)) M (fun r5 => (Q r5))))))) ∧ (¬ x1 = 62 → ((x1 = 63 → ((¬ x2 = 0 → (Q 0)) ∧ (x2 = 0 → ((0 ≤ x3 ∧ x3 < 80) ∧ (Q (M 4496 (x3.toNat))))))) ∧ (¬ x1 = 63 → ((x1 = 64 → ((¬ x2 = 0 → (Q 0)) ∧ (x2 = 0 → ((0 ≤ x3 ∧ x3 < 80) ∧ (Q (M 4497 (x3.toNat))))))) ∧ (¬ x1 = 64 → ((x1 = 65 → (c_X12_debts x2 x3 M (fun r4 => (Q r4)))) ∧ (¬ x1 = 65 → ((x1 = 66 → ((¬ x2 = 0 → (Q 0)) ∧ (x2 = 0 → ((0 ≤ r1 ∧ r1 < 560) ∧ (Q (M 4490 (r1.toNat))))))) ∧ (¬ x1 = 66 → ((x1 = 67 → ((¬ x2 = 1 → (Q 0)) ∧ (x2 = 1 → ((0 ≤ r1 ∧ r1 < 560) ∧ ((¬ (M 4491 (r1.toNat)) = 0 → (Q 0)) ∧ ((M 4491 (r1.toNat)) = 0 → ((0 ≤ r1 ∧ r1 < 560) ∧ (c_X12_fullYears (M 4486 (r1.toNat)) (M 4456 100) M (fun r3 => (Q r3)))))))))) ∧ (¬ x1 = 67 → ((x1 = 68 → ((¬ x2 = 4 → (Q 0)) ∧ (x2 = 4 → ((0 ≤ r1 ∧ r1 < 560) ∧ (Q (M 4490 (r1.toNat))))))) ∧ (¬ x1 = 68 → ((x1 = 69 → ((x2 < 4 → (Q 0)) ∧ (4 ≤ x2 → ((0 ≤ r1 ∧ r1 < 560) ∧ (Q (e_w32 ((M 4487 (r1.toNat)) - (M 4456 100)))))))) ∧ (¬ x1 = 69 → ((x1 = 70 → ((¬ x2 = 3 → (Q 0)) ∧ (x2 = 3 → ((0 ≤ x3 ∧ x3 < 80) ∧ (Q (M 4503 (x3.toNat))))))) ∧ (¬ x1 = 70 → (c_X12_lotsOf x2 x3 M (fun r2 => (Q r2)))))))))))))))))))))))
def yX12_fact (i : Nat) : e_Y := x_get YX12_fact [YX12_id, YX12_areaOf, YX12_debts, YX12_fullYears, YX12_lotsOf] i
def pX12_factf : List x_I := [(0, 2, 1, 2, 0, 0, []), (1, 2, 1, 3, 0, 0, []), (2, 40, 0, 2, 0, 0, []), (5, 5, 2, 4, 0, 0, []), (7, 2, 1, 1, 0, 0, []), (8, 24, 233, 0, 112, 0, [(62, 60, 7), (63, 83, 21), (64, 99, 31), (65, 115, 41), (66, 122, 46), (67, 139, 56), (68, 175, 76), (69, 193, 87), (70, 216, 101)]), (60, 2, 1, 2, 0, 0, []), (61, 17, 81, 1, 19, 0, []), (64, 4, 1, 0, 0, 0, []), (65, 0, 2, 0, 0, 40, []), (67, 2, 1, 3, 0, 0, []), (68, 9, 0, 2, 0, 0, []), (69, 4, 1, 0, 0, 0, []), (70, 25, 12, 63, 4, 0, [(0, 20, 80), (0, 1, 40)]), (73, 2, 1, 3, 0, 0, []), (74, 27, 0, 0, 0, 0, []), (75, 40, 1, 3, 14, 0, []), (78, 19, 82, 0, 20, 0, []), (81, 1, 1, 0, 0, 0, []), (82, 43, 0, 0, 0, 0, []), (83, 2, 1, 2, 0, 0, []), (84, 17, 97, 1, 29, 0, []), (87, 4, 1, 0, 0, 0, []), (88, 25, 12, 63, 4, 0, [(0, 20, 80), (0, 1, 40)]), (91, 2, 1, 3, 0, 0, []), (92, 27, 0, 0, 0, 0, []), (93, 14, 0, 0, 0, 0, []), (94, 19, 98, 0, 30, 0, []), (97, 1, 1, 0, 0, 0, []), (98, 43, 0, 0, 0, 0, []), (99, 2, 1, 2, 0, 0, []), (100, 17, 113, 1, 39, 0, []), (103, 4, 1, 0, 0, 0, []), (104, 25, 12, 64, 4, 0, [(0, 20, 80), (0, 1, 41)]), (107, 2, 1, 3, 0, 0, []), (108, 27, 0, 0, 0, 0, []), (109, 14, 0, 0, 0, 0, []), (110, 19, 114, 0, 40, 0, []), (113, 1, 1, 0, 0, 0, []), (114, 43, 0, 0, 0, 0, []), (115, 4, 1, 0, 0, 0, []), (116, 2, 1, 2, 0, 0, []), (117, 2, 1, 3, 0, 0, []), (118, 40, 2, 3, 14, 0, []), (121, 43, 0, 0, 0, 0, []), (122, 2, 1, 2, 0, 0, []), (123, 17, 137, 1, 54, 0, []), (126, 4, 1, 0, 0, 0, []), (127, 25, 12, 57, 4, 0, [(0, 20, 560), (0, 1, 34)]), (130, 2, 2, 4, 0, 0, []), (132, 27, 0, 0, 0, 0, []), (133, 14, 0, 0, 0, 0, []), (134, 19, 138, 0, 55, 0, []), (137, 1, 1, 0, 0, 0, []), (138, 43, 0, 0, 0, 0, []), (139, 2, 1, 2, 0, 0, []), (140, 0, 1, 0, 0, 1, []), (141, 18, 173, 1, 74, 0, []), (144, 4, 1, 0, 0, 0, []), (145, 25, 12, 58, 4, 0, [(0, 20, 560), (0, 1, 35)]), (148, 2, 2, 4, 0, 0, []), (150, 27, 0, 0, 0, 0, []), (151, 17, 173, 1, 74, 0, []), (154, 4, 1, 0, 0, 0, []), (155, 4, 1, 0, 0, 0, []), (156, 25, 12, 53, 4, 0, [(0, 20, 560), (0, 1, 30)]), (159, 2, 2, 4, 0, 0, []), (161, 27, 0, 0, 0, 0, []), (162, 4, 1, 0, 0, 0, []), (163, 25, 12, 100, 0, 0, []), (166, 40, 3, 3, 14, 0, []), (169, 14, 0, 0, 0, 0, []), (170, 19, 174, 0, 75, 0, []), (173, 1, 1, 0, 0, 0, []), (174, 43, 0, 0, 0, 0, []), (175, 2, 1, 2, 0, 0, []), (176, 0, 1, 0, 0, 4, []), (177, 18, 191, 1, 85, 0, []), (180, 4, 1, 0, 0, 0, []), (181, 25, 12, 57, 4, 0, [(0, 20, 560), (0, 1, 34)]), (184, 2, 2, 4, 0, 0, []), (186, 27, 0, 0, 0, 0, []), (187, 14, 0, 0, 0, 0, []), (188, 19, 192, 0, 86, 0, []), (191, 1, 1, 0, 0, 0, []), (192, 43, 0, 0, 0, 0, []), (193, 2, 1, 2, 0, 0, []), (194, 0, 1, 0, 0, 4, []), (195, 18, 214, 2, 99, 0, []), (198, 4, 1, 0, 0, 0, []), (199, 25, 12, 54, 4, 0, [(0, 20, 560), (0, 1, 31)]), (202, 2, 2, 4, 0, 0, []), (204, 27, 0, 0, 0, 0, []), (205, 4, 1, 0, 0, 0, []), (206, 25, 12, 100, 0, 0, []), (209, 9, 0, 1, 0, 0, []), (210, 14, 0, 0, 0, 0, []), (211, 19, 215, 0, 100, 0, []), (214, 1, 1, 0, 0, 0, []), (215, 43, 0, 0, 0, 0, []), (216, 2, 1, 2, 0, 0, []), (217, 0, 1, 0, 0, 3, []), (218, 18, 231, 1, 110, 0, []), (221, 4, 1, 0, 0, 0, []), (222, 25, 12, 70, 4, 0, [(0, 20, 80), (0, 1, 47)]), (225, 2, 1, 3, 0, 0, []), (226, 27, 0, 0, 0, 0, []), (227, 14, 0, 0, 0, 0, []), (228, 19, 232, 0, 111, 0, []), (231, 1, 1, 0, 0, 0, []), (232, 43, 0, 0, 0, 0, []), (233, 4, 1, 0, 0, 0, []), (234, 2, 1, 2, 0, 0, []), (235, 2, 1, 3, 0, 0, []), (236, 40, 4, 3, 14, 0, []), (239, 43, 0, 0, 0, 0, [])]
set_option maxRecDepth 20000 in
theorem qX12_factf : f_all yX12_fact YX12_fact pX12_factf :=
  ⟨f_iload_n (n := 2) (e_dx DX12_fact_0 0 rfl) rfl,
  f_iload_n (n := 3) (e_dx DX12_fact_0 1 rfl) rfl,
  x_callS (e_dx DX12_fact_0 2 rfl) mwX12_id cX12_540 swX12_id rfl,
  f_istore (e_dx DX12_fact_0 3 rfl) (by decide),
  f_iload_n (n := 1) (e_dx DX12_fact_0 4 rfl) rfl,
  f_tsw (e_dx DX12_fact_0 5 rfl) rfl rfl (by decide) rfl,
  f_iload_n (n := 2) (e_dx DX12_fact_0 6 rfl) rfl,
  f_if_ne (e_dx DX12_fact_0 7 rfl) rfl,
  f_aload_n (n := 0) (e_dx DX12_fact_0 8 rfl) rfl,
  f_bipush (e_dx DX12_fact_0 9 rfl) ⟨by decide, by decide⟩,
  f_iload_n (n := 3) (e_dx DX12_fact_0 10 rfl) rfl,
  f_imul (e_dx DX12_fact_0 11 rfl),
  f_aload_n (n := 0) (e_dx DX12_fact_0 12 rfl) rfl,
  f_getA (e_dx DX12_fact_0 13 rfl) fX12_130 rfl (by decide) (Nat.le_of_ble_eq_true rfl) rfl (by decide),
  f_iload_n (n := 3) (e_dx DX12_fact_0 14 rfl) rfl,
  f_iaload (e_dx DX12_fact_0 15 rfl),
  x_callV (e_dx DX12_fact_0 16 rfl) mwX12_areaOf vwX12_areaOf cX12_513 rfl,
  f_g19 (e_dx DX12_fact_0 17 rfl) rfl,
  f_lconst (n := 0) (e_dx DX12_fact_0 18 rfl) rfl,
  ⟨(e_dx DX12_fact_0 19 rfl), rfl⟩,
  f_iload_n (n := 2) (e_dx DX12_fact_0 20 rfl) rfl,
  f_if_ne (e_dx DX12_fact_0 21 rfl) rfl,
  f_aload_n (n := 0) (e_dx DX12_fact_0 22 rfl) rfl,
  f_getA (e_dx DX12_fact_0 23 rfl) fX12_130 rfl (by decide) (Nat.le_of_ble_eq_true rfl) rfl (by decide),
  f_iload_n (n := 3) (e_dx DX12_fact_0 24 rfl) rfl,
  f_iaload (e_dx DX12_fact_0 25 rfl),
  f_g14 (e_dx DX12_fact_0 26 rfl),
  f_g19 (e_dx DX12_fact_0 27 rfl) rfl,
  f_lconst (n := 0) (e_dx DX12_fact_0 28 rfl) rfl,
  ⟨(e_dx DX12_fact_0 29 rfl), rfl⟩,
  f_iload_n (n := 2) (e_dx DX12_fact_0 30 rfl) rfl,
  f_if_ne (e_dx DX12_fact_0 31 rfl) rfl,
  f_aload_n (n := 0) (e_dx DX12_fact_0 32 rfl) rfl,
  f_getA (e_dx DX12_fact_0 33 rfl) fX12_133 rfl (by decide) (Nat.le_of_ble_eq_true rfl) rfl (by decide),
  f_iload_n (n := 3) (e_dx DX12_fact_0 34 rfl) rfl,
  f_iaload (e_dx DX12_fact_0 35 rfl),
  f_g14 (e_dx DX12_fact_0 36 rfl),
  f_g19 (e_dx DX12_fact_0 37 rfl) rfl,
  f_lconst (n := 0) (e_dx DX12_fact_0 38 rfl) rfl,
  ⟨(e_dx DX12_fact_0 39 rfl), rfl⟩,
  f_aload_n (n := 0) (e_dx DX12_fact_1 0 rfl) rfl,
  f_iload_n (n := 2) (e_dx DX12_fact_1 1 rfl) rfl,
  f_iload_n (n := 3) (e_dx DX12_fact_1 2 rfl) rfl,
  x_callV (e_dx DX12_fact_1 3 rfl) mwX12_debts vwX12_debts cX12_866 rfl,
  ⟨(e_dx DX12_fact_1 4 rfl), rfl⟩,
  f_iload_n (n := 2) (e_dx DX12_fact_1 5 rfl) rfl,
  f_if_ne (e_dx DX12_fact_1 6 rfl) rfl,
  f_aload_n (n := 0) (e_dx DX12_fact_1 7 rfl) rfl,
  f_getA (e_dx DX12_fact_1 8 rfl) fX12_112 rfl (by decide) (Nat.le_of_ble_eq_true rfl) rfl (by decide),
  f_iload (e_dx DX12_fact_1 9 rfl),
  f_iaload (e_dx DX12_fact_1 10 rfl),
  f_g14 (e_dx DX12_fact_1 11 rfl),
  f_g19 (e_dx DX12_fact_1 12 rfl) rfl,
  f_lconst (n := 0) (e_dx DX12_fact_1 13 rfl) rfl,
  ⟨(e_dx DX12_fact_1 14 rfl), rfl⟩,
  f_iload_n (n := 2) (e_dx DX12_fact_1 15 rfl) rfl,
  f_iconst (e_dx DX12_fact_1 16 rfl) ⟨by decide, by decide⟩,
  f_icmp_ne (e_dx DX12_fact_1 17 rfl) rfl,
  f_aload_n (n := 0) (e_dx DX12_fact_1 18 rfl) rfl,
  f_getA (e_dx DX12_fact_1 19 rfl) fX12_115 rfl (by decide) (Nat.le_of_ble_eq_true rfl) rfl (by decide),
  f_iload (e_dx DX12_fact_1 20 rfl),
  f_iaload (e_dx DX12_fact_1 21 rfl),
  f_if_ne (e_dx DX12_fact_1 22 rfl) rfl,
  f_aload_n (n := 0) (e_dx DX12_fact_1 23 rfl) rfl,
  f_aload_n (n := 0) (e_dx DX12_fact_1 24 rfl) rfl,
  f_getA (e_dx DX12_fact_1 25 rfl) fX12_100 rfl (by decide) (Nat.le_of_ble_eq_true rfl) rfl (by decide),
  f_iload (e_dx DX12_fact_1 26 rfl),
  f_iaload (e_dx DX12_fact_1 27 rfl),
  f_aload_n (n := 0) (e_dx DX12_fact_1 28 rfl) rfl,
  f_getf (e_dx DX12_fact_1 29 rfl) fX12_223 rfl (by decide) (by decide) (by decide),
  x_callV (e_dx DX12_fact_1 30 rfl) mwX12_fullYears vwX12_fullYears cX12_869 rfl,
  f_g14 (e_dx DX12_fact_1 31 rfl),
  f_g19 (e_dx DX12_fact_1 32 rfl) rfl,
  f_lconst (n := 0) (e_dx DX12_fact_1 33 rfl) rfl,
  ⟨(e_dx DX12_fact_1 34 rfl), rfl⟩,
  f_iload_n (n := 2) (e_dx DX12_fact_1 35 rfl) rfl,
  f_iconst (e_dx DX12_fact_1 36 rfl) ⟨by decide, by decide⟩,
  f_icmp_ne (e_dx DX12_fact_1 37 rfl) rfl,
  f_aload_n (n := 0) (e_dx DX12_fact_1 38 rfl) rfl,
  f_getA (e_dx DX12_fact_1 39 rfl) fX12_112 rfl (by decide) (Nat.le_of_ble_eq_true rfl) rfl (by decide),
  f_iload (e_dx DX12_fact_2 0 rfl),
  f_iaload (e_dx DX12_fact_2 1 rfl),
  f_g14 (e_dx DX12_fact_2 2 rfl),
  f_g19 (e_dx DX12_fact_2 3 rfl) rfl,
  f_lconst (n := 0) (e_dx DX12_fact_2 4 rfl) rfl,
  ⟨(e_dx DX12_fact_2 5 rfl), rfl⟩,
  f_iload_n (n := 2) (e_dx DX12_fact_2 6 rfl) rfl,
  f_iconst (e_dx DX12_fact_2 7 rfl) ⟨by decide, by decide⟩,
  f_icmp_lt (e_dx DX12_fact_2 8 rfl) rfl,
  f_aload_n (n := 0) (e_dx DX12_fact_2 9 rfl) rfl,
  f_getA (e_dx DX12_fact_2 10 rfl) fX12_103 rfl (by decide) (Nat.le_of_ble_eq_true rfl) rfl (by decide),
  f_iload (e_dx DX12_fact_2 11 rfl),
  f_iaload (e_dx DX12_fact_2 12 rfl),
  f_aload_n (n := 0) (e_dx DX12_fact_2 13 rfl) rfl,
  f_getf (e_dx DX12_fact_2 14 rfl) fX12_223 rfl (by decide) (by decide) (by decide),
  f_isub (e_dx DX12_fact_2 15 rfl),
  f_g14 (e_dx DX12_fact_2 16 rfl),
  f_g19 (e_dx DX12_fact_2 17 rfl) rfl,
  f_lconst (n := 0) (e_dx DX12_fact_2 18 rfl) rfl,
  ⟨(e_dx DX12_fact_2 19 rfl), rfl⟩,
  f_iload_n (n := 2) (e_dx DX12_fact_2 20 rfl) rfl,
  f_iconst (e_dx DX12_fact_2 21 rfl) ⟨by decide, by decide⟩,
  f_icmp_ne (e_dx DX12_fact_2 22 rfl) rfl,
  f_aload_n (n := 0) (e_dx DX12_fact_2 23 rfl) rfl,
  f_getA (e_dx DX12_fact_2 24 rfl) fX12_151 rfl (by decide) (Nat.le_of_ble_eq_true rfl) rfl (by decide),
  f_iload_n (n := 3) (e_dx DX12_fact_2 25 rfl) rfl,
  f_iaload (e_dx DX12_fact_2 26 rfl),
  f_g14 (e_dx DX12_fact_2 27 rfl),
  f_g19 (e_dx DX12_fact_2 28 rfl) rfl,
  f_lconst (n := 0) (e_dx DX12_fact_2 29 rfl) rfl,
  ⟨(e_dx DX12_fact_2 30 rfl), rfl⟩,
  f_aload_n (n := 0) (e_dx DX12_fact_2 31 rfl) rfl,
  f_iload_n (n := 2) (e_dx DX12_fact_2 32 rfl) rfl,
  f_iload_n (n := 3) (e_dx DX12_fact_2 33 rfl) rfl,
  x_callV (e_dx DX12_fact_2 34 rfl) mwX12_lotsOf vwX12_lotsOf cX12_872 rfl,
  ⟨(e_dx DX12_fact_2 35 rfl), rfl⟩, trivial⟩
def lX12_fact (c_X12_id : Int → Int → e_M → (Int → Prop) → Prop) (c_X12_areaOf : Int → Int → e_M → (Int → Prop) → Prop) (c_X12_debts : Int → Int → e_M → (Int → Prop) → Prop) (c_X12_fullYears : Int → Int → e_M → (Int → Prop) → Prop) (c_X12_lotsOf : Int → Int → e_M → (Int → Prop) → Prop) : List (Nat × f_Wt) := [(0, f_wm [(1, 0, 0), (1, 0, 0)] (fun ar M R => c_X12_id (f_vi (f_nth ar 0)) (f_vi (f_nth ar 1)) M (fun r => R (some (.inl r)) M))), (1, f_wm [(4466, 12, 123), (1, 0, 0), (1, 0, 0)] (fun ar M R => c_X12_areaOf (f_vi (f_nth ar 1)) (f_vi (f_nth ar 2)) M (fun r => R (some (.inr (.inl r))) M))), (2, f_wm [(4466, 12, 123), (1, 0, 0), (1, 0, 0)] (fun ar M R => c_X12_debts (f_vi (f_nth ar 1)) (f_vi (f_nth ar 2)) M (fun r => R (some (.inr (.inl r))) M))), (3, f_wm [(4466, 12, 123), (1, 0, 0), (1, 0, 0)] (fun ar M R => c_X12_fullYears (f_vi (f_nth ar 1)) (f_vi (f_nth ar 2)) M (fun r => R (some (.inl r)) M))), (4, f_wm [(4466, 12, 123), (1, 0, 0), (1, 0, 0)] (fun ar M R => c_X12_lotsOf (f_vi (f_nth ar 1)) (f_vi (f_nth ar 2)) M (fun r => R (some (.inr (.inl r))) M)))]
set_option maxRecDepth 20000 in
theorem BX12_fact {sh : Nat → Nat × Nat} {t : Nat} {rm : Nat × Nat × Nat} {cs : Nat × Nat} {R : f_Rt} {c_X12_id : Int → Int → e_M → (Int → Prop) → Prop} {c_X12_areaOf : Int → Int → e_M → (Int → Prop) → Prop} {c_X12_debts : Int → Int → e_M → (Int → Prop) → Prop} {c_X12_fullYears : Int → Int → e_M → (Int → Prop) → Prop} {c_X12_lotsOf : Int → Int → e_M → (Int → Prop) → Prop} {x1 : Int} {x2 : Int} {x3 : Int} {M : e_M} (C : f_Hy sh t yX12_fact rm cs 9 (lX12_fact c_X12_id c_X12_areaOf c_X12_debts c_X12_fullYears c_X12_lotsOf) R) (h : VX12_fact c_X12_id c_X12_areaOf c_X12_debts c_X12_fullYears c_X12_lotsOf (fun r => R (some (.inr (.inl r))) M) x1 x2 x3 M) : f_E sh t YX12_fact rm cs (f_Q sh t R) 0 [.inr (.inr (.inl (12, 123, 4456))), .inl x1, .inl x2, .inl x3, .inr (.inr (.inr ()))] [] M :=
  f_go (KC := f_kc []) C qX12_factf f_kc_nil 118 0 h
def WX12_fact (x1 : Int) (x2 : Int) (x3 : Int) (M : e_M) (Q : Int → Prop) : Prop :=
  VX12_fact WX12_id WX12_areaOf WX12_debts WX12_fullYears WX12_lotsOf Q x1 x2 x3 M
theorem PX12_fact {sh : Nat → Nat × Nat} {t : Nat} {rm : Nat × Nat × Nat} {cs : Nat × Nat} {R : f_Rt} {x1 : Int} {x2 : Int} {x3 : Int} {M : e_M} (C : f_Hy sh t yX12_fact rm cs 9 (lX12_fact WX12_id WX12_areaOf WX12_debts WX12_fullYears WX12_lotsOf) R) (h : WX12_fact x1 x2 x3 M (fun r => R (some (.inr (.inl r))) M)) : f_E sh t YX12_fact rm cs (f_Q sh t R) 0 [.inr (.inr (.inl (12, 123, 4456))), .inl x1, .inl x2, .inl x3, .inr (.inr (.inr ()))] [] M :=
  BX12_fact C h
def wX12_fact : f_Wt := f_wm [(4466, 12, 123), (1, 0, 0), (1, 0, 0), (1, 0, 0)] (fun ar M R => WX12_fact (f_vi (f_nth ar 1)) (f_vi (f_nth ar 2)) (f_vi (f_nth ar 3)) M (fun r => R (some (.inr (.inl r))) M))
theorem TX12_fact {sh : Nat → Nat × Nat} {t : Nat} : f_Mt sh t YX12_fact 9 (wX12_fact) :=
  f_Mt_of (k := 1) (Nat.le_of_ble_eq_true rfl) rfl rfl (fun ar M R rm cs h1 h2 h3 hX h => PX12_fact ⟨Nat.le_of_ble_eq_true rfl, h1, h2, h3, ⟨(f_Mt.up (Nat.le_of_ble_eq_true rfl) TX12_id), (f_Mt.up (Nat.le_of_ble_eq_true rfl) TX12_areaOf), (f_Mt.up (Nat.le_of_ble_eq_true rfl) TX12_debts), (f_Mt.up (Nat.le_of_ble_eq_true rfl) TX12_fullYears), (f_Mt.up (Nat.le_of_ble_eq_true rfl) TX12_lotsOf), trivial⟩, hX⟩ h)
def VX12_asked_147 (c_X12_id : Int → Int → e_M → (Int → Prop) → Prop) (c_X12_isAge : Int → Int → e_M → (Int → Prop) → Prop) (c_X12_whatIs : Int → e_M → (Int → Prop) → Prop) (c_X12_isOwner : Int → Int → e_M → (Int → Prop) → Prop) (c_X12_isHere : Int → Int → e_M → (Int → Prop) → Prop) (c_X12_areNear : Int → Int → Int → Int → e_M → (Int → Prop) → Prop) (c_X12_placeOn : Int → Int → e_M → (Int → Prop) → Prop) (Q : Int → Prop) (M : e_M) : Prop :=
  (Q 1)
def VX12_asked (c_X12_id : Int → Int → e_M → (Int → Prop) → Prop) (c_X12_isAge : Int → Int → e_M → (Int → Prop) → Prop) (c_X12_whatIs : Int → e_M → (Int → Prop) → Prop) (c_X12_isOwner : Int → Int → e_M → (Int → Prop) → Prop) (c_X12_isHere : Int → Int → e_M → (Int → Prop) → Prop) (c_X12_areNear : Int → Int → Int → Int → e_M → (Int → Prop) → Prop) (c_X12_placeOn : Int → Int → e_M → (Int → Prop) → Prop) (k147 : Prop) (Q : Int → Prop) (x1 : Int) (x2 : Int) (x4 : Int) (x5 : Int) (M : e_M) : Prop :=
  (c_X12_id x4 x5 M (fun r1 => ((¬ x1 = 61 → ((¬ x1 = 59 → (c_X12_whatIs x2 M (fun r2 => ((0 ≤ r2 → (¬ (80 : Int) = 0 ∧ (¬ (80 : Int) = 0 ∧ ((¬ x1 = 57 → (((e_w32 (r2.tdiv 80)) = 0 → ((¬ x1 = 58 → ((x4 < 2 → (Q 0)) ∧ (2 ≤ x4 → (c_X12_placeOn r1 (r2.tmod 80) M (fun r3 => ((r3 < 0 → (Q 0)) ∧ (0 ≤ r3 → (Q 1)))))))) ∧ (x1 = 58 → ((¬ x4 = 0 → (Q 0)) ∧ (x4 = 0 → (((r2.tmod 80) = x5 → (Q 0)) ∧ (¬ (r2.tmod 80) = x5 → (c_X12_isHere 0 (r2.tmod 80) M (fun r4 => ((r4 = 0 → (Q 0)) ∧ (¬ r4 = 0 → ((0 ≤ x5 ∧ x5 < 80) ∧ ((0 ≤ (r2.tmod 80) ∧ (r2.tmod 80) < 80) ∧ (c_X12_areNear (e_w32 ((40 : Int) * x5)) (M 4496 (x5.toNat)) (e_w32 ((40 : Int) * (r2.tmod 80))) (M 4496 ((r2.tmod 80).toNat)) M (fun r5 => ((r5 = 0 → (Q 0)) ∧ (¬ r5 = 0 → (Q 1)))))))))))))))))) ∧ (¬ (e_w32 (r2.tdiv 80)) = 0 → (Q 0)))) ∧ (x1 = 57 → ((¬ (e_w32 (r2.tdiv 80)) = 1 → (Q 0)) ∧ ((e_w32 (r2.tdiv 80)) = 1 → ((¬ x4 = 0 → ((x4 = 1 → (Q 0)) ∧ (¬ x4 = 1 → ((x4 = 3 → (Q 0)) ∧ (¬ x4 = 3 → ((0 ≤ r1 ∧ r1 < 560) ∧ ((¬ (M 4489 (r1.toNat)) = (r2.tmod 80) → (Q 0)) ∧ ((M 4489 (r1.toNat)) = (r2.tmod 80) → (k147))))))))) ∧ (x4 = 0 → (c_X12_isOwner x5 (r2.tmod 80) M (fun r6 => ((r6 = 0 → (Q 0)) ∧ (¬ r6 = 0 → (k147)))))))))))))) ∧ (r2 < 0 → (Q 0)))))) ∧ (x1 = 59 → ((0 ≤ r1 ∧ r1 < 560) ∧ ((¬ (M 4484 (r1.toNat)) = x2 → (Q 0)) ∧ ((M 4484 (r1.toNat)) = x2 → (Q 1))))))) ∧ (x1 = 61 → ((¬ x4 = 1 → (Q 0)) ∧ (x4 = 1 → (c_X12_isAge x5 (M 4456 100) M (fun r7 => ((r7 = 0 → (Q 0)) ∧ (¬ r7 = 0 → (Q 1)))))))))))
def yX12_asked (i : Nat) : e_Y := x_get YX12_asked [YX12_id, YX12_isAge, YX12_whatIs, YX12_isOwner, YX12_isHere, YX12_areNear, YX12_placeOn] i
def pX12_askedf : List x_I := [(0, 2, 2, 4, 0, 0, []), (2, 2, 2, 5, 0, 0, []), (4, 40, 0, 2, 0, 0, []), (7, 5, 2, 6, 0, 0, []), (9, 2, 1, 1, 0, 0, []), (10, 0, 2, 0, 0, 61, []), (12, 18, 40, 1, 21, 0, []), (15, 2, 2, 4, 0, 0, []), (17, 0, 1, 0, 0, 1, []), (18, 18, 38, 1, 19, 0, []), (21, 4, 1, 0, 0, 0, []), (22, 2, 2, 5, 0, 0, []), (24, 4, 1, 0, 0, 0, []), (25, 25, 12, 100, 0, 0, []), (28, 40, 1, 3, 14, 0, []), (31, 17, 38, 0, 19, 0, []), (34, 0, 1, 0, 0, 1, []), (35, 19, 39, 0, 20, 0, []), (38, 0, 1, 0, 0, 0, []), (39, 48, 0, 0, 0, 0, []), (40, 2, 1, 1, 0, 0, []), (41, 0, 2, 0, 0, 59, []), (43, 18, 64, 1, 34, 0, []), (46, 4, 1, 0, 0, 0, []), (47, 25, 12, 51, 4, 0, [(0, 23, 560), (0, 1, 28)]), (50, 2, 2, 6, 0, 0, []), (52, 27, 0, 1, 0, 0, []), (53, 3, 1, 2, 0, 0, []), (54, 32, 62, 1, 32, 0, []), (58, 0, 1, 0, 0, 1, []), (59, 19, 63, 0, 33, 0, []), (62, 0, 1, 0, 0, 0, []), (63, 48, 0, 0, 0, 0, []), (64, 4, 1, 0, 0, 0, []), (65, 3, 1, 2, 0, 0, []), (66, 40, 2, 2, 14, 0, []), (69, 5, 2, 7, 0, 0, []), (71, 2, 2, 7, 0, 0, []), (73, 17, 78, 3, 42, 0, []), (76, 0, 1, 0, 0, 0, []), (77, 48, 0, 0, 0, 0, []), (78, 2, 2, 7, 0, 0, []), (80, 0, 2, 0, 0, 80, []), (82, 9, 0, 3, 0, 0, []), (83, 5, 2, 8, 0, 0, []), (85, 2, 2, 7, 0, 0, []), (87, 0, 2, 0, 0, 80, []), (89, 9, 0, 4, 0, 0, []), (90, 5, 2, 9, 0, 0, []), (92, 2, 1, 1, 0, 0, []), (93, 0, 2, 0, 0, 57, []), (95, 18, 153, 1, 81, 0, []), (98, 2, 2, 8, 0, 0, []), (100, 0, 1, 0, 0, 1, []), (101, 18, 151, 1, 79, 0, []), (104, 2, 2, 4, 0, 0, []), (106, 17, 123, 1, 64, 0, []), (109, 4, 1, 0, 0, 0, []), (110, 2, 2, 5, 0, 0, []), (112, 2, 2, 9, 0, 0, []), (114, 40, 3, 3, 14, 0, []), (117, 17, 151, 0, 79, 0, []), (120, 19, 147, 0, 76, 0, []), (123, 2, 2, 4, 0, 0, []), (125, 0, 1, 0, 0, 1, []), (126, 18, 151, 0, 79, 0, []), (129, 2, 2, 4, 0, 0, []), (131, 0, 1, 0, 0, 3, []), (132, 18, 151, 0, 79, 0, []), (135, 4, 1, 0, 0, 0, []), (136, 25, 12, 56, 4, 0, [(0, 20, 560), (0, 1, 33)]), (139, 2, 2, 6, 0, 0, []), (141, 27, 0, 0, 0, 0, []), (142, 2, 2, 9, 0, 0, []), (144, 18, 151, 1, 79, 0, []), (147, 49, 0, 0, 0, 0, []), (147, 0, 1, 0, 0, 1, []), (148, 19, 152, 0, 80, 0, []), (151, 0, 1, 0, 0, 0, []), (152, 48, 0, 0, 0, 0, []), (153, 2, 2, 8, 0, 0, []), (155, 17, 160, 0, 85, 0, []), (158, 0, 1, 0, 0, 0, []), (159, 48, 0, 0, 0, 0, []), (160, 2, 1, 1, 0, 0, []), (161, 0, 2, 0, 0, 58, []), (163, 18, 225, 1, 119, 0, []), (166, 2, 2, 4, 0, 0, []), (168, 17, 223, 1, 117, 0, []), (171, 2, 2, 9, 0, 0, []), (173, 2, 2, 5, 0, 0, []), (175, 18, 223, 0, 117, 0, []), (178, 4, 1, 0, 0, 0, []), (179, 0, 1, 0, 0, 0, []), (180, 2, 2, 9, 0, 0, []), (182, 40, 4, 3, 14, 0, []), (185, 17, 223, 0, 117, 0, []), (188, 4, 1, 0, 0, 0, []), (189, 0, 2, 0, 0, 40, []), (191, 2, 2, 5, 0, 0, []), (193, 9, 0, 2, 0, 0, []), (194, 4, 1, 0, 0, 0, []), (195, 25, 12, 63, 4, 0, [(0, 20, 80), (0, 1, 40)]), (198, 2, 2, 5, 0, 0, []), (200, 27, 0, 0, 0, 0, []), (201, 0, 2, 0, 0, 40, []), (203, 2, 2, 9, 0, 0, []), (205, 9, 0, 2, 0, 0, []), (206, 4, 1, 0, 0, 0, []), (207, 25, 12, 63, 4, 0, [(0, 20, 80), (0, 1, 40)]), (210, 2, 2, 9, 0, 0, []), (212, 27, 0, 0, 0, 0, []), (213, 40, 5, 5, 14, 0, []), (216, 17, 223, 0, 117, 0, []), (219, 0, 1, 0, 0, 1, []), (220, 19, 224, 0, 118, 0, []), (223, 0, 1, 0, 0, 0, []), (224, 48, 0, 0, 0, 0, []), (225, 2, 2, 4, 0, 0, []), (227, 0, 1, 0, 0, 2, []), (228, 18, 246, 2, 129, 0, []), (231, 4, 1, 0, 0, 0, []), (232, 2, 2, 6, 0, 0, []), (234, 2, 2, 9, 0, 0, []), (236, 40, 6, 3, 14, 0, []), (239, 17, 246, 2, 129, 0, []), (242, 0, 1, 0, 0, 1, []), (243, 19, 247, 0, 130, 0, []), (246, 0, 1, 0, 0, 0, []), (247, 48, 0, 0, 0, 0, [])]
set_option maxRecDepth 20000 in
theorem qX12_askedf : f_all yX12_asked YX12_asked pX12_askedf :=
  ⟨f_iload (e_dx DX12_asked_0 0 rfl),
  f_iload (e_dx DX12_asked_0 1 rfl),
  x_callS (e_dx DX12_asked_0 2 rfl) mwX12_id cX12_540 swX12_id rfl,
  f_istore (e_dx DX12_asked_0 3 rfl) (by decide),
  f_iload_n (n := 1) (e_dx DX12_asked_0 4 rfl) rfl,
  f_bipush (e_dx DX12_asked_0 5 rfl) ⟨by decide, by decide⟩,
  f_icmp_ne (e_dx DX12_asked_0 6 rfl) rfl,
  f_iload (e_dx DX12_asked_0 7 rfl),
  f_iconst (e_dx DX12_asked_0 8 rfl) ⟨by decide, by decide⟩,
  f_icmp_ne (e_dx DX12_asked_0 9 rfl) rfl,
  f_aload_n (n := 0) (e_dx DX12_asked_0 10 rfl) rfl,
  f_iload (e_dx DX12_asked_0 11 rfl),
  f_aload_n (n := 0) (e_dx DX12_asked_0 12 rfl) rfl,
  f_getf (e_dx DX12_asked_0 13 rfl) fX12_223 rfl (by decide) (by decide) (by decide),
  x_callV (e_dx DX12_asked_0 14 rfl) mwX12_isAge vwX12_isAge cX12_552 rfl,
  f_if_eq (e_dx DX12_asked_0 15 rfl) rfl,
  f_iconst (e_dx DX12_asked_0 16 rfl) ⟨by decide, by decide⟩,
  f_g19 (e_dx DX12_asked_0 17 rfl) rfl,
  f_iconst (e_dx DX12_asked_0 18 rfl) ⟨by decide, by decide⟩,
  ⟨(e_dx DX12_asked_0 19 rfl), rfl⟩,
  f_iload_n (n := 1) (e_dx DX12_asked_0 20 rfl) rfl,
  f_bipush (e_dx DX12_asked_0 21 rfl) ⟨by decide, by decide⟩,
  f_icmp_ne (e_dx DX12_asked_0 22 rfl) rfl,
  f_aload_n (n := 0) (e_dx DX12_asked_0 23 rfl) rfl,
  f_getA (e_dx DX12_asked_0 24 rfl) fX12_94 rfl (by decide) (Nat.le_of_ble_eq_true rfl) rfl (by decide),
  f_iload (e_dx DX12_asked_0 25 rfl),
  f_laload (e_dx DX12_asked_0 26 rfl),
  f_lload_n (n := 2) (e_dx DX12_asked_0 27 rfl) rfl,
  f_lif_ne (e_dx DX12_asked_0 28 rfl) (e_dx DX12_asked_0 29 rfl) rfl,
  f_iconst (e_dx DX12_asked_0 30 rfl) ⟨by decide, by decide⟩,
  f_g19 (e_dx DX12_asked_0 31 rfl) rfl,
  f_iconst (e_dx DX12_asked_0 32 rfl) ⟨by decide, by decide⟩,
  ⟨(e_dx DX12_asked_0 33 rfl), rfl⟩,
  f_aload_n (n := 0) (e_dx DX12_asked_0 34 rfl) rfl,
  f_lload_n (n := 2) (e_dx DX12_asked_0 35 rfl) rfl,
  x_callV (e_dx DX12_asked_0 36 rfl) mwX12_whatIs vwX12_whatIs cX12_585 rfl,
  f_istore (e_dx DX12_asked_0 37 rfl) (by decide),
  f_iload (e_dx DX12_asked_0 38 rfl),
  f_if_ge (e_dx DX12_asked_0 39 rfl) rfl,
  f_iconst (e_dx DX12_asked_1 0 rfl) ⟨by decide, by decide⟩,
  ⟨(e_dx DX12_asked_1 1 rfl), rfl⟩,
  f_iload (e_dx DX12_asked_1 2 rfl),
  f_bipush (e_dx DX12_asked_1 3 rfl) ⟨by decide, by decide⟩,
  f_idiv (e_dx DX12_asked_1 4 rfl),
  f_istore (e_dx DX12_asked_1 5 rfl) (by decide),
  f_iload (e_dx DX12_asked_1 6 rfl),
  f_bipush (e_dx DX12_asked_1 7 rfl) ⟨by decide, by decide⟩,
  f_irem (e_dx DX12_asked_1 8 rfl),
  f_istore (e_dx DX12_asked_1 9 rfl) (by decide),
  f_iload_n (n := 1) (e_dx DX12_asked_1 10 rfl) rfl,
  f_bipush (e_dx DX12_asked_1 11 rfl) ⟨by decide, by decide⟩,
  f_icmp_ne (e_dx DX12_asked_1 12 rfl) rfl,
  f_iload (e_dx DX12_asked_1 13 rfl),
  f_iconst (e_dx DX12_asked_1 14 rfl) ⟨by decide, by decide⟩,
  f_icmp_ne (e_dx DX12_asked_1 15 rfl) rfl,
  f_iload (e_dx DX12_asked_1 16 rfl),
  f_if_ne (e_dx DX12_asked_1 17 rfl) rfl,
  f_aload_n (n := 0) (e_dx DX12_asked_1 18 rfl) rfl,
  f_iload (e_dx DX12_asked_1 19 rfl),
  f_iload (e_dx DX12_asked_1 20 rfl),
  x_callV (e_dx DX12_asked_1 21 rfl) mwX12_isOwner vwX12_isOwner cX12_695 rfl,
  f_if_eq (e_dx DX12_asked_1 22 rfl) rfl,
  f_g19 (e_dx DX12_asked_1 23 rfl) rfl,
  f_iload (e_dx DX12_asked_1 24 rfl),
  f_iconst (e_dx DX12_asked_1 25 rfl) ⟨by decide, by decide⟩,
  f_icmp_eq (e_dx DX12_asked_1 26 rfl) rfl,
  f_iload (e_dx DX12_asked_1 27 rfl),
  f_iconst (e_dx DX12_asked_1 28 rfl) ⟨by decide, by decide⟩,
  f_icmp_eq (e_dx DX12_asked_1 29 rfl) rfl,
  f_aload_n (n := 0) (e_dx DX12_asked_1 30 rfl) rfl,
  f_getA (e_dx DX12_asked_1 31 rfl) fX12_109 rfl (by decide) (Nat.le_of_ble_eq_true rfl) rfl (by decide),
  f_iload (e_dx DX12_asked_1 32 rfl),
  f_iaload (e_dx DX12_asked_1 33 rfl),
  f_iload (e_dx DX12_asked_1 34 rfl),
  f_icmp_ne (e_dx DX12_asked_1 35 rfl) rfl,
  trivial,
  f_iconst (e_dx DX12_asked_1 36 rfl) ⟨by decide, by decide⟩,
  f_g19 (e_dx DX12_asked_1 37 rfl) rfl,
  f_iconst (e_dx DX12_asked_1 38 rfl) ⟨by decide, by decide⟩,
  ⟨(e_dx DX12_asked_1 39 rfl), rfl⟩,
  f_iload (e_dx DX12_asked_2 0 rfl),
  f_if_eq (e_dx DX12_asked_2 1 rfl) rfl,
  f_iconst (e_dx DX12_asked_2 2 rfl) ⟨by decide, by decide⟩,
  ⟨(e_dx DX12_asked_2 3 rfl), rfl⟩,
  f_iload_n (n := 1) (e_dx DX12_asked_2 4 rfl) rfl,
  f_bipush (e_dx DX12_asked_2 5 rfl) ⟨by decide, by decide⟩,
  f_icmp_ne (e_dx DX12_asked_2 6 rfl) rfl,
  f_iload (e_dx DX12_asked_2 7 rfl),
  f_if_ne (e_dx DX12_asked_2 8 rfl) rfl,
  f_iload (e_dx DX12_asked_2 9 rfl),
  f_iload (e_dx DX12_asked_2 10 rfl),
  f_icmp_eq (e_dx DX12_asked_2 11 rfl) rfl,
  f_aload_n (n := 0) (e_dx DX12_asked_2 12 rfl) rfl,
  f_iconst (e_dx DX12_asked_2 13 rfl) ⟨by decide, by decide⟩,
  f_iload (e_dx DX12_asked_2 14 rfl),
  x_callV (e_dx DX12_asked_2 15 rfl) mwX12_isHere vwX12_isHere cX12_875 rfl,
  f_if_eq (e_dx DX12_asked_2 16 rfl) rfl,
  f_aload_n (n := 0) (e_dx DX12_asked_2 17 rfl) rfl,
  f_bipush (e_dx DX12_asked_2 18 rfl) ⟨by decide, by decide⟩,
  f_iload (e_dx DX12_asked_2 19 rfl),
  f_imul (e_dx DX12_asked_2 20 rfl),
  f_aload_n (n := 0) (e_dx DX12_asked_2 21 rfl) rfl,
  f_getA (e_dx DX12_asked_2 22 rfl) fX12_130 rfl (by decide) (Nat.le_of_ble_eq_true rfl) rfl (by decide),
  f_iload (e_dx DX12_asked_2 23 rfl),
  f_iaload (e_dx DX12_asked_2 24 rfl),
  f_bipush (e_dx DX12_asked_2 25 rfl) ⟨by decide, by decide⟩,
  f_iload (e_dx DX12_asked_2 26 rfl),
  f_imul (e_dx DX12_asked_2 27 rfl),
  f_aload_n (n := 0) (e_dx DX12_asked_2 28 rfl) rfl,
  f_getA (e_dx DX12_asked_2 29 rfl) fX12_130 rfl (by decide) (Nat.le_of_ble_eq_true rfl) rfl (by decide),
  f_iload (e_dx DX12_asked_2 30 rfl),
  f_iaload (e_dx DX12_asked_2 31 rfl),
  x_callV (e_dx DX12_asked_2 32 rfl) mwX12_areNear vwX12_areNear cX12_878 rfl,
  f_if_eq (e_dx DX12_asked_2 33 rfl) rfl,
  f_iconst (e_dx DX12_asked_2 34 rfl) ⟨by decide, by decide⟩,
  f_g19 (e_dx DX12_asked_2 35 rfl) rfl,
  f_iconst (e_dx DX12_asked_2 36 rfl) ⟨by decide, by decide⟩,
  ⟨(e_dx DX12_asked_2 37 rfl), rfl⟩,
  f_iload (e_dx DX12_asked_2 38 rfl),
  f_iconst (e_dx DX12_asked_2 39 rfl) ⟨by decide, by decide⟩,
  f_icmp_lt (e_dx DX12_asked_3 0 rfl) rfl,
  f_aload_n (n := 0) (e_dx DX12_asked_3 1 rfl) rfl,
  f_iload (e_dx DX12_asked_3 2 rfl),
  f_iload (e_dx DX12_asked_3 3 rfl),
  x_callV (e_dx DX12_asked_3 4 rfl) mwX12_placeOn vwX12_placeOn cX12_573 rfl,
  f_if_lt (e_dx DX12_asked_3 5 rfl) rfl,
  f_iconst (e_dx DX12_asked_3 6 rfl) ⟨by decide, by decide⟩,
  f_g19 (e_dx DX12_asked_3 7 rfl) rfl,
  f_iconst (e_dx DX12_asked_3 8 rfl) ⟨by decide, by decide⟩,
  ⟨(e_dx DX12_asked_3 9 rfl), rfl⟩, trivial⟩
def lX12_asked (c_X12_id : Int → Int → e_M → (Int → Prop) → Prop) (c_X12_isAge : Int → Int → e_M → (Int → Prop) → Prop) (c_X12_whatIs : Int → e_M → (Int → Prop) → Prop) (c_X12_isOwner : Int → Int → e_M → (Int → Prop) → Prop) (c_X12_isHere : Int → Int → e_M → (Int → Prop) → Prop) (c_X12_areNear : Int → Int → Int → Int → e_M → (Int → Prop) → Prop) (c_X12_placeOn : Int → Int → e_M → (Int → Prop) → Prop) : List (Nat × f_Wt) := [(0, f_wm [(1, 0, 0), (1, 0, 0)] (fun ar M R => c_X12_id (f_vi (f_nth ar 0)) (f_vi (f_nth ar 1)) M (fun r => R (some (.inl r)) M))), (1, f_wm [(4466, 12, 123), (1, 0, 0), (1, 0, 0)] (fun ar M R => c_X12_isAge (f_vi (f_nth ar 1)) (f_vi (f_nth ar 2)) M (fun r => R (some (.inl r)) M))), (2, f_wm [(4466, 12, 123), (2, 0, 0)] (fun ar M R => c_X12_whatIs (f_vi (f_nth ar 1)) M (fun r => R (some (.inl r)) M))), (3, f_wm [(4466, 12, 123), (1, 0, 0), (1, 0, 0)] (fun ar M R => c_X12_isOwner (f_vi (f_nth ar 1)) (f_vi (f_nth ar 2)) M (fun r => R (some (.inl r)) M))), (4, f_wm [(4466, 12, 123), (1, 0, 0), (1, 0, 0)] (fun ar M R => c_X12_isHere (f_vi (f_nth ar 1)) (f_vi (f_nth ar 2)) M (fun r => R (some (.inl r)) M))), (5, f_wm [(4466, 12, 123), (1, 0, 0), (1, 0, 0), (1, 0, 0), (1, 0, 0)] (fun ar M R => c_X12_areNear (f_vi (f_nth ar 1)) (f_vi (f_nth ar 2)) (f_vi (f_nth ar 3)) (f_vi (f_nth ar 4)) M (fun r => R (some (.inl r)) M))), (6, f_wm [(4466, 12, 123), (1, 0, 0), (1, 0, 0)] (fun ar M R => c_X12_placeOn (f_vi (f_nth ar 1)) (f_vi (f_nth ar 2)) M (fun r => R (some (.inl r)) M)))]
set_option maxRecDepth 20000 in
theorem BX12_asked_147 {sh : Nat → Nat × Nat} {t : Nat} {rm : Nat × Nat × Nat} {cs : Nat × Nat} {R : f_Rt} {c_X12_id : Int → Int → e_M → (Int → Prop) → Prop} {c_X12_isAge : Int → Int → e_M → (Int → Prop) → Prop} {c_X12_whatIs : Int → e_M → (Int → Prop) → Prop} {c_X12_isOwner : Int → Int → e_M → (Int → Prop) → Prop} {c_X12_isHere : Int → Int → e_M → (Int → Prop) → Prop} {c_X12_areNear : Int → Int → Int → Int → e_M → (Int → Prop) → Prop} {c_X12_placeOn : Int → Int → e_M → (Int → Prop) → Prop} {M : e_M} (C : f_Hy sh t yX12_asked rm cs 9 (lX12_asked c_X12_id c_X12_isAge c_X12_whatIs c_X12_isOwner c_X12_isHere c_X12_areNear c_X12_placeOn) R) (h : VX12_asked_147 c_X12_id c_X12_isAge c_X12_whatIs c_X12_isOwner c_X12_isHere c_X12_areNear c_X12_placeOn (fun r => R (some (.inl r)) M) M) : f_E sh t YX12_asked rm cs (f_Q sh t R) 147 [.inr (.inr (.inr ())), .inr (.inr (.inr ())), .inr (.inr (.inr ())), .inr (.inr (.inr ())), .inr (.inr (.inr ())), .inr (.inr (.inr ())), .inr (.inr (.inr ())), .inr (.inr (.inr ())), .inr (.inr (.inr ())), .inr (.inr (.inr ()))] [] M :=
  f_go (KC := f_kc []) C qX12_askedf f_kc_nil 132 76 h
set_option maxRecDepth 20000 in
theorem BX12_asked {sh : Nat → Nat × Nat} {t : Nat} {rm : Nat × Nat × Nat} {cs : Nat × Nat} {R : f_Rt} {c_X12_id : Int → Int → e_M → (Int → Prop) → Prop} {c_X12_isAge : Int → Int → e_M → (Int → Prop) → Prop} {c_X12_whatIs : Int → e_M → (Int → Prop) → Prop} {c_X12_isOwner : Int → Int → e_M → (Int → Prop) → Prop} {c_X12_isHere : Int → Int → e_M → (Int → Prop) → Prop} {c_X12_areNear : Int → Int → Int → Int → e_M → (Int → Prop) → Prop} {c_X12_placeOn : Int → Int → e_M → (Int → Prop) → Prop} {k147 : Prop} {x1 : Int} {x2 : Int} {x4 : Int} {x5 : Int} {M : e_M} (C : f_Hy sh t yX12_asked rm cs 9 (lX12_asked c_X12_id c_X12_isAge c_X12_whatIs c_X12_isOwner c_X12_isHere c_X12_areNear c_X12_placeOn) R) (h147 : k147 → f_E sh t YX12_asked rm cs (f_Q sh t R) 147 [.inr (.inr (.inr ())), .inr (.inr (.inr ())), .inr (.inr (.inr ())), .inr (.inr (.inr ())), .inr (.inr (.inr ())), .inr (.inr (.inr ())), .inr (.inr (.inr ())), .inr (.inr (.inr ())), .inr (.inr (.inr ())), .inr (.inr (.inr ()))] [] M) (h : VX12_asked c_X12_id c_X12_isAge c_X12_whatIs c_X12_isOwner c_X12_isHere c_X12_areNear c_X12_placeOn k147 (fun r => R (some (.inl r)) M) x1 x2 x4 x5 M) : f_E sh t YX12_asked rm cs (f_Q sh t R) 0 [.inr (.inr (.inl (12, 123, 4456))), .inl x1, .inr (.inl x2), .inr (.inr (.inr ())), .inl x4, .inl x5, .inr (.inr (.inr ())), .inr (.inr (.inr ())), .inr (.inr (.inr ())), .inr (.inr (.inr ()))] [] M := by
  rw [f_kk0 M k147] at h
  exact f_go (KC := f_kc [(147, f_pl [(0, 0, 0), (0, 0, 0), (0, 0, 0), (0, 0, 0), (0, 0, 0), (0, 0, 0), (0, 0, 0), (0, 0, 0), (0, 0, 0), (0, 0, 0)] [] (fun ls st M2 => M2 = M ∧ (k147)))]) C qX12_askedf (f_kc_cons (f_pl_ok rfl (fun ls st M2 ⟨e, hh⟩ => by subst e; exact h147  hh)) f_kc_nil) 132 0 h
def WX12_asked_147 (M : e_M) (Q : Int → Prop) : Prop :=
  VX12_asked_147 WX12_id WX12_isAge WX12_whatIs WX12_isOwner WX12_isHere WX12_areNear WX12_placeOn Q M
def WX12_asked (x1 : Int) (x2 : Int) (x4 : Int) (x5 : Int) (M : e_M) (Q : Int → Prop) : Prop :=
  VX12_asked WX12_id WX12_isAge WX12_whatIs WX12_isOwner WX12_isHere WX12_areNear WX12_placeOn (WX12_asked_147 M Q) Q x1 x2 x4 x5 M
theorem PX12_asked_147 {sh : Nat → Nat × Nat} {t : Nat} {rm : Nat × Nat × Nat} {cs : Nat × Nat} {R : f_Rt} {M : e_M} (C : f_Hy sh t yX12_asked rm cs 9 (lX12_asked WX12_id WX12_isAge WX12_whatIs WX12_isOwner WX12_isHere WX12_areNear WX12_placeOn) R) (h : WX12_asked_147 M (fun r => R (some (.inl r)) M)) : f_E sh t YX12_asked rm cs (f_Q sh t R) 147 [.inr (.inr (.inr ())), .inr (.inr (.inr ())), .inr (.inr (.inr ())), .inr (.inr (.inr ())), .inr (.inr (.inr ())), .inr (.inr (.inr ())), .inr (.inr (.inr ())), .inr (.inr (.inr ())), .inr (.inr (.inr ())), .inr (.inr (.inr ()))] [] M :=
  BX12_asked_147 C h
theorem PX12_asked {sh : Nat → Nat × Nat} {t : Nat} {rm : Nat × Nat × Nat} {cs : Nat × Nat} {R : f_Rt} {x1 : Int} {x2 : Int} {x4 : Int} {x5 : Int} {M : e_M} (C : f_Hy sh t yX12_asked rm cs 9 (lX12_asked WX12_id WX12_isAge WX12_whatIs WX12_isOwner WX12_isHere WX12_areNear WX12_placeOn) R) (h : WX12_asked x1 x2 x4 x5 M (fun r => R (some (.inl r)) M)) : f_E sh t YX12_asked rm cs (f_Q sh t R) 0 [.inr (.inr (.inl (12, 123, 4456))), .inl x1, .inr (.inl x2), .inr (.inr (.inr ())), .inl x4, .inl x5, .inr (.inr (.inr ())), .inr (.inr (.inr ())), .inr (.inr (.inr ())), .inr (.inr (.inr ()))] [] M :=
  BX12_asked C (fun h => PX12_asked_147 C h) h
def wX12_asked : f_Wt := f_wm [(4466, 12, 123), (1, 0, 0), (2, 0, 0), (1, 0, 0), (1, 0, 0)] (fun ar M R => WX12_asked (f_vi (f_nth ar 1)) (f_vi (f_nth ar 2)) (f_vi (f_nth ar 3)) (f_vi (f_nth ar 4)) M (fun r => R (some (.inl r)) M))
theorem TX12_asked {sh : Nat → Nat × Nat} {t : Nat} : f_Mt sh t YX12_asked 9 (wX12_asked) :=
  f_Mt_of (k := 4) (Nat.le_of_ble_eq_true rfl) rfl rfl (fun ar M R rm cs h1 h2 h3 hX h => PX12_asked ⟨Nat.le_of_ble_eq_true rfl, h1, h2, h3, ⟨(f_Mt.up (Nat.le_of_ble_eq_true rfl) TX12_id), (f_Mt.up (Nat.le_of_ble_eq_true rfl) TX12_isAge), (f_Mt.up (Nat.le_of_ble_eq_true rfl) TX12_whatIs), (f_Mt.up (Nat.le_of_ble_eq_true rfl) TX12_isOwner), (f_Mt.up (Nat.le_of_ble_eq_true rfl) TX12_isHere), (f_Mt.up (Nat.le_of_ble_eq_true rfl) TX12_areNear), (f_Mt.up (Nat.le_of_ble_eq_true rfl) TX12_placeOn), trivial⟩, hX⟩ h)
def VX12_two (Q : Int → Prop) (x0 : Int) (x1 : Int) (x3 : Int) (M : e_M) : Prop :=
  ((x0 = 2 → (Q (e_w64 (x1 + x3)))) ∧ (¬ x0 = 2 → ((x0 = 3 → (Q (e_w64 (x1 - x3)))) ∧ (¬ x0 = 3 → ((x0 = 4 → (Q (e_w64 (x1 * x3)))) ∧ (¬ x0 = 4 → ((x0 = 5 → ((x3 ≤ x1 → (Q 0)) ∧ (x1 < x3 → (Q 1)))) ∧ (¬ x0 = 5 → ((x0 = 6 → ((x3 < x1 → (Q 0)) ∧ (x1 ≤ x3 → (Q 1)))) ∧ (¬ x0 = 6 → ((x0 = 7 → ((x1 ≤ x3 → (Q 0)) ∧ (x3 < x1 → (Q 1)))) ∧ (¬ x0 = 7 → ((x0 = 8 → ((x1 < x3 → (Q 0)) ∧ (x3 ≤ x1 → (Q 1)))) ∧ (¬ x0 = 8 → ((x0 = 9 → ((¬ x1 = x3 → (Q 0)) ∧ (x1 = x3 → (Q 1)))) ∧ (¬ x0 = 9 → ((x0 = 10 → ((x1 = x3 → (Q 0)) ∧ (¬ x1 = x3 → (Q 1)))) ∧ (¬ x0 = 10 → ((x0 = 11 → (Q (f_orJ x1 x3))) ∧ (¬ x0 = 11 → ((x0 = 12 → (Q (f_andJ x1 x3))) ∧ (¬ x0 = 12 → (Q (f_orJ x1 x3))))))))))))))))))))))))
def yX12_two (i : Nat) : e_Y := x_get YX12_two [] i
def pX12_twof : List x_I := [(0, 2, 1, 0, 0, 0, []), (1, 24, 148, 0, 61, 0, [(2, 60, 3), (3, 64, 7), (4, 68, 11), (5, 72, 15), (6, 84, 22), (7, 96, 29), (8, 108, 36), (9, 120, 43), (10, 132, 50), (11, 148, 61), (12, 144, 57)]), (60, 3, 1, 1, 0, 0, []), (61, 3, 1, 3, 0, 0, []), (62, 10, 0, 0, 0, 0, []), (63, 43, 0, 0, 0, 0, []), (64, 3, 1, 1, 0, 0, []), (65, 3, 1, 3, 0, 0, []), (66, 10, 0, 1, 0, 0, []), (67, 43, 0, 0, 0, 0, []), (68, 3, 1, 1, 0, 0, []), (69, 3, 1, 3, 0, 0, []), (70, 10, 0, 2, 0, 0, []), (71, 43, 0, 0, 0, 0, []), (72, 3, 1, 1, 0, 0, []), (73, 3, 1, 3, 0, 0, []), (74, 32, 82, 3, 20, 0, []), (78, 1, 1, 0, 0, 1, []), (79, 19, 83, 0, 21, 0, []), (82, 1, 1, 0, 0, 0, []), (83, 43, 0, 0, 0, 0, []), (84, 3, 1, 1, 0, 0, []), (85, 3, 1, 3, 0, 0, []), (86, 32, 94, 4, 27, 0, []), (90, 1, 1, 0, 0, 1, []), (91, 19, 95, 0, 28, 0, []), (94, 1, 1, 0, 0, 0, []), (95, 43, 0, 0, 0, 0, []), (96, 3, 1, 1, 0, 0, []), (97, 3, 1, 3, 0, 0, []), (98, 32, 106, 5, 34, 0, []), (102, 1, 1, 0, 0, 1, []), (103, 19, 107, 0, 35, 0, []), (106, 1, 1, 0, 0, 0, []), (107, 43, 0, 0, 0, 0, []), (108, 3, 1, 1, 0, 0, []), (109, 3, 1, 3, 0, 0, []), (110, 32, 118, 2, 41, 0, []), (114, 1, 1, 0, 0, 1, []), (115, 19, 119, 0, 42, 0, []), (118, 1, 1, 0, 0, 0, []), (119, 43, 0, 0, 0, 0, []), (120, 3, 1, 1, 0, 0, []), (121, 3, 1, 3, 0, 0, []), (122, 32, 130, 1, 48, 0, []), (126, 1, 1, 0, 0, 1, []), (127, 19, 131, 0, 49, 0, []), (130, 1, 1, 0, 0, 0, []), (131, 43, 0, 0, 0, 0, []), (132, 3, 1, 1, 0, 0, []), (133, 3, 1, 3, 0, 0, []), (134, 32, 142, 0, 55, 0, []), (138, 1, 1, 0, 0, 1, []), (139, 19, 143, 0, 56, 0, []), (142, 1, 1, 0, 0, 0, []), (143, 43, 0, 0, 0, 0, []), (144, 3, 1, 1, 0, 0, []), (145, 3, 1, 3, 0, 0, []), (146, 10, 0, 5, 0, 0, []), (147, 43, 0, 0, 0, 0, []), (148, 3, 1, 1, 0, 0, []), (149, 3, 1, 3, 0, 0, []), (150, 10, 0, 6, 0, 0, []), (151, 43, 0, 0, 0, 0, [])]
set_option maxRecDepth 20000 in
theorem qX12_twof : f_all yX12_two YX12_two pX12_twof :=
  ⟨f_iload_n (n := 0) (e_dx DX12_two_0 0 rfl) rfl,
  f_tsw (e_dx DX12_two_0 1 rfl) rfl rfl (by decide) rfl,
  f_lload_n (n := 1) (e_dx DX12_two_0 2 rfl) rfl,
  f_lload_n (n := 3) (e_dx DX12_two_0 3 rfl) rfl,
  f_ladd (e_dx DX12_two_0 4 rfl),
  ⟨(e_dx DX12_two_0 5 rfl), rfl⟩,
  f_lload_n (n := 1) (e_dx DX12_two_0 6 rfl) rfl,
  f_lload_n (n := 3) (e_dx DX12_two_0 7 rfl) rfl,
  f_lsub (e_dx DX12_two_0 8 rfl),
  ⟨(e_dx DX12_two_0 9 rfl), rfl⟩,
  f_lload_n (n := 1) (e_dx DX12_two_0 10 rfl) rfl,
  f_lload_n (n := 3) (e_dx DX12_two_0 11 rfl) rfl,
  f_lmul (e_dx DX12_two_0 12 rfl),
  ⟨(e_dx DX12_two_0 13 rfl), rfl⟩,
  f_lload_n (n := 1) (e_dx DX12_two_0 14 rfl) rfl,
  f_lload_n (n := 3) (e_dx DX12_two_0 15 rfl) rfl,
  f_lif_ge (e_dx DX12_two_0 16 rfl) (e_dx DX12_two_0 17 rfl) rfl,
  f_lconst (n := 1) (e_dx DX12_two_0 18 rfl) rfl,
  f_g19 (e_dx DX12_two_0 19 rfl) rfl,
  f_lconst (n := 0) (e_dx DX12_two_0 20 rfl) rfl,
  ⟨(e_dx DX12_two_0 21 rfl), rfl⟩,
  f_lload_n (n := 1) (e_dx DX12_two_0 22 rfl) rfl,
  f_lload_n (n := 3) (e_dx DX12_two_0 23 rfl) rfl,
  f_lif_gt (e_dx DX12_two_0 24 rfl) (e_dx DX12_two_0 25 rfl) rfl,
  f_lconst (n := 1) (e_dx DX12_two_0 26 rfl) rfl,
  f_g19 (e_dx DX12_two_0 27 rfl) rfl,
  f_lconst (n := 0) (e_dx DX12_two_0 28 rfl) rfl,
  ⟨(e_dx DX12_two_0 29 rfl), rfl⟩,
  f_lload_n (n := 1) (e_dx DX12_two_0 30 rfl) rfl,
  f_lload_n (n := 3) (e_dx DX12_two_0 31 rfl) rfl,
  f_lif_le (e_dx DX12_two_0 32 rfl) (e_dx DX12_two_0 33 rfl) rfl,
  f_lconst (n := 1) (e_dx DX12_two_0 34 rfl) rfl,
  f_g19 (e_dx DX12_two_0 35 rfl) rfl,
  f_lconst (n := 0) (e_dx DX12_two_0 36 rfl) rfl,
  ⟨(e_dx DX12_two_0 37 rfl), rfl⟩,
  f_lload_n (n := 1) (e_dx DX12_two_0 38 rfl) rfl,
  f_lload_n (n := 3) (e_dx DX12_two_0 39 rfl) rfl,
  f_lif_lt (e_dx DX12_two_1 0 rfl) (e_dx DX12_two_1 1 rfl) rfl,
  f_lconst (n := 1) (e_dx DX12_two_1 2 rfl) rfl,
  f_g19 (e_dx DX12_two_1 3 rfl) rfl,
  f_lconst (n := 0) (e_dx DX12_two_1 4 rfl) rfl,
  ⟨(e_dx DX12_two_1 5 rfl), rfl⟩,
  f_lload_n (n := 1) (e_dx DX12_two_1 6 rfl) rfl,
  f_lload_n (n := 3) (e_dx DX12_two_1 7 rfl) rfl,
  f_lif_ne (e_dx DX12_two_1 8 rfl) (e_dx DX12_two_1 9 rfl) rfl,
  f_lconst (n := 1) (e_dx DX12_two_1 10 rfl) rfl,
  f_g19 (e_dx DX12_two_1 11 rfl) rfl,
  f_lconst (n := 0) (e_dx DX12_two_1 12 rfl) rfl,
  ⟨(e_dx DX12_two_1 13 rfl), rfl⟩,
  f_lload_n (n := 1) (e_dx DX12_two_1 14 rfl) rfl,
  f_lload_n (n := 3) (e_dx DX12_two_1 15 rfl) rfl,
  f_lif_eq (e_dx DX12_two_1 16 rfl) (e_dx DX12_two_1 17 rfl) rfl,
  f_lconst (n := 1) (e_dx DX12_two_1 18 rfl) rfl,
  f_g19 (e_dx DX12_two_1 19 rfl) rfl,
  f_lconst (n := 0) (e_dx DX12_two_1 20 rfl) rfl,
  ⟨(e_dx DX12_two_1 21 rfl), rfl⟩,
  f_lload_n (n := 1) (e_dx DX12_two_1 22 rfl) rfl,
  f_lload_n (n := 3) (e_dx DX12_two_1 23 rfl) rfl,
  f_land (e_dx DX12_two_1 24 rfl),
  ⟨(e_dx DX12_two_1 25 rfl), rfl⟩,
  f_lload_n (n := 1) (e_dx DX12_two_1 26 rfl) rfl,
  f_lload_n (n := 3) (e_dx DX12_two_1 27 rfl) rfl,
  f_lor (e_dx DX12_two_1 28 rfl),
  ⟨(e_dx DX12_two_1 29 rfl), rfl⟩, trivial⟩
def lX12_two : List (Nat × f_Wt) := []
set_option maxRecDepth 20000 in
theorem BX12_two {sh : Nat → Nat × Nat} {t : Nat} {rm : Nat × Nat × Nat} {cs : Nat × Nat} {R : f_Rt} {x0 : Int} {x1 : Int} {x3 : Int} {M : e_M} (C : f_Hy sh t yX12_two rm cs 4 (lX12_two) R) (h : VX12_two (fun r => R (some (.inr (.inl r))) M) x0 x1 x3 M) : f_E sh t YX12_two rm cs (f_Q sh t R) 0 [.inl x0, .inr (.inl x1), .inr (.inr (.inr ())), .inr (.inl x3), .inr (.inr (.inr ()))] [] M :=
  f_go (KC := f_kc []) C qX12_twof f_kc_nil 66 0 h
def WX12_two (x0 : Int) (x1 : Int) (x3 : Int) (M : e_M) (Q : Int → Prop) : Prop :=
  VX12_two Q x0 x1 x3 M
theorem PX12_two {sh : Nat → Nat × Nat} {t : Nat} {rm : Nat × Nat × Nat} {cs : Nat × Nat} {R : f_Rt} {x0 : Int} {x1 : Int} {x3 : Int} {M : e_M} (C : f_Hy sh t yX12_two rm cs 4 (lX12_two) R) (h : WX12_two x0 x1 x3 M (fun r => R (some (.inr (.inl r))) M)) : f_E sh t YX12_two rm cs (f_Q sh t R) 0 [.inl x0, .inr (.inl x1), .inr (.inr (.inr ())), .inr (.inl x3), .inr (.inr (.inr ()))] [] M :=
  BX12_two C h
def wX12_two : f_Wt := f_wm [(1, 0, 0), (2, 0, 0), (2, 0, 0)] (fun ar M R => WX12_two (f_vi (f_nth ar 0)) (f_vi (f_nth ar 1)) (f_vi (f_nth ar 2)) M (fun r => R (some (.inr (.inl r))) M))
theorem TX12_two {sh : Nat → Nat × Nat} {t : Nat} : f_Mt sh t YX12_two 4 (wX12_two) :=
  f_Mt_of (k := 0) (Nat.le_of_ble_eq_true rfl) rfl rfl (fun ar M R rm cs h1 h2 h3 hX h => PX12_two ⟨Nat.le_of_ble_eq_true rfl, h1, h2, h3, trivial, hX⟩ h)
def VX12_worked_6 (c_X12_fact : Int → Int → Int → e_M → (Int → Prop) → Prop) (c_X12_asked : Int → Int → Int → Int → e_M → (Int → Prop) → Prop) (c_X12_lieAt : Int → Int → Int → Int → Int → e_M → (Int → Prop) → Prop) (c_X12_two : Int → Int → Int → e_M → (Int → Prop) → Prop) (k208 : Int → Int → Int → Int → Int → Int → e_M → Prop) (k176 : Int → Int → Int → Int → Int → Int → Int → e_M → Prop) (k177 : Int → Int → Int → Int → Int → Int → Int → Int → e_M → Prop) (k115 : Int → Int → Int → Int → Int → Int → Int → Int → e_M → Prop) (Q : Int → e_M → Prop) (x2 : Int) (x3 : Int) (x4 : Int) (x5 : Int) (x6 : Int) (M : e_M) : Prop :=
  ((x2 ≤ x6 → ((¬ x5 = 0 → ((0 ≤ (0 : Int) ∧ (0 : Int) < 64) ∧ (Q (M 4531 ((0 : Int).toNat)) M))) ∧ (x5 = 0 → (Q 1 M)))) ∧ (x6 < x2 → ((0 ≤ x6 ∧ x6 < 1300) ∧ ((¬ (M 4527 (x6.toNat)) = 0 → ((¬ (M 4527 (x6.toNat)) = 1 → ((¬ (M 4527 (x6.toNat)) = 14 → ((¬ (M 4527 (x6.toNat)) = 15 → ((¬ (M 4527 (x6.toNat)) = 11 → (k208 x2 x3 x4 x5 x6 (M 4527 (x6.toNat)) M)) ∧ ((M 4527 (x6.toNat)) = 11 → ((0 ≤ (e_w32 (x5 - 1)) ∧ (e_w32 (x5 - 1)) < 64) ∧ ((0 ≤ (e_w32 (x5 - 1)) ∧ (e_w32 (x5 - 1)) < 64) ∧ (∀ M1 : e_M, M1 = e_up M 4531 ((e_w32 (x5 - 1)).toNat) (e_w64 ((1 : Int) - (M 4531 ((e_w32 (x5 - 1)).toNat)))) → (k208 x2 x3 x4 x5 x6 (M 4527 (x6.toNat)) M1))))))) ∧ ((M 4527 (x6.toNat)) = 15 → ((¬ x3 = 0 → (k176 x2 x3 x4 x5 x6 (M 4527 (x6.toNat)) x5 M)) ∧ (x3 = 0 → ((0 ≤ x4 ∧ x4 < 80) ∧ ((0 ≤ x6 ∧ x6 < 1300) ∧ ((0 ≤ x6 ∧ x6 < 1300) ∧ (c_X12_lieAt (e_w32 ((40 : Int) * x4)) (M 4496 (x4.toNat)) (M 4528 (x6.toNat)) (M 4529 (x6.toNat)) 1 M (fun r2 => ((r2 ≤ 0 → (k176 x2 x3 x4 x5 x6 (M 4527 (x6.toNat)) x5 M)) ∧ (0 < r2 → (k177 x2 x3 x4 x5 x6 (M 4527 (x6.toNat)) 1 x5 M))))))))))))) ∧ ((M 4527 (x6.toNat)) = 14 → ((0 ≤ x6 ∧ x6 < 1300) ∧ ((0 ≤ x6 ∧ x6 < 1300) ∧ (c_X12_asked (M 4528 (x6.toNat)) (M 4530 (x6.toNat)) x3 x4 M (fun r3 => ((r3 = 0 → (k115 x2 x3 x4 x5 x6 (M 4527 (x6.toNat)) 0 x5 M)) ∧ (¬ r3 = 0 → (k115 x2 x3 x4 x5 x6 (M 4527 (x6.toNat)) 1 x5 M)))))))))) ∧ ((M 4527 (x6.toNat)) = 1 → ((0 ≤ x6 ∧ x6 < 1300) ∧ (c_X12_fact (M 4528 (x6.toNat)) x3 x4 M (fun r4 => ((0 ≤ x5 ∧ x5 < 64) ∧ (∀ M5 : e_M, M5 = e_up M 4531 (x5.toNat) r4 → (k208 x2 x3 x4 x5 x6 (M 4527 (x6.toNat)) M5))))))))) ∧ ((M 4527 (x6.toNat)) = 0 → ((0 ≤ x6 ∧ x6 < 1300) ∧ ((0 ≤ x5 ∧ x5 < 64) ∧ (∀ M6 : e_M, M6 = e_up M 4531 (x5.toNat) (M 4530 (x6.toNat)) → (k208 x2 x3 x4 x5 x6 (M 4527 (x6.toNat)) M6)))))))))
def VX12_worked_115 (c_X12_fact : Int → Int → Int → e_M → (Int → Prop) → Prop) (c_X12_asked : Int → Int → Int → Int → e_M → (Int → Prop) → Prop) (c_X12_lieAt : Int → Int → Int → Int → Int → e_M → (Int → Prop) → Prop) (c_X12_two : Int → Int → Int → e_M → (Int → Prop) → Prop) (k208 : Int → Int → Int → Int → Int → Int → e_M → Prop) (Q : Int → e_M → Prop) (x2 : Int) (x3 : Int) (x4 : Int) (x5 : Int) (x6 : Int) (x7 : Int) (xs2 : Int) (xs1 : Int) (M : e_M) : Prop :=
  ((0 ≤ xs1 ∧ xs1 < 64) ∧ (∀ M1 : e_M, M1 = e_up M 4531 (xs1.toNat) xs2 → (k208 x2 x3 x4 x5 x6 x7 M1)))
def VX12_worked_176 (c_X12_fact : Int → Int → Int → e_M → (Int → Prop) → Prop) (c_X12_asked : Int → Int → Int → Int → e_M → (Int → Prop) → Prop) (c_X12_lieAt : Int → Int → Int → Int → Int → e_M → (Int → Prop) → Prop) (c_X12_two : Int → Int → Int → e_M → (Int → Prop) → Prop) (k177 : Int → Int → Int → Int → Int → Int → Int → Int → e_M → Prop) (Q : Int → e_M → Prop) (x2 : Int) (x3 : Int) (x4 : Int) (x5 : Int) (x6 : Int) (x7 : Int) (xs1 : Int) (M : e_M) : Prop :=
  (k177 x2 x3 x4 x5 x6 x7 0 xs1 M)
def VX12_worked_177 (c_X12_fact : Int → Int → Int → e_M → (Int → Prop) → Prop) (c_X12_asked : Int → Int → Int → Int → e_M → (Int → Prop) → Prop) (c_X12_lieAt : Int → Int → Int → Int → Int → e_M → (Int → Prop) → Prop) (c_X12_two : Int → Int → Int → e_M → (Int → Prop) → Prop) (k208 : Int → Int → Int → Int → Int → Int → e_M → Prop) (Q : Int → e_M → Prop) (x2 : Int) (x3 : Int) (x4 : Int) (x5 : Int) (x6 : Int) (x7 : Int) (xs2 : Int) (xs1 : Int) (M : e_M) : Prop :=
  ((0 ≤ xs1 ∧ xs1 < 64) ∧ (∀ M1 : e_M, M1 = e_up M 4531 (xs1.toNat) xs2 → (k208 x2 x3 x4 x5 x6 x7 M1)))
def VX12_worked_208 (c_X12_fact : Int → Int → Int → e_M → (Int → Prop) → Prop) (c_X12_asked : Int → Int → Int → Int → e_M → (Int → Prop) → Prop) (c_X12_lieAt : Int → Int → Int → Int → Int → e_M → (Int → Prop) → Prop) (c_X12_two : Int → Int → Int → e_M → (Int → Prop) → Prop) (k221 : Int → Int → Int → Int → Int → Int → e_M → Prop) (k224 : Int → Int → Int → Int → Int → Int → e_M → Prop) (Q : Int → e_M → Prop) (x2 : Int) (x3 : Int) (x4 : Int) (x5 : Int) (x6 : Int) (x7 : Int) (M : e_M) : Prop :=
  ((x7 ≤ 1 → (k221 x2 x3 x4 x5 x6 x7 M)) ∧ (1 < x7 → ((x7 < 14 → (k224 x2 x3 x4 x5 x6 x7 M)) ∧ (14 ≤ x7 → (k221 x2 x3 x4 x5 x6 x7 M)))))
def VX12_worked_221 (c_X12_fact : Int → Int → Int → e_M → (Int → Prop) → Prop) (c_X12_asked : Int → Int → Int → Int → e_M → (Int → Prop) → Prop) (c_X12_lieAt : Int → Int → Int → Int → Int → e_M → (Int → Prop) → Prop) (c_X12_two : Int → Int → Int → e_M → (Int → Prop) → Prop) (k224 : Int → Int → Int → Int → Int → Int → e_M → Prop) (Q : Int → e_M → Prop) (x2 : Int) (x3 : Int) (x4 : Int) (x5 : Int) (x6 : Int) (x7 : Int) (M : e_M) : Prop :=
  (k224 x2 x3 x4 (e_w32 (x5 + 1)) x6 x7 M)
def VX12_worked_224 (c_X12_fact : Int → Int → Int → e_M → (Int → Prop) → Prop) (c_X12_asked : Int → Int → Int → Int → e_M → (Int → Prop) → Prop) (c_X12_lieAt : Int → Int → Int → Int → Int → e_M → (Int → Prop) → Prop) (c_X12_two : Int → Int → Int → e_M → (Int → Prop) → Prop) (k280 : Int → Int → Int → Int → Int → e_M → Prop) (Q : Int → e_M → Prop) (x2 : Int) (x3 : Int) (x4 : Int) (x5 : Int) (x6 : Int) (x7 : Int) (M : e_M) : Prop :=
  ((x7 < 2 → (k280 x2 x3 x4 x5 x6 M)) ∧ (2 ≤ x7 → ((13 < x7 → (k280 x2 x3 x4 x5 x6 M)) ∧ (x7 ≤ 13 → ((¬ x7 = 11 → ((0 ≤ (e_w32 ((e_w32 (x5 + (-1))) - 1)) ∧ (e_w32 ((e_w32 (x5 + (-1))) - 1)) < 64) ∧ ((0 ≤ (e_w32 (x5 + (-1))) ∧ (e_w32 (x5 + (-1))) < 64) ∧ (c_X12_two x7 (M 4531 ((e_w32 ((e_w32 (x5 + (-1))) - 1)).toNat)) (M 4531 ((e_w32 (x5 + (-1))).toNat)) M (fun r1 => ((0 ≤ (e_w32 ((e_w32 (x5 + (-1))) - 1)) ∧ (e_w32 ((e_w32 (x5 + (-1))) - 1)) < 64) ∧ (∀ M2 : e_M, M2 = e_up M 4531 ((e_w32 ((e_w32 (x5 + (-1))) - 1)).toNat) r1 → (k280 x2 x3 x4 (e_w32 (x5 + (-1))) x6 M2)))))))) ∧ (x7 = 11 → (k280 x2 x3 x4 x5 x6 M)))))))
def VX12_worked_280 (c_X12_fact : Int → Int → Int → e_M → (Int → Prop) → Prop) (c_X12_asked : Int → Int → Int → Int → e_M → (Int → Prop) → Prop) (c_X12_lieAt : Int → Int → Int → Int → Int → e_M → (Int → Prop) → Prop) (c_X12_two : Int → Int → Int → e_M → (Int → Prop) → Prop) (k6 : Int → Int → Int → Int → Int → e_M → Prop) (Q : Int → e_M → Prop) (x2 : Int) (x3 : Int) (x4 : Int) (x5 : Int) (x6 : Int) (M : e_M) : Prop :=
  (k6 x2 x3 x4 x5 (e_w32 (x6 + 1)) M)
def VX12_worked (c_X12_fact : Int → Int → Int → e_M → (Int → Prop) → Prop) (c_X12_asked : Int → Int → Int → Int → e_M → (Int → Prop) → Prop) (c_X12_lieAt : Int → Int → Int → Int → Int → e_M → (Int → Prop) → Prop) (c_X12_two : Int → Int → Int → e_M → (Int → Prop) → Prop) (k6 : Int → Int → Int → Int → Int → e_M → Prop) (Q : Int → e_M → Prop) (x1 : Int) (x2 : Int) (x3 : Int) (x4 : Int) (M : e_M) : Prop :=
  (k6 x2 x3 x4 0 x1 M)
def yX12_worked (i : Nat) : e_Y := x_get YX12_worked [YX12_fact, YX12_asked, YX12_lieAt, YX12_two] i
def pX12_workedf : List x_I := [(0, 0, 1, 0, 0, 0, []), (1, 5, 2, 5, 0, 0, []), (3, 2, 1, 1, 0, 0, []), (4, 5, 2, 6, 0, 0, []), (6, 49, 0, 0, 0, 0, []), (6, 2, 2, 6, 0, 0, []), (8, 2, 1, 2, 0, 0, []), (9, 18, 286, 3, 161, 0, []), (12, 4, 1, 0, 0, 0, []), (13, 25, 12, 105, 4, 0, [(0, 20, 1300), (0, 1, 71)]), (16, 2, 2, 6, 0, 0, []), (18, 27, 0, 0, 0, 0, []), (19, 5, 2, 7, 0, 0, []), (21, 2, 2, 7, 0, 0, []), (23, 17, 43, 1, 25, 0, []), (26, 4, 1, 0, 0, 0, []), (27, 25, 12, 117, 4, 0, [(0, 23, 64), (0, 1, 75)]), (30, 2, 2, 5, 0, 0, []), (32, 4, 1, 0, 0, 0, []), (33, 25, 12, 108, 4, 0, [(0, 23, 1300), (0, 1, 74)]), (36, 2, 2, 6, 0, 0, []), (38, 27, 0, 1, 0, 0, []), (39, 28, 0, 1, 0, 0, []), (40, 19, 208, 0, 119, 0, []), (43, 2, 2, 7, 0, 0, []), (45, 0, 1, 0, 0, 1, []), (46, 18, 73, 1, 41, 0, []), (49, 4, 1, 0, 0, 0, []), (50, 25, 12, 117, 4, 0, [(0, 23, 64), (0, 1, 75)]), (53, 2, 2, 5, 0, 0, []), (55, 4, 1, 0, 0, 0, []), (56, 4, 1, 0, 0, 0, []), (57, 25, 12, 106, 4, 0, [(0, 20, 1300), (0, 1, 72)]), (60, 2, 2, 6, 0, 0, []), (62, 27, 0, 0, 0, 0, []), (63, 2, 1, 3, 0, 0, []), (64, 2, 2, 4, 0, 0, []), (66, 40, 0, 4, 14, 0, []), (69, 28, 0, 1, 0, 0, []), (70, 19, 208, 0, 119, 0, []), (73, 2, 2, 7, 0, 0, []), (75, 0, 2, 0, 0, 14, []), (77, 18, 119, 1, 66, 0, []), (80, 4, 1, 0, 0, 0, []), (81, 25, 12, 117, 4, 0, [(0, 23, 64), (0, 1, 75)]), (84, 2, 2, 5, 0, 0, []), (86, 4, 1, 0, 0, 0, []), (87, 4, 1, 0, 0, 0, []), (88, 25, 12, 106, 4, 0, [(0, 20, 1300), (0, 1, 72)]), (91, 2, 2, 6, 0, 0, []), (93, 27, 0, 0, 0, 0, []), (94, 4, 1, 0, 0, 0, []), (95, 25, 12, 108, 4, 0, [(0, 23, 1300), (0, 1, 74)]), (98, 2, 2, 6, 0, 0, []), (100, 27, 0, 1, 0, 0, []), (101, 2, 1, 3, 0, 0, []), (102, 2, 2, 4, 0, 0, []), (104, 40, 1, 5, 14, 0, []), (107, 17, 114, 0, 62, 0, []), (110, 1, 1, 0, 0, 1, []), (111, 19, 115, 0, 63, 0, []), (114, 1, 1, 0, 0, 0, []), (115, 49, 0, 0, 0, 0, []), (115, 28, 0, 1, 0, 0, []), (116, 19, 208, 0, 119, 0, []), (119, 2, 2, 7, 0, 0, []), (121, 0, 2, 0, 0, 15, []), (123, 18, 181, 1, 102, 0, []), (126, 4, 1, 0, 0, 0, []), (127, 25, 12, 117, 4, 0, [(0, 23, 64), (0, 1, 75)]), (130, 2, 2, 5, 0, 0, []), (132, 2, 1, 3, 0, 0, []), (133, 17, 176, 1, 97, 0, []), (136, 4, 1, 0, 0, 0, []), (137, 0, 2, 0, 0, 40, []), (139, 2, 2, 4, 0, 0, []), (141, 9, 0, 2, 0, 0, []), (142, 4, 1, 0, 0, 0, []), (143, 25, 12, 63, 4, 0, [(0, 20, 80), (0, 1, 40)]), (146, 2, 2, 4, 0, 0, []), (148, 27, 0, 0, 0, 0, []), (149, 4, 1, 0, 0, 0, []), (150, 25, 12, 106, 4, 0, [(0, 20, 1300), (0, 1, 72)]), (153, 2, 2, 6, 0, 0, []), (155, 27, 0, 0, 0, 0, []), (156, 14, 0, 0, 0, 0, []), (157, 4, 1, 0, 0, 0, []), (158, 25, 12, 107, 4, 0, [(0, 20, 1300), (0, 1, 73)]), (161, 2, 2, 6, 0, 0, []), (163, 27, 0, 0, 0, 0, []), (164, 14, 0, 0, 0, 0, []), (165, 0, 1, 0, 0, 1, []), (166, 40, 2, 6, 14, 0, []), (169, 17, 176, 5, 97, 0, []), (172, 1, 1, 0, 0, 1, []), (173, 19, 177, 0, 99, 0, []), (176, 49, 0, 0, 0, 0, []), (176, 1, 1, 0, 0, 0, []), (177, 49, 0, 0, 0, 0, []), (177, 28, 0, 1, 0, 0, []), (178, 19, 208, 0, 119, 0, []), (181, 2, 2, 7, 0, 0, []), (183, 0, 2, 0, 0, 11, []), (185, 18, 208, 1, 119, 0, []), (188, 4, 1, 0, 0, 0, []), (189, 25, 12, 117, 4, 0, [(0, 23, 64), (0, 1, 75)]), (192, 2, 2, 5, 0, 0, []), (194, 0, 1, 0, 0, 1, []), (195, 9, 0, 1, 0, 0, []), (196, 1, 1, 0, 0, 1, []), (197, 4, 1, 0, 0, 0, []), (198, 25, 12, 117, 4, 0, [(0, 23, 64), (0, 1, 75)]), (201, 2, 2, 5, 0, 0, []), (203, 0, 1, 0, 0, 1, []), (204, 9, 0, 1, 0, 0, []), (205, 27, 0, 1, 0, 0, []), (206, 10, 0, 1, 0, 0, []), (207, 28, 0, 1, 0, 0, []), (208, 49, 0, 0, 0, 0, []), (208, 2, 2, 7, 0, 0, []), (210, 0, 1, 0, 0, 1, []), (211, 18, 221, 5, 126, 0, []), (214, 2, 2, 7, 0, 0, []), (216, 0, 2, 0, 0, 14, []), (218, 18, 224, 2, 128, 0, []), (221, 49, 0, 0, 0, 0, []), (221, 8, 0, 5, 0, 1, []), (224, 49, 0, 0, 0, 0, []), (224, 2, 2, 7, 0, 0, []), (226, 0, 1, 0, 0, 2, []), (227, 18, 280, 2, 158, 0, []), (230, 2, 2, 7, 0, 0, []), (232, 0, 2, 0, 0, 13, []), (234, 18, 280, 4, 158, 0, []), (237, 2, 2, 7, 0, 0, []), (239, 0, 2, 0, 0, 11, []), (241, 18, 247, 1, 139, 0, []), (244, 19, 280, 0, 158, 0, []), (247, 8, 0, 5, 0, (-1), []), (250, 4, 1, 0, 0, 0, []), (251, 25, 12, 117, 4, 0, [(0, 23, 64), (0, 1, 75)]), (254, 2, 2, 5, 0, 0, []), (256, 0, 1, 0, 0, 1, []), (257, 9, 0, 1, 0, 0, []), (258, 2, 2, 7, 0, 0, []), (260, 4, 1, 0, 0, 0, []), (261, 25, 12, 117, 4, 0, [(0, 23, 64), (0, 1, 75)]), (264, 2, 2, 5, 0, 0, []), (266, 0, 1, 0, 0, 1, []), (267, 9, 0, 1, 0, 0, []), (268, 27, 0, 1, 0, 0, []), (269, 4, 1, 0, 0, 0, []), (270, 25, 12, 117, 4, 0, [(0, 23, 64), (0, 1, 75)]), (273, 2, 2, 5, 0, 0, []), (275, 27, 0, 1, 0, 0, []), (276, 40, 3, 3, 0, 0, []), (279, 28, 0, 1, 0, 0, []), (280, 49, 0, 0, 0, 0, []), (280, 8, 0, 6, 0, 1, []), (283, 19, 6, 0, 5, 0, []), (286, 2, 2, 5, 0, 0, []), (288, 17, 295, 1, 165, 0, []), (291, 1, 1, 0, 0, 1, []), (292, 19, 301, 0, 169, 0, []), (295, 4, 1, 0, 0, 0, []), (296, 25, 12, 117, 4, 0, [(0, 23, 64), (0, 1, 75)]), (299, 0, 1, 0, 0, 0, []), (300, 27, 0, 1, 0, 0, []), (301, 43, 0, 0, 0, 0, [])]
set_option maxRecDepth 20000 in
theorem qX12_workedf : f_all yX12_worked YX12_worked pX12_workedf :=
  ⟨f_iconst (e_dx DX12_worked_0 0 rfl) ⟨by decide, by decide⟩,
  f_istore (e_dx DX12_worked_0 1 rfl) (by decide),
  f_iload_n (n := 1) (e_dx DX12_worked_0 2 rfl) rfl,
  f_istore (e_dx DX12_worked_0 3 rfl) (by decide),
  trivial,
  f_iload (e_dx DX12_worked_0 4 rfl),
  f_iload_n (n := 2) (e_dx DX12_worked_0 5 rfl) rfl,
  f_icmp_ge (e_dx DX12_worked_0 6 rfl) rfl,
  f_aload_n (n := 0) (e_dx DX12_worked_0 7 rfl) rfl,
  f_getA (e_dx DX12_worked_0 8 rfl) fX12_233 rfl (by decide) (Nat.le_of_ble_eq_true rfl) rfl (by decide),
  f_iload (e_dx DX12_worked_0 9 rfl),
  f_iaload (e_dx DX12_worked_0 10 rfl),
  f_istore (e_dx DX12_worked_0 11 rfl) (by decide),
  f_iload (e_dx DX12_worked_0 12 rfl),
  f_if_ne (e_dx DX12_worked_0 13 rfl) rfl,
  f_aload_n (n := 0) (e_dx DX12_worked_0 14 rfl) rfl,
  f_getA (e_dx DX12_worked_0 15 rfl) fX12_245 rfl (by decide) (Nat.le_of_ble_eq_true rfl) rfl (by decide),
  f_iload (e_dx DX12_worked_0 16 rfl),
  f_aload_n (n := 0) (e_dx DX12_worked_0 17 rfl) rfl,
  f_getA (e_dx DX12_worked_0 18 rfl) fX12_242 rfl (by decide) (Nat.le_of_ble_eq_true rfl) rfl (by decide),
  f_iload (e_dx DX12_worked_0 19 rfl),
  f_laload (e_dx DX12_worked_0 20 rfl),
  f_lastore (e_dx DX12_worked_0 21 rfl),
  f_g19 (e_dx DX12_worked_0 22 rfl) rfl,
  f_iload (e_dx DX12_worked_0 23 rfl),
  f_iconst (e_dx DX12_worked_0 24 rfl) ⟨by decide, by decide⟩,
  f_icmp_ne (e_dx DX12_worked_0 25 rfl) rfl,
  f_aload_n (n := 0) (e_dx DX12_worked_0 26 rfl) rfl,
  f_getA (e_dx DX12_worked_0 27 rfl) fX12_245 rfl (by decide) (Nat.le_of_ble_eq_true rfl) rfl (by decide),
  f_iload (e_dx DX12_worked_0 28 rfl),
  f_aload_n (n := 0) (e_dx DX12_worked_0 29 rfl) rfl,
  f_aload_n (n := 0) (e_dx DX12_worked_0 30 rfl) rfl,
  f_getA (e_dx DX12_worked_0 31 rfl) fX12_236 rfl (by decide) (Nat.le_of_ble_eq_true rfl) rfl (by decide),
  f_iload (e_dx DX12_worked_0 32 rfl),
  f_iaload (e_dx DX12_worked_0 33 rfl),
  f_iload_n (n := 3) (e_dx DX12_worked_0 34 rfl) rfl,
  f_iload (e_dx DX12_worked_0 35 rfl),
  x_callV (e_dx DX12_worked_0 36 rfl) mwX12_fact vwX12_fact cX12_881 rfl,
  f_lastore (e_dx DX12_worked_0 37 rfl),
  f_g19 (e_dx DX12_worked_0 38 rfl) rfl,
  f_iload (e_dx DX12_worked_0 39 rfl),
  f_bipush (e_dx DX12_worked_1 0 rfl) ⟨by decide, by decide⟩,
  f_icmp_ne (e_dx DX12_worked_1 1 rfl) rfl,
  f_aload_n (n := 0) (e_dx DX12_worked_1 2 rfl) rfl,
  f_getA (e_dx DX12_worked_1 3 rfl) fX12_245 rfl (by decide) (Nat.le_of_ble_eq_true rfl) rfl (by decide),
  f_iload (e_dx DX12_worked_1 4 rfl),
  f_aload_n (n := 0) (e_dx DX12_worked_1 5 rfl) rfl,
  f_aload_n (n := 0) (e_dx DX12_worked_1 6 rfl) rfl,
  f_getA (e_dx DX12_worked_1 7 rfl) fX12_236 rfl (by decide) (Nat.le_of_ble_eq_true rfl) rfl (by decide),
  f_iload (e_dx DX12_worked_1 8 rfl),
  f_iaload (e_dx DX12_worked_1 9 rfl),
  f_aload_n (n := 0) (e_dx DX12_worked_1 10 rfl) rfl,
  f_getA (e_dx DX12_worked_1 11 rfl) fX12_242 rfl (by decide) (Nat.le_of_ble_eq_true rfl) rfl (by decide),
  f_iload (e_dx DX12_worked_1 12 rfl),
  f_laload (e_dx DX12_worked_1 13 rfl),
  f_iload_n (n := 3) (e_dx DX12_worked_1 14 rfl) rfl,
  f_iload (e_dx DX12_worked_1 15 rfl),
  x_callV (e_dx DX12_worked_1 16 rfl) mwX12_asked vwX12_asked cX12_885 rfl,
  f_if_eq (e_dx DX12_worked_1 17 rfl) rfl,
  f_lconst (n := 1) (e_dx DX12_worked_1 18 rfl) rfl,
  f_g19 (e_dx DX12_worked_1 19 rfl) rfl,
  f_lconst (n := 0) (e_dx DX12_worked_1 20 rfl) rfl,
  trivial,
  f_lastore (e_dx DX12_worked_1 21 rfl),
  f_g19 (e_dx DX12_worked_1 22 rfl) rfl,
  f_iload (e_dx DX12_worked_1 23 rfl),
  f_bipush (e_dx DX12_worked_1 24 rfl) ⟨by decide, by decide⟩,
  f_icmp_ne (e_dx DX12_worked_1 25 rfl) rfl,
  f_aload_n (n := 0) (e_dx DX12_worked_1 26 rfl) rfl,
  f_getA (e_dx DX12_worked_1 27 rfl) fX12_245 rfl (by decide) (Nat.le_of_ble_eq_true rfl) rfl (by decide),
  f_iload (e_dx DX12_worked_1 28 rfl),
  f_iload_n (n := 3) (e_dx DX12_worked_1 29 rfl) rfl,
  f_if_ne (e_dx DX12_worked_1 30 rfl) rfl,
  f_aload_n (n := 0) (e_dx DX12_worked_1 31 rfl) rfl,
  f_bipush (e_dx DX12_worked_1 32 rfl) ⟨by decide, by decide⟩,
  f_iload (e_dx DX12_worked_1 33 rfl),
  f_imul (e_dx DX12_worked_1 34 rfl),
  f_aload_n (n := 0) (e_dx DX12_worked_1 35 rfl) rfl,
  f_getA (e_dx DX12_worked_1 36 rfl) fX12_130 rfl (by decide) (Nat.le_of_ble_eq_true rfl) rfl (by decide),
  f_iload (e_dx DX12_worked_1 37 rfl),
  f_iaload (e_dx DX12_worked_1 38 rfl),
  f_aload_n (n := 0) (e_dx DX12_worked_1 39 rfl) rfl,
  f_getA (e_dx DX12_worked_2 0 rfl) fX12_236 rfl (by decide) (Nat.le_of_ble_eq_true rfl) rfl (by decide),
  f_iload (e_dx DX12_worked_2 1 rfl),
  f_iaload (e_dx DX12_worked_2 2 rfl),
  f_g14 (e_dx DX12_worked_2 3 rfl),
  f_aload_n (n := 0) (e_dx DX12_worked_2 4 rfl) rfl,
  f_getA (e_dx DX12_worked_2 5 rfl) fX12_239 rfl (by decide) (Nat.le_of_ble_eq_true rfl) rfl (by decide),
  f_iload (e_dx DX12_worked_2 6 rfl),
  f_iaload (e_dx DX12_worked_2 7 rfl),
  f_g14 (e_dx DX12_worked_2 8 rfl),
  f_iconst (e_dx DX12_worked_2 9 rfl) ⟨by decide, by decide⟩,
  x_callV (e_dx DX12_worked_2 10 rfl) mwX12_lieAt vwX12_lieAt cX12_452 rfl,
  f_if_le (e_dx DX12_worked_2 11 rfl) rfl,
  f_lconst (n := 1) (e_dx DX12_worked_2 12 rfl) rfl,
  f_g19 (e_dx DX12_worked_2 13 rfl) rfl,
  trivial,
  f_lconst (n := 0) (e_dx DX12_worked_2 14 rfl) rfl,
  trivial,
  f_lastore (e_dx DX12_worked_2 15 rfl),
  f_g19 (e_dx DX12_worked_2 16 rfl) rfl,
  f_iload (e_dx DX12_worked_2 17 rfl),
  f_bipush (e_dx DX12_worked_2 18 rfl) ⟨by decide, by decide⟩,
  f_icmp_ne (e_dx DX12_worked_2 19 rfl) rfl,
  f_aload_n (n := 0) (e_dx DX12_worked_2 20 rfl) rfl,
  f_getA (e_dx DX12_worked_2 21 rfl) fX12_245 rfl (by decide) (Nat.le_of_ble_eq_true rfl) rfl (by decide),
  f_iload (e_dx DX12_worked_2 22 rfl),
  f_iconst (e_dx DX12_worked_2 23 rfl) ⟨by decide, by decide⟩,
  f_isub (e_dx DX12_worked_2 24 rfl),
  f_lconst (n := 1) (e_dx DX12_worked_2 25 rfl) rfl,
  f_aload_n (n := 0) (e_dx DX12_worked_2 26 rfl) rfl,
  f_getA (e_dx DX12_worked_2 27 rfl) fX12_245 rfl (by decide) (Nat.le_of_ble_eq_true rfl) rfl (by decide),
  f_iload (e_dx DX12_worked_2 28 rfl),
  f_iconst (e_dx DX12_worked_2 29 rfl) ⟨by decide, by decide⟩,
  f_isub (e_dx DX12_worked_2 30 rfl),
  f_laload (e_dx DX12_worked_2 31 rfl),
  f_lsub (e_dx DX12_worked_2 32 rfl),
  f_lastore (e_dx DX12_worked_2 33 rfl),
  trivial,
  f_iload (e_dx DX12_worked_2 34 rfl),
  f_iconst (e_dx DX12_worked_2 35 rfl) ⟨by decide, by decide⟩,
  f_icmp_le (e_dx DX12_worked_2 36 rfl) rfl,
  f_iload (e_dx DX12_worked_2 37 rfl),
  f_bipush (e_dx DX12_worked_2 38 rfl) ⟨by decide, by decide⟩,
  f_icmp_lt (e_dx DX12_worked_2 39 rfl) rfl,
  trivial,
  f_g8 (e_dx DX12_worked_3 0 rfl) ⟨by decide, by decide⟩,
  trivial,
  f_iload (e_dx DX12_worked_3 1 rfl),
  f_iconst (e_dx DX12_worked_3 2 rfl) ⟨by decide, by decide⟩,
  f_icmp_lt (e_dx DX12_worked_3 3 rfl) rfl,
  f_iload (e_dx DX12_worked_3 4 rfl),
  f_bipush (e_dx DX12_worked_3 5 rfl) ⟨by decide, by decide⟩,
  f_icmp_gt (e_dx DX12_worked_3 6 rfl) rfl,
  f_iload (e_dx DX12_worked_3 7 rfl),
  f_bipush (e_dx DX12_worked_3 8 rfl) ⟨by decide, by decide⟩,
  f_icmp_ne (e_dx DX12_worked_3 9 rfl) rfl,
  f_g19 (e_dx DX12_worked_3 10 rfl) rfl,
  f_g8 (e_dx DX12_worked_3 11 rfl) ⟨by decide, by decide⟩,
  f_aload_n (n := 0) (e_dx DX12_worked_3 12 rfl) rfl,
  f_getA (e_dx DX12_worked_3 13 rfl) fX12_245 rfl (by decide) (Nat.le_of_ble_eq_true rfl) rfl (by decide),
  f_iload (e_dx DX12_worked_3 14 rfl),
  f_iconst (e_dx DX12_worked_3 15 rfl) ⟨by decide, by decide⟩,
  f_isub (e_dx DX12_worked_3 16 rfl),
  f_iload (e_dx DX12_worked_3 17 rfl),
  f_aload_n (n := 0) (e_dx DX12_worked_3 18 rfl) rfl,
  f_getA (e_dx DX12_worked_3 19 rfl) fX12_245 rfl (by decide) (Nat.le_of_ble_eq_true rfl) rfl (by decide),
  f_iload (e_dx DX12_worked_3 20 rfl),
  f_iconst (e_dx DX12_worked_3 21 rfl) ⟨by decide, by decide⟩,
  f_isub (e_dx DX12_worked_3 22 rfl),
  f_laload (e_dx DX12_worked_3 23 rfl),
  f_aload_n (n := 0) (e_dx DX12_worked_3 24 rfl) rfl,
  f_getA (e_dx DX12_worked_3 25 rfl) fX12_245 rfl (by decide) (Nat.le_of_ble_eq_true rfl) rfl (by decide),
  f_iload (e_dx DX12_worked_3 26 rfl),
  f_laload (e_dx DX12_worked_3 27 rfl),
  x_callS (e_dx DX12_worked_3 28 rfl) mwX12_two cX12_889 swX12_two rfl,
  f_lastore (e_dx DX12_worked_3 29 rfl),
  trivial,
  f_g8 (e_dx DX12_worked_3 30 rfl) ⟨by decide, by decide⟩,
  f_g19 (e_dx DX12_worked_3 31 rfl) rfl,
  f_iload (e_dx DX12_worked_3 32 rfl),
  f_if_ne (e_dx DX12_worked_3 33 rfl) rfl,
  f_lconst (n := 1) (e_dx DX12_worked_3 34 rfl) rfl,
  f_g19 (e_dx DX12_worked_3 35 rfl) rfl,
  f_aload_n (n := 0) (e_dx DX12_worked_3 36 rfl) rfl,
  f_getA (e_dx DX12_worked_3 37 rfl) fX12_245 rfl (by decide) (Nat.le_of_ble_eq_true rfl) rfl (by decide),
  f_iconst (e_dx DX12_worked_3 38 rfl) ⟨by decide, by decide⟩,
  f_laload (e_dx DX12_worked_3 39 rfl),
  ⟨(e_dx DX12_worked_4 0 rfl), rfl⟩, trivial⟩
def lX12_worked (c_X12_fact : Int → Int → Int → e_M → (Int → Prop) → Prop) (c_X12_asked : Int → Int → Int → Int → e_M → (Int → Prop) → Prop) (c_X12_lieAt : Int → Int → Int → Int → Int → e_M → (Int → Prop) → Prop) (c_X12_two : Int → Int → Int → e_M → (Int → Prop) → Prop) : List (Nat × f_Wt) := [(0, f_wm [(4466, 12, 123), (1, 0, 0), (1, 0, 0), (1, 0, 0)] (fun ar M R => c_X12_fact (f_vi (f_nth ar 1)) (f_vi (f_nth ar 2)) (f_vi (f_nth ar 3)) M (fun r => R (some (.inr (.inl r))) M))), (1, f_wm [(4466, 12, 123), (1, 0, 0), (2, 0, 0), (1, 0, 0), (1, 0, 0)] (fun ar M R => c_X12_asked (f_vi (f_nth ar 1)) (f_vi (f_nth ar 2)) (f_vi (f_nth ar 3)) (f_vi (f_nth ar 4)) M (fun r => R (some (.inl r)) M))), (2, f_wm [(4466, 12, 123), (1, 0, 0), (1, 0, 0), (2, 0, 0), (2, 0, 0), (1, 0, 0)] (fun ar M R => c_X12_lieAt (f_vi (f_nth ar 1)) (f_vi (f_nth ar 2)) (f_vi (f_nth ar 3)) (f_vi (f_nth ar 4)) (f_vi (f_nth ar 5)) M (fun r => R (some (.inl r)) M))), (3, f_wm [(1, 0, 0), (2, 0, 0), (2, 0, 0)] (fun ar M R => c_X12_two (f_vi (f_nth ar 0)) (f_vi (f_nth ar 1)) (f_vi (f_nth ar 2)) M (fun r => R (some (.inr (.inl r))) M)))]
set_option maxRecDepth 20000 in
theorem BX12_worked_6 {sh : Nat → Nat × Nat} {t : Nat} {rm : Nat × Nat × Nat} {cs : Nat × Nat} {R : f_Rt} {c_X12_fact : Int → Int → Int → e_M → (Int → Prop) → Prop} {c_X12_asked : Int → Int → Int → Int → e_M → (Int → Prop) → Prop} {c_X12_lieAt : Int → Int → Int → Int → Int → e_M → (Int → Prop) → Prop} {c_X12_two : Int → Int → Int → e_M → (Int → Prop) → Prop} {k208 : Int → Int → Int → Int → Int → Int → e_M → Prop} {k176 : Int → Int → Int → Int → Int → Int → Int → e_M → Prop} {k177 : Int → Int → Int → Int → Int → Int → Int → Int → e_M → Prop} {k115 : Int → Int → Int → Int → Int → Int → Int → Int → e_M → Prop} {x2 : Int} {x3 : Int} {x4 : Int} {x5 : Int} {x6 : Int} {M : e_M} (C : f_Hy sh t yX12_worked rm cs 10 (lX12_worked c_X12_fact c_X12_asked c_X12_lieAt c_X12_two) R) (h208 : ∀ (x2 : Int) (x3 : Int) (x4 : Int) (x5 : Int) (x6 : Int) (x7 : Int) (M : e_M), k208 x2 x3 x4 x5 x6 x7 M → f_E sh t YX12_worked rm cs (f_Q sh t R) 208 [.inr (.inr (.inl (12, 123, 4456))), .inr (.inr (.inr ())), .inl x2, .inl x3, .inl x4, .inl x5, .inl x6, .inl x7] [] M) (h176 : ∀ (x2 : Int) (x3 : Int) (x4 : Int) (x5 : Int) (x6 : Int) (x7 : Int) (xs1 : Int) (M : e_M), k176 x2 x3 x4 x5 x6 x7 xs1 M → f_E sh t YX12_worked rm cs (f_Q sh t R) 176 [.inr (.inr (.inl (12, 123, 4456))), .inr (.inr (.inr ())), .inl x2, .inl x3, .inl x4, .inl x5, .inl x6, .inl x7] [.inl xs1, .inr (.inr (.inl (23, 64, 4531)))] M) (h177 : ∀ (x2 : Int) (x3 : Int) (x4 : Int) (x5 : Int) (x6 : Int) (x7 : Int) (xs2 : Int) (xs1 : Int) (M : e_M), k177 x2 x3 x4 x5 x6 x7 xs2 xs1 M → f_E sh t YX12_worked rm cs (f_Q sh t R) 177 [.inr (.inr (.inl (12, 123, 4456))), .inr (.inr (.inr ())), .inl x2, .inl x3, .inl x4, .inl x5, .inl x6, .inl x7] [.inr (.inl xs2), .inl xs1, .inr (.inr (.inl (23, 64, 4531)))] M) (h115 : ∀ (x2 : Int) (x3 : Int) (x4 : Int) (x5 : Int) (x6 : Int) (x7 : Int) (xs2 : Int) (xs1 : Int) (M : e_M), k115 x2 x3 x4 x5 x6 x7 xs2 xs1 M → f_E sh t YX12_worked rm cs (f_Q sh t R) 115 [.inr (.inr (.inl (12, 123, 4456))), .inr (.inr (.inr ())), .inl x2, .inl x3, .inl x4, .inl x5, .inl x6, .inl x7] [.inr (.inl xs2), .inl xs1, .inr (.inr (.inl (23, 64, 4531)))] M) (h : VX12_worked_6 c_X12_fact c_X12_asked c_X12_lieAt c_X12_two k208 k176 k177 k115 (fun r M => R (some (.inr (.inl r))) M) x2 x3 x4 x5 x6 M) : f_E sh t YX12_worked rm cs (f_Q sh t R) 6 [.inr (.inr (.inl (12, 123, 4456))), .inr (.inr (.inr ())), .inl x2, .inl x3, .inl x4, .inl x5, .inl x6, .inr (.inr (.inr ()))] [] M :=
  f_go (KC := f_kc [(208, f_pl [(4466, 12, 123), (0, 0, 0), (1, 0, 0), (1, 0, 0), (1, 0, 0), (1, 0, 0), (1, 0, 0), (1, 0, 0)] [] (fun ls st M => k208 (f_vi (f_nth ls 2)) (f_vi (f_nth ls 3)) (f_vi (f_nth ls 4)) (f_vi (f_nth ls 5)) (f_vi (f_nth ls 6)) (f_vi (f_nth ls 7)) M)), (176, f_pl [(4466, 12, 123), (0, 0, 0), (1, 0, 0), (1, 0, 0), (1, 0, 0), (1, 0, 0), (1, 0, 0), (1, 0, 0)] [(1, 0, 0), (4541, 23, 64)] (fun ls st M => k176 (f_vi (f_nth ls 2)) (f_vi (f_nth ls 3)) (f_vi (f_nth ls 4)) (f_vi (f_nth ls 5)) (f_vi (f_nth ls 6)) (f_vi (f_nth ls 7)) (f_vi (f_nth st 0)) M)), (177, f_pl [(4466, 12, 123), (0, 0, 0), (1, 0, 0), (1, 0, 0), (1, 0, 0), (1, 0, 0), (1, 0, 0), (1, 0, 0)] [(2, 0, 0), (1, 0, 0), (4541, 23, 64)] (fun ls st M => k177 (f_vi (f_nth ls 2)) (f_vi (f_nth ls 3)) (f_vi (f_nth ls 4)) (f_vi (f_nth ls 5)) (f_vi (f_nth ls 6)) (f_vi (f_nth ls 7)) (f_vi (f_nth st 0)) (f_vi (f_nth st 1)) M)), (115, f_pl [(4466, 12, 123), (0, 0, 0), (1, 0, 0), (1, 0, 0), (1, 0, 0), (1, 0, 0), (1, 0, 0), (1, 0, 0)] [(2, 0, 0), (1, 0, 0), (4541, 23, 64)] (fun ls st M => k115 (f_vi (f_nth ls 2)) (f_vi (f_nth ls 3)) (f_vi (f_nth ls 4)) (f_vi (f_nth ls 5)) (f_vi (f_nth ls 6)) (f_vi (f_nth ls 7)) (f_vi (f_nth st 0)) (f_vi (f_nth st 1)) M))]) C qX12_workedf (f_kc_cons (f_pl_ok rfl (fun ls st M h => h208 _ _ _ _ _ _ M h)) (f_kc_cons (f_pl_ok rfl (fun ls st M h => h176 _ _ _ _ _ _ _ M h)) (f_kc_cons (f_pl_ok rfl (fun ls st M h => h177 _ _ _ _ _ _ _ _ M h)) (f_kc_cons (f_pl_ok rfl (fun ls st M h => h115 _ _ _ _ _ _ _ _ M h)) f_kc_nil)))) 171 5 h
set_option maxRecDepth 20000 in
theorem BX12_worked_115 {sh : Nat → Nat × Nat} {t : Nat} {rm : Nat × Nat × Nat} {cs : Nat × Nat} {R : f_Rt} {c_X12_fact : Int → Int → Int → e_M → (Int → Prop) → Prop} {c_X12_asked : Int → Int → Int → Int → e_M → (Int → Prop) → Prop} {c_X12_lieAt : Int → Int → Int → Int → Int → e_M → (Int → Prop) → Prop} {c_X12_two : Int → Int → Int → e_M → (Int → Prop) → Prop} {k208 : Int → Int → Int → Int → Int → Int → e_M → Prop} {x2 : Int} {x3 : Int} {x4 : Int} {x5 : Int} {x6 : Int} {x7 : Int} {xs2 : Int} {xs1 : Int} {M : e_M} (C : f_Hy sh t yX12_worked rm cs 10 (lX12_worked c_X12_fact c_X12_asked c_X12_lieAt c_X12_two) R) (h208 : ∀ (x2 : Int) (x3 : Int) (x4 : Int) (x5 : Int) (x6 : Int) (x7 : Int) (M : e_M), k208 x2 x3 x4 x5 x6 x7 M → f_E sh t YX12_worked rm cs (f_Q sh t R) 208 [.inr (.inr (.inl (12, 123, 4456))), .inr (.inr (.inr ())), .inl x2, .inl x3, .inl x4, .inl x5, .inl x6, .inl x7] [] M) (h : VX12_worked_115 c_X12_fact c_X12_asked c_X12_lieAt c_X12_two k208 (fun r M => R (some (.inr (.inl r))) M) x2 x3 x4 x5 x6 x7 xs2 xs1 M) : f_E sh t YX12_worked rm cs (f_Q sh t R) 115 [.inr (.inr (.inl (12, 123, 4456))), .inr (.inr (.inr ())), .inl x2, .inl x3, .inl x4, .inl x5, .inl x6, .inl x7] [.inr (.inl xs2), .inl xs1, .inr (.inr (.inl (23, 64, 4531)))] M :=
  f_go (KC := f_kc [(208, f_pl [(4466, 12, 123), (0, 0, 0), (1, 0, 0), (1, 0, 0), (1, 0, 0), (1, 0, 0), (1, 0, 0), (1, 0, 0)] [] (fun ls st M => k208 (f_vi (f_nth ls 2)) (f_vi (f_nth ls 3)) (f_vi (f_nth ls 4)) (f_vi (f_nth ls 5)) (f_vi (f_nth ls 6)) (f_vi (f_nth ls 7)) M))]) C qX12_workedf (f_kc_cons (f_pl_ok rfl (fun ls st M h => h208 _ _ _ _ _ _ M h)) f_kc_nil) 171 63 h
set_option maxRecDepth 20000 in
theorem BX12_worked_176 {sh : Nat → Nat × Nat} {t : Nat} {rm : Nat × Nat × Nat} {cs : Nat × Nat} {R : f_Rt} {c_X12_fact : Int → Int → Int → e_M → (Int → Prop) → Prop} {c_X12_asked : Int → Int → Int → Int → e_M → (Int → Prop) → Prop} {c_X12_lieAt : Int → Int → Int → Int → Int → e_M → (Int → Prop) → Prop} {c_X12_two : Int → Int → Int → e_M → (Int → Prop) → Prop} {k177 : Int → Int → Int → Int → Int → Int → Int → Int → e_M → Prop} {x2 : Int} {x3 : Int} {x4 : Int} {x5 : Int} {x6 : Int} {x7 : Int} {xs1 : Int} {M : e_M} (C : f_Hy sh t yX12_worked rm cs 10 (lX12_worked c_X12_fact c_X12_asked c_X12_lieAt c_X12_two) R) (h177 : ∀ (x2 : Int) (x3 : Int) (x4 : Int) (x5 : Int) (x6 : Int) (x7 : Int) (xs2 : Int) (xs1 : Int) (M : e_M), k177 x2 x3 x4 x5 x6 x7 xs2 xs1 M → f_E sh t YX12_worked rm cs (f_Q sh t R) 177 [.inr (.inr (.inl (12, 123, 4456))), .inr (.inr (.inr ())), .inl x2, .inl x3, .inl x4, .inl x5, .inl x6, .inl x7] [.inr (.inl xs2), .inl xs1, .inr (.inr (.inl (23, 64, 4531)))] M) (h : VX12_worked_176 c_X12_fact c_X12_asked c_X12_lieAt c_X12_two k177 (fun r M => R (some (.inr (.inl r))) M) x2 x3 x4 x5 x6 x7 xs1 M) : f_E sh t YX12_worked rm cs (f_Q sh t R) 176 [.inr (.inr (.inl (12, 123, 4456))), .inr (.inr (.inr ())), .inl x2, .inl x3, .inl x4, .inl x5, .inl x6, .inl x7] [.inl xs1, .inr (.inr (.inl (23, 64, 4531)))] M :=
  f_go (KC := f_kc [(177, f_pl [(4466, 12, 123), (0, 0, 0), (1, 0, 0), (1, 0, 0), (1, 0, 0), (1, 0, 0), (1, 0, 0), (1, 0, 0)] [(2, 0, 0), (1, 0, 0), (4541, 23, 64)] (fun ls st M => k177 (f_vi (f_nth ls 2)) (f_vi (f_nth ls 3)) (f_vi (f_nth ls 4)) (f_vi (f_nth ls 5)) (f_vi (f_nth ls 6)) (f_vi (f_nth ls 7)) (f_vi (f_nth st 0)) (f_vi (f_nth st 1)) M))]) C qX12_workedf (f_kc_cons (f_pl_ok rfl (fun ls st M h => h177 _ _ _ _ _ _ _ _ M h)) f_kc_nil) 171 97 h
set_option maxRecDepth 20000 in
theorem BX12_worked_177 {sh : Nat → Nat × Nat} {t : Nat} {rm : Nat × Nat × Nat} {cs : Nat × Nat} {R : f_Rt} {c_X12_fact : Int → Int → Int → e_M → (Int → Prop) → Prop} {c_X12_asked : Int → Int → Int → Int → e_M → (Int → Prop) → Prop} {c_X12_lieAt : Int → Int → Int → Int → Int → e_M → (Int → Prop) → Prop} {c_X12_two : Int → Int → Int → e_M → (Int → Prop) → Prop} {k208 : Int → Int → Int → Int → Int → Int → e_M → Prop} {x2 : Int} {x3 : Int} {x4 : Int} {x5 : Int} {x6 : Int} {x7 : Int} {xs2 : Int} {xs1 : Int} {M : e_M} (C : f_Hy sh t yX12_worked rm cs 10 (lX12_worked c_X12_fact c_X12_asked c_X12_lieAt c_X12_two) R) (h208 : ∀ (x2 : Int) (x3 : Int) (x4 : Int) (x5 : Int) (x6 : Int) (x7 : Int) (M : e_M), k208 x2 x3 x4 x5 x6 x7 M → f_E sh t YX12_worked rm cs (f_Q sh t R) 208 [.inr (.inr (.inl (12, 123, 4456))), .inr (.inr (.inr ())), .inl x2, .inl x3, .inl x4, .inl x5, .inl x6, .inl x7] [] M) (h : VX12_worked_177 c_X12_fact c_X12_asked c_X12_lieAt c_X12_two k208 (fun r M => R (some (.inr (.inl r))) M) x2 x3 x4 x5 x6 x7 xs2 xs1 M) : f_E sh t YX12_worked rm cs (f_Q sh t R) 177 [.inr (.inr (.inl (12, 123, 4456))), .inr (.inr (.inr ())), .inl x2, .inl x3, .inl x4, .inl x5, .inl x6, .inl x7] [.inr (.inl xs2), .inl xs1, .inr (.inr (.inl (23, 64, 4531)))] M :=
  f_go (KC := f_kc [(208, f_pl [(4466, 12, 123), (0, 0, 0), (1, 0, 0), (1, 0, 0), (1, 0, 0), (1, 0, 0), (1, 0, 0), (1, 0, 0)] [] (fun ls st M => k208 (f_vi (f_nth ls 2)) (f_vi (f_nth ls 3)) (f_vi (f_nth ls 4)) (f_vi (f_nth ls 5)) (f_vi (f_nth ls 6)) (f_vi (f_nth ls 7)) M))]) C qX12_workedf (f_kc_cons (f_pl_ok rfl (fun ls st M h => h208 _ _ _ _ _ _ M h)) f_kc_nil) 171 99 h
set_option maxRecDepth 20000 in
theorem BX12_worked_208 {sh : Nat → Nat × Nat} {t : Nat} {rm : Nat × Nat × Nat} {cs : Nat × Nat} {R : f_Rt} {c_X12_fact : Int → Int → Int → e_M → (Int → Prop) → Prop} {c_X12_asked : Int → Int → Int → Int → e_M → (Int → Prop) → Prop} {c_X12_lieAt : Int → Int → Int → Int → Int → e_M → (Int → Prop) → Prop} {c_X12_two : Int → Int → Int → e_M → (Int → Prop) → Prop} {k221 : Int → Int → Int → Int → Int → Int → e_M → Prop} {k224 : Int → Int → Int → Int → Int → Int → e_M → Prop} {x2 : Int} {x3 : Int} {x4 : Int} {x5 : Int} {x6 : Int} {x7 : Int} {M : e_M} (C : f_Hy sh t yX12_worked rm cs 10 (lX12_worked c_X12_fact c_X12_asked c_X12_lieAt c_X12_two) R) (h221 : ∀ (x2 : Int) (x3 : Int) (x4 : Int) (x5 : Int) (x6 : Int) (x7 : Int) (M : e_M), k221 x2 x3 x4 x5 x6 x7 M → f_E sh t YX12_worked rm cs (f_Q sh t R) 221 [.inr (.inr (.inl (12, 123, 4456))), .inr (.inr (.inr ())), .inl x2, .inl x3, .inl x4, .inl x5, .inl x6, .inl x7] [] M) (h224 : ∀ (x2 : Int) (x3 : Int) (x4 : Int) (x5 : Int) (x6 : Int) (x7 : Int) (M : e_M), k224 x2 x3 x4 x5 x6 x7 M → f_E sh t YX12_worked rm cs (f_Q sh t R) 224 [.inr (.inr (.inl (12, 123, 4456))), .inr (.inr (.inr ())), .inl x2, .inl x3, .inl x4, .inl x5, .inl x6, .inl x7] [] M) (h : VX12_worked_208 c_X12_fact c_X12_asked c_X12_lieAt c_X12_two k221 k224 (fun r M => R (some (.inr (.inl r))) M) x2 x3 x4 x5 x6 x7 M) : f_E sh t YX12_worked rm cs (f_Q sh t R) 208 [.inr (.inr (.inl (12, 123, 4456))), .inr (.inr (.inr ())), .inl x2, .inl x3, .inl x4, .inl x5, .inl x6, .inl x7] [] M :=
  f_go (KC := f_kc [(221, f_pl [(4466, 12, 123), (0, 0, 0), (1, 0, 0), (1, 0, 0), (1, 0, 0), (1, 0, 0), (1, 0, 0), (1, 0, 0)] [] (fun ls st M => k221 (f_vi (f_nth ls 2)) (f_vi (f_nth ls 3)) (f_vi (f_nth ls 4)) (f_vi (f_nth ls 5)) (f_vi (f_nth ls 6)) (f_vi (f_nth ls 7)) M)), (224, f_pl [(4466, 12, 123), (0, 0, 0), (1, 0, 0), (1, 0, 0), (1, 0, 0), (1, 0, 0), (1, 0, 0), (1, 0, 0)] [] (fun ls st M => k224 (f_vi (f_nth ls 2)) (f_vi (f_nth ls 3)) (f_vi (f_nth ls 4)) (f_vi (f_nth ls 5)) (f_vi (f_nth ls 6)) (f_vi (f_nth ls 7)) M))]) C qX12_workedf (f_kc_cons (f_pl_ok rfl (fun ls st M h => h221 _ _ _ _ _ _ M h)) (f_kc_cons (f_pl_ok rfl (fun ls st M h => h224 _ _ _ _ _ _ M h)) f_kc_nil)) 171 119 h
set_option maxRecDepth 20000 in
theorem BX12_worked_221 {sh : Nat → Nat × Nat} {t : Nat} {rm : Nat × Nat × Nat} {cs : Nat × Nat} {R : f_Rt} {c_X12_fact : Int → Int → Int → e_M → (Int → Prop) → Prop} {c_X12_asked : Int → Int → Int → Int → e_M → (Int → Prop) → Prop} {c_X12_lieAt : Int → Int → Int → Int → Int → e_M → (Int → Prop) → Prop} {c_X12_two : Int → Int → Int → e_M → (Int → Prop) → Prop} {k224 : Int → Int → Int → Int → Int → Int → e_M → Prop} {x2 : Int} {x3 : Int} {x4 : Int} {x5 : Int} {x6 : Int} {x7 : Int} {M : e_M} (C : f_Hy sh t yX12_worked rm cs 10 (lX12_worked c_X12_fact c_X12_asked c_X12_lieAt c_X12_two) R) (h224 : ∀ (x2 : Int) (x3 : Int) (x4 : Int) (x5 : Int) (x6 : Int) (x7 : Int) (M : e_M), k224 x2 x3 x4 x5 x6 x7 M → f_E sh t YX12_worked rm cs (f_Q sh t R) 224 [.inr (.inr (.inl (12, 123, 4456))), .inr (.inr (.inr ())), .inl x2, .inl x3, .inl x4, .inl x5, .inl x6, .inl x7] [] M) (h : VX12_worked_221 c_X12_fact c_X12_asked c_X12_lieAt c_X12_two k224 (fun r M => R (some (.inr (.inl r))) M) x2 x3 x4 x5 x6 x7 M) : f_E sh t YX12_worked rm cs (f_Q sh t R) 221 [.inr (.inr (.inl (12, 123, 4456))), .inr (.inr (.inr ())), .inl x2, .inl x3, .inl x4, .inl x5, .inl x6, .inl x7] [] M :=
  f_go (KC := f_kc [(224, f_pl [(4466, 12, 123), (0, 0, 0), (1, 0, 0), (1, 0, 0), (1, 0, 0), (1, 0, 0), (1, 0, 0), (1, 0, 0)] [] (fun ls st M => k224 (f_vi (f_nth ls 2)) (f_vi (f_nth ls 3)) (f_vi (f_nth ls 4)) (f_vi (f_nth ls 5)) (f_vi (f_nth ls 6)) (f_vi (f_nth ls 7)) M))]) C qX12_workedf (f_kc_cons (f_pl_ok rfl (fun ls st M h => h224 _ _ _ _ _ _ M h)) f_kc_nil) 171 126 h
set_option maxRecDepth 20000 in
theorem BX12_worked_224 {sh : Nat → Nat × Nat} {t : Nat} {rm : Nat × Nat × Nat} {cs : Nat × Nat} {R : f_Rt} {c_X12_fact : Int → Int → Int → e_M → (Int → Prop) → Prop} {c_X12_asked : Int → Int → Int → Int → e_M → (Int → Prop) → Prop} {c_X12_lieAt : Int → Int → Int → Int → Int → e_M → (Int → Prop) → Prop} {c_X12_two : Int → Int → Int → e_M → (Int → Prop) → Prop} {k280 : Int → Int → Int → Int → Int → e_M → Prop} {x2 : Int} {x3 : Int} {x4 : Int} {x5 : Int} {x6 : Int} {x7 : Int} {M : e_M} (C : f_Hy sh t yX12_worked rm cs 10 (lX12_worked c_X12_fact c_X12_asked c_X12_lieAt c_X12_two) R) (h280 : ∀ (x2 : Int) (x3 : Int) (x4 : Int) (x5 : Int) (x6 : Int) (M : e_M), k280 x2 x3 x4 x5 x6 M → f_E sh t YX12_worked rm cs (f_Q sh t R) 280 [.inr (.inr (.inl (12, 123, 4456))), .inr (.inr (.inr ())), .inl x2, .inl x3, .inl x4, .inl x5, .inl x6, .inr (.inr (.inr ()))] [] M) (h : VX12_worked_224 c_X12_fact c_X12_asked c_X12_lieAt c_X12_two k280 (fun r M => R (some (.inr (.inl r))) M) x2 x3 x4 x5 x6 x7 M) : f_E sh t YX12_worked rm cs (f_Q sh t R) 224 [.inr (.inr (.inl (12, 123, 4456))), .inr (.inr (.inr ())), .inl x2, .inl x3, .inl x4, .inl x5, .inl x6, .inl x7] [] M :=
  f_go (KC := f_kc [(280, f_pl [(4466, 12, 123), (0, 0, 0), (1, 0, 0), (1, 0, 0), (1, 0, 0), (1, 0, 0), (1, 0, 0), (0, 0, 0)] [] (fun ls st M => k280 (f_vi (f_nth ls 2)) (f_vi (f_nth ls 3)) (f_vi (f_nth ls 4)) (f_vi (f_nth ls 5)) (f_vi (f_nth ls 6)) M))]) C qX12_workedf (f_kc_cons (f_pl_ok rfl (fun ls st M h => h280 _ _ _ _ _ M h)) f_kc_nil) 171 128 h
set_option maxRecDepth 20000 in
theorem BX12_worked_280 {sh : Nat → Nat × Nat} {t : Nat} {rm : Nat × Nat × Nat} {cs : Nat × Nat} {R : f_Rt} {c_X12_fact : Int → Int → Int → e_M → (Int → Prop) → Prop} {c_X12_asked : Int → Int → Int → Int → e_M → (Int → Prop) → Prop} {c_X12_lieAt : Int → Int → Int → Int → Int → e_M → (Int → Prop) → Prop} {c_X12_two : Int → Int → Int → e_M → (Int → Prop) → Prop} {k6 : Int → Int → Int → Int → Int → e_M → Prop} {x2 : Int} {x3 : Int} {x4 : Int} {x5 : Int} {x6 : Int} {M : e_M} (C : f_Hy sh t yX12_worked rm cs 10 (lX12_worked c_X12_fact c_X12_asked c_X12_lieAt c_X12_two) R) (h6 : ∀ (x2 : Int) (x3 : Int) (x4 : Int) (x5 : Int) (x6 : Int) (M : e_M), k6 x2 x3 x4 x5 x6 M → f_E sh t YX12_worked rm cs (f_Q sh t R) 6 [.inr (.inr (.inl (12, 123, 4456))), .inr (.inr (.inr ())), .inl x2, .inl x3, .inl x4, .inl x5, .inl x6, .inr (.inr (.inr ()))] [] M) (h : VX12_worked_280 c_X12_fact c_X12_asked c_X12_lieAt c_X12_two k6 (fun r M => R (some (.inr (.inl r))) M) x2 x3 x4 x5 x6 M) : f_E sh t YX12_worked rm cs (f_Q sh t R) 280 [.inr (.inr (.inl (12, 123, 4456))), .inr (.inr (.inr ())), .inl x2, .inl x3, .inl x4, .inl x5, .inl x6, .inr (.inr (.inr ()))] [] M :=
  f_go (KC := f_kc [(6, f_pl [(4466, 12, 123), (0, 0, 0), (1, 0, 0), (1, 0, 0), (1, 0, 0), (1, 0, 0), (1, 0, 0), (0, 0, 0)] [] (fun ls st M => k6 (f_vi (f_nth ls 2)) (f_vi (f_nth ls 3)) (f_vi (f_nth ls 4)) (f_vi (f_nth ls 5)) (f_vi (f_nth ls 6)) M))]) C qX12_workedf (f_kc_cons (f_pl_ok rfl (fun ls st M h => h6 _ _ _ _ _ M h)) f_kc_nil) 171 158 h
set_option maxRecDepth 20000 in
theorem BX12_worked {sh : Nat → Nat × Nat} {t : Nat} {rm : Nat × Nat × Nat} {cs : Nat × Nat} {R : f_Rt} {c_X12_fact : Int → Int → Int → e_M → (Int → Prop) → Prop} {c_X12_asked : Int → Int → Int → Int → e_M → (Int → Prop) → Prop} {c_X12_lieAt : Int → Int → Int → Int → Int → e_M → (Int → Prop) → Prop} {c_X12_two : Int → Int → Int → e_M → (Int → Prop) → Prop} {k6 : Int → Int → Int → Int → Int → e_M → Prop} {x1 : Int} {x2 : Int} {x3 : Int} {x4 : Int} {M : e_M} (C : f_Hy sh t yX12_worked rm cs 10 (lX12_worked c_X12_fact c_X12_asked c_X12_lieAt c_X12_two) R) (h6 : ∀ (x2 : Int) (x3 : Int) (x4 : Int) (x5 : Int) (x6 : Int) (M : e_M), k6 x2 x3 x4 x5 x6 M → f_E sh t YX12_worked rm cs (f_Q sh t R) 6 [.inr (.inr (.inl (12, 123, 4456))), .inr (.inr (.inr ())), .inl x2, .inl x3, .inl x4, .inl x5, .inl x6, .inr (.inr (.inr ()))] [] M) (h : VX12_worked c_X12_fact c_X12_asked c_X12_lieAt c_X12_two k6 (fun r M => R (some (.inr (.inl r))) M) x1 x2 x3 x4 M) : f_E sh t YX12_worked rm cs (f_Q sh t R) 0 [.inr (.inr (.inl (12, 123, 4456))), .inl x1, .inl x2, .inl x3, .inl x4, .inr (.inr (.inr ())), .inr (.inr (.inr ())), .inr (.inr (.inr ()))] [] M :=
  f_go (KC := f_kc [(6, f_pl [(4466, 12, 123), (0, 0, 0), (1, 0, 0), (1, 0, 0), (1, 0, 0), (1, 0, 0), (1, 0, 0), (0, 0, 0)] [] (fun ls st M => k6 (f_vi (f_nth ls 2)) (f_vi (f_nth ls 3)) (f_vi (f_nth ls 4)) (f_vi (f_nth ls 5)) (f_vi (f_nth ls 6)) M))]) C qX12_workedf (f_kc_cons (f_pl_ok rfl (fun ls st M h => h6 _ _ _ _ _ M h)) f_kc_nil) 171 0 h
def WX12_worked_280 (H6 : Int → Int → Int → Int → Int → e_M → Prop) (Q : Int → e_M → Prop) (x2 : Int) (x3 : Int) (x4 : Int) (x5 : Int) (x6 : Int) (M : e_M) : Prop :=
  VX12_worked_280 WX12_fact WX12_asked WX12_lieAt WX12_two H6 Q x2 x3 x4 x5 x6 M
def WX12_worked_224 (H6 : Int → Int → Int → Int → Int → e_M → Prop) (Q : Int → e_M → Prop) (x2 : Int) (x3 : Int) (x4 : Int) (x5 : Int) (x6 : Int) (x7 : Int) (M : e_M) : Prop :=
  VX12_worked_224 WX12_fact WX12_asked WX12_lieAt WX12_two (WX12_worked_280 H6 Q) Q x2 x3 x4 x5 x6 x7 M
def WX12_worked_221 (H6 : Int → Int → Int → Int → Int → e_M → Prop) (Q : Int → e_M → Prop) (x2 : Int) (x3 : Int) (x4 : Int) (x5 : Int) (x6 : Int) (x7 : Int) (M : e_M) : Prop :=
  VX12_worked_221 WX12_fact WX12_asked WX12_lieAt WX12_two (WX12_worked_224 H6 Q) Q x2 x3 x4 x5 x6 x7 M
def WX12_worked_208 (H6 : Int → Int → Int → Int → Int → e_M → Prop) (Q : Int → e_M → Prop) (x2 : Int) (x3 : Int) (x4 : Int) (x5 : Int) (x6 : Int) (x7 : Int) (M : e_M) : Prop :=
  VX12_worked_208 WX12_fact WX12_asked WX12_lieAt WX12_two (WX12_worked_221 H6 Q) (WX12_worked_224 H6 Q) Q x2 x3 x4 x5 x6 x7 M
def WX12_worked_115 (H6 : Int → Int → Int → Int → Int → e_M → Prop) (Q : Int → e_M → Prop) (x2 : Int) (x3 : Int) (x4 : Int) (x5 : Int) (x6 : Int) (x7 : Int) (xs2 : Int) (xs1 : Int) (M : e_M) : Prop :=
  VX12_worked_115 WX12_fact WX12_asked WX12_lieAt WX12_two (WX12_worked_208 H6 Q) Q x2 x3 x4 x5 x6 x7 xs2 xs1 M
def WX12_worked_177 (H6 : Int → Int → Int → Int → Int → e_M → Prop) (Q : Int → e_M → Prop) (x2 : Int) (x3 : Int) (x4 : Int) (x5 : Int) (x6 : Int) (x7 : Int) (xs2 : Int) (xs1 : Int) (M : e_M) : Prop :=
  VX12_worked_177 WX12_fact WX12_asked WX12_lieAt WX12_two (WX12_worked_208 H6 Q) Q x2 x3 x4 x5 x6 x7 xs2 xs1 M
def WX12_worked_176 (H6 : Int → Int → Int → Int → Int → e_M → Prop) (Q : Int → e_M → Prop) (x2 : Int) (x3 : Int) (x4 : Int) (x5 : Int) (x6 : Int) (x7 : Int) (xs1 : Int) (M : e_M) : Prop :=
  VX12_worked_176 WX12_fact WX12_asked WX12_lieAt WX12_two (WX12_worked_177 H6 Q) Q x2 x3 x4 x5 x6 x7 xs1 M
def WX12_worked_6 (Q : Int → e_M → Prop) : Nat → Int → Int → Int → Int → Int → e_M → Prop
  | 0, _, _, _, _, _, _ => False
  | n + 1, x2, x3, x4, x5, x6, M =>
    VX12_worked_6 WX12_fact WX12_asked WX12_lieAt WX12_two (WX12_worked_208 (WX12_worked_6 Q n) Q) (WX12_worked_176 (WX12_worked_6 Q n) Q) (WX12_worked_177 (WX12_worked_6 Q n) Q) (WX12_worked_115 (WX12_worked_6 Q n) Q) Q x2 x3 x4 x5 x6 M
def WX12_worked (x1 : Int) (x2 : Int) (x3 : Int) (x4 : Int) (M : e_M) (Q : Int → e_M → Prop) : Prop :=
  VX12_worked WX12_fact WX12_asked WX12_lieAt WX12_two (fun x2 x3 x4 x5 x6 M => ∃ j, WX12_worked_6 Q j x2 x3 x4 x5 x6 M) Q x1 x2 x3 x4 M
theorem PX12_worked_280 {sh : Nat → Nat × Nat} {t : Nat} {rm : Nat × Nat × Nat} {cs : Nat × Nat} {R : f_Rt} {H6 : Int → Int → Int → Int → Int → e_M → Prop} {x2 : Int} {x3 : Int} {x4 : Int} {x5 : Int} {x6 : Int} {M : e_M} (C : f_Hy sh t yX12_worked rm cs 10 (lX12_worked WX12_fact WX12_asked WX12_lieAt WX12_two) R) (g6 : ∀ (x2 : Int) (x3 : Int) (x4 : Int) (x5 : Int) (x6 : Int) (M : e_M), H6 x2 x3 x4 x5 x6 M → f_E sh t YX12_worked rm cs (f_Q sh t R) 6 [.inr (.inr (.inl (12, 123, 4456))), .inr (.inr (.inr ())), .inl x2, .inl x3, .inl x4, .inl x5, .inl x6, .inr (.inr (.inr ()))] [] M) (h : WX12_worked_280 H6 (fun r M => R (some (.inr (.inl r))) M) x2 x3 x4 x5 x6 M) : f_E sh t YX12_worked rm cs (f_Q sh t R) 280 [.inr (.inr (.inl (12, 123, 4456))), .inr (.inr (.inr ())), .inl x2, .inl x3, .inl x4, .inl x5, .inl x6, .inr (.inr (.inr ()))] [] M :=
  BX12_worked_280 C g6 h
theorem PX12_worked_224 {sh : Nat → Nat × Nat} {t : Nat} {rm : Nat × Nat × Nat} {cs : Nat × Nat} {R : f_Rt} {H6 : Int → Int → Int → Int → Int → e_M → Prop} {x2 : Int} {x3 : Int} {x4 : Int} {x5 : Int} {x6 : Int} {x7 : Int} {M : e_M} (C : f_Hy sh t yX12_worked rm cs 10 (lX12_worked WX12_fact WX12_asked WX12_lieAt WX12_two) R) (g6 : ∀ (x2 : Int) (x3 : Int) (x4 : Int) (x5 : Int) (x6 : Int) (M : e_M), H6 x2 x3 x4 x5 x6 M → f_E sh t YX12_worked rm cs (f_Q sh t R) 6 [.inr (.inr (.inl (12, 123, 4456))), .inr (.inr (.inr ())), .inl x2, .inl x3, .inl x4, .inl x5, .inl x6, .inr (.inr (.inr ()))] [] M) (h : WX12_worked_224 H6 (fun r M => R (some (.inr (.inl r))) M) x2 x3 x4 x5 x6 x7 M) : f_E sh t YX12_worked rm cs (f_Q sh t R) 224 [.inr (.inr (.inl (12, 123, 4456))), .inr (.inr (.inr ())), .inl x2, .inl x3, .inl x4, .inl x5, .inl x6, .inl x7] [] M :=
  BX12_worked_224 C (fun x2 x3 x4 x5 x6 M h => PX12_worked_280 C g6 h) h
theorem PX12_worked_221 {sh : Nat → Nat × Nat} {t : Nat} {rm : Nat × Nat × Nat} {cs : Nat × Nat} {R : f_Rt} {H6 : Int → Int → Int → Int → Int → e_M → Prop} {x2 : Int} {x3 : Int} {x4 : Int} {x5 : Int} {x6 : Int} {x7 : Int} {M : e_M} (C : f_Hy sh t yX12_worked rm cs 10 (lX12_worked WX12_fact WX12_asked WX12_lieAt WX12_two) R) (g6 : ∀ (x2 : Int) (x3 : Int) (x4 : Int) (x5 : Int) (x6 : Int) (M : e_M), H6 x2 x3 x4 x5 x6 M → f_E sh t YX12_worked rm cs (f_Q sh t R) 6 [.inr (.inr (.inl (12, 123, 4456))), .inr (.inr (.inr ())), .inl x2, .inl x3, .inl x4, .inl x5, .inl x6, .inr (.inr (.inr ()))] [] M) (h : WX12_worked_221 H6 (fun r M => R (some (.inr (.inl r))) M) x2 x3 x4 x5 x6 x7 M) : f_E sh t YX12_worked rm cs (f_Q sh t R) 221 [.inr (.inr (.inl (12, 123, 4456))), .inr (.inr (.inr ())), .inl x2, .inl x3, .inl x4, .inl x5, .inl x6, .inl x7] [] M :=
  BX12_worked_221 C (fun x2 x3 x4 x5 x6 x7 M h => PX12_worked_224 C g6 h) h
theorem PX12_worked_208 {sh : Nat → Nat × Nat} {t : Nat} {rm : Nat × Nat × Nat} {cs : Nat × Nat} {R : f_Rt} {H6 : Int → Int → Int → Int → Int → e_M → Prop} {x2 : Int} {x3 : Int} {x4 : Int} {x5 : Int} {x6 : Int} {x7 : Int} {M : e_M} (C : f_Hy sh t yX12_worked rm cs 10 (lX12_worked WX12_fact WX12_asked WX12_lieAt WX12_two) R) (g6 : ∀ (x2 : Int) (x3 : Int) (x4 : Int) (x5 : Int) (x6 : Int) (M : e_M), H6 x2 x3 x4 x5 x6 M → f_E sh t YX12_worked rm cs (f_Q sh t R) 6 [.inr (.inr (.inl (12, 123, 4456))), .inr (.inr (.inr ())), .inl x2, .inl x3, .inl x4, .inl x5, .inl x6, .inr (.inr (.inr ()))] [] M) (h : WX12_worked_208 H6 (fun r M => R (some (.inr (.inl r))) M) x2 x3 x4 x5 x6 x7 M) : f_E sh t YX12_worked rm cs (f_Q sh t R) 208 [.inr (.inr (.inl (12, 123, 4456))), .inr (.inr (.inr ())), .inl x2, .inl x3, .inl x4, .inl x5, .inl x6, .inl x7] [] M :=
  BX12_worked_208 C (fun x2 x3 x4 x5 x6 x7 M h => PX12_worked_221 C g6 h) (fun x2 x3 x4 x5 x6 x7 M h => PX12_worked_224 C g6 h) h
theorem PX12_worked_115 {sh : Nat → Nat × Nat} {t : Nat} {rm : Nat × Nat × Nat} {cs : Nat × Nat} {R : f_Rt} {H6 : Int → Int → Int → Int → Int → e_M → Prop} {x2 : Int} {x3 : Int} {x4 : Int} {x5 : Int} {x6 : Int} {x7 : Int} {xs2 : Int} {xs1 : Int} {M : e_M} (C : f_Hy sh t yX12_worked rm cs 10 (lX12_worked WX12_fact WX12_asked WX12_lieAt WX12_two) R) (g6 : ∀ (x2 : Int) (x3 : Int) (x4 : Int) (x5 : Int) (x6 : Int) (M : e_M), H6 x2 x3 x4 x5 x6 M → f_E sh t YX12_worked rm cs (f_Q sh t R) 6 [.inr (.inr (.inl (12, 123, 4456))), .inr (.inr (.inr ())), .inl x2, .inl x3, .inl x4, .inl x5, .inl x6, .inr (.inr (.inr ()))] [] M) (h : WX12_worked_115 H6 (fun r M => R (some (.inr (.inl r))) M) x2 x3 x4 x5 x6 x7 xs2 xs1 M) : f_E sh t YX12_worked rm cs (f_Q sh t R) 115 [.inr (.inr (.inl (12, 123, 4456))), .inr (.inr (.inr ())), .inl x2, .inl x3, .inl x4, .inl x5, .inl x6, .inl x7] [.inr (.inl xs2), .inl xs1, .inr (.inr (.inl (23, 64, 4531)))] M :=
  BX12_worked_115 C (fun x2 x3 x4 x5 x6 x7 M h => PX12_worked_208 C g6 h) h
theorem PX12_worked_177 {sh : Nat → Nat × Nat} {t : Nat} {rm : Nat × Nat × Nat} {cs : Nat × Nat} {R : f_Rt} {H6 : Int → Int → Int → Int → Int → e_M → Prop} {x2 : Int} {x3 : Int} {x4 : Int} {x5 : Int} {x6 : Int} {x7 : Int} {xs2 : Int} {xs1 : Int} {M : e_M} (C : f_Hy sh t yX12_worked rm cs 10 (lX12_worked WX12_fact WX12_asked WX12_lieAt WX12_two) R) (g6 : ∀ (x2 : Int) (x3 : Int) (x4 : Int) (x5 : Int) (x6 : Int) (M : e_M), H6 x2 x3 x4 x5 x6 M → f_E sh t YX12_worked rm cs (f_Q sh t R) 6 [.inr (.inr (.inl (12, 123, 4456))), .inr (.inr (.inr ())), .inl x2, .inl x3, .inl x4, .inl x5, .inl x6, .inr (.inr (.inr ()))] [] M) (h : WX12_worked_177 H6 (fun r M => R (some (.inr (.inl r))) M) x2 x3 x4 x5 x6 x7 xs2 xs1 M) : f_E sh t YX12_worked rm cs (f_Q sh t R) 177 [.inr (.inr (.inl (12, 123, 4456))), .inr (.inr (.inr ())), .inl x2, .inl x3, .inl x4, .inl x5, .inl x6, .inl x7] [.inr (.inl xs2), .inl xs1, .inr (.inr (.inl (23, 64, 4531)))] M :=
  BX12_worked_177 C (fun x2 x3 x4 x5 x6 x7 M h => PX12_worked_208 C g6 h) h
theorem PX12_worked_176 {sh : Nat → Nat × Nat} {t : Nat} {rm : Nat × Nat × Nat} {cs : Nat × Nat} {R : f_Rt} {H6 : Int → Int → Int → Int → Int → e_M → Prop} {x2 : Int} {x3 : Int} {x4 : Int} {x5 : Int} {x6 : Int} {x7 : Int} {xs1 : Int} {M : e_M} (C : f_Hy sh t yX12_worked rm cs 10 (lX12_worked WX12_fact WX12_asked WX12_lieAt WX12_two) R) (g6 : ∀ (x2 : Int) (x3 : Int) (x4 : Int) (x5 : Int) (x6 : Int) (M : e_M), H6 x2 x3 x4 x5 x6 M → f_E sh t YX12_worked rm cs (f_Q sh t R) 6 [.inr (.inr (.inl (12, 123, 4456))), .inr (.inr (.inr ())), .inl x2, .inl x3, .inl x4, .inl x5, .inl x6, .inr (.inr (.inr ()))] [] M) (h : WX12_worked_176 H6 (fun r M => R (some (.inr (.inl r))) M) x2 x3 x4 x5 x6 x7 xs1 M) : f_E sh t YX12_worked rm cs (f_Q sh t R) 176 [.inr (.inr (.inl (12, 123, 4456))), .inr (.inr (.inr ())), .inl x2, .inl x3, .inl x4, .inl x5, .inl x6, .inl x7] [.inl xs1, .inr (.inr (.inl (23, 64, 4531)))] M :=
  BX12_worked_176 C (fun x2 x3 x4 x5 x6 x7 xs2 xs1 M h => PX12_worked_177 C g6 h) h
theorem PX12_worked_6 {sh : Nat → Nat × Nat} {t : Nat} {rm : Nat × Nat × Nat} {cs : Nat × Nat} {R : f_Rt} (C : f_Hy sh t yX12_worked rm cs 10 (lX12_worked WX12_fact WX12_asked WX12_lieAt WX12_two) R) : ∀ (n : Nat) (x2 : Int) (x3 : Int) (x4 : Int) (x5 : Int) (x6 : Int) (M : e_M), WX12_worked_6 (fun r M => R (some (.inr (.inl r))) M) n x2 x3 x4 x5 x6 M → f_E sh t YX12_worked rm cs (f_Q sh t R) 6 [.inr (.inr (.inl (12, 123, 4456))), .inr (.inr (.inr ())), .inl x2, .inl x3, .inl x4, .inl x5, .inl x6, .inr (.inr (.inr ()))] [] M := by
  intro n
  induction n with
  | zero => intro x2 x3 x4 x5 x6 M h; exact h.elim
  | succ n ih => intro x2 x3 x4 x5 x6 M h; exact BX12_worked_6 C (fun x2 x3 x4 x5 x6 x7 M h => PX12_worked_208 C ih h) (fun x2 x3 x4 x5 x6 x7 xs1 M h => PX12_worked_176 C ih h) (fun x2 x3 x4 x5 x6 x7 xs2 xs1 M h => PX12_worked_177 C ih h) (fun x2 x3 x4 x5 x6 x7 xs2 xs1 M h => PX12_worked_115 C ih h) h
theorem PX12_worked {sh : Nat → Nat × Nat} {t : Nat} {rm : Nat × Nat × Nat} {cs : Nat × Nat} {R : f_Rt} {x1 : Int} {x2 : Int} {x3 : Int} {x4 : Int} {M : e_M} (C : f_Hy sh t yX12_worked rm cs 10 (lX12_worked WX12_fact WX12_asked WX12_lieAt WX12_two) R) (h : WX12_worked x1 x2 x3 x4 M (fun r M => R (some (.inr (.inl r))) M)) : f_E sh t YX12_worked rm cs (f_Q sh t R) 0 [.inr (.inr (.inl (12, 123, 4456))), .inl x1, .inl x2, .inl x3, .inl x4, .inr (.inr (.inr ())), .inr (.inr (.inr ())), .inr (.inr (.inr ()))] [] M :=
  BX12_worked C (fun x2 x3 x4 x5 x6 M ⟨j, h⟩ => PX12_worked_6 C j _ _ _ _ _ _ h) h
def wX12_worked : f_Wt := f_wm [(4466, 12, 123), (1, 0, 0), (1, 0, 0), (1, 0, 0), (1, 0, 0)] (fun ar M R => WX12_worked (f_vi (f_nth ar 1)) (f_vi (f_nth ar 2)) (f_vi (f_nth ar 3)) (f_vi (f_nth ar 4)) M (fun r M => R (some (.inr (.inl r))) M))
theorem TX12_worked {sh : Nat → Nat × Nat} {t : Nat} : f_Mt sh t YX12_worked 10 (wX12_worked) :=
  f_Mt_of (k := 3) (Nat.le_of_ble_eq_true rfl) rfl rfl (fun ar M R rm cs h1 h2 h3 hX h => PX12_worked ⟨Nat.le_of_ble_eq_true rfl, h1, h2, h3, ⟨(f_Mt.up (Nat.le_of_ble_eq_true rfl) TX12_fact), (f_Mt.up (Nat.le_of_ble_eq_true rfl) TX12_asked), (f_Mt.up (Nat.le_of_ble_eq_true rfl) TX12_lieAt), (f_Mt.up (Nat.le_of_ble_eq_true rfl) TX12_two), trivial⟩, hX⟩ h)
def VX12_write_21 (Q : e_M → Prop) (M : e_M) : Prop :=
  (∀ M1 : e_M, M1 = e_up M 4456 120 (e_w32 ((M 4456 120) + 1)) → (Q M1))
def VX12_write (k21 : e_M → Prop) (Q : e_M → Prop) (x1 : Int) (M : e_M) : Prop :=
  ((2000 ≤ (M 4456 120) → (k21 M)) ∧ ((M 4456 120) < 2000 → ((0 ≤ (M 4456 120) ∧ (M 4456 120) < 2000) ∧ (∀ M1 : e_M, M1 = e_up M 4532 ((M 4456 120).toNat) (e_w8 (e_w8 x1)) → (k21 M1)))))
def yX12_write (i : Nat) : e_Y := x_get YX12_write [] i
def pX12_writef : List x_I := [(0, 4, 1, 0, 0, 0, []), (1, 25, 12, 120, 0, 0, []), (4, 0, 3, 0, 0, 2000, []), (7, 18, 21, 3, 12, 0, []), (10, 4, 1, 0, 0, 0, []), (11, 25, 12, 119, 4, 0, [(0, 22, 2000), (0, 1, 76)]), (14, 4, 1, 0, 0, 0, []), (15, 25, 12, 120, 0, 0, []), (18, 2, 1, 1, 0, 0, []), (19, 12, 0, 1, 0, 0, []), (20, 29, 0, 0, 0, 0, []), (21, 49, 0, 0, 0, 0, []), (21, 4, 1, 0, 0, 0, []), (22, 20, 0, 0, 0, 0, []), (23, 25, 12, 120, 0, 0, []), (26, 0, 1, 0, 0, 1, []), (27, 9, 0, 0, 0, 0, []), (28, 26, 12, 120, 0, 0, []), (31, 44, 0, 0, 0, 0, [])]
set_option maxRecDepth 20000 in
theorem qX12_writef : f_all yX12_write YX12_write pX12_writef :=
  ⟨f_aload_n (n := 0) (e_dx DX12_write_0 0 rfl) rfl,
  f_getf (e_dx DX12_write_0 1 rfl) fX12_896 rfl (by decide) (by decide) (by decide),
  f_sipush (e_dx DX12_write_0 2 rfl) ⟨by decide, by decide⟩,
  f_icmp_ge (e_dx DX12_write_0 3 rfl) rfl,
  f_aload_n (n := 0) (e_dx DX12_write_0 4 rfl) rfl,
  f_getA (e_dx DX12_write_0 5 rfl) fX12_248 rfl (by decide) (Nat.le_of_ble_eq_true rfl) rfl (by decide),
  f_aload_n (n := 0) (e_dx DX12_write_0 6 rfl) rfl,
  f_getf (e_dx DX12_write_0 7 rfl) fX12_896 rfl (by decide) (by decide) (by decide),
  f_iload_n (n := 1) (e_dx DX12_write_0 8 rfl) rfl,
  f_i2b (e_dx DX12_write_0 9 rfl),
  f_g29 (e_dx DX12_write_0 10 rfl),
  trivial,
  f_aload_n (n := 0) (e_dx DX12_write_0 11 rfl) rfl,
  f_g20 (e_dx DX12_write_0 12 rfl),
  f_getf (e_dx DX12_write_0 13 rfl) fX12_896 rfl (by decide) (by decide) (by decide),
  f_iconst (e_dx DX12_write_0 14 rfl) ⟨by decide, by decide⟩,
  f_iadd (e_dx DX12_write_0 15 rfl),
  f_putn (e_dx DX12_write_0 16 rfl) fX12_896 (fun q hq => by cases hq; rfl) rfl (Or.inl rfl) (by decide),
  ⟨(e_dx DX12_write_0 17 rfl), rfl⟩, trivial⟩
def lX12_write : List (Nat × f_Wt) := []
set_option maxRecDepth 20000 in
theorem BX12_write_21 {sh : Nat → Nat × Nat} {t : Nat} {rm : Nat × Nat × Nat} {cs : Nat × Nat} {R : f_Rt} {M : e_M} (C : f_Hy sh t yX12_write rm cs 4 (lX12_write) R) (h : VX12_write_21 (fun M => R none M) M) : f_E sh t YX12_write rm cs (f_Q sh t R) 21 [.inr (.inr (.inl (12, 123, 4456))), .inr (.inr (.inr ()))] [] M :=
  f_go (KC := f_kc []) C qX12_writef f_kc_nil 21 12 h
set_option maxRecDepth 20000 in
theorem BX12_write {sh : Nat → Nat × Nat} {t : Nat} {rm : Nat × Nat × Nat} {cs : Nat × Nat} {R : f_Rt} {k21 : e_M → Prop} {x1 : Int} {M : e_M} (C : f_Hy sh t yX12_write rm cs 4 (lX12_write) R) (h21 : ∀ (M : e_M), k21 M → f_E sh t YX12_write rm cs (f_Q sh t R) 21 [.inr (.inr (.inl (12, 123, 4456))), .inr (.inr (.inr ()))] [] M) (h : VX12_write k21 (fun M => R none M) x1 M) : f_E sh t YX12_write rm cs (f_Q sh t R) 0 [.inr (.inr (.inl (12, 123, 4456))), .inl x1] [] M :=
  f_go (KC := f_kc [(21, f_pl [(4466, 12, 123), (0, 0, 0)] [] (fun ls st M => k21 M))]) C qX12_writef (f_kc_cons (f_pl_ok rfl (fun ls st M h => h21  M h)) f_kc_nil) 21 0 h
def WX12_write_21 (Q : e_M → Prop) (M : e_M) : Prop :=
  VX12_write_21 Q M
def WX12_write (x1 : Int) (M : e_M) (Q : e_M → Prop) : Prop :=
  VX12_write (WX12_write_21 Q) Q x1 M
theorem PX12_write_21 {sh : Nat → Nat × Nat} {t : Nat} {rm : Nat × Nat × Nat} {cs : Nat × Nat} {R : f_Rt} {M : e_M} (C : f_Hy sh t yX12_write rm cs 4 (lX12_write) R) (h : WX12_write_21 (fun M => R none M) M) : f_E sh t YX12_write rm cs (f_Q sh t R) 21 [.inr (.inr (.inl (12, 123, 4456))), .inr (.inr (.inr ()))] [] M :=
  BX12_write_21 C h
theorem PX12_write {sh : Nat → Nat × Nat} {t : Nat} {rm : Nat × Nat × Nat} {cs : Nat × Nat} {R : f_Rt} {x1 : Int} {M : e_M} (C : f_Hy sh t yX12_write rm cs 4 (lX12_write) R) (h : WX12_write x1 M (fun M => R none M)) : f_E sh t YX12_write rm cs (f_Q sh t R) 0 [.inr (.inr (.inl (12, 123, 4456))), .inl x1] [] M :=
  BX12_write C (fun M h => PX12_write_21 C h) h
def wX12_write : f_Wt := f_wm [(4466, 12, 123), (1, 0, 0)] (fun ar M R => WX12_write (f_vi (f_nth ar 1)) M (fun M => R none M))
theorem TX12_write {sh : Nat → Nat × Nat} {t : Nat} : f_Mt sh t YX12_write 4 (wX12_write) :=
  f_Mt_of (k := 0) (Nat.le_of_ble_eq_true rfl) rfl rfl (fun ar M R rm cs h1 h2 h3 hX h => PX12_write ⟨Nat.le_of_ble_eq_true rfl, h1, h2, h3, trivial, hX⟩ h)
def VX12_writeName_3 (c_X12_write : Int → e_M → (e_M → Prop) → Prop) (k28 : Int → Int → e_M → Prop) (Q : e_M → Prop) (x1 : Int) (x3 : Int) (M : e_M) : Prop :=
  ((x3 < 0 → (Q M)) ∧ (0 ≤ x3 → (((e_w32 (f_andJ (f_shrJ x1 x3) 255)) ≤ 0 → (k28 x1 x3 M)) ∧ (0 < (e_w32 (f_andJ (f_shrJ x1 x3) 255)) → (c_X12_write (e_w32 (f_andJ (f_shrJ x1 x3) 255)) M (fun M1 => (k28 x1 x3 M1)))))))
def VX12_writeName_28 (c_X12_write : Int → e_M → (e_M → Prop) → Prop) (k3 : Int → Int → e_M → Prop) (Q : e_M → Prop) (x1 : Int) (x3 : Int) (M : e_M) : Prop :=
  (k3 x1 (e_w32 (x3 + (-8))) M)
def VX12_writeName (c_X12_write : Int → e_M → (e_M → Prop) → Prop) (k3 : Int → Int → e_M → Prop) (Q : e_M → Prop) (x1 : Int) (M : e_M) : Prop :=
  (k3 x1 56 M)
def yX12_writeName (i : Nat) : e_Y := x_get YX12_writeName [YX12_write] i
def pX12_writeNamef : List x_I := [(0, 0, 2, 0, 0, 56, []), (2, 5, 1, 3, 0, 0, []), (3, 49, 0, 0, 0, 0, []), (3, 2, 1, 3, 0, 0, []), (4, 17, 34, 2, 21, 0, []), (7, 3, 1, 1, 0, 0, []), (8, 2, 1, 3, 0, 0, []), (9, 11, 0, 1, 0, 0, []), (10, 1, 3, 0, 0, 255, []), (13, 10, 0, 5, 0, 0, []), (14, 15, 0, 0, 0, 0, []), (15, 5, 2, 4, 0, 0, []), (17, 2, 2, 4, 0, 0, []), (19, 17, 28, 5, 18, 0, []), (22, 4, 1, 0, 0, 0, []), (23, 2, 2, 4, 0, 0, []), (25, 40, 0, 2, 14, 0, []), (28, 49, 0, 0, 0, 0, []), (28, 8, 0, 3, 0, (-8), []), (31, 19, 3, 0, 3, 0, []), (34, 44, 0, 0, 0, 0, [])]
set_option maxRecDepth 20000 in
theorem qX12_writeNamef : f_all yX12_writeName YX12_writeName pX12_writeNamef :=
  ⟨f_bipush (e_dx DX12_writeName_0 0 rfl) ⟨by decide, by decide⟩,
  f_istore_n (n := 3) (e_dx DX12_writeName_0 1 rfl) rfl (by decide),
  trivial,
  f_iload_n (n := 3) (e_dx DX12_writeName_0 2 rfl) rfl,
  f_if_lt (e_dx DX12_writeName_0 3 rfl) rfl,
  f_lload_n (n := 1) (e_dx DX12_writeName_0 4 rfl) rfl,
  f_iload_n (n := 3) (e_dx DX12_writeName_0 5 rfl) rfl,
  f_lshr (e_dx DX12_writeName_0 6 rfl),
  f_ldc2 (e_dx DX12_writeName_0 7 rfl) hX12_925 rfl ⟨by decide, by decide⟩,
  f_land (e_dx DX12_writeName_0 8 rfl),
  f_g15 (e_dx DX12_writeName_0 9 rfl),
  f_istore (e_dx DX12_writeName_0 10 rfl) (by decide),
  f_iload (e_dx DX12_writeName_0 11 rfl),
  f_if_le (e_dx DX12_writeName_0 12 rfl) rfl,
  f_aload_n (n := 0) (e_dx DX12_writeName_0 13 rfl) rfl,
  f_iload (e_dx DX12_writeName_0 14 rfl),
  x_callV (e_dx DX12_writeName_0 15 rfl) mwX12_write vwX12_write cX12_916 rfl,
  trivial,
  f_g8 (e_dx DX12_writeName_0 16 rfl) ⟨by decide, by decide⟩,
  f_g19 (e_dx DX12_writeName_0 17 rfl) rfl,
  ⟨(e_dx DX12_writeName_0 18 rfl), rfl⟩, trivial⟩
def lX12_writeName (c_X12_write : Int → e_M → (e_M → Prop) → Prop) : List (Nat × f_Wt) := [(0, f_wm [(4466, 12, 123), (1, 0, 0)] (fun ar M R => c_X12_write (f_vi (f_nth ar 1)) M (fun M => R none M)))]
set_option maxRecDepth 20000 in
theorem BX12_writeName_3 {sh : Nat → Nat × Nat} {t : Nat} {rm : Nat × Nat × Nat} {cs : Nat × Nat} {R : f_Rt} {c_X12_write : Int → e_M → (e_M → Prop) → Prop} {k28 : Int → Int → e_M → Prop} {x1 : Int} {x3 : Int} {M : e_M} (C : f_Hy sh t yX12_writeName rm cs 5 (lX12_writeName c_X12_write) R) (h28 : ∀ (x1 : Int) (x3 : Int) (M : e_M), k28 x1 x3 M → f_E sh t YX12_writeName rm cs (f_Q sh t R) 28 [.inr (.inr (.inl (12, 123, 4456))), .inr (.inl x1), .inr (.inr (.inr ())), .inl x3, .inr (.inr (.inr ()))] [] M) (h : VX12_writeName_3 c_X12_write k28 (fun M => R none M) x1 x3 M) : f_E sh t YX12_writeName rm cs (f_Q sh t R) 3 [.inr (.inr (.inl (12, 123, 4456))), .inr (.inl x1), .inr (.inr (.inr ())), .inl x3, .inr (.inr (.inr ()))] [] M :=
  f_go (KC := f_kc [(28, f_pl [(4466, 12, 123), (2, 0, 0), (0, 0, 0), (1, 0, 0), (0, 0, 0)] [] (fun ls st M => k28 (f_vi (f_nth ls 1)) (f_vi (f_nth ls 3)) M))]) C qX12_writeNamef (f_kc_cons (f_pl_ok rfl (fun ls st M h => h28 _ _ M h)) f_kc_nil) 23 3 h
set_option maxRecDepth 20000 in
theorem BX12_writeName_28 {sh : Nat → Nat × Nat} {t : Nat} {rm : Nat × Nat × Nat} {cs : Nat × Nat} {R : f_Rt} {c_X12_write : Int → e_M → (e_M → Prop) → Prop} {k3 : Int → Int → e_M → Prop} {x1 : Int} {x3 : Int} {M : e_M} (C : f_Hy sh t yX12_writeName rm cs 5 (lX12_writeName c_X12_write) R) (h3 : ∀ (x1 : Int) (x3 : Int) (M : e_M), k3 x1 x3 M → f_E sh t YX12_writeName rm cs (f_Q sh t R) 3 [.inr (.inr (.inl (12, 123, 4456))), .inr (.inl x1), .inr (.inr (.inr ())), .inl x3, .inr (.inr (.inr ()))] [] M) (h : VX12_writeName_28 c_X12_write k3 (fun M => R none M) x1 x3 M) : f_E sh t YX12_writeName rm cs (f_Q sh t R) 28 [.inr (.inr (.inl (12, 123, 4456))), .inr (.inl x1), .inr (.inr (.inr ())), .inl x3, .inr (.inr (.inr ()))] [] M :=
  f_go (KC := f_kc [(3, f_pl [(4466, 12, 123), (2, 0, 0), (0, 0, 0), (1, 0, 0), (0, 0, 0)] [] (fun ls st M => k3 (f_vi (f_nth ls 1)) (f_vi (f_nth ls 3)) M))]) C qX12_writeNamef (f_kc_cons (f_pl_ok rfl (fun ls st M h => h3 _ _ M h)) f_kc_nil) 23 18 h
set_option maxRecDepth 20000 in
theorem BX12_writeName {sh : Nat → Nat × Nat} {t : Nat} {rm : Nat × Nat × Nat} {cs : Nat × Nat} {R : f_Rt} {c_X12_write : Int → e_M → (e_M → Prop) → Prop} {k3 : Int → Int → e_M → Prop} {x1 : Int} {M : e_M} (C : f_Hy sh t yX12_writeName rm cs 5 (lX12_writeName c_X12_write) R) (h3 : ∀ (x1 : Int) (x3 : Int) (M : e_M), k3 x1 x3 M → f_E sh t YX12_writeName rm cs (f_Q sh t R) 3 [.inr (.inr (.inl (12, 123, 4456))), .inr (.inl x1), .inr (.inr (.inr ())), .inl x3, .inr (.inr (.inr ()))] [] M) (h : VX12_writeName c_X12_write k3 (fun M => R none M) x1 M) : f_E sh t YX12_writeName rm cs (f_Q sh t R) 0 [.inr (.inr (.inl (12, 123, 4456))), .inr (.inl x1), .inr (.inr (.inr ())), .inr (.inr (.inr ())), .inr (.inr (.inr ()))] [] M :=
  f_go (KC := f_kc [(3, f_pl [(4466, 12, 123), (2, 0, 0), (0, 0, 0), (1, 0, 0), (0, 0, 0)] [] (fun ls st M => k3 (f_vi (f_nth ls 1)) (f_vi (f_nth ls 3)) M))]) C qX12_writeNamef (f_kc_cons (f_pl_ok rfl (fun ls st M h => h3 _ _ M h)) f_kc_nil) 23 0 h
def WX12_writeName_28 (H3 : Int → Int → e_M → Prop) (Q : e_M → Prop) (x1 : Int) (x3 : Int) (M : e_M) : Prop :=
  VX12_writeName_28 WX12_write H3 Q x1 x3 M
def WX12_writeName_3 (Q : e_M → Prop) : Nat → Int → Int → e_M → Prop
  | 0, _, _, _ => False
  | n + 1, x1, x3, M =>
    VX12_writeName_3 WX12_write (WX12_writeName_28 (WX12_writeName_3 Q n) Q) Q x1 x3 M
def WX12_writeName (x1 : Int) (M : e_M) (Q : e_M → Prop) : Prop :=
  VX12_writeName WX12_write (fun x1 x3 M => ∃ j, WX12_writeName_3 Q j x1 x3 M) Q x1 M
theorem PX12_writeName_28 {sh : Nat → Nat × Nat} {t : Nat} {rm : Nat × Nat × Nat} {cs : Nat × Nat} {R : f_Rt} {H3 : Int → Int → e_M → Prop} {x1 : Int} {x3 : Int} {M : e_M} (C : f_Hy sh t yX12_writeName rm cs 5 (lX12_writeName WX12_write) R) (g3 : ∀ (x1 : Int) (x3 : Int) (M : e_M), H3 x1 x3 M → f_E sh t YX12_writeName rm cs (f_Q sh t R) 3 [.inr (.inr (.inl (12, 123, 4456))), .inr (.inl x1), .inr (.inr (.inr ())), .inl x3, .inr (.inr (.inr ()))] [] M) (h : WX12_writeName_28 H3 (fun M => R none M) x1 x3 M) : f_E sh t YX12_writeName rm cs (f_Q sh t R) 28 [.inr (.inr (.inl (12, 123, 4456))), .inr (.inl x1), .inr (.inr (.inr ())), .inl x3, .inr (.inr (.inr ()))] [] M :=
  BX12_writeName_28 C g3 h
theorem PX12_writeName_3 {sh : Nat → Nat × Nat} {t : Nat} {rm : Nat × Nat × Nat} {cs : Nat × Nat} {R : f_Rt} (C : f_Hy sh t yX12_writeName rm cs 5 (lX12_writeName WX12_write) R) : ∀ (n : Nat) (x1 : Int) (x3 : Int) (M : e_M), WX12_writeName_3 (fun M => R none M) n x1 x3 M → f_E sh t YX12_writeName rm cs (f_Q sh t R) 3 [.inr (.inr (.inl (12, 123, 4456))), .inr (.inl x1), .inr (.inr (.inr ())), .inl x3, .inr (.inr (.inr ()))] [] M := by
  intro n
  induction n with
  | zero => intro x1 x3 M h; exact h.elim
  | succ n ih => intro x1 x3 M h; exact BX12_writeName_3 C (fun x1 x3 M h => PX12_writeName_28 C ih h) h
theorem PX12_writeName {sh : Nat → Nat × Nat} {t : Nat} {rm : Nat × Nat × Nat} {cs : Nat × Nat} {R : f_Rt} {x1 : Int} {M : e_M} (C : f_Hy sh t yX12_writeName rm cs 5 (lX12_writeName WX12_write) R) (h : WX12_writeName x1 M (fun M => R none M)) : f_E sh t YX12_writeName rm cs (f_Q sh t R) 0 [.inr (.inr (.inl (12, 123, 4456))), .inr (.inl x1), .inr (.inr (.inr ())), .inr (.inr (.inr ())), .inr (.inr (.inr ()))] [] M :=
  BX12_writeName C (fun x1 x3 M ⟨j, h⟩ => PX12_writeName_3 C j _ _ _ h) h
def wX12_writeName : f_Wt := f_wm [(4466, 12, 123), (2, 0, 0)] (fun ar M R => WX12_writeName (f_vi (f_nth ar 1)) M (fun M => R none M))
theorem TX12_writeName {sh : Nat → Nat × Nat} {t : Nat} : f_Mt sh t YX12_writeName 5 (wX12_writeName) :=
  f_Mt_of (k := 2) (Nat.le_of_ble_eq_true rfl) rfl rfl (fun ar M R rm cs h1 h2 h3 hX h => PX12_writeName ⟨Nat.le_of_ble_eq_true rfl, h1, h2, h3, ⟨(f_Mt.up (Nat.le_of_ble_eq_true rfl) TX12_write), trivial⟩, hX⟩ h)
def VX12_more (c_X12_write : Int → e_M → (e_M → Prop) → Prop) (c_X12_writeName : Int → e_M → (e_M → Prop) → Prop) (Q : e_M → Prop) (x1 : Int) (M : e_M) : Prop :=
  (c_X12_write 32 M (fun M1 => ((0 ≤ x1 ∧ x1 < 560) ∧ (c_X12_writeName (M1 4484 (x1.toNat)) M1 (fun M2 => (Q M2))))))
def yX12_more (i : Nat) : e_Y := x_get YX12_more [YX12_write, YX12_writeName] i
def pX12_moref : List x_I := [(0, 4, 1, 0, 0, 0, []), (1, 0, 2, 0, 0, 32, []), (3, 40, 0, 2, 14, 0, []), (6, 4, 1, 0, 0, 0, []), (7, 4, 1, 0, 0, 0, []), (8, 25, 12, 51, 4, 0, [(0, 23, 560), (0, 1, 28)]), (11, 2, 1, 1, 0, 0, []), (12, 27, 0, 1, 0, 0, []), (13, 40, 1, 2, 14, 0, []), (16, 44, 0, 0, 0, 0, [])]
set_option maxRecDepth 20000 in
theorem qX12_moref : f_all yX12_more YX12_more pX12_moref :=
  ⟨f_aload_n (n := 0) (e_dx DX12_more_0 0 rfl) rfl,
  f_bipush (e_dx DX12_more_0 1 rfl) ⟨by decide, by decide⟩,
  x_callV (e_dx DX12_more_0 2 rfl) mwX12_write vwX12_write cX12_916 rfl,
  f_aload_n (n := 0) (e_dx DX12_more_0 3 rfl) rfl,
  f_aload_n (n := 0) (e_dx DX12_more_0 4 rfl) rfl,
  f_getA (e_dx DX12_more_0 5 rfl) fX12_94 rfl (by decide) (Nat.le_of_ble_eq_true rfl) rfl (by decide),
  f_iload_n (n := 1) (e_dx DX12_more_0 6 rfl) rfl,
  f_laload (e_dx DX12_more_0 7 rfl),
  x_callV (e_dx DX12_more_0 8 rfl) mwX12_writeName vwX12_writeName cX12_912 rfl,
  ⟨(e_dx DX12_more_0 9 rfl), rfl⟩, trivial⟩
def lX12_more (c_X12_write : Int → e_M → (e_M → Prop) → Prop) (c_X12_writeName : Int → e_M → (e_M → Prop) → Prop) : List (Nat × f_Wt) := [(0, f_wm [(4466, 12, 123), (1, 0, 0)] (fun ar M R => c_X12_write (f_vi (f_nth ar 1)) M (fun M => R none M))), (1, f_wm [(4466, 12, 123), (2, 0, 0)] (fun ar M R => c_X12_writeName (f_vi (f_nth ar 1)) M (fun M => R none M)))]
set_option maxRecDepth 20000 in
theorem BX12_more {sh : Nat → Nat × Nat} {t : Nat} {rm : Nat × Nat × Nat} {cs : Nat × Nat} {R : f_Rt} {c_X12_write : Int → e_M → (e_M → Prop) → Prop} {c_X12_writeName : Int → e_M → (e_M → Prop) → Prop} {x1 : Int} {M : e_M} (C : f_Hy sh t yX12_more rm cs 6 (lX12_more c_X12_write c_X12_writeName) R) (h : VX12_more c_X12_write c_X12_writeName (fun M => R none M) x1 M) : f_E sh t YX12_more rm cs (f_Q sh t R) 0 [.inr (.inr (.inl (12, 123, 4456))), .inl x1] [] M :=
  f_go (KC := f_kc []) C qX12_moref f_kc_nil 12 0 h
def WX12_more (x1 : Int) (M : e_M) (Q : e_M → Prop) : Prop :=
  VX12_more WX12_write WX12_writeName Q x1 M
theorem PX12_more {sh : Nat → Nat × Nat} {t : Nat} {rm : Nat × Nat × Nat} {cs : Nat × Nat} {R : f_Rt} {x1 : Int} {M : e_M} (C : f_Hy sh t yX12_more rm cs 6 (lX12_more WX12_write WX12_writeName) R) (h : WX12_more x1 M (fun M => R none M)) : f_E sh t YX12_more rm cs (f_Q sh t R) 0 [.inr (.inr (.inl (12, 123, 4456))), .inl x1] [] M :=
  BX12_more C h
def wX12_more : f_Wt := f_wm [(4466, 12, 123), (1, 0, 0)] (fun ar M R => WX12_more (f_vi (f_nth ar 1)) M (fun M => R none M))
theorem TX12_more {sh : Nat → Nat × Nat} {t : Nat} : f_Mt sh t YX12_more 6 (wX12_more) :=
  f_Mt_of (k := 0) (Nat.le_of_ble_eq_true rfl) rfl rfl (fun ar M R rm cs h1 h2 h3 hX h => PX12_more ⟨Nat.le_of_ble_eq_true rfl, h1, h2, h3, ⟨(f_Mt.up (Nat.le_of_ble_eq_true rfl) TX12_write), (f_Mt.up (Nat.le_of_ble_eq_true rfl) TX12_writeName), trivial⟩, hX⟩ h)
def VX12_wordOf (Q : Int → Prop) (x0 : Int) (M : e_M) : Prop :=
  ((¬ x0 = 0 → ((¬ x0 = 1 → ((¬ x0 = 2 → ((¬ x0 = 3 → ((¬ x0 = 4 → ((¬ x0 = 5 → (Q 33)) ∧ (x0 = 5 → (Q 32)))) ∧ (x0 = 4 → (Q 30)))) ∧ (x0 = 3 → (Q 25)))) ∧ (x0 = 2 → (Q 18)))) ∧ (x0 = 1 → (Q 4)))) ∧ (x0 = 0 → (Q (-1))))
def yX12_wordOf (i : Nat) : e_Y := x_get YX12_wordOf [] i
def pX12_wordOff : List x_I := [(0, 2, 1, 0, 0, 0, []), (1, 17, 8, 1, 5, 0, []), (4, 0, 1, 0, 0, (-1), []), (5, 19, 59, 0, 31, 0, []), (8, 2, 1, 0, 0, 0, []), (9, 0, 1, 0, 0, 1, []), (10, 18, 17, 1, 10, 0, []), (13, 0, 1, 0, 0, 4, []), (14, 19, 59, 0, 31, 0, []), (17, 2, 1, 0, 0, 0, []), (18, 0, 1, 0, 0, 2, []), (19, 18, 27, 1, 15, 0, []), (22, 0, 2, 0, 0, 18, []), (24, 19, 59, 0, 31, 0, []), (27, 2, 1, 0, 0, 0, []), (28, 0, 1, 0, 0, 3, []), (29, 18, 37, 1, 20, 0, []), (32, 0, 2, 0, 0, 25, []), (34, 19, 59, 0, 31, 0, []), (37, 2, 1, 0, 0, 0, []), (38, 0, 1, 0, 0, 4, []), (39, 18, 47, 1, 25, 0, []), (42, 0, 2, 0, 0, 30, []), (44, 19, 59, 0, 31, 0, []), (47, 2, 1, 0, 0, 0, []), (48, 0, 1, 0, 0, 5, []), (49, 18, 57, 1, 30, 0, []), (52, 0, 2, 0, 0, 32, []), (54, 19, 59, 0, 31, 0, []), (57, 0, 2, 0, 0, 33, []), (59, 41, 0, 0, 0, 0, [])]
set_option maxRecDepth 20000 in
theorem qX12_wordOff : f_all yX12_wordOf YX12_wordOf pX12_wordOff :=
  ⟨f_iload_n (n := 0) (e_dx DX12_wordOf_0 0 rfl) rfl,
  f_if_ne (e_dx DX12_wordOf_0 1 rfl) rfl,
  f_iconst (e_dx DX12_wordOf_0 2 rfl) ⟨by decide, by decide⟩,
  f_g19 (e_dx DX12_wordOf_0 3 rfl) rfl,
  f_iload_n (n := 0) (e_dx DX12_wordOf_0 4 rfl) rfl,
  f_iconst (e_dx DX12_wordOf_0 5 rfl) ⟨by decide, by decide⟩,
  f_icmp_ne (e_dx DX12_wordOf_0 6 rfl) rfl,
  f_iconst (e_dx DX12_wordOf_0 7 rfl) ⟨by decide, by decide⟩,
  f_g19 (e_dx DX12_wordOf_0 8 rfl) rfl,
  f_iload_n (n := 0) (e_dx DX12_wordOf_0 9 rfl) rfl,
  f_iconst (e_dx DX12_wordOf_0 10 rfl) ⟨by decide, by decide⟩,
  f_icmp_ne (e_dx DX12_wordOf_0 11 rfl) rfl,
  f_bipush (e_dx DX12_wordOf_0 12 rfl) ⟨by decide, by decide⟩,
  f_g19 (e_dx DX12_wordOf_0 13 rfl) rfl,
  f_iload_n (n := 0) (e_dx DX12_wordOf_0 14 rfl) rfl,
  f_iconst (e_dx DX12_wordOf_0 15 rfl) ⟨by decide, by decide⟩,
  f_icmp_ne (e_dx DX12_wordOf_0 16 rfl) rfl,
  f_bipush (e_dx DX12_wordOf_0 17 rfl) ⟨by decide, by decide⟩,
  f_g19 (e_dx DX12_wordOf_0 18 rfl) rfl,
  f_iload_n (n := 0) (e_dx DX12_wordOf_0 19 rfl) rfl,
  f_iconst (e_dx DX12_wordOf_0 20 rfl) ⟨by decide, by decide⟩,
  f_icmp_ne (e_dx DX12_wordOf_0 21 rfl) rfl,
  f_bipush (e_dx DX12_wordOf_0 22 rfl) ⟨by decide, by decide⟩,
  f_g19 (e_dx DX12_wordOf_0 23 rfl) rfl,
  f_iload_n (n := 0) (e_dx DX12_wordOf_0 24 rfl) rfl,
  f_iconst (e_dx DX12_wordOf_0 25 rfl) ⟨by decide, by decide⟩,
  f_icmp_ne (e_dx DX12_wordOf_0 26 rfl) rfl,
  f_bipush (e_dx DX12_wordOf_0 27 rfl) ⟨by decide, by decide⟩,
  f_g19 (e_dx DX12_wordOf_0 28 rfl) rfl,
  f_bipush (e_dx DX12_wordOf_0 29 rfl) ⟨by decide, by decide⟩,
  ⟨(e_dx DX12_wordOf_0 30 rfl), rfl⟩, trivial⟩
def lX12_wordOf : List (Nat × f_Wt) := []
set_option maxRecDepth 20000 in
theorem BX12_wordOf {sh : Nat → Nat × Nat} {t : Nat} {rm : Nat × Nat × Nat} {cs : Nat × Nat} {R : f_Rt} {x0 : Int} {M : e_M} (C : f_Hy sh t yX12_wordOf rm cs 4 (lX12_wordOf) R) (h : VX12_wordOf (fun r => R (some (.inl r)) M) x0 M) : f_E sh t YX12_wordOf rm cs (f_Q sh t R) 0 [.inl x0] [] M :=
  f_go (KC := f_kc []) C qX12_wordOff f_kc_nil 33 0 h
def WX12_wordOf (x0 : Int) (M : e_M) (Q : Int → Prop) : Prop :=
  VX12_wordOf Q x0 M
theorem PX12_wordOf {sh : Nat → Nat × Nat} {t : Nat} {rm : Nat × Nat × Nat} {cs : Nat × Nat} {R : f_Rt} {x0 : Int} {M : e_M} (C : f_Hy sh t yX12_wordOf rm cs 4 (lX12_wordOf) R) (h : WX12_wordOf x0 M (fun r => R (some (.inl r)) M)) : f_E sh t YX12_wordOf rm cs (f_Q sh t R) 0 [.inl x0] [] M :=
  BX12_wordOf C h
def wX12_wordOf : f_Wt := f_wm [(1, 0, 0)] (fun ar M R => WX12_wordOf (f_vi (f_nth ar 0)) M (fun r => R (some (.inl r)) M))
theorem TX12_wordOf {sh : Nat → Nat × Nat} {t : Nat} : f_Mt sh t YX12_wordOf 4 (wX12_wordOf) :=
  f_Mt_of (k := 0) (Nat.le_of_ble_eq_true rfl) rfl rfl (fun ar M R rm cs h1 h2 h3 hX h => PX12_wordOf ⟨Nat.le_of_ble_eq_true rfl, h1, h2, h3, trivial, hX⟩ h)
def VX12_writeWord (c_X12_writeName : Int → e_M → (e_M → Prop) → Prop) (Q : e_M → Prop) (x1 : Int) (M : e_M) : Prop :=
  ((0 ≤ x1 ∧ x1 < 71) ∧ (c_X12_writeName (M 4459 (x1.toNat)) M (fun M1 => (Q M1))))
def yX12_writeWord (i : Nat) : e_Y := x_get YX12_writeWord [YX12_writeName] i
def pX12_writeWordf : List x_I := [(0, 4, 1, 0, 0, 0, []), (1, 4, 1, 0, 0, 0, []), (2, 25, 12, 2, 4, 0, [(0, 23, 71), (0, 1, 3)]), (5, 2, 1, 1, 0, 0, []), (6, 27, 0, 1, 0, 0, []), (7, 40, 0, 2, 14, 0, []), (10, 44, 0, 0, 0, 0, [])]
set_option maxRecDepth 20000 in
theorem qX12_writeWordf : f_all yX12_writeWord YX12_writeWord pX12_writeWordf :=
  ⟨f_aload_n (n := 0) (e_dx DX12_writeWord_0 0 rfl) rfl,
  f_aload_n (n := 0) (e_dx DX12_writeWord_0 1 rfl) rfl,
  f_getA (e_dx DX12_writeWord_0 2 rfl) fX12_16 rfl (by decide) (Nat.le_of_ble_eq_true rfl) rfl (by decide),
  f_iload_n (n := 1) (e_dx DX12_writeWord_0 3 rfl) rfl,
  f_laload (e_dx DX12_writeWord_0 4 rfl),
  x_callV (e_dx DX12_writeWord_0 5 rfl) mwX12_writeName vwX12_writeName cX12_912 rfl,
  ⟨(e_dx DX12_writeWord_0 6 rfl), rfl⟩, trivial⟩
def lX12_writeWord (c_X12_writeName : Int → e_M → (e_M → Prop) → Prop) : List (Nat × f_Wt) := [(0, f_wm [(4466, 12, 123), (2, 0, 0)] (fun ar M R => c_X12_writeName (f_vi (f_nth ar 1)) M (fun M => R none M)))]
set_option maxRecDepth 20000 in
theorem BX12_writeWord {sh : Nat → Nat × Nat} {t : Nat} {rm : Nat × Nat × Nat} {cs : Nat × Nat} {R : f_Rt} {c_X12_writeName : Int → e_M → (e_M → Prop) → Prop} {x1 : Int} {M : e_M} (C : f_Hy sh t yX12_writeWord rm cs 6 (lX12_writeWord c_X12_writeName) R) (h : VX12_writeWord c_X12_writeName (fun M => R none M) x1 M) : f_E sh t YX12_writeWord rm cs (f_Q sh t R) 0 [.inr (.inr (.inl (12, 123, 4456))), .inl x1] [] M :=
  f_go (KC := f_kc []) C qX12_writeWordf f_kc_nil 9 0 h
def WX12_writeWord (x1 : Int) (M : e_M) (Q : e_M → Prop) : Prop :=
  VX12_writeWord WX12_writeName Q x1 M
theorem PX12_writeWord {sh : Nat → Nat × Nat} {t : Nat} {rm : Nat × Nat × Nat} {cs : Nat × Nat} {R : f_Rt} {x1 : Int} {M : e_M} (C : f_Hy sh t yX12_writeWord rm cs 6 (lX12_writeWord WX12_writeName) R) (h : WX12_writeWord x1 M (fun M => R none M)) : f_E sh t YX12_writeWord rm cs (f_Q sh t R) 0 [.inr (.inr (.inl (12, 123, 4456))), .inl x1] [] M :=
  BX12_writeWord C h
def wX12_writeWord : f_Wt := f_wm [(4466, 12, 123), (1, 0, 0)] (fun ar M R => WX12_writeWord (f_vi (f_nth ar 1)) M (fun M => R none M))
theorem TX12_writeWord {sh : Nat → Nat × Nat} {t : Nat} : f_Mt sh t YX12_writeWord 6 (wX12_writeWord) :=
  f_Mt_of (k := 0) (Nat.le_of_ble_eq_true rfl) rfl rfl (fun ar M R rm cs h1 h2 h3 hX h => PX12_writeWord ⟨Nat.le_of_ble_eq_true rfl, h1, h2, h3, ⟨(f_Mt.up (Nat.le_of_ble_eq_true rfl) TX12_writeName), trivial⟩, hX⟩ h)
def VX12_begin (c_X12_writeWord : Int → e_M → (e_M → Prop) → Prop) (c_X12_write : Int → e_M → (e_M → Prop) → Prop) (c_X12_writeName : Int → e_M → (e_M → Prop) → Prop) (Q : e_M → Prop) (x1 : Int) (x2 : Int) (M : e_M) : Prop :=
  (c_X12_writeWord x1 M (fun M1 => (c_X12_write 32 M1 (fun M2 => ((0 ≤ x2 ∧ x2 < 560) ∧ (c_X12_writeName (M2 4484 (x2.toNat)) M2 (fun M3 => (Q M3))))))))
def yX12_begin (i : Nat) : e_Y := x_get YX12_begin [YX12_writeWord, YX12_write, YX12_writeName] i
def pX12_beginf : List x_I := [(0, 4, 1, 0, 0, 0, []), (1, 2, 1, 1, 0, 0, []), (2, 40, 0, 2, 14, 0, []), (5, 4, 1, 0, 0, 0, []), (6, 0, 2, 0, 0, 32, []), (8, 40, 1, 2, 14, 0, []), (11, 4, 1, 0, 0, 0, []), (12, 4, 1, 0, 0, 0, []), (13, 25, 12, 51, 4, 0, [(0, 23, 560), (0, 1, 28)]), (16, 2, 1, 2, 0, 0, []), (17, 27, 0, 1, 0, 0, []), (18, 40, 2, 2, 14, 0, []), (21, 44, 0, 0, 0, 0, [])]
set_option maxRecDepth 20000 in
theorem qX12_beginf : f_all yX12_begin YX12_begin pX12_beginf :=
  ⟨f_aload_n (n := 0) (e_dx DX12_begin_0 0 rfl) rfl,
  f_iload_n (n := 1) (e_dx DX12_begin_0 1 rfl) rfl,
  x_callV (e_dx DX12_begin_0 2 rfl) mwX12_writeWord vwX12_writeWord cX12_932 rfl,
  f_aload_n (n := 0) (e_dx DX12_begin_0 3 rfl) rfl,
  f_bipush (e_dx DX12_begin_0 4 rfl) ⟨by decide, by decide⟩,
  x_callV (e_dx DX12_begin_0 5 rfl) mwX12_write vwX12_write cX12_916 rfl,
  f_aload_n (n := 0) (e_dx DX12_begin_0 6 rfl) rfl,
  f_aload_n (n := 0) (e_dx DX12_begin_0 7 rfl) rfl,
  f_getA (e_dx DX12_begin_0 8 rfl) fX12_94 rfl (by decide) (Nat.le_of_ble_eq_true rfl) rfl (by decide),
  f_iload_n (n := 2) (e_dx DX12_begin_0 9 rfl) rfl,
  f_laload (e_dx DX12_begin_0 10 rfl),
  x_callV (e_dx DX12_begin_0 11 rfl) mwX12_writeName vwX12_writeName cX12_912 rfl,
  ⟨(e_dx DX12_begin_0 12 rfl), rfl⟩, trivial⟩
def lX12_begin (c_X12_writeWord : Int → e_M → (e_M → Prop) → Prop) (c_X12_write : Int → e_M → (e_M → Prop) → Prop) (c_X12_writeName : Int → e_M → (e_M → Prop) → Prop) : List (Nat × f_Wt) := [(0, f_wm [(4466, 12, 123), (1, 0, 0)] (fun ar M R => c_X12_writeWord (f_vi (f_nth ar 1)) M (fun M => R none M))), (1, f_wm [(4466, 12, 123), (1, 0, 0)] (fun ar M R => c_X12_write (f_vi (f_nth ar 1)) M (fun M => R none M))), (2, f_wm [(4466, 12, 123), (2, 0, 0)] (fun ar M R => c_X12_writeName (f_vi (f_nth ar 1)) M (fun M => R none M)))]
set_option maxRecDepth 20000 in
theorem BX12_begin {sh : Nat → Nat × Nat} {t : Nat} {rm : Nat × Nat × Nat} {cs : Nat × Nat} {R : f_Rt} {c_X12_writeWord : Int → e_M → (e_M → Prop) → Prop} {c_X12_write : Int → e_M → (e_M → Prop) → Prop} {c_X12_writeName : Int → e_M → (e_M → Prop) → Prop} {x1 : Int} {x2 : Int} {M : e_M} (C : f_Hy sh t yX12_begin rm cs 7 (lX12_begin c_X12_writeWord c_X12_write c_X12_writeName) R) (h : VX12_begin c_X12_writeWord c_X12_write c_X12_writeName (fun M => R none M) x1 x2 M) : f_E sh t YX12_begin rm cs (f_Q sh t R) 0 [.inr (.inr (.inl (12, 123, 4456))), .inl x1, .inl x2] [] M :=
  f_go (KC := f_kc []) C qX12_beginf f_kc_nil 15 0 h
def WX12_begin (x1 : Int) (x2 : Int) (M : e_M) (Q : e_M → Prop) : Prop :=
  VX12_begin WX12_writeWord WX12_write WX12_writeName Q x1 x2 M
theorem PX12_begin {sh : Nat → Nat × Nat} {t : Nat} {rm : Nat × Nat × Nat} {cs : Nat × Nat} {R : f_Rt} {x1 : Int} {x2 : Int} {M : e_M} (C : f_Hy sh t yX12_begin rm cs 7 (lX12_begin WX12_writeWord WX12_write WX12_writeName) R) (h : WX12_begin x1 x2 M (fun M => R none M)) : f_E sh t YX12_begin rm cs (f_Q sh t R) 0 [.inr (.inr (.inl (12, 123, 4456))), .inl x1, .inl x2] [] M :=
  BX12_begin C h
def wX12_begin : f_Wt := f_wm [(4466, 12, 123), (1, 0, 0), (1, 0, 0)] (fun ar M R => WX12_begin (f_vi (f_nth ar 1)) (f_vi (f_nth ar 2)) M (fun M => R none M))
theorem TX12_begin {sh : Nat → Nat × Nat} {t : Nat} : f_Mt sh t YX12_begin 7 (wX12_begin) :=
  f_Mt_of (k := 0) (Nat.le_of_ble_eq_true rfl) rfl rfl (fun ar M R rm cs h1 h2 h3 hX h => PX12_begin ⟨Nat.le_of_ble_eq_true rfl, h1, h2, h3, ⟨(f_Mt.up (Nat.le_of_ble_eq_true rfl) TX12_writeWord), (f_Mt.up (Nat.le_of_ble_eq_true rfl) TX12_write), (f_Mt.up (Nat.le_of_ble_eq_true rfl) TX12_writeName), trivial⟩, hX⟩ h)
def VX12_lineOf_50 (c_X12_write : Int → e_M → (e_M → Prop) → Prop) (c_X12_more : Int → e_M → (e_M → Prop) → Prop) (c_X12_wordOf : Int → e_M → (Int → Prop) → Prop) (c_X12_begin : Int → Int → e_M → (e_M → Prop) → Prop) (k54 : Int → Int → e_M → Prop) (Q : e_M → Prop) (x1 : Int) (x2 : Int) (M : e_M) : Prop :=
  (c_X12_wordOf x1 M (fun r1 => (k54 x2 r1 M)))
def VX12_lineOf_54 (c_X12_write : Int → e_M → (e_M → Prop) → Prop) (c_X12_more : Int → e_M → (e_M → Prop) → Prop) (c_X12_wordOf : Int → e_M → (Int → Prop) → Prop) (c_X12_begin : Int → Int → e_M → (e_M → Prop) → Prop) (Q : e_M → Prop) (x2 : Int) (xs1 : Int) (M : e_M) : Prop :=
  (c_X12_begin xs1 x2 M (fun M1 => (Q M1)))
def VX12_lineOf (c_X12_write : Int → e_M → (e_M → Prop) → Prop) (c_X12_more : Int → e_M → (e_M → Prop) → Prop) (c_X12_wordOf : Int → e_M → (Int → Prop) → Prop) (c_X12_begin : Int → Int → e_M → (e_M → Prop) → Prop) (k50 : Int → Int → e_M → Prop) (k54 : Int → Int → e_M → Prop) (Q : e_M → Prop) (x1 : Int) (x2 : Int) (M : e_M) : Prop :=
  ((¬ x1 = 0 → ((¬ x1 = 1 → (k50 x1 x2 M)) ∧ (x1 = 1 → ((0 ≤ x2 ∧ x2 < 560) ∧ (((M 4491 (x2.toNat)) ≤ 0 → (k50 x1 x2 M)) ∧ (0 < (M 4491 (x2.toNat)) → (k54 x2 6 M))))))) ∧ (x1 = 0 → (c_X12_write 108 M (fun M1 => (c_X12_write 111 M1 (fun M2 => (c_X12_write 116 M2 (fun M3 => (c_X12_more x2 M3 (fun M4 => (Q M4)))))))))))
def yX12_lineOf (i : Nat) : e_Y := x_get YX12_lineOf [YX12_write, YX12_more, YX12_wordOf, YX12_begin] i
def pX12_lineOff : List x_I := [(0, 2, 1, 1, 0, 0, []), (1, 17, 30, 1, 16, 0, []), (4, 4, 1, 0, 0, 0, []), (5, 0, 2, 0, 0, 108, []), (7, 40, 0, 2, 14, 0, []), (10, 4, 1, 0, 0, 0, []), (11, 0, 2, 0, 0, 111, []), (13, 40, 0, 2, 14, 0, []), (16, 4, 1, 0, 0, 0, []), (17, 0, 2, 0, 0, 116, []), (19, 40, 0, 2, 14, 0, []), (22, 4, 1, 0, 0, 0, []), (23, 2, 1, 2, 0, 0, []), (24, 40, 1, 2, 14, 0, []), (27, 19, 58, 0, 33, 0, []), (30, 4, 1, 0, 0, 0, []), (31, 2, 1, 1, 0, 0, []), (32, 0, 1, 0, 0, 1, []), (33, 18, 50, 1, 27, 0, []), (36, 4, 1, 0, 0, 0, []), (37, 25, 12, 58, 4, 0, [(0, 20, 560), (0, 1, 35)]), (40, 2, 1, 2, 0, 0, []), (41, 27, 0, 0, 0, 0, []), (42, 17, 50, 5, 27, 0, []), (45, 0, 2, 0, 0, 6, []), (47, 19, 54, 0, 30, 0, []), (50, 49, 0, 0, 0, 0, []), (50, 2, 1, 1, 0, 0, []), (51, 40, 2, 1, 0, 0, []), (54, 49, 0, 0, 0, 0, []), (54, 2, 1, 2, 0, 0, []), (55, 40, 3, 3, 14, 0, []), (58, 44, 0, 0, 0, 0, [])]
set_option maxRecDepth 20000 in
theorem qX12_lineOff : f_all yX12_lineOf YX12_lineOf pX12_lineOff :=
  ⟨f_iload_n (n := 1) (e_dx DX12_lineOf_0 0 rfl) rfl,
  f_if_ne (e_dx DX12_lineOf_0 1 rfl) rfl,
  f_aload_n (n := 0) (e_dx DX12_lineOf_0 2 rfl) rfl,
  f_bipush (e_dx DX12_lineOf_0 3 rfl) ⟨by decide, by decide⟩,
  x_callV (e_dx DX12_lineOf_0 4 rfl) mwX12_write vwX12_write cX12_916 rfl,
  f_aload_n (n := 0) (e_dx DX12_lineOf_0 5 rfl) rfl,
  f_bipush (e_dx DX12_lineOf_0 6 rfl) ⟨by decide, by decide⟩,
  x_callV (e_dx DX12_lineOf_0 7 rfl) mwX12_write vwX12_write cX12_916 rfl,
  f_aload_n (n := 0) (e_dx DX12_lineOf_0 8 rfl) rfl,
  f_bipush (e_dx DX12_lineOf_0 9 rfl) ⟨by decide, by decide⟩,
  x_callV (e_dx DX12_lineOf_0 10 rfl) mwX12_write vwX12_write cX12_916 rfl,
  f_aload_n (n := 0) (e_dx DX12_lineOf_0 11 rfl) rfl,
  f_iload_n (n := 2) (e_dx DX12_lineOf_0 12 rfl) rfl,
  x_callV (e_dx DX12_lineOf_0 13 rfl) mwX12_more vwX12_more cX12_941 rfl,
  f_g19 (e_dx DX12_lineOf_0 14 rfl) rfl,
  f_aload_n (n := 0) (e_dx DX12_lineOf_0 15 rfl) rfl,
  f_iload_n (n := 1) (e_dx DX12_lineOf_0 16 rfl) rfl,
  f_iconst (e_dx DX12_lineOf_0 17 rfl) ⟨by decide, by decide⟩,
  f_icmp_ne (e_dx DX12_lineOf_0 18 rfl) rfl,
  f_aload_n (n := 0) (e_dx DX12_lineOf_0 19 rfl) rfl,
  f_getA (e_dx DX12_lineOf_0 20 rfl) fX12_115 rfl (by decide) (Nat.le_of_ble_eq_true rfl) rfl (by decide),
  f_iload_n (n := 2) (e_dx DX12_lineOf_0 21 rfl) rfl,
  f_iaload (e_dx DX12_lineOf_0 22 rfl),
  f_if_le (e_dx DX12_lineOf_0 23 rfl) rfl,
  f_bipush (e_dx DX12_lineOf_0 24 rfl) ⟨by decide, by decide⟩,
  f_g19 (e_dx DX12_lineOf_0 25 rfl) rfl,
  trivial,
  f_iload_n (n := 1) (e_dx DX12_lineOf_0 26 rfl) rfl,
  x_callS (e_dx DX12_lineOf_0 27 rfl) mwX12_wordOf cX12_944 swX12_wordOf rfl,
  trivial,
  f_iload_n (n := 2) (e_dx DX12_lineOf_0 28 rfl) rfl,
  x_callV (e_dx DX12_lineOf_0 29 rfl) mwX12_begin vwX12_begin cX12_947 rfl,
  ⟨(e_dx DX12_lineOf_0 30 rfl), rfl⟩, trivial⟩
def lX12_lineOf (c_X12_write : Int → e_M → (e_M → Prop) → Prop) (c_X12_more : Int → e_M → (e_M → Prop) → Prop) (c_X12_wordOf : Int → e_M → (Int → Prop) → Prop) (c_X12_begin : Int → Int → e_M → (e_M → Prop) → Prop) : List (Nat × f_Wt) := [(0, f_wm [(4466, 12, 123), (1, 0, 0)] (fun ar M R => c_X12_write (f_vi (f_nth ar 1)) M (fun M => R none M))), (1, f_wm [(4466, 12, 123), (1, 0, 0)] (fun ar M R => c_X12_more (f_vi (f_nth ar 1)) M (fun M => R none M))), (2, f_wm [(1, 0, 0)] (fun ar M R => c_X12_wordOf (f_vi (f_nth ar 0)) M (fun r => R (some (.inl r)) M))), (3, f_wm [(4466, 12, 123), (1, 0, 0), (1, 0, 0)] (fun ar M R => c_X12_begin (f_vi (f_nth ar 1)) (f_vi (f_nth ar 2)) M (fun M => R none M)))]
set_option maxRecDepth 20000 in
theorem BX12_lineOf_50 {sh : Nat → Nat × Nat} {t : Nat} {rm : Nat × Nat × Nat} {cs : Nat × Nat} {R : f_Rt} {c_X12_write : Int → e_M → (e_M → Prop) → Prop} {c_X12_more : Int → e_M → (e_M → Prop) → Prop} {c_X12_wordOf : Int → e_M → (Int → Prop) → Prop} {c_X12_begin : Int → Int → e_M → (e_M → Prop) → Prop} {k54 : Int → Int → e_M → Prop} {x1 : Int} {x2 : Int} {M : e_M} (C : f_Hy sh t yX12_lineOf rm cs 8 (lX12_lineOf c_X12_write c_X12_more c_X12_wordOf c_X12_begin) R) (h54 : ∀ (x2 : Int) (xs1 : Int) (M : e_M), k54 x2 xs1 M → f_E sh t YX12_lineOf rm cs (f_Q sh t R) 54 [.inr (.inr (.inr ())), .inr (.inr (.inr ())), .inl x2] [.inl xs1, .inr (.inr (.inl (12, 123, 4456)))] M) (h : VX12_lineOf_50 c_X12_write c_X12_more c_X12_wordOf c_X12_begin k54 (fun M => R none M) x1 x2 M) : f_E sh t YX12_lineOf rm cs (f_Q sh t R) 50 [.inr (.inr (.inr ())), .inl x1, .inl x2] [.inr (.inr (.inl (12, 123, 4456)))] M :=
  f_go (KC := f_kc [(54, f_pl [(0, 0, 0), (0, 0, 0), (1, 0, 0)] [(1, 0, 0), (4466, 12, 123)] (fun ls st M => k54 (f_vi (f_nth ls 2)) (f_vi (f_nth st 0)) M))]) C qX12_lineOff (f_kc_cons (f_pl_ok rfl (fun ls st M h => h54 _ _ M h)) f_kc_nil) 35 27 h
set_option maxRecDepth 20000 in
theorem BX12_lineOf_54 {sh : Nat → Nat × Nat} {t : Nat} {rm : Nat × Nat × Nat} {cs : Nat × Nat} {R : f_Rt} {c_X12_write : Int → e_M → (e_M → Prop) → Prop} {c_X12_more : Int → e_M → (e_M → Prop) → Prop} {c_X12_wordOf : Int → e_M → (Int → Prop) → Prop} {c_X12_begin : Int → Int → e_M → (e_M → Prop) → Prop} {x2 : Int} {xs1 : Int} {M : e_M} (C : f_Hy sh t yX12_lineOf rm cs 8 (lX12_lineOf c_X12_write c_X12_more c_X12_wordOf c_X12_begin) R) (h : VX12_lineOf_54 c_X12_write c_X12_more c_X12_wordOf c_X12_begin (fun M => R none M) x2 xs1 M) : f_E sh t YX12_lineOf rm cs (f_Q sh t R) 54 [.inr (.inr (.inr ())), .inr (.inr (.inr ())), .inl x2] [.inl xs1, .inr (.inr (.inl (12, 123, 4456)))] M :=
  f_go (KC := f_kc []) C qX12_lineOff f_kc_nil 35 30 h
set_option maxRecDepth 20000 in
theorem BX12_lineOf {sh : Nat → Nat × Nat} {t : Nat} {rm : Nat × Nat × Nat} {cs : Nat × Nat} {R : f_Rt} {c_X12_write : Int → e_M → (e_M → Prop) → Prop} {c_X12_more : Int → e_M → (e_M → Prop) → Prop} {c_X12_wordOf : Int → e_M → (Int → Prop) → Prop} {c_X12_begin : Int → Int → e_M → (e_M → Prop) → Prop} {k50 : Int → Int → e_M → Prop} {k54 : Int → Int → e_M → Prop} {x1 : Int} {x2 : Int} {M : e_M} (C : f_Hy sh t yX12_lineOf rm cs 8 (lX12_lineOf c_X12_write c_X12_more c_X12_wordOf c_X12_begin) R) (h50 : ∀ (x1 : Int) (x2 : Int) (M : e_M), k50 x1 x2 M → f_E sh t YX12_lineOf rm cs (f_Q sh t R) 50 [.inr (.inr (.inr ())), .inl x1, .inl x2] [.inr (.inr (.inl (12, 123, 4456)))] M) (h54 : ∀ (x2 : Int) (xs1 : Int) (M : e_M), k54 x2 xs1 M → f_E sh t YX12_lineOf rm cs (f_Q sh t R) 54 [.inr (.inr (.inr ())), .inr (.inr (.inr ())), .inl x2] [.inl xs1, .inr (.inr (.inl (12, 123, 4456)))] M) (h : VX12_lineOf c_X12_write c_X12_more c_X12_wordOf c_X12_begin k50 k54 (fun M => R none M) x1 x2 M) : f_E sh t YX12_lineOf rm cs (f_Q sh t R) 0 [.inr (.inr (.inl (12, 123, 4456))), .inl x1, .inl x2] [] M :=
  f_go (KC := f_kc [(50, f_pl [(0, 0, 0), (1, 0, 0), (1, 0, 0)] [(4466, 12, 123)] (fun ls st M => k50 (f_vi (f_nth ls 1)) (f_vi (f_nth ls 2)) M)), (54, f_pl [(0, 0, 0), (0, 0, 0), (1, 0, 0)] [(1, 0, 0), (4466, 12, 123)] (fun ls st M => k54 (f_vi (f_nth ls 2)) (f_vi (f_nth st 0)) M))]) C qX12_lineOff (f_kc_cons (f_pl_ok rfl (fun ls st M h => h50 _ _ M h)) (f_kc_cons (f_pl_ok rfl (fun ls st M h => h54 _ _ M h)) f_kc_nil)) 35 0 h
def WX12_lineOf_54 (Q : e_M → Prop) (x2 : Int) (xs1 : Int) (M : e_M) : Prop :=
  VX12_lineOf_54 WX12_write WX12_more WX12_wordOf WX12_begin Q x2 xs1 M
def WX12_lineOf_50 (Q : e_M → Prop) (x1 : Int) (x2 : Int) (M : e_M) : Prop :=
  VX12_lineOf_50 WX12_write WX12_more WX12_wordOf WX12_begin (WX12_lineOf_54 Q) Q x1 x2 M
def WX12_lineOf (x1 : Int) (x2 : Int) (M : e_M) (Q : e_M → Prop) : Prop :=
  VX12_lineOf WX12_write WX12_more WX12_wordOf WX12_begin (WX12_lineOf_50 Q) (WX12_lineOf_54 Q) Q x1 x2 M
theorem PX12_lineOf_54 {sh : Nat → Nat × Nat} {t : Nat} {rm : Nat × Nat × Nat} {cs : Nat × Nat} {R : f_Rt} {x2 : Int} {xs1 : Int} {M : e_M} (C : f_Hy sh t yX12_lineOf rm cs 8 (lX12_lineOf WX12_write WX12_more WX12_wordOf WX12_begin) R) (h : WX12_lineOf_54 (fun M => R none M) x2 xs1 M) : f_E sh t YX12_lineOf rm cs (f_Q sh t R) 54 [.inr (.inr (.inr ())), .inr (.inr (.inr ())), .inl x2] [.inl xs1, .inr (.inr (.inl (12, 123, 4456)))] M :=
  BX12_lineOf_54 C h
theorem PX12_lineOf_50 {sh : Nat → Nat × Nat} {t : Nat} {rm : Nat × Nat × Nat} {cs : Nat × Nat} {R : f_Rt} {x1 : Int} {x2 : Int} {M : e_M} (C : f_Hy sh t yX12_lineOf rm cs 8 (lX12_lineOf WX12_write WX12_more WX12_wordOf WX12_begin) R) (h : WX12_lineOf_50 (fun M => R none M) x1 x2 M) : f_E sh t YX12_lineOf rm cs (f_Q sh t R) 50 [.inr (.inr (.inr ())), .inl x1, .inl x2] [.inr (.inr (.inl (12, 123, 4456)))] M :=
  BX12_lineOf_50 C (fun x2 xs1 M h => PX12_lineOf_54 C h) h
theorem PX12_lineOf {sh : Nat → Nat × Nat} {t : Nat} {rm : Nat × Nat × Nat} {cs : Nat × Nat} {R : f_Rt} {x1 : Int} {x2 : Int} {M : e_M} (C : f_Hy sh t yX12_lineOf rm cs 8 (lX12_lineOf WX12_write WX12_more WX12_wordOf WX12_begin) R) (h : WX12_lineOf x1 x2 M (fun M => R none M)) : f_E sh t YX12_lineOf rm cs (f_Q sh t R) 0 [.inr (.inr (.inl (12, 123, 4456))), .inl x1, .inl x2] [] M :=
  BX12_lineOf C (fun x1 x2 M h => PX12_lineOf_50 C h) (fun x2 xs1 M h => PX12_lineOf_54 C h) h
def wX12_lineOf : f_Wt := f_wm [(4466, 12, 123), (1, 0, 0), (1, 0, 0)] (fun ar M R => WX12_lineOf (f_vi (f_nth ar 1)) (f_vi (f_nth ar 2)) M (fun M => R none M))
theorem TX12_lineOf {sh : Nat → Nat × Nat} {t : Nat} : f_Mt sh t YX12_lineOf 8 (wX12_lineOf) :=
  f_Mt_of (k := 0) (Nat.le_of_ble_eq_true rfl) rfl rfl (fun ar M R rm cs h1 h2 h3 hX h => PX12_lineOf ⟨Nat.le_of_ble_eq_true rfl, h1, h2, h3, ⟨(f_Mt.up (Nat.le_of_ble_eq_true rfl) TX12_write), (f_Mt.up (Nat.le_of_ble_eq_true rfl) TX12_more), (f_Mt.up (Nat.le_of_ble_eq_true rfl) TX12_wordOf), (f_Mt.up (Nat.le_of_ble_eq_true rfl) TX12_begin), trivial⟩, hX⟩ h)
def VX12_writeNumber_2 (c_X12_write : Int → e_M → (e_M → Prop) → Prop) (k21 : Int → Int → e_M → Prop) (k2 : Int → Int → e_M → Prop) (Q : e_M → Prop) (x1 : Int) (x3 : Int) (M : e_M) : Prop :=
  (¬ x3 = 0 ∧ (((e_w64 (x1.tdiv x3)) < 10 → (k21 x1 x3 M)) ∧ (10 ≤ (e_w64 (x1.tdiv x3)) → (k2 x1 (e_w64 (x3 * 10)) M))))
def VX12_writeNumber_21 (c_X12_write : Int → e_M → (e_M → Prop) → Prop) (k21 : Int → Int → e_M → Prop) (Q : e_M → Prop) (x1 : Int) (x3 : Int) (M : e_M) : Prop :=
  ((x3 ≤ 0 → (Q M)) ∧ (0 < x3 → (¬ x3 = 0 ∧ (¬ (10 : Int) = 0 ∧ (c_X12_write (e_w32 ((48 : Int) + (e_w32 ((e_w64 (x1.tdiv x3)).tmod 10)))) M (fun M1 => (¬ (10 : Int) = 0 ∧ (k21 x1 (e_w64 (x3.tdiv 10)) M1))))))))
def VX12_writeNumber (c_X12_write : Int → e_M → (e_M → Prop) → Prop) (k2 : Int → Int → e_M → Prop) (Q : e_M → Prop) (x1 : Int) (M : e_M) : Prop :=
  (k2 x1 1 M)
def yX12_writeNumber (i : Nat) : e_Y := x_get YX12_writeNumber [YX12_write] i
def pX12_writeNumberf : List x_I := [(0, 1, 1, 0, 0, 1, []), (1, 6, 1, 3, 0, 0, []), (2, 49, 0, 0, 0, 0, []), (2, 3, 1, 1, 0, 0, []), (3, 3, 1, 3, 0, 0, []), (4, 10, 0, 3, 0, 0, []), (5, 1, 3, 0, 0, 10, []), (8, 32, 21, 2, 14, 0, []), (12, 3, 1, 3, 0, 0, []), (13, 1, 3, 0, 0, 10, []), (16, 10, 0, 2, 0, 0, []), (17, 6, 1, 3, 0, 0, []), (18, 19, 2, 0, 3, 0, []), (21, 49, 0, 0, 0, 0, []), (21, 3, 1, 3, 0, 0, []), (22, 1, 1, 0, 0, 0, []), (23, 32, 51, 5, 33, 0, []), (27, 4, 1, 0, 0, 0, []), (28, 0, 2, 0, 0, 48, []), (30, 3, 1, 1, 0, 0, []), (31, 3, 1, 3, 0, 0, []), (32, 10, 0, 3, 0, 0, []), (33, 1, 3, 0, 0, 10, []), (36, 10, 0, 4, 0, 0, []), (37, 15, 0, 0, 0, 0, []), (38, 9, 0, 0, 0, 0, []), (39, 40, 0, 2, 14, 0, []), (42, 3, 1, 3, 0, 0, []), (43, 1, 3, 0, 0, 10, []), (46, 10, 0, 3, 0, 0, []), (47, 6, 1, 3, 0, 0, []), (48, 19, 21, 0, 14, 0, []), (51, 44, 0, 0, 0, 0, [])]
set_option maxRecDepth 20000 in
theorem qX12_writeNumberf : f_all yX12_writeNumber YX12_writeNumber pX12_writeNumberf :=
  ⟨f_lconst (n := 1) (e_dx DX12_writeNumber_0 0 rfl) rfl,
  f_lstore_n (n := 3) (e_dx DX12_writeNumber_0 1 rfl) rfl (by decide),
  trivial,
  f_lload_n (n := 1) (e_dx DX12_writeNumber_0 2 rfl) rfl,
  f_lload_n (n := 3) (e_dx DX12_writeNumber_0 3 rfl) rfl,
  f_ldiv (e_dx DX12_writeNumber_0 4 rfl),
  f_ldc2 (e_dx DX12_writeNumber_0 5 rfl) hX12_927 rfl ⟨by decide, by decide⟩,
  f_lif_lt (e_dx DX12_writeNumber_0 6 rfl) (e_dx DX12_writeNumber_0 7 rfl) rfl,
  f_lload_n (n := 3) (e_dx DX12_writeNumber_0 8 rfl) rfl,
  f_ldc2 (e_dx DX12_writeNumber_0 9 rfl) hX12_927 rfl ⟨by decide, by decide⟩,
  f_lmul (e_dx DX12_writeNumber_0 10 rfl),
  f_lstore_n (n := 3) (e_dx DX12_writeNumber_0 11 rfl) rfl (by decide),
  f_g19 (e_dx DX12_writeNumber_0 12 rfl) rfl,
  trivial,
  f_lload_n (n := 3) (e_dx DX12_writeNumber_0 13 rfl) rfl,
  f_lconst (n := 0) (e_dx DX12_writeNumber_0 14 rfl) rfl,
  f_lif_le (e_dx DX12_writeNumber_0 15 rfl) (e_dx DX12_writeNumber_0 16 rfl) rfl,
  f_aload_n (n := 0) (e_dx DX12_writeNumber_0 17 rfl) rfl,
  f_bipush (e_dx DX12_writeNumber_0 18 rfl) ⟨by decide, by decide⟩,
  f_lload_n (n := 1) (e_dx DX12_writeNumber_0 19 rfl) rfl,
  f_lload_n (n := 3) (e_dx DX12_writeNumber_0 20 rfl) rfl,
  f_ldiv (e_dx DX12_writeNumber_0 21 rfl),
  f_ldc2 (e_dx DX12_writeNumber_0 22 rfl) hX12_927 rfl ⟨by decide, by decide⟩,
  f_lrem (e_dx DX12_writeNumber_0 23 rfl),
  f_g15 (e_dx DX12_writeNumber_0 24 rfl),
  f_iadd (e_dx DX12_writeNumber_0 25 rfl),
  x_callV (e_dx DX12_writeNumber_0 26 rfl) mwX12_write vwX12_write cX12_916 rfl,
  f_lload_n (n := 3) (e_dx DX12_writeNumber_0 27 rfl) rfl,
  f_ldc2 (e_dx DX12_writeNumber_0 28 rfl) hX12_927 rfl ⟨by decide, by decide⟩,
  f_ldiv (e_dx DX12_writeNumber_0 29 rfl),
  f_lstore_n (n := 3) (e_dx DX12_writeNumber_0 30 rfl) rfl (by decide),
  f_g19 (e_dx DX12_writeNumber_0 31 rfl) rfl,
  ⟨(e_dx DX12_writeNumber_0 32 rfl), rfl⟩, trivial⟩
def lX12_writeNumber (c_X12_write : Int → e_M → (e_M → Prop) → Prop) : List (Nat × f_Wt) := [(0, f_wm [(4466, 12, 123), (1, 0, 0)] (fun ar M R => c_X12_write (f_vi (f_nth ar 1)) M (fun M => R none M)))]
set_option maxRecDepth 20000 in
theorem BX12_writeNumber_2 {sh : Nat → Nat × Nat} {t : Nat} {rm : Nat × Nat × Nat} {cs : Nat × Nat} {R : f_Rt} {c_X12_write : Int → e_M → (e_M → Prop) → Prop} {k21 : Int → Int → e_M → Prop} {k2 : Int → Int → e_M → Prop} {x1 : Int} {x3 : Int} {M : e_M} (C : f_Hy sh t yX12_writeNumber rm cs 5 (lX12_writeNumber c_X12_write) R) (h21 : ∀ (x1 : Int) (x3 : Int) (M : e_M), k21 x1 x3 M → f_E sh t YX12_writeNumber rm cs (f_Q sh t R) 21 [.inr (.inr (.inl (12, 123, 4456))), .inr (.inl x1), .inr (.inr (.inr ())), .inr (.inl x3), .inr (.inr (.inr ()))] [] M) (h2 : ∀ (x1 : Int) (x3 : Int) (M : e_M), k2 x1 x3 M → f_E sh t YX12_writeNumber rm cs (f_Q sh t R) 2 [.inr (.inr (.inl (12, 123, 4456))), .inr (.inl x1), .inr (.inr (.inr ())), .inr (.inl x3), .inr (.inr (.inr ()))] [] M) (h : VX12_writeNumber_2 c_X12_write k21 k2 (fun M => R none M) x1 x3 M) : f_E sh t YX12_writeNumber rm cs (f_Q sh t R) 2 [.inr (.inr (.inl (12, 123, 4456))), .inr (.inl x1), .inr (.inr (.inr ())), .inr (.inl x3), .inr (.inr (.inr ()))] [] M :=
  f_go (KC := f_kc [(21, f_pl [(4466, 12, 123), (2, 0, 0), (0, 0, 0), (2, 0, 0), (0, 0, 0)] [] (fun ls st M => k21 (f_vi (f_nth ls 1)) (f_vi (f_nth ls 3)) M)), (2, f_pl [(4466, 12, 123), (2, 0, 0), (0, 0, 0), (2, 0, 0), (0, 0, 0)] [] (fun ls st M => k2 (f_vi (f_nth ls 1)) (f_vi (f_nth ls 3)) M))]) C qX12_writeNumberf (f_kc_cons (f_pl_ok rfl (fun ls st M h => h21 _ _ M h)) (f_kc_cons (f_pl_ok rfl (fun ls st M h => h2 _ _ M h)) f_kc_nil)) 35 3 h
set_option maxRecDepth 20000 in
theorem BX12_writeNumber_21 {sh : Nat → Nat × Nat} {t : Nat} {rm : Nat × Nat × Nat} {cs : Nat × Nat} {R : f_Rt} {c_X12_write : Int → e_M → (e_M → Prop) → Prop} {k21 : Int → Int → e_M → Prop} {x1 : Int} {x3 : Int} {M : e_M} (C : f_Hy sh t yX12_writeNumber rm cs 5 (lX12_writeNumber c_X12_write) R) (h21 : ∀ (x1 : Int) (x3 : Int) (M : e_M), k21 x1 x3 M → f_E sh t YX12_writeNumber rm cs (f_Q sh t R) 21 [.inr (.inr (.inl (12, 123, 4456))), .inr (.inl x1), .inr (.inr (.inr ())), .inr (.inl x3), .inr (.inr (.inr ()))] [] M) (h : VX12_writeNumber_21 c_X12_write k21 (fun M => R none M) x1 x3 M) : f_E sh t YX12_writeNumber rm cs (f_Q sh t R) 21 [.inr (.inr (.inl (12, 123, 4456))), .inr (.inl x1), .inr (.inr (.inr ())), .inr (.inl x3), .inr (.inr (.inr ()))] [] M :=
  f_go (KC := f_kc [(21, f_pl [(4466, 12, 123), (2, 0, 0), (0, 0, 0), (2, 0, 0), (0, 0, 0)] [] (fun ls st M => k21 (f_vi (f_nth ls 1)) (f_vi (f_nth ls 3)) M))]) C qX12_writeNumberf (f_kc_cons (f_pl_ok rfl (fun ls st M h => h21 _ _ M h)) f_kc_nil) 35 14 h
set_option maxRecDepth 20000 in
theorem BX12_writeNumber {sh : Nat → Nat × Nat} {t : Nat} {rm : Nat × Nat × Nat} {cs : Nat × Nat} {R : f_Rt} {c_X12_write : Int → e_M → (e_M → Prop) → Prop} {k2 : Int → Int → e_M → Prop} {x1 : Int} {M : e_M} (C : f_Hy sh t yX12_writeNumber rm cs 5 (lX12_writeNumber c_X12_write) R) (h2 : ∀ (x1 : Int) (x3 : Int) (M : e_M), k2 x1 x3 M → f_E sh t YX12_writeNumber rm cs (f_Q sh t R) 2 [.inr (.inr (.inl (12, 123, 4456))), .inr (.inl x1), .inr (.inr (.inr ())), .inr (.inl x3), .inr (.inr (.inr ()))] [] M) (h : VX12_writeNumber c_X12_write k2 (fun M => R none M) x1 M) : f_E sh t YX12_writeNumber rm cs (f_Q sh t R) 0 [.inr (.inr (.inl (12, 123, 4456))), .inr (.inl x1), .inr (.inr (.inr ())), .inr (.inr (.inr ())), .inr (.inr (.inr ()))] [] M :=
  f_go (KC := f_kc [(2, f_pl [(4466, 12, 123), (2, 0, 0), (0, 0, 0), (2, 0, 0), (0, 0, 0)] [] (fun ls st M => k2 (f_vi (f_nth ls 1)) (f_vi (f_nth ls 3)) M))]) C qX12_writeNumberf (f_kc_cons (f_pl_ok rfl (fun ls st M h => h2 _ _ M h)) f_kc_nil) 35 0 h
def WX12_writeNumber_21 (Q : e_M → Prop) : Nat → Int → Int → e_M → Prop
  | 0, _, _, _ => False
  | n + 1, x1, x3, M =>
    VX12_writeNumber_21 WX12_write (WX12_writeNumber_21 Q n) Q x1 x3 M
def WX12_writeNumber_2 (Q : e_M → Prop) : Nat → Int → Int → e_M → Prop
  | 0, _, _, _ => False
  | n + 1, x1, x3, M =>
    VX12_writeNumber_2 WX12_write (fun x1 x3 M => ∃ j, WX12_writeNumber_21 Q j x1 x3 M) (WX12_writeNumber_2 Q n) Q x1 x3 M
def WX12_writeNumber (x1 : Int) (M : e_M) (Q : e_M → Prop) : Prop :=
  VX12_writeNumber WX12_write (fun x1 x3 M => ∃ j, WX12_writeNumber_2 Q j x1 x3 M) Q x1 M
theorem PX12_writeNumber_21 {sh : Nat → Nat × Nat} {t : Nat} {rm : Nat × Nat × Nat} {cs : Nat × Nat} {R : f_Rt} (C : f_Hy sh t yX12_writeNumber rm cs 5 (lX12_writeNumber WX12_write) R) : ∀ (n : Nat) (x1 : Int) (x3 : Int) (M : e_M), WX12_writeNumber_21 (fun M => R none M) n x1 x3 M → f_E sh t YX12_writeNumber rm cs (f_Q sh t R) 21 [.inr (.inr (.inl (12, 123, 4456))), .inr (.inl x1), .inr (.inr (.inr ())), .inr (.inl x3), .inr (.inr (.inr ()))] [] M := by
  intro n
  induction n with
  | zero => intro x1 x3 M h; exact h.elim
  | succ n ih => intro x1 x3 M h; exact BX12_writeNumber_21 C ih h
theorem PX12_writeNumber_2 {sh : Nat → Nat × Nat} {t : Nat} {rm : Nat × Nat × Nat} {cs : Nat × Nat} {R : f_Rt} (C : f_Hy sh t yX12_writeNumber rm cs 5 (lX12_writeNumber WX12_write) R) : ∀ (n : Nat) (x1 : Int) (x3 : Int) (M : e_M), WX12_writeNumber_2 (fun M => R none M) n x1 x3 M → f_E sh t YX12_writeNumber rm cs (f_Q sh t R) 2 [.inr (.inr (.inl (12, 123, 4456))), .inr (.inl x1), .inr (.inr (.inr ())), .inr (.inl x3), .inr (.inr (.inr ()))] [] M := by
  intro n
  induction n with
  | zero => intro x1 x3 M h; exact h.elim
  | succ n ih => intro x1 x3 M h; exact BX12_writeNumber_2 C (fun x1 x3 M ⟨j, h⟩ => PX12_writeNumber_21 C j _ _ _ h) ih h
theorem PX12_writeNumber {sh : Nat → Nat × Nat} {t : Nat} {rm : Nat × Nat × Nat} {cs : Nat × Nat} {R : f_Rt} {x1 : Int} {M : e_M} (C : f_Hy sh t yX12_writeNumber rm cs 5 (lX12_writeNumber WX12_write) R) (h : WX12_writeNumber x1 M (fun M => R none M)) : f_E sh t YX12_writeNumber rm cs (f_Q sh t R) 0 [.inr (.inr (.inl (12, 123, 4456))), .inr (.inl x1), .inr (.inr (.inr ())), .inr (.inr (.inr ())), .inr (.inr (.inr ()))] [] M :=
  BX12_writeNumber C (fun x1 x3 M ⟨j, h⟩ => PX12_writeNumber_2 C j _ _ _ h) h
def wX12_writeNumber : f_Wt := f_wm [(4466, 12, 123), (2, 0, 0)] (fun ar M R => WX12_writeNumber (f_vi (f_nth ar 1)) M (fun M => R none M))
theorem TX12_writeNumber {sh : Nat → Nat × Nat} {t : Nat} : f_Mt sh t YX12_writeNumber 5 (wX12_writeNumber) :=
  f_Mt_of (k := 2) (Nat.le_of_ble_eq_true rfl) rfl rfl (fun ar M R rm cs h1 h2 h3 hX h => PX12_writeNumber ⟨Nat.le_of_ble_eq_true rfl, h1, h2, h3, ⟨(f_Mt.up (Nat.le_of_ble_eq_true rfl) TX12_write), trivial⟩, hX⟩ h)
def VX12_moreNumber (c_X12_write : Int → e_M → (e_M → Prop) → Prop) (c_X12_writeNumber : Int → e_M → (e_M → Prop) → Prop) (Q : e_M → Prop) (x1 : Int) (M : e_M) : Prop :=
  (c_X12_write 32 M (fun M1 => (c_X12_writeNumber x1 M1 (fun M2 => (Q M2)))))
def yX12_moreNumber (i : Nat) : e_Y := x_get YX12_moreNumber [YX12_write, YX12_writeNumber] i
def pX12_moreNumberf : List x_I := [(0, 4, 1, 0, 0, 0, []), (1, 0, 2, 0, 0, 32, []), (3, 40, 0, 2, 14, 0, []), (6, 4, 1, 0, 0, 0, []), (7, 3, 1, 1, 0, 0, []), (8, 40, 1, 2, 14, 0, []), (11, 44, 0, 0, 0, 0, [])]
set_option maxRecDepth 20000 in
theorem qX12_moreNumberf : f_all yX12_moreNumber YX12_moreNumber pX12_moreNumberf :=
  ⟨f_aload_n (n := 0) (e_dx DX12_moreNumber_0 0 rfl) rfl,
  f_bipush (e_dx DX12_moreNumber_0 1 rfl) ⟨by decide, by decide⟩,
  x_callV (e_dx DX12_moreNumber_0 2 rfl) mwX12_write vwX12_write cX12_916 rfl,
  f_aload_n (n := 0) (e_dx DX12_moreNumber_0 3 rfl) rfl,
  f_lload_n (n := 1) (e_dx DX12_moreNumber_0 4 rfl) rfl,
  x_callV (e_dx DX12_moreNumber_0 5 rfl) mwX12_writeNumber vwX12_writeNumber cX12_922 rfl,
  ⟨(e_dx DX12_moreNumber_0 6 rfl), rfl⟩, trivial⟩
def lX12_moreNumber (c_X12_write : Int → e_M → (e_M → Prop) → Prop) (c_X12_writeNumber : Int → e_M → (e_M → Prop) → Prop) : List (Nat × f_Wt) := [(0, f_wm [(4466, 12, 123), (1, 0, 0)] (fun ar M R => c_X12_write (f_vi (f_nth ar 1)) M (fun M => R none M))), (1, f_wm [(4466, 12, 123), (2, 0, 0)] (fun ar M R => c_X12_writeNumber (f_vi (f_nth ar 1)) M (fun M => R none M)))]
set_option maxRecDepth 20000 in
theorem BX12_moreNumber {sh : Nat → Nat × Nat} {t : Nat} {rm : Nat × Nat × Nat} {cs : Nat × Nat} {R : f_Rt} {c_X12_write : Int → e_M → (e_M → Prop) → Prop} {c_X12_writeNumber : Int → e_M → (e_M → Prop) → Prop} {x1 : Int} {M : e_M} (C : f_Hy sh t yX12_moreNumber rm cs 6 (lX12_moreNumber c_X12_write c_X12_writeNumber) R) (h : VX12_moreNumber c_X12_write c_X12_writeNumber (fun M => R none M) x1 M) : f_E sh t YX12_moreNumber rm cs (f_Q sh t R) 0 [.inr (.inr (.inl (12, 123, 4456))), .inr (.inl x1), .inr (.inr (.inr ()))] [] M :=
  f_go (KC := f_kc []) C qX12_moreNumberf f_kc_nil 9 0 h
def WX12_moreNumber (x1 : Int) (M : e_M) (Q : e_M → Prop) : Prop :=
  VX12_moreNumber WX12_write WX12_writeNumber Q x1 M
theorem PX12_moreNumber {sh : Nat → Nat × Nat} {t : Nat} {rm : Nat × Nat × Nat} {cs : Nat × Nat} {R : f_Rt} {x1 : Int} {M : e_M} (C : f_Hy sh t yX12_moreNumber rm cs 6 (lX12_moreNumber WX12_write WX12_writeNumber) R) (h : WX12_moreNumber x1 M (fun M => R none M)) : f_E sh t YX12_moreNumber rm cs (f_Q sh t R) 0 [.inr (.inr (.inl (12, 123, 4456))), .inr (.inl x1), .inr (.inr (.inr ()))] [] M :=
  BX12_moreNumber C h
def wX12_moreNumber : f_Wt := f_wm [(4466, 12, 123), (2, 0, 0)] (fun ar M R => WX12_moreNumber (f_vi (f_nth ar 1)) M (fun M => R none M))
theorem TX12_moreNumber {sh : Nat → Nat × Nat} {t : Nat} : f_Mt sh t YX12_moreNumber 6 (wX12_moreNumber) :=
  f_Mt_of (k := 0) (Nat.le_of_ble_eq_true rfl) rfl rfl (fun ar M R rm cs h1 h2 h3 hX h => PX12_moreNumber ⟨Nat.le_of_ble_eq_true rfl, h1, h2, h3, ⟨(f_Mt.up (Nat.le_of_ble_eq_true rfl) TX12_write), (f_Mt.up (Nat.le_of_ble_eq_true rfl) TX12_writeNumber), trivial⟩, hX⟩ h)
def VX12_share (c_X12_writeName : Int → e_M → (e_M → Prop) → Prop) (c_X12_moreNumber : Int → e_M → (e_M → Prop) → Prop) (c_X12_write : Int → e_M → (e_M → Prop) → Prop) (c_X12_writeNumber : Int → e_M → (e_M → Prop) → Prop) (Q : e_M → Prop) (x1 : Int) (x2 : Int) (x4 : Int) (M : e_M) : Prop :=
  ((0 ≤ x1 ∧ x1 < 560) ∧ (c_X12_writeName (M 4484 (x1.toNat)) M (fun M1 => (c_X12_moreNumber x2 M1 (fun M2 => (c_X12_write 47 M2 (fun M3 => (c_X12_writeNumber x4 M3 (fun M4 => (c_X12_write 10 M4 (fun M5 => (Q M5))))))))))))
def yX12_share (i : Nat) : e_Y := x_get YX12_share [YX12_writeName, YX12_moreNumber, YX12_write, YX12_writeNumber] i
def pX12_sharef : List x_I := [(0, 4, 1, 0, 0, 0, []), (1, 4, 1, 0, 0, 0, []), (2, 25, 12, 51, 4, 0, [(0, 23, 560), (0, 1, 28)]), (5, 2, 1, 1, 0, 0, []), (6, 27, 0, 1, 0, 0, []), (7, 40, 0, 2, 14, 0, []), (10, 4, 1, 0, 0, 0, []), (11, 3, 1, 2, 0, 0, []), (12, 40, 1, 2, 14, 0, []), (15, 4, 1, 0, 0, 0, []), (16, 0, 2, 0, 0, 47, []), (18, 40, 2, 2, 14, 0, []), (21, 4, 1, 0, 0, 0, []), (22, 3, 2, 4, 0, 0, []), (24, 40, 3, 2, 14, 0, []), (27, 4, 1, 0, 0, 0, []), (28, 0, 2, 0, 0, 10, []), (30, 40, 2, 2, 14, 0, []), (33, 44, 0, 0, 0, 0, [])]
set_option maxRecDepth 20000 in
theorem qX12_sharef : f_all yX12_share YX12_share pX12_sharef :=
  ⟨f_aload_n (n := 0) (e_dx DX12_share_0 0 rfl) rfl,
  f_aload_n (n := 0) (e_dx DX12_share_0 1 rfl) rfl,
  f_getA (e_dx DX12_share_0 2 rfl) fX12_94 rfl (by decide) (Nat.le_of_ble_eq_true rfl) rfl (by decide),
  f_iload_n (n := 1) (e_dx DX12_share_0 3 rfl) rfl,
  f_laload (e_dx DX12_share_0 4 rfl),
  x_callV (e_dx DX12_share_0 5 rfl) mwX12_writeName vwX12_writeName cX12_912 rfl,
  f_aload_n (n := 0) (e_dx DX12_share_0 6 rfl) rfl,
  f_lload_n (n := 2) (e_dx DX12_share_0 7 rfl) rfl,
  x_callV (e_dx DX12_share_0 8 rfl) mwX12_moreNumber vwX12_moreNumber cX12_938 rfl,
  f_aload_n (n := 0) (e_dx DX12_share_0 9 rfl) rfl,
  f_bipush (e_dx DX12_share_0 10 rfl) ⟨by decide, by decide⟩,
  x_callV (e_dx DX12_share_0 11 rfl) mwX12_write vwX12_write cX12_916 rfl,
  f_aload_n (n := 0) (e_dx DX12_share_0 12 rfl) rfl,
  f_lload (e_dx DX12_share_0 13 rfl),
  x_callV (e_dx DX12_share_0 14 rfl) mwX12_writeNumber vwX12_writeNumber cX12_922 rfl,
  f_aload_n (n := 0) (e_dx DX12_share_0 15 rfl) rfl,
  f_bipush (e_dx DX12_share_0 16 rfl) ⟨by decide, by decide⟩,
  x_callV (e_dx DX12_share_0 17 rfl) mwX12_write vwX12_write cX12_916 rfl,
  ⟨(e_dx DX12_share_0 18 rfl), rfl⟩, trivial⟩
def lX12_share (c_X12_writeName : Int → e_M → (e_M → Prop) → Prop) (c_X12_moreNumber : Int → e_M → (e_M → Prop) → Prop) (c_X12_write : Int → e_M → (e_M → Prop) → Prop) (c_X12_writeNumber : Int → e_M → (e_M → Prop) → Prop) : List (Nat × f_Wt) := [(0, f_wm [(4466, 12, 123), (2, 0, 0)] (fun ar M R => c_X12_writeName (f_vi (f_nth ar 1)) M (fun M => R none M))), (1, f_wm [(4466, 12, 123), (2, 0, 0)] (fun ar M R => c_X12_moreNumber (f_vi (f_nth ar 1)) M (fun M => R none M))), (2, f_wm [(4466, 12, 123), (1, 0, 0)] (fun ar M R => c_X12_write (f_vi (f_nth ar 1)) M (fun M => R none M))), (3, f_wm [(4466, 12, 123), (2, 0, 0)] (fun ar M R => c_X12_writeNumber (f_vi (f_nth ar 1)) M (fun M => R none M)))]
set_option maxRecDepth 20000 in
theorem BX12_share {sh : Nat → Nat × Nat} {t : Nat} {rm : Nat × Nat × Nat} {cs : Nat × Nat} {R : f_Rt} {c_X12_writeName : Int → e_M → (e_M → Prop) → Prop} {c_X12_moreNumber : Int → e_M → (e_M → Prop) → Prop} {c_X12_write : Int → e_M → (e_M → Prop) → Prop} {c_X12_writeNumber : Int → e_M → (e_M → Prop) → Prop} {x1 : Int} {x2 : Int} {x4 : Int} {M : e_M} (C : f_Hy sh t yX12_share rm cs 7 (lX12_share c_X12_writeName c_X12_moreNumber c_X12_write c_X12_writeNumber) R) (h : VX12_share c_X12_writeName c_X12_moreNumber c_X12_write c_X12_writeNumber (fun M => R none M) x1 x2 x4 M) : f_E sh t YX12_share rm cs (f_Q sh t R) 0 [.inr (.inr (.inl (12, 123, 4456))), .inl x1, .inr (.inl x2), .inr (.inr (.inr ())), .inr (.inl x4), .inr (.inr (.inr ()))] [] M :=
  f_go (KC := f_kc []) C qX12_sharef f_kc_nil 21 0 h
def WX12_share (x1 : Int) (x2 : Int) (x4 : Int) (M : e_M) (Q : e_M → Prop) : Prop :=
  VX12_share WX12_writeName WX12_moreNumber WX12_write WX12_writeNumber Q x1 x2 x4 M
theorem PX12_share {sh : Nat → Nat × Nat} {t : Nat} {rm : Nat × Nat × Nat} {cs : Nat × Nat} {R : f_Rt} {x1 : Int} {x2 : Int} {x4 : Int} {M : e_M} (C : f_Hy sh t yX12_share rm cs 7 (lX12_share WX12_writeName WX12_moreNumber WX12_write WX12_writeNumber) R) (h : WX12_share x1 x2 x4 M (fun M => R none M)) : f_E sh t YX12_share rm cs (f_Q sh t R) 0 [.inr (.inr (.inl (12, 123, 4456))), .inl x1, .inr (.inl x2), .inr (.inr (.inr ())), .inr (.inl x4), .inr (.inr (.inr ()))] [] M :=
  BX12_share C h
def wX12_share : f_Wt := f_wm [(4466, 12, 123), (1, 0, 0), (2, 0, 0), (2, 0, 0)] (fun ar M R => WX12_share (f_vi (f_nth ar 1)) (f_vi (f_nth ar 2)) (f_vi (f_nth ar 3)) M (fun M => R none M))
theorem TX12_share {sh : Nat → Nat × Nat} {t : Nat} : f_Mt sh t YX12_share 7 (wX12_share) :=
  f_Mt_of (k := 0) (Nat.le_of_ble_eq_true rfl) rfl rfl (fun ar M R rm cs h1 h2 h3 hX h => PX12_share ⟨Nat.le_of_ble_eq_true rfl, h1, h2, h3, ⟨(f_Mt.up (Nat.le_of_ble_eq_true rfl) TX12_writeName), (f_Mt.up (Nat.le_of_ble_eq_true rfl) TX12_moreNumber), (f_Mt.up (Nat.le_of_ble_eq_true rfl) TX12_write), (f_Mt.up (Nat.le_of_ble_eq_true rfl) TX12_writeNumber), trivial⟩, hX⟩ h)
def VX12_debt (c_X12_id : Int → Int → e_M → (Int → Prop) → Prop) (c_X12_begin : Int → Int → e_M → (e_M → Prop) → Prop) (c_X12_moreNumber : Int → e_M → (e_M → Prop) → Prop) (c_X12_write : Int → e_M → (e_M → Prop) → Prop) (Q : e_M → Prop) (x1 : Int) (M : e_M) : Prop :=
  (c_X12_id 2 x1 M (fun r1 => (c_X12_begin 18 r1 M (fun M2 => (c_X12_id 2 x1 M2 (fun r3 => ((0 ≤ r3 ∧ r3 < 560) ∧ (c_X12_moreNumber (M2 4490 (r3.toNat)) M2 (fun M4 => (c_X12_write 10 M4 (fun M5 => (Q M5))))))))))))
def yX12_debt (i : Nat) : e_Y := x_get YX12_debt [YX12_id, YX12_begin, YX12_moreNumber, YX12_write] i
def pX12_debtf : List x_I := [(0, 4, 1, 0, 0, 0, []), (1, 0, 2, 0, 0, 18, []), (3, 0, 1, 0, 0, 2, []), (4, 2, 1, 1, 0, 0, []), (5, 40, 0, 2, 0, 0, []), (8, 40, 1, 3, 14, 0, []), (11, 4, 1, 0, 0, 0, []), (12, 4, 1, 0, 0, 0, []), (13, 25, 12, 57, 4, 0, [(0, 20, 560), (0, 1, 34)]), (16, 0, 1, 0, 0, 2, []), (17, 2, 1, 1, 0, 0, []), (18, 40, 0, 2, 0, 0, []), (21, 27, 0, 0, 0, 0, []), (22, 14, 0, 0, 0, 0, []), (23, 40, 2, 2, 14, 0, []), (26, 4, 1, 0, 0, 0, []), (27, 0, 2, 0, 0, 10, []), (29, 40, 3, 2, 14, 0, []), (32, 44, 0, 0, 0, 0, [])]
set_option maxRecDepth 20000 in
theorem qX12_debtf : f_all yX12_debt YX12_debt pX12_debtf :=
  ⟨f_aload_n (n := 0) (e_dx DX12_debt_0 0 rfl) rfl,
  f_bipush (e_dx DX12_debt_0 1 rfl) ⟨by decide, by decide⟩,
  f_iconst (e_dx DX12_debt_0 2 rfl) ⟨by decide, by decide⟩,
  f_iload_n (n := 1) (e_dx DX12_debt_0 3 rfl) rfl,
  x_callS (e_dx DX12_debt_0 4 rfl) mwX12_id cX12_540 swX12_id rfl,
  x_callV (e_dx DX12_debt_0 5 rfl) mwX12_begin vwX12_begin cX12_947 rfl,
  f_aload_n (n := 0) (e_dx DX12_debt_0 6 rfl) rfl,
  f_aload_n (n := 0) (e_dx DX12_debt_0 7 rfl) rfl,
  f_getA (e_dx DX12_debt_0 8 rfl) fX12_112 rfl (by decide) (Nat.le_of_ble_eq_true rfl) rfl (by decide),
  f_iconst (e_dx DX12_debt_0 9 rfl) ⟨by decide, by decide⟩,
  f_iload_n (n := 1) (e_dx DX12_debt_0 10 rfl) rfl,
  x_callS (e_dx DX12_debt_0 11 rfl) mwX12_id cX12_540 swX12_id rfl,
  f_iaload (e_dx DX12_debt_0 12 rfl),
  f_g14 (e_dx DX12_debt_0 13 rfl),
  x_callV (e_dx DX12_debt_0 14 rfl) mwX12_moreNumber vwX12_moreNumber cX12_938 rfl,
  f_aload_n (n := 0) (e_dx DX12_debt_0 15 rfl) rfl,
  f_bipush (e_dx DX12_debt_0 16 rfl) ⟨by decide, by decide⟩,
  x_callV (e_dx DX12_debt_0 17 rfl) mwX12_write vwX12_write cX12_916 rfl,
  ⟨(e_dx DX12_debt_0 18 rfl), rfl⟩, trivial⟩
def lX12_debt (c_X12_id : Int → Int → e_M → (Int → Prop) → Prop) (c_X12_begin : Int → Int → e_M → (e_M → Prop) → Prop) (c_X12_moreNumber : Int → e_M → (e_M → Prop) → Prop) (c_X12_write : Int → e_M → (e_M → Prop) → Prop) : List (Nat × f_Wt) := [(0, f_wm [(1, 0, 0), (1, 0, 0)] (fun ar M R => c_X12_id (f_vi (f_nth ar 0)) (f_vi (f_nth ar 1)) M (fun r => R (some (.inl r)) M))), (1, f_wm [(4466, 12, 123), (1, 0, 0), (1, 0, 0)] (fun ar M R => c_X12_begin (f_vi (f_nth ar 1)) (f_vi (f_nth ar 2)) M (fun M => R none M))), (2, f_wm [(4466, 12, 123), (2, 0, 0)] (fun ar M R => c_X12_moreNumber (f_vi (f_nth ar 1)) M (fun M => R none M))), (3, f_wm [(4466, 12, 123), (1, 0, 0)] (fun ar M R => c_X12_write (f_vi (f_nth ar 1)) M (fun M => R none M)))]
set_option maxRecDepth 20000 in
theorem BX12_debt {sh : Nat → Nat × Nat} {t : Nat} {rm : Nat × Nat × Nat} {cs : Nat × Nat} {R : f_Rt} {c_X12_id : Int → Int → e_M → (Int → Prop) → Prop} {c_X12_begin : Int → Int → e_M → (e_M → Prop) → Prop} {c_X12_moreNumber : Int → e_M → (e_M → Prop) → Prop} {c_X12_write : Int → e_M → (e_M → Prop) → Prop} {x1 : Int} {M : e_M} (C : f_Hy sh t yX12_debt rm cs 8 (lX12_debt c_X12_id c_X12_begin c_X12_moreNumber c_X12_write) R) (h : VX12_debt c_X12_id c_X12_begin c_X12_moreNumber c_X12_write (fun M => R none M) x1 M) : f_E sh t YX12_debt rm cs (f_Q sh t R) 0 [.inr (.inr (.inl (12, 123, 4456))), .inl x1] [] M :=
  f_go (KC := f_kc []) C qX12_debtf f_kc_nil 21 0 h
def WX12_debt (x1 : Int) (M : e_M) (Q : e_M → Prop) : Prop :=
  VX12_debt WX12_id WX12_begin WX12_moreNumber WX12_write Q x1 M
theorem PX12_debt {sh : Nat → Nat × Nat} {t : Nat} {rm : Nat × Nat × Nat} {cs : Nat × Nat} {R : f_Rt} {x1 : Int} {M : e_M} (C : f_Hy sh t yX12_debt rm cs 8 (lX12_debt WX12_id WX12_begin WX12_moreNumber WX12_write) R) (h : WX12_debt x1 M (fun M => R none M)) : f_E sh t YX12_debt rm cs (f_Q sh t R) 0 [.inr (.inr (.inl (12, 123, 4456))), .inl x1] [] M :=
  BX12_debt C h
def wX12_debt : f_Wt := f_wm [(4466, 12, 123), (1, 0, 0)] (fun ar M R => WX12_debt (f_vi (f_nth ar 1)) M (fun M => R none M))
theorem TX12_debt {sh : Nat → Nat × Nat} {t : Nat} : f_Mt sh t YX12_debt 8 (wX12_debt) :=
  f_Mt_of (k := 0) (Nat.le_of_ble_eq_true rfl) rfl rfl (fun ar M R rm cs h1 h2 h3 hX h => PX12_debt ⟨Nat.le_of_ble_eq_true rfl, h1, h2, h3, ⟨(f_Mt.up (Nat.le_of_ble_eq_true rfl) TX12_id), (f_Mt.up (Nat.le_of_ble_eq_true rfl) TX12_begin), (f_Mt.up (Nat.le_of_ble_eq_true rfl) TX12_moreNumber), (f_Mt.up (Nat.le_of_ble_eq_true rfl) TX12_write), trivial⟩, hX⟩ h)
def VX12_served (c_X12_id : Int → Int → e_M → (Int → Prop) → Prop) (c_X12_begin : Int → Int → e_M → (e_M → Prop) → Prop) (c_X12_write : Int → e_M → (e_M → Prop) → Prop) (c_X12_writeWord : Int → e_M → (e_M → Prop) → Prop) (Q : e_M → Prop) (x1 : Int) (x2 : Int) (M : e_M) : Prop :=
  (c_X12_id 3 x1 M (fun r1 => (c_X12_begin 25 r1 M (fun M2 => (c_X12_write 32 M2 (fun M3 => (c_X12_id 3 x1 M3 (fun r4 => ((0 ≤ r4 ∧ r4 < 560) ∧ (c_X12_writeWord (e_w32 ((36 : Int) + (M3 4491 (r4.toNat)))) M3 (fun M5 => (c_X12_write 32 M5 (fun M6 => (c_X12_writeWord x2 M6 (fun M7 => (c_X12_write 10 M7 (fun M8 => (Q M8))))))))))))))))))
def yX12_served (i : Nat) : e_Y := x_get YX12_served [YX12_id, YX12_begin, YX12_write, YX12_writeWord] i
def pX12_servedf : List x_I := [(0, 4, 1, 0, 0, 0, []), (1, 0, 2, 0, 0, 25, []), (3, 0, 1, 0, 0, 3, []), (4, 2, 1, 1, 0, 0, []), (5, 40, 0, 2, 0, 0, []), (8, 40, 1, 3, 14, 0, []), (11, 4, 1, 0, 0, 0, []), (12, 0, 2, 0, 0, 32, []), (14, 40, 2, 2, 14, 0, []), (17, 4, 1, 0, 0, 0, []), (18, 0, 2, 0, 0, 36, []), (20, 4, 1, 0, 0, 0, []), (21, 25, 12, 58, 4, 0, [(0, 20, 560), (0, 1, 35)]), (24, 0, 1, 0, 0, 3, []), (25, 2, 1, 1, 0, 0, []), (26, 40, 0, 2, 0, 0, []), (29, 27, 0, 0, 0, 0, []), (30, 9, 0, 0, 0, 0, []), (31, 40, 3, 2, 14, 0, []), (34, 4, 1, 0, 0, 0, []), (35, 0, 2, 0, 0, 32, []), (37, 40, 2, 2, 14, 0, []), (40, 4, 1, 0, 0, 0, []), (41, 2, 1, 2, 0, 0, []), (42, 40, 3, 2, 14, 0, []), (45, 4, 1, 0, 0, 0, []), (46, 0, 2, 0, 0, 10, []), (48, 40, 2, 2, 14, 0, []), (51, 44, 0, 0, 0, 0, [])]
set_option maxRecDepth 20000 in
theorem qX12_servedf : f_all yX12_served YX12_served pX12_servedf :=
  ⟨f_aload_n (n := 0) (e_dx DX12_served_0 0 rfl) rfl,
  f_bipush (e_dx DX12_served_0 1 rfl) ⟨by decide, by decide⟩,
  f_iconst (e_dx DX12_served_0 2 rfl) ⟨by decide, by decide⟩,
  f_iload_n (n := 1) (e_dx DX12_served_0 3 rfl) rfl,
  x_callS (e_dx DX12_served_0 4 rfl) mwX12_id cX12_540 swX12_id rfl,
  x_callV (e_dx DX12_served_0 5 rfl) mwX12_begin vwX12_begin cX12_947 rfl,
  f_aload_n (n := 0) (e_dx DX12_served_0 6 rfl) rfl,
  f_bipush (e_dx DX12_served_0 7 rfl) ⟨by decide, by decide⟩,
  x_callV (e_dx DX12_served_0 8 rfl) mwX12_write vwX12_write cX12_916 rfl,
  f_aload_n (n := 0) (e_dx DX12_served_0 9 rfl) rfl,
  f_bipush (e_dx DX12_served_0 10 rfl) ⟨by decide, by decide⟩,
  f_aload_n (n := 0) (e_dx DX12_served_0 11 rfl) rfl,
  f_getA (e_dx DX12_served_0 12 rfl) fX12_115 rfl (by decide) (Nat.le_of_ble_eq_true rfl) rfl (by decide),
  f_iconst (e_dx DX12_served_0 13 rfl) ⟨by decide, by decide⟩,
  f_iload_n (n := 1) (e_dx DX12_served_0 14 rfl) rfl,
  x_callS (e_dx DX12_served_0 15 rfl) mwX12_id cX12_540 swX12_id rfl,
  f_iaload (e_dx DX12_served_0 16 rfl),
  f_iadd (e_dx DX12_served_0 17 rfl),
  x_callV (e_dx DX12_served_0 18 rfl) mwX12_writeWord vwX12_writeWord cX12_932 rfl,
  f_aload_n (n := 0) (e_dx DX12_served_0 19 rfl) rfl,
  f_bipush (e_dx DX12_served_0 20 rfl) ⟨by decide, by decide⟩,
  x_callV (e_dx DX12_served_0 21 rfl) mwX12_write vwX12_write cX12_916 rfl,
  f_aload_n (n := 0) (e_dx DX12_served_0 22 rfl) rfl,
  f_iload_n (n := 2) (e_dx DX12_served_0 23 rfl) rfl,
  x_callV (e_dx DX12_served_0 24 rfl) mwX12_writeWord vwX12_writeWord cX12_932 rfl,
  f_aload_n (n := 0) (e_dx DX12_served_0 25 rfl) rfl,
  f_bipush (e_dx DX12_served_0 26 rfl) ⟨by decide, by decide⟩,
  x_callV (e_dx DX12_served_0 27 rfl) mwX12_write vwX12_write cX12_916 rfl,
  ⟨(e_dx DX12_served_0 28 rfl), rfl⟩, trivial⟩
def lX12_served (c_X12_id : Int → Int → e_M → (Int → Prop) → Prop) (c_X12_begin : Int → Int → e_M → (e_M → Prop) → Prop) (c_X12_write : Int → e_M → (e_M → Prop) → Prop) (c_X12_writeWord : Int → e_M → (e_M → Prop) → Prop) : List (Nat × f_Wt) := [(0, f_wm [(1, 0, 0), (1, 0, 0)] (fun ar M R => c_X12_id (f_vi (f_nth ar 0)) (f_vi (f_nth ar 1)) M (fun r => R (some (.inl r)) M))), (1, f_wm [(4466, 12, 123), (1, 0, 0), (1, 0, 0)] (fun ar M R => c_X12_begin (f_vi (f_nth ar 1)) (f_vi (f_nth ar 2)) M (fun M => R none M))), (2, f_wm [(4466, 12, 123), (1, 0, 0)] (fun ar M R => c_X12_write (f_vi (f_nth ar 1)) M (fun M => R none M))), (3, f_wm [(4466, 12, 123), (1, 0, 0)] (fun ar M R => c_X12_writeWord (f_vi (f_nth ar 1)) M (fun M => R none M)))]
set_option maxRecDepth 20000 in
theorem BX12_served {sh : Nat → Nat × Nat} {t : Nat} {rm : Nat × Nat × Nat} {cs : Nat × Nat} {R : f_Rt} {c_X12_id : Int → Int → e_M → (Int → Prop) → Prop} {c_X12_begin : Int → Int → e_M → (e_M → Prop) → Prop} {c_X12_write : Int → e_M → (e_M → Prop) → Prop} {c_X12_writeWord : Int → e_M → (e_M → Prop) → Prop} {x1 : Int} {x2 : Int} {M : e_M} (C : f_Hy sh t yX12_served rm cs 8 (lX12_served c_X12_id c_X12_begin c_X12_write c_X12_writeWord) R) (h : VX12_served c_X12_id c_X12_begin c_X12_write c_X12_writeWord (fun M => R none M) x1 x2 M) : f_E sh t YX12_served rm cs (f_Q sh t R) 0 [.inr (.inr (.inl (12, 123, 4456))), .inl x1, .inl x2] [] M :=
  f_go (KC := f_kc []) C qX12_servedf f_kc_nil 31 0 h
def WX12_served (x1 : Int) (x2 : Int) (M : e_M) (Q : e_M → Prop) : Prop :=
  VX12_served WX12_id WX12_begin WX12_write WX12_writeWord Q x1 x2 M
theorem PX12_served {sh : Nat → Nat × Nat} {t : Nat} {rm : Nat × Nat × Nat} {cs : Nat × Nat} {R : f_Rt} {x1 : Int} {x2 : Int} {M : e_M} (C : f_Hy sh t yX12_served rm cs 8 (lX12_served WX12_id WX12_begin WX12_write WX12_writeWord) R) (h : WX12_served x1 x2 M (fun M => R none M)) : f_E sh t YX12_served rm cs (f_Q sh t R) 0 [.inr (.inr (.inl (12, 123, 4456))), .inl x1, .inl x2] [] M :=
  BX12_served C h
def wX12_served : f_Wt := f_wm [(4466, 12, 123), (1, 0, 0), (1, 0, 0)] (fun ar M R => WX12_served (f_vi (f_nth ar 1)) (f_vi (f_nth ar 2)) M (fun M => R none M))
theorem TX12_served {sh : Nat → Nat × Nat} {t : Nat} : f_Mt sh t YX12_served 8 (wX12_served) :=
  f_Mt_of (k := 0) (Nat.le_of_ble_eq_true rfl) rfl rfl (fun ar M R rm cs h1 h2 h3 hX h => PX12_served ⟨Nat.le_of_ble_eq_true rfl, h1, h2, h3, ⟨(f_Mt.up (Nat.le_of_ble_eq_true rfl) TX12_id), (f_Mt.up (Nat.le_of_ble_eq_true rfl) TX12_begin), (f_Mt.up (Nat.le_of_ble_eq_true rfl) TX12_write), (f_Mt.up (Nat.le_of_ble_eq_true rfl) TX12_writeWord), trivial⟩, hX⟩ h)
def VX12_writeTwo (c_X12_write : Int → e_M → (e_M → Prop) → Prop) (Q : e_M → Prop) (x1 : Int) (M : e_M) : Prop :=
  (¬ (10 : Int) = 0 ∧ (c_X12_write (e_w32 ((48 : Int) + (e_w32 (x1.tdiv 10)))) M (fun M1 => (¬ (10 : Int) = 0 ∧ (c_X12_write (e_w32 ((48 : Int) + (x1.tmod 10))) M1 (fun M2 => (Q M2)))))))
def yX12_writeTwo (i : Nat) : e_Y := x_get YX12_writeTwo [YX12_write] i
def pX12_writeTwof : List x_I := [(0, 4, 1, 0, 0, 0, []), (1, 0, 2, 0, 0, 48, []), (3, 2, 1, 1, 0, 0, []), (4, 0, 2, 0, 0, 10, []), (6, 9, 0, 3, 0, 0, []), (7, 9, 0, 0, 0, 0, []), (8, 40, 0, 2, 14, 0, []), (11, 4, 1, 0, 0, 0, []), (12, 0, 2, 0, 0, 48, []), (14, 2, 1, 1, 0, 0, []), (15, 0, 2, 0, 0, 10, []), (17, 9, 0, 4, 0, 0, []), (18, 9, 0, 0, 0, 0, []), (19, 40, 0, 2, 14, 0, []), (22, 44, 0, 0, 0, 0, [])]
set_option maxRecDepth 20000 in
theorem qX12_writeTwof : f_all yX12_writeTwo YX12_writeTwo pX12_writeTwof :=
  ⟨f_aload_n (n := 0) (e_dx DX12_writeTwo_0 0 rfl) rfl,
  f_bipush (e_dx DX12_writeTwo_0 1 rfl) ⟨by decide, by decide⟩,
  f_iload_n (n := 1) (e_dx DX12_writeTwo_0 2 rfl) rfl,
  f_bipush (e_dx DX12_writeTwo_0 3 rfl) ⟨by decide, by decide⟩,
  f_idiv (e_dx DX12_writeTwo_0 4 rfl),
  f_iadd (e_dx DX12_writeTwo_0 5 rfl),
  x_callV (e_dx DX12_writeTwo_0 6 rfl) mwX12_write vwX12_write cX12_916 rfl,
  f_aload_n (n := 0) (e_dx DX12_writeTwo_0 7 rfl) rfl,
  f_bipush (e_dx DX12_writeTwo_0 8 rfl) ⟨by decide, by decide⟩,
  f_iload_n (n := 1) (e_dx DX12_writeTwo_0 9 rfl) rfl,
  f_bipush (e_dx DX12_writeTwo_0 10 rfl) ⟨by decide, by decide⟩,
  f_irem (e_dx DX12_writeTwo_0 11 rfl),
  f_iadd (e_dx DX12_writeTwo_0 12 rfl),
  x_callV (e_dx DX12_writeTwo_0 13 rfl) mwX12_write vwX12_write cX12_916 rfl,
  ⟨(e_dx DX12_writeTwo_0 14 rfl), rfl⟩, trivial⟩
def lX12_writeTwo (c_X12_write : Int → e_M → (e_M → Prop) → Prop) : List (Nat × f_Wt) := [(0, f_wm [(4466, 12, 123), (1, 0, 0)] (fun ar M R => c_X12_write (f_vi (f_nth ar 1)) M (fun M => R none M)))]
set_option maxRecDepth 20000 in
theorem BX12_writeTwo {sh : Nat → Nat × Nat} {t : Nat} {rm : Nat × Nat × Nat} {cs : Nat × Nat} {R : f_Rt} {c_X12_write : Int → e_M → (e_M → Prop) → Prop} {x1 : Int} {M : e_M} (C : f_Hy sh t yX12_writeTwo rm cs 5 (lX12_writeTwo c_X12_write) R) (h : VX12_writeTwo c_X12_write (fun M => R none M) x1 M) : f_E sh t YX12_writeTwo rm cs (f_Q sh t R) 0 [.inr (.inr (.inl (12, 123, 4456))), .inl x1] [] M :=
  f_go (KC := f_kc []) C qX12_writeTwof f_kc_nil 17 0 h
def WX12_writeTwo (x1 : Int) (M : e_M) (Q : e_M → Prop) : Prop :=
  VX12_writeTwo WX12_write Q x1 M
theorem PX12_writeTwo {sh : Nat → Nat × Nat} {t : Nat} {rm : Nat × Nat × Nat} {cs : Nat × Nat} {R : f_Rt} {x1 : Int} {M : e_M} (C : f_Hy sh t yX12_writeTwo rm cs 5 (lX12_writeTwo WX12_write) R) (h : WX12_writeTwo x1 M (fun M => R none M)) : f_E sh t YX12_writeTwo rm cs (f_Q sh t R) 0 [.inr (.inr (.inl (12, 123, 4456))), .inl x1] [] M :=
  BX12_writeTwo C h
def wX12_writeTwo : f_Wt := f_wm [(4466, 12, 123), (1, 0, 0)] (fun ar M R => WX12_writeTwo (f_vi (f_nth ar 1)) M (fun M => R none M))
theorem TX12_writeTwo {sh : Nat → Nat × Nat} {t : Nat} : f_Mt sh t YX12_writeTwo 5 (wX12_writeTwo) :=
  f_Mt_of (k := 0) (Nat.le_of_ble_eq_true rfl) rfl rfl (fun ar M R rm cs h1 h2 h3 hX h => PX12_writeTwo ⟨Nat.le_of_ble_eq_true rfl, h1, h2, h3, ⟨(f_Mt.up (Nat.le_of_ble_eq_true rfl) TX12_write), trivial⟩, hX⟩ h)
def VX12_writeDay (c_X12_yearOf : Int → e_M → (Int → Prop) → Prop) (c_X12_writeNumber : Int → e_M → (e_M → Prop) → Prop) (c_X12_write : Int → e_M → (e_M → Prop) → Prop) (c_X12_monthOf : Int → e_M → (Int → Prop) → Prop) (c_X12_writeTwo : Int → e_M → (e_M → Prop) → Prop) (c_X12_dateOf : Int → e_M → (Int → Prop) → Prop) (Q : e_M → Prop) (x1 : Int) (M : e_M) : Prop :=
  (c_X12_yearOf x1 M (fun r1 => (c_X12_writeNumber r1 M (fun M2 => (c_X12_write 45 M2 (fun M3 => (c_X12_monthOf x1 M3 (fun r4 => (c_X12_writeTwo r4 M3 (fun M5 => (c_X12_write 45 M5 (fun M6 => (c_X12_dateOf x1 M6 (fun r7 => (c_X12_writeTwo r7 M6 (fun M8 => (Q M8)))))))))))))))))
def yX12_writeDay (i : Nat) : e_Y := x_get YX12_writeDay [YX12_yearOf, YX12_writeNumber, YX12_write, YX12_monthOf, YX12_writeTwo, YX12_dateOf] i
def pX12_writeDayf : List x_I := [(0, 4, 1, 0, 0, 0, []), (1, 4, 1, 0, 0, 0, []), (2, 2, 1, 1, 0, 0, []), (3, 40, 0, 2, 14, 0, []), (6, 14, 0, 0, 0, 0, []), (7, 40, 1, 2, 14, 0, []), (10, 4, 1, 0, 0, 0, []), (11, 0, 2, 0, 0, 45, []), (13, 40, 2, 2, 14, 0, []), (16, 4, 1, 0, 0, 0, []), (17, 4, 1, 0, 0, 0, []), (18, 2, 1, 1, 0, 0, []), (19, 40, 3, 2, 14, 0, []), (22, 40, 4, 2, 14, 0, []), (25, 4, 1, 0, 0, 0, []), (26, 0, 2, 0, 0, 45, []), (28, 40, 2, 2, 14, 0, []), (31, 4, 1, 0, 0, 0, []), (32, 4, 1, 0, 0, 0, []), (33, 2, 1, 1, 0, 0, []), (34, 40, 5, 2, 14, 0, []), (37, 40, 4, 2, 14, 0, []), (40, 44, 0, 0, 0, 0, [])]
set_option maxRecDepth 20000 in
theorem qX12_writeDayf : f_all yX12_writeDay YX12_writeDay pX12_writeDayf :=
  ⟨f_aload_n (n := 0) (e_dx DX12_writeDay_0 0 rfl) rfl,
  f_aload_n (n := 0) (e_dx DX12_writeDay_0 1 rfl) rfl,
  f_iload_n (n := 1) (e_dx DX12_writeDay_0 2 rfl) rfl,
  x_callV (e_dx DX12_writeDay_0 3 rfl) mwX12_yearOf vwX12_yearOf cX12_270 rfl,
  f_g14 (e_dx DX12_writeDay_0 4 rfl),
  x_callV (e_dx DX12_writeDay_0 5 rfl) mwX12_writeNumber vwX12_writeNumber cX12_922 rfl,
  f_aload_n (n := 0) (e_dx DX12_writeDay_0 6 rfl) rfl,
  f_bipush (e_dx DX12_writeDay_0 7 rfl) ⟨by decide, by decide⟩,
  x_callV (e_dx DX12_writeDay_0 8 rfl) mwX12_write vwX12_write cX12_916 rfl,
  f_aload_n (n := 0) (e_dx DX12_writeDay_0 9 rfl) rfl,
  f_aload_n (n := 0) (e_dx DX12_writeDay_0 10 rfl) rfl,
  f_iload_n (n := 1) (e_dx DX12_writeDay_0 11 rfl) rfl,
  x_callV (e_dx DX12_writeDay_0 12 rfl) mwX12_monthOf vwX12_monthOf cX12_274 rfl,
  x_callV (e_dx DX12_writeDay_0 13 rfl) mwX12_writeTwo vwX12_writeTwo cX12_929 rfl,
  f_aload_n (n := 0) (e_dx DX12_writeDay_0 14 rfl) rfl,
  f_bipush (e_dx DX12_writeDay_0 15 rfl) ⟨by decide, by decide⟩,
  x_callV (e_dx DX12_writeDay_0 16 rfl) mwX12_write vwX12_write cX12_916 rfl,
  f_aload_n (n := 0) (e_dx DX12_writeDay_0 17 rfl) rfl,
  f_aload_n (n := 0) (e_dx DX12_writeDay_0 18 rfl) rfl,
  f_iload_n (n := 1) (e_dx DX12_writeDay_0 19 rfl) rfl,
  x_callV (e_dx DX12_writeDay_0 20 rfl) mwX12_dateOf vwX12_dateOf cX12_277 rfl,
  x_callV (e_dx DX12_writeDay_0 21 rfl) mwX12_writeTwo vwX12_writeTwo cX12_929 rfl,
  ⟨(e_dx DX12_writeDay_0 22 rfl), rfl⟩, trivial⟩
def lX12_writeDay (c_X12_yearOf : Int → e_M → (Int → Prop) → Prop) (c_X12_writeNumber : Int → e_M → (e_M → Prop) → Prop) (c_X12_write : Int → e_M → (e_M → Prop) → Prop) (c_X12_monthOf : Int → e_M → (Int → Prop) → Prop) (c_X12_writeTwo : Int → e_M → (e_M → Prop) → Prop) (c_X12_dateOf : Int → e_M → (Int → Prop) → Prop) : List (Nat × f_Wt) := [(0, f_wm [(4466, 12, 123), (1, 0, 0)] (fun ar M R => c_X12_yearOf (f_vi (f_nth ar 1)) M (fun r => R (some (.inl r)) M))), (1, f_wm [(4466, 12, 123), (2, 0, 0)] (fun ar M R => c_X12_writeNumber (f_vi (f_nth ar 1)) M (fun M => R none M))), (2, f_wm [(4466, 12, 123), (1, 0, 0)] (fun ar M R => c_X12_write (f_vi (f_nth ar 1)) M (fun M => R none M))), (3, f_wm [(4466, 12, 123), (1, 0, 0)] (fun ar M R => c_X12_monthOf (f_vi (f_nth ar 1)) M (fun r => R (some (.inl r)) M))), (4, f_wm [(4466, 12, 123), (1, 0, 0)] (fun ar M R => c_X12_writeTwo (f_vi (f_nth ar 1)) M (fun M => R none M))), (5, f_wm [(4466, 12, 123), (1, 0, 0)] (fun ar M R => c_X12_dateOf (f_vi (f_nth ar 1)) M (fun r => R (some (.inl r)) M)))]
set_option maxRecDepth 20000 in
theorem BX12_writeDay {sh : Nat → Nat × Nat} {t : Nat} {rm : Nat × Nat × Nat} {cs : Nat × Nat} {R : f_Rt} {c_X12_yearOf : Int → e_M → (Int → Prop) → Prop} {c_X12_writeNumber : Int → e_M → (e_M → Prop) → Prop} {c_X12_write : Int → e_M → (e_M → Prop) → Prop} {c_X12_monthOf : Int → e_M → (Int → Prop) → Prop} {c_X12_writeTwo : Int → e_M → (e_M → Prop) → Prop} {c_X12_dateOf : Int → e_M → (Int → Prop) → Prop} {x1 : Int} {M : e_M} (C : f_Hy sh t yX12_writeDay rm cs 7 (lX12_writeDay c_X12_yearOf c_X12_writeNumber c_X12_write c_X12_monthOf c_X12_writeTwo c_X12_dateOf) R) (h : VX12_writeDay c_X12_yearOf c_X12_writeNumber c_X12_write c_X12_monthOf c_X12_writeTwo c_X12_dateOf (fun M => R none M) x1 M) : f_E sh t YX12_writeDay rm cs (f_Q sh t R) 0 [.inr (.inr (.inl (12, 123, 4456))), .inl x1] [] M :=
  f_go (KC := f_kc []) C qX12_writeDayf f_kc_nil 25 0 h
def WX12_writeDay (x1 : Int) (M : e_M) (Q : e_M → Prop) : Prop :=
  VX12_writeDay WX12_yearOf WX12_writeNumber WX12_write WX12_monthOf WX12_writeTwo WX12_dateOf Q x1 M
theorem PX12_writeDay {sh : Nat → Nat × Nat} {t : Nat} {rm : Nat × Nat × Nat} {cs : Nat × Nat} {R : f_Rt} {x1 : Int} {M : e_M} (C : f_Hy sh t yX12_writeDay rm cs 7 (lX12_writeDay WX12_yearOf WX12_writeNumber WX12_write WX12_monthOf WX12_writeTwo WX12_dateOf) R) (h : WX12_writeDay x1 M (fun M => R none M)) : f_E sh t YX12_writeDay rm cs (f_Q sh t R) 0 [.inr (.inr (.inl (12, 123, 4456))), .inl x1] [] M :=
  BX12_writeDay C h
def wX12_writeDay : f_Wt := f_wm [(4466, 12, 123), (1, 0, 0)] (fun ar M R => WX12_writeDay (f_vi (f_nth ar 1)) M (fun M => R none M))
theorem TX12_writeDay {sh : Nat → Nat × Nat} {t : Nat} : f_Mt sh t YX12_writeDay 7 (wX12_writeDay) :=
  f_Mt_of (k := 0) (Nat.le_of_ble_eq_true rfl) rfl rfl (fun ar M R rm cs h1 h2 h3 hX h => PX12_writeDay ⟨Nat.le_of_ble_eq_true rfl, h1, h2, h3, ⟨(f_Mt.up (Nat.le_of_ble_eq_true rfl) TX12_yearOf), (f_Mt.up (Nat.le_of_ble_eq_true rfl) TX12_writeNumber), (f_Mt.up (Nat.le_of_ble_eq_true rfl) TX12_write), (f_Mt.up (Nat.le_of_ble_eq_true rfl) TX12_monthOf), (f_Mt.up (Nat.le_of_ble_eq_true rfl) TX12_writeTwo), (f_Mt.up (Nat.le_of_ble_eq_true rfl) TX12_dateOf), trivial⟩, hX⟩ h)
def VX12_moreDay (c_X12_write : Int → e_M → (e_M → Prop) → Prop) (c_X12_writeDay : Int → e_M → (e_M → Prop) → Prop) (Q : e_M → Prop) (x1 : Int) (M : e_M) : Prop :=
  (c_X12_write 32 M (fun M1 => (c_X12_writeDay x1 M1 (fun M2 => (Q M2)))))
def yX12_moreDay (i : Nat) : e_Y := x_get YX12_moreDay [YX12_write, YX12_writeDay] i
def pX12_moreDayf : List x_I := [(0, 4, 1, 0, 0, 0, []), (1, 0, 2, 0, 0, 32, []), (3, 40, 0, 2, 14, 0, []), (6, 4, 1, 0, 0, 0, []), (7, 2, 1, 1, 0, 0, []), (8, 40, 1, 2, 14, 0, []), (11, 44, 0, 0, 0, 0, [])]
set_option maxRecDepth 20000 in
theorem qX12_moreDayf : f_all yX12_moreDay YX12_moreDay pX12_moreDayf :=
  ⟨f_aload_n (n := 0) (e_dx DX12_moreDay_0 0 rfl) rfl,
  f_bipush (e_dx DX12_moreDay_0 1 rfl) ⟨by decide, by decide⟩,
  x_callV (e_dx DX12_moreDay_0 2 rfl) mwX12_write vwX12_write cX12_916 rfl,
  f_aload_n (n := 0) (e_dx DX12_moreDay_0 3 rfl) rfl,
  f_iload_n (n := 1) (e_dx DX12_moreDay_0 4 rfl) rfl,
  x_callV (e_dx DX12_moreDay_0 5 rfl) mwX12_writeDay vwX12_writeDay cX12_935 rfl,
  ⟨(e_dx DX12_moreDay_0 6 rfl), rfl⟩, trivial⟩
def lX12_moreDay (c_X12_write : Int → e_M → (e_M → Prop) → Prop) (c_X12_writeDay : Int → e_M → (e_M → Prop) → Prop) : List (Nat × f_Wt) := [(0, f_wm [(4466, 12, 123), (1, 0, 0)] (fun ar M R => c_X12_write (f_vi (f_nth ar 1)) M (fun M => R none M))), (1, f_wm [(4466, 12, 123), (1, 0, 0)] (fun ar M R => c_X12_writeDay (f_vi (f_nth ar 1)) M (fun M => R none M)))]
set_option maxRecDepth 20000 in
theorem BX12_moreDay {sh : Nat → Nat × Nat} {t : Nat} {rm : Nat × Nat × Nat} {cs : Nat × Nat} {R : f_Rt} {c_X12_write : Int → e_M → (e_M → Prop) → Prop} {c_X12_writeDay : Int → e_M → (e_M → Prop) → Prop} {x1 : Int} {M : e_M} (C : f_Hy sh t yX12_moreDay rm cs 8 (lX12_moreDay c_X12_write c_X12_writeDay) R) (h : VX12_moreDay c_X12_write c_X12_writeDay (fun M => R none M) x1 M) : f_E sh t YX12_moreDay rm cs (f_Q sh t R) 0 [.inr (.inr (.inl (12, 123, 4456))), .inl x1] [] M :=
  f_go (KC := f_kc []) C qX12_moreDayf f_kc_nil 9 0 h
def WX12_moreDay (x1 : Int) (M : e_M) (Q : e_M → Prop) : Prop :=
  VX12_moreDay WX12_write WX12_writeDay Q x1 M
theorem PX12_moreDay {sh : Nat → Nat × Nat} {t : Nat} {rm : Nat × Nat × Nat} {cs : Nat × Nat} {R : f_Rt} {x1 : Int} {M : e_M} (C : f_Hy sh t yX12_moreDay rm cs 8 (lX12_moreDay WX12_write WX12_writeDay) R) (h : WX12_moreDay x1 M (fun M => R none M)) : f_E sh t YX12_moreDay rm cs (f_Q sh t R) 0 [.inr (.inr (.inl (12, 123, 4456))), .inl x1] [] M :=
  BX12_moreDay C h
def wX12_moreDay : f_Wt := f_wm [(4466, 12, 123), (1, 0, 0)] (fun ar M R => WX12_moreDay (f_vi (f_nth ar 1)) M (fun M => R none M))
theorem TX12_moreDay {sh : Nat → Nat × Nat} {t : Nat} : f_Mt sh t YX12_moreDay 8 (wX12_moreDay) :=
  f_Mt_of (k := 0) (Nat.le_of_ble_eq_true rfl) rfl rfl (fun ar M R rm cs h1 h2 h3 hX h => PX12_moreDay ⟨Nat.le_of_ble_eq_true rfl, h1, h2, h3, ⟨(f_Mt.up (Nat.le_of_ble_eq_true rfl) TX12_write), (f_Mt.up (Nat.le_of_ble_eq_true rfl) TX12_writeDay), trivial⟩, hX⟩ h)
def VX12_showLot_38 (c_X12_lineOf : Int → Int → e_M → (e_M → Prop) → Prop) (c_X12_areaOf : Int → Int → e_M → (Int → Prop) → Prop) (c_X12_moreNumber : Int → e_M → (e_M → Prop) → Prop) (c_X12_write : Int → e_M → (e_M → Prop) → Prop) (c_X12_writeWord : Int → e_M → (e_M → Prop) → Prop) (c_X12_writeNumber : Int → e_M → (e_M → Prop) → Prop) (c_X12_id : Int → Int → e_M → (Int → Prop) → Prop) (c_X12_share : Int → Int → Int → e_M → (e_M → Prop) → Prop) (c_X12_debt : Int → e_M → (e_M → Prop) → Prop) (c_X12_isHere : Int → Int → e_M → (Int → Prop) → Prop) (c_X12_placeOf : Int → Int → e_M → (Int → Prop) → Prop) (c_X12_served : Int → Int → e_M → (e_M → Prop) → Prop) (c_X12_placeOn : Int → Int → e_M → (Int → Prop) → Prop) (c_X12_wordOf : Int → e_M → (Int → Prop) → Prop) (c_X12_begin : Int → Int → e_M → (e_M → Prop) → Prop) (c_X12_more : Int → e_M → (e_M → Prop) → Prop) (c_X12_moreDay : Int → e_M → (e_M → Prop) → Prop) (k118 : Int → Int → e_M → Prop) (k38 : Int → Int → e_M → Prop) (Q : e_M → Prop) (x1 : Int) (x2 : Int) (M : e_M) : Prop :=
  ((0 ≤ x1 ∧ x1 < 80) ∧ (((M 4496 (x1.toNat)) ≤ x2 → (c_X12_write 10 M (fun M1 => (k118 x1 0 M1)))) ∧ (x2 < (M 4496 (x1.toNat)) → (c_X12_write 32 M (fun M2 => (c_X12_write 40 M2 (fun M3 => ((0 ≤ (e_w32 ((e_w32 ((40 : Int) * x1)) + x2)) ∧ (e_w32 ((e_w32 ((40 : Int) * x1)) + x2)) < 4800) ∧ (c_X12_writeNumber (M3 4480 ((e_w32 ((e_w32 ((40 : Int) * x1)) + x2)).toNat)) M3 (fun M4 => (c_X12_write 44 M4 (fun M5 => ((0 ≤ (e_w32 ((e_w32 ((40 : Int) * x1)) + x2)) ∧ (e_w32 ((e_w32 ((40 : Int) * x1)) + x2)) < 4800) ∧ (c_X12_writeNumber (M5 4481 ((e_w32 ((e_w32 ((40 : Int) * x1)) + x2)).toNat)) M5 (fun M6 => (c_X12_write 41 M6 (fun M7 => (k38 x1 (e_w32 (x2 + 1)) M7))))))))))))))))))
def VX12_showLot_118 (c_X12_lineOf : Int → Int → e_M → (e_M → Prop) → Prop) (c_X12_areaOf : Int → Int → e_M → (Int → Prop) → Prop) (c_X12_moreNumber : Int → e_M → (e_M → Prop) → Prop) (c_X12_write : Int → e_M → (e_M → Prop) → Prop) (c_X12_writeWord : Int → e_M → (e_M → Prop) → Prop) (c_X12_writeNumber : Int → e_M → (e_M → Prop) → Prop) (c_X12_id : Int → Int → e_M → (Int → Prop) → Prop) (c_X12_share : Int → Int → Int → e_M → (e_M → Prop) → Prop) (c_X12_debt : Int → e_M → (e_M → Prop) → Prop) (c_X12_isHere : Int → Int → e_M → (Int → Prop) → Prop) (c_X12_placeOf : Int → Int → e_M → (Int → Prop) → Prop) (c_X12_served : Int → Int → e_M → (e_M → Prop) → Prop) (c_X12_placeOn : Int → Int → e_M → (Int → Prop) → Prop) (c_X12_wordOf : Int → e_M → (Int → Prop) → Prop) (c_X12_begin : Int → Int → e_M → (e_M → Prop) → Prop) (c_X12_more : Int → e_M → (e_M → Prop) → Prop) (c_X12_moreDay : Int → e_M → (e_M → Prop) → Prop) (k177 : Int → Int → e_M → Prop) (k118 : Int → Int → e_M → Prop) (Q : e_M → Prop) (x1 : Int) (x2 : Int) (M : e_M) : Prop :=
  ((0 ≤ x1 ∧ x1 < 80) ∧ (((M 4497 (x1.toNat)) ≤ x2 → (k177 x1 0 M)) ∧ (x2 < (M 4497 (x1.toNat)) → ((0 ≤ (e_w32 ((e_w32 ((8 : Int) * x1)) + x2)) ∧ (e_w32 ((e_w32 ((8 : Int) * x1)) + x2)) < 640) ∧ (c_X12_id 1 (M 4498 ((e_w32 ((e_w32 ((8 : Int) * x1)) + x2)).toNat)) M (fun r1 => ((0 ≤ (e_w32 ((e_w32 ((8 : Int) * x1)) + x2)) ∧ (e_w32 ((e_w32 ((8 : Int) * x1)) + x2)) < 640) ∧ ((0 ≤ (e_w32 ((e_w32 ((8 : Int) * x1)) + x2)) ∧ (e_w32 ((e_w32 ((8 : Int) * x1)) + x2)) < 640) ∧ (c_X12_share r1 (M 4501 ((e_w32 ((e_w32 ((8 : Int) * x1)) + x2)).toNat)) (M 4502 ((e_w32 ((e_w32 ((8 : Int) * x1)) + x2)).toNat)) M (fun M2 => (k118 x1 (e_w32 (x2 + 1)) M2)))))))))))
def VX12_showLot_177 (c_X12_lineOf : Int → Int → e_M → (e_M → Prop) → Prop) (c_X12_areaOf : Int → Int → e_M → (Int → Prop) → Prop) (c_X12_moreNumber : Int → e_M → (e_M → Prop) → Prop) (c_X12_write : Int → e_M → (e_M → Prop) → Prop) (c_X12_writeWord : Int → e_M → (e_M → Prop) → Prop) (c_X12_writeNumber : Int → e_M → (e_M → Prop) → Prop) (c_X12_id : Int → Int → e_M → (Int → Prop) → Prop) (c_X12_share : Int → Int → Int → e_M → (e_M → Prop) → Prop) (c_X12_debt : Int → e_M → (e_M → Prop) → Prop) (c_X12_isHere : Int → Int → e_M → (Int → Prop) → Prop) (c_X12_placeOf : Int → Int → e_M → (Int → Prop) → Prop) (c_X12_served : Int → Int → e_M → (e_M → Prop) → Prop) (c_X12_placeOn : Int → Int → e_M → (Int → Prop) → Prop) (c_X12_wordOf : Int → e_M → (Int → Prop) → Prop) (c_X12_begin : Int → Int → e_M → (e_M → Prop) → Prop) (c_X12_more : Int → e_M → (e_M → Prop) → Prop) (c_X12_moreDay : Int → e_M → (e_M → Prop) → Prop) (k210 : Int → Int → e_M → Prop) (k177 : Int → Int → e_M → Prop) (Q : e_M → Prop) (x1 : Int) (x2 : Int) (M : e_M) : Prop :=
  ((0 ≤ x1 ∧ x1 < 80) ∧ (((M 4499 (x1.toNat)) ≤ x2 → (k210 x1 0 M)) ∧ (x2 < (M 4499 (x1.toNat)) → ((0 ≤ (e_w32 ((e_w32 ((8 : Int) * x1)) + x2)) ∧ (e_w32 ((e_w32 ((8 : Int) * x1)) + x2)) < 640) ∧ (c_X12_debt (M 4500 ((e_w32 ((e_w32 ((8 : Int) * x1)) + x2)).toNat)) M (fun M1 => (k177 x1 (e_w32 (x2 + 1)) M1)))))))
def VX12_showLot_210 (c_X12_lineOf : Int → Int → e_M → (e_M → Prop) → Prop) (c_X12_areaOf : Int → Int → e_M → (Int → Prop) → Prop) (c_X12_moreNumber : Int → e_M → (e_M → Prop) → Prop) (c_X12_write : Int → e_M → (e_M → Prop) → Prop) (c_X12_writeWord : Int → e_M → (e_M → Prop) → Prop) (c_X12_writeNumber : Int → e_M → (e_M → Prop) → Prop) (c_X12_id : Int → Int → e_M → (Int → Prop) → Prop) (c_X12_share : Int → Int → Int → e_M → (e_M → Prop) → Prop) (c_X12_debt : Int → e_M → (e_M → Prop) → Prop) (c_X12_isHere : Int → Int → e_M → (Int → Prop) → Prop) (c_X12_placeOf : Int → Int → e_M → (Int → Prop) → Prop) (c_X12_served : Int → Int → e_M → (e_M → Prop) → Prop) (c_X12_placeOn : Int → Int → e_M → (Int → Prop) → Prop) (c_X12_wordOf : Int → e_M → (Int → Prop) → Prop) (c_X12_begin : Int → Int → e_M → (e_M → Prop) → Prop) (c_X12_more : Int → e_M → (e_M → Prop) → Prop) (c_X12_moreDay : Int → e_M → (e_M → Prop) → Prop) (k257 : Int → Int → e_M → Prop) (k249 : Int → Int → e_M → Prop) (Q : e_M → Prop) (x1 : Int) (x2 : Int) (M : e_M) : Prop :=
  ((0 ≤ (3 : Int) ∧ (3 : Int) < 7) ∧ (((M 4483 ((3 : Int).toNat)) ≤ x2 → (k257 x1 0 M)) ∧ (x2 < (M 4483 ((3 : Int).toNat)) → (c_X12_isHere 3 x2 M (fun r1 => ((r1 = 0 → (k249 x1 x2 M)) ∧ (¬ r1 = 0 → (c_X12_id 3 x2 M (fun r2 => (c_X12_placeOf r2 x1 M (fun r3 => ((r3 < 0 → (k249 x1 x2 M)) ∧ (0 ≤ r3 → (c_X12_served x2 26 M (fun M4 => (k249 x1 x2 M4))))))))))))))))
def VX12_showLot_249 (c_X12_lineOf : Int → Int → e_M → (e_M → Prop) → Prop) (c_X12_areaOf : Int → Int → e_M → (Int → Prop) → Prop) (c_X12_moreNumber : Int → e_M → (e_M → Prop) → Prop) (c_X12_write : Int → e_M → (e_M → Prop) → Prop) (c_X12_writeWord : Int → e_M → (e_M → Prop) → Prop) (c_X12_writeNumber : Int → e_M → (e_M → Prop) → Prop) (c_X12_id : Int → Int → e_M → (Int → Prop) → Prop) (c_X12_share : Int → Int → Int → e_M → (e_M → Prop) → Prop) (c_X12_debt : Int → e_M → (e_M → Prop) → Prop) (c_X12_isHere : Int → Int → e_M → (Int → Prop) → Prop) (c_X12_placeOf : Int → Int → e_M → (Int → Prop) → Prop) (c_X12_served : Int → Int → e_M → (e_M → Prop) → Prop) (c_X12_placeOn : Int → Int → e_M → (Int → Prop) → Prop) (c_X12_wordOf : Int → e_M → (Int → Prop) → Prop) (c_X12_begin : Int → Int → e_M → (e_M → Prop) → Prop) (c_X12_more : Int → e_M → (e_M → Prop) → Prop) (c_X12_moreDay : Int → e_M → (e_M → Prop) → Prop) (k210 : Int → Int → e_M → Prop) (Q : e_M → Prop) (x1 : Int) (x2 : Int) (M : e_M) : Prop :=
  (k210 x1 (e_w32 (x2 + 1)) M)
def VX12_showLot_257 (c_X12_lineOf : Int → Int → e_M → (e_M → Prop) → Prop) (c_X12_areaOf : Int → Int → e_M → (Int → Prop) → Prop) (c_X12_moreNumber : Int → e_M → (e_M → Prop) → Prop) (c_X12_write : Int → e_M → (e_M → Prop) → Prop) (c_X12_writeWord : Int → e_M → (e_M → Prop) → Prop) (c_X12_writeNumber : Int → e_M → (e_M → Prop) → Prop) (c_X12_id : Int → Int → e_M → (Int → Prop) → Prop) (c_X12_share : Int → Int → Int → e_M → (e_M → Prop) → Prop) (c_X12_debt : Int → e_M → (e_M → Prop) → Prop) (c_X12_isHere : Int → Int → e_M → (Int → Prop) → Prop) (c_X12_placeOf : Int → Int → e_M → (Int → Prop) → Prop) (c_X12_served : Int → Int → e_M → (e_M → Prop) → Prop) (c_X12_placeOn : Int → Int → e_M → (Int → Prop) → Prop) (c_X12_wordOf : Int → e_M → (Int → Prop) → Prop) (c_X12_begin : Int → Int → e_M → (e_M → Prop) → Prop) (c_X12_more : Int → e_M → (e_M → Prop) → Prop) (c_X12_moreDay : Int → e_M → (e_M → Prop) → Prop) (k304 : Int → Int → e_M → Prop) (k296 : Int → Int → e_M → Prop) (Q : e_M → Prop) (x1 : Int) (x2 : Int) (M : e_M) : Prop :=
  ((0 ≤ (3 : Int) ∧ (3 : Int) < 7) ∧ (((M 4483 ((3 : Int).toNat)) ≤ x2 → (k304 x1 4 M)) ∧ (x2 < (M 4483 ((3 : Int).toNat)) → (c_X12_isHere 3 x2 M (fun r1 => ((r1 = 0 → (k296 x1 x2 M)) ∧ (¬ r1 = 0 → (c_X12_id 3 x2 M (fun r2 => (c_X12_placeOn r2 x1 M (fun r3 => ((r3 < 0 → (k296 x1 x2 M)) ∧ (0 ≤ r3 → (c_X12_served x2 27 M (fun M4 => (k296 x1 x2 M4))))))))))))))))
def VX12_showLot_296 (c_X12_lineOf : Int → Int → e_M → (e_M → Prop) → Prop) (c_X12_areaOf : Int → Int → e_M → (Int → Prop) → Prop) (c_X12_moreNumber : Int → e_M → (e_M → Prop) → Prop) (c_X12_write : Int → e_M → (e_M → Prop) → Prop) (c_X12_writeWord : Int → e_M → (e_M → Prop) → Prop) (c_X12_writeNumber : Int → e_M → (e_M → Prop) → Prop) (c_X12_id : Int → Int → e_M → (Int → Prop) → Prop) (c_X12_share : Int → Int → Int → e_M → (e_M → Prop) → Prop) (c_X12_debt : Int → e_M → (e_M → Prop) → Prop) (c_X12_isHere : Int → Int → e_M → (Int → Prop) → Prop) (c_X12_placeOf : Int → Int → e_M → (Int → Prop) → Prop) (c_X12_served : Int → Int → e_M → (e_M → Prop) → Prop) (c_X12_placeOn : Int → Int → e_M → (Int → Prop) → Prop) (c_X12_wordOf : Int → e_M → (Int → Prop) → Prop) (c_X12_begin : Int → Int → e_M → (e_M → Prop) → Prop) (c_X12_more : Int → e_M → (e_M → Prop) → Prop) (c_X12_moreDay : Int → e_M → (e_M → Prop) → Prop) (k257 : Int → Int → e_M → Prop) (Q : e_M → Prop) (x1 : Int) (x2 : Int) (M : e_M) : Prop :=
  (k257 x1 (e_w32 (x2 + 1)) M)
def VX12_showLot_304 (c_X12_lineOf : Int → Int → e_M → (e_M → Prop) → Prop) (c_X12_areaOf : Int → Int → e_M → (Int → Prop) → Prop) (c_X12_moreNumber : Int → e_M → (e_M → Prop) → Prop) (c_X12_write : Int → e_M → (e_M → Prop) → Prop) (c_X12_writeWord : Int → e_M → (e_M → Prop) → Prop) (c_X12_writeNumber : Int → e_M → (e_M → Prop) → Prop) (c_X12_id : Int → Int → e_M → (Int → Prop) → Prop) (c_X12_share : Int → Int → Int → e_M → (e_M → Prop) → Prop) (c_X12_debt : Int → e_M → (e_M → Prop) → Prop) (c_X12_isHere : Int → Int → e_M → (Int → Prop) → Prop) (c_X12_placeOf : Int → Int → e_M → (Int → Prop) → Prop) (c_X12_served : Int → Int → e_M → (e_M → Prop) → Prop) (c_X12_placeOn : Int → Int → e_M → (Int → Prop) → Prop) (c_X12_wordOf : Int → e_M → (Int → Prop) → Prop) (c_X12_begin : Int → Int → e_M → (e_M → Prop) → Prop) (c_X12_more : Int → e_M → (e_M → Prop) → Prop) (c_X12_moreDay : Int → e_M → (e_M → Prop) → Prop) (k312 : Int → Int → Int → e_M → Prop) (Q : e_M → Prop) (x1 : Int) (x2 : Int) (M : e_M) : Prop :=
  ((6 < x2 → (Q M)) ∧ (x2 ≤ 6 → (k312 x1 x2 0 M)))
def VX12_showLot_312 (c_X12_lineOf : Int → Int → e_M → (e_M → Prop) → Prop) (c_X12_areaOf : Int → Int → e_M → (Int → Prop) → Prop) (c_X12_moreNumber : Int → e_M → (e_M → Prop) → Prop) (c_X12_write : Int → e_M → (e_M → Prop) → Prop) (c_X12_writeWord : Int → e_M → (e_M → Prop) → Prop) (c_X12_writeNumber : Int → e_M → (e_M → Prop) → Prop) (c_X12_id : Int → Int → e_M → (Int → Prop) → Prop) (c_X12_share : Int → Int → Int → e_M → (e_M → Prop) → Prop) (c_X12_debt : Int → e_M → (e_M → Prop) → Prop) (c_X12_isHere : Int → Int → e_M → (Int → Prop) → Prop) (c_X12_placeOf : Int → Int → e_M → (Int → Prop) → Prop) (c_X12_served : Int → Int → e_M → (e_M → Prop) → Prop) (c_X12_placeOn : Int → Int → e_M → (Int → Prop) → Prop) (c_X12_wordOf : Int → e_M → (Int → Prop) → Prop) (c_X12_begin : Int → Int → e_M → (e_M → Prop) → Prop) (c_X12_more : Int → e_M → (e_M → Prop) → Prop) (c_X12_moreDay : Int → e_M → (e_M → Prop) → Prop) (k304 : Int → Int → e_M → Prop) (k398 : Int → Int → Int → e_M → Prop) (k392 : Int → Int → Int → e_M → Prop) (Q : e_M → Prop) (x1 : Int) (x2 : Int) (x3 : Int) (M : e_M) : Prop :=
  ((0 ≤ x2 ∧ x2 < 7) ∧ (((M 4483 (x2.toNat)) ≤ x3 → (k304 x1 (e_w32 (x2 + 1)) M)) ∧ (x3 < (M 4483 (x2.toNat)) → (c_X12_id x2 x3 M (fun r1 => (c_X12_isHere x2 x3 M (fun r2 => ((r2 = 0 → (k398 x1 x2 x3 M)) ∧ (¬ r2 = 0 → (c_X12_placeOn r1 x1 M (fun r3 => ((0 ≤ r3 → (c_X12_wordOf x2 M (fun r4 => (c_X12_begin r4 r1 M (fun M5 => ((0 ≤ r1 ∧ r1 < 560) ∧ (c_X12_id 1 (M5 4489 (r1.toNat)) M5 (fun r6 => (c_X12_more r6 M5 (fun M7 => ((x2 = 5 → (k392 x1 x2 x3 M7)) ∧ (¬ x2 = 5 → ((0 ≤ r1 ∧ r1 < 560) ∧ (c_X12_moreDay (M7 4487 (r1.toNat)) M7 (fun M8 => (k392 x1 x2 x3 M8)))))))))))))))) ∧ (r3 < 0 → (k398 x1 x2 x3 M))))))))))))))
def VX12_showLot_392 (c_X12_lineOf : Int → Int → e_M → (e_M → Prop) → Prop) (c_X12_areaOf : Int → Int → e_M → (Int → Prop) → Prop) (c_X12_moreNumber : Int → e_M → (e_M → Prop) → Prop) (c_X12_write : Int → e_M → (e_M → Prop) → Prop) (c_X12_writeWord : Int → e_M → (e_M → Prop) → Prop) (c_X12_writeNumber : Int → e_M → (e_M → Prop) → Prop) (c_X12_id : Int → Int → e_M → (Int → Prop) → Prop) (c_X12_share : Int → Int → Int → e_M → (e_M → Prop) → Prop) (c_X12_debt : Int → e_M → (e_M → Prop) → Prop) (c_X12_isHere : Int → Int → e_M → (Int → Prop) → Prop) (c_X12_placeOf : Int → Int → e_M → (Int → Prop) → Prop) (c_X12_served : Int → Int → e_M → (e_M → Prop) → Prop) (c_X12_placeOn : Int → Int → e_M → (Int → Prop) → Prop) (c_X12_wordOf : Int → e_M → (Int → Prop) → Prop) (c_X12_begin : Int → Int → e_M → (e_M → Prop) → Prop) (c_X12_more : Int → e_M → (e_M → Prop) → Prop) (c_X12_moreDay : Int → e_M → (e_M → Prop) → Prop) (k398 : Int → Int → Int → e_M → Prop) (Q : e_M → Prop) (x1 : Int) (x2 : Int) (x3 : Int) (M : e_M) : Prop :=
  (c_X12_write 10 M (fun M1 => (k398 x1 x2 x3 M1)))
def VX12_showLot_398 (c_X12_lineOf : Int → Int → e_M → (e_M → Prop) → Prop) (c_X12_areaOf : Int → Int → e_M → (Int → Prop) → Prop) (c_X12_moreNumber : Int → e_M → (e_M → Prop) → Prop) (c_X12_write : Int → e_M → (e_M → Prop) → Prop) (c_X12_writeWord : Int → e_M → (e_M → Prop) → Prop) (c_X12_writeNumber : Int → e_M → (e_M → Prop) → Prop) (c_X12_id : Int → Int → e_M → (Int → Prop) → Prop) (c_X12_share : Int → Int → Int → e_M → (e_M → Prop) → Prop) (c_X12_debt : Int → e_M → (e_M → Prop) → Prop) (c_X12_isHere : Int → Int → e_M → (Int → Prop) → Prop) (c_X12_placeOf : Int → Int → e_M → (Int → Prop) → Prop) (c_X12_served : Int → Int → e_M → (e_M → Prop) → Prop) (c_X12_placeOn : Int → Int → e_M → (Int → Prop) → Prop) (c_X12_wordOf : Int → e_M → (Int → Prop) → Prop) (c_X12_begin : Int → Int → e_M → (e_M → Prop) → Prop) (c_X12_more : Int → e_M → (e_M → Prop) → Prop) (c_X12_moreDay : Int → e_M → (e_M → Prop) → Prop) (k312 : Int → Int → Int → e_M → Prop) (Q : e_M → Prop) (x1 : Int) (x2 : Int) (x3 : Int) (M : e_M) : Prop :=
  (k312 x1 x2 (e_w32 (x3 + 1)) M)
def VX12_showLot (c_X12_lineOf : Int → Int → e_M → (e_M → Prop) → Prop) (c_X12_areaOf : Int → Int → e_M → (Int → Prop) → Prop) (c_X12_moreNumber : Int → e_M → (e_M → Prop) → Prop) (c_X12_write : Int → e_M → (e_M → Prop) → Prop) (c_X12_writeWord : Int → e_M → (e_M → Prop) → Prop) (c_X12_writeNumber : Int → e_M → (e_M → Prop) → Prop) (c_X12_id : Int → Int → e_M → (Int → Prop) → Prop) (c_X12_share : Int → Int → Int → e_M → (e_M → Prop) → Prop) (c_X12_debt : Int → e_M → (e_M → Prop) → Prop) (c_X12_isHere : Int → Int → e_M → (Int → Prop) → Prop) (c_X12_placeOf : Int → Int → e_M → (Int → Prop) → Prop) (c_X12_served : Int → Int → e_M → (e_M → Prop) → Prop) (c_X12_placeOn : Int → Int → e_M → (Int → Prop) → Prop) (c_X12_wordOf : Int → e_M → (Int → Prop) → Prop) (c_X12_begin : Int → Int → e_M → (e_M → Prop) → Prop) (c_X12_more : Int → e_M → (e_M → Prop) → Prop) (c_X12_moreDay : Int → e_M → (e_M → Prop) → Prop) (k38 : Int → Int → e_M → Prop) (Q : e_M → Prop) (x1 : Int) (M : e_M) : Prop :=
  (c_X12_lineOf 0 x1 M (fun M1 => ((0 ≤ x1 ∧ x1 < 80) ∧ (c_X12_areaOf (e_w32 ((40 : Int) * x1)) (M1 4496 (x1.toNat)) M1 (fun r2 => (c_X12_moreNumber r2 M1 (fun M3 => (c_X12_write 10 M3 (fun M4 => (c_X12_writeWord 28 M4 (fun M5 => (k38 x1 0 M5))))))))))))
def yX12_showLot (i : Nat) : e_Y := x_get YX12_showLot [YX12_lineOf, YX12_areaOf, YX12_moreNumber, YX12_write, YX12_writeWord, YX12_writeNumber, YX12_id, YX12_share, YX12_debt, YX12_isHere, YX12_placeOf, YX12_served, YX12_placeOn, YX12_wordOf, YX12_begin, YX12_more, YX12_moreDay] i
def pX12_showLotf : List x_I := [(0, 4, 1, 0, 0, 0, []), (1, 0, 1, 0, 0, 0, []), (2, 2, 1, 1, 0, 0, []), (3, 40, 0, 3, 14, 0, []), (6, 4, 1, 0, 0, 0, []), (7, 4, 1, 0, 0, 0, []), (8, 0, 2, 0, 0, 40, []), (10, 2, 1, 1, 0, 0, []), (11, 9, 0, 2, 0, 0, []), (12, 4, 1, 0, 0, 0, []), (13, 25, 12, 63, 4, 0, [(0, 20, 80), (0, 1, 40)]), (16, 2, 1, 1, 0, 0, []), (17, 27, 0, 0, 0, 0, []), (18, 40, 1, 3, 14, 0, []), (21, 40, 2, 2, 14, 0, []), (24, 4, 1, 0, 0, 0, []), (25, 0, 2, 0, 0, 10, []), (27, 40, 3, 2, 14, 0, []), (30, 4, 1, 0, 0, 0, []), (31, 0, 2, 0, 0, 28, []), (33, 40, 4, 2, 14, 0, []), (36, 0, 1, 0, 0, 0, []), (37, 5, 1, 2, 0, 0, []), (38, 49, 0, 0, 0, 0, []), (38, 2, 1, 2, 0, 0, []), (39, 4, 1, 0, 0, 0, []), (40, 25, 12, 63, 4, 0, [(0, 20, 80), (0, 1, 40)]), (43, 2, 1, 1, 0, 0, []), (44, 27, 0, 0, 0, 0, []), (45, 18, 110, 3, 67, 0, []), (48, 4, 1, 0, 0, 0, []), (49, 0, 2, 0, 0, 32, []), (51, 40, 3, 2, 14, 0, []), (54, 4, 1, 0, 0, 0, []), (55, 0, 2, 0, 0, 40, []), (57, 40, 3, 2, 14, 0, []), (60, 4, 1, 0, 0, 0, []), (61, 4, 1, 0, 0, 0, []), (62, 25, 12, 40, 4, 0, [(0, 20, 4800), (0, 1, 24)]), (65, 0, 2, 0, 0, 40, []), (67, 2, 1, 1, 0, 0, []), (68, 9, 0, 2, 0, 0, []), (69, 2, 1, 2, 0, 0, []), (70, 9, 0, 0, 0, 0, []), (71, 27, 0, 0, 0, 0, []), (72, 14, 0, 0, 0, 0, []), (73, 40, 5, 2, 14, 0, []), (76, 4, 1, 0, 0, 0, []), (77, 0, 2, 0, 0, 44, []), (79, 40, 3, 2, 14, 0, []), (82, 4, 1, 0, 0, 0, []), (83, 4, 1, 0, 0, 0, []), (84, 25, 12, 41, 4, 0, [(0, 20, 4800), (0, 1, 25)]), (87, 0, 2, 0, 0, 40, []), (89, 2, 1, 1, 0, 0, []), (90, 9, 0, 2, 0, 0, []), (91, 2, 1, 2, 0, 0, []), (92, 9, 0, 0, 0, 0, []), (93, 27, 0, 0, 0, 0, []), (94, 14, 0, 0, 0, 0, []), (95, 40, 5, 2, 14, 0, []), (98, 4, 1, 0, 0, 0, []), (99, 0, 2, 0, 0, 41, []), (101, 40, 3, 2, 14, 0, []), (104, 8, 0, 2, 0, 1, []), (107, 19, 38, 0, 24, 0, []), (110, 4, 1, 0, 0, 0, []), (111, 0, 2, 0, 0, 10, []), (113, 40, 3, 2, 14, 0, []), (116, 0, 1, 0, 0, 0, []), (117, 5, 1, 2, 0, 0, []), (118, 49, 0, 0, 0, 0, []), (118, 2, 1, 2, 0, 0, []), (119, 4, 1, 0, 0, 0, []), (120, 25, 12, 64, 4, 0, [(0, 20, 80), (0, 1, 41)]), (123, 2, 1, 1, 0, 0, []), (124, 27, 0, 0, 0, 0, []), (125, 18, 175, 3, 109, 0, []), (128, 4, 1, 0, 0, 0, []), (129, 0, 1, 0, 0, 1, []), (130, 4, 1, 0, 0, 0, []), (131, 25, 12, 65, 4, 0, [(0, 20, 640), (0, 1, 42)]), (134, 0, 2, 0, 0, 8, []), (136, 2, 1, 1, 0, 0, []), (137, 9, 0, 2, 0, 0, []), (138, 2, 1, 2, 0, 0, []), (139, 9, 0, 0, 0, 0, []), (140, 27, 0, 0, 0, 0, []), (141, 40, 6, 2, 0, 0, []), (144, 4, 1, 0, 0, 0, []), (145, 25, 12, 68, 4, 0, [(0, 23, 640), (0, 1, 45)]), (148, 0, 2, 0, 0, 8, []), (150, 2, 1, 1, 0, 0, []), (151, 9, 0, 2, 0, 0, []), (152, 2, 1, 2, 0, 0, []), (153, 9, 0, 0, 0, 0, []), (154, 27, 0, 1, 0, 0, []), (155, 4, 1, 0, 0, 0, []), (156, 25, 12, 69, 4, 0, [(0, 23, 640), (0, 1, 46)]), (159, 0, 2, 0, 0, 8, []), (161, 2, 1, 1, 0, 0, []), (162, 9, 0, 2, 0, 0, []), (163, 2, 1, 2, 0, 0, []), (164, 9, 0, 0, 0, 0, []), (165, 27, 0, 1, 0, 0, []), (166, 40, 7, 4, 14, 0, []), (169, 8, 0, 2, 0, 1, []), (172, 19, 118, 0, 72, 0, []), (175, 0, 1, 0, 0, 0, []), (176, 5, 1, 2, 0, 0, []), (177, 49, 0, 0, 0, 0, []), (177, 2, 1, 2, 0, 0, []), (178, 4, 1, 0, 0, 0, []), (179, 25, 12, 66, 4, 0, [(0, 20, 80), (0, 1, 43)]), (182, 2, 1, 1, 0, 0, []), (183, 27, 0, 0, 0, 0, []), (184, 18, 208, 3, 130, 0, []), (187, 4, 1, 0, 0, 0, []), (188, 4, 1, 0, 0, 0, []), (189, 25, 12, 67, 4, 0, [(0, 20, 640), (0, 1, 44)]), (192, 0, 2, 0, 0, 8, []), (194, 2, 1, 1, 0, 0, []), (195, 9, 0, 2, 0, 0, []), (196, 2, 1, 2, 0, 0, []), (197, 9, 0, 0, 0, 0, []), (198, 27, 0, 0, 0, 0, []), (199, 40, 8, 2, 14, 0, []), (202, 8, 0, 2, 0, 1, []), (205, 19, 177, 0, 111, 0, []), (208, 0, 1, 0, 0, 0, []), (209, 5, 1, 2, 0, 0, []), (210, 49, 0, 0, 0, 0, []), (210, 2, 1, 2, 0, 0, []), (211, 4, 1, 0, 0, 0, []), (212, 25, 12, 50, 4, 0, [(0, 20, 7), (0, 1, 27)]), (215, 0, 1, 0, 0, 3, []), (216, 27, 0, 0, 0, 0, []), (217, 18, 255, 3, 158, 0, []), (220, 4, 1, 0, 0, 0, []), (221, 0, 1, 0, 0, 3, []), (222, 2, 1, 2, 0, 0, []), (223, 40, 9, 3, 14, 0, []), (226, 17, 249, 0, 155, 0, []), (229, 4, 1, 0, 0, 0, []), (230, 0, 1, 0, 0, 3, []), (231, 2, 1, 2, 0, 0, []), (232, 40, 6, 2, 0, 0, []), (235, 2, 1, 1, 0, 0, []), (236, 40, 10, 3, 14, 0, []), (239, 17, 249, 2, 155, 0, []), (242, 4, 1, 0, 0, 0, []), (243, 2, 1, 2, 0, 0, []), (244, 0, 2, 0, 0, 26, []), (246, 40, 11, 3, 14, 0, []), (249, 49, 0, 0, 0, 0, []), (249, 8, 0, 2, 0, 1, []), (252, 19, 210, 0, 132, 0, []), (255, 0, 1, 0, 0, 0, []), (256, 5, 1, 2, 0, 0, []), (257, 49, 0, 0, 0, 0, []), (257, 2, 1, 2, 0, 0, []), (258, 4, 1, 0, 0, 0, []), (259, 25, 12, 50, 4, 0, [(0, 20, 7), (0, 1, 27)]), (262, 0, 1, 0, 0, 3, []), (263, 27, 0, 0, 0, 0, []), (264, 18, 302, 3, 186, 0, []), (267, 4, 1, 0, 0, 0, []), (268, 0, 1, 0, 0, 3, []), (269, 2, 1, 2, 0, 0, []), (270, 40, 9, 3, 14, 0, []), (273, 17, 296, 0, 183, 0, []), (276, 4, 1, 0, 0, 0, []), (277, 0, 1, 0, 0, 3, []), (278, 2, 1, 2, 0, 0, []), (279, 40, 6, 2, 0, 0, []), (282, 2, 1, 1, 0, 0, []), (283, 40, 12, 3, 14, 0, []), (286, 17, 296, 2, 183, 0, []), (289, 4, 1, 0, 0, 0, []), (290, 2, 1, 2, 0, 0, []), (291, 0, 2, 0, 0, 27, []), (293, 40, 11, 3, 14, 0, []), (296, 49, 0, 0, 0, 0, []), (296, 8, 0, 2, 0, 1, []), (299, 19, 257, 0, 160, 0, []), (302, 0, 1, 0, 0, 4, []), (303, 5, 1, 2, 0, 0, []), (304, 49, 0, 0, 0, 0, []), (304, 2, 1, 2, 0, 0, []), (305, 0, 2, 0, 0, 6, []), (307, 18, 410, 4, 247, 0, []), (310, 0, 1, 0, 0, 0, []), (311, 5, 1, 3, 0, 0, []), (312, 49, 0, 0, 0, 0, []), (312, 2, 1, 3, 0, 0, []), (313, 4, 1, 0, 0, 0, []), (314, 25, 12, 50, 4, 0, [(0, 20, 7), (0, 1, 27)]), (317, 2, 1, 2, 0, 0, []), (318, 27, 0, 0, 0, 0, []), (319, 18, 404, 3, 245, 0, []), (322, 2, 1, 2, 0, 0, []), (323, 2, 1, 3, 0, 0, []), (324, 40, 6, 2, 0, 0, []), (327, 5, 2, 4, 0, 0, []), (329, 4, 1, 0, 0, 0, []), (330, 2, 1, 2, 0, 0, []), (331, 2, 1, 3, 0, 0, []), (332, 40, 9, 3, 14, 0, []), (335, 17, 398, 0, 242, 0, []), (338, 4, 1, 0, 0, 0, []), (339, 2, 2, 4, 0, 0, []), (341, 2, 1, 1, 0, 0, []), (342, 40, 12, 3, 14, 0, []), (345, 17, 351, 3, 216, 0, []), (348, 19, 398, 0, 242, 0, []), (351, 4, 1, 0, 0, 0, []), (352, 2, 1, 2, 0, 0, []), (353, 40, 13, 1, 0, 0, []), (356, 2, 2, 4, 0, 0, []), (358, 40, 14, 3, 14, 0, []), (361, 4, 1, 0, 0, 0, []), (362, 0, 1, 0, 0, 1, []), (363, 4, 1, 0, 0, 0, []), (364, 25, 12, 56, 4, 0, [(0, 20, 560), (0, 1, 33)]), (367, 2, 2, 4, 0, 0, []), (369, 27, 0, 0, 0, 0, []), (370, 40, 6, 2, 0, 0, []), (373, 40, 15, 2, 14, 0, []), (376, 2, 1, 2, 0, 0, []), (377, 0, 1, 0, 0, 5, []), (378, 18, 392, 0, 238, 0, []), (381, 4, 1, 0, 0, 0, []), (382, 4, 1, 0, 0, 0, []), (383, 25, 12, 54, 4, 0, [(0, 20, 560), (0, 1, 31)]), (386, 2, 2, 4, 0, 0, []), (388, 27, 0, 0, 0, 0, []), (389, 40, 16, 2, 14, 0, []), (392, 49, 0, 0, 0, 0, []), (392, 4, 1, 0, 0, 0, []), (393, 0, 2, 0, 0, 10, []), (395, 40, 3, 2, 14, 0, []), (398, 49, 0, 0, 0, 0, []), (398, 8, 0, 3, 0, 1, []), (401, 19, 312, 0, 194, 0, []), (404, 8, 0, 2, 0, 1, []), (407, 19, 304, 0, 188, 0, []), (410, 44, 0, 0, 0, 0, [])]
set_option maxRecDepth 20000 in
theorem qX12_showLotf : f_all yX12_showLot YX12_showLot pX12_showLotf :=
  ⟨f_aload_n (n := 0) (e_dx DX12_showLot_0 0 rfl) rfl,
  f_iconst (e_dx DX12_showLot_0 1 rfl) ⟨by decide, by decide⟩,
  f_iload_n (n := 1) (e_dx DX12_showLot_0 2 rfl) rfl,
  x_callV (e_dx DX12_showLot_0 3 rfl) mwX12_lineOf vwX12_lineOf cX12_950 rfl,
  f_aload_n (n := 0) (e_dx DX12_showLot_0 4 rfl) rfl,
  f_aload_n (n := 0) (e_dx DX12_showLot_0 5 rfl) rfl,
  f_bipush (e_dx DX12_showLot_0 6 rfl) ⟨by decide, by decide⟩,
  f_iload_n (n := 1) (e_dx DX12_showLot_0 7 rfl) rfl,
  f_imul (e_dx DX12_showLot_0 8 rfl),
  f_aload_n (n := 0) (e_dx DX12_showLot_0 9 rfl) rfl,
  f_getA (e_dx DX12_showLot_0 10 rfl) fX12_130 rfl (by decide) (Nat.le_of_ble_eq_true rfl) rfl (by decide),
  f_iload_n (n := 1) (e_dx DX12_showLot_0 11 rfl) rfl,
  f_iaload (e_dx DX12_showLot_0 12 rfl),
  x_callV (e_dx DX12_showLot_0 13 rfl) mwX12_areaOf vwX12_areaOf cX12_513 rfl,
  x_callV (e_dx DX12_showLot_0 14 rfl) mwX12_moreNumber vwX12_moreNumber cX12_938 rfl,
  f_aload_n (n := 0) (e_dx DX12_showLot_0 15 rfl) rfl,
  f_bipush (e_dx DX12_showLot_0 16 rfl) ⟨by decide, by decide⟩,
  x_callV (e_dx DX12_showLot_0 17 rfl) mwX12_write vwX12_write cX12_916 rfl,
  f_aload_n (n := 0) (e_dx DX12_showLot_0 18 rfl) rfl,
  f_bipush (e_dx DX12_showLot_0 19 rfl) ⟨by decide, by decide⟩,
  x_callV (e_dx DX12_showLot_0 20 rfl) mwX12_writeWord vwX12_writeWord cX12_932 rfl,
  f_iconst (e_dx DX12_showLot_0 21 rfl) ⟨by decide, by decide⟩,
  f_istore_n (n := 2) (e_dx DX12_showLot_0 22 rfl) rfl (by decide),
  trivial,
  f_iload_n (n := 2) (e_dx DX12_showLot_0 23 rfl) rfl,
  f_aload_n (n := 0) (e_dx DX12_showLot_0 24 rfl) rfl,
  f_getA (e_dx DX12_showLot_0 25 rfl) fX12_130 rfl (by decide) (Nat.le_of_ble_eq_true rfl) rfl (by decide),
  f_iload_n (n := 1) (e_dx DX12_showLot_0 26 rfl) rfl,
  f_iaload (e_dx DX12_showLot_0 27 rfl),
  f_icmp_ge (e_dx DX12_showLot_0 28 rfl) rfl,
  f_aload_n (n := 0) (e_dx DX12_showLot_0 29 rfl) rfl,
  f_bipush (e_dx DX12_showLot_0 30 rfl) ⟨by decide, by decide⟩,
  x_callV (e_dx DX12_showLot_0 31 rfl) mwX12_write vwX12_write cX12_916 rfl,
  f_aload_n (n := 0) (e_dx DX12_showLot_0 32 rfl) rfl,
  f_bipush (e_dx DX12_showLot_0 33 rfl) ⟨by decide, by decide⟩,
  x_callV (e_dx DX12_showLot_0 34 rfl) mwX12_write vwX12_write cX12_916 rfl,
  f_aload_n (n := 0) (e_dx DX12_showLot_0 35 rfl) rfl,
  f_aload_n (n := 0) (e_dx DX12_showLot_0 36 rfl) rfl,
  f_getA (e_dx DX12_showLot_0 37 rfl) fX12_82 rfl (by decide) (Nat.le_of_ble_eq_true rfl) rfl (by decide),
  f_bipush (e_dx DX12_showLot_0 38 rfl) ⟨by decide, by decide⟩,
  f_iload_n (n := 1) (e_dx DX12_showLot_0 39 rfl) rfl,
  f_imul (e_dx DX12_showLot_1 0 rfl),
  f_iload_n (n := 2) (e_dx DX12_showLot_1 1 rfl) rfl,
  f_iadd (e_dx DX12_showLot_1 2 rfl),
  f_iaload (e_dx DX12_showLot_1 3 rfl),
  f_g14 (e_dx DX12_showLot_1 4 rfl),
  x_callV (e_dx DX12_showLot_1 5 rfl) mwX12_writeNumber vwX12_writeNumber cX12_922 rfl,
  f_aload_n (n := 0) (e_dx DX12_showLot_1 6 rfl) rfl,
  f_bipush (e_dx DX12_showLot_1 7 rfl) ⟨by decide, by decide⟩,
  x_callV (e_dx DX12_showLot_1 8 rfl) mwX12_write vwX12_write cX12_916 rfl,
  f_aload_n (n := 0) (e_dx DX12_showLot_1 9 rfl) rfl,
  f_aload_n (n := 0) (e_dx DX12_showLot_1 10 rfl) rfl,
  f_getA (e_dx DX12_showLot_1 11 rfl) fX12_85 rfl (by decide) (Nat.le_of_ble_eq_true rfl) rfl (by decide),
  f_bipush (e_dx DX12_showLot_1 12 rfl) ⟨by decide, by decide⟩,
  f_iload_n (n := 1) (e_dx DX12_showLot_1 13 rfl) rfl,
  f_imul (e_dx DX12_showLot_1 14 rfl),
  f_iload_n (n := 2) (e_dx DX12_showLot_1 15 rfl) rfl,
  f_iadd (e_dx DX12_showLot_1 16 rfl),
  f_iaload (e_dx DX12_showLot_1 17 rfl),
  f_g14 (e_dx DX12_showLot_1 18 rfl),
  x_callV (e_dx DX12_showLot_1 19 rfl) mwX12_writeNumber vwX12_writeNumber cX12_922 rfl,
  f_aload_n (n := 0) (e_dx DX12_showLot_1 20 rfl) rfl,
  f_bipush (e_dx DX12_showLot_1 21 rfl) ⟨by decide, by decide⟩,
  x_callV (e_dx DX12_showLot_1 22 rfl) mwX12_write vwX12_write cX12_916 rfl,
  f_g8 (e_dx DX12_showLot_1 23 rfl) ⟨by decide, by decide⟩,
  f_g19 (e_dx DX12_showLot_1 24 rfl) rfl,
  f_aload_n (n := 0) (e_dx DX12_showLot_1 25 rfl) rfl,
  f_bipush (e_dx DX12_showLot_1 26 rfl) ⟨by decide, by decide⟩,
  x_callV (e_dx DX12_showLot_1 27 rfl) mwX12_write vwX12_write cX12_916 rfl,
  f_iconst (e_dx DX12_showLot_1 28 rfl) ⟨by decide, by decide⟩,
  f_istore_n (n := 2) (e_dx DX12_showLot_1 29 rfl) rfl (by decide),
  trivial,
  f_iload_n (n := 2) (e_dx DX12_showLot_1 30 rfl) rfl,
  f_aload_n (n := 0) (e_dx DX12_showLot_1 31 rfl) rfl,
  f_getA (e_dx DX12_showLot_1 32 rfl) fX12_133 rfl (by decide) (Nat.le_of_ble_eq_true rfl) rfl (by decide),
  f_iload_n (n := 1) (e_dx DX12_showLot_1 33 rfl) rfl,
  f_iaload (e_dx DX12_showLot_1 34 rfl),
  f_icmp_ge (e_dx DX12_showLot_1 35 rfl) rfl,
  f_aload_n (n := 0) (e_dx DX12_showLot_1 36 rfl) rfl,
  f_iconst (e_dx DX12_showLot_1 37 rfl) ⟨by decide, by decide⟩,
  f_aload_n (n := 0) (e_dx DX12_showLot_1 38 rfl) rfl,
  f_getA (e_dx DX12_showLot_1 39 rfl) fX12_136 rfl (by decide) (Nat.le_of_ble_eq_true rfl) rfl (by decide),
  f_bipush (e_dx DX12_showLot_2 0 rfl) ⟨by decide, by decide⟩,
  f_iload_n (n := 1) (e_dx DX12_showLot_2 1 rfl) rfl,
  f_imul (e_dx DX12_showLot_2 2 rfl),
  f_iload_n (n := 2) (e_dx DX12_showLot_2 3 rfl) rfl,
  f_iadd (e_dx DX12_showLot_2 4 rfl),
  f_iaload (e_dx DX12_showLot_2 5 rfl),
  x_callS (e_dx DX12_showLot_2 6 rfl) mwX12_id cX12_540 swX12_id rfl,
  f_aload_n (n := 0) (e_dx DX12_showLot_2 7 rfl) rfl,
  f_getA (e_dx DX12_showLot_2 8 rfl) fX12_145 rfl (by decide) (Nat.le_of_ble_eq_true rfl) rfl (by decide),
  f_bipush (e_dx DX12_showLot_2 9 rfl) ⟨by decide, by decide⟩,
  f_iload_n (n := 1) (e_dx DX12_showLot_2 10 rfl) rfl,
  f_imul (e_dx DX12_showLot_2 11 rfl),
  f_iload_n (n := 2) (e_dx DX12_showLot_2 12 rfl) rfl,
  f_iadd (e_dx DX12_showLot_2 13 rfl),
  f_laload (e_dx DX12_showLot_2 14 rfl),
  f_aload_n (n := 0) (e_dx DX12_showLot_2 15 rfl) rfl,
  f_getA (e_dx DX12_showLot_2 16 rfl) fX12_148 rfl (by decide) (Nat.le_of_ble_eq_true rfl) rfl (by decide),
  f_bipush (e_dx DX12_showLot_2 17 rfl) ⟨by decide, by decide⟩,
  f_iload_n (n := 1) (e_dx DX12_showLot_2 18 rfl) rfl,
  f_imul (e_dx DX12_showLot_2 19 rfl),
  f_iload_n (n := 2) (e_dx DX12_showLot_2 20 rfl) rfl,
  f_iadd (e_dx DX12_showLot_2 21 rfl),
  f_laload (e_dx DX12_showLot_2 22 rfl),
  x_callV (e_dx DX12_showLot_2 23 rfl) mwX12_share vwX12_share cX12_962 rfl,
  f_g8 (e_dx DX12_showLot_2 24 rfl) ⟨by decide, by decide⟩,
  f_g19 (e_dx DX12_showLot_2 25 rfl) rfl,
  f_iconst (e_dx DX12_showLot_2 26 rfl) ⟨by decide, by decide⟩,
  f_istore_n (n := 2) (e_dx DX12_showLot_2 27 rfl) rfl (by decide),
  trivial,
  f_iload_n (n := 2) (e_dx DX12_showLot_2 28 rfl) rfl,
  f_aload_n (n := 0) (e_dx DX12_showLot_2 29 rfl) rfl,
  f_getA (e_dx DX12_showLot_2 30 rfl) fX12_139 rfl (by decide) (Nat.le_of_ble_eq_true rfl) rfl (by decide),
  f_iload_n (n := 1) (e_dx DX12_showLot_2 31 rfl) rfl,
  f_iaload (e_dx DX12_showLot_2 32 rfl),
  f_icmp_ge (e_dx DX12_showLot_2 33 rfl) rfl,
  f_aload_n (n := 0) (e_dx DX12_showLot_2 34 rfl) rfl,
  f_aload_n (n := 0) (e_dx DX12_showLot_2 35 rfl) rfl,
  f_getA (e_dx DX12_showLot_2 36 rfl) fX12_142 rfl (by decide) (Nat.le_of_ble_eq_true rfl) rfl (by decide),
  f_bipush (e_dx DX12_showLot_2 37 rfl) ⟨by decide, by decide⟩,
  f_iload_n (n := 1) (e_dx DX12_showLot_2 38 rfl) rfl,
  f_imul (e_dx DX12_showLot_2 39 rfl),
  f_iload_n (n := 2) (e_dx DX12_showLot_3 0 rfl) rfl,
  f_iadd (e_dx DX12_showLot_3 1 rfl),
  f_iaload (e_dx DX12_showLot_3 2 rfl),
  x_callV (e_dx DX12_showLot_3 3 rfl) mwX12_debt vwX12_debt cX12_965 rfl,
  f_g8 (e_dx DX12_showLot_3 4 rfl) ⟨by decide, by decide⟩,
  f_g19 (e_dx DX12_showLot_3 5 rfl) rfl,
  f_iconst (e_dx DX12_showLot_3 6 rfl) ⟨by decide, by decide⟩,
  f_istore_n (n := 2) (e_dx DX12_showLot_3 7 rfl) rfl (by decide),
  trivial,
  f_iload_n (n := 2) (e_dx DX12_showLot_3 8 rfl) rfl,
  f_aload_n (n := 0) (e_dx DX12_showLot_3 9 rfl) rfl,
  f_getA (e_dx DX12_showLot_3 10 rfl) fX12_91 rfl (by decide) (Nat.le_of_ble_eq_true rfl) rfl (by decide),
  f_iconst (e_dx DX12_showLot_3 11 rfl) ⟨by decide, by decide⟩,
  f_iaload (e_dx DX12_showLot_3 12 rfl),
  f_icmp_ge (e_dx DX12_showLot_3 13 rfl) rfl,
  f_aload_n (n := 0) (e_dx DX12_showLot_3 14 rfl) rfl,
  f_iconst (e_dx DX12_showLot_3 15 rfl) ⟨by decide, by decide⟩,
  f_iload_n (n := 2) (e_dx DX12_showLot_3 16 rfl) rfl,
  x_callV (e_dx DX12_showLot_3 17 rfl) mwX12_isHere vwX12_isHere cX12_875 rfl,
  f_if_eq (e_dx DX12_showLot_3 18 rfl) rfl,
  f_aload_n (n := 0) (e_dx DX12_showLot_3 19 rfl) rfl,
  f_iconst (e_dx DX12_showLot_3 20 rfl) ⟨by decide, by decide⟩,
  f_iload_n (n := 2) (e_dx DX12_showLot_3 21 rfl) rfl,
  x_callS (e_dx DX12_showLot_3 22 rfl) mwX12_id cX12_540 swX12_id rfl,
  f_iload_n (n := 1) (e_dx DX12_showLot_3 23 rfl) rfl,
  x_callV (e_dx DX12_showLot_3 24 rfl) mwX12_placeOf vwX12_placeOf cX12_704 rfl,
  f_if_lt (e_dx DX12_showLot_3 25 rfl) rfl,
  f_aload_n (n := 0) (e_dx DX12_showLot_3 26 rfl) rfl,
  f_iload_n (n := 2) (e_dx DX12_showLot_3 27 rfl) rfl,
  f_bipush (e_dx DX12_showLot_3 28 rfl) ⟨by decide, by decide⟩,
  x_callV (e_dx DX12_showLot_3 29 rfl) mwX12_served vwX12_served cX12_968 rfl,
  trivial,
  f_g8 (e_dx DX12_showLot_3 30 rfl) ⟨by decide, by decide⟩,
  f_g19 (e_dx DX12_showLot_3 31 rfl) rfl,
  f_iconst (e_dx DX12_showLot_3 32 rfl) ⟨by decide, by decide⟩,
  f_istore_n (n := 2) (e_dx DX12_showLot_3 33 rfl) rfl (by decide),
  trivial,
  f_iload_n (n := 2) (e_dx DX12_showLot_3 34 rfl) rfl,
  f_aload_n (n := 0) (e_dx DX12_showLot_3 35 rfl) rfl,
  f_getA (e_dx DX12_showLot_3 36 rfl) fX12_91 rfl (by decide) (Nat.le_of_ble_eq_true rfl) rfl (by decide),
  f_iconst (e_dx DX12_showLot_3 37 rfl) ⟨by decide, by decide⟩,
  f_iaload (e_dx DX12_showLot_3 38 rfl),
  f_icmp_ge (e_dx DX12_showLot_3 39 rfl) rfl,
  f_aload_n (n := 0) (e_dx DX12_showLot_4 0 rfl) rfl,
  f_iconst (e_dx DX12_showLot_4 1 rfl) ⟨by decide, by decide⟩,
  f_iload_n (n := 2) (e_dx DX12_showLot_4 2 rfl) rfl,
  x_callV (e_dx DX12_showLot_4 3 rfl) mwX12_isHere vwX12_isHere cX12_875 rfl,
  f_if_eq (e_dx DX12_showLot_4 4 rfl) rfl,
  f_aload_n (n := 0) (e_dx DX12_showLot_4 5 rfl) rfl,
  f_iconst (e_dx DX12_showLot_4 6 rfl) ⟨by decide, by decide⟩,
  f_iload_n (n := 2) (e_dx DX12_showLot_4 7 rfl) rfl,
  x_callS (e_dx DX12_showLot_4 8 rfl) mwX12_id cX12_540 swX12_id rfl,
  f_iload_n (n := 1) (e_dx DX12_showLot_4 9 rfl) rfl,
  x_callV (e_dx DX12_showLot_4 10 rfl) mwX12_placeOn vwX12_placeOn cX12_573 rfl,
  f_if_lt (e_dx DX12_showLot_4 11 rfl) rfl,
  f_aload_n (n := 0) (e_dx DX12_showLot_4 12 rfl) rfl,
  f_iload_n (n := 2) (e_dx DX12_showLot_4 13 rfl) rfl,
  f_bipush (e_dx DX12_showLot_4 14 rfl) ⟨by decide, by decide⟩,
  x_callV (e_dx DX12_showLot_4 15 rfl) mwX12_served vwX12_served cX12_968 rfl,
  trivial,
  f_g8 (e_dx DX12_showLot_4 16 rfl) ⟨by decide, by decide⟩,
  f_g19 (e_dx DX12_showLot_4 17 rfl) rfl,
  f_iconst (e_dx DX12_showLot_4 18 rfl) ⟨by decide, by decide⟩,
  f_istore_n (n := 2) (e_dx DX12_showLot_4 19 rfl) rfl (by decide),
  trivial,
  f_iload_n (n := 2) (e_dx DX12_showLot_4 20 rfl) rfl,
  f_bipush (e_dx DX12_showLot_4 21 rfl) ⟨by decide, by decide⟩,
  f_icmp_gt (e_dx DX12_showLot_4 22 rfl) rfl,
  f_iconst (e_dx DX12_showLot_4 23 rfl) ⟨by decide, by decide⟩,
  f_istore_n (n := 3) (e_dx DX12_showLot_4 24 rfl) rfl (by decide),
  trivial,
  f_iload_n (n := 3) (e_dx DX12_showLot_4 25 rfl) rfl,
  f_aload_n (n := 0) (e_dx DX12_showLot_4 26 rfl) rfl,
  f_getA (e_dx DX12_showLot_4 27 rfl) fX12_91 rfl (by decide) (Nat.le_of_ble_eq_true rfl) rfl (by decide),
  f_iload_n (n := 2) (e_dx DX12_showLot_4 28 rfl) rfl,
  f_iaload (e_dx DX12_showLot_4 29 rfl),
  f_icmp_ge (e_dx DX12_showLot_4 30 rfl) rfl,
  f_iload_n (n := 2) (e_dx DX12_showLot_4 31 rfl) rfl,
  f_iload_n (n := 3) (e_dx DX12_showLot_4 32 rfl) rfl,
  x_callS (e_dx DX12_showLot_4 33 rfl) mwX12_id cX12_540 swX12_id rfl,
  f_istore (e_dx DX12_showLot_4 34 rfl) (by decide),
  f_aload_n (n := 0) (e_dx DX12_showLot_4 35 rfl) rfl,
  f_iload_n (n := 2) (e_dx DX12_showLot_4 36 rfl) rfl,
  f_iload_n (n := 3) (e_dx DX12_showLot_4 37 rfl) rfl,
  x_callV (e_dx DX12_showLot_4 38 rfl) mwX12_isHere vwX12_isHere cX12_875 rfl,
  f_if_eq (e_dx DX12_showLot_4 39 rfl) rfl,
  f_aload_n (n := 0) (e_dx DX12_showLot_5 0 rfl) rfl,
  f_iload (e_dx DX12_showLot_5 1 rfl),
  f_iload_n (n := 1) (e_dx DX12_showLot_5 2 rfl) rfl,
  x_callV (e_dx DX12_showLot_5 3 rfl) mwX12_placeOn vwX12_placeOn cX12_573 rfl,
  f_if_ge (e_dx DX12_showLot_5 4 rfl) rfl,
  f_g19 (e_dx DX12_showLot_5 5 rfl) rfl,
  f_aload_n (n := 0) (e_dx DX12_showLot_5 6 rfl) rfl,
  f_iload_n (n := 2) (e_dx DX12_showLot_5 7 rfl) rfl,
  x_callS (e_dx DX12_showLot_5 8 rfl) mwX12_wordOf cX12_944 swX12_wordOf rfl,
  f_iload (e_dx DX12_showLot_5 9 rfl),
  x_callV (e_dx DX12_showLot_5 10 rfl) mwX12_begin vwX12_begin cX12_947 rfl,
  f_aload_n (n := 0) (e_dx DX12_showLot_5 11 rfl) rfl,
  f_iconst (e_dx DX12_showLot_5 12 rfl) ⟨by decide, by decide⟩,
  f_aload_n (n := 0) (e_dx DX12_showLot_5 13 rfl) rfl,
  f_getA (e_dx DX12_showLot_5 14 rfl) fX12_109 rfl (by decide) (Nat.le_of_ble_eq_true rfl) rfl (by decide),
  f_iload (e_dx DX12_showLot_5 15 rfl),
  f_iaload (e_dx DX12_showLot_5 16 rfl),
  x_callS (e_dx DX12_showLot_5 17 rfl) mwX12_id cX12_540 swX12_id rfl,
  x_callV (e_dx DX12_showLot_5 18 rfl) mwX12_more vwX12_more cX12_941 rfl,
  f_iload_n (n := 2) (e_dx DX12_showLot_5 19 rfl) rfl,
  f_iconst (e_dx DX12_showLot_5 20 rfl) ⟨by decide, by decide⟩,
  f_icmp_eq (e_dx DX12_showLot_5 21 rfl) rfl,
  f_aload_n (n := 0) (e_dx DX12_showLot_5 22 rfl) rfl,
  f_aload_n (n := 0) (e_dx DX12_showLot_5 23 rfl) rfl,
  f_getA (e_dx DX12_showLot_5 24 rfl) fX12_103 rfl (by decide) (Nat.le_of_ble_eq_true rfl) rfl (by decide),
  f_iload (e_dx DX12_showLot_5 25 rfl),
  f_iaload (e_dx DX12_showLot_5 26 rfl),
  x_callV (e_dx DX12_showLot_5 27 rfl) mwX12_moreDay vwX12_moreDay cX12_971 rfl,
  trivial,
  f_aload_n (n := 0) (e_dx DX12_showLot_5 28 rfl) rfl,
  f_bipush (e_dx DX12_showLot_5 29 rfl) ⟨by decide, by decide⟩,
  x_callV (e_dx DX12_showLot_5 30 rfl) mwX12_write vwX12_write cX12_916 rfl,
  trivial,
  f_g8 (e_dx DX12_showLot_5 31 rfl) ⟨by decide, by decide⟩,
  f_g19 (e_dx DX12_showLot_5 32 rfl) rfl,
  f_g8 (e_dx DX12_showLot_5 33 rfl) ⟨by decide, by decide⟩,
  f_g19 (e_dx DX12_showLot_5 34 rfl) rfl,
  ⟨(e_dx DX12_showLot_5 35 rfl), rfl⟩, trivial⟩
def lX12_showLot (c_X12_lineOf : Int → Int → e_M → (e_M → Prop) → Prop) (c_X12_areaOf : Int → Int → e_M → (Int → Prop) → Prop) (c_X12_moreNumber : Int → e_M → (e_M → Prop) → Prop) (c_X12_write : Int → e_M → (e_M → Prop) → Prop) (c_X12_writeWord : Int → e_M → (e_M → Prop) → Prop) (c_X12_writeNumber : Int → e_M → (e_M → Prop) → Prop) (c_X12_id : Int → Int → e_M → (Int → Prop) → Prop) (c_X12_share : Int → Int → Int → e_M → (e_M → Prop) → Prop) (c_X12_debt : Int → e_M → (e_M → Prop) → Prop) (c_X12_isHere : Int → Int → e_M → (Int → Prop) → Prop) (c_X12_placeOf : Int → Int → e_M → (Int → Prop) → Prop) (c_X12_served : Int → Int → e_M → (e_M → Prop) → Prop) (c_X12_placeOn : Int → Int → e_M → (Int → Prop) → Prop) (c_X12_wordOf : Int → e_M → (Int → Prop) → Prop) (c_X12_begin : Int → Int → e_M → (e_M → Prop) → Prop) (c_X12_more : Int → e_M → (e_M → Prop) → Prop) (c_X12_moreDay : Int → e_M → (e_M → Prop) → Prop) : List (Nat × f_Wt) := [(0, f_wm [(4466, 12, 123), (1, 0, 0), (1, 0, 0)] (fun ar M R => c_X12_lineOf (f_vi (f_nth ar 1)) (f_vi (f_nth ar 2)) M (fun M => R none M))), (1, f_wm [(4466, 12, 123), (1, 0, 0), (1, 0, 0)] (fun ar M R => c_X12_areaOf (f_vi (f_nth ar 1)) (f_vi (f_nth ar 2)) M (fun r => R (some (.inr (.inl r))) M))), (2, f_wm [(4466, 12, 123), (2, 0, 0)] (fun ar M R => c_X12_moreNumber (f_vi (f_nth ar 1)) M (fun M => R none M))), (3, f_wm [(4466, 12, 123), (1, 0, 0)] (fun ar M R => c_X12_write (f_vi (f_nth ar 1)) M (fun M => R none M))), (4, f_wm [(4466, 12, 123), (1, 0, 0)] (fun ar M R => c_X12_writeWord (f_vi (f_nth ar 1)) M (fun M => R none M))), (5, f_wm [(4466, 12, 123), (2, 0, 0)] (fun ar M R => c_X12_writeNumber (f_vi (f_nth ar 1)) M (fun M => R none M))), (6, f_wm [(1, 0, 0), (1, 0, 0)] (fun ar M R => c_X12_id (f_vi (f_nth ar 0)) (f_vi (f_nth ar 1)) M (fun r => R (some (.inl r)) M))), (7, f_wm [(4466, 12, 123), (1, 0, 0), (2, 0, 0), (2, 0, 0)] (fun ar M R => c_X12_share (f_vi (f_nth ar 1)) (f_vi (f_nth ar 2)) (f_vi (f_nth ar 3)) M (fun M => R none M))), (8, f_wm [(4466, 12, 123), (1, 0, 0)] (fun ar M R => c_X12_debt (f_vi (f_nth ar 1)) M (fun M => R none M))), (9, f_wm [(4466, 12, 123), (1, 0, 0), (1, 0, 0)] (fun ar M R => c_X12_isHere (f_vi (f_nth ar 1)) (f_vi (f_nth ar 2)) M (fun r => R (some (.inl r)) M))), (10, f_wm [(4466, 12, 123), (1, 0, 0), (1, 0, 0)] (fun ar M R => c_X12_placeOf (f_vi (f_nth ar 1)) (f_vi (f_nth ar 2)) M (fun r => R (some (.inl r)) M))), (11, f_wm [(4466, 12, 123), (1, 0, 0), (1, 0, 0)] (fun ar M R => c_X12_served (f_vi (f_nth ar 1)) (f_vi (f_nth ar 2)) M (fun M => R none M))), (12, f_wm [(4466, 12, 123), (1, 0, 0), (1, 0, 0)] (fun ar M R => c_X12_placeOn (f_vi (f_nth ar 1)) (f_vi (f_nth ar 2)) M (fun r => R (some (.inl r)) M))), (13, f_wm [(1, 0, 0)] (fun ar M R => c_X12_wordOf (f_vi (f_nth ar 0)) M (fun r => R (some (.inl r)) M))), (14, f_wm [(4466, 12, 123), (1, 0, 0), (1, 0, 0)] (fun ar M R => c_X12_begin (f_vi (f_nth ar 1)) (f_vi (f_nth ar 2)) M (fun M => R none M))), (15, f_wm [(4466, 12, 123), (1, 0, 0)] (fun ar M R => c_X12_more (f_vi (f_nth ar 1)) M (fun M => R none M))), (16, f_wm [(4466, 12, 123), (1, 0, 0)] (fun ar M R => c_X12_moreDay (f_vi (f_nth ar 1)) M (fun M => R none M)))]
set_option maxRecDepth 20000 in
theorem BX12_showLot_38 {sh : Nat → Nat × Nat} {t : Nat} {rm : Nat × Nat × Nat} {cs : Nat × Nat} {R : f_Rt} {c_X12_lineOf : Int → Int → e_M → (e_M → Prop) → Prop} {c_X12_areaOf : Int → Int → e_M → (Int → Prop) → Prop} {c_X12_moreNumber : Int → e_M → (e_M → Prop) → Prop} {c_X12_write : Int → e_M → (e_M → Prop) → Prop} {c_X12_writeWord : Int → e_M → (e_M → Prop) → Prop} {c_X12_writeNumber : Int → e_M → (e_M → Prop) → Prop} {c_X12_id : Int → Int → e_M → (Int → Prop) → Prop} {c_X12_share : Int → Int → Int → e_M → (e_M → Prop) → Prop} {c_X12_debt : Int → e_M → (e_M → Prop) → Prop} {c_X12_isHere : Int → Int → e_M → (Int → Prop) → Prop} {c_X12_placeOf : Int → Int → e_M → (Int → Prop) → Prop} {c_X12_served : Int → Int → e_M → (e_M → Prop) → Prop} {c_X12_placeOn : Int → Int → e_M → (Int → Prop) → Prop} {c_X12_wordOf : Int → e_M → (Int → Prop) → Prop} {c_X12_begin : Int → Int → e_M → (e_M → Prop) → Prop} {c_X12_more : Int → e_M → (e_M → Prop) → Prop} {c_X12_moreDay : Int → e_M → (e_M → Prop) → Prop} {k118 : Int → Int → e_M → Prop} {k38 : Int → Int → e_M → Prop} {x1 : Int} {x2 : Int} {M : e_M} (C : f_Hy sh t yX12_showLot rm cs 9 (lX12_showLot c_X12_lineOf c_X12_areaOf c_X12_moreNumber c_X12_write c_X12_writeWord c_X12_writeNumber c_X12_id c_X12_share c_X12_debt c_X12_isHere c_X12_placeOf c_X12_served c_X12_placeOn c_X12_wordOf c_X12_begin c_X12_more c_X12_moreDay) R) (h118 : ∀ (x1 : Int) (x2 : Int) (M : e_M), k118 x1 x2 M → f_E sh t YX12_showLot rm cs (f_Q sh t R) 118 [.inr (.inr (.inl (12, 123, 4456))), .inl x1, .inl x2, .inr (.inr (.inr ())), .inr (.inr (.inr ()))] [] M) (h38 : ∀ (x1 : Int) (x2 : Int) (M : e_M), k38 x1 x2 M → f_E sh t YX12_showLot rm cs (f_Q sh t R) 38 [.inr (.inr (.inl (12, 123, 4456))), .inl x1, .inl x2, .inr (.inr (.inr ())), .inr (.inr (.inr ()))] [] M) (h : VX12_showLot_38 c_X12_lineOf c_X12_areaOf c_X12_moreNumber c_X12_write c_X12_writeWord c_X12_writeNumber c_X12_id c_X12_share c_X12_debt c_X12_isHere c_X12_placeOf c_X12_served c_X12_placeOn c_X12_wordOf c_X12_begin c_X12_more c_X12_moreDay k118 k38 (fun M => R none M) x1 x2 M) : f_E sh t YX12_showLot rm cs (f_Q sh t R) 38 [.inr (.inr (.inl (12, 123, 4456))), .inl x1, .inl x2, .inr (.inr (.inr ())), .inr (.inr (.inr ()))] [] M :=
  f_go (KC := f_kc [(118, f_pl [(4466, 12, 123), (1, 0, 0), (1, 0, 0), (0, 0, 0), (0, 0, 0)] [] (fun ls st M => k118 (f_vi (f_nth ls 1)) (f_vi (f_nth ls 2)) M)), (38, f_pl [(4466, 12, 123), (1, 0, 0), (1, 0, 0), (0, 0, 0), (0, 0, 0)] [] (fun ls st M => k38 (f_vi (f_nth ls 1)) (f_vi (f_nth ls 2)) M))]) C qX12_showLotf (f_kc_cons (f_pl_ok rfl (fun ls st M h => h118 _ _ M h)) (f_kc_cons (f_pl_ok rfl (fun ls st M h => h38 _ _ M h)) f_kc_nil)) 249 24 h
set_option maxRecDepth 20000 in
theorem BX12_showLot_118 {sh : Nat → Nat × Nat} {t : Nat} {rm : Nat × Nat × Nat} {cs : Nat × Nat} {R : f_Rt} {c_X12_lineOf : Int → Int → e_M → (e_M → Prop) → Prop} {c_X12_areaOf : Int → Int → e_M → (Int → Prop) → Prop} {c_X12_moreNumber : Int → e_M → (e_M → Prop) → Prop} {c_X12_write : Int → e_M → (e_M → Prop) → Prop} {c_X12_writeWord : Int → e_M → (e_M → Prop) → Prop} {c_X12_writeNumber : Int → e_M → (e_M → Prop) → Prop} {c_X12_id : Int → Int → e_M → (Int → Prop) → Prop} {c_X12_share : Int → Int → Int → e_M → (e_M → Prop) → Prop} {c_X12_debt : Int → e_M → (e_M → Prop) → Prop} {c_X12_isHere : Int → Int → e_M → (Int → Prop) → Prop} {c_X12_placeOf : Int → Int → e_M → (Int → Prop) → Prop} {c_X12_served : Int → Int → e_M → (e_M → Prop) → Prop} {c_X12_placeOn : Int → Int → e_M → (Int → Prop) → Prop} {c_X12_wordOf : Int → e_M → (Int → Prop) → Prop} {c_X12_begin : Int → Int → e_M → (e_M → Prop) → Prop} {c_X12_more : Int → e_M → (e_M → Prop) → Prop} {c_X12_moreDay : Int → e_M → (e_M → Prop) → Prop} {k177 : Int → Int → e_M → Prop} {k118 : Int → Int → e_M → Prop} {x1 : Int} {x2 : Int} {M : e_M} (C : f_Hy sh t yX12_showLot rm cs 9 (lX12_showLot c_X12_lineOf c_X12_areaOf c_X12_moreNumber c_X12_write c_X12_writeWord c_X12_writeNumber c_X12_id c_X12_share c_X12_debt c_X12_isHere c_X12_placeOf c_X12_served c_X12_placeOn c_X12_wordOf c_X12_begin c_X12_more c_X12_moreDay) R) (h177 : ∀ (x1 : Int) (x2 : Int) (M : e_M), k177 x1 x2 M → f_E sh t YX12_showLot rm cs (f_Q sh t R) 177 [.inr (.inr (.inl (12, 123, 4456))), .inl x1, .inl x2, .inr (.inr (.inr ())), .inr (.inr (.inr ()))] [] M) (h118 : ∀ (x1 : Int) (x2 : Int) (M : e_M), k118 x1 x2 M → f_E sh t YX12_showLot rm cs (f_Q sh t R) 118 [.inr (.inr (.inl (12, 123, 4456))), .inl x1, .inl x2, .inr (.inr (.inr ())), .inr (.inr (.inr ()))] [] M) (h : VX12_showLot_118 c_X12_lineOf c_X12_areaOf c_X12_moreNumber c_X12_write c_X12_writeWord c_X12_writeNumber c_X12_id c_X12_share c_X12_debt c_X12_isHere c_X12_placeOf c_X12_served c_X12_placeOn c_X12_wordOf c_X12_begin c_X12_more c_X12_moreDay k177 k118 (fun M => R none M) x1 x2 M) : f_E sh t YX12_showLot rm cs (f_Q sh t R) 118 [.inr (.inr (.inl (12, 123, 4456))), .inl x1, .inl x2, .inr (.inr (.inr ())), .inr (.inr (.inr ()))] [] M :=
  f_go (KC := f_kc [(177, f_pl [(4466, 12, 123), (1, 0, 0), (1, 0, 0), (0, 0, 0), (0, 0, 0)] [] (fun ls st M => k177 (f_vi (f_nth ls 1)) (f_vi (f_nth ls 2)) M)), (118, f_pl [(4466, 12, 123), (1, 0, 0), (1, 0, 0), (0, 0, 0), (0, 0, 0)] [] (fun ls st M => k118 (f_vi (f_nth ls 1)) (f_vi (f_nth ls 2)) M))]) C qX12_showLotf (f_kc_cons (f_pl_ok rfl (fun ls st M h => h177 _ _ M h)) (f_kc_cons (f_pl_ok rfl (fun ls st M h => h118 _ _ M h)) f_kc_nil)) 249 72 h
set_option maxRecDepth 20000 in
theorem BX12_showLot_177 {sh : Nat → Nat × Nat} {t : Nat} {rm : Nat × Nat × Nat} {cs : Nat × Nat} {R : f_Rt} {c_X12_lineOf : Int → Int → e_M → (e_M → Prop) → Prop} {c_X12_areaOf : Int → Int → e_M → (Int → Prop) → Prop} {c_X12_moreNumber : Int → e_M → (e_M → Prop) → Prop} {c_X12_write : Int → e_M → (e_M → Prop) → Prop} {c_X12_writeWord : Int → e_M → (e_M → Prop) → Prop} {c_X12_writeNumber : Int → e_M → (e_M → Prop) → Prop} {c_X12_id : Int → Int → e_M → (Int → Prop) → Prop} {c_X12_share : Int → Int → Int → e_M → (e_M → Prop) → Prop} {c_X12_debt : Int → e_M → (e_M → Prop) → Prop} {c_X12_isHere : Int → Int → e_M → (Int → Prop) → Prop} {c_X12_placeOf : Int → Int → e_M → (Int → Prop) → Prop} {c_X12_served : Int → Int → e_M → (e_M → Prop) → Prop} {c_X12_placeOn : Int → Int → e_M → (Int → Prop) → Prop} {c_X12_wordOf : Int → e_M → (Int → Prop) → Prop} {c_X12_begin : Int → Int → e_M → (e_M → Prop) → Prop} {c_X12_more : Int → e_M → (e_M → Prop) → Prop} {c_X12_moreDay : Int → e_M → (e_M → Prop) → Prop} {k210 : Int → Int → e_M → Prop} {k177 : Int → Int → e_M → Prop} {x1 : Int} {x2 : Int} {M : e_M} (C : f_Hy sh t yX12_showLot rm cs 9 (lX12_showLot c_X12_lineOf c_X12_areaOf c_X12_moreNumber c_X12_write c_X12_writeWord c_X12_writeNumber c_X12_id c_X12_share c_X12_debt c_X12_isHere c_X12_placeOf c_X12_served c_X12_placeOn c_X12_wordOf c_X12_begin c_X12_more c_X12_moreDay) R) (h210 : ∀ (x1 : Int) (x2 : Int) (M : e_M), k210 x1 x2 M → f_E sh t YX12_showLot rm cs (f_Q sh t R) 210 [.inr (.inr (.inl (12, 123, 4456))), .inl x1, .inl x2, .inr (.inr (.inr ())), .inr (.inr (.inr ()))] [] M) (h177 : ∀ (x1 : Int) (x2 : Int) (M : e_M), k177 x1 x2 M → f_E sh t YX12_showLot rm cs (f_Q sh t R) 177 [.inr (.inr (.inl (12, 123, 4456))), .inl x1, .inl x2, .inr (.inr (.inr ())), .inr (.inr (.inr ()))] [] M) (h : VX12_showLot_177 c_X12_lineOf c_X12_areaOf c_X12_moreNumber c_X12_write c_X12_writeWord c_X12_writeNumber c_X12_id c_X12_share c_X12_debt c_X12_isHere c_X12_placeOf c_X12_served c_X12_placeOn c_X12_wordOf c_X12_begin c_X12_more c_X12_moreDay k210 k177 (fun M => R none M) x1 x2 M) : f_E sh t YX12_showLot rm cs (f_Q sh t R) 177 [.inr (.inr (.inl (12, 123, 4456))), .inl x1, .inl x2, .inr (.inr (.inr ())), .inr (.inr (.inr ()))] [] M :=
  f_go (KC := f_kc [(210, f_pl [(4466, 12, 123), (1, 0, 0), (1, 0, 0), (0, 0, 0), (0, 0, 0)] [] (fun ls st M => k210 (f_vi (f_nth ls 1)) (f_vi (f_nth ls 2)) M)), (177, f_pl [(4466, 12, 123), (1, 0, 0), (1, 0, 0), (0, 0, 0), (0, 0, 0)] [] (fun ls st M => k177 (f_vi (f_nth ls 1)) (f_vi (f_nth ls 2)) M))]) C qX12_showLotf (f_kc_cons (f_pl_ok rfl (fun ls st M h => h210 _ _ M h)) (f_kc_cons (f_pl_ok rfl (fun ls st M h => h177 _ _ M h)) f_kc_nil)) 249 111 h
set_option maxRecDepth 20000 in
theorem BX12_showLot_210 {sh : Nat → Nat × Nat} {t : Nat} {rm : Nat × Nat × Nat} {cs : Nat × Nat} {R : f_Rt} {c_X12_lineOf : Int → Int → e_M → (e_M → Prop) → Prop} {c_X12_areaOf : Int → Int → e_M → (Int → Prop) → Prop} {c_X12_moreNumber : Int → e_M → (e_M → Prop) → Prop} {c_X12_write : Int → e_M → (e_M → Prop) → Prop} {c_X12_writeWord : Int → e_M → (e_M → Prop) → Prop} {c_X12_writeNumber : Int → e_M → (e_M → Prop) → Prop} {c_X12_id : Int → Int → e_M → (Int → Prop) → Prop} {c_X12_share : Int → Int → Int → e_M → (e_M → Prop) → Prop} {c_X12_debt : Int → e_M → (e_M → Prop) → Prop} {c_X12_isHere : Int → Int → e_M → (Int → Prop) → Prop} {c_X12_placeOf : Int → Int → e_M → (Int → Prop) → Prop} {c_X12_served : Int → Int → e_M → (e_M → Prop) → Prop} {c_X12_placeOn : Int → Int → e_M → (Int → Prop) → Prop} {c_X12_wordOf : Int → e_M → (Int → Prop) → Prop} {c_X12_begin : Int → Int → e_M → (e_M → Prop) → Prop} {c_X12_more : Int → e_M → (e_M → Prop) → Prop} {c_X12_moreDay : Int → e_M → (e_M → Prop) → Prop} {k257 : Int → Int → e_M → Prop} {k249 : Int → Int → e_M → Prop} {x1 : Int} {x2 : Int} {M : e_M} (C : f_Hy sh t yX12_showLot rm cs 9 (lX12_showLot c_X12_lineOf c_X12_areaOf c_X12_moreNumber c_X12_write c_X12_writeWord c_X12_writeNumber c_X12_id c_X12_share c_X12_debt c_X12_isHere c_X12_placeOf c_X12_served c_X12_placeOn c_X12_wordOf c_X12_begin c_X12_more c_X12_moreDay) R) (h257 : ∀ (x1 : Int) (x2 : Int) (M : e_M), k257 x1 x2 M → f_E sh t YX12_showLot rm cs (f_Q sh t R) 257 [.inr (.inr (.inl (12, 123, 4456))), .inl x1, .inl x2, .inr (.inr (.inr ())), .inr (.inr (.inr ()))] [] M) (h249 : ∀ (x1 : Int) (x2 : Int) (M : e_M), k249 x1 x2 M → f_E sh t YX12_showLot rm cs (f_Q sh t R) 249 [.inr (.inr (.inl (12, 123, 4456))), .inl x1, .inl x2, .inr (.inr (.inr ())), .inr (.inr (.inr ()))] [] M) (h : VX12_showLot_210 c_X12_lineOf c_X12_areaOf c_X12_moreNumber c_X12_write c_X12_writeWord c_X12_writeNumber c_X12_id c_X12_share c_X12_debt c_X12_isHere c_X12_placeOf c_X12_served c_X12_placeOn c_X12_wordOf c_X12_begin c_X12_more c_X12_moreDay k257 k249 (fun M => R none M) x1 x2 M) : f_E sh t YX12_showLot rm cs (f_Q sh t R) 210 [.inr (.inr (.inl (12, 123, 4456))), .inl x1, .inl x2, .inr (.inr (.inr ())), .inr (.inr (.inr ()))] [] M :=
  f_go (KC := f_kc [(257, f_pl [(4466, 12, 123), (1, 0, 0), (1, 0, 0), (0, 0, 0), (0, 0, 0)] [] (fun ls st M => k257 (f_vi (f_nth ls 1)) (f_vi (f_nth ls 2)) M)), (249, f_pl [(4466, 12, 123), (1, 0, 0), (1, 0, 0), (0, 0, 0), (0, 0, 0)] [] (fun ls st M => k249 (f_vi (f_nth ls 1)) (f_vi (f_nth ls 2)) M))]) C qX12_showLotf (f_kc_cons (f_pl_ok rfl (fun ls st M h => h257 _ _ M h)) (f_kc_cons (f_pl_ok rfl (fun ls st M h => h249 _ _ M h)) f_kc_nil)) 249 132 h
set_option maxRecDepth 20000 in
theorem BX12_showLot_249 {sh : Nat → Nat × Nat} {t : Nat} {rm : Nat × Nat × Nat} {cs : Nat × Nat} {R : f_Rt} {c_X12_lineOf : Int → Int → e_M → (e_M → Prop) → Prop} {c_X12_areaOf : Int → Int → e_M → (Int → Prop) → Prop} {c_X12_moreNumber : Int → e_M → (e_M → Prop) → Prop} {c_X12_write : Int → e_M → (e_M → Prop) → Prop} {c_X12_writeWord : Int → e_M → (e_M → Prop) → Prop} {c_X12_writeNumber : Int → e_M → (e_M → Prop) → Prop} {c_X12_id : Int → Int → e_M → (Int → Prop) → Prop} {c_X12_share : Int → Int → Int → e_M → (e_M → Prop) → Prop} {c_X12_debt : Int → e_M → (e_M → Prop) → Prop} {c_X12_isHere : Int → Int → e_M → (Int → Prop) → Prop} {c_X12_placeOf : Int → Int → e_M → (Int → Prop) → Prop} {c_X12_served : Int → Int → e_M → (e_M → Prop) → Prop} {c_X12_placeOn : Int → Int → e_M → (Int → Prop) → Prop} {c_X12_wordOf : Int → e_M → (Int → Prop) → Prop} {c_X12_begin : Int → Int → e_M → (e_M → Prop) → Prop} {c_X12_more : Int → e_M → (e_M → Prop) → Prop} {c_X12_moreDay : Int → e_M → (e_M → Prop) → Prop} {k210 : Int → Int → e_M → Prop} {x1 : Int} {x2 : Int} {M : e_M} (C : f_Hy sh t yX12_showLot rm cs 9 (lX12_showLot c_X12_lineOf c_X12_areaOf c_X12_moreNumber c_X12_write c_X12_writeWord c_X12_writeNumber c_X12_id c_X12_share c_X12_debt c_X12_isHere c_X12_placeOf c_X12_served c_X12_placeOn c_X12_wordOf c_X12_begin c_X12_more c_X12_moreDay) R) (h210 : ∀ (x1 : Int) (x2 : Int) (M : e_M), k210 x1 x2 M → f_E sh t YX12_showLot rm cs (f_Q sh t R) 210 [.inr (.inr (.inl (12, 123, 4456))), .inl x1, .inl x2, .inr (.inr (.inr ())), .inr (.inr (.inr ()))] [] M) (h : VX12_showLot_249 c_X12_lineOf c_X12_areaOf c_X12_moreNumber c_X12_write c_X12_writeWord c_X12_writeNumber c_X12_id c_X12_share c_X12_debt c_X12_isHere c_X12_placeOf c_X12_served c_X12_placeOn c_X12_wordOf c_X12_begin c_X12_more c_X12_moreDay k210 (fun M => R none M) x1 x2 M) : f_E sh t YX12_showLot rm cs (f_Q sh t R) 249 [.inr (.inr (.inl (12, 123, 4456))), .inl x1, .inl x2, .inr (.inr (.inr ())), .inr (.inr (.inr ()))] [] M :=
  f_go (KC := f_kc [(210, f_pl [(4466, 12, 123), (1, 0, 0), (1, 0, 0), (0, 0, 0), (0, 0, 0)] [] (fun ls st M => k210 (f_vi (f_nth ls 1)) (f_vi (f_nth ls 2)) M))]) C qX12_showLotf (f_kc_cons (f_pl_ok rfl (fun ls st M h => h210 _ _ M h)) f_kc_nil) 249 155 h
set_option maxRecDepth 20000 in
theorem BX12_showLot_257 {sh : Nat → Nat × Nat} {t : Nat} {rm : Nat × Nat × Nat} {cs : Nat × Nat} {R : f_Rt} {c_X12_lineOf : Int → Int → e_M → (e_M → Prop) → Prop} {c_X12_areaOf : Int → Int → e_M → (Int → Prop) → Prop} {c_X12_moreNumber : Int → e_M → (e_M → Prop) → Prop} {c_X12_write : Int → e_M → (e_M → Prop) → Prop} {c_X12_writeWord : Int → e_M → (e_M → Prop) → Prop} {c_X12_writeNumber : Int → e_M → (e_M → Prop) → Prop} {c_X12_id : Int → Int → e_M → (Int → Prop) → Prop} {c_X12_share : Int → Int → Int → e_M → (e_M → Prop) → Prop} {c_X12_debt : Int → e_M → (e_M → Prop) → Prop} {c_X12_isHere : Int → Int → e_M → (Int → Prop) → Prop} {c_X12_placeOf : Int → Int → e_M → (Int → Prop) → Prop} {c_X12_served : Int → Int → e_M → (e_M → Prop) → Prop} {c_X12_placeOn : Int → Int → e_M → (Int → Prop) → Prop} {c_X12_wordOf : Int → e_M → (Int → Prop) → Prop} {c_X12_begin : Int → Int → e_M → (e_M → Prop) → Prop} {c_X12_more : Int → e_M → (e_M → Prop) → Prop} {c_X12_moreDay : Int → e_M → (e_M → Prop) → Prop} {k304 : Int → Int → e_M → Prop} {k296 : Int → Int → e_M → Prop} {x1 : Int} {x2 : Int} {M : e_M} (C : f_Hy sh t yX12_showLot rm cs 9 (lX12_showLot c_X12_lineOf c_X12_areaOf c_X12_moreNumber c_X12_write c_X12_writeWord c_X12_writeNumber c_X12_id c_X12_share c_X12_debt c_X12_isHere c_X12_placeOf c_X12_served c_X12_placeOn c_X12_wordOf c_X12_begin c_X12_more c_X12_moreDay) R) (h304 : ∀ (x1 : Int) (x2 : Int) (M : e_M), k304 x1 x2 M → f_E sh t YX12_showLot rm cs (f_Q sh t R) 304 [.inr (.inr (.inl (12, 123, 4456))), .inl x1, .inl x2, .inr (.inr (.inr ())), .inr (.inr (.inr ()))] [] M) (h296 : ∀ (x1 : Int) (x2 : Int) (M : e_M), k296 x1 x2 M → f_E sh t YX12_showLot rm cs (f_Q sh t R) 296 [.inr (.inr (.inl (12, 123, 4456))), .inl x1, .inl x2, .inr (.inr (.inr ())), .inr (.inr (.inr ()))] [] M) (h : VX12_showLot_257 c_X12_lineOf c_X12_areaOf c_X12_moreNumber c_X12_write c_X12_writeWord c_X12_writeNumber c_X12_id c_X12_share c_X12_debt c_X12_isHere c_X12_placeOf c_X12_served c_X12_placeOn c_X12_wordOf c_X12_begin c_X12_more c_X12_moreDay k304 k296 (fun M => R none M) x1 x2 M) : f_E sh t YX12_showLot rm cs (f_Q sh t R) 257 [.inr (.inr (.inl (12, 123, 4456))), .inl x1, .inl x2, .inr (.inr (.inr ())), .inr (.inr (.inr ()))] [] M :=
  f_go (KC := f_kc [(304, f_pl [(4466, 12, 123), (1, 0, 0), (1, 0, 0), (0, 0, 0), (0, 0, 0)] [] (fun ls st M => k304 (f_vi (f_nth ls 1)) (f_vi (f_nth ls 2)) M)), (296, f_pl [(4466, 12, 123), (1, 0, 0), (1, 0, 0), (0, 0, 0), (0, 0, 0)] [] (fun ls st M => k296 (f_vi (f_nth ls 1)) (f_vi (f_nth ls 2)) M))]) C qX12_showLotf (f_kc_cons (f_pl_ok rfl (fun ls st M h => h304 _ _ M h)) (f_kc_cons (f_pl_ok rfl (fun ls st M h => h296 _ _ M h)) f_kc_nil)) 249 160 h
set_option maxRecDepth 20000 in
theorem BX12_showLot_296 {sh : Nat → Nat × Nat} {t : Nat} {rm : Nat × Nat × Nat} {cs : Nat × Nat} {R : f_Rt} {c_X12_lineOf : Int → Int → e_M → (e_M → Prop) → Prop} {c_X12_areaOf : Int → Int → e_M → (Int → Prop) → Prop} {c_X12_moreNumber : Int → e_M → (e_M → Prop) → Prop} {c_X12_write : Int → e_M → (e_M → Prop) → Prop} {c_X12_writeWord : Int → e_M → (e_M → Prop) → Prop} {c_X12_writeNumber : Int → e_M → (e_M → Prop) → Prop} {c_X12_id : Int → Int → e_M → (Int → Prop) → Prop} {c_X12_share : Int → Int → Int → e_M → (e_M → Prop) → Prop} {c_X12_debt : Int → e_M → (e_M → Prop) → Prop} {c_X12_isHere : Int → Int → e_M → (Int → Prop) → Prop} {c_X12_placeOf : Int → Int → e_M → (Int → Prop) → Prop} {c_X12_served : Int → Int → e_M → (e_M → Prop) → Prop} {c_X12_placeOn : Int → Int → e_M → (Int → Prop) → Prop} {c_X12_wordOf : Int → e_M → (Int → Prop) → Prop} {c_X12_begin : Int → Int → e_M → (e_M → Prop) → Prop} {c_X12_more : Int → e_M → (e_M → Prop) → Prop} {c_X12_moreDay : Int → e_M → (e_M → Prop) → Prop} {k257 : Int → Int → e_M → Prop} {x1 : Int} {x2 : Int} {M : e_M} (C : f_Hy sh t yX12_showLot rm cs 9 (lX12_showLot c_X12_lineOf c_X12_areaOf c_X12_moreNumber c_X12_write c_X12_writeWord c_X12_writeNumber c_X12_id c_X12_share c_X12_debt c_X12_isHere c_X12_placeOf c_X12_served c_X12_placeOn c_X12_wordOf c_X12_begin c_X12_more c_X12_moreDay) R) (h257 : ∀ (x1 : Int) (x2 : Int) (M : e_M), k257 x1 x2 M → f_E sh t YX12_showLot rm cs (f_Q sh t R) 257 [.inr (.inr (.inl (12, 123, 4456))), .inl x1, .inl x2, .inr (.inr (.inr ())), .inr (.inr (.inr ()))] [] M) (h : VX12_showLot_296 c_X12_lineOf c_X12_areaOf c_X12_moreNumber c_X12_write c_X12_writeWord c_X12_writeNumber c_X12_id c_X12_share c_X12_debt c_X12_isHere c_X12_placeOf c_X12_served c_X12_placeOn c_X12_wordOf c_X12_begin c_X12_more c_X12_moreDay k257 (fun M => R none M) x1 x2 M) : f_E sh t YX12_showLot rm cs (f_Q sh t R) 296 [.inr (.inr (.inl (12, 123, 4456))), .inl x1, .inl x2, .inr (.inr (.inr ())), .inr (.inr (.inr ()))] [] M :=
  f_go (KC := f_kc [(257, f_pl [(4466, 12, 123), (1, 0, 0), (1, 0, 0), (0, 0, 0), (0, 0, 0)] [] (fun ls st M => k257 (f_vi (f_nth ls 1)) (f_vi (f_nth ls 2)) M))]) C qX12_showLotf (f_kc_cons (f_pl_ok rfl (fun ls st M h => h257 _ _ M h)) f_kc_nil) 249 183 h
set_option maxRecDepth 20000 in
theorem BX12_showLot_304 {sh : Nat → Nat × Nat} {t : Nat} {rm : Nat × Nat × Nat} {cs : Nat × Nat} {R : f_Rt} {c_X12_lineOf : Int → Int → e_M → (e_M → Prop) → Prop} {c_X12_areaOf : Int → Int → e_M → (Int → Prop) → Prop} {c_X12_moreNumber : Int → e_M → (e_M → Prop) → Prop} {c_X12_write : Int → e_M → (e_M → Prop) → Prop} {c_X12_writeWord : Int → e_M → (e_M → Prop) → Prop} {c_X12_writeNumber : Int → e_M → (e_M → Prop) → Prop} {c_X12_id : Int → Int → e_M → (Int → Prop) → Prop} {c_X12_share : Int → Int → Int → e_M → (e_M → Prop) → Prop} {c_X12_debt : Int → e_M → (e_M → Prop) → Prop} {c_X12_isHere : Int → Int → e_M → (Int → Prop) → Prop} {c_X12_placeOf : Int → Int → e_M → (Int → Prop) → Prop} {c_X12_served : Int → Int → e_M → (e_M → Prop) → Prop} {c_X12_placeOn : Int → Int → e_M → (Int → Prop) → Prop} {c_X12_wordOf : Int → e_M → (Int → Prop) → Prop} {c_X12_begin : Int → Int → e_M → (e_M → Prop) → Prop} {c_X12_more : Int → e_M → (e_M → Prop) → Prop} {c_X12_moreDay : Int → e_M → (e_M → Prop) → Prop} {k312 : Int → Int → Int → e_M → Prop} {x1 : Int} {x2 : Int} {M : e_M} (C : f_Hy sh t yX12_showLot rm cs 9 (lX12_showLot c_X12_lineOf c_X12_areaOf c_X12_moreNumber c_X12_write c_X12_writeWord c_X12_writeNumber c_X12_id c_X12_share c_X12_debt c_X12_isHere c_X12_placeOf c_X12_served c_X12_placeOn c_X12_wordOf c_X12_begin c_X12_more c_X12_moreDay) R) (h312 : ∀ (x1 : Int) (x2 : Int) (x3 : Int) (M : e_M), k312 x1 x2 x3 M → f_E sh t YX12_showLot rm cs (f_Q sh t R) 312 [.inr (.inr (.inl (12, 123, 4456))), .inl x1, .inl x2, .inl x3, .inr (.inr (.inr ()))] [] M) (h : VX12_showLot_304 c_X12_lineOf c_X12_areaOf c_X12_moreNumber c_X12_write c_X12_writeWord c_X12_writeNumber c_X12_id c_X12_share c_X12_debt c_X12_isHere c_X12_placeOf c_X12_served c_X12_placeOn c_X12_wordOf c_X12_begin c_X12_more c_X12_moreDay k312 (fun M => R none M) x1 x2 M) : f_E sh t YX12_showLot rm cs (f_Q sh t R) 304 [.inr (.inr (.inl (12, 123, 4456))), .inl x1, .inl x2, .inr (.inr (.inr ())), .inr (.inr (.inr ()))] [] M :=
  f_go (KC := f_kc [(312, f_pl [(4466, 12, 123), (1, 0, 0), (1, 0, 0), (1, 0, 0), (0, 0, 0)] [] (fun ls st M => k312 (f_vi (f_nth ls 1)) (f_vi (f_nth ls 2)) (f_vi (f_nth ls 3)) M))]) C qX12_showLotf (f_kc_cons (f_pl_ok rfl (fun ls st M h => h312 _ _ _ M h)) f_kc_nil) 249 188 h
set_option maxRecDepth 20000 in
theorem BX12_showLot_312 {sh : Nat → Nat × Nat} {t : Nat} {rm : Nat × Nat × Nat} {cs : Nat × Nat} {R : f_Rt} {c_X12_lineOf : Int → Int → e_M → (e_M → Prop) → Prop} {c_X12_areaOf : Int → Int → e_M → (Int → Prop) → Prop} {c_X12_moreNumber : Int → e_M → (e_M → Prop) → Prop} {c_X12_write : Int → e_M → (e_M → Prop) → Prop} {c_X12_writeWord : Int → e_M → (e_M → Prop) → Prop} {c_X12_writeNumber : Int → e_M → (e_M → Prop) → Prop} {c_X12_id : Int → Int → e_M → (Int → Prop) → Prop} {c_X12_share : Int → Int → Int → e_M → (e_M → Prop) → Prop} {c_X12_debt : Int → e_M → (e_M → Prop) → Prop} {c_X12_isHere : Int → Int → e_M → (Int → Prop) → Prop} {c_X12_placeOf : Int → Int → e_M → (Int → Prop) → Prop} {c_X12_served : Int → Int → e_M → (e_M → Prop) → Prop} {c_X12_placeOn : Int → Int → e_M → (Int → Prop) → Prop} {c_X12_wordOf : Int → e_M → (Int → Prop) → Prop} {c_X12_begin : Int → Int → e_M → (e_M → Prop) → Prop} {c_X12_more : Int → e_M → (e_M → Prop) → Prop} {c_X12_moreDay : Int → e_M → (e_M → Prop) → Prop} {k304 : Int → Int → e_M → Prop} {k398 : Int → Int → Int → e_M → Prop} {k392 : Int → Int → Int → e_M → Prop} {x1 : Int} {x2 : Int} {x3 : Int} {M : e_M} (C : f_Hy sh t yX12_showLot rm cs 9 (lX12_showLot c_X12_lineOf c_X12_areaOf c_X12_moreNumber c_X12_write c_X12_writeWord c_X12_writeNumber c_X12_id c_X12_share c_X12_debt c_X12_isHere c_X12_placeOf c_X12_served c_X12_placeOn c_X12_wordOf c_X12_begin c_X12_more c_X12_moreDay) R) (h304 : ∀ (x1 : Int) (x2 : Int) (M : e_M), k304 x1 x2 M → f_E sh t YX12_showLot rm cs (f_Q sh t R) 304 [.inr (.inr (.inl (12, 123, 4456))), .inl x1, .inl x2, .inr (.inr (.inr ())), .inr (.inr (.inr ()))] [] M) (h398 : ∀ (x1 : Int) (x2 : Int) (x3 : Int) (M : e_M), k398 x1 x2 x3 M → f_E sh t YX12_showLot rm cs (f_Q sh t R) 398 [.inr (.inr (.inl (12, 123, 4456))), .inl x1, .inl x2, .inl x3, .inr (.inr (.inr ()))] [] M) (h392 : ∀ (x1 : Int) (x2 : Int) (x3 : Int) (M : e_M), k392 x1 x2 x3 M → f_E sh t YX12_showLot rm cs (f_Q sh t R) 392 [.inr (.inr (.inl (12, 123, 4456))), .inl x1, .inl x2, .inl x3, .inr (.inr (.inr ()))] [] M) (h : VX12_showLot_312 c_X12_lineOf c_X12_areaOf c_X12_moreNumber c_X12_write c_X12_writeWord c_X12_writeNumber c_X12_id c_X12_share c_X12_debt c_X12_isHere c_X12_placeOf c_X12_served c_X12_placeOn c_X12_wordOf c_X12_begin c_X12_more c_X12_moreDay k304 k398 k392 (fun M => R none M) x1 x2 x3 M) : f_E sh t YX12_showLot rm cs (f_Q sh t R) 312 [.inr (.inr (.inl (12, 123, 4456))), .inl x1, .inl x2, .inl x3, .inr (.inr (.inr ()))] [] M :=
  f_go (KC := f_kc [(304, f_pl [(4466, 12, 123), (1, 0, 0), (1, 0, 0), (0, 0, 0), (0, 0, 0)] [] (fun ls st M => k304 (f_vi (f_nth ls 1)) (f_vi (f_nth ls 2)) M)), (398, f_pl [(4466, 12, 123), (1, 0, 0), (1, 0, 0), (1, 0, 0), (0, 0, 0)] [] (fun ls st M => k398 (f_vi (f_nth ls 1)) (f_vi (f_nth ls 2)) (f_vi (f_nth ls 3)) M)), (392, f_pl [(4466, 12, 123), (1, 0, 0), (1, 0, 0), (1, 0, 0), (0, 0, 0)] [] (fun ls st M => k392 (f_vi (f_nth ls 1)) (f_vi (f_nth ls 2)) (f_vi (f_nth ls 3)) M))]) C qX12_showLotf (f_kc_cons (f_pl_ok rfl (fun ls st M h => h304 _ _ M h)) (f_kc_cons (f_pl_ok rfl (fun ls st M h => h398 _ _ _ M h)) (f_kc_cons (f_pl_ok rfl (fun ls st M h => h392 _ _ _ M h)) f_kc_nil))) 249 194 h
set_option maxRecDepth 20000 in
theorem BX12_showLot_392 {sh : Nat → Nat × Nat} {t : Nat} {rm : Nat × Nat × Nat} {cs : Nat × Nat} {R : f_Rt} {c_X12_lineOf : Int → Int → e_M → (e_M → Prop) → Prop} {c_X12_areaOf : Int → Int → e_M → (Int → Prop) → Prop} {c_X12_moreNumber : Int → e_M → (e_M → Prop) → Prop} {c_X12_write : Int → e_M → (e_M → Prop) → Prop} {c_X12_writeWord : Int → e_M → (e_M → Prop) → Prop} {c_X12_writeNumber : Int → e_M → (e_M → Prop) → Prop} {c_X12_id : Int → Int → e_M → (Int → Prop) → Prop} {c_X12_share : Int → Int → Int → e_M → (e_M → Prop) → Prop} {c_X12_debt : Int → e_M → (e_M → Prop) → Prop} {c_X12_isHere : Int → Int → e_M → (Int → Prop) → Prop} {c_X12_placeOf : Int → Int → e_M → (Int → Prop) → Prop} {c_X12_served : Int → Int → e_M → (e_M → Prop) → Prop} {c_X12_placeOn : Int → Int → e_M → (Int → Prop) → Prop} {c_X12_wordOf : Int → e_M → (Int → Prop) → Prop} {c_X12_begin : Int → Int → e_M → (e_M → Prop) → Prop} {c_X12_more : Int → e_M → (e_M → Prop) → Prop} {c_X12_moreDay : Int → e_M → (e_M → Prop) → Prop} {k398 : Int → Int → Int → e_M → Prop} {x1 : Int} {x2 : Int} {x3 : Int} {M : e_M} (C : f_Hy sh t yX12_showLot rm cs 9 (lX12_showLot c_X12_lineOf c_X12_areaOf c_X12_moreNumber c_X12_write c_X12_writeWord c_X12_writeNumber c_X12_id c_X12_share c_X12_debt c_X12_isHere c_X12_placeOf c_X12_served c_X12_placeOn c_X12_wordOf c_X12_begin c_X12_more c_X12_moreDay) R) (h398 : ∀ (x1 : Int) (x2 : Int) (x3 : Int) (M : e_M), k398 x1 x2 x3 M → f_E sh t YX12_showLot rm cs (f_Q sh t R) 398 [.inr (.inr (.inl (12, 123, 4456))), .inl x1, .inl x2, .inl x3, .inr (.inr (.inr ()))] [] M) (h : VX12_showLot_392 c_X12_lineOf c_X12_areaOf c_X12_moreNumber c_X12_write c_X12_writeWord c_X12_writeNumber c_X12_id c_X12_share c_X12_debt c_X12_isHere c_X12_placeOf c_X12_served c_X12_placeOn c_X12_wordOf c_X12_begin c_X12_more c_X12_moreDay k398 (fun M => R none M) x1 x2 x3 M) : f_E sh t YX12_showLot rm cs (f_Q sh t R) 392 [.inr (.inr (.inl (12, 123, 4456))), .inl x1, .inl x2, .inl x3, .inr (.inr (.inr ()))] [] M :=
  f_go (KC := f_kc [(398, f_pl [(4466, 12, 123), (1, 0, 0), (1, 0, 0), (1, 0, 0), (0, 0, 0)] [] (fun ls st M => k398 (f_vi (f_nth ls 1)) (f_vi (f_nth ls 2)) (f_vi (f_nth ls 3)) M))]) C qX12_showLotf (f_kc_cons (f_pl_ok rfl (fun ls st M h => h398 _ _ _ M h)) f_kc_nil) 249 238 h
set_option maxRecDepth 20000 in
theorem BX12_showLot_398 {sh : Nat → Nat × Nat} {t : Nat} {rm : Nat × Nat × Nat} {cs : Nat × Nat} {R : f_Rt} {c_X12_lineOf : Int → Int → e_M → (e_M → Prop) → Prop} {c_X12_areaOf : Int → Int → e_M → (Int → Prop) → Prop} {c_X12_moreNumber : Int → e_M → (e_M → Prop) → Prop} {c_X12_write : Int → e_M → (e_M → Prop) → Prop} {c_X12_writeWord : Int → e_M → (e_M → Prop) → Prop} {c_X12_writeNumber : Int → e_M → (e_M → Prop) → Prop} {c_X12_id : Int → Int → e_M → (Int → Prop) → Prop} {c_X12_share : Int → Int → Int → e_M → (e_M → Prop) → Prop} {c_X12_debt : Int → e_M → (e_M → Prop) → Prop} {c_X12_isHere : Int → Int → e_M → (Int → Prop) → Prop} {c_X12_placeOf : Int → Int → e_M → (Int → Prop) → Prop} {c_X12_served : Int → Int → e_M → (e_M → Prop) → Prop} {c_X12_placeOn : Int → Int → e_M → (Int → Prop) → Prop} {c_X12_wordOf : Int → e_M → (Int → Prop) → Prop} {c_X12_begin : Int → Int → e_M → (e_M → Prop) → Prop} {c_X12_more : Int → e_M → (e_M → Prop) → Prop} {c_X12_moreDay : Int → e_M → (e_M → Prop) → Prop} {k312 : Int → Int → Int → e_M → Prop} {x1 : Int} {x2 : Int} {x3 : Int} {M : e_M} (C : f_Hy sh t yX12_showLot rm cs 9 (lX12_showLot c_X12_lineOf c_X12_areaOf c_X12_moreNumber c_X12_write c_X12_writeWord c_X12_writeNumber c_X12_id c_X12_share c_X12_debt c_X12_isHere c_X12_placeOf c_X12_served c_X12_placeOn c_X12_wordOf c_X12_begin c_X12_more c_X12_moreDay) R) (h312 : ∀ (x1 : Int) (x2 : Int) (x3 : Int) (M : e_M), k312 x1 x2 x3 M → f_E sh t YX12_showLot rm cs (f_Q sh t R) 312 [.inr (.inr (.inl (12, 123, 4456))), .inl x1, .inl x2, .inl x3, .inr (.inr (.inr ()))] [] M) (h : VX12_showLot_398 c_X12_lineOf c_X12_areaOf c_X12_moreNumber c_X12_write c_X12_writeWord c_X12_writeNumber c_X12_id c_X12_share c_X12_debt c_X12_isHere c_X12_placeOf c_X12_served c_X12_placeOn c_X12_wordOf c_X12_begin c_X12_more c_X12_moreDay k312 (fun M => R none M) x1 x2 x3 M) : f_E sh t YX12_showLot rm cs (f_Q sh t R) 398 [.inr (.inr (.inl (12, 123, 4456))), .inl x1, .inl x2, .inl x3, .inr (.inr (.inr ()))] [] M :=
  f_go (KC := f_kc [(312, f_pl [(4466, 12, 123), (1, 0, 0), (1, 0, 0), (1, 0, 0), (0, 0, 0)] [] (fun ls st M => k312 (f_vi (f_nth ls 1)) (f_vi (f_nth ls 2)) (f_vi (f_nth ls 3)) M))]) C qX12_showLotf (f_kc_cons (f_pl_ok rfl (fun ls st M h => h312 _ _ _ M h)) f_kc_nil) 249 242 h
set_option maxRecDepth 20000 in
theorem BX12_showLot {sh : Nat → Nat × Nat} {t : Nat} {rm : Nat × Nat × Nat} {cs : Nat × Nat} {R : f_Rt} {c_X12_lineOf : Int → Int → e_M → (e_M → Prop) → Prop} {c_X12_areaOf : Int → Int → e_M → (Int → Prop) → Prop} {c_X12_moreNumber : Int → e_M → (e_M → Prop) → Prop} {c_X12_write : Int → e_M → (e_M → Prop) → Prop} {c_X12_writeWord : Int → e_M → (e_M → Prop) → Prop} {c_X12_writeNumber : Int → e_M → (e_M → Prop) → Prop} {c_X12_id : Int → Int → e_M → (Int → Prop) → Prop} {c_X12_share : Int → Int → Int → e_M → (e_M → Prop) → Prop} {c_X12_debt : Int → e_M → (e_M → Prop) → Prop} {c_X12_isHere : Int → Int → e_M → (Int → Prop) → Prop} {c_X12_placeOf : Int → Int → e_M → (Int → Prop) → Prop} {c_X12_served : Int → Int → e_M → (e_M → Prop) → Prop} {c_X12_placeOn : Int → Int → e_M → (Int → Prop) → Prop} {c_X12_wordOf : Int → e_M → (Int → Prop) → Prop} {c_X12_begin : Int → Int → e_M → (e_M → Prop) → Prop} {c_X12_more : Int → e_M → (e_M → Prop) → Prop} {c_X12_moreDay : Int → e_M → (e_M → Prop) → Prop} {k38 : Int → Int → e_M → Prop} {x1 : Int} {M : e_M} (C : f_Hy sh t yX12_showLot rm cs 9 (lX12_showLot c_X12_lineOf c_X12_areaOf c_X12_moreNumber c_X12_write c_X12_writeWord c_X12_writeNumber c_X12_id c_X12_share c_X12_debt c_X12_isHere c_X12_placeOf c_X12_served c_X12_placeOn c_X12_wordOf c_X12_begin c_X12_more c_X12_moreDay) R) (h38 : ∀ (x1 : Int) (x2 : Int) (M : e_M), k38 x1 x2 M → f_E sh t YX12_showLot rm cs (f_Q sh t R) 38 [.inr (.inr (.inl (12, 123, 4456))), .inl x1, .inl x2, .inr (.inr (.inr ())), .inr (.inr (.inr ()))] [] M) (h : VX12_showLot c_X12_lineOf c_X12_areaOf c_X12_moreNumber c_X12_write c_X12_writeWord c_X12_writeNumber c_X12_id c_X12_share c_X12_debt c_X12_isHere c_X12_placeOf c_X12_served c_X12_placeOn c_X12_wordOf c_X12_begin c_X12_more c_X12_moreDay k38 (fun M => R none M) x1 M) : f_E sh t YX12_showLot rm cs (f_Q sh t R) 0 [.inr (.inr (.inl (12, 123, 4456))), .inl x1, .inr (.inr (.inr ())), .inr (.inr (.inr ())), .inr (.inr (.inr ()))] [] M :=
  f_go (KC := f_kc [(38, f_pl [(4466, 12, 123), (1, 0, 0), (1, 0, 0), (0, 0, 0), (0, 0, 0)] [] (fun ls st M => k38 (f_vi (f_nth ls 1)) (f_vi (f_nth ls 2)) M))]) C qX12_showLotf (f_kc_cons (f_pl_ok rfl (fun ls st M h => h38 _ _ M h)) f_kc_nil) 249 0 h
def WX12_showLot_398 (H304 : Int → Int → e_M → Prop) (H312 : Int → Int → Int → e_M → Prop) (Q : e_M → Prop) (x1 : Int) (x2 : Int) (x3 : Int) (M : e_M) : Prop :=
  VX12_showLot_398 WX12_lineOf WX12_areaOf WX12_moreNumber WX12_write WX12_writeWord WX12_writeNumber WX12_id WX12_share WX12_debt WX12_isHere WX12_placeOf WX12_served WX12_placeOn WX12_wordOf WX12_begin WX12_more WX12_moreDay H312 Q x1 x2 x3 M
def WX12_showLot_392 (H304 : Int → Int → e_M → Prop) (H312 : Int → Int → Int → e_M → Prop) (Q : e_M → Prop) (x1 : Int) (x2 : Int) (x3 : Int) (M : e_M) : Prop :=
  VX12_showLot_392 WX12_lineOf WX12_areaOf WX12_moreNumber WX12_write WX12_writeWord WX12_writeNumber WX12_id WX12_share WX12_debt WX12_isHere WX12_placeOf WX12_served WX12_placeOn WX12_wordOf WX12_begin WX12_more WX12_moreDay (WX12_showLot_398 H304 H312 Q) Q x1 x2 x3 M
def WX12_showLot_312 (H304 : Int → Int → e_M → Prop) (Q : e_M → Prop) : Nat → Int → Int → Int → e_M → Prop
  | 0, _, _, _, _ => False
  | n + 1, x1, x2, x3, M =>
    VX12_showLot_312 WX12_lineOf WX12_areaOf WX12_moreNumber WX12_write WX12_writeWord WX12_writeNumber WX12_id WX12_share WX12_debt WX12_isHere WX12_placeOf WX12_served WX12_placeOn WX12_wordOf WX12_begin WX12_more WX12_moreDay H304 (WX12_showLot_398 H304 (WX12_showLot_312 H304 Q n) Q) (WX12_showLot_392 H304 (WX12_showLot_312 H304 Q n) Q) Q x1 x2 x3 M
def WX12_showLot_304 (Q : e_M → Prop) : Nat → Int → Int → e_M → Prop
  | 0, _, _, _ => False
  | n + 1, x1, x2, M =>
    VX12_showLot_304 WX12_lineOf WX12_areaOf WX12_moreNumber WX12_write WX12_writeWord WX12_writeNumber WX12_id WX12_share WX12_debt WX12_isHere WX12_placeOf WX12_served WX12_placeOn WX12_wordOf WX12_begin WX12_more WX12_moreDay (fun x1 x2 x3 M => ∃ j, WX12_showLot_312 (WX12_showLot_304 Q n) Q j x1 x2 x3 M) Q x1 x2 M
def WX12_showLot_296 (H257 : Int → Int → e_M → Prop) (Q : e_M → Prop) (x1 : Int) (x2 : Int) (M : e_M) : Prop :=
  VX12_showLot_296 WX12_lineOf WX12_areaOf WX12_moreNumber WX12_write WX12_writeWord WX12_writeNumber WX12_id WX12_share WX12_debt WX12_isHere WX12_placeOf WX12_served WX12_placeOn WX12_wordOf WX12_begin WX12_more WX12_moreDay H257 Q x1 x2 M
def WX12_showLot_257 (Q : e_M → Prop) : Nat → Int → Int → e_M → Prop
  | 0, _, _, _ => False
  | n + 1, x1, x2, M =>
    VX12_showLot_257 WX12_lineOf WX12_areaOf WX12_moreNumber WX12_write WX12_writeWord WX12_writeNumber WX12_id WX12_share WX12_debt WX12_isHere WX12_placeOf WX12_served WX12_placeOn WX12_wordOf WX12_begin WX12_more WX12_moreDay (fun x1 x2 M => ∃ j, WX12_showLot_304 Q j x1 x2 M) (WX12_showLot_296 (WX12_showLot_257 Q n) Q) Q x1 x2 M
def WX12_showLot_249 (H210 : Int → Int → e_M → Prop) (Q : e_M → Prop) (x1 : Int) (x2 : Int) (M : e_M) : Prop :=
  VX12_showLot_249 WX12_lineOf WX12_areaOf WX12_moreNumber WX12_write WX12_writeWord WX12_writeNumber WX12_id WX12_share WX12_debt WX12_isHere WX12_placeOf WX12_served WX12_placeOn WX12_wordOf WX12_begin WX12_more WX12_moreDay H210 Q x1 x2 M
def WX12_showLot_210 (Q : e_M → Prop) : Nat → Int → Int → e_M → Prop
  | 0, _, _, _ => False
  | n + 1, x1, x2, M =>
    VX12_showLot_210 WX12_lineOf WX12_areaOf WX12_moreNumber WX12_write WX12_writeWord WX12_writeNumber WX12_id WX12_share WX12_debt WX12_isHere WX12_placeOf WX12_served WX12_placeOn WX12_wordOf WX12_begin WX12_more WX12_moreDay (fun x1 x2 M => ∃ j, WX12_showLot_257 Q j x1 x2 M) (WX12_showLot_249 (WX12_showLot_210 Q n) Q) Q x1 x2 M
def WX12_showLot_177 (Q : e_M → Prop) : Nat → Int → Int → e_M → Prop
  | 0, _, _, _ => False
  | n + 1, x1, x2, M =>
    VX12_showLot_177 WX12_lineOf WX12_areaOf WX12_moreNumber WX12_write WX12_writeWord WX12_writeNumber WX12_id WX12_share WX12_debt WX12_isHere WX12_placeOf WX12_served WX12_placeOn WX12_wordOf WX12_begin WX12_more WX12_moreDay (fun x1 x2 M => ∃ j, WX12_showLot_210 Q j x1 x2 M) (WX12_showLot_177 Q n) Q x1 x2 M
def WX12_showLot_118 (Q : e_M → Prop) : Nat → Int → Int → e_M → Prop
  | 0, _, _, _ => False
  | n + 1, x1, x2, M =>
    VX12_showLot_118 WX12_lineOf WX12_areaOf WX12_moreNumber WX12_write WX12_writeWord WX12_writeNumber WX12_id WX12_share WX12_debt WX12_isHere WX12_placeOf WX12_served WX12_placeOn WX12_wordOf WX12_begin WX12_more WX12_moreDay (fun x1 x2 M => ∃ j, WX12_showLot_177 Q j x1 x2 M) (WX12_showLot_118 Q n) Q x1 x2 M
def WX12_showLot_38 (Q : e_M → Prop) : Nat → Int → Int → e_M → Prop
  | 0, _, _, _ => False
  | n + 1, x1, x2, M =>
    VX12_showLot_38 WX12_lineOf WX12_areaOf WX12_moreNumber WX12_write WX12_writeWord WX12_writeNumber WX12_id WX12_share WX12_debt WX12_isHere WX12_placeOf WX12_served WX12_placeOn WX12_wordOf WX12_begin WX12_more WX12_moreDay (fun x1 x2 M => ∃ j, WX12_showLot_118 Q j x1 x2 M) (WX12_showLot_38 Q n) Q x1 x2 M
def WX12_showLot (x1 : Int) (M : e_M) (Q : e_M → Prop) : Prop :=
  VX12_showLot WX12_lineOf WX12_areaOf WX12_moreNumber WX12_write WX12_writeWord WX12_writeNumber WX12_id WX12_share WX12_debt WX12_isHere WX12_placeOf WX12_served WX12_placeOn WX12_wordOf WX12_begin WX12_more WX12_moreDay (fun x1 x2 M => ∃ j, WX12_showLot_38 Q j x1 x2 M) Q x1 M
theorem PX12_showLot_398 {sh : Nat → Nat × Nat} {t : Nat} {rm : Nat × Nat × Nat} {cs : Nat × Nat} {R : f_Rt} {H304 : Int → Int → e_M → Prop} {H312 : Int → Int → Int → e_M → Prop} {x1 : Int} {x2 : Int} {x3 : Int} {M : e_M} (C : f_Hy sh t yX12_showLot rm cs 9 (lX12_showLot WX12_lineOf WX12_areaOf WX12_moreNumber WX12_write WX12_writeWord WX12_writeNumber WX12_id WX12_share WX12_debt WX12_isHere WX12_placeOf WX12_served WX12_placeOn WX12_wordOf WX12_begin WX12_more WX12_moreDay) R) (g304 : ∀ (x1 : Int) (x2 : Int) (M : e_M), H304 x1 x2 M → f_E sh t YX12_showLot rm cs (f_Q sh t R) 304 [.inr (.inr (.inl (12, 123, 4456))), .inl x1, .inl x2, .inr (.inr (.inr ())), .inr (.inr (.inr ()))] [] M) (g312 : ∀ (x1 : Int) (x2 : Int) (x3 : Int) (M : e_M), H312 x1 x2 x3 M → f_E sh t YX12_showLot rm cs (f_Q sh t R) 312 [.inr (.inr (.inl (12, 123, 4456))), .inl x1, .inl x2, .inl x3, .inr (.inr (.inr ()))] [] M) (h : WX12_showLot_398 H304 H312 (fun M => R none M) x1 x2 x3 M) : f_E sh t YX12_showLot rm cs (f_Q sh t R) 398 [.inr (.inr (.inl (12, 123, 4456))), .inl x1, .inl x2, .inl x3, .inr (.inr (.inr ()))] [] M :=
  BX12_showLot_398 C g312 h
theorem PX12_showLot_392 {sh : Nat → Nat × Nat} {t : Nat} {rm : Nat × Nat × Nat} {cs : Nat × Nat} {R : f_Rt} {H304 : Int → Int → e_M → Prop} {H312 : Int → Int → Int → e_M → Prop} {x1 : Int} {x2 : Int} {x3 : Int} {M : e_M} (C : f_Hy sh t yX12_showLot rm cs 9 (lX12_showLot WX12_lineOf WX12_areaOf WX12_moreNumber WX12_write WX12_writeWord WX12_writeNumber WX12_id WX12_share WX12_debt WX12_isHere WX12_placeOf WX12_served WX12_placeOn WX12_wordOf WX12_begin WX12_more WX12_moreDay) R) (g304 : ∀ (x1 : Int) (x2 : Int) (M : e_M), H304 x1 x2 M → f_E sh t YX12_showLot rm cs (f_Q sh t R) 304 [.inr (.inr (.inl (12, 123, 4456))), .inl x1, .inl x2, .inr (.inr (.inr ())), .inr (.inr (.inr ()))] [] M) (g312 : ∀ (x1 : Int) (x2 : Int) (x3 : Int) (M : e_M), H312 x1 x2 x3 M → f_E sh t YX12_showLot rm cs (f_Q sh t R) 312 [.inr (.inr (.inl (12, 123, 4456))), .inl x1, .inl x2, .inl x3, .inr (.inr (.inr ()))] [] M) (h : WX12_showLot_392 H304 H312 (fun M => R none M) x1 x2 x3 M) : f_E sh t YX12_showLot rm cs (f_Q sh t R) 392 [.inr (.inr (.inl (12, 123, 4456))), .inl x1, .inl x2, .inl x3, .inr (.inr (.inr ()))] [] M :=
  BX12_showLot_392 C (fun x1 x2 x3 M h => PX12_showLot_398 C g304 g312 h) h
theorem PX12_showLot_312 {sh : Nat → Nat × Nat} {t : Nat} {rm : Nat × Nat × Nat} {cs : Nat × Nat} {R : f_Rt} {H304 : Int → Int → e_M → Prop} (C : f_Hy sh t yX12_showLot rm cs 9 (lX12_showLot WX12_lineOf WX12_areaOf WX12_moreNumber WX12_write WX12_writeWord WX12_writeNumber WX12_id WX12_share WX12_debt WX12_isHere WX12_placeOf WX12_served WX12_placeOn WX12_wordOf WX12_begin WX12_more WX12_moreDay) R) (g304 : ∀ (x1 : Int) (x2 : Int) (M : e_M), H304 x1 x2 M → f_E sh t YX12_showLot rm cs (f_Q sh t R) 304 [.inr (.inr (.inl (12, 123, 4456))), .inl x1, .inl x2, .inr (.inr (.inr ())), .inr (.inr (.inr ()))] [] M) : ∀ (n : Nat) (x1 : Int) (x2 : Int) (x3 : Int) (M : e_M), WX12_showLot_312 H304 (fun M => R none M) n x1 x2 x3 M → f_E sh t YX12_showLot rm cs (f_Q sh t R) 312 [.inr (.inr (.inl (12, 123, 4456))), .inl x1, .inl x2, .inl x3, .inr (.inr (.inr ()))] [] M := by
  intro n
  induction n with
  | zero => intro x1 x2 x3 M h; exact h.elim
  | succ n ih => intro x1 x2 x3 M h; exact BX12_showLot_312 C g304 (fun x1 x2 x3 M h => PX12_showLot_398 C g304 ih h) (fun x1 x2 x3 M h => PX12_showLot_392 C g304 ih h) h
theorem PX12_showLot_304 {sh : Nat → Nat × Nat} {t : Nat} {rm : Nat × Nat × Nat} {cs : Nat × Nat} {R : f_Rt} (C : f_Hy sh t yX12_showLot rm cs 9 (lX12_showLot WX12_lineOf WX12_areaOf WX12_moreNumber WX12_write WX12_writeWord WX12_writeNumber WX12_id WX12_share WX12_debt WX12_isHere WX12_placeOf WX12_served WX12_placeOn WX12_wordOf WX12_begin WX12_more WX12_moreDay) R) : ∀ (n : Nat) (x1 : Int) (x2 : Int) (M : e_M), WX12_showLot_304 (fun M => R none M) n x1 x2 M → f_E sh t YX12_showLot rm cs (f_Q sh t R) 304 [.inr (.inr (.inl (12, 123, 4456))), .inl x1, .inl x2, .inr (.inr (.inr ())), .inr (.inr (.inr ()))] [] M := by
  intro n
  induction n with
  | zero => intro x1 x2 M h; exact h.elim
  | succ n ih => intro x1 x2 M h; exact BX12_showLot_304 C (fun x1 x2 x3 M ⟨j, h⟩ => PX12_showLot_312 C ih j _ _ _ _ h) h
theorem PX12_showLot_296 {sh : Nat → Nat × Nat} {t : Nat} {rm : Nat × Nat × Nat} {cs : Nat × Nat} {R : f_Rt} {H257 : Int → Int → e_M → Prop} {x1 : Int} {x2 : Int} {M : e_M} (C : f_Hy sh t yX12_showLot rm cs 9 (lX12_showLot WX12_lineOf WX12_areaOf WX12_moreNumber WX12_write WX12_writeWord WX12_writeNumber WX12_id WX12_share WX12_debt WX12_isHere WX12_placeOf WX12_served WX12_placeOn WX12_wordOf WX12_begin WX12_more WX12_moreDay) R) (g257 : ∀ (x1 : Int) (x2 : Int) (M : e_M), H257 x1 x2 M → f_E sh t YX12_showLot rm cs (f_Q sh t R) 257 [.inr (.inr (.inl (12, 123, 4456))), .inl x1, .inl x2, .inr (.inr (.inr ())), .inr (.inr (.inr ()))] [] M) (h : WX12_showLot_296 H257 (fun M => R none M) x1 x2 M) : f_E sh t YX12_showLot rm cs (f_Q sh t R) 296 [.inr (.inr (.inl (12, 123, 4456))), .inl x1, .inl x2, .inr (.inr (.inr ())), .inr (.inr (.inr ()))] [] M :=
  BX12_showLot_296 C g257 h
theorem PX12_showLot_257 {sh : Nat → Nat × Nat} {t : Nat} {rm : Nat × Nat × Nat} {cs : Nat × Nat} {R : f_Rt} (C : f_Hy sh t yX12_showLot rm cs 9 (lX12_showLot WX12_lineOf WX12_areaOf WX12_moreNumber WX12_write WX12_writeWord WX12_writeNumber WX12_id WX12_share WX12_debt WX12_isHere WX12_placeOf WX12_served WX12_placeOn WX12_wordOf WX12_begin WX12_more WX12_moreDay) R) : ∀ (n : Nat) (x1 : Int) (x2 : Int) (M : e_M), WX12_showLot_257 (fun M => R none M) n x1 x2 M → f_E sh t YX12_showLot rm cs (f_Q sh t R) 257 [.inr (.inr (.inl (12, 123, 4456))), .inl x1, .inl x2, .inr (.inr (.inr ())), .inr (.inr (.inr ()))] [] M := by
  intro n
  induction n with
  | zero => intro x1 x2 M h; exact h.elim
  | succ n ih => intro x1 x2 M h; exact BX12_showLot_257 C (fun x1 x2 M ⟨j, h⟩ => PX12_showLot_304 C j _ _ _ h) (fun x1 x2 M h => PX12_showLot_296 C ih h) h
theorem PX12_showLot_249 {sh : Nat → Nat × Nat} {t : Nat} {rm : Nat × Nat × Nat} {cs : Nat × Nat} {R : f_Rt} {H210 : Int → Int → e_M → Prop} {x1 : Int} {x2 : Int} {M : e_M} (C : f_Hy sh t yX12_showLot rm cs 9 (lX12_showLot WX12_lineOf WX12_areaOf WX12_moreNumber WX12_write WX12_writeWord WX12_writeNumber WX12_id WX12_share WX12_debt WX12_isHere WX12_placeOf WX12_served WX12_placeOn WX12_wordOf WX12_begin WX12_more WX12_moreDay) R) (g210 : ∀ (x1 : Int) (x2 : Int) (M : e_M), H210 x1 x2 M → f_E sh t YX12_showLot rm cs (f_Q sh t R) 210 [.inr (.inr (.inl (12, 123, 4456))), .inl x1, .inl x2, .inr (.inr (.inr ())), .inr (.inr (.inr ()))] [] M) (h : WX12_showLot_249 H210 (fun M => R none M) x1 x2 M) : f_E sh t YX12_showLot rm cs (f_Q sh t R) 249 [.inr (.inr (.inl (12, 123, 4456))), .inl x1, .inl x2, .inr (.inr (.inr ())), .inr (.inr (.inr ()))] [] M :=
  BX12_showLot_249 C g210 h
theorem PX12_showLot_210 {sh : Nat → Nat × Nat} {t : Nat} {rm : Nat × Nat × Nat} {cs : Nat × Nat} {R : f_Rt} (C : f_Hy sh t yX12_showLot rm cs 9 (lX12_showLot WX12_lineOf WX12_areaOf WX12_moreNumber WX12_write WX12_writeWord WX12_writeNumber WX12_id WX12_share WX12_debt WX12_isHere WX12_placeOf WX12_served WX12_placeOn WX12_wordOf WX12_begin WX12_more WX12_moreDay) R) : ∀ (n : Nat) (x1 : Int) (x2 : Int) (M : e_M), WX12_showLot_210 (fun M => R none M) n x1 x2 M → f_E sh t YX12_showLot rm cs (f_Q sh t R) 210 [.inr (.inr (.inl (12, 123, 4456))), .inl x1, .inl x2, .inr (.inr (.inr ())), .inr (.inr (.inr ()))] [] M := by
  intro n
  induction n with
  | zero => intro x1 x2 M h; exact h.elim
  | succ n ih => intro x1 x2 M h; exact BX12_showLot_210 C (fun x1 x2 M ⟨j, h⟩ => PX12_showLot_257 C j _ _ _ h) (fun x1 x2 M h => PX12_showLot_249 C ih h) h
theorem PX12_showLot_177 {sh : Nat → Nat × Nat} {t : Nat} {rm : Nat × Nat × Nat} {cs : Nat × Nat} {R : f_Rt} (C : f_Hy sh t yX12_showLot rm cs 9 (lX12_showLot WX12_lineOf WX12_areaOf WX12_moreNumber WX12_write WX12_writeWord WX12_writeNumber WX12_id WX12_share WX12_debt WX12_isHere WX12_placeOf WX12_served WX12_placeOn WX12_wordOf WX12_begin WX12_more WX12_moreDay) R) : ∀ (n : Nat) (x1 : Int) (x2 : Int) (M : e_M), WX12_showLot_177 (fun M => R none M) n x1 x2 M → f_E sh t YX12_showLot rm cs (f_Q sh t R) 177 [.inr (.inr (.inl (12, 123, 4456))), .inl x1, .inl x2, .inr (.inr (.inr ())), .inr (.inr (.inr ()))] [] M := by
  intro n
  induction n with
  | zero => intro x1 x2 M h; exact h.elim
  | succ n ih => intro x1 x2 M h; exact BX12_showLot_177 C (fun x1 x2 M ⟨j, h⟩ => PX12_showLot_210 C j _ _ _ h) ih h
theorem PX12_showLot_118 {sh : Nat → Nat × Nat} {t : Nat} {rm : Nat × Nat × Nat} {cs : Nat × Nat} {R : f_Rt} (C : f_Hy sh t yX12_showLot rm cs 9 (lX12_showLot WX12_lineOf WX12_areaOf WX12_moreNumber WX12_write WX12_writeWord WX12_writeNumber WX12_id WX12_share WX12_debt WX12_isHere WX12_placeOf WX12_served WX12_placeOn WX12_wordOf WX12_begin WX12_more WX12_moreDay) R) : ∀ (n : Nat) (x1 : Int) (x2 : Int) (M : e_M), WX12_showLot_118 (fun M => R none M) n x1 x2 M → f_E sh t YX12_showLot rm cs (f_Q sh t R) 118 [.inr (.inr (.inl (12, 123, 4456))), .inl x1, .inl x2, .inr (.inr (.inr ())), .inr (.inr (.inr ()))] [] M := by
  intro n
  induction n with
  | zero => intro x1 x2 M h; exact h.elim
  | succ n ih => intro x1 x2 M h; exact BX12_showLot_118 C (fun x1 x2 M ⟨j, h⟩ => PX12_showLot_177 C j _ _ _ h) ih h
theorem PX12_showLot_38 {sh : Nat → Nat × Nat} {t : Nat} {rm : Nat × Nat × Nat} {cs : Nat × Nat} {R : f_Rt} (C : f_Hy sh t yX12_showLot rm cs 9 (lX12_showLot WX12_lineOf WX12_areaOf WX12_moreNumber WX12_write WX12_writeWord WX12_writeNumber WX12_id WX12_share WX12_debt WX12_isHere WX12_placeOf WX12_served WX12_placeOn WX12_wordOf WX12_begin WX12_more WX12_moreDay) R) : ∀ (n : Nat) (x1 : Int) (x2 : Int) (M : e_M), WX12_showLot_38 (fun M => R none M) n x1 x2 M → f_E sh t YX12_showLot rm cs (f_Q sh t R) 38 [.inr (.inr (.inl (12, 123, 4456))), .inl x1, .inl x2, .inr (.inr (.inr ())), .inr (.inr (.inr ()))] [] M := by
  intro n
  induction n with
  | zero => intro x1 x2 M h; exact h.elim
  | succ n ih => intro x1 x2 M h; exact BX12_showLot_38 C (fun x1 x2 M ⟨j, h⟩ => PX12_showLot_118 C j _ _ _ h) ih h
theorem PX12_showLot {sh : Nat → Nat × Nat} {t : Nat} {rm : Nat × Nat × Nat} {cs : Nat × Nat} {R : f_Rt} {x1 : Int} {M : e_M} (C : f_Hy sh t yX12_showLot rm cs 9 (lX12_showLot WX12_lineOf WX12_areaOf WX12_moreNumber WX12_write WX12_writeWord WX12_writeNumber WX12_id WX12_share WX12_debt WX12_isHere WX12_placeOf WX12_served WX12_placeOn WX12_wordOf WX12_begin WX12_more WX12_moreDay) R) (h : WX12_showLot x1 M (fun M => R none M)) : f_E sh t YX12_showLot rm cs (f_Q sh t R) 0 [.inr (.inr (.inl (12, 123, 4456))), .inl x1, .inr (.inr (.inr ())), .inr (.inr (.inr ())), .inr (.inr (.inr ()))] [] M :=
  BX12_showLot C (fun x1 x2 M ⟨j, h⟩ => PX12_showLot_38 C j _ _ _ h) h
def wX12_showLot : f_Wt := f_wm [(4466, 12, 123), (1, 0, 0)] (fun ar M R => WX12_showLot (f_vi (f_nth ar 1)) M (fun M => R none M))
theorem TX12_showLot {sh : Nat → Nat × Nat} {t : Nat} : f_Mt sh t YX12_showLot 9 (wX12_showLot) :=
  f_Mt_of (k := 3) (Nat.le_of_ble_eq_true rfl) rfl rfl (fun ar M R rm cs h1 h2 h3 hX h => PX12_showLot ⟨Nat.le_of_ble_eq_true rfl, h1, h2, h3, ⟨(f_Mt.up (Nat.le_of_ble_eq_true rfl) TX12_lineOf), (f_Mt.up (Nat.le_of_ble_eq_true rfl) TX12_areaOf), (f_Mt.up (Nat.le_of_ble_eq_true rfl) TX12_moreNumber), (f_Mt.up (Nat.le_of_ble_eq_true rfl) TX12_write), (f_Mt.up (Nat.le_of_ble_eq_true rfl) TX12_writeWord), (f_Mt.up (Nat.le_of_ble_eq_true rfl) TX12_writeNumber), (f_Mt.up (Nat.le_of_ble_eq_true rfl) TX12_id), (f_Mt.up (Nat.le_of_ble_eq_true rfl) TX12_share), (f_Mt.up (Nat.le_of_ble_eq_true rfl) TX12_debt), (f_Mt.up (Nat.le_of_ble_eq_true rfl) TX12_isHere), (f_Mt.up (Nat.le_of_ble_eq_true rfl) TX12_placeOf), (f_Mt.up (Nat.le_of_ble_eq_true rfl) TX12_served), (f_Mt.up (Nat.le_of_ble_eq_true rfl) TX12_placeOn), (f_Mt.up (Nat.le_of_ble_eq_true rfl) TX12_wordOf), (f_Mt.up (Nat.le_of_ble_eq_true rfl) TX12_begin), (f_Mt.up (Nat.le_of_ble_eq_true rfl) TX12_more), (f_Mt.up (Nat.le_of_ble_eq_true rfl) TX12_moreDay), trivial⟩, hX⟩ h)
def VX12_showPerson_22 (c_X12_id : Int → Int → e_M → (Int → Prop) → Prop) (c_X12_begin : Int → Int → e_M → (e_M → Prop) → Prop) (c_X12_moreDay : Int → e_M → (e_M → Prop) → Prop) (c_X12_more : Int → e_M → (e_M → Prop) → Prop) (c_X12_write : Int → e_M → (e_M → Prop) → Prop) (c_X12_isHere : Int → Int → e_M → (Int → Prop) → Prop) (c_X12_share : Int → Int → Int → e_M → (e_M → Prop) → Prop) (c_X12_debt : Int → e_M → (e_M → Prop) → Prop) (k45 : Int → Int → e_M → Prop) (Q : e_M → Prop) (x1 : Int) (x2 : Int) (xs1 : Int) (M : e_M) : Prop :=
  (c_X12_begin xs1 x2 M (fun M1 => ((0 ≤ x2 ∧ x2 < 560) ∧ ((¬ (M1 4491 (x2.toNat)) = 0 → (k45 x1 x2 M1)) ∧ ((M1 4491 (x2.toNat)) = 0 → ((0 ≤ x2 ∧ x2 < 560) ∧ (c_X12_moreDay (M1 4486 (x2.toNat)) M1 (fun M2 => (k45 x1 x2 M2)))))))))
def VX12_showPerson_45 (c_X12_id : Int → Int → e_M → (Int → Prop) → Prop) (c_X12_begin : Int → Int → e_M → (e_M → Prop) → Prop) (c_X12_moreDay : Int → e_M → (e_M → Prop) → Prop) (c_X12_more : Int → e_M → (e_M → Prop) → Prop) (c_X12_write : Int → e_M → (e_M → Prop) → Prop) (c_X12_isHere : Int → Int → e_M → (Int → Prop) → Prop) (c_X12_share : Int → Int → Int → e_M → (e_M → Prop) → Prop) (c_X12_debt : Int → e_M → (e_M → Prop) → Prop) (k69 : Int → e_M → Prop) (Q : e_M → Prop) (x1 : Int) (x2 : Int) (M : e_M) : Prop :=
  ((0 ≤ x2 ∧ x2 < 560) ∧ ((¬ (M 4491 (x2.toNat)) = 1 → (k69 x1 M)) ∧ ((M 4491 (x2.toNat)) = 1 → ((0 ≤ x2 ∧ x2 < 560) ∧ (c_X12_id 1 (M 4489 (x2.toNat)) M (fun r1 => (c_X12_more r1 M (fun M2 => (k69 x1 M2)))))))))
def VX12_showPerson_69 (c_X12_id : Int → Int → e_M → (Int → Prop) → Prop) (c_X12_begin : Int → Int → e_M → (e_M → Prop) → Prop) (c_X12_moreDay : Int → e_M → (e_M → Prop) → Prop) (c_X12_more : Int → e_M → (e_M → Prop) → Prop) (c_X12_write : Int → e_M → (e_M → Prop) → Prop) (c_X12_isHere : Int → Int → e_M → (Int → Prop) → Prop) (c_X12_share : Int → Int → Int → e_M → (e_M → Prop) → Prop) (c_X12_debt : Int → e_M → (e_M → Prop) → Prop) (k77 : Int → Int → e_M → Prop) (Q : e_M → Prop) (x1 : Int) (M : e_M) : Prop :=
  (c_X12_write 10 M (fun M1 => (k77 x1 0 M1)))
def VX12_showPerson_77 (c_X12_id : Int → Int → e_M → (Int → Prop) → Prop) (c_X12_begin : Int → Int → e_M → (e_M → Prop) → Prop) (c_X12_moreDay : Int → e_M → (e_M → Prop) → Prop) (c_X12_more : Int → e_M → (e_M → Prop) → Prop) (c_X12_write : Int → e_M → (e_M → Prop) → Prop) (c_X12_isHere : Int → Int → e_M → (Int → Prop) → Prop) (c_X12_share : Int → Int → Int → e_M → (e_M → Prop) → Prop) (c_X12_debt : Int → e_M → (e_M → Prop) → Prop) (k172 : Int → Int → e_M → Prop) (k102 : Int → Int → Int → e_M → Prop) (k164 : Int → Int → e_M → Prop) (Q : e_M → Prop) (x1 : Int) (x3 : Int) (M : e_M) : Prop :=
  ((0 ≤ (0 : Int) ∧ (0 : Int) < 7) ∧ (((M 4483 ((0 : Int).toNat)) ≤ x3 → (k172 x1 0 M)) ∧ (x3 < (M 4483 ((0 : Int).toNat)) → (c_X12_isHere 0 x3 M (fun r1 => ((¬ r1 = 0 → (k102 x1 x3 0 M)) ∧ (r1 = 0 → (k164 x1 x3 M))))))))
def VX12_showPerson_102 (c_X12_id : Int → Int → e_M → (Int → Prop) → Prop) (c_X12_begin : Int → Int → e_M → (e_M → Prop) → Prop) (c_X12_moreDay : Int → e_M → (e_M → Prop) → Prop) (c_X12_more : Int → e_M → (e_M → Prop) → Prop) (c_X12_write : Int → e_M → (e_M → Prop) → Prop) (c_X12_isHere : Int → Int → e_M → (Int → Prop) → Prop) (c_X12_share : Int → Int → Int → e_M → (e_M → Prop) → Prop) (c_X12_debt : Int → e_M → (e_M → Prop) → Prop) (k164 : Int → Int → e_M → Prop) (k158 : Int → Int → Int → e_M → Prop) (Q : e_M → Prop) (x1 : Int) (x3 : Int) (x4 : Int) (M : e_M) : Prop :=
  ((0 ≤ x3 ∧ x3 < 80) ∧ (((M 4497 (x3.toNat)) ≤ x4 → (k164 x1 x3 M)) ∧ (x4 < (M 4497 (x3.toNat)) → ((0 ≤ (e_w32 ((e_w32 ((8 : Int) * x3)) + x4)) ∧ (e_w32 ((e_w32 ((8 : Int) * x3)) + x4)) < 640) ∧ ((¬ (M 4498 ((e_w32 ((e_w32 ((8 : Int) * x3)) + x4)).toNat)) = x1 → (k158 x1 x3 x4 M)) ∧ ((M 4498 ((e_w32 ((e_w32 ((8 : Int) * x3)) + x4)).toNat)) = x1 → ((0 ≤ (e_w32 ((e_w32 ((8 : Int) * x3)) + x4)) ∧ (e_w32 ((e_w32 ((8 : Int) * x3)) + x4)) < 640) ∧ ((0 ≤ (e_w32 ((e_w32 ((8 : Int) * x3)) + x4)) ∧ (e_w32 ((e_w32 ((8 : Int) * x3)) + x4)) < 640) ∧ (c_X12_share x3 (M 4501 ((e_w32 ((e_w32 ((8 : Int) * x3)) + x4)).toNat)) (M 4502 ((e_w32 ((e_w32 ((8 : Int) * x3)) + x4)).toNat)) M (fun M1 => (k158 x1 x3 x4 M1)))))))))))
def VX12_showPerson_158 (c_X12_id : Int → Int → e_M → (Int → Prop) → Prop) (c_X12_begin : Int → Int → e_M → (e_M → Prop) → Prop) (c_X12_moreDay : Int → e_M → (e_M → Prop) → Prop) (c_X12_more : Int → e_M → (e_M → Prop) → Prop) (c_X12_write : Int → e_M → (e_M → Prop) → Prop) (c_X12_isHere : Int → Int → e_M → (Int → Prop) → Prop) (c_X12_share : Int → Int → Int → e_M → (e_M → Prop) → Prop) (c_X12_debt : Int → e_M → (e_M → Prop) → Prop) (k102 : Int → Int → Int → e_M → Prop) (Q : e_M → Prop) (x1 : Int) (x3 : Int) (x4 : Int) (M : e_M) : Prop :=
  (k102 x1 x3 (e_w32 (x4 + 1)) M)
def VX12_showPerson_164 (c_X12_id : Int → Int → e_M → (Int → Prop) → Prop) (c_X12_begin : Int → Int → e_M → (e_M → Prop) → Prop) (c_X12_moreDay : Int → e_M → (e_M → Prop) → Prop) (c_X12_more : Int → e_M → (e_M → Prop) → Prop) (c_X12_write : Int → e_M → (e_M → Prop) → Prop) (c_X12_isHere : Int → Int → e_M → (Int → Prop) → Prop) (c_X12_share : Int → Int → Int → e_M → (e_M → Prop) → Prop) (c_X12_debt : Int → e_M → (e_M → Prop) → Prop) (k77 : Int → Int → e_M → Prop) (Q : e_M → Prop) (x1 : Int) (x3 : Int) (M : e_M) : Prop :=
  (k77 x1 (e_w32 (x3 + 1)) M)
def VX12_showPerson_172 (c_X12_id : Int → Int → e_M → (Int → Prop) → Prop) (c_X12_begin : Int → Int → e_M → (e_M → Prop) → Prop) (c_X12_moreDay : Int → e_M → (e_M → Prop) → Prop) (c_X12_more : Int → e_M → (e_M → Prop) → Prop) (c_X12_write : Int → e_M → (e_M → Prop) → Prop) (c_X12_isHere : Int → Int → e_M → (Int → Prop) → Prop) (c_X12_share : Int → Int → Int → e_M → (e_M → Prop) → Prop) (c_X12_debt : Int → e_M → (e_M → Prop) → Prop) (k210 : Int → Int → e_M → Prop) (Q : e_M → Prop) (x1 : Int) (x3 : Int) (M : e_M) : Prop :=
  ((0 ≤ (2 : Int) ∧ (2 : Int) < 7) ∧ (((M 4483 ((2 : Int).toNat)) ≤ x3 → (Q M)) ∧ (x3 < (M 4483 ((2 : Int).toNat)) → (c_X12_isHere 2 x3 M (fun r1 => ((r1 = 0 → (k210 x1 x3 M)) ∧ (¬ r1 = 0 → (c_X12_id 2 x3 M (fun r2 => ((0 ≤ r2 ∧ r2 < 560) ∧ ((¬ (M 4489 (r2.toNat)) = x1 → (k210 x1 x3 M)) ∧ ((M 4489 (r2.toNat)) = x1 → (c_X12_debt x3 M (fun M3 => (k210 x1 x3 M3)))))))))))))))
def VX12_showPerson_210 (c_X12_id : Int → Int → e_M → (Int → Prop) → Prop) (c_X12_begin : Int → Int → e_M → (e_M → Prop) → Prop) (c_X12_moreDay : Int → e_M → (e_M → Prop) → Prop) (c_X12_more : Int → e_M → (e_M → Prop) → Prop) (c_X12_write : Int → e_M → (e_M → Prop) → Prop) (c_X12_isHere : Int → Int → e_M → (Int → Prop) → Prop) (c_X12_share : Int → Int → Int → e_M → (e_M → Prop) → Prop) (c_X12_debt : Int → e_M → (e_M → Prop) → Prop) (k172 : Int → Int → e_M → Prop) (Q : e_M → Prop) (x1 : Int) (x3 : Int) (M : e_M) : Prop :=
  (k172 x1 (e_w32 (x3 + 1)) M)
def VX12_showPerson (c_X12_id : Int → Int → e_M → (Int → Prop) → Prop) (c_X12_begin : Int → Int → e_M → (e_M → Prop) → Prop) (c_X12_moreDay : Int → e_M → (e_M → Prop) → Prop) (c_X12_more : Int → e_M → (e_M → Prop) → Prop) (c_X12_write : Int → e_M → (e_M → Prop) → Prop) (c_X12_isHere : Int → Int → e_M → (Int → Prop) → Prop) (c_X12_share : Int → Int → Int → e_M → (e_M → Prop) → Prop) (c_X12_debt : Int → e_M → (e_M → Prop) → Prop) (k22 : Int → Int → Int → e_M → Prop) (Q : e_M → Prop) (x1 : Int) (M : e_M) : Prop :=
  (c_X12_id 1 x1 M (fun r1 => ((0 ≤ r1 ∧ r1 < 560) ∧ ((¬ (M 4491 (r1.toNat)) = 0 → (k22 x1 r1 6 M)) ∧ ((M 4491 (r1.toNat)) = 0 → (k22 x1 r1 4 M))))))
def yX12_showPerson (i : Nat) : e_Y := x_get YX12_showPerson [YX12_id, YX12_begin, YX12_moreDay, YX12_more, YX12_write, YX12_isHere, YX12_share, YX12_debt] i
def pX12_showPersonf : List x_I := [(0, 0, 1, 0, 0, 1, []), (1, 2, 1, 1, 0, 0, []), (2, 40, 0, 2, 0, 0, []), (5, 5, 1, 2, 0, 0, []), (6, 4, 1, 0, 0, 0, []), (7, 4, 1, 0, 0, 0, []), (8, 25, 12, 58, 4, 0, [(0, 20, 560), (0, 1, 35)]), (11, 2, 1, 2, 0, 0, []), (12, 27, 0, 0, 0, 0, []), (13, 17, 20, 1, 13, 0, []), (16, 0, 1, 0, 0, 4, []), (17, 19, 22, 0, 14, 0, []), (20, 0, 2, 0, 0, 6, []), (22, 49, 0, 0, 0, 0, []), (22, 2, 1, 2, 0, 0, []), (23, 40, 1, 3, 14, 0, []), (26, 4, 1, 0, 0, 0, []), (27, 25, 12, 58, 4, 0, [(0, 20, 560), (0, 1, 35)]), (30, 2, 1, 2, 0, 0, []), (31, 27, 0, 0, 0, 0, []), (32, 17, 45, 1, 28, 0, []), (35, 4, 1, 0, 0, 0, []), (36, 4, 1, 0, 0, 0, []), (37, 25, 12, 53, 4, 0, [(0, 20, 560), (0, 1, 30)]), (40, 2, 1, 2, 0, 0, []), (41, 27, 0, 0, 0, 0, []), (42, 40, 2, 2, 14, 0, []), (45, 49, 0, 0, 0, 0, []), (45, 4, 1, 0, 0, 0, []), (46, 25, 12, 58, 4, 0, [(0, 20, 560), (0, 1, 35)]), (49, 2, 1, 2, 0, 0, []), (50, 27, 0, 0, 0, 0, []), (51, 0, 1, 0, 0, 1, []), (52, 18, 69, 1, 43, 0, []), (55, 4, 1, 0, 0, 0, []), (56, 0, 1, 0, 0, 1, []), (57, 4, 1, 0, 0, 0, []), (58, 25, 12, 56, 4, 0, [(0, 20, 560), (0, 1, 33)]), (61, 2, 1, 2, 0, 0, []), (62, 27, 0, 0, 0, 0, []), (63, 40, 0, 2, 0, 0, []), (66, 40, 3, 2, 14, 0, []), (69, 49, 0, 0, 0, 0, []), (69, 4, 1, 0, 0, 0, []), (70, 0, 2, 0, 0, 10, []), (72, 40, 4, 2, 14, 0, []), (75, 0, 1, 0, 0, 0, []), (76, 5, 1, 3, 0, 0, []), (77, 49, 0, 0, 0, 0, []), (77, 2, 1, 3, 0, 0, []), (78, 4, 1, 0, 0, 0, []), (79, 25, 12, 50, 4, 0, [(0, 20, 7), (0, 1, 27)]), (82, 0, 1, 0, 0, 0, []), (83, 27, 0, 0, 0, 0, []), (84, 18, 170, 3, 106, 0, []), (87, 4, 1, 0, 0, 0, []), (88, 0, 1, 0, 0, 0, []), (89, 2, 1, 3, 0, 0, []), (90, 40, 5, 3, 14, 0, []), (93, 17, 99, 1, 62, 0, []), (96, 19, 164, 0, 103, 0, []), (99, 0, 1, 0, 0, 0, []), (100, 5, 2, 4, 0, 0, []), (102, 49, 0, 0, 0, 0, []), (102, 2, 2, 4, 0, 0, []), (104, 4, 1, 0, 0, 0, []), (105, 25, 12, 64, 4, 0, [(0, 20, 80), (0, 1, 41)]), (108, 2, 1, 3, 0, 0, []), (109, 27, 0, 0, 0, 0, []), (110, 18, 164, 3, 103, 0, []), (113, 4, 1, 0, 0, 0, []), (114, 25, 12, 65, 4, 0, [(0, 20, 640), (0, 1, 42)]), (117, 0, 2, 0, 0, 8, []), (119, 2, 1, 3, 0, 0, []), (120, 9, 0, 2, 0, 0, []), (121, 2, 2, 4, 0, 0, []), (123, 9, 0, 0, 0, 0, []), (124, 27, 0, 0, 0, 0, []), (125, 2, 1, 1, 0, 0, []), (126, 18, 158, 1, 100, 0, []), (129, 4, 1, 0, 0, 0, []), (130, 2, 1, 3, 0, 0, []), (131, 4, 1, 0, 0, 0, []), (132, 25, 12, 68, 4, 0, [(0, 23, 640), (0, 1, 45)]), (135, 0, 2, 0, 0, 8, []), (137, 2, 1, 3, 0, 0, []), (138, 9, 0, 2, 0, 0, []), (139, 2, 2, 4, 0, 0, []), (141, 9, 0, 0, 0, 0, []), (142, 27, 0, 1, 0, 0, []), (143, 4, 1, 0, 0, 0, []), (144, 25, 12, 69, 4, 0, [(0, 23, 640), (0, 1, 46)]), (147, 0, 2, 0, 0, 8, []), (149, 2, 1, 3, 0, 0, []), (150, 9, 0, 2, 0, 0, []), (151, 2, 2, 4, 0, 0, []), (153, 9, 0, 0, 0, 0, []), (154, 27, 0, 1, 0, 0, []), (155, 40, 6, 4, 14, 0, []), (158, 49, 0, 0, 0, 0, []), (158, 8, 0, 4, 0, 1, []), (161, 19, 102, 0, 64, 0, []), (164, 49, 0, 0, 0, 0, []), (164, 8, 0, 3, 0, 1, []), (167, 19, 77, 0, 49, 0, []), (170, 0, 1, 0, 0, 0, []), (171, 5, 1, 3, 0, 0, []), (172, 49, 0, 0, 0, 0, []), (172, 2, 1, 3, 0, 0, []), (173, 4, 1, 0, 0, 0, []), (174, 25, 12, 50, 4, 0, [(0, 20, 7), (0, 1, 27)]), (177, 0, 1, 0, 0, 2, []), (178, 27, 0, 0, 0, 0, []), (179, 18, 216, 3, 134, 0, []), (182, 4, 1, 0, 0, 0, []), (183, 0, 1, 0, 0, 2, []), (184, 2, 1, 3, 0, 0, []), (185, 40, 5, 3, 14, 0, []), (188, 17, 210, 0, 131, 0, []), (191, 4, 1, 0, 0, 0, []), (192, 25, 12, 56, 4, 0, [(0, 20, 560), (0, 1, 33)]), (195, 0, 1, 0, 0, 2, []), (196, 2, 1, 3, 0, 0, []), (197, 40, 0, 2, 0, 0, []), (200, 27, 0, 0, 0, 0, []), (201, 2, 1, 1, 0, 0, []), (202, 18, 210, 1, 131, 0, []), (205, 4, 1, 0, 0, 0, []), (206, 2, 1, 3, 0, 0, []), (207, 40, 7, 2, 14, 0, []), (210, 49, 0, 0, 0, 0, []), (210, 8, 0, 3, 0, 1, []), (213, 19, 172, 0, 108, 0, []), (216, 44, 0, 0, 0, 0, [])]
set_option maxRecDepth 20000 in
theorem qX12_showPersonf : f_all yX12_showPerson YX12_showPerson pX12_showPersonf :=
  ⟨f_iconst (e_dx DX12_showPerson_0 0 rfl) ⟨by decide, by decide⟩,
  f_iload_n (n := 1) (e_dx DX12_showPerson_0 1 rfl) rfl,
  x_callS (e_dx DX12_showPerson_0 2 rfl) mwX12_id cX12_540 swX12_id rfl,
  f_istore_n (n := 2) (e_dx DX12_showPerson_0 3 rfl) rfl (by decide),
  f_aload_n (n := 0) (e_dx DX12_showPerson_0 4 rfl) rfl,
  f_aload_n (n := 0) (e_dx DX12_showPerson_0 5 rfl) rfl,
  f_getA (e_dx DX12_showPerson_0 6 rfl) fX12_115 rfl (by decide) (Nat.le_of_ble_eq_true rfl) rfl (by decide),
  f_iload_n (n := 2) (e_dx DX12_showPerson_0 7 rfl) rfl,
  f_iaload (e_dx DX12_showPerson_0 8 rfl),
  f_if_ne (e_dx DX12_showPerson_0 9 rfl) rfl,
  f_iconst (e_dx DX12_showPerson_0 10 rfl) ⟨by decide, by decide⟩,
  f_g19 (e_dx DX12_showPerson_0 11 rfl) rfl,
  f_bipush (e_dx DX12_showPerson_0 12 rfl) ⟨by decide, by decide⟩,
  trivial,
  f_iload_n (n := 2) (e_dx DX12_showPerson_0 13 rfl) rfl,
  x_callV (e_dx DX12_showPerson_0 14 rfl) mwX12_begin vwX12_begin cX12_947 rfl,
  f_aload_n (n := 0) (e_dx DX12_showPerson_0 15 rfl) rfl,
  f_getA (e_dx DX12_showPerson_0 16 rfl) fX12_115 rfl (by decide) (Nat.le_of_ble_eq_true rfl) rfl (by decide),
  f_iload_n (n := 2) (e_dx DX12_showPerson_0 17 rfl) rfl,
  f_iaload (e_dx DX12_showPerson_0 18 rfl),
  f_if_ne (e_dx DX12_showPerson_0 19 rfl) rfl,
  f_aload_n (n := 0) (e_dx DX12_showPerson_0 20 rfl) rfl,
  f_aload_n (n := 0) (e_dx DX12_showPerson_0 21 rfl) rfl,
  f_getA (e_dx DX12_showPerson_0 22 rfl) fX12_100 rfl (by decide) (Nat.le_of_ble_eq_true rfl) rfl (by decide),
  f_iload_n (n := 2) (e_dx DX12_showPerson_0 23 rfl) rfl,
  f_iaload (e_dx DX12_showPerson_0 24 rfl),
  x_callV (e_dx DX12_showPerson_0 25 rfl) mwX12_moreDay vwX12_moreDay cX12_971 rfl,
  trivial,
  f_aload_n (n := 0) (e_dx DX12_showPerson_0 26 rfl) rfl,
  f_getA (e_dx DX12_showPerson_0 27 rfl) fX12_115 rfl (by decide) (Nat.le_of_ble_eq_true rfl) rfl (by decide),
  f_iload_n (n := 2) (e_dx DX12_showPerson_0 28 rfl) rfl,
  f_iaload (e_dx DX12_showPerson_0 29 rfl),
  f_iconst (e_dx DX12_showPerson_0 30 rfl) ⟨by decide, by decide⟩,
  f_icmp_ne (e_dx DX12_showPerson_0 31 rfl) rfl,
  f_aload_n (n := 0) (e_dx DX12_showPerson_0 32 rfl) rfl,
  f_iconst (e_dx DX12_showPerson_0 33 rfl) ⟨by decide, by decide⟩,
  f_aload_n (n := 0) (e_dx DX12_showPerson_0 34 rfl) rfl,
  f_getA (e_dx DX12_showPerson_0 35 rfl) fX12_109 rfl (by decide) (Nat.le_of_ble_eq_true rfl) rfl (by decide),
  f_iload_n (n := 2) (e_dx DX12_showPerson_0 36 rfl) rfl,
  f_iaload (e_dx DX12_showPerson_0 37 rfl),
  x_callS (e_dx DX12_showPerson_0 38 rfl) mwX12_id cX12_540 swX12_id rfl,
  x_callV (e_dx DX12_showPerson_0 39 rfl) mwX12_more vwX12_more cX12_941 rfl,
  trivial,
  f_aload_n (n := 0) (e_dx DX12_showPerson_1 0 rfl) rfl,
  f_bipush (e_dx DX12_showPerson_1 1 rfl) ⟨by decide, by decide⟩,
  x_callV (e_dx DX12_showPerson_1 2 rfl) mwX12_write vwX12_write cX12_916 rfl,
  f_iconst (e_dx DX12_showPerson_1 3 rfl) ⟨by decide, by decide⟩,
  f_istore_n (n := 3) (e_dx DX12_showPerson_1 4 rfl) rfl (by decide),
  trivial,
  f_iload_n (n := 3) (e_dx DX12_showPerson_1 5 rfl) rfl,
  f_aload_n (n := 0) (e_dx DX12_showPerson_1 6 rfl) rfl,
  f_getA (e_dx DX12_showPerson_1 7 rfl) fX12_91 rfl (by decide) (Nat.le_of_ble_eq_true rfl) rfl (by decide),
  f_iconst (e_dx DX12_showPerson_1 8 rfl) ⟨by decide, by decide⟩,
  f_iaload (e_dx DX12_showPerson_1 9 rfl),
  f_icmp_ge (e_dx DX12_showPerson_1 10 rfl) rfl,
  f_aload_n (n := 0) (e_dx DX12_showPerson_1 11 rfl) rfl,
  f_iconst (e_dx DX12_showPerson_1 12 rfl) ⟨by decide, by decide⟩,
  f_iload_n (n := 3) (e_dx DX12_showPerson_1 13 rfl) rfl,
  x_callV (e_dx DX12_showPerson_1 14 rfl) mwX12_isHere vwX12_isHere cX12_875 rfl,
  f_if_ne (e_dx DX12_showPerson_1 15 rfl) rfl,
  f_g19 (e_dx DX12_showPerson_1 16 rfl) rfl,
  f_iconst (e_dx DX12_showPerson_1 17 rfl) ⟨by decide, by decide⟩,
  f_istore (e_dx DX12_showPerson_1 18 rfl) (by decide),
  trivial,
  f_iload (e_dx DX12_showPerson_1 19 rfl),
  f_aload_n (n := 0) (e_dx DX12_showPerson_1 20 rfl) rfl,
  f_getA (e_dx DX12_showPerson_1 21 rfl) fX12_133 rfl (by decide) (Nat.le_of_ble_eq_true rfl) rfl (by decide),
  f_iload_n (n := 3) (e_dx DX12_showPerson_1 22 rfl) rfl,
  f_iaload (e_dx DX12_showPerson_1 23 rfl),
  f_icmp_ge (e_dx DX12_showPerson_1 24 rfl) rfl,
  f_aload_n (n := 0) (e_dx DX12_showPerson_1 25 rfl) rfl,
  f_getA (e_dx DX12_showPerson_1 26 rfl) fX12_136 rfl (by decide) (Nat.le_of_ble_eq_true rfl) rfl (by decide),
  f_bipush (e_dx DX12_showPerson_1 27 rfl) ⟨by decide, by decide⟩,
  f_iload_n (n := 3) (e_dx DX12_showPerson_1 28 rfl) rfl,
  f_imul (e_dx DX12_showPerson_1 29 rfl),
  f_iload (e_dx DX12_showPerson_1 30 rfl),
  f_iadd (e_dx DX12_showPerson_1 31 rfl),
  f_iaload (e_dx DX12_showPerson_1 32 rfl),
  f_iload_n (n := 1) (e_dx DX12_showPerson_1 33 rfl) rfl,
  f_icmp_ne (e_dx DX12_showPerson_1 34 rfl) rfl,
  f_aload_n (n := 0) (e_dx DX12_showPerson_1 35 rfl) rfl,
  f_iload_n (n := 3) (e_dx DX12_showPerson_1 36 rfl) rfl,
  f_aload_n (n := 0) (e_dx DX12_showPerson_1 37 rfl) rfl,
  f_getA (e_dx DX12_showPerson_1 38 rfl) fX12_145 rfl (by decide) (Nat.le_of_ble_eq_true rfl) rfl (by decide),
  f_bipush (e_dx DX12_showPerson_1 39 rfl) ⟨by decide, by decide⟩,
  f_iload_n (n := 3) (e_dx DX12_showPerson_2 0 rfl) rfl,
  f_imul (e_dx DX12_showPerson_2 1 rfl),
  f_iload (e_dx DX12_showPerson_2 2 rfl),
  f_iadd (e_dx DX12_showPerson_2 3 rfl),
  f_laload (e_dx DX12_showPerson_2 4 rfl),
  f_aload_n (n := 0) (e_dx DX12_showPerson_2 5 rfl) rfl,
  f_getA (e_dx DX12_showPerson_2 6 rfl) fX12_148 rfl (by decide) (Nat.le_of_ble_eq_true rfl) rfl (by decide),
  f_bipush (e_dx DX12_showPerson_2 7 rfl) ⟨by decide, by decide⟩,
  f_iload_n (n := 3) (e_dx DX12_showPerson_2 8 rfl) rfl,
  f_imul (e_dx DX12_showPerson_2 9 rfl),
  f_iload (e_dx DX12_showPerson_2 10 rfl),
  f_iadd (e_dx DX12_showPerson_2 11 rfl),
  f_laload (e_dx DX12_showPerson_2 12 rfl),
  x_callV (e_dx DX12_showPerson_2 13 rfl) mwX12_share vwX12_share cX12_962 rfl,
  trivial,
  f_g8 (e_dx DX12_showPerson_2 14 rfl) ⟨by decide, by decide⟩,
  f_g19 (e_dx DX12_showPerson_2 15 rfl) rfl,
  trivial,
  f_g8 (e_dx DX12_showPerson_2 16 rfl) ⟨by decide, by decide⟩,
  f_g19 (e_dx DX12_showPerson_2 17 rfl) rfl,
  f_iconst (e_dx DX12_showPerson_2 18 rfl) ⟨by decide, by decide⟩,
  f_istore_n (n := 3) (e_dx DX12_showPerson_2 19 rfl) rfl (by decide),
  trivial,
  f_iload_n (n := 3) (e_dx DX12_showPerson_2 20 rfl) rfl,
  f_aload_n (n := 0) (e_dx DX12_showPerson_2 21 rfl) rfl,
  f_getA (e_dx DX12_showPerson_2 22 rfl) fX12_91 rfl (by decide) (Nat.le_of_ble_eq_true rfl) rfl (by decide),
  f_iconst (e_dx DX12_showPerson_2 23 rfl) ⟨by decide, by decide⟩,
  f_iaload (e_dx DX12_showPerson_2 24 rfl),
  f_icmp_ge (e_dx DX12_showPerson_2 25 rfl) rfl,
  f_aload_n (n := 0) (e_dx DX12_showPerson_2 26 rfl) rfl,
  f_iconst (e_dx DX12_showPerson_2 27 rfl) ⟨by decide, by decide⟩,
  f_iload_n (n := 3) (e_dx DX12_showPerson_2 28 rfl) rfl,
  x_callV (e_dx DX12_showPerson_2 29 rfl) mwX12_isHere vwX12_isHere cX12_875 rfl,
  f_if_eq (e_dx DX12_showPerson_2 30 rfl) rfl,
  f_aload_n (n := 0) (e_dx DX12_showPerson_2 31 rfl) rfl,
  f_getA (e_dx DX12_showPerson_2 32 rfl) fX12_109 rfl (by decide) (Nat.le_of_ble_eq_true rfl) rfl (by decide),
  f_iconst (e_dx DX12_showPerson_2 33 rfl) ⟨by decide, by decide⟩,
  f_iload_n (n := 3) (e_dx DX12_showPerson_2 34 rfl) rfl,
  x_callS (e_dx DX12_showPerson_2 35 rfl) mwX12_id cX12_540 swX12_id rfl,
  f_iaload (e_dx DX12_showPerson_2 36 rfl),
  f_iload_n (n := 1) (e_dx DX12_showPerson_2 37 rfl) rfl,
  f_icmp_ne (e_dx DX12_showPerson_2 38 rfl) rfl,
  f_aload_n (n := 0) (e_dx DX12_showPerson_2 39 rfl) rfl,
  f_iload_n (n := 3) (e_dx DX12_showPerson_3 0 rfl) rfl,
  x_callV (e_dx DX12_showPerson_3 1 rfl) mwX12_debt vwX12_debt cX12_965 rfl,
  trivial,
  f_g8 (e_dx DX12_showPerson_3 2 rfl) ⟨by decide, by decide⟩,
  f_g19 (e_dx DX12_showPerson_3 3 rfl) rfl,
  ⟨(e_dx DX12_showPerson_3 4 rfl), rfl⟩, trivial⟩
def lX12_showPerson (c_X12_id : Int → Int → e_M → (Int → Prop) → Prop) (c_X12_begin : Int → Int → e_M → (e_M → Prop) → Prop) (c_X12_moreDay : Int → e_M → (e_M → Prop) → Prop) (c_X12_more : Int → e_M → (e_M → Prop) → Prop) (c_X12_write : Int → e_M → (e_M → Prop) → Prop) (c_X12_isHere : Int → Int → e_M → (Int → Prop) → Prop) (c_X12_share : Int → Int → Int → e_M → (e_M → Prop) → Prop) (c_X12_debt : Int → e_M → (e_M → Prop) → Prop) : List (Nat × f_Wt) := [(0, f_wm [(1, 0, 0), (1, 0, 0)] (fun ar M R => c_X12_id (f_vi (f_nth ar 0)) (f_vi (f_nth ar 1)) M (fun r => R (some (.inl r)) M))), (1, f_wm [(4466, 12, 123), (1, 0, 0), (1, 0, 0)] (fun ar M R => c_X12_begin (f_vi (f_nth ar 1)) (f_vi (f_nth ar 2)) M (fun M => R none M))), (2, f_wm [(4466, 12, 123), (1, 0, 0)] (fun ar M R => c_X12_moreDay (f_vi (f_nth ar 1)) M (fun M => R none M))), (3, f_wm [(4466, 12, 123), (1, 0, 0)] (fun ar M R => c_X12_more (f_vi (f_nth ar 1)) M (fun M => R none M))), (4, f_wm [(4466, 12, 123), (1, 0, 0)] (fun ar M R => c_X12_write (f_vi (f_nth ar 1)) M (fun M => R none M))), (5, f_wm [(4466, 12, 123), (1, 0, 0), (1, 0, 0)] (fun ar M R => c_X12_isHere (f_vi (f_nth ar 1)) (f_vi (f_nth ar 2)) M (fun r => R (some (.inl r)) M))), (6, f_wm [(4466, 12, 123), (1, 0, 0), (2, 0, 0), (2, 0, 0)] (fun ar M R => c_X12_share (f_vi (f_nth ar 1)) (f_vi (f_nth ar 2)) (f_vi (f_nth ar 3)) M (fun M => R none M))), (7, f_wm [(4466, 12, 123), (1, 0, 0)] (fun ar M R => c_X12_debt (f_vi (f_nth ar 1)) M (fun M => R none M)))]
set_option maxRecDepth 20000 in
theorem BX12_showPerson_22 {sh : Nat → Nat × Nat} {t : Nat} {rm : Nat × Nat × Nat} {cs : Nat × Nat} {R : f_Rt} {c_X12_id : Int → Int → e_M → (Int → Prop) → Prop} {c_X12_begin : Int → Int → e_M → (e_M → Prop) → Prop} {c_X12_moreDay : Int → e_M → (e_M → Prop) → Prop} {c_X12_more : Int → e_M → (e_M → Prop) → Prop} {c_X12_write : Int → e_M → (e_M → Prop) → Prop} {c_X12_isHere : Int → Int → e_M → (Int → Prop) → Prop} {c_X12_share : Int → Int → Int → e_M → (e_M → Prop) → Prop} {c_X12_debt : Int → e_M → (e_M → Prop) → Prop} {k45 : Int → Int → e_M → Prop} {x1 : Int} {x2 : Int} {xs1 : Int} {M : e_M} (C : f_Hy sh t yX12_showPerson rm cs 9 (lX12_showPerson c_X12_id c_X12_begin c_X12_moreDay c_X12_more c_X12_write c_X12_isHere c_X12_share c_X12_debt) R) (h45 : ∀ (x1 : Int) (x2 : Int) (M : e_M), k45 x1 x2 M → f_E sh t YX12_showPerson rm cs (f_Q sh t R) 45 [.inr (.inr (.inl (12, 123, 4456))), .inl x1, .inl x2, .inr (.inr (.inr ())), .inr (.inr (.inr ()))] [] M) (h : VX12_showPerson_22 c_X12_id c_X12_begin c_X12_moreDay c_X12_more c_X12_write c_X12_isHere c_X12_share c_X12_debt k45 (fun M => R none M) x1 x2 xs1 M) : f_E sh t YX12_showPerson rm cs (f_Q sh t R) 22 [.inr (.inr (.inl (12, 123, 4456))), .inl x1, .inl x2, .inr (.inr (.inr ())), .inr (.inr (.inr ()))] [.inl xs1, .inr (.inr (.inl (12, 123, 4456)))] M :=
  f_go (KC := f_kc [(45, f_pl [(4466, 12, 123), (1, 0, 0), (1, 0, 0), (0, 0, 0), (0, 0, 0)] [] (fun ls st M => k45 (f_vi (f_nth ls 1)) (f_vi (f_nth ls 2)) M))]) C qX12_showPersonf (f_kc_cons (f_pl_ok rfl (fun ls st M h => h45 _ _ M h)) f_kc_nil) 136 14 h
set_option maxRecDepth 20000 in
theorem BX12_showPerson_45 {sh : Nat → Nat × Nat} {t : Nat} {rm : Nat × Nat × Nat} {cs : Nat × Nat} {R : f_Rt} {c_X12_id : Int → Int → e_M → (Int → Prop) → Prop} {c_X12_begin : Int → Int → e_M → (e_M → Prop) → Prop} {c_X12_moreDay : Int → e_M → (e_M → Prop) → Prop} {c_X12_more : Int → e_M → (e_M → Prop) → Prop} {c_X12_write : Int → e_M → (e_M → Prop) → Prop} {c_X12_isHere : Int → Int → e_M → (Int → Prop) → Prop} {c_X12_share : Int → Int → Int → e_M → (e_M → Prop) → Prop} {c_X12_debt : Int → e_M → (e_M → Prop) → Prop} {k69 : Int → e_M → Prop} {x1 : Int} {x2 : Int} {M : e_M} (C : f_Hy sh t yX12_showPerson rm cs 9 (lX12_showPerson c_X12_id c_X12_begin c_X12_moreDay c_X12_more c_X12_write c_X12_isHere c_X12_share c_X12_debt) R) (h69 : ∀ (x1 : Int) (M : e_M), k69 x1 M → f_E sh t YX12_showPerson rm cs (f_Q sh t R) 69 [.inr (.inr (.inl (12, 123, 4456))), .inl x1, .inr (.inr (.inr ())), .inr (.inr (.inr ())), .inr (.inr (.inr ()))] [] M) (h : VX12_showPerson_45 c_X12_id c_X12_begin c_X12_moreDay c_X12_more c_X12_write c_X12_isHere c_X12_share c_X12_debt k69 (fun M => R none M) x1 x2 M) : f_E sh t YX12_showPerson rm cs (f_Q sh t R) 45 [.inr (.inr (.inl (12, 123, 4456))), .inl x1, .inl x2, .inr (.inr (.inr ())), .inr (.inr (.inr ()))] [] M :=
  f_go (KC := f_kc [(69, f_pl [(4466, 12, 123), (1, 0, 0), (0, 0, 0), (0, 0, 0), (0, 0, 0)] [] (fun ls st M => k69 (f_vi (f_nth ls 1)) M))]) C qX12_showPersonf (f_kc_cons (f_pl_ok rfl (fun ls st M h => h69 _ M h)) f_kc_nil) 136 28 h
set_option maxRecDepth 20000 in
theorem BX12_showPerson_69 {sh : Nat → Nat × Nat} {t : Nat} {rm : Nat × Nat × Nat} {cs : Nat × Nat} {R : f_Rt} {c_X12_id : Int → Int → e_M → (Int → Prop) → Prop} {c_X12_begin : Int → Int → e_M → (e_M → Prop) → Prop} {c_X12_moreDay : Int → e_M → (e_M → Prop) → Prop} {c_X12_more : Int → e_M → (e_M → Prop) → Prop} {c_X12_write : Int → e_M → (e_M → Prop) → Prop} {c_X12_isHere : Int → Int → e_M → (Int → Prop) → Prop} {c_X12_share : Int → Int → Int → e_M → (e_M → Prop) → Prop} {c_X12_debt : Int → e_M → (e_M → Prop) → Prop} {k77 : Int → Int → e_M → Prop} {x1 : Int} {M : e_M} (C : f_Hy sh t yX12_showPerson rm cs 9 (lX12_showPerson c_X12_id c_X12_begin c_X12_moreDay c_X12_more c_X12_write c_X12_isHere c_X12_share c_X12_debt) R) (h77 : ∀ (x1 : Int) (x3 : Int) (M : e_M), k77 x1 x3 M → f_E sh t YX12_showPerson rm cs (f_Q sh t R) 77 [.inr (.inr (.inl (12, 123, 4456))), .inl x1, .inr (.inr (.inr ())), .inl x3, .inr (.inr (.inr ()))] [] M) (h : VX12_showPerson_69 c_X12_id c_X12_begin c_X12_moreDay c_X12_more c_X12_write c_X12_isHere c_X12_share c_X12_debt k77 (fun M => R none M) x1 M) : f_E sh t YX12_showPerson rm cs (f_Q sh t R) 69 [.inr (.inr (.inl (12, 123, 4456))), .inl x1, .inr (.inr (.inr ())), .inr (.inr (.inr ())), .inr (.inr (.inr ()))] [] M :=
  f_go (KC := f_kc [(77, f_pl [(4466, 12, 123), (1, 0, 0), (0, 0, 0), (1, 0, 0), (0, 0, 0)] [] (fun ls st M => k77 (f_vi (f_nth ls 1)) (f_vi (f_nth ls 3)) M))]) C qX12_showPersonf (f_kc_cons (f_pl_ok rfl (fun ls st M h => h77 _ _ M h)) f_kc_nil) 136 43 h
set_option maxRecDepth 20000 in
theorem BX12_showPerson_77 {sh : Nat → Nat × Nat} {t : Nat} {rm : Nat × Nat × Nat} {cs : Nat × Nat} {R : f_Rt} {c_X12_id : Int → Int → e_M → (Int → Prop) → Prop} {c_X12_begin : Int → Int → e_M → (e_M → Prop) → Prop} {c_X12_moreDay : Int → e_M → (e_M → Prop) → Prop} {c_X12_more : Int → e_M → (e_M → Prop) → Prop} {c_X12_write : Int → e_M → (e_M → Prop) → Prop} {c_X12_isHere : Int → Int → e_M → (Int → Prop) → Prop} {c_X12_share : Int → Int → Int → e_M → (e_M → Prop) → Prop} {c_X12_debt : Int → e_M → (e_M → Prop) → Prop} {k172 : Int → Int → e_M → Prop} {k102 : Int → Int → Int → e_M → Prop} {k164 : Int → Int → e_M → Prop} {x1 : Int} {x3 : Int} {M : e_M} (C : f_Hy sh t yX12_showPerson rm cs 9 (lX12_showPerson c_X12_id c_X12_begin c_X12_moreDay c_X12_more c_X12_write c_X12_isHere c_X12_share c_X12_debt) R) (h172 : ∀ (x1 : Int) (x3 : Int) (M : e_M), k172 x1 x3 M → f_E sh t YX12_showPerson rm cs (f_Q sh t R) 172 [.inr (.inr (.inl (12, 123, 4456))), .inl x1, .inr (.inr (.inr ())), .inl x3, .inr (.inr (.inr ()))] [] M) (h102 : ∀ (x1 : Int) (x3 : Int) (x4 : Int) (M : e_M), k102 x1 x3 x4 M → f_E sh t YX12_showPerson rm cs (f_Q sh t R) 102 [.inr (.inr (.inl (12, 123, 4456))), .inl x1, .inr (.inr (.inr ())), .inl x3, .inl x4] [] M) (h164 : ∀ (x1 : Int) (x3 : Int) (M : e_M), k164 x1 x3 M → f_E sh t YX12_showPerson rm cs (f_Q sh t R) 164 [.inr (.inr (.inl (12, 123, 4456))), .inl x1, .inr (.inr (.inr ())), .inl x3, .inr (.inr (.inr ()))] [] M) (h : VX12_showPerson_77 c_X12_id c_X12_begin c_X12_moreDay c_X12_more c_X12_write c_X12_isHere c_X12_share c_X12_debt k172 k102 k164 (fun M => R none M) x1 x3 M) : f_E sh t YX12_showPerson rm cs (f_Q sh t R) 77 [.inr (.inr (.inl (12, 123, 4456))), .inl x1, .inr (.inr (.inr ())), .inl x3, .inr (.inr (.inr ()))] [] M :=
  f_go (KC := f_kc [(172, f_pl [(4466, 12, 123), (1, 0, 0), (0, 0, 0), (1, 0, 0), (0, 0, 0)] [] (fun ls st M => k172 (f_vi (f_nth ls 1)) (f_vi (f_nth ls 3)) M)), (102, f_pl [(4466, 12, 123), (1, 0, 0), (0, 0, 0), (1, 0, 0), (1, 0, 0)] [] (fun ls st M => k102 (f_vi (f_nth ls 1)) (f_vi (f_nth ls 3)) (f_vi (f_nth ls 4)) M)), (164, f_pl [(4466, 12, 123), (1, 0, 0), (0, 0, 0), (1, 0, 0), (0, 0, 0)] [] (fun ls st M => k164 (f_vi (f_nth ls 1)) (f_vi (f_nth ls 3)) M))]) C qX12_showPersonf (f_kc_cons (f_pl_ok rfl (fun ls st M h => h172 _ _ M h)) (f_kc_cons (f_pl_ok rfl (fun ls st M h => h102 _ _ _ M h)) (f_kc_cons (f_pl_ok rfl (fun ls st M h => h164 _ _ M h)) f_kc_nil))) 136 49 h
set_option maxRecDepth 20000 in
theorem BX12_showPerson_102 {sh : Nat → Nat × Nat} {t : Nat} {rm : Nat × Nat × Nat} {cs : Nat × Nat} {R : f_Rt} {c_X12_id : Int → Int → e_M → (Int → Prop) → Prop} {c_X12_begin : Int → Int → e_M → (e_M → Prop) → Prop} {c_X12_moreDay : Int → e_M → (e_M → Prop) → Prop} {c_X12_more : Int → e_M → (e_M → Prop) → Prop} {c_X12_write : Int → e_M → (e_M → Prop) → Prop} {c_X12_isHere : Int → Int → e_M → (Int → Prop) → Prop} {c_X12_share : Int → Int → Int → e_M → (e_M → Prop) → Prop} {c_X12_debt : Int → e_M → (e_M → Prop) → Prop} {k164 : Int → Int → e_M → Prop} {k158 : Int → Int → Int → e_M → Prop} {x1 : Int} {x3 : Int} {x4 : Int} {M : e_M} (C : f_Hy sh t yX12_showPerson rm cs 9 (lX12_showPerson c_X12_id c_X12_begin c_X12_moreDay c_X12_more c_X12_write c_X12_isHere c_X12_share c_X12_debt) R) (h164 : ∀ (x1 : Int) (x3 : Int) (M : e_M), k164 x1 x3 M → f_E sh t YX12_showPerson rm cs (f_Q sh t R) 164 [.inr (.inr (.inl (12, 123, 4456))), .inl x1, .inr (.inr (.inr ())), .inl x3, .inr (.inr (.inr ()))] [] M) (h158 : ∀ (x1 : Int) (x3 : Int) (x4 : Int) (M : e_M), k158 x1 x3 x4 M → f_E sh t YX12_showPerson rm cs (f_Q sh t R) 158 [.inr (.inr (.inl (12, 123, 4456))), .inl x1, .inr (.inr (.inr ())), .inl x3, .inl x4] [] M) (h : VX12_showPerson_102 c_X12_id c_X12_begin c_X12_moreDay c_X12_more c_X12_write c_X12_isHere c_X12_share c_X12_debt k164 k158 (fun M => R none M) x1 x3 x4 M) : f_E sh t YX12_showPerson rm cs (f_Q sh t R) 102 [.inr (.inr (.inl (12, 123, 4456))), .inl x1, .inr (.inr (.inr ())), .inl x3, .inl x4] [] M :=
  f_go (KC := f_kc [(164, f_pl [(4466, 12, 123), (1, 0, 0), (0, 0, 0), (1, 0, 0), (0, 0, 0)] [] (fun ls st M => k164 (f_vi (f_nth ls 1)) (f_vi (f_nth ls 3)) M)), (158, f_pl [(4466, 12, 123), (1, 0, 0), (0, 0, 0), (1, 0, 0), (1, 0, 0)] [] (fun ls st M => k158 (f_vi (f_nth ls 1)) (f_vi (f_nth ls 3)) (f_vi (f_nth ls 4)) M))]) C qX12_showPersonf (f_kc_cons (f_pl_ok rfl (fun ls st M h => h164 _ _ M h)) (f_kc_cons (f_pl_ok rfl (fun ls st M h => h158 _ _ _ M h)) f_kc_nil)) 136 64 h
set_option maxRecDepth 20000 in
theorem BX12_showPerson_158 {sh : Nat → Nat × Nat} {t : Nat} {rm : Nat × Nat × Nat} {cs : Nat × Nat} {R : f_Rt} {c_X12_id : Int → Int → e_M → (Int → Prop) → Prop} {c_X12_begin : Int → Int → e_M → (e_M → Prop) → Prop} {c_X12_moreDay : Int → e_M → (e_M → Prop) → Prop} {c_X12_more : Int → e_M → (e_M → Prop) → Prop} {c_X12_write : Int → e_M → (e_M → Prop) → Prop} {c_X12_isHere : Int → Int → e_M → (Int → Prop) → Prop} {c_X12_share : Int → Int → Int → e_M → (e_M → Prop) → Prop} {c_X12_debt : Int → e_M → (e_M → Prop) → Prop} {k102 : Int → Int → Int → e_M → Prop} {x1 : Int} {x3 : Int} {x4 : Int} {M : e_M} (C : f_Hy sh t yX12_showPerson rm cs 9 (lX12_showPerson c_X12_id c_X12_begin c_X12_moreDay c_X12_more c_X12_write c_X12_isHere c_X12_share c_X12_debt) R) (h102 : ∀ (x1 : Int) (x3 : Int) (x4 : Int) (M : e_M), k102 x1 x3 x4 M → f_E sh t YX12_showPerson rm cs (f_Q sh t R) 102 [.inr (.inr (.inl (12, 123, 4456))), .inl x1, .inr (.inr (.inr ())), .inl x3, .inl x4] [] M) (h : VX12_showPerson_158 c_X12_id c_X12_begin c_X12_moreDay c_X12_more c_X12_write c_X12_isHere c_X12_share c_X12_debt k102 (fun M => R none M) x1 x3 x4 M) : f_E sh t YX12_showPerson rm cs (f_Q sh t R) 158 [.inr (.inr (.inl (12, 123, 4456))), .inl x1, .inr (.inr (.inr ())), .inl x3, .inl x4] [] M :=
  f_go (KC := f_kc [(102, f_pl [(4466, 12, 123), (1, 0, 0), (0, 0, 0), (1, 0, 0), (1, 0, 0)] [] (fun ls st M => k102 (f_vi (f_nth ls 1)) (f_vi (f_nth ls 3)) (f_vi (f_nth ls 4)) M))]) C qX12_showPersonf (f_kc_cons (f_pl_ok rfl (fun ls st M h => h102 _ _ _ M h)) f_kc_nil) 136 100 h
set_option maxRecDepth 20000 in
theorem BX12_showPerson_164 {sh : Nat → Nat × Nat} {t : Nat} {rm : Nat × Nat × Nat} {cs : Nat × Nat} {R : f_Rt} {c_X12_id : Int → Int → e_M → (Int → Prop) → Prop} {c_X12_begin : Int → Int → e_M → (e_M → Prop) → Prop} {c_X12_moreDay : Int → e_M → (e_M → Prop) → Prop} {c_X12_more : Int → e_M → (e_M → Prop) → Prop} {c_X12_write : Int → e_M → (e_M → Prop) → Prop} {c_X12_isHere : Int → Int → e_M → (Int → Prop) → Prop} {c_X12_share : Int → Int → Int → e_M → (e_M → Prop) → Prop} {c_X12_debt : Int → e_M → (e_M → Prop) → Prop} {k77 : Int → Int → e_M → Prop} {x1 : Int} {x3 : Int} {M : e_M} (C : f_Hy sh t yX12_showPerson rm cs 9 (lX12_showPerson c_X12_id c_X12_begin c_X12_moreDay c_X12_more c_X12_write c_X12_isHere c_X12_share c_X12_debt) R) (h77 : ∀ (x1 : Int) (x3 : Int) (M : e_M), k77 x1 x3 M → f_E sh t YX12_showPerson rm cs (f_Q sh t R) 77 [.inr (.inr (.inl (12, 123, 4456))), .inl x1, .inr (.inr (.inr ())), .inl x3, .inr (.inr (.inr ()))] [] M) (h : VX12_showPerson_164 c_X12_id c_X12_begin c_X12_moreDay c_X12_more c_X12_write c_X12_isHere c_X12_share c_X12_debt k77 (fun M => R none M) x1 x3 M) : f_E sh t YX12_showPerson rm cs (f_Q sh t R) 164 [.inr (.inr (.inl (12, 123, 4456))), .inl x1, .inr (.inr (.inr ())), .inl x3, .inr (.inr (.inr ()))] [] M :=
  f_go (KC := f_kc [(77, f_pl [(4466, 12, 123), (1, 0, 0), (0, 0, 0), (1, 0, 0), (0, 0, 0)] [] (fun ls st M => k77 (f_vi (f_nth ls 1)) (f_vi (f_nth ls 3)) M))]) C qX12_showPersonf (f_kc_cons (f_pl_ok rfl (fun ls st M h => h77 _ _ M h)) f_kc_nil) 136 103 h
set_option maxRecDepth 20000 in
theorem BX12_showPerson_172 {sh : Nat → Nat × Nat} {t : Nat} {rm : Nat × Nat × Nat} {cs : Nat × Nat} {R : f_Rt} {c_X12_id : Int → Int → e_M → (Int → Prop) → Prop} {c_X12_begin : Int → Int → e_M → (e_M → Prop) → Prop} {c_X12_moreDay : Int → e_M → (e_M → Prop) → Prop} {c_X12_more : Int → e_M → (e_M → Prop) → Prop} {c_X12_write : Int → e_M → (e_M → Prop) → Prop} {c_X12_isHere : Int → Int → e_M → (Int → Prop) → Prop} {c_X12_share : Int → Int → Int → e_M → (e_M → Prop) → Prop} {c_X12_debt : Int → e_M → (e_M → Prop) → Prop} {k210 : Int → Int → e_M → Prop} {x1 : Int} {x3 : Int} {M : e_M} (C : f_Hy sh t yX12_showPerson rm cs 9 (lX12_showPerson c_X12_id c_X12_begin c_X12_moreDay c_X12_more c_X12_write c_X12_isHere c_X12_share c_X12_debt) R) (h210 : ∀ (x1 : Int) (x3 : Int) (M : e_M), k210 x1 x3 M → f_E sh t YX12_showPerson rm cs (f_Q sh t R) 210 [.inr (.inr (.inl (12, 123, 4456))), .inl x1, .inr (.inr (.inr ())), .inl x3, .inr (.inr (.inr ()))] [] M) (h : VX12_showPerson_172 c_X12_id c_X12_begin c_X12_moreDay c_X12_more c_X12_write c_X12_isHere c_X12_share c_X12_debt k210 (fun M => R none M) x1 x3 M) : f_E sh t YX12_showPerson rm cs (f_Q sh t R) 172 [.inr (.inr (.inl (12, 123, 4456))), .inl x1, .inr (.inr (.inr ())), .inl x3, .inr (.inr (.inr ()))] [] M :=
  f_go (KC := f_kc [(210, f_pl [(4466, 12, 123), (1, 0, 0), (0, 0, 0), (1, 0, 0), (0, 0, 0)] [] (fun ls st M => k210 (f_vi (f_nth ls 1)) (f_vi (f_nth ls 3)) M))]) C qX12_showPersonf (f_kc_cons (f_pl_ok rfl (fun ls st M h => h210 _ _ M h)) f_kc_nil) 136 108 h
set_option maxRecDepth 20000 in
theorem BX12_showPerson_210 {sh : Nat → Nat × Nat} {t : Nat} {rm : Nat × Nat × Nat} {cs : Nat × Nat} {R : f_Rt} {c_X12_id : Int → Int → e_M → (Int → Prop) → Prop} {c_X12_begin : Int → Int → e_M → (e_M → Prop) → Prop} {c_X12_moreDay : Int → e_M → (e_M → Prop) → Prop} {c_X12_more : Int → e_M → (e_M → Prop) → Prop} {c_X12_write : Int → e_M → (e_M → Prop) → Prop} {c_X12_isHere : Int → Int → e_M → (Int → Prop) → Prop} {c_X12_share : Int → Int → Int → e_M → (e_M → Prop) → Prop} {c_X12_debt : Int → e_M → (e_M → Prop) → Prop} {k172 : Int → Int → e_M → Prop} {x1 : Int} {x3 : Int} {M : e_M} (C : f_Hy sh t yX12_showPerson rm cs 9 (lX12_showPerson c_X12_id c_X12_begin c_X12_moreDay c_X12_more c_X12_write c_X12_isHere c_X12_share c_X12_debt) R) (h172 : ∀ (x1 : Int) (x3 : Int) (M : e_M), k172 x1 x3 M → f_E sh t YX12_showPerson rm cs (f_Q sh t R) 172 [.inr (.inr (.inl (12, 123, 4456))), .inl x1, .inr (.inr (.inr ())), .inl x3, .inr (.inr (.inr ()))] [] M) (h : VX12_showPerson_210 c_X12_id c_X12_begin c_X12_moreDay c_X12_more c_X12_write c_X12_isHere c_X12_share c_X12_debt k172 (fun M => R none M) x1 x3 M) : f_E sh t YX12_showPerson rm cs (f_Q sh t R) 210 [.inr (.inr (.inl (12, 123, 4456))), .inl x1, .inr (.inr (.inr ())), .inl x3, .inr (.inr (.inr ()))] [] M :=
  f_go (KC := f_kc [(172, f_pl [(4466, 12, 123), (1, 0, 0), (0, 0, 0), (1, 0, 0), (0, 0, 0)] [] (fun ls st M => k172 (f_vi (f_nth ls 1)) (f_vi (f_nth ls 3)) M))]) C qX12_showPersonf (f_kc_cons (f_pl_ok rfl (fun ls st M h => h172 _ _ M h)) f_kc_nil) 136 131 h
set_option maxRecDepth 20000 in
theorem BX12_showPerson {sh : Nat → Nat × Nat} {t : Nat} {rm : Nat × Nat × Nat} {cs : Nat × Nat} {R : f_Rt} {c_X12_id : Int → Int → e_M → (Int → Prop) → Prop} {c_X12_begin : Int → Int → e_M → (e_M → Prop) → Prop} {c_X12_moreDay : Int → e_M → (e_M → Prop) → Prop} {c_X12_more : Int → e_M → (e_M → Prop) → Prop} {c_X12_write : Int → e_M → (e_M → Prop) → Prop} {c_X12_isHere : Int → Int → e_M → (Int → Prop) → Prop} {c_X12_share : Int → Int → Int → e_M → (e_M → Prop) → Prop} {c_X12_debt : Int → e_M → (e_M → Prop) → Prop} {k22 : Int → Int → Int → e_M → Prop} {x1 : Int} {M : e_M} (C : f_Hy sh t yX12_showPerson rm cs 9 (lX12_showPerson c_X12_id c_X12_begin c_X12_moreDay c_X12_more c_X12_write c_X12_isHere c_X12_share c_X12_debt) R) (h22 : ∀ (x1 : Int) (x2 : Int) (xs1 : Int) (M : e_M), k22 x1 x2 xs1 M → f_E sh t YX12_showPerson rm cs (f_Q sh t R) 22 [.inr (.inr (.inl (12, 123, 4456))), .inl x1, .inl x2, .inr (.inr (.inr ())), .inr (.inr (.inr ()))] [.inl xs1, .inr (.inr (.inl (12, 123, 4456)))] M) (h : VX12_showPerson c_X12_id c_X12_begin c_X12_moreDay c_X12_more c_X12_write c_X12_isHere c_X12_share c_X12_debt k22 (fun M => R none M) x1 M) : f_E sh t YX12_showPerson rm cs (f_Q sh t R) 0 [.inr (.inr (.inl (12, 123, 4456))), .inl x1, .inr (.inr (.inr ())), .inr (.inr (.inr ())), .inr (.inr (.inr ()))] [] M :=
  f_go (KC := f_kc [(22, f_pl [(4466, 12, 123), (1, 0, 0), (1, 0, 0), (0, 0, 0), (0, 0, 0)] [(1, 0, 0), (4466, 12, 123)] (fun ls st M => k22 (f_vi (f_nth ls 1)) (f_vi (f_nth ls 2)) (f_vi (f_nth st 0)) M))]) C qX12_showPersonf (f_kc_cons (f_pl_ok rfl (fun ls st M h => h22 _ _ _ M h)) f_kc_nil) 136 0 h
def WX12_showPerson_210 (H172 : Int → Int → e_M → Prop) (Q : e_M → Prop) (x1 : Int) (x3 : Int) (M : e_M) : Prop :=
  VX12_showPerson_210 WX12_id WX12_begin WX12_moreDay WX12_more WX12_write WX12_isHere WX12_share WX12_debt H172 Q x1 x3 M
def WX12_showPerson_172 (Q : e_M → Prop) : Nat → Int → Int → e_M → Prop
  | 0, _, _, _ => False
  | n + 1, x1, x3, M =>
    VX12_showPerson_172 WX12_id WX12_begin WX12_moreDay WX12_more WX12_write WX12_isHere WX12_share WX12_debt (WX12_showPerson_210 (WX12_showPerson_172 Q n) Q) Q x1 x3 M
def WX12_showPerson_164 (H77 : Int → Int → e_M → Prop) (Q : e_M → Prop) (x1 : Int) (x3 : Int) (M : e_M) : Prop :=
  VX12_showPerson_164 WX12_id WX12_begin WX12_moreDay WX12_more WX12_write WX12_isHere WX12_share WX12_debt H77 Q x1 x3 M
def WX12_showPerson_158 (H77 : Int → Int → e_M → Prop) (H102 : Int → Int → Int → e_M → Prop) (Q : e_M → Prop) (x1 : Int) (x3 : Int) (x4 : Int) (M : e_M) : Prop :=
  VX12_showPerson_158 WX12_id WX12_begin WX12_moreDay WX12_more WX12_write WX12_isHere WX12_share WX12_debt H102 Q x1 x3 x4 M
def WX12_showPerson_102 (H77 : Int → Int → e_M → Prop) (Q : e_M → Prop) : Nat → Int → Int → Int → e_M → Prop
  | 0, _, _, _, _ => False
  | n + 1, x1, x3, x4, M =>
    VX12_showPerson_102 WX12_id WX12_begin WX12_moreDay WX12_more WX12_write WX12_isHere WX12_share WX12_debt (WX12_showPerson_164 H77 Q) (WX12_showPerson_158 H77 (WX12_showPerson_102 H77 Q n) Q) Q x1 x3 x4 M
def WX12_showPerson_77 (Q : e_M → Prop) : Nat → Int → Int → e_M → Prop
  | 0, _, _, _ => False
  | n + 1, x1, x3, M =>
    VX12_showPerson_77 WX12_id WX12_begin WX12_moreDay WX12_more WX12_write WX12_isHere WX12_share WX12_debt (fun x1 x3 M => ∃ j, WX12_showPerson_172 Q j x1 x3 M) (fun x1 x3 x4 M => ∃ j, WX12_showPerson_102 (WX12_showPerson_77 Q n) Q j x1 x3 x4 M) (WX12_showPerson_164 (WX12_showPerson_77 Q n) Q) Q x1 x3 M
def WX12_showPerson_69 (Q : e_M → Prop) (x1 : Int) (M : e_M) : Prop :=
  VX12_showPerson_69 WX12_id WX12_begin WX12_moreDay WX12_more WX12_write WX12_isHere WX12_share WX12_debt (fun x1 x3 M => ∃ j, WX12_showPerson_77 Q j x1 x3 M) Q x1 M
def WX12_showPerson_45 (Q : e_M → Prop) (x1 : Int) (x2 : Int) (M : e_M) : Prop :=
  VX12_showPerson_45 WX12_id WX12_begin WX12_moreDay WX12_more WX12_write WX12_isHere WX12_share WX12_debt (WX12_showPerson_69 Q) Q x1 x2 M
def WX12_showPerson_22 (Q : e_M → Prop) (x1 : Int) (x2 : Int) (xs1 : Int) (M : e_M) : Prop :=
  VX12_showPerson_22 WX12_id WX12_begin WX12_moreDay WX12_more WX12_write WX12_isHere WX12_share WX12_debt (WX12_showPerson_45 Q) Q x1 x2 xs1 M
def WX12_showPerson (x1 : Int) (M : e_M) (Q : e_M → Prop) : Prop :=
  VX12_showPerson WX12_id WX12_begin WX12_moreDay WX12_more WX12_write WX12_isHere WX12_share WX12_debt (WX12_showPerson_22 Q) Q x1 M
theorem PX12_showPerson_210 {sh : Nat → Nat × Nat} {t : Nat} {rm : Nat × Nat × Nat} {cs : Nat × Nat} {R : f_Rt} {H172 : Int → Int → e_M → Prop} {x1 : Int} {x3 : Int} {M : e_M} (C : f_Hy sh t yX12_showPerson rm cs 9 (lX12_showPerson WX12_id WX12_begin WX12_moreDay WX12_more WX12_write WX12_isHere WX12_share WX12_debt) R) (g172 : ∀ (x1 : Int) (x3 : Int) (M : e_M), H172 x1 x3 M → f_E sh t YX12_showPerson rm cs (f_Q sh t R) 172 [.inr (.inr (.inl (12, 123, 4456))), .inl x1, .inr (.inr (.inr ())), .inl x3, .inr (.inr (.inr ()))] [] M) (h : WX12_showPerson_210 H172 (fun M => R none M) x1 x3 M) : f_E sh t YX12_showPerson rm cs (f_Q sh t R) 210 [.inr (.inr (.inl (12, 123, 4456))), .inl x1, .inr (.inr (.inr ())), .inl x3, .inr (.inr (.inr ()))] [] M :=
  BX12_showPerson_210 C g172 h
theorem PX12_showPerson_172 {sh : Nat → Nat × Nat} {t : Nat} {rm : Nat × Nat × Nat} {cs : Nat × Nat} {R : f_Rt} (C : f_Hy sh t yX12_showPerson rm cs 9 (lX12_showPerson WX12_id WX12_begin WX12_moreDay WX12_more WX12_write WX12_isHere WX12_share WX12_debt) R) : ∀ (n : Nat) (x1 : Int) (x3 : Int) (M : e_M), WX12_showPerson_172 (fun M => R none M) n x1 x3 M → f_E sh t YX12_showPerson rm cs (f_Q sh t R) 172 [.inr (.inr (.inl (12, 123, 4456))), .inl x1, .inr (.inr (.inr ())), .inl x3, .inr (.inr (.inr ()))] [] M := by
  intro n
  induction n with
  | zero => intro x1 x3 M h; exact h.elim
  | succ n ih => intro x1 x3 M h; exact BX12_showPerson_172 C (fun x1 x3 M h => PX12_showPerson_210 C ih h) h
theorem PX12_showPerson_164 {sh : Nat → Nat × Nat} {t : Nat} {rm : Nat × Nat × Nat} {cs : Nat × Nat} {R : f_Rt} {H77 : Int → Int → e_M → Prop} {x1 : Int} {x3 : Int} {M : e_M} (C : f_Hy sh t yX12_showPerson rm cs 9 (lX12_showPerson WX12_id WX12_begin WX12_moreDay WX12_more WX12_write WX12_isHere WX12_share WX12_debt) R) (g77 : ∀ (x1 : Int) (x3 : Int) (M : e_M), H77 x1 x3 M → f_E sh t YX12_showPerson rm cs (f_Q sh t R) 77 [.inr (.inr (.inl (12, 123, 4456))), .inl x1, .inr (.inr (.inr ())), .inl x3, .inr (.inr (.inr ()))] [] M) (h : WX12_showPerson_164 H77 (fun M => R none M) x1 x3 M) : f_E sh t YX12_showPerson rm cs (f_Q sh t R) 164 [.inr (.inr (.inl (12, 123, 4456))), .inl x1, .inr (.inr (.inr ())), .inl x3, .inr (.inr (.inr ()))] [] M :=
  BX12_showPerson_164 C g77 h
theorem PX12_showPerson_158 {sh : Nat → Nat × Nat} {t : Nat} {rm : Nat × Nat × Nat} {cs : Nat × Nat} {R : f_Rt} {H77 : Int → Int → e_M → Prop} {H102 : Int → Int → Int → e_M → Prop} {x1 : Int} {x3 : Int} {x4 : Int} {M : e_M} (C : f_Hy sh t yX12_showPerson rm cs 9 (lX12_showPerson WX12_id WX12_begin WX12_moreDay WX12_more WX12_write WX12_isHere WX12_share WX12_debt) R) (g77 : ∀ (x1 : Int) (x3 : Int) (M : e_M), H77 x1 x3 M → f_E sh t YX12_showPerson rm cs (f_Q sh t R) 77 [.inr (.inr (.inl (12, 123, 4456))), .inl x1, .inr (.inr (.inr ())), .inl x3, .inr (.inr (.inr ()))] [] M) (g102 : ∀ (x1 : Int) (x3 : Int) (x4 : Int) (M : e_M), H102 x1 x3 x4 M → f_E sh t YX12_showPerson rm cs (f_Q sh t R) 102 [.inr (.inr (.inl (12, 123, 4456))), .inl x1, .inr (.inr (.inr ())), .inl x3, .inl x4] [] M) (h : WX12_showPerson_158 H77 H102 (fun M => R none M) x1 x3 x4 M) : f_E sh t YX12_showPerson rm cs (f_Q sh t R) 158 [.inr (.inr (.inl (12, 123, 4456))), .inl x1, .inr (.inr (.inr ())), .inl x3, .inl x4] [] M :=
  BX12_showPerson_158 C g102 h
theorem PX12_showPerson_102 {sh : Nat → Nat × Nat} {t : Nat} {rm : Nat × Nat × Nat} {cs : Nat × Nat} {R : f_Rt} {H77 : Int → Int → e_M → Prop} (C : f_Hy sh t yX12_showPerson rm cs 9 (lX12_showPerson WX12_id WX12_begin WX12_moreDay WX12_more WX12_write WX12_isHere WX12_share WX12_debt) R) (g77 : ∀ (x1 : Int) (x3 : Int) (M : e_M), H77 x1 x3 M → f_E sh t YX12_showPerson rm cs (f_Q sh t R) 77 [.inr (.inr (.inl (12, 123, 4456))), .inl x1, .inr (.inr (.inr ())), .inl x3, .inr (.inr (.inr ()))] [] M) : ∀ (n : Nat) (x1 : Int) (x3 : Int) (x4 : Int) (M : e_M), WX12_showPerson_102 H77 (fun M => R none M) n x1 x3 x4 M → f_E sh t YX12_showPerson rm cs (f_Q sh t R) 102 [.inr (.inr (.inl (12, 123, 4456))), .inl x1, .inr (.inr (.inr ())), .inl x3, .inl x4] [] M := by
  intro n
  induction n with
  | zero => intro x1 x3 x4 M h; exact h.elim
  | succ n ih => intro x1 x3 x4 M h; exact BX12_showPerson_102 C (fun x1 x3 M h => PX12_showPerson_164 C g77 h) (fun x1 x3 x4 M h => PX12_showPerson_158 C g77 ih h) h
theorem PX12_showPerson_77 {sh : Nat → Nat × Nat} {t : Nat} {rm : Nat × Nat × Nat} {cs : Nat × Nat} {R : f_Rt} (C : f_Hy sh t yX12_showPerson rm cs 9 (lX12_showPerson WX12_id WX12_begin WX12_moreDay WX12_more WX12_write WX12_isHere WX12_share WX12_debt) R) : ∀ (n : Nat) (x1 : Int) (x3 : Int) (M : e_M), WX12_showPerson_77 (fun M => R none M) n x1 x3 M → f_E sh t YX12_showPerson rm cs (f_Q sh t R) 77 [.inr (.inr (.inl (12, 123, 4456))), .inl x1, .inr (.inr (.inr ())), .inl x3, .inr (.inr (.inr ()))] [] M := by
  intro n
  induction n with
  | zero => intro x1 x3 M h; exact h.elim
  | succ n ih => intro x1 x3 M h; exact BX12_showPerson_77 C (fun x1 x3 M ⟨j, h⟩ => PX12_showPerson_172 C j _ _ _ h) (fun x1 x3 x4 M ⟨j, h⟩ => PX12_showPerson_102 C ih j _ _ _ _ h) (fun x1 x3 M h => PX12_showPerson_164 C ih h) h
theorem PX12_showPerson_69 {sh : Nat → Nat × Nat} {t : Nat} {rm : Nat × Nat × Nat} {cs : Nat × Nat} {R : f_Rt} {x1 : Int} {M : e_M} (C : f_Hy sh t yX12_showPerson rm cs 9 (lX12_showPerson WX12_id WX12_begin WX12_moreDay WX12_more WX12_write WX12_isHere WX12_share WX12_debt) R) (h : WX12_showPerson_69 (fun M => R none M) x1 M) : f_E sh t YX12_showPerson rm cs (f_Q sh t R) 69 [.inr (.inr (.inl (12, 123, 4456))), .inl x1, .inr (.inr (.inr ())), .inr (.inr (.inr ())), .inr (.inr (.inr ()))] [] M :=
  BX12_showPerson_69 C (fun x1 x3 M ⟨j, h⟩ => PX12_showPerson_77 C j _ _ _ h) h
theorem PX12_showPerson_45 {sh : Nat → Nat × Nat} {t : Nat} {rm : Nat × Nat × Nat} {cs : Nat × Nat} {R : f_Rt} {x1 : Int} {x2 : Int} {M : e_M} (C : f_Hy sh t yX12_showPerson rm cs 9 (lX12_showPerson WX12_id WX12_begin WX12_moreDay WX12_more WX12_write WX12_isHere WX12_share WX12_debt) R) (h : WX12_showPerson_45 (fun M => R none M) x1 x2 M) : f_E sh t YX12_showPerson rm cs (f_Q sh t R) 45 [.inr (.inr (.inl (12, 123, 4456))), .inl x1, .inl x2, .inr (.inr (.inr ())), .inr (.inr (.inr ()))] [] M :=
  BX12_showPerson_45 C (fun x1 M h => PX12_showPerson_69 C h) h
theorem PX12_showPerson_22 {sh : Nat → Nat × Nat} {t : Nat} {rm : Nat × Nat × Nat} {cs : Nat × Nat} {R : f_Rt} {x1 : Int} {x2 : Int} {xs1 : Int} {M : e_M} (C : f_Hy sh t yX12_showPerson rm cs 9 (lX12_showPerson WX12_id WX12_begin WX12_moreDay WX12_more WX12_write WX12_isHere WX12_share WX12_debt) R) (h : WX12_showPerson_22 (fun M => R none M) x1 x2 xs1 M) : f_E sh t YX12_showPerson rm cs (f_Q sh t R) 22 [.inr (.inr (.inl (12, 123, 4456))), .inl x1, .inl x2, .inr (.inr (.inr ())), .inr (.inr (.inr ()))] [.inl xs1, .inr (.inr (.inl (12, 123, 4456)))] M :=
  BX12_showPerson_22 C (fun x1 x2 M h => PX12_showPerson_45 C h) h
theorem PX12_showPerson {sh : Nat → Nat × Nat} {t : Nat} {rm : Nat × Nat × Nat} {cs : Nat × Nat} {R : f_Rt} {x1 : Int} {M : e_M} (C : f_Hy sh t yX12_showPerson rm cs 9 (lX12_showPerson WX12_id WX12_begin WX12_moreDay WX12_more WX12_write WX12_isHere WX12_share WX12_debt) R) (h : WX12_showPerson x1 M (fun M => R none M)) : f_E sh t YX12_showPerson rm cs (f_Q sh t R) 0 [.inr (.inr (.inl (12, 123, 4456))), .inl x1, .inr (.inr (.inr ())), .inr (.inr (.inr ())), .inr (.inr (.inr ()))] [] M :=
  BX12_showPerson C (fun x1 x2 xs1 M h => PX12_showPerson_22 C h) h
def wX12_showPerson : f_Wt := f_wm [(4466, 12, 123), (1, 0, 0)] (fun ar M R => WX12_showPerson (f_vi (f_nth ar 1)) M (fun M => R none M))
theorem TX12_showPerson {sh : Nat → Nat × Nat} {t : Nat} : f_Mt sh t YX12_showPerson 9 (wX12_showPerson) :=
  f_Mt_of (k := 3) (Nat.le_of_ble_eq_true rfl) rfl rfl (fun ar M R rm cs h1 h2 h3 hX h => PX12_showPerson ⟨Nat.le_of_ble_eq_true rfl, h1, h2, h3, ⟨(f_Mt.up (Nat.le_of_ble_eq_true rfl) TX12_id), (f_Mt.up (Nat.le_of_ble_eq_true rfl) TX12_begin), (f_Mt.up (Nat.le_of_ble_eq_true rfl) TX12_moreDay), (f_Mt.up (Nat.le_of_ble_eq_true rfl) TX12_more), (f_Mt.up (Nat.le_of_ble_eq_true rfl) TX12_write), (f_Mt.up (Nat.le_of_ble_eq_true rfl) TX12_isHere), (f_Mt.up (Nat.le_of_ble_eq_true rfl) TX12_share), (f_Mt.up (Nat.le_of_ble_eq_true rfl) TX12_debt), trivial⟩, hX⟩ h)
def VX12_showOther_53 (c_X12_id : Int → Int → e_M → (Int → Prop) → Prop) (c_X12_lineOf : Int → Int → e_M → (e_M → Prop) → Prop) (c_X12_write : Int → e_M → (e_M → Prop) → Prop) (c_X12_writeWord : Int → e_M → (e_M → Prop) → Prop) (c_X12_more : Int → e_M → (e_M → Prop) → Prop) (c_X12_moreNumber : Int → e_M → (e_M → Prop) → Prop) (c_X12_moreDay : Int → e_M → (e_M → Prop) → Prop) (c_X12_begin : Int → Int → e_M → (e_M → Prop) → Prop) (c_X12_rankAt : Int → Int → e_M → (Int → Prop) → Prop) (k63 : Int → Int → Int → e_M → Prop) (k74 : Int → Int → Int → e_M → Prop) (Q : e_M → Prop) (x1 : Int) (x2 : Int) (x3 : Int) (M : e_M) : Prop :=
  ((x1 = 2 → (k63 x1 x2 x3 M)) ∧ (¬ x1 = 2 → ((¬ x1 = 4 → (k74 x1 x2 x3 M)) ∧ (x1 = 4 → (k63 x1 x2 x3 M)))))
def VX12_showOther_63 (c_X12_id : Int → Int → e_M → (Int → Prop) → Prop) (c_X12_lineOf : Int → Int → e_M → (e_M → Prop) → Prop) (c_X12_write : Int → e_M → (e_M → Prop) → Prop) (c_X12_writeWord : Int → e_M → (e_M → Prop) → Prop) (c_X12_more : Int → e_M → (e_M → Prop) → Prop) (c_X12_moreNumber : Int → e_M → (e_M → Prop) → Prop) (c_X12_moreDay : Int → e_M → (e_M → Prop) → Prop) (c_X12_begin : Int → Int → e_M → (e_M → Prop) → Prop) (c_X12_rankAt : Int → Int → e_M → (Int → Prop) → Prop) (k74 : Int → Int → Int → e_M → Prop) (Q : e_M → Prop) (x1 : Int) (x2 : Int) (x3 : Int) (M : e_M) : Prop :=
  ((0 ≤ x3 ∧ x3 < 560) ∧ (c_X12_moreNumber (M 4490 (x3.toNat)) M (fun M1 => (k74 x1 x2 x3 M1))))
def VX12_showOther_74 (c_X12_id : Int → Int → e_M → (Int → Prop) → Prop) (c_X12_lineOf : Int → Int → e_M → (e_M → Prop) → Prop) (c_X12_write : Int → e_M → (e_M → Prop) → Prop) (c_X12_writeWord : Int → e_M → (e_M → Prop) → Prop) (c_X12_more : Int → e_M → (e_M → Prop) → Prop) (c_X12_moreNumber : Int → e_M → (e_M → Prop) → Prop) (c_X12_moreDay : Int → e_M → (e_M → Prop) → Prop) (c_X12_begin : Int → Int → e_M → (e_M → Prop) → Prop) (c_X12_rankAt : Int → Int → e_M → (Int → Prop) → Prop) (k89 : Int → Int → Int → e_M → Prop) (Q : e_M → Prop) (x1 : Int) (x2 : Int) (x3 : Int) (M : e_M) : Prop :=
  ((x1 < 4 → (k89 x1 x2 x3 M)) ∧ (4 ≤ x1 → ((0 ≤ x3 ∧ x3 < 560) ∧ (c_X12_moreDay (M 4487 (x3.toNat)) M (fun M1 => (k89 x1 x2 x3 M1))))))
def VX12_showOther_89 (c_X12_id : Int → Int → e_M → (Int → Prop) → Prop) (c_X12_lineOf : Int → Int → e_M → (e_M → Prop) → Prop) (c_X12_write : Int → e_M → (e_M → Prop) → Prop) (c_X12_writeWord : Int → e_M → (e_M → Prop) → Prop) (c_X12_more : Int → e_M → (e_M → Prop) → Prop) (c_X12_moreNumber : Int → e_M → (e_M → Prop) → Prop) (c_X12_moreDay : Int → e_M → (e_M → Prop) → Prop) (c_X12_begin : Int → Int → e_M → (e_M → Prop) → Prop) (c_X12_rankAt : Int → Int → e_M → (Int → Prop) → Prop) (k98 : Int → Int → Int → Int → e_M → Prop) (Q : e_M → Prop) (x1 : Int) (x2 : Int) (x3 : Int) (M : e_M) : Prop :=
  (c_X12_write 10 M (fun M1 => (k98 x1 x2 x3 0 M1)))
def VX12_showOther_98 (c_X12_id : Int → Int → e_M → (Int → Prop) → Prop) (c_X12_lineOf : Int → Int → e_M → (e_M → Prop) → Prop) (c_X12_write : Int → e_M → (e_M → Prop) → Prop) (c_X12_writeWord : Int → e_M → (e_M → Prop) → Prop) (c_X12_more : Int → e_M → (e_M → Prop) → Prop) (c_X12_moreNumber : Int → e_M → (e_M → Prop) → Prop) (c_X12_moreDay : Int → e_M → (e_M → Prop) → Prop) (c_X12_begin : Int → Int → e_M → (e_M → Prop) → Prop) (c_X12_rankAt : Int → Int → e_M → (Int → Prop) → Prop) (k142 : Int → Int → Int → Int → e_M → Prop) (k98 : Int → Int → Int → Int → e_M → Prop) (Q : e_M → Prop) (x1 : Int) (x2 : Int) (x3 : Int) (x4 : Int) (M : e_M) : Prop :=
  ((0 ≤ x3 ∧ x3 < 560) ∧ (((M 4494 (x3.toNat)) ≤ x4 → (k142 x1 x2 x3 0 M)) ∧ (x4 < (M 4494 (x3.toNat)) → ((0 ≤ (e_w32 ((e_w32 ((8 : Int) * x3)) + x4)) ∧ (e_w32 ((e_w32 ((8 : Int) * x3)) + x4)) < 4480) ∧ (c_X12_begin 26 (M 4495 ((e_w32 ((e_w32 ((8 : Int) * x3)) + x4)).toNat)) M (fun M1 => (c_X12_write 10 M1 (fun M2 => (k98 x1 x2 x3 (e_w32 (x4 + 1)) M2)))))))))
def VX12_showOther_142 (c_X12_id : Int → Int → e_M → (Int → Prop) → Prop) (c_X12_lineOf : Int → Int → e_M → (e_M → Prop) → Prop) (c_X12_write : Int → e_M → (e_M → Prop) → Prop) (c_X12_writeWord : Int → e_M → (e_M → Prop) → Prop) (c_X12_more : Int → e_M → (e_M → Prop) → Prop) (c_X12_moreNumber : Int → e_M → (e_M → Prop) → Prop) (c_X12_moreDay : Int → e_M → (e_M → Prop) → Prop) (c_X12_begin : Int → Int → e_M → (e_M → Prop) → Prop) (c_X12_rankAt : Int → Int → e_M → (Int → Prop) → Prop) (k179 : Int → Int → Int → Int → Int → Int → e_M → Prop) (Q : e_M → Prop) (x1 : Int) (x2 : Int) (x3 : Int) (x4 : Int) (M : e_M) : Prop :=
  ((0 ≤ x3 ∧ x3 < 560) ∧ (((M 4492 (x3.toNat)) ≤ x4 → (Q M)) ∧ (x4 < (M 4492 (x3.toNat)) → ((0 ≤ (e_w32 ((e_w32 ((8 : Int) * x3)) + x4)) ∧ (e_w32 ((e_w32 ((8 : Int) * x3)) + x4)) < 4480) ∧ (∀ y1 : Int, y1 = M 4493 ((e_w32 ((e_w32 ((8 : Int) * x3)) + x4)).toNat) → ((¬ x1 = 3 → (k179 x1 x2 x3 x4 y1 0 M)) ∧ (x1 = 3 → (k179 x1 x2 x3 x4 y1 27 M))))))))
def VX12_showOther_179 (c_X12_id : Int → Int → e_M → (Int → Prop) → Prop) (c_X12_lineOf : Int → Int → e_M → (e_M → Prop) → Prop) (c_X12_write : Int → e_M → (e_M → Prop) → Prop) (c_X12_writeWord : Int → e_M → (e_M → Prop) → Prop) (c_X12_more : Int → e_M → (e_M → Prop) → Prop) (c_X12_moreNumber : Int → e_M → (e_M → Prop) → Prop) (c_X12_moreDay : Int → e_M → (e_M → Prop) → Prop) (c_X12_begin : Int → Int → e_M → (e_M → Prop) → Prop) (c_X12_rankAt : Int → Int → e_M → (Int → Prop) → Prop) (k203 : Int → Int → Int → Int → e_M → Prop) (Q : e_M → Prop) (x1 : Int) (x2 : Int) (x3 : Int) (x4 : Int) (x5 : Int) (xs1 : Int) (M : e_M) : Prop :=
  (c_X12_begin xs1 x5 M (fun M1 => ((¬ x1 = 2 → (k203 x1 x2 x3 x4 M1)) ∧ (x1 = 2 → (c_X12_rankAt x5 x2 M1 (fun r2 => (c_X12_moreNumber (e_w32 (r2 + 1)) M1 (fun M3 => (k203 x1 x2 x3 x4 M3)))))))))
def VX12_showOther_203 (c_X12_id : Int → Int → e_M → (Int → Prop) → Prop) (c_X12_lineOf : Int → Int → e_M → (e_M → Prop) → Prop) (c_X12_write : Int → e_M → (e_M → Prop) → Prop) (c_X12_writeWord : Int → e_M → (e_M → Prop) → Prop) (c_X12_more : Int → e_M → (e_M → Prop) → Prop) (c_X12_moreNumber : Int → e_M → (e_M → Prop) → Prop) (c_X12_moreDay : Int → e_M → (e_M → Prop) → Prop) (c_X12_begin : Int → Int → e_M → (e_M → Prop) → Prop) (c_X12_rankAt : Int → Int → e_M → (Int → Prop) → Prop) (k142 : Int → Int → Int → Int → e_M → Prop) (Q : e_M → Prop) (x1 : Int) (x2 : Int) (x3 : Int) (x4 : Int) (M : e_M) : Prop :=
  (c_X12_write 10 M (fun M1 => (k142 x1 x2 x3 (e_w32 (x4 + 1)) M1)))
def VX12_showOther (c_X12_id : Int → Int → e_M → (Int → Prop) → Prop) (c_X12_lineOf : Int → Int → e_M → (e_M → Prop) → Prop) (c_X12_write : Int → e_M → (e_M → Prop) → Prop) (c_X12_writeWord : Int → e_M → (e_M → Prop) → Prop) (c_X12_more : Int → e_M → (e_M → Prop) → Prop) (c_X12_moreNumber : Int → e_M → (e_M → Prop) → Prop) (c_X12_moreDay : Int → e_M → (e_M → Prop) → Prop) (c_X12_begin : Int → Int → e_M → (e_M → Prop) → Prop) (c_X12_rankAt : Int → Int → e_M → (Int → Prop) → Prop) (k53 : Int → Int → Int → e_M → Prop) (Q : e_M → Prop) (x1 : Int) (x2 : Int) (M : e_M) : Prop :=
  (c_X12_id x1 x2 M (fun r1 => (c_X12_lineOf x1 r1 M (fun M2 => ((¬ x1 = 3 → ((0 ≤ r1 ∧ r1 < 560) ∧ (c_X12_id 1 (M2 4489 (r1.toNat)) M2 (fun r3 => (c_X12_more r3 M2 (fun M4 => (k53 x1 x2 r1 M4))))))) ∧ (x1 = 3 → (c_X12_write 32 M2 (fun M5 => ((0 ≤ r1 ∧ r1 < 560) ∧ (c_X12_writeWord (e_w32 ((36 : Int) + (M5 4491 (r1.toNat)))) M5 (fun M6 => (k53 x1 x2 r1 M6))))))))))))
def yX12_showOther (i : Nat) : e_Y := x_get YX12_showOther [YX12_id, YX12_lineOf, YX12_write, YX12_writeWord, YX12_more, YX12_moreNumber, YX12_moreDay, YX12_begin, YX12_rankAt] i
def pX12_showOtherf : List x_I := [(0, 2, 1, 1, 0, 0, []), (1, 2, 1, 2, 0, 0, []), (2, 40, 0, 2, 0, 0, []), (5, 5, 1, 3, 0, 0, []), (6, 4, 1, 0, 0, 0, []), (7, 2, 1, 1, 0, 0, []), (8, 2, 1, 3, 0, 0, []), (9, 40, 1, 3, 14, 0, []), (12, 2, 1, 1, 0, 0, []), (13, 0, 1, 0, 0, 3, []), (14, 18, 39, 1, 24, 0, []), (17, 4, 1, 0, 0, 0, []), (18, 0, 2, 0, 0, 32, []), (20, 40, 2, 2, 14, 0, []), (23, 4, 1, 0, 0, 0, []), (24, 0, 2, 0, 0, 36, []), (26, 4, 1, 0, 0, 0, []), (27, 25, 12, 58, 4, 0, [(0, 20, 560), (0, 1, 35)]), (30, 2, 1, 3, 0, 0, []), (31, 27, 0, 0, 0, 0, []), (32, 9, 0, 0, 0, 0, []), (33, 40, 3, 2, 14, 0, []), (36, 19, 53, 0, 32, 0, []), (39, 4, 1, 0, 0, 0, []), (40, 0, 1, 0, 0, 1, []), (41, 4, 1, 0, 0, 0, []), (42, 25, 12, 56, 4, 0, [(0, 20, 560), (0, 1, 33)]), (45, 2, 1, 3, 0, 0, []), (46, 27, 0, 0, 0, 0, []), (47, 40, 0, 2, 0, 0, []), (50, 40, 4, 2, 14, 0, []), (53, 49, 0, 0, 0, 0, []), (53, 2, 1, 1, 0, 0, []), (54, 0, 1, 0, 0, 2, []), (55, 18, 63, 0, 39, 0, []), (58, 2, 1, 1, 0, 0, []), (59, 0, 1, 0, 0, 4, []), (60, 18, 74, 1, 47, 0, []), (63, 49, 0, 0, 0, 0, []), (63, 4, 1, 0, 0, 0, []), (64, 4, 1, 0, 0, 0, []), (65, 25, 12, 57, 4, 0, [(0, 20, 560), (0, 1, 34)]), (68, 2, 1, 3, 0, 0, []), (69, 27, 0, 0, 0, 0, []), (70, 14, 0, 0, 0, 0, []), (71, 40, 5, 2, 14, 0, []), (74, 49, 0, 0, 0, 0, []), (74, 2, 1, 1, 0, 0, []), (75, 0, 1, 0, 0, 4, []), (76, 18, 89, 2, 57, 0, []), (79, 4, 1, 0, 0, 0, []), (80, 4, 1, 0, 0, 0, []), (81, 25, 12, 54, 4, 0, [(0, 20, 560), (0, 1, 31)]), (84, 2, 1, 3, 0, 0, []), (85, 27, 0, 0, 0, 0, []), (86, 40, 6, 2, 14, 0, []), (89, 49, 0, 0, 0, 0, []), (89, 4, 1, 0, 0, 0, []), (90, 0, 2, 0, 0, 10, []), (92, 40, 2, 2, 14, 0, []), (95, 0, 1, 0, 0, 0, []), (96, 5, 2, 4, 0, 0, []), (98, 49, 0, 0, 0, 0, []), (98, 2, 2, 4, 0, 0, []), (100, 4, 1, 0, 0, 0, []), (101, 25, 12, 61, 4, 0, [(0, 20, 560), (0, 1, 38)]), (104, 2, 1, 3, 0, 0, []), (105, 27, 0, 0, 0, 0, []), (106, 18, 139, 3, 86, 0, []), (109, 4, 1, 0, 0, 0, []), (110, 0, 2, 0, 0, 26, []), (112, 4, 1, 0, 0, 0, []), (113, 25, 12, 62, 4, 0, [(0, 20, 4480), (0, 1, 39)]), (116, 0, 2, 0, 0, 8, []), (118, 2, 1, 3, 0, 0, []), (119, 9, 0, 2, 0, 0, []), (120, 2, 2, 4, 0, 0, []), (122, 9, 0, 0, 0, 0, []), (123, 27, 0, 0, 0, 0, []), (124, 40, 7, 3, 14, 0, []), (127, 4, 1, 0, 0, 0, []), (128, 0, 2, 0, 0, 10, []), (130, 40, 2, 2, 14, 0, []), (133, 8, 0, 4, 0, 1, []), (136, 19, 98, 0, 63, 0, []), (139, 0, 1, 0, 0, 0, []), (140, 5, 2, 4, 0, 0, []), (142, 49, 0, 0, 0, 0, []), (142, 2, 2, 4, 0, 0, []), (144, 4, 1, 0, 0, 0, []), (145, 25, 12, 59, 4, 0, [(0, 20, 560), (0, 1, 36)]), (148, 2, 1, 3, 0, 0, []), (149, 27, 0, 0, 0, 0, []), (150, 18, 215, 3, 133, 0, []), (153, 4, 1, 0, 0, 0, []), (154, 25, 12, 60, 4, 0, [(0, 20, 4480), (0, 1, 37)]), (157, 0, 2, 0, 0, 8, []), (159, 2, 1, 3, 0, 0, []), (160, 9, 0, 2, 0, 0, []), (161, 2, 2, 4, 0, 0, []), (163, 9, 0, 0, 0, 0, []), (164, 27, 0, 0, 0, 0, []), (165, 33, 0, 0, 0, 0, []), (165, 5, 2, 5, 0, 0, []), (167, 4, 1, 0, 0, 0, []), (168, 2, 1, 1, 0, 0, []), (169, 0, 1, 0, 0, 3, []), (170, 18, 178, 1, 111, 0, []), (173, 0, 2, 0, 0, 27, []), (175, 19, 179, 0, 112, 0, []), (178, 0, 1, 0, 0, 0, []), (179, 49, 0, 0, 0, 0, []), (179, 2, 2, 5, 0, 0, []), (181, 40, 7, 3, 14, 0, []), (184, 2, 1, 1, 0, 0, []), (185, 0, 1, 0, 0, 2, []), (186, 18, 203, 1, 127, 0, []), (189, 4, 1, 0, 0, 0, []), (190, 4, 1, 0, 0, 0, []), (191, 2, 2, 5, 0, 0, []), (193, 2, 1, 2, 0, 0, []), (194, 40, 8, 3, 14, 0, []), (197, 0, 1, 0, 0, 1, []), (198, 9, 0, 0, 0, 0, []), (199, 14, 0, 0, 0, 0, []), (200, 40, 5, 2, 14, 0, []), (203, 49, 0, 0, 0, 0, []), (203, 4, 1, 0, 0, 0, []), (204, 0, 2, 0, 0, 10, []), (206, 40, 2, 2, 14, 0, []), (209, 8, 0, 4, 0, 1, []), (212, 19, 142, 0, 88, 0, []), (215, 44, 0, 0, 0, 0, [])]
set_option maxRecDepth 20000 in
theorem qX12_showOtherf : f_all yX12_showOther YX12_showOther pX12_showOtherf :=
  ⟨f_iload_n (n := 1) (e_dx DX12_showOther_0 0 rfl) rfl,
  f_iload_n (n := 2) (e_dx DX12_showOther_0 1 rfl) rfl,
  x_callS (e_dx DX12_showOther_0 2 rfl) mwX12_id cX12_540 swX12_id rfl,
  f_istore_n (n := 3) (e_dx DX12_showOther_0 3 rfl) rfl (by decide),
  f_aload_n (n := 0) (e_dx DX12_showOther_0 4 rfl) rfl,
  f_iload_n (n := 1) (e_dx DX12_showOther_0 5 rfl) rfl,
  f_iload_n (n := 3) (e_dx DX12_showOther_0 6 rfl) rfl,
  x_callV (e_dx DX12_showOther_0 7 rfl) mwX12_lineOf vwX12_lineOf cX12_950 rfl,
  f_iload_n (n := 1) (e_dx DX12_showOther_0 8 rfl) rfl,
  f_iconst (e_dx DX12_showOther_0 9 rfl) ⟨by decide, by decide⟩,
  f_icmp_ne (e_dx DX12_showOther_0 10 rfl) rfl,
  f_aload_n (n := 0) (e_dx DX12_showOther_0 11 rfl) rfl,
  f_bipush (e_dx DX12_showOther_0 12 rfl) ⟨by decide, by decide⟩,
  x_callV (e_dx DX12_showOther_0 13 rfl) mwX12_write vwX12_write cX12_916 rfl,
  f_aload_n (n := 0) (e_dx DX12_showOther_0 14 rfl) rfl,
  f_bipush (e_dx DX12_showOther_0 15 rfl) ⟨by decide, by decide⟩,
  f_aload_n (n := 0) (e_dx DX12_showOther_0 16 rfl) rfl,
  f_getA (e_dx DX12_showOther_0 17 rfl) fX12_115 rfl (by decide) (Nat.le_of_ble_eq_true rfl) rfl (by decide),
  f_iload_n (n := 3) (e_dx DX12_showOther_0 18 rfl) rfl,
  f_iaload (e_dx DX12_showOther_0 19 rfl),
  f_iadd (e_dx DX12_showOther_0 20 rfl),
  x_callV (e_dx DX12_showOther_0 21 rfl) mwX12_writeWord vwX12_writeWord cX12_932 rfl,
  f_g19 (e_dx DX12_showOther_0 22 rfl) rfl,
  f_aload_n (n := 0) (e_dx DX12_showOther_0 23 rfl) rfl,
  f_iconst (e_dx DX12_showOther_0 24 rfl) ⟨by decide, by decide⟩,
  f_aload_n (n := 0) (e_dx DX12_showOther_0 25 rfl) rfl,
  f_getA (e_dx DX12_showOther_0 26 rfl) fX12_109 rfl (by decide) (Nat.le_of_ble_eq_true rfl) rfl (by decide),
  f_iload_n (n := 3) (e_dx DX12_showOther_0 27 rfl) rfl,
  f_iaload (e_dx DX12_showOther_0 28 rfl),
  x_callS (e_dx DX12_showOther_0 29 rfl) mwX12_id cX12_540 swX12_id rfl,
  x_callV (e_dx DX12_showOther_0 30 rfl) mwX12_more vwX12_more cX12_941 rfl,
  trivial,
  f_iload_n (n := 1) (e_dx DX12_showOther_0 31 rfl) rfl,
  f_iconst (e_dx DX12_showOther_0 32 rfl) ⟨by decide, by decide⟩,
  f_icmp_eq (e_dx DX12_showOther_0 33 rfl) rfl,
  f_iload_n (n := 1) (e_dx DX12_showOther_0 34 rfl) rfl,
  f_iconst (e_dx DX12_showOther_0 35 rfl) ⟨by decide, by decide⟩,
  f_icmp_ne (e_dx DX12_showOther_0 36 rfl) rfl,
  trivial,
  f_aload_n (n := 0) (e_dx DX12_showOther_0 37 rfl) rfl,
  f_aload_n (n := 0) (e_dx DX12_showOther_0 38 rfl) rfl,
  f_getA (e_dx DX12_showOther_0 39 rfl) fX12_112 rfl (by decide) (Nat.le_of_ble_eq_true rfl) rfl (by decide),
  f_iload_n (n := 3) (e_dx DX12_showOther_1 0 rfl) rfl,
  f_iaload (e_dx DX12_showOther_1 1 rfl),
  f_g14 (e_dx DX12_showOther_1 2 rfl),
  x_callV (e_dx DX12_showOther_1 3 rfl) mwX12_moreNumber vwX12_moreNumber cX12_938 rfl,
  trivial,
  f_iload_n (n := 1) (e_dx DX12_showOther_1 4 rfl) rfl,
  f_iconst (e_dx DX12_showOther_1 5 rfl) ⟨by decide, by decide⟩,
  f_icmp_lt (e_dx DX12_showOther_1 6 rfl) rfl,
  f_aload_n (n := 0) (e_dx DX12_showOther_1 7 rfl) rfl,
  f_aload_n (n := 0) (e_dx DX12_showOther_1 8 rfl) rfl,
  f_getA (e_dx DX12_showOther_1 9 rfl) fX12_103 rfl (by decide) (Nat.le_of_ble_eq_true rfl) rfl (by decide),
  f_iload_n (n := 3) (e_dx DX12_showOther_1 10 rfl) rfl,
  f_iaload (e_dx DX12_showOther_1 11 rfl),
  x_callV (e_dx DX12_showOther_1 12 rfl) mwX12_moreDay vwX12_moreDay cX12_971 rfl,
  trivial,
  f_aload_n (n := 0) (e_dx DX12_showOther_1 13 rfl) rfl,
  f_bipush (e_dx DX12_showOther_1 14 rfl) ⟨by decide, by decide⟩,
  x_callV (e_dx DX12_showOther_1 15 rfl) mwX12_write vwX12_write cX12_916 rfl,
  f_iconst (e_dx DX12_showOther_1 16 rfl) ⟨by decide, by decide⟩,
  f_istore (e_dx DX12_showOther_1 17 rfl) (by decide),
  trivial,
  f_iload (e_dx DX12_showOther_1 18 rfl),
  f_aload_n (n := 0) (e_dx DX12_showOther_1 19 rfl) rfl,
  f_getA (e_dx DX12_showOther_1 20 rfl) fX12_124 rfl (by decide) (Nat.le_of_ble_eq_true rfl) rfl (by decide),
  f_iload_n (n := 3) (e_dx DX12_showOther_1 21 rfl) rfl,
  f_iaload (e_dx DX12_showOther_1 22 rfl),
  f_icmp_ge (e_dx DX12_showOther_1 23 rfl) rfl,
  f_aload_n (n := 0) (e_dx DX12_showOther_1 24 rfl) rfl,
  f_bipush (e_dx DX12_showOther_1 25 rfl) ⟨by decide, by decide⟩,
  f_aload_n (n := 0) (e_dx DX12_showOther_1 26 rfl) rfl,
  f_getA (e_dx DX12_showOther_1 27 rfl) fX12_127 rfl (by decide) (Nat.le_of_ble_eq_true rfl) rfl (by decide),
  f_bipush (e_dx DX12_showOther_1 28 rfl) ⟨by decide, by decide⟩,
  f_iload_n (n := 3) (e_dx DX12_showOther_1 29 rfl) rfl,
  f_imul (e_dx DX12_showOther_1 30 rfl),
  f_iload (e_dx DX12_showOther_1 31 rfl),
  f_iadd (e_dx DX12_showOther_1 32 rfl),
  f_iaload (e_dx DX12_showOther_1 33 rfl),
  x_callV (e_dx DX12_showOther_1 34 rfl) mwX12_begin vwX12_begin cX12_947 rfl,
  f_aload_n (n := 0) (e_dx DX12_showOther_1 35 rfl) rfl,
  f_bipush (e_dx DX12_showOther_1 36 rfl) ⟨by decide, by decide⟩,
  x_callV (e_dx DX12_showOther_1 37 rfl) mwX12_write vwX12_write cX12_916 rfl,
  f_g8 (e_dx DX12_showOther_1 38 rfl) ⟨by decide, by decide⟩,
  f_g19 (e_dx DX12_showOther_1 39 rfl) rfl,
  f_iconst (e_dx DX12_showOther_2 0 rfl) ⟨by decide, by decide⟩,
  f_istore (e_dx DX12_showOther_2 1 rfl) (by decide),
  trivial,
  f_iload (e_dx DX12_showOther_2 2 rfl),
  f_aload_n (n := 0) (e_dx DX12_showOther_2 3 rfl) rfl,
  f_getA (e_dx DX12_showOther_2 4 rfl) fX12_118 rfl (by decide) (Nat.le_of_ble_eq_true rfl) rfl (by decide),
  f_iload_n (n := 3) (e_dx DX12_showOther_2 5 rfl) rfl,
  f_iaload (e_dx DX12_showOther_2 6 rfl),
  f_icmp_ge (e_dx DX12_showOther_2 7 rfl) rfl,
  f_aload_n (n := 0) (e_dx DX12_showOther_2 8 rfl) rfl,
  f_getA (e_dx DX12_showOther_2 9 rfl) fX12_121 rfl (by decide) (Nat.le_of_ble_eq_true rfl) rfl (by decide),
  f_bipush (e_dx DX12_showOther_2 10 rfl) ⟨by decide, by decide⟩,
  f_iload_n (n := 3) (e_dx DX12_showOther_2 11 rfl) rfl,
  f_imul (e_dx DX12_showOther_2 12 rfl),
  f_iload (e_dx DX12_showOther_2 13 rfl),
  f_iadd (e_dx DX12_showOther_2 14 rfl),
  f_iaload (e_dx DX12_showOther_2 15 rfl),
  f_g33,
  f_istore (e_dx DX12_showOther_2 16 rfl) (by decide),
  f_aload_n (n := 0) (e_dx DX12_showOther_2 17 rfl) rfl,
  f_iload_n (n := 1) (e_dx DX12_showOther_2 18 rfl) rfl,
  f_iconst (e_dx DX12_showOther_2 19 rfl) ⟨by decide, by decide⟩,
  f_icmp_ne (e_dx DX12_showOther_2 20 rfl) rfl,
  f_bipush (e_dx DX12_showOther_2 21 rfl) ⟨by decide, by decide⟩,
  f_g19 (e_dx DX12_showOther_2 22 rfl) rfl,
  f_iconst (e_dx DX12_showOther_2 23 rfl) ⟨by decide, by decide⟩,
  trivial,
  f_iload (e_dx DX12_showOther_2 24 rfl),
  x_callV (e_dx DX12_showOther_2 25 rfl) mwX12_begin vwX12_begin cX12_947 rfl,
  f_iload_n (n := 1) (e_dx DX12_showOther_2 26 rfl) rfl,
  f_iconst (e_dx DX12_showOther_2 27 rfl) ⟨by decide, by decide⟩,
  f_icmp_ne (e_dx DX12_showOther_2 28 rfl) rfl,
  f_aload_n (n := 0) (e_dx DX12_showOther_2 29 rfl) rfl,
  f_aload_n (n := 0) (e_dx DX12_showOther_2 30 rfl) rfl,
  f_iload (e_dx DX12_showOther_2 31 rfl),
  f_iload_n (n := 2) (e_dx DX12_showOther_2 32 rfl) rfl,
  x_callV (e_dx DX12_showOther_2 33 rfl) mwX12_rankAt vwX12_rankAt cX12_566 rfl,
  f_iconst (e_dx DX12_showOther_2 34 rfl) ⟨by decide, by decide⟩,
  f_iadd (e_dx DX12_showOther_2 35 rfl),
  f_g14 (e_dx DX12_showOther_2 36 rfl),
  x_callV (e_dx DX12_showOther_2 37 rfl) mwX12_moreNumber vwX12_moreNumber cX12_938 rfl,
  trivial,
  f_aload_n (n := 0) (e_dx DX12_showOther_2 38 rfl) rfl,
  f_bipush (e_dx DX12_showOther_2 39 rfl) ⟨by decide, by decide⟩,
  x_callV (e_dx DX12_showOther_3 0 rfl) mwX12_write vwX12_write cX12_916 rfl,
  f_g8 (e_dx DX12_showOther_3 1 rfl) ⟨by decide, by decide⟩,
  f_g19 (e_dx DX12_showOther_3 2 rfl) rfl,
  ⟨(e_dx DX12_showOther_3 3 rfl), rfl⟩, trivial⟩
def lX12_showOther (c_X12_id : Int → Int → e_M → (Int → Prop) → Prop) (c_X12_lineOf : Int → Int → e_M → (e_M → Prop) → Prop) (c_X12_write : Int → e_M → (e_M → Prop) → Prop) (c_X12_writeWord : Int → e_M → (e_M → Prop) → Prop) (c_X12_more : Int → e_M → (e_M → Prop) → Prop) (c_X12_moreNumber : Int → e_M → (e_M → Prop) → Prop) (c_X12_moreDay : Int → e_M → (e_M → Prop) → Prop) (c_X12_begin : Int → Int → e_M → (e_M → Prop) → Prop) (c_X12_rankAt : Int → Int → e_M → (Int → Prop) → Prop) : List (Nat × f_Wt) := [(0, f_wm [(1, 0, 0), (1, 0, 0)] (fun ar M R => c_X12_id (f_vi (f_nth ar 0)) (f_vi (f_nth ar 1)) M (fun r => R (some (.inl r)) M))), (1, f_wm [(4466, 12, 123), (1, 0, 0), (1, 0, 0)] (fun ar M R => c_X12_lineOf (f_vi (f_nth ar 1)) (f_vi (f_nth ar 2)) M (fun M => R none M))), (2, f_wm [(4466, 12, 123), (1, 0, 0)] (fun ar M R => c_X12_write (f_vi (f_nth ar 1)) M (fun M => R none M))), (3, f_wm [(4466, 12, 123), (1, 0, 0)] (fun ar M R => c_X12_writeWord (f_vi (f_nth ar 1)) M (fun M => R none M))), (4, f_wm [(4466, 12, 123), (1, 0, 0)] (fun ar M R => c_X12_more (f_vi (f_nth ar 1)) M (fun M => R none M))), (5, f_wm [(4466, 12, 123), (2, 0, 0)] (fun ar M R => c_X12_moreNumber (f_vi (f_nth ar 1)) M (fun M => R none M))), (6, f_wm [(4466, 12, 123), (1, 0, 0)] (fun ar M R => c_X12_moreDay (f_vi (f_nth ar 1)) M (fun M => R none M))), (7, f_wm [(4466, 12, 123), (1, 0, 0), (1, 0, 0)] (fun ar M R => c_X12_begin (f_vi (f_nth ar 1)) (f_vi (f_nth ar 2)) M (fun M => R none M))), (8, f_wm [(4466, 12, 123), (1, 0, 0), (1, 0, 0)] (fun ar M R => c_X12_rankAt (f_vi (f_nth ar 1)) (f_vi (f_nth ar 2)) M (fun r => R (some (.inl r)) M)))]
set_option maxRecDepth 20000 in
theorem BX12_showOther_53 {sh : Nat → Nat × Nat} {t : Nat} {rm : Nat × Nat × Nat} {cs : Nat × Nat} {R : f_Rt} {c_X12_id : Int → Int → e_M → (Int → Prop) → Prop} {c_X12_lineOf : Int → Int → e_M → (e_M → Prop) → Prop} {c_X12_write : Int → e_M → (e_M → Prop) → Prop} {c_X12_writeWord : Int → e_M → (e_M → Prop) → Prop} {c_X12_more : Int → e_M → (e_M → Prop) → Prop} {c_X12_moreNumber : Int → e_M → (e_M → Prop) → Prop} {c_X12_moreDay : Int → e_M → (e_M → Prop) → Prop} {c_X12_begin : Int → Int → e_M → (e_M → Prop) → Prop} {c_X12_rankAt : Int → Int → e_M → (Int → Prop) → Prop} {k63 : Int → Int → Int → e_M → Prop} {k74 : Int → Int → Int → e_M → Prop} {x1 : Int} {x2 : Int} {x3 : Int} {M : e_M} (C : f_Hy sh t yX12_showOther rm cs 9 (lX12_showOther c_X12_id c_X12_lineOf c_X12_write c_X12_writeWord c_X12_more c_X12_moreNumber c_X12_moreDay c_X12_begin c_X12_rankAt) R) (h63 : ∀ (x1 : Int) (x2 : Int) (x3 : Int) (M : e_M), k63 x1 x2 x3 M → f_E sh t YX12_showOther rm cs (f_Q sh t R) 63 [.inr (.inr (.inl (12, 123, 4456))), .inl x1, .inl x2, .inl x3, .inr (.inr (.inr ())), .inr (.inr (.inr ()))] [] M) (h74 : ∀ (x1 : Int) (x2 : Int) (x3 : Int) (M : e_M), k74 x1 x2 x3 M → f_E sh t YX12_showOther rm cs (f_Q sh t R) 74 [.inr (.inr (.inl (12, 123, 4456))), .inl x1, .inl x2, .inl x3, .inr (.inr (.inr ())), .inr (.inr (.inr ()))] [] M) (h : VX12_showOther_53 c_X12_id c_X12_lineOf c_X12_write c_X12_writeWord c_X12_more c_X12_moreNumber c_X12_moreDay c_X12_begin c_X12_rankAt k63 k74 (fun M => R none M) x1 x2 x3 M) : f_E sh t YX12_showOther rm cs (f_Q sh t R) 53 [.inr (.inr (.inl (12, 123, 4456))), .inl x1, .inl x2, .inl x3, .inr (.inr (.inr ())), .inr (.inr (.inr ()))] [] M :=
  f_go (KC := f_kc [(63, f_pl [(4466, 12, 123), (1, 0, 0), (1, 0, 0), (1, 0, 0), (0, 0, 0), (0, 0, 0)] [] (fun ls st M => k63 (f_vi (f_nth ls 1)) (f_vi (f_nth ls 2)) (f_vi (f_nth ls 3)) M)), (74, f_pl [(4466, 12, 123), (1, 0, 0), (1, 0, 0), (1, 0, 0), (0, 0, 0), (0, 0, 0)] [] (fun ls st M => k74 (f_vi (f_nth ls 1)) (f_vi (f_nth ls 2)) (f_vi (f_nth ls 3)) M))]) C qX12_showOtherf (f_kc_cons (f_pl_ok rfl (fun ls st M h => h63 _ _ _ M h)) (f_kc_cons (f_pl_ok rfl (fun ls st M h => h74 _ _ _ M h)) f_kc_nil)) 135 32 h
set_option maxRecDepth 20000 in
theorem BX12_showOther_63 {sh : Nat → Nat × Nat} {t : Nat} {rm : Nat × Nat × Nat} {cs : Nat × Nat} {R : f_Rt} {c_X12_id : Int → Int → e_M → (Int → Prop) → Prop} {c_X12_lineOf : Int → Int → e_M → (e_M → Prop) → Prop} {c_X12_write : Int → e_M → (e_M → Prop) → Prop} {c_X12_writeWord : Int → e_M → (e_M → Prop) → Prop} {c_X12_more : Int → e_M → (e_M → Prop) → Prop} {c_X12_moreNumber : Int → e_M → (e_M → Prop) → Prop} {c_X12_moreDay : Int → e_M → (e_M → Prop) → Prop} {c_X12_begin : Int → Int → e_M → (e_M → Prop) → Prop} {c_X12_rankAt : Int → Int → e_M → (Int → Prop) → Prop} {k74 : Int → Int → Int → e_M → Prop} {x1 : Int} {x2 : Int} {x3 : Int} {M : e_M} (C : f_Hy sh t yX12_showOther rm cs 9 (lX12_showOther c_X12_id c_X12_lineOf c_X12_write c_X12_writeWord c_X12_more c_X12_moreNumber c_X12_moreDay c_X12_begin c_X12_rankAt) R) (h74 : ∀ (x1 : Int) (x2 : Int) (x3 : Int) (M : e_M), k74 x1 x2 x3 M → f_E sh t YX12_showOther rm cs (f_Q sh t R) 74 [.inr (.inr (.inl (12, 123, 4456))), .inl x1, .inl x2, .inl x3, .inr (.inr (.inr ())), .inr (.inr (.inr ()))] [] M) (h : VX12_showOther_63 c_X12_id c_X12_lineOf c_X12_write c_X12_writeWord c_X12_more c_X12_moreNumber c_X12_moreDay c_X12_begin c_X12_rankAt k74 (fun M => R none M) x1 x2 x3 M) : f_E sh t YX12_showOther rm cs (f_Q sh t R) 63 [.inr (.inr (.inl (12, 123, 4456))), .inl x1, .inl x2, .inl x3, .inr (.inr (.inr ())), .inr (.inr (.inr ()))] [] M :=
  f_go (KC := f_kc [(74, f_pl [(4466, 12, 123), (1, 0, 0), (1, 0, 0), (1, 0, 0), (0, 0, 0), (0, 0, 0)] [] (fun ls st M => k74 (f_vi (f_nth ls 1)) (f_vi (f_nth ls 2)) (f_vi (f_nth ls 3)) M))]) C qX12_showOtherf (f_kc_cons (f_pl_ok rfl (fun ls st M h => h74 _ _ _ M h)) f_kc_nil) 135 39 h
set_option maxRecDepth 20000 in
theorem BX12_showOther_74 {sh : Nat → Nat × Nat} {t : Nat} {rm : Nat × Nat × Nat} {cs : Nat × Nat} {R : f_Rt} {c_X12_id : Int → Int → e_M → (Int → Prop) → Prop} {c_X12_lineOf : Int → Int → e_M → (e_M → Prop) → Prop} {c_X12_write : Int → e_M → (e_M → Prop) → Prop} {c_X12_writeWord : Int → e_M → (e_M → Prop) → Prop} {c_X12_more : Int → e_M → (e_M → Prop) → Prop} {c_X12_moreNumber : Int → e_M → (e_M → Prop) → Prop} {c_X12_moreDay : Int → e_M → (e_M → Prop) → Prop} {c_X12_begin : Int → Int → e_M → (e_M → Prop) → Prop} {c_X12_rankAt : Int → Int → e_M → (Int → Prop) → Prop} {k89 : Int → Int → Int → e_M → Prop} {x1 : Int} {x2 : Int} {x3 : Int} {M : e_M} (C : f_Hy sh t yX12_showOther rm cs 9 (lX12_showOther c_X12_id c_X12_lineOf c_X12_write c_X12_writeWord c_X12_more c_X12_moreNumber c_X12_moreDay c_X12_begin c_X12_rankAt) R) (h89 : ∀ (x1 : Int) (x2 : Int) (x3 : Int) (M : e_M), k89 x1 x2 x3 M → f_E sh t YX12_showOther rm cs (f_Q sh t R) 89 [.inr (.inr (.inl (12, 123, 4456))), .inl x1, .inl x2, .inl x3, .inr (.inr (.inr ())), .inr (.inr (.inr ()))] [] M) (h : VX12_showOther_74 c_X12_id c_X12_lineOf c_X12_write c_X12_writeWord c_X12_more c_X12_moreNumber c_X12_moreDay c_X12_begin c_X12_rankAt k89 (fun M => R none M) x1 x2 x3 M) : f_E sh t YX12_showOther rm cs (f_Q sh t R) 74 [.inr (.inr (.inl (12, 123, 4456))), .inl x1, .inl x2, .inl x3, .inr (.inr (.inr ())), .inr (.inr (.inr ()))] [] M :=
  f_go (KC := f_kc [(89, f_pl [(4466, 12, 123), (1, 0, 0), (1, 0, 0), (1, 0, 0), (0, 0, 0), (0, 0, 0)] [] (fun ls st M => k89 (f_vi (f_nth ls 1)) (f_vi (f_nth ls 2)) (f_vi (f_nth ls 3)) M))]) C qX12_showOtherf (f_kc_cons (f_pl_ok rfl (fun ls st M h => h89 _ _ _ M h)) f_kc_nil) 135 47 h
set_option maxRecDepth 20000 in
theorem BX12_showOther_89 {sh : Nat → Nat × Nat} {t : Nat} {rm : Nat × Nat × Nat} {cs : Nat × Nat} {R : f_Rt} {c_X12_id : Int → Int → e_M → (Int → Prop) → Prop} {c_X12_lineOf : Int → Int → e_M → (e_M → Prop) → Prop} {c_X12_write : Int → e_M → (e_M → Prop) → Prop} {c_X12_writeWord : Int → e_M → (e_M → Prop) → Prop} {c_X12_more : Int → e_M → (e_M → Prop) → Prop} {c_X12_moreNumber : Int → e_M → (e_M → Prop) → Prop} {c_X12_moreDay : Int → e_M → (e_M → Prop) → Prop} {c_X12_begin : Int → Int → e_M → (e_M → Prop) → Prop} {c_X12_rankAt : Int → Int → e_M → (Int → Prop) → Prop} {k98 : Int → Int → Int → Int → e_M → Prop} {x1 : Int} {x2 : Int} {x3 : Int} {M : e_M} (C : f_Hy sh t yX12_showOther rm cs 9 (lX12_showOther c_X12_id c_X12_lineOf c_X12_write c_X12_writeWord c_X12_more c_X12_moreNumber c_X12_moreDay c_X12_begin c_X12_rankAt) R) (h98 : ∀ (x1 : Int) (x2 : Int) (x3 : Int) (x4 : Int) (M : e_M), k98 x1 x2 x3 x4 M → f_E sh t YX12_showOther rm cs (f_Q sh t R) 98 [.inr (.inr (.inl (12, 123, 4456))), .inl x1, .inl x2, .inl x3, .inl x4, .inr (.inr (.inr ()))] [] M) (h : VX12_showOther_89 c_X12_id c_X12_lineOf c_X12_write c_X12_writeWord c_X12_more c_X12_moreNumber c_X12_moreDay c_X12_begin c_X12_rankAt k98 (fun M => R none M) x1 x2 x3 M) : f_E sh t YX12_showOther rm cs (f_Q sh t R) 89 [.inr (.inr (.inl (12, 123, 4456))), .inl x1, .inl x2, .inl x3, .inr (.inr (.inr ())), .inr (.inr (.inr ()))] [] M :=
  f_go (KC := f_kc [(98, f_pl [(4466, 12, 123), (1, 0, 0), (1, 0, 0), (1, 0, 0), (1, 0, 0), (0, 0, 0)] [] (fun ls st M => k98 (f_vi (f_nth ls 1)) (f_vi (f_nth ls 2)) (f_vi (f_nth ls 3)) (f_vi (f_nth ls 4)) M))]) C qX12_showOtherf (f_kc_cons (f_pl_ok rfl (fun ls st M h => h98 _ _ _ _ M h)) f_kc_nil) 135 57 h
set_option maxRecDepth 20000 in
theorem BX12_showOther_98 {sh : Nat → Nat × Nat} {t : Nat} {rm : Nat × Nat × Nat} {cs : Nat × Nat} {R : f_Rt} {c_X12_id : Int → Int → e_M → (Int → Prop) → Prop} {c_X12_lineOf : Int → Int → e_M → (e_M → Prop) → Prop} {c_X12_write : Int → e_M → (e_M → Prop) → Prop} {c_X12_writeWord : Int → e_M → (e_M → Prop) → Prop} {c_X12_more : Int → e_M → (e_M → Prop) → Prop} {c_X12_moreNumber : Int → e_M → (e_M → Prop) → Prop} {c_X12_moreDay : Int → e_M → (e_M → Prop) → Prop} {c_X12_begin : Int → Int → e_M → (e_M → Prop) → Prop} {c_X12_rankAt : Int → Int → e_M → (Int → Prop) → Prop} {k142 : Int → Int → Int → Int → e_M → Prop} {k98 : Int → Int → Int → Int → e_M → Prop} {x1 : Int} {x2 : Int} {x3 : Int} {x4 : Int} {M : e_M} (C : f_Hy sh t yX12_showOther rm cs 9 (lX12_showOther c_X12_id c_X12_lineOf c_X12_write c_X12_writeWord c_X12_more c_X12_moreNumber c_X12_moreDay c_X12_begin c_X12_rankAt) R) (h142 : ∀ (x1 : Int) (x2 : Int) (x3 : Int) (x4 : Int) (M : e_M), k142 x1 x2 x3 x4 M → f_E sh t YX12_showOther rm cs (f_Q sh t R) 142 [.inr (.inr (.inl (12, 123, 4456))), .inl x1, .inl x2, .inl x3, .inl x4, .inr (.inr (.inr ()))] [] M) (h98 : ∀ (x1 : Int) (x2 : Int) (x3 : Int) (x4 : Int) (M : e_M), k98 x1 x2 x3 x4 M → f_E sh t YX12_showOther rm cs (f_Q sh t R) 98 [.inr (.inr (.inl (12, 123, 4456))), .inl x1, .inl x2, .inl x3, .inl x4, .inr (.inr (.inr ()))] [] M) (h : VX12_showOther_98 c_X12_id c_X12_lineOf c_X12_write c_X12_writeWord c_X12_more c_X12_moreNumber c_X12_moreDay c_X12_begin c_X12_rankAt k142 k98 (fun M => R none M) x1 x2 x3 x4 M) : f_E sh t YX12_showOther rm cs (f_Q sh t R) 98 [.inr (.inr (.inl (12, 123, 4456))), .inl x1, .inl x2, .inl x3, .inl x4, .inr (.inr (.inr ()))] [] M :=
  f_go (KC := f_kc [(142, f_pl [(4466, 12, 123), (1, 0, 0), (1, 0, 0), (1, 0, 0), (1, 0, 0), (0, 0, 0)] [] (fun ls st M => k142 (f_vi (f_nth ls 1)) (f_vi (f_nth ls 2)) (f_vi (f_nth ls 3)) (f_vi (f_nth ls 4)) M)), (98, f_pl [(4466, 12, 123), (1, 0, 0), (1, 0, 0), (1, 0, 0), (1, 0, 0), (0, 0, 0)] [] (fun ls st M => k98 (f_vi (f_nth ls 1)) (f_vi (f_nth ls 2)) (f_vi (f_nth ls 3)) (f_vi (f_nth ls 4)) M))]) C qX12_showOtherf (f_kc_cons (f_pl_ok rfl (fun ls st M h => h142 _ _ _ _ M h)) (f_kc_cons (f_pl_ok rfl (fun ls st M h => h98 _ _ _ _ M h)) f_kc_nil)) 135 63 h
set_option maxRecDepth 20000 in
theorem BX12_showOther_142 {sh : Nat → Nat × Nat} {t : Nat} {rm : Nat × Nat × Nat} {cs : Nat × Nat} {R : f_Rt} {c_X12_id : Int → Int → e_M → (Int → Prop) → Prop} {c_X12_lineOf : Int → Int → e_M → (e_M → Prop) → Prop} {c_X12_write : Int → e_M → (e_M → Prop) → Prop} {c_X12_writeWord : Int → e_M → (e_M → Prop) → Prop} {c_X12_more : Int → e_M → (e_M → Prop) → Prop} {c_X12_moreNumber : Int → e_M → (e_M → Prop) → Prop} {c_X12_moreDay : Int → e_M → (e_M → Prop) → Prop} {c_X12_begin : Int → Int → e_M → (e_M → Prop) → Prop} {c_X12_rankAt : Int → Int → e_M → (Int → Prop) → Prop} {k179 : Int → Int → Int → Int → Int → Int → e_M → Prop} {x1 : Int} {x2 : Int} {x3 : Int} {x4 : Int} {M : e_M} (C : f_Hy sh t yX12_showOther rm cs 9 (lX12_showOther c_X12_id c_X12_lineOf c_X12_write c_X12_writeWord c_X12_more c_X12_moreNumber c_X12_moreDay c_X12_begin c_X12_rankAt) R) (h179 : ∀ (x1 : Int) (x2 : Int) (x3 : Int) (x4 : Int) (x5 : Int) (xs1 : Int) (M : e_M), k179 x1 x2 x3 x4 x5 xs1 M → f_E sh t YX12_showOther rm cs (f_Q sh t R) 179 [.inr (.inr (.inl (12, 123, 4456))), .inl x1, .inl x2, .inl x3, .inl x4, .inl x5] [.inl xs1, .inr (.inr (.inl (12, 123, 4456)))] M) (h : VX12_showOther_142 c_X12_id c_X12_lineOf c_X12_write c_X12_writeWord c_X12_more c_X12_moreNumber c_X12_moreDay c_X12_begin c_X12_rankAt k179 (fun M => R none M) x1 x2 x3 x4 M) : f_E sh t YX12_showOther rm cs (f_Q sh t R) 142 [.inr (.inr (.inl (12, 123, 4456))), .inl x1, .inl x2, .inl x3, .inl x4, .inr (.inr (.inr ()))] [] M :=
  f_go (KC := f_kc [(179, f_pl [(4466, 12, 123), (1, 0, 0), (1, 0, 0), (1, 0, 0), (1, 0, 0), (1, 0, 0)] [(1, 0, 0), (4466, 12, 123)] (fun ls st M => k179 (f_vi (f_nth ls 1)) (f_vi (f_nth ls 2)) (f_vi (f_nth ls 3)) (f_vi (f_nth ls 4)) (f_vi (f_nth ls 5)) (f_vi (f_nth st 0)) M))]) C qX12_showOtherf (f_kc_cons (f_pl_ok rfl (fun ls st M h => h179 _ _ _ _ _ _ M h)) f_kc_nil) 135 88 h
set_option maxRecDepth 20000 in
theorem BX12_showOther_179 {sh : Nat → Nat × Nat} {t : Nat} {rm : Nat × Nat × Nat} {cs : Nat × Nat} {R : f_Rt} {c_X12_id : Int → Int → e_M → (Int → Prop) → Prop} {c_X12_lineOf : Int → Int → e_M → (e_M → Prop) → Prop} {c_X12_write : Int → e_M → (e_M → Prop) → Prop} {c_X12_writeWord : Int → e_M → (e_M → Prop) → Prop} {c_X12_more : Int → e_M → (e_M → Prop) → Prop} {c_X12_moreNumber : Int → e_M → (e_M → Prop) → Prop} {c_X12_moreDay : Int → e_M → (e_M → Prop) → Prop} {c_X12_begin : Int → Int → e_M → (e_M → Prop) → Prop} {c_X12_rankAt : Int → Int → e_M → (Int → Prop) → Prop} {k203 : Int → Int → Int → Int → e_M → Prop} {x1 : Int} {x2 : Int} {x3 : Int} {x4 : Int} {x5 : Int} {xs1 : Int} {M : e_M} (C : f_Hy sh t yX12_showOther rm cs 9 (lX12_showOther c_X12_id c_X12_lineOf c_X12_write c_X12_writeWord c_X12_more c_X12_moreNumber c_X12_moreDay c_X12_begin c_X12_rankAt) R) (h203 : ∀ (x1 : Int) (x2 : Int) (x3 : Int) (x4 : Int) (M : e_M), k203 x1 x2 x3 x4 M → f_E sh t YX12_showOther rm cs (f_Q sh t R) 203 [.inr (.inr (.inl (12, 123, 4456))), .inl x1, .inl x2, .inl x3, .inl x4, .inr (.inr (.inr ()))] [] M) (h : VX12_showOther_179 c_X12_id c_X12_lineOf c_X12_write c_X12_writeWord c_X12_more c_X12_moreNumber c_X12_moreDay c_X12_begin c_X12_rankAt k203 (fun M => R none M) x1 x2 x3 x4 x5 xs1 M) : f_E sh t YX12_showOther rm cs (f_Q sh t R) 179 [.inr (.inr (.inl (12, 123, 4456))), .inl x1, .inl x2, .inl x3, .inl x4, .inl x5] [.inl xs1, .inr (.inr (.inl (12, 123, 4456)))] M :=
  f_go (KC := f_kc [(203, f_pl [(4466, 12, 123), (1, 0, 0), (1, 0, 0), (1, 0, 0), (1, 0, 0), (0, 0, 0)] [] (fun ls st M => k203 (f_vi (f_nth ls 1)) (f_vi (f_nth ls 2)) (f_vi (f_nth ls 3)) (f_vi (f_nth ls 4)) M))]) C qX12_showOtherf (f_kc_cons (f_pl_ok rfl (fun ls st M h => h203 _ _ _ _ M h)) f_kc_nil) 135 112 h
set_option maxRecDepth 20000 in
theorem BX12_showOther_203 {sh : Nat → Nat × Nat} {t : Nat} {rm : Nat × Nat × Nat} {cs : Nat × Nat} {R : f_Rt} {c_X12_id : Int → Int → e_M → (Int → Prop) → Prop} {c_X12_lineOf : Int → Int → e_M → (e_M → Prop) → Prop} {c_X12_write : Int → e_M → (e_M → Prop) → Prop} {c_X12_writeWord : Int → e_M → (e_M → Prop) → Prop} {c_X12_more : Int → e_M → (e_M → Prop) → Prop} {c_X12_moreNumber : Int → e_M → (e_M → Prop) → Prop} {c_X12_moreDay : Int → e_M → (e_M → Prop) → Prop} {c_X12_begin : Int → Int → e_M → (e_M → Prop) → Prop} {c_X12_rankAt : Int → Int → e_M → (Int → Prop) → Prop} {k142 : Int → Int → Int → Int → e_M → Prop} {x1 : Int} {x2 : Int} {x3 : Int} {x4 : Int} {M : e_M} (C : f_Hy sh t yX12_showOther rm cs 9 (lX12_showOther c_X12_id c_X12_lineOf c_X12_write c_X12_writeWord c_X12_more c_X12_moreNumber c_X12_moreDay c_X12_begin c_X12_rankAt) R) (h142 : ∀ (x1 : Int) (x2 : Int) (x3 : Int) (x4 : Int) (M : e_M), k142 x1 x2 x3 x4 M → f_E sh t YX12_showOther rm cs (f_Q sh t R) 142 [.inr (.inr (.inl (12, 123, 4456))), .inl x1, .inl x2, .inl x3, .inl x4, .inr (.inr (.inr ()))] [] M) (h : VX12_showOther_203 c_X12_id c_X12_lineOf c_X12_write c_X12_writeWord c_X12_more c_X12_moreNumber c_X12_moreDay c_X12_begin c_X12_rankAt k142 (fun M => R none M) x1 x2 x3 x4 M) : f_E sh t YX12_showOther rm cs (f_Q sh t R) 203 [.inr (.inr (.inl (12, 123, 4456))), .inl x1, .inl x2, .inl x3, .inl x4, .inr (.inr (.inr ()))] [] M :=
  f_go (KC := f_kc [(142, f_pl [(4466, 12, 123), (1, 0, 0), (1, 0, 0), (1, 0, 0), (1, 0, 0), (0, 0, 0)] [] (fun ls st M => k142 (f_vi (f_nth ls 1)) (f_vi (f_nth ls 2)) (f_vi (f_nth ls 3)) (f_vi (f_nth ls 4)) M))]) C qX12_showOtherf (f_kc_cons (f_pl_ok rfl (fun ls st M h => h142 _ _ _ _ M h)) f_kc_nil) 135 127 h
set_option maxRecDepth 20000 in
theorem BX12_showOther {sh : Nat → Nat × Nat} {t : Nat} {rm : Nat × Nat × Nat} {cs : Nat × Nat} {R : f_Rt} {c_X12_id : Int → Int → e_M → (Int → Prop) → Prop} {c_X12_lineOf : Int → Int → e_M → (e_M → Prop) → Prop} {c_X12_write : Int → e_M → (e_M → Prop) → Prop} {c_X12_writeWord : Int → e_M → (e_M → Prop) → Prop} {c_X12_more : Int → e_M → (e_M → Prop) → Prop} {c_X12_moreNumber : Int → e_M → (e_M → Prop) → Prop} {c_X12_moreDay : Int → e_M → (e_M → Prop) → Prop} {c_X12_begin : Int → Int → e_M → (e_M → Prop) → Prop} {c_X12_rankAt : Int → Int → e_M → (Int → Prop) → Prop} {k53 : Int → Int → Int → e_M → Prop} {x1 : Int} {x2 : Int} {M : e_M} (C : f_Hy sh t yX12_showOther rm cs 9 (lX12_showOther c_X12_id c_X12_lineOf c_X12_write c_X12_writeWord c_X12_more c_X12_moreNumber c_X12_moreDay c_X12_begin c_X12_rankAt) R) (h53 : ∀ (x1 : Int) (x2 : Int) (x3 : Int) (M : e_M), k53 x1 x2 x3 M → f_E sh t YX12_showOther rm cs (f_Q sh t R) 53 [.inr (.inr (.inl (12, 123, 4456))), .inl x1, .inl x2, .inl x3, .inr (.inr (.inr ())), .inr (.inr (.inr ()))] [] M) (h : VX12_showOther c_X12_id c_X12_lineOf c_X12_write c_X12_writeWord c_X12_more c_X12_moreNumber c_X12_moreDay c_X12_begin c_X12_rankAt k53 (fun M => R none M) x1 x2 M) : f_E sh t YX12_showOther rm cs (f_Q sh t R) 0 [.inr (.inr (.inl (12, 123, 4456))), .inl x1, .inl x2, .inr (.inr (.inr ())), .inr (.inr (.inr ())), .inr (.inr (.inr ()))] [] M :=
  f_go (KC := f_kc [(53, f_pl [(4466, 12, 123), (1, 0, 0), (1, 0, 0), (1, 0, 0), (0, 0, 0), (0, 0, 0)] [] (fun ls st M => k53 (f_vi (f_nth ls 1)) (f_vi (f_nth ls 2)) (f_vi (f_nth ls 3)) M))]) C qX12_showOtherf (f_kc_cons (f_pl_ok rfl (fun ls st M h => h53 _ _ _ M h)) f_kc_nil) 135 0 h
def WX12_showOther_203 (H142 : Int → Int → Int → Int → e_M → Prop) (Q : e_M → Prop) (x1 : Int) (x2 : Int) (x3 : Int) (x4 : Int) (M : e_M) : Prop :=
  VX12_showOther_203 WX12_id WX12_lineOf WX12_write WX12_writeWord WX12_more WX12_moreNumber WX12_moreDay WX12_begin WX12_rankAt H142 Q x1 x2 x3 x4 M
def WX12_showOther_179 (H142 : Int → Int → Int → Int → e_M → Prop) (Q : e_M → Prop) (x1 : Int) (x2 : Int) (x3 : Int) (x4 : Int) (x5 : Int) (xs1 : Int) (M : e_M) : Prop :=
  VX12_showOther_179 WX12_id WX12_lineOf WX12_write WX12_writeWord WX12_more WX12_moreNumber WX12_moreDay WX12_begin WX12_rankAt (WX12_showOther_203 H142 Q) Q x1 x2 x3 x4 x5 xs1 M
def WX12_showOther_142 (Q : e_M → Prop) : Nat → Int → Int → Int → Int → e_M → Prop
  | 0, _, _, _, _, _ => False
  | n + 1, x1, x2, x3, x4, M =>
    VX12_showOther_142 WX12_id WX12_lineOf WX12_write WX12_writeWord WX12_more WX12_moreNumber WX12_moreDay WX12_begin WX12_rankAt (WX12_showOther_179 (WX12_showOther_142 Q n) Q) Q x1 x2 x3 x4 M
def WX12_showOther_98 (Q : e_M → Prop) : Nat → Int → Int → Int → Int → e_M → Prop
  | 0, _, _, _, _, _ => False
  | n + 1, x1, x2, x3, x4, M =>
    VX12_showOther_98 WX12_id WX12_lineOf WX12_write WX12_writeWord WX12_more WX12_moreNumber WX12_moreDay WX12_begin WX12_rankAt (fun x1 x2 x3 x4 M => ∃ j, WX12_showOther_142 Q j x1 x2 x3 x4 M) (WX12_showOther_98 Q n) Q x1 x2 x3 x4 M
def WX12_showOther_89 (Q : e_M → Prop) (x1 : Int) (x2 : Int) (x3 : Int) (M : e_M) : Prop :=
  VX12_showOther_89 WX12_id WX12_lineOf WX12_write WX12_writeWord WX12_more WX12_moreNumber WX12_moreDay WX12_begin WX12_rankAt (fun x1 x2 x3 x4 M => ∃ j, WX12_showOther_98 Q j x1 x2 x3 x4 M) Q x1 x2 x3 M
def WX12_showOther_74 (Q : e_M → Prop) (x1 : Int) (x2 : Int) (x3 : Int) (M : e_M) : Prop :=
  VX12_showOther_74 WX12_id WX12_lineOf WX12_write WX12_writeWord WX12_more WX12_moreNumber WX12_moreDay WX12_begin WX12_rankAt (WX12_showOther_89 Q) Q x1 x2 x3 M
def WX12_showOther_63 (Q : e_M → Prop) (x1 : Int) (x2 : Int) (x3 : Int) (M : e_M) : Prop :=
  VX12_showOther_63 WX12_id WX12_lineOf WX12_write WX12_writeWord WX12_more WX12_moreNumber WX12_moreDay WX12_begin WX12_rankAt (WX12_showOther_74 Q) Q x1 x2 x3 M
def WX12_showOther_53 (Q : e_M → Prop) (x1 : Int) (x2 : Int) (x3 : Int) (M : e_M) : Prop :=
  VX12_showOther_53 WX12_id WX12_lineOf WX12_write WX12_writeWord WX12_more WX12_moreNumber WX12_moreDay WX12_begin WX12_rankAt (WX12_showOther_63 Q) (WX12_showOther_74 Q) Q x1 x2 x3 M
def WX12_showOther (x1 : Int) (x2 : Int) (M : e_M) (Q : e_M → Prop) : Prop :=
  VX12_showOther WX12_id WX12_lineOf WX12_write WX12_writeWord WX12_more WX12_moreNumber WX12_moreDay WX12_begin WX12_rankAt (WX12_showOther_53 Q) Q x1 x2 M
theorem PX12_showOther_203 {sh : Nat → Nat × Nat} {t : Nat} {rm : Nat × Nat × Nat} {cs : Nat × Nat} {R : f_Rt} {H142 : Int → Int → Int → Int → e_M → Prop} {x1 : Int} {x2 : Int} {x3 : Int} {x4 : Int} {M : e_M} (C : f_Hy sh t yX12_showOther rm cs 9 (lX12_showOther WX12_id WX12_lineOf WX12_write WX12_writeWord WX12_more WX12_moreNumber WX12_moreDay WX12_begin WX12_rankAt) R) (g142 : ∀ (x1 : Int) (x2 : Int) (x3 : Int) (x4 : Int) (M : e_M), H142 x1 x2 x3 x4 M → f_E sh t YX12_showOther rm cs (f_Q sh t R) 142 [.inr (.inr (.inl (12, 123, 4456))), .inl x1, .inl x2, .inl x3, .inl x4, .inr (.inr (.inr ()))] [] M) (h : WX12_showOther_203 H142 (fun M => R none M) x1 x2 x3 x4 M) : f_E sh t YX12_showOther rm cs (f_Q sh t R) 203 [.inr (.inr (.inl (12, 123, 4456))), .inl x1, .inl x2, .inl x3, .inl x4, .inr (.inr (.inr ()))] [] M :=
  BX12_showOther_203 C g142 h
theorem PX12_showOther_179 {sh : Nat → Nat × Nat} {t : Nat} {rm : Nat × Nat × Nat} {cs : Nat × Nat} {R : f_Rt} {H142 : Int → Int → Int → Int → e_M → Prop} {x1 : Int} {x2 : Int} {x3 : Int} {x4 : Int} {x5 : Int} {xs1 : Int} {M : e_M} (C : f_Hy sh t yX12_showOther rm cs 9 (lX12_showOther WX12_id WX12_lineOf WX12_write WX12_writeWord WX12_more WX12_moreNumber WX12_moreDay WX12_begin WX12_rankAt) R) (g142 : ∀ (x1 : Int) (x2 : Int) (x3 : Int) (x4 : Int) (M : e_M), H142 x1 x2 x3 x4 M → f_E sh t YX12_showOther rm cs (f_Q sh t R) 142 [.inr (.inr (.inl (12, 123, 4456))), .inl x1, .inl x2, .inl x3, .inl x4, .inr (.inr (.inr ()))] [] M) (h : WX12_showOther_179 H142 (fun M => R none M) x1 x2 x3 x4 x5 xs1 M) : f_E sh t YX12_showOther rm cs (f_Q sh t R) 179 [.inr (.inr (.inl (12, 123, 4456))), .inl x1, .inl x2, .inl x3, .inl x4, .inl x5] [.inl xs1, .inr (.inr (.inl (12, 123, 4456)))] M :=
  BX12_showOther_179 C (fun x1 x2 x3 x4 M h => PX12_showOther_203 C g142 h) h
theorem PX12_showOther_142 {sh : Nat → Nat × Nat} {t : Nat} {rm : Nat × Nat × Nat} {cs : Nat × Nat} {R : f_Rt} (C : f_Hy sh t yX12_showOther rm cs 9 (lX12_showOther WX12_id WX12_lineOf WX12_write WX12_writeWord WX12_more WX12_moreNumber WX12_moreDay WX12_begin WX12_rankAt) R) : ∀ (n : Nat) (x1 : Int) (x2 : Int) (x3 : Int) (x4 : Int) (M : e_M), WX12_showOther_142 (fun M => R none M) n x1 x2 x3 x4 M → f_E sh t YX12_showOther rm cs (f_Q sh t R) 142 [.inr (.inr (.inl (12, 123, 4456))), .inl x1, .inl x2, .inl x3, .inl x4, .inr (.inr (.inr ()))] [] M := by
  intro n
  induction n with
  | zero => intro x1 x2 x3 x4 M h; exact h.elim
  | succ n ih => intro x1 x2 x3 x4 M h; exact BX12_showOther_142 C (fun x1 x2 x3 x4 x5 xs1 M h => PX12_showOther_179 C ih h) h
theorem PX12_showOther_98 {sh : Nat → Nat × Nat} {t : Nat} {rm : Nat × Nat × Nat} {cs : Nat × Nat} {R : f_Rt} (C : f_Hy sh t yX12_showOther rm cs 9 (lX12_showOther WX12_id WX12_lineOf WX12_write WX12_writeWord WX12_more WX12_moreNumber WX12_moreDay WX12_begin WX12_rankAt) R) : ∀ (n : Nat) (x1 : Int) (x2 : Int) (x3 : Int) (x4 : Int) (M : e_M), WX12_showOther_98 (fun M => R none M) n x1 x2 x3 x4 M → f_E sh t YX12_showOther rm cs (f_Q sh t R) 98 [.inr (.inr (.inl (12, 123, 4456))), .inl x1, .inl x2, .inl x3, .inl x4, .inr (.inr (.inr ()))] [] M := by
  intro n
  induction n with
  | zero => intro x1 x2 x3 x4 M h; exact h.elim
  | succ n ih => intro x1 x2 x3 x4 M h; exact BX12_showOther_98 C (fun x1 x2 x3 x4 M ⟨j, h⟩ => PX12_showOther_142 C j _ _ _ _ _ h) ih h
theorem PX12_showOther_89 {sh : Nat → Nat × Nat} {t : Nat} {rm : Nat × Nat × Nat} {cs : Nat × Nat} {R : f_Rt} {x1 : Int} {x2 : Int} {x3 : Int} {M : e_M} (C : f_Hy sh t yX12_showOther rm cs 9 (lX12_showOther WX12_id WX12_lineOf WX12_write WX12_writeWord WX12_more WX12_moreNumber WX12_moreDay WX12_begin WX12_rankAt) R) (h : WX12_showOther_89 (fun M => R none M) x1 x2 x3 M) : f_E sh t YX12_showOther rm cs (f_Q sh t R) 89 [.inr (.inr (.inl (12, 123, 4456))), .inl x1, .inl x2, .inl x3, .inr (.inr (.inr ())), .inr (.inr (.inr ()))] [] M :=
  BX12_showOther_89 C (fun x1 x2 x3 x4 M ⟨j, h⟩ => PX12_showOther_98 C j _ _ _ _ _ h) h
theorem PX12_showOther_74 {sh : Nat → Nat × Nat} {t : Nat} {rm : Nat × Nat × Nat} {cs : Nat × Nat} {R : f_Rt} {x1 : Int} {x2 : Int} {x3 : Int} {M : e_M} (C : f_Hy sh t yX12_showOther rm cs 9 (lX12_showOther WX12_id WX12_lineOf WX12_write WX12_writeWord WX12_more WX12_moreNumber WX12_moreDay WX12_begin WX12_rankAt) R) (h : WX12_showOther_74 (fun M => R none M) x1 x2 x3 M) : f_E sh t YX12_showOther rm cs (f_Q sh t R) 74 [.inr (.inr (.inl (12, 123, 4456))), .inl x1, .inl x2, .inl x3, .inr (.inr (.inr ())), .inr (.inr (.inr ()))] [] M :=
  BX12_showOther_74 C (fun x1 x2 x3 M h => PX12_showOther_89 C h) h
theorem PX12_showOther_63 {sh : Nat → Nat × Nat} {t : Nat} {rm : Nat × Nat × Nat} {cs : Nat × Nat} {R : f_Rt} {x1 : Int} {x2 : Int} {x3 : Int} {M : e_M} (C : f_Hy sh t yX12_showOther rm cs 9 (lX12_showOther WX12_id WX12_lineOf WX12_write WX12_writeWord WX12_more WX12_moreNumber WX12_moreDay WX12_begin WX12_rankAt) R) (h : WX12_showOther_63 (fun M => R none M) x1 x2 x3 M) : f_E sh t YX12_showOther rm cs (f_Q sh t R) 63 [.inr (.inr (.inl (12, 123, 4456))), .inl x1, .inl x2, .inl x3, .inr (.inr (.inr ())), .inr (.inr (.inr ()))] [] M :=
  BX12_showOther_63 C (fun x1 x2 x3 M h => PX12_showOther_74 C h) h
theorem PX12_showOther_53 {sh : Nat → Nat × Nat} {t : Nat} {rm : Nat × Nat × Nat} {cs : Nat × Nat} {R : f_Rt} {x1 : Int} {x2 : Int} {x3 : Int} {M : e_M} (C : f_Hy sh t yX12_showOther rm cs 9 (lX12_showOther WX12_id WX12_lineOf WX12_write WX12_writeWord WX12_more WX12_moreNumber WX12_moreDay WX12_begin WX12_rankAt) R) (h : WX12_showOther_53 (fun M => R none M) x1 x2 x3 M) : f_E sh t YX12_showOther rm cs (f_Q sh t R) 53 [.inr (.inr (.inl (12, 123, 4456))), .inl x1, .inl x2, .inl x3, .inr (.inr (.inr ())), .inr (.inr (.inr ()))] [] M :=
  BX12_showOther_53 C (fun x1 x2 x3 M h => PX12_showOther_63 C h) (fun x1 x2 x3 M h => PX12_showOther_74 C h) h
theorem PX12_showOther {sh : Nat → Nat × Nat} {t : Nat} {rm : Nat × Nat × Nat} {cs : Nat × Nat} {R : f_Rt} {x1 : Int} {x2 : Int} {M : e_M} (C : f_Hy sh t yX12_showOther rm cs 9 (lX12_showOther WX12_id WX12_lineOf WX12_write WX12_writeWord WX12_more WX12_moreNumber WX12_moreDay WX12_begin WX12_rankAt) R) (h : WX12_showOther x1 x2 M (fun M => R none M)) : f_E sh t YX12_showOther rm cs (f_Q sh t R) 0 [.inr (.inr (.inl (12, 123, 4456))), .inl x1, .inl x2, .inr (.inr (.inr ())), .inr (.inr (.inr ())), .inr (.inr (.inr ()))] [] M :=
  BX12_showOther C (fun x1 x2 x3 M h => PX12_showOther_53 C h) h
def wX12_showOther : f_Wt := f_wm [(4466, 12, 123), (1, 0, 0), (1, 0, 0)] (fun ar M R => WX12_showOther (f_vi (f_nth ar 1)) (f_vi (f_nth ar 2)) M (fun M => R none M))
theorem TX12_showOther {sh : Nat → Nat × Nat} {t : Nat} : f_Mt sh t YX12_showOther 9 (wX12_showOther) :=
  f_Mt_of (k := 3) (Nat.le_of_ble_eq_true rfl) rfl rfl (fun ar M R rm cs h1 h2 h3 hX h => PX12_showOther ⟨Nat.le_of_ble_eq_true rfl, h1, h2, h3, ⟨(f_Mt.up (Nat.le_of_ble_eq_true rfl) TX12_id), (f_Mt.up (Nat.le_of_ble_eq_true rfl) TX12_lineOf), (f_Mt.up (Nat.le_of_ble_eq_true rfl) TX12_write), (f_Mt.up (Nat.le_of_ble_eq_true rfl) TX12_writeWord), (f_Mt.up (Nat.le_of_ble_eq_true rfl) TX12_more), (f_Mt.up (Nat.le_of_ble_eq_true rfl) TX12_moreNumber), (f_Mt.up (Nat.le_of_ble_eq_true rfl) TX12_moreDay), (f_Mt.up (Nat.le_of_ble_eq_true rfl) TX12_begin), (f_Mt.up (Nat.le_of_ble_eq_true rfl) TX12_rankAt), trivial⟩, hX⟩ h)
def VX12_show_25 (c_X12_whatIs : Int → e_M → (Int → Prop) → Prop) (c_X12_isHere : Int → Int → e_M → (Int → Prop) → Prop) (c_X12_lineOf : Int → Int → e_M → (e_M → Prop) → Prop) (c_X12_write : Int → e_M → (e_M → Prop) → Prop) (c_X12_showLot : Int → e_M → (e_M → Prop) → Prop) (c_X12_showPerson : Int → e_M → (e_M → Prop) → Prop) (c_X12_showOther : Int → Int → e_M → (e_M → Prop) → Prop) (Q : e_M → Prop) (x1 : Int) (xs1 : Int) (M : e_M) : Prop :=
  (∀ M1 : e_M, M1 = e_up M 4456 118 xs1 → ((0 ≤ x1 → (¬ (80 : Int) = 0 ∧ (¬ (80 : Int) = 0 ∧ (c_X12_isHere (e_w32 (x1.tdiv 80)) (x1.tmod 80) M1 (fun r2 => ((¬ r2 = 0 → ((¬ (e_w32 (x1.tdiv 80)) = 0 → ((¬ (e_w32 (x1.tdiv 80)) = 1 → (c_X12_showOther (e_w32 (x1.tdiv 80)) (x1.tmod 80) M1 (fun M3 => (Q M3)))) ∧ ((e_w32 (x1.tdiv 80)) = 1 → (c_X12_showPerson (x1.tmod 80) M1 (fun M4 => (Q M4)))))) ∧ ((e_w32 (x1.tdiv 80)) = 0 → (c_X12_showLot (x1.tmod 80) M1 (fun M5 => (Q M5)))))) ∧ (r2 = 0 → (c_X12_lineOf (e_w32 (x1.tdiv 80)) x1 M1 (fun M6 => (c_X12_write 32 M6 (fun M7 => (c_X12_write 101 M7 (fun M8 => (c_X12_write 110 M8 (fun M9 => (c_X12_write 100 M9 (fun M10 => (c_X12_write 101 M10 (fun M11 => (c_X12_write 100 M11 (fun M12 => (c_X12_write 10 M12 (fun M13 => (Q M13)))))))))))))))))))))))) ∧ (x1 < 0 → (Q M1))))
def VX12_show (c_X12_whatIs : Int → e_M → (Int → Prop) → Prop) (c_X12_isHere : Int → Int → e_M → (Int → Prop) → Prop) (c_X12_lineOf : Int → Int → e_M → (e_M → Prop) → Prop) (c_X12_write : Int → e_M → (e_M → Prop) → Prop) (c_X12_showLot : Int → e_M → (e_M → Prop) → Prop) (c_X12_showPerson : Int → e_M → (e_M → Prop) → Prop) (c_X12_showOther : Int → Int → e_M → (e_M → Prop) → Prop) (k25 : Int → Int → e_M → Prop) (Q : e_M → Prop) (M : e_M) : Prop :=
  (c_X12_whatIs (M 4456 116) M (fun r1 => ((0 ≤ r1 → (¬ (80 : Int) = 0 ∧ (k25 r1 (e_w32 (r1.tdiv 80)) M))) ∧ (r1 < 0 → (k25 r1 (-1) M)))))
def yX12_show (i : Nat) : e_Y := x_get YX12_show [YX12_whatIs, YX12_isHere, YX12_lineOf, YX12_write, YX12_showLot, YX12_showPerson, YX12_showOther] i
def pX12_showf : List x_I := [(0, 4, 1, 0, 0, 0, []), (1, 4, 1, 0, 0, 0, []), (2, 25, 12, 116, 3, 0, []), (5, 40, 0, 2, 14, 0, []), (8, 5, 1, 1, 0, 0, []), (9, 4, 1, 0, 0, 0, []), (10, 2, 1, 1, 0, 0, []), (11, 17, 20, 3, 11, 0, []), (14, 1, 3, 0, 0, (-1), []), (17, 19, 25, 0, 15, 0, []), (20, 2, 1, 1, 0, 0, []), (21, 0, 2, 0, 0, 80, []), (23, 9, 0, 3, 0, 0, []), (24, 14, 0, 0, 0, 0, []), (25, 49, 0, 0, 0, 0, []), (25, 26, 12, 118, 3, 0, []), (28, 2, 1, 1, 0, 0, []), (29, 17, 33, 3, 20, 0, []), (32, 44, 0, 0, 0, 0, []), (33, 2, 1, 1, 0, 0, []), (34, 0, 2, 0, 0, 80, []), (36, 9, 0, 3, 0, 0, []), (37, 5, 1, 2, 0, 0, []), (38, 2, 1, 1, 0, 0, []), (39, 0, 2, 0, 0, 80, []), (41, 9, 0, 4, 0, 0, []), (42, 5, 1, 3, 0, 0, []), (43, 4, 1, 0, 0, 0, []), (44, 2, 1, 2, 0, 0, []), (45, 2, 1, 3, 0, 0, []), (46, 40, 1, 3, 14, 0, []), (49, 17, 101, 1, 59, 0, []), (52, 4, 1, 0, 0, 0, []), (53, 2, 1, 2, 0, 0, []), (54, 2, 1, 1, 0, 0, []), (55, 40, 2, 3, 14, 0, []), (58, 4, 1, 0, 0, 0, []), (59, 0, 2, 0, 0, 32, []), (61, 40, 3, 2, 14, 0, []), (64, 4, 1, 0, 0, 0, []), (65, 0, 2, 0, 0, 101, []), (67, 40, 3, 2, 14, 0, []), (70, 4, 1, 0, 0, 0, []), (71, 0, 2, 0, 0, 110, []), (73, 40, 3, 2, 14, 0, []), (76, 4, 1, 0, 0, 0, []), (77, 0, 2, 0, 0, 100, []), (79, 40, 3, 2, 14, 0, []), (82, 4, 1, 0, 0, 0, []), (83, 0, 2, 0, 0, 101, []), (85, 40, 3, 2, 14, 0, []), (88, 4, 1, 0, 0, 0, []), (89, 0, 2, 0, 0, 100, []), (91, 40, 3, 2, 14, 0, []), (94, 4, 1, 0, 0, 0, []), (95, 0, 2, 0, 0, 10, []), (97, 40, 3, 2, 14, 0, []), (100, 44, 0, 0, 0, 0, []), (101, 2, 1, 2, 0, 0, []), (102, 17, 113, 1, 65, 0, []), (105, 4, 1, 0, 0, 0, []), (106, 2, 1, 3, 0, 0, []), (107, 40, 4, 2, 14, 0, []), (110, 19, 132, 0, 76, 0, []), (113, 2, 1, 2, 0, 0, []), (114, 0, 1, 0, 0, 1, []), (115, 18, 126, 1, 72, 0, []), (118, 4, 1, 0, 0, 0, []), (119, 2, 1, 3, 0, 0, []), (120, 40, 5, 2, 14, 0, []), (123, 19, 132, 0, 76, 0, []), (126, 4, 1, 0, 0, 0, []), (127, 2, 1, 2, 0, 0, []), (128, 2, 1, 3, 0, 0, []), (129, 40, 6, 3, 14, 0, []), (132, 44, 0, 0, 0, 0, [])]
set_option maxRecDepth 20000 in
theorem qX12_showf : f_all yX12_show YX12_show pX12_showf :=
  ⟨f_aload_n (n := 0) (e_dx DX12_show_0 0 rfl) rfl,
  f_aload_n (n := 0) (e_dx DX12_show_0 1 rfl) rfl,
  f_getL (e_dx DX12_show_0 2 rfl) fX12_860 rfl (by decide),
  x_callV (e_dx DX12_show_0 3 rfl) mwX12_whatIs vwX12_whatIs cX12_585 rfl,
  f_istore_n (n := 1) (e_dx DX12_show_0 4 rfl) rfl (by decide),
  f_aload_n (n := 0) (e_dx DX12_show_0 5 rfl) rfl,
  f_iload_n (n := 1) (e_dx DX12_show_0 6 rfl) rfl,
  f_if_ge (e_dx DX12_show_0 7 rfl) rfl,
  f_ldc2 (e_dx DX12_show_0 8 rfl) hX12_503 rfl ⟨by decide, by decide⟩,
  f_g19 (e_dx DX12_show_0 9 rfl) rfl,
  f_iload_n (n := 1) (e_dx DX12_show_0 10 rfl) rfl,
  f_bipush (e_dx DX12_show_0 11 rfl) ⟨by decide, by decide⟩,
  f_idiv (e_dx DX12_show_0 12 rfl),
  f_g14 (e_dx DX12_show_0 13 rfl),
  trivial,
  f_putn (e_dx DX12_show_0 14 rfl) fX12_919 (fun q hq => by cases hq; rfl) rfl (Or.inr (Or.inr rfl)) (by decide),
  f_iload_n (n := 1) (e_dx DX12_show_0 15 rfl) rfl,
  f_if_ge (e_dx DX12_show_0 16 rfl) rfl,
  ⟨(e_dx DX12_show_0 17 rfl), rfl⟩,
  f_iload_n (n := 1) (e_dx DX12_show_0 18 rfl) rfl,
  f_bipush (e_dx DX12_show_0 19 rfl) ⟨by decide, by decide⟩,
  f_idiv (e_dx DX12_show_0 20 rfl),
  f_istore_n (n := 2) (e_dx DX12_show_0 21 rfl) rfl (by decide),
  f_iload_n (n := 1) (e_dx DX12_show_0 22 rfl) rfl,
  f_bipush (e_dx DX12_show_0 23 rfl) ⟨by decide, by decide⟩,
  f_irem (e_dx DX12_show_0 24 rfl),
  f_istore_n (n := 3) (e_dx DX12_show_0 25 rfl) rfl (by decide),
  f_aload_n (n := 0) (e_dx DX12_show_0 26 rfl) rfl,
  f_iload_n (n := 2) (e_dx DX12_show_0 27 rfl) rfl,
  f_iload_n (n := 3) (e_dx DX12_show_0 28 rfl) rfl,
  x_callV (e_dx DX12_show_0 29 rfl) mwX12_isHere vwX12_isHere cX12_875 rfl,
  f_if_ne (e_dx DX12_show_0 30 rfl) rfl,
  f_aload_n (n := 0) (e_dx DX12_show_0 31 rfl) rfl,
  f_iload_n (n := 2) (e_dx DX12_show_0 32 rfl) rfl,
  f_iload_n (n := 1) (e_dx DX12_show_0 33 rfl) rfl,
  x_callV (e_dx DX12_show_0 34 rfl) mwX12_lineOf vwX12_lineOf cX12_950 rfl,
  f_aload_n (n := 0) (e_dx DX12_show_0 35 rfl) rfl,
  f_bipush (e_dx DX12_show_0 36 rfl) ⟨by decide, by decide⟩,
  x_callV (e_dx DX12_show_0 37 rfl) mwX12_write vwX12_write cX12_916 rfl,
  f_aload_n (n := 0) (e_dx DX12_show_0 38 rfl) rfl,
  f_bipush (e_dx DX12_show_0 39 rfl) ⟨by decide, by decide⟩,
  x_callV (e_dx DX12_show_1 0 rfl) mwX12_write vwX12_write cX12_916 rfl,
  f_aload_n (n := 0) (e_dx DX12_show_1 1 rfl) rfl,
  f_bipush (e_dx DX12_show_1 2 rfl) ⟨by decide, by decide⟩,
  x_callV (e_dx DX12_show_1 3 rfl) mwX12_write vwX12_write cX12_916 rfl,
  f_aload_n (n := 0) (e_dx DX12_show_1 4 rfl) rfl,
  f_bipush (e_dx DX12_show_1 5 rfl) ⟨by decide, by decide⟩,
  x_callV (e_dx DX12_show_1 6 rfl) mwX12_write vwX12_write cX12_916 rfl,
  f_aload_n (n := 0) (e_dx DX12_show_1 7 rfl) rfl,
  f_bipush (e_dx DX12_show_1 8 rfl) ⟨by decide, by decide⟩,
  x_callV (e_dx DX12_show_1 9 rfl) mwX12_write vwX12_write cX12_916 rfl,
  f_aload_n (n := 0) (e_dx DX12_show_1 10 rfl) rfl,
  f_bipush (e_dx DX12_show_1 11 rfl) ⟨by decide, by decide⟩,
  x_callV (e_dx DX12_show_1 12 rfl) mwX12_write vwX12_write cX12_916 rfl,
  f_aload_n (n := 0) (e_dx DX12_show_1 13 rfl) rfl,
  f_bipush (e_dx DX12_show_1 14 rfl) ⟨by decide, by decide⟩,
  x_callV (e_dx DX12_show_1 15 rfl) mwX12_write vwX12_write cX12_916 rfl,
  ⟨(e_dx DX12_show_1 16 rfl), rfl⟩,
  f_iload_n (n := 2) (e_dx DX12_show_1 17 rfl) rfl,
  f_if_ne (e_dx DX12_show_1 18 rfl) rfl,
  f_aload_n (n := 0) (e_dx DX12_show_1 19 rfl) rfl,
  f_iload_n (n := 3) (e_dx DX12_show_1 20 rfl) rfl,
  x_callV (e_dx DX12_show_1 21 rfl) mwX12_showLot vwX12_showLot cX12_953 rfl,
  f_g19 (e_dx DX12_show_1 22 rfl) rfl,
  f_iload_n (n := 2) (e_dx DX12_show_1 23 rfl) rfl,
  f_iconst (e_dx DX12_show_1 24 rfl) ⟨by decide, by decide⟩,
  f_icmp_ne (e_dx DX12_show_1 25 rfl) rfl,
  f_aload_n (n := 0) (e_dx DX12_show_1 26 rfl) rfl,
  f_iload_n (n := 3) (e_dx DX12_show_1 27 rfl) rfl,
  x_callV (e_dx DX12_show_1 28 rfl) mwX12_showPerson vwX12_showPerson cX12_956 rfl,
  f_g19 (e_dx DX12_show_1 29 rfl) rfl,
  f_aload_n (n := 0) (e_dx DX12_show_1 30 rfl) rfl,
  f_iload_n (n := 2) (e_dx DX12_show_1 31 rfl) rfl,
  f_iload_n (n := 3) (e_dx DX12_show_1 32 rfl) rfl,
  x_callV (e_dx DX12_show_1 33 rfl) mwX12_showOther vwX12_showOther cX12_959 rfl,
  ⟨(e_dx DX12_show_1 34 rfl), rfl⟩, trivial⟩
def lX12_show (c_X12_whatIs : Int → e_M → (Int → Prop) → Prop) (c_X12_isHere : Int → Int → e_M → (Int → Prop) → Prop) (c_X12_lineOf : Int → Int → e_M → (e_M → Prop) → Prop) (c_X12_write : Int → e_M → (e_M → Prop) → Prop) (c_X12_showLot : Int → e_M → (e_M → Prop) → Prop) (c_X12_showPerson : Int → e_M → (e_M → Prop) → Prop) (c_X12_showOther : Int → Int → e_M → (e_M → Prop) → Prop) : List (Nat × f_Wt) := [(0, f_wm [(4466, 12, 123), (2, 0, 0)] (fun ar M R => c_X12_whatIs (f_vi (f_nth ar 1)) M (fun r => R (some (.inl r)) M))), (1, f_wm [(4466, 12, 123), (1, 0, 0), (1, 0, 0)] (fun ar M R => c_X12_isHere (f_vi (f_nth ar 1)) (f_vi (f_nth ar 2)) M (fun r => R (some (.inl r)) M))), (2, f_wm [(4466, 12, 123), (1, 0, 0), (1, 0, 0)] (fun ar M R => c_X12_lineOf (f_vi (f_nth ar 1)) (f_vi (f_nth ar 2)) M (fun M => R none M))), (3, f_wm [(4466, 12, 123), (1, 0, 0)] (fun ar M R => c_X12_write (f_vi (f_nth ar 1)) M (fun M => R none M))), (4, f_wm [(4466, 12, 123), (1, 0, 0)] (fun ar M R => c_X12_showLot (f_vi (f_nth ar 1)) M (fun M => R none M))), (5, f_wm [(4466, 12, 123), (1, 0, 0)] (fun ar M R => c_X12_showPerson (f_vi (f_nth ar 1)) M (fun M => R none M))), (6, f_wm [(4466, 12, 123), (1, 0, 0), (1, 0, 0)] (fun ar M R => c_X12_showOther (f_vi (f_nth ar 1)) (f_vi (f_nth ar 2)) M (fun M => R none M)))]
set_option maxRecDepth 20000 in
theorem BX12_show_25 {sh : Nat → Nat × Nat} {t : Nat} {rm : Nat × Nat × Nat} {cs : Nat × Nat} {R : f_Rt} {c_X12_whatIs : Int → e_M → (Int → Prop) → Prop} {c_X12_isHere : Int → Int → e_M → (Int → Prop) → Prop} {c_X12_lineOf : Int → Int → e_M → (e_M → Prop) → Prop} {c_X12_write : Int → e_M → (e_M → Prop) → Prop} {c_X12_showLot : Int → e_M → (e_M → Prop) → Prop} {c_X12_showPerson : Int → e_M → (e_M → Prop) → Prop} {c_X12_showOther : Int → Int → e_M → (e_M → Prop) → Prop} {x1 : Int} {xs1 : Int} {M : e_M} (C : f_Hy sh t yX12_show rm cs 10 (lX12_show c_X12_whatIs c_X12_isHere c_X12_lineOf c_X12_write c_X12_showLot c_X12_showPerson c_X12_showOther) R) (h : VX12_show_25 c_X12_whatIs c_X12_isHere c_X12_lineOf c_X12_write c_X12_showLot c_X12_showPerson c_X12_showOther (fun M => R none M) x1 xs1 M) : f_E sh t YX12_show rm cs (f_Q sh t R) 25 [.inr (.inr (.inl (12, 123, 4456))), .inl x1, .inr (.inr (.inr ())), .inr (.inr (.inr ()))] [.inr (.inl xs1), .inr (.inr (.inl (12, 123, 4456)))] M :=
  f_go (KC := f_kc []) C qX12_showf f_kc_nil 78 15 h
set_option maxRecDepth 20000 in
theorem BX12_show {sh : Nat → Nat × Nat} {t : Nat} {rm : Nat × Nat × Nat} {cs : Nat × Nat} {R : f_Rt} {c_X12_whatIs : Int → e_M → (Int → Prop) → Prop} {c_X12_isHere : Int → Int → e_M → (Int → Prop) → Prop} {c_X12_lineOf : Int → Int → e_M → (e_M → Prop) → Prop} {c_X12_write : Int → e_M → (e_M → Prop) → Prop} {c_X12_showLot : Int → e_M → (e_M → Prop) → Prop} {c_X12_showPerson : Int → e_M → (e_M → Prop) → Prop} {c_X12_showOther : Int → Int → e_M → (e_M → Prop) → Prop} {k25 : Int → Int → e_M → Prop} {M : e_M} (C : f_Hy sh t yX12_show rm cs 10 (lX12_show c_X12_whatIs c_X12_isHere c_X12_lineOf c_X12_write c_X12_showLot c_X12_showPerson c_X12_showOther) R) (h25 : ∀ (x1 : Int) (xs1 : Int) (M : e_M), k25 x1 xs1 M → f_E sh t YX12_show rm cs (f_Q sh t R) 25 [.inr (.inr (.inl (12, 123, 4456))), .inl x1, .inr (.inr (.inr ())), .inr (.inr (.inr ()))] [.inr (.inl xs1), .inr (.inr (.inl (12, 123, 4456)))] M) (h : VX12_show c_X12_whatIs c_X12_isHere c_X12_lineOf c_X12_write c_X12_showLot c_X12_showPerson c_X12_showOther k25 (fun M => R none M) M) : f_E sh t YX12_show rm cs (f_Q sh t R) 0 [.inr (.inr (.inl (12, 123, 4456))), .inr (.inr (.inr ())), .inr (.inr (.inr ())), .inr (.inr (.inr ()))] [] M :=
  f_go (KC := f_kc [(25, f_pl [(4466, 12, 123), (1, 0, 0), (0, 0, 0), (0, 0, 0)] [(2, 0, 0), (4466, 12, 123)] (fun ls st M => k25 (f_vi (f_nth ls 1)) (f_vi (f_nth st 0)) M))]) C qX12_showf (f_kc_cons (f_pl_ok rfl (fun ls st M h => h25 _ _ M h)) f_kc_nil) 78 0 h
def WX12_show_25 (Q : e_M → Prop) (x1 : Int) (xs1 : Int) (M : e_M) : Prop :=
  VX12_show_25 WX12_whatIs WX12_isHere WX12_lineOf WX12_write WX12_showLot WX12_showPerson WX12_showOther Q x1 xs1 M
def WX12_show (M : e_M) (Q : e_M → Prop) : Prop :=
  VX12_show WX12_whatIs WX12_isHere WX12_lineOf WX12_write WX12_showLot WX12_showPerson WX12_showOther (WX12_show_25 Q) Q M
theorem PX12_show_25 {sh : Nat → Nat × Nat} {t : Nat} {rm : Nat × Nat × Nat} {cs : Nat × Nat} {R : f_Rt} {x1 : Int} {xs1 : Int} {M : e_M} (C : f_Hy sh t yX12_show rm cs 10 (lX12_show WX12_whatIs WX12_isHere WX12_lineOf WX12_write WX12_showLot WX12_showPerson WX12_showOther) R) (h : WX12_show_25 (fun M => R none M) x1 xs1 M) : f_E sh t YX12_show rm cs (f_Q sh t R) 25 [.inr (.inr (.inl (12, 123, 4456))), .inl x1, .inr (.inr (.inr ())), .inr (.inr (.inr ()))] [.inr (.inl xs1), .inr (.inr (.inl (12, 123, 4456)))] M :=
  BX12_show_25 C h
theorem PX12_show {sh : Nat → Nat × Nat} {t : Nat} {rm : Nat × Nat × Nat} {cs : Nat × Nat} {R : f_Rt} {M : e_M} (C : f_Hy sh t yX12_show rm cs 10 (lX12_show WX12_whatIs WX12_isHere WX12_lineOf WX12_write WX12_showLot WX12_showPerson WX12_showOther) R) (h : WX12_show M (fun M => R none M)) : f_E sh t YX12_show rm cs (f_Q sh t R) 0 [.inr (.inr (.inl (12, 123, 4456))), .inr (.inr (.inr ())), .inr (.inr (.inr ())), .inr (.inr (.inr ()))] [] M :=
  BX12_show C (fun x1 xs1 M h => PX12_show_25 C h) h
def wX12_show : f_Wt := f_wm [(4466, 12, 123)] (fun ar M R => WX12_show M (fun M => R none M))
theorem TX12_show {sh : Nat → Nat × Nat} {t : Nat} : f_Mt sh t YX12_show 10 (wX12_show) :=
  f_Mt_of (k := 3) (Nat.le_of_ble_eq_true rfl) rfl rfl (fun ar M R rm cs h1 h2 h3 hX h => PX12_show ⟨Nat.le_of_ble_eq_true rfl, h1, h2, h3, ⟨(f_Mt.up (Nat.le_of_ble_eq_true rfl) TX12_whatIs), (f_Mt.up (Nat.le_of_ble_eq_true rfl) TX12_isHere), (f_Mt.up (Nat.le_of_ble_eq_true rfl) TX12_lineOf), (f_Mt.up (Nat.le_of_ble_eq_true rfl) TX12_write), (f_Mt.up (Nat.le_of_ble_eq_true rfl) TX12_showLot), (f_Mt.up (Nat.le_of_ble_eq_true rfl) TX12_showPerson), (f_Mt.up (Nat.le_of_ble_eq_true rfl) TX12_showOther), trivial⟩, hX⟩ h)
def VX12_trace_4 (c_X12_writeNumber : Int → e_M → (e_M → Prop) → Prop) (c_X12_write : Int → e_M → (e_M → Prop) → Prop) (k43 : Int → Int → Int → Int → Int → e_M → Prop) (k123 : Int → Int → e_M → Prop) (Q : e_M → Prop) (x1 : Int) (x3 : Int) (M : e_M) : Prop :=
  (((M 4456 98) ≤ x3 → (∀ M1 : e_M, M1 = e_up M 4456 118 x1 → (Q M1))) ∧ (x3 < (M 4456 98) → ((0 ≤ x3 ∧ x3 < 152) ∧ ((0 ≤ x3 ∧ x3 < 152) ∧ ((0 ≤ (M 4525 (x3.toNat)) ∧ (M 4525 (x3.toNat)) < 152) ∧ (((M 4524 ((M 4525 (x3.toNat)).toNat)) = 0 → (k43 x1 x3 (M 4526 (x3.toNat)) 0 0 M)) ∧ (¬ (M 4524 ((M 4525 (x3.toNat)).toNat)) = 0 → (k123 x1 x3 M))))))))
def VX12_trace_43 (c_X12_writeNumber : Int → e_M → (e_M → Prop) → Prop) (c_X12_write : Int → e_M → (e_M → Prop) → Prop) (k123 : Int → Int → e_M → Prop) (k81 : Int → Int → Int → Int → e_M → Prop) (k86 : Int → Int → Int → Int → Int → e_M → Prop) (Q : e_M → Prop) (x1 : Int) (x3 : Int) (x4 : Int) (x5 : Int) (x6 : Int) (M : e_M) : Prop :=
  ((0 ≤ x4 ∧ x4 < 152) ∧ (((M 4463 (x4.toNat)) ≤ x6 → ((¬ x5 = 0 → ((0 ≤ x3 ∧ x3 < 152) ∧ (c_X12_writeNumber (M 4525 (x3.toNat)) M (fun M1 => (c_X12_write 32 M1 (fun M2 => (k123 (e_w64 (x1 + 1)) x3 M2))))))) ∧ (x5 = 0 → (k123 x1 x3 M)))) ∧ (x6 < (M 4463 (x4.toNat)) → ((¬ x5 = 0 → (k81 x1 x3 x4 x6 M)) ∧ (x5 = 0 → ((0 ≤ (e_w32 ((e_w32 ((10 : Int) * x4)) + x6)) ∧ (e_w32 ((e_w32 ((10 : Int) * x4)) + x6)) < 1520) ∧ ((¬ (M 4467 ((e_w32 ((e_w32 ((10 : Int) * x4)) + x6)).toNat)) = (M 4456 116) → (k86 x1 x3 x4 x6 0 M)) ∧ ((M 4467 ((e_w32 ((e_w32 ((10 : Int) * x4)) + x6)).toNat)) = (M 4456 116) → (k81 x1 x3 x4 x6 M)))))))))
def VX12_trace_81 (c_X12_writeNumber : Int → e_M → (e_M → Prop) → Prop) (c_X12_write : Int → e_M → (e_M → Prop) → Prop) (k86 : Int → Int → Int → Int → Int → e_M → Prop) (Q : e_M → Prop) (x1 : Int) (x3 : Int) (x4 : Int) (x6 : Int) (M : e_M) : Prop :=
  (k86 x1 x3 x4 x6 1 M)
def VX12_trace_86 (c_X12_writeNumber : Int → e_M → (e_M → Prop) → Prop) (c_X12_write : Int → e_M → (e_M → Prop) → Prop) (k43 : Int → Int → Int → Int → Int → e_M → Prop) (Q : e_M → Prop) (x1 : Int) (x3 : Int) (x4 : Int) (x6 : Int) (xs0 : Int) (M : e_M) : Prop :=
  (k43 x1 x3 x4 xs0 (e_w32 (x6 + 1)) M)
def VX12_trace_123 (c_X12_writeNumber : Int → e_M → (e_M → Prop) → Prop) (c_X12_write : Int → e_M → (e_M → Prop) → Prop) (k4 : Int → Int → e_M → Prop) (Q : e_M → Prop) (x1 : Int) (x3 : Int) (M : e_M) : Prop :=
  (k4 x1 (e_w32 (x3 + 1)) M)
def VX12_trace (c_X12_writeNumber : Int → e_M → (e_M → Prop) → Prop) (c_X12_write : Int → e_M → (e_M → Prop) → Prop) (k4 : Int → Int → e_M → Prop) (Q : e_M → Prop) (M : e_M) : Prop :=
  (k4 0 0 M)
def yX12_trace (i : Nat) : e_Y := x_get YX12_trace [YX12_writeNumber, YX12_write] i
def pX12_tracef : List x_I := [(0, 1, 1, 0, 0, 0, []), (1, 6, 1, 1, 0, 0, []), (2, 0, 1, 0, 0, 0, []), (3, 5, 1, 3, 0, 0, []), (4, 49, 0, 0, 0, 0, []), (4, 2, 1, 3, 0, 0, []), (5, 4, 1, 0, 0, 0, []), (6, 25, 12, 98, 0, 0, []), (9, 18, 129, 3, 76, 0, []), (12, 4, 1, 0, 0, 0, []), (13, 25, 12, 97, 4, 0, [(0, 20, 152), (0, 1, 70)]), (16, 2, 1, 3, 0, 0, []), (17, 27, 0, 0, 0, 0, []), (18, 5, 2, 4, 0, 0, []), (20, 4, 1, 0, 0, 0, []), (21, 25, 12, 95, 4, 0, [(0, 20, 152), (0, 1, 68)]), (24, 4, 1, 0, 0, 0, []), (25, 25, 12, 96, 4, 0, [(0, 20, 152), (0, 1, 69)]), (28, 2, 1, 3, 0, 0, []), (29, 27, 0, 0, 0, 0, []), (30, 27, 0, 0, 0, 0, []), (31, 17, 37, 0, 24, 0, []), (34, 19, 123, 0, 73, 0, []), (37, 0, 1, 0, 0, 0, []), (38, 5, 2, 5, 0, 0, []), (40, 0, 1, 0, 0, 0, []), (41, 5, 2, 6, 0, 0, []), (43, 49, 0, 0, 0, 0, []), (43, 2, 2, 6, 0, 0, []), (45, 4, 1, 0, 0, 0, []), (46, 25, 12, 16, 4, 0, [(0, 20, 152), (0, 1, 7)]), (49, 2, 2, 4, 0, 0, []), (51, 27, 0, 0, 0, 0, []), (52, 18, 94, 3, 56, 0, []), (55, 2, 2, 5, 0, 0, []), (57, 17, 81, 1, 48, 0, []), (60, 4, 1, 0, 0, 0, []), (61, 25, 12, 20, 4, 0, [(0, 23, 1520), (0, 1, 11)]), (64, 0, 2, 0, 0, 10, []), (66, 2, 2, 4, 0, 0, []), (68, 9, 0, 2, 0, 0, []), (69, 2, 2, 6, 0, 0, []), (71, 9, 0, 0, 0, 0, []), (72, 27, 0, 1, 0, 0, []), (73, 4, 1, 0, 0, 0, []), (74, 25, 12, 116, 3, 0, []), (77, 32, 85, 1, 51, 0, []), (81, 49, 0, 0, 0, 0, []), (81, 0, 1, 0, 0, 1, []), (82, 19, 86, 0, 52, 0, []), (85, 0, 1, 0, 0, 0, []), (86, 49, 0, 0, 0, 0, []), (86, 5, 2, 5, 0, 0, []), (88, 8, 0, 6, 0, 1, []), (91, 19, 43, 0, 28, 0, []), (94, 2, 2, 5, 0, 0, []), (96, 17, 102, 1, 59, 0, []), (99, 19, 123, 0, 73, 0, []), (102, 3, 1, 1, 0, 0, []), (103, 1, 1, 0, 0, 1, []), (104, 10, 0, 0, 0, 0, []), (105, 6, 1, 1, 0, 0, []), (106, 4, 1, 0, 0, 0, []), (107, 4, 1, 0, 0, 0, []), (108, 25, 12, 96, 4, 0, [(0, 20, 152), (0, 1, 69)]), (111, 2, 1, 3, 0, 0, []), (112, 27, 0, 0, 0, 0, []), (113, 14, 0, 0, 0, 0, []), (114, 40, 0, 2, 14, 0, []), (117, 4, 1, 0, 0, 0, []), (118, 0, 2, 0, 0, 32, []), (120, 40, 1, 2, 14, 0, []), (123, 49, 0, 0, 0, 0, []), (123, 8, 0, 3, 0, 1, []), (126, 19, 4, 0, 5, 0, []), (129, 4, 1, 0, 0, 0, []), (130, 3, 1, 1, 0, 0, []), (131, 26, 12, 118, 3, 0, []), (134, 44, 0, 0, 0, 0, [])]
set_option maxRecDepth 20000 in
theorem qX12_tracef : f_all yX12_trace YX12_trace pX12_tracef :=
  ⟨f_lconst (n := 0) (e_dx DX12_trace_0 0 rfl) rfl,
  f_lstore_n (n := 1) (e_dx DX12_trace_0 1 rfl) rfl (by decide),
  f_iconst (e_dx DX12_trace_0 2 rfl) ⟨by decide, by decide⟩,
  f_istore_n (n := 3) (e_dx DX12_trace_0 3 rfl) rfl (by decide),
  trivial,
  f_iload_n (n := 3) (e_dx DX12_trace_0 4 rfl) rfl,
  f_aload_n (n := 0) (e_dx DX12_trace_0 5 rfl) rfl,
  f_getf (e_dx DX12_trace_0 6 rfl) fX12_761 rfl (by decide) (by decide) (by decide),
  f_icmp_ge (e_dx DX12_trace_0 7 rfl) rfl,
  f_aload_n (n := 0) (e_dx DX12_trace_0 8 rfl) rfl,
  f_getA (e_dx DX12_trace_0 9 rfl) fX12_220 rfl (by decide) (Nat.le_of_ble_eq_true rfl) rfl (by decide),
  f_iload_n (n := 3) (e_dx DX12_trace_0 10 rfl) rfl,
  f_iaload (e_dx DX12_trace_0 11 rfl),
  f_istore (e_dx DX12_trace_0 12 rfl) (by decide),
  f_aload_n (n := 0) (e_dx DX12_trace_0 13 rfl) rfl,
  f_getA (e_dx DX12_trace_0 14 rfl) fX12_214 rfl (by decide) (Nat.le_of_ble_eq_true rfl) rfl (by decide),
  f_aload_n (n := 0) (e_dx DX12_trace_0 15 rfl) rfl,
  f_getA (e_dx DX12_trace_0 16 rfl) fX12_217 rfl (by decide) (Nat.le_of_ble_eq_true rfl) rfl (by decide),
  f_iload_n (n := 3) (e_dx DX12_trace_0 17 rfl) rfl,
  f_iaload (e_dx DX12_trace_0 18 rfl),
  f_iaload (e_dx DX12_trace_0 19 rfl),
  f_if_eq (e_dx DX12_trace_0 20 rfl) rfl,
  f_g19 (e_dx DX12_trace_0 21 rfl) rfl,
  f_iconst (e_dx DX12_trace_0 22 rfl) ⟨by decide, by decide⟩,
  f_istore (e_dx DX12_trace_0 23 rfl) (by decide),
  f_iconst (e_dx DX12_trace_0 24 rfl) ⟨by decide, by decide⟩,
  f_istore (e_dx DX12_trace_0 25 rfl) (by decide),
  trivial,
  f_iload (e_dx DX12_trace_0 26 rfl),
  f_aload_n (n := 0) (e_dx DX12_trace_0 27 rfl) rfl,
  f_getA (e_dx DX12_trace_0 28 rfl) fX12_30 rfl (by decide) (Nat.le_of_ble_eq_true rfl) rfl (by decide),
  f_iload (e_dx DX12_trace_0 29 rfl),
  f_iaload (e_dx DX12_trace_0 30 rfl),
  f_icmp_ge (e_dx DX12_trace_0 31 rfl) rfl,
  f_iload (e_dx DX12_trace_0 32 rfl),
  f_if_ne (e_dx DX12_trace_0 33 rfl) rfl,
  f_aload_n (n := 0) (e_dx DX12_trace_0 34 rfl) rfl,
  f_getA (e_dx DX12_trace_0 35 rfl) fX12_42 rfl (by decide) (Nat.le_of_ble_eq_true rfl) rfl (by decide),
  f_bipush (e_dx DX12_trace_0 36 rfl) ⟨by decide, by decide⟩,
  f_iload (e_dx DX12_trace_0 37 rfl),
  f_imul (e_dx DX12_trace_0 38 rfl),
  f_iload (e_dx DX12_trace_0 39 rfl),
  f_iadd (e_dx DX12_trace_1 0 rfl),
  f_laload (e_dx DX12_trace_1 1 rfl),
  f_aload_n (n := 0) (e_dx DX12_trace_1 2 rfl) rfl,
  f_getL (e_dx DX12_trace_1 3 rfl) fX12_860 rfl (by decide),
  f_lif_ne (e_dx DX12_trace_1 4 rfl) (e_dx DX12_trace_1 5 rfl) rfl,
  trivial,
  f_iconst (e_dx DX12_trace_1 6 rfl) ⟨by decide, by decide⟩,
  f_g19 (e_dx DX12_trace_1 7 rfl) rfl,
  f_iconst (e_dx DX12_trace_1 8 rfl) ⟨by decide, by decide⟩,
  trivial,
  f_istore (e_dx DX12_trace_1 9 rfl) (by decide),
  f_g8 (e_dx DX12_trace_1 10 rfl) ⟨by decide, by decide⟩,
  f_g19 (e_dx DX12_trace_1 11 rfl) rfl,
  f_iload (e_dx DX12_trace_1 12 rfl),
  f_if_ne (e_dx DX12_trace_1 13 rfl) rfl,
  f_g19 (e_dx DX12_trace_1 14 rfl) rfl,
  f_lload_n (n := 1) (e_dx DX12_trace_1 15 rfl) rfl,
  f_lconst (n := 1) (e_dx DX12_trace_1 16 rfl) rfl,
  f_ladd (e_dx DX12_trace_1 17 rfl),
  f_lstore_n (n := 1) (e_dx DX12_trace_1 18 rfl) rfl (by decide),
  f_aload_n (n := 0) (e_dx DX12_trace_1 19 rfl) rfl,
  f_aload_n (n := 0) (e_dx DX12_trace_1 20 rfl) rfl,
  f_getA (e_dx DX12_trace_1 21 rfl) fX12_217 rfl (by decide) (Nat.le_of_ble_eq_true rfl) rfl (by decide),
  f_iload_n (n := 3) (e_dx DX12_trace_1 22 rfl) rfl,
  f_iaload (e_dx DX12_trace_1 23 rfl),
  f_g14 (e_dx DX12_trace_1 24 rfl),
  x_callV (e_dx DX12_trace_1 25 rfl) mwX12_writeNumber vwX12_writeNumber cX12_922 rfl,
  f_aload_n (n := 0) (e_dx DX12_trace_1 26 rfl) rfl,
  f_bipush (e_dx DX12_trace_1 27 rfl) ⟨by decide, by decide⟩,
  x_callV (e_dx DX12_trace_1 28 rfl) mwX12_write vwX12_write cX12_916 rfl,
  trivial,
  f_g8 (e_dx DX12_trace_1 29 rfl) ⟨by decide, by decide⟩,
  f_g19 (e_dx DX12_trace_1 30 rfl) rfl,
  f_aload_n (n := 0) (e_dx DX12_trace_1 31 rfl) rfl,
  f_lload_n (n := 1) (e_dx DX12_trace_1 32 rfl) rfl,
  f_putn (e_dx DX12_trace_1 33 rfl) fX12_919 (fun q hq => by cases hq; rfl) rfl (Or.inr (Or.inr rfl)) (by decide),
  ⟨(e_dx DX12_trace_1 34 rfl), rfl⟩, trivial⟩
def lX12_trace (c_X12_writeNumber : Int → e_M → (e_M → Prop) → Prop) (c_X12_write : Int → e_M → (e_M → Prop) → Prop) : List (Nat × f_Wt) := [(0, f_wm [(4466, 12, 123), (2, 0, 0)] (fun ar M R => c_X12_writeNumber (f_vi (f_nth ar 1)) M (fun M => R none M))), (1, f_wm [(4466, 12, 123), (1, 0, 0)] (fun ar M R => c_X12_write (f_vi (f_nth ar 1)) M (fun M => R none M)))]
set_option maxRecDepth 20000 in
theorem BX12_trace_4 {sh : Nat → Nat × Nat} {t : Nat} {rm : Nat × Nat × Nat} {cs : Nat × Nat} {R : f_Rt} {c_X12_writeNumber : Int → e_M → (e_M → Prop) → Prop} {c_X12_write : Int → e_M → (e_M → Prop) → Prop} {k43 : Int → Int → Int → Int → Int → e_M → Prop} {k123 : Int → Int → e_M → Prop} {x1 : Int} {x3 : Int} {M : e_M} (C : f_Hy sh t yX12_trace rm cs 6 (lX12_trace c_X12_writeNumber c_X12_write) R) (h43 : ∀ (x1 : Int) (x3 : Int) (x4 : Int) (x5 : Int) (x6 : Int) (M : e_M), k43 x1 x3 x4 x5 x6 M → f_E sh t YX12_trace rm cs (f_Q sh t R) 43 [.inr (.inr (.inl (12, 123, 4456))), .inr (.inl x1), .inr (.inr (.inr ())), .inl x3, .inl x4, .inl x5, .inl x6] [] M) (h123 : ∀ (x1 : Int) (x3 : Int) (M : e_M), k123 x1 x3 M → f_E sh t YX12_trace rm cs (f_Q sh t R) 123 [.inr (.inr (.inl (12, 123, 4456))), .inr (.inl x1), .inr (.inr (.inr ())), .inl x3, .inr (.inr (.inr ())), .inr (.inr (.inr ())), .inr (.inr (.inr ()))] [] M) (h : VX12_trace_4 c_X12_writeNumber c_X12_write k43 k123 (fun M => R none M) x1 x3 M) : f_E sh t YX12_trace rm cs (f_Q sh t R) 4 [.inr (.inr (.inl (12, 123, 4456))), .inr (.inl x1), .inr (.inr (.inr ())), .inl x3, .inr (.inr (.inr ())), .inr (.inr (.inr ())), .inr (.inr (.inr ()))] [] M :=
  f_go (KC := f_kc [(43, f_pl [(4466, 12, 123), (2, 0, 0), (0, 0, 0), (1, 0, 0), (1, 0, 0), (1, 0, 0), (1, 0, 0)] [] (fun ls st M => k43 (f_vi (f_nth ls 1)) (f_vi (f_nth ls 3)) (f_vi (f_nth ls 4)) (f_vi (f_nth ls 5)) (f_vi (f_nth ls 6)) M)), (123, f_pl [(4466, 12, 123), (2, 0, 0), (0, 0, 0), (1, 0, 0), (0, 0, 0), (0, 0, 0), (0, 0, 0)] [] (fun ls st M => k123 (f_vi (f_nth ls 1)) (f_vi (f_nth ls 3)) M))]) C qX12_tracef (f_kc_cons (f_pl_ok rfl (fun ls st M h => h43 _ _ _ _ _ M h)) (f_kc_cons (f_pl_ok rfl (fun ls st M h => h123 _ _ M h)) f_kc_nil)) 81 5 h
set_option maxRecDepth 20000 in
theorem BX12_trace_43 {sh : Nat → Nat × Nat} {t : Nat} {rm : Nat × Nat × Nat} {cs : Nat × Nat} {R : f_Rt} {c_X12_writeNumber : Int → e_M → (e_M → Prop) → Prop} {c_X12_write : Int → e_M → (e_M → Prop) → Prop} {k123 : Int → Int → e_M → Prop} {k81 : Int → Int → Int → Int → e_M → Prop} {k86 : Int → Int → Int → Int → Int → e_M → Prop} {x1 : Int} {x3 : Int} {x4 : Int} {x5 : Int} {x6 : Int} {M : e_M} (C : f_Hy sh t yX12_trace rm cs 6 (lX12_trace c_X12_writeNumber c_X12_write) R) (h123 : ∀ (x1 : Int) (x3 : Int) (M : e_M), k123 x1 x3 M → f_E sh t YX12_trace rm cs (f_Q sh t R) 123 [.inr (.inr (.inl (12, 123, 4456))), .inr (.inl x1), .inr (.inr (.inr ())), .inl x3, .inr (.inr (.inr ())), .inr (.inr (.inr ())), .inr (.inr (.inr ()))] [] M) (h81 : ∀ (x1 : Int) (x3 : Int) (x4 : Int) (x6 : Int) (M : e_M), k81 x1 x3 x4 x6 M → f_E sh t YX12_trace rm cs (f_Q sh t R) 81 [.inr (.inr (.inl (12, 123, 4456))), .inr (.inl x1), .inr (.inr (.inr ())), .inl x3, .inl x4, .inr (.inr (.inr ())), .inl x6] [] M) (h86 : ∀ (x1 : Int) (x3 : Int) (x4 : Int) (x6 : Int) (xs0 : Int) (M : e_M), k86 x1 x3 x4 x6 xs0 M → f_E sh t YX12_trace rm cs (f_Q sh t R) 86 [.inr (.inr (.inl (12, 123, 4456))), .inr (.inl x1), .inr (.inr (.inr ())), .inl x3, .inl x4, .inr (.inr (.inr ())), .inl x6] [.inl xs0] M) (h : VX12_trace_43 c_X12_writeNumber c_X12_write k123 k81 k86 (fun M => R none M) x1 x3 x4 x5 x6 M) : f_E sh t YX12_trace rm cs (f_Q sh t R) 43 [.inr (.inr (.inl (12, 123, 4456))), .inr (.inl x1), .inr (.inr (.inr ())), .inl x3, .inl x4, .inl x5, .inl x6] [] M :=
  f_go (KC := f_kc [(123, f_pl [(4466, 12, 123), (2, 0, 0), (0, 0, 0), (1, 0, 0), (0, 0, 0), (0, 0, 0), (0, 0, 0)] [] (fun ls st M => k123 (f_vi (f_nth ls 1)) (f_vi (f_nth ls 3)) M)), (81, f_pl [(4466, 12, 123), (2, 0, 0), (0, 0, 0), (1, 0, 0), (1, 0, 0), (0, 0, 0), (1, 0, 0)] [] (fun ls st M => k81 (f_vi (f_nth ls 1)) (f_vi (f_nth ls 3)) (f_vi (f_nth ls 4)) (f_vi (f_nth ls 6)) M)), (86, f_pl [(4466, 12, 123), (2, 0, 0), (0, 0, 0), (1, 0, 0), (1, 0, 0), (0, 0, 0), (1, 0, 0)] [(1, 0, 0)] (fun ls st M => k86 (f_vi (f_nth ls 1)) (f_vi (f_nth ls 3)) (f_vi (f_nth ls 4)) (f_vi (f_nth ls 6)) (f_vi (f_nth st 0)) M))]) C qX12_tracef (f_kc_cons (f_pl_ok rfl (fun ls st M h => h123 _ _ M h)) (f_kc_cons (f_pl_ok rfl (fun ls st M h => h81 _ _ _ _ M h)) (f_kc_cons (f_pl_ok rfl (fun ls st M h => h86 _ _ _ _ _ M h)) f_kc_nil))) 81 28 h
set_option maxRecDepth 20000 in
theorem BX12_trace_81 {sh : Nat → Nat × Nat} {t : Nat} {rm : Nat × Nat × Nat} {cs : Nat × Nat} {R : f_Rt} {c_X12_writeNumber : Int → e_M → (e_M → Prop) → Prop} {c_X12_write : Int → e_M → (e_M → Prop) → Prop} {k86 : Int → Int → Int → Int → Int → e_M → Prop} {x1 : Int} {x3 : Int} {x4 : Int} {x6 : Int} {M : e_M} (C : f_Hy sh t yX12_trace rm cs 6 (lX12_trace c_X12_writeNumber c_X12_write) R) (h86 : ∀ (x1 : Int) (x3 : Int) (x4 : Int) (x6 : Int) (xs0 : Int) (M : e_M), k86 x1 x3 x4 x6 xs0 M → f_E sh t YX12_trace rm cs (f_Q sh t R) 86 [.inr (.inr (.inl (12, 123, 4456))), .inr (.inl x1), .inr (.inr (.inr ())), .inl x3, .inl x4, .inr (.inr (.inr ())), .inl x6] [.inl xs0] M) (h : VX12_trace_81 c_X12_writeNumber c_X12_write k86 (fun M => R none M) x1 x3 x4 x6 M) : f_E sh t YX12_trace rm cs (f_Q sh t R) 81 [.inr (.inr (.inl (12, 123, 4456))), .inr (.inl x1), .inr (.inr (.inr ())), .inl x3, .inl x4, .inr (.inr (.inr ())), .inl x6] [] M :=
  f_go (KC := f_kc [(86, f_pl [(4466, 12, 123), (2, 0, 0), (0, 0, 0), (1, 0, 0), (1, 0, 0), (0, 0, 0), (1, 0, 0)] [(1, 0, 0)] (fun ls st M => k86 (f_vi (f_nth ls 1)) (f_vi (f_nth ls 3)) (f_vi (f_nth ls 4)) (f_vi (f_nth ls 6)) (f_vi (f_nth st 0)) M))]) C qX12_tracef (f_kc_cons (f_pl_ok rfl (fun ls st M h => h86 _ _ _ _ _ M h)) f_kc_nil) 81 48 h
set_option maxRecDepth 20000 in
theorem BX12_trace_86 {sh : Nat → Nat × Nat} {t : Nat} {rm : Nat × Nat × Nat} {cs : Nat × Nat} {R : f_Rt} {c_X12_writeNumber : Int → e_M → (e_M → Prop) → Prop} {c_X12_write : Int → e_M → (e_M → Prop) → Prop} {k43 : Int → Int → Int → Int → Int → e_M → Prop} {x1 : Int} {x3 : Int} {x4 : Int} {x6 : Int} {xs0 : Int} {M : e_M} (C : f_Hy sh t yX12_trace rm cs 6 (lX12_trace c_X12_writeNumber c_X12_write) R) (h43 : ∀ (x1 : Int) (x3 : Int) (x4 : Int) (x5 : Int) (x6 : Int) (M : e_M), k43 x1 x3 x4 x5 x6 M → f_E sh t YX12_trace rm cs (f_Q sh t R) 43 [.inr (.inr (.inl (12, 123, 4456))), .inr (.inl x1), .inr (.inr (.inr ())), .inl x3, .inl x4, .inl x5, .inl x6] [] M) (h : VX12_trace_86 c_X12_writeNumber c_X12_write k43 (fun M => R none M) x1 x3 x4 x6 xs0 M) : f_E sh t YX12_trace rm cs (f_Q sh t R) 86 [.inr (.inr (.inl (12, 123, 4456))), .inr (.inl x1), .inr (.inr (.inr ())), .inl x3, .inl x4, .inr (.inr (.inr ())), .inl x6] [.inl xs0] M :=
  f_go (KC := f_kc [(43, f_pl [(4466, 12, 123), (2, 0, 0), (0, 0, 0), (1, 0, 0), (1, 0, 0), (1, 0, 0), (1, 0, 0)] [] (fun ls st M => k43 (f_vi (f_nth ls 1)) (f_vi (f_nth ls 3)) (f_vi (f_nth ls 4)) (f_vi (f_nth ls 5)) (f_vi (f_nth ls 6)) M))]) C qX12_tracef (f_kc_cons (f_pl_ok rfl (fun ls st M h => h43 _ _ _ _ _ M h)) f_kc_nil) 81 52 h
set_option maxRecDepth 20000 in
theorem BX12_trace_123 {sh : Nat → Nat × Nat} {t : Nat} {rm : Nat × Nat × Nat} {cs : Nat × Nat} {R : f_Rt} {c_X12_writeNumber : Int → e_M → (e_M → Prop) → Prop} {c_X12_write : Int → e_M → (e_M → Prop) → Prop} {k4 : Int → Int → e_M → Prop} {x1 : Int} {x3 : Int} {M : e_M} (C : f_Hy sh t yX12_trace rm cs 6 (lX12_trace c_X12_writeNumber c_X12_write) R) (h4 : ∀ (x1 : Int) (x3 : Int) (M : e_M), k4 x1 x3 M → f_E sh t YX12_trace rm cs (f_Q sh t R) 4 [.inr (.inr (.inl (12, 123, 4456))), .inr (.inl x1), .inr (.inr (.inr ())), .inl x3, .inr (.inr (.inr ())), .inr (.inr (.inr ())), .inr (.inr (.inr ()))] [] M) (h : VX12_trace_123 c_X12_writeNumber c_X12_write k4 (fun M => R none M) x1 x3 M) : f_E sh t YX12_trace rm cs (f_Q sh t R) 123 [.inr (.inr (.inl (12, 123, 4456))), .inr (.inl x1), .inr (.inr (.inr ())), .inl x3, .inr (.inr (.inr ())), .inr (.inr (.inr ())), .inr (.inr (.inr ()))] [] M :=
  f_go (KC := f_kc [(4, f_pl [(4466, 12, 123), (2, 0, 0), (0, 0, 0), (1, 0, 0), (0, 0, 0), (0, 0, 0), (0, 0, 0)] [] (fun ls st M => k4 (f_vi (f_nth ls 1)) (f_vi (f_nth ls 3)) M))]) C qX12_tracef (f_kc_cons (f_pl_ok rfl (fun ls st M h => h4 _ _ M h)) f_kc_nil) 81 73 h
set_option maxRecDepth 20000 in
theorem BX12_trace {sh : Nat → Nat × Nat} {t : Nat} {rm : Nat × Nat × Nat} {cs : Nat × Nat} {R : f_Rt} {c_X12_writeNumber : Int → e_M → (e_M → Prop) → Prop} {c_X12_write : Int → e_M → (e_M → Prop) → Prop} {k4 : Int → Int → e_M → Prop} {M : e_M} (C : f_Hy sh t yX12_trace rm cs 6 (lX12_trace c_X12_writeNumber c_X12_write) R) (h4 : ∀ (x1 : Int) (x3 : Int) (M : e_M), k4 x1 x3 M → f_E sh t YX12_trace rm cs (f_Q sh t R) 4 [.inr (.inr (.inl (12, 123, 4456))), .inr (.inl x1), .inr (.inr (.inr ())), .inl x3, .inr (.inr (.inr ())), .inr (.inr (.inr ())), .inr (.inr (.inr ()))] [] M) (h : VX12_trace c_X12_writeNumber c_X12_write k4 (fun M => R none M) M) : f_E sh t YX12_trace rm cs (f_Q sh t R) 0 [.inr (.inr (.inl (12, 123, 4456))), .inr (.inr (.inr ())), .inr (.inr (.inr ())), .inr (.inr (.inr ())), .inr (.inr (.inr ())), .inr (.inr (.inr ())), .inr (.inr (.inr ()))] [] M :=
  f_go (KC := f_kc [(4, f_pl [(4466, 12, 123), (2, 0, 0), (0, 0, 0), (1, 0, 0), (0, 0, 0), (0, 0, 0), (0, 0, 0)] [] (fun ls st M => k4 (f_vi (f_nth ls 1)) (f_vi (f_nth ls 3)) M))]) C qX12_tracef (f_kc_cons (f_pl_ok rfl (fun ls st M h => h4 _ _ M h)) f_kc_nil) 81 0 h
def WX12_trace_123 (H4 : Int → Int → e_M → Prop) (Q : e_M → Prop) (x1 : Int) (x3 : Int) (M : e_M) : Prop :=
  VX12_trace_123 WX12_writeNumber WX12_write H4 Q x1 x3 M
def WX12_trace_86 (H4 : Int → Int → e_M → Prop) (H43 : Int → Int → Int → Int → Int → e_M → Prop) (Q : e_M → Prop) (x1 : Int) (x3 : Int) (x4 : Int) (x6 : Int) (xs0 : Int) (M : e_M) : Prop :=
  VX12_trace_86 WX12_writeNumber WX12_write H43 Q x1 x3 x4 x6 xs0 M
def WX12_trace_81 (H4 : Int → Int → e_M → Prop) (H43 : Int → Int → Int → Int → Int → e_M → Prop) (Q : e_M → Prop) (x1 : Int) (x3 : Int) (x4 : Int) (x6 : Int) (M : e_M) : Prop :=
  VX12_trace_81 WX12_writeNumber WX12_write (WX12_trace_86 H4 H43 Q) Q x1 x3 x4 x6 M
def WX12_trace_43 (H4 : Int → Int → e_M → Prop) (Q : e_M → Prop) : Nat → Int → Int → Int → Int → Int → e_M → Prop
  | 0, _, _, _, _, _, _ => False
  | n + 1, x1, x3, x4, x5, x6, M =>
    VX12_trace_43 WX12_writeNumber WX12_write (WX12_trace_123 H4 Q) (WX12_trace_81 H4 (WX12_trace_43 H4 Q n) Q) (WX12_trace_86 H4 (WX12_trace_43 H4 Q n) Q) Q x1 x3 x4 x5 x6 M
def WX12_trace_4 (Q : e_M → Prop) : Nat → Int → Int → e_M → Prop
  | 0, _, _, _ => False
  | n + 1, x1, x3, M =>
    VX12_trace_4 WX12_writeNumber WX12_write (fun x1 x3 x4 x5 x6 M => ∃ j, WX12_trace_43 (WX12_trace_4 Q n) Q j x1 x3 x4 x5 x6 M) (WX12_trace_123 (WX12_trace_4 Q n) Q) Q x1 x3 M
def WX12_trace (M : e_M) (Q : e_M → Prop) : Prop :=
  VX12_trace WX12_writeNumber WX12_write (fun x1 x3 M => ∃ j, WX12_trace_4 Q j x1 x3 M) Q M
theorem PX12_trace_123 {sh : Nat → Nat × Nat} {t : Nat} {rm : Nat × Nat × Nat} {cs : Nat × Nat} {R : f_Rt} {H4 : Int → Int → e_M → Prop} {x1 : Int} {x3 : Int} {M : e_M} (C : f_Hy sh t yX12_trace rm cs 6 (lX12_trace WX12_writeNumber WX12_write) R) (g4 : ∀ (x1 : Int) (x3 : Int) (M : e_M), H4 x1 x3 M → f_E sh t YX12_trace rm cs (f_Q sh t R) 4 [.inr (.inr (.inl (12, 123, 4456))), .inr (.inl x1), .inr (.inr (.inr ())), .inl x3, .inr (.inr (.inr ())), .inr (.inr (.inr ())), .inr (.inr (.inr ()))] [] M) (h : WX12_trace_123 H4 (fun M => R none M) x1 x3 M) : f_E sh t YX12_trace rm cs (f_Q sh t R) 123 [.inr (.inr (.inl (12, 123, 4456))), .inr (.inl x1), .inr (.inr (.inr ())), .inl x3, .inr (.inr (.inr ())), .inr (.inr (.inr ())), .inr (.inr (.inr ()))] [] M :=
  BX12_trace_123 C g4 h
theorem PX12_trace_86 {sh : Nat → Nat × Nat} {t : Nat} {rm : Nat × Nat × Nat} {cs : Nat × Nat} {R : f_Rt} {H4 : Int → Int → e_M → Prop} {H43 : Int → Int → Int → Int → Int → e_M → Prop} {x1 : Int} {x3 : Int} {x4 : Int} {x6 : Int} {xs0 : Int} {M : e_M} (C : f_Hy sh t yX12_trace rm cs 6 (lX12_trace WX12_writeNumber WX12_write) R) (g4 : ∀ (x1 : Int) (x3 : Int) (M : e_M), H4 x1 x3 M → f_E sh t YX12_trace rm cs (f_Q sh t R) 4 [.inr (.inr (.inl (12, 123, 4456))), .inr (.inl x1), .inr (.inr (.inr ())), .inl x3, .inr (.inr (.inr ())), .inr (.inr (.inr ())), .inr (.inr (.inr ()))] [] M) (g43 : ∀ (x1 : Int) (x3 : Int) (x4 : Int) (x5 : Int) (x6 : Int) (M : e_M), H43 x1 x3 x4 x5 x6 M → f_E sh t YX12_trace rm cs (f_Q sh t R) 43 [.inr (.inr (.inl (12, 123, 4456))), .inr (.inl x1), .inr (.inr (.inr ())), .inl x3, .inl x4, .inl x5, .inl x6] [] M) (h : WX12_trace_86 H4 H43 (fun M => R none M) x1 x3 x4 x6 xs0 M) : f_E sh t YX12_trace rm cs (f_Q sh t R) 86 [.inr (.inr (.inl (12, 123, 4456))), .inr (.inl x1), .inr (.inr (.inr ())), .inl x3, .inl x4, .inr (.inr (.inr ())), .inl x6] [.inl xs0] M :=
  BX12_trace_86 C g43 h
theorem PX12_trace_81 {sh : Nat → Nat × Nat} {t : Nat} {rm : Nat × Nat × Nat} {cs : Nat × Nat} {R : f_Rt} {H4 : Int → Int → e_M → Prop} {H43 : Int → Int → Int → Int → Int → e_M → Prop} {x1 : Int} {x3 : Int} {x4 : Int} {x6 : Int} {M : e_M} (C : f_Hy sh t yX12_trace rm cs 6 (lX12_trace WX12_writeNumber WX12_write) R) (g4 : ∀ (x1 : Int) (x3 : Int) (M : e_M), H4 x1 x3 M → f_E sh t YX12_trace rm cs (f_Q sh t R) 4 [.inr (.inr (.inl (12, 123, 4456))), .inr (.inl x1), .inr (.inr (.inr ())), .inl x3, .inr (.inr (.inr ())), .inr (.inr (.inr ())), .inr (.inr (.inr ()))] [] M) (g43 : ∀ (x1 : Int) (x3 : Int) (x4 : Int) (x5 : Int) (x6 : Int) (M : e_M), H43 x1 x3 x4 x5 x6 M → f_E sh t YX12_trace rm cs (f_Q sh t R) 43 [.inr (.inr (.inl (12, 123, 4456))), .inr (.inl x1), .inr (.inr (.inr ())), .inl x3, .inl x4, .inl x5, .inl x6] [] M) (h : WX12_trace_81 H4 H43 (fun M => R none M) x1 x3 x4 x6 M) : f_E sh t YX12_trace rm cs (f_Q sh t R) 81 [.inr (.inr (.inl (12, 123, 4456))), .inr (.inl x1), .inr (.inr (.inr ())), .inl x3, .inl x4, .inr (.inr (.inr ())), .inl x6] [] M :=
  BX12_trace_81 C (fun x1 x3 x4 x6 xs0 M h => PX12_trace_86 C g4 g43 h) h
theorem PX12_trace_43 {sh : Nat → Nat × Nat} {t : Nat} {rm : Nat × Nat × Nat} {cs : Nat × Nat} {R : f_Rt} {H4 : Int → Int → e_M → Prop} (C : f_Hy sh t yX12_trace rm cs 6 (lX12_trace WX12_writeNumber WX12_write) R) (g4 : ∀ (x1 : Int) (x3 : Int) (M : e_M), H4 x1 x3 M → f_E sh t YX12_trace rm cs (f_Q sh t R) 4 [.inr (.inr (.inl (12, 123, 4456))), .inr (.inl x1), .inr (.inr (.inr ())), .inl x3, .inr (.inr (.inr ())), .inr (.inr (.inr ())), .inr (.inr (.inr ()))] [] M) : ∀ (n : Nat) (x1 : Int) (x3 : Int) (x4 : Int) (x5 : Int) (x6 : Int) (M : e_M), WX12_trace_43 H4 (fun M => R none M) n x1 x3 x4 x5 x6 M → f_E sh t YX12_trace rm cs (f_Q sh t R) 43 [.inr (.inr (.inl (12, 123, 4456))), .inr (.inl x1), .inr (.inr (.inr ())), .inl x3, .inl x4, .inl x5, .inl x6] [] M := by
  intro n
  induction n with
  | zero => intro x1 x3 x4 x5 x6 M h; exact h.elim
  | succ n ih => intro x1 x3 x4 x5 x6 M h; exact BX12_trace_43 C (fun x1 x3 M h => PX12_trace_123 C g4 h) (fun x1 x3 x4 x6 M h => PX12_trace_81 C g4 ih h) (fun x1 x3 x4 x6 xs0 M h => PX12_trace_86 C g4 ih h) h
theorem PX12_trace_4 {sh : Nat → Nat × Nat} {t : Nat} {rm : Nat × Nat × Nat} {cs : Nat × Nat} {R : f_Rt} (C : f_Hy sh t yX12_trace rm cs 6 (lX12_trace WX12_writeNumber WX12_write) R) : ∀ (n : Nat) (x1 : Int) (x3 : Int) (M : e_M), WX12_trace_4 (fun M => R none M) n x1 x3 M → f_E sh t YX12_trace rm cs (f_Q sh t R) 4 [.inr (.inr (.inl (12, 123, 4456))), .inr (.inl x1), .inr (.inr (.inr ())), .inl x3, .inr (.inr (.inr ())), .inr (.inr (.inr ())), .inr (.inr (.inr ()))] [] M := by
  intro n
  induction n with
  | zero => intro x1 x3 M h; exact h.elim
  | succ n ih => intro x1 x3 M h; exact BX12_trace_4 C (fun x1 x3 x4 x5 x6 M ⟨j, h⟩ => PX12_trace_43 C ih j _ _ _ _ _ _ h) (fun x1 x3 M h => PX12_trace_123 C ih h) h
theorem PX12_trace {sh : Nat → Nat × Nat} {t : Nat} {rm : Nat × Nat × Nat} {cs : Nat × Nat} {R : f_Rt} {M : e_M} (C : f_Hy sh t yX12_trace rm cs 6 (lX12_trace WX12_writeNumber WX12_write) R) (h : WX12_trace M (fun M => R none M)) : f_E sh t YX12_trace rm cs (f_Q sh t R) 0 [.inr (.inr (.inl (12, 123, 4456))), .inr (.inr (.inr ())), .inr (.inr (.inr ())), .inr (.inr (.inr ())), .inr (.inr (.inr ())), .inr (.inr (.inr ())), .inr (.inr (.inr ()))] [] M :=
  BX12_trace C (fun x1 x3 M ⟨j, h⟩ => PX12_trace_4 C j _ _ _ h) h
def wX12_trace : f_Wt := f_wm [(4466, 12, 123)] (fun ar M R => WX12_trace M (fun M => R none M))
theorem TX12_trace {sh : Nat → Nat × Nat} {t : Nat} : f_Mt sh t YX12_trace 6 (wX12_trace) :=
  f_Mt_of (k := 6) (Nat.le_of_ble_eq_true rfl) rfl rfl (fun ar M R rm cs h1 h2 h3 hX h => PX12_trace ⟨Nat.le_of_ble_eq_true rfl, h1, h2, h3, ⟨(f_Mt.up (Nat.le_of_ble_eq_true rfl) TX12_writeNumber), (f_Mt.up (Nat.le_of_ble_eq_true rfl) TX12_write), trivial⟩, hX⟩ h)
def VX12_goOver_7 (c_X12_isHere : Int → Int → e_M → (Int → Prop) → Prop) (c_X12_worked : Int → Int → Int → Int → e_M → (Int → e_M → Prop) → Prop) (c_X12_id : Int → Int → e_M → (Int → Prop) → Prop) (c_X12_writeName : Int → e_M → (e_M → Prop) → Prop) (c_X12_write : Int → e_M → (e_M → Prop) → Prop) (k168 : Int → Int → Int → e_M → Prop) (k78 : Int → Int → Int → e_M → Prop) (k97 : Int → Int → Int → Int → e_M → Prop) (Q : e_M → Prop) (x1 : Int) (x3 : Int) (x4 : Int) (M : e_M) : Prop :=
  ((0 ≤ (M 4456 115) ∧ (M 4456 115) < 7) ∧ (((M 4483 ((M 4456 115).toNat)) ≤ x4 → (∀ M1 : e_M, M1 = e_up M 4456 118 x1 → (Q M1))) ∧ (x4 < (M 4483 ((M 4456 115).toNat)) → (c_X12_isHere (M 4456 115) x4 M (fun r2 => ((r2 = 0 → (k168 x1 x3 x4 M)) ∧ (¬ r2 = 0 → (c_X12_worked (M 4456 110) (M 4456 109) (M 4456 115) x4 M (fun r3 M4 => ((¬ r3 = 0 → (((M4 4456 114) = 40 → (k78 x1 x3 x4 M4)) ∧ (¬ (M4 4456 114) = 40 → ((¬ (M4 4456 114) = 43 → (c_X12_worked 0 (M4 4456 110) (M4 4456 115) x4 M4 (fun r5 M6 => (k97 x1 x3 x4 r5 M6)))) ∧ ((M4 4456 114) = 43 → (k78 x1 x3 x4 M4)))))) ∧ (r3 = 0 → (k168 x1 x3 x4 M4))))))))))))
def VX12_goOver_78 (c_X12_isHere : Int → Int → e_M → (Int → Prop) → Prop) (c_X12_worked : Int → Int → Int → Int → e_M → (Int → e_M → Prop) → Prop) (c_X12_id : Int → Int → e_M → (Int → Prop) → Prop) (c_X12_writeName : Int → e_M → (e_M → Prop) → Prop) (c_X12_write : Int → e_M → (e_M → Prop) → Prop) (k97 : Int → Int → Int → Int → e_M → Prop) (Q : e_M → Prop) (x1 : Int) (x3 : Int) (x4 : Int) (M : e_M) : Prop :=
  (k97 x1 x3 x4 1 M)
def VX12_goOver_97 (c_X12_isHere : Int → Int → e_M → (Int → Prop) → Prop) (c_X12_worked : Int → Int → Int → Int → e_M → (Int → e_M → Prop) → Prop) (c_X12_id : Int → Int → e_M → (Int → Prop) → Prop) (c_X12_writeName : Int → e_M → (e_M → Prop) → Prop) (c_X12_write : Int → e_M → (e_M → Prop) → Prop) (k132 : Int → Int → e_M → Prop) (k119 : Int → Int → e_M → Prop) (Q : e_M → Prop) (x1 : Int) (x3 : Int) (x4 : Int) (xs0 : Int) (M : e_M) : Prop :=
  ((¬ (M 4456 114) = 42 → (k132 x4 (e_w64 (x1 + xs0)) M)) ∧ ((M 4456 114) = 42 → ((¬ x3 = 0 → (k119 x4 xs0 M)) ∧ (x3 = 0 → ((xs0 ≤ x1 → (k132 x4 x1 M)) ∧ (x1 < xs0 → (k119 x4 xs0 M)))))))
def VX12_goOver_119 (c_X12_isHere : Int → Int → e_M → (Int → Prop) → Prop) (c_X12_worked : Int → Int → Int → Int → e_M → (Int → e_M → Prop) → Prop) (c_X12_id : Int → Int → e_M → (Int → Prop) → Prop) (c_X12_writeName : Int → e_M → (e_M → Prop) → Prop) (c_X12_write : Int → e_M → (e_M → Prop) → Prop) (k132 : Int → Int → e_M → Prop) (Q : e_M → Prop) (x4 : Int) (x5 : Int) (M : e_M) : Prop :=
  (k132 x4 x5 M)
def VX12_goOver_132 (c_X12_isHere : Int → Int → e_M → (Int → Prop) → Prop) (c_X12_worked : Int → Int → Int → Int → e_M → (Int → e_M → Prop) → Prop) (c_X12_id : Int → Int → e_M → (Int → Prop) → Prop) (c_X12_writeName : Int → e_M → (e_M → Prop) → Prop) (c_X12_write : Int → e_M → (e_M → Prop) → Prop) (k168 : Int → Int → Int → e_M → Prop) (Q : e_M → Prop) (x4 : Int) (xs0 : Int) (M : e_M) : Prop :=
  ((¬ (M 4456 114) = 43 → (k168 xs0 0 x4 M)) ∧ ((M 4456 114) = 43 → (c_X12_id (M 4456 115) x4 M (fun r1 => ((0 ≤ r1 ∧ r1 < 560) ∧ (c_X12_writeName (M 4484 (r1.toNat)) M (fun M2 => (c_X12_write 32 M2 (fun M3 => (k168 xs0 0 x4 M3))))))))))
def VX12_goOver_168 (c_X12_isHere : Int → Int → e_M → (Int → Prop) → Prop) (c_X12_worked : Int → Int → Int → Int → e_M → (Int → e_M → Prop) → Prop) (c_X12_id : Int → Int → e_M → (Int → Prop) → Prop) (c_X12_writeName : Int → e_M → (e_M → Prop) → Prop) (c_X12_write : Int → e_M → (e_M → Prop) → Prop) (k7 : Int → Int → Int → e_M → Prop) (Q : e_M → Prop) (x1 : Int) (x3 : Int) (x4 : Int) (M : e_M) : Prop :=
  (k7 x1 x3 (e_w32 (x4 + 1)) M)
def VX12_goOver (c_X12_isHere : Int → Int → e_M → (Int → Prop) → Prop) (c_X12_worked : Int → Int → Int → Int → e_M → (Int → e_M → Prop) → Prop) (c_X12_id : Int → Int → e_M → (Int → Prop) → Prop) (c_X12_writeName : Int → e_M → (e_M → Prop) → Prop) (c_X12_write : Int → e_M → (e_M → Prop) → Prop) (k7 : Int → Int → Int → e_M → Prop) (Q : e_M → Prop) (M : e_M) : Prop :=
  (k7 0 1 0 M)
def yX12_goOver (i : Nat) : e_Y := x_get YX12_goOver [YX12_isHere, YX12_worked, YX12_id, YX12_writeName, YX12_write] i
def pX12_goOverf : List x_I := [(0, 1, 1, 0, 0, 0, []), (1, 6, 1, 1, 0, 0, []), (2, 0, 1, 0, 0, 1, []), (3, 5, 1, 3, 0, 0, []), (4, 0, 1, 0, 0, 0, []), (5, 5, 2, 4, 0, 0, []), (7, 49, 0, 0, 0, 0, []), (7, 2, 2, 4, 0, 0, []), (9, 4, 1, 0, 0, 0, []), (10, 25, 12, 50, 4, 0, [(0, 20, 7), (0, 1, 27)]), (13, 4, 1, 0, 0, 0, []), (14, 25, 12, 115, 0, 0, []), (17, 27, 0, 0, 0, 0, []), (18, 18, 174, 3, 94, 0, []), (21, 4, 1, 0, 0, 0, []), (22, 4, 1, 0, 0, 0, []), (23, 25, 12, 115, 0, 0, []), (26, 2, 2, 4, 0, 0, []), (28, 40, 0, 3, 14, 0, []), (31, 17, 168, 0, 91, 0, []), (34, 4, 1, 0, 0, 0, []), (35, 4, 1, 0, 0, 0, []), (36, 25, 12, 110, 0, 0, []), (39, 4, 1, 0, 0, 0, []), (40, 25, 12, 109, 0, 0, []), (43, 4, 1, 0, 0, 0, []), (44, 25, 12, 115, 0, 0, []), (47, 2, 2, 4, 0, 0, []), (49, 40, 1, 5, 14, 0, []), (52, 1, 1, 0, 0, 0, []), (53, 32, 60, 1, 33, 0, []), (57, 19, 168, 0, 91, 0, []), (60, 4, 1, 0, 0, 0, []), (61, 25, 12, 114, 0, 0, []), (64, 0, 2, 0, 0, 40, []), (66, 18, 78, 0, 41, 0, []), (69, 4, 1, 0, 0, 0, []), (70, 25, 12, 114, 0, 0, []), (73, 0, 2, 0, 0, 43, []), (75, 18, 82, 1, 44, 0, []), (78, 49, 0, 0, 0, 0, []), (78, 1, 1, 0, 0, 1, []), (79, 19, 97, 0, 52, 0, []), (82, 4, 1, 0, 0, 0, []), (83, 0, 1, 0, 0, 0, []), (84, 4, 1, 0, 0, 0, []), (85, 25, 12, 110, 0, 0, []), (88, 4, 1, 0, 0, 0, []), (89, 25, 12, 115, 0, 0, []), (92, 2, 2, 4, 0, 0, []), (94, 40, 1, 5, 14, 0, []), (97, 49, 0, 0, 0, 0, []), (97, 6, 2, 5, 0, 0, []), (99, 4, 1, 0, 0, 0, []), (100, 25, 12, 114, 0, 0, []), (103, 0, 2, 0, 0, 42, []), (105, 18, 128, 1, 68, 0, []), (108, 2, 1, 3, 0, 0, []), (109, 17, 119, 1, 63, 0, []), (112, 3, 2, 5, 0, 0, []), (114, 3, 1, 1, 0, 0, []), (115, 32, 124, 5, 66, 0, []), (119, 49, 0, 0, 0, 0, []), (119, 3, 2, 5, 0, 0, []), (121, 19, 132, 0, 71, 0, []), (124, 3, 1, 1, 0, 0, []), (125, 19, 132, 0, 71, 0, []), (128, 3, 1, 1, 0, 0, []), (129, 3, 2, 5, 0, 0, []), (131, 10, 0, 0, 0, 0, []), (132, 49, 0, 0, 0, 0, []), (132, 6, 1, 1, 0, 0, []), (133, 0, 1, 0, 0, 0, []), (134, 5, 1, 3, 0, 0, []), (135, 4, 1, 0, 0, 0, []), (136, 25, 12, 114, 0, 0, []), (139, 0, 2, 0, 0, 43, []), (141, 18, 168, 1, 91, 0, []), (144, 4, 1, 0, 0, 0, []), (145, 4, 1, 0, 0, 0, []), (146, 25, 12, 51, 4, 0, [(0, 23, 560), (0, 1, 28)]), (149, 4, 1, 0, 0, 0, []), (150, 25, 12, 115, 0, 0, []), (153, 2, 2, 4, 0, 0, []), (155, 40, 2, 2, 0, 0, []), (158, 27, 0, 1, 0, 0, []), (159, 40, 3, 2, 14, 0, []), (162, 4, 1, 0, 0, 0, []), (163, 0, 2, 0, 0, 32, []), (165, 40, 4, 2, 14, 0, []), (168, 49, 0, 0, 0, 0, []), (168, 8, 0, 4, 0, 1, []), (171, 19, 7, 0, 7, 0, []), (174, 4, 1, 0, 0, 0, []), (175, 3, 1, 1, 0, 0, []), (176, 26, 12, 118, 3, 0, []), (179, 44, 0, 0, 0, 0, [])]
set_option maxRecDepth 20000 in
theorem qX12_goOverf : f_all yX12_goOver YX12_goOver pX12_goOverf :=
  ⟨f_lconst (n := 0) (e_dx DX12_goOver_0 0 rfl) rfl,
  f_lstore_n (n := 1) (e_dx DX12_goOver_0 1 rfl) rfl (by decide),
  f_iconst (e_dx DX12_goOver_0 2 rfl) ⟨by decide, by decide⟩,
  f_istore_n (n := 3) (e_dx DX12_goOver_0 3 rfl) rfl (by decide),
  f_iconst (e_dx DX12_goOver_0 4 rfl) ⟨by decide, by decide⟩,
  f_istore (e_dx DX12_goOver_0 5 rfl) (by decide),
  trivial,
  f_iload (e_dx DX12_goOver_0 6 rfl),
  f_aload_n (n := 0) (e_dx DX12_goOver_0 7 rfl) rfl,
  f_getA (e_dx DX12_goOver_0 8 rfl) fX12_91 rfl (by decide) (Nat.le_of_ble_eq_true rfl) rfl (by decide),
  f_aload_n (n := 0) (e_dx DX12_goOver_0 9 rfl) rfl,
  f_getf (e_dx DX12_goOver_0 10 rfl) fX12_845 rfl (by decide) (by decide) (by decide),
  f_iaload (e_dx DX12_goOver_0 11 rfl),
  f_icmp_ge (e_dx DX12_goOver_0 12 rfl) rfl,
  f_aload_n (n := 0) (e_dx DX12_goOver_0 13 rfl) rfl,
  f_aload_n (n := 0) (e_dx DX12_goOver_0 14 rfl) rfl,
  f_getf (e_dx DX12_goOver_0 15 rfl) fX12_845 rfl (by decide) (by decide) (by decide),
  f_iload (e_dx DX12_goOver_0 16 rfl),
  x_callV (e_dx DX12_goOver_0 17 rfl) mwX12_isHere vwX12_isHere cX12_875 rfl,
  f_if_eq (e_dx DX12_goOver_0 18 rfl) rfl,
  f_aload_n (n := 0) (e_dx DX12_goOver_0 19 rfl) rfl,
  f_aload_n (n := 0) (e_dx DX12_goOver_0 20 rfl) rfl,
  f_getf (e_dx DX12_goOver_0 21 rfl) fX12_848 rfl (by decide) (by decide) (by decide),
  f_aload_n (n := 0) (e_dx DX12_goOver_0 22 rfl) rfl,
  f_getf (e_dx DX12_goOver_0 23 rfl) fX12_808 rfl (by decide) (by decide) (by decide),
  f_aload_n (n := 0) (e_dx DX12_goOver_0 24 rfl) rfl,
  f_getf (e_dx DX12_goOver_0 25 rfl) fX12_845 rfl (by decide) (by decide) (by decide),
  f_iload (e_dx DX12_goOver_0 26 rfl),
  x_callV (e_dx DX12_goOver_0 27 rfl) mwX12_worked vwX12_worked cX12_908 rfl,
  f_lconst (n := 0) (e_dx DX12_goOver_0 28 rfl) rfl,
  f_lif_ne (e_dx DX12_goOver_0 29 rfl) (e_dx DX12_goOver_0 30 rfl) rfl,
  f_g19 (e_dx DX12_goOver_0 31 rfl) rfl,
  f_aload_n (n := 0) (e_dx DX12_goOver_0 32 rfl) rfl,
  f_getf (e_dx DX12_goOver_0 33 rfl) fX12_857 rfl (by decide) (by decide) (by decide),
  f_bipush (e_dx DX12_goOver_0 34 rfl) ⟨by decide, by decide⟩,
  f_icmp_eq (e_dx DX12_goOver_0 35 rfl) rfl,
  f_aload_n (n := 0) (e_dx DX12_goOver_0 36 rfl) rfl,
  f_getf (e_dx DX12_goOver_0 37 rfl) fX12_857 rfl (by decide) (by decide) (by decide),
  f_bipush (e_dx DX12_goOver_0 38 rfl) ⟨by decide, by decide⟩,
  f_icmp_ne (e_dx DX12_goOver_0 39 rfl) rfl,
  trivial,
  f_lconst (n := 1) (e_dx DX12_goOver_1 0 rfl) rfl,
  f_g19 (e_dx DX12_goOver_1 1 rfl) rfl,
  f_aload_n (n := 0) (e_dx DX12_goOver_1 2 rfl) rfl,
  f_iconst (e_dx DX12_goOver_1 3 rfl) ⟨by decide, by decide⟩,
  f_aload_n (n := 0) (e_dx DX12_goOver_1 4 rfl) rfl,
  f_getf (e_dx DX12_goOver_1 5 rfl) fX12_848 rfl (by decide) (by decide) (by decide),
  f_aload_n (n := 0) (e_dx DX12_goOver_1 6 rfl) rfl,
  f_getf (e_dx DX12_goOver_1 7 rfl) fX12_845 rfl (by decide) (by decide) (by decide),
  f_iload (e_dx DX12_goOver_1 8 rfl),
  x_callV (e_dx DX12_goOver_1 9 rfl) mwX12_worked vwX12_worked cX12_908 rfl,
  trivial,
  f_lstore (e_dx DX12_goOver_1 10 rfl) (by decide),
  f_aload_n (n := 0) (e_dx DX12_goOver_1 11 rfl) rfl,
  f_getf (e_dx DX12_goOver_1 12 rfl) fX12_857 rfl (by decide) (by decide) (by decide),
  f_bipush (e_dx DX12_goOver_1 13 rfl) ⟨by decide, by decide⟩,
  f_icmp_ne (e_dx DX12_goOver_1 14 rfl) rfl,
  f_iload_n (n := 3) (e_dx DX12_goOver_1 15 rfl) rfl,
  f_if_ne (e_dx DX12_goOver_1 16 rfl) rfl,
  f_lload (e_dx DX12_goOver_1 17 rfl),
  f_lload_n (n := 1) (e_dx DX12_goOver_1 18 rfl) rfl,
  f_lif_le (e_dx DX12_goOver_1 19 rfl) (e_dx DX12_goOver_1 20 rfl) rfl,
  trivial,
  f_lload (e_dx DX12_goOver_1 21 rfl),
  f_g19 (e_dx DX12_goOver_1 22 rfl) rfl,
  f_lload_n (n := 1) (e_dx DX12_goOver_1 23 rfl) rfl,
  f_g19 (e_dx DX12_goOver_1 24 rfl) rfl,
  f_lload_n (n := 1) (e_dx DX12_goOver_1 25 rfl) rfl,
  f_lload (e_dx DX12_goOver_1 26 rfl),
  f_ladd (e_dx DX12_goOver_1 27 rfl),
  trivial,
  f_lstore_n (n := 1) (e_dx DX12_goOver_1 28 rfl) rfl (by decide),
  f_iconst (e_dx DX12_goOver_1 29 rfl) ⟨by decide, by decide⟩,
  f_istore_n (n := 3) (e_dx DX12_goOver_1 30 rfl) rfl (by decide),
  f_aload_n (n := 0) (e_dx DX12_goOver_1 31 rfl) rfl,
  f_getf (e_dx DX12_goOver_1 32 rfl) fX12_857 rfl (by decide) (by decide) (by decide),
  f_bipush (e_dx DX12_goOver_1 33 rfl) ⟨by decide, by decide⟩,
  f_icmp_ne (e_dx DX12_goOver_1 34 rfl) rfl,
  f_aload_n (n := 0) (e_dx DX12_goOver_1 35 rfl) rfl,
  f_aload_n (n := 0) (e_dx DX12_goOver_1 36 rfl) rfl,
  f_getA (e_dx DX12_goOver_1 37 rfl) fX12_94 rfl (by decide) (Nat.le_of_ble_eq_true rfl) rfl (by decide),
  f_aload_n (n := 0) (e_dx DX12_goOver_1 38 rfl) rfl,
  f_getf (e_dx DX12_goOver_1 39 rfl) fX12_845 rfl (by decide) (by decide) (by decide),
  f_iload (e_dx DX12_goOver_2 0 rfl),
  x_callS (e_dx DX12_goOver_2 1 rfl) mwX12_id cX12_540 swX12_id rfl,
  f_laload (e_dx DX12_goOver_2 2 rfl),
  x_callV (e_dx DX12_goOver_2 3 rfl) mwX12_writeName vwX12_writeName cX12_912 rfl,
  f_aload_n (n := 0) (e_dx DX12_goOver_2 4 rfl) rfl,
  f_bipush (e_dx DX12_goOver_2 5 rfl) ⟨by decide, by decide⟩,
  x_callV (e_dx DX12_goOver_2 6 rfl) mwX12_write vwX12_write cX12_916 rfl,
  trivial,
  f_g8 (e_dx DX12_goOver_2 7 rfl) ⟨by decide, by decide⟩,
  f_g19 (e_dx DX12_goOver_2 8 rfl) rfl,
  f_aload_n (n := 0) (e_dx DX12_goOver_2 9 rfl) rfl,
  f_lload_n (n := 1) (e_dx DX12_goOver_2 10 rfl) rfl,
  f_putn (e_dx DX12_goOver_2 11 rfl) fX12_919 (fun q hq => by cases hq; rfl) rfl (Or.inr (Or.inr rfl)) (by decide),
  ⟨(e_dx DX12_goOver_2 12 rfl), rfl⟩, trivial⟩
def lX12_goOver (c_X12_isHere : Int → Int → e_M → (Int → Prop) → Prop) (c_X12_worked : Int → Int → Int → Int → e_M → (Int → e_M → Prop) → Prop) (c_X12_id : Int → Int → e_M → (Int → Prop) → Prop) (c_X12_writeName : Int → e_M → (e_M → Prop) → Prop) (c_X12_write : Int → e_M → (e_M → Prop) → Prop) : List (Nat × f_Wt) := [(0, f_wm [(4466, 12, 123), (1, 0, 0), (1, 0, 0)] (fun ar M R => c_X12_isHere (f_vi (f_nth ar 1)) (f_vi (f_nth ar 2)) M (fun r => R (some (.inl r)) M))), (1, f_wm [(4466, 12, 123), (1, 0, 0), (1, 0, 0), (1, 0, 0), (1, 0, 0)] (fun ar M R => c_X12_worked (f_vi (f_nth ar 1)) (f_vi (f_nth ar 2)) (f_vi (f_nth ar 3)) (f_vi (f_nth ar 4)) M (fun r M => R (some (.inr (.inl r))) M))), (2, f_wm [(1, 0, 0), (1, 0, 0)] (fun ar M R => c_X12_id (f_vi (f_nth ar 0)) (f_vi (f_nth ar 1)) M (fun r => R (some (.inl r)) M))), (3, f_wm [(4466, 12, 123), (2, 0, 0)] (fun ar M R => c_X12_writeName (f_vi (f_nth ar 1)) M (fun M => R none M))), (4, f_wm [(4466, 12, 123), (1, 0, 0)] (fun ar M R => c_X12_write (f_vi (f_nth ar 1)) M (fun M => R none M)))]
set_option maxRecDepth 20000 in
theorem BX12_goOver_7 {sh : Nat → Nat × Nat} {t : Nat} {rm : Nat × Nat × Nat} {cs : Nat × Nat} {R : f_Rt} {c_X12_isHere : Int → Int → e_M → (Int → Prop) → Prop} {c_X12_worked : Int → Int → Int → Int → e_M → (Int → e_M → Prop) → Prop} {c_X12_id : Int → Int → e_M → (Int → Prop) → Prop} {c_X12_writeName : Int → e_M → (e_M → Prop) → Prop} {c_X12_write : Int → e_M → (e_M → Prop) → Prop} {k168 : Int → Int → Int → e_M → Prop} {k78 : Int → Int → Int → e_M → Prop} {k97 : Int → Int → Int → Int → e_M → Prop} {x1 : Int} {x3 : Int} {x4 : Int} {M : e_M} (C : f_Hy sh t yX12_goOver rm cs 11 (lX12_goOver c_X12_isHere c_X12_worked c_X12_id c_X12_writeName c_X12_write) R) (h168 : ∀ (x1 : Int) (x3 : Int) (x4 : Int) (M : e_M), k168 x1 x3 x4 M → f_E sh t YX12_goOver rm cs (f_Q sh t R) 168 [.inr (.inr (.inl (12, 123, 4456))), .inr (.inl x1), .inr (.inr (.inr ())), .inl x3, .inl x4, .inr (.inr (.inr ())), .inr (.inr (.inr ()))] [] M) (h78 : ∀ (x1 : Int) (x3 : Int) (x4 : Int) (M : e_M), k78 x1 x3 x4 M → f_E sh t YX12_goOver rm cs (f_Q sh t R) 78 [.inr (.inr (.inl (12, 123, 4456))), .inr (.inl x1), .inr (.inr (.inr ())), .inl x3, .inl x4, .inr (.inr (.inr ())), .inr (.inr (.inr ()))] [] M) (h97 : ∀ (x1 : Int) (x3 : Int) (x4 : Int) (xs0 : Int) (M : e_M), k97 x1 x3 x4 xs0 M → f_E sh t YX12_goOver rm cs (f_Q sh t R) 97 [.inr (.inr (.inl (12, 123, 4456))), .inr (.inl x1), .inr (.inr (.inr ())), .inl x3, .inl x4, .inr (.inr (.inr ())), .inr (.inr (.inr ()))] [.inr (.inl xs0)] M) (h : VX12_goOver_7 c_X12_isHere c_X12_worked c_X12_id c_X12_writeName c_X12_write k168 k78 k97 (fun M => R none M) x1 x3 x4 M) : f_E sh t YX12_goOver rm cs (f_Q sh t R) 7 [.inr (.inr (.inl (12, 123, 4456))), .inr (.inl x1), .inr (.inr (.inr ())), .inl x3, .inl x4, .inr (.inr (.inr ())), .inr (.inr (.inr ()))] [] M :=
  f_go (KC := f_kc [(168, f_pl [(4466, 12, 123), (2, 0, 0), (0, 0, 0), (1, 0, 0), (1, 0, 0), (0, 0, 0), (0, 0, 0)] [] (fun ls st M => k168 (f_vi (f_nth ls 1)) (f_vi (f_nth ls 3)) (f_vi (f_nth ls 4)) M)), (78, f_pl [(4466, 12, 123), (2, 0, 0), (0, 0, 0), (1, 0, 0), (1, 0, 0), (0, 0, 0), (0, 0, 0)] [] (fun ls st M => k78 (f_vi (f_nth ls 1)) (f_vi (f_nth ls 3)) (f_vi (f_nth ls 4)) M)), (97, f_pl [(4466, 12, 123), (2, 0, 0), (0, 0, 0), (1, 0, 0), (1, 0, 0), (0, 0, 0), (0, 0, 0)] [(2, 0, 0)] (fun ls st M => k97 (f_vi (f_nth ls 1)) (f_vi (f_nth ls 3)) (f_vi (f_nth ls 4)) (f_vi (f_nth st 0)) M))]) C qX12_goOverf (f_kc_cons (f_pl_ok rfl (fun ls st M h => h168 _ _ _ M h)) (f_kc_cons (f_pl_ok rfl (fun ls st M h => h78 _ _ _ M h)) (f_kc_cons (f_pl_ok rfl (fun ls st M h => h97 _ _ _ _ M h)) f_kc_nil))) 99 7 h
set_option maxRecDepth 20000 in
theorem BX12_goOver_78 {sh : Nat → Nat × Nat} {t : Nat} {rm : Nat × Nat × Nat} {cs : Nat × Nat} {R : f_Rt} {c_X12_isHere : Int → Int → e_M → (Int → Prop) → Prop} {c_X12_worked : Int → Int → Int → Int → e_M → (Int → e_M → Prop) → Prop} {c_X12_id : Int → Int → e_M → (Int → Prop) → Prop} {c_X12_writeName : Int → e_M → (e_M → Prop) → Prop} {c_X12_write : Int → e_M → (e_M → Prop) → Prop} {k97 : Int → Int → Int → Int → e_M → Prop} {x1 : Int} {x3 : Int} {x4 : Int} {M : e_M} (C : f_Hy sh t yX12_goOver rm cs 11 (lX12_goOver c_X12_isHere c_X12_worked c_X12_id c_X12_writeName c_X12_write) R) (h97 : ∀ (x1 : Int) (x3 : Int) (x4 : Int) (xs0 : Int) (M : e_M), k97 x1 x3 x4 xs0 M → f_E sh t YX12_goOver rm cs (f_Q sh t R) 97 [.inr (.inr (.inl (12, 123, 4456))), .inr (.inl x1), .inr (.inr (.inr ())), .inl x3, .inl x4, .inr (.inr (.inr ())), .inr (.inr (.inr ()))] [.inr (.inl xs0)] M) (h : VX12_goOver_78 c_X12_isHere c_X12_worked c_X12_id c_X12_writeName c_X12_write k97 (fun M => R none M) x1 x3 x4 M) : f_E sh t YX12_goOver rm cs (f_Q sh t R) 78 [.inr (.inr (.inl (12, 123, 4456))), .inr (.inl x1), .inr (.inr (.inr ())), .inl x3, .inl x4, .inr (.inr (.inr ())), .inr (.inr (.inr ()))] [] M :=
  f_go (KC := f_kc [(97, f_pl [(4466, 12, 123), (2, 0, 0), (0, 0, 0), (1, 0, 0), (1, 0, 0), (0, 0, 0), (0, 0, 0)] [(2, 0, 0)] (fun ls st M => k97 (f_vi (f_nth ls 1)) (f_vi (f_nth ls 3)) (f_vi (f_nth ls 4)) (f_vi (f_nth st 0)) M))]) C qX12_goOverf (f_kc_cons (f_pl_ok rfl (fun ls st M h => h97 _ _ _ _ M h)) f_kc_nil) 99 41 h
set_option maxRecDepth 20000 in
theorem BX12_goOver_97 {sh : Nat → Nat × Nat} {t : Nat} {rm : Nat × Nat × Nat} {cs : Nat × Nat} {R : f_Rt} {c_X12_isHere : Int → Int → e_M → (Int → Prop) → Prop} {c_X12_worked : Int → Int → Int → Int → e_M → (Int → e_M → Prop) → Prop} {c_X12_id : Int → Int → e_M → (Int → Prop) → Prop} {c_X12_writeName : Int → e_M → (e_M → Prop) → Prop} {c_X12_write : Int → e_M → (e_M → Prop) → Prop} {k132 : Int → Int → e_M → Prop} {k119 : Int → Int → e_M → Prop} {x1 : Int} {x3 : Int} {x4 : Int} {xs0 : Int} {M : e_M} (C : f_Hy sh t yX12_goOver rm cs 11 (lX12_goOver c_X12_isHere c_X12_worked c_X12_id c_X12_writeName c_X12_write) R) (h132 : ∀ (x4 : Int) (xs0 : Int) (M : e_M), k132 x4 xs0 M → f_E sh t YX12_goOver rm cs (f_Q sh t R) 132 [.inr (.inr (.inl (12, 123, 4456))), .inr (.inr (.inr ())), .inr (.inr (.inr ())), .inr (.inr (.inr ())), .inl x4, .inr (.inr (.inr ())), .inr (.inr (.inr ()))] [.inr (.inl xs0)] M) (h119 : ∀ (x4 : Int) (x5 : Int) (M : e_M), k119 x4 x5 M → f_E sh t YX12_goOver rm cs (f_Q sh t R) 119 [.inr (.inr (.inl (12, 123, 4456))), .inr (.inr (.inr ())), .inr (.inr (.inr ())), .inr (.inr (.inr ())), .inl x4, .inr (.inl x5), .inr (.inr (.inr ()))] [] M) (h : VX12_goOver_97 c_X12_isHere c_X12_worked c_X12_id c_X12_writeName c_X12_write k132 k119 (fun M => R none M) x1 x3 x4 xs0 M) : f_E sh t YX12_goOver rm cs (f_Q sh t R) 97 [.inr (.inr (.inl (12, 123, 4456))), .inr (.inl x1), .inr (.inr (.inr ())), .inl x3, .inl x4, .inr (.inr (.inr ())), .inr (.inr (.inr ()))] [.inr (.inl xs0)] M :=
  f_go (KC := f_kc [(132, f_pl [(4466, 12, 123), (0, 0, 0), (0, 0, 0), (0, 0, 0), (1, 0, 0), (0, 0, 0), (0, 0, 0)] [(2, 0, 0)] (fun ls st M => k132 (f_vi (f_nth ls 4)) (f_vi (f_nth st 0)) M)), (119, f_pl [(4466, 12, 123), (0, 0, 0), (0, 0, 0), (0, 0, 0), (1, 0, 0), (2, 0, 0), (0, 0, 0)] [] (fun ls st M => k119 (f_vi (f_nth ls 4)) (f_vi (f_nth ls 5)) M))]) C qX12_goOverf (f_kc_cons (f_pl_ok rfl (fun ls st M h => h132 _ _ M h)) (f_kc_cons (f_pl_ok rfl (fun ls st M h => h119 _ _ M h)) f_kc_nil)) 99 52 h
set_option maxRecDepth 20000 in
theorem BX12_goOver_119 {sh : Nat → Nat × Nat} {t : Nat} {rm : Nat × Nat × Nat} {cs : Nat × Nat} {R : f_Rt} {c_X12_isHere : Int → Int → e_M → (Int → Prop) → Prop} {c_X12_worked : Int → Int → Int → Int → e_M → (Int → e_M → Prop) → Prop} {c_X12_id : Int → Int → e_M → (Int → Prop) → Prop} {c_X12_writeName : Int → e_M → (e_M → Prop) → Prop} {c_X12_write : Int → e_M → (e_M → Prop) → Prop} {k132 : Int → Int → e_M → Prop} {x4 : Int} {x5 : Int} {M : e_M} (C : f_Hy sh t yX12_goOver rm cs 11 (lX12_goOver c_X12_isHere c_X12_worked c_X12_id c_X12_writeName c_X12_write) R) (h132 : ∀ (x4 : Int) (xs0 : Int) (M : e_M), k132 x4 xs0 M → f_E sh t YX12_goOver rm cs (f_Q sh t R) 132 [.inr (.inr (.inl (12, 123, 4456))), .inr (.inr (.inr ())), .inr (.inr (.inr ())), .inr (.inr (.inr ())), .inl x4, .inr (.inr (.inr ())), .inr (.inr (.inr ()))] [.inr (.inl xs0)] M) (h : VX12_goOver_119 c_X12_isHere c_X12_worked c_X12_id c_X12_writeName c_X12_write k132 (fun M => R none M) x4 x5 M) : f_E sh t YX12_goOver rm cs (f_Q sh t R) 119 [.inr (.inr (.inl (12, 123, 4456))), .inr (.inr (.inr ())), .inr (.inr (.inr ())), .inr (.inr (.inr ())), .inl x4, .inr (.inl x5), .inr (.inr (.inr ()))] [] M :=
  f_go (KC := f_kc [(132, f_pl [(4466, 12, 123), (0, 0, 0), (0, 0, 0), (0, 0, 0), (1, 0, 0), (0, 0, 0), (0, 0, 0)] [(2, 0, 0)] (fun ls st M => k132 (f_vi (f_nth ls 4)) (f_vi (f_nth st 0)) M))]) C qX12_goOverf (f_kc_cons (f_pl_ok rfl (fun ls st M h => h132 _ _ M h)) f_kc_nil) 99 63 h
set_option maxRecDepth 20000 in
theorem BX12_goOver_132 {sh : Nat → Nat × Nat} {t : Nat} {rm : Nat × Nat × Nat} {cs : Nat × Nat} {R : f_Rt} {c_X12_isHere : Int → Int → e_M → (Int → Prop) → Prop} {c_X12_worked : Int → Int → Int → Int → e_M → (Int → e_M → Prop) → Prop} {c_X12_id : Int → Int → e_M → (Int → Prop) → Prop} {c_X12_writeName : Int → e_M → (e_M → Prop) → Prop} {c_X12_write : Int → e_M → (e_M → Prop) → Prop} {k168 : Int → Int → Int → e_M → Prop} {x4 : Int} {xs0 : Int} {M : e_M} (C : f_Hy sh t yX12_goOver rm cs 11 (lX12_goOver c_X12_isHere c_X12_worked c_X12_id c_X12_writeName c_X12_write) R) (h168 : ∀ (x1 : Int) (x3 : Int) (x4 : Int) (M : e_M), k168 x1 x3 x4 M → f_E sh t YX12_goOver rm cs (f_Q sh t R) 168 [.inr (.inr (.inl (12, 123, 4456))), .inr (.inl x1), .inr (.inr (.inr ())), .inl x3, .inl x4, .inr (.inr (.inr ())), .inr (.inr (.inr ()))] [] M) (h : VX12_goOver_132 c_X12_isHere c_X12_worked c_X12_id c_X12_writeName c_X12_write k168 (fun M => R none M) x4 xs0 M) : f_E sh t YX12_goOver rm cs (f_Q sh t R) 132 [.inr (.inr (.inl (12, 123, 4456))), .inr (.inr (.inr ())), .inr (.inr (.inr ())), .inr (.inr (.inr ())), .inl x4, .inr (.inr (.inr ())), .inr (.inr (.inr ()))] [.inr (.inl xs0)] M :=
  f_go (KC := f_kc [(168, f_pl [(4466, 12, 123), (2, 0, 0), (0, 0, 0), (1, 0, 0), (1, 0, 0), (0, 0, 0), (0, 0, 0)] [] (fun ls st M => k168 (f_vi (f_nth ls 1)) (f_vi (f_nth ls 3)) (f_vi (f_nth ls 4)) M))]) C qX12_goOverf (f_kc_cons (f_pl_ok rfl (fun ls st M h => h168 _ _ _ M h)) f_kc_nil) 99 71 h
set_option maxRecDepth 20000 in
theorem BX12_goOver_168 {sh : Nat → Nat × Nat} {t : Nat} {rm : Nat × Nat × Nat} {cs : Nat × Nat} {R : f_Rt} {c_X12_isHere : Int → Int → e_M → (Int → Prop) → Prop} {c_X12_worked : Int → Int → Int → Int → e_M → (Int → e_M → Prop) → Prop} {c_X12_id : Int → Int → e_M → (Int → Prop) → Prop} {c_X12_writeName : Int → e_M → (e_M → Prop) → Prop} {c_X12_write : Int → e_M → (e_M → Prop) → Prop} {k7 : Int → Int → Int → e_M → Prop} {x1 : Int} {x3 : Int} {x4 : Int} {M : e_M} (C : f_Hy sh t yX12_goOver rm cs 11 (lX12_goOver c_X12_isHere c_X12_worked c_X12_id c_X12_writeName c_X12_write) R) (h7 : ∀ (x1 : Int) (x3 : Int) (x4 : Int) (M : e_M), k7 x1 x3 x4 M → f_E sh t YX12_goOver rm cs (f_Q sh t R) 7 [.inr (.inr (.inl (12, 123, 4456))), .inr (.inl x1), .inr (.inr (.inr ())), .inl x3, .inl x4, .inr (.inr (.inr ())), .inr (.inr (.inr ()))] [] M) (h : VX12_goOver_168 c_X12_isHere c_X12_worked c_X12_id c_X12_writeName c_X12_write k7 (fun M => R none M) x1 x3 x4 M) : f_E sh t YX12_goOver rm cs (f_Q sh t R) 168 [.inr (.inr (.inl (12, 123, 4456))), .inr (.inl x1), .inr (.inr (.inr ())), .inl x3, .inl x4, .inr (.inr (.inr ())), .inr (.inr (.inr ()))] [] M :=
  f_go (KC := f_kc [(7, f_pl [(4466, 12, 123), (2, 0, 0), (0, 0, 0), (1, 0, 0), (1, 0, 0), (0, 0, 0), (0, 0, 0)] [] (fun ls st M => k7 (f_vi (f_nth ls 1)) (f_vi (f_nth ls 3)) (f_vi (f_nth ls 4)) M))]) C qX12_goOverf (f_kc_cons (f_pl_ok rfl (fun ls st M h => h7 _ _ _ M h)) f_kc_nil) 99 91 h
set_option maxRecDepth 20000 in
theorem BX12_goOver {sh : Nat → Nat × Nat} {t : Nat} {rm : Nat × Nat × Nat} {cs : Nat × Nat} {R : f_Rt} {c_X12_isHere : Int → Int → e_M → (Int → Prop) → Prop} {c_X12_worked : Int → Int → Int → Int → e_M → (Int → e_M → Prop) → Prop} {c_X12_id : Int → Int → e_M → (Int → Prop) → Prop} {c_X12_writeName : Int → e_M → (e_M → Prop) → Prop} {c_X12_write : Int → e_M → (e_M → Prop) → Prop} {k7 : Int → Int → Int → e_M → Prop} {M : e_M} (C : f_Hy sh t yX12_goOver rm cs 11 (lX12_goOver c_X12_isHere c_X12_worked c_X12_id c_X12_writeName c_X12_write) R) (h7 : ∀ (x1 : Int) (x3 : Int) (x4 : Int) (M : e_M), k7 x1 x3 x4 M → f_E sh t YX12_goOver rm cs (f_Q sh t R) 7 [.inr (.inr (.inl (12, 123, 4456))), .inr (.inl x1), .inr (.inr (.inr ())), .inl x3, .inl x4, .inr (.inr (.inr ())), .inr (.inr (.inr ()))] [] M) (h : VX12_goOver c_X12_isHere c_X12_worked c_X12_id c_X12_writeName c_X12_write k7 (fun M => R none M) M) : f_E sh t YX12_goOver rm cs (f_Q sh t R) 0 [.inr (.inr (.inl (12, 123, 4456))), .inr (.inr (.inr ())), .inr (.inr (.inr ())), .inr (.inr (.inr ())), .inr (.inr (.inr ())), .inr (.inr (.inr ())), .inr (.inr (.inr ()))] [] M :=
  f_go (KC := f_kc [(7, f_pl [(4466, 12, 123), (2, 0, 0), (0, 0, 0), (1, 0, 0), (1, 0, 0), (0, 0, 0), (0, 0, 0)] [] (fun ls st M => k7 (f_vi (f_nth ls 1)) (f_vi (f_nth ls 3)) (f_vi (f_nth ls 4)) M))]) C qX12_goOverf (f_kc_cons (f_pl_ok rfl (fun ls st M h => h7 _ _ _ M h)) f_kc_nil) 99 0 h
def WX12_goOver_168 (H7 : Int → Int → Int → e_M → Prop) (Q : e_M → Prop) (x1 : Int) (x3 : Int) (x4 : Int) (M : e_M) : Prop :=
  VX12_goOver_168 WX12_isHere WX12_worked WX12_id WX12_writeName WX12_write H7 Q x1 x3 x4 M
def WX12_goOver_132 (H7 : Int → Int → Int → e_M → Prop) (Q : e_M → Prop) (x4 : Int) (xs0 : Int) (M : e_M) : Prop :=
  VX12_goOver_132 WX12_isHere WX12_worked WX12_id WX12_writeName WX12_write (WX12_goOver_168 H7 Q) Q x4 xs0 M
def WX12_goOver_119 (H7 : Int → Int → Int → e_M → Prop) (Q : e_M → Prop) (x4 : Int) (x5 : Int) (M : e_M) : Prop :=
  VX12_goOver_119 WX12_isHere WX12_worked WX12_id WX12_writeName WX12_write (WX12_goOver_132 H7 Q) Q x4 x5 M
def WX12_goOver_97 (H7 : Int → Int → Int → e_M → Prop) (Q : e_M → Prop) (x1 : Int) (x3 : Int) (x4 : Int) (xs0 : Int) (M : e_M) : Prop :=
  VX12_goOver_97 WX12_isHere WX12_worked WX12_id WX12_writeName WX12_write (WX12_goOver_132 H7 Q) (WX12_goOver_119 H7 Q) Q x1 x3 x4 xs0 M
def WX12_goOver_78 (H7 : Int → Int → Int → e_M → Prop) (Q : e_M → Prop) (x1 : Int) (x3 : Int) (x4 : Int) (M : e_M) : Prop :=
  VX12_goOver_78 WX12_isHere WX12_worked WX12_id WX12_writeName WX12_write (WX12_goOver_97 H7 Q) Q x1 x3 x4 M
def WX12_goOver_7 (Q : e_M → Prop) : Nat → Int → Int → Int → e_M → Prop
  | 0, _, _, _, _ => False
  | n + 1, x1, x3, x4, M =>
    VX12_goOver_7 WX12_isHere WX12_worked WX12_id WX12_writeName WX12_write (WX12_goOver_168 (WX12_goOver_7 Q n) Q) (WX12_goOver_78 (WX12_goOver_7 Q n) Q) (WX12_goOver_97 (WX12_goOver_7 Q n) Q) Q x1 x3 x4 M
def WX12_goOver (M : e_M) (Q : e_M → Prop) : Prop :=
  VX12_goOver WX12_isHere WX12_worked WX12_id WX12_writeName WX12_write (fun x1 x3 x4 M => ∃ j, WX12_goOver_7 Q j x1 x3 x4 M) Q M
theorem PX12_goOver_168 {sh : Nat → Nat × Nat} {t : Nat} {rm : Nat × Nat × Nat} {cs : Nat × Nat} {R : f_Rt} {H7 : Int → Int → Int → e_M → Prop} {x1 : Int} {x3 : Int} {x4 : Int} {M : e_M} (C : f_Hy sh t yX12_goOver rm cs 11 (lX12_goOver WX12_isHere WX12_worked WX12_id WX12_writeName WX12_write) R) (g7 : ∀ (x1 : Int) (x3 : Int) (x4 : Int) (M : e_M), H7 x1 x3 x4 M → f_E sh t YX12_goOver rm cs (f_Q sh t R) 7 [.inr (.inr (.inl (12, 123, 4456))), .inr (.inl x1), .inr (.inr (.inr ())), .inl x3, .inl x4, .inr (.inr (.inr ())), .inr (.inr (.inr ()))] [] M) (h : WX12_goOver_168 H7 (fun M => R none M) x1 x3 x4 M) : f_E sh t YX12_goOver rm cs (f_Q sh t R) 168 [.inr (.inr (.inl (12, 123, 4456))), .inr (.inl x1), .inr (.inr (.inr ())), .inl x3, .inl x4, .inr (.inr (.inr ())), .inr (.inr (.inr ()))] [] M :=
  BX12_goOver_168 C g7 h
theorem PX12_goOver_132 {sh : Nat → Nat × Nat} {t : Nat} {rm : Nat × Nat × Nat} {cs : Nat × Nat} {R : f_Rt} {H7 : Int → Int → Int → e_M → Prop} {x4 : Int} {xs0 : Int} {M : e_M} (C : f_Hy sh t yX12_goOver rm cs 11 (lX12_goOver WX12_isHere WX12_worked WX12_id WX12_writeName WX12_write) R) (g7 : ∀ (x1 : Int) (x3 : Int) (x4 : Int) (M : e_M), H7 x1 x3 x4 M → f_E sh t YX12_goOver rm cs (f_Q sh t R) 7 [.inr (.inr (.inl (12, 123, 4456))), .inr (.inl x1), .inr (.inr (.inr ())), .inl x3, .inl x4, .inr (.inr (.inr ())), .inr (.inr (.inr ()))] [] M) (h : WX12_goOver_132 H7 (fun M => R none M) x4 xs0 M) : f_E sh t YX12_goOver rm cs (f_Q sh t R) 132 [.inr (.inr (.inl (12, 123, 4456))), .inr (.inr (.inr ())), .inr (.inr (.inr ())), .inr (.inr (.inr ())), .inl x4, .inr (.inr (.inr ())), .inr (.inr (.inr ()))] [.inr (.inl xs0)] M :=
  BX12_goOver_132 C (fun x1 x3 x4 M h => PX12_goOver_168 C g7 h) h
theorem PX12_goOver_119 {sh : Nat → Nat × Nat} {t : Nat} {rm : Nat × Nat × Nat} {cs : Nat × Nat} {R : f_Rt} {H7 : Int → Int → Int → e_M → Prop} {x4 : Int} {x5 : Int} {M : e_M} (C : f_Hy sh t yX12_goOver rm cs 11 (lX12_goOver WX12_isHere WX12_worked WX12_id WX12_writeName WX12_write) R) (g7 : ∀ (x1 : Int) (x3 : Int) (x4 : Int) (M : e_M), H7 x1 x3 x4 M → f_E sh t YX12_goOver rm cs (f_Q sh t R) 7 [.inr (.inr (.inl (12, 123, 4456))), .inr (.inl x1), .inr (.inr (.inr ())), .inl x3, .inl x4, .inr (.inr (.inr ())), .inr (.inr (.inr ()))] [] M) (h : WX12_goOver_119 H7 (fun M => R none M) x4 x5 M) : f_E sh t YX12_goOver rm cs (f_Q sh t R) 119 [.inr (.inr (.inl (12, 123, 4456))), .inr (.inr (.inr ())), .inr (.inr (.inr ())), .inr (.inr (.inr ())), .inl x4, .inr (.inl x5), .inr (.inr (.inr ()))] [] M :=
  BX12_goOver_119 C (fun x4 xs0 M h => PX12_goOver_132 C g7 h) h
theorem PX12_goOver_97 {sh : Nat → Nat × Nat} {t : Nat} {rm : Nat × Nat × Nat} {cs : Nat × Nat} {R : f_Rt} {H7 : Int → Int → Int → e_M → Prop} {x1 : Int} {x3 : Int} {x4 : Int} {xs0 : Int} {M : e_M} (C : f_Hy sh t yX12_goOver rm cs 11 (lX12_goOver WX12_isHere WX12_worked WX12_id WX12_writeName WX12_write) R) (g7 : ∀ (x1 : Int) (x3 : Int) (x4 : Int) (M : e_M), H7 x1 x3 x4 M → f_E sh t YX12_goOver rm cs (f_Q sh t R) 7 [.inr (.inr (.inl (12, 123, 4456))), .inr (.inl x1), .inr (.inr (.inr ())), .inl x3, .inl x4, .inr (.inr (.inr ())), .inr (.inr (.inr ()))] [] M) (h : WX12_goOver_97 H7 (fun M => R none M) x1 x3 x4 xs0 M) : f_E sh t YX12_goOver rm cs (f_Q sh t R) 97 [.inr (.inr (.inl (12, 123, 4456))), .inr (.inl x1), .inr (.inr (.inr ())), .inl x3, .inl x4, .inr (.inr (.inr ())), .inr (.inr (.inr ()))] [.inr (.inl xs0)] M :=
  BX12_goOver_97 C (fun x4 xs0 M h => PX12_goOver_132 C g7 h) (fun x4 x5 M h => PX12_goOver_119 C g7 h) h
theorem PX12_goOver_78 {sh : Nat → Nat × Nat} {t : Nat} {rm : Nat × Nat × Nat} {cs : Nat × Nat} {R : f_Rt} {H7 : Int → Int → Int → e_M → Prop} {x1 : Int} {x3 : Int} {x4 : Int} {M : e_M} (C : f_Hy sh t yX12_goOver rm cs 11 (lX12_goOver WX12_isHere WX12_worked WX12_id WX12_writeName WX12_write) R) (g7 : ∀ (x1 : Int) (x3 : Int) (x4 : Int) (M : e_M), H7 x1 x3 x4 M → f_E sh t YX12_goOver rm cs (f_Q sh t R) 7 [.inr (.inr (.inl (12, 123, 4456))), .inr (.inl x1), .inr (.inr (.inr ())), .inl x3, .inl x4, .inr (.inr (.inr ())), .inr (.inr (.inr ()))] [] M) (h : WX12_goOver_78 H7 (fun M => R none M) x1 x3 x4 M) : f_E sh t YX12_goOver rm cs (f_Q sh t R) 78 [.inr (.inr (.inl (12, 123, 4456))), .inr (.inl x1), .inr (.inr (.inr ())), .inl x3, .inl x4, .inr (.inr (.inr ())), .inr (.inr (.inr ()))] [] M :=
  BX12_goOver_78 C (fun x1 x3 x4 xs0 M h => PX12_goOver_97 C g7 h) h
theorem PX12_goOver_7 {sh : Nat → Nat × Nat} {t : Nat} {rm : Nat × Nat × Nat} {cs : Nat × Nat} {R : f_Rt} (C : f_Hy sh t yX12_goOver rm cs 11 (lX12_goOver WX12_isHere WX12_worked WX12_id WX12_writeName WX12_write) R) : ∀ (n : Nat) (x1 : Int) (x3 : Int) (x4 : Int) (M : e_M), WX12_goOver_7 (fun M => R none M) n x1 x3 x4 M → f_E sh t YX12_goOver rm cs (f_Q sh t R) 7 [.inr (.inr (.inl (12, 123, 4456))), .inr (.inl x1), .inr (.inr (.inr ())), .inl x3, .inl x4, .inr (.inr (.inr ())), .inr (.inr (.inr ()))] [] M := by
  intro n
  induction n with
  | zero => intro x1 x3 x4 M h; exact h.elim
  | succ n ih => intro x1 x3 x4 M h; exact BX12_goOver_7 C (fun x1 x3 x4 M h => PX12_goOver_168 C ih h) (fun x1 x3 x4 M h => PX12_goOver_78 C ih h) (fun x1 x3 x4 xs0 M h => PX12_goOver_97 C ih h) h
theorem PX12_goOver {sh : Nat → Nat × Nat} {t : Nat} {rm : Nat × Nat × Nat} {cs : Nat × Nat} {R : f_Rt} {M : e_M} (C : f_Hy sh t yX12_goOver rm cs 11 (lX12_goOver WX12_isHere WX12_worked WX12_id WX12_writeName WX12_write) R) (h : WX12_goOver M (fun M => R none M)) : f_E sh t YX12_goOver rm cs (f_Q sh t R) 0 [.inr (.inr (.inl (12, 123, 4456))), .inr (.inr (.inr ())), .inr (.inr (.inr ())), .inr (.inr (.inr ())), .inr (.inr (.inr ())), .inr (.inr (.inr ())), .inr (.inr (.inr ()))] [] M :=
  BX12_goOver C (fun x1 x3 x4 M ⟨j, h⟩ => PX12_goOver_7 C j _ _ _ _ h) h
def wX12_goOver : f_Wt := f_wm [(4466, 12, 123)] (fun ar M R => WX12_goOver M (fun M => R none M))
theorem TX12_goOver {sh : Nat → Nat × Nat} {t : Nat} : f_Mt sh t YX12_goOver 11 (wX12_goOver) :=
  f_Mt_of (k := 6) (Nat.le_of_ble_eq_true rfl) rfl rfl (fun ar M R rm cs h1 h2 h3 hX h => PX12_goOver ⟨Nat.le_of_ble_eq_true rfl, h1, h2, h3, ⟨(f_Mt.up (Nat.le_of_ble_eq_true rfl) TX12_isHere), (f_Mt.up (Nat.le_of_ble_eq_true rfl) TX12_worked), (f_Mt.up (Nat.le_of_ble_eq_true rfl) TX12_id), (f_Mt.up (Nat.le_of_ble_eq_true rfl) TX12_writeName), (f_Mt.up (Nat.le_of_ble_eq_true rfl) TX12_write), trivial⟩, hX⟩ h)
def VX12_ask_23 (c_X12_begins : e_M → (e_M → Prop) → Prop) (c_X12_question : e_M → (Int → e_M → Prop) → Prop) (c_X12_stops : e_M → (Int → e_M → Prop) → Prop) (c_X12_look : Int → Int → e_M → (e_M → Prop) → Prop) (c_X12_show : e_M → (e_M → Prop) → Prop) (c_X12_trace : e_M → (e_M → Prop) → Prop) (c_X12_goOver : e_M → (e_M → Prop) → Prop) (Q : Int → e_M → Prop) (M : e_M) : Prop :=
  (Q (e_w32 ((-1 : Int) - (M 4456 13))) M)
def VX12_ask (c_X12_begins : e_M → (e_M → Prop) → Prop) (c_X12_question : e_M → (Int → e_M → Prop) → Prop) (c_X12_stops : e_M → (Int → e_M → Prop) → Prop) (c_X12_look : Int → Int → e_M → (e_M → Prop) → Prop) (c_X12_show : e_M → (e_M → Prop) → Prop) (c_X12_trace : e_M → (e_M → Prop) → Prop) (c_X12_goOver : e_M → (e_M → Prop) → Prop) (k23 : e_M → Prop) (Q : Int → e_M → Prop) (M : e_M) : Prop :=
  (∀ M1 : e_M, M1 = e_up M 4456 121 0 → (c_X12_begins M1 (fun M2 => (c_X12_question M2 (fun r3 M4 => ((r3 = 0 → (k23 M4)) ∧ (¬ r3 = 0 → (c_X12_stops M4 (fun r5 M6 => ((¬ r5 = 0 → (c_X12_look (M6 4456 112) (M6 4456 113) M6 (fun M7 => (∀ M8 : e_M, M8 = e_up M7 4456 120 0 → ((¬ (M8 4456 114) = 44 → ((¬ (M8 4456 114) = 45 → (c_X12_goOver M8 (fun M9 => (Q 0 M9)))) ∧ ((M8 4456 114) = 45 → (c_X12_trace M8 (fun M10 => (Q 0 M10)))))) ∧ ((M8 4456 114) = 44 → (c_X12_show M8 (fun M11 => (Q 0 M11))))))))) ∧ (r5 = 0 → (k23 M6))))))))))))
def yX12_ask (i : Nat) : e_Y := x_get YX12_ask [YX12_begins, YX12_question, YX12_stops, YX12_look, YX12_show, YX12_trace, YX12_goOver] i
def pX12_askf : List x_I := [(0, 4, 1, 0, 0, 0, []), (1, 0, 1, 0, 0, 0, []), (2, 26, 12, 121, 0, 0, []), (5, 4, 1, 0, 0, 0, []), (6, 40, 0, 1, 14, 0, []), (9, 4, 1, 0, 0, 0, []), (10, 40, 1, 1, 14, 0, []), (13, 17, 23, 0, 12, 0, []), (16, 4, 1, 0, 0, 0, []), (17, 40, 2, 1, 14, 0, []), (20, 17, 30, 1, 18, 0, []), (23, 49, 0, 0, 0, 0, []), (23, 0, 1, 0, 0, (-1), []), (24, 4, 1, 0, 0, 0, []), (25, 25, 12, 13, 0, 0, []), (28, 9, 0, 1, 0, 0, []), (29, 41, 0, 0, 0, 0, []), (30, 4, 1, 0, 0, 0, []), (31, 4, 1, 0, 0, 0, []), (32, 25, 12, 112, 0, 0, []), (35, 4, 1, 0, 0, 0, []), (36, 25, 12, 113, 0, 0, []), (39, 40, 3, 3, 14, 0, []), (42, 4, 1, 0, 0, 0, []), (43, 0, 1, 0, 0, 0, []), (44, 26, 12, 120, 0, 0, []), (47, 4, 1, 0, 0, 0, []), (48, 25, 12, 114, 0, 0, []), (51, 0, 2, 0, 0, 44, []), (53, 18, 63, 1, 34, 0, []), (56, 4, 1, 0, 0, 0, []), (57, 40, 4, 1, 14, 0, []), (60, 19, 83, 0, 43, 0, []), (63, 4, 1, 0, 0, 0, []), (64, 25, 12, 114, 0, 0, []), (67, 0, 2, 0, 0, 45, []), (69, 18, 79, 1, 41, 0, []), (72, 4, 1, 0, 0, 0, []), (73, 40, 5, 1, 14, 0, []), (76, 19, 83, 0, 43, 0, []), (79, 4, 1, 0, 0, 0, []), (80, 40, 6, 1, 14, 0, []), (83, 0, 1, 0, 0, 0, []), (84, 41, 0, 0, 0, 0, [])]
set_option maxRecDepth 20000 in
theorem qX12_askf : f_all yX12_ask YX12_ask pX12_askf :=
  ⟨f_aload_n (n := 0) (e_dx DX12_ask_0 0 rfl) rfl,
  f_iconst (e_dx DX12_ask_0 1 rfl) ⟨by decide, by decide⟩,
  f_putn (e_dx DX12_ask_0 2 rfl) fX12_773 (fun q hq => by cases hq; rfl) rfl (Or.inl rfl) (by decide),
  f_aload_n (n := 0) (e_dx DX12_ask_0 3 rfl) rfl,
  x_callV (e_dx DX12_ask_0 4 rfl) mwX12_begins vwX12_begins cX12_793 rfl,
  f_aload_n (n := 0) (e_dx DX12_ask_0 5 rfl) rfl,
  x_callV (e_dx DX12_ask_0 6 rfl) mwX12_question vwX12_question cX12_893 rfl,
  f_if_eq (e_dx DX12_ask_0 7 rfl) rfl,
  f_aload_n (n := 0) (e_dx DX12_ask_0 8 rfl) rfl,
  x_callV (e_dx DX12_ask_0 9 rfl) mwX12_stops vwX12_stops cX12_787 rfl,
  f_if_ne (e_dx DX12_ask_0 10 rfl) rfl,
  trivial,
  f_iconst (e_dx DX12_ask_0 11 rfl) ⟨by decide, by decide⟩,
  f_aload_n (n := 0) (e_dx DX12_ask_0 12 rfl) rfl,
  f_getf (e_dx DX12_ask_0 13 rfl) fX12_339 rfl (by decide) (by decide) (by decide),
  f_isub (e_dx DX12_ask_0 14 rfl),
  ⟨(e_dx DX12_ask_0 15 rfl), rfl⟩,
  f_aload_n (n := 0) (e_dx DX12_ask_0 16 rfl) rfl,
  f_aload_n (n := 0) (e_dx DX12_ask_0 17 rfl) rfl,
  f_getf (e_dx DX12_ask_0 18 rfl) fX12_851 rfl (by decide) (by decide) (by decide),
  f_aload_n (n := 0) (e_dx DX12_ask_0 19 rfl) rfl,
  f_getf (e_dx DX12_ask_0 20 rfl) fX12_854 rfl (by decide) (by decide) (by decide),
  x_callV (e_dx DX12_ask_0 21 rfl) mwX12_look vwX12_look cX12_805 rfl,
  f_aload_n (n := 0) (e_dx DX12_ask_0 22 rfl) rfl,
  f_iconst (e_dx DX12_ask_0 23 rfl) ⟨by decide, by decide⟩,
  f_putn (e_dx DX12_ask_0 24 rfl) fX12_896 (fun q hq => by cases hq; rfl) rfl (Or.inl rfl) (by decide),
  f_aload_n (n := 0) (e_dx DX12_ask_0 25 rfl) rfl,
  f_getf (e_dx DX12_ask_0 26 rfl) fX12_857 rfl (by decide) (by decide) (by decide),
  f_bipush (e_dx DX12_ask_0 27 rfl) ⟨by decide, by decide⟩,
  f_icmp_ne (e_dx DX12_ask_0 28 rfl) rfl,
  f_aload_n (n := 0) (e_dx DX12_ask_0 29 rfl) rfl,
  x_callV (e_dx DX12_ask_0 30 rfl) mwX12_show vwX12_show cX12_899 rfl,
  f_g19 (e_dx DX12_ask_0 31 rfl) rfl,
  f_aload_n (n := 0) (e_dx DX12_ask_0 32 rfl) rfl,
  f_getf (e_dx DX12_ask_0 33 rfl) fX12_857 rfl (by decide) (by decide) (by decide),
  f_bipush (e_dx DX12_ask_0 34 rfl) ⟨by decide, by decide⟩,
  f_icmp_ne (e_dx DX12_ask_0 35 rfl) rfl,
  f_aload_n (n := 0) (e_dx DX12_ask_0 36 rfl) rfl,
  x_callV (e_dx DX12_ask_0 37 rfl) mwX12_trace vwX12_trace cX12_902 rfl,
  f_g19 (e_dx DX12_ask_0 38 rfl) rfl,
  f_aload_n (n := 0) (e_dx DX12_ask_0 39 rfl) rfl,
  x_callV (e_dx DX12_ask_1 0 rfl) mwX12_goOver vwX12_goOver cX12_905 rfl,
  f_iconst (e_dx DX12_ask_1 1 rfl) ⟨by decide, by decide⟩,
  ⟨(e_dx DX12_ask_1 2 rfl), rfl⟩, trivial⟩
def lX12_ask (c_X12_begins : e_M → (e_M → Prop) → Prop) (c_X12_question : e_M → (Int → e_M → Prop) → Prop) (c_X12_stops : e_M → (Int → e_M → Prop) → Prop) (c_X12_look : Int → Int → e_M → (e_M → Prop) → Prop) (c_X12_show : e_M → (e_M → Prop) → Prop) (c_X12_trace : e_M → (e_M → Prop) → Prop) (c_X12_goOver : e_M → (e_M → Prop) → Prop) : List (Nat × f_Wt) := [(0, f_wm [(4466, 12, 123)] (fun ar M R => c_X12_begins  M (fun M => R none M))), (1, f_wm [(4466, 12, 123)] (fun ar M R => c_X12_question  M (fun r M => R (some (.inl r)) M))), (2, f_wm [(4466, 12, 123)] (fun ar M R => c_X12_stops  M (fun r M => R (some (.inl r)) M))), (3, f_wm [(4466, 12, 123), (1, 0, 0), (1, 0, 0)] (fun ar M R => c_X12_look (f_vi (f_nth ar 1)) (f_vi (f_nth ar 2)) M (fun M => R none M))), (4, f_wm [(4466, 12, 123)] (fun ar M R => c_X12_show  M (fun M => R none M))), (5, f_wm [(4466, 12, 123)] (fun ar M R => c_X12_trace  M (fun M => R none M))), (6, f_wm [(4466, 12, 123)] (fun ar M R => c_X12_goOver  M (fun M => R none M)))]
set_option maxRecDepth 20000 in
theorem BX12_ask_23 {sh : Nat → Nat × Nat} {t : Nat} {rm : Nat × Nat × Nat} {cs : Nat × Nat} {R : f_Rt} {c_X12_begins : e_M → (e_M → Prop) → Prop} {c_X12_question : e_M → (Int → e_M → Prop) → Prop} {c_X12_stops : e_M → (Int → e_M → Prop) → Prop} {c_X12_look : Int → Int → e_M → (e_M → Prop) → Prop} {c_X12_show : e_M → (e_M → Prop) → Prop} {c_X12_trace : e_M → (e_M → Prop) → Prop} {c_X12_goOver : e_M → (e_M → Prop) → Prop} {M : e_M} (C : f_Hy sh t yX12_ask rm cs 108 (lX12_ask c_X12_begins c_X12_question c_X12_stops c_X12_look c_X12_show c_X12_trace c_X12_goOver) R) (h : VX12_ask_23 c_X12_begins c_X12_question c_X12_stops c_X12_look c_X12_show c_X12_trace c_X12_goOver (fun r M => R (some (.inl r)) M) M) : f_E sh t YX12_ask rm cs (f_Q sh t R) 23 [.inr (.inr (.inl (12, 123, 4456)))] [] M :=
  f_go (KC := f_kc []) C qX12_askf f_kc_nil 46 12 h
set_option maxRecDepth 20000 in
theorem BX12_ask {sh : Nat → Nat × Nat} {t : Nat} {rm : Nat × Nat × Nat} {cs : Nat × Nat} {R : f_Rt} {c_X12_begins : e_M → (e_M → Prop) → Prop} {c_X12_question : e_M → (Int → e_M → Prop) → Prop} {c_X12_stops : e_M → (Int → e_M → Prop) → Prop} {c_X12_look : Int → Int → e_M → (e_M → Prop) → Prop} {c_X12_show : e_M → (e_M → Prop) → Prop} {c_X12_trace : e_M → (e_M → Prop) → Prop} {c_X12_goOver : e_M → (e_M → Prop) → Prop} {k23 : e_M → Prop} {M : e_M} (C : f_Hy sh t yX12_ask rm cs 108 (lX12_ask c_X12_begins c_X12_question c_X12_stops c_X12_look c_X12_show c_X12_trace c_X12_goOver) R) (h23 : ∀ (M : e_M), k23 M → f_E sh t YX12_ask rm cs (f_Q sh t R) 23 [.inr (.inr (.inl (12, 123, 4456)))] [] M) (h : VX12_ask c_X12_begins c_X12_question c_X12_stops c_X12_look c_X12_show c_X12_trace c_X12_goOver k23 (fun r M => R (some (.inl r)) M) M) : f_E sh t YX12_ask rm cs (f_Q sh t R) 0 [.inr (.inr (.inl (12, 123, 4456)))] [] M :=
  f_go (KC := f_kc [(23, f_pl [(4466, 12, 123)] [] (fun ls st M => k23 M))]) C qX12_askf (f_kc_cons (f_pl_ok rfl (fun ls st M h => h23  M h)) f_kc_nil) 46 0 h
def WX12_ask_23 (Q : Int → e_M → Prop) (M : e_M) : Prop :=
  VX12_ask_23 WX12_begins WX12_question WX12_stops WX12_look WX12_show WX12_trace WX12_goOver Q M
def WX12_ask (M : e_M) (Q : Int → e_M → Prop) : Prop :=
  VX12_ask WX12_begins WX12_question WX12_stops WX12_look WX12_show WX12_trace WX12_goOver (WX12_ask_23 Q) Q M
theorem PX12_ask_23 {sh : Nat → Nat × Nat} {t : Nat} {rm : Nat × Nat × Nat} {cs : Nat × Nat} {R : f_Rt} {M : e_M} (C : f_Hy sh t yX12_ask rm cs 108 (lX12_ask WX12_begins WX12_question WX12_stops WX12_look WX12_show WX12_trace WX12_goOver) R) (h : WX12_ask_23 (fun r M => R (some (.inl r)) M) M) : f_E sh t YX12_ask rm cs (f_Q sh t R) 23 [.inr (.inr (.inl (12, 123, 4456)))] [] M :=
  BX12_ask_23 C h
theorem PX12_ask {sh : Nat → Nat × Nat} {t : Nat} {rm : Nat × Nat × Nat} {cs : Nat × Nat} {R : f_Rt} {M : e_M} (C : f_Hy sh t yX12_ask rm cs 108 (lX12_ask WX12_begins WX12_question WX12_stops WX12_look WX12_show WX12_trace WX12_goOver) R) (h : WX12_ask M (fun r M => R (some (.inl r)) M)) : f_E sh t YX12_ask rm cs (f_Q sh t R) 0 [.inr (.inr (.inl (12, 123, 4456)))] [] M :=
  BX12_ask C (fun M h => PX12_ask_23 C h) h
def wX12_ask : f_Wt := f_wm [(4466, 12, 123)] (fun ar M R => WX12_ask M (fun r M => R (some (.inl r)) M))
theorem TX12_ask {sh : Nat → Nat × Nat} {t : Nat} : f_Mt sh t YX12_ask 108 (wX12_ask) :=
  f_Mt_of (k := 0) (Nat.le_of_ble_eq_true rfl) rfl rfl (fun ar M R rm cs h1 h2 h3 hX h => PX12_ask ⟨Nat.le_of_ble_eq_true rfl, h1, h2, h3, ⟨(f_Mt.up (Nat.le_of_ble_eq_true rfl) TX12_begins), (f_Mt.up (Nat.le_of_ble_eq_true rfl) TX12_question), (f_Mt.up (Nat.le_of_ble_eq_true rfl) TX12_stops), (f_Mt.up (Nat.le_of_ble_eq_true rfl) TX12_look), (f_Mt.up (Nat.le_of_ble_eq_true rfl) TX12_show), (f_Mt.up (Nat.le_of_ble_eq_true rfl) TX12_trace), (f_Mt.up (Nat.le_of_ble_eq_true rfl) TX12_goOver), trivial⟩, hX⟩ h)
def VX12_answer (Q : Int → e_M → Prop) (M : e_M) : Prop :=
  (∀ M1 : e_M, M1 = e_up M 4456 121 0 → (Q (M1 4456 118) M1))
def yX12_answer (i : Nat) : e_Y := x_get YX12_answer [] i
def pX12_answerf : List x_I := [(0, 4, 1, 0, 0, 0, []), (1, 0, 1, 0, 0, 0, []), (2, 26, 12, 121, 0, 0, []), (5, 4, 1, 0, 0, 0, []), (6, 25, 12, 118, 3, 0, []), (9, 43, 0, 0, 0, 0, [])]
set_option maxRecDepth 20000 in
theorem qX12_answerf : f_all yX12_answer YX12_answer pX12_answerf :=
  ⟨f_aload_n (n := 0) (e_dx DX12_answer_0 0 rfl) rfl,
  f_iconst (e_dx DX12_answer_0 1 rfl) ⟨by decide, by decide⟩,
  f_putn (e_dx DX12_answer_0 2 rfl) fX12_773 (fun q hq => by cases hq; rfl) rfl (Or.inl rfl) (by decide),
  f_aload_n (n := 0) (e_dx DX12_answer_0 3 rfl) rfl,
  f_getL (e_dx DX12_answer_0 4 rfl) fX12_919 rfl (by decide),
  ⟨(e_dx DX12_answer_0 5 rfl), rfl⟩, trivial⟩
def lX12_answer : List (Nat × f_Wt) := []
set_option maxRecDepth 20000 in
theorem BX12_answer {sh : Nat → Nat × Nat} {t : Nat} {rm : Nat × Nat × Nat} {cs : Nat × Nat} {R : f_Rt} {M : e_M} (C : f_Hy sh t yX12_answer rm cs 4 (lX12_answer) R) (h : VX12_answer (fun r M => R (some (.inr (.inl r))) M) M) : f_E sh t YX12_answer rm cs (f_Q sh t R) 0 [.inr (.inr (.inl (12, 123, 4456)))] [] M :=
  f_go (KC := f_kc []) C qX12_answerf f_kc_nil 8 0 h
def WX12_answer (M : e_M) (Q : Int → e_M → Prop) : Prop :=
  VX12_answer Q M
theorem PX12_answer {sh : Nat → Nat × Nat} {t : Nat} {rm : Nat × Nat × Nat} {cs : Nat × Nat} {R : f_Rt} {M : e_M} (C : f_Hy sh t yX12_answer rm cs 4 (lX12_answer) R) (h : WX12_answer M (fun r M => R (some (.inr (.inl r))) M)) : f_E sh t YX12_answer rm cs (f_Q sh t R) 0 [.inr (.inr (.inl (12, 123, 4456)))] [] M :=
  BX12_answer C h
def wX12_answer : f_Wt := f_wm [(4466, 12, 123)] (fun ar M R => WX12_answer M (fun r M => R (some (.inr (.inl r))) M))
theorem TX12_answer {sh : Nat → Nat × Nat} {t : Nat} : f_Mt sh t YX12_answer 4 (wX12_answer) :=
  f_Mt_of (k := 0) (Nat.le_of_ble_eq_true rfl) rfl rfl (fun ar M R rm cs h1 h2 h3 hX h => PX12_answer ⟨Nat.le_of_ble_eq_true rfl, h1, h2, h3, trivial, hX⟩ h)
def VX12_thrown (Q : Int → Prop) (M : e_M) : Prop :=
  (Q (M 4456 121))
def yX12_thrown (i : Nat) : e_Y := x_get YX12_thrown [] i
def pX12_thrownf : List x_I := [(0, 4, 1, 0, 0, 0, []), (1, 25, 12, 121, 0, 0, []), (4, 41, 0, 0, 0, 0, [])]
set_option maxRecDepth 20000 in
theorem qX12_thrownf : f_all yX12_thrown YX12_thrown pX12_thrownf :=
  ⟨f_aload_n (n := 0) (e_dx DX12_thrown_0 0 rfl) rfl,
  f_getf (e_dx DX12_thrown_0 1 rfl) fX12_773 rfl (by decide) (by decide) (by decide),
  ⟨(e_dx DX12_thrown_0 2 rfl), rfl⟩, trivial⟩
def lX12_thrown : List (Nat × f_Wt) := []
set_option maxRecDepth 20000 in
theorem BX12_thrown {sh : Nat → Nat × Nat} {t : Nat} {rm : Nat × Nat × Nat} {cs : Nat × Nat} {R : f_Rt} {M : e_M} (C : f_Hy sh t yX12_thrown rm cs 4 (lX12_thrown) R) (h : VX12_thrown (fun r => R (some (.inl r)) M) M) : f_E sh t YX12_thrown rm cs (f_Q sh t R) 0 [.inr (.inr (.inl (12, 123, 4456)))] [] M :=
  f_go (KC := f_kc []) C qX12_thrownf f_kc_nil 5 0 h
def WX12_thrown (M : e_M) (Q : Int → Prop) : Prop :=
  VX12_thrown Q M
theorem PX12_thrown {sh : Nat → Nat × Nat} {t : Nat} {rm : Nat × Nat × Nat} {cs : Nat × Nat} {R : f_Rt} {M : e_M} (C : f_Hy sh t yX12_thrown rm cs 4 (lX12_thrown) R) (h : WX12_thrown M (fun r => R (some (.inl r)) M)) : f_E sh t YX12_thrown rm cs (f_Q sh t R) 0 [.inr (.inr (.inl (12, 123, 4456)))] [] M :=
  BX12_thrown C h
def wX12_thrown : f_Wt := f_wm [(4466, 12, 123)] (fun ar M R => WX12_thrown M (fun r => R (some (.inl r)) M))
theorem TX12_thrown {sh : Nat → Nat × Nat} {t : Nat} : f_Mt sh t YX12_thrown 4 (wX12_thrown) :=
  f_Mt_of (k := 0) (Nat.le_of_ble_eq_true rfl) rfl rfl (fun ar M R rm cs h1 h2 h3 hX h => PX12_thrown ⟨Nat.le_of_ble_eq_true rfl, h1, h2, h3, trivial, hX⟩ h)
def VX12_throwsIf_10 (Q : Int → e_M → Prop) (x1 : Int) (xs1 : Int) (M : e_M) : Prop :=
  (∀ M1 : e_M, M1 = e_up M 4456 121 xs1 → ((x1 = 0 ∨ x1 = 1) ∧ Q x1 M1))
def VX12_throwsIf (k10 : Int → Int → e_M → Prop) (Q : Int → e_M → Prop) (x1 : Int) (M : e_M) : Prop :=
  ((x1 = 0 → (k10 x1 0 M)) ∧ (¬ x1 = 0 → (k10 x1 1 M)))
def yX12_throwsIf (i : Nat) : e_Y := x_get YX12_throwsIf [] i
def pX12_throwsIff : List x_I := [(0, 4, 1, 0, 0, 0, []), (1, 2, 1, 1, 0, 0, []), (2, 17, 9, 0, 6, 0, []), (5, 0, 1, 0, 0, 1, []), (6, 19, 10, 0, 7, 0, []), (9, 0, 1, 0, 0, 0, []), (10, 49, 0, 0, 0, 0, []), (10, 26, 12, 121, 0, 0, []), (13, 2, 1, 1, 0, 0, []), (14, 42, 0, 0, 0, 0, [])]
set_option maxRecDepth 20000 in
theorem qX12_throwsIff : f_all yX12_throwsIf YX12_throwsIf pX12_throwsIff :=
  ⟨f_aload_n (n := 0) (e_dx DX12_throwsIf_0 0 rfl) rfl,
  f_iload_n (n := 1) (e_dx DX12_throwsIf_0 1 rfl) rfl,
  f_if_eq (e_dx DX12_throwsIf_0 2 rfl) rfl,
  f_iconst (e_dx DX12_throwsIf_0 3 rfl) ⟨by decide, by decide⟩,
  f_g19 (e_dx DX12_throwsIf_0 4 rfl) rfl,
  f_iconst (e_dx DX12_throwsIf_0 5 rfl) ⟨by decide, by decide⟩,
  trivial,
  f_putn (e_dx DX12_throwsIf_0 6 rfl) fX12_773 (fun q hq => by cases hq; rfl) rfl (Or.inl rfl) (by decide),
  f_iload_n (n := 1) (e_dx DX12_throwsIf_0 7 rfl) rfl,
  ⟨(e_dx DX12_throwsIf_0 8 rfl), rfl⟩, trivial⟩
def lX12_throwsIf : List (Nat × f_Wt) := []
set_option maxRecDepth 20000 in
theorem BX12_throwsIf_10 {sh : Nat → Nat × Nat} {t : Nat} {rm : Nat × Nat × Nat} {cs : Nat × Nat} {R : f_Rt} {x1 : Int} {xs1 : Int} {M : e_M} (C : f_Hy sh t yX12_throwsIf rm cs 4 (lX12_throwsIf) R) (h : VX12_throwsIf_10 (fun r M => R (some (.inl r)) M) x1 xs1 M) : f_E sh t YX12_throwsIf rm cs (f_Q sh t R) 10 [.inr (.inr (.inr ())), .inl x1] [.inl xs1, .inr (.inr (.inl (12, 123, 4456)))] M :=
  f_go (KC := f_kc []) C qX12_throwsIff f_kc_nil 12 7 h
set_option maxRecDepth 20000 in
theorem BX12_throwsIf {sh : Nat → Nat × Nat} {t : Nat} {rm : Nat × Nat × Nat} {cs : Nat × Nat} {R : f_Rt} {k10 : Int → Int → e_M → Prop} {x1 : Int} {M : e_M} (C : f_Hy sh t yX12_throwsIf rm cs 4 (lX12_throwsIf) R) (h10 : ∀ (x1 : Int) (xs1 : Int) (M : e_M), k10 x1 xs1 M → f_E sh t YX12_throwsIf rm cs (f_Q sh t R) 10 [.inr (.inr (.inr ())), .inl x1] [.inl xs1, .inr (.inr (.inl (12, 123, 4456)))] M) (h : VX12_throwsIf k10 (fun r M => R (some (.inl r)) M) x1 M) : f_E sh t YX12_throwsIf rm cs (f_Q sh t R) 0 [.inr (.inr (.inl (12, 123, 4456))), .inl x1] [] M :=
  f_go (KC := f_kc [(10, f_pl [(0, 0, 0), (1, 0, 0)] [(1, 0, 0), (4466, 12, 123)] (fun ls st M => k10 (f_vi (f_nth ls 1)) (f_vi (f_nth st 0)) M))]) C qX12_throwsIff (f_kc_cons (f_pl_ok rfl (fun ls st M h => h10 _ _ M h)) f_kc_nil) 12 0 h
def WX12_throwsIf_10 (Q : Int → e_M → Prop) (x1 : Int) (xs1 : Int) (M : e_M) : Prop :=
  VX12_throwsIf_10 Q x1 xs1 M
def WX12_throwsIf (x1 : Int) (M : e_M) (Q : Int → e_M → Prop) : Prop :=
  VX12_throwsIf (WX12_throwsIf_10 Q) Q x1 M
theorem PX12_throwsIf_10 {sh : Nat → Nat × Nat} {t : Nat} {rm : Nat × Nat × Nat} {cs : Nat × Nat} {R : f_Rt} {x1 : Int} {xs1 : Int} {M : e_M} (C : f_Hy sh t yX12_throwsIf rm cs 4 (lX12_throwsIf) R) (h : WX12_throwsIf_10 (fun r M => R (some (.inl r)) M) x1 xs1 M) : f_E sh t YX12_throwsIf rm cs (f_Q sh t R) 10 [.inr (.inr (.inr ())), .inl x1] [.inl xs1, .inr (.inr (.inl (12, 123, 4456)))] M :=
  BX12_throwsIf_10 C h
theorem PX12_throwsIf {sh : Nat → Nat × Nat} {t : Nat} {rm : Nat × Nat × Nat} {cs : Nat × Nat} {R : f_Rt} {x1 : Int} {M : e_M} (C : f_Hy sh t yX12_throwsIf rm cs 4 (lX12_throwsIf) R) (h : WX12_throwsIf x1 M (fun r M => R (some (.inl r)) M)) : f_E sh t YX12_throwsIf rm cs (f_Q sh t R) 0 [.inr (.inr (.inl (12, 123, 4456))), .inl x1] [] M :=
  BX12_throwsIf C (fun x1 xs1 M h => PX12_throwsIf_10 C h) h
def wX12_throwsIf : f_Wt := f_wm [(4466, 12, 123), (1, 0, 0)] (fun ar M R => WX12_throwsIf (f_vi (f_nth ar 1)) M (fun r M => R (some (.inl r)) M))
theorem TX12_throwsIf {sh : Nat → Nat × Nat} {t : Nat} : f_Mt sh t YX12_throwsIf 4 (wX12_throwsIf) :=
  f_Mt_of (k := 0) (Nat.le_of_ble_eq_true rfl) rfl rfl (fun ar M R rm cs h1 h2 h3 hX h => PX12_throwsIf ⟨Nat.le_of_ble_eq_true rfl, h1, h2, h3, trivial, hX⟩ h)
def VX12_octet_20 (c_X12_throwsIf : Int → e_M → (Int → e_M → Prop) → Prop) (k25 : Int → Int → e_M → Prop) (Q : Int → e_M → Prop) (x1 : Int) (M : e_M) : Prop :=
  (k25 x1 1 M)
def VX12_octet_25 (c_X12_throwsIf : Int → e_M → (Int → e_M → Prop) → Prop) (Q : Int → e_M → Prop) (x1 : Int) (xs1 : Int) (M : e_M) : Prop :=
  (c_X12_throwsIf xs1 M (fun r1 M2 => ((r1 = 0 → ((0 ≤ x1 ∧ x1 < 2000) ∧ (Q (M2 4532 (x1.toNat)) M2))) ∧ (¬ r1 = 0 → (Q 0 M2)))))
def VX12_octet (c_X12_throwsIf : Int → e_M → (Int → e_M → Prop) → Prop) (k20 : Int → e_M → Prop) (k25 : Int → Int → e_M → Prop) (Q : Int → e_M → Prop) (x1 : Int) (M : e_M) : Prop :=
  ((x1 < 0 → (k20 x1 M)) ∧ (0 ≤ x1 → (((M 4456 120) ≤ x1 → (k20 x1 M)) ∧ (x1 < (M 4456 120) → ((x1 < 2000 → (k25 x1 0 M)) ∧ (2000 ≤ x1 → (k20 x1 M)))))))
def yX12_octet (i : Nat) : e_Y := x_get YX12_octet [YX12_throwsIf] i
def pX12_octetf : List x_I := [(0, 4, 1, 0, 0, 0, []), (1, 2, 1, 1, 0, 0, []), (2, 17, 20, 2, 11, 0, []), (5, 2, 1, 1, 0, 0, []), (6, 4, 1, 0, 0, 0, []), (7, 25, 12, 120, 0, 0, []), (10, 18, 20, 3, 11, 0, []), (13, 2, 1, 1, 0, 0, []), (14, 0, 3, 0, 0, 2000, []), (17, 18, 24, 2, 14, 0, []), (20, 49, 0, 0, 0, 0, []), (20, 0, 1, 0, 0, 1, []), (21, 19, 25, 0, 15, 0, []), (24, 0, 1, 0, 0, 0, []), (25, 49, 0, 0, 0, 0, []), (25, 40, 0, 2, 14, 0, []), (28, 17, 35, 0, 20, 0, []), (31, 0, 1, 0, 0, 0, []), (32, 19, 41, 0, 24, 0, []), (35, 4, 1, 0, 0, 0, []), (36, 25, 12, 119, 4, 0, [(0, 22, 2000), (0, 1, 76)]), (39, 2, 1, 1, 0, 0, []), (40, 27, 0, 2, 0, 0, []), (41, 41, 0, 0, 0, 0, [])]
set_option maxRecDepth 20000 in
theorem qX12_octetf : f_all yX12_octet YX12_octet pX12_octetf :=
  ⟨f_aload_n (n := 0) (e_dx DX12_octet_0 0 rfl) rfl,
  f_iload_n (n := 1) (e_dx DX12_octet_0 1 rfl) rfl,
  f_if_lt (e_dx DX12_octet_0 2 rfl) rfl,
  f_iload_n (n := 1) (e_dx DX12_octet_0 3 rfl) rfl,
  f_aload_n (n := 0) (e_dx DX12_octet_0 4 rfl) rfl,
  f_getf (e_dx DX12_octet_0 5 rfl) fX12_896 rfl (by decide) (by decide) (by decide),
  f_icmp_ge (e_dx DX12_octet_0 6 rfl) rfl,
  f_iload_n (n := 1) (e_dx DX12_octet_0 7 rfl) rfl,
  f_sipush (e_dx DX12_octet_0 8 rfl) ⟨by decide, by decide⟩,
  f_icmp_lt (e_dx DX12_octet_0 9 rfl) rfl,
  trivial,
  f_iconst (e_dx DX12_octet_0 10 rfl) ⟨by decide, by decide⟩,
  f_g19 (e_dx DX12_octet_0 11 rfl) rfl,
  f_iconst (e_dx DX12_octet_0 12 rfl) ⟨by decide, by decide⟩,
  trivial,
  x_callV (e_dx DX12_octet_0 13 rfl) mwX12_throwsIf vwX12_throwsIf cX12_974 rfl,
  f_if_eq (e_dx DX12_octet_0 14 rfl) rfl,
  f_iconst (e_dx DX12_octet_0 15 rfl) ⟨by decide, by decide⟩,
  f_g19 (e_dx DX12_octet_0 16 rfl) rfl,
  f_aload_n (n := 0) (e_dx DX12_octet_0 17 rfl) rfl,
  f_getA (e_dx DX12_octet_0 18 rfl) fX12_248 rfl (by decide) (Nat.le_of_ble_eq_true rfl) rfl (by decide),
  f_iload_n (n := 1) (e_dx DX12_octet_0 19 rfl) rfl,
  f_baload (e_dx DX12_octet_0 20 rfl),
  ⟨(e_dx DX12_octet_0 21 rfl), rfl⟩, trivial⟩
def lX12_octet (c_X12_throwsIf : Int → e_M → (Int → e_M → Prop) → Prop) : List (Nat × f_Wt) := [(0, f_wm [(4466, 12, 123), (1, 0, 0)] (fun ar M R => c_X12_throwsIf (f_vi (f_nth ar 1)) M (fun r M => R (some (.inl r)) M)))]
set_option maxRecDepth 20000 in
theorem BX12_octet_20 {sh : Nat → Nat × Nat} {t : Nat} {rm : Nat × Nat × Nat} {cs : Nat × Nat} {R : f_Rt} {c_X12_throwsIf : Int → e_M → (Int → e_M → Prop) → Prop} {k25 : Int → Int → e_M → Prop} {x1 : Int} {M : e_M} (C : f_Hy sh t yX12_octet rm cs 5 (lX12_octet c_X12_throwsIf) R) (h25 : ∀ (x1 : Int) (xs1 : Int) (M : e_M), k25 x1 xs1 M → f_E sh t YX12_octet rm cs (f_Q sh t R) 25 [.inr (.inr (.inl (12, 123, 4456))), .inl x1] [.inl xs1, .inr (.inr (.inl (12, 123, 4456)))] M) (h : VX12_octet_20 c_X12_throwsIf k25 (fun r M => R (some (.inl r)) M) x1 M) : f_E sh t YX12_octet rm cs (f_Q sh t R) 20 [.inr (.inr (.inl (12, 123, 4456))), .inl x1] [.inr (.inr (.inl (12, 123, 4456)))] M :=
  f_go (KC := f_kc [(25, f_pl [(4466, 12, 123), (1, 0, 0)] [(1, 0, 0), (4466, 12, 123)] (fun ls st M => k25 (f_vi (f_nth ls 1)) (f_vi (f_nth st 0)) M))]) C qX12_octetf (f_kc_cons (f_pl_ok rfl (fun ls st M h => h25 _ _ M h)) f_kc_nil) 26 11 h
set_option maxRecDepth 20000 in
theorem BX12_octet_25 {sh : Nat → Nat × Nat} {t : Nat} {rm : Nat × Nat × Nat} {cs : Nat × Nat} {R : f_Rt} {c_X12_throwsIf : Int → e_M → (Int → e_M → Prop) → Prop} {x1 : Int} {xs1 : Int} {M : e_M} (C : f_Hy sh t yX12_octet rm cs 5 (lX12_octet c_X12_throwsIf) R) (h : VX12_octet_25 c_X12_throwsIf (fun r M => R (some (.inl r)) M) x1 xs1 M) : f_E sh t YX12_octet rm cs (f_Q sh t R) 25 [.inr (.inr (.inl (12, 123, 4456))), .inl x1] [.inl xs1, .inr (.inr (.inl (12, 123, 4456)))] M :=
  f_go (KC := f_kc []) C qX12_octetf f_kc_nil 26 15 h
set_option maxRecDepth 20000 in
theorem BX12_octet {sh : Nat → Nat × Nat} {t : Nat} {rm : Nat × Nat × Nat} {cs : Nat × Nat} {R : f_Rt} {c_X12_throwsIf : Int → e_M → (Int → e_M → Prop) → Prop} {k20 : Int → e_M → Prop} {k25 : Int → Int → e_M → Prop} {x1 : Int} {M : e_M} (C : f_Hy sh t yX12_octet rm cs 5 (lX12_octet c_X12_throwsIf) R) (h20 : ∀ (x1 : Int) (M : e_M), k20 x1 M → f_E sh t YX12_octet rm cs (f_Q sh t R) 20 [.inr (.inr (.inl (12, 123, 4456))), .inl x1] [.inr (.inr (.inl (12, 123, 4456)))] M) (h25 : ∀ (x1 : Int) (xs1 : Int) (M : e_M), k25 x1 xs1 M → f_E sh t YX12_octet rm cs (f_Q sh t R) 25 [.inr (.inr (.inl (12, 123, 4456))), .inl x1] [.inl xs1, .inr (.inr (.inl (12, 123, 4456)))] M) (h : VX12_octet c_X12_throwsIf k20 k25 (fun r M => R (some (.inl r)) M) x1 M) : f_E sh t YX12_octet rm cs (f_Q sh t R) 0 [.inr (.inr (.inl (12, 123, 4456))), .inl x1] [] M :=
  f_go (KC := f_kc [(20, f_pl [(4466, 12, 123), (1, 0, 0)] [(4466, 12, 123)] (fun ls st M => k20 (f_vi (f_nth ls 1)) M)), (25, f_pl [(4466, 12, 123), (1, 0, 0)] [(1, 0, 0), (4466, 12, 123)] (fun ls st M => k25 (f_vi (f_nth ls 1)) (f_vi (f_nth st 0)) M))]) C qX12_octetf (f_kc_cons (f_pl_ok rfl (fun ls st M h => h20 _ M h)) (f_kc_cons (f_pl_ok rfl (fun ls st M h => h25 _ _ M h)) f_kc_nil)) 26 0 h
def WX12_octet_25 (Q : Int → e_M → Prop) (x1 : Int) (xs1 : Int) (M : e_M) : Prop :=
  VX12_octet_25 WX12_throwsIf Q x1 xs1 M
def WX12_octet_20 (Q : Int → e_M → Prop) (x1 : Int) (M : e_M) : Prop :=
  VX12_octet_20 WX12_throwsIf (WX12_octet_25 Q) Q x1 M
def WX12_octet (x1 : Int) (M : e_M) (Q : Int → e_M → Prop) : Prop :=
  VX12_octet WX12_throwsIf (WX12_octet_20 Q) (WX12_octet_25 Q) Q x1 M
theorem PX12_octet_25 {sh : Nat → Nat × Nat} {t : Nat} {rm : Nat × Nat × Nat} {cs : Nat × Nat} {R : f_Rt} {x1 : Int} {xs1 : Int} {M : e_M} (C : f_Hy sh t yX12_octet rm cs 5 (lX12_octet WX12_throwsIf) R) (h : WX12_octet_25 (fun r M => R (some (.inl r)) M) x1 xs1 M) : f_E sh t YX12_octet rm cs (f_Q sh t R) 25 [.inr (.inr (.inl (12, 123, 4456))), .inl x1] [.inl xs1, .inr (.inr (.inl (12, 123, 4456)))] M :=
  BX12_octet_25 C h
theorem PX12_octet_20 {sh : Nat → Nat × Nat} {t : Nat} {rm : Nat × Nat × Nat} {cs : Nat × Nat} {R : f_Rt} {x1 : Int} {M : e_M} (C : f_Hy sh t yX12_octet rm cs 5 (lX12_octet WX12_throwsIf) R) (h : WX12_octet_20 (fun r M => R (some (.inl r)) M) x1 M) : f_E sh t YX12_octet rm cs (f_Q sh t R) 20 [.inr (.inr (.inl (12, 123, 4456))), .inl x1] [.inr (.inr (.inl (12, 123, 4456)))] M :=
  BX12_octet_20 C (fun x1 xs1 M h => PX12_octet_25 C h) h
theorem PX12_octet {sh : Nat → Nat × Nat} {t : Nat} {rm : Nat × Nat × Nat} {cs : Nat × Nat} {R : f_Rt} {x1 : Int} {M : e_M} (C : f_Hy sh t yX12_octet rm cs 5 (lX12_octet WX12_throwsIf) R) (h : WX12_octet x1 M (fun r M => R (some (.inl r)) M)) : f_E sh t YX12_octet rm cs (f_Q sh t R) 0 [.inr (.inr (.inl (12, 123, 4456))), .inl x1] [] M :=
  BX12_octet C (fun x1 M h => PX12_octet_20 C h) (fun x1 xs1 M h => PX12_octet_25 C h) h
def wX12_octet : f_Wt := f_wm [(4466, 12, 123), (1, 0, 0)] (fun ar M R => WX12_octet (f_vi (f_nth ar 1)) M (fun r M => R (some (.inl r)) M))
theorem TX12_octet {sh : Nat → Nat × Nat} {t : Nat} : f_Mt sh t YX12_octet 5 (wX12_octet) :=
  f_Mt_of (k := 0) (Nat.le_of_ble_eq_true rfl) rfl rfl (fun ar M R rm cs h1 h2 h3 hX h => PX12_octet ⟨Nat.le_of_ble_eq_true rfl, h1, h2, h3, ⟨(f_Mt.up (Nat.le_of_ble_eq_true rfl) TX12_throwsIf), trivial⟩, hX⟩ h)
def VX12_here_4 (c_X12_isHere : Int → Int → e_M → (Int → Prop) → Prop) (k29 : Int → Int → Int → Int → Prop) (Q : Int → Prop) (x1 : Int) (x2 : Int) (x3 : Int) (M : e_M) : Prop :=
  ((0 ≤ x1 ∧ x1 < 7) ∧ (((M 4483 (x1.toNat)) ≤ x3 → (Q x2)) ∧ (x3 < (M 4483 (x1.toNat)) → (c_X12_isHere x1 x3 M (fun r1 => ((r1 = 0 → (k29 x1 x3 0 x2)) ∧ (¬ r1 = 0 → (k29 x1 x3 1 x2))))))))
def VX12_here_29 (c_X12_isHere : Int → Int → e_M → (Int → Prop) → Prop) (k4 : Int → Int → Int → Prop) (Q : Int → Prop) (x1 : Int) (x3 : Int) (xs1 : Int) (xs0 : Int) (M : e_M) : Prop :=
  (k4 x1 (e_w32 (xs0 + xs1)) (e_w32 (x3 + 1)))
def VX12_here (c_X12_isHere : Int → Int → e_M → (Int → Prop) → Prop) (k4 : Int → Int → Int → Prop) (Q : Int → Prop) (x1 : Int) (M : e_M) : Prop :=
  (k4 x1 0 0)
def yX12_here (i : Nat) : e_Y := x_get YX12_here [YX12_isHere] i
def pX12_heref : List x_I := [(0, 0, 1, 0, 0, 0, []), (1, 5, 1, 2, 0, 0, []), (2, 0, 1, 0, 0, 0, []), (3, 5, 1, 3, 0, 0, []), (4, 49, 0, 0, 0, 0, []), (4, 2, 1, 3, 0, 0, []), (5, 4, 1, 0, 0, 0, []), (6, 25, 12, 50, 4, 0, [(0, 20, 7), (0, 1, 27)]), (9, 2, 1, 1, 0, 0, []), (10, 27, 0, 0, 0, 0, []), (11, 18, 37, 3, 26, 0, []), (14, 2, 1, 2, 0, 0, []), (15, 4, 1, 0, 0, 0, []), (16, 2, 1, 1, 0, 0, []), (17, 2, 1, 3, 0, 0, []), (18, 40, 0, 3, 14, 0, []), (21, 17, 28, 0, 20, 0, []), (24, 0, 1, 0, 0, 1, []), (25, 19, 29, 0, 21, 0, []), (28, 0, 1, 0, 0, 0, []), (29, 49, 0, 0, 0, 0, []), (29, 9, 0, 0, 0, 0, []), (30, 5, 1, 2, 0, 0, []), (31, 8, 0, 3, 0, 1, []), (34, 19, 4, 0, 5, 0, []), (37, 2, 1, 2, 0, 0, []), (38, 41, 0, 0, 0, 0, [])]
set_option maxRecDepth 20000 in
theorem qX12_heref : f_all yX12_here YX12_here pX12_heref :=
  ⟨f_iconst (e_dx DX12_here_0 0 rfl) ⟨by decide, by decide⟩,
  f_istore_n (n := 2) (e_dx DX12_here_0 1 rfl) rfl (by decide),
  f_iconst (e_dx DX12_here_0 2 rfl) ⟨by decide, by decide⟩,
  f_istore_n (n := 3) (e_dx DX12_here_0 3 rfl) rfl (by decide),
  trivial,
  f_iload_n (n := 3) (e_dx DX12_here_0 4 rfl) rfl,
  f_aload_n (n := 0) (e_dx DX12_here_0 5 rfl) rfl,
  f_getA (e_dx DX12_here_0 6 rfl) fX12_91 rfl (by decide) (Nat.le_of_ble_eq_true rfl) rfl (by decide),
  f_iload_n (n := 1) (e_dx DX12_here_0 7 rfl) rfl,
  f_iaload (e_dx DX12_here_0 8 rfl),
  f_icmp_ge (e_dx DX12_here_0 9 rfl) rfl,
  f_iload_n (n := 2) (e_dx DX12_here_0 10 rfl) rfl,
  f_aload_n (n := 0) (e_dx DX12_here_0 11 rfl) rfl,
  f_iload_n (n := 1) (e_dx DX12_here_0 12 rfl) rfl,
  f_iload_n (n := 3) (e_dx DX12_here_0 13 rfl) rfl,
  x_callV (e_dx DX12_here_0 14 rfl) mwX12_isHere vwX12_isHere cX12_875 rfl,
  f_if_eq (e_dx DX12_here_0 15 rfl) rfl,
  f_iconst (e_dx DX12_here_0 16 rfl) ⟨by decide, by decide⟩,
  f_g19 (e_dx DX12_here_0 17 rfl) rfl,
  f_iconst (e_dx DX12_here_0 18 rfl) ⟨by decide, by decide⟩,
  trivial,
  f_iadd (e_dx DX12_here_0 19 rfl),
  f_istore_n (n := 2) (e_dx DX12_here_0 20 rfl) rfl (by decide),
  f_g8 (e_dx DX12_here_0 21 rfl) ⟨by decide, by decide⟩,
  f_g19 (e_dx DX12_here_0 22 rfl) rfl,
  f_iload_n (n := 2) (e_dx DX12_here_0 23 rfl) rfl,
  ⟨(e_dx DX12_here_0 24 rfl), rfl⟩, trivial⟩
def lX12_here (c_X12_isHere : Int → Int → e_M → (Int → Prop) → Prop) : List (Nat × f_Wt) := [(0, f_wm [(4466, 12, 123), (1, 0, 0), (1, 0, 0)] (fun ar M R => c_X12_isHere (f_vi (f_nth ar 1)) (f_vi (f_nth ar 2)) M (fun r => R (some (.inl r)) M)))]
set_option maxRecDepth 20000 in
theorem BX12_here_4 {sh : Nat → Nat × Nat} {t : Nat} {rm : Nat × Nat × Nat} {cs : Nat × Nat} {R : f_Rt} {c_X12_isHere : Int → Int → e_M → (Int → Prop) → Prop} {k29 : Int → Int → Int → Int → Prop} {x1 : Int} {x2 : Int} {x3 : Int} {M : e_M} (C : f_Hy sh t yX12_here rm cs 7 (lX12_here c_X12_isHere) R) (h29 : ∀ (x1 : Int) (x3 : Int) (xs1 : Int) (xs0 : Int), k29 x1 x3 xs1 xs0 → f_E sh t YX12_here rm cs (f_Q sh t R) 29 [.inr (.inr (.inl (12, 123, 4456))), .inl x1, .inr (.inr (.inr ())), .inl x3] [.inl xs1, .inl xs0] M) (h : VX12_here_4 c_X12_isHere k29 (fun r => R (some (.inl r)) M) x1 x2 x3 M) : f_E sh t YX12_here rm cs (f_Q sh t R) 4 [.inr (.inr (.inl (12, 123, 4456))), .inl x1, .inl x2, .inl x3] [] M := by
  rw [f_kk4 M k29] at h
  exact f_go (KC := f_kc [(29, f_pl [(4466, 12, 123), (1, 0, 0), (0, 0, 0), (1, 0, 0)] [(1, 0, 0), (1, 0, 0)] (fun ls st M2 => M2 = M ∧ (k29 (f_vi (f_nth ls 1)) (f_vi (f_nth ls 3)) (f_vi (f_nth st 0)) (f_vi (f_nth st 1)))))]) C qX12_heref (f_kc_cons (f_pl_ok rfl (fun ls st M2 ⟨e, hh⟩ => by subst e; exact h29 _ _ _ _ hh)) f_kc_nil) 29 5 h
set_option maxRecDepth 20000 in
theorem BX12_here_29 {sh : Nat → Nat × Nat} {t : Nat} {rm : Nat × Nat × Nat} {cs : Nat × Nat} {R : f_Rt} {c_X12_isHere : Int → Int → e_M → (Int → Prop) → Prop} {k4 : Int → Int → Int → Prop} {x1 : Int} {x3 : Int} {xs1 : Int} {xs0 : Int} {M : e_M} (C : f_Hy sh t yX12_here rm cs 7 (lX12_here c_X12_isHere) R) (h4 : ∀ (x1 : Int) (x2 : Int) (x3 : Int), k4 x1 x2 x3 → f_E sh t YX12_here rm cs (f_Q sh t R) 4 [.inr (.inr (.inl (12, 123, 4456))), .inl x1, .inl x2, .inl x3] [] M) (h : VX12_here_29 c_X12_isHere k4 (fun r => R (some (.inl r)) M) x1 x3 xs1 xs0 M) : f_E sh t YX12_here rm cs (f_Q sh t R) 29 [.inr (.inr (.inl (12, 123, 4456))), .inl x1, .inr (.inr (.inr ())), .inl x3] [.inl xs1, .inl xs0] M := by
  rw [f_kk3 M k4] at h
  exact f_go (KC := f_kc [(4, f_pl [(4466, 12, 123), (1, 0, 0), (1, 0, 0), (1, 0, 0)] [] (fun ls st M2 => M2 = M ∧ (k4 (f_vi (f_nth ls 1)) (f_vi (f_nth ls 2)) (f_vi (f_nth ls 3)))))]) C qX12_heref (f_kc_cons (f_pl_ok rfl (fun ls st M2 ⟨e, hh⟩ => by subst e; exact h4 _ _ _ hh)) f_kc_nil) 29 21 h
set_option maxRecDepth 20000 in
theorem BX12_here {sh : Nat → Nat × Nat} {t : Nat} {rm : Nat × Nat × Nat} {cs : Nat × Nat} {R : f_Rt} {c_X12_isHere : Int → Int → e_M → (Int → Prop) → Prop} {k4 : Int → Int → Int → Prop} {x1 : Int} {M : e_M} (C : f_Hy sh t yX12_here rm cs 7 (lX12_here c_X12_isHere) R) (h4 : ∀ (x1 : Int) (x2 : Int) (x3 : Int), k4 x1 x2 x3 → f_E sh t YX12_here rm cs (f_Q sh t R) 4 [.inr (.inr (.inl (12, 123, 4456))), .inl x1, .inl x2, .inl x3] [] M) (h : VX12_here c_X12_isHere k4 (fun r => R (some (.inl r)) M) x1 M) : f_E sh t YX12_here rm cs (f_Q sh t R) 0 [.inr (.inr (.inl (12, 123, 4456))), .inl x1, .inr (.inr (.inr ())), .inr (.inr (.inr ()))] [] M := by
  rw [f_kk3 M k4] at h
  exact f_go (KC := f_kc [(4, f_pl [(4466, 12, 123), (1, 0, 0), (1, 0, 0), (1, 0, 0)] [] (fun ls st M2 => M2 = M ∧ (k4 (f_vi (f_nth ls 1)) (f_vi (f_nth ls 2)) (f_vi (f_nth ls 3)))))]) C qX12_heref (f_kc_cons (f_pl_ok rfl (fun ls st M2 ⟨e, hh⟩ => by subst e; exact h4 _ _ _ hh)) f_kc_nil) 29 0 h
def WX12_here_29 (M : e_M) (H4 : Int → Int → Int → Prop) (Q : Int → Prop) (x1 : Int) (x3 : Int) (xs1 : Int) (xs0 : Int) : Prop :=
  VX12_here_29 WX12_isHere H4 Q x1 x3 xs1 xs0 M
def WX12_here_4 (M : e_M) (Q : Int → Prop) : Nat → Int → Int → Int → Prop
  | 0, _, _, _ => False
  | n + 1, x1, x2, x3 =>
    VX12_here_4 WX12_isHere (WX12_here_29 M (WX12_here_4 M Q n) Q) Q x1 x2 x3 M
def WX12_here (x1 : Int) (M : e_M) (Q : Int → Prop) : Prop :=
  VX12_here WX12_isHere (fun x1 x2 x3 => ∃ j, WX12_here_4 M Q j x1 x2 x3) Q x1 M
theorem PX12_here_29 {sh : Nat → Nat × Nat} {t : Nat} {rm : Nat × Nat × Nat} {cs : Nat × Nat} {R : f_Rt} {H4 : Int → Int → Int → Prop} {x1 : Int} {x3 : Int} {xs1 : Int} {xs0 : Int} {M : e_M} (C : f_Hy sh t yX12_here rm cs 7 (lX12_here WX12_isHere) R) (g4 : ∀ (x1 : Int) (x2 : Int) (x3 : Int), H4 x1 x2 x3 → f_E sh t YX12_here rm cs (f_Q sh t R) 4 [.inr (.inr (.inl (12, 123, 4456))), .inl x1, .inl x2, .inl x3] [] M) (h : WX12_here_29 M H4 (fun r => R (some (.inl r)) M) x1 x3 xs1 xs0) : f_E sh t YX12_here rm cs (f_Q sh t R) 29 [.inr (.inr (.inl (12, 123, 4456))), .inl x1, .inr (.inr (.inr ())), .inl x3] [.inl xs1, .inl xs0] M :=
  BX12_here_29 C g4 h
theorem PX12_here_4 {sh : Nat → Nat × Nat} {t : Nat} {rm : Nat × Nat × Nat} {cs : Nat × Nat} {R : f_Rt} {M : e_M} (C : f_Hy sh t yX12_here rm cs 7 (lX12_here WX12_isHere) R) : ∀ (n : Nat) (x1 : Int) (x2 : Int) (x3 : Int), WX12_here_4 M (fun r => R (some (.inl r)) M) n x1 x2 x3 → f_E sh t YX12_here rm cs (f_Q sh t R) 4 [.inr (.inr (.inl (12, 123, 4456))), .inl x1, .inl x2, .inl x3] [] M := by
  intro n
  induction n with
  | zero => intro x1 x2 x3 h; exact h.elim
  | succ n ih => intro x1 x2 x3 h; exact BX12_here_4 C (fun x1 x3 xs1 xs0 h => PX12_here_29 C ih h) h
theorem PX12_here {sh : Nat → Nat × Nat} {t : Nat} {rm : Nat × Nat × Nat} {cs : Nat × Nat} {R : f_Rt} {x1 : Int} {M : e_M} (C : f_Hy sh t yX12_here rm cs 7 (lX12_here WX12_isHere) R) (h : WX12_here x1 M (fun r => R (some (.inl r)) M)) : f_E sh t YX12_here rm cs (f_Q sh t R) 0 [.inr (.inr (.inl (12, 123, 4456))), .inl x1, .inr (.inr (.inr ())), .inr (.inr (.inr ()))] [] M :=
  BX12_here C (fun x1 x2 x3 ⟨j, h⟩ => PX12_here_4 C j _ _ _ h) h
def wX12_here : f_Wt := f_wm [(4466, 12, 123), (1, 0, 0)] (fun ar M R => WX12_here (f_vi (f_nth ar 1)) M (fun r => R (some (.inl r)) M))
theorem TX12_here {sh : Nat → Nat × Nat} {t : Nat} : f_Mt sh t YX12_here 7 (wX12_here) :=
  f_Mt_of (k := 2) (Nat.le_of_ble_eq_true rfl) rfl rfl (fun ar M R rm cs h1 h2 h3 hX h => PX12_here ⟨Nat.le_of_ble_eq_true rfl, h1, h2, h3, ⟨(f_Mt.up (Nat.le_of_ble_eq_true rfl) TX12_isHere), trivial⟩, hX⟩ h)
def VX12_count_29 (c_X12_look : Int → Int → e_M → (e_M → Prop) → Prop) (c_X12_here : Int → e_M → (Int → Prop) → Prop) (k50 : Int → e_M → Prop) (Q : Int → e_M → Prop) (x1 : Int) (M : e_M) : Prop :=
  ((x1 < 10 → (k50 x1 M)) ∧ (10 ≤ x1 → ((16 < x1 → (k50 x1 M)) ∧ (x1 ≤ 16 → (c_X12_here (e_w32 (x1 - 10)) M (fun r1 => (Q r1 M)))))))
def VX12_count_50 (c_X12_look : Int → Int → e_M → (e_M → Prop) → Prop) (c_X12_here : Int → e_M → (Int → Prop) → Prop) (Q : Int → e_M → Prop) (x1 : Int) (M : e_M) : Prop :=
  ((x1 = 0 → (Q (M 4456 33) M)) ∧ (¬ x1 = 0 → ((x1 = 1 → (Q (M 4456 4) M)) ∧ (¬ x1 = 1 → ((x1 = 2 → (Q (M 4456 120) M)) ∧ (¬ x1 = 2 → ((x1 = 3 → (Q (M 4456 34) M)) ∧ (¬ x1 = 3 → ((x1 = 4 → (Q (M 4456 103) M)) ∧ (¬ x1 = 4 → ((x1 = 5 → (Q (M 4456 104) M)) ∧ (¬ x1 = 5 → ((x1 = 6 → (Q (M 4456 99) M)) ∧ (¬ x1 = 6 → ((x1 = 7 → (Q (-1) M)) ∧ (¬ x1 = 7 → ((x1 = 8 → (Q (-1) M)) ∧ (¬ x1 = 8 → ((x1 = 9 → (Q (-1) M)) ∧ (¬ x1 = 9 → ((x1 = 10 → (Q (-1) M)) ∧ (¬ x1 = 10 → ((x1 = 11 → (Q (-1) M)) ∧ (¬ x1 = 11 → ((x1 = 12 → (Q (-1) M)) ∧ (¬ x1 = 12 → ((x1 = 13 → (Q (-1) M)) ∧ (¬ x1 = 13 → ((x1 = 14 → (Q (-1) M)) ∧ (¬ x1 = 14 → ((x1 = 15 → (Q (-1) M)) ∧ (¬ x1 = 15 → ((x1 = 16 → (Q (-1) M)) ∧ (¬ x1 = 16 → ((x1 = 17 → (Q (M 4456 73) M)) ∧ (¬ x1 = 17 → (Q (-1) M)))))))))))))))))))))))))))))))))))))
def VX12_count (c_X12_look : Int → Int → e_M → (e_M → Prop) → Prop) (c_X12_here : Int → e_M → (Int → Prop) → Prop) (k29 : Int → e_M → Prop) (Q : Int → e_M → Prop) (x1 : Int) (M : e_M) : Prop :=
  (∀ M1 : e_M, M1 = e_up M 4456 121 0 → ((x1 < 6 → (k29 x1 M1)) ∧ (6 ≤ x1 → ((17 < x1 → (k29 x1 M1)) ∧ (x1 ≤ 17 → (c_X12_look (M1 4456 103) (M1 4456 104) M1 (fun M2 => (k29 x1 M2))))))))
def yX12_count (i : Nat) : e_Y := x_get YX12_count [YX12_look, YX12_here] i
def pX12_countf : List x_I := [(0, 4, 1, 0, 0, 0, []), (1, 0, 1, 0, 0, 0, []), (2, 26, 12, 121, 0, 0, []), (5, 2, 1, 1, 0, 0, []), (6, 0, 2, 0, 0, 6, []), (8, 18, 29, 2, 16, 0, []), (11, 2, 1, 1, 0, 0, []), (12, 0, 2, 0, 0, 17, []), (14, 18, 29, 4, 16, 0, []), (17, 4, 1, 0, 0, 0, []), (18, 4, 1, 0, 0, 0, []), (19, 25, 12, 103, 0, 0, []), (22, 4, 1, 0, 0, 0, []), (23, 25, 12, 104, 0, 0, []), (26, 40, 0, 3, 14, 0, []), (29, 49, 0, 0, 0, 0, []), (29, 2, 1, 1, 0, 0, []), (30, 0, 2, 0, 0, 10, []), (32, 18, 50, 2, 29, 0, []), (35, 2, 1, 1, 0, 0, []), (36, 0, 2, 0, 0, 16, []), (38, 18, 50, 4, 29, 0, []), (41, 4, 1, 0, 0, 0, []), (42, 2, 1, 1, 0, 0, []), (43, 0, 2, 0, 0, 10, []), (45, 9, 0, 1, 0, 0, []), (46, 40, 1, 2, 14, 0, []), (49, 41, 0, 0, 0, 0, []), (50, 49, 0, 0, 0, 0, []), (50, 2, 1, 1, 0, 0, []), (51, 24, 176, 0, 56, 0, [(0, 136, 32), (1, 141, 35), (2, 146, 38), (3, 151, 41), (4, 156, 44), (5, 161, 47), (6, 166, 50), (7, 176, 56), (8, 176, 56), (9, 176, 56), (10, 176, 56), (11, 176, 56), (12, 176, 56), (13, 176, 56), (14, 176, 56), (15, 176, 56), (16, 176, 56), (17, 171, 53)]), (136, 4, 1, 0, 0, 0, []), (137, 25, 12, 33, 0, 0, []), (140, 41, 0, 0, 0, 0, []), (141, 4, 1, 0, 0, 0, []), (142, 25, 12, 4, 0, 0, []), (145, 41, 0, 0, 0, 0, []), (146, 4, 1, 0, 0, 0, []), (147, 25, 12, 120, 0, 0, []), (150, 41, 0, 0, 0, 0, []), (151, 4, 1, 0, 0, 0, []), (152, 25, 12, 34, 0, 0, []), (155, 41, 0, 0, 0, 0, []), (156, 4, 1, 0, 0, 0, []), (157, 25, 12, 103, 0, 0, []), (160, 41, 0, 0, 0, 0, []), (161, 4, 1, 0, 0, 0, []), (162, 25, 12, 104, 0, 0, []), (165, 41, 0, 0, 0, 0, []), (166, 4, 1, 0, 0, 0, []), (167, 25, 12, 99, 0, 0, []), (170, 41, 0, 0, 0, 0, []), (171, 4, 1, 0, 0, 0, []), (172, 25, 12, 73, 0, 0, []), (175, 41, 0, 0, 0, 0, []), (176, 0, 1, 0, 0, (-1), []), (177, 41, 0, 0, 0, 0, [])]
set_option maxRecDepth 20000 in
theorem qX12_countf : f_all yX12_count YX12_count pX12_countf :=
  ⟨f_aload_n (n := 0) (e_dx DX12_count_0 0 rfl) rfl,
  f_iconst (e_dx DX12_count_0 1 rfl) ⟨by decide, by decide⟩,
  f_putn (e_dx DX12_count_0 2 rfl) fX12_773 (fun q hq => by cases hq; rfl) rfl (Or.inl rfl) (by decide),
  f_iload_n (n := 1) (e_dx DX12_count_0 3 rfl) rfl,
  f_bipush (e_dx DX12_count_0 4 rfl) ⟨by decide, by decide⟩,
  f_icmp_lt (e_dx DX12_count_0 5 rfl) rfl,
  f_iload_n (n := 1) (e_dx DX12_count_0 6 rfl) rfl,
  f_bipush (e_dx DX12_count_0 7 rfl) ⟨by decide, by decide⟩,
  f_icmp_gt (e_dx DX12_count_0 8 rfl) rfl,
  f_aload_n (n := 0) (e_dx DX12_count_0 9 rfl) rfl,
  f_aload_n (n := 0) (e_dx DX12_count_0 10 rfl) rfl,
  f_getf (e_dx DX12_count_0 11 rfl) fX12_799 rfl (by decide) (by decide) (by decide),
  f_aload_n (n := 0) (e_dx DX12_count_0 12 rfl) rfl,
  f_getf (e_dx DX12_count_0 13 rfl) fX12_802 rfl (by decide) (by decide) (by decide),
  x_callV (e_dx DX12_count_0 14 rfl) mwX12_look vwX12_look cX12_805 rfl,
  trivial,
  f_iload_n (n := 1) (e_dx DX12_count_0 15 rfl) rfl,
  f_bipush (e_dx DX12_count_0 16 rfl) ⟨by decide, by decide⟩,
  f_icmp_lt (e_dx DX12_count_0 17 rfl) rfl,
  f_iload_n (n := 1) (e_dx DX12_count_0 18 rfl) rfl,
  f_bipush (e_dx DX12_count_0 19 rfl) ⟨by decide, by decide⟩,
  f_icmp_gt (e_dx DX12_count_0 20 rfl) rfl,
  f_aload_n (n := 0) (e_dx DX12_count_0 21 rfl) rfl,
  f_iload_n (n := 1) (e_dx DX12_count_0 22 rfl) rfl,
  f_bipush (e_dx DX12_count_0 23 rfl) ⟨by decide, by decide⟩,
  f_isub (e_dx DX12_count_0 24 rfl),
  x_callV (e_dx DX12_count_0 25 rfl) mwX12_here vwX12_here cX12_978 rfl,
  ⟨(e_dx DX12_count_0 26 rfl), rfl⟩,
  trivial,
  f_iload_n (n := 1) (e_dx DX12_count_0 27 rfl) rfl,
  f_tsw (e_dx DX12_count_0 28 rfl) rfl rfl (by decide) rfl,
  f_aload_n (n := 0) (e_dx DX12_count_0 29 rfl) rfl,
  f_getf (e_dx DX12_count_0 30 rfl) fX12_755 rfl (by decide) (by decide) (by decide),
  ⟨(e_dx DX12_count_0 31 rfl), rfl⟩,
  f_aload_n (n := 0) (e_dx DX12_count_0 32 rfl) rfl,
  f_getf (e_dx DX12_count_0 33 rfl) fX12_357 rfl (by decide) (by decide) (by decide),
  ⟨(e_dx DX12_count_0 34 rfl), rfl⟩,
  f_aload_n (n := 0) (e_dx DX12_count_0 35 rfl) rfl,
  f_getf (e_dx DX12_count_0 36 rfl) fX12_896 rfl (by decide) (by decide) (by decide),
  ⟨(e_dx DX12_count_0 37 rfl), rfl⟩,
  f_aload_n (n := 0) (e_dx DX12_count_0 38 rfl) rfl,
  f_getf (e_dx DX12_count_0 39 rfl) fX12_779 rfl (by decide) (by decide) (by decide),
  ⟨(e_dx DX12_count_1 0 rfl), rfl⟩,
  f_aload_n (n := 0) (e_dx DX12_count_1 1 rfl) rfl,
  f_getf (e_dx DX12_count_1 2 rfl) fX12_799 rfl (by decide) (by decide) (by decide),
  ⟨(e_dx DX12_count_1 3 rfl), rfl⟩,
  f_aload_n (n := 0) (e_dx DX12_count_1 4 rfl) rfl,
  f_getf (e_dx DX12_count_1 5 rfl) fX12_802 rfl (by decide) (by decide) (by decide),
  ⟨(e_dx DX12_count_1 6 rfl), rfl⟩,
  f_aload_n (n := 0) (e_dx DX12_count_1 7 rfl) rfl,
  f_getf (e_dx DX12_count_1 8 rfl) fX12_764 rfl (by decide) (by decide) (by decide),
  ⟨(e_dx DX12_count_1 9 rfl), rfl⟩,
  f_aload_n (n := 0) (e_dx DX12_count_1 10 rfl) rfl,
  f_getf (e_dx DX12_count_1 11 rfl) fX12_526 rfl (by decide) (by decide) (by decide),
  ⟨(e_dx DX12_count_1 12 rfl), rfl⟩,
  f_iconst (e_dx DX12_count_1 13 rfl) ⟨by decide, by decide⟩,
  ⟨(e_dx DX12_count_1 14 rfl), rfl⟩, trivial⟩
def lX12_count (c_X12_look : Int → Int → e_M → (e_M → Prop) → Prop) (c_X12_here : Int → e_M → (Int → Prop) → Prop) : List (Nat × f_Wt) := [(0, f_wm [(4466, 12, 123), (1, 0, 0), (1, 0, 0)] (fun ar M R => c_X12_look (f_vi (f_nth ar 1)) (f_vi (f_nth ar 2)) M (fun M => R none M))), (1, f_wm [(4466, 12, 123), (1, 0, 0)] (fun ar M R => c_X12_here (f_vi (f_nth ar 1)) M (fun r => R (some (.inl r)) M)))]
set_option maxRecDepth 20000 in
theorem BX12_count_29 {sh : Nat → Nat × Nat} {t : Nat} {rm : Nat × Nat × Nat} {cs : Nat × Nat} {R : f_Rt} {c_X12_look : Int → Int → e_M → (e_M → Prop) → Prop} {c_X12_here : Int → e_M → (Int → Prop) → Prop} {k50 : Int → e_M → Prop} {x1 : Int} {M : e_M} (C : f_Hy sh t yX12_count rm cs 15 (lX12_count c_X12_look c_X12_here) R) (h50 : ∀ (x1 : Int) (M : e_M), k50 x1 M → f_E sh t YX12_count rm cs (f_Q sh t R) 50 [.inr (.inr (.inl (12, 123, 4456))), .inl x1] [] M) (h : VX12_count_29 c_X12_look c_X12_here k50 (fun r M => R (some (.inl r)) M) x1 M) : f_E sh t YX12_count rm cs (f_Q sh t R) 29 [.inr (.inr (.inl (12, 123, 4456))), .inl x1] [] M :=
  f_go (KC := f_kc [(50, f_pl [(4466, 12, 123), (1, 0, 0)] [] (fun ls st M => k50 (f_vi (f_nth ls 1)) M))]) C qX12_countf (f_kc_cons (f_pl_ok rfl (fun ls st M h => h50 _ M h)) f_kc_nil) 59 16 h
set_option maxRecDepth 20000 in
theorem BX12_count_50 {sh : Nat → Nat × Nat} {t : Nat} {rm : Nat × Nat × Nat} {cs : Nat × Nat} {R : f_Rt} {c_X12_look : Int → Int → e_M → (e_M → Prop) → Prop} {c_X12_here : Int → e_M → (Int → Prop) → Prop} {x1 : Int} {M : e_M} (C : f_Hy sh t yX12_count rm cs 15 (lX12_count c_X12_look c_X12_here) R) (h : VX12_count_50 c_X12_look c_X12_here (fun r M => R (some (.inl r)) M) x1 M) : f_E sh t YX12_count rm cs (f_Q sh t R) 50 [.inr (.inr (.inl (12, 123, 4456))), .inl x1] [] M :=
  f_go (KC := f_kc []) C qX12_countf f_kc_nil 59 29 h
set_option maxRecDepth 20000 in
theorem BX12_count {sh : Nat → Nat × Nat} {t : Nat} {rm : Nat × Nat × Nat} {cs : Nat × Nat} {R : f_Rt} {c_X12_look : Int → Int → e_M → (e_M → Prop) → Prop} {c_X12_here : Int → e_M → (Int → Prop) → Prop} {k29 : Int → e_M → Prop} {x1 : Int} {M : e_M} (C : f_Hy sh t yX12_count rm cs 15 (lX12_count c_X12_look c_X12_here) R) (h29 : ∀ (x1 : Int) (M : e_M), k29 x1 M → f_E sh t YX12_count rm cs (f_Q sh t R) 29 [.inr (.inr (.inl (12, 123, 4456))), .inl x1] [] M) (h : VX12_count c_X12_look c_X12_here k29 (fun r M => R (some (.inl r)) M) x1 M) : f_E sh t YX12_count rm cs (f_Q sh t R) 0 [.inr (.inr (.inl (12, 123, 4456))), .inl x1] [] M :=
  f_go (KC := f_kc [(29, f_pl [(4466, 12, 123), (1, 0, 0)] [] (fun ls st M => k29 (f_vi (f_nth ls 1)) M))]) C qX12_countf (f_kc_cons (f_pl_ok rfl (fun ls st M h => h29 _ M h)) f_kc_nil) 59 0 h
def WX12_count_50 (Q : Int → e_M → Prop) (x1 : Int) (M : e_M) : Prop :=
  VX12_count_50 WX12_look WX12_here Q x1 M
def WX12_count_29 (Q : Int → e_M → Prop) (x1 : Int) (M : e_M) : Prop :=
  VX12_count_29 WX12_look WX12_here (WX12_count_50 Q) Q x1 M
def WX12_count (x1 : Int) (M : e_M) (Q : Int → e_M → Prop) : Prop :=
  VX12_count WX12_look WX12_here (WX12_count_29 Q) Q x1 M
theorem PX12_count_50 {sh : Nat → Nat × Nat} {t : Nat} {rm : Nat × Nat × Nat} {cs : Nat × Nat} {R : f_Rt} {x1 : Int} {M : e_M} (C : f_Hy sh t yX12_count rm cs 15 (lX12_count WX12_look WX12_here) R) (h : WX12_count_50 (fun r M => R (some (.inl r)) M) x1 M) : f_E sh t YX12_count rm cs (f_Q sh t R) 50 [.inr (.inr (.inl (12, 123, 4456))), .inl x1] [] M :=
  BX12_count_50 C h
theorem PX12_count_29 {sh : Nat → Nat × Nat} {t : Nat} {rm : Nat × Nat × Nat} {cs : Nat × Nat} {R : f_Rt} {x1 : Int} {M : e_M} (C : f_Hy sh t yX12_count rm cs 15 (lX12_count WX12_look WX12_here) R) (h : WX12_count_29 (fun r M => R (some (.inl r)) M) x1 M) : f_E sh t YX12_count rm cs (f_Q sh t R) 29 [.inr (.inr (.inl (12, 123, 4456))), .inl x1] [] M :=
  BX12_count_29 C (fun x1 M h => PX12_count_50 C h) h
theorem PX12_count {sh : Nat → Nat × Nat} {t : Nat} {rm : Nat × Nat × Nat} {cs : Nat × Nat} {R : f_Rt} {x1 : Int} {M : e_M} (C : f_Hy sh t yX12_count rm cs 15 (lX12_count WX12_look WX12_here) R) (h : WX12_count x1 M (fun r M => R (some (.inl r)) M)) : f_E sh t YX12_count rm cs (f_Q sh t R) 0 [.inr (.inr (.inl (12, 123, 4456))), .inl x1] [] M :=
  BX12_count C (fun x1 M h => PX12_count_29 C h) h
def wX12_count : f_Wt := f_wm [(4466, 12, 123), (1, 0, 0)] (fun ar M R => WX12_count (f_vi (f_nth ar 1)) M (fun r M => R (some (.inl r)) M))
theorem TX12_count {sh : Nat → Nat × Nat} {t : Nat} : f_Mt sh t YX12_count 15 (wX12_count) :=
  f_Mt_of (k := 0) (Nat.le_of_ble_eq_true rfl) rfl rfl (fun ar M R rm cs h1 h2 h3 hX h => PX12_count ⟨Nat.le_of_ble_eq_true rfl, h1, h2, h3, ⟨(f_Mt.up (Nat.le_of_ble_eq_true rfl) TX12_look), (f_Mt.up (Nat.le_of_ble_eq_true rfl) TX12_here), trivial⟩, hX⟩ h)
