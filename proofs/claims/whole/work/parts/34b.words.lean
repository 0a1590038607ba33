/-! methods as words over the memory, part 34b -/
def VX12_px (Q : Int → Prop) (x1 : Int) (M : e_M) : Prop :=
  ((0 ≤ (e_w32 ((M 4456 44) + x1)) ∧ (e_w32 ((M 4456 44) + x1)) < 1824) ∧ (Q (M 4475 ((e_w32 ((M 4456 44) + x1)).toNat))))
def yX12_px (i : Nat) : e_Y := x_get YX12_px [] i
def pX12_pxf : List x_I := [(0, 4, 1, 0, 0, 0, []), (1, 25, 12, 28, 4, 0, [(0, 20, 1824), (0, 1, 19)]), (4, 4, 1, 0, 0, 0, []), (5, 25, 12, 44, 0, 0, []), (8, 2, 1, 1, 0, 0, []), (9, 9, 0, 0, 0, 0, []), (10, 27, 0, 0, 0, 0, []), (11, 14, 0, 0, 0, 0, []), (12, 43, 0, 0, 0, 0, [])]
set_option maxRecDepth 20000 in
theorem qX12_pxf : f_all yX12_px YX12_px pX12_pxf :=
  ⟨f_aload_n (n := 0) (e_dx DX12_px_0 0 rfl) rfl,
  f_getA (e_dx DX12_px_0 1 rfl) fX12_66 rfl (by decide) (Nat.le_of_ble_eq_true rfl) rfl (by decide),
  f_aload_n (n := 0) (e_dx DX12_px_0 2 rfl) rfl,
  f_getf (e_dx DX12_px_0 3 rfl) fX12_439 rfl (by decide) (by decide) (by decide),
  f_iload_n (n := 1) (e_dx DX12_px_0 4 rfl) rfl,
  f_iadd (e_dx DX12_px_0 5 rfl),
  f_iaload (e_dx DX12_px_0 6 rfl),
  f_g14 (e_dx DX12_px_0 7 rfl),
  ⟨(e_dx DX12_px_0 8 rfl), rfl⟩, trivial⟩
def lX12_px : List (Nat × f_Wt) := []
set_option maxRecDepth 20000 in
theorem BX12_px {sh : Nat → Nat × Nat} {t : Nat} {rm : Nat × Nat × Nat} {cs : Nat × Nat} {R : f_Rt} {x1 : Int} {M : e_M} (C : f_Hy sh t yX12_px rm cs 4 (lX12_px) R) (h : VX12_px (fun r => R (some (.inr (.inl r))) M) x1 M) : f_E sh t YX12_px rm cs (f_Q sh t R) 0 [.inr (.inr (.inl (12, 123, 4456))), .inl x1] [] M :=
  f_go (KC := f_kc []) C qX12_pxf f_kc_nil 11 0 h
def WX12_px (x1 : Int) (M : e_M) (Q : Int → Prop) : Prop :=
  VX12_px Q x1 M
theorem PX12_px {sh : Nat → Nat × Nat} {t : Nat} {rm : Nat × Nat × Nat} {cs : Nat × Nat} {R : f_Rt} {x1 : Int} {M : e_M} (C : f_Hy sh t yX12_px rm cs 4 (lX12_px) R) (h : WX12_px x1 M (fun r => R (some (.inr (.inl r))) M)) : f_E sh t YX12_px rm cs (f_Q sh t R) 0 [.inr (.inr (.inl (12, 123, 4456))), .inl x1] [] M :=
  BX12_px C h
def wX12_px : f_Wt := f_wm [(4466, 12, 123), (1, 0, 0)] (fun ar M R => WX12_px (f_vi (f_nth ar 1)) M (fun r => R (some (.inr (.inl r))) M))
theorem TX12_px {sh : Nat → Nat × Nat} {t : Nat} : f_Mt sh t YX12_px 4 (wX12_px) :=
  f_Mt_of (k := 0) (Nat.le_of_ble_eq_true rfl) rfl rfl (fun ar M R rm cs h1 h2 h3 hX h => PX12_px ⟨Nat.le_of_ble_eq_true rfl, h1, h2, h3, trivial, hX⟩ h)
def VX12_py (Q : Int → Prop) (x1 : Int) (M : e_M) : Prop :=
  ((0 ≤ (e_w32 ((M 4456 44) + x1)) ∧ (e_w32 ((M 4456 44) + x1)) < 1824) ∧ (Q (M 4476 ((e_w32 ((M 4456 44) + x1)).toNat))))
def yX12_py (i : Nat) : e_Y := x_get YX12_py [] i
def pX12_pyf : List x_I := [(0, 4, 1, 0, 0, 0, []), (1, 25, 12, 29, 4, 0, [(0, 20, 1824), (0, 1, 20)]), (4, 4, 1, 0, 0, 0, []), (5, 25, 12, 44, 0, 0, []), (8, 2, 1, 1, 0, 0, []), (9, 9, 0, 0, 0, 0, []), (10, 27, 0, 0, 0, 0, []), (11, 14, 0, 0, 0, 0, []), (12, 43, 0, 0, 0, 0, [])]
set_option maxRecDepth 20000 in
theorem qX12_pyf : f_all yX12_py YX12_py pX12_pyf :=
  ⟨f_aload_n (n := 0) (e_dx DX12_py_0 0 rfl) rfl,
  f_getA (e_dx DX12_py_0 1 rfl) fX12_69 rfl (by decide) (Nat.le_of_ble_eq_true rfl) rfl (by decide),
  f_aload_n (n := 0) (e_dx DX12_py_0 2 rfl) rfl,
  f_getf (e_dx DX12_py_0 3 rfl) fX12_439 rfl (by decide) (by decide) (by decide),
  f_iload_n (n := 1) (e_dx DX12_py_0 4 rfl) rfl,
  f_iadd (e_dx DX12_py_0 5 rfl),
  f_iaload (e_dx DX12_py_0 6 rfl),
  f_g14 (e_dx DX12_py_0 7 rfl),
  ⟨(e_dx DX12_py_0 8 rfl), rfl⟩, trivial⟩
def lX12_py : List (Nat × f_Wt) := []
set_option maxRecDepth 20000 in
theorem BX12_py {sh : Nat → Nat × Nat} {t : Nat} {rm : Nat × Nat × Nat} {cs : Nat × Nat} {R : f_Rt} {x1 : Int} {M : e_M} (C : f_Hy sh t yX12_py rm cs 4 (lX12_py) R) (h : VX12_py (fun r => R (some (.inr (.inl r))) M) x1 M) : f_E sh t YX12_py rm cs (f_Q sh t R) 0 [.inr (.inr (.inl (12, 123, 4456))), .inl x1] [] M :=
  f_go (KC := f_kc []) C qX12_pyf f_kc_nil 11 0 h
def WX12_py (x1 : Int) (M : e_M) (Q : Int → Prop) : Prop :=
  VX12_py Q x1 M
theorem PX12_py {sh : Nat → Nat × Nat} {t : Nat} {rm : Nat × Nat × Nat} {cs : Nat × Nat} {R : f_Rt} {x1 : Int} {M : e_M} (C : f_Hy sh t yX12_py rm cs 4 (lX12_py) R) (h : WX12_py x1 M (fun r => R (some (.inr (.inl r))) M)) : f_E sh t YX12_py rm cs (f_Q sh t R) 0 [.inr (.inr (.inl (12, 123, 4456))), .inl x1] [] M :=
  BX12_py C h
def wX12_py : f_Wt := f_wm [(4466, 12, 123), (1, 0, 0)] (fun ar M R => WX12_py (f_vi (f_nth ar 1)) M (fun r => R (some (.inr (.inl r))) M))
theorem TX12_py {sh : Nat → Nat × Nat} {t : Nat} : f_Mt sh t YX12_py 4 (wX12_py) :=
  f_Mt_of (k := 0) (Nat.le_of_ble_eq_true rfl) rfl rfl (fun ar M R rm cs h1 h2 h3 hX h => PX12_py ⟨Nat.le_of_ble_eq_true rfl, h1, h2, h3, trivial, hX⟩ h)
def VJ13_signum_95d88 (Q : Int → Prop) (x0 : Int) (M : e_M) : Prop :=
  (Q (e_w32 (f_orJ (f_shrJ x0 63) (f_ushrJ (e_w64 (-x0)) 63))))
def yJ13_signum_95d88 (i : Nat) : e_Y := x_get YJ13_signum_95d88 [] i
def pJ13_signum_95d88f : List x_I := [(0, 3, 1, 0, 0, 0, []), (1, 0, 2, 0, 0, 63, []), (3, 11, 0, 1, 0, 0, []), (4, 3, 1, 0, 0, 0, []), (5, 13, 0, 0, 0, 0, []), (6, 0, 2, 0, 0, 63, []), (8, 11, 0, 2, 0, 0, []), (9, 10, 0, 6, 0, 0, []), (10, 15, 0, 0, 0, 0, []), (11, 41, 0, 0, 0, 0, [])]
set_option maxRecDepth 20000 in
theorem qJ13_signum_95d88f : f_all yJ13_signum_95d88 YJ13_signum_95d88 pJ13_signum_95d88f :=
  ⟨f_lload_n (n := 0) (e_dx DJ13_signum_95d88_0 0 rfl) rfl,
  f_bipush (e_dx DJ13_signum_95d88_0 1 rfl) ⟨by decide, by decide⟩,
  f_lshr (e_dx DJ13_signum_95d88_0 2 rfl),
  f_lload_n (n := 0) (e_dx DJ13_signum_95d88_0 3 rfl) rfl,
  f_g13 (e_dx DJ13_signum_95d88_0 4 rfl),
  f_bipush (e_dx DJ13_signum_95d88_0 5 rfl) ⟨by decide, by decide⟩,
  f_lushr (e_dx DJ13_signum_95d88_0 6 rfl),
  f_lor (e_dx DJ13_signum_95d88_0 7 rfl),
  f_g15 (e_dx DJ13_signum_95d88_0 8 rfl),
  ⟨(e_dx DJ13_signum_95d88_0 9 rfl), rfl⟩, trivial⟩
def lJ13_signum_95d88 : List (Nat × f_Wt) := []
set_option maxRecDepth 20000 in
theorem BJ13_signum_95d88 {sh : Nat → Nat × Nat} {t : Nat} {rm : Nat × Nat × Nat} {cs : Nat × Nat} {R : f_Rt} {x0 : Int} {M : e_M} (C : f_Hy sh t yJ13_signum_95d88 rm cs 4 (lJ13_signum_95d88) R) (h : VJ13_signum_95d88 (fun r => R (some (.inl r)) M) x0 M) : f_E sh t YJ13_signum_95d88 rm cs (f_Q sh t R) 0 [.inr (.inl x0), .inr (.inr (.inr ()))] [] M :=
  f_go (KC := f_kc []) C qJ13_signum_95d88f f_kc_nil 12 0 h
def WJ13_signum_95d88 (x0 : Int) (M : e_M) (Q : Int → Prop) : Prop :=
  VJ13_signum_95d88 Q x0 M
theorem PJ13_signum_95d88 {sh : Nat → Nat × Nat} {t : Nat} {rm : Nat × Nat × Nat} {cs : Nat × Nat} {R : f_Rt} {x0 : Int} {M : e_M} (C : f_Hy sh t yJ13_signum_95d88 rm cs 4 (lJ13_signum_95d88) R) (h : WJ13_signum_95d88 x0 M (fun r => R (some (.inl r)) M)) : f_E sh t YJ13_signum_95d88 rm cs (f_Q sh t R) 0 [.inr (.inl x0), .inr (.inr (.inr ()))] [] M :=
  BJ13_signum_95d88 C h
def wJ13_signum_95d88 : f_Wt := f_wm [(2, 0, 0)] (fun ar M R => WJ13_signum_95d88 (f_vi (f_nth ar 0)) M (fun r => R (some (.inl r)) M))
theorem TJ13_signum_95d88 {sh : Nat → Nat × Nat} {t : Nat} : f_Mt sh t YJ13_signum_95d88 4 (wJ13_signum_95d88) :=
  f_Mt_of (k := 0) (Nat.le_of_ble_eq_true rfl) rfl rfl (fun ar M R rm cs h1 h2 h3 hX h => PJ13_signum_95d88 ⟨Nat.le_of_ble_eq_true rfl, h1, h2, h3, trivial, hX⟩ h)
def VX12_clear_41 (c_X12_px : Int → e_M → (Int → Prop) → Prop) (c_X12_py : Int → e_M → (Int → Prop) → Prop) (c_X12_turn : Int → Int → Int → Int → Int → Int → e_M → (Int → Prop) → Prop) (c_J13_signum_95d88 : Int → e_M → (Int → Prop) → Prop) (c_X12_lies : Int → Int → Int → Int → Int → Int → e_M → (Int → Prop) → Prop) (c_X12_lieAt : Int → Int → Int → Int → Int → e_M → (Int → Prop) → Prop) (k58 : Int → Int → Int → Int → Int → Int → Int → Int → Prop) (Q : Int → Prop) (x1 : Int) (x2 : Int) (x3 : Int) (x4 : Int) (x6 : Int) (x8 : Int) (x10 : Int) (xs0 : Int) (M : e_M) : Prop :=
  ((¬ x3 = (e_w32 ((M 4456 45) - 2)) → (k58 x1 x2 x4 x6 x8 x10 xs0 0)) ∧ (x3 = (e_w32 ((M 4456 45) - 2)) → (k58 x1 x2 x4 x6 x8 x10 xs0 1)))
def VX12_clear_58 (c_X12_px : Int → e_M → (Int → Prop) → Prop) (c_X12_py : Int → e_M → (Int → Prop) → Prop) (c_X12_turn : Int → Int → Int → Int → Int → Int → e_M → (Int → Prop) → Prop) (c_J13_signum_95d88 : Int → e_M → (Int → Prop) → Prop) (c_X12_lies : Int → Int → Int → Int → Int → Int → e_M → (Int → Prop) → Prop) (c_X12_lieAt : Int → Int → Int → Int → Int → e_M → (Int → Prop) → Prop) (k63 : Int → Int → Int → Int → Int → Int → Int → Int → Int → Prop) (Q : Int → Prop) (x1 : Int) (x2 : Int) (x4 : Int) (x6 : Int) (x8 : Int) (x10 : Int) (x12 : Int) (xs0 : Int) (M : e_M) : Prop :=
  (k63 x1 x2 x4 x6 x8 x10 x12 xs0 0)
def VX12_clear_63 (c_X12_px : Int → e_M → (Int → Prop) → Prop) (c_X12_py : Int → e_M → (Int → Prop) → Prop) (c_X12_turn : Int → Int → Int → Int → Int → Int → e_M → (Int → Prop) → Prop) (c_J13_signum_95d88 : Int → e_M → (Int → Prop) → Prop) (c_X12_lies : Int → Int → Int → Int → Int → Int → e_M → (Int → Prop) → Prop) (c_X12_lieAt : Int → Int → Int → Int → Int → e_M → (Int → Prop) → Prop) (k221 : Int → Int → Int → Int → Int → Int → Int → Int → Int → Int → Int → Int → Prop) (Q : Int → Prop) (x1 : Int) (x2 : Int) (x4 : Int) (x6 : Int) (x8 : Int) (x10 : Int) (x12 : Int) (x13 : Int) (x14 : Int) (M : e_M) : Prop :=
  ((x2 ≤ x14 → (c_X12_lieAt x1 x2 (e_w64 (x4 + x8)) (e_w64 (x6 + x10)) 2 M (fun r1 => ((¬ r1 = 2 → (Q 0)) ∧ (r1 = 2 → (Q 1)))))) ∧ (x14 < x2 → (¬ x2 = 0 ∧ (∀ y2 : Int, y2 = e_w32 (x1 + ((e_w32 (x14 + 1)).tmod x2)) → ((0 ≤ (e_w32 (x1 + x14)) ∧ (e_w32 (x1 + x14)) < 4800) ∧ ((0 ≤ (e_w32 (x1 + x14)) ∧ (e_w32 (x1 + x14)) < 4800) ∧ ((0 ≤ y2 ∧ y2 < 4800) ∧ ((0 ≤ y2 ∧ y2 < 4800) ∧ (c_X12_turn x4 x6 x8 x10 (M 4480 ((e_w32 (x1 + x14)).toNat)) (M 4481 ((e_w32 (x1 + x14)).toNat)) M (fun r3 => (c_X12_turn x4 x6 x8 x10 (M 4480 (y2.toNat)) (M 4481 (y2.toNat)) M (fun r4 => (c_X12_turn (M 4480 ((e_w32 (x1 + x14)).toNat)) (M 4481 ((e_w32 (x1 + x14)).toNat)) (M 4480 (y2.toNat)) (M 4481 (y2.toNat)) x4 x6 M (fun r5 => (c_X12_turn (M 4480 ((e_w32 (x1 + x14)).toNat)) (M 4481 ((e_w32 (x1 + x14)).toNat)) (M 4480 (y2.toNat)) (M 4481 (y2.toNat)) x8 x10 M (fun r6 => (c_J13_signum_95d88 r3 M (fun r7 => (c_J13_signum_95d88 r4 M (fun r8 => ((0 ≤ (e_w32 (r7 * r8)) → (k221 x1 x2 x4 x6 x8 x10 x12 x13 x14 (M 4480 ((e_w32 (x1 + x14)).toNat)) (M 4481 ((e_w32 (x1 + x14)).toNat)) r3)) ∧ ((e_w32 (r7 * r8)) < 0 → (c_J13_signum_95d88 r5 M (fun r9 => (c_J13_signum_95d88 r6 M (fun r10 => ((0 ≤ (e_w32 (r9 * r10)) → (k221 x1 x2 x4 x6 x8 x10 x12 x13 x14 (M 4480 ((e_w32 (x1 + x14)).toNat)) (M 4481 ((e_w32 (x1 + x14)).toNat)) r3)) ∧ ((e_w32 (r9 * r10)) < 0 → (Q 0)))))))))))))))))))))))))))))
def VX12_clear_221 (c_X12_px : Int → e_M → (Int → Prop) → Prop) (c_X12_py : Int → e_M → (Int → Prop) → Prop) (c_X12_turn : Int → Int → Int → Int → Int → Int → e_M → (Int → Prop) → Prop) (c_J13_signum_95d88 : Int → e_M → (Int → Prop) → Prop) (c_X12_lies : Int → Int → Int → Int → Int → Int → e_M → (Int → Prop) → Prop) (c_X12_lieAt : Int → Int → Int → Int → Int → e_M → (Int → Prop) → Prop) (k246 : Int → Int → Int → Int → Int → Int → Int → Int → Int → Int → Int → Int → Prop) (k247 : Int → Int → Int → Int → Int → Int → Int → Int → Int → Int → Int → Int → Int → Prop) (Q : Int → Prop) (x1 : Int) (x2 : Int) (x4 : Int) (x6 : Int) (x8 : Int) (x10 : Int) (x12 : Int) (x13 : Int) (x14 : Int) (x16 : Int) (x18 : Int) (x24 : Int) (M : e_M) : Prop :=
  ((x12 = 0 → (k246 x1 x2 x4 x6 x8 x10 x12 x13 x14 x16 x18 x24)) ∧ (¬ x12 = 0 → ((¬ x16 = x4 → (k246 x1 x2 x4 x6 x8 x10 x12 x13 x14 x16 x18 x24)) ∧ (x16 = x4 → ((¬ x18 = x6 → (k246 x1 x2 x4 x6 x8 x10 x12 x13 x14 x16 x18 x24)) ∧ (x18 = x6 → (k247 x1 x2 x4 x6 x8 x10 x12 x13 x14 x16 x18 x24 1)))))))
def VX12_clear_246 (c_X12_px : Int → e_M → (Int → Prop) → Prop) (c_X12_py : Int → e_M → (Int → Prop) → Prop) (c_X12_turn : Int → Int → Int → Int → Int → Int → e_M → (Int → Prop) → Prop) (c_J13_signum_95d88 : Int → e_M → (Int → Prop) → Prop) (c_X12_lies : Int → Int → Int → Int → Int → Int → e_M → (Int → Prop) → Prop) (c_X12_lieAt : Int → Int → Int → Int → Int → e_M → (Int → Prop) → Prop) (k247 : Int → Int → Int → Int → Int → Int → Int → Int → Int → Int → Int → Int → Int → Prop) (Q : Int → Prop) (x1 : Int) (x2 : Int) (x4 : Int) (x6 : Int) (x8 : Int) (x10 : Int) (x12 : Int) (x13 : Int) (x14 : Int) (x16 : Int) (x18 : Int) (x24 : Int) (M : e_M) : Prop :=
  (k247 x1 x2 x4 x6 x8 x10 x12 x13 x14 x16 x18 x24 0)
def VX12_clear_247 (c_X12_px : Int → e_M → (Int → Prop) → Prop) (c_X12_py : Int → e_M → (Int → Prop) → Prop) (c_X12_turn : Int → Int → Int → Int → Int → Int → e_M → (Int → Prop) → Prop) (c_J13_signum_95d88 : Int → e_M → (Int → Prop) → Prop) (c_X12_lies : Int → Int → Int → Int → Int → Int → e_M → (Int → Prop) → Prop) (c_X12_lieAt : Int → Int → Int → Int → Int → e_M → (Int → Prop) → Prop) (k274 : Int → Int → Int → Int → Int → Int → Int → Int → Int → Int → Int → Int → Int → Prop) (k275 : Int → Int → Int → Int → Int → Int → Int → Int → Int → Int → Int → Int → Int → Int → Prop) (Q : Int → Prop) (x1 : Int) (x2 : Int) (x4 : Int) (x6 : Int) (x8 : Int) (x10 : Int) (x12 : Int) (x13 : Int) (x14 : Int) (x16 : Int) (x18 : Int) (x24 : Int) (xs0 : Int) (M : e_M) : Prop :=
  ((x13 = 0 → (k274 x1 x2 x4 x6 x8 x10 x12 x13 x14 x16 x18 x24 xs0)) ∧ (¬ x13 = 0 → ((¬ x16 = x8 → (k274 x1 x2 x4 x6 x8 x10 x12 x13 x14 x16 x18 x24 xs0)) ∧ (x16 = x8 → ((¬ x18 = x10 → (k274 x1 x2 x4 x6 x8 x10 x12 x13 x14 x16 x18 x24 xs0)) ∧ (x18 = x10 → (k275 x1 x2 x4 x6 x8 x10 x12 x13 x14 x16 x18 x24 xs0 1)))))))
def VX12_clear_274 (c_X12_px : Int → e_M → (Int → Prop) → Prop) (c_X12_py : Int → e_M → (Int → Prop) → Prop) (c_X12_turn : Int → Int → Int → Int → Int → Int → e_M → (Int → Prop) → Prop) (c_J13_signum_95d88 : Int → e_M → (Int → Prop) → Prop) (c_X12_lies : Int → Int → Int → Int → Int → Int → e_M → (Int → Prop) → Prop) (c_X12_lieAt : Int → Int → Int → Int → Int → e_M → (Int → Prop) → Prop) (k275 : Int → Int → Int → Int → Int → Int → Int → Int → Int → Int → Int → Int → Int → Int → Prop) (Q : Int → Prop) (x1 : Int) (x2 : Int) (x4 : Int) (x6 : Int) (x8 : Int) (x10 : Int) (x12 : Int) (x13 : Int) (x14 : Int) (x16 : Int) (x18 : Int) (x24 : Int) (x32 : Int) (M : e_M) : Prop :=
  (k275 x1 x2 x4 x6 x8 x10 x12 x13 x14 x16 x18 x24 x32 0)
def VX12_clear_275 (c_X12_px : Int → e_M → (Int → Prop) → Prop) (c_X12_py : Int → e_M → (Int → Prop) → Prop) (c_X12_turn : Int → Int → Int → Int → Int → Int → e_M → (Int → Prop) → Prop) (c_J13_signum_95d88 : Int → e_M → (Int → Prop) → Prop) (c_X12_lies : Int → Int → Int → Int → Int → Int → e_M → (Int → Prop) → Prop) (c_X12_lieAt : Int → Int → Int → Int → Int → e_M → (Int → Prop) → Prop) (k314 : Int → Int → Int → Int → Int → Int → Int → Int → Int → Prop) (Q : Int → Prop) (x1 : Int) (x2 : Int) (x4 : Int) (x6 : Int) (x8 : Int) (x10 : Int) (x12 : Int) (x13 : Int) (x14 : Int) (x16 : Int) (x18 : Int) (x24 : Int) (x32 : Int) (xs0 : Int) (M : e_M) : Prop :=
  ((¬ x24 = 0 → (k314 x1 x2 x4 x6 x8 x10 x12 x13 x14)) ∧ (x24 = 0 → (c_X12_lies x4 x6 x8 x10 x16 x18 M (fun r1 => ((r1 = 0 → (k314 x1 x2 x4 x6 x8 x10 x12 x13 x14)) ∧ (¬ r1 = 0 → ((¬ x32 = 0 → (k314 x1 x2 x4 x6 x8 x10 x12 x13 x14)) ∧ (x32 = 0 → ((¬ xs0 = 0 → (k314 x1 x2 x4 x6 x8 x10 x12 x13 x14)) ∧ (xs0 = 0 → (Q 0)))))))))))
def VX12_clear_314 (c_X12_px : Int → e_M → (Int → Prop) → Prop) (c_X12_py : Int → e_M → (Int → Prop) → Prop) (c_X12_turn : Int → Int → Int → Int → Int → Int → e_M → (Int → Prop) → Prop) (c_J13_signum_95d88 : Int → e_M → (Int → Prop) → Prop) (c_X12_lies : Int → Int → Int → Int → Int → Int → e_M → (Int → Prop) → Prop) (c_X12_lieAt : Int → Int → Int → Int → Int → e_M → (Int → Prop) → Prop) (k63 : Int → Int → Int → Int → Int → Int → Int → Int → Int → Prop) (Q : Int → Prop) (x1 : Int) (x2 : Int) (x4 : Int) (x6 : Int) (x8 : Int) (x10 : Int) (x12 : Int) (x13 : Int) (x14 : Int) (M : e_M) : Prop :=
  (k63 x1 x2 x4 x6 x8 x10 x12 x13 (e_w32 (x14 + 1)))
def VX12_clear (c_X12_px : Int → e_M → (Int → Prop) → Prop) (c_X12_py : Int → e_M → (Int → Prop) → Prop) (c_X12_turn : Int → Int → Int → Int → Int → Int → e_M → (Int → Prop) → Prop) (c_J13_signum_95d88 : Int → e_M → (Int → Prop) → Prop) (c_X12_lies : Int → Int → Int → Int → Int → Int → e_M → (Int → Prop) → Prop) (c_X12_lieAt : Int → Int → Int → Int → Int → e_M → (Int → Prop) → Prop) (k41 : Int → Int → Int → Int → Int → Int → Int → Int → Prop) (Q : Int → Prop) (x1 : Int) (x2 : Int) (x3 : Int) (M : e_M) : Prop :=
  (c_X12_px x3 M (fun r1 => (c_X12_py x3 M (fun r2 => (c_X12_px (e_w32 (x3 + 1)) M (fun r3 => (c_X12_py (e_w32 (x3 + 1)) M (fun r4 => ((¬ x3 = 0 → (k41 x1 x2 x3 r1 r2 r3 r4 0)) ∧ (x3 = 0 → (k41 x1 x2 x3 r1 r2 r3 r4 1)))))))))))
def yX12_clear (i : Nat) : e_Y := x_get YX12_clear [YX12_px, YX12_py, YX12_turn, YJ13_signum_95d88, YX12_lies, YX12_lieAt] i
def pX12_clearf : List x_I := [(0, 4, 1, 0, 0, 0, []), (1, 2, 1, 3, 0, 0, []), (2, 40, 0, 2, 14, 0, []), (5, 6, 2, 4, 0, 0, []), (7, 4, 1, 0, 0, 0, []), (8, 2, 1, 3, 0, 0, []), (9, 40, 1, 2, 14, 0, []), (12, 6, 2, 6, 0, 0, []), (14, 4, 1, 0, 0, 0, []), (15, 2, 1, 3, 0, 0, []), (16, 0, 1, 0, 0, 1, []), (17, 9, 0, 0, 0, 0, []), (18, 40, 0, 2, 14, 0, []), (21, 6, 2, 8, 0, 0, []), (23, 4, 1, 0, 0, 0, []), (24, 2, 1, 3, 0, 0, []), (25, 0, 1, 0, 0, 1, []), (26, 9, 0, 0, 0, 0, []), (27, 40, 1, 2, 14, 0, []), (30, 6, 2, 10, 0, 0, []), (32, 2, 1, 3, 0, 0, []), (33, 17, 40, 1, 25, 0, []), (36, 0, 1, 0, 0, 1, []), (37, 19, 41, 0, 26, 0, []), (40, 0, 1, 0, 0, 0, []), (41, 49, 0, 0, 0, 0, []), (41, 5, 2, 12, 0, 0, []), (43, 2, 1, 3, 0, 0, []), (44, 4, 1, 0, 0, 0, []), (45, 25, 12, 45, 0, 0, []), (48, 0, 1, 0, 0, 2, []), (49, 9, 0, 1, 0, 0, []), (50, 18, 57, 1, 36, 0, []), (53, 0, 1, 0, 0, 1, []), (54, 19, 58, 0, 37, 0, []), (57, 0, 1, 0, 0, 0, []), (58, 49, 0, 0, 0, 0, []), (58, 5, 2, 13, 0, 0, []), (60, 0, 1, 0, 0, 0, []), (61, 5, 2, 14, 0, 0, []), (63, 49, 0, 0, 0, 0, []), (63, 2, 2, 14, 0, 0, []), (65, 2, 1, 2, 0, 0, []), (66, 18, 320, 3, 177, 0, []), (69, 2, 1, 1, 0, 0, []), (70, 2, 2, 14, 0, 0, []), (72, 0, 1, 0, 0, 1, []), (73, 9, 0, 0, 0, 0, []), (74, 2, 1, 2, 0, 0, []), (75, 9, 0, 4, 0, 0, []), (76, 9, 0, 0, 0, 0, []), (77, 33, 0, 0, 0, 0, []), (77, 5, 2, 15, 0, 0, []), (79, 4, 1, 0, 0, 0, []), (80, 25, 12, 40, 4, 0, [(0, 20, 4800), (0, 1, 24)]), (83, 2, 1, 1, 0, 0, []), (84, 2, 2, 14, 0, 0, []), (86, 9, 0, 0, 0, 0, []), (87, 27, 0, 0, 0, 0, []), (88, 14, 0, 0, 0, 0, []), (89, 6, 2, 16, 0, 0, []), (91, 4, 1, 0, 0, 0, []), (92, 25, 12, 41, 4, 0, [(0, 20, 4800), (0, 1, 25)]), (95, 2, 1, 1, 0, 0, []), (96, 2, 2, 14, 0, 0, []), (98, 9, 0, 0, 0, 0, []), (99, 27, 0, 0, 0, 0, []), (100, 14, 0, 0, 0, 0, []), (101, 6, 2, 18, 0, 0, []), (103, 4, 1, 0, 0, 0, []), (104, 25, 12, 40, 4, 0, [(0, 20, 4800), (0, 1, 24)]), (107, 2, 2, 15, 0, 0, []), (109, 27, 0, 0, 0, 0, []), (110, 14, 0, 0, 0, 0, []), (111, 6, 2, 20, 0, 0, []), (113, 4, 1, 0, 0, 0, []), (114, 25, 12, 41, 4, 0, [(0, 20, 4800), (0, 1, 25)]), (117, 2, 2, 15, 0, 0, []), (119, 27, 0, 0, 0, 0, []), (120, 14, 0, 0, 0, 0, []), (121, 6, 2, 22, 0, 0, []), (123, 3, 2, 4, 0, 0, []), (125, 3, 2, 6, 0, 0, []), (127, 3, 2, 8, 0, 0, []), (129, 3, 2, 10, 0, 0, []), (131, 3, 2, 16, 0, 0, []), (133, 3, 2, 18, 0, 0, []), (135, 40, 2, 6, 0, 0, []), (138, 6, 2, 24, 0, 0, []), (140, 3, 2, 4, 0, 0, []), (142, 3, 2, 6, 0, 0, []), (144, 3, 2, 8, 0, 0, []), (146, 3, 2, 10, 0, 0, []), (148, 3, 2, 20, 0, 0, []), (150, 3, 2, 22, 0, 0, []), (152, 40, 2, 6, 0, 0, []), (155, 6, 2, 26, 0, 0, []), (157, 3, 2, 16, 0, 0, []), (159, 3, 2, 18, 0, 0, []), (161, 3, 2, 20, 0, 0, []), (163, 3, 2, 22, 0, 0, []), (165, 3, 2, 4, 0, 0, []), (167, 3, 2, 6, 0, 0, []), (169, 40, 2, 6, 0, 0, []), (172, 6, 2, 28, 0, 0, []), (174, 3, 2, 16, 0, 0, []), (176, 3, 2, 18, 0, 0, []), (178, 3, 2, 20, 0, 0, []), (180, 3, 2, 22, 0, 0, []), (182, 3, 2, 8, 0, 0, []), (184, 3, 2, 10, 0, 0, []), (186, 40, 2, 6, 0, 0, []), (189, 6, 2, 30, 0, 0, []), (191, 3, 2, 24, 0, 0, []), (193, 40, 3, 1, 0, 0, []), (196, 3, 2, 26, 0, 0, []), (198, 40, 3, 1, 0, 0, []), (201, 9, 0, 2, 0, 0, []), (202, 17, 221, 3, 128, 0, []), (205, 3, 2, 28, 0, 0, []), (207, 40, 3, 1, 0, 0, []), (210, 3, 2, 30, 0, 0, []), (212, 40, 3, 1, 0, 0, []), (215, 9, 0, 2, 0, 0, []), (216, 17, 221, 3, 128, 0, []), (219, 0, 1, 0, 0, 0, []), (220, 48, 0, 0, 0, 0, []), (221, 49, 0, 0, 0, 0, []), (221, 2, 2, 12, 0, 0, []), (223, 17, 246, 0, 139, 0, []), (226, 3, 2, 16, 0, 0, []), (228, 3, 2, 4, 0, 0, []), (230, 32, 246, 1, 139, 0, []), (234, 3, 2, 18, 0, 0, []), (236, 3, 2, 6, 0, 0, []), (238, 32, 246, 1, 139, 0, []), (242, 0, 1, 0, 0, 1, []), (243, 19, 247, 0, 141, 0, []), (246, 49, 0, 0, 0, 0, []), (246, 0, 1, 0, 0, 0, []), (247, 49, 0, 0, 0, 0, []), (247, 5, 2, 32, 0, 0, []), (249, 2, 2, 13, 0, 0, []), (251, 17, 274, 0, 153, 0, []), (254, 3, 2, 16, 0, 0, []), (256, 3, 2, 8, 0, 0, []), (258, 32, 274, 1, 153, 0, []), (262, 3, 2, 18, 0, 0, []), (264, 3, 2, 10, 0, 0, []), (266, 32, 274, 1, 153, 0, []), (270, 0, 1, 0, 0, 1, []), (271, 19, 275, 0, 155, 0, []), (274, 49, 0, 0, 0, 0, []), (274, 0, 1, 0, 0, 0, []), (275, 49, 0, 0, 0, 0, []), (275, 5, 2, 33, 0, 0, []), (277, 3, 2, 24, 0, 0, []), (279, 1, 1, 0, 0, 0, []), (280, 32, 314, 1, 174, 0, []), (284, 3, 2, 4, 0, 0, []), (286, 3, 2, 6, 0, 0, []), (288, 3, 2, 8, 0, 0, []), (290, 3, 2, 10, 0, 0, []), (292, 3, 2, 16, 0, 0, []), (294, 3, 2, 18, 0, 0, []), (296, 40, 4, 6, 0, 0, []), (299, 17, 314, 0, 174, 0, []), (302, 2, 2, 32, 0, 0, []), (304, 17, 314, 1, 174, 0, []), (307, 2, 2, 33, 0, 0, []), (309, 17, 314, 1, 174, 0, []), (312, 0, 1, 0, 0, 0, []), (313, 48, 0, 0, 0, 0, []), (314, 49, 0, 0, 0, 0, []), (314, 8, 0, 14, 0, 1, []), (317, 19, 63, 0, 41, 0, []), (320, 4, 1, 0, 0, 0, []), (321, 2, 1, 1, 0, 0, []), (322, 2, 1, 2, 0, 0, []), (323, 3, 2, 4, 0, 0, []), (325, 3, 2, 8, 0, 0, []), (327, 10, 0, 0, 0, 0, []), (328, 3, 2, 6, 0, 0, []), (330, 3, 2, 10, 0, 0, []), (332, 10, 0, 0, 0, 0, []), (333, 0, 1, 0, 0, 2, []), (334, 40, 5, 6, 14, 0, []), (337, 0, 1, 0, 0, 2, []), (338, 18, 345, 1, 192, 0, []), (341, 0, 1, 0, 0, 1, []), (342, 19, 346, 0, 193, 0, []), (345, 0, 1, 0, 0, 0, []), (346, 48, 0, 0, 0, 0, [])]
set_option maxRecDepth 20000 in
theorem qX12_clearf : f_all yX12_clear YX12_clear pX12_clearf :=
  ⟨f_aload_n (n := 0) (e_dx DX12_clear_0 0 rfl) rfl,
  f_iload_n (n := 3) (e_dx DX12_clear_0 1 rfl) rfl,
  x_callV (e_dx DX12_clear_0 2 rfl) mwX12_px vwX12_px cX12_445 rfl,
  f_lstore (e_dx DX12_clear_0 3 rfl) (by decide),
  f_aload_n (n := 0) (e_dx DX12_clear_0 4 rfl) rfl,
  f_iload_n (n := 3) (e_dx DX12_clear_0 5 rfl) rfl,
  x_callV (e_dx DX12_clear_0 6 rfl) mwX12_py vwX12_py cX12_449 rfl,
  f_lstore (e_dx DX12_clear_0 7 rfl) (by decide),
  f_aload_n (n := 0) (e_dx DX12_clear_0 8 rfl) rfl,
  f_iload_n (n := 3) (e_dx DX12_clear_0 9 rfl) rfl,
  f_iconst (e_dx DX12_clear_0 10 rfl) ⟨by decide, by decide⟩,
  f_iadd (e_dx DX12_clear_0 11 rfl),
  x_callV (e_dx DX12_clear_0 12 rfl) mwX12_px vwX12_px cX12_445 rfl,
  f_lstore (e_dx DX12_clear_0 13 rfl) (by decide),
  f_aload_n (n := 0) (e_dx DX12_clear_0 14 rfl) rfl,
  f_iload_n (n := 3) (e_dx DX12_clear_0 15 rfl) rfl,
  f_iconst (e_dx DX12_clear_0 16 rfl) ⟨by decide, by decide⟩,
  f_iadd (e_dx DX12_clear_0 17 rfl),
  x_callV (e_dx DX12_clear_0 18 rfl) mwX12_py vwX12_py cX12_449 rfl,
  f_lstore (e_dx DX12_clear_0 19 rfl) (by decide),
  f_iload_n (n := 3) (e_dx DX12_clear_0 20 rfl) rfl,
  f_if_ne (e_dx DX12_clear_0 21 rfl) rfl,
  f_iconst (e_dx DX12_clear_0 22 rfl) ⟨by decide, by decide⟩,
  f_g19 (e_dx DX12_clear_0 23 rfl) rfl,
  f_iconst (e_dx DX12_clear_0 24 rfl) ⟨by decide, by decide⟩,
  trivial,
  f_istore (e_dx DX12_clear_0 25 rfl) (by decide),
  f_iload_n (n := 3) (e_dx DX12_clear_0 26 rfl) rfl,
  f_aload_n (n := 0) (e_dx DX12_clear_0 27 rfl) rfl,
  f_getf (e_dx DX12_clear_0 28 rfl) fX12_442 rfl (by decide) (by decide) (by decide),
  f_iconst (e_dx DX12_clear_0 29 rfl) ⟨by decide, by decide⟩,
  f_isub (e_dx DX12_clear_0 30 rfl),
  f_icmp_ne (e_dx DX12_clear_0 31 rfl) rfl,
  f_iconst (e_dx DX12_clear_0 32 rfl) ⟨by decide, by decide⟩,
  f_g19 (e_dx DX12_clear_0 33 rfl) rfl,
  f_iconst (e_dx DX12_clear_0 34 rfl) ⟨by decide, by decide⟩,
  trivial,
  f_istore (e_dx DX12_clear_0 35 rfl) (by decide),
  f_iconst (e_dx DX12_clear_0 36 rfl) ⟨by decide, by decide⟩,
  f_istore (e_dx DX12_clear_0 37 rfl) (by decide),
  trivial,
  f_iload (e_dx DX12_clear_0 38 rfl),
  f_iload_n (n := 2) (e_dx DX12_clear_0 39 rfl) rfl,
  f_icmp_ge (e_dx DX12_clear_1 0 rfl) rfl,
  f_iload_n (n := 1) (e_dx DX12_clear_1 1 rfl) rfl,
  f_iload (e_dx DX12_clear_1 2 rfl),
  f_iconst (e_dx DX12_clear_1 3 rfl) ⟨by decide, by decide⟩,
  f_iadd (e_dx DX12_clear_1 4 rfl),
  f_iload_n (n := 2) (e_dx DX12_clear_1 5 rfl) rfl,
  f_irem (e_dx DX12_clear_1 6 rfl),
  f_iadd (e_dx DX12_clear_1 7 rfl),
  f_g33,
  f_istore (e_dx DX12_clear_1 8 rfl) (by decide),
  f_aload_n (n := 0) (e_dx DX12_clear_1 9 rfl) rfl,
  f_getA (e_dx DX12_clear_1 10 rfl) fX12_82 rfl (by decide) (Nat.le_of_ble_eq_true rfl) rfl (by decide),
  f_iload_n (n := 1) (e_dx DX12_clear_1 11 rfl) rfl,
  f_iload (e_dx DX12_clear_1 12 rfl),
  f_iadd (e_dx DX12_clear_1 13 rfl),
  f_iaload (e_dx DX12_clear_1 14 rfl),
  f_g14 (e_dx DX12_clear_1 15 rfl),
  f_lstore (e_dx DX12_clear_1 16 rfl) (by decide),
  f_aload_n (n := 0) (e_dx DX12_clear_1 17 rfl) rfl,
  f_getA (e_dx DX12_clear_1 18 rfl) fX12_85 rfl (by decide) (Nat.le_of_ble_eq_true rfl) rfl (by decide),
  f_iload_n (n := 1) (e_dx DX12_clear_1 19 rfl) rfl,
  f_iload (e_dx DX12_clear_1 20 rfl),
  f_iadd (e_dx DX12_clear_1 21 rfl),
  f_iaload (e_dx DX12_clear_1 22 rfl),
  f_g14 (e_dx DX12_clear_1 23 rfl),
  f_lstore (e_dx DX12_clear_1 24 rfl) (by decide),
  f_aload_n (n := 0) (e_dx DX12_clear_1 25 rfl) rfl,
  f_getA (e_dx DX12_clear_1 26 rfl) fX12_82 rfl (by decide) (Nat.le_of_ble_eq_true rfl) rfl (by decide),
  f_iload (e_dx DX12_clear_1 27 rfl),
  f_iaload (e_dx DX12_clear_1 28 rfl),
  f_g14 (e_dx DX12_clear_1 29 rfl),
  f_lstore (e_dx DX12_clear_1 30 rfl) (by decide),
  f_aload_n (n := 0) (e_dx DX12_clear_1 31 rfl) rfl,
  f_getA (e_dx DX12_clear_1 32 rfl) fX12_85 rfl (by decide) (Nat.le_of_ble_eq_true rfl) rfl (by decide),
  f_iload (e_dx DX12_clear_1 33 rfl),
  f_iaload (e_dx DX12_clear_1 34 rfl),
  f_g14 (e_dx DX12_clear_1 35 rfl),
  f_lstore (e_dx DX12_clear_1 36 rfl) (by decide),
  f_lload (e_dx DX12_clear_1 37 rfl),
  f_lload (e_dx DX12_clear_1 38 rfl),
  f_lload (e_dx DX12_clear_1 39 rfl),
  f_lload (e_dx DX12_clear_2 0 rfl),
  f_lload (e_dx DX12_clear_2 1 rfl),
  f_lload (e_dx DX12_clear_2 2 rfl),
  x_callS (e_dx DX12_clear_2 3 rfl) mwX12_turn cX12_427 swX12_turn rfl,
  f_lstore (e_dx DX12_clear_2 4 rfl) (by decide),
  f_lload (e_dx DX12_clear_2 5 rfl),
  f_lload (e_dx DX12_clear_2 6 rfl),
  f_lload (e_dx DX12_clear_2 7 rfl),
  f_lload (e_dx DX12_clear_2 8 rfl),
  f_lload (e_dx DX12_clear_2 9 rfl),
  f_lload (e_dx DX12_clear_2 10 rfl),
  x_callS (e_dx DX12_clear_2 11 rfl) mwX12_turn cX12_427 swX12_turn rfl,
  f_lstore (e_dx DX12_clear_2 12 rfl) (by decide),
  f_lload (e_dx DX12_clear_2 13 rfl),
  f_lload (e_dx DX12_clear_2 14 rfl),
  f_lload (e_dx DX12_clear_2 15 rfl),
  f_lload (e_dx DX12_clear_2 16 rfl),
  f_lload (e_dx DX12_clear_2 17 rfl),
  f_lload (e_dx DX12_clear_2 18 rfl),
  x_callS (e_dx DX12_clear_2 19 rfl) mwX12_turn cX12_427 swX12_turn rfl,
  f_lstore (e_dx DX12_clear_2 20 rfl) (by decide),
  f_lload (e_dx DX12_clear_2 21 rfl),
  f_lload (e_dx DX12_clear_2 22 rfl),
  f_lload (e_dx DX12_clear_2 23 rfl),
  f_lload (e_dx DX12_clear_2 24 rfl),
  f_lload (e_dx DX12_clear_2 25 rfl),
  f_lload (e_dx DX12_clear_2 26 rfl),
  x_callS (e_dx DX12_clear_2 27 rfl) mwX12_turn cX12_427 swX12_turn rfl,
  f_lstore (e_dx DX12_clear_2 28 rfl) (by decide),
  f_lload (e_dx DX12_clear_2 29 rfl),
  x_callS (e_dx DX12_clear_2 30 rfl) mwJ13_signum_95d88 cX12_474 swJ13_signum_95d88 rfl,
  f_lload (e_dx DX12_clear_2 31 rfl),
  x_callS (e_dx DX12_clear_2 32 rfl) mwJ13_signum_95d88 cX12_474 swJ13_signum_95d88 rfl,
  f_imul (e_dx DX12_clear_2 33 rfl),
  f_if_ge (e_dx DX12_clear_2 34 rfl) rfl,
  f_lload (e_dx DX12_clear_2 35 rfl),
  x_callS (e_dx DX12_clear_2 36 rfl) mwJ13_signum_95d88 cX12_474 swJ13_signum_95d88 rfl,
  f_lload (e_dx DX12_clear_2 37 rfl),
  x_callS (e_dx DX12_clear_2 38 rfl) mwJ13_signum_95d88 cX12_474 swJ13_signum_95d88 rfl,
  f_imul (e_dx DX12_clear_2 39 rfl),
  f_if_ge (e_dx DX12_clear_3 0 rfl) rfl,
  f_iconst (e_dx DX12_clear_3 1 rfl) ⟨by decide, by decide⟩,
  ⟨(e_dx DX12_clear_3 2 rfl), rfl⟩,
  trivial,
  f_iload (e_dx DX12_clear_3 3 rfl),
  f_if_eq (e_dx DX12_clear_3 4 rfl) rfl,
  f_lload (e_dx DX12_clear_3 5 rfl),
  f_lload (e_dx DX12_clear_3 6 rfl),
  f_lif_ne (e_dx DX12_clear_3 7 rfl) (e_dx DX12_clear_3 8 rfl) rfl,
  f_lload (e_dx DX12_clear_3 9 rfl),
  f_lload (e_dx DX12_clear_3 10 rfl),
  f_lif_ne (e_dx DX12_clear_3 11 rfl) (e_dx DX12_clear_3 12 rfl) rfl,
  f_iconst (e_dx DX12_clear_3 13 rfl) ⟨by decide, by decide⟩,
  f_g19 (e_dx DX12_clear_3 14 rfl) rfl,
  trivial,
  f_iconst (e_dx DX12_clear_3 15 rfl) ⟨by decide, by decide⟩,
  trivial,
  f_istore (e_dx DX12_clear_3 16 rfl) (by decide),
  f_iload (e_dx DX12_clear_3 17 rfl),
  f_if_eq (e_dx DX12_clear_3 18 rfl) rfl,
  f_lload (e_dx DX12_clear_3 19 rfl),
  f_lload (e_dx DX12_clear_3 20 rfl),
  f_lif_ne (e_dx DX12_clear_3 21 rfl) (e_dx DX12_clear_3 22 rfl) rfl,
  f_lload (e_dx DX12_clear_3 23 rfl),
  f_lload (e_dx DX12_clear_3 24 rfl),
  f_lif_ne (e_dx DX12_clear_3 25 rfl) (e_dx DX12_clear_3 26 rfl) rfl,
  f_iconst (e_dx DX12_clear_3 27 rfl) ⟨by decide, by decide⟩,
  f_g19 (e_dx DX12_clear_3 28 rfl) rfl,
  trivial,
  f_iconst (e_dx DX12_clear_3 29 rfl) ⟨by decide, by decide⟩,
  trivial,
  f_istore (e_dx DX12_clear_3 30 rfl) (by decide),
  f_lload (e_dx DX12_clear_3 31 rfl),
  f_lconst (n := 0) (e_dx DX12_clear_3 32 rfl) rfl,
  f_lif_ne (e_dx DX12_clear_3 33 rfl) (e_dx DX12_clear_3 34 rfl) rfl,
  f_lload (e_dx DX12_clear_3 35 rfl),
  f_lload (e_dx DX12_clear_3 36 rfl),
  f_lload (e_dx DX12_clear_3 37 rfl),
  f_lload (e_dx DX12_clear_3 38 rfl),
  f_lload (e_dx DX12_clear_3 39 rfl),
  f_lload (e_dx DX12_clear_4 0 rfl),
  x_callS (e_dx DX12_clear_4 1 rfl) mwX12_lies cX12_435 swX12_lies rfl,
  f_if_eq (e_dx DX12_clear_4 2 rfl) rfl,
  f_iload (e_dx DX12_clear_4 3 rfl),
  f_if_ne (e_dx DX12_clear_4 4 rfl) rfl,
  f_iload (e_dx DX12_clear_4 5 rfl),
  f_if_ne (e_dx DX12_clear_4 6 rfl) rfl,
  f_iconst (e_dx DX12_clear_4 7 rfl) ⟨by decide, by decide⟩,
  ⟨(e_dx DX12_clear_4 8 rfl), rfl⟩,
  trivial,
  f_g8 (e_dx DX12_clear_4 9 rfl) ⟨by decide, by decide⟩,
  f_g19 (e_dx DX12_clear_4 10 rfl) rfl,
  f_aload_n (n := 0) (e_dx DX12_clear_4 11 rfl) rfl,
  f_iload_n (n := 1) (e_dx DX12_clear_4 12 rfl) rfl,
  f_iload_n (n := 2) (e_dx DX12_clear_4 13 rfl) rfl,
  f_lload (e_dx DX12_clear_4 14 rfl),
  f_lload (e_dx DX12_clear_4 15 rfl),
  f_ladd (e_dx DX12_clear_4 16 rfl),
  f_lload (e_dx DX12_clear_4 17 rfl),
  f_lload (e_dx DX12_clear_4 18 rfl),
  f_ladd (e_dx DX12_clear_4 19 rfl),
  f_iconst (e_dx DX12_clear_4 20 rfl) ⟨by decide, by decide⟩,
  x_callV (e_dx DX12_clear_4 21 rfl) mwX12_lieAt vwX12_lieAt cX12_452 rfl,
  f_iconst (e_dx DX12_clear_4 22 rfl) ⟨by decide, by decide⟩,
  f_icmp_ne (e_dx DX12_clear_4 23 rfl) rfl,
  f_iconst (e_dx DX12_clear_4 24 rfl) ⟨by decide, by decide⟩,
  f_g19 (e_dx DX12_clear_4 25 rfl) rfl,
  f_iconst (e_dx DX12_clear_4 26 rfl) ⟨by decide, by decide⟩,
  ⟨(e_dx DX12_clear_4 27 rfl), rfl⟩, trivial⟩
def lX12_clear (c_X12_px : Int → e_M → (Int → Prop) → Prop) (c_X12_py : Int → e_M → (Int → Prop) → Prop) (c_X12_turn : Int → Int → Int → Int → Int → Int → e_M → (Int → Prop) → Prop) (c_J13_signum_95d88 : Int → e_M → (Int → Prop) → Prop) (c_X12_lies : Int → Int → Int → Int → Int → Int → e_M → (Int → Prop) → Prop) (c_X12_lieAt : Int → Int → Int → Int → Int → e_M → (Int → Prop) → Prop) : List (Nat × f_Wt) := [(0, f_wm [(4466, 12, 123), (1, 0, 0)] (fun ar M R => c_X12_px (f_vi (f_nth ar 1)) M (fun r => R (some (.inr (.inl r))) M))), (1, f_wm [(4466, 12, 123), (1, 0, 0)] (fun ar M R => c_X12_py (f_vi (f_nth ar 1)) M (fun r => R (some (.inr (.inl r))) M))), (2, f_wm [(2, 0, 0), (2, 0, 0), (2, 0, 0), (2, 0, 0), (2, 0, 0), (2, 0, 0)] (fun ar M R => c_X12_turn (f_vi (f_nth ar 0)) (f_vi (f_nth ar 1)) (f_vi (f_nth ar 2)) (f_vi (f_nth ar 3)) (f_vi (f_nth ar 4)) (f_vi (f_nth ar 5)) M (fun r => R (some (.inr (.inl r))) M))), (3, f_wm [(2, 0, 0)] (fun ar M R => c_J13_signum_95d88 (f_vi (f_nth ar 0)) M (fun r => R (some (.inl r)) M))), (4, f_wm [(2, 0, 0), (2, 0, 0), (2, 0, 0), (2, 0, 0), (2, 0, 0), (2, 0, 0)] (fun ar M R => c_X12_lies (f_vi (f_nth ar 0)) (f_vi (f_nth ar 1)) (f_vi (f_nth ar 2)) (f_vi (f_nth ar 3)) (f_vi (f_nth ar 4)) (f_vi (f_nth ar 5)) M (fun r => R (some (.inl r)) M))), (5, f_wm [(4466, 12, 123), (1, 0, 0), (1, 0, 0), (2, 0, 0), (2, 0, 0), (1, 0, 0)] (fun ar M R => c_X12_lieAt (f_vi (f_nth ar 1)) (f_vi (f_nth ar 2)) (f_vi (f_nth ar 3)) (f_vi (f_nth ar 4)) (f_vi (f_nth ar 5)) M (fun r => R (some (.inl r)) M)))]
set_option maxRecDepth 20000 in
theorem BX12_clear_41 {sh : Nat → Nat × Nat} {t : Nat} {rm : Nat × Nat × Nat} {cs : Nat × Nat} {R : f_Rt} {c_X12_px : Int → e_M → (Int → Prop) → Prop} {c_X12_py : Int → e_M → (Int → Prop) → Prop} {c_X12_turn : Int → Int → Int → Int → Int → Int → e_M → (Int → Prop) → Prop} {c_J13_signum_95d88 : Int → e_M → (Int → Prop) → Prop} {c_X12_lies : Int → Int → Int → Int → Int → Int → e_M → (Int → Prop) → Prop} {c_X12_lieAt : Int → Int → Int → Int → Int → e_M → (Int → Prop) → Prop} {k58 : Int → Int → Int → Int → Int → Int → Int → Int → Prop} {x1 : Int} {x2 : Int} {x3 : Int} {x4 : Int} {x6 : Int} {x8 : Int} {x10 : Int} {xs0 : Int} {M : e_M} (C : f_Hy sh t yX12_clear rm cs 7 (lX12_clear c_X12_px c_X12_py c_X12_turn c_J13_signum_95d88 c_X12_lies c_X12_lieAt) R) (h58 : ∀ (x1 : Int) (x2 : Int) (x4 : Int) (x6 : Int) (x8 : Int) (x10 : Int) (x12 : Int) (xs0 : Int), k58 x1 x2 x4 x6 x8 x10 x12 xs0 → f_E sh t YX12_clear rm cs (f_Q sh t R) 58 [.inr (.inr (.inl (12, 123, 4456))), .inl x1, .inl x2, .inr (.inr (.inr ())), .inr (.inl x4), .inr (.inr (.inr ())), .inr (.inl x6), .inr (.inr (.inr ())), .inr (.inl x8), .inr (.inr (.inr ())), .inr (.inl x10), .inr (.inr (.inr ())), .inl x12, .inr (.inr (.inr ())), .inr (.inr (.inr ())), .inr (.inr (.inr ())), .inr (.inr (.inr ())), .inr (.inr (.inr ())), .inr (.inr (.inr ())), .inr (.inr (.inr ())), .inr (.inr (.inr ())), .inr (.inr (.inr ())), .inr (.inr (.inr ())), .inr (.inr (.inr ())), .inr (.inr (.inr ())), .inr (.inr (.inr ())), .inr (.inr (.inr ())), .inr (.inr (.inr ())), .inr (.inr (.inr ())), .inr (.inr (.inr ())), .inr (.inr (.inr ())), .inr (.inr (.inr ())), .inr (.inr (.inr ())), .inr (.inr (.inr ()))] [.inl xs0] M) (h : VX12_clear_41 c_X12_px c_X12_py c_X12_turn c_J13_signum_95d88 c_X12_lies c_X12_lieAt k58 (fun r => R (some (.inl r)) M) x1 x2 x3 x4 x6 x8 x10 xs0 M) : f_E sh t YX12_clear rm cs (f_Q sh t R) 41 [.inr (.inr (.inl (12, 123, 4456))), .inl x1, .inl x2, .inl x3, .inr (.inl x4), .inr (.inr (.inr ())), .inr (.inl x6), .inr (.inr (.inr ())), .inr (.inl x8), .inr (.inr (.inr ())), .inr (.inl x10), .inr (.inr (.inr ())), .inr (.inr (.inr ())), .inr (.inr (.inr ())), .inr (.inr (.inr ())), .inr (.inr (.inr ())), .inr (.inr (.inr ())), .inr (.inr (.inr ())), .inr (.inr (.inr ())), .inr (.inr (.inr ())), .inr (.inr (.inr ())), .inr (.inr (.inr ())), .inr (.inr (.inr ())), .inr (.inr (.inr ())), .inr (.inr (.inr ())), .inr (.inr (.inr ())), .inr (.inr (.inr ())), .inr (.inr (.inr ())), .inr (.inr (.inr ())), .inr (.inr (.inr ())), .inr (.inr (.inr ())), .inr (.inr (.inr ())), .inr (.inr (.inr ())), .inr (.inr (.inr ()))] [.inl xs0] M := by
  rw [f_kk8 M k58] at h
  exact f_go (KC := f_kc [(58, f_pl [(4466, 12, 123), (1, 0, 0), (1, 0, 0), (0, 0, 0), (2, 0, 0), (0, 0, 0), (2, 0, 0), (0, 0, 0), (2, 0, 0), (0, 0, 0), (2, 0, 0), (0, 0, 0), (1, 0, 0), (0, 0, 0), (0, 0, 0), (0, 0, 0), (0, 0, 0), (0, 0, 0), (0, 0, 0), (0, 0, 0), (0, 0, 0), (0, 0, 0), (0, 0, 0), (0, 0, 0), (0, 0, 0), (0, 0, 0), (0, 0, 0), (0, 0, 0), (0, 0, 0), (0, 0, 0), (0, 0, 0), (0, 0, 0), (0, 0, 0), (0, 0, 0)] [(1, 0, 0)] (fun ls st M2 => M2 = M ∧ (k58 (f_vi (f_nth ls 1)) (f_vi (f_nth ls 2)) (f_vi (f_nth ls 4)) (f_vi (f_nth ls 6)) (f_vi (f_nth ls 8)) (f_vi (f_nth ls 10)) (f_vi (f_nth ls 12)) (f_vi (f_nth st 0)))))]) C qX12_clearf (f_kc_cons (f_pl_ok rfl (fun ls st M2 ⟨e, hh⟩ => by subst e; exact h58 _ _ _ _ _ _ _ _ hh)) f_kc_nil) 195 26 h
set_option maxRecDepth 20000 in
theorem BX12_clear_58 {sh : Nat → Nat × Nat} {t : Nat} {rm : Nat × Nat × Nat} {cs : Nat × Nat} {R : f_Rt} {c_X12_px : Int → e_M → (Int → Prop) → Prop} {c_X12_py : Int → e_M → (Int → Prop) → Prop} {c_X12_turn : Int → Int → Int → Int → Int → Int → e_M → (Int → Prop) → Prop} {c_J13_signum_95d88 : Int → e_M → (Int → Prop) → Prop} {c_X12_lies : Int → Int → Int → Int → Int → Int → e_M → (Int → Prop) → Prop} {c_X12_lieAt : Int → Int → Int → Int → Int → e_M → (Int → Prop) → Prop} {k63 : Int → Int → Int → Int → Int → Int → Int → Int → Int → Prop} {x1 : Int} {x2 : Int} {x4 : Int} {x6 : Int} {x8 : Int} {x10 : Int} {x12 : Int} {xs0 : Int} {M : e_M} (C : f_Hy sh t yX12_clear rm cs 7 (lX12_clear c_X12_px c_X12_py c_X12_turn c_J13_signum_95d88 c_X12_lies c_X12_lieAt) R) (h63 : ∀ (x1 : Int) (x2 : Int) (x4 : Int) (x6 : Int) (x8 : Int) (x10 : Int) (x12 : Int) (x13 : Int) (x14 : Int), k63 x1 x2 x4 x6 x8 x10 x12 x13 x14 → f_E sh t YX12_clear rm cs (f_Q sh t R) 63 [.inr (.inr (.inl (12, 123, 4456))), .inl x1, .inl x2, .inr (.inr (.inr ())), .inr (.inl x4), .inr (.inr (.inr ())), .inr (.inl x6), .inr (.inr (.inr ())), .inr (.inl x8), .inr (.inr (.inr ())), .inr (.inl x10), .inr (.inr (.inr ())), .inl x12, .inl x13, .inl x14, .inr (.inr (.inr ())), .inr (.inr (.inr ())), .inr (.inr (.inr ())), .inr (.inr (.inr ())), .inr (.inr (.inr ())), .inr (.inr (.inr ())), .inr (.inr (.inr ())), .inr (.inr (.inr ())), .inr (.inr (.inr ())), .inr (.inr (.inr ())), .inr (.inr (.inr ())), .inr (.inr (.inr ())), .inr (.inr (.inr ())), .inr (.inr (.inr ())), .inr (.inr (.inr ())), .inr (.inr (.inr ())), .inr (.inr (.inr ())), .inr (.inr (.inr ())), .inr (.inr (.inr ()))] [] M) (h : VX12_clear_58 c_X12_px c_X12_py c_X12_turn c_J13_signum_95d88 c_X12_lies c_X12_lieAt k63 (fun r => R (some (.inl r)) M) x1 x2 x4 x6 x8 x10 x12 xs0 M) : f_E sh t YX12_clear rm cs (f_Q sh t R) 58 [.inr (.inr (.inl (12, 123, 4456))), .inl x1, .inl x2, .inr (.inr (.inr ())), .inr (.inl x4), .inr (.inr (.inr ())), .inr (.inl x6), .inr (.inr (.inr ())), .inr (.inl x8), .inr (.inr (.inr ())), .inr (.inl x10), .inr (.inr (.inr ())), .inl x12, .inr (.inr (.inr ())), .inr (.inr (.inr ())), .inr (.inr (.inr ())), .inr (.inr (.inr ())), .inr (.inr (.inr ())), .inr (.inr (.inr ())), .inr (.inr (.inr ())), .inr (.inr (.inr ())), .inr (.inr (.inr ())), .inr (.inr (.inr ())), .inr (.inr (.inr ())), .inr (.inr (.inr ())), .inr (.inr (.inr ())), .inr (.inr (.inr ())), .inr (.inr (.inr ())), .inr (.inr (.inr ())), .inr (.inr (.inr ())), .inr (.inr (.inr ())), .inr (.inr (.inr ())), .inr (.inr (.inr ())), .inr (.inr (.inr ()))] [.inl xs0] M := by
  rw [f_kk9 M k63] at h
  exact f_go (KC := f_kc [(63, f_pl [(4466, 12, 123), (1, 0, 0), (1, 0, 0), (0, 0, 0), (2, 0, 0), (0, 0, 0), (2, 0, 0), (0, 0, 0), (2, 0, 0), (0, 0, 0), (2, 0, 0), (0, 0, 0), (1, 0, 0), (1, 0, 0), (1, 0, 0), (0, 0, 0), (0, 0, 0), (0, 0, 0), (0, 0, 0), (0, 0, 0), (0, 0, 0), (0, 0, 0), (0, 0, 0), (0, 0, 0), (0, 0, 0), (0, 0, 0), (0, 0, 0), (0, 0, 0), (0, 0, 0), (0, 0, 0), (0, 0, 0), (0, 0, 0), (0, 0, 0), (0, 0, 0)] [] (fun ls st M2 => M2 = M ∧ (k63 (f_vi (f_nth ls 1)) (f_vi (f_nth ls 2)) (f_vi (f_nth ls 4)) (f_vi (f_nth ls 6)) (f_vi (f_nth ls 8)) (f_vi (f_nth ls 10)) (f_vi (f_nth ls 12)) (f_vi (f_nth ls 13)) (f_vi (f_nth ls 14)))))]) C qX12_clearf (f_kc_cons (f_pl_ok rfl (fun ls st M2 ⟨e, hh⟩ => by subst e; exact h63 _ _ _ _ _ _ _ _ _ hh)) f_kc_nil) 195 37 h
set_option maxRecDepth 20000 in
theorem BX12_clear_63 {sh : Nat → Nat × Nat} {t : Nat} {rm : Nat × Nat × Nat} {cs : Nat × Nat} {R : f_Rt} {c_X12_px : Int → e_M → (Int → Prop) → Prop} {c_X12_py : Int → e_M → (Int → Prop) → Prop} {c_X12_turn : Int → Int → Int → Int → Int → Int → e_M → (Int → Prop) → Prop} {c_J13_signum_95d88 : Int → e_M → (Int → Prop) → Prop} {c_X12_lies : Int → Int → Int → Int → Int → Int → e_M → (Int → Prop) → Prop} {c_X12_lieAt : Int → Int → Int → Int → Int → e_M → (Int → Prop) → Prop} {k221 : Int → Int → Int → Int → Int → Int → Int → Int → Int → Int → Int → Int → Prop} {x1 : Int} {x2 : Int} {x4 : Int} {x6 : Int} {x8 : Int} {x10 : Int} {x12 : Int} {x13 : Int} {x14 : Int} {M : e_M} (C : f_Hy sh t yX12_clear rm cs 7 (lX12_clear c_X12_px c_X12_py c_X12_turn c_J13_signum_95d88 c_X12_lies c_X12_lieAt) R) (h221 : ∀ (x1 : Int) (x2 : Int) (x4 : Int) (x6 : Int) (x8 : Int) (x10 : Int) (x12 : Int) (x13 : Int) (x14 : Int) (x16 : Int) (x18 : Int) (x24 : Int), k221 x1 x2 x4 x6 x8 x10 x12 x13 x14 x16 x18 x24 → f_E sh t YX12_clear rm cs (f_Q sh t R) 221 [.inr (.inr (.inl (12, 123, 4456))), .inl x1, .inl x2, .inr (.inr (.inr ())), .inr (.inl x4), .inr (.inr (.inr ())), .inr (.inl x6), .inr (.inr (.inr ())), .inr (.inl x8), .inr (.inr (.inr ())), .inr (.inl x10), .inr (.inr (.inr ())), .inl x12, .inl x13, .inl x14, .inr (.inr (.inr ())), .inr (.inl x16), .inr (.inr (.inr ())), .inr (.inl x18), .inr (.inr (.inr ())), .inr (.inr (.inr ())), .inr (.inr (.inr ())), .inr (.inr (.inr ())), .inr (.inr (.inr ())), .inr (.inl x24), .inr (.inr (.inr ())), .inr (.inr (.inr ())), .inr (.inr (.inr ())), .inr (.inr (.inr ())), .inr (.inr (.inr ())), .inr (.inr (.inr ())), .inr (.inr (.inr ())), .inr (.inr (.inr ())), .inr (.inr (.inr ()))] [] M) (h : VX12_clear_63 c_X12_px c_X12_py c_X12_turn c_J13_signum_95d88 c_X12_lies c_X12_lieAt k221 (fun r => R (some (.inl r)) M) x1 x2 x4 x6 x8 x10 x12 x13 x14 M) : f_E sh t YX12_clear rm cs (f_Q sh t R) 63 [.inr (.inr (.inl (12, 123, 4456))), .inl x1, .inl x2, .inr (.inr (.inr ())), .inr (.inl x4), .inr (.inr (.inr ())), .inr (.inl x6), .inr (.inr (.inr ())), .inr (.inl x8), .inr (.inr (.inr ())), .inr (.inl x10), .inr (.inr (.inr ())), .inl x12, .inl x13, .inl x14, .inr (.inr (.inr ())), .inr (.inr (.inr ())), .inr (.inr (.inr ())), .inr (.inr (.inr ())), .inr (.inr (.inr ())), .inr (.inr (.inr ())), .inr (.inr (.inr ())), .inr (.inr (.inr ())), .inr (.inr (.inr ())), .inr (.inr (.inr ())), .inr (.inr (.inr ())), .inr (.inr (.inr ())), .inr (.inr (.inr ())), .inr (.inr (.inr ())), .inr (.inr (.inr ())), .inr (.inr (.inr ())), .inr (.inr (.inr ())), .inr (.inr (.inr ())), .inr (.inr (.inr ()))] [] M := by
  rw [f_kk12 M k221] at h
  exact f_go (KC := f_kc [(221, f_pl [(4466, 12, 123), (1, 0, 0), (1, 0, 0), (0, 0, 0), (2, 0, 0), (0, 0, 0), (2, 0, 0), (0, 0, 0), (2, 0, 0), (0, 0, 0), (2, 0, 0), (0, 0, 0), (1, 0, 0), (1, 0, 0), (1, 0, 0), (0, 0, 0), (2, 0, 0), (0, 0, 0), (2, 0, 0), (0, 0, 0), (0, 0, 0), (0, 0, 0), (0, 0, 0), (0, 0, 0), (2, 0, 0), (0, 0, 0), (0, 0, 0), (0, 0, 0), (0, 0, 0), (0, 0, 0), (0, 0, 0), (0, 0, 0), (0, 0, 0), (0, 0, 0)] [] (fun ls st M2 => M2 = M ∧ (k221 (f_vi (f_nth ls 1)) (f_vi (f_nth ls 2)) (f_vi (f_nth ls 4)) (f_vi (f_nth ls 6)) (f_vi (f_nth ls 8)) (f_vi (f_nth ls 10)) (f_vi (f_nth ls 12)) (f_vi (f_nth ls 13)) (f_vi (f_nth ls 14)) (f_vi (f_nth ls 16)) (f_vi (f_nth ls 18)) (f_vi (f_nth ls 24)))))]) C qX12_clearf (f_kc_cons (f_pl_ok rfl (fun ls st M2 ⟨e, hh⟩ => by subst e; exact h221 _ _ _ _ _ _ _ _ _ _ _ _ hh)) f_kc_nil) 195 41 h
set_option maxRecDepth 20000 in
theorem BX12_clear_221 {sh : Nat → Nat × Nat} {t : Nat} {rm : Nat × Nat × Nat} {cs : Nat × Nat} {R : f_Rt} {c_X12_px : Int → e_M → (Int → Prop) → Prop} {c_X12_py : Int → e_M → (Int → Prop) → Prop} {c_X12_turn : Int → Int → Int → Int → Int → Int → e_M → (Int → Prop) → Prop} {c_J13_signum_95d88 : Int → e_M → (Int → Prop) → Prop} {c_X12_lies : Int → Int → Int → Int → Int → Int → e_M → (Int → Prop) → Prop} {c_X12_lieAt : Int → Int → Int → Int → Int → e_M → (Int → Prop) → Prop} {k246 : Int → Int → Int → Int → Int → Int → Int → Int → Int → Int → Int → Int → Prop} {k247 : Int → Int → Int → Int → Int → Int → Int → Int → Int → Int → Int → Int → Int → Prop} {x1 : Int} {x2 : Int} {x4 : Int} {x6 : Int} {x8 : Int} {x10 : Int} {x12 : Int} {x13 : Int} {x14 : Int} {x16 : Int} {x18 : Int} {x24 : Int} {M : e_M} (C : f_Hy sh t yX12_clear rm cs 7 (lX12_clear c_X12_px c_X12_py c_X12_turn c_J13_signum_95d88 c_X12_lies c_X12_lieAt) R) (h246 : ∀ (x1 : Int) (x2 : Int) (x4 : Int) (x6 : Int) (x8 : Int) (x10 : Int) (x12 : Int) (x13 : Int) (x14 : Int) (x16 : Int) (x18 : Int) (x24 : Int), k246 x1 x2 x4 x6 x8 x10 x12 x13 x14 x16 x18 x24 → f_E sh t YX12_clear rm cs (f_Q sh t R) 246 [.inr (.inr (.inl (12, 123, 4456))), .inl x1, .inl x2, .inr (.inr (.inr ())), .inr (.inl x4), .inr (.inr (.inr ())), .inr (.inl x6), .inr (.inr (.inr ())), .inr (.inl x8), .inr (.inr (.inr ())), .inr (.inl x10), .inr (.inr (.inr ())), .inl x12, .inl x13, .inl x14, .inr (.inr (.inr ())), .inr (.inl x16), .inr (.inr (.inr ())), .inr (.inl x18), .inr (.inr (.inr ())), .inr (.inr (.inr ())), .inr (.inr (.inr ())), .inr (.inr (.inr ())), .inr (.inr (.inr ())), .inr (.inl x24), .inr (.inr (.inr ())), .inr (.inr (.inr ())), .inr (.inr (.inr ())), .inr (.inr (.inr ())), .inr (.inr (.inr ())), .inr (.inr (.inr ())), .inr (.inr (.inr ())), .inr (.inr (.inr ())), .inr (.inr (.inr ()))] [] M) (h247 : ∀ (x1 : Int) (x2 : Int) (x4 : Int) (x6 : Int) (x8 : Int) (x10 : Int) (x12 : Int) (x13 : Int) (x14 : Int) (x16 : Int) (x18 : Int) (x24 : Int) (xs0 : Int), k247 x1 x2 x4 x6 x8 x10 x12 x13 x14 x16 x18 x24 xs0 → f_E sh t YX12_clear rm cs (f_Q sh t R) 247 [.inr (.inr (.inl (12, 123, 4456))), .inl x1, .inl x2, .inr (.inr (.inr ())), .inr (.inl x4), .inr (.inr (.inr ())), .inr (.inl x6), .inr (.inr (.inr ())), .inr (.inl x8), .inr (.inr (.inr ())), .inr (.inl x10), .inr (.inr (.inr ())), .inl x12, .inl x13, .inl x14, .inr (.inr (.inr ())), .inr (.inl x16), .inr (.inr (.inr ())), .inr (.inl x18), .inr (.inr (.inr ())), .inr (.inr (.inr ())), .inr (.inr (.inr ())), .inr (.inr (.inr ())), .inr (.inr (.inr ())), .inr (.inl x24), .inr (.inr (.inr ())), .inr (.inr (.inr ())), .inr (.inr (.inr ())), .inr (.inr (.inr ())), .inr (.inr (.inr ())), .inr (.inr (.inr ())), .inr (.inr (.inr ())), .inr (.inr (.inr ())), .inr (.inr (.inr ()))] [.inl xs0] M) (h : VX12_clear_221 c_X12_px c_X12_py c_X12_turn c_J13_signum_95d88 c_X12_lies c_X12_lieAt k246 k247 (fun r => R (some (.inl r)) M) x1 x2 x4 x6 x8 x10 x12 x13 x14 x16 x18 x24 M) : f_E sh t YX12_clear rm cs (f_Q sh t R) 221 [.inr (.inr (.inl (12, 123, 4456))), .inl x1, .inl x2, .inr (.inr (.inr ())), .inr (.inl x4), .inr (.inr (.inr ())), .inr (.inl x6), .inr (.inr (.inr ())), .inr (.inl x8), .inr (.inr (.inr ())), .inr (.inl x10), .inr (.inr (.inr ())), .inl x12, .inl x13, .inl x14, .inr (.inr (.inr ())), .inr (.inl x16), .inr (.inr (.inr ())), .inr (.inl x18), .inr (.inr (.inr ())), .inr (.inr (.inr ())), .inr (.inr (.inr ())), .inr (.inr (.inr ())), .inr (.inr (.inr ())), .inr (.inl x24), .inr (.inr (.inr ())), .inr (.inr (.inr ())), .inr (.inr (.inr ())), .inr (.inr (.inr ())), .inr (.inr (.inr ())), .inr (.inr (.inr ())), .inr (.inr (.inr ())), .inr (.inr (.inr ())), .inr (.inr (.inr ()))] [] M := by
  rw [f_kk12 M k246] at h
  rw [f_kk13 M k247] at h
  exact f_go (KC := f_kc [(246, f_pl [(4466, 12, 123), (1, 0, 0), (1, 0, 0), (0, 0, 0), (2, 0, 0), (0, 0, 0), (2, 0, 0), (0, 0, 0), (2, 0, 0), (0, 0, 0), (2, 0, 0), (0, 0, 0), (1, 0, 0), (1, 0, 0), (1, 0, 0), (0, 0, 0), (2, 0, 0), (0, 0, 0), (2, 0, 0), (0, 0, 0), (0, 0, 0), (0, 0, 0), (0, 0, 0), (0, 0, 0), (2, 0, 0), (0, 0, 0), (0, 0, 0), (0, 0, 0), (0, 0, 0), (0, 0, 0), (0, 0, 0), (0, 0, 0), (0, 0, 0), (0, 0, 0)] [] (fun ls st M2 => M2 = M ∧ (k246 (f_vi (f_nth ls 1)) (f_vi (f_nth ls 2)) (f_vi (f_nth ls 4)) (f_vi (f_nth ls 6)) (f_vi (f_nth ls 8)) (f_vi (f_nth ls 10)) (f_vi (f_nth ls 12)) (f_vi (f_nth ls 13)) (f_vi (f_nth ls 14)) (f_vi (f_nth ls 16)) (f_vi (f_nth ls 18)) (f_vi (f_nth ls 24))))), (247, f_pl [(4466, 12, 123), (1, 0, 0), (1, 0, 0), (0, 0, 0), (2, 0, 0), (0, 0, 0), (2, 0, 0), (0, 0, 0), (2, 0, 0), (0, 0, 0), (2, 0, 0), (0, 0, 0), (1, 0, 0), (1, 0, 0), (1, 0, 0), (0, 0, 0), (2, 0, 0), (0, 0, 0), (2, 0, 0), (0, 0, 0), (0, 0, 0), (0, 0, 0), (0, 0, 0), (0, 0, 0), (2, 0, 0), (0, 0, 0), (0, 0, 0), (0, 0, 0), (0, 0, 0), (0, 0, 0), (0, 0, 0), (0, 0, 0), (0, 0, 0), (0, 0, 0)] [(1, 0, 0)] (fun ls st M2 => M2 = M ∧ (k247 (f_vi (f_nth ls 1)) (f_vi (f_nth ls 2)) (f_vi (f_nth ls 4)) (f_vi (f_nth ls 6)) (f_vi (f_nth ls 8)) (f_vi (f_nth ls 10)) (f_vi (f_nth ls 12)) (f_vi (f_nth ls 13)) (f_vi (f_nth ls 14)) (f_vi (f_nth ls 16)) (f_vi (f_nth ls 18)) (f_vi (f_nth ls 24)) (f_vi (f_nth st 0)))))]) C qX12_clearf (f_kc_cons (f_pl_ok rfl (fun ls st M2 ⟨e, hh⟩ => by subst e; exact h246 _ _ _ _ _ _ _ _ _ _ _ _ hh)) (f_kc_cons (f_pl_ok rfl (fun ls st M2 ⟨e, hh⟩ => by subst e; exact h247 _ _ _ _ _ _ _ _ _ _ _ _ _ hh)) f_kc_nil)) 195 128 h
set_option maxRecDepth 20000 in
theorem BX12_clear_246 {sh : Nat → Nat × Nat} {t : Nat} {rm : Nat × Nat × Nat} {cs : Nat × Nat} {R : f_Rt} {c_X12_px : Int → e_M → (Int → Prop) → Prop} {c_X12_py : Int → e_M → (Int → Prop) → Prop} {c_X12_turn : Int → Int → Int → Int → Int → Int → e_M → (Int → Prop) → Prop} {c_J13_signum_95d88 : Int → e_M → (Int → Prop) → Prop} {c_X12_lies : Int → Int → Int → Int → Int → Int → e_M → (Int → Prop) → Prop} {c_X12_lieAt : Int → Int → Int → Int → Int → e_M → (Int → Prop) → Prop} {k247 : Int → Int → Int → Int → Int → Int → Int → Int → Int → Int → Int → Int → Int → Prop} {x1 : Int} {x2 : Int} {x4 : Int} {x6 : Int} {x8 : Int} {x10 : Int} {x12 : Int} {x13 : Int} {x14 : Int} {x16 : Int} {x18 : Int} {x24 : Int} {M : e_M} (C : f_Hy sh t yX12_clear rm cs 7 (lX12_clear c_X12_px c_X12_py c_X12_turn c_J13_signum_95d88 c_X12_lies c_X12_lieAt) R) (h247 : ∀ (x1 : Int) (x2 : Int) (x4 : Int) (x6 : Int) (x8 : Int) (x10 : Int) (x12 : Int) (x13 : Int) (x14 : Int) (x16 : Int) (x18 : Int) (x24 : Int) (xs0 : Int), k247 x1 x2 x4 x6 x8 x10 x12 x13 x14 x16 x18 x24 xs0 → f_E sh t YX12_clear rm cs (f_Q sh t R) 247 [.inr (.inr (.inl (12, 123, 4456))), .inl x1, .inl x2, .inr (.inr (.inr ())), .inr (.inl x4), .inr (.inr (.inr ())), .inr (.inl x6), .inr (.inr (.inr ())), .inr (.inl x8), .inr (.inr (.inr ())), .inr (.inl x10), .inr (.inr (.inr ())), .inl x12, .inl x13, .inl x14, .inr (.inr (.inr ())), .inr (.inl x16), .inr (.inr (.inr ())), .inr (.inl x18), .inr (.inr (.inr ())), .inr (.inr (.inr ())), .inr (.inr (.inr ())), .inr (.inr (.inr ())), .inr (.inr (.inr ())), .inr (.inl x24), .inr (.inr (.inr ())), .inr (.inr (.inr ())), .inr (.inr (.inr ())), .inr (.inr (.inr ())), .inr (.inr (.inr ())), .inr (.inr (.inr ())), .inr (.inr (.inr ())), .inr (.inr (.inr ())), .inr (.inr (.inr ()))] [.inl xs0] M) (h : VX12_clear_246 c_X12_px c_X12_py c_X12_turn c_J13_signum_95d88 c_X12_lies c_X12_lieAt k247 (fun r => R (some (.inl r)) M) x1 x2 x4 x6 x8 x10 x12 x13 x14 x16 x18 x24 M) : f_E sh t YX12_clear rm cs (f_Q sh t R) 246 [.inr (.inr (.inl (12, 123, 4456))), .inl x1, .inl x2, .inr (.inr (.inr ())), .inr (.inl x4), .inr (.inr (.inr ())), .inr (.inl x6), .inr (.inr (.inr ())), .inr (.inl x8), .inr (.inr (.inr ())), .inr (.inl x10), .inr (.inr (.inr ())), .inl x12, .inl x13, .inl x14, .inr (.inr (.inr ())), .inr (.inl x16), .inr (.inr (.inr ())), .inr (.inl x18), .inr (.inr (.inr ())), .inr (.inr (.inr ())), .inr (.inr (.inr ())), .inr (.inr (.inr ())), .inr (.inr (.inr ())), .inr (.inl x24), .inr (.inr (.inr ())), .inr (.inr (.inr ())), .inr (.inr (.inr ())), .inr (.inr (.inr ())), .inr (.inr (.inr ())), .inr (.inr (.inr ())), .inr (.inr (.inr ())), .inr (.inr (.inr ())), .inr (.inr (.inr ()))] [] M := by
  rw [f_kk13 M k247] at h
  exact f_go (KC := f_kc [(247, f_pl [(4466, 12, 123), (1, 0, 0), (1, 0, 0), (0, 0, 0), (2, 0, 0), (0, 0, 0), (2, 0, 0), (0, 0, 0), (2, 0, 0), (0, 0, 0), (2, 0, 0), (0, 0, 0), (1, 0, 0), (1, 0, 0), (1, 0, 0), (0, 0, 0), (2, 0, 0), (0, 0, 0), (2, 0, 0), (0, 0, 0), (0, 0, 0), (0, 0, 0), (0, 0, 0), (0, 0, 0), (2, 0, 0), (0, 0, 0), (0, 0, 0), (0, 0, 0), (0, 0, 0), (0, 0, 0), (0, 0, 0), (0, 0, 0), (0, 0, 0), (0, 0, 0)] [(1, 0, 0)] (fun ls st M2 => M2 = M ∧ (k247 (f_vi (f_nth ls 1)) (f_vi (f_nth ls 2)) (f_vi (f_nth ls 4)) (f_vi (f_nth ls 6)) (f_vi (f_nth ls 8)) (f_vi (f_nth ls 10)) (f_vi (f_nth ls 12)) (f_vi (f_nth ls 13)) (f_vi (f_nth ls 14)) (f_vi (f_nth ls 16)) (f_vi (f_nth ls 18)) (f_vi (f_nth ls 24)) (f_vi (f_nth st 0)))))]) C qX12_clearf (f_kc_cons (f_pl_ok rfl (fun ls st M2 ⟨e, hh⟩ => by subst e; exact h247 _ _ _ _ _ _ _ _ _ _ _ _ _ hh)) f_kc_nil) 195 139 h
set_option maxRecDepth 20000 in
theorem BX12_clear_247 {sh : Nat → Nat × Nat} {t : Nat} {rm : Nat × Nat × Nat} {cs : Nat × Nat} {R : f_Rt} {c_X12_px : Int → e_M → (Int → Prop) → Prop} {c_X12_py : Int → e_M → (Int → Prop) → Prop} {c_X12_turn : Int → Int → Int → Int → Int → Int → e_M → (Int → Prop) → Prop} {c_J13_signum_95d88 : Int → e_M → (Int → Prop) → Prop} {c_X12_lies : Int → Int → Int → Int → Int → Int → e_M → (Int → Prop) → Prop} {c_X12_lieAt : Int → Int → Int → Int → Int → e_M → (Int → Prop) → Prop} {k274 : Int → Int → Int → Int → Int → Int → Int → Int → Int → Int → Int → Int → Int → Prop} {k275 : Int → Int → Int → Int → Int → Int → Int → Int → Int → Int → Int → Int → Int → Int → Prop} {x1 : Int} {x2 : Int} {x4 : Int} {x6 : Int} {x8 : Int} {x10 : Int} {x12 : Int} {x13 : Int} {x14 : Int} {x16 : Int} {x18 : Int} {x24 : Int} {xs0 : Int} {M : e_M} (C : f_Hy sh t yX12_clear rm cs 7 (lX12_clear c_X12_px c_X12_py c_X12_turn c_J13_signum_95d88 c_X12_lies c_X12_lieAt) R) (h274 : ∀ (x1 : Int) (x2 : Int) (x4 : Int) (x6 : Int) (x8 : Int) (x10 : Int) (x12 : Int) (x13 : Int) (x14 : Int) (x16 : Int) (x18 : Int) (x24 : Int) (x32 : Int), k274 x1 x2 x4 x6 x8 x10 x12 x13 x14 x16 x18 x24 x32 → f_E sh t YX12_clear rm cs (f_Q sh t R) 274 [.inr (.inr (.inl (12, 123, 4456))), .inl x1, .inl x2, .inr (.inr (.inr ())), .inr (.inl x4), .inr (.inr (.inr ())), .inr (.inl x6), .inr (.inr (.inr ())), .inr (.inl x8), .inr (.inr (.inr ())), .inr (.inl x10), .inr (.inr (.inr ())), .inl x12, .inl x13, .inl x14, .inr (.inr (.inr ())), .inr (.inl x16), .inr (.inr (.inr ())), .inr (.inl x18), .inr (.inr (.inr ())), .inr (.inr (.inr ())), .inr (.inr (.inr ())), .inr (.inr (.inr ())), .inr (.inr (.inr ())), .inr (.inl x24), .inr (.inr (.inr ())), .inr (.inr (.inr ())), .inr (.inr (.inr ())), .inr (.inr (.inr ())), .inr (.inr (.inr ())), .inr (.inr (.inr ())), .inr (.inr (.inr ())), .inl x32, .inr (.inr (.inr ()))] [] M) (h275 : ∀ (x1 : Int) (x2 : Int) (x4 : Int) (x6 : Int) (x8 : Int) (x10 : Int) (x12 : Int) (x13 : Int) (x14 : Int) (x16 : Int) (x18 : Int) (x24 : Int) (x32 : Int) (xs0 : Int), k275 x1 x2 x4 x6 x8 x10 x12 x13 x14 x16 x18 x24 x32 xs0 → f_E sh t YX12_clear rm cs (f_Q sh t R) 275 [.inr (.inr (.inl (12, 123, 4456))), .inl x1, .inl x2, .inr (.inr (.inr ())), .inr (.inl x4), .inr (.inr (.inr ())), .inr (.inl x6), .inr (.inr (.inr ())), .inr (.inl x8), .inr (.inr (.inr ())), .inr (.inl x10), .inr (.inr (.inr ())), .inl x12, .inl x13, .inl x14, .inr (.inr (.inr ())), .inr (.inl x16), .inr (.inr (.inr ())), .inr (.inl x18), .inr (.inr (.inr ())), .inr (.inr (.inr ())), .inr (.inr (.inr ())), .inr (.inr (.inr ())), .inr (.inr (.inr ())), .inr (.inl x24), .inr (.inr (.inr ())), .inr (.inr (.inr ())), .inr (.inr (.inr ())), .inr (.inr (.inr ())), .inr (.inr (.inr ())), .inr (.inr (.inr ())), .inr (.inr (.inr ())), .inl x32, .inr (.inr (.inr ()))] [.inl xs0] M) (h : VX12_clear_247 c_X12_px c_X12_py c_X12_turn c_J13_signum_95d88 c_X12_lies c_X12_lieAt k274 k275 (fun r => R (some (.inl r)) M) x1 x2 x4 x6 x8 x10 x12 x13 x14 x16 x18 x24 xs0 M) : f_E sh t YX12_clear rm cs (f_Q sh t R) 247 [.inr (.inr (.inl (12, 123, 4456))), .inl x1, .inl x2, .inr (.inr (.inr ())), .inr (.inl x4), .inr (.inr (.inr ())), .inr (.inl x6), .inr (.inr (.inr ())), .inr (.inl x8), .inr (.inr (.inr ())), .inr (.inl x10), .inr (.inr (.inr ())), .inl x12, .inl x13, .inl x14, .inr (.inr (.inr ())), .inr (.inl x16), .inr (.inr (.inr ())), .inr (.inl x18), .inr (.inr (.inr ())), .inr (.inr (.inr ())), .inr (.inr (.inr ())), .inr (.inr (.inr ())), .inr (.inr (.inr ())), .inr (.inl x24), .inr (.inr (.inr ())), .inr (.inr (.inr ())), .inr (.inr (.inr ())), .inr (.inr (.inr ())), .inr (.inr (.inr ())), .inr (.inr (.inr ())), .inr (.inr (.inr ())), .inr (.inr (.inr ())), .inr (.inr (.inr ()))] [.inl xs0] M := by
  rw [f_kk13 M k274] at h
  rw [f_kk14 M k275] at h
  exact f_go (KC := f_kc [(274, f_pl [(4466, 12, 123), (1, 0, 0), (1, 0, 0), (0, 0, 0), (2, 0, 0), (0, 0, 0), (2, 0, 0), (0, 0, 0), (2, 0, 0), (0, 0, 0), (2, 0, 0), (0, 0, 0), (1, 0, 0), (1, 0, 0), (1, 0, 0), (0, 0, 0), (2, 0, 0), (0, 0, 0), (2, 0, 0), (0, 0, 0), (0, 0, 0), (0, 0, 0), (0, 0, 0), (0, 0, 0), (2, 0, 0), (0, 0, 0), (0, 0, 0), (0, 0, 0), (0, 0, 0), (0, 0, 0), (0, 0, 0), (0, 0, 0), (1, 0, 0), (0, 0, 0)] [] (fun ls st M2 => M2 = M ∧ (k274 (f_vi (f_nth ls 1)) (f_vi (f_nth ls 2)) (f_vi (f_nth ls 4)) (f_vi (f_nth ls 6)) (f_vi (f_nth ls 8)) (f_vi (f_nth ls 10)) (f_vi (f_nth ls 12)) (f_vi (f_nth ls 13)) (f_vi (f_nth ls 14)) (f_vi (f_nth ls 16)) (f_vi (f_nth ls 18)) (f_vi (f_nth ls 24)) (f_vi (f_nth ls 32))))), (275, f_pl [(4466, 12, 123), (1, 0, 0), (1, 0, 0), (0, 0, 0), (2, 0, 0), (0, 0, 0), (2, 0, 0), (0, 0, 0), (2, 0, 0), (0, 0, 0), (2, 0, 0), (0, 0, 0), (1, 0, 0), (1, 0, 0), (1, 0, 0), (0, 0, 0), (2, 0, 0), (0, 0, 0), (2, 0, 0), (0, 0, 0), (0, 0, 0), (0, 0, 0), (0, 0, 0), (0, 0, 0), (2, 0, 0), (0, 0, 0), (0, 0, 0), (0, 0, 0), (0, 0, 0), (0, 0, 0), (0, 0, 0), (0, 0, 0), (1, 0, 0), (0, 0, 0)] [(1, 0, 0)] (fun ls st M2 => M2 = M ∧ (k275 (f_vi (f_nth ls 1)) (f_vi (f_nth ls 2)) (f_vi (f_nth ls 4)) (f_vi (f_nth ls 6)) (f_vi (f_nth ls 8)) (f_vi (f_nth ls 10)) (f_vi (f_nth ls 12)) (f_vi (f_nth ls 13)) (f_vi (f_nth ls 14)) (f_vi (f_nth ls 16)) (f_vi (f_nth ls 18)) (f_vi (f_nth ls 24)) (f_vi (f_nth ls 32)) (f_vi (f_nth st 0)))))]) C qX12_clearf (f_kc_cons (f_pl_ok rfl (fun ls st M2 ⟨e, hh⟩ => by subst e; exact h274 _ _ _ _ _ _ _ _ _ _ _ _ _ hh)) (f_kc_cons (f_pl_ok rfl (fun ls st M2 ⟨e, hh⟩ => by subst e; exact h275 _ _ _ _ _ _ _ _ _ _ _ _ _ _ hh)) f_kc_nil)) 195 141 h
set_option maxRecDepth 20000 in
theorem BX12_clear_274 {sh : Nat → Nat × Nat} {t : Nat} {rm : Nat × Nat × Nat} {cs : Nat × Nat} {R : f_Rt} {c_X12_px : Int → e_M → (Int → Prop) → Prop} {c_X12_py : Int → e_M → (Int → Prop) → Prop} {c_X12_turn : Int → Int → Int → Int → Int → Int → e_M → (Int → Prop) → Prop} {c_J13_signum_95d88 : Int → e_M → (Int → Prop) → Prop} {c_X12_lies : Int → Int → Int → Int → Int → Int → e_M → (Int → Prop) → Prop} {c_X12_lieAt : Int → Int → Int → Int → Int → e_M → (Int → Prop) → Prop} {k275 : Int → Int → Int → Int → Int → Int → Int → Int → Int → Int → Int → Int → Int → Int → Prop} {x1 : Int} {x2 : Int} {x4 : Int} {x6 : Int} {x8 : Int} {x10 : Int} {x12 : Int} {x13 : Int} {x14 : Int} {x16 : Int} {x18 : Int} {x24 : Int} {x32 : Int} {M : e_M} (C : f_Hy sh t yX12_clear rm cs 7 (lX12_clear c_X12_px c_X12_py c_X12_turn c_J13_signum_95d88 c_X12_lies c_X12_lieAt) R) (h275 : ∀ (x1 : Int) (x2 : Int) (x4 : Int) (x6 : Int) (x8 : Int) (x10 : Int) (x12 : Int) (x13 : Int) (x14 : Int) (x16 : Int) (x18 : Int) (x24 : Int) (x32 : Int) (xs0 : Int), k275 x1 x2 x4 x6 x8 x10 x12 x13 x14 x16 x18 x24 x32 xs0 → f_E sh t YX12_clear rm cs (f_Q sh t R) 275 [.inr (.inr (.inl (12, 123, 4456))), .inl x1, .inl x2, .inr (.inr (.inr ())), .inr (.inl x4), .inr (.inr (.inr ())), .inr (.inl x6), .inr (.inr (.inr ())), .inr (.inl x8), .inr (.inr (.inr ())), .inr (.inl x10), .inr (.inr (.inr ())), .inl x12, .inl x13, .inl x14, .inr (.inr (.inr ())), .inr (.inl x16), .inr (.inr (.inr ())), .inr (.inl x18), .inr (.inr (.inr ())), .inr (.inr (.inr ())), .inr (.inr (.inr ())), .inr (.inr (.inr ())), .inr (.inr (.inr ())), .inr (.inl x24), .inr (.inr (.inr ())), .inr (.inr (.inr ())), .inr (.inr (.inr ())), .inr (.inr (.inr ())), .inr (.inr (.inr ())), .inr (.inr (.inr ())), .inr (.inr (.inr ())), .inl x32, .inr (.inr (.inr ()))] [.inl xs0] M) (h : VX12_clear_274 c_X12_px c_X12_py c_X12_turn c_J13_signum_95d88 c_X12_lies c_X12_lieAt k275 (fun r => R (some (.inl r)) M) x1 x2 x4 x6 x8 x10 x12 x13 x14 x16 x18 x24 x32 M) : f_E sh t YX12_clear rm cs (f_Q sh t R) 274 [.inr (.inr (.inl (12, 123, 4456))), .inl x1, .inl x2, .inr (.inr (.inr ())), .inr (.inl x4), .inr (.inr (.inr ())), .inr (.inl x6), .inr (.inr (.inr ())), .inr (.inl x8), .inr (.inr (.inr ())), .inr (.inl x10), .inr (.inr (.inr ())), .inl x12, .inl x13, .inl x14, .inr (.inr (.inr ())), .inr (.inl x16), .inr (.inr (.inr ())), .inr (.inl x18), .inr (.inr (.inr ())), .inr (.inr (.inr ())), .inr (.inr (.inr ())), .inr (.inr (.inr ())), .inr (.inr (.inr ())), .inr (.inl x24), .inr (.inr (.inr ())), .inr (.inr (.inr ())), .inr (.inr (.inr ())), .inr (.inr (.inr ())), .inr (.inr (.inr ())), .inr (.inr (.inr ())), .inr (.inr (.inr ())), .inl x32, .inr (.inr (.inr ()))] [] M := by
  rw [f_kk14 M k275] at h
  exact f_go (KC := f_kc [(275, f_pl [(4466, 12, 123), (1, 0, 0), (1, 0, 0), (0, 0, 0), (2, 0, 0), (0, 0, 0), (2, 0, 0), (0, 0, 0), (2, 0, 0), (0, 0, 0), (2, 0, 0), (0, 0, 0), (1, 0, 0), (1, 0, 0), (1, 0, 0), (0, 0, 0), (2, 0, 0), (0, 0, 0), (2, 0, 0), (0, 0, 0), (0, 0, 0), (0, 0, 0), (0, 0, 0), (0, 0, 0), (2, 0, 0), (0, 0, 0), (0, 0, 0), (0, 0, 0), (0, 0, 0), (0, 0, 0), (0, 0, 0), (0, 0, 0), (1, 0, 0), (0, 0, 0)] [(1, 0, 0)] (fun ls st M2 => M2 = M ∧ (k275 (f_vi (f_nth ls 1)) (f_vi (f_nth ls 2)) (f_vi (f_nth ls 4)) (f_vi (f_nth ls 6)) (f_vi (f_nth ls 8)) (f_vi (f_nth ls 10)) (f_vi (f_nth ls 12)) (f_vi (f_nth ls 13)) (f_vi (f_nth ls 14)) (f_vi (f_nth ls 16)) (f_vi (f_nth ls 18)) (f_vi (f_nth ls 24)) (f_vi (f_nth ls 32)) (f_vi (f_nth st 0)))))]) C qX12_clearf (f_kc_cons (f_pl_ok rfl (fun ls st M2 ⟨e, hh⟩ => by subst e; exact h275 _ _ _ _ _ _ _ _ _ _ _ _ _ _ hh)) f_kc_nil) 195 153 h
set_option maxRecDepth 20000 in
theorem BX12_clear_275 {sh : Nat → Nat × Nat} {t : Nat} {rm : Nat × Nat × Nat} {cs : Nat × Nat} {R : f_Rt} {c_X12_px : Int → e_M → (Int → Prop) → Prop} {c_X12_py : Int → e_M → (Int → Prop) → Prop} {c_X12_turn : Int → Int → Int → Int → Int → Int → e_M → (Int → Prop) → Prop} {c_J13_signum_95d88 : Int → e_M → (Int → Prop) → Prop} {c_X12_lies : Int → Int → Int → Int → Int → Int → e_M → (Int → Prop) → Prop} {c_X12_lieAt : Int → Int → Int → Int → Int → e_M → (Int → Prop) → Prop} {k314 : Int → Int → Int → Int → Int → Int → Int → Int → Int → Prop} {x1 : Int} {x2 : Int} {x4 : Int} {x6 : Int} {x8 : Int} {x10 : Int} {x12 : Int} {x13 : Int} {x14 : Int} {x16 : Int} {x18 : Int} {x24 : Int} {x32 : Int} {xs0 : Int} {M : e_M} (C : f_Hy sh t yX12_clear rm cs 7 (lX12_clear c_X12_px c_X12_py c_X12_turn c_J13_signum_95d88 c_X12_lies c_X12_lieAt) R) (h314 : ∀ (x1 : Int) (x2 : Int) (x4 : Int) (x6 : Int) (x8 : Int) (x10 : Int) (x12 : Int) (x13 : Int) (x14 : Int), k314 x1 x2 x4 x6 x8 x10 x12 x13 x14 → f_E sh t YX12_clear rm cs (f_Q sh t R) 314 [.inr (.inr (.inl (12, 123, 4456))), .inl x1, .inl x2, .inr (.inr (.inr ())), .inr (.inl x4), .inr (.inr (.inr ())), .inr (.inl x6), .inr (.inr (.inr ())), .inr (.inl x8), .inr (.inr (.inr ())), .inr (.inl x10), .inr (.inr (.inr ())), .inl x12, .inl x13, .inl x14, .inr (.inr (.inr ())), .inr (.inr (.inr ())), .inr (.inr (.inr ())), .inr (.inr (.inr ())), .inr (.inr (.inr ())), .inr (.inr (.inr ())), .inr (.inr (.inr ())), .inr (.inr (.inr ())), .inr (.inr (.inr ())), .inr (.inr (.inr ())), .inr (.inr (.inr ())), .inr (.inr (.inr ())), .inr (.inr (.inr ())), .inr (.inr (.inr ())), .inr (.inr (.inr ())), .inr (.inr (.inr ())), .inr (.inr (.inr ())), .inr (.inr (.inr ())), .inr (.inr (.inr ()))] [] M) (h : VX12_clear_275 c_X12_px c_X12_py c_X12_turn c_J13_signum_95d88 c_X12_lies c_X12_lieAt k314 (fun r => R (some (.inl r)) M) x1 x2 x4 x6 x8 x10 x12 x13 x14 x16 x18 x24 x32 xs0 M) : f_E sh t YX12_clear rm cs (f_Q sh t R) 275 [.inr (.inr (.inl (12, 123, 4456))), .inl x1, .inl x2, .inr (.inr (.inr ())), .inr (.inl x4), .inr (.inr (.inr ())), .inr (.inl x6), .inr (.inr (.inr ())), .inr (.inl x8), .inr (.inr (.inr ())), .inr (.inl x10), .inr (.inr (.inr ())), .inl x12, .inl x13, .inl x14, .inr (.inr (.inr ())), .inr (.inl x16), .inr (.inr (.inr ())), .inr (.inl x18), .inr (.inr (.inr ())), .inr (.inr (.inr ())), .inr (.inr (.inr ())), .inr (.inr (.inr ())), .inr (.inr (.inr ())), .inr (.inl x24), .inr (.inr (.inr ())), .inr (.inr (.inr ())), .inr (.inr (.inr ())), .inr (.inr (.inr ())), .inr (.inr (.inr ())), .inr (.inr (.inr ())), .inr (.inr (.inr ())), .inl x32, .inr (.inr (.inr ()))] [.inl xs0] M := by
  rw [f_kk9 M k314] at h
  exact f_go (KC := f_kc [(314, f_pl [(4466, 12, 123), (1, 0, 0), (1, 0, 0), (0, 0, 0), (2, 0, 0), (0, 0, 0), (2, 0, 0), (0, 0, 0), (2, 0, 0), (0, 0, 0), (2, 0, 0), (0, 0, 0), (1, 0, 0), (1, 0, 0), (1, 0, 0), (0, 0, 0), (0, 0, 0), (0, 0, 0), (0, 0, 0), (0, 0, 0), (0, 0, 0), (0, 0, 0), (0, 0, 0), (0, 0, 0), (0, 0, 0), (0, 0, 0), (0, 0, 0), (0, 0, 0), (0, 0, 0), (0, 0, 0), (0, 0, 0), (0, 0, 0), (0, 0, 0), (0, 0, 0)] [] (fun ls st M2 => M2 = M ∧ (k314 (f_vi (f_nth ls 1)) (f_vi (f_nth ls 2)) (f_vi (f_nth ls 4)) (f_vi (f_nth ls 6)) (f_vi (f_nth ls 8)) (f_vi (f_nth ls 10)) (f_vi (f_nth ls 12)) (f_vi (f_nth ls 13)) (f_vi (f_nth ls 14)))))]) C qX12_clearf (f_kc_cons (f_pl_ok rfl (fun ls st M2 ⟨e, hh⟩ => by subst e; exact h314 _ _ _ _ _ _ _ _ _ hh)) f_kc_nil) 195 155 h
set_option maxRecDepth 20000 in
theorem BX12_clear_314 {sh : Nat → Nat × Nat} {t : Nat} {rm : Nat × Nat × Nat} {cs : Nat × Nat} {R : f_Rt} {c_X12_px : Int → e_M → (Int → Prop) → Prop} {c_X12_py : Int → e_M → (Int → Prop) → Prop} {c_X12_turn : Int → Int → Int → Int → Int → Int → e_M → (Int → Prop) → Prop} {c_J13_signum_95d88 : Int → e_M → (Int → Prop) → Prop} {c_X12_lies : Int → Int → Int → Int → Int → Int → e_M → (Int → Prop) → Prop} {c_X12_lieAt : Int → Int → Int → Int → Int → e_M → (Int → Prop) → Prop} {k63 : Int → Int → Int → Int → Int → Int → Int → Int → Int → Prop} {x1 : Int} {x2 : Int} {x4 : Int} {x6 : Int} {x8 : Int} {x10 : Int} {x12 : Int} {x13 : Int} {x14 : Int} {M : e_M} (C : f_Hy sh t yX12_clear rm cs 7 (lX12_clear c_X12_px c_X12_py c_X12_turn c_J13_signum_95d88 c_X12_lies c_X12_lieAt) R) (h63 : ∀ (x1 : Int) (x2 : Int) (x4 : Int) (x6 : Int) (x8 : Int) (x10 : Int) (x12 : Int) (x13 : Int) (x14 : Int), k63 x1 x2 x4 x6 x8 x10 x12 x13 x14 → f_E sh t YX12_clear rm cs (f_Q sh t R) 63 [.inr (.inr (.inl (12, 123, 4456))), .inl x1, .inl x2, .inr (.inr (.inr ())), .inr (.inl x4), .inr (.inr (.inr ())), .inr (.inl x6), .inr (.inr (.inr ())), .inr (.inl x8), .inr (.inr (.inr ())), .inr (.inl x10), .inr (.inr (.inr ())), .inl x12, .inl x13, .inl x14, .inr (.inr (.inr ())), .inr (.inr (.inr ())), .inr (.inr (.inr ())), .inr (.inr (.inr ())), .inr (.inr (.inr ())), .inr (.inr (.inr ())), .inr (.inr (.inr ())), .inr (.inr (.inr ())), .inr (.inr (.inr ())), .inr (.inr (.inr ())), .inr (.inr (.inr ())), .inr (.inr (.inr ())), .inr (.inr (.inr ())), .inr (.inr (.inr ())), .inr (.inr (.inr ())), .inr (.inr (.inr ())), .inr (.inr (.inr ())), .inr (.inr (.inr ())), .inr (.inr (.inr ()))] [] M) (h : VX12_clear_314 c_X12_px c_X12_py c_X12_turn c_J13_signum_95d88 c_X12_lies c_X12_lieAt k63 (fun r => R (some (.inl r)) M) x1 x2 x4 x6 x8 x10 x12 x13 x14 M) : f_E sh t YX12_clear rm cs (f_Q sh t R) 314 [.inr (.inr (.inl (12, 123, 4456))), .inl x1, .inl x2, .inr (.inr (.inr ())), .inr (.inl x4), .inr (.inr (.inr ())), .inr (.inl x6), .inr (.inr (.inr ())), .inr (.inl x8), .inr (.inr (.inr ())), .inr (.inl x10), .inr (.inr (.inr ())), .inl x12, .inl x13, .inl x14, .inr (.inr (.inr ())), .inr (.inr (.inr ())), .inr (.inr (.inr ())), .inr (.inr (.inr ())), .inr (.inr (.inr ())), .inr (.inr (.inr ())), .inr (.inr (.inr ())), .inr (.inr (.inr ())), .inr (.inr (.inr ())), .inr (.inr (.inr ())), .inr (.inr (.inr ())), .inr (.inr (.inr ())), .inr (.inr (.inr ())), .inr (.inr (.inr ())), .inr (.inr (.inr ())), .inr (.inr (.inr ())), .inr (.inr (.inr ())), .inr (.inr (.inr ())), .inr (.inr (.inr ()))] [] M := by
  rw [f_kk9 M k63] at h
  exact f_go (KC := f_kc [(63, f_pl [(4466, 12, 123), (1, 0, 0), (1, 0, 0), (0, 0, 0), (2, 0, 0), (0, 0, 0), (2, 0, 0), (0, 0, 0), (2, 0, 0), (0, 0, 0), (2, 0, 0), (0, 0, 0), (1, 0, 0), (1, 0, 0), (1, 0, 0), (0, 0, 0), (0, 0, 0), (0, 0, 0), (0, 0, 0), (0, 0, 0), (0, 0, 0), (0, 0, 0), (0, 0, 0), (0, 0, 0), (0, 0, 0), (0, 0, 0), (0, 0, 0), (0, 0, 0), (0, 0, 0), (0, 0, 0), (0, 0, 0), (0, 0, 0), (0, 0, 0), (0, 0, 0)] [] (fun ls st M2 => M2 = M ∧ (k63 (f_vi (f_nth ls 1)) (f_vi (f_nth ls 2)) (f_vi (f_nth ls 4)) (f_vi (f_nth ls 6)) (f_vi (f_nth ls 8)) (f_vi (f_nth ls 10)) (f_vi (f_nth ls 12)) (f_vi (f_nth ls 13)) (f_vi (f_nth ls 14)))))]) C qX12_clearf (f_kc_cons (f_pl_ok rfl (fun ls st M2 ⟨e, hh⟩ => by subst e; exact h63 _ _ _ _ _ _ _ _ _ hh)) f_kc_nil) 195 174 h
set_option maxRecDepth 20000 in
theorem BX12_clear {sh : Nat → Nat × Nat} {t : Nat} {rm : Nat × Nat × Nat} {cs : Nat × Nat} {R : f_Rt} {c_X12_px : Int → e_M → (Int → Prop) → Prop} {c_X12_py : Int → e_M → (Int → Prop) → Prop} {c_X12_turn : Int → Int → Int → Int → Int → Int → e_M → (Int → Prop) → Prop} {c_J13_signum_95d88 : Int → e_M → (Int → Prop) → Prop} {c_X12_lies : Int → Int → Int → Int → Int → Int → e_M → (Int → Prop) → Prop} {c_X12_lieAt : Int → Int → Int → Int → Int → e_M → (Int → Prop) → Prop} {k41 : Int → Int → Int → Int → Int → Int → Int → Int → Prop} {x1 : Int} {x2 : Int} {x3 : Int} {M : e_M} (C : f_Hy sh t yX12_clear rm cs 7 (lX12_clear c_X12_px c_X12_py c_X12_turn c_J13_signum_95d88 c_X12_lies c_X12_lieAt) R) (h41 : ∀ (x1 : Int) (x2 : Int) (x3 : Int) (x4 : Int) (x6 : Int) (x8 : Int) (x10 : Int) (xs0 : Int), k41 x1 x2 x3 x4 x6 x8 x10 xs0 → f_E sh t YX12_clear rm cs (f_Q sh t R) 41 [.inr (.inr (.inl (12, 123, 4456))), .inl x1, .inl x2, .inl x3, .inr (.inl x4), .inr (.inr (.inr ())), .inr (.inl x6), .inr (.inr (.inr ())), .inr (.inl x8), .inr (.inr (.inr ())), .inr (.inl x10), .inr (.inr (.inr ())), .inr (.inr (.inr ())), .inr (.inr (.inr ())), .inr (.inr (.inr ())), .inr (.inr (.inr ())), .inr (.inr (.inr ())), .inr (.inr (.inr ())), .inr (.inr (.inr ())), .inr (.inr (.inr ())), .inr (.inr (.inr ())), .inr (.inr (.inr ())), .inr (.inr (.inr ())), .inr (.inr (.inr ())), .inr (.inr (.inr ())), .inr (.inr (.inr ())), .inr (.inr (.inr ())), .inr (.inr (.inr ())), .inr (.inr (.inr ())), .inr (.inr (.inr ())), .inr (.inr (.inr ())), .inr (.inr (.inr ())), .inr (.inr (.inr ())), .inr (.inr (.inr ()))] [.inl xs0] M) (h : VX12_clear c_X12_px c_X12_py c_X12_turn c_J13_signum_95d88 c_X12_lies c_X12_lieAt k41 (fun r => R (some (.inl r)) M) x1 x2 x3 M) : f_E sh t YX12_clear rm cs (f_Q sh t R) 0 [.inr (.inr (.inl (12, 123, 4456))), .inl x1, .inl x2, .inl x3, .inr (.inr (.inr ())), .inr (.inr (.inr ())), .inr (.inr (.inr ())), .inr (.inr (.inr ())), .inr (.inr (.inr ())), .inr (.inr (.inr ())), .inr (.inr (.inr ())), .inr (.inr (.inr ())), .inr (.inr (.inr ())), .inr (.inr (.inr ())), .inr (.inr (.inr ())), .inr (.inr (.inr ())), .inr (.inr (.inr ())), .inr (.inr (.inr ())), .inr (.inr (.inr ())), .inr (.inr (.inr ())), .inr (.inr (.inr ())), .inr (.inr (.inr ())), .inr (.inr (.inr ())), .inr (.inr (.inr ())), .inr (.inr (.inr ())), .inr (.inr (.inr ())), .inr (.inr (.inr ())), .inr (.inr (.inr ())), .inr (.inr (.inr ())), .inr (.inr (.inr ())), .inr (.inr (.inr ())), .inr (.inr (.inr ())), .inr (.inr (.inr ())), .inr (.inr (.inr ()))] [] M := by
  rw [f_kk8 M k41] at h
  exact f_go (KC := f_kc [(41, f_pl [(4466, 12, 123), (1, 0, 0), (1, 0, 0), (1, 0, 0), (2, 0, 0), (0, 0, 0), (2, 0, 0), (0, 0, 0), (2, 0, 0), (0, 0, 0), (2, 0, 0), (0, 0, 0), (0, 0, 0), (0, 0, 0), (0, 0, 0), (0, 0, 0), (0, 0, 0), (0, 0, 0), (0, 0, 0), (0, 0, 0), (0, 0, 0), (0, 0, 0), (0, 0, 0), (0, 0, 0), (0, 0, 0), (0, 0, 0), (0, 0, 0), (0, 0, 0), (0, 0, 0), (0, 0, 0), (0, 0, 0), (0, 0, 0), (0, 0, 0), (0, 0, 0)] [(1, 0, 0)] (fun ls st M2 => M2 = M ∧ (k41 (f_vi (f_nth ls 1)) (f_vi (f_nth ls 2)) (f_vi (f_nth ls 3)) (f_vi (f_nth ls 4)) (f_vi (f_nth ls 6)) (f_vi (f_nth ls 8)) (f_vi (f_nth ls 10)) (f_vi (f_nth st 0)))))]) C qX12_clearf (f_kc_cons (f_pl_ok rfl (fun ls st M2 ⟨e, hh⟩ => by subst e; exact h41 _ _ _ _ _ _ _ _ hh)) f_kc_nil) 195 0 h
def WX12_clear_314 (M : e_M) (H63 : Int → Int → Int → Int → Int → Int → Int → Int → Int → Prop) (Q : Int → Prop) (x1 : Int) (x2 : Int) (x4 : Int) (x6 : Int) (x8 : Int) (x10 : Int) (x12 : Int) (x13 : Int) (x14 : Int) : Prop :=
  VX12_clear_314 WX12_px WX12_py WX12_turn WJ13_signum_95d88 WX12_lies WX12_lieAt H63 Q x1 x2 x4 x6 x8 x10 x12 x13 x14 M
def WX12_clear_275 (M : e_M) (H63 : Int → Int → Int → Int → Int → Int → Int → Int → Int → Prop) (Q : Int → Prop) (x1 : Int) (x2 : Int) (x4 : Int) (x6 : Int) (x8 : Int) (x10 : Int) (x12 : Int) (x13 : Int) (x14 : Int) (x16 : Int) (x18 : Int) (x24 : Int) (x32 : Int) (xs0 : Int) : Prop :=
  VX12_clear_275 WX12_px WX12_py WX12_turn WJ13_signum_95d88 WX12_lies WX12_lieAt (WX12_clear_314 M H63 Q) Q x1 x2 x4 x6 x8 x10 x12 x13 x14 x16 x18 x24 x32 xs0 M
def WX12_clear_274 (M : e_M) (H63 : Int → Int → Int → Int → Int → Int → Int → Int → Int → Prop) (Q : Int → Prop) (x1 : Int) (x2 : Int) (x4 : Int) (x6 : Int) (x8 : Int) (x10 : Int) (x12 : Int) (x13 : Int) (x14 : Int) (x16 : Int) (x18 : Int) (x24 : Int) (x32 : Int) : Prop :=
  VX12_clear_274 WX12_px WX12_py WX12_turn WJ13_signum_95d88 WX12_lies WX12_lieAt (WX12_clear_275 M H63 Q) Q x1 x2 x4 x6 x8 x10 x12 x13 x14 x16 x18 x24 x32 M
def WX12_clear_247 (M : e_M) (H63 : Int → Int → Int → Int → Int → Int → Int → Int → Int → Prop) (Q : Int → Prop) (x1 : Int) (x2 : Int) (x4 : Int) (x6 : Int) (x8 : Int) (x10 : Int) (x12 : Int) (x13 : Int) (x14 : Int) (x16 : Int) (x18 : Int) (x24 : Int) (xs0 : Int) : Prop :=
  VX12_clear_247 WX12_px WX12_py WX12_turn WJ13_signum_95d88 WX12_lies WX12_lieAt (WX12_clear_274 M H63 Q) (WX12_clear_275 M H63 Q) Q x1 x2 x4 x6 x8 x10 x12 x13 x14 x16 x18 x24 xs0 M
def WX12_clear_246 (M : e_M) (H63 : Int → Int → Int → Int → Int → Int → Int → Int → Int → Prop) (Q : Int → Prop) (x1 : Int) (x2 : Int) (x4 : Int) (x6 : Int) (x8 : Int) (x10 : Int) (x12 : Int) (x13 : Int) (x14 : Int) (x16 : Int) (x18 : Int) (x24 : Int) : Prop :=
  VX12_clear_246 WX12_px WX12_py WX12_turn WJ13_signum_95d88 WX12_lies WX12_lieAt (WX12_clear_247 M H63 Q) Q x1 x2 x4 x6 x8 x10 x12 x13 x14 x16 x18 x24 M
def WX12_clear_221 (M : e_M) (H63 : Int → Int → Int → Int → Int → Int → Int → Int → Int → Prop) (Q : Int → Prop) (x1 : Int) (x2 : Int) (x4 : Int) (x6 : Int) (x8 : Int) (x10 : Int) (x12 : Int) (x13 : Int) (x14 : Int) (x16 : Int) (x18 : Int) (x24 : Int) : Prop :=
  VX12_clear_221 WX12_px WX12_py WX12_turn WJ13_signum_95d88 WX12_lies WX12_lieAt (WX12_clear_246 M H63 Q) (WX12_clear_247 M H63 Q) Q x1 x2 x4 x6 x8 x10 x12 x13 x14 x16 x18 x24 M
def WX12_clear_63 (M : e_M) (Q : Int → Prop) : Nat → Int → Int → Int → Int → Int → Int → Int → Int → Int → Prop
  | 0, _, _, _, _, _, _, _, _, _ => False
  | n + 1, x1, x2, x4, x6, x8, x10, x12, x13, x14 =>
    VX12_clear_63 WX12_px WX12_py WX12_turn WJ13_signum_95d88 WX12_lies WX12_lieAt (WX12_clear_221 M (WX12_clear_63 M Q n) Q) Q x1 x2 x4 x6 x8 x10 x12 x13 x14 M
def WX12_clear_58 (M : e_M) (Q : Int → Prop) (x1 : Int) (x2 : Int) (x4 : Int) (x6 : Int) (x8 : Int) (x10 : Int) (x12 : Int) (xs0 : Int) : Prop :=
  VX12_clear_58 WX12_px WX12_py WX12_turn WJ13_signum_95d88 WX12_lies WX12_lieAt (fun x1 x2 x4 x6 x8 x10 x12 x13 x14 => ∃ j, WX12_clear_63 M Q j x1 x2 x4 x6 x8 x10 x12 x13 x14) Q x1 x2 x4 x6 x8 x10 x12 xs0 M
def WX12_clear_41 (M : e_M) (Q : Int → Prop) (x1 : Int) (x2 : Int) (x3 : Int) (x4 : Int) (x6 : Int) (x8 : Int) (x10 : Int) (xs0 : Int) : Prop :=
  VX12_clear_41 WX12_px WX12_py WX12_turn WJ13_signum_95d88 WX12_lies WX12_lieAt (WX12_clear_58 M Q) Q x1 x2 x3 x4 x6 x8 x10 xs0 M
def WX12_clear (x1 : Int) (x2 : Int) (x3 : Int) (M : e_M) (Q : Int → Prop) : Prop :=
  VX12_clear WX12_px WX12_py WX12_turn WJ13_signum_95d88 WX12_lies WX12_lieAt (WX12_clear_41 M Q) Q x1 x2 x3 M
theorem PX12_clear_314 {sh : Nat → Nat × Nat} {t : Nat} {rm : Nat × Nat × Nat} {cs : Nat × Nat} {R : f_Rt} {H63 : Int → Int → Int → Int → Int → Int → Int → Int → Int → Prop} {x1 : Int} {x2 : Int} {x4 : Int} {x6 : Int} {x8 : Int} {x10 : Int} {x12 : Int} {x13 : Int} {x14 : Int} {M : e_M} (C : f_Hy sh t yX12_clear rm cs 7 (lX12_clear WX12_px WX12_py WX12_turn WJ13_signum_95d88 WX12_lies WX12_lieAt) R) (g63 : ∀ (x1 : Int) (x2 : Int) (x4 : Int) (x6 : Int) (x8 : Int) (x10 : Int) (x12 : Int) (x13 : Int) (x14 : Int), H63 x1 x2 x4 x6 x8 x10 x12 x13 x14 → f_E sh t YX12_clear rm cs (f_Q sh t R) 63 [.inr (.inr (.inl (12, 123, 4456))), .inl x1, .inl x2, .inr (.inr (.inr ())), .inr (.inl x4), .inr (.inr (.inr ())), .inr (.inl x6), .inr (.inr (.inr ())), .inr (.inl x8), .inr (.inr (.inr ())), .inr (.inl x10), .inr (.inr (.inr ())), .inl x12, .inl x13, .inl x14, .inr (.inr (.inr ())), .inr (.inr (.inr ())), .inr (.inr (.inr ())), .inr (.inr (.inr ())), .inr (.inr (.inr ())), .inr (.inr (.inr ())), .inr (.inr (.inr ())), .inr (.inr (.inr ())), .inr (.inr (.inr ())), .inr (.inr (.inr ())), .inr (.inr (.inr ())), .inr (.inr (.inr ())), .inr (.inr (.inr ())), .inr (.inr (.inr ())), .inr (.inr (.inr ())), .inr (.inr (.inr ())), .inr (.inr (.inr ())), .inr (.inr (.inr ())), .inr (.inr (.inr ()))] [] M) (h : WX12_clear_314 M H63 (fun r => R (some (.inl r)) M) x1 x2 x4 x6 x8 x10 x12 x13 x14) : f_E sh t YX12_clear rm cs (f_Q sh t R) 314 [.inr (.inr (.inl (12, 123, 4456))), .inl x1, .inl x2, .inr (.inr (.inr ())), .inr (.inl x4), .inr (.inr (.inr ())), .inr (.inl x6), .inr (.inr (.inr ())), .inr (.inl x8), .inr (.inr (.inr ())), .inr (.inl x10), .inr (.inr (.inr ())), .inl x12, .inl x13, .inl x14, .inr (.inr (.inr ())), .inr (.inr (.inr ())), .inr (.inr (.inr ())), .inr (.inr (.inr ())), .inr (.inr (.inr ())), .inr (.inr (.inr ())), .inr (.inr (.inr ())), .inr (.inr (.inr ())), .inr (.inr (.inr ())), .inr (.inr (.inr ())), .inr (.inr (.inr ())), .inr (.inr (.inr ())), .inr (.inr (.inr ())), .inr (.inr (.inr ())), .inr (.inr (.inr ())), .inr (.inr (.inr ())), .inr (.inr (.inr ())), .inr (.inr (.inr ())), .inr (.inr (.inr ()))] [] M :=
  BX12_clear_314 C g63 h
theorem PX12_clear_275 {sh : Nat → Nat × Nat} {t : Nat} {rm : Nat × Nat × Nat} {cs : Nat × Nat} {R : f_Rt} {H63 : Int → Int → Int → Int → Int → Int → Int → Int → Int → Prop} {x1 : Int} {x2 : Int} {x4 : Int} {x6 : Int} {x8 : Int} {x10 : Int} {x12 : Int} {x13 : Int} {x14 : Int} {x16 : Int} {x18 : Int} {x24 : Int} {x32 : Int} {xs0 : Int} {M : e_M} (C : f_Hy sh t yX12_clear rm cs 7 (lX12_clear WX12_px WX12_py WX12_turn WJ13_signum_95d88 WX12_lies WX12_lieAt) R) (g63 : ∀ (x1 : Int) (x2 : Int) (x4 : Int) (x6 : Int) (x8 : Int) (x10 : Int) (x12 : Int) (x13 : Int) (x14 : Int), H63 x1 x2 x4 x6 x8 x10 x12 x13 x14 → f_E sh t YX12_clear rm cs (f_Q sh t R) 63 [.inr (.inr (.inl (12, 123, 4456))), .inl x1, .inl x2, .inr (.inr (.inr ())), .inr (.inl x4), .inr (.inr (.inr ())), .inr (.inl x6), .inr (.inr (.inr ())), .inr (.inl x8), .inr (.inr (.inr ())), .inr (.inl x10), .inr (.inr (.inr ())), .inl x12, .inl x13, .inl x14, .inr (.inr (.inr ())), .inr (.inr (.inr ())), .inr (.inr (.inr ())), .inr (.inr (.inr ())), .inr (.inr (.inr ())), .inr (.inr (.inr ())), .inr (.inr (.inr ())), .inr (.inr (.inr ())), .inr (.inr (.inr ())), .inr (.inr (.inr ())), .inr (.inr (.inr ())), .inr (.inr (.inr ())), .inr (.inr (.inr ())), .inr (.inr (.inr ())), .inr (.inr (.inr ())), .inr (.inr (.inr ())), .inr (.inr (.inr ())), .inr (.inr (.inr ())), .inr (.inr (.inr ()))] [] M) (h : WX12_clear_275 M H63 (fun r => R (some (.inl r)) M) x1 x2 x4 x6 x8 x10 x12 x13 x14 x16 x18 x24 x32 xs0) : f_E sh t YX12_clear rm cs (f_Q sh t R) 275 [.inr (.inr (.inl (12, 123, 4456))), .inl x1, .inl x2, .inr (.inr (.inr ())), .inr (.inl x4), .inr (.inr (.inr ())), .inr (.inl x6), .inr (.inr (.inr ())), .inr (.inl x8), .inr (.inr (.inr ())), .inr (.inl x10), .inr (.inr (.inr ())), .inl x12, .inl x13, .inl x14, .inr (.inr (.inr ())), .inr (.inl x16), .inr (.inr (.inr ())), .inr (.inl x18), .inr (.inr (.inr ())), .inr (.inr (.inr ())), .inr (.inr (.inr ())), .inr (.inr (.inr ())), .inr (.inr (.inr ())), .inr (.inl x24), .inr (.inr (.inr ())), .inr (.inr (.inr ())), .inr (.inr (.inr ())), .inr (.inr (.inr ())), .inr (.inr (.inr ())), .inr (.inr (.inr ())), .inr (.inr (.inr ())), .inl x32, .inr (.inr (.inr ()))] [.inl xs0] M :=
  BX12_clear_275 C (fun x1 x2 x4 x6 x8 x10 x12 x13 x14 h => PX12_clear_314 C g63 h) h
theorem PX12_clear_274 {sh : Nat → Nat × Nat} {t : Nat} {rm : Nat × Nat × Nat} {cs : Nat × Nat} {R : f_Rt} {H63 : Int → Int → Int → Int → Int → Int → Int → Int → Int → Prop} {x1 : Int} {x2 : Int} {x4 : Int} {x6 : Int} {x8 : Int} {x10 : Int} {x12 : Int} {x13 : Int} {x14 : Int} {x16 : Int} {x18 : Int} {x24 : Int} {x32 : Int} {M : e_M} (C : f_Hy sh t yX12_clear rm cs 7 (lX12_clear WX12_px WX12_py WX12_turn WJ13_signum_95d88 WX12_lies WX12_lieAt) R) (g63 : ∀ (x1 : Int) (x2 : Int) (x4 : Int) (x6 : Int) (x8 : Int) (x10 : Int) (x12 : Int) (x13 : Int) (x14 : Int), H63 x1 x2 x4 x6 x8 x10 x12 x13 x14 → f_E sh t YX12_clear rm cs (f_Q sh t R) 63 [.inr (.inr (.inl (12, 123, 4456))), .inl x1, .inl x2, .inr (.inr (.inr ())), .inr (.inl x4), .inr (.inr (.inr ())), .inr (.inl x6), .inr (.inr (.inr ())), .inr (.inl x8), .inr (.inr (.inr ())), .inr (.inl x10), .inr (.inr (.inr ())), .inl x12, .inl x13, .inl x14, .inr (.inr (.inr ())), .inr (.inr (.inr ())), .inr (.inr (.inr ())), .inr (.inr (.inr ())), .inr (.inr (.inr ())), .inr (.inr (.inr ())), .inr (.inr (.inr ())), .inr (.inr (.inr ())), .inr (.inr (.inr ())), .inr (.inr (.inr ())), .inr (.inr (.inr ())), .inr (.inr (.inr ())), .inr (.inr (.inr ())), .inr (.inr (.inr ())), .inr (.inr (.inr ())), .inr (.inr (.inr ())), .inr (.inr (.inr ())), .inr (.inr (.inr ())), .inr (.inr (.inr ()))] [] M) (h : WX12_clear_274 M H63 (fun r => R (some (.inl r)) M) x1 x2 x4 x6 x8 x10 x12 x13 x14 x16 x18 x24 x32) : f_E sh t YX12_clear rm cs (f_Q sh t R) 274 [.inr (.inr (.inl (12, 123, 4456))), .inl x1, .inl x2, .inr (.inr (.inr ())), .inr (.inl x4), .inr (.inr (.inr ())), .inr (.inl x6), .inr (.inr (.inr ())), .inr (.inl x8), .inr (.inr (.inr ())), .inr (.inl x10), .inr (.inr (.inr ())), .inl x12, .inl x13, .inl x14, .inr (.inr (.inr ())), .inr (.inl x16), .inr (.inr (.inr ())), .inr (.inl x18), .inr (.inr (.inr ())), .inr (.inr (.inr ())), .inr (.inr (.inr ())), .inr (.inr (.inr ())), .inr (.inr (.inr ())), .inr (.inl x24), .inr (.inr (.inr ())), .inr (.inr (.inr ())), .inr (.inr (.inr ())), .inr (.inr (.inr ())), .inr (.inr (.inr ())), .inr (.inr (.inr ())), .inr (.inr (.inr ())), .inl x32, .inr (.inr (.inr ()))] [] M :=
  BX12_clear_274 C (fun x1 x2 x4 x6 x8 x10 x12 x13 x14 x16 x18 x24 x32 xs0 h => PX12_clear_275 C g63 h) h
theorem PX12_clear_247 {sh : Nat → Nat × Nat} {t : Nat} {rm : Nat × Nat × Nat} {cs : Nat × Nat} {R : f_Rt} {H63 : Int → Int → Int → Int → Int → Int → Int → Int → Int → Prop} {x1 : Int} {x2 : Int} {x4 : Int} {x6 : Int} {x8 : Int} {x10 : Int} {x12 : Int} {x13 : Int} {x14 : Int} {x16 : Int} {x18 : Int} {x24 : Int} {xs0 : Int} {M : e_M} (C : f_Hy sh t yX12_clear rm cs 7 (lX12_clear WX12_px WX12_py WX12_turn WJ13_signum_95d88 WX12_lies WX12_lieAt) R) (g63 : ∀ (x1 : Int) (x2 : Int) (x4 : Int) (x6 : Int) (x8 : Int) (x10 : Int) (x12 : Int) (x13 : Int) (x14 : Int), H63 x1 x2 x4 x6 x8 x10 x12 x13 x14 → f_E sh t YX12_clear rm cs (f_Q sh t R) 63 [.inr (.inr (.inl (12, 123, 4456))), .inl x1, .inl x2, .inr (.inr (.inr ())), .inr (.inl x4), .inr (.inr (.inr ())), .inr (.inl x6), .inr (.inr (.inr ())), .inr (.inl x8), .inr (.inr (.inr ())), .inr (.inl x10), .inr (.inr (.inr ())), .inl x12, .inl x13, .inl x14, .inr (.inr (.inr ())), .inr (.inr (.inr ())), .inr (.inr (.inr ())), .inr (.inr (.inr ())), .inr (.inr (.inr ())), .inr (.inr (.inr ())), .inr (.inr (.inr ())), .inr (.inr (.inr ())), .inr (.inr (.inr ())), .inr (.inr (.inr ())), .inr (.inr (.inr ())), .inr (.inr (.inr ())), .inr (.inr (.inr ())), .inr (.inr (.inr ())), .inr (.inr (.inr ())), .inr (.inr (.inr ())), .inr (.inr (.inr ())), .inr (.inr (.inr ())), .inr (.inr (.inr ()))] [] M) (h : WX12_clear_247 M H63 (fun r => R (some (.inl r)) M) x1 x2 x4 x6 x8 x10 x12 x13 x14 x16 x18 x24 xs0) : f_E sh t YX12_clear rm cs (f_Q sh t R) 247 [.inr (.inr (.inl (12, 123, 4456))), .inl x1, .inl x2, .inr (.inr (.inr ())), .inr (.inl x4), .inr (.inr (.inr ())), .inr (.inl x6), .inr (.inr (.inr ())), .inr (.inl x8), .inr (.inr (.inr ())), .inr (.inl x10), .inr (.inr (.inr ())), .inl x12, .inl x13, .inl x14, .inr (.inr (.inr ())), .inr (.inl x16), .inr (.inr (.inr ())), .inr (.inl x18), .inr (.inr (.inr ())), .inr (.inr (.inr ())), .inr (.inr (.inr ())), .inr (.inr (.inr ())), .inr (.inr (.inr ())), .inr (.inl x24), .inr (.inr (.inr ())), .inr (.inr (.inr ())), .inr (.inr (.inr ())), .inr (.inr (.inr ())), .inr (.inr (.inr ())), .inr (.inr (.inr ())), .inr (.inr (.inr ())), .inr (.inr (.inr ())), .inr (.inr (.inr ()))] [.inl xs0] M :=
  BX12_clear_247 C (fun x1 x2 x4 x6 x8 x10 x12 x13 x14 x16 x18 x24 x32 h => PX12_clear_274 C g63 h) (fun x1 x2 x4 x6 x8 x10 x12 x13 x14 x16 x18 x24 x32 xs0 h => PX12_clear_275 C g63 h) h
theorem PX12_clear_246 {sh : Nat → Nat × Nat} {t : Nat} {rm : Nat × Nat × Nat} {cs : Nat × Nat} {R : f_Rt} {H63 : Int → Int → Int → Int → Int → Int → Int → Int → Int → Prop} {x1 : Int} {x2 : Int} {x4 : Int} {x6 : Int} {x8 : Int} {x10 : Int} {x12 : Int} {x13 : Int} {x14 : Int} {x16 : Int} {x18 : Int} {x24 : Int} {M : e_M} (C : f_Hy sh t yX12_clear rm cs 7 (lX12_clear WX12_px WX12_py WX12_turn WJ13_signum_95d88 WX12_lies WX12_lieAt) R) (g63 : ∀ (x1 : Int) (x2 : Int) (x4 : Int) (x6 : Int) (x8 : Int) (x10 : Int) (x12 : Int) (x13 : Int) (x14 : Int), H63 x1 x2 x4 x6 x8 x10 x12 x13 x14 → f_E sh t YX12_clear rm cs (f_Q sh t R) 63 [.inr (.inr (.inl (12, 123, 4456))), .inl x1, .inl x2, .inr (.inr (.inr ())), .inr (.inl x4), .inr (.inr (.inr ())), .inr (.inl x6), .inr (.inr (.inr ())), .inr (.inl x8), .inr (.inr (.inr ())), .inr (.inl x10), .inr (.inr (.inr ())), .inl x12, .inl x13, .inl x14, .inr (.inr (.inr ())), .inr (.inr (.inr ())), .inr (.inr (.inr ())), .inr (.inr (.inr ())), .inr (.inr (.inr ())), .inr (.inr (.inr ())), .inr (.inr (.inr ())), .inr (.inr (.inr ())), .inr (.inr (.inr ())), .inr (.inr (.inr ())), .inr (.inr (.inr ())), .inr (.inr (.inr ())), .inr (.inr (.inr ())), .inr (.inr (.inr ())), .inr (.inr (.inr ())), .inr (.inr (.inr ())), .inr (.inr (.inr ())), .inr (.inr (.inr ())), .inr (.inr (.inr ()))] [] M) (h : WX12_clear_246 M H63 (fun r => R (some (.inl r)) M) x1 x2 x4 x6 x8 x10 x12 x13 x14 x16 x18 x24) : f_E sh t YX12_clear rm cs (f_Q sh t R) 246 [.inr (.inr (.inl (12, 123, 4456))), .inl x1, .inl x2, .inr (.inr (.inr ())), .inr (.inl x4), .inr (.inr (.inr ())), .inr (.inl x6), .inr (.inr (.inr ())), .inr (.inl x8), .inr (.inr (.inr ())), .inr (.inl x10), .inr (.inr (.inr ())), .inl x12, .inl x13, .inl x14, .inr (.inr (.inr ())), .inr (.inl x16), .inr (.inr (.inr ())), .inr (.inl x18), .inr (.inr (.inr ())), .inr (.inr (.inr ())), .inr (.inr (.inr ())), .inr (.inr (.inr ())), .inr (.inr (.inr ())), .inr (.inl x24), .inr (.inr (.inr ())), .inr (.inr (.inr ())), .inr (.inr (.inr ())), .inr (.inr (.inr ())), .inr (.inr (.inr ())), .inr (.inr (.inr ())), .inr (.inr (.inr ())), .inr (.inr (.inr ())), .inr (.inr (.inr ()))] [] M :=
  BX12_clear_246 C (fun x1 x2 x4 x6 x8 x10 x12 x13 x14 x16 x18 x24 xs0 h => PX12_clear_247 C g63 h) h
theorem PX12_clear_221 {sh : Nat → Nat × Nat} {t : Nat} {rm : Nat × Nat × Nat} {cs : Nat × Nat} {R : f_Rt} {H63 : Int → Int → Int → Int → Int → Int → Int → Int → Int → Prop} {x1 : Int} {x2 : Int} {x4 : Int} {x6 : Int} {x8 : Int} {x10 : Int} {x12 : Int} {x13 : Int} {x14 : Int} {x16 : Int} {x18 : Int} {x24 : Int} {M : e_M} (C : f_Hy sh t yX12_clear rm cs 7 (lX12_clear WX12_px WX12_py WX12_turn WJ13_signum_95d88 WX12_lies WX12_lieAt) R) (g63 : ∀ (x1 : Int) (x2 : Int) (x4 : Int) (x6 : Int) (x8 : Int) (x10 : Int) (x12 : Int) (x13 : Int) (x14 : Int), H63 x1 x2 x4 x6 x8 x10 x12 x13 x14 → f_E sh t YX12_clear rm cs (f_Q sh t R) 63 [.inr (.inr (.inl (12, 123, 4456))), .inl x1, .inl x2, .inr (.inr (.inr ())), .inr (.inl x4), .inr (.inr (.inr ())), .inr (.inl x6), .inr (.inr (.inr ())), .inr (.inl x8), .inr (.inr (.inr ())), .inr (.inl x10), .inr (.inr (.inr ())), .inl x12, .inl x13, .inl x14, .inr (.inr (.inr ())), .inr (.inr (.inr ())), .inr (.inr (.inr ())), .inr (.inr (.inr ())), .inr (.inr (.inr ())), .inr (.inr (.inr ())), .inr (.inr (.inr ())), .inr (.inr (.inr ())), .inr (.inr (.inr ())), .inr (.inr (.inr ())), .inr (.inr (.inr ())), .inr (.inr (.inr ())), .inr (.inr (.inr ())), .inr (.inr (.inr ())), .inr (.inr (.inr ())), .inr (.inr (.inr ())), .inr (.inr (.inr ())), .inr (.inr (.inr ())), .inr (.inr (.inr ()))] [] M) (h : WX12_clear_221 M H63 (fun r => R (some (.inl r)) M) x1 x2 x4 x6 x8 x10 x12 x13 x14 x16 x18 x24) : f_E sh t YX12_clear rm cs (f_Q sh t R) 221 [.inr (.inr (.inl (12, 123, 4456))), .inl x1, .inl x2, .inr (.inr (.inr ())), .inr (.inl x4), .inr (.inr (.inr ())), .inr (.inl x6), .inr (.inr (.inr ())), .inr (.inl x8), .inr (.inr (.inr ())), .inr (.inl x10), .inr (.inr (.inr ())), .inl x12, .inl x13, .inl x14, .inr (.inr (.inr ())), .inr (.inl x16), .inr (.inr (.inr ())), .inr (.inl x18), .inr (.inr (.inr ())), .inr (.inr (.inr ())), .inr (.inr (.inr ())), .inr (.inr (.inr ())), .inr (.inr (.inr ())), .inr (.inl x24), .inr (.inr (.inr ())), .inr (.inr (.inr ())), .inr (.inr (.inr ())), .inr (.inr (.inr ())), .inr (.inr (.inr ())), .inr (.inr (.inr ())), .inr (.inr (.inr ())), .inr (.inr (.inr ())), .inr (.inr (.inr ()))] [] M :=
  BX12_clear_221 C (fun x1 x2 x4 x6 x8 x10 x12 x13 x14 x16 x18 x24 h => PX12_clear_246 C g63 h) (fun x1 x2 x4 x6 x8 x10 x12 x13 x14 x16 x18 x24 xs0 h => PX12_clear_247 C g63 h) h
theorem PX12_clear_63 {sh : Nat → Nat × Nat} {t : Nat} {rm : Nat × Nat × Nat} {cs : Nat × Nat} {R : f_Rt} {M : e_M} (C : f_Hy sh t yX12_clear rm cs 7 (lX12_clear WX12_px WX12_py WX12_turn WJ13_signum_95d88 WX12_lies WX12_lieAt) R) : ∀ (n : Nat) (x1 : Int) (x2 : Int) (x4 : Int) (x6 : Int) (x8 : Int) (x10 : Int) (x12 : Int) (x13 : Int) (x14 : Int), WX12_clear_63 M (fun r => R (some (.inl r)) M) n x1 x2 x4 x6 x8 x10 x12 x13 x14 → f_E sh t YX12_clear rm cs (f_Q sh t R) 63 [.inr (.inr (.inl (12, 123, 4456))), .inl x1, .inl x2, .inr (.inr (.inr ())), .inr (.inl x4), .inr (.inr (.inr ())), .inr (.inl x6), .inr (.inr (.inr ())), .inr (.inl x8), .inr (.inr (.inr ())), .inr (.inl x10), .inr (.inr (.inr ())), .inl x12, .inl x13, .inl x14, .inr (.inr (.inr ())), .inr (.inr (.inr ())), .inr (.inr (.inr ())), .inr (.inr (.inr ())), .inr (.inr (.inr ())), .inr (.inr (.inr ())), .inr (.inr (.inr ())), .inr (.inr (.inr ())), .inr (.inr (.inr ())), .inr (.inr (.inr ())), .inr (.inr (.inr ())), .inr (.inr (.inr ())), .inr (.inr (.inr ())), .inr (.inr (.inr ())), .inr (.inr (.inr ())), .inr (.inr (.inr ())), .inr (.inr (.inr ())), .inr (.inr (.inr ())), .inr (.inr (.inr ()))] [] M := by
  intro n
  induction n with
  | zero => intro x1 x2 x4 x6 x8 x10 x12 x13 x14 h; exact h.elim
  | succ n ih => intro x1 x2 x4 x6 x8 x10 x12 x13 x14 h; exact BX12_clear_63 C (fun x1 x2 x4 x6 x8 x10 x12 x13 x14 x16 x18 x24 h => PX12_clear_221 C ih h) h
theorem PX12_clear_58 {sh : Nat → Nat × Nat} {t : Nat} {rm : Nat × Nat × Nat} {cs : Nat × Nat} {R : f_Rt} {x1 : Int} {x2 : Int} {x4 : Int} {x6 : Int} {x8 : Int} {x10 : Int} {x12 : Int} {xs0 : Int} {M : e_M} (C : f_Hy sh t yX12_clear rm cs 7 (lX12_clear WX12_px WX12_py WX12_turn WJ13_signum_95d88 WX12_lies WX12_lieAt) R) (h : WX12_clear_58 M (fun r => R (some (.inl r)) M) x1 x2 x4 x6 x8 x10 x12 xs0) : f_E sh t YX12_clear rm cs (f_Q sh t R) 58 [.inr (.inr (.inl (12, 123, 4456))), .inl x1, .inl x2, .inr (.inr (.inr ())), .inr (.inl x4), .inr (.inr (.inr ())), .inr (.inl x6), .inr (.inr (.inr ())), .inr (.inl x8), .inr (.inr (.inr ())), .inr (.inl x10), .inr (.inr (.inr ())), .inl x12, .inr (.inr (.inr ())), .inr (.inr (.inr ())), .inr (.inr (.inr ())), .inr (.inr (.inr ())), .inr (.inr (.inr ())), .inr (.inr (.inr ())), .inr (.inr (.inr ())), .inr (.inr (.inr ())), .inr (.inr (.inr ())), .inr (.inr (.inr ())), .inr (.inr (.inr ())), .inr (.inr (.inr ())), .inr (.inr (.inr ())), .inr (.inr (.inr ())), .inr (.inr (.inr ())), .inr (.inr (.inr ())), .inr (.inr (.inr ())), .inr (.inr (.inr ())), .inr (.inr (.inr ())), .inr (.inr (.inr ())), .inr (.inr (.inr ()))] [.inl xs0] M :=
  BX12_clear_58 C (fun x1 x2 x4 x6 x8 x10 x12 x13 x14 ⟨j, h⟩ => PX12_clear_63 C j _ _ _ _ _ _ _ _ _ h) h
theorem PX12_clear_41 {sh : Nat → Nat × Nat} {t : Nat} {rm : Nat × Nat × Nat} {cs : Nat × Nat} {R : f_Rt} {x1 : Int} {x2 : Int} {x3 : Int} {x4 : Int} {x6 : Int} {x8 : Int} {x10 : Int} {xs0 : Int} {M : e_M} (C : f_Hy sh t yX12_clear rm cs 7 (lX12_clear WX12_px WX12_py WX12_turn WJ13_signum_95d88 WX12_lies WX12_lieAt) R) (h : WX12_clear_41 M (fun r => R (some (.inl r)) M) x1 x2 x3 x4 x6 x8 x10 xs0) : f_E sh t YX12_clear rm cs (f_Q sh t R) 41 [.inr (.inr (.inl (12, 123, 4456))), .inl x1, .inl x2, .inl x3, .inr (.inl x4), .inr (.inr (.inr ())), .inr (.inl x6), .inr (.inr (.inr ())), .inr (.inl x8), .inr (.inr (.inr ())), .inr (.inl x10), .inr (.inr (.inr ())), .inr (.inr (.inr ())), .inr (.inr (.inr ())), .inr (.inr (.inr ())), .inr (.inr (.inr ())), .inr (.inr (.inr ())), .inr (.inr (.inr ())), .inr (.inr (.inr ())), .inr (.inr (.inr ())), .inr (.inr (.inr ())), .inr (.inr (.inr ())), .inr (.inr (.inr ())), .inr (.inr (.inr ())), .inr (.inr (.inr ())), .inr (.inr (.inr ())), .inr (.inr (.inr ())), .inr (.inr (.inr ())), .inr (.inr (.inr ())), .inr (.inr (.inr ())), .inr (.inr (.inr ())), .inr (.inr (.inr ())), .inr (.inr (.inr ())), .inr (.inr (.inr ()))] [.inl xs0] M :=
  BX12_clear_41 C (fun x1 x2 x4 x6 x8 x10 x12 xs0 h => PX12_clear_58 C h) h
theorem PX12_clear {sh : Nat → Nat × Nat} {t : Nat} {rm : Nat × Nat × Nat} {cs : Nat × Nat} {R : f_Rt} {x1 : Int} {x2 : Int} {x3 : Int} {M : e_M} (C : f_Hy sh t yX12_clear rm cs 7 (lX12_clear WX12_px WX12_py WX12_turn WJ13_signum_95d88 WX12_lies WX12_lieAt) R) (h : WX12_clear x1 x2 x3 M (fun r => R (some (.inl r)) M)) : f_E sh t YX12_clear rm cs (f_Q sh t R) 0 [.inr (.inr (.inl (12, 123, 4456))), .inl x1, .inl x2, .inl x3, .inr (.inr (.inr ())), .inr (.inr (.inr ())), .inr (.inr (.inr ())), .inr (.inr (.inr ())), .inr (.inr (.inr ())), .inr (.inr (.inr ())), .inr (.inr (.inr ())), .inr (.inr (.inr ())), .inr (.inr (.inr ())), .inr (.inr (.inr ())), .inr (.inr (.inr ())), .inr (.inr (.inr ())), .inr (.inr (.inr ())), .inr (.inr (.inr ())), .inr (.inr (.inr ())), .inr (.inr (.inr ())), .inr (.inr (.inr ())), .inr (.inr (.inr ())), .inr (.inr (.inr ())), .inr (.inr (.inr ())), .inr (.inr (.inr ())), .inr (.inr (.inr ())), .inr (.inr (.inr ())), .inr (.inr (.inr ())), .inr (.inr (.inr ())), .inr (.inr (.inr ())), .inr (.inr (.inr ())), .inr (.inr (.inr ())), .inr (.inr (.inr ())), .inr (.inr (.inr ()))] [] M :=
  BX12_clear C (fun x1 x2 x3 x4 x6 x8 x10 xs0 h => PX12_clear_41 C h) h
def wX12_clear : f_Wt := f_wm [(4466, 12, 123), (1, 0, 0), (1, 0, 0), (1, 0, 0)] (fun ar M R => WX12_clear (f_vi (f_nth ar 1)) (f_vi (f_nth ar 2)) (f_vi (f_nth ar 3)) M (fun r => R (some (.inl r)) M))
theorem TX12_clear {sh : Nat → Nat × Nat} {t : Nat} : f_Mt sh t YX12_clear 7 (wX12_clear) :=
  f_Mt_of (k := 30) (Nat.le_of_ble_eq_true rfl) rfl rfl (fun ar M R rm cs h1 h2 h3 hX h => PX12_clear ⟨Nat.le_of_ble_eq_true rfl, h1, h2, h3, ⟨(f_Mt.up (Nat.le_of_ble_eq_true rfl) TX12_px), (f_Mt.up (Nat.le_of_ble_eq_true rfl) TX12_py), (f_Mt.up (Nat.le_of_ble_eq_true rfl) TX12_turn), (f_Mt.up (Nat.le_of_ble_eq_true rfl) TJ13_signum_95d88), (f_Mt.up (Nat.le_of_ble_eq_true rfl) TX12_lies), (f_Mt.up (Nat.le_of_ble_eq_true rfl) TX12_lieAt), trivial⟩, hX⟩ h)
def VX12_touch_86 (c_X12_px : Int → e_M → (Int → Prop) → Prop) (c_X12_py : Int → e_M → (Int → Prop) → Prop) (c_X12_turn : Int → Int → Int → Int → Int → Int → e_M → (Int → Prop) → Prop) (c_J13_signum_95d88 : Int → e_M → (Int → Prop) → Prop) (c_X12_lies : Int → Int → Int → Int → Int → Int → e_M → (Int → Prop) → Prop) (k103 : Int → Int → Int → Int → Int → Int → Prop) (Q : Int → Prop) (x3 : Int) (x5 : Int) (x7 : Int) (x9 : Int) (x15 : Int) (x17 : Int) (M : e_M) : Prop :=
  ((¬ x3 = x7 → (k103 x3 x5 x7 x9 x15 x17)) ∧ (x3 = x7 → ((¬ x5 = x9 → (k103 x3 x5 x7 x9 x15 x17)) ∧ (x5 = x9 → (Q 1)))))
def VX12_touch_103 (c_X12_px : Int → e_M → (Int → Prop) → Prop) (c_X12_py : Int → e_M → (Int → Prop) → Prop) (c_X12_turn : Int → Int → Int → Int → Int → Int → e_M → (Int → Prop) → Prop) (c_J13_signum_95d88 : Int → e_M → (Int → Prop) → Prop) (c_X12_lies : Int → Int → Int → Int → Int → Int → e_M → (Int → Prop) → Prop) (Q : Int → Prop) (x3 : Int) (x5 : Int) (x7 : Int) (x9 : Int) (x15 : Int) (x17 : Int) (M : e_M) : Prop :=
  (c_X12_turn x3 x5 x7 x9 x15 x17 M (fun r1 => ((¬ r1 = 0 → (Q 0)) ∧ (r1 = 0 → (((e_w64 ((e_w64 ((e_w64 (x3 - x7)) * (e_w64 (x15 - x7)))) + (e_w64 ((e_w64 (x5 - x9)) * (e_w64 (x17 - x9)))))) ≤ 0 → (Q 0)) ∧ (0 < (e_w64 ((e_w64 ((e_w64 (x3 - x7)) * (e_w64 (x15 - x7)))) + (e_w64 ((e_w64 (x5 - x9)) * (e_w64 (x17 - x9)))))) → (Q 1)))))))
def VX12_touch_250 (c_X12_px : Int → e_M → (Int → Prop) → Prop) (c_X12_py : Int → e_M → (Int → Prop) → Prop) (c_X12_turn : Int → Int → Int → Int → Int → Int → e_M → (Int → Prop) → Prop) (c_J13_signum_95d88 : Int → e_M → (Int → Prop) → Prop) (c_X12_lies : Int → Int → Int → Int → Int → Int → e_M → (Int → Prop) → Prop) (k319 : Prop) (Q : Int → Prop) (x3 : Int) (x5 : Int) (x7 : Int) (x9 : Int) (x11 : Int) (x13 : Int) (x15 : Int) (x17 : Int) (M : e_M) : Prop :=
  (c_X12_lies x3 x5 x7 x9 x11 x13 M (fun r1 => ((¬ r1 = 0 → (k319)) ∧ (r1 = 0 → (c_X12_lies x3 x5 x7 x9 x15 x17 M (fun r2 => ((¬ r2 = 0 → (k319)) ∧ (r2 = 0 → (c_X12_lies x11 x13 x15 x17 x3 x5 M (fun r3 => ((¬ r3 = 0 → (k319)) ∧ (r3 = 0 → (c_X12_lies x11 x13 x15 x17 x7 x9 M (fun r4 => ((r4 = 0 → (Q 0)) ∧ (¬ r4 = 0 → (k319)))))))))))))))))
def VX12_touch_319 (c_X12_px : Int → e_M → (Int → Prop) → Prop) (c_X12_py : Int → e_M → (Int → Prop) → Prop) (c_X12_turn : Int → Int → Int → Int → Int → Int → e_M → (Int → Prop) → Prop) (c_J13_signum_95d88 : Int → e_M → (Int → Prop) → Prop) (c_X12_lies : Int → Int → Int → Int → Int → Int → e_M → (Int → Prop) → Prop) (Q : Int → Prop) (M : e_M) : Prop :=
  (Q 1)
def VX12_touch (c_X12_px : Int → e_M → (Int → Prop) → Prop) (c_X12_py : Int → e_M → (Int → Prop) → Prop) (c_X12_turn : Int → Int → Int → Int → Int → Int → e_M → (Int → Prop) → Prop) (c_J13_signum_95d88 : Int → e_M → (Int → Prop) → Prop) (c_X12_lies : Int → Int → Int → Int → Int → Int → e_M → (Int → Prop) → Prop) (k250 : Int → Int → Int → Int → Int → Int → Int → Int → Prop) (k86 : Int → Int → Int → Int → Int → Int → Prop) (Q : Int → Prop) (x1 : Int) (x2 : Int) (M : e_M) : Prop :=
  (c_X12_px x1 M (fun r1 => (c_X12_py x1 M (fun r2 => (c_X12_px (e_w32 (x1 + 1)) M (fun r3 => (c_X12_py (e_w32 (x1 + 1)) M (fun r4 => (c_X12_px x2 M (fun r5 => (c_X12_py x2 M (fun r6 => (c_X12_px (e_w32 (x2 + 1)) M (fun r7 => (c_X12_py (e_w32 (x2 + 1)) M (fun r8 => ((¬ x2 = (e_w32 (x1 + 1)) → (c_X12_turn r1 r2 r3 r4 r5 r6 M (fun r9 => (c_X12_turn r1 r2 r3 r4 r7 r8 M (fun r10 => (c_X12_turn r5 r6 r7 r8 r1 r2 M (fun r11 => (c_X12_turn r5 r6 r7 r8 r3 r4 M (fun r12 => (c_J13_signum_95d88 r9 M (fun r13 => (c_J13_signum_95d88 r10 M (fun r14 => ((0 ≤ (e_w32 (r13 * r14)) → (k250 r1 r2 r3 r4 r5 r6 r7 r8)) ∧ ((e_w32 (r13 * r14)) < 0 → (c_J13_signum_95d88 r11 M (fun r15 => (c_J13_signum_95d88 r12 M (fun r16 => ((0 ≤ (e_w32 (r15 * r16)) → (k250 r1 r2 r3 r4 r5 r6 r7 r8)) ∧ ((e_w32 (r15 * r16)) < 0 → (Q 1)))))))))))))))))))))) ∧ (x2 = (e_w32 (x1 + 1)) → ((¬ r3 = r7 → (k86 r1 r2 r3 r4 r7 r8)) ∧ (r3 = r7 → ((r4 = r8 → (Q 1)) ∧ (¬ r4 = r8 → (k86 r1 r2 r3 r4 r7 r8)))))))))))))))))))))))
def yX12_touch (i : Nat) : e_Y := x_get YX12_touch [YX12_px, YX12_py, YX12_turn, YJ13_signum_95d88, YX12_lies] i
def pX12_touchf : List x_I := [(0, 4, 1, 0, 0, 0, []), (1, 2, 1, 1, 0, 0, []), (2, 40, 0, 2, 14, 0, []), (5, 6, 1, 3, 0, 0, []), (6, 4, 1, 0, 0, 0, []), (7, 2, 1, 1, 0, 0, []), (8, 40, 1, 2, 14, 0, []), (11, 6, 2, 5, 0, 0, []), (13, 4, 1, 0, 0, 0, []), (14, 2, 1, 1, 0, 0, []), (15, 0, 1, 0, 0, 1, []), (16, 9, 0, 0, 0, 0, []), (17, 40, 0, 2, 14, 0, []), (20, 6, 2, 7, 0, 0, []), (22, 4, 1, 0, 0, 0, []), (23, 2, 1, 1, 0, 0, []), (24, 0, 1, 0, 0, 1, []), (25, 9, 0, 0, 0, 0, []), (26, 40, 1, 2, 14, 0, []), (29, 6, 2, 9, 0, 0, []), (31, 4, 1, 0, 0, 0, []), (32, 2, 1, 2, 0, 0, []), (33, 40, 0, 2, 14, 0, []), (36, 6, 2, 11, 0, 0, []), (38, 4, 1, 0, 0, 0, []), (39, 2, 1, 2, 0, 0, []), (40, 40, 1, 2, 14, 0, []), (43, 6, 2, 13, 0, 0, []), (45, 4, 1, 0, 0, 0, []), (46, 2, 1, 2, 0, 0, []), (47, 0, 1, 0, 0, 1, []), (48, 9, 0, 0, 0, 0, []), (49, 40, 0, 2, 14, 0, []), (52, 6, 2, 15, 0, 0, []), (54, 4, 1, 0, 0, 0, []), (55, 2, 1, 2, 0, 0, []), (56, 0, 1, 0, 0, 1, []), (57, 9, 0, 0, 0, 0, []), (58, 40, 1, 2, 14, 0, []), (61, 6, 2, 17, 0, 0, []), (63, 2, 1, 2, 0, 0, []), (64, 2, 1, 1, 0, 0, []), (65, 0, 1, 0, 0, 1, []), (66, 9, 0, 0, 0, 0, []), (67, 18, 155, 1, 92, 0, []), (70, 3, 2, 7, 0, 0, []), (72, 3, 2, 15, 0, 0, []), (74, 32, 86, 1, 52, 0, []), (78, 3, 2, 9, 0, 0, []), (80, 3, 2, 17, 0, 0, []), (82, 32, 101, 0, 59, 0, []), (86, 49, 0, 0, 0, 0, []), (86, 3, 1, 3, 0, 0, []), (87, 3, 2, 7, 0, 0, []), (89, 32, 103, 1, 61, 0, []), (93, 3, 2, 5, 0, 0, []), (95, 3, 2, 9, 0, 0, []), (97, 32, 103, 1, 61, 0, []), (101, 0, 1, 0, 0, 1, []), (102, 48, 0, 0, 0, 0, []), (103, 49, 0, 0, 0, 0, []), (103, 3, 1, 3, 0, 0, []), (104, 3, 2, 5, 0, 0, []), (106, 3, 2, 7, 0, 0, []), (108, 3, 2, 9, 0, 0, []), (110, 3, 2, 15, 0, 0, []), (112, 3, 2, 17, 0, 0, []), (114, 40, 2, 6, 0, 0, []), (117, 1, 1, 0, 0, 0, []), (118, 32, 153, 1, 90, 0, []), (122, 3, 1, 3, 0, 0, []), (123, 3, 2, 7, 0, 0, []), (125, 10, 0, 1, 0, 0, []), (126, 3, 2, 15, 0, 0, []), (128, 3, 2, 7, 0, 0, []), (130, 10, 0, 1, 0, 0, []), (131, 10, 0, 2, 0, 0, []), (132, 3, 2, 5, 0, 0, []), (134, 3, 2, 9, 0, 0, []), (136, 10, 0, 1, 0, 0, []), (137, 3, 2, 17, 0, 0, []), (139, 3, 2, 9, 0, 0, []), (141, 10, 0, 1, 0, 0, []), (142, 10, 0, 2, 0, 0, []), (143, 10, 0, 0, 0, 0, []), (144, 1, 1, 0, 0, 0, []), (145, 32, 153, 5, 90, 0, []), (149, 0, 1, 0, 0, 1, []), (150, 19, 154, 0, 91, 0, []), (153, 0, 1, 0, 0, 0, []), (154, 48, 0, 0, 0, 0, []), (155, 3, 1, 3, 0, 0, []), (156, 3, 2, 5, 0, 0, []), (158, 3, 2, 7, 0, 0, []), (160, 3, 2, 9, 0, 0, []), (162, 3, 2, 11, 0, 0, []), (164, 3, 2, 13, 0, 0, []), (166, 40, 2, 6, 0, 0, []), (169, 6, 2, 19, 0, 0, []), (171, 3, 1, 3, 0, 0, []), (172, 3, 2, 5, 0, 0, []), (174, 3, 2, 7, 0, 0, []), (176, 3, 2, 9, 0, 0, []), (178, 3, 2, 15, 0, 0, []), (180, 3, 2, 17, 0, 0, []), (182, 40, 2, 6, 0, 0, []), (185, 6, 2, 21, 0, 0, []), (187, 3, 2, 11, 0, 0, []), (189, 3, 2, 13, 0, 0, []), (191, 3, 2, 15, 0, 0, []), (193, 3, 2, 17, 0, 0, []), (195, 3, 1, 3, 0, 0, []), (196, 3, 2, 5, 0, 0, []), (198, 40, 2, 6, 0, 0, []), (201, 6, 2, 23, 0, 0, []), (203, 3, 2, 11, 0, 0, []), (205, 3, 2, 13, 0, 0, []), (207, 3, 2, 15, 0, 0, []), (209, 3, 2, 17, 0, 0, []), (211, 3, 2, 7, 0, 0, []), (213, 3, 2, 9, 0, 0, []), (215, 40, 2, 6, 0, 0, []), (218, 6, 2, 25, 0, 0, []), (220, 3, 2, 19, 0, 0, []), (222, 40, 3, 1, 0, 0, []), (225, 3, 2, 21, 0, 0, []), (227, 40, 3, 1, 0, 0, []), (230, 9, 0, 2, 0, 0, []), (231, 17, 250, 3, 138, 0, []), (234, 3, 2, 23, 0, 0, []), (236, 40, 3, 1, 0, 0, []), (239, 3, 2, 25, 0, 0, []), (241, 40, 3, 1, 0, 0, []), (244, 9, 0, 2, 0, 0, []), (245, 17, 250, 3, 138, 0, []), (248, 0, 1, 0, 0, 1, []), (249, 48, 0, 0, 0, 0, []), (250, 49, 0, 0, 0, 0, []), (250, 3, 1, 3, 0, 0, []), (251, 3, 2, 5, 0, 0, []), (253, 3, 2, 7, 0, 0, []), (255, 3, 2, 9, 0, 0, []), (257, 3, 2, 11, 0, 0, []), (259, 3, 2, 13, 0, 0, []), (261, 40, 4, 6, 0, 0, []), (264, 17, 319, 1, 171, 0, []), (267, 3, 1, 3, 0, 0, []), (268, 3, 2, 5, 0, 0, []), (270, 3, 2, 7, 0, 0, []), (272, 3, 2, 9, 0, 0, []), (274, 3, 2, 15, 0, 0, []), (276, 3, 2, 17, 0, 0, []), (278, 40, 4, 6, 0, 0, []), (281, 17, 319, 1, 171, 0, []), (284, 3, 2, 11, 0, 0, []), (286, 3, 2, 13, 0, 0, []), (288, 3, 2, 15, 0, 0, []), (290, 3, 2, 17, 0, 0, []), (292, 3, 1, 3, 0, 0, []), (293, 3, 2, 5, 0, 0, []), (295, 40, 4, 6, 0, 0, []), (298, 17, 319, 1, 171, 0, []), (301, 3, 2, 11, 0, 0, []), (303, 3, 2, 13, 0, 0, []), (305, 3, 2, 15, 0, 0, []), (307, 3, 2, 17, 0, 0, []), (309, 3, 2, 7, 0, 0, []), (311, 3, 2, 9, 0, 0, []), (313, 40, 4, 6, 0, 0, []), (316, 17, 323, 0, 174, 0, []), (319, 49, 0, 0, 0, 0, []), (319, 0, 1, 0, 0, 1, []), (320, 19, 324, 0, 175, 0, []), (323, 0, 1, 0, 0, 0, []), (324, 48, 0, 0, 0, 0, [])]
set_option maxRecDepth 20000 in
theorem qX12_touchf : f_all yX12_touch YX12_touch pX12_touchf :=
  ⟨f_aload_n (n := 0) (e_dx DX12_touch_0 0 rfl) rfl,
  f_iload_n (n := 1) (e_dx DX12_touch_0 1 rfl) rfl,
  x_callV (e_dx DX12_touch_0 2 rfl) mwX12_px vwX12_px cX12_445 rfl,
  f_lstore_n (n := 3) (e_dx DX12_touch_0 3 rfl) rfl (by decide),
  f_aload_n (n := 0) (e_dx DX12_touch_0 4 rfl) rfl,
  f_iload_n (n := 1) (e_dx DX12_touch_0 5 rfl) rfl,
  x_callV (e_dx DX12_touch_0 6 rfl) mwX12_py vwX12_py cX12_449 rfl,
  f_lstore (e_dx DX12_touch_0 7 rfl) (by decide),
  f_aload_n (n := 0) (e_dx DX12_touch_0 8 rfl) rfl,
  f_iload_n (n := 1) (e_dx DX12_touch_0 9 rfl) rfl,
  f_iconst (e_dx DX12_touch_0 10 rfl) ⟨by decide, by decide⟩,
  f_iadd (e_dx DX12_touch_0 11 rfl),
  x_callV (e_dx DX12_touch_0 12 rfl) mwX12_px vwX12_px cX12_445 rfl,
  f_lstore (e_dx DX12_touch_0 13 rfl) (by decide),
  f_aload_n (n := 0) (e_dx DX12_touch_0 14 rfl) rfl,
  f_iload_n (n := 1) (e_dx DX12_touch_0 15 rfl) rfl,
  f_iconst (e_dx DX12_touch_0 16 rfl) ⟨by decide, by decide⟩,
  f_iadd (e_dx DX12_touch_0 17 rfl),
  x_callV (e_dx DX12_touch_0 18 rfl) mwX12_py vwX12_py cX12_449 rfl,
  f_lstore (e_dx DX12_touch_0 19 rfl) (by decide),
  f_aload_n (n := 0) (e_dx DX12_touch_0 20 rfl) rfl,
  f_iload_n (n := 2) (e_dx DX12_touch_0 21 rfl) rfl,
  x_callV (e_dx DX12_touch_0 22 rfl) mwX12_px vwX12_px cX12_445 rfl,
  f_lstore (e_dx DX12_touch_0 23 rfl) (by decide),
  f_aload_n (n := 0) (e_dx DX12_touch_0 24 rfl) rfl,
  f_iload_n (n := 2) (e_dx DX12_touch_0 25 rfl) rfl,
  x_callV (e_dx DX12_touch_0 26 rfl) mwX12_py vwX12_py cX12_449 rfl,
  f_lstore (e_dx DX12_touch_0 27 rfl) (by decide),
  f_aload_n (n := 0) (e_dx DX12_touch_0 28 rfl) rfl,
  f_iload_n (n := 2) (e_dx DX12_touch_0 29 rfl) rfl,
  f_iconst (e_dx DX12_touch_0 30 rfl) ⟨by decide, by decide⟩,
  f_iadd (e_dx DX12_touch_0 31 rfl),
  x_callV (e_dx DX12_touch_0 32 rfl) mwX12_px vwX12_px cX12_445 rfl,
  f_lstore (e_dx DX12_touch_0 33 rfl) (by decide),
  f_aload_n (n := 0) (e_dx DX12_touch_0 34 rfl) rfl,
  f_iload_n (n := 2) (e_dx DX12_touch_0 35 rfl) rfl,
  f_iconst (e_dx DX12_touch_0 36 rfl) ⟨by decide, by decide⟩,
  f_iadd (e_dx DX12_touch_0 37 rfl),
  x_callV (e_dx DX12_touch_0 38 rfl) mwX12_py vwX12_py cX12_449 rfl,
  f_lstore (e_dx DX12_touch_0 39 rfl) (by decide),
  f_iload_n (n := 2) (e_dx DX12_touch_1 0 rfl) rfl,
  f_iload_n (n := 1) (e_dx DX12_touch_1 1 rfl) rfl,
  f_iconst (e_dx DX12_touch_1 2 rfl) ⟨by decide, by decide⟩,
  f_iadd (e_dx DX12_touch_1 3 rfl),
  f_icmp_ne (e_dx DX12_touch_1 4 rfl) rfl,
  f_lload (e_dx DX12_touch_1 5 rfl),
  f_lload (e_dx DX12_touch_1 6 rfl),
  f_lif_ne (e_dx DX12_touch_1 7 rfl) (e_dx DX12_touch_1 8 rfl) rfl,
  f_lload (e_dx DX12_touch_1 9 rfl),
  f_lload (e_dx DX12_touch_1 10 rfl),
  f_lif_eq (e_dx DX12_touch_1 11 rfl) (e_dx DX12_touch_1 12 rfl) rfl,
  trivial,
  f_lload_n (n := 3) (e_dx DX12_touch_1 13 rfl) rfl,
  f_lload (e_dx DX12_touch_1 14 rfl),
  f_lif_ne (e_dx DX12_touch_1 15 rfl) (e_dx DX12_touch_1 16 rfl) rfl,
  f_lload (e_dx DX12_touch_1 17 rfl),
  f_lload (e_dx DX12_touch_1 18 rfl),
  f_lif_ne (e_dx DX12_touch_1 19 rfl) (e_dx DX12_touch_1 20 rfl) rfl,
  f_iconst (e_dx DX12_touch_1 21 rfl) ⟨by decide, by decide⟩,
  ⟨(e_dx DX12_touch_1 22 rfl), rfl⟩,
  trivial,
  f_lload_n (n := 3) (e_dx DX12_touch_1 23 rfl) rfl,
  f_lload (e_dx DX12_touch_1 24 rfl),
  f_lload (e_dx DX12_touch_1 25 rfl),
  f_lload (e_dx DX12_touch_1 26 rfl),
  f_lload (e_dx DX12_touch_1 27 rfl),
  f_lload (e_dx DX12_touch_1 28 rfl),
  x_callS (e_dx DX12_touch_1 29 rfl) mwX12_turn cX12_427 swX12_turn rfl,
  f_lconst (n := 0) (e_dx DX12_touch_1 30 rfl) rfl,
  f_lif_ne (e_dx DX12_touch_1 31 rfl) (e_dx DX12_touch_1 32 rfl) rfl,
  f_lload_n (n := 3) (e_dx DX12_touch_1 33 rfl) rfl,
  f_lload (e_dx DX12_touch_1 34 rfl),
  f_lsub (e_dx DX12_touch_1 35 rfl),
  f_lload (e_dx DX12_touch_1 36 rfl),
  f_lload (e_dx DX12_touch_1 37 rfl),
  f_lsub (e_dx DX12_touch_1 38 rfl),
  f_lmul (e_dx DX12_touch_1 39 rfl),
  f_lload (e_dx DX12_touch_2 0 rfl),
  f_lload (e_dx DX12_touch_2 1 rfl),
  f_lsub (e_dx DX12_touch_2 2 rfl),
  f_lload (e_dx DX12_touch_2 3 rfl),
  f_lload (e_dx DX12_touch_2 4 rfl),
  f_lsub (e_dx DX12_touch_2 5 rfl),
  f_lmul (e_dx DX12_touch_2 6 rfl),
  f_ladd (e_dx DX12_touch_2 7 rfl),
  f_lconst (n := 0) (e_dx DX12_touch_2 8 rfl) rfl,
  f_lif_le (e_dx DX12_touch_2 9 rfl) (e_dx DX12_touch_2 10 rfl) rfl,
  f_iconst (e_dx DX12_touch_2 11 rfl) ⟨by decide, by decide⟩,
  f_g19 (e_dx DX12_touch_2 12 rfl) rfl,
  f_iconst (e_dx DX12_touch_2 13 rfl) ⟨by decide, by decide⟩,
  ⟨(e_dx DX12_touch_2 14 rfl), rfl⟩,
  f_lload_n (n := 3) (e_dx DX12_touch_2 15 rfl) rfl,
  f_lload (e_dx DX12_touch_2 16 rfl),
  f_lload (e_dx DX12_touch_2 17 rfl),
  f_lload (e_dx DX12_touch_2 18 rfl),
  f_lload (e_dx DX12_touch_2 19 rfl),
  f_lload (e_dx DX12_touch_2 20 rfl),
  x_callS (e_dx DX12_touch_2 21 rfl) mwX12_turn cX12_427 swX12_turn rfl,
  f_lstore (e_dx DX12_touch_2 22 rfl) (by decide),
  f_lload_n (n := 3) (e_dx DX12_touch_2 23 rfl) rfl,
  f_lload (e_dx DX12_touch_2 24 rfl),
  f_lload (e_dx DX12_touch_2 25 rfl),
  f_lload (e_dx DX12_touch_2 26 rfl),
  f_lload (e_dx DX12_touch_2 27 rfl),
  f_lload (e_dx DX12_touch_2 28 rfl),
  x_callS (e_dx DX12_touch_2 29 rfl) mwX12_turn cX12_427 swX12_turn rfl,
  f_lstore (e_dx DX12_touch_2 30 rfl) (by decide),
  f_lload (e_dx DX12_touch_2 31 rfl),
  f_lload (e_dx DX12_touch_2 32 rfl),
  f_lload (e_dx DX12_touch_2 33 rfl),
  f_lload (e_dx DX12_touch_2 34 rfl),
  f_lload_n (n := 3) (e_dx DX12_touch_2 35 rfl) rfl,
  f_lload (e_dx DX12_touch_2 36 rfl),
  x_callS (e_dx DX12_touch_2 37 rfl) mwX12_turn cX12_427 swX12_turn rfl,
  f_lstore (e_dx DX12_touch_2 38 rfl) (by decide),
  f_lload (e_dx DX12_touch_2 39 rfl),
  f_lload (e_dx DX12_touch_3 0 rfl),
  f_lload (e_dx DX12_touch_3 1 rfl),
  f_lload (e_dx DX12_touch_3 2 rfl),
  f_lload (e_dx DX12_touch_3 3 rfl),
  f_lload (e_dx DX12_touch_3 4 rfl),
  x_callS (e_dx DX12_touch_3 5 rfl) mwX12_turn cX12_427 swX12_turn rfl,
  f_lstore (e_dx DX12_touch_3 6 rfl) (by decide),
  f_lload (e_dx DX12_touch_3 7 rfl),
  x_callS (e_dx DX12_touch_3 8 rfl) mwJ13_signum_95d88 cX12_474 swJ13_signum_95d88 rfl,
  f_lload (e_dx DX12_touch_3 9 rfl),
  x_callS (e_dx DX12_touch_3 10 rfl) mwJ13_signum_95d88 cX12_474 swJ13_signum_95d88 rfl,
  f_imul (e_dx DX12_touch_3 11 rfl),
  f_if_ge (e_dx DX12_touch_3 12 rfl) rfl,
  f_lload (e_dx DX12_touch_3 13 rfl),
  x_callS (e_dx DX12_touch_3 14 rfl) mwJ13_signum_95d88 cX12_474 swJ13_signum_95d88 rfl,
  f_lload (e_dx DX12_touch_3 15 rfl),
  x_callS (e_dx DX12_touch_3 16 rfl) mwJ13_signum_95d88 cX12_474 swJ13_signum_95d88 rfl,
  f_imul (e_dx DX12_touch_3 17 rfl),
  f_if_ge (e_dx DX12_touch_3 18 rfl) rfl,
  f_iconst (e_dx DX12_touch_3 19 rfl) ⟨by decide, by decide⟩,
  ⟨(e_dx DX12_touch_3 20 rfl), rfl⟩,
  trivial,
  f_lload_n (n := 3) (e_dx DX12_touch_3 21 rfl) rfl,
  f_lload (e_dx DX12_touch_3 22 rfl),
  f_lload (e_dx DX12_touch_3 23 rfl),
  f_lload (e_dx DX12_touch_3 24 rfl),
  f_lload (e_dx DX12_touch_3 25 rfl),
  f_lload (e_dx DX12_touch_3 26 rfl),
  x_callS (e_dx DX12_touch_3 27 rfl) mwX12_lies cX12_435 swX12_lies rfl,
  f_if_ne (e_dx DX12_touch_3 28 rfl) rfl,
  f_lload_n (n := 3) (e_dx DX12_touch_3 29 rfl) rfl,
  f_lload (e_dx DX12_touch_3 30 rfl),
  f_lload (e_dx DX12_touch_3 31 rfl),
  f_lload (e_dx DX12_touch_3 32 rfl),
  f_lload (e_dx DX12_touch_3 33 rfl),
  f_lload (e_dx DX12_touch_3 34 rfl),
  x_callS (e_dx DX12_touch_3 35 rfl) mwX12_lies cX12_435 swX12_lies rfl,
  f_if_ne (e_dx DX12_touch_3 36 rfl) rfl,
  f_lload (e_dx DX12_touch_3 37 rfl),
  f_lload (e_dx DX12_touch_3 38 rfl),
  f_lload (e_dx DX12_touch_3 39 rfl),
  f_lload (e_dx DX12_touch_4 0 rfl),
  f_lload_n (n := 3) (e_dx DX12_touch_4 1 rfl) rfl,
  f_lload (e_dx DX12_touch_4 2 rfl),
  x_callS (e_dx DX12_touch_4 3 rfl) mwX12_lies cX12_435 swX12_lies rfl,
  f_if_ne (e_dx DX12_touch_4 4 rfl) rfl,
  f_lload (e_dx DX12_touch_4 5 rfl),
  f_lload (e_dx DX12_touch_4 6 rfl),
  f_lload (e_dx DX12_touch_4 7 rfl),
  f_lload (e_dx DX12_touch_4 8 rfl),
  f_lload (e_dx DX12_touch_4 9 rfl),
  f_lload (e_dx DX12_touch_4 10 rfl),
  x_callS (e_dx DX12_touch_4 11 rfl) mwX12_lies cX12_435 swX12_lies rfl,
  f_if_eq (e_dx DX12_touch_4 12 rfl) rfl,
  trivial,
  f_iconst (e_dx DX12_touch_4 13 rfl) ⟨by decide, by decide⟩,
  f_g19 (e_dx DX12_touch_4 14 rfl) rfl,
  f_iconst (e_dx DX12_touch_4 15 rfl) ⟨by decide, by decide⟩,
  ⟨(e_dx DX12_touch_4 16 rfl), rfl⟩, trivial⟩
def lX12_touch (c_X12_px : Int → e_M → (Int → Prop) → Prop) (c_X12_py : Int → e_M → (Int → Prop) → Prop) (c_X12_turn : Int → Int → Int → Int → Int → Int → e_M → (Int → Prop) → Prop) (c_J13_signum_95d88 : Int → e_M → (Int → Prop) → Prop) (c_X12_lies : Int → Int → Int → Int → Int → Int → e_M → (Int → Prop) → Prop) : List (Nat × f_Wt) := [(0, f_wm [(4466, 12, 123), (1, 0, 0)] (fun ar M R => c_X12_px (f_vi (f_nth ar 1)) M (fun r => R (some (.inr (.inl r))) M))), (1, f_wm [(4466, 12, 123), (1, 0, 0)] (fun ar M R => c_X12_py (f_vi (f_nth ar 1)) M (fun r => R (some (.inr (.inl r))) M))), (2, f_wm [(2, 0, 0), (2, 0, 0), (2, 0, 0), (2, 0, 0), (2, 0, 0), (2, 0, 0)] (fun ar M R => c_X12_turn (f_vi (f_nth ar 0)) (f_vi (f_nth ar 1)) (f_vi (f_nth ar 2)) (f_vi (f_nth ar 3)) (f_vi (f_nth ar 4)) (f_vi (f_nth ar 5)) M (fun r => R (some (.inr (.inl r))) M))), (3, f_wm [(2, 0, 0)] (fun ar M R => c_J13_signum_95d88 (f_vi (f_nth ar 0)) M (fun r => R (some (.inl r)) M))), (4, f_wm [(2, 0, 0), (2, 0, 0), (2, 0, 0), (2, 0, 0), (2, 0, 0), (2, 0, 0)] (fun ar M R => c_X12_lies (f_vi (f_nth ar 0)) (f_vi (f_nth ar 1)) (f_vi (f_nth ar 2)) (f_vi (f_nth ar 3)) (f_vi (f_nth ar 4)) (f_vi (f_nth ar 5)) M (fun r => R (some (.inl r)) M)))]
set_option maxRecDepth 20000 in
theorem BX12_touch_86 {sh : Nat → Nat × Nat} {t : Nat} {rm : Nat × Nat × Nat} {cs : Nat × Nat} {R : f_Rt} {c_X12_px : Int → e_M → (Int → Prop) → Prop} {c_X12_py : Int → e_M → (Int → Prop) → Prop} {c_X12_turn : Int → Int → Int → Int → Int → Int → e_M → (Int → Prop) → Prop} {c_J13_signum_95d88 : Int → e_M → (Int → Prop) → Prop} {c_X12_lies : Int → Int → Int → Int → Int → Int → e_M → (Int → Prop) → Prop} {k103 : Int → Int → Int → Int → Int → Int → Prop} {x3 : Int} {x5 : Int} {x7 : Int} {x9 : Int} {x15 : Int} {x17 : Int} {M : e_M} (C : f_Hy sh t yX12_touch rm cs 6 (lX12_touch c_X12_px c_X12_py c_X12_turn c_J13_signum_95d88 c_X12_lies) R) (h103 : ∀ (x3 : Int) (x5 : Int) (x7 : Int) (x9 : Int) (x15 : Int) (x17 : Int), k103 x3 x5 x7 x9 x15 x17 → f_E sh t YX12_touch rm cs (f_Q sh t R) 103 [.inr (.inr (.inr ())), .inr (.inr (.inr ())), .inr (.inr (.inr ())), .inr (.inl x3), .inr (.inr (.inr ())), .inr (.inl x5), .inr (.inr (.inr ())), .inr (.inl x7), .inr (.inr (.inr ())), .inr (.inl x9), .inr (.inr (.inr ())), .inr (.inr (.inr ())), .inr (.inr (.inr ())), .inr (.inr (.inr ())), .inr (.inr (.inr ())), .inr (.inl x15), .inr (.inr (.inr ())), .inr (.inl x17), .inr (.inr (.inr ())), .inr (.inr (.inr ())), .inr (.inr (.inr ())), .inr (.inr (.inr ())), .inr (.inr (.inr ())), .inr (.inr (.inr ())), .inr (.inr (.inr ())), .inr (.inr (.inr ())), .inr (.inr (.inr ()))] [] M) (h : VX12_touch_86 c_X12_px c_X12_py c_X12_turn c_J13_signum_95d88 c_X12_lies k103 (fun r => R (some (.inl r)) M) x3 x5 x7 x9 x15 x17 M) : f_E sh t YX12_touch rm cs (f_Q sh t R) 86 [.inr (.inr (.inr ())), .inr (.inr (.inr ())), .inr (.inr (.inr ())), .inr (.inl x3), .inr (.inr (.inr ())), .inr (.inl x5), .inr (.inr (.inr ())), .inr (.inl x7), .inr (.inr (.inr ())), .inr (.inl x9), .inr (.inr (.inr ())), .inr (.inr (.inr ())), .inr (.inr (.inr ())), .inr (.inr (.inr ())), .inr (.inr (.inr ())), .inr (.inl x15), .inr (.inr (.inr ())), .inr (.inl x17), .inr (.inr (.inr ())), .inr (.inr (.inr ())), .inr (.inr (.inr ())), .inr (.inr (.inr ())), .inr (.inr (.inr ())), .inr (.inr (.inr ())), .inr (.inr (.inr ())), .inr (.inr (.inr ())), .inr (.inr (.inr ()))] [] M := by
  rw [f_kk6 M k103] at h
  exact f_go (KC := f_kc [(103, f_pl [(0, 0, 0), (0, 0, 0), (0, 0, 0), (2, 0, 0), (0, 0, 0), (2, 0, 0), (0, 0, 0), (2, 0, 0), (0, 0, 0), (2, 0, 0), (0, 0, 0), (0, 0, 0), (0, 0, 0), (0, 0, 0), (0, 0, 0), (2, 0, 0), (0, 0, 0), (2, 0, 0), (0, 0, 0), (0, 0, 0), (0, 0, 0), (0, 0, 0), (0, 0, 0), (0, 0, 0), (0, 0, 0), (0, 0, 0), (0, 0, 0)] [] (fun ls st M2 => M2 = M ∧ (k103 (f_vi (f_nth ls 3)) (f_vi (f_nth ls 5)) (f_vi (f_nth ls 7)) (f_vi (f_nth ls 9)) (f_vi (f_nth ls 15)) (f_vi (f_nth ls 17)))))]) C qX12_touchf (f_kc_cons (f_pl_ok rfl (fun ls st M2 ⟨e, hh⟩ => by subst e; exact h103 _ _ _ _ _ _ hh)) f_kc_nil) 177 52 h
set_option maxRecDepth 20000 in
theorem BX12_touch_103 {sh : Nat → Nat × Nat} {t : Nat} {rm : Nat × Nat × Nat} {cs : Nat × Nat} {R : f_Rt} {c_X12_px : Int → e_M → (Int → Prop) → Prop} {c_X12_py : Int → e_M → (Int → Prop) → Prop} {c_X12_turn : Int → Int → Int → Int → Int → Int → e_M → (Int → Prop) → Prop} {c_J13_signum_95d88 : Int → e_M → (Int → Prop) → Prop} {c_X12_lies : Int → Int → Int → Int → Int → Int → e_M → (Int → Prop) → Prop} {x3 : Int} {x5 : Int} {x7 : Int} {x9 : Int} {x15 : Int} {x17 : Int} {M : e_M} (C : f_Hy sh t yX12_touch rm cs 6 (lX12_touch c_X12_px c_X12_py c_X12_turn c_J13_signum_95d88 c_X12_lies) R) (h : VX12_touch_103 c_X12_px c_X12_py c_X12_turn c_J13_signum_95d88 c_X12_lies (fun r => R (some (.inl r)) M) x3 x5 x7 x9 x15 x17 M) : f_E sh t YX12_touch rm cs (f_Q sh t R) 103 [.inr (.inr (.inr ())), .inr (.inr (.inr ())), .inr (.inr (.inr ())), .inr (.inl x3), .inr (.inr (.inr ())), .inr (.inl x5), .inr (.inr (.inr ())), .inr (.inl x7), .inr (.inr (.inr ())), .inr (.inl x9), .inr (.inr (.inr ())), .inr (.inr (.inr ())), .inr (.inr (.inr ())), .inr (.inr (.inr ())), .inr (.inr (.inr ())), .inr (.inl x15), .inr (.inr (.inr ())), .inr (.inl x17), .inr (.inr (.inr ())), .inr (.inr (.inr ())), .inr (.inr (.inr ())), .inr (.inr (.inr ())), .inr (.inr (.inr ())), .inr (.inr (.inr ())), .inr (.inr (.inr ())), .inr (.inr (.inr ())), .inr (.inr (.inr ()))] [] M :=
  f_go (KC := f_kc []) C qX12_touchf f_kc_nil 177 61 h
set_option maxRecDepth 20000 in
theorem BX12_touch_250 {sh : Nat → Nat × Nat} {t : Nat} {rm : Nat × Nat × Nat} {cs : Nat × Nat} {R : f_Rt} {c_X12_px : Int → e_M → (Int → Prop) → Prop} {c_X12_py : Int → e_M → (Int → Prop) → Prop} {c_X12_turn : Int → Int → Int → Int → Int → Int → e_M → (Int → Prop) → Prop} {c_J13_signum_95d88 : Int → e_M → (Int → Prop) → Prop} {c_X12_lies : Int → Int → Int → Int → Int → Int → e_M → (Int → Prop) → Prop} {k319 : Prop} {x3 : Int} {x5 : Int} {x7 : Int} {x9 : Int} {x11 : Int} {x13 : Int} {x15 : Int} {x17 : Int} {M : e_M} (C : f_Hy sh t yX12_touch rm cs 6 (lX12_touch c_X12_px c_X12_py c_X12_turn c_J13_signum_95d88 c_X12_lies) R) (h319 : k319 → f_E sh t YX12_touch rm cs (f_Q sh t R) 319 [.inr (.inr (.inr ())), .inr (.inr (.inr ())), .inr (.inr (.inr ())), .inr (.inr (.inr ())), .inr (.inr (.inr ())), .inr (.inr (.inr ())), .inr (.inr (.inr ())), .inr (.inr (.inr ())), .inr (.inr (.inr ())), .inr (.inr (.inr ())), .inr (.inr (.inr ())), .inr (.inr (.inr ())), .inr (.inr (.inr ())), .inr (.inr (.inr ())), .inr (.inr (.inr ())), .inr (.inr (.inr ())), .inr (.inr (.inr ())), .inr (.inr (.inr ())), .inr (.inr (.inr ())), .inr (.inr (.inr ())), .inr (.inr (.inr ())), .inr (.inr (.inr ())), .inr (.inr (.inr ())), .inr (.inr (.inr ())), .inr (.inr (.inr ())), .inr (.inr (.inr ())), .inr (.inr (.inr ()))] [] M) (h : VX12_touch_250 c_X12_px c_X12_py c_X12_turn c_J13_signum_95d88 c_X12_lies k319 (fun r => R (some (.inl r)) M) x3 x5 x7 x9 x11 x13 x15 x17 M) : f_E sh t YX12_touch rm cs (f_Q sh t R) 250 [.inr (.inr (.inr ())), .inr (.inr (.inr ())), .inr (.inr (.inr ())), .inr (.inl x3), .inr (.inr (.inr ())), .inr (.inl x5), .inr (.inr (.inr ())), .inr (.inl x7), .inr (.inr (.inr ())), .inr (.inl x9), .inr (.inr (.inr ())), .inr (.inl x11), .inr (.inr (.inr ())), .inr (.inl x13), .inr (.inr (.inr ())), .inr (.inl x15), .inr (.inr (.inr ())), .inr (.inl x17), .inr (.inr (.inr ())), .inr (.inr (.inr ())), .inr (.inr (.inr ())), .inr (.inr (.inr ())), .inr (.inr (.inr ())), .inr (.inr (.inr ())), .inr (.inr (.inr ())), .inr (.inr (.inr ())), .inr (.inr (.inr ()))] [] M := by
  rw [f_kk0 M k319] at h
  exact f_go (KC := f_kc [(319, f_pl [(0, 0, 0), (0, 0, 0), (0, 0, 0), (0, 0, 0), (0, 0, 0), (0, 0, 0), (0, 0, 0), (0, 0, 0), (0, 0, 0), (0, 0, 0), (0, 0, 0), (0, 0, 0), (0, 0, 0), (0, 0, 0), (0, 0, 0), (0, 0, 0), (0, 0, 0), (0, 0, 0), (0, 0, 0), (0, 0, 0), (0, 0, 0), (0, 0, 0), (0, 0, 0), (0, 0, 0), (0, 0, 0), (0, 0, 0), (0, 0, 0)] [] (fun ls st M2 => M2 = M ∧ (k319)))]) C qX12_touchf (f_kc_cons (f_pl_ok rfl (fun ls st M2 ⟨e, hh⟩ => by subst e; exact h319  hh)) f_kc_nil) 177 138 h
set_option maxRecDepth 20000 in
theorem BX12_touch_319 {sh : Nat → Nat × Nat} {t : Nat} {rm : Nat × Nat × Nat} {cs : Nat × Nat} {R : f_Rt} {c_X12_px : Int → e_M → (Int → Prop) → Prop} {c_X12_py : Int → e_M → (Int → Prop) → Prop} {c_X12_turn : Int → Int → Int → Int → Int → Int → e_M → (Int → Prop) → Prop} {c_J13_signum_95d88 : Int → e_M → (Int → Prop) → Prop} {c_X12_lies : Int → Int → Int → Int → Int → Int → e_M → (Int → Prop) → Prop} {M : e_M} (C : f_Hy sh t yX12_touch rm cs 6 (lX12_touch c_X12_px c_X12_py c_X12_turn c_J13_signum_95d88 c_X12_lies) R) (h : VX12_touch_319 c_X12_px c_X12_py c_X12_turn c_J13_signum_95d88 c_X12_lies (fun r => R (some (.inl r)) M) M) : f_E sh t YX12_touch rm cs (f_Q sh t R) 319 [.inr (.inr (.inr ())), .inr (.inr (.inr ())), .inr (.inr (.inr ())), .inr (.inr (.inr ())), .inr (.inr (.inr ())), .inr (.inr (.inr ())), .inr (.inr (.inr ())), .inr (.inr (.inr ())), .inr (.inr (.inr ())), .inr (.inr (.inr ())), .inr (.inr (.inr ())), .inr (.inr (.inr ())), .inr (.inr (.inr ())), .inr (.inr (.inr ())), .inr (.inr (.inr ())), .inr (.inr (.inr ())), .inr (.inr (.inr ())), .inr (.inr (.inr ())), .inr (.inr (.inr ())), .inr (.inr (.inr ())), .inr (.inr (.inr ())), .inr (.inr (.inr ())), .inr (.inr (.inr ())), .inr (.inr (.inr ())), .inr (.inr (.inr ())), .inr (.inr (.inr ())), .inr (.inr (.inr ()))] [] M :=
  f_go (KC := f_kc []) C qX12_touchf f_kc_nil 177 171 h
set_option maxRecDepth 20000 in
theorem BX12_touch {sh : Nat → Nat × Nat} {t : Nat} {rm : Nat × Nat × Nat} {cs : Nat × Nat} {R : f_Rt} {c_X12_px : Int → e_M → (Int → Prop) → Prop} {c_X12_py : Int → e_M → (Int → Prop) → Prop} {c_X12_turn : Int → Int → Int → Int → Int → Int → e_M → (Int → Prop) → Prop} {c_J13_signum_95d88 : Int → e_M → (Int → Prop) → Prop} {c_X12_lies : Int → Int → Int → Int → Int → Int → e_M → (Int → Prop) → Prop} {k250 : Int → Int → Int → Int → Int → Int → Int → Int → Prop} {k86 : Int → Int → Int → Int → Int → Int → Prop} {x1 : Int} {x2 : Int} {M : e_M} (C : f_Hy sh t yX12_touch rm cs 6 (lX12_touch c_X12_px c_X12_py c_X12_turn c_J13_signum_95d88 c_X12_lies) R) (h250 : ∀ (x3 : Int) (x5 : Int) (x7 : Int) (x9 : Int) (x11 : Int) (x13 : Int) (x15 : Int) (x17 : Int), k250 x3 x5 x7 x9 x11 x13 x15 x17 → f_E sh t YX12_touch rm cs (f_Q sh t R) 250 [.inr (.inr (.inr ())), .inr (.inr (.inr ())), .inr (.inr (.inr ())), .inr (.inl x3), .inr (.inr (.inr ())), .inr (.inl x5), .inr (.inr (.inr ())), .inr (.inl x7), .inr (.inr (.inr ())), .inr (.inl x9), .inr (.inr (.inr ())), .inr (.inl x11), .inr (.inr (.inr ())), .inr (.inl x13), .inr (.inr (.inr ())), .inr (.inl x15), .inr (.inr (.inr ())), .inr (.inl x17), .inr (.inr (.inr ())), .inr (.inr (.inr ())), .inr (.inr (.inr ())), .inr (.inr (.inr ())), .inr (.inr (.inr ())), .inr (.inr (.inr ())), .inr (.inr (.inr ())), .inr (.inr (.inr ())), .inr (.inr (.inr ()))] [] M) (h86 : ∀ (x3 : Int) (x5 : Int) (x7 : Int) (x9 : Int) (x15 : Int) (x17 : Int), k86 x3 x5 x7 x9 x15 x17 → f_E sh t YX12_touch rm cs (f_Q sh t R) 86 [.inr (.inr (.inr ())), .inr (.inr (.inr ())), .inr (.inr (.inr ())), .inr (.inl x3), .inr (.inr (.inr ())), .inr (.inl x5), .inr (.inr (.inr ())), .inr (.inl x7), .inr (.inr (.inr ())), .inr (.inl x9), .inr (.inr (.inr ())), .inr (.inr (.inr ())), .inr (.inr (.inr ())), .inr (.inr (.inr ())), .inr (.inr (.inr ())), .inr (.inl x15), .inr (.inr (.inr ())), .inr (.inl x17), .inr (.inr (.inr ())), .inr (.inr (.inr ())), .inr (.inr (.inr ())), .inr (.inr (.inr ())), .inr (.inr (.inr ())), .inr (.inr (.inr ())), .inr (.inr (.inr ())), .inr (.inr (.inr ())), .inr (.inr (.inr ()))] [] M) (h : VX12_touch c_X12_px c_X12_py c_X12_turn c_J13_signum_95d88 c_X12_lies k250 k86 (fun r => R (some (.inl r)) M) x1 x2 M) : f_E sh t YX12_touch rm cs (f_Q sh t R) 0 [.inr (.inr (.inl (12, 123, 4456))), .inl x1, .inl x2, .inr (.inr (.inr ())), .inr (.inr (.inr ())), .inr (.inr (.inr ())), .inr (.inr (.inr ())), .inr (.inr (.inr ())), .inr (.inr (.inr ())), .inr (.inr (.inr ())), .inr (.inr (.inr ())), .inr (.inr (.inr ())), .inr (.inr (.inr ())), .inr (.inr (.inr ())), .inr (.inr (.inr ())), .inr (.inr (.inr ())), .inr (.inr (.inr ())), .inr (.inr (.inr ())), .inr (.inr (.inr ())), .inr (.inr (.inr ())), .inr (.inr (.inr ())), .inr (.inr (.inr ())), .inr (.inr (.inr ())), .inr (.inr (.inr ())), .inr (.inr (.inr ())), .inr (.inr (.inr ())), .inr (.inr (.inr ()))] [] M := by
  rw [f_kk8 M k250] at h
  rw [f_kk6 M k86] at h
  exact f_go (KC := f_kc [(250, f_pl [(0, 0, 0), (0, 0, 0), (0, 0, 0), (2, 0, 0), (0, 0, 0), (2, 0, 0), (0, 0, 0), (2, 0, 0), (0, 0, 0), (2, 0, 0), (0, 0, 0), (2, 0, 0), (0, 0, 0), (2, 0, 0), (0, 0, 0), (2, 0, 0), (0, 0, 0), (2, 0, 0), (0, 0, 0), (0, 0, 0), (0, 0, 0), (0, 0, 0), (0, 0, 0), (0, 0, 0), (0, 0, 0), (0, 0, 0), (0, 0, 0)] [] (fun ls st M2 => M2 = M ∧ (k250 (f_vi (f_nth ls 3)) (f_vi (f_nth ls 5)) (f_vi (f_nth ls 7)) (f_vi (f_nth ls 9)) (f_vi (f_nth ls 11)) (f_vi (f_nth ls 13)) (f_vi (f_nth ls 15)) (f_vi (f_nth ls 17))))), (86, f_pl [(0, 0, 0), (0, 0, 0), (0, 0, 0), (2, 0, 0), (0, 0, 0), (2, 0, 0), (0, 0, 0), (2, 0, 0), (0, 0, 0), (2, 0, 0), (0, 0, 0), (0, 0, 0), (0, 0, 0), (0, 0, 0), (0, 0, 0), (2, 0, 0), (0, 0, 0), (2, 0, 0), (0, 0, 0), (0, 0, 0), (0, 0, 0), (0, 0, 0), (0, 0, 0), (0, 0, 0), (0, 0, 0), (0, 0, 0), (0, 0, 0)] [] (fun ls st M2 => M2 = M ∧ (k86 (f_vi (f_nth ls 3)) (f_vi (f_nth ls 5)) (f_vi (f_nth ls 7)) (f_vi (f_nth ls 9)) (f_vi (f_nth ls 15)) (f_vi (f_nth ls 17)))))]) C qX12_touchf (f_kc_cons (f_pl_ok rfl (fun ls st M2 ⟨e, hh⟩ => by subst e; exact h250 _ _ _ _ _ _ _ _ hh)) (f_kc_cons (f_pl_ok rfl (fun ls st M2 ⟨e, hh⟩ => by subst e; exact h86 _ _ _ _ _ _ hh)) f_kc_nil)) 177 0 h
def WX12_touch_103 (M : e_M) (Q : Int → Prop) (x3 : Int) (x5 : Int) (x7 : Int) (x9 : Int) (x15 : Int) (x17 : Int) : Prop :=
  VX12_touch_103 WX12_px WX12_py WX12_turn WJ13_signum_95d88 WX12_lies Q x3 x5 x7 x9 x15 x17 M
def WX12_touch_86 (M : e_M) (Q : Int → Prop) (x3 : Int) (x5 : Int) (x7 : Int) (x9 : Int) (x15 : Int) (x17 : Int) : Prop :=
  VX12_touch_86 WX12_px WX12_py WX12_turn WJ13_signum_95d88 WX12_lies (WX12_touch_103 M Q) Q x3 x5 x7 x9 x15 x17 M
def WX12_touch_319 (M : e_M) (Q : Int → Prop) : Prop :=
  VX12_touch_319 WX12_px WX12_py WX12_turn WJ13_signum_95d88 WX12_lies Q M
def WX12_touch_250 (M : e_M) (Q : Int → Prop) (x3 : Int) (x5 : Int) (x7 : Int) (x9 : Int) (x11 : Int) (x13 : Int) (x15 : Int) (x17 : Int) : Prop :=
  VX12_touch_250 WX12_px WX12_py WX12_turn WJ13_signum_95d88 WX12_lies (WX12_touch_319 M Q) Q x3 x5 x7 x9 x11 x13 x15 x17 M
def WX12_touch (x1 : Int) (x2 : Int) (M : e_M) (Q : Int → Prop) : Prop :=
  VX12_touch WX12_px WX12_py WX12_turn WJ13_signum_95d88 WX12_lies (WX12_touch_250 M Q) (WX12_touch_86 M Q) Q x1 x2 M
theorem PX12_touch_103 {sh : Nat → Nat × Nat} {t : Nat} {rm : Nat × Nat × Nat} {cs : Nat × Nat} {R : f_Rt} {x3 : Int} {x5 : Int} {x7 : Int} {x9 : Int} {x15 : Int} {x17 : Int} {M : e_M} (C : f_Hy sh t yX12_touch rm cs 6 (lX12_touch WX12_px WX12_py WX12_turn WJ13_signum_95d88 WX12_lies) R) (h : WX12_touch_103 M (fun r => R (some (.inl r)) M) x3 x5 x7 x9 x15 x17) : f_E sh t YX12_touch rm cs (f_Q sh t R) 103 [.inr (.inr (.inr ())), .inr (.inr (.inr ())), .inr (.inr (.inr ())), .inr (.inl x3), .inr (.inr (.inr ())), .inr (.inl x5), .inr (.inr (.inr ())), .inr (.inl x7), .inr (.inr (.inr ())), .inr (.inl x9), .inr (.inr (.inr ())), .inr (.inr (.inr ())), .inr (.inr (.inr ())), .inr (.inr (.inr ())), .inr (.inr (.inr ())), .inr (.inl x15), .inr (.inr (.inr ())), .inr (.inl x17), .inr (.inr (.inr ())), .inr (.inr (.inr ())), .inr (.inr (.inr ())), .inr (.inr (.inr ())), .inr (.inr (.inr ())), .inr (.inr (.inr ())), .inr (.inr (.inr ())), .inr (.inr (.inr ())), .inr (.inr (.inr ()))] [] M :=
  BX12_touch_103 C h
theorem PX12_touch_86 {sh : Nat → Nat × Nat} {t : Nat} {rm : Nat × Nat × Nat} {cs : Nat × Nat} {R : f_Rt} {x3 : Int} {x5 : Int} {x7 : Int} {x9 : Int} {x15 : Int} {x17 : Int} {M : e_M} (C : f_Hy sh t yX12_touch rm cs 6 (lX12_touch WX12_px WX12_py WX12_turn WJ13_signum_95d88 WX12_lies) R) (h : WX12_touch_86 M (fun r => R (some (.inl r)) M) x3 x5 x7 x9 x15 x17) : f_E sh t YX12_touch rm cs (f_Q sh t R) 86 [.inr (.inr (.inr ())), .inr (.inr (.inr ())), .inr (.inr (.inr ())), .inr (.inl x3), .inr (.inr (.inr ())), .inr (.inl x5), .inr (.inr (.inr ())), .inr (.inl x7), .inr (.inr (.inr ())), .inr (.inl x9), .inr (.inr (.inr ())), .inr (.inr (.inr ())), .inr (.inr (.inr ())), .inr (.inr (.inr ())), .inr (.inr (.inr ())), .inr (.inl x15), .inr (.inr (.inr ())), .inr (.inl x17), .inr (.inr (.inr ())), .inr (.inr (.inr ())), .inr (.inr (.inr ())), .inr (.inr (.inr ())), .inr (.inr (.inr ())), .inr (.inr (.inr ())), .inr (.inr (.inr ())), .inr (.inr (.inr ())), .inr (.inr (.inr ()))] [] M :=
  BX12_touch_86 C (fun x3 x5 x7 x9 x15 x17 h => PX12_touch_103 C h) h
theorem PX12_touch_319 {sh : Nat → Nat × Nat} {t : Nat} {rm : Nat × Nat × Nat} {cs : Nat × Nat} {R : f_Rt} {M : e_M} (C : f_Hy sh t yX12_touch rm cs 6 (lX12_touch WX12_px WX12_py WX12_turn WJ13_signum_95d88 WX12_lies) R) (h : WX12_touch_319 M (fun r => R (some (.inl r)) M)) : f_E sh t YX12_touch rm cs (f_Q sh t R) 319 [.inr (.inr (.inr ())), .inr (.inr (.inr ())), .inr (.inr (.inr ())), .inr (.inr (.inr ())), .inr (.inr (.inr ())), .inr (.inr (.inr ())), .inr (.inr (.inr ())), .inr (.inr (.inr ())), .inr (.inr (.inr ())), .inr (.inr (.inr ())), .inr (.inr (.inr ())), .inr (.inr (.inr ())), .inr (.inr (.inr ())), .inr (.inr (.inr ())), .inr (.inr (.inr ())), .inr (.inr (.inr ())), .inr (.inr (.inr ())), .inr (.inr (.inr ())), .inr (.inr (.inr ())), .inr (.inr (.inr ())), .inr (.inr (.inr ())), .inr (.inr (.inr ())), .inr (.inr (.inr ())), .inr (.inr (.inr ())), .inr (.inr (.inr ())), .inr (.inr (.inr ())), .inr (.inr (.inr ()))] [] M :=
  BX12_touch_319 C h
theorem PX12_touch_250 {sh : Nat → Nat × Nat} {t : Nat} {rm : Nat × Nat × Nat} {cs : Nat × Nat} {R : f_Rt} {x3 : Int} {x5 : Int} {x7 : Int} {x9 : Int} {x11 : Int} {x13 : Int} {x15 : Int} {x17 : Int} {M : e_M} (C : f_Hy sh t yX12_touch rm cs 6 (lX12_touch WX12_px WX12_py WX12_turn WJ13_signum_95d88 WX12_lies) R) (h : WX12_touch_250 M (fun r => R (some (.inl r)) M) x3 x5 x7 x9 x11 x13 x15 x17) : f_E sh t YX12_touch rm cs (f_Q sh t R) 250 [.inr (.inr (.inr ())), .inr (.inr (.inr ())), .inr (.inr (.inr ())), .inr (.inl x3), .inr (.inr (.inr ())), .inr (.inl x5), .inr (.inr (.inr ())), .inr (.inl x7), .inr (.inr (.inr ())), .inr (.inl x9), .inr (.inr (.inr ())), .inr (.inl x11), .inr (.inr (.inr ())), .inr (.inl x13), .inr (.inr (.inr ())), .inr (.inl x15), .inr (.inr (.inr ())), .inr (.inl x17), .inr (.inr (.inr ())), .inr (.inr (.inr ())), .inr (.inr (.inr ())), .inr (.inr (.inr ())), .inr (.inr (.inr ())), .inr (.inr (.inr ())), .inr (.inr (.inr ())), .inr (.inr (.inr ())), .inr (.inr (.inr ()))] [] M :=
  BX12_touch_250 C (fun h => PX12_touch_319 C h) h
theorem PX12_touch {sh : Nat → Nat × Nat} {t : Nat} {rm : Nat × Nat × Nat} {cs : Nat × Nat} {R : f_Rt} {x1 : Int} {x2 : Int} {M : e_M} (C : f_Hy sh t yX12_touch rm cs 6 (lX12_touch WX12_px WX12_py WX12_turn WJ13_signum_95d88 WX12_lies) R) (h : WX12_touch x1 x2 M (fun r => R (some (.inl r)) M)) : f_E sh t YX12_touch rm cs (f_Q sh t R) 0 [.inr (.inr (.inl (12, 123, 4456))), .inl x1, .inl x2, .inr (.inr (.inr ())), .inr (.inr (.inr ())), .inr (.inr (.inr ())), .inr (.inr (.inr ())), .inr (.inr (.inr ())), .inr (.inr (.inr ())), .inr (.inr (.inr ())), .inr (.inr (.inr ())), .inr (.inr (.inr ())), .inr (.inr (.inr ())), .inr (.inr (.inr ())), .inr (.inr (.inr ())), .inr (.inr (.inr ())), .inr (.inr (.inr ())), .inr (.inr (.inr ())), .inr (.inr (.inr ())), .inr (.inr (.inr ())), .inr (.inr (.inr ())), .inr (.inr (.inr ())), .inr (.inr (.inr ())), .inr (.inr (.inr ())), .inr (.inr (.inr ())), .inr (.inr (.inr ())), .inr (.inr (.inr ()))] [] M :=
  BX12_touch C (fun x3 x5 x7 x9 x11 x13 x15 x17 h => PX12_touch_250 C h) (fun x3 x5 x7 x9 x15 x17 h => PX12_touch_86 C h) h
def wX12_touch : f_Wt := f_wm [(4466, 12, 123), (1, 0, 0), (1, 0, 0)] (fun ar M R => WX12_touch (f_vi (f_nth ar 1)) (f_vi (f_nth ar 2)) M (fun r => R (some (.inl r)) M))
theorem TX12_touch {sh : Nat → Nat × Nat} {t : Nat} : f_Mt sh t YX12_touch 6 (wX12_touch) :=
  f_Mt_of (k := 24) (Nat.le_of_ble_eq_true rfl) rfl rfl (fun ar M R rm cs h1 h2 h3 hX h => PX12_touch ⟨Nat.le_of_ble_eq_true rfl, h1, h2, h3, ⟨(f_Mt.up (Nat.le_of_ble_eq_true rfl) TX12_px), (f_Mt.up (Nat.le_of_ble_eq_true rfl) TX12_py), (f_Mt.up (Nat.le_of_ble_eq_true rfl) TX12_turn), (f_Mt.up (Nat.le_of_ble_eq_true rfl) TJ13_signum_95d88), (f_Mt.up (Nat.le_of_ble_eq_true rfl) TX12_lies), trivial⟩, hX⟩ h)
def VX12_sideOf_3 (c_X12_lies : Int → Int → Int → Int → Int → Int → e_M → (Int → Prop) → Prop) (k94 : Int → Int → Int → Int → Int → Prop) (Q : Int → Prop) (x1 : Int) (x2 : Int) (x3 : Int) (x5 : Int) (x7 : Int) (M : e_M) : Prop :=
  ((x2 ≤ x7 → (Q (-1))) ∧ (x7 < x2 → (¬ x2 = 0 ∧ (∀ y1 : Int, y1 = e_w32 (x1 + ((e_w32 (x7 + 1)).tmod x2)) → ((0 ≤ (e_w32 (x1 + x7)) ∧ (e_w32 (x1 + x7)) < 4800) ∧ ((0 ≤ (e_w32 (x1 + x7)) ∧ (e_w32 (x1 + x7)) < 4800) ∧ ((0 ≤ y1 ∧ y1 < 4800) ∧ ((0 ≤ y1 ∧ y1 < 4800) ∧ (c_X12_lies (M 4480 ((e_w32 (x1 + x7)).toNat)) (M 4481 ((e_w32 (x1 + x7)).toNat)) (M 4480 (y1.toNat)) (M 4481 (y1.toNat)) x3 x5 M (fun r2 => ((r2 = 0 → (k94 x1 x2 x3 x5 x7)) ∧ (¬ r2 = 0 → ((0 ≤ y1 ∧ y1 < 4800) ∧ ((¬ (M 4480 (y1.toNat)) = x3 → (Q x7)) ∧ ((M 4480 (y1.toNat)) = x3 → ((0 ≤ y1 ∧ y1 < 4800) ∧ (((M 4481 (y1.toNat)) = x5 → (k94 x1 x2 x3 x5 x7)) ∧ (¬ (M 4481 (y1.toNat)) = x5 → (Q x7)))))))))))))))))))
def VX12_sideOf_94 (c_X12_lies : Int → Int → Int → Int → Int → Int → e_M → (Int → Prop) → Prop) (k3 : Int → Int → Int → Int → Int → Prop) (Q : Int → Prop) (x1 : Int) (x2 : Int) (x3 : Int) (x5 : Int) (x7 : Int) (M : e_M) : Prop :=
  (k3 x1 x2 x3 x5 (e_w32 (x7 + 1)))
def VX12_sideOf (c_X12_lies : Int → Int → Int → Int → Int → Int → e_M → (Int → Prop) → Prop) (k3 : Int → Int → Int → Int → Int → Prop) (Q : Int → Prop) (x1 : Int) (x2 : Int) (x3 : Int) (x5 : Int) (M : e_M) : Prop :=
  (k3 x1 x2 x3 x5 0)
def yX12_sideOf (i : Nat) : e_Y := x_get YX12_sideOf [YX12_lies] i
def pX12_sideOff : List x_I := [(0, 0, 1, 0, 0, 0, []), (1, 5, 2, 7, 0, 0, []), (3, 49, 0, 0, 0, 0, []), (3, 2, 2, 7, 0, 0, []), (5, 2, 1, 2, 0, 0, []), (6, 18, 100, 3, 63, 0, []), (9, 2, 1, 1, 0, 0, []), (10, 2, 2, 7, 0, 0, []), (12, 0, 1, 0, 0, 1, []), (13, 9, 0, 0, 0, 0, []), (14, 2, 1, 2, 0, 0, []), (15, 9, 0, 4, 0, 0, []), (16, 9, 0, 0, 0, 0, []), (17, 33, 0, 0, 0, 0, []), (17, 5, 2, 8, 0, 0, []), (19, 4, 1, 0, 0, 0, []), (20, 25, 12, 40, 4, 0, [(0, 20, 4800), (0, 1, 24)]), (23, 2, 1, 1, 0, 0, []), (24, 2, 2, 7, 0, 0, []), (26, 9, 0, 0, 0, 0, []), (27, 27, 0, 0, 0, 0, []), (28, 14, 0, 0, 0, 0, []), (29, 4, 1, 0, 0, 0, []), (30, 25, 12, 41, 4, 0, [(0, 20, 4800), (0, 1, 25)]), (33, 2, 1, 1, 0, 0, []), (34, 2, 2, 7, 0, 0, []), (36, 9, 0, 0, 0, 0, []), (37, 27, 0, 0, 0, 0, []), (38, 14, 0, 0, 0, 0, []), (39, 4, 1, 0, 0, 0, []), (40, 25, 12, 40, 4, 0, [(0, 20, 4800), (0, 1, 24)]), (43, 2, 2, 8, 0, 0, []), (45, 27, 0, 0, 0, 0, []), (46, 14, 0, 0, 0, 0, []), (47, 4, 1, 0, 0, 0, []), (48, 25, 12, 41, 4, 0, [(0, 20, 4800), (0, 1, 25)]), (51, 2, 2, 8, 0, 0, []), (53, 27, 0, 0, 0, 0, []), (54, 14, 0, 0, 0, 0, []), (55, 3, 1, 3, 0, 0, []), (56, 3, 2, 5, 0, 0, []), (58, 40, 0, 6, 0, 0, []), (61, 17, 94, 0, 60, 0, []), (64, 4, 1, 0, 0, 0, []), (65, 25, 12, 40, 4, 0, [(0, 20, 4800), (0, 1, 24)]), (68, 2, 2, 8, 0, 0, []), (70, 27, 0, 0, 0, 0, []), (71, 14, 0, 0, 0, 0, []), (72, 3, 1, 3, 0, 0, []), (73, 32, 91, 1, 58, 0, []), (77, 4, 1, 0, 0, 0, []), (78, 25, 12, 41, 4, 0, [(0, 20, 4800), (0, 1, 25)]), (81, 2, 2, 8, 0, 0, []), (83, 27, 0, 0, 0, 0, []), (84, 14, 0, 0, 0, 0, []), (85, 3, 2, 5, 0, 0, []), (87, 32, 94, 0, 60, 0, []), (91, 2, 2, 7, 0, 0, []), (93, 41, 0, 0, 0, 0, []), (94, 49, 0, 0, 0, 0, []), (94, 8, 0, 7, 0, 1, []), (97, 19, 3, 0, 3, 0, []), (100, 0, 1, 0, 0, (-1), []), (101, 41, 0, 0, 0, 0, [])]
set_option maxRecDepth 20000 in
theorem qX12_sideOff : f_all yX12_sideOf YX12_sideOf pX12_sideOff :=
  ⟨f_iconst (e_dx DX12_sideOf_0 0 rfl) ⟨by decide, by decide⟩,
  f_istore (e_dx DX12_sideOf_0 1 rfl) (by decide),
  trivial,
  f_iload (e_dx DX12_sideOf_0 2 rfl),
  f_iload_n (n := 2) (e_dx DX12_sideOf_0 3 rfl) rfl,
  f_icmp_ge (e_dx DX12_sideOf_0 4 rfl) rfl,
  f_iload_n (n := 1) (e_dx DX12_sideOf_0 5 rfl) rfl,
  f_iload (e_dx DX12_sideOf_0 6 rfl),
  f_iconst (e_dx DX12_sideOf_0 7 rfl) ⟨by decide, by decide⟩,
  f_iadd (e_dx DX12_sideOf_0 8 rfl),
  f_iload_n (n := 2) (e_dx DX12_sideOf_0 9 rfl) rfl,
  f_irem (e_dx DX12_sideOf_0 10 rfl),
  f_iadd (e_dx DX12_sideOf_0 11 rfl),
  f_g33,
  f_istore (e_dx DX12_sideOf_0 12 rfl) (by decide),
  f_aload_n (n := 0) (e_dx DX12_sideOf_0 13 rfl) rfl,
  f_getA (e_dx DX12_sideOf_0 14 rfl) fX12_82 rfl (by decide) (Nat.le_of_ble_eq_true rfl) rfl (by decide),
  f_iload_n (n := 1) (e_dx DX12_sideOf_0 15 rfl) rfl,
  f_iload (e_dx DX12_sideOf_0 16 rfl),
  f_iadd (e_dx DX12_sideOf_0 17 rfl),
  f_iaload (e_dx DX12_sideOf_0 18 rfl),
  f_g14 (e_dx DX12_sideOf_0 19 rfl),
  f_aload_n (n := 0) (e_dx DX12_sideOf_0 20 rfl) rfl,
  f_getA (e_dx DX12_sideOf_0 21 rfl) fX12_85 rfl (by decide) (Nat.le_of_ble_eq_true rfl) rfl (by decide),
  f_iload_n (n := 1) (e_dx DX12_sideOf_0 22 rfl) rfl,
  f_iload (e_dx DX12_sideOf_0 23 rfl),
  f_iadd (e_dx DX12_sideOf_0 24 rfl),
  f_iaload (e_dx DX12_sideOf_0 25 rfl),
  f_g14 (e_dx DX12_sideOf_0 26 rfl),
  f_aload_n (n := 0) (e_dx DX12_sideOf_0 27 rfl) rfl,
  f_getA (e_dx DX12_sideOf_0 28 rfl) fX12_82 rfl (by decide) (Nat.le_of_ble_eq_true rfl) rfl (by decide),
  f_iload (e_dx DX12_sideOf_0 29 rfl),
  f_iaload (e_dx DX12_sideOf_0 30 rfl),
  f_g14 (e_dx DX12_sideOf_0 31 rfl),
  f_aload_n (n := 0) (e_dx DX12_sideOf_0 32 rfl) rfl,
  f_getA (e_dx DX12_sideOf_0 33 rfl) fX12_85 rfl (by decide) (Nat.le_of_ble_eq_true rfl) rfl (by decide),
  f_iload (e_dx DX12_sideOf_0 34 rfl),
  f_iaload (e_dx DX12_sideOf_0 35 rfl),
  f_g14 (e_dx DX12_sideOf_0 36 rfl),
  f_lload_n (n := 3) (e_dx DX12_sideOf_0 37 rfl) rfl,
  f_lload (e_dx DX12_sideOf_0 38 rfl),
  x_callS (e_dx DX12_sideOf_0 39 rfl) mwX12_lies cX12_435 swX12_lies rfl,
  f_if_eq (e_dx DX12_sideOf_1 0 rfl) rfl,
  f_aload_n (n := 0) (e_dx DX12_sideOf_1 1 rfl) rfl,
  f_getA (e_dx DX12_sideOf_1 2 rfl) fX12_82 rfl (by decide) (Nat.le_of_ble_eq_true rfl) rfl (by decide),
  f_iload (e_dx DX12_sideOf_1 3 rfl),
  f_iaload (e_dx DX12_sideOf_1 4 rfl),
  f_g14 (e_dx DX12_sideOf_1 5 rfl),
  f_lload_n (n := 3) (e_dx DX12_sideOf_1 6 rfl) rfl,
  f_lif_ne (e_dx DX12_sideOf_1 7 rfl) (e_dx DX12_sideOf_1 8 rfl) rfl,
  f_aload_n (n := 0) (e_dx DX12_sideOf_1 9 rfl) rfl,
  f_getA (e_dx DX12_sideOf_1 10 rfl) fX12_85 rfl (by decide) (Nat.le_of_ble_eq_true rfl) rfl (by decide),
  f_iload (e_dx DX12_sideOf_1 11 rfl),
  f_iaload (e_dx DX12_sideOf_1 12 rfl),
  f_g14 (e_dx DX12_sideOf_1 13 rfl),
  f_lload (e_dx DX12_sideOf_1 14 rfl),
  f_lif_eq (e_dx DX12_sideOf_1 15 rfl) (e_dx DX12_sideOf_1 16 rfl) rfl,
  f_iload (e_dx DX12_sideOf_1 17 rfl),
  ⟨(e_dx DX12_sideOf_1 18 rfl), rfl⟩,
  trivial,
  f_g8 (e_dx DX12_sideOf_1 19 rfl) ⟨by decide, by decide⟩,
  f_g19 (e_dx DX12_sideOf_1 20 rfl) rfl,
  f_iconst (e_dx DX12_sideOf_1 21 rfl) ⟨by decide, by decide⟩,
  ⟨(e_dx DX12_sideOf_1 22 rfl), rfl⟩, trivial⟩
def lX12_sideOf (c_X12_lies : Int → Int → Int → Int → Int → Int → e_M → (Int → Prop) → Prop) : List (Nat × f_Wt) := [(0, f_wm [(2, 0, 0), (2, 0, 0), (2, 0, 0), (2, 0, 0), (2, 0, 0), (2, 0, 0)] (fun ar M R => c_X12_lies (f_vi (f_nth ar 0)) (f_vi (f_nth ar 1)) (f_vi (f_nth ar 2)) (f_vi (f_nth ar 3)) (f_vi (f_nth ar 4)) (f_vi (f_nth ar 5)) M (fun r => R (some (.inl r)) M)))]
set_option maxRecDepth 20000 in
theorem BX12_sideOf_3 {sh : Nat → Nat × Nat} {t : Nat} {rm : Nat × Nat × Nat} {cs : Nat × Nat} {R : f_Rt} {c_X12_lies : Int → Int → Int → Int → Int → Int → e_M → (Int → Prop) → Prop} {k94 : Int → Int → Int → Int → Int → Prop} {x1 : Int} {x2 : Int} {x3 : Int} {x5 : Int} {x7 : Int} {M : e_M} (C : f_Hy sh t yX12_sideOf rm cs 6 (lX12_sideOf c_X12_lies) R) (h94 : ∀ (x1 : Int) (x2 : Int) (x3 : Int) (x5 : Int) (x7 : Int), k94 x1 x2 x3 x5 x7 → f_E sh t YX12_sideOf rm cs (f_Q sh t R) 94 [.inr (.inr (.inl (12, 123, 4456))), .inl x1, .inl x2, .inr (.inl x3), .inr (.inr (.inr ())), .inr (.inl x5), .inr (.inr (.inr ())), .inl x7, .inr (.inr (.inr ()))] [] M) (h : VX12_sideOf_3 c_X12_lies k94 (fun r => R (some (.inl r)) M) x1 x2 x3 x5 x7 M) : f_E sh t YX12_sideOf rm cs (f_Q sh t R) 3 [.inr (.inr (.inl (12, 123, 4456))), .inl x1, .inl x2, .inr (.inl x3), .inr (.inr (.inr ())), .inr (.inl x5), .inr (.inr (.inr ())), .inl x7, .inr (.inr (.inr ()))] [] M := by
  rw [f_kk5 M k94] at h
  exact f_go (KC := f_kc [(94, f_pl [(4466, 12, 123), (1, 0, 0), (1, 0, 0), (2, 0, 0), (0, 0, 0), (2, 0, 0), (0, 0, 0), (1, 0, 0), (0, 0, 0)] [] (fun ls st M2 => M2 = M ∧ (k94 (f_vi (f_nth ls 1)) (f_vi (f_nth ls 2)) (f_vi (f_nth ls 3)) (f_vi (f_nth ls 5)) (f_vi (f_nth ls 7)))))]) C qX12_sideOff (f_kc_cons (f_pl_ok rfl (fun ls st M2 ⟨e, hh⟩ => by subst e; exact h94 _ _ _ _ _ hh)) f_kc_nil) 66 3 h
set_option maxRecDepth 20000 in
theorem BX12_sideOf_94 {sh : Nat → Nat × Nat} {t : Nat} {rm : Nat × Nat × Nat} {cs : Nat × Nat} {R : f_Rt} {c_X12_lies : Int → Int → Int → Int → Int → Int → e_M → (Int → Prop) → Prop} {k3 : Int → Int → Int → Int → Int → Prop} {x1 : Int} {x2 : Int} {x3 : Int} {x5 : Int} {x7 : Int} {M : e_M} (C : f_Hy sh t yX12_sideOf rm cs 6 (lX12_sideOf c_X12_lies) R) (h3 : ∀ (x1 : Int) (x2 : Int) (x3 : Int) (x5 : Int) (x7 : Int), k3 x1 x2 x3 x5 x7 → f_E sh t YX12_sideOf rm cs (f_Q sh t R) 3 [.inr (.inr (.inl (12, 123, 4456))), .inl x1, .inl x2, .inr (.inl x3), .inr (.inr (.inr ())), .inr (.inl x5), .inr (.inr (.inr ())), .inl x7, .inr (.inr (.inr ()))] [] M) (h : VX12_sideOf_94 c_X12_lies k3 (fun r => R (some (.inl r)) M) x1 x2 x3 x5 x7 M) : f_E sh t YX12_sideOf rm cs (f_Q sh t R) 94 [.inr (.inr (.inl (12, 123, 4456))), .inl x1, .inl x2, .inr (.inl x3), .inr (.inr (.inr ())), .inr (.inl x5), .inr (.inr (.inr ())), .inl x7, .inr (.inr (.inr ()))] [] M := by
  rw [f_kk5 M k3] at h
  exact f_go (KC := f_kc [(3, f_pl [(4466, 12, 123), (1, 0, 0), (1, 0, 0), (2, 0, 0), (0, 0, 0), (2, 0, 0), (0, 0, 0), (1, 0, 0), (0, 0, 0)] [] (fun ls st M2 => M2 = M ∧ (k3 (f_vi (f_nth ls 1)) (f_vi (f_nth ls 2)) (f_vi (f_nth ls 3)) (f_vi (f_nth ls 5)) (f_vi (f_nth ls 7)))))]) C qX12_sideOff (f_kc_cons (f_pl_ok rfl (fun ls st M2 ⟨e, hh⟩ => by subst e; exact h3 _ _ _ _ _ hh)) f_kc_nil) 66 60 h
set_option maxRecDepth 20000 in
theorem BX12_sideOf {sh : Nat → Nat × Nat} {t : Nat} {rm : Nat × Nat × Nat} {cs : Nat × Nat} {R : f_Rt} {c_X12_lies : Int → Int → Int → Int → Int → Int → e_M → (Int → Prop) → Prop} {k3 : Int → Int → Int → Int → Int → Prop} {x1 : Int} {x2 : Int} {x3 : Int} {x5 : Int} {M : e_M} (C : f_Hy sh t yX12_sideOf rm cs 6 (lX12_sideOf c_X12_lies) R) (h3 : ∀ (x1 : Int) (x2 : Int) (x3 : Int) (x5 : Int) (x7 : Int), k3 x1 x2 x3 x5 x7 → f_E sh t YX12_sideOf rm cs (f_Q sh t R) 3 [.inr (.inr (.inl (12, 123, 4456))), .inl x1, .inl x2, .inr (.inl x3), .inr (.inr (.inr ())), .inr (.inl x5), .inr (.inr (.inr ())), .inl x7, .inr (.inr (.inr ()))] [] M) (h : VX12_sideOf c_X12_lies k3 (fun r => R (some (.inl r)) M) x1 x2 x3 x5 M) : f_E sh t YX12_sideOf rm cs (f_Q sh t R) 0 [.inr (.inr (.inl (12, 123, 4456))), .inl x1, .inl x2, .inr (.inl x3), .inr (.inr (.inr ())), .inr (.inl x5), .inr (.inr (.inr ())), .inr (.inr (.inr ())), .inr (.inr (.inr ()))] [] M := by
  rw [f_kk5 M k3] at h
  exact f_go (KC := f_kc [(3, f_pl [(4466, 12, 123), (1, 0, 0), (1, 0, 0), (2, 0, 0), (0, 0, 0), (2, 0, 0), (0, 0, 0), (1, 0, 0), (0, 0, 0)] [] (fun ls st M2 => M2 = M ∧ (k3 (f_vi (f_nth ls 1)) (f_vi (f_nth ls 2)) (f_vi (f_nth ls 3)) (f_vi (f_nth ls 5)) (f_vi (f_nth ls 7)))))]) C qX12_sideOff (f_kc_cons (f_pl_ok rfl (fun ls st M2 ⟨e, hh⟩ => by subst e; exact h3 _ _ _ _ _ hh)) f_kc_nil) 66 0 h
def WX12_sideOf_94 (M : e_M) (H3 : Int → Int → Int → Int → Int → Prop) (Q : Int → Prop) (x1 : Int) (x2 : Int) (x3 : Int) (x5 : Int) (x7 : Int) : Prop :=
  VX12_sideOf_94 WX12_lies H3 Q x1 x2 x3 x5 x7 M
def WX12_sideOf_3 (M : e_M) (Q : Int → Prop) : Nat → Int → Int → Int → Int → Int → Prop
  | 0, _, _, _, _, _ => False
  | n + 1, x1, x2, x3, x5, x7 =>
    VX12_sideOf_3 WX12_lies (WX12_sideOf_94 M (WX12_sideOf_3 M Q n) Q) Q x1 x2 x3 x5 x7 M
def WX12_sideOf (x1 : Int) (x2 : Int) (x3 : Int) (x5 : Int) (M : e_M) (Q : Int → Prop) : Prop :=
  VX12_sideOf WX12_lies (fun x1 x2 x3 x5 x7 => ∃ j, WX12_sideOf_3 M Q j x1 x2 x3 x5 x7) Q x1 x2 x3 x5 M
theorem PX12_sideOf_94 {sh : Nat → Nat × Nat} {t : Nat} {rm : Nat × Nat × Nat} {cs : Nat × Nat} {R : f_Rt} {H3 : Int → Int → Int → Int → Int → Prop} {x1 : Int} {x2 : Int} {x3 : Int} {x5 : Int} {x7 : Int} {M : e_M} (C : f_Hy sh t yX12_sideOf rm cs 6 (lX12_sideOf WX12_lies) R) (g3 : ∀ (x1 : Int) (x2 : Int) (x3 : Int) (x5 : Int) (x7 : Int), H3 x1 x2 x3 x5 x7 → f_E sh t YX12_sideOf rm cs (f_Q sh t R) 3 [.inr (.inr (.inl (12, 123, 4456))), .inl x1, .inl x2, .inr (.inl x3), .inr (.inr (.inr ())), .inr (.inl x5), .inr (.inr (.inr ())), .inl x7, .inr (.inr (.inr ()))] [] M) (h : WX12_sideOf_94 M H3 (fun r => R (some (.inl r)) M) x1 x2 x3 x5 x7) : f_E sh t YX12_sideOf rm cs (f_Q sh t R) 94 [.inr (.inr (.inl (12, 123, 4456))), .inl x1, .inl x2, .inr (.inl x3), .inr (.inr (.inr ())), .inr (.inl x5), .inr (.inr (.inr ())), .inl x7, .inr (.inr (.inr ()))] [] M :=
  BX12_sideOf_94 C g3 h
theorem PX12_sideOf_3 {sh : Nat → Nat × Nat} {t : Nat} {rm : Nat × Nat × Nat} {cs : Nat × Nat} {R : f_Rt} {M : e_M} (C : f_Hy sh t yX12_sideOf rm cs 6 (lX12_sideOf WX12_lies) R) : ∀ (n : Nat) (x1 : Int) (x2 : Int) (x3 : Int) (x5 : Int) (x7 : Int), WX12_sideOf_3 M (fun r => R (some (.inl r)) M) n x1 x2 x3 x5 x7 → f_E sh t YX12_sideOf rm cs (f_Q sh t R) 3 [.inr (.inr (.inl (12, 123, 4456))), .inl x1, .inl x2, .inr (.inl x3), .inr (.inr (.inr ())), .inr (.inl x5), .inr (.inr (.inr ())), .inl x7, .inr (.inr (.inr ()))] [] M := by
  intro n
  induction n with
  | zero => intro x1 x2 x3 x5 x7 h; exact h.elim
  | succ n ih => intro x1 x2 x3 x5 x7 h; exact BX12_sideOf_3 C (fun x1 x2 x3 x5 x7 h => PX12_sideOf_94 C ih h) h
theorem PX12_sideOf {sh : Nat → Nat × Nat} {t : Nat} {rm : Nat × Nat × Nat} {cs : Nat × Nat} {R : f_Rt} {x1 : Int} {x2 : Int} {x3 : Int} {x5 : Int} {M : e_M} (C : f_Hy sh t yX12_sideOf rm cs 6 (lX12_sideOf WX12_lies) R) (h : WX12_sideOf x1 x2 x3 x5 M (fun r => R (some (.inl r)) M)) : f_E sh t YX12_sideOf rm cs (f_Q sh t R) 0 [.inr (.inr (.inl (12, 123, 4456))), .inl x1, .inl x2, .inr (.inl x3), .inr (.inr (.inr ())), .inr (.inl x5), .inr (.inr (.inr ())), .inr (.inr (.inr ())), .inr (.inr (.inr ()))] [] M :=
  BX12_sideOf C (fun x1 x2 x3 x5 x7 ⟨j, h⟩ => PX12_sideOf_3 C j _ _ _ _ _ h) h
def wX12_sideOf : f_Wt := f_wm [(4466, 12, 123), (1, 0, 0), (1, 0, 0), (2, 0, 0), (2, 0, 0)] (fun ar M R => WX12_sideOf (f_vi (f_nth ar 1)) (f_vi (f_nth ar 2)) (f_vi (f_nth ar 3)) (f_vi (f_nth ar 4)) M (fun r => R (some (.inl r)) M))
theorem TX12_sideOf {sh : Nat → Nat × Nat} {t : Nat} : f_Mt sh t YX12_sideOf 6 (wX12_sideOf) :=
  f_Mt_of (k := 2) (Nat.le_of_ble_eq_true rfl) rfl rfl (fun ar M R rm cs h1 h2 h3 hX h => PX12_sideOf ⟨Nat.le_of_ble_eq_true rfl, h1, h2, h3, ⟨(f_Mt.up (Nat.le_of_ble_eq_true rfl) TX12_lies), trivial⟩, hX⟩ h)
def VX12_far (Q : Int → Prop) (x1 : Int) (x2 : Int) (x3 : Int) (x5 : Int) (M : e_M) : Prop :=
  ((0 ≤ (e_w32 (x1 + x2)) ∧ (e_w32 (x1 + x2)) < 4800) ∧ ((0 ≤ (e_w32 (x1 + x2)) ∧ (e_w32 (x1 + x2)) < 4800) ∧ (Q (e_w64 ((f_absJ (e_w64 (x3 - (M 4480 ((e_w32 (x1 + x2)).toNat))))) + (f_absJ (e_w64 (x5 - (M 4481 ((e_w32 (x1 + x2)).toNat))))))))))
def yX12_far (i : Nat) : e_Y := x_get YX12_far [] i
def pX12_farf : List x_I := [(0, 3, 1, 3, 0, 0, []), (1, 4, 1, 0, 0, 0, []), (2, 25, 12, 40, 4, 0, [(0, 20, 4800), (0, 1, 24)]), (5, 2, 1, 1, 0, 0, []), (6, 2, 1, 2, 0, 0, []), (7, 9, 0, 0, 0, 0, []), (8, 27, 0, 0, 0, 0, []), (9, 14, 0, 0, 0, 0, []), (10, 10, 0, 1, 0, 0, []), (11, 34, 0, 0, 0, 0, []), (14, 3, 2, 5, 0, 0, []), (16, 4, 1, 0, 0, 0, []), (17, 25, 12, 41, 4, 0, [(0, 20, 4800), (0, 1, 25)]), (20, 2, 1, 1, 0, 0, []), (21, 2, 1, 2, 0, 0, []), (22, 9, 0, 0, 0, 0, []), (23, 27, 0, 0, 0, 0, []), (24, 14, 0, 0, 0, 0, []), (25, 10, 0, 1, 0, 0, []), (26, 34, 0, 0, 0, 0, []), (29, 10, 0, 0, 0, 0, []), (30, 43, 0, 0, 0, 0, [])]
set_option maxRecDepth 20000 in
theorem qX12_farf : f_all yX12_far YX12_far pX12_farf :=
  ⟨f_lload_n (n := 3) (e_dx DX12_far_0 0 rfl) rfl,
  f_aload_n (n := 0) (e_dx DX12_far_0 1 rfl) rfl,
  f_getA (e_dx DX12_far_0 2 rfl) fX12_82 rfl (by decide) (Nat.le_of_ble_eq_true rfl) rfl (by decide),
  f_iload_n (n := 1) (e_dx DX12_far_0 3 rfl) rfl,
  f_iload_n (n := 2) (e_dx DX12_far_0 4 rfl) rfl,
  f_iadd (e_dx DX12_far_0 5 rfl),
  f_iaload (e_dx DX12_far_0 6 rfl),
  f_g14 (e_dx DX12_far_0 7 rfl),
  f_lsub (e_dx DX12_far_0 8 rfl),
  f_absL (e_dx DX12_far_0 9 rfl) cX12_480 fm_s_absL fm_i fm_c_absL,
  f_lload (e_dx DX12_far_0 10 rfl),
  f_aload_n (n := 0) (e_dx DX12_far_0 11 rfl) rfl,
  f_getA (e_dx DX12_far_0 12 rfl) fX12_85 rfl (by decide) (Nat.le_of_ble_eq_true rfl) rfl (by decide),
  f_iload_n (n := 1) (e_dx DX12_far_0 13 rfl) rfl,
  f_iload_n (n := 2) (e_dx DX12_far_0 14 rfl) rfl,
  f_iadd (e_dx DX12_far_0 15 rfl),
  f_iaload (e_dx DX12_far_0 16 rfl),
  f_g14 (e_dx DX12_far_0 17 rfl),
  f_lsub (e_dx DX12_far_0 18 rfl),
  f_absL (e_dx DX12_far_0 19 rfl) cX12_480 fm_s_absL fm_i fm_c_absL,
  f_ladd (e_dx DX12_far_0 20 rfl),
  ⟨(e_dx DX12_far_0 21 rfl), rfl⟩, trivial⟩
def lX12_far : List (Nat × f_Wt) := []
set_option maxRecDepth 20000 in
theorem BX12_far {sh : Nat → Nat × Nat} {t : Nat} {rm : Nat × Nat × Nat} {cs : Nat × Nat} {R : f_Rt} {x1 : Int} {x2 : Int} {x3 : Int} {x5 : Int} {M : e_M} (C : f_Hy sh t yX12_far rm cs 4 (lX12_far) R) (h : VX12_far (fun r => R (some (.inr (.inl r))) M) x1 x2 x3 x5 M) : f_E sh t YX12_far rm cs (f_Q sh t R) 0 [.inr (.inr (.inl (12, 123, 4456))), .inl x1, .inl x2, .inr (.inl x3), .inr (.inr (.inr ())), .inr (.inl x5), .inr (.inr (.inr ()))] [] M :=
  f_go (KC := f_kc []) C qX12_farf f_kc_nil 24 0 h
def WX12_far (x1 : Int) (x2 : Int) (x3 : Int) (x5 : Int) (M : e_M) (Q : Int → Prop) : Prop :=
  VX12_far Q x1 x2 x3 x5 M
theorem PX12_far {sh : Nat → Nat × Nat} {t : Nat} {rm : Nat × Nat × Nat} {cs : Nat × Nat} {R : f_Rt} {x1 : Int} {x2 : Int} {x3 : Int} {x5 : Int} {M : e_M} (C : f_Hy sh t yX12_far rm cs 4 (lX12_far) R) (h : WX12_far x1 x2 x3 x5 M (fun r => R (some (.inr (.inl r))) M)) : f_E sh t YX12_far rm cs (f_Q sh t R) 0 [.inr (.inr (.inl (12, 123, 4456))), .inl x1, .inl x2, .inr (.inl x3), .inr (.inr (.inr ())), .inr (.inl x5), .inr (.inr (.inr ()))] [] M :=
  BX12_far C h
def wX12_far : f_Wt := f_wm [(4466, 12, 123), (1, 0, 0), (1, 0, 0), (2, 0, 0), (2, 0, 0)] (fun ar M R => WX12_far (f_vi (f_nth ar 1)) (f_vi (f_nth ar 2)) (f_vi (f_nth ar 3)) (f_vi (f_nth ar 4)) M (fun r => R (some (.inr (.inl r))) M))
theorem TX12_far {sh : Nat → Nat × Nat} {t : Nat} : f_Mt sh t YX12_far 4 (wX12_far) :=
  f_Mt_of (k := 0) (Nat.le_of_ble_eq_true rfl) rfl rfl (fun ar M R rm cs h1 h2 h3 hX h => PX12_far ⟨Nat.le_of_ble_eq_true rfl, h1, h2, h3, trivial, hX⟩ h)
def VX12_part_6 (c_X12_px : Int → e_M → (Int → Prop) → Prop) (c_X12_py : Int → e_M → (Int → Prop) → Prop) (c_X12_sideOf : Int → Int → Int → Int → e_M → (Int → Prop) → Prop) (c_X12_far : Int → Int → Int → Int → e_M → (Int → Prop) → Prop) (c_X12_tidy : Int → Int → e_M → (Int → e_M → Prop) → Prop) (k194 : Int → Int → Int → Int → Int → Int → Int → Int → e_M → Prop) (k34 : Int → Int → Int → Int → Int → Int → Int → e_M → Prop) (Q : Int → e_M → Prop) (x1 : Int) (x2 : Int) (x3 : Int) (x4 : Int) (x5 : Int) (x6 : Int) (M : e_M) : Prop :=
  (((M 4456 45) ≤ x6 → ((0 ≤ (e_w32 ((e_w32 (x1 + x5)) - 1)) ∧ (e_w32 ((e_w32 (x1 + x5)) - 1)) < 4800) ∧ (∀ y1 : Int, y1 = M 4480 ((e_w32 ((e_w32 (x1 + x5)) - 1)).toNat) → ((0 ≤ (e_w32 ((e_w32 (x1 + x5)) - 1)) ∧ (e_w32 ((e_w32 (x1 + x5)) - 1)) < 4800) ∧ (∀ y2 : Int, y2 = M 4481 ((e_w32 ((e_w32 (x1 + x5)) - 1)).toNat) → ((0 ≤ x1 ∧ x1 < 4800) ∧ ((0 ≤ x1 ∧ x1 < 4800) ∧ (c_X12_sideOf x2 x3 y1 y2 M (fun r3 => (c_X12_sideOf x2 x3 (M 4480 (x1.toNat)) (M 4481 (x1.toNat)) M (fun r4 => (¬ x3 = 0 ∧ (∀ y5 : Int, y5 = (e_w32 ((e_w32 (r4 - r3)) + x3)).tmod x3 → ((¬ r3 = r4 → (k194 x1 x2 x3 x5 (M 4480 (x1.toNat)) (M 4481 (x1.toNat)) r3 y5 M)) ∧ (r3 = r4 → (c_X12_far x2 r3 y1 y2 M (fun r6 => (c_X12_far x2 r3 (M 4480 (x1.toNat)) (M 4481 (x1.toNat)) M (fun r7 => ((r6 ≤ r7 → (k194 x1 x2 x3 x5 (M 4480 (x1.toNat)) (M 4481 (x1.toNat)) r3 y5 M)) ∧ (r7 < r6 → (k194 x1 x2 x3 x5 (M 4480 (x1.toNat)) (M 4481 (x1.toNat)) r3 x3 M)))))))))))))))))))))) ∧ (x6 < (M 4456 45) → ((x4 = 0 → (k34 x1 x2 x3 x4 x5 x6 (e_w32 ((e_w32 ((M 4456 45) - 1)) - x6)) M)) ∧ (¬ x4 = 0 → (k34 x1 x2 x3 x4 x5 x6 x6 M)))))
def VX12_part_34 (c_X12_px : Int → e_M → (Int → Prop) → Prop) (c_X12_py : Int → e_M → (Int → Prop) → Prop) (c_X12_sideOf : Int → Int → Int → Int → e_M → (Int → Prop) → Prop) (c_X12_far : Int → Int → Int → Int → e_M → (Int → Prop) → Prop) (c_X12_tidy : Int → Int → e_M → (Int → e_M → Prop) → Prop) (k6 : Int → Int → Int → Int → Int → Int → e_M → Prop) (Q : Int → e_M → Prop) (x1 : Int) (x2 : Int) (x3 : Int) (x4 : Int) (x5 : Int) (x6 : Int) (xs0 : Int) (M : e_M) : Prop :=
  (c_X12_px xs0 M (fun r1 => ((0 ≤ (e_w32 (x1 + x5)) ∧ (e_w32 (x1 + x5)) < 4800) ∧ (∀ M2 : e_M, M2 = e_up M 4480 ((e_w32 (x1 + x5)).toNat) (e_w32 r1) → (c_X12_py xs0 M2 (fun r3 => ((0 ≤ (e_w32 (x1 + x5)) ∧ (e_w32 (x1 + x5)) < 4800) ∧ (∀ M4 : e_M, M4 = e_up M2 4481 ((e_w32 (x1 + x5)).toNat) (e_w32 r3) → (k6 x1 x2 x3 x4 (e_w32 (x5 + 1)) (e_w32 (x6 + 1)) M4)))))))))
def VX12_part_194 (c_X12_px : Int → e_M → (Int → Prop) → Prop) (c_X12_py : Int → e_M → (Int → Prop) → Prop) (c_X12_sideOf : Int → Int → Int → Int → e_M → (Int → Prop) → Prop) (c_X12_far : Int → Int → Int → Int → e_M → (Int → Prop) → Prop) (c_X12_tidy : Int → Int → e_M → (Int → e_M → Prop) → Prop) (k197 : Int → Int → Int → Int → Int → Int → Int → Int → Int → e_M → Prop) (Q : Int → e_M → Prop) (x1 : Int) (x2 : Int) (x3 : Int) (x5 : Int) (x10 : Int) (x12 : Int) (x14 : Int) (x16 : Int) (M : e_M) : Prop :=
  (k197 x1 x2 x3 x5 x10 x12 x14 x16 1 M)
def VX12_part_197 (c_X12_px : Int → e_M → (Int → Prop) → Prop) (c_X12_py : Int → e_M → (Int → Prop) → Prop) (c_X12_sideOf : Int → Int → Int → Int → e_M → (Int → Prop) → Prop) (c_X12_far : Int → Int → Int → Int → e_M → (Int → Prop) → Prop) (c_X12_tidy : Int → Int → e_M → (Int → e_M → Prop) → Prop) (k246 : Int → Int → Int → Int → Int → Int → Int → Int → Int → Int → e_M → Prop) (k281 : Int → Int → Int → Int → Int → Int → Int → Int → Int → e_M → Prop) (Q : Int → e_M → Prop) (x1 : Int) (x2 : Int) (x3 : Int) (x5 : Int) (x10 : Int) (x12 : Int) (x14 : Int) (x16 : Int) (x17 : Int) (M : e_M) : Prop :=
  ((x16 < x17 → (c_X12_tidy x1 x5 M (fun r1 M2 => (Q r1 M2)))) ∧ (x17 ≤ x16 → (¬ x3 = 0 ∧ (∀ y3 : Int, y3 = e_w32 (x2 + ((e_w32 (x14 + x17)).tmod x3)) → ((0 ≤ y3 ∧ y3 < 4800) ∧ ((¬ (M 4480 (y3.toNat)) = x10 → (k246 x1 x2 x3 x5 x10 x12 x14 x16 x17 y3 M)) ∧ ((M 4480 (y3.toNat)) = x10 → ((0 ≤ y3 ∧ y3 < 4800) ∧ ((¬ (M 4481 (y3.toNat)) = x12 → (k246 x1 x2 x3 x5 x10 x12 x14 x16 x17 y3 M)) ∧ ((M 4481 (y3.toNat)) = x12 → (k281 x1 x2 x3 x5 x10 x12 x14 x16 x17 M)))))))))))
def VX12_part_246 (c_X12_px : Int → e_M → (Int → Prop) → Prop) (c_X12_py : Int → e_M → (Int → Prop) → Prop) (c_X12_sideOf : Int → Int → Int → Int → e_M → (Int → Prop) → Prop) (c_X12_far : Int → Int → Int → Int → e_M → (Int → Prop) → Prop) (c_X12_tidy : Int → Int → e_M → (Int → e_M → Prop) → Prop) (k281 : Int → Int → Int → Int → Int → Int → Int → Int → Int → e_M → Prop) (Q : Int → e_M → Prop) (x1 : Int) (x2 : Int) (x3 : Int) (x5 : Int) (x10 : Int) (x12 : Int) (x14 : Int) (x16 : Int) (x17 : Int) (x18 : Int) (M : e_M) : Prop :=
  ((0 ≤ x18 ∧ x18 < 4800) ∧ ((0 ≤ (e_w32 (x1 + x5)) ∧ (e_w32 (x1 + x5)) < 4800) ∧ (∀ M1 : e_M, M1 = e_up M 4480 ((e_w32 (x1 + x5)).toNat) (M 4480 (x18.toNat)) → ((0 ≤ x18 ∧ x18 < 4800) ∧ ((0 ≤ (e_w32 (x1 + x5)) ∧ (e_w32 (x1 + x5)) < 4800) ∧ (∀ M2 : e_M, M2 = e_up M1 4481 ((e_w32 (x1 + x5)).toNat) (M1 4481 (x18.toNat)) → (k281 x1 x2 x3 (e_w32 (x5 + 1)) x10 x12 x14 x16 x17 M2)))))))
def VX12_part_281 (c_X12_px : Int → e_M → (Int → Prop) → Prop) (c_X12_py : Int → e_M → (Int → Prop) → Prop) (c_X12_sideOf : Int → Int → Int → Int → e_M → (Int → Prop) → Prop) (c_X12_far : Int → Int → Int → Int → e_M → (Int → Prop) → Prop) (c_X12_tidy : Int → Int → e_M → (Int → e_M → Prop) → Prop) (k197 : Int → Int → Int → Int → Int → Int → Int → Int → Int → e_M → Prop) (Q : Int → e_M → Prop) (x1 : Int) (x2 : Int) (x3 : Int) (x5 : Int) (x10 : Int) (x12 : Int) (x14 : Int) (x16 : Int) (x17 : Int) (M : e_M) : Prop :=
  (k197 x1 x2 x3 x5 x10 x12 x14 x16 (e_w32 (x17 + 1)) M)
def VX12_part (c_X12_px : Int → e_M → (Int → Prop) → Prop) (c_X12_py : Int → e_M → (Int → Prop) → Prop) (c_X12_sideOf : Int → Int → Int → Int → e_M → (Int → Prop) → Prop) (c_X12_far : Int → Int → Int → Int → e_M → (Int → Prop) → Prop) (c_X12_tidy : Int → Int → e_M → (Int → e_M → Prop) → Prop) (k6 : Int → Int → Int → Int → Int → Int → e_M → Prop) (Q : Int → e_M → Prop) (x1 : Int) (x2 : Int) (x3 : Int) (x4 : Int) (M : e_M) : Prop :=
  (k6 x1 x2 x3 x4 0 0 M)
def yX12_part (i : Nat) : e_Y := x_get YX12_part [YX12_px, YX12_py, YX12_sideOf, YX12_far, YX12_tidy] i
def pX12_partf : List x_I := [(0, 0, 1, 0, 0, 0, []), (1, 5, 2, 5, 0, 0, []), (3, 0, 1, 0, 0, 0, []), (4, 5, 2, 6, 0, 0, []), (6, 49, 0, 0, 0, 0, []), (6, 2, 2, 6, 0, 0, []), (8, 4, 1, 0, 0, 0, []), (9, 25, 12, 45, 0, 0, []), (12, 18, 77, 3, 45, 0, []), (15, 2, 2, 4, 0, 0, []), (17, 17, 25, 0, 14, 0, []), (20, 2, 2, 6, 0, 0, []), (22, 19, 34, 0, 20, 0, []), (25, 4, 1, 0, 0, 0, []), (26, 25, 12, 45, 0, 0, []), (29, 0, 1, 0, 0, 1, []), (30, 9, 0, 1, 0, 0, []), (31, 2, 2, 6, 0, 0, []), (33, 9, 0, 1, 0, 0, []), (34, 49, 0, 0, 0, 0, []), (34, 5, 2, 7, 0, 0, []), (36, 4, 1, 0, 0, 0, []), (37, 25, 12, 40, 4, 0, [(0, 20, 4800), (0, 1, 24)]), (40, 2, 1, 1, 0, 0, []), (41, 2, 2, 5, 0, 0, []), (43, 9, 0, 0, 0, 0, []), (44, 4, 1, 0, 0, 0, []), (45, 2, 2, 7, 0, 0, []), (47, 40, 0, 2, 14, 0, []), (50, 15, 0, 0, 0, 0, []), (51, 28, 0, 0, 0, 0, []), (52, 4, 1, 0, 0, 0, []), (53, 25, 12, 41, 4, 0, [(0, 20, 4800), (0, 1, 25)]), (56, 2, 1, 1, 0, 0, []), (57, 2, 2, 5, 0, 0, []), (59, 9, 0, 0, 0, 0, []), (60, 4, 1, 0, 0, 0, []), (61, 2, 2, 7, 0, 0, []), (63, 40, 1, 2, 14, 0, []), (66, 15, 0, 0, 0, 0, []), (67, 28, 0, 0, 0, 0, []), (68, 8, 0, 5, 0, 1, []), (71, 8, 0, 6, 0, 1, []), (74, 19, 6, 0, 5, 0, []), (77, 4, 1, 0, 0, 0, []), (78, 25, 12, 40, 4, 0, [(0, 20, 4800), (0, 1, 24)]), (81, 2, 1, 1, 0, 0, []), (82, 2, 2, 5, 0, 0, []), (84, 9, 0, 0, 0, 0, []), (85, 0, 1, 0, 0, 1, []), (86, 9, 0, 1, 0, 0, []), (87, 27, 0, 0, 0, 0, []), (88, 14, 0, 0, 0, 0, []), (89, 33, 0, 0, 0, 0, []), (89, 6, 2, 6, 0, 0, []), (91, 4, 1, 0, 0, 0, []), (92, 25, 12, 41, 4, 0, [(0, 20, 4800), (0, 1, 25)]), (95, 2, 1, 1, 0, 0, []), (96, 2, 2, 5, 0, 0, []), (98, 9, 0, 0, 0, 0, []), (99, 0, 1, 0, 0, 1, []), (100, 9, 0, 1, 0, 0, []), (101, 27, 0, 0, 0, 0, []), (102, 14, 0, 0, 0, 0, []), (103, 33, 0, 0, 0, 0, []), (103, 6, 2, 8, 0, 0, []), (105, 4, 1, 0, 0, 0, []), (106, 25, 12, 40, 4, 0, [(0, 20, 4800), (0, 1, 24)]), (109, 2, 1, 1, 0, 0, []), (110, 27, 0, 0, 0, 0, []), (111, 14, 0, 0, 0, 0, []), (112, 6, 2, 10, 0, 0, []), (114, 4, 1, 0, 0, 0, []), (115, 25, 12, 41, 4, 0, [(0, 20, 4800), (0, 1, 25)]), (118, 2, 1, 1, 0, 0, []), (119, 27, 0, 0, 0, 0, []), (120, 14, 0, 0, 0, 0, []), (121, 6, 2, 12, 0, 0, []), (123, 4, 1, 0, 0, 0, []), (124, 2, 1, 2, 0, 0, []), (125, 2, 1, 3, 0, 0, []), (126, 3, 2, 6, 0, 0, []), (128, 3, 2, 8, 0, 0, []), (130, 40, 2, 5, 14, 0, []), (133, 5, 2, 14, 0, 0, []), (135, 4, 1, 0, 0, 0, []), (136, 2, 1, 2, 0, 0, []), (137, 2, 1, 3, 0, 0, []), (138, 3, 2, 10, 0, 0, []), (140, 3, 2, 12, 0, 0, []), (142, 40, 2, 5, 14, 0, []), (145, 5, 2, 15, 0, 0, []), (147, 2, 2, 15, 0, 0, []), (149, 2, 2, 14, 0, 0, []), (151, 9, 0, 1, 0, 0, []), (152, 2, 1, 3, 0, 0, []), (153, 9, 0, 0, 0, 0, []), (154, 2, 1, 3, 0, 0, []), (155, 9, 0, 4, 0, 0, []), (156, 33, 0, 0, 0, 0, []), (156, 5, 2, 16, 0, 0, []), (158, 2, 2, 14, 0, 0, []), (160, 2, 2, 15, 0, 0, []), (162, 18, 194, 1, 120, 0, []), (165, 4, 1, 0, 0, 0, []), (166, 2, 1, 2, 0, 0, []), (167, 2, 2, 14, 0, 0, []), (169, 3, 2, 6, 0, 0, []), (171, 3, 2, 8, 0, 0, []), (173, 40, 3, 5, 14, 0, []), (176, 4, 1, 0, 0, 0, []), (177, 2, 1, 2, 0, 0, []), (178, 2, 2, 14, 0, 0, []), (180, 3, 2, 10, 0, 0, []), (182, 3, 2, 12, 0, 0, []), (184, 40, 3, 5, 14, 0, []), (187, 32, 194, 5, 120, 0, []), (191, 2, 1, 3, 0, 0, []), (192, 5, 2, 16, 0, 0, []), (194, 49, 0, 0, 0, 0, []), (194, 0, 1, 0, 0, 1, []), (195, 5, 2, 17, 0, 0, []), (197, 49, 0, 0, 0, 0, []), (197, 2, 2, 17, 0, 0, []), (199, 2, 2, 16, 0, 0, []), (201, 18, 287, 4, 176, 0, []), (204, 2, 1, 2, 0, 0, []), (205, 2, 2, 14, 0, 0, []), (207, 2, 2, 17, 0, 0, []), (209, 9, 0, 0, 0, 0, []), (210, 2, 1, 3, 0, 0, []), (211, 9, 0, 4, 0, 0, []), (212, 9, 0, 0, 0, 0, []), (213, 33, 0, 0, 0, 0, []), (213, 5, 2, 18, 0, 0, []), (215, 4, 1, 0, 0, 0, []), (216, 25, 12, 40, 4, 0, [(0, 20, 4800), (0, 1, 24)]), (219, 2, 2, 18, 0, 0, []), (221, 27, 0, 0, 0, 0, []), (222, 14, 0, 0, 0, 0, []), (223, 3, 2, 10, 0, 0, []), (225, 32, 246, 1, 151, 0, []), (229, 4, 1, 0, 0, 0, []), (230, 25, 12, 41, 4, 0, [(0, 20, 4800), (0, 1, 25)]), (233, 2, 2, 18, 0, 0, []), (235, 27, 0, 0, 0, 0, []), (236, 14, 0, 0, 0, 0, []), (237, 3, 2, 12, 0, 0, []), (239, 32, 246, 1, 151, 0, []), (243, 19, 281, 0, 173, 0, []), (246, 49, 0, 0, 0, 0, []), (246, 4, 1, 0, 0, 0, []), (247, 25, 12, 40, 4, 0, [(0, 20, 4800), (0, 1, 24)]), (250, 2, 1, 1, 0, 0, []), (251, 2, 2, 5, 0, 0, []), (253, 9, 0, 0, 0, 0, []), (254, 4, 1, 0, 0, 0, []), (255, 25, 12, 40, 4, 0, [(0, 20, 4800), (0, 1, 24)]), (258, 2, 2, 18, 0, 0, []), (260, 27, 0, 0, 0, 0, []), (261, 28, 0, 0, 0, 0, []), (262, 4, 1, 0, 0, 0, []), (263, 25, 12, 41, 4, 0, [(0, 20, 4800), (0, 1, 25)]), (266, 2, 1, 1, 0, 0, []), (267, 2, 2, 5, 0, 0, []), (269, 9, 0, 0, 0, 0, []), (270, 4, 1, 0, 0, 0, []), (271, 25, 12, 41, 4, 0, [(0, 20, 4800), (0, 1, 25)]), (274, 2, 2, 18, 0, 0, []), (276, 27, 0, 0, 0, 0, []), (277, 28, 0, 0, 0, 0, []), (278, 8, 0, 5, 0, 1, []), (281, 49, 0, 0, 0, 0, []), (281, 8, 0, 17, 0, 1, []), (284, 19, 197, 0, 123, 0, []), (287, 4, 1, 0, 0, 0, []), (288, 2, 1, 1, 0, 0, []), (289, 2, 2, 5, 0, 0, []), (291, 40, 4, 3, 14, 0, []), (294, 41, 0, 0, 0, 0, [])]
set_option maxRecDepth 20000 in
theorem qX12_partf : f_all yX12_part YX12_part pX12_partf :=
  ⟨f_iconst (e_dx DX12_part_0 0 rfl) ⟨by decide, by decide⟩,
  f_istore (e_dx DX12_part_0 1 rfl) (by decide),
  f_iconst (e_dx DX12_part_0 2 rfl) ⟨by decide, by decide⟩,
  f_istore (e_dx DX12_part_0 3 rfl) (by decide),
  trivial,
  f_iload (e_dx DX12_part_0 4 rfl),
  f_aload_n (n := 0) (e_dx DX12_part_0 5 rfl) rfl,
  f_getf (e_dx DX12_part_0 6 rfl) fX12_442 rfl (by decide) (by decide) (by decide),
  f_icmp_ge (e_dx DX12_part_0 7 rfl) rfl,
  f_iload (e_dx DX12_part_0 8 rfl),
  f_if_eq (e_dx DX12_part_0 9 rfl) rfl,
  f_iload (e_dx DX12_part_0 10 rfl),
  f_g19 (e_dx DX12_part_0 11 rfl) rfl,
  f_aload_n (n := 0) (e_dx DX12_part_0 12 rfl) rfl,
  f_getf (e_dx DX12_part_0 13 rfl) fX12_442 rfl (by decide) (by decide) (by decide),
  f_iconst (e_dx DX12_part_0 14 rfl) ⟨by decide, by decide⟩,
  f_isub (e_dx DX12_part_0 15 rfl),
  f_iload (e_dx DX12_part_0 16 rfl),
  f_isub (e_dx DX12_part_0 17 rfl),
  trivial,
  f_istore (e_dx DX12_part_0 18 rfl) (by decide),
  f_aload_n (n := 0) (e_dx DX12_part_0 19 rfl) rfl,
  f_getA (e_dx DX12_part_0 20 rfl) fX12_82 rfl (by decide) (Nat.le_of_ble_eq_true rfl) rfl (by decide),
  f_iload_n (n := 1) (e_dx DX12_part_0 21 rfl) rfl,
  f_iload (e_dx DX12_part_0 22 rfl),
  f_iadd (e_dx DX12_part_0 23 rfl),
  f_aload_n (n := 0) (e_dx DX12_part_0 24 rfl) rfl,
  f_iload (e_dx DX12_part_0 25 rfl),
  x_callV (e_dx DX12_part_0 26 rfl) mwX12_px vwX12_px cX12_445 rfl,
  f_g15 (e_dx DX12_part_0 27 rfl),
  f_iastore (e_dx DX12_part_0 28 rfl),
  f_aload_n (n := 0) (e_dx DX12_part_0 29 rfl) rfl,
  f_getA (e_dx DX12_part_0 30 rfl) fX12_85 rfl (by decide) (Nat.le_of_ble_eq_true rfl) rfl (by decide),
  f_iload_n (n := 1) (e_dx DX12_part_0 31 rfl) rfl,
  f_iload (e_dx DX12_part_0 32 rfl),
  f_iadd (e_dx DX12_part_0 33 rfl),
  f_aload_n (n := 0) (e_dx DX12_part_0 34 rfl) rfl,
  f_iload (e_dx DX12_part_0 35 rfl),
  x_callV (e_dx DX12_part_0 36 rfl) mwX12_py vwX12_py cX12_449 rfl,
  f_g15 (e_dx DX12_part_0 37 rfl),
  f_iastore (e_dx DX12_part_0 38 rfl),
  f_g8 (e_dx DX12_part_0 39 rfl) ⟨by decide, by decide⟩,
  f_g8 (e_dx DX12_part_1 0 rfl) ⟨by decide, by decide⟩,
  f_g19 (e_dx DX12_part_1 1 rfl) rfl,
  f_aload_n (n := 0) (e_dx DX12_part_1 2 rfl) rfl,
  f_getA (e_dx DX12_part_1 3 rfl) fX12_82 rfl (by decide) (Nat.le_of_ble_eq_true rfl) rfl (by decide),
  f_iload_n (n := 1) (e_dx DX12_part_1 4 rfl) rfl,
  f_iload (e_dx DX12_part_1 5 rfl),
  f_iadd (e_dx DX12_part_1 6 rfl),
  f_iconst (e_dx DX12_part_1 7 rfl) ⟨by decide, by decide⟩,
  f_isub (e_dx DX12_part_1 8 rfl),
  f_iaload (e_dx DX12_part_1 9 rfl),
  f_g14 (e_dx DX12_part_1 10 rfl),
  f_g33,
  f_lstore (e_dx DX12_part_1 11 rfl) (by decide),
  f_aload_n (n := 0) (e_dx DX12_part_1 12 rfl) rfl,
  f_getA (e_dx DX12_part_1 13 rfl) fX12_85 rfl (by decide) (Nat.le_of_ble_eq_true rfl) rfl (by decide),
  f_iload_n (n := 1) (e_dx DX12_part_1 14 rfl) rfl,
  f_iload (e_dx DX12_part_1 15 rfl),
  f_iadd (e_dx DX12_part_1 16 rfl),
  f_iconst (e_dx DX12_part_1 17 rfl) ⟨by decide, by decide⟩,
  f_isub (e_dx DX12_part_1 18 rfl),
  f_iaload (e_dx DX12_part_1 19 rfl),
  f_g14 (e_dx DX12_part_1 20 rfl),
  f_g33,
  f_lstore (e_dx DX12_part_1 21 rfl) (by decide),
  f_aload_n (n := 0) (e_dx DX12_part_1 22 rfl) rfl,
  f_getA (e_dx DX12_part_1 23 rfl) fX12_82 rfl (by decide) (Nat.le_of_ble_eq_true rfl) rfl (by decide),
  f_iload_n (n := 1) (e_dx DX12_part_1 24 rfl) rfl,
  f_iaload (e_dx DX12_part_1 25 rfl),
  f_g14 (e_dx DX12_part_1 26 rfl),
  f_lstore (e_dx DX12_part_1 27 rfl) (by decide),
  f_aload_n (n := 0) (e_dx DX12_part_1 28 rfl) rfl,
  f_getA (e_dx DX12_part_1 29 rfl) fX12_85 rfl (by decide) (Nat.le_of_ble_eq_true rfl) rfl (by decide),
  f_iload_n (n := 1) (e_dx DX12_part_1 30 rfl) rfl,
  f_iaload (e_dx DX12_part_1 31 rfl),
  f_g14 (e_dx DX12_part_1 32 rfl),
  f_lstore (e_dx DX12_part_1 33 rfl) (by decide),
  f_aload_n (n := 0) (e_dx DX12_part_1 34 rfl) rfl,
  f_iload_n (n := 2) (e_dx DX12_part_1 35 rfl) rfl,
  f_iload_n (n := 3) (e_dx DX12_part_1 36 rfl) rfl,
  f_lload (e_dx DX12_part_1 37 rfl),
  f_lload (e_dx DX12_part_1 38 rfl),
  x_callV (e_dx DX12_part_1 39 rfl) mwX12_sideOf vwX12_sideOf cX12_486 rfl,
  f_istore (e_dx DX12_part_2 0 rfl) (by decide),
  f_aload_n (n := 0) (e_dx DX12_part_2 1 rfl) rfl,
  f_iload_n (n := 2) (e_dx DX12_part_2 2 rfl) rfl,
  f_iload_n (n := 3) (e_dx DX12_part_2 3 rfl) rfl,
  f_lload (e_dx DX12_part_2 4 rfl),
  f_lload (e_dx DX12_part_2 5 rfl),
  x_callV (e_dx DX12_part_2 6 rfl) mwX12_sideOf vwX12_sideOf cX12_486 rfl,
  f_istore (e_dx DX12_part_2 7 rfl) (by decide),
  f_iload (e_dx DX12_part_2 8 rfl),
  f_iload (e_dx DX12_part_2 9 rfl),
  f_isub (e_dx DX12_part_2 10 rfl),
  f_iload_n (n := 3) (e_dx DX12_part_2 11 rfl) rfl,
  f_iadd (e_dx DX12_part_2 12 rfl),
  f_iload_n (n := 3) (e_dx DX12_part_2 13 rfl) rfl,
  f_irem (e_dx DX12_part_2 14 rfl),
  f_g33,
  f_istore (e_dx DX12_part_2 15 rfl) (by decide),
  f_iload (e_dx DX12_part_2 16 rfl),
  f_iload (e_dx DX12_part_2 17 rfl),
  f_icmp_ne (e_dx DX12_part_2 18 rfl) rfl,
  f_aload_n (n := 0) (e_dx DX12_part_2 19 rfl) rfl,
  f_iload_n (n := 2) (e_dx DX12_part_2 20 rfl) rfl,
  f_iload (e_dx DX12_part_2 21 rfl),
  f_lload (e_dx DX12_part_2 22 rfl),
  f_lload (e_dx DX12_part_2 23 rfl),
  x_callV (e_dx DX12_part_2 24 rfl) mwX12_far vwX12_far cX12_490 rfl,
  f_aload_n (n := 0) (e_dx DX12_part_2 25 rfl) rfl,
  f_iload_n (n := 2) (e_dx DX12_part_2 26 rfl) rfl,
  f_iload (e_dx DX12_part_2 27 rfl),
  f_lload (e_dx DX12_part_2 28 rfl),
  f_lload (e_dx DX12_part_2 29 rfl),
  x_callV (e_dx DX12_part_2 30 rfl) mwX12_far vwX12_far cX12_490 rfl,
  f_lif_le (e_dx DX12_part_2 31 rfl) (e_dx DX12_part_2 32 rfl) rfl,
  f_iload_n (n := 3) (e_dx DX12_part_2 33 rfl) rfl,
  f_istore (e_dx DX12_part_2 34 rfl) (by decide),
  trivial,
  f_iconst (e_dx DX12_part_2 35 rfl) ⟨by decide, by decide⟩,
  f_istore (e_dx DX12_part_2 36 rfl) (by decide),
  trivial,
  f_iload (e_dx DX12_part_2 37 rfl),
  f_iload (e_dx DX12_part_2 38 rfl),
  f_icmp_gt (e_dx DX12_part_2 39 rfl) rfl,
  f_iload_n (n := 2) (e_dx DX12_part_3 0 rfl) rfl,
  f_iload (e_dx DX12_part_3 1 rfl),
  f_iload (e_dx DX12_part_3 2 rfl),
  f_iadd (e_dx DX12_part_3 3 rfl),
  f_iload_n (n := 3) (e_dx DX12_part_3 4 rfl) rfl,
  f_irem (e_dx DX12_part_3 5 rfl),
  f_iadd (e_dx DX12_part_3 6 rfl),
  f_g33,
  f_istore (e_dx DX12_part_3 7 rfl) (by decide),
  f_aload_n (n := 0) (e_dx DX12_part_3 8 rfl) rfl,
  f_getA (e_dx DX12_part_3 9 rfl) fX12_82 rfl (by decide) (Nat.le_of_ble_eq_true rfl) rfl (by decide),
  f_iload (e_dx DX12_part_3 10 rfl),
  f_iaload (e_dx DX12_part_3 11 rfl),
  f_g14 (e_dx DX12_part_3 12 rfl),
  f_lload (e_dx DX12_part_3 13 rfl),
  f_lif_ne (e_dx DX12_part_3 14 rfl) (e_dx DX12_part_3 15 rfl) rfl,
  f_aload_n (n := 0) (e_dx DX12_part_3 16 rfl) rfl,
  f_getA (e_dx DX12_part_3 17 rfl) fX12_85 rfl (by decide) (Nat.le_of_ble_eq_true rfl) rfl (by decide),
  f_iload (e_dx DX12_part_3 18 rfl),
  f_iaload (e_dx DX12_part_3 19 rfl),
  f_g14 (e_dx DX12_part_3 20 rfl),
  f_lload (e_dx DX12_part_3 21 rfl),
  f_lif_ne (e_dx DX12_part_3 22 rfl) (e_dx DX12_part_3 23 rfl) rfl,
  f_g19 (e_dx DX12_part_3 24 rfl) rfl,
  trivial,
  f_aload_n (n := 0) (e_dx DX12_part_3 25 rfl) rfl,
  f_getA (e_dx DX12_part_3 26 rfl) fX12_82 rfl (by decide) (Nat.le_of_ble_eq_true rfl) rfl (by decide),
  f_iload_n (n := 1) (e_dx DX12_part_3 27 rfl) rfl,
  f_iload (e_dx DX12_part_3 28 rfl),
  f_iadd (e_dx DX12_part_3 29 rfl),
  f_aload_n (n := 0) (e_dx DX12_part_3 30 rfl) rfl,
  f_getA (e_dx DX12_part_3 31 rfl) fX12_82 rfl (by decide) (Nat.le_of_ble_eq_true rfl) rfl (by decide),
  f_iload (e_dx DX12_part_3 32 rfl),
  f_iaload (e_dx DX12_part_3 33 rfl),
  f_iastore (e_dx DX12_part_3 34 rfl),
  f_aload_n (n := 0) (e_dx DX12_part_3 35 rfl) rfl,
  f_getA (e_dx DX12_part_3 36 rfl) fX12_85 rfl (by decide) (Nat.le_of_ble_eq_true rfl) rfl (by decide),
  f_iload_n (n := 1) (e_dx DX12_part_3 37 rfl) rfl,
  f_iload (e_dx DX12_part_3 38 rfl),
  f_iadd (e_dx DX12_part_3 39 rfl),
  f_aload_n (n := 0) (e_dx DX12_part_4 0 rfl) rfl,
  f_getA (e_dx DX12_part_4 1 rfl) fX12_85 rfl (by decide) (Nat.le_of_ble_eq_true rfl) rfl (by decide),
  f_iload (e_dx DX12_part_4 2 rfl),
  f_iaload (e_dx DX12_part_4 3 rfl),
  f_iastore (e_dx DX12_part_4 4 rfl),
  f_g8 (e_dx DX12_part_4 5 rfl) ⟨by decide, by decide⟩,
  trivial,
  f_g8 (e_dx DX12_part_4 6 rfl) ⟨by decide, by decide⟩,
  f_g19 (e_dx DX12_part_4 7 rfl) rfl,
  f_aload_n (n := 0) (e_dx DX12_part_4 8 rfl) rfl,
  f_iload_n (n := 1) (e_dx DX12_part_4 9 rfl) rfl,
  f_iload (e_dx DX12_part_4 10 rfl),
  x_callV (e_dx DX12_part_4 11 rfl) mwX12_tidy vwX12_tidy cX12_494 rfl,
  ⟨(e_dx DX12_part_4 12 rfl), rfl⟩, trivial⟩
def lX12_part (c_X12_px : Int → e_M → (Int → Prop) → Prop) (c_X12_py : Int → e_M → (Int → Prop) → Prop) (c_X12_sideOf : Int → Int → Int → Int → e_M → (Int → Prop) → Prop) (c_X12_far : Int → Int → Int → Int → e_M → (Int → Prop) → Prop) (c_X12_tidy : Int → Int → e_M → (Int → e_M → Prop) → Prop) : List (Nat × f_Wt) := [(0, f_wm [(4466, 12, 123), (1, 0, 0)] (fun ar M R => c_X12_px (f_vi (f_nth ar 1)) M (fun r => R (some (.inr (.inl r))) M))), (1, f_wm [(4466, 12, 123), (1, 0, 0)] (fun ar M R => c_X12_py (f_vi (f_nth ar 1)) M (fun r => R (some (.inr (.inl r))) M))), (2, f_wm [(4466, 12, 123), (1, 0, 0), (1, 0, 0), (2, 0, 0), (2, 0, 0)] (fun ar M R => c_X12_sideOf (f_vi (f_nth ar 1)) (f_vi (f_nth ar 2)) (f_vi (f_nth ar 3)) (f_vi (f_nth ar 4)) M (fun r => R (some (.inl r)) M))), (3, f_wm [(4466, 12, 123), (1, 0, 0), (1, 0, 0), (2, 0, 0), (2, 0, 0)] (fun ar M R => c_X12_far (f_vi (f_nth ar 1)) (f_vi (f_nth ar 2)) (f_vi (f_nth ar 3)) (f_vi (f_nth ar 4)) M (fun r => R (some (.inr (.inl r))) M))), (4, f_wm [(4466, 12, 123), (1, 0, 0), (1, 0, 0)] (fun ar M R => c_X12_tidy (f_vi (f_nth ar 1)) (f_vi (f_nth ar 2)) M (fun r M => R (some (.inl r)) M)))]
set_option maxRecDepth 20000 in
theorem BX12_part_6 {sh : Nat → Nat × Nat} {t : Nat} {rm : Nat × Nat × Nat} {cs : Nat × Nat} {R : f_Rt} {c_X12_px : Int → e_M → (Int → Prop) → Prop} {c_X12_py : Int → e_M → (Int → Prop) → Prop} {c_X12_sideOf : Int → Int → Int → Int → e_M → (Int → Prop) → Prop} {c_X12_far : Int → Int → Int → Int → e_M → (Int → Prop) → Prop} {c_X12_tidy : Int → Int → e_M → (Int → e_M → Prop) → Prop} {k194 : Int → Int → Int → Int → Int → Int → Int → Int → e_M → Prop} {k34 : Int → Int → Int → Int → Int → Int → Int → e_M → Prop} {x1 : Int} {x2 : Int} {x3 : Int} {x4 : Int} {x5 : Int} {x6 : Int} {M : e_M} (C : f_Hy sh t yX12_part rm cs 7 (lX12_part c_X12_px c_X12_py c_X12_sideOf c_X12_far c_X12_tidy) R) (h194 : ∀ (x1 : Int) (x2 : Int) (x3 : Int) (x5 : Int) (x10 : Int) (x12 : Int) (x14 : Int) (x16 : Int) (M : e_M), k194 x1 x2 x3 x5 x10 x12 x14 x16 M → f_E sh t YX12_part rm cs (f_Q sh t R) 194 [.inr (.inr (.inl (12, 123, 4456))), .inl x1, .inl x2, .inl x3, .inr (.inr (.inr ())), .inl x5, .inr (.inr (.inr ())), .inr (.inr (.inr ())), .inr (.inr (.inr ())), .inr (.inr (.inr ())), .inr (.inl x10), .inr (.inr (.inr ())), .inr (.inl x12), .inr (.inr (.inr ())), .inl x14, .inr (.inr (.inr ())), .inl x16, .inr (.inr (.inr ())), .inr (.inr (.inr ()))] [] M) (h34 : ∀ (x1 : Int) (x2 : Int) (x3 : Int) (x4 : Int) (x5 : Int) (x6 : Int) (xs0 : Int) (M : e_M), k34 x1 x2 x3 x4 x5 x6 xs0 M → f_E sh t YX12_part rm cs (f_Q sh t R) 34 [.inr (.inr (.inl (12, 123, 4456))), .inl x1, .inl x2, .inl x3, .inl x4, .inl x5, .inl x6, .inr (.inr (.inr ())), .inr (.inr (.inr ())), .inr (.inr (.inr ())), .inr (.inr (.inr ())), .inr (.inr (.inr ())), .inr (.inr (.inr ())), .inr (.inr (.inr ())), .inr (.inr (.inr ())), .inr (.inr (.inr ())), .inr (.inr (.inr ())), .inr (.inr (.inr ())), .inr (.inr (.inr ()))] [.inl xs0] M) (h : VX12_part_6 c_X12_px c_X12_py c_X12_sideOf c_X12_far c_X12_tidy k194 k34 (fun r M => R (some (.inl r)) M) x1 x2 x3 x4 x5 x6 M) : f_E sh t YX12_part rm cs (f_Q sh t R) 6 [.inr (.inr (.inl (12, 123, 4456))), .inl x1, .inl x2, .inl x3, .inl x4, .inl x5, .inl x6, .inr (.inr (.inr ())), .inr (.inr (.inr ())), .inr (.inr (.inr ())), .inr (.inr (.inr ())), .inr (.inr (.inr ())), .inr (.inr (.inr ())), .inr (.inr (.inr ())), .inr (.inr (.inr ())), .inr (.inr (.inr ())), .inr (.inr (.inr ())), .inr (.inr (.inr ())), .inr (.inr (.inr ()))] [] M :=
  f_go (KC := f_kc [(194, f_pl [(4466, 12, 123), (1, 0, 0), (1, 0, 0), (1, 0, 0), (0, 0, 0), (1, 0, 0), (0, 0, 0), (0, 0, 0), (0, 0, 0), (0, 0, 0), (2, 0, 0), (0, 0, 0), (2, 0, 0), (0, 0, 0), (1, 0, 0), (0, 0, 0), (1, 0, 0), (0, 0, 0), (0, 0, 0)] [] (fun ls st M => k194 (f_vi (f_nth ls 1)) (f_vi (f_nth ls 2)) (f_vi (f_nth ls 3)) (f_vi (f_nth ls 5)) (f_vi (f_nth ls 10)) (f_vi (f_nth ls 12)) (f_vi (f_nth ls 14)) (f_vi (f_nth ls 16)) M)), (34, f_pl [(4466, 12, 123), (1, 0, 0), (1, 0, 0), (1, 0, 0), (1, 0, 0), (1, 0, 0), (1, 0, 0), (0, 0, 0), (0, 0, 0), (0, 0, 0), (0, 0, 0), (0, 0, 0), (0, 0, 0), (0, 0, 0), (0, 0, 0), (0, 0, 0), (0, 0, 0), (0, 0, 0), (0, 0, 0)] [(1, 0, 0)] (fun ls st M => k34 (f_vi (f_nth ls 1)) (f_vi (f_nth ls 2)) (f_vi (f_nth ls 3)) (f_vi (f_nth ls 4)) (f_vi (f_nth ls 5)) (f_vi (f_nth ls 6)) (f_vi (f_nth st 0)) M))]) C qX12_partf (f_kc_cons (f_pl_ok rfl (fun ls st M h => h194 _ _ _ _ _ _ _ _ M h)) (f_kc_cons (f_pl_ok rfl (fun ls st M h => h34 _ _ _ _ _ _ _ M h)) f_kc_nil)) 182 5 h
set_option maxRecDepth 20000 in
theorem BX12_part_34 {sh : Nat → Nat × Nat} {t : Nat} {rm : Nat × Nat × Nat} {cs : Nat × Nat} {R : f_Rt} {c_X12_px : Int → e_M → (Int → Prop) → Prop} {c_X12_py : Int → e_M → (Int → Prop) → Prop} {c_X12_sideOf : Int → Int → Int → Int → e_M → (Int → Prop) → Prop} {c_X12_far : Int → Int → Int → Int → e_M → (Int → Prop) → Prop} {c_X12_tidy : Int → Int → e_M → (Int → e_M → Prop) → Prop} {k6 : Int → Int → Int → Int → Int → Int → e_M → Prop} {x1 : Int} {x2 : Int} {x3 : Int} {x4 : Int} {x5 : Int} {x6 : Int} {xs0 : Int} {M : e_M} (C : f_Hy sh t yX12_part rm cs 7 (lX12_part c_X12_px c_X12_py c_X12_sideOf c_X12_far c_X12_tidy) R) (h6 : ∀ (x1 : Int) (x2 : Int) (x3 : Int) (x4 : Int) (x5 : Int) (x6 : Int) (M : e_M), k6 x1 x2 x3 x4 x5 x6 M → f_E sh t YX12_part rm cs (f_Q sh t R) 6 [.inr (.inr (.inl (12, 123, 4456))), .inl x1, .inl x2, .inl x3, .inl x4, .inl x5, .inl x6, .inr (.inr (.inr ())), .inr (.inr (.inr ())), .inr (.inr (.inr ())), .inr (.inr (.inr ())), .inr (.inr (.inr ())), .inr (.inr (.inr ())), .inr (.inr (.inr ())), .inr (.inr (.inr ())), .inr (.inr (.inr ())), .inr (.inr (.inr ())), .inr (.inr (.inr ())), .inr (.inr (.inr ()))] [] M) (h : VX12_part_34 c_X12_px c_X12_py c_X12_sideOf c_X12_far c_X12_tidy k6 (fun r M => R (some (.inl r)) M) x1 x2 x3 x4 x5 x6 xs0 M) : f_E sh t YX12_part rm cs (f_Q sh t R) 34 [.inr (.inr (.inl (12, 123, 4456))), .inl x1, .inl x2, .inl x3, .inl x4, .inl x5, .inl x6, .inr (.inr (.inr ())), .inr (.inr (.inr ())), .inr (.inr (.inr ())), .inr (.inr (.inr ())), .inr (.inr (.inr ())), .inr (.inr (.inr ())), .inr (.inr (.inr ())), .inr (.inr (.inr ())), .inr (.inr (.inr ())), .inr (.inr (.inr ())), .inr (.inr (.inr ())), .inr (.inr (.inr ()))] [.inl xs0] M :=
  f_go (KC := f_kc [(6, f_pl [(4466, 12, 123), (1, 0, 0), (1, 0, 0), (1, 0, 0), (1, 0, 0), (1, 0, 0), (1, 0, 0), (0, 0, 0), (0, 0, 0), (0, 0, 0), (0, 0, 0), (0, 0, 0), (0, 0, 0), (0, 0, 0), (0, 0, 0), (0, 0, 0), (0, 0, 0), (0, 0, 0), (0, 0, 0)] [] (fun ls st M => k6 (f_vi (f_nth ls 1)) (f_vi (f_nth ls 2)) (f_vi (f_nth ls 3)) (f_vi (f_nth ls 4)) (f_vi (f_nth ls 5)) (f_vi (f_nth ls 6)) M))]) C qX12_partf (f_kc_cons (f_pl_ok rfl (fun ls st M h => h6 _ _ _ _ _ _ M h)) f_kc_nil) 182 20 h
set_option maxRecDepth 20000 in
theorem BX12_part_194 {sh : Nat → Nat × Nat} {t : Nat} {rm : Nat × Nat × Nat} {cs : Nat × Nat} {R : f_Rt} {c_X12_px : Int → e_M → (Int → Prop) → Prop} {c_X12_py : Int → e_M → (Int → Prop) → Prop} {c_X12_sideOf : Int → Int → Int → Int → e_M → (Int → Prop) → Prop} {c_X12_far : Int → Int → Int → Int → e_M → (Int → Prop) → Prop} {c_X12_tidy : Int → Int → e_M → (Int → e_M → Prop) → Prop} {k197 : Int → Int → Int → Int → Int → Int → Int → Int → Int → e_M → Prop} {x1 : Int} {x2 : Int} {x3 : Int} {x5 : Int} {x10 : Int} {x12 : Int} {x14 : Int} {x16 : Int} {M : e_M} (C : f_Hy sh t yX12_part rm cs 7 (lX12_part c_X12_px c_X12_py c_X12_sideOf c_X12_far c_X12_tidy) R) (h197 : ∀ (x1 : Int) (x2 : Int) (x3 : Int) (x5 : Int) (x10 : Int) (x12 : Int) (x14 : Int) (x16 : Int) (x17 : Int) (M : e_M), k197 x1 x2 x3 x5 x10 x12 x14 x16 x17 M → f_E sh t YX12_part rm cs (f_Q sh t R) 197 [.inr (.inr (.inl (12, 123, 4456))), .inl x1, .inl x2, .inl x3, .inr (.inr (.inr ())), .inl x5, .inr (.inr (.inr ())), .inr (.inr (.inr ())), .inr (.inr (.inr ())), .inr (.inr (.inr ())), .inr (.inl x10), .inr (.inr (.inr ())), .inr (.inl x12), .inr (.inr (.inr ())), .inl x14, .inr (.inr (.inr ())), .inl x16, .inl x17, .inr (.inr (.inr ()))] [] M) (h : VX12_part_194 c_X12_px c_X12_py c_X12_sideOf c_X12_far c_X12_tidy k197 (fun r M => R (some (.inl r)) M) x1 x2 x3 x5 x10 x12 x14 x16 M) : f_E sh t YX12_part rm cs (f_Q sh t R) 194 [.inr (.inr (.inl (12, 123, 4456))), .inl x1, .inl x2, .inl x3, .inr (.inr (.inr ())), .inl x5, .inr (.inr (.inr ())), .inr (.inr (.inr ())), .inr (.inr (.inr ())), .inr (.inr (.inr ())), .inr (.inl x10), .inr (.inr (.inr ())), .inr (.inl x12), .inr (.inr (.inr ())), .inl x14, .inr (.inr (.inr ())), .inl x16, .inr (.inr (.inr ())), .inr (.inr (.inr ()))] [] M :=
  f_go (KC := f_kc [(197, f_pl [(4466, 12, 123), (1, 0, 0), (1, 0, 0), (1, 0, 0), (0, 0, 0), (1, 0, 0), (0, 0, 0), (0, 0, 0), (0, 0, 0), (0, 0, 0), (2, 0, 0), (0, 0, 0), (2, 0, 0), (0, 0, 0), (1, 0, 0), (0, 0, 0), (1, 0, 0), (1, 0, 0), (0, 0, 0)] [] (fun ls st M => k197 (f_vi (f_nth ls 1)) (f_vi (f_nth ls 2)) (f_vi (f_nth ls 3)) (f_vi (f_nth ls 5)) (f_vi (f_nth ls 10)) (f_vi (f_nth ls 12)) (f_vi (f_nth ls 14)) (f_vi (f_nth ls 16)) (f_vi (f_nth ls 17)) M))]) C qX12_partf (f_kc_cons (f_pl_ok rfl (fun ls st M h => h197 _ _ _ _ _ _ _ _ _ M h)) f_kc_nil) 182 120 h
set_option maxRecDepth 20000 in
theorem BX12_part_197 {sh : Nat → Nat × Nat} {t : Nat} {rm : Nat × Nat × Nat} {cs : Nat × Nat} {R : f_Rt} {c_X12_px : Int → e_M → (Int → Prop) → Prop} {c_X12_py : Int → e_M → (Int → Prop) → Prop} {c_X12_sideOf : Int → Int → Int → Int → e_M → (Int → Prop) → Prop} {c_X12_far : Int → Int → Int → Int → e_M → (Int → Prop) → Prop} {c_X12_tidy : Int → Int → e_M → (Int → e_M → Prop) → Prop} {k246 : Int → Int → Int → Int → Int → Int → Int → Int → Int → Int → e_M → Prop} {k281 : Int → Int → Int → Int → Int → Int → Int → Int → Int → e_M → Prop} {x1 : Int} {x2 : Int} {x3 : Int} {x5 : Int} {x10 : Int} {x12 : Int} {x14 : Int} {x16 : Int} {x17 : Int} {M : e_M} (C : f_Hy sh t yX12_part rm cs 7 (lX12_part c_X12_px c_X12_py c_X12_sideOf c_X12_far c_X12_tidy) R) (h246 : ∀ (x1 : Int) (x2 : Int) (x3 : Int) (x5 : Int) (x10 : Int) (x12 : Int) (x14 : Int) (x16 : Int) (x17 : Int) (x18 : Int) (M : e_M), k246 x1 x2 x3 x5 x10 x12 x14 x16 x17 x18 M → f_E sh t YX12_part rm cs (f_Q sh t R) 246 [.inr (.inr (.inl (12, 123, 4456))), .inl x1, .inl x2, .inl x3, .inr (.inr (.inr ())), .inl x5, .inr (.inr (.inr ())), .inr (.inr (.inr ())), .inr (.inr (.inr ())), .inr (.inr (.inr ())), .inr (.inl x10), .inr (.inr (.inr ())), .inr (.inl x12), .inr (.inr (.inr ())), .inl x14, .inr (.inr (.inr ())), .inl x16, .inl x17, .inl x18] [] M) (h281 : ∀ (x1 : Int) (x2 : Int) (x3 : Int) (x5 : Int) (x10 : Int) (x12 : Int) (x14 : Int) (x16 : Int) (x17 : Int) (M : e_M), k281 x1 x2 x3 x5 x10 x12 x14 x16 x17 M → f_E sh t YX12_part rm cs (f_Q sh t R) 281 [.inr (.inr (.inl (12, 123, 4456))), .inl x1, .inl x2, .inl x3, .inr (.inr (.inr ())), .inl x5, .inr (.inr (.inr ())), .inr (.inr (.inr ())), .inr (.inr (.inr ())), .inr (.inr (.inr ())), .inr (.inl x10), .inr (.inr (.inr ())), .inr (.inl x12), .inr (.inr (.inr ())), .inl x14, .inr (.inr (.inr ())), .inl x16, .inl x17, .inr (.inr (.inr ()))] [] M) (h : VX12_part_197 c_X12_px c_X12_py c_X12_sideOf c_X12_far c_X12_tidy k246 k281 (fun r M => R (some (.inl r)) M) x1 x2 x3 x5 x10 x12 x14 x16 x17 M) : f_E sh t YX12_part rm cs (f_Q sh t R) 197 [.inr (.inr (.inl (12, 123, 4456))), .inl x1, .inl x2, .inl x3, .inr (.inr (.inr ())), .inl x5, .inr (.inr (.inr ())), .inr (.inr (.inr ())), .inr (.inr (.inr ())), .inr (.inr (.inr ())), .inr (.inl x10), .inr (.inr (.inr ())), .inr (.inl x12), .inr (.inr (.inr ())), .inl x14, .inr (.inr (.inr ())), .inl x16, .inl x17, .inr (.inr (.inr ()))] [] M :=
  f_go (KC := f_kc [(246, f_pl [(4466, 12, 123), (1, 0, 0), (1, 0, 0), (1, 0, 0), (0, 0, 0), (1, 0, 0), (0, 0, 0), (0, 0, 0), (0, 0, 0), (0, 0, 0), (2, 0, 0), (0, 0, 0), (2, 0, 0), (0, 0, 0), (1, 0, 0), (0, 0, 0), (1, 0, 0), (1, 0, 0), (1, 0, 0)] [] (fun ls st M => k246 (f_vi (f_nth ls 1)) (f_vi (f_nth ls 2)) (f_vi (f_nth ls 3)) (f_vi (f_nth ls 5)) (f_vi (f_nth ls 10)) (f_vi (f_nth ls 12)) (f_vi (f_nth ls 14)) (f_vi (f_nth ls 16)) (f_vi (f_nth ls 17)) (f_vi (f_nth ls 18)) M)), (281, f_pl [(4466, 12, 123), (1, 0, 0), (1, 0, 0), (1, 0, 0), (0, 0, 0), (1, 0, 0), (0, 0, 0), (0, 0, 0), (0, 0, 0), (0, 0, 0), (2, 0, 0), (0, 0, 0), (2, 0, 0), (0, 0, 0), (1, 0, 0), (0, 0, 0), (1, 0, 0), (1, 0, 0), (0, 0, 0)] [] (fun ls st M => k281 (f_vi (f_nth ls 1)) (f_vi (f_nth ls 2)) (f_vi (f_nth ls 3)) (f_vi (f_nth ls 5)) (f_vi (f_nth ls 10)) (f_vi (f_nth ls 12)) (f_vi (f_nth ls 14)) (f_vi (f_nth ls 16)) (f_vi (f_nth ls 17)) M))]) C qX12_partf (f_kc_cons (f_pl_ok rfl (fun ls st M h => h246 _ _ _ _ _ _ _ _ _ _ M h)) (f_kc_cons (f_pl_ok rfl (fun ls st M h => h281 _ _ _ _ _ _ _ _ _ M h)) f_kc_nil)) 182 123 h
set_option maxRecDepth 20000 in
theorem BX12_part_246 {sh : Nat → Nat × Nat} {t : Nat} {rm : Nat × Nat × Nat} {cs : Nat × Nat} {R : f_Rt} {c_X12_px : Int → e_M → (Int → Prop) → Prop} {c_X12_py : Int → e_M → (Int → Prop) → Prop} {c_X12_sideOf : Int → Int → Int → Int → e_M → (Int → Prop) → Prop} {c_X12_far : Int → Int → Int → Int → e_M → (Int → Prop) → Prop} {c_X12_tidy : Int → Int → e_M → (Int → e_M → Prop) → Prop} {k281 : Int → Int → Int → Int → Int → Int → Int → Int → Int → e_M → Prop} {x1 : Int} {x2 : Int} {x3 : Int} {x5 : Int} {x10 : Int} {x12 : Int} {x14 : Int} {x16 : Int} {x17 : Int} {x18 : Int} {M : e_M} (C : f_Hy sh t yX12_part rm cs 7 (lX12_part c_X12_px c_X12_py c_X12_sideOf c_X12_far c_X12_tidy) R) (h281 : ∀ (x1 : Int) (x2 : Int) (x3 : Int) (x5 : Int) (x10 : Int) (x12 : Int) (x14 : Int) (x16 : Int) (x17 : Int) (M : e_M), k281 x1 x2 x3 x5 x10 x12 x14 x16 x17 M → f_E sh t YX12_part rm cs (f_Q sh t R) 281 [.inr (.inr (.inl (12, 123, 4456))), .inl x1, .inl x2, .inl x3, .inr (.inr (.inr ())), .inl x5, .inr (.inr (.inr ())), .inr (.inr (.inr ())), .inr (.inr (.inr ())), .inr (.inr (.inr ())), .inr (.inl x10), .inr (.inr (.inr ())), .inr (.inl x12), .inr (.inr (.inr ())), .inl x14, .inr (.inr (.inr ())), .inl x16, .inl x17, .inr (.inr (.inr ()))] [] M) (h : VX12_part_246 c_X12_px c_X12_py c_X12_sideOf c_X12_far c_X12_tidy k281 (fun r M => R (some (.inl r)) M) x1 x2 x3 x5 x10 x12 x14 x16 x17 x18 M) : f_E sh t YX12_part rm cs (f_Q sh t R) 246 [.inr (.inr (.inl (12, 123, 4456))), .inl x1, .inl x2, .inl x3, .inr (.inr (.inr ())), .inl x5, .inr (.inr (.inr ())), .inr (.inr (.inr ())), .inr (.inr (.inr ())), .inr (.inr (.inr ())), .inr (.inl x10), .inr (.inr (.inr ())), .inr (.inl x12), .inr (.inr (.inr ())), .inl x14, .inr (.inr (.inr ())), .inl x16, .inl x17, .inl x18] [] M :=
  f_go (KC := f_kc [(281, f_pl [(4466, 12, 123), (1, 0, 0), (1, 0, 0), (1, 0, 0), (0, 0, 0), (1, 0, 0), (0, 0, 0), (0, 0, 0), (0, 0, 0), (0, 0, 0), (2, 0, 0), (0, 0, 0), (2, 0, 0), (0, 0, 0), (1, 0, 0), (0, 0, 0), (1, 0, 0), (1, 0, 0), (0, 0, 0)] [] (fun ls st M => k281 (f_vi (f_nth ls 1)) (f_vi (f_nth ls 2)) (f_vi (f_nth ls 3)) (f_vi (f_nth ls 5)) (f_vi (f_nth ls 10)) (f_vi (f_nth ls 12)) (f_vi (f_nth ls 14)) (f_vi (f_nth ls 16)) (f_vi (f_nth ls 17)) M))]) C qX12_partf (f_kc_cons (f_pl_ok rfl (fun ls st M h => h281 _ _ _ _ _ _ _ _ _ M h)) f_kc_nil) 182 151 h
set_option maxRecDepth 20000 in
theorem BX12_part_281 {sh : Nat → Nat × Nat} {t : Nat} {rm : Nat × Nat × Nat} {cs : Nat × Nat} {R : f_Rt} {c_X12_px : Int → e_M → (Int → Prop) → Prop} {c_X12_py : Int → e_M → (Int → Prop) → Prop} {c_X12_sideOf : Int → Int → Int → Int → e_M → (Int → Prop) → Prop} {c_X12_far : Int → Int → Int → Int → e_M → (Int → Prop) → Prop} {c_X12_tidy : Int → Int → e_M → (Int → e_M → Prop) → Prop} {k197 : Int → Int → Int → Int → Int → Int → Int → Int → Int → e_M → Prop} {x1 : Int} {x2 : Int} {x3 : Int} {x5 : Int} {x10 : Int} {x12 : Int} {x14 : Int} {x16 : Int} {x17 : Int} {M : e_M} (C : f_Hy sh t yX12_part rm cs 7 (lX12_part c_X12_px c_X12_py c_X12_sideOf c_X12_far c_X12_tidy) R) (h197 : ∀ (x1 : Int) (x2 : Int) (x3 : Int) (x5 : Int) (x10 : Int) (x12 : Int) (x14 : Int) (x16 : Int) (x17 : Int) (M : e_M), k197 x1 x2 x3 x5 x10 x12 x14 x16 x17 M → f_E sh t YX12_part rm cs (f_Q sh t R) 197 [.inr (.inr (.inl (12, 123, 4456))), .inl x1, .inl x2, .inl x3, .inr (.inr (.inr ())), .inl x5, .inr (.inr (.inr ())), .inr (.inr (.inr ())), .inr (.inr (.inr ())), .inr (.inr (.inr ())), .inr (.inl x10), .inr (.inr (.inr ())), .inr (.inl x12), .inr (.inr (.inr ())), .inl x14, .inr (.inr (.inr ())), .inl x16, .inl x17, .inr (.inr (.inr ()))] [] M) (h : VX12_part_281 c_X12_px c_X12_py c_X12_sideOf c_X12_far c_X12_tidy k197 (fun r M => R (some (.inl r)) M) x1 x2 x3 x5 x10 x12 x14 x16 x17 M) : f_E sh t YX12_part rm cs (f_Q sh t R) 281 [.inr (.inr (.inl (12, 123, 4456))), .inl x1, .inl x2, .inl x3, .inr (.inr (.inr ())), .inl x5, .inr (.inr (.inr ())), .inr (.inr (.inr ())), .inr (.inr (.inr ())), .inr (.inr (.inr ())), .inr (.inl x10), .inr (.inr (.inr ())), .inr (.inl x12), .inr (.inr (.inr ())), .inl x14, .inr (.inr (.inr ())), .inl x16, .inl x17, .inr (.inr (.inr ()))] [] M :=
  f_go (KC := f_kc [(197, f_pl [(4466, 12, 123), (1, 0, 0), (1, 0, 0), (1, 0, 0), (0, 0, 0), (1, 0, 0), (0, 0, 0), (0, 0, 0), (0, 0, 0), (0, 0, 0), (2, 0, 0), (0, 0, 0), (2, 0, 0), (0, 0, 0), (1, 0, 0), (0, 0, 0), (1, 0, 0), (1, 0, 0), (0, 0, 0)] [] (fun ls st M => k197 (f_vi (f_nth ls 1)) (f_vi (f_nth ls 2)) (f_vi (f_nth ls 3)) (f_vi (f_nth ls 5)) (f_vi (f_nth ls 10)) (f_vi (f_nth ls 12)) (f_vi (f_nth ls 14)) (f_vi (f_nth ls 16)) (f_vi (f_nth ls 17)) M))]) C qX12_partf (f_kc_cons (f_pl_ok rfl (fun ls st M h => h197 _ _ _ _ _ _ _ _ _ M h)) f_kc_nil) 182 173 h
set_option maxRecDepth 20000 in
theorem BX12_part {sh : Nat → Nat × Nat} {t : Nat} {rm : Nat × Nat × Nat} {cs : Nat × Nat} {R : f_Rt} {c_X12_px : Int → e_M → (Int → Prop) → Prop} {c_X12_py : Int → e_M → (Int → Prop) → Prop} {c_X12_sideOf : Int → Int → Int → Int → e_M → (Int → Prop) → Prop} {c_X12_far : Int → Int → Int → Int → e_M → (Int → Prop) → Prop} {c_X12_tidy : Int → Int → e_M → (Int → e_M → Prop) → Prop} {k6 : Int → Int → Int → Int → Int → Int → e_M → Prop} {x1 : Int} {x2 : Int} {x3 : Int} {x4 : Int} {M : e_M} (C : f_Hy sh t yX12_part rm cs 7 (lX12_part c_X12_px c_X12_py c_X12_sideOf c_X12_far c_X12_tidy) R) (h6 : ∀ (x1 : Int) (x2 : Int) (x3 : Int) (x4 : Int) (x5 : Int) (x6 : Int) (M : e_M), k6 x1 x2 x3 x4 x5 x6 M → f_E sh t YX12_part rm cs (f_Q sh t R) 6 [.inr (.inr (.inl (12, 123, 4456))), .inl x1, .inl x2, .inl x3, .inl x4, .inl x5, .inl x6, .inr (.inr (.inr ())), .inr (.inr (.inr ())), .inr (.inr (.inr ())), .inr (.inr (.inr ())), .inr (.inr (.inr ())), .inr (.inr (.inr ())), .inr (.inr (.inr ())), .inr (.inr (.inr ())), .inr (.inr (.inr ())), .inr (.inr (.inr ())), .inr (.inr (.inr ())), .inr (.inr (.inr ()))] [] M) (h : VX12_part c_X12_px c_X12_py c_X12_sideOf c_X12_far c_X12_tidy k6 (fun r M => R (some (.inl r)) M) x1 x2 x3 x4 M) : f_E sh t YX12_part rm cs (f_Q sh t R) 0 [.inr (.inr (.inl (12, 123, 4456))), .inl x1, .inl x2, .inl x3, .inl x4, .inr (.inr (.inr ())), .inr (.inr (.inr ())), .inr (.inr (.inr ())), .inr (.inr (.inr ())), .inr (.inr (.inr ())), .inr (.inr (.inr ())), .inr (.inr (.inr ())), .inr (.inr (.inr ())), .inr (.inr (.inr ())), .inr (.inr (.inr ())), .inr (.inr (.inr ())), .inr (.inr (.inr ())), .inr (.inr (.inr ())), .inr (.inr (.inr ()))] [] M :=
  f_go (KC := f_kc [(6, f_pl [(4466, 12, 123), (1, 0, 0), (1, 0, 0), (1, 0, 0), (1, 0, 0), (1, 0, 0), (1, 0, 0), (0, 0, 0), (0, 0, 0), (0, 0, 0), (0, 0, 0), (0, 0, 0), (0, 0, 0), (0, 0, 0), (0, 0, 0), (0, 0, 0), (0, 0, 0), (0, 0, 0), (0, 0, 0)] [] (fun ls st M => k6 (f_vi (f_nth ls 1)) (f_vi (f_nth ls 2)) (f_vi (f_nth ls 3)) (f_vi (f_nth ls 4)) (f_vi (f_nth ls 5)) (f_vi (f_nth ls 6)) M))]) C qX12_partf (f_kc_cons (f_pl_ok rfl (fun ls st M h => h6 _ _ _ _ _ _ M h)) f_kc_nil) 182 0 h
def WX12_part_281 (H197 : Int → Int → Int → Int → Int → Int → Int → Int → Int → e_M → Prop) (Q : Int → e_M → Prop) (x1 : Int) (x2 : Int) (x3 : Int) (x5 : Int) (x10 : Int) (x12 : Int) (x14 : Int) (x16 : Int) (x17 : Int) (M : e_M) : Prop :=
  VX12_part_281 WX12_px WX12_py WX12_sideOf WX12_far WX12_tidy H197 Q x1 x2 x3 x5 x10 x12 x14 x16 x17 M
def WX12_part_246 (H197 : Int → Int → Int → Int → Int → Int → Int → Int → Int → e_M → Prop) (Q : Int → e_M → Prop) (x1 : Int) (x2 : Int) (x3 : Int) (x5 : Int) (x10 : Int) (x12 : Int) (x14 : Int) (x16 : Int) (x17 : Int) (x18 : Int) (M : e_M) : Prop :=
  VX12_part_246 WX12_px WX12_py WX12_sideOf WX12_far WX12_tidy (WX12_part_281 H197 Q) Q x1 x2 x3 x5 x10 x12 x14 x16 x17 x18 M
def WX12_part_197 (Q : Int → e_M → Prop) : Nat → Int → Int → Int → Int → Int → Int → Int → Int → Int → e_M → Prop
  | 0, _, _, _, _, _, _, _, _, _, _ => False
  | n + 1, x1, x2, x3, x5, x10, x12, x14, x16, x17, M =>
    VX12_part_197 WX12_px WX12_py WX12_sideOf WX12_far WX12_tidy (WX12_part_246 (WX12_part_197 Q n) Q) (WX12_part_281 (WX12_part_197 Q n) Q) Q x1 x2 x3 x5 x10 x12 x14 x16 x17 M
def WX12_part_194 (Q : Int → e_M → Prop) (x1 : Int) (x2 : Int) (x3 : Int) (x5 : Int) (x10 : Int) (x12 : Int) (x14 : Int) (x16 : Int) (M : e_M) : Prop :=
  VX12_part_194 WX12_px WX12_py WX12_sideOf WX12_far WX12_tidy (fun x1 x2 x3 x5 x10 x12 x14 x16 x17 M => ∃ j, WX12_part_197 Q j x1 x2 x3 x5 x10 x12 x14 x16 x17 M) Q x1 x2 x3 x5 x10 x12 x14 x16 M
def WX12_part_34 (H6 : Int → Int → Int → Int → Int → Int → e_M → Prop) (Q : Int → e_M → Prop) (x1 : Int) (x2 : Int) (x3 : Int) (x4 : Int) (x5 : Int) (x6 : Int) (xs0 : Int) (M : e_M) : Prop :=
  VX12_part_34 WX12_px WX12_py WX12_sideOf WX12_far WX12_tidy H6 Q x1 x2 x3 x4 x5 x6 xs0 M
def WX12_part_6 (Q : Int → e_M → Prop) : Nat → Int → Int → Int → Int → Int → Int → e_M → Prop
  | 0, _, _, _, _, _, _, _ => False
  | n + 1, x1, x2, x3, x4, x5, x6, M =>
    VX12_part_6 WX12_px WX12_py WX12_sideOf WX12_far WX12_tidy (WX12_part_194 Q) (WX12_part_34 (WX12_part_6 Q n) Q) Q x1 x2 x3 x4 x5 x6 M
def WX12_part (x1 : Int) (x2 : Int) (x3 : Int) (x4 : Int) (M : e_M) (Q : Int → e_M → Prop) : Prop :=
  VX12_part WX12_px WX12_py WX12_sideOf WX12_far WX12_tidy (fun x1 x2 x3 x4 x5 x6 M => ∃ j, WX12_part_6 Q j x1 x2 x3 x4 x5 x6 M) Q x1 x2 x3 x4 M
theorem PX12_part_281 {sh : Nat → Nat × Nat} {t : Nat} {rm : Nat × Nat × Nat} {cs : Nat × Nat} {R : f_Rt} {H197 : Int → Int → Int → Int → Int → Int → Int → Int → Int → e_M → Prop} {x1 : Int} {x2 : Int} {x3 : Int} {x5 : Int} {x10 : Int} {x12 : Int} {x14 : Int} {x16 : Int} {x17 : Int} {M : e_M} (C : f_Hy sh t yX12_part rm cs 7 (lX12_part WX12_px WX12_py WX12_sideOf WX12_far WX12_tidy) R) (g197 : ∀ (x1 : Int) (x2 : Int) (x3 : Int) (x5 : Int) (x10 : Int) (x12 : Int) (x14 : Int) (x16 : Int) (x17 : Int) (M : e_M), H197 x1 x2 x3 x5 x10 x12 x14 x16 x17 M → f_E sh t YX12_part rm cs (f_Q sh t R) 197 [.inr (.inr (.inl (12, 123, 4456))), .inl x1, .inl x2, .inl x3, .inr (.inr (.inr ())), .inl x5, .inr (.inr (.inr ())), .inr (.inr (.inr ())), .inr (.inr (.inr ())), .inr (.inr (.inr ())), .inr (.inl x10), .inr (.inr (.inr ())), .inr (.inl x12), .inr (.inr (.inr ())), .inl x14, .inr (.inr (.inr ())), .inl x16, .inl x17, .inr (.inr (.inr ()))] [] M) (h : WX12_part_281 H197 (fun r M => R (some (.inl r)) M) x1 x2 x3 x5 x10 x12 x14 x16 x17 M) : f_E sh t YX12_part rm cs (f_Q sh t R) 281 [.inr (.inr (.inl (12, 123, 4456))), .inl x1, .inl x2, .inl x3, .inr (.inr (.inr ())), .inl x5, .inr (.inr (.inr ())), .inr (.inr (.inr ())), .inr (.inr (.inr ())), .inr (.inr (.inr ())), .inr (.inl x10), .inr (.inr (.inr ())), .inr (.inl x12), .inr (.inr (.inr ())), .inl x14, .inr (.inr (.inr ())), .inl x16, .inl x17, .inr (.inr (.inr ()))] [] M :=
  BX12_part_281 C g197 h
theorem PX12_part_246 {sh : Nat → Nat × Nat} {t : Nat} {rm : Nat × Nat × Nat} {cs : Nat × Nat} {R : f_Rt} {H197 : Int → Int → Int → Int → Int → Int → Int → Int → Int → e_M → Prop} {x1 : Int} {x2 : Int} {x3 : Int} {x5 : Int} {x10 : Int} {x12 : Int} {x14 : Int} {x16 : Int} {x17 : Int} {x18 : Int} {M : e_M} (C : f_Hy sh t yX12_part rm cs 7 (lX12_part WX12_px WX12_py WX12_sideOf WX12_far WX12_tidy) R) (g197 : ∀ (x1 : Int) (x2 : Int) (x3 : Int) (x5 : Int) (x10 : Int) (x12 : Int) (x14 : Int) (x16 : Int) (x17 : Int) (M : e_M), H197 x1 x2 x3 x5 x10 x12 x14 x16 x17 M → f_E sh t YX12_part rm cs (f_Q sh t R) 197 [.inr (.inr (.inl (12, 123, 4456))), .inl x1, .inl x2, .inl x3, .inr (.inr (.inr ())), .inl x5, .inr (.inr (.inr ())), .inr (.inr (.inr ())), .inr (.inr (.inr ())), .inr (.inr (.inr ())), .inr (.inl x10), .inr (.inr (.inr ())), .inr (.inl x12), .inr (.inr (.inr ())), .inl x14, .inr (.inr (.inr ())), .inl x16, .inl x17, .inr (.inr (.inr ()))] [] M) (h : WX12_part_246 H197 (fun r M => R (some (.inl r)) M) x1 x2 x3 x5 x10 x12 x14 x16 x17 x18 M) : f_E sh t YX12_part rm cs (f_Q sh t R) 246 [.inr (.inr (.inl (12, 123, 4456))), .inl x1, .inl x2, .inl x3, .inr (.inr (.inr ())), .inl x5, .inr (.inr (.inr ())), .inr (.inr (.inr ())), .inr (.inr (.inr ())), .inr (.inr (.inr ())), .inr (.inl x10), .inr (.inr (.inr ())), .inr (.inl x12), .inr (.inr (.inr ())), .inl x14, .inr (.inr (.inr ())), .inl x16, .inl x17, .inl x18] [] M :=
  BX12_part_246 C (fun x1 x2 x3 x5 x10 x12 x14 x16 x17 M h => PX12_part_281 C g197 h) h
theorem PX12_part_197 {sh : Nat → Nat × Nat} {t : Nat} {rm : Nat × Nat × Nat} {cs : Nat × Nat} {R : f_Rt} (C : f_Hy sh t yX12_part rm cs 7 (lX12_part WX12_px WX12_py WX12_sideOf WX12_far WX12_tidy) R) : ∀ (n : Nat) (x1 : Int) (x2 : Int) (x3 : Int) (x5 : Int) (x10 : Int) (x12 : Int) (x14 : Int) (x16 : Int) (x17 : Int) (M : e_M), WX12_part_197 (fun r M => R (some (.inl r)) M) n x1 x2 x3 x5 x10 x12 x14 x16 x17 M → f_E sh t YX12_part rm cs (f_Q sh t R) 197 [.inr (.inr (.inl (12, 123, 4456))), .inl x1, .inl x2, .inl x3, .inr (.inr (.inr ())), .inl x5, .inr (.inr (.inr ())), .inr (.inr (.inr ())), .inr (.inr (.inr ())), .inr (.inr (.inr ())), .inr (.inl x10), .inr (.inr (.inr ())), .inr (.inl x12), .inr (.inr (.inr ())), .inl x14, .inr (.inr (.inr ())), .inl x16, .inl x17, .inr (.inr (.inr ()))] [] M := by
  intro n
  induction n with
  | zero => intro x1 x2 x3 x5 x10 x12 x14 x16 x17 M h; exact h.elim
  | succ n ih => intro x1 x2 x3 x5 x10 x12 x14 x16 x17 M h; exact BX12_part_197 C (fun x1 x2 x3 x5 x10 x12 x14 x16 x17 x18 M h => PX12_part_246 C ih h) (fun x1 x2 x3 x5 x10 x12 x14 x16 x17 M h => PX12_part_281 C ih h) h
theorem PX12_part_194 {sh : Nat → Nat × Nat} {t : Nat} {rm : Nat × Nat × Nat} {cs : Nat × Nat} {R : f_Rt} {x1 : Int} {x2 : Int} {x3 : Int} {x5 : Int} {x10 : Int} {x12 : Int} {x14 : Int} {x16 : Int} {M : e_M} (C : f_Hy sh t yX12_part rm cs 7 (lX12_part WX12_px WX12_py WX12_sideOf WX12_far WX12_tidy) R) (h : WX12_part_194 (fun r M => R (some (.inl r)) M) x1 x2 x3 x5 x10 x12 x14 x16 M) : f_E sh t YX12_part rm cs (f_Q sh t R) 194 [.inr (.inr (.inl (12, 123, 4456))), .inl x1, .inl x2, .inl x3, .inr (.inr (.inr ())), .inl x5, .inr (.inr (.inr ())), .inr (.inr (.inr ())), .inr (.inr (.inr ())), .inr (.inr (.inr ())), .inr (.inl x10), .inr (.inr (.inr ())), .inr (.inl x12), .inr (.inr (.inr ())), .inl x14, .inr (.inr (.inr ())), .inl x16, .inr (.inr (.inr ())), .inr (.inr (.inr ()))] [] M :=
  BX12_part_194 C (fun x1 x2 x3 x5 x10 x12 x14 x16 x17 M ⟨j, h⟩ => PX12_part_197 C j _ _ _ _ _ _ _ _ _ _ h) h
theorem PX12_part_34 {sh : Nat → Nat × Nat} {t : Nat} {rm : Nat × Nat × Nat} {cs : Nat × Nat} {R : f_Rt} {H6 : Int → Int → Int → Int → Int → Int → e_M → Prop} {x1 : Int} {x2 : Int} {x3 : Int} {x4 : Int} {x5 : Int} {x6 : Int} {xs0 : Int} {M : e_M} (C : f_Hy sh t yX12_part rm cs 7 (lX12_part WX12_px WX12_py WX12_sideOf WX12_far WX12_tidy) R) (g6 : ∀ (x1 : Int) (x2 : Int) (x3 : Int) (x4 : Int) (x5 : Int) (x6 : Int) (M : e_M), H6 x1 x2 x3 x4 x5 x6 M → f_E sh t YX12_part rm cs (f_Q sh t R) 6 [.inr (.inr (.inl (12, 123, 4456))), .inl x1, .inl x2, .inl x3, .inl x4, .inl x5, .inl x6, .inr (.inr (.inr ())), .inr (.inr (.inr ())), .inr (.inr (.inr ())), .inr (.inr (.inr ())), .inr (.inr (.inr ())), .inr (.inr (.inr ())), .inr (.inr (.inr ())), .inr (.inr (.inr ())), .inr (.inr (.inr ())), .inr (.inr (.inr ())), .inr (.inr (.inr ())), .inr (.inr (.inr ()))] [] M) (h : WX12_part_34 H6 (fun r M => R (some (.inl r)) M) x1 x2 x3 x4 x5 x6 xs0 M) : f_E sh t YX12_part rm cs (f_Q sh t R) 34 [.inr (.inr (.inl (12, 123, 4456))), .inl x1, .inl x2, .inl x3, .inl x4, .inl x5, .inl x6, .inr (.inr (.inr ())), .inr (.inr (.inr ())), .inr (.inr (.inr ())), .inr (.inr (.inr ())), .inr (.inr (.inr ())), .inr (.inr (.inr ())), .inr (.inr (.inr ())), .inr (.inr (.inr ())), .inr (.inr (.inr ())), .inr (.inr (.inr ())), .inr (.inr (.inr ())), .inr (.inr (.inr ()))] [.inl xs0] M :=
  BX12_part_34 C g6 h
theorem PX12_part_6 {sh : Nat → Nat × Nat} {t : Nat} {rm : Nat × Nat × Nat} {cs : Nat × Nat} {R : f_Rt} (C : f_Hy sh t yX12_part rm cs 7 (lX12_part WX12_px WX12_py WX12_sideOf WX12_far WX12_tidy) R) : ∀ (n : Nat) (x1 : Int) (x2 : Int) (x3 : Int) (x4 : Int) (x5 : Int) (x6 : Int) (M : e_M), WX12_part_6 (fun r M => R (some (.inl r)) M) n x1 x2 x3 x4 x5 x6 M → f_E sh t YX12_part rm cs (f_Q sh t R) 6 [.inr (.inr (.inl (12, 123, 4456))), .inl x1, .inl x2, .inl x3, .inl x4, .inl x5, .inl x6, .inr (.inr (.inr ())), .inr (.inr (.inr ())), .inr (.inr (.inr ())), .inr (.inr (.inr ())), .inr (.inr (.inr ())), .inr (.inr (.inr ())), .inr (.inr (.inr ())), .inr (.inr (.inr ())), .inr (.inr (.inr ())), .inr (.inr (.inr ())), .inr (.inr (.inr ())), .inr (.inr (.inr ()))] [] M := by
  intro n
  induction n with
  | zero => intro x1 x2 x3 x4 x5 x6 M h; exact h.elim
  | succ n ih => intro x1 x2 x3 x4 x5 x6 M h; exact BX12_part_6 C (fun x1 x2 x3 x5 x10 x12 x14 x16 M h => PX12_part_194 C h) (fun x1 x2 x3 x4 x5 x6 xs0 M h => PX12_part_34 C ih h) h
theorem PX12_part {sh : Nat → Nat × Nat} {t : Nat} {rm : Nat × Nat × Nat} {cs : Nat × Nat} {R : f_Rt} {x1 : Int} {x2 : Int} {x3 : Int} {x4 : Int} {M : e_M} (C : f_Hy sh t yX12_part rm cs 7 (lX12_part WX12_px WX12_py WX12_sideOf WX12_far WX12_tidy) R) (h : WX12_part x1 x2 x3 x4 M (fun r M => R (some (.inl r)) M)) : f_E sh t YX12_part rm cs (f_Q sh t R) 0 [.inr (.inr (.inl (12, 123, 4456))), .inl x1, .inl x2, .inl x3, .inl x4, .inr (.inr (.inr ())), .inr (.inr (.inr ())), .inr (.inr (.inr ())), .inr (.inr (.inr ())), .inr (.inr (.inr ())), .inr (.inr (.inr ())), .inr (.inr (.inr ())), .inr (.inr (.inr ())), .inr (.inr (.inr ())), .inr (.inr (.inr ())), .inr (.inr (.inr ())), .inr (.inr (.inr ())), .inr (.inr (.inr ())), .inr (.inr (.inr ()))] [] M :=
  BX12_part C (fun x1 x2 x3 x4 x5 x6 M ⟨j, h⟩ => PX12_part_6 C j _ _ _ _ _ _ _ h) h
def wX12_part : f_Wt := f_wm [(4466, 12, 123), (1, 0, 0), (1, 0, 0), (1, 0, 0), (1, 0, 0)] (fun ar M R => WX12_part (f_vi (f_nth ar 1)) (f_vi (f_nth ar 2)) (f_vi (f_nth ar 3)) (f_vi (f_nth ar 4)) M (fun r M => R (some (.inl r)) M))
theorem TX12_part {sh : Nat → Nat × Nat} {t : Nat} : f_Mt sh t YX12_part 7 (wX12_part) :=
  f_Mt_of (k := 14) (Nat.le_of_ble_eq_true rfl) rfl rfl (fun ar M R rm cs h1 h2 h3 hX h => PX12_part ⟨Nat.le_of_ble_eq_true rfl, h1, h2, h3, ⟨(f_Mt.up (Nat.le_of_ble_eq_true rfl) TX12_px), (f_Mt.up (Nat.le_of_ble_eq_true rfl) TX12_py), (f_Mt.up (Nat.le_of_ble_eq_true rfl) TX12_sideOf), (f_Mt.up (Nat.le_of_ble_eq_true rfl) TX12_far), (f_Mt.up (Nat.le_of_ble_eq_true rfl) TX12_tidy), trivial⟩, hX⟩ h)
def VX12_cuts_66 (c_X12_px : Int → e_M → (Int → Prop) → Prop) (c_X12_py : Int → e_M → (Int → Prop) → Prop) (c_X12_lieAt : Int → Int → Int → Int → Int → e_M → (Int → Prop) → Prop) (c_X12_clear : Int → Int → Int → e_M → (Int → Prop) → Prop) (c_X12_touch : Int → Int → e_M → (Int → Prop) → Prop) (c_X12_part : Int → Int → Int → Int → e_M → (Int → e_M → Prop) → Prop) (k69 : Int → Int → Int → Int → e_M → Prop) (Q : Int → e_M → Prop) (x1 : Int) (x2 : Int) (x4 : Int) (M : e_M) : Prop :=
  (k69 x1 x2 x4 0 M)
def VX12_cuts_69 (c_X12_px : Int → e_M → (Int → Prop) → Prop) (c_X12_py : Int → e_M → (Int → Prop) → Prop) (c_X12_lieAt : Int → Int → Int → Int → Int → e_M → (Int → Prop) → Prop) (c_X12_clear : Int → Int → Int → e_M → (Int → Prop) → Prop) (c_X12_touch : Int → Int → e_M → (Int → Prop) → Prop) (c_X12_part : Int → Int → Int → Int → e_M → (Int → e_M → Prop) → Prop) (k128 : Int → Int → Int → Int → e_M → Prop) (k109 : Int → Int → Int → Int → Int → e_M → Prop) (k114 : Int → Int → Int → Int → Int → Int → e_M → Prop) (Q : Int → e_M → Prop) (x1 : Int) (x2 : Int) (x4 : Int) (x5 : Int) (M : e_M) : Prop :=
  (((M 4456 45) ≤ x5 → (k128 x1 x2 x4 0 M)) ∧ (x5 < (M 4456 45) → (c_X12_px x5 M (fun r1 => (c_X12_py x5 M (fun r2 => (c_X12_lieAt x1 x2 r1 r2 1 M (fun r3 => ((x5 = 0 → (k109 x1 x2 x4 x5 r3 M)) ∧ (¬ x5 = 0 → ((¬ x5 = x4 → (k114 x1 x2 x4 x5 2 r3 M)) ∧ (x5 = x4 → (k109 x1 x2 x4 x5 r3 M)))))))))))))
def VX12_cuts_109 (c_X12_px : Int → e_M → (Int → Prop) → Prop) (c_X12_py : Int → e_M → (Int → Prop) → Prop) (c_X12_lieAt : Int → Int → Int → Int → Int → e_M → (Int → Prop) → Prop) (c_X12_clear : Int → Int → Int → e_M → (Int → Prop) → Prop) (c_X12_touch : Int → Int → e_M → (Int → Prop) → Prop) (c_X12_part : Int → Int → Int → Int → e_M → (Int → e_M → Prop) → Prop) (k114 : Int → Int → Int → Int → Int → Int → e_M → Prop) (Q : Int → e_M → Prop) (x1 : Int) (x2 : Int) (x4 : Int) (x5 : Int) (xs0 : Int) (M : e_M) : Prop :=
  (k114 x1 x2 x4 x5 1 xs0 M)
def VX12_cuts_114 (c_X12_px : Int → e_M → (Int → Prop) → Prop) (c_X12_py : Int → e_M → (Int → Prop) → Prop) (c_X12_lieAt : Int → Int → Int → Int → Int → e_M → (Int → Prop) → Prop) (c_X12_clear : Int → Int → Int → e_M → (Int → Prop) → Prop) (c_X12_touch : Int → Int → e_M → (Int → Prop) → Prop) (c_X12_part : Int → Int → Int → Int → e_M → (Int → e_M → Prop) → Prop) (k69 : Int → Int → Int → Int → e_M → Prop) (Q : Int → e_M → Prop) (x1 : Int) (x2 : Int) (x4 : Int) (x5 : Int) (xs1 : Int) (xs0 : Int) (M : e_M) : Prop :=
  ((xs0 = xs1 → (k69 x1 x2 x4 (e_w32 (x5 + 1)) M)) ∧ (¬ xs0 = xs1 → (Q 0 M)))
def VX12_cuts_128 (c_X12_px : Int → e_M → (Int → Prop) → Prop) (c_X12_py : Int → e_M → (Int → Prop) → Prop) (c_X12_lieAt : Int → Int → Int → Int → Int → e_M → (Int → Prop) → Prop) (c_X12_clear : Int → Int → Int → e_M → (Int → Prop) → Prop) (c_X12_touch : Int → Int → e_M → (Int → Prop) → Prop) (c_X12_part : Int → Int → Int → Int → e_M → (Int → e_M → Prop) → Prop) (k154 : Int → Int → Int → Int → Int → e_M → Prop) (Q : Int → e_M → Prop) (x1 : Int) (x2 : Int) (x4 : Int) (x5 : Int) (M : e_M) : Prop :=
  ((x4 ≤ x5 → (c_X12_part 3600 x1 x2 1 M (fun r1 M2 => (∀ M3 : e_M, M3 = e_up M2 4456 42 r1 → (c_X12_part 4000 x1 x2 0 M3 (fun r4 M5 => (∀ M6 : e_M, M6 = e_up M5 4456 43 r4 → ((40 < (M6 4456 42) → (Q 0 M6)) ∧ ((M6 4456 42) ≤ 40 → ((40 < (M6 4456 43) → (Q 0 M6)) ∧ ((M6 4456 43) ≤ 40 → (Q 1 M6)))))))))))) ∧ (x5 < x4 → (c_X12_clear x1 x2 x5 M (fun r7 => ((¬ r7 = 0 → (k154 x1 x2 x4 x5 (e_w32 (x5 + 1)) M)) ∧ (r7 = 0 → (Q 0 M)))))))
def VX12_cuts_154 (c_X12_px : Int → e_M → (Int → Prop) → Prop) (c_X12_py : Int → e_M → (Int → Prop) → Prop) (c_X12_lieAt : Int → Int → Int → Int → Int → e_M → (Int → Prop) → Prop) (c_X12_clear : Int → Int → Int → e_M → (Int → Prop) → Prop) (c_X12_touch : Int → Int → e_M → (Int → Prop) → Prop) (c_X12_part : Int → Int → Int → Int → e_M → (Int → e_M → Prop) → Prop) (k128 : Int → Int → Int → Int → e_M → Prop) (k154 : Int → Int → Int → Int → Int → e_M → Prop) (Q : Int → e_M → Prop) (x1 : Int) (x2 : Int) (x4 : Int) (x5 : Int) (x6 : Int) (M : e_M) : Prop :=
  ((x4 ≤ x6 → (k128 x1 x2 x4 (e_w32 (x5 + 1)) M)) ∧ (x6 < x4 → (c_X12_touch x5 x6 M (fun r1 => ((r1 = 0 → (k154 x1 x2 x4 x5 (e_w32 (x6 + 1)) M)) ∧ (¬ r1 = 0 → (Q 0 M)))))))
def VX12_cuts (c_X12_px : Int → e_M → (Int → Prop) → Prop) (c_X12_py : Int → e_M → (Int → Prop) → Prop) (c_X12_lieAt : Int → Int → Int → Int → Int → e_M → (Int → Prop) → Prop) (c_X12_clear : Int → Int → Int → e_M → (Int → Prop) → Prop) (c_X12_touch : Int → Int → e_M → (Int → Prop) → Prop) (c_X12_part : Int → Int → Int → Int → e_M → (Int → e_M → Prop) → Prop) (k66 : Int → Int → Int → e_M → Prop) (Q : Int → e_M → Prop) (x1 : Int) (x2 : Int) (x3 : Int) (M : e_M) : Prop :=
  (∀ M1 : e_M, M1 = e_up M 4456 44 (e_w32 ((12 : Int) * x3)) → ((0 ≤ x3 ∧ x3 < 152) ∧ (∀ M2 : e_M, M2 = e_up M1 4456 45 (M1 4474 (x3.toNat)) → (((M2 4456 45) < 2 → (Q 0 M2)) ∧ (2 ≤ (M2 4456 45) → (c_X12_px 0 M2 (fun r3 => (c_X12_px (e_w32 ((M2 4456 45) - 1)) M2 (fun r4 => ((¬ r3 = r4 → (k66 x1 x2 (e_w32 ((M2 4456 45) - 1)) M2)) ∧ (r3 = r4 → (c_X12_py 0 M2 (fun r5 => (c_X12_py (e_w32 ((M2 4456 45) - 1)) M2 (fun r6 => ((¬ r5 = r6 → (k66 x1 x2 (e_w32 ((M2 4456 45) - 1)) M2)) ∧ (r5 = r6 → (Q 0 M2))))))))))))))))))
def yX12_cuts (i : Nat) : e_Y := x_get YX12_cuts [YX12_px, YX12_py, YX12_lieAt, YX12_clear, YX12_touch, YX12_part] i
def pX12_cutsf : List x_I := [(0, 4, 1, 0, 0, 0, []), (1, 0, 2, 0, 0, 12, []), (3, 2, 1, 3, 0, 0, []), (4, 9, 0, 2, 0, 0, []), (5, 26, 12, 44, 0, 0, []), (8, 4, 1, 0, 0, 0, []), (9, 4, 1, 0, 0, 0, []), (10, 25, 12, 27, 4, 0, [(0, 20, 152), (0, 1, 18)]), (13, 2, 1, 3, 0, 0, []), (14, 27, 0, 0, 0, 0, []), (15, 26, 12, 45, 0, 0, []), (18, 4, 1, 0, 0, 0, []), (19, 25, 12, 45, 0, 0, []), (22, 0, 1, 0, 0, 1, []), (23, 9, 0, 1, 0, 0, []), (24, 5, 2, 4, 0, 0, []), (26, 4, 1, 0, 0, 0, []), (27, 25, 12, 45, 0, 0, []), (30, 0, 1, 0, 0, 2, []), (31, 18, 64, 2, 35, 0, []), (34, 4, 1, 0, 0, 0, []), (35, 0, 1, 0, 0, 0, []), (36, 40, 0, 2, 14, 0, []), (39, 4, 1, 0, 0, 0, []), (40, 2, 2, 4, 0, 0, []), (42, 40, 0, 2, 14, 0, []), (45, 32, 66, 1, 37, 0, []), (49, 4, 1, 0, 0, 0, []), (50, 0, 1, 0, 0, 0, []), (51, 40, 1, 2, 14, 0, []), (54, 4, 1, 0, 0, 0, []), (55, 2, 2, 4, 0, 0, []), (57, 40, 1, 2, 14, 0, []), (60, 32, 66, 1, 37, 0, []), (64, 0, 1, 0, 0, 0, []), (65, 48, 0, 0, 0, 0, []), (66, 49, 0, 0, 0, 0, []), (66, 0, 1, 0, 0, 0, []), (67, 5, 2, 5, 0, 0, []), (69, 49, 0, 0, 0, 0, []), (69, 2, 2, 5, 0, 0, []), (71, 4, 1, 0, 0, 0, []), (72, 25, 12, 45, 0, 0, []), (75, 18, 125, 3, 71, 0, []), (78, 4, 1, 0, 0, 0, []), (79, 2, 1, 1, 0, 0, []), (80, 2, 1, 2, 0, 0, []), (81, 4, 1, 0, 0, 0, []), (82, 2, 2, 5, 0, 0, []), (84, 40, 0, 2, 14, 0, []), (87, 4, 1, 0, 0, 0, []), (88, 2, 2, 5, 0, 0, []), (90, 40, 1, 2, 14, 0, []), (93, 0, 1, 0, 0, 1, []), (94, 40, 2, 6, 14, 0, []), (97, 2, 2, 5, 0, 0, []), (99, 17, 109, 0, 61, 0, []), (102, 2, 2, 5, 0, 0, []), (104, 2, 2, 4, 0, 0, []), (106, 18, 113, 1, 64, 0, []), (109, 49, 0, 0, 0, 0, []), (109, 0, 1, 0, 0, 1, []), (110, 19, 114, 0, 65, 0, []), (113, 0, 1, 0, 0, 2, []), (114, 49, 0, 0, 0, 0, []), (114, 18, 119, 0, 69, 0, []), (117, 0, 1, 0, 0, 0, []), (118, 48, 0, 0, 0, 0, []), (119, 8, 0, 5, 0, 1, []), (122, 19, 69, 0, 40, 0, []), (125, 0, 1, 0, 0, 0, []), (126, 5, 2, 5, 0, 0, []), (128, 49, 0, 0, 0, 0, []), (128, 2, 2, 5, 0, 0, []), (130, 2, 2, 4, 0, 0, []), (132, 18, 186, 3, 104, 0, []), (135, 4, 1, 0, 0, 0, []), (136, 2, 1, 1, 0, 0, []), (137, 2, 1, 2, 0, 0, []), (138, 2, 2, 5, 0, 0, []), (140, 40, 3, 4, 14, 0, []), (143, 17, 148, 1, 85, 0, []), (146, 0, 1, 0, 0, 0, []), (147, 48, 0, 0, 0, 0, []), (148, 2, 2, 5, 0, 0, []), (150, 0, 1, 0, 0, 1, []), (151, 9, 0, 0, 0, 0, []), (152, 5, 2, 6, 0, 0, []), (154, 49, 0, 0, 0, 0, []), (154, 2, 2, 6, 0, 0, []), (156, 2, 2, 4, 0, 0, []), (158, 18, 180, 3, 102, 0, []), (161, 4, 1, 0, 0, 0, []), (162, 2, 2, 5, 0, 0, []), (164, 2, 2, 6, 0, 0, []), (166, 40, 4, 3, 14, 0, []), (169, 17, 174, 0, 100, 0, []), (172, 0, 1, 0, 0, 0, []), (173, 48, 0, 0, 0, 0, []), (174, 8, 0, 6, 0, 1, []), (177, 19, 154, 0, 89, 0, []), (180, 8, 0, 5, 0, 1, []), (183, 19, 128, 0, 73, 0, []), (186, 4, 1, 0, 0, 0, []), (187, 4, 1, 0, 0, 0, []), (188, 0, 3, 0, 0, 3600, []), (191, 2, 1, 1, 0, 0, []), (192, 2, 1, 2, 0, 0, []), (193, 0, 1, 0, 0, 1, []), (194, 40, 5, 5, 14, 0, []), (197, 26, 12, 42, 0, 0, []), (200, 4, 1, 0, 0, 0, []), (201, 4, 1, 0, 0, 0, []), (202, 0, 3, 0, 0, 4000, []), (205, 2, 1, 1, 0, 0, []), (206, 2, 1, 2, 0, 0, []), (207, 0, 1, 0, 0, 0, []), (208, 40, 5, 5, 14, 0, []), (211, 26, 12, 43, 0, 0, []), (214, 4, 1, 0, 0, 0, []), (215, 25, 12, 42, 0, 0, []), (218, 0, 2, 0, 0, 40, []), (220, 18, 236, 4, 130, 0, []), (223, 4, 1, 0, 0, 0, []), (224, 25, 12, 43, 0, 0, []), (227, 0, 2, 0, 0, 40, []), (229, 18, 236, 4, 130, 0, []), (232, 0, 1, 0, 0, 1, []), (233, 19, 237, 0, 131, 0, []), (236, 0, 1, 0, 0, 0, []), (237, 48, 0, 0, 0, 0, [])]
set_option maxRecDepth 20000 in
theorem qX12_cutsf : f_all yX12_cuts YX12_cuts pX12_cutsf :=
  ⟨f_aload_n (n := 0) (e_dx DX12_cuts_0 0 rfl) rfl,
  f_bipush (e_dx DX12_cuts_0 1 rfl) ⟨by decide, by decide⟩,
  f_iload_n (n := 3) (e_dx DX12_cuts_0 2 rfl) rfl,
  f_imul (e_dx DX12_cuts_0 3 rfl),
  f_putn (e_dx DX12_cuts_0 4 rfl) fX12_439 (fun q hq => by cases hq; rfl) rfl (Or.inl rfl) (by decide),
  f_aload_n (n := 0) (e_dx DX12_cuts_0 5 rfl) rfl,
  f_aload_n (n := 0) (e_dx DX12_cuts_0 6 rfl) rfl,
  f_getA (e_dx DX12_cuts_0 7 rfl) fX12_63 rfl (by decide) (Nat.le_of_ble_eq_true rfl) rfl (by decide),
  f_iload_n (n := 3) (e_dx DX12_cuts_0 8 rfl) rfl,
  f_iaload (e_dx DX12_cuts_0 9 rfl),
  f_putn (e_dx DX12_cuts_0 10 rfl) fX12_442 (fun q hq => by cases hq; rfl) rfl (Or.inl rfl) (by decide),
  f_aload_n (n := 0) (e_dx DX12_cuts_0 11 rfl) rfl,
  f_getf (e_dx DX12_cuts_0 12 rfl) fX12_442 rfl (by decide) (by decide) (by decide),
  f_iconst (e_dx DX12_cuts_0 13 rfl) ⟨by decide, by decide⟩,
  f_isub (e_dx DX12_cuts_0 14 rfl),
  f_istore (e_dx DX12_cuts_0 15 rfl) (by decide),
  f_aload_n (n := 0) (e_dx DX12_cuts_0 16 rfl) rfl,
  f_getf (e_dx DX12_cuts_0 17 rfl) fX12_442 rfl (by decide) (by decide) (by decide),
  f_iconst (e_dx DX12_cuts_0 18 rfl) ⟨by decide, by decide⟩,
  f_icmp_lt (e_dx DX12_cuts_0 19 rfl) rfl,
  f_aload_n (n := 0) (e_dx DX12_cuts_0 20 rfl) rfl,
  f_iconst (e_dx DX12_cuts_0 21 rfl) ⟨by decide, by decide⟩,
  x_callV (e_dx DX12_cuts_0 22 rfl) mwX12_px vwX12_px cX12_445 rfl,
  f_aload_n (n := 0) (e_dx DX12_cuts_0 23 rfl) rfl,
  f_iload (e_dx DX12_cuts_0 24 rfl),
  x_callV (e_dx DX12_cuts_0 25 rfl) mwX12_px vwX12_px cX12_445 rfl,
  f_lif_ne (e_dx DX12_cuts_0 26 rfl) (e_dx DX12_cuts_0 27 rfl) rfl,
  f_aload_n (n := 0) (e_dx DX12_cuts_0 28 rfl) rfl,
  f_iconst (e_dx DX12_cuts_0 29 rfl) ⟨by decide, by decide⟩,
  x_callV (e_dx DX12_cuts_0 30 rfl) mwX12_py vwX12_py cX12_449 rfl,
  f_aload_n (n := 0) (e_dx DX12_cuts_0 31 rfl) rfl,
  f_iload (e_dx DX12_cuts_0 32 rfl),
  x_callV (e_dx DX12_cuts_0 33 rfl) mwX12_py vwX12_py cX12_449 rfl,
  f_lif_ne (e_dx DX12_cuts_0 34 rfl) (e_dx DX12_cuts_0 35 rfl) rfl,
  f_iconst (e_dx DX12_cuts_0 36 rfl) ⟨by decide, by decide⟩,
  ⟨(e_dx DX12_cuts_0 37 rfl), rfl⟩,
  trivial,
  f_iconst (e_dx DX12_cuts_0 38 rfl) ⟨by decide, by decide⟩,
  f_istore (e_dx DX12_cuts_0 39 rfl) (by decide),
  trivial,
  f_iload (e_dx DX12_cuts_1 0 rfl),
  f_aload_n (n := 0) (e_dx DX12_cuts_1 1 rfl) rfl,
  f_getf (e_dx DX12_cuts_1 2 rfl) fX12_442 rfl (by decide) (by decide) (by decide),
  f_icmp_ge (e_dx DX12_cuts_1 3 rfl) rfl,
  f_aload_n (n := 0) (e_dx DX12_cuts_1 4 rfl) rfl,
  f_iload_n (n := 1) (e_dx DX12_cuts_1 5 rfl) rfl,
  f_iload_n (n := 2) (e_dx DX12_cuts_1 6 rfl) rfl,
  f_aload_n (n := 0) (e_dx DX12_cuts_1 7 rfl) rfl,
  f_iload (e_dx DX12_cuts_1 8 rfl),
  x_callV (e_dx DX12_cuts_1 9 rfl) mwX12_px vwX12_px cX12_445 rfl,
  f_aload_n (n := 0) (e_dx DX12_cuts_1 10 rfl) rfl,
  f_iload (e_dx DX12_cuts_1 11 rfl),
  x_callV (e_dx DX12_cuts_1 12 rfl) mwX12_py vwX12_py cX12_449 rfl,
  f_iconst (e_dx DX12_cuts_1 13 rfl) ⟨by decide, by decide⟩,
  x_callV (e_dx DX12_cuts_1 14 rfl) mwX12_lieAt vwX12_lieAt cX12_452 rfl,
  f_iload (e_dx DX12_cuts_1 15 rfl),
  f_if_eq (e_dx DX12_cuts_1 16 rfl) rfl,
  f_iload (e_dx DX12_cuts_1 17 rfl),
  f_iload (e_dx DX12_cuts_1 18 rfl),
  f_icmp_ne (e_dx DX12_cuts_1 19 rfl) rfl,
  trivial,
  f_iconst (e_dx DX12_cuts_1 20 rfl) ⟨by decide, by decide⟩,
  f_g19 (e_dx DX12_cuts_1 21 rfl) rfl,
  f_iconst (e_dx DX12_cuts_1 22 rfl) ⟨by decide, by decide⟩,
  trivial,
  f_icmp_eq (e_dx DX12_cuts_1 23 rfl) rfl,
  f_iconst (e_dx DX12_cuts_1 24 rfl) ⟨by decide, by decide⟩,
  ⟨(e_dx DX12_cuts_1 25 rfl), rfl⟩,
  f_g8 (e_dx DX12_cuts_1 26 rfl) ⟨by decide, by decide⟩,
  f_g19 (e_dx DX12_cuts_1 27 rfl) rfl,
  f_iconst (e_dx DX12_cuts_1 28 rfl) ⟨by decide, by decide⟩,
  f_istore (e_dx DX12_cuts_1 29 rfl) (by decide),
  trivial,
  f_iload (e_dx DX12_cuts_1 30 rfl),
  f_iload (e_dx DX12_cuts_1 31 rfl),
  f_icmp_ge (e_dx DX12_cuts_1 32 rfl) rfl,
  f_aload_n (n := 0) (e_dx DX12_cuts_1 33 rfl) rfl,
  f_iload_n (n := 1) (e_dx DX12_cuts_1 34 rfl) rfl,
  f_iload_n (n := 2) (e_dx DX12_cuts_1 35 rfl) rfl,
  f_iload (e_dx DX12_cuts_1 36 rfl),
  x_callV (e_dx DX12_cuts_1 37 rfl) mwX12_clear vwX12_clear cX12_456 rfl,
  f_if_ne (e_dx DX12_cuts_1 38 rfl) rfl,
  f_iconst (e_dx DX12_cuts_1 39 rfl) ⟨by decide, by decide⟩,
  ⟨(e_dx DX12_cuts_2 0 rfl), rfl⟩,
  f_iload (e_dx DX12_cuts_2 1 rfl),
  f_iconst (e_dx DX12_cuts_2 2 rfl) ⟨by decide, by decide⟩,
  f_iadd (e_dx DX12_cuts_2 3 rfl),
  f_istore (e_dx DX12_cuts_2 4 rfl) (by decide),
  trivial,
  f_iload (e_dx DX12_cuts_2 5 rfl),
  f_iload (e_dx DX12_cuts_2 6 rfl),
  f_icmp_ge (e_dx DX12_cuts_2 7 rfl) rfl,
  f_aload_n (n := 0) (e_dx DX12_cuts_2 8 rfl) rfl,
  f_iload (e_dx DX12_cuts_2 9 rfl),
  f_iload (e_dx DX12_cuts_2 10 rfl),
  x_callV (e_dx DX12_cuts_2 11 rfl) mwX12_touch vwX12_touch cX12_460 rfl,
  f_if_eq (e_dx DX12_cuts_2 12 rfl) rfl,
  f_iconst (e_dx DX12_cuts_2 13 rfl) ⟨by decide, by decide⟩,
  ⟨(e_dx DX12_cuts_2 14 rfl), rfl⟩,
  f_g8 (e_dx DX12_cuts_2 15 rfl) ⟨by decide, by decide⟩,
  f_g19 (e_dx DX12_cuts_2 16 rfl) rfl,
  f_g8 (e_dx DX12_cuts_2 17 rfl) ⟨by decide, by decide⟩,
  f_g19 (e_dx DX12_cuts_2 18 rfl) rfl,
  f_aload_n (n := 0) (e_dx DX12_cuts_2 19 rfl) rfl,
  f_aload_n (n := 0) (e_dx DX12_cuts_2 20 rfl) rfl,
  f_sipush (e_dx DX12_cuts_2 21 rfl) ⟨by decide, by decide⟩,
  f_iload_n (n := 1) (e_dx DX12_cuts_2 22 rfl) rfl,
  f_iload_n (n := 2) (e_dx DX12_cuts_2 23 rfl) rfl,
  f_iconst (e_dx DX12_cuts_2 24 rfl) ⟨by decide, by decide⟩,
  x_callV (e_dx DX12_cuts_2 25 rfl) mwX12_part vwX12_part cX12_464 rfl,
  f_putn (e_dx DX12_cuts_2 26 rfl) fX12_468 (fun q hq => by cases hq; rfl) rfl (Or.inl rfl) (by decide),
  f_aload_n (n := 0) (e_dx DX12_cuts_2 27 rfl) rfl,
  f_aload_n (n := 0) (e_dx DX12_cuts_2 28 rfl) rfl,
  f_sipush (e_dx DX12_cuts_2 29 rfl) ⟨by decide, by decide⟩,
  f_iload_n (n := 1) (e_dx DX12_cuts_2 30 rfl) rfl,
  f_iload_n (n := 2) (e_dx DX12_cuts_2 31 rfl) rfl,
  f_iconst (e_dx DX12_cuts_2 32 rfl) ⟨by decide, by decide⟩,
  x_callV (e_dx DX12_cuts_2 33 rfl) mwX12_part vwX12_part cX12_464 rfl,
  f_putn (e_dx DX12_cuts_2 34 rfl) fX12_471 (fun q hq => by cases hq; rfl) rfl (Or.inl rfl) (by decide),
  f_aload_n (n := 0) (e_dx DX12_cuts_2 35 rfl) rfl,
  f_getf (e_dx DX12_cuts_2 36 rfl) fX12_468 rfl (by decide) (by decide) (by decide),
  f_bipush (e_dx DX12_cuts_2 37 rfl) ⟨by decide, by decide⟩,
  f_icmp_gt (e_dx DX12_cuts_2 38 rfl) rfl,
  f_aload_n (n := 0) (e_dx DX12_cuts_2 39 rfl) rfl,
  f_getf (e_dx DX12_cuts_3 0 rfl) fX12_471 rfl (by decide) (by decide) (by decide),
  f_bipush (e_dx DX12_cuts_3 1 rfl) ⟨by decide, by decide⟩,
  f_icmp_gt (e_dx DX12_cuts_3 2 rfl) rfl,
  f_iconst (e_dx DX12_cuts_3 3 rfl) ⟨by decide, by decide⟩,
  f_g19 (e_dx DX12_cuts_3 4 rfl) rfl,
  f_iconst (e_dx DX12_cuts_3 5 rfl) ⟨by decide, by decide⟩,
  ⟨(e_dx DX12_cuts_3 6 rfl), rfl⟩, trivial⟩
def lX12_cuts (c_X12_px : Int → e_M → (Int → Prop) → Prop) (c_X12_py : Int → e_M → (Int → Prop) → Prop) (c_X12_lieAt : Int → Int → Int → Int → Int → e_M → (Int → Prop) → Prop) (c_X12_clear : Int → Int → Int → e_M → (Int → Prop) → Prop) (c_X12_touch : Int → Int → e_M → (Int → Prop) → Prop) (c_X12_part : Int → Int → Int → Int → e_M → (Int → e_M → Prop) → Prop) : List (Nat × f_Wt) := [(0, f_wm [(4466, 12, 123), (1, 0, 0)] (fun ar M R => c_X12_px (f_vi (f_nth ar 1)) M (fun r => R (some (.inr (.inl r))) M))), (1, f_wm [(4466, 12, 123), (1, 0, 0)] (fun ar M R => c_X12_py (f_vi (f_nth ar 1)) M (fun r => R (some (.inr (.inl r))) M))), (2, f_wm [(4466, 12, 123), (1, 0, 0), (1, 0, 0), (2, 0, 0), (2, 0, 0), (1, 0, 0)] (fun ar M R => c_X12_lieAt (f_vi (f_nth ar 1)) (f_vi (f_nth ar 2)) (f_vi (f_nth ar 3)) (f_vi (f_nth ar 4)) (f_vi (f_nth ar 5)) M (fun r => R (some (.inl r)) M))), (3, f_wm [(4466, 12, 123), (1, 0, 0), (1, 0, 0), (1, 0, 0)] (fun ar M R => c_X12_clear (f_vi (f_nth ar 1)) (f_vi (f_nth ar 2)) (f_vi (f_nth ar 3)) M (fun r => R (some (.inl r)) M))), (4, f_wm [(4466, 12, 123), (1, 0, 0), (1, 0, 0)] (fun ar M R => c_X12_touch (f_vi (f_nth ar 1)) (f_vi (f_nth ar 2)) M (fun r => R (some (.inl r)) M))), (5, f_wm [(4466, 12, 123), (1, 0, 0), (1, 0, 0), (1, 0, 0), (1, 0, 0)] (fun ar M R => c_X12_part (f_vi (f_nth ar 1)) (f_vi (f_nth ar 2)) (f_vi (f_nth ar 3)) (f_vi (f_nth ar 4)) M (fun r M => R (some (.inl r)) M)))]
set_option maxRecDepth 20000 in
theorem BX12_cuts_66 {sh : Nat → Nat × Nat} {t : Nat} {rm : Nat × Nat × Nat} {cs : Nat × Nat} {R : f_Rt} {c_X12_px : Int → e_M → (Int → Prop) → Prop} {c_X12_py : Int → e_M → (Int → Prop) → Prop} {c_X12_lieAt : Int → Int → Int → Int → Int → e_M → (Int → Prop) → Prop} {c_X12_clear : Int → Int → Int → e_M → (Int → Prop) → Prop} {c_X12_touch : Int → Int → e_M → (Int → Prop) → Prop} {c_X12_part : Int → Int → Int → Int → e_M → (Int → e_M → Prop) → Prop} {k69 : Int → Int → Int → Int → e_M → Prop} {x1 : Int} {x2 : Int} {x4 : Int} {M : e_M} (C : f_Hy sh t yX12_cuts rm cs 8 (lX12_cuts c_X12_px c_X12_py c_X12_lieAt c_X12_clear c_X12_touch c_X12_part) R) (h69 : ∀ (x1 : Int) (x2 : Int) (x4 : Int) (x5 : Int) (M : e_M), k69 x1 x2 x4 x5 M → f_E sh t YX12_cuts rm cs (f_Q sh t R) 69 [.inr (.inr (.inl (12, 123, 4456))), .inl x1, .inl x2, .inr (.inr (.inr ())), .inl x4, .inl x5, .inr (.inr (.inr ()))] [] M) (h : VX12_cuts_66 c_X12_px c_X12_py c_X12_lieAt c_X12_clear c_X12_touch c_X12_part k69 (fun r M => R (some (.inl r)) M) x1 x2 x4 M) : f_E sh t YX12_cuts rm cs (f_Q sh t R) 66 [.inr (.inr (.inl (12, 123, 4456))), .inl x1, .inl x2, .inr (.inr (.inr ())), .inl x4, .inr (.inr (.inr ())), .inr (.inr (.inr ()))] [] M :=
  f_go (KC := f_kc [(69, f_pl [(4466, 12, 123), (1, 0, 0), (1, 0, 0), (0, 0, 0), (1, 0, 0), (1, 0, 0), (0, 0, 0)] [] (fun ls st M => k69 (f_vi (f_nth ls 1)) (f_vi (f_nth ls 2)) (f_vi (f_nth ls 4)) (f_vi (f_nth ls 5)) M))]) C qX12_cutsf (f_kc_cons (f_pl_ok rfl (fun ls st M h => h69 _ _ _ _ M h)) f_kc_nil) 133 37 h
set_option maxRecDepth 20000 in
theorem BX12_cuts_69 {sh : Nat → Nat × Nat} {t : Nat} {rm : Nat × Nat × Nat} {cs : Nat × Nat} {R : f_Rt} {c_X12_px : Int → e_M → (Int → Prop) → Prop} {c_X12_py : Int → e_M → (Int → Prop) → Prop} {c_X12_lieAt : Int → Int → Int → Int → Int → e_M → (Int → Prop) → Prop} {c_X12_clear : Int → Int → Int → e_M → (Int → Prop) → Prop} {c_X12_touch : Int → Int → e_M → (Int → Prop) → Prop} {c_X12_part : Int → Int → Int → Int → e_M → (Int → e_M → Prop) → Prop} {k128 : Int → Int → Int → Int → e_M → Prop} {k109 : Int → Int → Int → Int → Int → e_M → Prop} {k114 : Int → Int → Int → Int → Int → Int → e_M → Prop} {x1 : Int} {x2 : Int} {x4 : Int} {x5 : Int} {M : e_M} (C : f_Hy sh t yX12_cuts rm cs 8 (lX12_cuts c_X12_px c_X12_py c_X12_lieAt c_X12_clear c_X12_touch c_X12_part) R) (h128 : ∀ (x1 : Int) (x2 : Int) (x4 : Int) (x5 : Int) (M : e_M), k128 x1 x2 x4 x5 M → f_E sh t YX12_cuts rm cs (f_Q sh t R) 128 [.inr (.inr (.inl (12, 123, 4456))), .inl x1, .inl x2, .inr (.inr (.inr ())), .inl x4, .inl x5, .inr (.inr (.inr ()))] [] M) (h109 : ∀ (x1 : Int) (x2 : Int) (x4 : Int) (x5 : Int) (xs0 : Int) (M : e_M), k109 x1 x2 x4 x5 xs0 M → f_E sh t YX12_cuts rm cs (f_Q sh t R) 109 [.inr (.inr (.inl (12, 123, 4456))), .inl x1, .inl x2, .inr (.inr (.inr ())), .inl x4, .inl x5, .inr (.inr (.inr ()))] [.inl xs0] M) (h114 : ∀ (x1 : Int) (x2 : Int) (x4 : Int) (x5 : Int) (xs1 : Int) (xs0 : Int) (M : e_M), k114 x1 x2 x4 x5 xs1 xs0 M → f_E sh t YX12_cuts rm cs (f_Q sh t R) 114 [.inr (.inr (.inl (12, 123, 4456))), .inl x1, .inl x2, .inr (.inr (.inr ())), .inl x4, .inl x5, .inr (.inr (.inr ()))] [.inl xs1, .inl xs0] M) (h : VX12_cuts_69 c_X12_px c_X12_py c_X12_lieAt c_X12_clear c_X12_touch c_X12_part k128 k109 k114 (fun r M => R (some (.inl r)) M) x1 x2 x4 x5 M) : f_E sh t YX12_cuts rm cs (f_Q sh t R) 69 [.inr (.inr (.inl (12, 123, 4456))), .inl x1, .inl x2, .inr (.inr (.inr ())), .inl x4, .inl x5, .inr (.inr (.inr ()))] [] M :=
  f_go (KC := f_kc [(128, f_pl [(4466, 12, 123), (1, 0, 0), (1, 0, 0), (0, 0, 0), (1, 0, 0), (1, 0, 0), (0, 0, 0)] [] (fun ls st M => k128 (f_vi (f_nth ls 1)) (f_vi (f_nth ls 2)) (f_vi (f_nth ls 4)) (f_vi (f_nth ls 5)) M)), (109, f_pl [(4466, 12, 123), (1, 0, 0), (1, 0, 0), (0, 0, 0), (1, 0, 0), (1, 0, 0), (0, 0, 0)] [(1, 0, 0)] (fun ls st M => k109 (f_vi (f_nth ls 1)) (f_vi (f_nth ls 2)) (f_vi (f_nth ls 4)) (f_vi (f_nth ls 5)) (f_vi (f_nth st 0)) M)), (114, f_pl [(4466, 12, 123), (1, 0, 0), (1, 0, 0), (0, 0, 0), (1, 0, 0), (1, 0, 0), (0, 0, 0)] [(1, 0, 0), (1, 0, 0)] (fun ls st M => k114 (f_vi (f_nth ls 1)) (f_vi (f_nth ls 2)) (f_vi (f_nth ls 4)) (f_vi (f_nth ls 5)) (f_vi (f_nth st 0)) (f_vi (f_nth st 1)) M))]) C qX12_cutsf (f_kc_cons (f_pl_ok rfl (fun ls st M h => h128 _ _ _ _ M h)) (f_kc_cons (f_pl_ok rfl (fun ls st M h => h109 _ _ _ _ _ M h)) (f_kc_cons (f_pl_ok rfl (fun ls st M h => h114 _ _ _ _ _ _ M h)) f_kc_nil))) 133 40 h
set_option maxRecDepth 20000 in
theorem BX12_cuts_109 {sh : Nat → Nat × Nat} {t : Nat} {rm : Nat × Nat × Nat} {cs : Nat × Nat} {R : f_Rt} {c_X12_px : Int → e_M → (Int → Prop) → Prop} {c_X12_py : Int → e_M → (Int → Prop) → Prop} {c_X12_lieAt : Int → Int → Int → Int → Int → e_M → (Int → Prop) → Prop} {c_X12_clear : Int → Int → Int → e_M → (Int → Prop) → Prop} {c_X12_touch : Int → Int → e_M → (Int → Prop) → Prop} {c_X12_part : Int → Int → Int → Int → e_M → (Int → e_M → Prop) → Prop} {k114 : Int → Int → Int → Int → Int → Int → e_M → Prop} {x1 : Int} {x2 : Int} {x4 : Int} {x5 : Int} {xs0 : Int} {M : e_M} (C : f_Hy sh t yX12_cuts rm cs 8 (lX12_cuts c_X12_px c_X12_py c_X12_lieAt c_X12_clear c_X12_touch c_X12_part) R) (h114 : ∀ (x1 : Int) (x2 : Int) (x4 : Int) (x5 : Int) (xs1 : Int) (xs0 : Int) (M : e_M), k114 x1 x2 x4 x5 xs1 xs0 M → f_E sh t YX12_cuts rm cs (f_Q sh t R) 114 [.inr (.inr (.inl (12, 123, 4456))), .inl x1, .inl x2, .inr (.inr (.inr ())), .inl x4, .inl x5, .inr (.inr (.inr ()))] [.inl xs1, .inl xs0] M) (h : VX12_cuts_109 c_X12_px c_X12_py c_X12_lieAt c_X12_clear c_X12_touch c_X12_part k114 (fun r M => R (some (.inl r)) M) x1 x2 x4 x5 xs0 M) : f_E sh t YX12_cuts rm cs (f_Q sh t R) 109 [.inr (.inr (.inl (12, 123, 4456))), .inl x1, .inl x2, .inr (.inr (.inr ())), .inl x4, .inl x5, .inr (.inr (.inr ()))] [.inl xs0] M :=
  f_go (KC := f_kc [(114, f_pl [(4466, 12, 123), (1, 0, 0), (1, 0, 0), (0, 0, 0), (1, 0, 0), (1, 0, 0), (0, 0, 0)] [(1, 0, 0), (1, 0, 0)] (fun ls st M => k114 (f_vi (f_nth ls 1)) (f_vi (f_nth ls 2)) (f_vi (f_nth ls 4)) (f_vi (f_nth ls 5)) (f_vi (f_nth st 0)) (f_vi (f_nth st 1)) M))]) C qX12_cutsf (f_kc_cons (f_pl_ok rfl (fun ls st M h => h114 _ _ _ _ _ _ M h)) f_kc_nil) 133 61 h
set_option maxRecDepth 20000 in
theorem BX12_cuts_114 {sh : Nat → Nat × Nat} {t : Nat} {rm : Nat × Nat × Nat} {cs : Nat × Nat} {R : f_Rt} {c_X12_px : Int → e_M → (Int → Prop) → Prop} {c_X12_py : Int → e_M → (Int → Prop) → Prop} {c_X12_lieAt : Int → Int → Int → Int → Int → e_M → (Int → Prop) → Prop} {c_X12_clear : Int → Int → Int → e_M → (Int → Prop) → Prop} {c_X12_touch : Int → Int → e_M → (Int → Prop) → Prop} {c_X12_part : Int → Int → Int → Int → e_M → (Int → e_M → Prop) → Prop} {k69 : Int → Int → Int → Int → e_M → Prop} {x1 : Int} {x2 : Int} {x4 : Int} {x5 : Int} {xs1 : Int} {xs0 : Int} {M : e_M} (C : f_Hy sh t yX12_cuts rm cs 8 (lX12_cuts c_X12_px c_X12_py c_X12_lieAt c_X12_clear c_X12_touch c_X12_part) R) (h69 : ∀ (x1 : Int) (x2 : Int) (x4 : Int) (x5 : Int) (M : e_M), k69 x1 x2 x4 x5 M → f_E sh t YX12_cuts rm cs (f_Q sh t R) 69 [.inr (.inr (.inl (12, 123, 4456))), .inl x1, .inl x2, .inr (.inr (.inr ())), .inl x4, .inl x5, .inr (.inr (.inr ()))] [] M) (h : VX12_cuts_114 c_X12_px c_X12_py c_X12_lieAt c_X12_clear c_X12_touch c_X12_part k69 (fun r M => R (some (.inl r)) M) x1 x2 x4 x5 xs1 xs0 M) : f_E sh t YX12_cuts rm cs (f_Q sh t R) 114 [.inr (.inr (.inl (12, 123, 4456))), .inl x1, .inl x2, .inr (.inr (.inr ())), .inl x4, .inl x5, .inr (.inr (.inr ()))] [.inl xs1, .inl xs0] M :=
  f_go (KC := f_kc [(69, f_pl [(4466, 12, 123), (1, 0, 0), (1, 0, 0), (0, 0, 0), (1, 0, 0), (1, 0, 0), (0, 0, 0)] [] (fun ls st M => k69 (f_vi (f_nth ls 1)) (f_vi (f_nth ls 2)) (f_vi (f_nth ls 4)) (f_vi (f_nth ls 5)) M))]) C qX12_cutsf (f_kc_cons (f_pl_ok rfl (fun ls st M h => h69 _ _ _ _ M h)) f_kc_nil) 133 65 h
set_option maxRecDepth 20000 in
theorem BX12_cuts_128 {sh : Nat → Nat × Nat} {t : Nat} {rm : Nat × Nat × Nat} {cs : Nat × Nat} {R : f_Rt} {c_X12_px : Int → e_M → (Int → Prop) → Prop} {c_X12_py : Int → e_M → (Int → Prop) → Prop} {c_X12_lieAt : Int → Int → Int → Int → Int → e_M → (Int → Prop) → Prop} {c_X12_clear : Int → Int → Int → e_M → (Int → Prop) → Prop} {c_X12_touch : Int → Int → e_M → (Int → Prop) → Prop} {c_X12_part : Int → Int → Int → Int → e_M → (Int → e_M → Prop) → Prop} {k154 : Int → Int → Int → Int → Int → e_M → Prop} {x1 : Int} {x2 : Int} {x4 : Int} {x5 : Int} {M : e_M} (C : f_Hy sh t yX12_cuts rm cs 8 (lX12_cuts c_X12_px c_X12_py c_X12_lieAt c_X12_clear c_X12_touch c_X12_part) R) (h154 : ∀ (x1 : Int) (x2 : Int) (x4 : Int) (x5 : Int) (x6 : Int) (M : e_M), k154 x1 x2 x4 x5 x6 M → f_E sh t YX12_cuts rm cs (f_Q sh t R) 154 [.inr (.inr (.inl (12, 123, 4456))), .inl x1, .inl x2, .inr (.inr (.inr ())), .inl x4, .inl x5, .inl x6] [] M) (h : VX12_cuts_128 c_X12_px c_X12_py c_X12_lieAt c_X12_clear c_X12_touch c_X12_part k154 (fun r M => R (some (.inl r)) M) x1 x2 x4 x5 M) : f_E sh t YX12_cuts rm cs (f_Q sh t R) 128 [.inr (.inr (.inl (12, 123, 4456))), .inl x1, .inl x2, .inr (.inr (.inr ())), .inl x4, .inl x5, .inr (.inr (.inr ()))] [] M :=
  f_go (KC := f_kc [(154, f_pl [(4466, 12, 123), (1, 0, 0), (1, 0, 0), (0, 0, 0), (1, 0, 0), (1, 0, 0), (1, 0, 0)] [] (fun ls st M => k154 (f_vi (f_nth ls 1)) (f_vi (f_nth ls 2)) (f_vi (f_nth ls 4)) (f_vi (f_nth ls 5)) (f_vi (f_nth ls 6)) M))]) C qX12_cutsf (f_kc_cons (f_pl_ok rfl (fun ls st M h => h154 _ _ _ _ _ M h)) f_kc_nil) 133 73 h
set_option maxRecDepth 20000 in
theorem BX12_cuts_154 {sh : Nat → Nat × Nat} {t : Nat} {rm : Nat × Nat × Nat} {cs : Nat × Nat} {R : f_Rt} {c_X12_px : Int → e_M → (Int → Prop) → Prop} {c_X12_py : Int → e_M → (Int → Prop) → Prop} {c_X12_lieAt : Int → Int → Int → Int → Int → e_M → (Int → Prop) → Prop} {c_X12_clear : Int → Int → Int → e_M → (Int → Prop) → Prop} {c_X12_touch : Int → Int → e_M → (Int → Prop) → Prop} {c_X12_part : Int → Int → Int → Int → e_M → (Int → e_M → Prop) → Prop} {k128 : Int → Int → Int → Int → e_M → Prop} {k154 : Int → Int → Int → Int → Int → e_M → Prop} {x1 : Int} {x2 : Int} {x4 : Int} {x5 : Int} {x6 : Int} {M : e_M} (C : f_Hy sh t yX12_cuts rm cs 8 (lX12_cuts c_X12_px c_X12_py c_X12_lieAt c_X12_clear c_X12_touch c_X12_part) R) (h128 : ∀ (x1 : Int) (x2 : Int) (x4 : Int) (x5 : Int) (M : e_M), k128 x1 x2 x4 x5 M → f_E sh t YX12_cuts rm cs (f_Q sh t R) 128 [.inr (.inr (.inl (12, 123, 4456))), .inl x1, .inl x2, .inr (.inr (.inr ())), .inl x4, .inl x5, .inr (.inr (.inr ()))] [] M) (h154 : ∀ (x1 : Int) (x2 : Int) (x4 : Int) (x5 : Int) (x6 : Int) (M : e_M), k154 x1 x2 x4 x5 x6 M → f_E sh t YX12_cuts rm cs (f_Q sh t R) 154 [.inr (.inr (.inl (12, 123, 4456))), .inl x1, .inl x2, .inr (.inr (.inr ())), .inl x4, .inl x5, .inl x6] [] M) (h : VX12_cuts_154 c_X12_px c_X12_py c_X12_lieAt c_X12_clear c_X12_touch c_X12_part k128 k154 (fun r M => R (some (.inl r)) M) x1 x2 x4 x5 x6 M) : f_E sh t YX12_cuts rm cs (f_Q sh t R) 154 [.inr (.inr (.inl (12, 123, 4456))), .inl x1, .inl x2, .inr (.inr (.inr ())), .inl x4, .inl x5, .inl x6] [] M :=
  f_go (KC := f_kc [(128, f_pl [(4466, 12, 123), (1, 0, 0), (1, 0, 0), (0, 0, 0), (1, 0, 0), (1, 0, 0), (0, 0, 0)] [] (fun ls st M => k128 (f_vi (f_nth ls 1)) (f_vi (f_nth ls 2)) (f_vi (f_nth ls 4)) (f_vi (f_nth ls 5)) M)), (154, f_pl [(4466, 12, 123), (1, 0, 0), (1, 0, 0), (0, 0, 0), (1, 0, 0), (1, 0, 0), (1, 0, 0)] [] (fun ls st M => k154 (f_vi (f_nth ls 1)) (f_vi (f_nth ls 2)) (f_vi (f_nth ls 4)) (f_vi (f_nth ls 5)) (f_vi (f_nth ls 6)) M))]) C qX12_cutsf (f_kc_cons (f_pl_ok rfl (fun ls st M h => h128 _ _ _ _ M h)) (f_kc_cons (f_pl_ok rfl (fun ls st M h => h154 _ _ _ _ _ M h)) f_kc_nil)) 133 89 h
set_option maxRecDepth 20000 in
theorem BX12_cuts {sh : Nat → Nat × Nat} {t : Nat} {rm : Nat × Nat × Nat} {cs : Nat × Nat} {R : f_Rt} {c_X12_px : Int → e_M → (Int → Prop) → Prop} {c_X12_py : Int → e_M → (Int → Prop) → Prop} {c_X12_lieAt : Int → Int → Int → Int → Int → e_M → (Int → Prop) → Prop} {c_X12_clear : Int → Int → Int → e_M → (Int → Prop) → Prop} {c_X12_touch : Int → Int → e_M → (Int → Prop) → Prop} {c_X12_part : Int → Int → Int → Int → e_M → (Int → e_M → Prop) → Prop} {k66 : Int → Int → Int → e_M → Prop} {x1 : Int} {x2 : Int} {x3 : Int} {M : e_M} (C : f_Hy sh t yX12_cuts rm cs 8 (lX12_cuts c_X12_px c_X12_py c_X12_lieAt c_X12_clear c_X12_touch c_X12_part) R) (h66 : ∀ (x1 : Int) (x2 : Int) (x4 : Int) (M : e_M), k66 x1 x2 x4 M → f_E sh t YX12_cuts rm cs (f_Q sh t R) 66 [.inr (.inr (.inl (12, 123, 4456))), .inl x1, .inl x2, .inr (.inr (.inr ())), .inl x4, .inr (.inr (.inr ())), .inr (.inr (.inr ()))] [] M) (h : VX12_cuts c_X12_px c_X12_py c_X12_lieAt c_X12_clear c_X12_touch c_X12_part k66 (fun r M => R (some (.inl r)) M) x1 x2 x3 M) : f_E sh t YX12_cuts rm cs (f_Q sh t R) 0 [.inr (.inr (.inl (12, 123, 4456))), .inl x1, .inl x2, .inl x3, .inr (.inr (.inr ())), .inr (.inr (.inr ())), .inr (.inr (.inr ()))] [] M :=
  f_go (KC := f_kc [(66, f_pl [(4466, 12, 123), (1, 0, 0), (1, 0, 0), (0, 0, 0), (1, 0, 0), (0, 0, 0), (0, 0, 0)] [] (fun ls st M => k66 (f_vi (f_nth ls 1)) (f_vi (f_nth ls 2)) (f_vi (f_nth ls 4)) M))]) C qX12_cutsf (f_kc_cons (f_pl_ok rfl (fun ls st M h => h66 _ _ _ M h)) f_kc_nil) 133 0 h
def WX12_cuts_154 (H128 : Int → Int → Int → Int → e_M → Prop) (Q : Int → e_M → Prop) : Nat → Int → Int → Int → Int → Int → e_M → Prop
  | 0, _, _, _, _, _, _ => False
  | n + 1, x1, x2, x4, x5, x6, M =>
    VX12_cuts_154 WX12_px WX12_py WX12_lieAt WX12_clear WX12_touch WX12_part H128 (WX12_cuts_154 H128 Q n) Q x1 x2 x4 x5 x6 M
def WX12_cuts_128 (Q : Int → e_M → Prop) : Nat → Int → Int → Int → Int → e_M → Prop
  | 0, _, _, _, _, _ => False
  | n + 1, x1, x2, x4, x5, M =>
    VX12_cuts_128 WX12_px WX12_py WX12_lieAt WX12_clear WX12_touch WX12_part (fun x1 x2 x4 x5 x6 M => ∃ j, WX12_cuts_154 (WX12_cuts_128 Q n) Q j x1 x2 x4 x5 x6 M) Q x1 x2 x4 x5 M
def WX12_cuts_114 (H69 : Int → Int → Int → Int → e_M → Prop) (Q : Int → e_M → Prop) (x1 : Int) (x2 : Int) (x4 : Int) (x5 : Int) (xs1 : Int) (xs0 : Int) (M : e_M) : Prop :=
  VX12_cuts_114 WX12_px WX12_py WX12_lieAt WX12_clear WX12_touch WX12_part H69 Q x1 x2 x4 x5 xs1 xs0 M
def WX12_cuts_109 (H69 : Int → Int → Int → Int → e_M → Prop) (Q : Int → e_M → Prop) (x1 : Int) (x2 : Int) (x4 : Int) (x5 : Int) (xs0 : Int) (M : e_M) : Prop :=
  VX12_cuts_109 WX12_px WX12_py WX12_lieAt WX12_clear WX12_touch WX12_part (WX12_cuts_114 H69 Q) Q x1 x2 x4 x5 xs0 M
def WX12_cuts_69 (Q : Int → e_M → Prop) : Nat → Int → Int → Int → Int → e_M → Prop
  | 0, _, _, _, _, _ => False
  | n + 1, x1, x2, x4, x5, M =>
    VX12_cuts_69 WX12_px WX12_py WX12_lieAt WX12_clear WX12_touch WX12_part (fun x1 x2 x4 x5 M => ∃ j, WX12_cuts_128 Q j x1 x2 x4 x5 M) (WX12_cuts_109 (WX12_cuts_69 Q n) Q) (WX12_cuts_114 (WX12_cuts_69 Q n) Q) Q x1 x2 x4 x5 M
def WX12_cuts_66 (Q : Int → e_M → Prop) (x1 : Int) (x2 : Int) (x4 : Int) (M : e_M) : Prop :=
  VX12_cuts_66 WX12_px WX12_py WX12_lieAt WX12_clear WX12_touch WX12_part (fun x1 x2 x4 x5 M => ∃ j, WX12_cuts_69 Q j x1 x2 x4 x5 M) Q x1 x2 x4 M
def WX12_cuts (x1 : Int) (x2 : Int) (x3 : Int) (M : e_M) (Q : Int → e_M → Prop) : Prop :=
  VX12_cuts WX12_px WX12_py WX12_lieAt WX12_clear WX12_touch WX12_part (WX12_cuts_66 Q) Q x1 x2 x3 M
theorem PX12_cuts_154 {sh : Nat → Nat × Nat} {t : Nat} {rm : Nat × Nat × Nat} {cs : Nat × Nat} {R : f_Rt} {H128 : Int → Int → Int → Int → e_M → Prop} (C : f_Hy sh t yX12_cuts rm cs 8 (lX12_cuts WX12_px WX12_py WX12_lieAt WX12_clear WX12_touch WX12_part) R) (g128 : ∀ (x1 : Int) (x2 : Int) (x4 : Int) (x5 : Int) (M : e_M), H128 x1 x2 x4 x5 M → f_E sh t YX12_cuts rm cs (f_Q sh t R) 128 [.inr (.inr (.inl (12, 123, 4456))), .inl x1, .inl x2, .inr (.inr (.inr ())), .inl x4, .inl x5, .inr (.inr (.inr ()))] [] M) : ∀ (n : Nat) (x1 : Int) (x2 : Int) (x4 : Int) (x5 : Int) (x6 : Int) (M : e_M), WX12_cuts_154 H128 (fun r M => R (some (.inl r)) M) n x1 x2 x4 x5 x6 M → f_E sh t YX12_cuts rm cs (f_Q sh t R) 154 [.inr (.inr (.inl (12, 123, 4456))), .inl x1, .inl x2, .inr (.inr (.inr ())), .inl x4, .inl x5, .inl x6] [] M := by
  intro n
  induction n with
  | zero => intro x1 x2 x4 x5 x6 M h; exact h.elim
  | succ n ih => intro x1 x2 x4 x5 x6 M h; exact BX12_cuts_154 C g128 ih h
theorem PX12_cuts_128 {sh : Nat → Nat × Nat} {t : Nat} {rm : Nat × Nat × Nat} {cs : Nat × Nat} {R : f_Rt} (C : f_Hy sh t yX12_cuts rm cs 8 (lX12_cuts WX12_px WX12_py WX12_lieAt WX12_clear WX12_touch WX12_part) R) : ∀ (n : Nat) (x1 : Int) (x2 : Int) (x4 : Int) (x5 : Int) (M : e_M), WX12_cuts_128 (fun r M => R (some (.inl r)) M) n x1 x2 x4 x5 M → f_E sh t YX12_cuts rm cs (f_Q sh t R) 128 [.inr (.inr (.inl (12, 123, 4456))), .inl x1, .inl x2, .inr (.inr (.inr ())), .inl x4, .inl x5, .inr (.inr (.inr ()))] [] M := by
  intro n
  induction n with
  | zero => intro x1 x2 x4 x5 M h; exact h.elim
  | succ n ih => intro x1 x2 x4 x5 M h; exact BX12_cuts_128 C (fun x1 x2 x4 x5 x6 M ⟨j, h⟩ => PX12_cuts_154 C ih j _ _ _ _ _ _ h) h
theorem PX12_cuts_114 {sh : Nat → Nat × Nat} {t : Nat} {rm : Nat × Nat × Nat} {cs : Nat × Nat} {R : f_Rt} {H69 : Int → Int → Int → Int → e_M → Prop} {x1 : Int} {x2 : Int} {x4 : Int} {x5 : Int} {xs1 : Int} {xs0 : Int} {M : e_M} (C : f_Hy sh t yX12_cuts rm cs 8 (lX12_cuts WX12_px WX12_py WX12_lieAt WX12_clear WX12_touch WX12_part) R) (g69 : ∀ (x1 : Int) (x2 : Int) (x4 : Int) (x5 : Int) (M : e_M), H69 x1 x2 x4 x5 M → f_E sh t YX12_cuts rm cs (f_Q sh t R) 69 [.inr (.inr (.inl (12, 123, 4456))), .inl x1, .inl x2, .inr (.inr (.inr ())), .inl x4, .inl x5, .inr (.inr (.inr ()))] [] M) (h : WX12_cuts_114 H69 (fun r M => R (some (.inl r)) M) x1 x2 x4 x5 xs1 xs0 M) : f_E sh t YX12_cuts rm cs (f_Q sh t R) 114 [.inr (.inr (.inl (12, 123, 4456))), .inl x1, .inl x2, .inr (.inr (.inr ())), .inl x4, .inl x5, .inr (.inr (.inr ()))] [.inl xs1, .inl xs0] M :=
  BX12_cuts_114 C g69 h
theorem PX12_cuts_109 {sh : Nat → Nat × Nat} {t : Nat} {rm : Nat × Nat × Nat} {cs : Nat × Nat} {R : f_Rt} {H69 : Int → Int → Int → Int → e_M → Prop} {x1 : Int} {x2 : Int} {x4 : Int} {x5 : Int} {xs0 : Int} {M : e_M} (C : f_Hy sh t yX12_cuts rm cs 8 (lX12_cuts WX12_px WX12_py WX12_lieAt WX12_clear WX12_touch WX12_part) R) (g69 : ∀ (x1 : Int) (x2 : Int) (x4 : Int) (x5 : Int) (M : e_M), H69 x1 x2 x4 x5 M → f_E sh t YX12_cuts rm cs (f_Q sh t R) 69 [.inr (.inr (.inl (12, 123, 4456))), .inl x1, .inl x2, .inr (.inr (.inr ())), .inl x4, .inl x5, .inr (.inr (.inr ()))] [] M) (h : WX12_cuts_109 H69 (fun r M => R (some (.inl r)) M) x1 x2 x4 x5 xs0 M) : f_E sh t YX12_cuts rm cs (f_Q sh t R) 109 [.inr (.inr (.inl (12, 123, 4456))), .inl x1, .inl x2, .inr (.inr (.inr ())), .inl x4, .inl x5, .inr (.inr (.inr ()))] [.inl xs0] M :=
  BX12_cuts_109 C (fun x1 x2 x4 x5 xs1 xs0 M h => PX12_cuts_114 C g69 h) h
theorem PX12_cuts_69 {sh : Nat → Nat × Nat} {t : Nat} {rm : Nat × Nat × Nat} {cs : Nat × Nat} {R : f_Rt} (C : f_Hy sh t yX12_cuts rm cs 8 (lX12_cuts WX12_px WX12_py WX12_lieAt WX12_clear WX12_touch WX12_part) R) : ∀ (n : Nat) (x1 : Int) (x2 : Int) (x4 : Int) (x5 : Int) (M : e_M), WX12_cuts_69 (fun r M => R (some (.inl r)) M) n x1 x2 x4 x5 M → f_E sh t YX12_cuts rm cs (f_Q sh t R) 69 [.inr (.inr (.inl (12, 123, 4456))), .inl x1, .inl x2, .inr (.inr (.inr ())), .inl x4, .inl x5, .inr (.inr (.inr ()))] [] M := by
  intro n
  induction n with
  | zero => intro x1 x2 x4 x5 M h; exact h.elim
  | succ n ih => intro x1 x2 x4 x5 M h; exact BX12_cuts_69 C (fun x1 x2 x4 x5 M ⟨j, h⟩ => PX12_cuts_128 C j _ _ _ _ _ h) (fun x1 x2 x4 x5 xs0 M h => PX12_cuts_109 C ih h) (fun x1 x2 x4 x5 xs1 xs0 M h => PX12_cuts_114 C ih h) h
theorem PX12_cuts_66 {sh : Nat → Nat × Nat} {t : Nat} {rm : Nat × Nat × Nat} {cs : Nat × Nat} {R : f_Rt} {x1 : Int} {x2 : Int} {x4 : Int} {M : e_M} (C : f_Hy sh t yX12_cuts rm cs 8 (lX12_cuts WX12_px WX12_py WX12_lieAt WX12_clear WX12_touch WX12_part) R) (h : WX12_cuts_66 (fun r M => R (some (.inl r)) M) x1 x2 x4 M) : f_E sh t YX12_cuts rm cs (f_Q sh t R) 66 [.inr (.inr (.inl (12, 123, 4456))), .inl x1, .inl x2, .inr (.inr (.inr ())), .inl x4, .inr (.inr (.inr ())), .inr (.inr (.inr ()))] [] M :=
  BX12_cuts_66 C (fun x1 x2 x4 x5 M ⟨j, h⟩ => PX12_cuts_69 C j _ _ _ _ _ h) h
theorem PX12_cuts {sh : Nat → Nat × Nat} {t : Nat} {rm : Nat × Nat × Nat} {cs : Nat × Nat} {R : f_Rt} {x1 : Int} {x2 : Int} {x3 : Int} {M : e_M} (C : f_Hy sh t yX12_cuts rm cs 8 (lX12_cuts WX12_px WX12_py WX12_lieAt WX12_clear WX12_touch WX12_part) R) (h : WX12_cuts x1 x2 x3 M (fun r M => R (some (.inl r)) M)) : f_E sh t YX12_cuts rm cs (f_Q sh t R) 0 [.inr (.inr (.inl (12, 123, 4456))), .inl x1, .inl x2, .inl x3, .inr (.inr (.inr ())), .inr (.inr (.inr ())), .inr (.inr (.inr ()))] [] M :=
  BX12_cuts C (fun x1 x2 x4 M h => PX12_cuts_66 C h) h
def wX12_cuts : f_Wt := f_wm [(4466, 12, 123), (1, 0, 0), (1, 0, 0), (1, 0, 0)] (fun ar M R => WX12_cuts (f_vi (f_nth ar 1)) (f_vi (f_nth ar 2)) (f_vi (f_nth ar 3)) M (fun r M => R (some (.inl r)) M))
theorem TX12_cuts {sh : Nat → Nat × Nat} {t : Nat} : f_Mt sh t YX12_cuts 8 (wX12_cuts) :=
  f_Mt_of (k := 3) (Nat.le_of_ble_eq_true rfl) rfl rfl (fun ar M R rm cs h1 h2 h3 hX h => PX12_cuts ⟨Nat.le_of_ble_eq_true rfl, h1, h2, h3, ⟨(f_Mt.up (Nat.le_of_ble_eq_true rfl) TX12_px), (f_Mt.up (Nat.le_of_ble_eq_true rfl) TX12_py), (f_Mt.up (Nat.le_of_ble_eq_true rfl) TX12_lieAt), (f_Mt.up (Nat.le_of_ble_eq_true rfl) TX12_clear), (f_Mt.up (Nat.le_of_ble_eq_true rfl) TX12_touch), (f_Mt.up (Nat.le_of_ble_eq_true rfl) TX12_part), trivial⟩, hX⟩ h)
def VX12_along_56 (c_X12_sideOf : Int → Int → Int → Int → e_M → (Int → Prop) → Prop) (c_X12_lies : Int → Int → Int → Int → Int → Int → e_M → (Int → Prop) → Prop) (k99 : Int → Int → Int → Int → Int → Int → Int → e_M → Prop) (k142 : Int → Int → Int → Int → Int → e_M → Prop) (Q : Int → e_M → Prop) (x3 : Int) (x4 : Int) (x5 : Int) (x6 : Int) (x9 : Int) (M : e_M) : Prop :=
  ((x4 ≤ x9 → (Q 1 M)) ∧ (x9 < x4 → ((0 ≤ (e_w32 (x3 + x9)) ∧ (e_w32 (x3 + x9)) < 4800) ∧ ((0 ≤ (e_w32 (x3 + x9)) ∧ (e_w32 (x3 + x9)) < 4800) ∧ ((¬ (M 4480 ((e_w32 (x3 + x9)).toNat)) = x5 → (k99 x3 x4 x5 x6 x9 (M 4480 ((e_w32 (x3 + x9)).toNat)) (M 4481 ((e_w32 (x3 + x9)).toNat)) M)) ∧ ((M 4480 ((e_w32 (x3 + x9)).toNat)) = x5 → (((M 4481 ((e_w32 (x3 + x9)).toNat)) = x6 → (k142 x3 x4 x5 x6 x9 M)) ∧ (¬ (M 4481 ((e_w32 (x3 + x9)).toNat)) = x6 → (k99 x3 x4 x5 x6 x9 (M 4480 ((e_w32 (x3 + x9)).toNat)) (M 4481 ((e_w32 (x3 + x9)).toNat)) M)))))))))
def VX12_along_99 (c_X12_sideOf : Int → Int → Int → Int → e_M → (Int → Prop) → Prop) (c_X12_lies : Int → Int → Int → Int → Int → Int → e_M → (Int → Prop) → Prop) (k142 : Int → Int → Int → Int → Int → e_M → Prop) (Q : Int → e_M → Prop) (x3 : Int) (x4 : Int) (x5 : Int) (x6 : Int) (x9 : Int) (x10 : Int) (x11 : Int) (M : e_M) : Prop :=
  (c_X12_lies x5 x6 (M 4456 47) (M 4456 48) x10 x11 M (fun r1 => ((¬ r1 = 0 → (∀ M2 : e_M, M2 = e_up M 4456 47 x10 → (∀ M3 : e_M, M3 = e_up M2 4456 48 x11 → (k142 x3 x4 x5 x6 x9 M3)))) ∧ (r1 = 0 → (k142 x3 x4 x5 x6 x9 M)))))
def VX12_along_142 (c_X12_sideOf : Int → Int → Int → Int → e_M → (Int → Prop) → Prop) (c_X12_lies : Int → Int → Int → Int → Int → Int → e_M → (Int → Prop) → Prop) (k56 : Int → Int → Int → Int → Int → e_M → Prop) (Q : Int → e_M → Prop) (x3 : Int) (x4 : Int) (x5 : Int) (x6 : Int) (x9 : Int) (M : e_M) : Prop :=
  (k56 x3 x4 x5 x6 (e_w32 (x9 + 1)) M)
def VX12_along (c_X12_sideOf : Int → Int → Int → Int → e_M → (Int → Prop) → Prop) (c_X12_lies : Int → Int → Int → Int → Int → Int → e_M → (Int → Prop) → Prop) (k56 : Int → Int → Int → Int → Int → e_M → Prop) (Q : Int → e_M → Prop) (x1 : Int) (x2 : Int) (x3 : Int) (x4 : Int) (x5 : Int) (x6 : Int) (M : e_M) : Prop :=
  (c_X12_sideOf x1 x2 x5 x6 M (fun r1 => ((0 ≤ r1 → (¬ x2 = 0 ∧ (∀ y2 : Int, y2 = e_w32 (x1 + ((e_w32 (r1 + 1)).tmod x2)) → ((0 ≤ y2 ∧ y2 < 4800) ∧ (∀ M3 : e_M, M3 = e_up M 4456 47 (M 4480 (y2.toNat)) → ((0 ≤ y2 ∧ y2 < 4800) ∧ (∀ M4 : e_M, M4 = e_up M3 4456 48 (M3 4481 (y2.toNat)) → (k56 x3 x4 x5 x6 0 M4)))))))) ∧ (r1 < 0 → (Q 0 M)))))
def yX12_along (i : Nat) : e_Y := x_get YX12_along [YX12_sideOf, YX12_lies] i
def pX12_alongf : List x_I := [(0, 4, 1, 0, 0, 0, []), (1, 2, 1, 1, 0, 0, []), (2, 2, 1, 2, 0, 0, []), (3, 2, 2, 5, 0, 0, []), (5, 14, 0, 0, 0, 0, []), (6, 2, 2, 6, 0, 0, []), (8, 14, 0, 0, 0, 0, []), (9, 40, 0, 5, 14, 0, []), (12, 5, 2, 7, 0, 0, []), (14, 2, 2, 7, 0, 0, []), (16, 17, 21, 3, 14, 0, []), (19, 0, 1, 0, 0, 0, []), (20, 48, 0, 0, 0, 0, []), (21, 2, 1, 1, 0, 0, []), (22, 2, 2, 7, 0, 0, []), (24, 0, 1, 0, 0, 1, []), (25, 9, 0, 0, 0, 0, []), (26, 2, 1, 2, 0, 0, []), (27, 9, 0, 4, 0, 0, []), (28, 9, 0, 0, 0, 0, []), (29, 33, 0, 0, 0, 0, []), (29, 5, 2, 8, 0, 0, []), (31, 4, 1, 0, 0, 0, []), (32, 4, 1, 0, 0, 0, []), (33, 25, 12, 40, 4, 0, [(0, 20, 4800), (0, 1, 24)]), (36, 2, 2, 8, 0, 0, []), (38, 27, 0, 0, 0, 0, []), (39, 26, 12, 47, 0, 0, []), (42, 4, 1, 0, 0, 0, []), (43, 4, 1, 0, 0, 0, []), (44, 25, 12, 41, 4, 0, [(0, 20, 4800), (0, 1, 25)]), (47, 2, 2, 8, 0, 0, []), (49, 27, 0, 0, 0, 0, []), (50, 26, 12, 48, 0, 0, []), (53, 0, 1, 0, 0, 0, []), (54, 5, 2, 9, 0, 0, []), (56, 49, 0, 0, 0, 0, []), (56, 2, 2, 9, 0, 0, []), (58, 2, 2, 4, 0, 0, []), (60, 18, 148, 3, 88, 0, []), (63, 4, 1, 0, 0, 0, []), (64, 25, 12, 40, 4, 0, [(0, 20, 4800), (0, 1, 24)]), (67, 2, 1, 3, 0, 0, []), (68, 2, 2, 9, 0, 0, []), (70, 9, 0, 0, 0, 0, []), (71, 27, 0, 0, 0, 0, []), (72, 5, 2, 10, 0, 0, []), (74, 4, 1, 0, 0, 0, []), (75, 25, 12, 41, 4, 0, [(0, 20, 4800), (0, 1, 25)]), (78, 2, 1, 3, 0, 0, []), (79, 2, 2, 9, 0, 0, []), (81, 9, 0, 0, 0, 0, []), (82, 27, 0, 0, 0, 0, []), (83, 5, 2, 11, 0, 0, []), (85, 2, 2, 10, 0, 0, []), (87, 2, 2, 5, 0, 0, []), (89, 18, 99, 1, 61, 0, []), (92, 2, 2, 11, 0, 0, []), (94, 2, 2, 6, 0, 0, []), (96, 18, 142, 0, 85, 0, []), (99, 49, 0, 0, 0, 0, []), (99, 2, 2, 5, 0, 0, []), (101, 14, 0, 0, 0, 0, []), (102, 2, 2, 6, 0, 0, []), (104, 14, 0, 0, 0, 0, []), (105, 4, 1, 0, 0, 0, []), (106, 25, 12, 47, 0, 0, []), (109, 14, 0, 0, 0, 0, []), (110, 4, 1, 0, 0, 0, []), (111, 25, 12, 48, 0, 0, []), (114, 14, 0, 0, 0, 0, []), (115, 2, 2, 10, 0, 0, []), (117, 14, 0, 0, 0, 0, []), (118, 2, 2, 11, 0, 0, []), (120, 14, 0, 0, 0, 0, []), (121, 40, 1, 6, 0, 0, []), (124, 17, 130, 1, 79, 0, []), (127, 19, 142, 0, 85, 0, []), (130, 4, 1, 0, 0, 0, []), (131, 2, 2, 10, 0, 0, []), (133, 26, 12, 47, 0, 0, []), (136, 4, 1, 0, 0, 0, []), (137, 2, 2, 11, 0, 0, []), (139, 26, 12, 48, 0, 0, []), (142, 49, 0, 0, 0, 0, []), (142, 8, 0, 9, 0, 1, []), (145, 19, 56, 0, 37, 0, []), (148, 0, 1, 0, 0, 1, []), (149, 48, 0, 0, 0, 0, [])]
set_option maxRecDepth 20000 in
theorem qX12_alongf : f_all yX12_along YX12_along pX12_alongf :=
  ⟨f_aload_n (n := 0) (e_dx DX12_along_0 0 rfl) rfl,
  f_iload_n (n := 1) (e_dx DX12_along_0 1 rfl) rfl,
  f_iload_n (n := 2) (e_dx DX12_along_0 2 rfl) rfl,
  f_iload (e_dx DX12_along_0 3 rfl),
  f_g14 (e_dx DX12_along_0 4 rfl),
  f_iload (e_dx DX12_along_0 5 rfl),
  f_g14 (e_dx DX12_along_0 6 rfl),
  x_callV (e_dx DX12_along_0 7 rfl) mwX12_sideOf vwX12_sideOf cX12_486 rfl,
  f_istore (e_dx DX12_along_0 8 rfl) (by decide),
  f_iload (e_dx DX12_along_0 9 rfl),
  f_if_ge (e_dx DX12_along_0 10 rfl) rfl,
  f_iconst (e_dx DX12_along_0 11 rfl) ⟨by decide, by decide⟩,
  ⟨(e_dx DX12_along_0 12 rfl), rfl⟩,
  f_iload_n (n := 1) (e_dx DX12_along_0 13 rfl) rfl,
  f_iload (e_dx DX12_along_0 14 rfl),
  f_iconst (e_dx DX12_along_0 15 rfl) ⟨by decide, by decide⟩,
  f_iadd (e_dx DX12_along_0 16 rfl),
  f_iload_n (n := 2) (e_dx DX12_along_0 17 rfl) rfl,
  f_irem (e_dx DX12_along_0 18 rfl),
  f_iadd (e_dx DX12_along_0 19 rfl),
  f_g33,
  f_istore (e_dx DX12_along_0 20 rfl) (by decide),
  f_aload_n (n := 0) (e_dx DX12_along_0 21 rfl) rfl,
  f_aload_n (n := 0) (e_dx DX12_along_0 22 rfl) rfl,
  f_getA (e_dx DX12_along_0 23 rfl) fX12_82 rfl (by decide) (Nat.le_of_ble_eq_true rfl) rfl (by decide),
  f_iload (e_dx DX12_along_0 24 rfl),
  f_iaload (e_dx DX12_along_0 25 rfl),
  f_putn (e_dx DX12_along_0 26 rfl) fX12_497 (fun q hq => by cases hq; rfl) rfl (Or.inl rfl) (by decide),
  f_aload_n (n := 0) (e_dx DX12_along_0 27 rfl) rfl,
  f_aload_n (n := 0) (e_dx DX12_along_0 28 rfl) rfl,
  f_getA (e_dx DX12_along_0 29 rfl) fX12_85 rfl (by decide) (Nat.le_of_ble_eq_true rfl) rfl (by decide),
  f_iload (e_dx DX12_along_0 30 rfl),
  f_iaload (e_dx DX12_along_0 31 rfl),
  f_putn (e_dx DX12_along_0 32 rfl) fX12_500 (fun q hq => by cases hq; rfl) rfl (Or.inl rfl) (by decide),
  f_iconst (e_dx DX12_along_0 33 rfl) ⟨by decide, by decide⟩,
  f_istore (e_dx DX12_along_0 34 rfl) (by decide),
  trivial,
  f_iload (e_dx DX12_along_0 35 rfl),
  f_iload (e_dx DX12_along_0 36 rfl),
  f_icmp_ge (e_dx DX12_along_0 37 rfl) rfl,
  f_aload_n (n := 0) (e_dx DX12_along_0 38 rfl) rfl,
  f_getA (e_dx DX12_along_0 39 rfl) fX12_82 rfl (by decide) (Nat.le_of_ble_eq_true rfl) rfl (by decide),
  f_iload_n (n := 3) (e_dx DX12_along_1 0 rfl) rfl,
  f_iload (e_dx DX12_along_1 1 rfl),
  f_iadd (e_dx DX12_along_1 2 rfl),
  f_iaload (e_dx DX12_along_1 3 rfl),
  f_istore (e_dx DX12_along_1 4 rfl) (by decide),
  f_aload_n (n := 0) (e_dx DX12_along_1 5 rfl) rfl,
  f_getA (e_dx DX12_along_1 6 rfl) fX12_85 rfl (by decide) (Nat.le_of_ble_eq_true rfl) rfl (by decide),
  f_iload_n (n := 3) (e_dx DX12_along_1 7 rfl) rfl,
  f_iload (e_dx DX12_along_1 8 rfl),
  f_iadd (e_dx DX12_along_1 9 rfl),
  f_iaload (e_dx DX12_along_1 10 rfl),
  f_istore (e_dx DX12_along_1 11 rfl) (by decide),
  f_iload (e_dx DX12_along_1 12 rfl),
  f_iload (e_dx DX12_along_1 13 rfl),
  f_icmp_ne (e_dx DX12_along_1 14 rfl) rfl,
  f_iload (e_dx DX12_along_1 15 rfl),
  f_iload (e_dx DX12_along_1 16 rfl),
  f_icmp_eq (e_dx DX12_along_1 17 rfl) rfl,
  trivial,
  f_iload (e_dx DX12_along_1 18 rfl),
  f_g14 (e_dx DX12_along_1 19 rfl),
  f_iload (e_dx DX12_along_1 20 rfl),
  f_g14 (e_dx DX12_along_1 21 rfl),
  f_aload_n (n := 0) (e_dx DX12_along_1 22 rfl) rfl,
  f_getf (e_dx DX12_along_1 23 rfl) fX12_497 rfl (by decide) (by decide) (by decide),
  f_g14 (e_dx DX12_along_1 24 rfl),
  f_aload_n (n := 0) (e_dx DX12_along_1 25 rfl) rfl,
  f_getf (e_dx DX12_along_1 26 rfl) fX12_500 rfl (by decide) (by decide) (by decide),
  f_g14 (e_dx DX12_along_1 27 rfl),
  f_iload (e_dx DX12_along_1 28 rfl),
  f_g14 (e_dx DX12_along_1 29 rfl),
  f_iload (e_dx DX12_along_1 30 rfl),
  f_g14 (e_dx DX12_along_1 31 rfl),
  x_callS (e_dx DX12_along_1 32 rfl) mwX12_lies cX12_435 swX12_lies rfl,
  f_if_ne (e_dx DX12_along_1 33 rfl) rfl,
  f_g19 (e_dx DX12_along_1 34 rfl) rfl,
  f_aload_n (n := 0) (e_dx DX12_along_1 35 rfl) rfl,
  f_iload (e_dx DX12_along_1 36 rfl),
  f_putn (e_dx DX12_along_1 37 rfl) fX12_497 (fun q hq => by cases hq; rfl) rfl (Or.inl rfl) (by decide),
  f_aload_n (n := 0) (e_dx DX12_along_1 38 rfl) rfl,
  f_iload (e_dx DX12_along_1 39 rfl),
  f_putn (e_dx DX12_along_2 0 rfl) fX12_500 (fun q hq => by cases hq; rfl) rfl (Or.inl rfl) (by decide),
  trivial,
  f_g8 (e_dx DX12_along_2 1 rfl) ⟨by decide, by decide⟩,
  f_g19 (e_dx DX12_along_2 2 rfl) rfl,
  f_iconst (e_dx DX12_along_2 3 rfl) ⟨by decide, by decide⟩,
  ⟨(e_dx DX12_along_2 4 rfl), rfl⟩, trivial⟩
def lX12_along (c_X12_sideOf : Int → Int → Int → Int → e_M → (Int → Prop) → Prop) (c_X12_lies : Int → Int → Int → Int → Int → Int → e_M → (Int → Prop) → Prop) : List (Nat × f_Wt) := [(0, f_wm [(4466, 12, 123), (1, 0, 0), (1, 0, 0), (2, 0, 0), (2, 0, 0)] (fun ar M R => c_X12_sideOf (f_vi (f_nth ar 1)) (f_vi (f_nth ar 2)) (f_vi (f_nth ar 3)) (f_vi (f_nth ar 4)) M (fun r => R (some (.inl r)) M))), (1, f_wm [(2, 0, 0), (2, 0, 0), (2, 0, 0), (2, 0, 0), (2, 0, 0), (2, 0, 0)] (fun ar M R => c_X12_lies (f_vi (f_nth ar 0)) (f_vi (f_nth ar 1)) (f_vi (f_nth ar 2)) (f_vi (f_nth ar 3)) (f_vi (f_nth ar 4)) (f_vi (f_nth ar 5)) M (fun r => R (some (.inl r)) M)))]
set_option maxRecDepth 20000 in
theorem BX12_along_56 {sh : Nat → Nat × Nat} {t : Nat} {rm : Nat × Nat × Nat} {cs : Nat × Nat} {R : f_Rt} {c_X12_sideOf : Int → Int → Int → Int → e_M → (Int → Prop) → Prop} {c_X12_lies : Int → Int → Int → Int → Int → Int → e_M → (Int → Prop) → Prop} {k99 : Int → Int → Int → Int → Int → Int → Int → e_M → Prop} {k142 : Int → Int → Int → Int → Int → e_M → Prop} {x3 : Int} {x4 : Int} {x5 : Int} {x6 : Int} {x9 : Int} {M : e_M} (C : f_Hy sh t yX12_along rm cs 7 (lX12_along c_X12_sideOf c_X12_lies) R) (h99 : ∀ (x3 : Int) (x4 : Int) (x5 : Int) (x6 : Int) (x9 : Int) (x10 : Int) (x11 : Int) (M : e_M), k99 x3 x4 x5 x6 x9 x10 x11 M → f_E sh t YX12_along rm cs (f_Q sh t R) 99 [.inr (.inr (.inl (12, 123, 4456))), .inr (.inr (.inr ())), .inr (.inr (.inr ())), .inl x3, .inl x4, .inl x5, .inl x6, .inr (.inr (.inr ())), .inr (.inr (.inr ())), .inl x9, .inl x10, .inl x11] [] M) (h142 : ∀ (x3 : Int) (x4 : Int) (x5 : Int) (x6 : Int) (x9 : Int) (M : e_M), k142 x3 x4 x5 x6 x9 M → f_E sh t YX12_along rm cs (f_Q sh t R) 142 [.inr (.inr (.inl (12, 123, 4456))), .inr (.inr (.inr ())), .inr (.inr (.inr ())), .inl x3, .inl x4, .inl x5, .inl x6, .inr (.inr (.inr ())), .inr (.inr (.inr ())), .inl x9, .inr (.inr (.inr ())), .inr (.inr (.inr ()))] [] M) (h : VX12_along_56 c_X12_sideOf c_X12_lies k99 k142 (fun r M => R (some (.inl r)) M) x3 x4 x5 x6 x9 M) : f_E sh t YX12_along rm cs (f_Q sh t R) 56 [.inr (.inr (.inl (12, 123, 4456))), .inr (.inr (.inr ())), .inr (.inr (.inr ())), .inl x3, .inl x4, .inl x5, .inl x6, .inr (.inr (.inr ())), .inr (.inr (.inr ())), .inl x9, .inr (.inr (.inr ())), .inr (.inr (.inr ()))] [] M :=
  f_go (KC := f_kc [(99, f_pl [(4466, 12, 123), (0, 0, 0), (0, 0, 0), (1, 0, 0), (1, 0, 0), (1, 0, 0), (1, 0, 0), (0, 0, 0), (0, 0, 0), (1, 0, 0), (1, 0, 0), (1, 0, 0)] [] (fun ls st M => k99 (f_vi (f_nth ls 3)) (f_vi (f_nth ls 4)) (f_vi (f_nth ls 5)) (f_vi (f_nth ls 6)) (f_vi (f_nth ls 9)) (f_vi (f_nth ls 10)) (f_vi (f_nth ls 11)) M)), (142, f_pl [(4466, 12, 123), (0, 0, 0), (0, 0, 0), (1, 0, 0), (1, 0, 0), (1, 0, 0), (1, 0, 0), (0, 0, 0), (0, 0, 0), (1, 0, 0), (0, 0, 0), (0, 0, 0)] [] (fun ls st M => k142 (f_vi (f_nth ls 3)) (f_vi (f_nth ls 4)) (f_vi (f_nth ls 5)) (f_vi (f_nth ls 6)) (f_vi (f_nth ls 9)) M))]) C qX12_alongf (f_kc_cons (f_pl_ok rfl (fun ls st M h => h99 _ _ _ _ _ _ _ M h)) (f_kc_cons (f_pl_ok rfl (fun ls st M h => h142 _ _ _ _ _ M h)) f_kc_nil)) 91 37 h
set_option maxRecDepth 20000 in
theorem BX12_along_99 {sh : Nat → Nat × Nat} {t : Nat} {rm : Nat × Nat × Nat} {cs : Nat × Nat} {R : f_Rt} {c_X12_sideOf : Int → Int → Int → Int → e_M → (Int → Prop) → Prop} {c_X12_lies : Int → Int → Int → Int → Int → Int → e_M → (Int → Prop) → Prop} {k142 : Int → Int → Int → Int → Int → e_M → Prop} {x3 : Int} {x4 : Int} {x5 : Int} {x6 : Int} {x9 : Int} {x10 : Int} {x11 : Int} {M : e_M} (C : f_Hy sh t yX12_along rm cs 7 (lX12_along c_X12_sideOf c_X12_lies) R) (h142 : ∀ (x3 : Int) (x4 : Int) (x5 : Int) (x6 : Int) (x9 : Int) (M : e_M), k142 x3 x4 x5 x6 x9 M → f_E sh t YX12_along rm cs (f_Q sh t R) 142 [.inr (.inr (.inl (12, 123, 4456))), .inr (.inr (.inr ())), .inr (.inr (.inr ())), .inl x3, .inl x4, .inl x5, .inl x6, .inr (.inr (.inr ())), .inr (.inr (.inr ())), .inl x9, .inr (.inr (.inr ())), .inr (.inr (.inr ()))] [] M) (h : VX12_along_99 c_X12_sideOf c_X12_lies k142 (fun r M => R (some (.inl r)) M) x3 x4 x5 x6 x9 x10 x11 M) : f_E sh t YX12_along rm cs (f_Q sh t R) 99 [.inr (.inr (.inl (12, 123, 4456))), .inr (.inr (.inr ())), .inr (.inr (.inr ())), .inl x3, .inl x4, .inl x5, .inl x6, .inr (.inr (.inr ())), .inr (.inr (.inr ())), .inl x9, .inl x10, .inl x11] [] M :=
  f_go (KC := f_kc [(142, f_pl [(4466, 12, 123), (0, 0, 0), (0, 0, 0), (1, 0, 0), (1, 0, 0), (1, 0, 0), (1, 0, 0), (0, 0, 0), (0, 0, 0), (1, 0, 0), (0, 0, 0), (0, 0, 0)] [] (fun ls st M => k142 (f_vi (f_nth ls 3)) (f_vi (f_nth ls 4)) (f_vi (f_nth ls 5)) (f_vi (f_nth ls 6)) (f_vi (f_nth ls 9)) M))]) C qX12_alongf (f_kc_cons (f_pl_ok rfl (fun ls st M h => h142 _ _ _ _ _ M h)) f_kc_nil) 91 61 h
set_option maxRecDepth 20000 in
theorem BX12_along_142 {sh : Nat → Nat × Nat} {t : Nat} {rm : Nat × Nat × Nat} {cs : Nat × Nat} {R : f_Rt} {c_X12_sideOf : Int → Int → Int → Int → e_M → (Int → Prop) → Prop} {c_X12_lies : Int → Int → Int → Int → Int → Int → e_M → (Int → Prop) → Prop} {k56 : Int → Int → Int → Int → Int → e_M → Prop} {x3 : Int} {x4 : Int} {x5 : Int} {x6 : Int} {x9 : Int} {M : e_M} (C : f_Hy sh t yX12_along rm cs 7 (lX12_along c_X12_sideOf c_X12_lies) R) (h56 : ∀ (x3 : Int) (x4 : Int) (x5 : Int) (x6 : Int) (x9 : Int) (M : e_M), k56 x3 x4 x5 x6 x9 M → f_E sh t YX12_along rm cs (f_Q sh t R) 56 [.inr (.inr (.inl (12, 123, 4456))), .inr (.inr (.inr ())), .inr (.inr (.inr ())), .inl x3, .inl x4, .inl x5, .inl x6, .inr (.inr (.inr ())), .inr (.inr (.inr ())), .inl x9, .inr (.inr (.inr ())), .inr (.inr (.inr ()))] [] M) (h : VX12_along_142 c_X12_sideOf c_X12_lies k56 (fun r M => R (some (.inl r)) M) x3 x4 x5 x6 x9 M) : f_E sh t YX12_along rm cs (f_Q sh t R) 142 [.inr (.inr (.inl (12, 123, 4456))), .inr (.inr (.inr ())), .inr (.inr (.inr ())), .inl x3, .inl x4, .inl x5, .inl x6, .inr (.inr (.inr ())), .inr (.inr (.inr ())), .inl x9, .inr (.inr (.inr ())), .inr (.inr (.inr ()))] [] M :=
  f_go (KC := f_kc [(56, f_pl [(4466, 12, 123), (0, 0, 0), (0, 0, 0), (1, 0, 0), (1, 0, 0), (1, 0, 0), (1, 0, 0), (0, 0, 0), (0, 0, 0), (1, 0, 0), (0, 0, 0), (0, 0, 0)] [] (fun ls st M => k56 (f_vi (f_nth ls 3)) (f_vi (f_nth ls 4)) (f_vi (f_nth ls 5)) (f_vi (f_nth ls 6)) (f_vi (f_nth ls 9)) M))]) C qX12_alongf (f_kc_cons (f_pl_ok rfl (fun ls st M h => h56 _ _ _ _ _ M h)) f_kc_nil) 91 85 h
set_option maxRecDepth 20000 in
theorem BX12_along {sh : Nat → Nat × Nat} {t : Nat} {rm : Nat × Nat × Nat} {cs : Nat × Nat} {R : f_Rt} {c_X12_sideOf : Int → Int → Int → Int → e_M → (Int → Prop) → Prop} {c_X12_lies : Int → Int → Int → Int → Int → Int → e_M → (Int → Prop) → Prop} {k56 : Int → Int → Int → Int → Int → e_M → Prop} {x1 : Int} {x2 : Int} {x3 : Int} {x4 : Int} {x5 : Int} {x6 : Int} {M : e_M} (C : f_Hy sh t yX12_along rm cs 7 (lX12_along c_X12_sideOf c_X12_lies) R) (h56 : ∀ (x3 : Int) (x4 : Int) (x5 : Int) (x6 : Int) (x9 : Int) (M : e_M), k56 x3 x4 x5 x6 x9 M → f_E sh t YX12_along rm cs (f_Q sh t R) 56 [.inr (.inr (.inl (12, 123, 4456))), .inr (.inr (.inr ())), .inr (.inr (.inr ())), .inl x3, .inl x4, .inl x5, .inl x6, .inr (.inr (.inr ())), .inr (.inr (.inr ())), .inl x9, .inr (.inr (.inr ())), .inr (.inr (.inr ()))] [] M) (h : VX12_along c_X12_sideOf c_X12_lies k56 (fun r M => R (some (.inl r)) M) x1 x2 x3 x4 x5 x6 M) : f_E sh t YX12_along rm cs (f_Q sh t R) 0 [.inr (.inr (.inl (12, 123, 4456))), .inl x1, .inl x2, .inl x3, .inl x4, .inl x5, .inl x6, .inr (.inr (.inr ())), .inr (.inr (.inr ())), .inr (.inr (.inr ())), .inr (.inr (.inr ())), .inr (.inr (.inr ()))] [] M :=
  f_go (KC := f_kc [(56, f_pl [(4466, 12, 123), (0, 0, 0), (0, 0, 0), (1, 0, 0), (1, 0, 0), (1, 0, 0), (1, 0, 0), (0, 0, 0), (0, 0, 0), (1, 0, 0), (0, 0, 0), (0, 0, 0)] [] (fun ls st M => k56 (f_vi (f_nth ls 3)) (f_vi (f_nth ls 4)) (f_vi (f_nth ls 5)) (f_vi (f_nth ls 6)) (f_vi (f_nth ls 9)) M))]) C qX12_alongf (f_kc_cons (f_pl_ok rfl (fun ls st M h => h56 _ _ _ _ _ M h)) f_kc_nil) 91 0 h
def WX12_along_142 (H56 : Int → Int → Int → Int → Int → e_M → Prop) (Q : Int → e_M → Prop) (x3 : Int) (x4 : Int) (x5 : Int) (x6 : Int) (x9 : Int) (M : e_M) : Prop :=
  VX12_along_142 WX12_sideOf WX12_lies H56 Q x3 x4 x5 x6 x9 M
def WX12_along_99 (H56 : Int → Int → Int → Int → Int → e_M → Prop) (Q : Int → e_M → Prop) (x3 : Int) (x4 : Int) (x5 : Int) (x6 : Int) (x9 : Int) (x10 : Int) (x11 : Int) (M : e_M) : Prop :=
  VX12_along_99 WX12_sideOf WX12_lies (WX12_along_142 H56 Q) Q x3 x4 x5 x6 x9 x10 x11 M
def WX12_along_56 (Q : Int → e_M → Prop) : Nat → Int → Int → Int → Int → Int → e_M → Prop
  | 0, _, _, _, _, _, _ => False
  | n + 1, x3, x4, x5, x6, x9, M =>
    VX12_along_56 WX12_sideOf WX12_lies (WX12_along_99 (WX12_along_56 Q n) Q) (WX12_along_142 (WX12_along_56 Q n) Q) Q x3 x4 x5 x6 x9 M
def WX12_along (x1 : Int) (x2 : Int) (x3 : Int) (x4 : Int) (x5 : Int) (x6 : Int) (M : e_M) (Q : Int → e_M → Prop) : Prop :=
  VX12_along WX12_sideOf WX12_lies (fun x3 x4 x5 x6 x9 M => ∃ j, WX12_along_56 Q j x3 x4 x5 x6 x9 M) Q x1 x2 x3 x4 x5 x6 M
theorem PX12_along_142 {sh : Nat → Nat × Nat} {t : Nat} {rm : Nat × Nat × Nat} {cs : Nat × Nat} {R : f_Rt} {H56 : Int → Int → Int → Int → Int → e_M → Prop} {x3 : Int} {x4 : Int} {x5 : Int} {x6 : Int} {x9 : Int} {M : e_M} (C : f_Hy sh t yX12_along rm cs 7 (lX12_along WX12_sideOf WX12_lies) R) (g56 : ∀ (x3 : Int) (x4 : Int) (x5 : Int) (x6 : Int) (x9 : Int) (M : e_M), H56 x3 x4 x5 x6 x9 M → f_E sh t YX12_along rm cs (f_Q sh t R) 56 [.inr (.inr (.inl (12, 123, 4456))), .inr (.inr (.inr ())), .inr (.inr (.inr ())), .inl x3, .inl x4, .inl x5, .inl x6, .inr (.inr (.inr ())), .inr (.inr (.inr ())), .inl x9, .inr (.inr (.inr ())), .inr (.inr (.inr ()))] [] M) (h : WX12_along_142 H56 (fun r M => R (some (.inl r)) M) x3 x4 x5 x6 x9 M) : f_E sh t YX12_along rm cs (f_Q sh t R) 142 [.inr (.inr (.inl (12, 123, 4456))), .inr (.inr (.inr ())), .inr (.inr (.inr ())), .inl x3, .inl x4, .inl x5, .inl x6, .inr (.inr (.inr ())), .inr (.inr (.inr ())), .inl x9, .inr (.inr (.inr ())), .inr (.inr (.inr ()))] [] M :=
  BX12_along_142 C g56 h
theorem PX12_along_99 {sh : Nat → Nat × Nat} {t : Nat} {rm : Nat × Nat × Nat} {cs : Nat × Nat} {R : f_Rt} {H56 : Int → Int → Int → Int → Int → e_M → Prop} {x3 : Int} {x4 : Int} {x5 : Int} {x6 : Int} {x9 : Int} {x10 : Int} {x11 : Int} {M : e_M} (C : f_Hy sh t yX12_along rm cs 7 (lX12_along WX12_sideOf WX12_lies) R) (g56 : ∀ (x3 : Int) (x4 : Int) (x5 : Int) (x6 : Int) (x9 : Int) (M : e_M), H56 x3 x4 x5 x6 x9 M → f_E sh t YX12_along rm cs (f_Q sh t R) 56 [.inr (.inr (.inl (12, 123, 4456))), .inr (.inr (.inr ())), .inr (.inr (.inr ())), .inl x3, .inl x4, .inl x5, .inl x6, .inr (.inr (.inr ())), .inr (.inr (.inr ())), .inl x9, .inr (.inr (.inr ())), .inr (.inr (.inr ()))] [] M) (h : WX12_along_99 H56 (fun r M => R (some (.inl r)) M) x3 x4 x5 x6 x9 x10 x11 M) : f_E sh t YX12_along rm cs (f_Q sh t R) 99 [.inr (.inr (.inl (12, 123, 4456))), .inr (.inr (.inr ())), .inr (.inr (.inr ())), .inl x3, .inl x4, .inl x5, .inl x6, .inr (.inr (.inr ())), .inr (.inr (.inr ())), .inl x9, .inl x10, .inl x11] [] M :=
  BX12_along_99 C (fun x3 x4 x5 x6 x9 M h => PX12_along_142 C g56 h) h
theorem PX12_along_56 {sh : Nat → Nat × Nat} {t : Nat} {rm : Nat × Nat × Nat} {cs : Nat × Nat} {R : f_Rt} (C : f_Hy sh t yX12_along rm cs 7 (lX12_along WX12_sideOf WX12_lies) R) : ∀ (n : Nat) (x3 : Int) (x4 : Int) (x5 : Int) (x6 : Int) (x9 : Int) (M : e_M), WX12_along_56 (fun r M => R (some (.inl r)) M) n x3 x4 x5 x6 x9 M → f_E sh t YX12_along rm cs (f_Q sh t R) 56 [.inr (.inr (.inl (12, 123, 4456))), .inr (.inr (.inr ())), .inr (.inr (.inr ())), .inl x3, .inl x4, .inl x5, .inl x6, .inr (.inr (.inr ())), .inr (.inr (.inr ())), .inl x9, .inr (.inr (.inr ())), .inr (.inr (.inr ()))] [] M := by
  intro n
  induction n with
  | zero => intro x3 x4 x5 x6 x9 M h; exact h.elim
  | succ n ih => intro x3 x4 x5 x6 x9 M h; exact BX12_along_56 C (fun x3 x4 x5 x6 x9 x10 x11 M h => PX12_along_99 C ih h) (fun x3 x4 x5 x6 x9 M h => PX12_along_142 C ih h) h
theorem PX12_along {sh : Nat → Nat × Nat} {t : Nat} {rm : Nat × Nat × Nat} {cs : Nat × Nat} {R : f_Rt} {x1 : Int} {x2 : Int} {x3 : Int} {x4 : Int} {x5 : Int} {x6 : Int} {M : e_M} (C : f_Hy sh t yX12_along rm cs 7 (lX12_along WX12_sideOf WX12_lies) R) (h : WX12_along x1 x2 x3 x4 x5 x6 M (fun r M => R (some (.inl r)) M)) : f_E sh t YX12_along rm cs (f_Q sh t R) 0 [.inr (.inr (.inl (12, 123, 4456))), .inl x1, .inl x2, .inl x3, .inl x4, .inl x5, .inl x6, .inr (.inr (.inr ())), .inr (.inr (.inr ())), .inr (.inr (.inr ())), .inr (.inr (.inr ())), .inr (.inr (.inr ()))] [] M :=
  BX12_along C (fun x3 x4 x5 x6 x9 M ⟨j, h⟩ => PX12_along_56 C j _ _ _ _ _ _ h) h
def wX12_along : f_Wt := f_wm [(4466, 12, 123), (1, 0, 0), (1, 0, 0), (1, 0, 0), (1, 0, 0), (1, 0, 0), (1, 0, 0)] (fun ar M R => WX12_along (f_vi (f_nth ar 1)) (f_vi (f_nth ar 2)) (f_vi (f_nth ar 3)) (f_vi (f_nth ar 4)) (f_vi (f_nth ar 5)) (f_vi (f_nth ar 6)) M (fun r M => R (some (.inl r)) M))
theorem TX12_along {sh : Nat → Nat × Nat} {t : Nat} : f_Mt sh t YX12_along 7 (wX12_along) :=
  f_Mt_of (k := 5) (Nat.le_of_ble_eq_true rfl) rfl rfl (fun ar M R rm cs h1 h2 h3 hX h => PX12_along ⟨Nat.le_of_ble_eq_true rfl, h1, h2, h3, ⟨(f_Mt.up (Nat.le_of_ble_eq_true rfl) TX12_sideOf), (f_Mt.up (Nat.le_of_ble_eq_true rfl) TX12_lies), trivial⟩, hX⟩ h)
def VX12_round (Q : Int → Prop) (x0 : Int) (x2 : Int) (x4 : Int) (x6 : Int) (M : e_M) : Prop :=
  (∀ y1 : Int, y1 = e_w64 ((e_w64 (x0 * x6)) - (e_w64 (x2 * x4))) → (∀ y2 : Int, y2 = e_w64 ((e_w64 (x0 * x4)) + (e_w64 (x2 * x6))) → ((y1 ≤ 0 → ((0 ≤ y1 → ((0 ≤ y2 → (Q 4)) ∧ (y2 < 0 → (Q 2)))) ∧ (y1 < 0 → (Q 3)))) ∧ (0 < y1 → (Q 1)))))
def yX12_round (i : Nat) : e_Y := x_get YX12_round [] i
def pX12_roundf : List x_I := [(0, 3, 1, 0, 0, 0, []), (1, 3, 2, 6, 0, 0, []), (3, 10, 0, 2, 0, 0, []), (4, 3, 1, 2, 0, 0, []), (5, 3, 2, 4, 0, 0, []), (7, 10, 0, 2, 0, 0, []), (8, 10, 0, 1, 0, 0, []), (9, 33, 0, 0, 0, 0, []), (9, 6, 2, 8, 0, 0, []), (11, 3, 1, 0, 0, 0, []), (12, 3, 2, 4, 0, 0, []), (14, 10, 0, 2, 0, 0, []), (15, 3, 1, 2, 0, 0, []), (16, 3, 2, 6, 0, 0, []), (18, 10, 0, 2, 0, 0, []), (19, 10, 0, 0, 0, 0, []), (20, 33, 0, 0, 0, 0, []), (20, 6, 2, 10, 0, 0, []), (22, 3, 2, 8, 0, 0, []), (24, 1, 1, 0, 0, 0, []), (25, 32, 33, 5, 24, 0, []), (29, 0, 1, 0, 0, 1, []), (30, 19, 56, 0, 35, 0, []), (33, 3, 2, 8, 0, 0, []), (35, 1, 1, 0, 0, 0, []), (36, 32, 44, 3, 29, 0, []), (40, 0, 1, 0, 0, 3, []), (41, 19, 56, 0, 35, 0, []), (44, 3, 2, 10, 0, 0, []), (46, 1, 1, 0, 0, 0, []), (47, 32, 55, 3, 34, 0, []), (51, 0, 1, 0, 0, 2, []), (52, 19, 56, 0, 35, 0, []), (55, 0, 1, 0, 0, 4, []), (56, 41, 0, 0, 0, 0, [])]
set_option maxRecDepth 20000 in
theorem qX12_roundf : f_all yX12_round YX12_round pX12_roundf :=
  ⟨f_lload_n (n := 0) (e_dx DX12_round_0 0 rfl) rfl,
  f_lload (e_dx DX12_round_0 1 rfl),
  f_lmul (e_dx DX12_round_0 2 rfl),
  f_lload_n (n := 2) (e_dx DX12_round_0 3 rfl) rfl,
  f_lload (e_dx DX12_round_0 4 rfl),
  f_lmul (e_dx DX12_round_0 5 rfl),
  f_lsub (e_dx DX12_round_0 6 rfl),
  f_g33,
  f_lstore (e_dx DX12_round_0 7 rfl) (by decide),
  f_lload_n (n := 0) (e_dx DX12_round_0 8 rfl) rfl,
  f_lload (e_dx DX12_round_0 9 rfl),
  f_lmul (e_dx DX12_round_0 10 rfl),
  f_lload_n (n := 2) (e_dx DX12_round_0 11 rfl) rfl,
  f_lload (e_dx DX12_round_0 12 rfl),
  f_lmul (e_dx DX12_round_0 13 rfl),
  f_ladd (e_dx DX12_round_0 14 rfl),
  f_g33,
  f_lstore (e_dx DX12_round_0 15 rfl) (by decide),
  f_lload (e_dx DX12_round_0 16 rfl),
  f_lconst (n := 0) (e_dx DX12_round_0 17 rfl) rfl,
  f_lif_le (e_dx DX12_round_0 18 rfl) (e_dx DX12_round_0 19 rfl) rfl,
  f_iconst (e_dx DX12_round_0 20 rfl) ⟨by decide, by decide⟩,
  f_g19 (e_dx DX12_round_0 21 rfl) rfl,
  f_lload (e_dx DX12_round_0 22 rfl),
  f_lconst (n := 0) (e_dx DX12_round_0 23 rfl) rfl,
  f_lif_ge (e_dx DX12_round_0 24 rfl) (e_dx DX12_round_0 25 rfl) rfl,
  f_iconst (e_dx DX12_round_0 26 rfl) ⟨by decide, by decide⟩,
  f_g19 (e_dx DX12_round_0 27 rfl) rfl,
  f_lload (e_dx DX12_round_0 28 rfl),
  f_lconst (n := 0) (e_dx DX12_round_0 29 rfl) rfl,
  f_lif_ge (e_dx DX12_round_0 30 rfl) (e_dx DX12_round_0 31 rfl) rfl,
  f_iconst (e_dx DX12_round_0 32 rfl) ⟨by decide, by decide⟩,
  f_g19 (e_dx DX12_round_0 33 rfl) rfl,
  f_iconst (e_dx DX12_round_0 34 rfl) ⟨by decide, by decide⟩,
  ⟨(e_dx DX12_round_0 35 rfl), rfl⟩, trivial⟩
def lX12_round : List (Nat × f_Wt) := []
set_option maxRecDepth 20000 in
theorem BX12_round {sh : Nat → Nat × Nat} {t : Nat} {rm : Nat × Nat × Nat} {cs : Nat × Nat} {R : f_Rt} {x0 : Int} {x2 : Int} {x4 : Int} {x6 : Int} {M : e_M} (C : f_Hy sh t yX12_round rm cs 4 (lX12_round) R) (h : VX12_round (fun r => R (some (.inl r)) M) x0 x2 x4 x6 M) : f_E sh t YX12_round rm cs (f_Q sh t R) 0 [.inr (.inl x0), .inr (.inr (.inr ())), .inr (.inl x2), .inr (.inr (.inr ())), .inr (.inl x4), .inr (.inr (.inr ())), .inr (.inl x6), .inr (.inr (.inr ())), .inr (.inr (.inr ())), .inr (.inr (.inr ())), .inr (.inr (.inr ())), .inr (.inr (.inr ()))] [] M :=
  f_go (KC := f_kc []) C qX12_roundf f_kc_nil 37 0 h
def WX12_round (x0 : Int) (x2 : Int) (x4 : Int) (x6 : Int) (M : e_M) (Q : Int → Prop) : Prop :=
  VX12_round Q x0 x2 x4 x6 M
theorem PX12_round {sh : Nat → Nat × Nat} {t : Nat} {rm : Nat × Nat × Nat} {cs : Nat × Nat} {R : f_Rt} {x0 : Int} {x2 : Int} {x4 : Int} {x6 : Int} {M : e_M} (C : f_Hy sh t yX12_round rm cs 4 (lX12_round) R) (h : WX12_round x0 x2 x4 x6 M (fun r => R (some (.inl r)) M)) : f_E sh t YX12_round rm cs (f_Q sh t R) 0 [.inr (.inl x0), .inr (.inr (.inr ())), .inr (.inl x2), .inr (.inr (.inr ())), .inr (.inl x4), .inr (.inr (.inr ())), .inr (.inl x6), .inr (.inr (.inr ())), .inr (.inr (.inr ())), .inr (.inr (.inr ())), .inr (.inr (.inr ())), .inr (.inr (.inr ()))] [] M :=
  BX12_round C h
def wX12_round : f_Wt := f_wm [(2, 0, 0), (2, 0, 0), (2, 0, 0), (2, 0, 0)] (fun ar M R => WX12_round (f_vi (f_nth ar 0)) (f_vi (f_nth ar 1)) (f_vi (f_nth ar 2)) (f_vi (f_nth ar 3)) M (fun r => R (some (.inl r)) M))
theorem TX12_round {sh : Nat → Nat × Nat} {t : Nat} : f_Mt sh t YX12_round 4 (wX12_round) :=
  f_Mt_of (k := 4) (Nat.le_of_ble_eq_true rfl) rfl rfl (fun ar M R rm cs h1 h2 h3 hX h => PX12_round ⟨Nat.le_of_ble_eq_true rfl, h1, h2, h3, trivial, hX⟩ h)
def VX12_joins_45 (c_X12_along : Int → Int → Int → Int → Int → Int → e_M → (Int → e_M → Prop) → Prop) (c_X12_round : Int → Int → Int → Int → e_M → (Int → Prop) → Prop) (c_X12_areaOf : Int → Int → e_M → (Int → Prop) → Prop) (c_X12_tidy : Int → Int → e_M → (Int → e_M → Prop) → Prop) (k50 : Int → Int → Int → Int → Int → e_M → Prop) (Q : Int → e_M → Prop) (x1 : Int) (x2 : Int) (x3 : Int) (x4 : Int) (M : e_M) : Prop :=
  (k50 x1 x2 x3 x4 1 M)
def VX12_joins_49 (c_X12_along : Int → Int → Int → Int → Int → Int → e_M → (Int → e_M → Prop) → Prop) (c_X12_round : Int → Int → Int → Int → e_M → (Int → Prop) → Prop) (c_X12_areaOf : Int → Int → e_M → (Int → Prop) → Prop) (c_X12_tidy : Int → Int → e_M → (Int → e_M → Prop) → Prop) (k50 : Int → Int → Int → Int → Int → e_M → Prop) (Q : Int → e_M → Prop) (x1 : Int) (x2 : Int) (x3 : Int) (x4 : Int) (M : e_M) : Prop :=
  (k50 x1 x2 x3 x4 0 M)
def VX12_joins_50 (c_X12_along : Int → Int → Int → Int → Int → Int → e_M → (Int → e_M → Prop) → Prop) (c_X12_round : Int → Int → Int → Int → e_M → (Int → Prop) → Prop) (c_X12_areaOf : Int → Int → e_M → (Int → Prop) → Prop) (c_X12_tidy : Int → Int → e_M → (Int → e_M → Prop) → Prop) (k72 : Int → Int → Int → Int → Int → Int → e_M → Prop) (Q : Int → e_M → Prop) (x1 : Int) (x2 : Int) (x3 : Int) (x4 : Int) (xs0 : Int) (M : e_M) : Prop :=
  ((xs0 = 0 → ((0 ≤ x3 ∧ x3 < 4800) ∧ (k72 x1 x2 x3 x4 xs0 (M 4480 (x3.toNat)) M))) ∧ (¬ xs0 = 0 → ((0 ≤ x1 ∧ x1 < 4800) ∧ (k72 x1 x2 x3 x4 xs0 (M 4480 (x1.toNat)) M))))
def VX12_joins_72 (c_X12_along : Int → Int → Int → Int → Int → Int → e_M → (Int → e_M → Prop) → Prop) (c_X12_round : Int → Int → Int → Int → e_M → (Int → Prop) → Prop) (c_X12_areaOf : Int → Int → e_M → (Int → Prop) → Prop) (c_X12_tidy : Int → Int → e_M → (Int → e_M → Prop) → Prop) (k94 : Int → Int → Int → Int → Int → Int → e_M → Prop) (Q : Int → e_M → Prop) (x1 : Int) (x2 : Int) (x3 : Int) (x4 : Int) (x5 : Int) (xs0 : Int) (M : e_M) : Prop :=
  ((x5 = 0 → ((0 ≤ x3 ∧ x3 < 4800) ∧ (k94 x1 x2 x3 x4 xs0 (M 4481 (x3.toNat)) M))) ∧ (¬ x5 = 0 → ((0 ≤ x1 ∧ x1 < 4800) ∧ (k94 x1 x2 x3 x4 xs0 (M 4481 (x1.toNat)) M))))
def VX12_joins_94 (c_X12_along : Int → Int → Int → Int → Int → Int → e_M → (Int → e_M → Prop) → Prop) (c_X12_round : Int → Int → Int → Int → e_M → (Int → Prop) → Prop) (c_X12_areaOf : Int → Int → e_M → (Int → Prop) → Prop) (c_X12_tidy : Int → Int → e_M → (Int → e_M → Prop) → Prop) (k115 : Int → Int → Int → Int → Int → Int → Int → Int → Int → Int → Int → e_M → Prop) (Q : Int → e_M → Prop) (x1 : Int) (x2 : Int) (x3 : Int) (x4 : Int) (x6 : Int) (xs0 : Int) (M : e_M) : Prop :=
  (k115 x1 x2 x3 x4 x6 xs0 x6 xs0 (-1) 0 0 M)
def VX12_joins_115 (c_X12_along : Int → Int → Int → Int → Int → Int → e_M → (Int → e_M → Prop) → Prop) (c_X12_round : Int → Int → Int → Int → e_M → (Int → Prop) → Prop) (c_X12_areaOf : Int → Int → e_M → (Int → Prop) → Prop) (c_X12_tidy : Int → Int → e_M → (Int → e_M → Prop) → Prop) (k118 : Int → Int → Int → Int → Int → Int → Int → Int → Int → Int → Int → Int → e_M → Prop) (Q : Int → e_M → Prop) (x1 : Int) (x2 : Int) (x3 : Int) (x4 : Int) (x6 : Int) (x7 : Int) (x8 : Int) (x9 : Int) (x10 : Int) (x12 : Int) (x14 : Int) (M : e_M) : Prop :=
  (k118 x1 x2 x3 x4 x6 x7 x8 x9 x10 x12 x14 0 M)
def VX12_joins_118 (c_X12_along : Int → Int → Int → Int → Int → Int → e_M → (Int → e_M → Prop) → Prop) (c_X12_round : Int → Int → Int → Int → e_M → (Int → Prop) → Prop) (c_X12_areaOf : Int → Int → e_M → (Int → Prop) → Prop) (c_X12_tidy : Int → Int → e_M → (Int → e_M → Prop) → Prop) (k376 : Int → Int → Int → Int → Int → Int → Int → Int → Int → Int → Int → e_M → Prop) (k275 : Int → Int → Int → Int → Int → Int → Int → Int → Int → Int → Int → Int → Int → Int → e_M → Prop) (k159 : Int → Int → Int → Int → Int → Int → Int → Int → Int → Int → Int → Int → e_M → Prop) (Q : Int → e_M → Prop) (x1 : Int) (x2 : Int) (x3 : Int) (x4 : Int) (x6 : Int) (x7 : Int) (x8 : Int) (x9 : Int) (x10 : Int) (x12 : Int) (x14 : Int) (x15 : Int) (M : e_M) : Prop :=
  ((x14 ≤ x15 → ((¬ x14 = 399 → ((0 ≤ (e_w32 ((4400 : Int) + x14)) ∧ (e_w32 ((4400 : Int) + x14)) < 4800) ∧ (∀ M1 : e_M, M1 = e_up M 4480 ((e_w32 ((4400 : Int) + x14)).toNat) x8 → ((0 ≤ (e_w32 ((4400 : Int) + x14)) ∧ (e_w32 ((4400 : Int) + x14)) < 4800) ∧ (∀ M2 : e_M, M2 = e_up M1 4481 ((e_w32 ((4400 : Int) + x14)).toNat) x9 → (c_X12_along x1 x2 x3 x4 x8 x9 M2 (fun r3 M4 => (c_X12_along x3 x4 x1 x2 x8 x9 M4 (fun r5 M6 => ((r5 = 0 → (k376 x1 x2 x3 x4 x6 x7 x8 x9 (e_w32 (x14 + 1)) (M4 4456 47) (M4 4456 48) M6)) ∧ (¬ r5 = 0 → ((r3 = 0 → (k275 x1 x2 x3 x4 x6 x7 x8 x9 x10 x12 (e_w32 (x14 + 1)) (M4 4456 47) (M4 4456 48) 5 M6)) ∧ (¬ r3 = 0 → (c_X12_round x10 x12 (e_w32 ((M4 4456 47) - x8)) (e_w32 ((M4 4456 48) - x9)) M6 (fun r7 => (k275 x1 x2 x3 x4 x6 x7 x8 x9 x10 x12 (e_w32 (x14 + 1)) (M4 4456 47) (M4 4456 48) r7 M6)))))))))))))))) ∧ (x14 = 399 → (Q 0 M)))) ∧ (x15 < x14 → ((0 ≤ (e_w32 ((4400 : Int) + x15)) ∧ (e_w32 ((4400 : Int) + x15)) < 4800) ∧ ((¬ (M 4480 ((e_w32 ((4400 : Int) + x15)).toNat)) = x8 → (k159 x1 x2 x3 x4 x6 x7 x8 x9 x10 x12 x14 x15 M)) ∧ ((M 4480 ((e_w32 ((4400 : Int) + x15)).toNat)) = x8 → ((0 ≤ (e_w32 ((4400 : Int) + x15)) ∧ (e_w32 ((4400 : Int) + x15)) < 4800) ∧ ((¬ (M 4481 ((e_w32 ((4400 : Int) + x15)).toNat)) = x9 → (k159 x1 x2 x3 x4 x6 x7 x8 x9 x10 x12 x14 x15 M)) ∧ ((M 4481 ((e_w32 ((4400 : Int) + x15)).toNat)) = x9 → (Q 0 M)))))))))
def VX12_joins_159 (c_X12_along : Int → Int → Int → Int → Int → Int → e_M → (Int → e_M → Prop) → Prop) (c_X12_round : Int → Int → Int → Int → e_M → (Int → Prop) → Prop) (c_X12_areaOf : Int → Int → e_M → (Int → Prop) → Prop) (c_X12_tidy : Int → Int → e_M → (Int → e_M → Prop) → Prop) (k118 : Int → Int → Int → Int → Int → Int → Int → Int → Int → Int → Int → Int → e_M → Prop) (Q : Int → e_M → Prop) (x1 : Int) (x2 : Int) (x3 : Int) (x4 : Int) (x6 : Int) (x7 : Int) (x8 : Int) (x9 : Int) (x10 : Int) (x12 : Int) (x14 : Int) (x15 : Int) (M : e_M) : Prop :=
  (k118 x1 x2 x3 x4 x6 x7 x8 x9 x10 x12 x14 (e_w32 (x15 + 1)) M)
def VX12_joins_275 (c_X12_along : Int → Int → Int → Int → Int → Int → e_M → (Int → e_M → Prop) → Prop) (c_X12_round : Int → Int → Int → Int → e_M → (Int → Prop) → Prop) (c_X12_areaOf : Int → Int → e_M → (Int → Prop) → Prop) (c_X12_tidy : Int → Int → e_M → (Int → e_M → Prop) → Prop) (k352 : Int → Int → Int → Int → Int → Int → Int → Int → Int → Int → Int → e_M → Prop) (k356 : Int → Int → Int → Int → Int → Int → Int → Int → Int → Int → Int → e_M → Prop) (Q : Int → e_M → Prop) (x1 : Int) (x2 : Int) (x3 : Int) (x4 : Int) (x6 : Int) (x7 : Int) (x8 : Int) (x9 : Int) (x10 : Int) (x12 : Int) (x14 : Int) (x16 : Int) (x17 : Int) (xs0 : Int) (M : e_M) : Prop :=
  (c_X12_round x10 x12 (e_w32 ((M 4456 47) - x8)) (e_w32 ((M 4456 48) - x9)) M (fun r1 => ((r1 < xs0 → (k352 x1 x2 x3 x4 x6 x7 x8 x9 x14 x16 x17 M)) ∧ (xs0 ≤ r1 → ((¬ xs0 = r1 → (k356 x1 x2 x3 x4 x6 x7 x8 x9 x14 x16 x17 M)) ∧ (xs0 = r1 → (((e_w64 ((e_w64 ((e_w32 ((M 4456 47) - x8)) * (e_w32 (x17 - x9)))) - (e_w64 ((e_w32 ((M 4456 48) - x9)) * (e_w32 (x16 - x8)))))) ≤ 0 → (k356 x1 x2 x3 x4 x6 x7 x8 x9 x14 x16 x17 M)) ∧ (0 < (e_w64 ((e_w64 ((e_w32 ((M 4456 47) - x8)) * (e_w32 (x17 - x9)))) - (e_w64 ((e_w32 ((M 4456 48) - x9)) * (e_w32 (x16 - x8)))))) → (k352 x1 x2 x3 x4 x6 x7 x8 x9 x14 x16 x17 M)))))))))
def VX12_joins_352 (c_X12_along : Int → Int → Int → Int → Int → Int → e_M → (Int → e_M → Prop) → Prop) (c_X12_round : Int → Int → Int → Int → e_M → (Int → Prop) → Prop) (c_X12_areaOf : Int → Int → e_M → (Int → Prop) → Prop) (c_X12_tidy : Int → Int → e_M → (Int → e_M → Prop) → Prop) (k357 : Int → Int → Int → Int → Int → Int → Int → Int → Int → Int → Int → Int → e_M → Prop) (Q : Int → e_M → Prop) (x1 : Int) (x2 : Int) (x3 : Int) (x4 : Int) (x6 : Int) (x7 : Int) (x8 : Int) (x9 : Int) (x14 : Int) (x16 : Int) (x17 : Int) (M : e_M) : Prop :=
  (k357 x1 x2 x3 x4 x6 x7 x8 x9 x14 x16 x17 1 M)
def VX12_joins_356 (c_X12_along : Int → Int → Int → Int → Int → Int → e_M → (Int → e_M → Prop) → Prop) (c_X12_round : Int → Int → Int → Int → e_M → (Int → Prop) → Prop) (c_X12_areaOf : Int → Int → e_M → (Int → Prop) → Prop) (c_X12_tidy : Int → Int → e_M → (Int → e_M → Prop) → Prop) (k357 : Int → Int → Int → Int → Int → Int → Int → Int → Int → Int → Int → Int → e_M → Prop) (Q : Int → e_M → Prop) (x1 : Int) (x2 : Int) (x3 : Int) (x4 : Int) (x6 : Int) (x7 : Int) (x8 : Int) (x9 : Int) (x14 : Int) (x16 : Int) (x17 : Int) (M : e_M) : Prop :=
  (k357 x1 x2 x3 x4 x6 x7 x8 x9 x14 x16 x17 0 M)
def VX12_joins_357 (c_X12_along : Int → Int → Int → Int → Int → Int → e_M → (Int → e_M → Prop) → Prop) (c_X12_round : Int → Int → Int → Int → e_M → (Int → Prop) → Prop) (c_X12_areaOf : Int → Int → e_M → (Int → Prop) → Prop) (c_X12_tidy : Int → Int → e_M → (Int → e_M → Prop) → Prop) (k376 : Int → Int → Int → Int → Int → Int → Int → Int → Int → Int → Int → e_M → Prop) (Q : Int → e_M → Prop) (x1 : Int) (x2 : Int) (x3 : Int) (x4 : Int) (x6 : Int) (x7 : Int) (x8 : Int) (x9 : Int) (x14 : Int) (x16 : Int) (x17 : Int) (xs0 : Int) (M : e_M) : Prop :=
  ((xs0 = 0 → (k376 x1 x2 x3 x4 x6 x7 x8 x9 x14 x16 x17 M)) ∧ (¬ xs0 = 0 → (k376 x1 x2 x3 x4 x6 x7 x8 x9 x14 (M 4456 47) (M 4456 48) M)))
def VX12_joins_376 (c_X12_along : Int → Int → Int → Int → Int → Int → e_M → (Int → e_M → Prop) → Prop) (c_X12_round : Int → Int → Int → Int → e_M → (Int → Prop) → Prop) (c_X12_areaOf : Int → Int → e_M → (Int → Prop) → Prop) (c_X12_tidy : Int → Int → e_M → (Int → e_M → Prop) → Prop) (k115 : Int → Int → Int → Int → Int → Int → Int → Int → Int → Int → Int → e_M → Prop) (k470 : Int → e_M → Prop) (Q : Int → e_M → Prop) (x1 : Int) (x2 : Int) (x3 : Int) (x4 : Int) (x6 : Int) (x7 : Int) (x8 : Int) (x9 : Int) (x14 : Int) (x16 : Int) (x17 : Int) (M : e_M) : Prop :=
  ((¬ x16 = x6 → (k115 x1 x2 x3 x4 x6 x7 x16 x17 (e_w32 (x8 - x16)) (e_w32 (x9 - x17)) x14 M)) ∧ (x16 = x6 → ((¬ x17 = x7 → (k115 x1 x2 x3 x4 x6 x7 x16 x17 (e_w32 (x8 - x16)) (e_w32 (x9 - x17)) x14 M)) ∧ (x17 = x7 → (c_X12_areaOf 4400 x14 M (fun r1 => (c_X12_areaOf x1 x2 M (fun r2 => (c_X12_areaOf x3 x4 M (fun r3 => ((r1 = (e_w64 (r2 + r3)) → (c_X12_tidy 4400 x14 M (fun r4 M5 => (∀ M6 : e_M, M6 = e_up M5 4456 46 r4 → (((M6 4456 46) ≤ 40 → (k470 0 M6)) ∧ (40 < (M6 4456 46) → (Q 0 M6))))))) ∧ (¬ r1 = (e_w64 (r2 + r3)) → (Q 0 M)))))))))))))
def VX12_joins_470 (c_X12_along : Int → Int → Int → Int → Int → Int → e_M → (Int → e_M → Prop) → Prop) (c_X12_round : Int → Int → Int → Int → e_M → (Int → Prop) → Prop) (c_X12_areaOf : Int → Int → e_M → (Int → Prop) → Prop) (c_X12_tidy : Int → Int → e_M → (Int → e_M → Prop) → Prop) (k470 : Int → e_M → Prop) (Q : Int → e_M → Prop) (x15 : Int) (M : e_M) : Prop :=
  (((M 4456 46) ≤ x15 → (Q 1 M)) ∧ (x15 < (M 4456 46) → ((0 ≤ (e_w32 ((4400 : Int) + x15)) ∧ (e_w32 ((4400 : Int) + x15)) < 4800) ∧ ((0 ≤ (e_w32 ((3200 : Int) + x15)) ∧ (e_w32 ((3200 : Int) + x15)) < 4800) ∧ (∀ M1 : e_M, M1 = e_up M 4480 ((e_w32 ((3200 : Int) + x15)).toNat) (M 4480 ((e_w32 ((4400 : Int) + x15)).toNat)) → ((0 ≤ (e_w32 ((4400 : Int) + x15)) ∧ (e_w32 ((4400 : Int) + x15)) < 4800) ∧ ((0 ≤ (e_w32 ((3200 : Int) + x15)) ∧ (e_w32 ((3200 : Int) + x15)) < 4800) ∧ (∀ M2 : e_M, M2 = e_up M1 4481 ((e_w32 ((3200 : Int) + x15)).toNat) (M1 4481 ((e_w32 ((4400 : Int) + x15)).toNat)) → (k470 (e_w32 (x15 + 1)) M2)))))))))
def VX12_joins (c_X12_along : Int → Int → Int → Int → Int → Int → e_M → (Int → e_M → Prop) → Prop) (c_X12_round : Int → Int → Int → Int → e_M → (Int → Prop) → Prop) (c_X12_areaOf : Int → Int → e_M → (Int → Prop) → Prop) (c_X12_tidy : Int → Int → e_M → (Int → e_M → Prop) → Prop) (k45 : Int → Int → Int → Int → e_M → Prop) (k49 : Int → Int → Int → Int → e_M → Prop) (Q : Int → e_M → Prop) (x1 : Int) (x2 : Int) (x3 : Int) (x4 : Int) (M : e_M) : Prop :=
  ((0 ≤ x1 ∧ x1 < 4800) ∧ ((0 ≤ x3 ∧ x3 < 4800) ∧ (((M 4481 (x1.toNat)) < (M 4481 (x3.toNat)) → (k45 x1 x2 x3 x4 M)) ∧ ((M 4481 (x3.toNat)) ≤ (M 4481 (x1.toNat)) → ((0 ≤ x1 ∧ x1 < 4800) ∧ ((0 ≤ x3 ∧ x3 < 4800) ∧ ((¬ (M 4481 (x1.toNat)) = (M 4481 (x3.toNat)) → (k49 x1 x2 x3 x4 M)) ∧ ((M 4481 (x1.toNat)) = (M 4481 (x3.toNat)) → ((0 ≤ x1 ∧ x1 < 4800) ∧ ((0 ≤ x3 ∧ x3 < 4800) ∧ (((M 4480 (x3.toNat)) < (M 4480 (x1.toNat)) → (k49 x1 x2 x3 x4 M)) ∧ ((M 4480 (x1.toNat)) ≤ (M 4480 (x3.toNat)) → (k45 x1 x2 x3 x4 M)))))))))))))
def yX12_joins (i : Nat) : e_Y := x_get YX12_joins [YX12_along, YX12_round, YX12_areaOf, YX12_tidy] i
def pX12_joinsf : List x_I := [(0, 4, 1, 0, 0, 0, []), (1, 25, 12, 41, 4, 0, [(0, 20, 4800), (0, 1, 25)]), (4, 2, 1, 1, 0, 0, []), (5, 27, 0, 0, 0, 0, []), (6, 4, 1, 0, 0, 0, []), (7, 25, 12, 41, 4, 0, [(0, 20, 4800), (0, 1, 25)]), (10, 2, 1, 3, 0, 0, []), (11, 27, 0, 0, 0, 0, []), (12, 18, 45, 2, 28, 0, []), (15, 4, 1, 0, 0, 0, []), (16, 25, 12, 41, 4, 0, [(0, 20, 4800), (0, 1, 25)]), (19, 2, 1, 1, 0, 0, []), (20, 27, 0, 0, 0, 0, []), (21, 4, 1, 0, 0, 0, []), (22, 25, 12, 41, 4, 0, [(0, 20, 4800), (0, 1, 25)]), (25, 2, 1, 3, 0, 0, []), (26, 27, 0, 0, 0, 0, []), (27, 18, 49, 1, 31, 0, []), (30, 4, 1, 0, 0, 0, []), (31, 25, 12, 40, 4, 0, [(0, 20, 4800), (0, 1, 24)]), (34, 2, 1, 1, 0, 0, []), (35, 27, 0, 0, 0, 0, []), (36, 4, 1, 0, 0, 0, []), (37, 25, 12, 40, 4, 0, [(0, 20, 4800), (0, 1, 24)]), (40, 2, 1, 3, 0, 0, []), (41, 27, 0, 0, 0, 0, []), (42, 18, 49, 4, 31, 0, []), (45, 49, 0, 0, 0, 0, []), (45, 0, 1, 0, 0, 1, []), (46, 19, 50, 0, 33, 0, []), (49, 49, 0, 0, 0, 0, []), (49, 0, 1, 0, 0, 0, []), (50, 49, 0, 0, 0, 0, []), (50, 5, 2, 5, 0, 0, []), (52, 2, 2, 5, 0, 0, []), (54, 17, 66, 0, 42, 0, []), (57, 4, 1, 0, 0, 0, []), (58, 25, 12, 40, 4, 0, [(0, 20, 4800), (0, 1, 24)]), (61, 2, 1, 1, 0, 0, []), (62, 27, 0, 0, 0, 0, []), (63, 19, 72, 0, 46, 0, []), (66, 4, 1, 0, 0, 0, []), (67, 25, 12, 40, 4, 0, [(0, 20, 4800), (0, 1, 24)]), (70, 2, 1, 3, 0, 0, []), (71, 27, 0, 0, 0, 0, []), (72, 49, 0, 0, 0, 0, []), (72, 5, 2, 6, 0, 0, []), (74, 2, 2, 5, 0, 0, []), (76, 17, 88, 0, 55, 0, []), (79, 4, 1, 0, 0, 0, []), (80, 25, 12, 41, 4, 0, [(0, 20, 4800), (0, 1, 25)]), (83, 2, 1, 1, 0, 0, []), (84, 27, 0, 0, 0, 0, []), (85, 19, 94, 0, 59, 0, []), (88, 4, 1, 0, 0, 0, []), (89, 25, 12, 41, 4, 0, [(0, 20, 4800), (0, 1, 25)]), (92, 2, 1, 3, 0, 0, []), (93, 27, 0, 0, 0, 0, []), (94, 49, 0, 0, 0, 0, []), (94, 5, 2, 7, 0, 0, []), (96, 2, 2, 6, 0, 0, []), (98, 5, 2, 8, 0, 0, []), (100, 2, 2, 7, 0, 0, []), (102, 5, 2, 9, 0, 0, []), (104, 1, 3, 0, 0, (-1), []), (107, 6, 2, 10, 0, 0, []), (109, 1, 1, 0, 0, 0, []), (110, 6, 2, 12, 0, 0, []), (112, 0, 1, 0, 0, 0, []), (113, 5, 2, 14, 0, 0, []), (115, 49, 0, 0, 0, 0, []), (115, 0, 1, 0, 0, 0, []), (116, 5, 2, 15, 0, 0, []), (118, 49, 0, 0, 0, 0, []), (118, 2, 2, 15, 0, 0, []), (120, 2, 2, 14, 0, 0, []), (122, 18, 165, 3, 99, 0, []), (125, 4, 1, 0, 0, 0, []), (126, 25, 12, 40, 4, 0, [(0, 20, 4800), (0, 1, 24)]), (129, 0, 3, 0, 0, 4400, []), (132, 2, 2, 15, 0, 0, []), (134, 9, 0, 0, 0, 0, []), (135, 27, 0, 0, 0, 0, []), (136, 2, 2, 8, 0, 0, []), (138, 18, 159, 1, 96, 0, []), (141, 4, 1, 0, 0, 0, []), (142, 25, 12, 41, 4, 0, [(0, 20, 4800), (0, 1, 25)]), (145, 0, 3, 0, 0, 4400, []), (148, 2, 2, 15, 0, 0, []), (150, 9, 0, 0, 0, 0, []), (151, 27, 0, 0, 0, 0, []), (152, 2, 2, 9, 0, 0, []), (154, 18, 159, 1, 96, 0, []), (157, 0, 1, 0, 0, 0, []), (158, 48, 0, 0, 0, 0, []), (159, 49, 0, 0, 0, 0, []), (159, 8, 0, 15, 0, 1, []), (162, 19, 118, 0, 74, 0, []), (165, 2, 2, 14, 0, 0, []), (167, 0, 3, 0, 0, 399, []), (170, 18, 175, 1, 104, 0, []), (173, 0, 1, 0, 0, 0, []), (174, 48, 0, 0, 0, 0, []), (175, 4, 1, 0, 0, 0, []), (176, 25, 12, 40, 4, 0, [(0, 20, 4800), (0, 1, 24)]), (179, 0, 3, 0, 0, 4400, []), (182, 2, 2, 14, 0, 0, []), (184, 9, 0, 0, 0, 0, []), (185, 2, 2, 8, 0, 0, []), (187, 28, 0, 0, 0, 0, []), (188, 4, 1, 0, 0, 0, []), (189, 25, 12, 41, 4, 0, [(0, 20, 4800), (0, 1, 25)]), (192, 0, 3, 0, 0, 4400, []), (195, 2, 2, 14, 0, 0, []), (197, 9, 0, 0, 0, 0, []), (198, 2, 2, 9, 0, 0, []), (200, 28, 0, 0, 0, 0, []), (201, 8, 0, 14, 0, 1, []), (204, 4, 1, 0, 0, 0, []), (205, 2, 1, 1, 0, 0, []), (206, 2, 1, 2, 0, 0, []), (207, 2, 1, 3, 0, 0, []), (208, 2, 2, 4, 0, 0, []), (210, 2, 2, 8, 0, 0, []), (212, 2, 2, 9, 0, 0, []), (214, 40, 0, 7, 14, 0, []), (217, 5, 2, 15, 0, 0, []), (219, 4, 1, 0, 0, 0, []), (220, 25, 12, 47, 0, 0, []), (223, 5, 2, 16, 0, 0, []), (225, 4, 1, 0, 0, 0, []), (226, 25, 12, 48, 0, 0, []), (229, 5, 2, 17, 0, 0, []), (231, 4, 1, 0, 0, 0, []), (232, 2, 1, 3, 0, 0, []), (233, 2, 2, 4, 0, 0, []), (235, 2, 1, 1, 0, 0, []), (236, 2, 1, 2, 0, 0, []), (237, 2, 2, 8, 0, 0, []), (239, 2, 2, 9, 0, 0, []), (241, 40, 0, 7, 14, 0, []), (244, 17, 376, 0, 218, 0, []), (247, 2, 2, 15, 0, 0, []), (249, 17, 274, 0, 157, 0, []), (252, 3, 2, 10, 0, 0, []), (254, 3, 2, 12, 0, 0, []), (256, 2, 2, 16, 0, 0, []), (258, 2, 2, 8, 0, 0, []), (260, 9, 0, 1, 0, 0, []), (261, 14, 0, 0, 0, 0, []), (262, 2, 2, 17, 0, 0, []), (264, 2, 2, 9, 0, 0, []), (266, 9, 0, 1, 0, 0, []), (267, 14, 0, 0, 0, 0, []), (268, 40, 1, 4, 0, 0, []), (271, 19, 275, 0, 158, 0, []), (274, 0, 1, 0, 0, 5, []), (275, 49, 0, 0, 0, 0, []), (275, 5, 2, 18, 0, 0, []), (277, 3, 2, 10, 0, 0, []), (279, 3, 2, 12, 0, 0, []), (281, 4, 1, 0, 0, 0, []), (282, 25, 12, 47, 0, 0, []), (285, 2, 2, 8, 0, 0, []), (287, 9, 0, 1, 0, 0, []), (288, 14, 0, 0, 0, 0, []), (289, 4, 1, 0, 0, 0, []), (290, 25, 12, 48, 0, 0, []), (293, 2, 2, 9, 0, 0, []), (295, 9, 0, 1, 0, 0, []), (296, 14, 0, 0, 0, 0, []), (297, 40, 1, 4, 0, 0, []), (300, 5, 2, 19, 0, 0, []), (302, 2, 2, 18, 0, 0, []), (304, 2, 2, 19, 0, 0, []), (306, 18, 352, 4, 203, 0, []), (309, 2, 2, 18, 0, 0, []), (311, 2, 2, 19, 0, 0, []), (313, 18, 356, 1, 206, 0, []), (316, 4, 1, 0, 0, 0, []), (317, 25, 12, 47, 0, 0, []), (320, 2, 2, 8, 0, 0, []), (322, 9, 0, 1, 0, 0, []), (323, 14, 0, 0, 0, 0, []), (324, 2, 2, 17, 0, 0, []), (326, 2, 2, 9, 0, 0, []), (328, 9, 0, 1, 0, 0, []), (329, 14, 0, 0, 0, 0, []), (330, 10, 0, 2, 0, 0, []), (331, 4, 1, 0, 0, 0, []), (332, 25, 12, 48, 0, 0, []), (335, 2, 2, 9, 0, 0, []), (337, 9, 0, 1, 0, 0, []), (338, 14, 0, 0, 0, 0, []), (339, 2, 2, 16, 0, 0, []), (341, 2, 2, 8, 0, 0, []), (343, 9, 0, 1, 0, 0, []), (344, 14, 0, 0, 0, 0, []), (345, 10, 0, 2, 0, 0, []), (346, 10, 0, 1, 0, 0, []), (347, 1, 1, 0, 0, 0, []), (348, 32, 356, 5, 206, 0, []), (352, 49, 0, 0, 0, 0, []), (352, 0, 1, 0, 0, 1, []), (353, 19, 357, 0, 208, 0, []), (356, 49, 0, 0, 0, 0, []), (356, 0, 1, 0, 0, 0, []), (357, 49, 0, 0, 0, 0, []), (357, 5, 2, 20, 0, 0, []), (359, 2, 2, 20, 0, 0, []), (361, 17, 376, 0, 218, 0, []), (364, 4, 1, 0, 0, 0, []), (365, 25, 12, 47, 0, 0, []), (368, 5, 2, 16, 0, 0, []), (370, 4, 1, 0, 0, 0, []), (371, 25, 12, 48, 0, 0, []), (374, 5, 2, 17, 0, 0, []), (376, 49, 0, 0, 0, 0, []), (376, 2, 2, 8, 0, 0, []), (378, 2, 2, 16, 0, 0, []), (380, 9, 0, 1, 0, 0, []), (381, 14, 0, 0, 0, 0, []), (382, 6, 2, 10, 0, 0, []), (384, 2, 2, 9, 0, 0, []), (386, 2, 2, 17, 0, 0, []), (388, 9, 0, 1, 0, 0, []), (389, 14, 0, 0, 0, 0, []), (390, 6, 2, 12, 0, 0, []), (392, 2, 2, 16, 0, 0, []), (394, 5, 2, 8, 0, 0, []), (396, 2, 2, 17, 0, 0, []), (398, 5, 2, 9, 0, 0, []), (400, 2, 2, 8, 0, 0, []), (402, 2, 2, 6, 0, 0, []), (404, 18, 115, 1, 71, 0, []), (407, 2, 2, 9, 0, 0, []), (409, 2, 2, 7, 0, 0, []), (411, 18, 115, 1, 71, 0, []), (414, 4, 1, 0, 0, 0, []), (415, 0, 3, 0, 0, 4400, []), (418, 2, 2, 14, 0, 0, []), (420, 40, 2, 3, 14, 0, []), (423, 4, 1, 0, 0, 0, []), (424, 2, 1, 1, 0, 0, []), (425, 2, 1, 2, 0, 0, []), (426, 40, 2, 3, 14, 0, []), (429, 4, 1, 0, 0, 0, []), (430, 2, 1, 3, 0, 0, []), (431, 2, 2, 4, 0, 0, []), (433, 40, 2, 3, 14, 0, []), (436, 10, 0, 0, 0, 0, []), (437, 32, 443, 0, 255, 0, []), (441, 0, 1, 0, 0, 0, []), (442, 48, 0, 0, 0, 0, []), (443, 4, 1, 0, 0, 0, []), (444, 4, 1, 0, 0, 0, []), (445, 0, 3, 0, 0, 4400, []), (448, 2, 2, 14, 0, 0, []), (450, 40, 3, 3, 14, 0, []), (453, 26, 12, 46, 0, 0, []), (456, 4, 1, 0, 0, 0, []), (457, 25, 12, 46, 0, 0, []), (460, 0, 2, 0, 0, 40, []), (462, 18, 467, 5, 267, 0, []), (465, 0, 1, 0, 0, 0, []), (466, 48, 0, 0, 0, 0, []), (467, 0, 1, 0, 0, 0, []), (468, 5, 2, 15, 0, 0, []), (470, 49, 0, 0, 0, 0, []), (470, 2, 2, 15, 0, 0, []), (472, 4, 1, 0, 0, 0, []), (473, 25, 12, 46, 0, 0, []), (476, 18, 529, 3, 300, 0, []), (479, 4, 1, 0, 0, 0, []), (480, 25, 12, 40, 4, 0, [(0, 20, 4800), (0, 1, 24)]), (483, 0, 3, 0, 0, 3200, []), (486, 2, 2, 15, 0, 0, []), (488, 9, 0, 0, 0, 0, []), (489, 4, 1, 0, 0, 0, []), (490, 25, 12, 40, 4, 0, [(0, 20, 4800), (0, 1, 24)]), (493, 0, 3, 0, 0, 4400, []), (496, 2, 2, 15, 0, 0, []), (498, 9, 0, 0, 0, 0, []), (499, 27, 0, 0, 0, 0, []), (500, 28, 0, 0, 0, 0, []), (501, 4, 1, 0, 0, 0, []), (502, 25, 12, 41, 4, 0, [(0, 20, 4800), (0, 1, 25)]), (505, 0, 3, 0, 0, 3200, []), (508, 2, 2, 15, 0, 0, []), (510, 9, 0, 0, 0, 0, []), (511, 4, 1, 0, 0, 0, []), (512, 25, 12, 41, 4, 0, [(0, 20, 4800), (0, 1, 25)]), (515, 0, 3, 0, 0, 4400, []), (518, 2, 2, 15, 0, 0, []), (520, 9, 0, 0, 0, 0, []), (521, 27, 0, 0, 0, 0, []), (522, 28, 0, 0, 0, 0, []), (523, 8, 0, 15, 0, 1, []), (526, 19, 470, 0, 269, 0, []), (529, 0, 1, 0, 0, 1, []), (530, 48, 0, 0, 0, 0, [])]
set_option maxRecDepth 20000 in
theorem qX12_joinsf : f_all yX12_joins YX12_joins pX12_joinsf :=
  ⟨f_aload_n (n := 0) (e_dx DX12_joins_0 0 rfl) rfl,
  f_getA (e_dx DX12_joins_0 1 rfl) fX12_85 rfl (by decide) (Nat.le_of_ble_eq_true rfl) rfl (by decide),
  f_iload_n (n := 1) (e_dx DX12_joins_0 2 rfl) rfl,
  f_iaload (e_dx DX12_joins_0 3 rfl),
  f_aload_n (n := 0) (e_dx DX12_joins_0 4 rfl) rfl,
  f_getA (e_dx DX12_joins_0 5 rfl) fX12_85 rfl (by decide) (Nat.le_of_ble_eq_true rfl) rfl (by decide),
  f_iload_n (n := 3) (e_dx DX12_joins_0 6 rfl) rfl,
  f_iaload (e_dx DX12_joins_0 7 rfl),
  f_icmp_lt (e_dx DX12_joins_0 8 rfl) rfl,
  f_aload_n (n := 0) (e_dx DX12_joins_0 9 rfl) rfl,
  f_getA (e_dx DX12_joins_0 10 rfl) fX12_85 rfl (by decide) (Nat.le_of_ble_eq_true rfl) rfl (by decide),
  f_iload_n (n := 1) (e_dx DX12_joins_0 11 rfl) rfl,
  f_iaload (e_dx DX12_joins_0 12 rfl),
  f_aload_n (n := 0) (e_dx DX12_joins_0 13 rfl) rfl,
  f_getA (e_dx DX12_joins_0 14 rfl) fX12_85 rfl (by decide) (Nat.le_of_ble_eq_true rfl) rfl (by decide),
  f_iload_n (n := 3) (e_dx DX12_joins_0 15 rfl) rfl,
  f_iaload (e_dx DX12_joins_0 16 rfl),
  f_icmp_ne (e_dx DX12_joins_0 17 rfl) rfl,
  f_aload_n (n := 0) (e_dx DX12_joins_0 18 rfl) rfl,
  f_getA (e_dx DX12_joins_0 19 rfl) fX12_82 rfl (by decide) (Nat.le_of_ble_eq_true rfl) rfl (by decide),
  f_iload_n (n := 1) (e_dx DX12_joins_0 20 rfl) rfl,
  f_iaload (e_dx DX12_joins_0 21 rfl),
  f_aload_n (n := 0) (e_dx DX12_joins_0 22 rfl) rfl,
  f_getA (e_dx DX12_joins_0 23 rfl) fX12_82 rfl (by decide) (Nat.le_of_ble_eq_true rfl) rfl (by decide),
  f_iload_n (n := 3) (e_dx DX12_joins_0 24 rfl) rfl,
  f_iaload (e_dx DX12_joins_0 25 rfl),
  f_icmp_gt (e_dx DX12_joins_0 26 rfl) rfl,
  trivial,
  f_iconst (e_dx DX12_joins_0 27 rfl) ⟨by decide, by decide⟩,
  f_g19 (e_dx DX12_joins_0 28 rfl) rfl,
  trivial,
  f_iconst (e_dx DX12_joins_0 29 rfl) ⟨by decide, by decide⟩,
  trivial,
  f_istore (e_dx DX12_joins_0 30 rfl) (by decide),
  f_iload (e_dx DX12_joins_0 31 rfl),
  f_if_eq (e_dx DX12_joins_0 32 rfl) rfl,
  f_aload_n (n := 0) (e_dx DX12_joins_0 33 rfl) rfl,
  f_getA (e_dx DX12_joins_0 34 rfl) fX12_82 rfl (by decide) (Nat.le_of_ble_eq_true rfl) rfl (by decide),
  f_iload_n (n := 1) (e_dx DX12_joins_0 35 rfl) rfl,
  f_iaload (e_dx DX12_joins_0 36 rfl),
  f_g19 (e_dx DX12_joins_0 37 rfl) rfl,
  f_aload_n (n := 0) (e_dx DX12_joins_0 38 rfl) rfl,
  f_getA (e_dx DX12_joins_0 39 rfl) fX12_82 rfl (by decide) (Nat.le_of_ble_eq_true rfl) rfl (by decide),
  f_iload_n (n := 3) (e_dx DX12_joins_1 0 rfl) rfl,
  f_iaload (e_dx DX12_joins_1 1 rfl),
  trivial,
  f_istore (e_dx DX12_joins_1 2 rfl) (by decide),
  f_iload (e_dx DX12_joins_1 3 rfl),
  f_if_eq (e_dx DX12_joins_1 4 rfl) rfl,
  f_aload_n (n := 0) (e_dx DX12_joins_1 5 rfl) rfl,
  f_getA (e_dx DX12_joins_1 6 rfl) fX12_85 rfl (by decide) (Nat.le_of_ble_eq_true rfl) rfl (by decide),
  f_iload_n (n := 1) (e_dx DX12_joins_1 7 rfl) rfl,
  f_iaload (e_dx DX12_joins_1 8 rfl),
  f_g19 (e_dx DX12_joins_1 9 rfl) rfl,
  f_aload_n (n := 0) (e_dx DX12_joins_1 10 rfl) rfl,
  f_getA (e_dx DX12_joins_1 11 rfl) fX12_85 rfl (by decide) (Nat.le_of_ble_eq_true rfl) rfl (by decide),
  f_iload_n (n := 3) (e_dx DX12_joins_1 12 rfl) rfl,
  f_iaload (e_dx DX12_joins_1 13 rfl),
  trivial,
  f_istore (e_dx DX12_joins_1 14 rfl) (by decide),
  f_iload (e_dx DX12_joins_1 15 rfl),
  f_istore (e_dx DX12_joins_1 16 rfl) (by decide),
  f_iload (e_dx DX12_joins_1 17 rfl),
  f_istore (e_dx DX12_joins_1 18 rfl) (by decide),
  f_ldc2 (e_dx DX12_joins_1 19 rfl) hX12_503 rfl ⟨by decide, by decide⟩,
  f_lstore (e_dx DX12_joins_1 20 rfl) (by decide),
  f_lconst (n := 0) (e_dx DX12_joins_1 21 rfl) rfl,
  f_lstore (e_dx DX12_joins_1 22 rfl) (by decide),
  f_iconst (e_dx DX12_joins_1 23 rfl) ⟨by decide, by decide⟩,
  f_istore (e_dx DX12_joins_1 24 rfl) (by decide),
  trivial,
  f_iconst (e_dx DX12_joins_1 25 rfl) ⟨by decide, by decide⟩,
  f_istore (e_dx DX12_joins_1 26 rfl) (by decide),
  trivial,
  f_iload (e_dx DX12_joins_1 27 rfl),
  f_iload (e_dx DX12_joins_1 28 rfl),
  f_icmp_ge (e_dx DX12_joins_1 29 rfl) rfl,
  f_aload_n (n := 0) (e_dx DX12_joins_1 30 rfl) rfl,
  f_getA (e_dx DX12_joins_1 31 rfl) fX12_82 rfl (by decide) (Nat.le_of_ble_eq_true rfl) rfl (by decide),
  f_sipush (e_dx DX12_joins_1 32 rfl) ⟨by decide, by decide⟩,
  f_iload (e_dx DX12_joins_1 33 rfl),
  f_iadd (e_dx DX12_joins_1 34 rfl),
  f_iaload (e_dx DX12_joins_1 35 rfl),
  f_iload (e_dx DX12_joins_1 36 rfl),
  f_icmp_ne (e_dx DX12_joins_1 37 rfl) rfl,
  f_aload_n (n := 0) (e_dx DX12_joins_1 38 rfl) rfl,
  f_getA (e_dx DX12_joins_1 39 rfl) fX12_85 rfl (by decide) (Nat.le_of_ble_eq_true rfl) rfl (by decide),
  f_sipush (e_dx DX12_joins_2 0 rfl) ⟨by decide, by decide⟩,
  f_iload (e_dx DX12_joins_2 1 rfl),
  f_iadd (e_dx DX12_joins_2 2 rfl),
  f_iaload (e_dx DX12_joins_2 3 rfl),
  f_iload (e_dx DX12_joins_2 4 rfl),
  f_icmp_ne (e_dx DX12_joins_2 5 rfl) rfl,
  f_iconst (e_dx DX12_joins_2 6 rfl) ⟨by decide, by decide⟩,
  ⟨(e_dx DX12_joins_2 7 rfl), rfl⟩,
  trivial,
  f_g8 (e_dx DX12_joins_2 8 rfl) ⟨by decide, by decide⟩,
  f_g19 (e_dx DX12_joins_2 9 rfl) rfl,
  f_iload (e_dx DX12_joins_2 10 rfl),
  f_sipush (e_dx DX12_joins_2 11 rfl) ⟨by decide, by decide⟩,
  f_icmp_ne (e_dx DX12_joins_2 12 rfl) rfl,
  f_iconst (e_dx DX12_joins_2 13 rfl) ⟨by decide, by decide⟩,
  ⟨(e_dx DX12_joins_2 14 rfl), rfl⟩,
  f_aload_n (n := 0) (e_dx DX12_joins_2 15 rfl) rfl,
  f_getA (e_dx DX12_joins_2 16 rfl) fX12_82 rfl (by decide) (Nat.le_of_ble_eq_true rfl) rfl (by decide),
  f_sipush (e_dx DX12_joins_2 17 rfl) ⟨by decide, by decide⟩,
  f_iload (e_dx DX12_joins_2 18 rfl),
  f_iadd (e_dx DX12_joins_2 19 rfl),
  f_iload (e_dx DX12_joins_2 20 rfl),
  f_iastore (e_dx DX12_joins_2 21 rfl),
  f_aload_n (n := 0) (e_dx DX12_joins_2 22 rfl) rfl,
  f_getA (e_dx DX12_joins_2 23 rfl) fX12_85 rfl (by decide) (Nat.le_of_ble_eq_true rfl) rfl (by decide),
  f_sipush (e_dx DX12_joins_2 24 rfl) ⟨by decide, by decide⟩,
  f_iload (e_dx DX12_joins_2 25 rfl),
  f_iadd (e_dx DX12_joins_2 26 rfl),
  f_iload (e_dx DX12_joins_2 27 rfl),
  f_iastore (e_dx DX12_joins_2 28 rfl),
  f_g8 (e_dx DX12_joins_2 29 rfl) ⟨by decide, by decide⟩,
  f_aload_n (n := 0) (e_dx DX12_joins_2 30 rfl) rfl,
  f_iload_n (n := 1) (e_dx DX12_joins_2 31 rfl) rfl,
  f_iload_n (n := 2) (e_dx DX12_joins_2 32 rfl) rfl,
  f_iload_n (n := 3) (e_dx DX12_joins_2 33 rfl) rfl,
  f_iload (e_dx DX12_joins_2 34 rfl),
  f_iload (e_dx DX12_joins_2 35 rfl),
  f_iload (e_dx DX12_joins_2 36 rfl),
  x_callV (e_dx DX12_joins_2 37 rfl) mwX12_along vwX12_along cX12_505 rfl,
  f_istore (e_dx DX12_joins_2 38 rfl) (by decide),
  f_aload_n (n := 0) (e_dx DX12_joins_2 39 rfl) rfl,
  f_getf (e_dx DX12_joins_3 0 rfl) fX12_497 rfl (by decide) (by decide) (by decide),
  f_istore (e_dx DX12_joins_3 1 rfl) (by decide),
  f_aload_n (n := 0) (e_dx DX12_joins_3 2 rfl) rfl,
  f_getf (e_dx DX12_joins_3 3 rfl) fX12_500 rfl (by decide) (by decide) (by decide),
  f_istore (e_dx DX12_joins_3 4 rfl) (by decide),
  f_aload_n (n := 0) (e_dx DX12_joins_3 5 rfl) rfl,
  f_iload_n (n := 3) (e_dx DX12_joins_3 6 rfl) rfl,
  f_iload (e_dx DX12_joins_3 7 rfl),
  f_iload_n (n := 1) (e_dx DX12_joins_3 8 rfl) rfl,
  f_iload_n (n := 2) (e_dx DX12_joins_3 9 rfl) rfl,
  f_iload (e_dx DX12_joins_3 10 rfl),
  f_iload (e_dx DX12_joins_3 11 rfl),
  x_callV (e_dx DX12_joins_3 12 rfl) mwX12_along vwX12_along cX12_505 rfl,
  f_if_eq (e_dx DX12_joins_3 13 rfl) rfl,
  f_iload (e_dx DX12_joins_3 14 rfl),
  f_if_eq (e_dx DX12_joins_3 15 rfl) rfl,
  f_lload (e_dx DX12_joins_3 16 rfl),
  f_lload (e_dx DX12_joins_3 17 rfl),
  f_iload (e_dx DX12_joins_3 18 rfl),
  f_iload (e_dx DX12_joins_3 19 rfl),
  f_isub (e_dx DX12_joins_3 20 rfl),
  f_g14 (e_dx DX12_joins_3 21 rfl),
  f_iload (e_dx DX12_joins_3 22 rfl),
  f_iload (e_dx DX12_joins_3 23 rfl),
  f_isub (e_dx DX12_joins_3 24 rfl),
  f_g14 (e_dx DX12_joins_3 25 rfl),
  x_callS (e_dx DX12_joins_3 26 rfl) mwX12_round cX12_509 swX12_round rfl,
  f_g19 (e_dx DX12_joins_3 27 rfl) rfl,
  f_iconst (e_dx DX12_joins_3 28 rfl) ⟨by decide, by decide⟩,
  trivial,
  f_istore (e_dx DX12_joins_3 29 rfl) (by decide),
  f_lload (e_dx DX12_joins_3 30 rfl),
  f_lload (e_dx DX12_joins_3 31 rfl),
  f_aload_n (n := 0) (e_dx DX12_joins_3 32 rfl) rfl,
  f_getf (e_dx DX12_joins_3 33 rfl) fX12_497 rfl (by decide) (by decide) (by decide),
  f_iload (e_dx DX12_joins_3 34 rfl),
  f_isub (e_dx DX12_joins_3 35 rfl),
  f_g14 (e_dx DX12_joins_3 36 rfl),
  f_aload_n (n := 0) (e_dx DX12_joins_3 37 rfl) rfl,
  f_getf (e_dx DX12_joins_3 38 rfl) fX12_500 rfl (by decide) (by decide) (by decide),
  f_iload (e_dx DX12_joins_3 39 rfl),
  f_isub (e_dx DX12_joins_4 0 rfl),
  f_g14 (e_dx DX12_joins_4 1 rfl),
  x_callS (e_dx DX12_joins_4 2 rfl) mwX12_round cX12_509 swX12_round rfl,
  f_istore (e_dx DX12_joins_4 3 rfl) (by decide),
  f_iload (e_dx DX12_joins_4 4 rfl),
  f_iload (e_dx DX12_joins_4 5 rfl),
  f_icmp_gt (e_dx DX12_joins_4 6 rfl) rfl,
  f_iload (e_dx DX12_joins_4 7 rfl),
  f_iload (e_dx DX12_joins_4 8 rfl),
  f_icmp_ne (e_dx DX12_joins_4 9 rfl) rfl,
  f_aload_n (n := 0) (e_dx DX12_joins_4 10 rfl) rfl,
  f_getf (e_dx DX12_joins_4 11 rfl) fX12_497 rfl (by decide) (by decide) (by decide),
  f_iload (e_dx DX12_joins_4 12 rfl),
  f_isub (e_dx DX12_joins_4 13 rfl),
  f_g14 (e_dx DX12_joins_4 14 rfl),
  f_iload (e_dx DX12_joins_4 15 rfl),
  f_iload (e_dx DX12_joins_4 16 rfl),
  f_isub (e_dx DX12_joins_4 17 rfl),
  f_g14 (e_dx DX12_joins_4 18 rfl),
  f_lmul (e_dx DX12_joins_4 19 rfl),
  f_aload_n (n := 0) (e_dx DX12_joins_4 20 rfl) rfl,
  f_getf (e_dx DX12_joins_4 21 rfl) fX12_500 rfl (by decide) (by decide) (by decide),
  f_iload (e_dx DX12_joins_4 22 rfl),
  f_isub (e_dx DX12_joins_4 23 rfl),
  f_g14 (e_dx DX12_joins_4 24 rfl),
  f_iload (e_dx DX12_joins_4 25 rfl),
  f_iload (e_dx DX12_joins_4 26 rfl),
  f_isub (e_dx DX12_joins_4 27 rfl),
  f_g14 (e_dx DX12_joins_4 28 rfl),
  f_lmul (e_dx DX12_joins_4 29 rfl),
  f_lsub (e_dx DX12_joins_4 30 rfl),
  f_lconst (n := 0) (e_dx DX12_joins_4 31 rfl) rfl,
  f_lif_le (e_dx DX12_joins_4 32 rfl) (e_dx DX12_joins_4 33 rfl) rfl,
  trivial,
  f_iconst (e_dx DX12_joins_4 34 rfl) ⟨by decide, by decide⟩,
  f_g19 (e_dx DX12_joins_4 35 rfl) rfl,
  trivial,
  f_iconst (e_dx DX12_joins_4 36 rfl) ⟨by decide, by decide⟩,
  trivial,
  f_istore (e_dx DX12_joins_4 37 rfl) (by decide),
  f_iload (e_dx DX12_joins_4 38 rfl),
  f_if_eq (e_dx DX12_joins_4 39 rfl) rfl,
  f_aload_n (n := 0) (e_dx DX12_joins_5 0 rfl) rfl,
  f_getf (e_dx DX12_joins_5 1 rfl) fX12_497 rfl (by decide) (by decide) (by decide),
  f_istore (e_dx DX12_joins_5 2 rfl) (by decide),
  f_aload_n (n := 0) (e_dx DX12_joins_5 3 rfl) rfl,
  f_getf (e_dx DX12_joins_5 4 rfl) fX12_500 rfl (by decide) (by decide) (by decide),
  f_istore (e_dx DX12_joins_5 5 rfl) (by decide),
  trivial,
  f_iload (e_dx DX12_joins_5 6 rfl),
  f_iload (e_dx DX12_joins_5 7 rfl),
  f_isub (e_dx DX12_joins_5 8 rfl),
  f_g14 (e_dx DX12_joins_5 9 rfl),
  f_lstore (e_dx DX12_joins_5 10 rfl) (by decide),
  f_iload (e_dx DX12_joins_5 11 rfl),
  f_iload (e_dx DX12_joins_5 12 rfl),
  f_isub (e_dx DX12_joins_5 13 rfl),
  f_g14 (e_dx DX12_joins_5 14 rfl),
  f_lstore (e_dx DX12_joins_5 15 rfl) (by decide),
  f_iload (e_dx DX12_joins_5 16 rfl),
  f_istore (e_dx DX12_joins_5 17 rfl) (by decide),
  f_iload (e_dx DX12_joins_5 18 rfl),
  f_istore (e_dx DX12_joins_5 19 rfl) (by decide),
  f_iload (e_dx DX12_joins_5 20 rfl),
  f_iload (e_dx DX12_joins_5 21 rfl),
  f_icmp_ne (e_dx DX12_joins_5 22 rfl) rfl,
  f_iload (e_dx DX12_joins_5 23 rfl),
  f_iload (e_dx DX12_joins_5 24 rfl),
  f_icmp_ne (e_dx DX12_joins_5 25 rfl) rfl,
  f_aload_n (n := 0) (e_dx DX12_joins_5 26 rfl) rfl,
  f_sipush (e_dx DX12_joins_5 27 rfl) ⟨by decide, by decide⟩,
  f_iload (e_dx DX12_joins_5 28 rfl),
  x_callV (e_dx DX12_joins_5 29 rfl) mwX12_areaOf vwX12_areaOf cX12_513 rfl,
  f_aload_n (n := 0) (e_dx DX12_joins_5 30 rfl) rfl,
  f_iload_n (n := 1) (e_dx DX12_joins_5 31 rfl) rfl,
  f_iload_n (n := 2) (e_dx DX12_joins_5 32 rfl) rfl,
  x_callV (e_dx DX12_joins_5 33 rfl) mwX12_areaOf vwX12_areaOf cX12_513 rfl,
  f_aload_n (n := 0) (e_dx DX12_joins_5 34 rfl) rfl,
  f_iload_n (n := 3) (e_dx DX12_joins_5 35 rfl) rfl,
  f_iload (e_dx DX12_joins_5 36 rfl),
  x_callV (e_dx DX12_joins_5 37 rfl) mwX12_areaOf vwX12_areaOf cX12_513 rfl,
  f_ladd (e_dx DX12_joins_5 38 rfl),
  f_lif_eq (e_dx DX12_joins_5 39 rfl) (e_dx DX12_joins_6 0 rfl) rfl,
  f_iconst (e_dx DX12_joins_6 1 rfl) ⟨by decide, by decide⟩,
  ⟨(e_dx DX12_joins_6 2 rfl), rfl⟩,
  f_aload_n (n := 0) (e_dx DX12_joins_6 3 rfl) rfl,
  f_aload_n (n := 0) (e_dx DX12_joins_6 4 rfl) rfl,
  f_sipush (e_dx DX12_joins_6 5 rfl) ⟨by decide, by decide⟩,
  f_iload (e_dx DX12_joins_6 6 rfl),
  x_callV (e_dx DX12_joins_6 7 rfl) mwX12_tidy vwX12_tidy cX12_494 rfl,
  f_putn (e_dx DX12_joins_6 8 rfl) fX12_517 (fun q hq => by cases hq; rfl) rfl (Or.inl rfl) (by decide),
  f_aload_n (n := 0) (e_dx DX12_joins_6 9 rfl) rfl,
  f_getf (e_dx DX12_joins_6 10 rfl) fX12_517 rfl (by decide) (by decide) (by decide),
  f_bipush (e_dx DX12_joins_6 11 rfl) ⟨by decide, by decide⟩,
  f_icmp_le (e_dx DX12_joins_6 12 rfl) rfl,
  f_iconst (e_dx DX12_joins_6 13 rfl) ⟨by decide, by decide⟩,
  ⟨(e_dx DX12_joins_6 14 rfl), rfl⟩,
  f_iconst (e_dx DX12_joins_6 15 rfl) ⟨by decide, by decide⟩,
  f_istore (e_dx DX12_joins_6 16 rfl) (by decide),
  trivial,
  f_iload (e_dx DX12_joins_6 17 rfl),
  f_aload_n (n := 0) (e_dx DX12_joins_6 18 rfl) rfl,
  f_getf (e_dx DX12_joins_6 19 rfl) fX12_517 rfl (by decide) (by decide) (by decide),
  f_icmp_ge (e_dx DX12_joins_6 20 rfl) rfl,
  f_aload_n (n := 0) (e_dx DX12_joins_6 21 rfl) rfl,
  f_getA (e_dx DX12_joins_6 22 rfl) fX12_82 rfl (by decide) (Nat.le_of_ble_eq_true rfl) rfl (by decide),
  f_sipush (e_dx DX12_joins_6 23 rfl) ⟨by decide, by decide⟩,
  f_iload (e_dx DX12_joins_6 24 rfl),
  f_iadd (e_dx DX12_joins_6 25 rfl),
  f_aload_n (n := 0) (e_dx DX12_joins_6 26 rfl) rfl,
  f_getA (e_dx DX12_joins_6 27 rfl) fX12_82 rfl (by decide) (Nat.le_of_ble_eq_true rfl) rfl (by decide),
  f_sipush (e_dx DX12_joins_6 28 rfl) ⟨by decide, by decide⟩,
  f_iload (e_dx DX12_joins_6 29 rfl),
  f_iadd (e_dx DX12_joins_6 30 rfl),
  f_iaload (e_dx DX12_joins_6 31 rfl),
  f_iastore (e_dx DX12_joins_6 32 rfl),
  f_aload_n (n := 0) (e_dx DX12_joins_6 33 rfl) rfl,
  f_getA (e_dx DX12_joins_6 34 rfl) fX12_85 rfl (by decide) (Nat.le_of_ble_eq_true rfl) rfl (by decide),
  f_sipush (e_dx DX12_joins_6 35 rfl) ⟨by decide, by decide⟩,
  f_iload (e_dx DX12_joins_6 36 rfl),
  f_iadd (e_dx DX12_joins_6 37 rfl),
  f_aload_n (n := 0) (e_dx DX12_joins_6 38 rfl) rfl,
  f_getA (e_dx DX12_joins_6 39 rfl) fX12_85 rfl (by decide) (Nat.le_of_ble_eq_true rfl) rfl (by decide),
  f_sipush (e_dx DX12_joins_7 0 rfl) ⟨by decide, by decide⟩,
  f_iload (e_dx DX12_joins_7 1 rfl),
  f_iadd (e_dx DX12_joins_7 2 rfl),
  f_iaload (e_dx DX12_joins_7 3 rfl),
  f_iastore (e_dx DX12_joins_7 4 rfl),
  f_g8 (e_dx DX12_joins_7 5 rfl) ⟨by decide, by decide⟩,
  f_g19 (e_dx DX12_joins_7 6 rfl) rfl,
  f_iconst (e_dx DX12_joins_7 7 rfl) ⟨by decide, by decide⟩,
  ⟨(e_dx DX12_joins_7 8 rfl), rfl⟩, trivial⟩
def lX12_joins (c_X12_along : Int → Int → Int → Int → Int → Int → e_M → (Int → e_M → Prop) → Prop) (c_X12_round : Int → Int → Int → Int → e_M → (Int → Prop) → Prop) (c_X12_areaOf : Int → Int → e_M → (Int → Prop) → Prop) (c_X12_tidy : Int → Int → e_M → (Int → e_M → Prop) → Prop) : List (Nat × f_Wt) := [(0, f_wm [(4466, 12, 123), (1, 0, 0), (1, 0, 0), (1, 0, 0), (1, 0, 0), (1, 0, 0), (1, 0, 0)] (fun ar M R => c_X12_along (f_vi (f_nth ar 1)) (f_vi (f_nth ar 2)) (f_vi (f_nth ar 3)) (f_vi (f_nth ar 4)) (f_vi (f_nth ar 5)) (f_vi (f_nth ar 6)) M (fun r M => R (some (.inl r)) M))), (1, f_wm [(2, 0, 0), (2, 0, 0), (2, 0, 0), (2, 0, 0)] (fun ar M R => c_X12_round (f_vi (f_nth ar 0)) (f_vi (f_nth ar 1)) (f_vi (f_nth ar 2)) (f_vi (f_nth ar 3)) M (fun r => R (some (.inl r)) M))), (2, f_wm [(4466, 12, 123), (1, 0, 0), (1, 0, 0)] (fun ar M R => c_X12_areaOf (f_vi (f_nth ar 1)) (f_vi (f_nth ar 2)) M (fun r => R (some (.inr (.inl r))) M))), (3, f_wm [(4466, 12, 123), (1, 0, 0), (1, 0, 0)] (fun ar M R => c_X12_tidy (f_vi (f_nth ar 1)) (f_vi (f_nth ar 2)) M (fun r M => R (some (.inl r)) M)))]
set_option maxRecDepth 20000 in
theorem BX12_joins_45 {sh : Nat → Nat × Nat} {t : Nat} {rm : Nat × Nat × Nat} {cs : Nat × Nat} {R : f_Rt} {c_X12_along : Int → Int → Int → Int → Int → Int → e_M → (Int → e_M → Prop) → Prop} {c_X12_round : Int → Int → Int → Int → e_M → (Int → Prop) → Prop} {c_X12_areaOf : Int → Int → e_M → (Int → Prop) → Prop} {c_X12_tidy : Int → Int → e_M → (Int → e_M → Prop) → Prop} {k50 : Int → Int → Int → Int → Int → e_M → Prop} {x1 : Int} {x2 : Int} {x3 : Int} {x4 : Int} {M : e_M} (C : f_Hy sh t yX12_joins rm cs 8 (lX12_joins c_X12_along c_X12_round c_X12_areaOf c_X12_tidy) R) (h50 : ∀ (x1 : Int) (x2 : Int) (x3 : Int) (x4 : Int) (xs0 : Int) (M : e_M), k50 x1 x2 x3 x4 xs0 M → f_E sh t YX12_joins rm cs (f_Q sh t R) 50 [.inr (.inr (.inl (12, 123, 4456))), .inl x1, .inl x2, .inl x3, .inl x4, .inr (.inr (.inr ())), .inr (.inr (.inr ())), .inr (.inr (.inr ())), .inr (.inr (.inr ())), .inr (.inr (.inr ())), .inr (.inr (.inr ())), .inr (.inr (.inr ())), .inr (.inr (.inr ())), .inr (.inr (.inr ())), .inr (.inr (.inr ())), .inr (.inr (.inr ())), .inr (.inr (.inr ())), .inr (.inr (.inr ())), .inr (.inr (.inr ())), .inr (.inr (.inr ())), .inr (.inr (.inr ()))] [.inl xs0] M) (h : VX12_joins_45 c_X12_along c_X12_round c_X12_areaOf c_X12_tidy k50 (fun r M => R (some (.inl r)) M) x1 x2 x3 x4 M) : f_E sh t YX12_joins rm cs (f_Q sh t R) 45 [.inr (.inr (.inl (12, 123, 4456))), .inl x1, .inl x2, .inl x3, .inl x4, .inr (.inr (.inr ())), .inr (.inr (.inr ())), .inr (.inr (.inr ())), .inr (.inr (.inr ())), .inr (.inr (.inr ())), .inr (.inr (.inr ())), .inr (.inr (.inr ())), .inr (.inr (.inr ())), .inr (.inr (.inr ())), .inr (.inr (.inr ())), .inr (.inr (.inr ())), .inr (.inr (.inr ())), .inr (.inr (.inr ())), .inr (.inr (.inr ())), .inr (.inr (.inr ())), .inr (.inr (.inr ()))] [] M :=
  f_go (KC := f_kc [(50, f_pl [(4466, 12, 123), (1, 0, 0), (1, 0, 0), (1, 0, 0), (1, 0, 0), (0, 0, 0), (0, 0, 0), (0, 0, 0), (0, 0, 0), (0, 0, 0), (0, 0, 0), (0, 0, 0), (0, 0, 0), (0, 0, 0), (0, 0, 0), (0, 0, 0), (0, 0, 0), (0, 0, 0), (0, 0, 0), (0, 0, 0), (0, 0, 0)] [(1, 0, 0)] (fun ls st M => k50 (f_vi (f_nth ls 1)) (f_vi (f_nth ls 2)) (f_vi (f_nth ls 3)) (f_vi (f_nth ls 4)) (f_vi (f_nth st 0)) M))]) C qX12_joinsf (f_kc_cons (f_pl_ok rfl (fun ls st M h => h50 _ _ _ _ _ M h)) f_kc_nil) 303 28 h
set_option maxRecDepth 20000 in
theorem BX12_joins_49 {sh : Nat → Nat × Nat} {t : Nat} {rm : Nat × Nat × Nat} {cs : Nat × Nat} {R : f_Rt} {c_X12_along : Int → Int → Int → Int → Int → Int → e_M → (Int → e_M → Prop) → Prop} {c_X12_round : Int → Int → Int → Int → e_M → (Int → Prop) → Prop} {c_X12_areaOf : Int → Int → e_M → (Int → Prop) → Prop} {c_X12_tidy : Int → Int → e_M → (Int → e_M → Prop) → Prop} {k50 : Int → Int → Int → Int → Int → e_M → Prop} {x1 : Int} {x2 : Int} {x3 : Int} {x4 : Int} {M : e_M} (C : f_Hy sh t yX12_joins rm cs 8 (lX12_joins c_X12_along c_X12_round c_X12_areaOf c_X12_tidy) R) (h50 : ∀ (x1 : Int) (x2 : Int) (x3 : Int) (x4 : Int) (xs0 : Int) (M : e_M), k50 x1 x2 x3 x4 xs0 M → f_E sh t YX12_joins rm cs (f_Q sh t R) 50 [.inr (.inr (.inl (12, 123, 4456))), .inl x1, .inl x2, .inl x3, .inl x4, .inr (.inr (.inr ())), .inr (.inr (.inr ())), .inr (.inr (.inr ())), .inr (.inr (.inr ())), .inr (.inr (.inr ())), .inr (.inr (.inr ())), .inr (.inr (.inr ())), .inr (.inr (.inr ())), .inr (.inr (.inr ())), .inr (.inr (.inr ())), .inr (.inr (.inr ())), .inr (.inr (.inr ())), .inr (.inr (.inr ())), .inr (.inr (.inr ())), .inr (.inr (.inr ())), .inr (.inr (.inr ()))] [.inl xs0] M) (h : VX12_joins_49 c_X12_along c_X12_round c_X12_areaOf c_X12_tidy k50 (fun r M => R (some (.inl r)) M) x1 x2 x3 x4 M) : f_E sh t YX12_joins rm cs (f_Q sh t R) 49 [.inr (.inr (.inl (12, 123, 4456))), .inl x1, .inl x2, .inl x3, .inl x4, .inr (.inr (.inr ())), .inr (.inr (.inr ())), .inr (.inr (.inr ())), .inr (.inr (.inr ())), .inr (.inr (.inr ())), .inr (.inr (.inr ())), .inr (.inr (.inr ())), .inr (.inr (.inr ())), .inr (.inr (.inr ())), .inr (.inr (.inr ())), .inr (.inr (.inr ())), .inr (.inr (.inr ())), .inr (.inr (.inr ())), .inr (.inr (.inr ())), .inr (.inr (.inr ())), .inr (.inr (.inr ()))] [] M :=
  f_go (KC := f_kc [(50, f_pl [(4466, 12, 123), (1, 0, 0), (1, 0, 0), (1, 0, 0), (1, 0, 0), (0, 0, 0), (0, 0, 0), (0, 0, 0), (0, 0, 0), (0, 0, 0), (0, 0, 0), (0, 0, 0), (0, 0, 0), (0, 0, 0), (0, 0, 0), (0, 0, 0), (0, 0, 0), (0, 0, 0), (0, 0, 0), (0, 0, 0), (0, 0, 0)] [(1, 0, 0)] (fun ls st M => k50 (f_vi (f_nth ls 1)) (f_vi (f_nth ls 2)) (f_vi (f_nth ls 3)) (f_vi (f_nth ls 4)) (f_vi (f_nth st 0)) M))]) C qX12_joinsf (f_kc_cons (f_pl_ok rfl (fun ls st M h => h50 _ _ _ _ _ M h)) f_kc_nil) 303 31 h
set_option maxRecDepth 20000 in
theorem BX12_joins_50 {sh : Nat → Nat × Nat} {t : Nat} {rm : Nat × Nat × Nat} {cs : Nat × Nat} {R : f_Rt} {c_X12_along : Int → Int → Int → Int → Int → Int → e_M → (Int → e_M → Prop) → Prop} {c_X12_round : Int → Int → Int → Int → e_M → (Int → Prop) → Prop} {c_X12_areaOf : Int → Int → e_M → (Int → Prop) → Prop} {c_X12_tidy : Int → Int → e_M → (Int → e_M → Prop) → Prop} {k72 : Int → Int → Int → Int → Int → Int → e_M → Prop} {x1 : Int} {x2 : Int} {x3 : Int} {x4 : Int} {xs0 : Int} {M : e_M} (C : f_Hy sh t yX12_joins rm cs 8 (lX12_joins c_X12_along c_X12_round c_X12_areaOf c_X12_tidy) R) (h72 : ∀ (x1 : Int) (x2 : Int) (x3 : Int) (x4 : Int) (x5 : Int) (xs0 : Int) (M : e_M), k72 x1 x2 x3 x4 x5 xs0 M → f_E sh t YX12_joins rm cs (f_Q sh t R) 72 [.inr (.inr (.inl (12, 123, 4456))), .inl x1, .inl x2, .inl x3, .inl x4, .inl x5, .inr (.inr (.inr ())), .inr (.inr (.inr ())), .inr (.inr (.inr ())), .inr (.inr (.inr ())), .inr (.inr (.inr ())), .inr (.inr (.inr ())), .inr (.inr (.inr ())), .inr (.inr (.inr ())), .inr (.inr (.inr ())), .inr (.inr (.inr ())), .inr (.inr (.inr ())), .inr (.inr (.inr ())), .inr (.inr (.inr ())), .inr (.inr (.inr ())), .inr (.inr (.inr ()))] [.inl xs0] M) (h : VX12_joins_50 c_X12_along c_X12_round c_X12_areaOf c_X12_tidy k72 (fun r M => R (some (.inl r)) M) x1 x2 x3 x4 xs0 M) : f_E sh t YX12_joins rm cs (f_Q sh t R) 50 [.inr (.inr (.inl (12, 123, 4456))), .inl x1, .inl x2, .inl x3, .inl x4, .inr (.inr (.inr ())), .inr (.inr (.inr ())), .inr (.inr (.inr ())), .inr (.inr (.inr ())), .inr (.inr (.inr ())), .inr (.inr (.inr ())), .inr (.inr (.inr ())), .inr (.inr (.inr ())), .inr (.inr (.inr ())), .inr (.inr (.inr ())), .inr (.inr (.inr ())), .inr (.inr (.inr ())), .inr (.inr (.inr ())), .inr (.inr (.inr ())), .inr (.inr (.inr ())), .inr (.inr (.inr ()))] [.inl xs0] M :=
  f_go (KC := f_kc [(72, f_pl [(4466, 12, 123), (1, 0, 0), (1, 0, 0), (1, 0, 0), (1, 0, 0), (1, 0, 0), (0, 0, 0), (0, 0, 0), (0, 0, 0), (0, 0, 0), (0, 0, 0), (0, 0, 0), (0, 0, 0), (0, 0, 0), (0, 0, 0), (0, 0, 0), (0, 0, 0), (0, 0, 0), (0, 0, 0), (0, 0, 0), (0, 0, 0)] [(1, 0, 0)] (fun ls st M => k72 (f_vi (f_nth ls 1)) (f_vi (f_nth ls 2)) (f_vi (f_nth ls 3)) (f_vi (f_nth ls 4)) (f_vi (f_nth ls 5)) (f_vi (f_nth st 0)) M))]) C qX12_joinsf (f_kc_cons (f_pl_ok rfl (fun ls st M h => h72 _ _ _ _ _ _ M h)) f_kc_nil) 303 33 h
set_option maxRecDepth 20000 in
theorem BX12_joins_72 {sh : Nat → Nat × Nat} {t : Nat} {rm : Nat × Nat × Nat} {cs : Nat × Nat} {R : f_Rt} {c_X12_along : Int → Int → Int → Int → Int → Int → e_M → (Int → e_M → Prop) → Prop} {c_X12_round : Int → Int → Int → Int → e_M → (Int → Prop) → Prop} {c_X12_areaOf : Int → Int → e_M → (Int → Prop) → Prop} {c_X12_tidy : Int → Int → e_M → (Int → e_M → Prop) → Prop} {k94 : Int → Int → Int → Int → Int → Int → e_M → Prop} {x1 : Int} {x2 : Int} {x3 : Int} {x4 : Int} {x5 : Int} {xs0 : Int} {M : e_M} (C : f_Hy sh t yX12_joins rm cs 8 (lX12_joins c_X12_along c_X12_round c_X12_areaOf c_X12_tidy) R) (h94 : ∀ (x1 : Int) (x2 : Int) (x3 : Int) (x4 : Int) (x6 : Int) (xs0 : Int) (M : e_M), k94 x1 x2 x3 x4 x6 xs0 M → f_E sh t YX12_joins rm cs (f_Q sh t R) 94 [.inr (.inr (.inl (12, 123, 4456))), .inl x1, .inl x2, .inl x3, .inl x4, .inr (.inr (.inr ())), .inl x6, .inr (.inr (.inr ())), .inr (.inr (.inr ())), .inr (.inr (.inr ())), .inr (.inr (.inr ())), .inr (.inr (.inr ())), .inr (.inr (.inr ())), .inr (.inr (.inr ())), .inr (.inr (.inr ())), .inr (.inr (.inr ())), .inr (.inr (.inr ())), .inr (.inr (.inr ())), .inr (.inr (.inr ())), .inr (.inr (.inr ())), .inr (.inr (.inr ()))] [.inl xs0] M) (h : VX12_joins_72 c_X12_along c_X12_round c_X12_areaOf c_X12_tidy k94 (fun r M => R (some (.inl r)) M) x1 x2 x3 x4 x5 xs0 M) : f_E sh t YX12_joins rm cs (f_Q sh t R) 72 [.inr (.inr (.inl (12, 123, 4456))), .inl x1, .inl x2, .inl x3, .inl x4, .inl x5, .inr (.inr (.inr ())), .inr (.inr (.inr ())), .inr (.inr (.inr ())), .inr (.inr (.inr ())), .inr (.inr (.inr ())), .inr (.inr (.inr ())), .inr (.inr (.inr ())), .inr (.inr (.inr ())), .inr (.inr (.inr ())), .inr (.inr (.inr ())), .inr (.inr (.inr ())), .inr (.inr (.inr ())), .inr (.inr (.inr ())), .inr (.inr (.inr ())), .inr (.inr (.inr ()))] [.inl xs0] M :=
  f_go (KC := f_kc [(94, f_pl [(4466, 12, 123), (1, 0, 0), (1, 0, 0), (1, 0, 0), (1, 0, 0), (0, 0, 0), (1, 0, 0), (0, 0, 0), (0, 0, 0), (0, 0, 0), (0, 0, 0), (0, 0, 0), (0, 0, 0), (0, 0, 0), (0, 0, 0), (0, 0, 0), (0, 0, 0), (0, 0, 0), (0, 0, 0), (0, 0, 0), (0, 0, 0)] [(1, 0, 0)] (fun ls st M => k94 (f_vi (f_nth ls 1)) (f_vi (f_nth ls 2)) (f_vi (f_nth ls 3)) (f_vi (f_nth ls 4)) (f_vi (f_nth ls 6)) (f_vi (f_nth st 0)) M))]) C qX12_joinsf (f_kc_cons (f_pl_ok rfl (fun ls st M h => h94 _ _ _ _ _ _ M h)) f_kc_nil) 303 46 h
set_option maxRecDepth 20000 in
theorem BX12_joins_94 {sh : Nat → Nat × Nat} {t : Nat} {rm : Nat × Nat × Nat} {cs : Nat × Nat} {R : f_Rt} {c_X12_along : Int → Int → Int → Int → Int → Int → e_M → (Int → e_M → Prop) → Prop} {c_X12_round : Int → Int → Int → Int → e_M → (Int → Prop) → Prop} {c_X12_areaOf : Int → Int → e_M → (Int → Prop) → Prop} {c_X12_tidy : Int → Int → e_M → (Int → e_M → Prop) → Prop} {k115 : Int → Int → Int → Int → Int → Int → Int → Int → Int → Int → Int → e_M → Prop} {x1 : Int} {x2 : Int} {x3 : Int} {x4 : Int} {x6 : Int} {xs0 : Int} {M : e_M} (C : f_Hy sh t yX12_joins rm cs 8 (lX12_joins c_X12_along c_X12_round c_X12_areaOf c_X12_tidy) R) (h115 : ∀ (x1 : Int) (x2 : Int) (x3 : Int) (x4 : Int) (x6 : Int) (x7 : Int) (x8 : Int) (x9 : Int) (x10 : Int) (x12 : Int) (x14 : Int) (M : e_M), k115 x1 x2 x3 x4 x6 x7 x8 x9 x10 x12 x14 M → f_E sh t YX12_joins rm cs (f_Q sh t R) 115 [.inr (.inr (.inl (12, 123, 4456))), .inl x1, .inl x2, .inl x3, .inl x4, .inr (.inr (.inr ())), .inl x6, .inl x7, .inl x8, .inl x9, .inr (.inl x10), .inr (.inr (.inr ())), .inr (.inl x12), .inr (.inr (.inr ())), .inl x14, .inr (.inr (.inr ())), .inr (.inr (.inr ())), .inr (.inr (.inr ())), .inr (.inr (.inr ())), .inr (.inr (.inr ())), .inr (.inr (.inr ()))] [] M) (h : VX12_joins_94 c_X12_along c_X12_round c_X12_areaOf c_X12_tidy k115 (fun r M => R (some (.inl r)) M) x1 x2 x3 x4 x6 xs0 M) : f_E sh t YX12_joins rm cs (f_Q sh t R) 94 [.inr (.inr (.inl (12, 123, 4456))), .inl x1, .inl x2, .inl x3, .inl x4, .inr (.inr (.inr ())), .inl x6, .inr (.inr (.inr ())), .inr (.inr (.inr ())), .inr (.inr (.inr ())), .inr (.inr (.inr ())), .inr (.inr (.inr ())), .inr (.inr (.inr ())), .inr (.inr (.inr ())), .inr (.inr (.inr ())), .inr (.inr (.inr ())), .inr (.inr (.inr ())), .inr (.inr (.inr ())), .inr (.inr (.inr ())), .inr (.inr (.inr ())), .inr (.inr (.inr ()))] [.inl xs0] M :=
  f_go (KC := f_kc [(115, f_pl [(4466, 12, 123), (1, 0, 0), (1, 0, 0), (1, 0, 0), (1, 0, 0), (0, 0, 0), (1, 0, 0), (1, 0, 0), (1, 0, 0), (1, 0, 0), (2, 0, 0), (0, 0, 0), (2, 0, 0), (0, 0, 0), (1, 0, 0), (0, 0, 0), (0, 0, 0), (0, 0, 0), (0, 0, 0), (0, 0, 0), (0, 0, 0)] [] (fun ls st M => k115 (f_vi (f_nth ls 1)) (f_vi (f_nth ls 2)) (f_vi (f_nth ls 3)) (f_vi (f_nth ls 4)) (f_vi (f_nth ls 6)) (f_vi (f_nth ls 7)) (f_vi (f_nth ls 8)) (f_vi (f_nth ls 9)) (f_vi (f_nth ls 10)) (f_vi (f_nth ls 12)) (f_vi (f_nth ls 14)) M))]) C qX12_joinsf (f_kc_cons (f_pl_ok rfl (fun ls st M h => h115 _ _ _ _ _ _ _ _ _ _ _ M h)) f_kc_nil) 303 59 h
set_option maxRecDepth 20000 in
theorem BX12_joins_115 {sh : Nat → Nat × Nat} {t : Nat} {rm : Nat × Nat × Nat} {cs : Nat × Nat} {R : f_Rt} {c_X12_along : Int → Int → Int → Int → Int → Int → e_M → (Int → e_M → Prop) → Prop} {c_X12_round : Int → Int → Int → Int → e_M → (Int → Prop) → Prop} {c_X12_areaOf : Int → Int → e_M → (Int → Prop) → Prop} {c_X12_tidy : Int → Int → e_M → (Int → e_M → Prop) → Prop} {k118 : Int → Int → Int → Int → Int → Int → Int → Int → Int → Int → Int → Int → e_M → Prop} {x1 : Int} {x2 : Int} {x3 : Int} {x4 : Int} {x6 : Int} {x7 : Int} {x8 : Int} {x9 : Int} {x10 : Int} {x12 : Int} {x14 : Int} {M : e_M} (C : f_Hy sh t yX12_joins rm cs 8 (lX12_joins c_X12_along c_X12_round c_X12_areaOf c_X12_tidy) R) (h118 : ∀ (x1 : Int) (x2 : Int) (x3 : Int) (x4 : Int) (x6 : Int) (x7 : Int) (x8 : Int) (x9 : Int) (x10 : Int) (x12 : Int) (x14 : Int) (x15 : Int) (M : e_M), k118 x1 x2 x3 x4 x6 x7 x8 x9 x10 x12 x14 x15 M → f_E sh t YX12_joins rm cs (f_Q sh t R) 118 [.inr (.inr (.inl (12, 123, 4456))), .inl x1, .inl x2, .inl x3, .inl x4, .inr (.inr (.inr ())), .inl x6, .inl x7, .inl x8, .inl x9, .inr (.inl x10), .inr (.inr (.inr ())), .inr (.inl x12), .inr (.inr (.inr ())), .inl x14, .inl x15, .inr (.inr (.inr ())), .inr (.inr (.inr ())), .inr (.inr (.inr ())), .inr (.inr (.inr ())), .inr (.inr (.inr ()))] [] M) (h : VX12_joins_115 c_X12_along c_X12_round c_X12_areaOf c_X12_tidy k118 (fun r M => R (some (.inl r)) M) x1 x2 x3 x4 x6 x7 x8 x9 x10 x12 x14 M) : f_E sh t YX12_joins rm cs (f_Q sh t R) 115 [.inr (.inr (.inl (12, 123, 4456))), .inl x1, .inl x2, .inl x3, .inl x4, .inr (.inr (.inr ())), .inl x6, .inl x7, .inl x8, .inl x9, .inr (.inl x10), .inr (.inr (.inr ())), .inr (.inl x12), .inr (.inr (.inr ())), .inl x14, .inr (.inr (.inr ())), .inr (.inr (.inr ())), .inr (.inr (.inr ())), .inr (.inr (.inr ())), .inr (.inr (.inr ())), .inr (.inr (.inr ()))] [] M :=
  f_go (KC := f_kc [(118, f_pl [(4466, 12, 123), (1, 0, 0), (1, 0, 0), (1, 0, 0), (1, 0, 0), (0, 0, 0), (1, 0, 0), (1, 0, 0), (1, 0, 0), (1, 0, 0), (2, 0, 0), (0, 0, 0), (2, 0, 0), (0, 0, 0), (1, 0, 0), (1, 0, 0), (0, 0, 0), (0, 0, 0), (0, 0, 0), (0, 0, 0), (0, 0, 0)] [] (fun ls st M => k118 (f_vi (f_nth ls 1)) (f_vi (f_nth ls 2)) (f_vi (f_nth ls 3)) (f_vi (f_nth ls 4)) (f_vi (f_nth ls 6)) (f_vi (f_nth ls 7)) (f_vi (f_nth ls 8)) (f_vi (f_nth ls 9)) (f_vi (f_nth ls 10)) (f_vi (f_nth ls 12)) (f_vi (f_nth ls 14)) (f_vi (f_nth ls 15)) M))]) C qX12_joinsf (f_kc_cons (f_pl_ok rfl (fun ls st M h => h118 _ _ _ _ _ _ _ _ _ _ _ _ M h)) f_kc_nil) 303 71 h
set_option maxRecDepth 20000 in
theorem BX12_joins_118 {sh : Nat → Nat × Nat} {t : Nat} {rm : Nat × Nat × Nat} {cs : Nat × Nat} {R : f_Rt} {c_X12_along : Int → Int → Int → Int → Int → Int → e_M → (Int → e_M → Prop) → Prop} {c_X12_round : Int → Int → Int → Int → e_M → (Int → Prop) → Prop} {c_X12_areaOf : Int → Int → e_M → (Int → Prop) → Prop} {c_X12_tidy : Int → Int → e_M → (Int → e_M → Prop) → Prop} {k376 : Int → Int → Int → Int → Int → Int → Int → Int → Int → Int → Int → e_M → Prop} {k275 : Int → Int → Int → Int → Int → Int → Int → Int → Int → Int → Int → Int → Int → Int → e_M → Prop} {k159 : Int → Int → Int → Int → Int → Int → Int → Int → Int → Int → Int → Int → e_M → Prop} {x1 : Int} {x2 : Int} {x3 : Int} {x4 : Int} {x6 : Int} {x7 : Int} {x8 : Int} {x9 : Int} {x10 : Int} {x12 : Int} {x14 : Int} {x15 : Int} {M : e_M} (C : f_Hy sh t yX12_joins rm cs 8 (lX12_joins c_X12_along c_X12_round c_X12_areaOf c_X12_tidy) R) (h376 : ∀ (x1 : Int) (x2 : Int) (x3 : Int) (x4 : Int) (x6 : Int) (x7 : Int) (x8 : Int) (x9 : Int) (x14 : Int) (x16 : Int) (x17 : Int) (M : e_M), k376 x1 x2 x3 x4 x6 x7 x8 x9 x14 x16 x17 M → f_E sh t YX12_joins rm cs (f_Q sh t R) 376 [.inr (.inr (.inl (12, 123, 4456))), .inl x1, .inl x2, .inl x3, .inl x4, .inr (.inr (.inr ())), .inl x6, .inl x7, .inl x8, .inl x9, .inr (.inr (.inr ())), .inr (.inr (.inr ())), .inr (.inr (.inr ())), .inr (.inr (.inr ())), .inl x14, .inr (.inr (.inr ())), .inl x16, .inl x17, .inr (.inr (.inr ())), .inr (.inr (.inr ())), .inr (.inr (.inr ()))] [] M) (h275 : ∀ (x1 : Int) (x2 : Int) (x3 : Int) (x4 : Int) (x6 : Int) (x7 : Int) (x8 : Int) (x9 : Int) (x10 : Int) (x12 : Int) (x14 : Int) (x16 : Int) (x17 : Int) (xs0 : Int) (M : e_M), k275 x1 x2 x3 x4 x6 x7 x8 x9 x10 x12 x14 x16 x17 xs0 M → f_E sh t YX12_joins rm cs (f_Q sh t R) 275 [.inr (.inr (.inl (12, 123, 4456))), .inl x1, .inl x2, .inl x3, .inl x4, .inr (.inr (.inr ())), .inl x6, .inl x7, .inl x8, .inl x9, .inr (.inl x10), .inr (.inr (.inr ())), .inr (.inl x12), .inr (.inr (.inr ())), .inl x14, .inr (.inr (.inr ())), .inl x16, .inl x17, .inr (.inr (.inr ())), .inr (.inr (.inr ())), .inr (.inr (.inr ()))] [.inl xs0] M) (h159 : ∀ (x1 : Int) (x2 : Int) (x3 : Int) (x4 : Int) (x6 : Int) (x7 : Int) (x8 : Int) (x9 : Int) (x10 : Int) (x12 : Int) (x14 : Int) (x15 : Int) (M : e_M), k159 x1 x2 x3 x4 x6 x7 x8 x9 x10 x12 x14 x15 M → f_E sh t YX12_joins rm cs (f_Q sh t R) 159 [.inr (.inr (.inl (12, 123, 4456))), .inl x1, .inl x2, .inl x3, .inl x4, .inr (.inr (.inr ())), .inl x6, .inl x7, .inl x8, .inl x9, .inr (.inl x10), .inr (.inr (.inr ())), .inr (.inl x12), .inr (.inr (.inr ())), .inl x14, .inl x15, .inr (.inr (.inr ())), .inr (.inr (.inr ())), .inr (.inr (.inr ())), .inr (.inr (.inr ())), .inr (.inr (.inr ()))] [] M) (h : VX12_joins_118 c_X12_along c_X12_round c_X12_areaOf c_X12_tidy k376 k275 k159 (fun r M => R (some (.inl r)) M) x1 x2 x3 x4 x6 x7 x8 x9 x10 x12 x14 x15 M) : f_E sh t YX12_joins rm cs (f_Q sh t R) 118 [.inr (.inr (.inl (12, 123, 4456))), .inl x1, .inl x2, .inl x3, .inl x4, .inr (.inr (.inr ())), .inl x6, .inl x7, .inl x8, .inl x9, .inr (.inl x10), .inr (.inr (.inr ())), .inr (.inl x12), .inr (.inr (.inr ())), .inl x14, .inl x15, .inr (.inr (.inr ())), .inr (.inr (.inr ())), .inr (.inr (.inr ())), .inr (.inr (.inr ())), .inr (.inr (.inr ()))] [] M :=
  f_go (KC := f_kc [(376, f_pl [(4466, 12, 123), (1, 0, 0), (1, 0, 0), (1, 0, 0), (1, 0, 0), (0, 0, 0), (1, 0, 0), (1, 0, 0), (1, 0, 0), (1, 0, 0), (0, 0, 0), (0, 0, 0), (0, 0, 0), (0, 0, 0), (1, 0, 0), (0, 0, 0), (1, 0, 0), (1, 0, 0), (0, 0, 0), (0, 0, 0), (0, 0, 0)] [] (fun ls st M => k376 (f_vi (f_nth ls 1)) (f_vi (f_nth ls 2)) (f_vi (f_nth ls 3)) (f_vi (f_nth ls 4)) (f_vi (f_nth ls 6)) (f_vi (f_nth ls 7)) (f_vi (f_nth ls 8)) (f_vi (f_nth ls 9)) (f_vi (f_nth ls 14)) (f_vi (f_nth ls 16)) (f_vi (f_nth ls 17)) M)), (275, f_pl [(4466, 12, 123), (1, 0, 0), (1, 0, 0), (1, 0, 0), (1, 0, 0), (0, 0, 0), (1, 0, 0), (1, 0, 0), (1, 0, 0), (1, 0, 0), (2, 0, 0), (0, 0, 0), (2, 0, 0), (0, 0, 0), (1, 0, 0), (0, 0, 0), (1, 0, 0), (1, 0, 0), (0, 0, 0), (0, 0, 0), (0, 0, 0)] [(1, 0, 0)] (fun ls st M => k275 (f_vi (f_nth ls 1)) (f_vi (f_nth ls 2)) (f_vi (f_nth ls 3)) (f_vi (f_nth ls 4)) (f_vi (f_nth ls 6)) (f_vi (f_nth ls 7)) (f_vi (f_nth ls 8)) (f_vi (f_nth ls 9)) (f_vi (f_nth ls 10)) (f_vi (f_nth ls 12)) (f_vi (f_nth ls 14)) (f_vi (f_nth ls 16)) (f_vi (f_nth ls 17)) (f_vi (f_nth st 0)) M)), (159, f_pl [(4466, 12, 123), (1, 0, 0), (1, 0, 0), (1, 0, 0), (1, 0, 0), (0, 0, 0), (1, 0, 0), (1, 0, 0), (1, 0, 0), (1, 0, 0), (2, 0, 0), (0, 0, 0), (2, 0, 0), (0, 0, 0), (1, 0, 0), (1, 0, 0), (0, 0, 0), (0, 0, 0), (0, 0, 0), (0, 0, 0), (0, 0, 0)] [] (fun ls st M => k159 (f_vi (f_nth ls 1)) (f_vi (f_nth ls 2)) (f_vi (f_nth ls 3)) (f_vi (f_nth ls 4)) (f_vi (f_nth ls 6)) (f_vi (f_nth ls 7)) (f_vi (f_nth ls 8)) (f_vi (f_nth ls 9)) (f_vi (f_nth ls 10)) (f_vi (f_nth ls 12)) (f_vi (f_nth ls 14)) (f_vi (f_nth ls 15)) M))]) C qX12_joinsf (f_kc_cons (f_pl_ok rfl (fun ls st M h => h376 _ _ _ _ _ _ _ _ _ _ _ M h)) (f_kc_cons (f_pl_ok rfl (fun ls st M h => h275 _ _ _ _ _ _ _ _ _ _ _ _ _ _ M h)) (f_kc_cons (f_pl_ok rfl (fun ls st M h => h159 _ _ _ _ _ _ _ _ _ _ _ _ M h)) f_kc_nil))) 303 74 h
set_option maxRecDepth 20000 in
theorem BX12_joins_159 {sh : Nat → Nat × Nat} {t : Nat} {rm : Nat × Nat × Nat} {cs : Nat × Nat} {R : f_Rt} {c_X12_along : Int → Int → Int → Int → Int → Int → e_M → (Int → e_M → Prop) → Prop} {c_X12_round : Int → Int → Int → Int → e_M → (Int → Prop) → Prop} {c_X12_areaOf : Int → Int → e_M → (Int → Prop) → Prop} {c_X12_tidy : Int → Int → e_M → (Int → e_M → Prop) → Prop} {k118 : Int → Int → Int → Int → Int → Int → Int → Int → Int → Int → Int → Int → e_M → Prop} {x1 : Int} {x2 : Int} {x3 : Int} {x4 : Int} {x6 : Int} {x7 : Int} {x8 : Int} {x9 : Int} {x10 : Int} {x12 : Int} {x14 : Int} {x15 : Int} {M : e_M} (C : f_Hy sh t yX12_joins rm cs 8 (lX12_joins c_X12_along c_X12_round c_X12_areaOf c_X12_tidy) R) (h118 : ∀ (x1 : Int) (x2 : Int) (x3 : Int) (x4 : Int) (x6 : Int) (x7 : Int) (x8 : Int) (x9 : Int) (x10 : Int) (x12 : Int) (x14 : Int) (x15 : Int) (M : e_M), k118 x1 x2 x3 x4 x6 x7 x8 x9 x10 x12 x14 x15 M → f_E sh t YX12_joins rm cs (f_Q sh t R) 118 [.inr (.inr (.inl (12, 123, 4456))), .inl x1, .inl x2, .inl x3, .inl x4, .inr (.inr (.inr ())), .inl x6, .inl x7, .inl x8, .inl x9, .inr (.inl x10), .inr (.inr (.inr ())), .inr (.inl x12), .inr (.inr (.inr ())), .inl x14, .inl x15, .inr (.inr (.inr ())), .inr (.inr (.inr ())), .inr (.inr (.inr ())), .inr (.inr (.inr ())), .inr (.inr (.inr ()))] [] M) (h : VX12_joins_159 c_X12_along c_X12_round c_X12_areaOf c_X12_tidy k118 (fun r M => R (some (.inl r)) M) x1 x2 x3 x4 x6 x7 x8 x9 x10 x12 x14 x15 M) : f_E sh t YX12_joins rm cs (f_Q sh t R) 159 [.inr (.inr (.inl (12, 123, 4456))), .inl x1, .inl x2, .inl x3, .inl x4, .inr (.inr (.inr ())), .inl x6, .inl x7, .inl x8, .inl x9, .inr (.inl x10), .inr (.inr (.inr ())), .inr (.inl x12), .inr (.inr (.inr ())), .inl x14, .inl x15, .inr (.inr (.inr ())), .inr (.inr (.inr ())), .inr (.inr (.inr ())), .inr (.inr (.inr ())), .inr (.inr (.inr ()))] [] M :=
  f_go (KC := f_kc [(118, f_pl [(4466, 12, 123), (1, 0, 0), (1, 0, 0), (1, 0, 0), (1, 0, 0), (0, 0, 0), (1, 0, 0), (1, 0, 0), (1, 0, 0), (1, 0, 0), (2, 0, 0), (0, 0, 0), (2, 0, 0), (0, 0, 0), (1, 0, 0), (1, 0, 0), (0, 0, 0), (0, 0, 0), (0, 0, 0), (0, 0, 0), (0, 0, 0)] [] (fun ls st M => k118 (f_vi (f_nth ls 1)) (f_vi (f_nth ls 2)) (f_vi (f_nth ls 3)) (f_vi (f_nth ls 4)) (f_vi (f_nth ls 6)) (f_vi (f_nth ls 7)) (f_vi (f_nth ls 8)) (f_vi (f_nth ls 9)) (f_vi (f_nth ls 10)) (f_vi (f_nth ls 12)) (f_vi (f_nth ls 14)) (f_vi (f_nth ls 15)) M))]) C qX12_joinsf (f_kc_cons (f_pl_ok rfl (fun ls st M h => h118 _ _ _ _ _ _ _ _ _ _ _ _ M h)) f_kc_nil) 303 96 h
set_option maxRecDepth 20000 in
theorem BX12_joins_275 {sh : Nat → Nat × Nat} {t : Nat} {rm : Nat × Nat × Nat} {cs : Nat × Nat} {R : f_Rt} {c_X12_along : Int → Int → Int → Int → Int → Int → e_M → (Int → e_M → Prop) → Prop} {c_X12_round : Int → Int → Int → Int → e_M → (Int → Prop) → Prop} {c_X12_areaOf : Int → Int → e_M → (Int → Prop) → Prop} {c_X12_tidy : Int → Int → e_M → (Int → e_M → Prop) → Prop} {k352 : Int → Int → Int → Int → Int → Int → Int → Int → Int → Int → Int → e_M → Prop} {k356 : Int → Int → Int → Int → Int → Int → Int → Int → Int → Int → Int → e_M → Prop} {x1 : Int} {x2 : Int} {x3 : Int} {x4 : Int} {x6 : Int} {x7 : Int} {x8 : Int} {x9 : Int} {x10 : Int} {x12 : Int} {x14 : Int} {x16 : Int} {x17 : Int} {xs0 : Int} {M : e_M} (C : f_Hy sh t yX12_joins rm cs 8 (lX12_joins c_X12_along c_X12_round c_X12_areaOf c_X12_tidy) R) (h352 : ∀ (x1 : Int) (x2 : Int) (x3 : Int) (x4 : Int) (x6 : Int) (x7 : Int) (x8 : Int) (x9 : Int) (x14 : Int) (x16 : Int) (x17 : Int) (M : e_M), k352 x1 x2 x3 x4 x6 x7 x8 x9 x14 x16 x17 M → f_E sh t YX12_joins rm cs (f_Q sh t R) 352 [.inr (.inr (.inl (12, 123, 4456))), .inl x1, .inl x2, .inl x3, .inl x4, .inr (.inr (.inr ())), .inl x6, .inl x7, .inl x8, .inl x9, .inr (.inr (.inr ())), .inr (.inr (.inr ())), .inr (.inr (.inr ())), .inr (.inr (.inr ())), .inl x14, .inr (.inr (.inr ())), .inl x16, .inl x17, .inr (.inr (.inr ())), .inr (.inr (.inr ())), .inr (.inr (.inr ()))] [] M) (h356 : ∀ (x1 : Int) (x2 : Int) (x3 : Int) (x4 : Int) (x6 : Int) (x7 : Int) (x8 : Int) (x9 : Int) (x14 : Int) (x16 : Int) (x17 : Int) (M : e_M), k356 x1 x2 x3 x4 x6 x7 x8 x9 x14 x16 x17 M → f_E sh t YX12_joins rm cs (f_Q sh t R) 356 [.inr (.inr (.inl (12, 123, 4456))), .inl x1, .inl x2, .inl x3, .inl x4, .inr (.inr (.inr ())), .inl x6, .inl x7, .inl x8, .inl x9, .inr (.inr (.inr ())), .inr (.inr (.inr ())), .inr (.inr (.inr ())), .inr (.inr (.inr ())), .inl x14, .inr (.inr (.inr ())), .inl x16, .inl x17, .inr (.inr (.inr ())), .inr (.inr (.inr ())), .inr (.inr (.inr ()))] [] M) (h : VX12_joins_275 c_X12_along c_X12_round c_X12_areaOf c_X12_tidy k352 k356 (fun r M => R (some (.inl r)) M) x1 x2 x3 x4 x6 x7 x8 x9 x10 x12 x14 x16 x17 xs0 M) : f_E sh t YX12_joins rm cs (f_Q sh t R) 275 [.inr (.inr (.inl (12, 123, 4456))), .inl x1, .inl x2, .inl x3, .inl x4, .inr (.inr (.inr ())), .inl x6, .inl x7, .inl x8, .inl x9, .inr (.inl x10), .inr (.inr (.inr ())), .inr (.inl x12), .inr (.inr (.inr ())), .inl x14, .inr (.inr (.inr ())), .inl x16, .inl x17, .inr (.inr (.inr ())), .inr (.inr (.inr ())), .inr (.inr (.inr ()))] [.inl xs0] M :=
  f_go (KC := f_kc [(352, f_pl [(4466, 12, 123), (1, 0, 0), (1, 0, 0), (1, 0, 0), (1, 0, 0), (0, 0, 0), (1, 0, 0), (1, 0, 0), (1, 0, 0), (1, 0, 0), (0, 0, 0), (0, 0, 0), (0, 0, 0), (0, 0, 0), (1, 0, 0), (0, 0, 0), (1, 0, 0), (1, 0, 0), (0, 0, 0), (0, 0, 0), (0, 0, 0)] [] (fun ls st M => k352 (f_vi (f_nth ls 1)) (f_vi (f_nth ls 2)) (f_vi (f_nth ls 3)) (f_vi (f_nth ls 4)) (f_vi (f_nth ls 6)) (f_vi (f_nth ls 7)) (f_vi (f_nth ls 8)) (f_vi (f_nth ls 9)) (f_vi (f_nth ls 14)) (f_vi (f_nth ls 16)) (f_vi (f_nth ls 17)) M)), (356, f_pl [(4466, 12, 123), (1, 0, 0), (1, 0, 0), (1, 0, 0), (1, 0, 0), (0, 0, 0), (1, 0, 0), (1, 0, 0), (1, 0, 0), (1, 0, 0), (0, 0, 0), (0, 0, 0), (0, 0, 0), (0, 0, 0), (1, 0, 0), (0, 0, 0), (1, 0, 0), (1, 0, 0), (0, 0, 0), (0, 0, 0), (0, 0, 0)] [] (fun ls st M => k356 (f_vi (f_nth ls 1)) (f_vi (f_nth ls 2)) (f_vi (f_nth ls 3)) (f_vi (f_nth ls 4)) (f_vi (f_nth ls 6)) (f_vi (f_nth ls 7)) (f_vi (f_nth ls 8)) (f_vi (f_nth ls 9)) (f_vi (f_nth ls 14)) (f_vi (f_nth ls 16)) (f_vi (f_nth ls 17)) M))]) C qX12_joinsf (f_kc_cons (f_pl_ok rfl (fun ls st M h => h352 _ _ _ _ _ _ _ _ _ _ _ M h)) (f_kc_cons (f_pl_ok rfl (fun ls st M h => h356 _ _ _ _ _ _ _ _ _ _ _ M h)) f_kc_nil)) 303 158 h
set_option maxRecDepth 20000 in
theorem BX12_joins_352 {sh : Nat → Nat × Nat} {t : Nat} {rm : Nat × Nat × Nat} {cs : Nat × Nat} {R : f_Rt} {c_X12_along : Int → Int → Int → Int → Int → Int → e_M → (Int → e_M → Prop) → Prop} {c_X12_round : Int → Int → Int → Int → e_M → (Int → Prop) → Prop} {c_X12_areaOf : Int → Int → e_M → (Int → Prop) → Prop} {c_X12_tidy : Int → Int → e_M → (Int → e_M → Prop) → Prop} {k357 : Int → Int → Int → Int → Int → Int → Int → Int → Int → Int → Int → Int → e_M → Prop} {x1 : Int} {x2 : Int} {x3 : Int} {x4 : Int} {x6 : Int} {x7 : Int} {x8 : Int} {x9 : Int} {x14 : Int} {x16 : Int} {x17 : Int} {M : e_M} (C : f_Hy sh t yX12_joins rm cs 8 (lX12_joins c_X12_along c_X12_round c_X12_areaOf c_X12_tidy) R) (h357 : ∀ (x1 : Int) (x2 : Int) (x3 : Int) (x4 : Int) (x6 : Int) (x7 : Int) (x8 : Int) (x9 : Int) (x14 : Int) (x16 : Int) (x17 : Int) (xs0 : Int) (M : e_M), k357 x1 x2 x3 x4 x6 x7 x8 x9 x14 x16 x17 xs0 M → f_E sh t YX12_joins rm cs (f_Q sh t R) 357 [.inr (.inr (.inl (12, 123, 4456))), .inl x1, .inl x2, .inl x3, .inl x4, .inr (.inr (.inr ())), .inl x6, .inl x7, .inl x8, .inl x9, .inr (.inr (.inr ())), .inr (.inr (.inr ())), .inr (.inr (.inr ())), .inr (.inr (.inr ())), .inl x14, .inr (.inr (.inr ())), .inl x16, .inl x17, .inr (.inr (.inr ())), .inr (.inr (.inr ())), .inr (.inr (.inr ()))] [.inl xs0] M) (h : VX12_joins_352 c_X12_along c_X12_round c_X12_areaOf c_X12_tidy k357 (fun r M => R (some (.inl r)) M) x1 x2 x3 x4 x6 x7 x8 x9 x14 x16 x17 M) : f_E sh t YX12_joins rm cs (f_Q sh t R) 352 [.inr (.inr (.inl (12, 123, 4456))), .inl x1, .inl x2, .inl x3, .inl x4, .inr (.inr (.inr ())), .inl x6, .inl x7, .inl x8, .inl x9, .inr (.inr (.inr ())), .inr (.inr (.inr ())), .inr (.inr (.inr ())), .inr (.inr (.inr ())), .inl x14, .inr (.inr (.inr ())), .inl x16, .inl x17, .inr (.inr (.inr ())), .inr (.inr (.inr ())), .inr (.inr (.inr ()))] [] M :=
  f_go (KC := f_kc [(357, f_pl [(4466, 12, 123), (1, 0, 0), (1, 0, 0), (1, 0, 0), (1, 0, 0), (0, 0, 0), (1, 0, 0), (1, 0, 0), (1, 0, 0), (1, 0, 0), (0, 0, 0), (0, 0, 0), (0, 0, 0), (0, 0, 0), (1, 0, 0), (0, 0, 0), (1, 0, 0), (1, 0, 0), (0, 0, 0), (0, 0, 0), (0, 0, 0)] [(1, 0, 0)] (fun ls st M => k357 (f_vi (f_nth ls 1)) (f_vi (f_nth ls 2)) (f_vi (f_nth ls 3)) (f_vi (f_nth ls 4)) (f_vi (f_nth ls 6)) (f_vi (f_nth ls 7)) (f_vi (f_nth ls 8)) (f_vi (f_nth ls 9)) (f_vi (f_nth ls 14)) (f_vi (f_nth ls 16)) (f_vi (f_nth ls 17)) (f_vi (f_nth st 0)) M))]) C qX12_joinsf (f_kc_cons (f_pl_ok rfl (fun ls st M h => h357 _ _ _ _ _ _ _ _ _ _ _ _ M h)) f_kc_nil) 303 203 h
set_option maxRecDepth 20000 in
theorem BX12_joins_356 {sh : Nat → Nat × Nat} {t : Nat} {rm : Nat × Nat × Nat} {cs : Nat × Nat} {R : f_Rt} {c_X12_along : Int → Int → Int → Int → Int → Int → e_M → (Int → e_M → Prop) → Prop} {c_X12_round : Int → Int → Int → Int → e_M → (Int → Prop) → Prop} {c_X12_areaOf : Int → Int → e_M → (Int → Prop) → Prop} {c_X12_tidy : Int → Int → e_M → (Int → e_M → Prop) → Prop} {k357 : Int → Int → Int → Int → Int → Int → Int → Int → Int → Int → Int → Int → e_M → Prop} {x1 : Int} {x2 : Int} {x3 : Int} {x4 : Int} {x6 : Int} {x7 : Int} {x8 : Int} {x9 : Int} {x14 : Int} {x16 : Int} {x17 : Int} {M : e_M} (C : f_Hy sh t yX12_joins rm cs 8 (lX12_joins c_X12_along c_X12_round c_X12_areaOf c_X12_tidy) R) (h357 : ∀ (x1 : Int) (x2 : Int) (x3 : Int) (x4 : Int) (x6 : Int) (x7 : Int) (x8 : Int) (x9 : Int) (x14 : Int) (x16 : Int) (x17 : Int) (xs0 : Int) (M : e_M), k357 x1 x2 x3 x4 x6 x7 x8 x9 x14 x16 x17 xs0 M → f_E sh t YX12_joins rm cs (f_Q sh t R) 357 [.inr (.inr (.inl (12, 123, 4456))), .inl x1, .inl x2, .inl x3, .inl x4, .inr (.inr (.inr ())), .inl x6, .inl x7, .inl x8, .inl x9, .inr (.inr (.inr ())), .inr (.inr (.inr ())), .inr (.inr (.inr ())), .inr (.inr (.inr ())), .inl x14, .inr (.inr (.inr ())), .inl x16, .inl x17, .inr (.inr (.inr ())), .inr (.inr (.inr ())), .inr (.inr (.inr ()))] [.inl xs0] M) (h : VX12_joins_356 c_X12_along c_X12_round c_X12_areaOf c_X12_tidy k357 (fun r M => R (some (.inl r)) M) x1 x2 x3 x4 x6 x7 x8 x9 x14 x16 x17 M) : f_E sh t YX12_joins rm cs (f_Q sh t R) 356 [.inr (.inr (.inl (12, 123, 4456))), .inl x1, .inl x2, .inl x3, .inl x4, .inr (.inr (.inr ())), .inl x6, .inl x7, .inl x8, .inl x9, .inr (.inr (.inr ())), .inr (.inr (.inr ())), .inr (.inr (.inr ())), .inr (.inr (.inr ())), .inl x14, .inr (.inr (.inr ())), .inl x16, .inl x17, .inr (.inr (.inr ())), .inr (.inr (.inr ())), .inr (.inr (.inr ()))] [] M :=
  f_go (KC := f_kc [(357, f_pl [(4466, 12, 123), (1, 0, 0), (1, 0, 0), (1, 0, 0), (1, 0, 0), (0, 0, 0), (1, 0, 0), (1, 0, 0), (1, 0, 0), (1, 0, 0), (0, 0, 0), (0, 0, 0), (0, 0, 0), (0, 0, 0), (1, 0, 0), (0, 0, 0), (1, 0, 0), (1, 0, 0), (0, 0, 0), (0, 0, 0), (0, 0, 0)] [(1, 0, 0)] (fun ls st M => k357 (f_vi (f_nth ls 1)) (f_vi (f_nth ls 2)) (f_vi (f_nth ls 3)) (f_vi (f_nth ls 4)) (f_vi (f_nth ls 6)) (f_vi (f_nth ls 7)) (f_vi (f_nth ls 8)) (f_vi (f_nth ls 9)) (f_vi (f_nth ls 14)) (f_vi (f_nth ls 16)) (f_vi (f_nth ls 17)) (f_vi (f_nth st 0)) M))]) C qX12_joinsf (f_kc_cons (f_pl_ok rfl (fun ls st M h => h357 _ _ _ _ _ _ _ _ _ _ _ _ M h)) f_kc_nil) 303 206 h
set_option maxRecDepth 20000 in
theorem BX12_joins_357 {sh : Nat → Nat × Nat} {t : Nat} {rm : Nat × Nat × Nat} {cs : Nat × Nat} {R : f_Rt} {c_X12_along : Int → Int → Int → Int → Int → Int → e_M → (Int → e_M → Prop) → Prop} {c_X12_round : Int → Int → Int → Int → e_M → (Int → Prop) → Prop} {c_X12_areaOf : Int → Int → e_M → (Int → Prop) → Prop} {c_X12_tidy : Int → Int → e_M → (Int → e_M → Prop) → Prop} {k376 : Int → Int → Int → Int → Int → Int → Int → Int → Int → Int → Int → e_M → Prop} {x1 : Int} {x2 : Int} {x3 : Int} {x4 : Int} {x6 : Int} {x7 : Int} {x8 : Int} {x9 : Int} {x14 : Int} {x16 : Int} {x17 : Int} {xs0 : Int} {M : e_M} (C : f_Hy sh t yX12_joins rm cs 8 (lX12_joins c_X12_along c_X12_round c_X12_areaOf c_X12_tidy) R) (h376 : ∀ (x1 : Int) (x2 : Int) (x3 : Int) (x4 : Int) (x6 : Int) (x7 : Int) (x8 : Int) (x9 : Int) (x14 : Int) (x16 : Int) (x17 : Int) (M : e_M), k376 x1 x2 x3 x4 x6 x7 x8 x9 x14 x16 x17 M → f_E sh t YX12_joins rm cs (f_Q sh t R) 376 [.inr (.inr (.inl (12, 123, 4456))), .inl x1, .inl x2, .inl x3, .inl x4, .inr (.inr (.inr ())), .inl x6, .inl x7, .inl x8, .inl x9, .inr (.inr (.inr ())), .inr (.inr (.inr ())), .inr (.inr (.inr ())), .inr (.inr (.inr ())), .inl x14, .inr (.inr (.inr ())), .inl x16, .inl x17, .inr (.inr (.inr ())), .inr (.inr (.inr ())), .inr (.inr (.inr ()))] [] M) (h : VX12_joins_357 c_X12_along c_X12_round c_X12_areaOf c_X12_tidy k376 (fun r M => R (some (.inl r)) M) x1 x2 x3 x4 x6 x7 x8 x9 x14 x16 x17 xs0 M) : f_E sh t YX12_joins rm cs (f_Q sh t R) 357 [.inr (.inr (.inl (12, 123, 4456))), .inl x1, .inl x2, .inl x3, .inl x4, .inr (.inr (.inr ())), .inl x6, .inl x7, .inl x8, .inl x9, .inr (.inr (.inr ())), .inr (.inr (.inr ())), .inr (.inr (.inr ())), .inr (.inr (.inr ())), .inl x14, .inr (.inr (.inr ())), .inl x16, .inl x17, .inr (.inr (.inr ())), .inr (.inr (.inr ())), .inr (.inr (.inr ()))] [.inl xs0] M :=
  f_go (KC := f_kc [(376, f_pl [(4466, 12, 123), (1, 0, 0), (1, 0, 0), (1, 0, 0), (1, 0, 0), (0, 0, 0), (1, 0, 0), (1, 0, 0), (1, 0, 0), (1, 0, 0), (0, 0, 0), (0, 0, 0), (0, 0, 0), (0, 0, 0), (1, 0, 0), (0, 0, 0), (1, 0, 0), (1, 0, 0), (0, 0, 0), (0, 0, 0), (0, 0, 0)] [] (fun ls st M => k376 (f_vi (f_nth ls 1)) (f_vi (f_nth ls 2)) (f_vi (f_nth ls 3)) (f_vi (f_nth ls 4)) (f_vi (f_nth ls 6)) (f_vi (f_nth ls 7)) (f_vi (f_nth ls 8)) (f_vi (f_nth ls 9)) (f_vi (f_nth ls 14)) (f_vi (f_nth ls 16)) (f_vi (f_nth ls 17)) M))]) C qX12_joinsf (f_kc_cons (f_pl_ok rfl (fun ls st M h => h376 _ _ _ _ _ _ _ _ _ _ _ M h)) f_kc_nil) 303 208 h
set_option maxRecDepth 20000 in
theorem BX12_joins_376 {sh : Nat → Nat × Nat} {t : Nat} {rm : Nat × Nat × Nat} {cs : Nat × Nat} {R : f_Rt} {c_X12_along : Int → Int → Int → Int → Int → Int → e_M → (Int → e_M → Prop) → Prop} {c_X12_round : Int → Int → Int → Int → e_M → (Int → Prop) → Prop} {c_X12_areaOf : Int → Int → e_M → (Int → Prop) → Prop} {c_X12_tidy : Int → Int → e_M → (Int → e_M → Prop) → Prop} {k115 : Int → Int → Int → Int → Int → Int → Int → Int → Int → Int → Int → e_M → Prop} {k470 : Int → e_M → Prop} {x1 : Int} {x2 : Int} {x3 : Int} {x4 : Int} {x6 : Int} {x7 : Int} {x8 : Int} {x9 : Int} {x14 : Int} {x16 : Int} {x17 : Int} {M : e_M} (C : f_Hy sh t yX12_joins rm cs 8 (lX12_joins c_X12_along c_X12_round c_X12_areaOf c_X12_tidy) R) (h115 : ∀ (x1 : Int) (x2 : Int) (x3 : Int) (x4 : Int) (x6 : Int) (x7 : Int) (x8 : Int) (x9 : Int) (x10 : Int) (x12 : Int) (x14 : Int) (M : e_M), k115 x1 x2 x3 x4 x6 x7 x8 x9 x10 x12 x14 M → f_E sh t YX12_joins rm cs (f_Q sh t R) 115 [.inr (.inr (.inl (12, 123, 4456))), .inl x1, .inl x2, .inl x3, .inl x4, .inr (.inr (.inr ())), .inl x6, .inl x7, .inl x8, .inl x9, .inr (.inl x10), .inr (.inr (.inr ())), .inr (.inl x12), .inr (.inr (.inr ())), .inl x14, .inr (.inr (.inr ())), .inr (.inr (.inr ())), .inr (.inr (.inr ())), .inr (.inr (.inr ())), .inr (.inr (.inr ())), .inr (.inr (.inr ()))] [] M) (h470 : ∀ (x15 : Int) (M : e_M), k470 x15 M → f_E sh t YX12_joins rm cs (f_Q sh t R) 470 [.inr (.inr (.inl (12, 123, 4456))), .inr (.inr (.inr ())), .inr (.inr (.inr ())), .inr (.inr (.inr ())), .inr (.inr (.inr ())), .inr (.inr (.inr ())), .inr (.inr (.inr ())), .inr (.inr (.inr ())), .inr (.inr (.inr ())), .inr (.inr (.inr ())), .inr (.inr (.inr ())), .inr (.inr (.inr ())), .inr (.inr (.inr ())), .inr (.inr (.inr ())), .inr (.inr (.inr ())), .inl x15, .inr (.inr (.inr ())), .inr (.inr (.inr ())), .inr (.inr (.inr ())), .inr (.inr (.inr ())), .inr (.inr (.inr ()))] [] M) (h : VX12_joins_376 c_X12_along c_X12_round c_X12_areaOf c_X12_tidy k115 k470 (fun r M => R (some (.inl r)) M) x1 x2 x3 x4 x6 x7 x8 x9 x14 x16 x17 M) : f_E sh t YX12_joins rm cs (f_Q sh t R) 376 [.inr (.inr (.inl (12, 123, 4456))), .inl x1, .inl x2, .inl x3, .inl x4, .inr (.inr (.inr ())), .inl x6, .inl x7, .inl x8, .inl x9, .inr (.inr (.inr ())), .inr (.inr (.inr ())), .inr (.inr (.inr ())), .inr (.inr (.inr ())), .inl x14, .inr (.inr (.inr ())), .inl x16, .inl x17, .inr (.inr (.inr ())), .inr (.inr (.inr ())), .inr (.inr (.inr ()))] [] M :=
  f_go (KC := f_kc [(115, f_pl [(4466, 12, 123), (1, 0, 0), (1, 0, 0), (1, 0, 0), (1, 0, 0), (0, 0, 0), (1, 0, 0), (1, 0, 0), (1, 0, 0), (1, 0, 0), (2, 0, 0), (0, 0, 0), (2, 0, 0), (0, 0, 0), (1, 0, 0), (0, 0, 0), (0, 0, 0), (0, 0, 0), (0, 0, 0), (0, 0, 0), (0, 0, 0)] [] (fun ls st M => k115 (f_vi (f_nth ls 1)) (f_vi (f_nth ls 2)) (f_vi (f_nth ls 3)) (f_vi (f_nth ls 4)) (f_vi (f_nth ls 6)) (f_vi (f_nth ls 7)) (f_vi (f_nth ls 8)) (f_vi (f_nth ls 9)) (f_vi (f_nth ls 10)) (f_vi (f_nth ls 12)) (f_vi (f_nth ls 14)) M)), (470, f_pl [(4466, 12, 123), (0, 0, 0), (0, 0, 0), (0, 0, 0), (0, 0, 0), (0, 0, 0), (0, 0, 0), (0, 0, 0), (0, 0, 0), (0, 0, 0), (0, 0, 0), (0, 0, 0), (0, 0, 0), (0, 0, 0), (0, 0, 0), (1, 0, 0), (0, 0, 0), (0, 0, 0), (0, 0, 0), (0, 0, 0), (0, 0, 0)] [] (fun ls st M => k470 (f_vi (f_nth ls 15)) M))]) C qX12_joinsf (f_kc_cons (f_pl_ok rfl (fun ls st M h => h115 _ _ _ _ _ _ _ _ _ _ _ M h)) (f_kc_cons (f_pl_ok rfl (fun ls st M h => h470 _ M h)) f_kc_nil)) 303 218 h
set_option maxRecDepth 20000 in
theorem BX12_joins_470 {sh : Nat → Nat × Nat} {t : Nat} {rm : Nat × Nat × Nat} {cs : Nat × Nat} {R : f_Rt} {c_X12_along : Int → Int → Int → Int → Int → Int → e_M → (Int → e_M → Prop) → Prop} {c_X12_round : Int → Int → Int → Int → e_M → (Int → Prop) → Prop} {c_X12_areaOf : Int → Int → e_M → (Int → Prop) → Prop} {c_X12_tidy : Int → Int → e_M → (Int → e_M → Prop) → Prop} {k470 : Int → e_M → Prop} {x15 : Int} {M : e_M} (C : f_Hy sh t yX12_joins rm cs 8 (lX12_joins c_X12_along c_X12_round c_X12_areaOf c_X12_tidy) R) (h470 : ∀ (x15 : Int) (M : e_M), k470 x15 M → f_E sh t YX12_joins rm cs (f_Q sh t R) 470 [.inr (.inr (.inl (12, 123, 4456))), .inr (.inr (.inr ())), .inr (.inr (.inr ())), .inr (.inr (.inr ())), .inr (.inr (.inr ())), .inr (.inr (.inr ())), .inr (.inr (.inr ())), .inr (.inr (.inr ())), .inr (.inr (.inr ())), .inr (.inr (.inr ())), .inr (.inr (.inr ())), .inr (.inr (.inr ())), .inr (.inr (.inr ())), .inr (.inr (.inr ())), .inr (.inr (.inr ())), .inl x15, .inr (.inr (.inr ())), .inr (.inr (.inr ())), .inr (.inr (.inr ())), .inr (.inr (.inr ())), .inr (.inr (.inr ()))] [] M) (h : VX12_joins_470 c_X12_along c_X12_round c_X12_areaOf c_X12_tidy k470 (fun r M => R (some (.inl r)) M) x15 M) : f_E sh t YX12_joins rm cs (f_Q sh t R) 470 [.inr (.inr (.inl (12, 123, 4456))), .inr (.inr (.inr ())), .inr (.inr (.inr ())), .inr (.inr (.inr ())), .inr (.inr (.inr ())), .inr (.inr (.inr ())), .inr (.inr (.inr ())), .inr (.inr (.inr ())), .inr (.inr (.inr ())), .inr (.inr (.inr ())), .inr (.inr (.inr ())), .inr (.inr (.inr ())), .inr (.inr (.inr ())), .inr (.inr (.inr ())), .inr (.inr (.inr ())), .inl x15, .inr (.inr (.inr ())), .inr (.inr (.inr ())), .inr (.inr (.inr ())), .inr (.inr (.inr ())), .inr (.inr (.inr ()))] [] M :=
  f_go (KC := f_kc [(470, f_pl [(4466, 12, 123), (0, 0, 0), (0, 0, 0), (0, 0, 0), (0, 0, 0), (0, 0, 0), (0, 0, 0), (0, 0, 0), (0, 0, 0), (0, 0, 0), (0, 0, 0), (0, 0, 0), (0, 0, 0), (0, 0, 0), (0, 0, 0), (1, 0, 0), (0, 0, 0), (0, 0, 0), (0, 0, 0), (0, 0, 0), (0, 0, 0)] [] (fun ls st M => k470 (f_vi (f_nth ls 15)) M))]) C qX12_joinsf (f_kc_cons (f_pl_ok rfl (fun ls st M h => h470 _ M h)) f_kc_nil) 303 269 h
set_option maxRecDepth 20000 in
theorem BX12_joins {sh : Nat → Nat × Nat} {t : Nat} {rm : Nat × Nat × Nat} {cs : Nat × Nat} {R : f_Rt} {c_X12_along : Int → Int → Int → Int → Int → Int → e_M → (Int → e_M → Prop) → Prop} {c_X12_round : Int → Int → Int → Int → e_M → (Int → Prop) → Prop} {c_X12_areaOf : Int → Int → e_M → (Int → Prop) → Prop} {c_X12_tidy : Int → Int → e_M → (Int → e_M → Prop) → Prop} {k45 : Int → Int → Int → Int → e_M → Prop} {k49 : Int → Int → Int → Int → e_M → Prop} {x1 : Int} {x2 : Int} {x3 : Int} {x4 : Int} {M : e_M} (C : f_Hy sh t yX12_joins rm cs 8 (lX12_joins c_X12_along c_X12_round c_X12_areaOf c_X12_tidy) R) (h45 : ∀ (x1 : Int) (x2 : Int) (x3 : Int) (x4 : Int) (M : e_M), k45 x1 x2 x3 x4 M → f_E sh t YX12_joins rm cs (f_Q sh t R) 45 [.inr (.inr (.inl (12, 123, 4456))), .inl x1, .inl x2, .inl x3, .inl x4, .inr (.inr (.inr ())), .inr (.inr (.inr ())), .inr (.inr (.inr ())), .inr (.inr (.inr ())), .inr (.inr (.inr ())), .inr (.inr (.inr ())), .inr (.inr (.inr ())), .inr (.inr (.inr ())), .inr (.inr (.inr ())), .inr (.inr (.inr ())), .inr (.inr (.inr ())), .inr (.inr (.inr ())), .inr (.inr (.inr ())), .inr (.inr (.inr ())), .inr (.inr (.inr ())), .inr (.inr (.inr ()))] [] M) (h49 : ∀ (x1 : Int) (x2 : Int) (x3 : Int) (x4 : Int) (M : e_M), k49 x1 x2 x3 x4 M → f_E sh t YX12_joins rm cs (f_Q sh t R) 49 [.inr (.inr (.inl (12, 123, 4456))), .inl x1, .inl x2, .inl x3, .inl x4, .inr (.inr (.inr ())), .inr (.inr (.inr ())), .inr (.inr (.inr ())), .inr (.inr (.inr ())), .inr (.inr (.inr ())), .inr (.inr (.inr ())), .inr (.inr (.inr ())), .inr (.inr (.inr ())), .inr (.inr (.inr ())), .inr (.inr (.inr ())), .inr (.inr (.inr ())), .inr (.inr (.inr ())), .inr (.inr (.inr ())), .inr (.inr (.inr ())), .inr (.inr (.inr ())), .inr (.inr (.inr ()))] [] M) (h : VX12_joins c_X12_along c_X12_round c_X12_areaOf c_X12_tidy k45 k49 (fun r M => R (some (.inl r)) M) x1 x2 x3 x4 M) : f_E sh t YX12_joins rm cs (f_Q sh t R) 0 [.inr (.inr (.inl (12, 123, 4456))), .inl x1, .inl x2, .inl x3, .inl x4, .inr (.inr (.inr ())), .inr (.inr (.inr ())), .inr (.inr (.inr ())), .inr (.inr (.inr ())), .inr (.inr (.inr ())), .inr (.inr (.inr ())), .inr (.inr (.inr ())), .inr (.inr (.inr ())), .inr (.inr (.inr ())), .inr (.inr (.inr ())), .inr (.inr (.inr ())), .inr (.inr (.inr ())), .inr (.inr (.inr ())), .inr (.inr (.inr ())), .inr (.inr (.inr ())), .inr (.inr (.inr ()))] [] M :=
  f_go (KC := f_kc [(45, f_pl [(4466, 12, 123), (1, 0, 0), (1, 0, 0), (1, 0, 0), (1, 0, 0), (0, 0, 0), (0, 0, 0), (0, 0, 0), (0, 0, 0), (0, 0, 0), (0, 0, 0), (0, 0, 0), (0, 0, 0), (0, 0, 0), (0, 0, 0), (0, 0, 0), (0, 0, 0), (0, 0, 0), (0, 0, 0), (0, 0, 0), (0, 0, 0)] [] (fun ls st M => k45 (f_vi (f_nth ls 1)) (f_vi (f_nth ls 2)) (f_vi (f_nth ls 3)) (f_vi (f_nth ls 4)) M)), (49, f_pl [(4466, 12, 123), (1, 0, 0), (1, 0, 0), (1, 0, 0), (1, 0, 0), (0, 0, 0), (0, 0, 0), (0, 0, 0), (0, 0, 0), (0, 0, 0), (0, 0, 0), (0, 0, 0), (0, 0, 0), (0, 0, 0), (0, 0, 0), (0, 0, 0), (0, 0, 0), (0, 0, 0), (0, 0, 0), (0, 0, 0), (0, 0, 0)] [] (fun ls st M => k49 (f_vi (f_nth ls 1)) (f_vi (f_nth ls 2)) (f_vi (f_nth ls 3)) (f_vi (f_nth ls 4)) M))]) C qX12_joinsf (f_kc_cons (f_pl_ok rfl (fun ls st M h => h45 _ _ _ _ M h)) (f_kc_cons (f_pl_ok rfl (fun ls st M h => h49 _ _ _ _ M h)) f_kc_nil)) 303 0 h
def WX12_joins_470 (Q : Int → e_M → Prop) : Nat → Int → e_M → Prop
  | 0, _, _ => False
  | n + 1, x15, M =>
    VX12_joins_470 WX12_along WX12_round WX12_areaOf WX12_tidy (WX12_joins_470 Q n) Q x15 M
def WX12_joins_376 (H115 : Int → Int → Int → Int → Int → Int → Int → Int → Int → Int → Int → e_M → Prop) (Q : Int → e_M → Prop) (x1 : Int) (x2 : Int) (x3 : Int) (x4 : Int) (x6 : Int) (x7 : Int) (x8 : Int) (x9 : Int) (x14 : Int) (x16 : Int) (x17 : Int) (M : e_M) : Prop :=
  VX12_joins_376 WX12_along WX12_round WX12_areaOf WX12_tidy H115 (fun x15 M => ∃ j, WX12_joins_470 Q j x15 M) Q x1 x2 x3 x4 x6 x7 x8 x9 x14 x16 x17 M
def WX12_joins_357 (H115 : Int → Int → Int → Int → Int → Int → Int → Int → Int → Int → Int → e_M → Prop) (Q : Int → e_M → Prop) (x1 : Int) (x2 : Int) (x3 : Int) (x4 : Int) (x6 : Int) (x7 : Int) (x8 : Int) (x9 : Int) (x14 : Int) (x16 : Int) (x17 : Int) (xs0 : Int) (M : e_M) : Prop :=
  VX12_joins_357 WX12_along WX12_round WX12_areaOf WX12_tidy (WX12_joins_376 H115 Q) Q x1 x2 x3 x4 x6 x7 x8 x9 x14 x16 x17 xs0 M
def WX12_joins_352 (H115 : Int → Int → Int → Int → Int → Int → Int → Int → Int → Int → Int → e_M → Prop) (Q : Int → e_M → Prop) (x1 : Int) (x2 : Int) (x3 : Int) (x4 : Int) (x6 : Int) (x7 : Int) (x8 : Int) (x9 : Int) (x14 : Int) (x16 : Int) (x17 : Int) (M : e_M) : Prop :=
  VX12_joins_352 WX12_along WX12_round WX12_areaOf WX12_tidy (WX12_joins_357 H115 Q) Q x1 x2 x3 x4 x6 x7 x8 x9 x14 x16 x17 M
def WX12_joins_356 (H115 : Int → Int → Int → Int → Int → Int → Int → Int → Int → Int → Int → e_M → Prop) (Q : Int → e_M → Prop) (x1 : Int) (x2 : Int) (x3 : Int) (x4 : Int) (x6 : Int) (x7 : Int) (x8 : Int) (x9 : Int) (x14 : Int) (x16 : Int) (x17 : Int) (M : e_M) : Prop :=
  VX12_joins_356 WX12_along WX12_round WX12_areaOf WX12_tidy (WX12_joins_357 H115 Q) Q x1 x2 x3 x4 x6 x7 x8 x9 x14 x16 x17 M
def WX12_joins_275 (H115 : Int → Int → Int → Int → Int → Int → Int → Int → Int → Int → Int → e_M → Prop) (Q : Int → e_M → Prop) (x1 : Int) (x2 : Int) (x3 : Int) (x4 : Int) (x6 : Int) (x7 : Int) (x8 : Int) (x9 : Int) (x10 : Int) (x12 : Int) (x14 : Int) (x16 : Int) (x17 : Int) (xs0 : Int) (M : e_M) : Prop :=
  VX12_joins_275 WX12_along WX12_round WX12_areaOf WX12_tidy (WX12_joins_352 H115 Q) (WX12_joins_356 H115 Q) Q x1 x2 x3 x4 x6 x7 x8 x9 x10 x12 x14 x16 x17 xs0 M
def WX12_joins_159 (H115 : Int → Int → Int → Int → Int → Int → Int → Int → Int → Int → Int → e_M → Prop) (H118 : Int → Int → Int → Int → Int → Int → Int → Int → Int → Int → Int → Int → e_M → Prop) (Q : Int → e_M → Prop) (x1 : Int) (x2 : Int) (x3 : Int) (x4 : Int) (x6 : Int) (x7 : Int) (x8 : Int) (x9 : Int) (x10 : Int) (x12 : Int) (x14 : Int) (x15 : Int) (M : e_M) : Prop :=
  VX12_joins_159 WX12_along WX12_round WX12_areaOf WX12_tidy H118 Q x1 x2 x3 x4 x6 x7 x8 x9 x10 x12 x14 x15 M
def WX12_joins_118 (H115 : Int → Int → Int → Int → Int → Int → Int → Int → Int → Int → Int → e_M → Prop) (Q : Int → e_M → Prop) : Nat → Int → Int → Int → Int → Int → Int → Int → Int → Int → Int → Int → Int → e_M → Prop
  | 0, _, _, _, _, _, _, _, _, _, _, _, _, _ => False
  | n + 1, x1, x2, x3, x4, x6, x7, x8, x9, x10, x12, x14, x15, M =>
    VX12_joins_118 WX12_along WX12_round WX12_areaOf WX12_tidy (WX12_joins_376 H115 Q) (WX12_joins_275 H115 Q) (WX12_joins_159 H115 (WX12_joins_118 H115 Q n) Q) Q x1 x2 x3 x4 x6 x7 x8 x9 x10 x12 x14 x15 M
def WX12_joins_115 (Q : Int → e_M → Prop) : Nat → Int → Int → Int → Int → Int → Int → Int → Int → Int → Int → Int → e_M → Prop
  | 0, _, _, _, _, _, _, _, _, _, _, _, _ => False
  | n + 1, x1, x2, x3, x4, x6, x7, x8, x9, x10, x12, x14, M =>
    VX12_joins_115 WX12_along WX12_round WX12_areaOf WX12_tidy (fun x1 x2 x3 x4 x6 x7 x8 x9 x10 x12 x14 x15 M => ∃ j, WX12_joins_118 (WX12_joins_115 Q n) Q j x1 x2 x3 x4 x6 x7 x8 x9 x10 x12 x14 x15 M) Q x1 x2 x3 x4 x6 x7 x8 x9 x10 x12 x14 M
def WX12_joins_94 (Q : Int → e_M → Prop) (x1 : Int) (x2 : Int) (x3 : Int) (x4 : Int) (x6 : Int) (xs0 : Int) (M : e_M) : Prop :=
  VX12_joins_94 WX12_along WX12_round WX12_areaOf WX12_tidy (fun x1 x2 x3 x4 x6 x7 x8 x9 x10 x12 x14 M => ∃ j, WX12_joins_115 Q j x1 x2 x3 x4 x6 x7 x8 x9 x10 x12 x14 M) Q x1 x2 x3 x4 x6 xs0 M
def WX12_joins_72 (Q : Int → e_M → Prop) (x1 : Int) (x2 : Int) (x3 : Int) (x4 : Int) (x5 : Int) (xs0 : Int) (M : e_M) : Prop :=
  VX12_joins_72 WX12_along WX12_round WX12_areaOf WX12_tidy (WX12_joins_94 Q) Q x1 x2 x3 x4 x5 xs0 M
def WX12_joins_50 (Q : Int → e_M → Prop) (x1 : Int) (x2 : Int) (x3 : Int) (x4 : Int) (xs0 : Int) (M : e_M) : Prop :=
  VX12_joins_50 WX12_along WX12_round WX12_areaOf WX12_tidy (WX12_joins_72 Q) Q x1 x2 x3 x4 xs0 M
def WX12_joins_45 (Q : Int → e_M → Prop) (x1 : Int) (x2 : Int) (x3 : Int) (x4 : Int) (M : e_M) : Prop :=
  VX12_joins_45 WX12_along WX12_round WX12_areaOf WX12_tidy (WX12_joins_50 Q) Q x1 x2 x3 x4 M
def WX12_joins_49 (Q : Int → e_M → Prop) (x1 : Int) (x2 : Int) (x3 : Int) (x4 : Int) (M : e_M) : Prop :=
  VX12_joins_49 WX12_along WX12_round WX12_areaOf WX12_tidy (WX12_joins_50 Q) Q x1 x2 x3 x4 M
def WX12_joins (x1 : Int) (x2 : Int) (x3 : Int) (x4 : Int) (M : e_M) (Q : Int → e_M → Prop) : Prop :=
  VX12_joins WX12_along WX12_round WX12_areaOf WX12_tidy (WX12_joins_45 Q) (WX12_joins_49 Q) Q x1 x2 x3 x4 M
theorem PX12_joins_470 {sh : Nat → Nat × Nat} {t : Nat} {rm : Nat × Nat × Nat} {cs : Nat × Nat} {R : f_Rt} (C : f_Hy sh t yX12_joins rm cs 8 (lX12_joins WX12_along WX12_round WX12_areaOf WX12_tidy) R) : ∀ (n : Nat) (x15 : Int) (M : e_M), WX12_joins_470 (fun r M => R (some (.inl r)) M) n x15 M → f_E sh t YX12_joins rm cs (f_Q sh t R) 470 [.inr (.inr (.inl (12, 123, 4456))), .inr (.inr (.inr ())), .inr (.inr (.inr ())), .inr (.inr (.inr ())), .inr (.inr (.inr ())), .inr (.inr (.inr ())), .inr (.inr (.inr ())), .inr (.inr (.inr ())), .inr (.inr (.inr ())), .inr (.inr (.inr ())), .inr (.inr (.inr ())), .inr (.inr (.inr ())), .inr (.inr (.inr ())), .inr (.inr (.inr ())), .inr (.inr (.inr ())), .inl x15, .inr (.inr (.inr ())), .inr (.inr (.inr ())), .inr (.inr (.inr ())), .inr (.inr (.inr ())), .inr (.inr (.inr ()))] [] M := by
  intro n
  induction n with
  | zero => intro x15 M h; exact h.elim
  | succ n ih => intro x15 M h; exact BX12_joins_470 C ih h
theorem PX12_joins_376 {sh : Nat → Nat × Nat} {t : Nat} {rm : Nat × Nat × Nat} {cs : Nat × Nat} {R : f_Rt} {H115 : Int → Int → Int → Int → Int → Int → Int → Int → Int → Int → Int → e_M → Prop} {x1 : Int} {x2 : Int} {x3 : Int} {x4 : Int} {x6 : Int} {x7 : Int} {x8 : Int} {x9 : Int} {x14 : Int} {x16 : Int} {x17 : Int} {M : e_M} (C : f_Hy sh t yX12_joins rm cs 8 (lX12_joins WX12_along WX12_round WX12_areaOf WX12_tidy) R) (g115 : ∀ (x1 : Int) (x2 : Int) (x3 : Int) (x4 : Int) (x6 : Int) (x7 : Int) (x8 : Int) (x9 : Int) (x10 : Int) (x12 : Int) (x14 : Int) (M : e_M), H115 x1 x2 x3 x4 x6 x7 x8 x9 x10 x12 x14 M → f_E sh t YX12_joins rm cs (f_Q sh t R) 115 [.inr (.inr (.inl (12, 123, 4456))), .inl x1, .inl x2, .inl x3, .inl x4, .inr (.inr (.inr ())), .inl x6, .inl x7, .inl x8, .inl x9, .inr (.inl x10), .inr (.inr (.inr ())), .inr (.inl x12), .inr (.inr (.inr ())), .inl x14, .inr (.inr (.inr ())), .inr (.inr (.inr ())), .inr (.inr (.inr ())), .inr (.inr (.inr ())), .inr (.inr (.inr ())), .inr (.inr (.inr ()))] [] M) (h : WX12_joins_376 H115 (fun r M => R (some (.inl r)) M) x1 x2 x3 x4 x6 x7 x8 x9 x14 x16 x17 M) : f_E sh t YX12_joins rm cs (f_Q sh t R) 376 [.inr (.inr (.inl (12, 123, 4456))), .inl x1, .inl x2, .inl x3, .inl x4, .inr (.inr (.inr ())), .inl x6, .inl x7, .inl x8, .inl x9, .inr (.inr (.inr ())), .inr (.inr (.inr ())), .inr (.inr (.inr ())), .inr (.inr (.inr ())), .inl x14, .inr (.inr (.inr ())), .inl x16, .inl x17, .inr (.inr (.inr ())), .inr (.inr (.inr ())), .inr (.inr (.inr ()))] [] M :=
  BX12_joins_376 C g115 (fun x15 M ⟨j, h⟩ => PX12_joins_470 C j _ _ h) h
theorem PX12_joins_357 {sh : Nat → Nat × Nat} {t : Nat} {rm : Nat × Nat × Nat} {cs : Nat × Nat} {R : f_Rt} {H115 : Int → Int → Int → Int → Int → Int → Int → Int → Int → Int → Int → e_M → Prop} {x1 : Int} {x2 : Int} {x3 : Int} {x4 : Int} {x6 : Int} {x7 : Int} {x8 : Int} {x9 : Int} {x14 : Int} {x16 : Int} {x17 : Int} {xs0 : Int} {M : e_M} (C : f_Hy sh t yX12_joins rm cs 8 (lX12_joins WX12_along WX12_round WX12_areaOf WX12_tidy) R) (g115 : ∀ (x1 : Int) (x2 : Int) (x3 : Int) (x4 : Int) (x6 : Int) (x7 : Int) (x8 : Int) (x9 : Int) (x10 : Int) (x12 : Int) (x14 : Int) (M : e_M), H115 x1 x2 x3 x4 x6 x7 x8 x9 x10 x12 x14 M → f_E sh t YX12_joins rm cs (f_Q sh t R) 115 [.inr (.inr (.inl (12, 123, 4456))), .inl x1, .inl x2, .inl x3, .inl x4, .inr (.inr (.inr ())), .inl x6, .inl x7, .inl x8, .inl x9, .inr (.inl x10), .inr (.inr (.inr ())), .inr (.inl x12), .inr (.inr (.inr ())), .inl x14, .inr (.inr (.inr ())), .inr (.inr (.inr ())), .inr (.inr (.inr ())), .inr (.inr (.inr ())), .inr (.inr (.inr ())), .inr (.inr (.inr ()))] [] M) (h : WX12_joins_357 H115 (fun r M => R (some (.inl r)) M) x1 x2 x3 x4 x6 x7 x8 x9 x14 x16 x17 xs0 M) : f_E sh t YX12_joins rm cs (f_Q sh t R) 357 [.inr (.inr (.inl (12, 123, 4456))), .inl x1, .inl x2, .inl x3, .inl x4, .inr (.inr (.inr ())), .inl x6, .inl x7, .inl x8, .inl x9, .inr (.inr (.inr ())), .inr (.inr (.inr ())), .inr (.inr (.inr ())), .inr (.inr (.inr ())), .inl x14, .inr (.inr (.inr ())), .inl x16, .inl x17, .inr (.inr (.inr ())), .inr (.inr (.inr ())), .inr (.inr (.inr ()))] [.inl xs0] M :=
  BX12_joins_357 C (fun x1 x2 x3 x4 x6 x7 x8 x9 x14 x16 x17 M h => PX12_joins_376 C g115 h) h
theorem PX12_joins_352 {sh : Nat → Nat × Nat} {t : Nat} {rm : Nat × Nat × Nat} {cs : Nat × Nat} {R : f_Rt} {H115 : Int → Int → Int → Int → Int → Int → Int → Int → Int → Int → Int → e_M → Prop} {x1 : Int} {x2 : Int} {x3 : Int} {x4 : Int} {x6 : Int} {x7 : Int} {x8 : Int} {x9 : Int} {x14 : Int} {x16 : Int} {x17 : Int} {M : e_M} (C : f_Hy sh t yX12_joins rm cs 8 (lX12_joins WX12_along WX12_round WX12_areaOf WX12_tidy) R) (g115 : ∀ (x1 : Int) (x2 : Int) (x3 : Int) (x4 : Int) (x6 : Int) (x7 : Int) (x8 : Int) (x9 : Int) (x10 : Int) (x12 : Int) (x14 : Int) (M : e_M), H115 x1 x2 x3 x4 x6 x7 x8 x9 x10 x12 x14 M → f_E sh t YX12_joins rm cs (f_Q sh t R) 115 [.inr (.inr (.inl (12, 123, 4456))), .inl x1, .inl x2, .inl x3, .inl x4, .inr (.inr (.inr ())), .inl x6, .inl x7, .inl x8, .inl x9, .inr (.inl x10), .inr (.inr (.inr ())), .inr (.inl x12), .inr (.inr (.inr ())), .inl x14, .inr (.inr (.inr ())), .inr (.inr (.inr ())), .inr (.inr (.inr ())), .inr (.inr (.inr ())), .inr (.inr (.inr ())), .inr (.inr (.inr ()))] [] M) (h : WX12_joins_352 H115 (fun r M => R (some (.inl r)) M) x1 x2 x3 x4 x6 x7 x8 x9 x14 x16 x17 M) : f_E sh t YX12_joins rm cs (f_Q sh t R) 352 [.inr (.inr (.inl (12, 123, 4456))), .inl x1, .inl x2, .inl x3, .inl x4, .inr (.inr (.inr ())), .inl x6, .inl x7, .inl x8, .inl x9, .inr (.inr (.inr ())), .inr (.inr (.inr ())), .inr (.inr (.inr ())), .inr (.inr (.inr ())), .inl x14, .inr (.inr (.inr ())), .inl x16, .inl x17, .inr (.inr (.inr ())), .inr (.inr (.inr ())), .inr (.inr (.inr ()))] [] M :=
  BX12_joins_352 C (fun x1 x2 x3 x4 x6 x7 x8 x9 x14 x16 x17 xs0 M h => PX12_joins_357 C g115 h) h
theorem PX12_joins_356 {sh : Nat → Nat × Nat} {t : Nat} {rm : Nat × Nat × Nat} {cs : Nat × Nat} {R : f_Rt} {H115 : Int → Int → Int → Int → Int → Int → Int → Int → Int → Int → Int → e_M → Prop} {x1 : Int} {x2 : Int} {x3 : Int} {x4 : Int} {x6 : Int} {x7 : Int} {x8 : Int} {x9 : Int} {x14 : Int} {x16 : Int} {x17 : Int} {M : e_M} (C : f_Hy sh t yX12_joins rm cs 8 (lX12_joins WX12_along WX12_round WX12_areaOf WX12_tidy) R) (g115 : ∀ (x1 : Int) (x2 : Int) (x3 : Int) (x4 : Int) (x6 : Int) (x7 : Int) (x8 : Int) (x9 : Int) (x10 : Int) (x12 : Int) (x14 : Int) (M : e_M), H115 x1 x2 x3 x4 x6 x7 x8 x9 x10 x12 x14 M → f_E sh t YX12_joins rm cs (f_Q sh t R) 115 [.inr (.inr (.inl (12, 123, 4456))), .inl x1, .inl x2, .inl x3, .inl x4, .inr (.inr (.inr ())), .inl x6, .inl x7, .inl x8, .inl x9, .inr (.inl x10), .inr (.inr (.inr ())), .inr (.inl x12), .inr (.inr (.inr ())), .inl x14, .inr (.inr (.inr ())), .inr (.inr (.inr ())), .inr (.inr (.inr ())), .inr (.inr (.inr ())), .inr (.inr (.inr ())), .inr (.inr (.inr ()))] [] M) (h : WX12_joins_356 H115 (fun r M => R (some (.inl r)) M) x1 x2 x3 x4 x6 x7 x8 x9 x14 x16 x17 M) : f_E sh t YX12_joins rm cs (f_Q sh t R) 356 [.inr (.inr (.inl (12, 123, 4456))), .inl x1, .inl x2, .inl x3, .inl x4, .inr (.inr (.inr ())), .inl x6, .inl x7, .inl x8, .inl x9, .inr (.inr (.inr ())), .inr (.inr (.inr ())), .inr (.inr (.inr ())), .inr (.inr (.inr ())), .inl x14, .inr (.inr (.inr ())), .inl x16, .inl x17, .inr (.inr (.inr ())), .inr (.inr (.inr ())), .inr (.inr (.inr ()))] [] M :=
  BX12_joins_356 C (fun x1 x2 x3 x4 x6 x7 x8 x9 x14 x16 x17 xs0 M h => PX12_joins_357 C g115 h) h
theorem PX12_joins_275 {sh : Nat → Nat × Nat} {t : Nat} {rm : Nat × Nat × Nat} {cs : Nat × Nat} {R : f_Rt} {H115 : Int → Int → Int → Int → Int → Int → Int → Int → Int → Int → Int → e_M → Prop} {x1 : Int} {x2 : Int} {x3 : Int} {x4 : Int} {x6 : Int} {x7 : Int} {x8 : Int} {x9 : Int} {x10 : Int} {x12 : Int} {x14 : Int} {x16 : Int} {x17 : Int} {xs0 : Int} {M : e_M} (C : f_Hy sh t yX12_joins rm cs 8 (lX12_joins WX12_along WX12_round WX12_areaOf WX12_tidy) R) (g115 : ∀ (x1 : Int) (x2 : Int) (x3 : Int) (x4 : Int) (x6 : Int) (x7 : Int) (x8 : Int) (x9 : Int) (x10 : Int) (x12 : Int) (x14 : Int) (M : e_M), H115 x1 x2 x3 x4 x6 x7 x8 x9 x10 x12 x14 M → f_E sh t YX12_joins rm cs (f_Q sh t R) 115 [.inr (.inr (.inl (12, 123, 4456))), .inl x1, .inl x2, .inl x3, .inl x4, .inr (.inr (.inr ())), .inl x6, .inl x7, .inl x8, .inl x9, .inr (.inl x10), .inr (.inr (.inr ())), .inr (.inl x12), .inr (.inr (.inr ())), .inl x14, .inr (.inr (.inr ())), .inr (.inr (.inr ())), .inr (.inr (.inr ())), .inr (.inr (.inr ())), .inr (.inr (.inr ())), .inr (.inr (.inr ()))] [] M) (h : WX12_joins_275 H115 (fun r M => R (some (.inl r)) M) x1 x2 x3 x4 x6 x7 x8 x9 x10 x12 x14 x16 x17 xs0 M) : f_E sh t YX12_joins rm cs (f_Q sh t R) 275 [.inr (.inr (.inl (12, 123, 4456))), .inl x1, .inl x2, .inl x3, .inl x4, .inr (.inr (.inr ())), .inl x6, .inl x7, .inl x8, .inl x9, .inr (.inl x10), .inr (.inr (.inr ())), .inr (.inl x12), .inr (.inr (.inr ())), .inl x14, .inr (.inr (.inr ())), .inl x16, .inl x17, .inr (.inr (.inr ())), .inr (.inr (.inr ())), .inr (.inr (.inr ()))] [.inl xs0] M :=
  BX12_joins_275 C (fun x1 x2 x3 x4 x6 x7 x8 x9 x14 x16 x17 M h => PX12_joins_352 C g115 h) (fun x1 x2 x3 x4 x6 x7 x8 x9 x14 x16 x17 M h => PX12_joins_356 C g115 h) h
theorem PX12_joins_159 {sh : Nat → Nat × Nat} {t : Nat} {rm : Nat × Nat × Nat} {cs : Nat × Nat} {R : f_Rt} {H115 : Int → Int → Int → Int → Int → Int → Int → Int → Int → Int → Int → e_M → Prop} {H118 : Int → Int → Int → Int → Int → Int → Int → Int → Int → Int → Int → Int → e_M → Prop} {x1 : Int} {x2 : Int} {x3 : Int} {x4 : Int} {x6 : Int} {x7 : Int} {x8 : Int} {x9 : Int} {x10 : Int} {x12 : Int} {x14 : Int} {x15 : Int} {M : e_M} (C : f_Hy sh t yX12_joins rm cs 8 (lX12_joins WX12_along WX12_round WX12_areaOf WX12_tidy) R) (g115 : ∀ (x1 : Int) (x2 : Int) (x3 : Int) (x4 : Int) (x6 : Int) (x7 : Int) (x8 : Int) (x9 : Int) (x10 : Int) (x12 : Int) (x14 : Int) (M : e_M), H115 x1 x2 x3 x4 x6 x7 x8 x9 x10 x12 x14 M → f_E sh t YX12_joins rm cs (f_Q sh t R) 115 [.inr (.inr (.inl (12, 123, 4456))), .inl x1, .inl x2, .inl x3, .inl x4, .inr (.inr (.inr ())), .inl x6, .inl x7, .inl x8, .inl x9, .inr (.inl x10), .inr (.inr (.inr ())), .inr (.inl x12), .inr (.inr (.inr ())), .inl x14, .inr (.inr (.inr ())), .inr (.inr (.inr ())), .inr (.inr (.inr ())), .inr (.inr (.inr ())), .inr (.inr (.inr ())), .inr (.inr (.inr ()))] [] M) (g118 : ∀ (x1 : Int) (x2 : Int) (x3 : Int) (x4 : Int) (x6 : Int) (x7 : Int) (x8 : Int) (x9 : Int) (x10 : Int) (x12 : Int) (x14 : Int) (x15 : Int) (M : e_M), H118 x1 x2 x3 x4 x6 x7 x8 x9 x10 x12 x14 x15 M → f_E sh t YX12_joins rm cs (f_Q sh t R) 118 [.inr (.inr (.inl (12, 123, 4456))), .inl x1, .inl x2, .inl x3, .inl x4, .inr (.inr (.inr ())), .inl x6, .inl x7, .inl x8, .inl x9, .inr (.inl x10), .inr (.inr (.inr ())), .inr (.inl x12), .inr (.inr (.inr ())), .inl x14, .inl x15, .inr (.inr (.inr ())), .inr (.inr (.inr ())), .inr (.inr (.inr ())), .inr (.inr (.inr ())), .inr (.inr (.inr ()))] [] M) (h : WX12_joins_159 H115 H118 (fun r M => R (some (.inl r)) M) x1 x2 x3 x4 x6 x7 x8 x9 x10 x12 x14 x15 M) : f_E sh t YX12_joins rm cs (f_Q sh t R) 159 [.inr (.inr (.inl (12, 123, 4456))), .inl x1, .inl x2, .inl x3, .inl x4, .inr (.inr (.inr ())), .inl x6, .inl x7, .inl x8, .inl x9, .inr (.inl x10), .inr (.inr (.inr ())), .inr (.inl x12), .inr (.inr (.inr ())), .inl x14, .inl x15, .inr (.inr (.inr ())), .inr (.inr (.inr ())), .inr (.inr (.inr ())), .inr (.inr (.inr ())), .inr (.inr (.inr ()))] [] M :=
  BX12_joins_159 C g118 h
theorem PX12_joins_118 {sh : Nat → Nat × Nat} {t : Nat} {rm : Nat × Nat × Nat} {cs : Nat × Nat} {R : f_Rt} {H115 : Int → Int → Int → Int → Int → Int → Int → Int → Int → Int → Int → e_M → Prop} (C : f_Hy sh t yX12_joins rm cs 8 (lX12_joins WX12_along WX12_round WX12_areaOf WX12_tidy) R) (g115 : ∀ (x1 : Int) (x2 : Int) (x3 : Int) (x4 : Int) (x6 : Int) (x7 : Int) (x8 : Int) (x9 : Int) (x10 : Int) (x12 : Int) (x14 : Int) (M : e_M), H115 x1 x2 x3 x4 x6 x7 x8 x9 x10 x12 x14 M → f_E sh t YX12_joins rm cs (f_Q sh t R) 115 [.inr (.inr (.inl (12, 123, 4456))), .inl x1, .inl x2, .inl x3, .inl x4, .inr (.inr (.inr ())), .inl x6, .inl x7, .inl x8, .inl x9, .inr (.inl x10), .inr (.inr (.inr ())), .inr (.inl x12), .inr (.inr (.inr ())), .inl x14, .inr (.inr (.inr ())), .inr (.inr (.inr ())), .inr (.inr (.inr ())), .inr (.inr (.inr ())), .inr (.inr (.inr ())), .inr (.inr (.inr ()))] [] M) : ∀ (n : Nat) (x1 : Int) (x2 : Int) (x3 : Int) (x4 : Int) (x6 : Int) (x7 : Int) (x8 : Int) (x9 : Int) (x10 : Int) (x12 : Int) (x14 : Int) (x15 : Int) (M : e_M), WX12_joins_118 H115 (fun r M => R (some (.inl r)) M) n x1 x2 x3 x4 x6 x7 x8 x9 x10 x12 x14 x15 M → f_E sh t YX12_joins rm cs (f_Q sh t R) 118 [.inr (.inr (.inl (12, 123, 4456))), .inl x1, .inl x2, .inl x3, .inl x4, .inr (.inr (.inr ())), .inl x6, .inl x7, .inl x8, .inl x9, .inr (.inl x10), .inr (.inr (.inr ())), .inr (.inl x12), .inr (.inr (.inr ())), .inl x14, .inl x15, .inr (.inr (.inr ())), .inr (.inr (.inr ())), .inr (.inr (.inr ())), .inr (.inr (.inr ())), .inr (.inr (.inr ()))] [] M := by
  intro n
  induction n with
  | zero => intro x1 x2 x3 x4 x6 x7 x8 x9 x10 x12 x14 x15 M h; exact h.elim
  | succ n ih => intro x1 x2 x3 x4 x6 x7 x8 x9 x10 x12 x14 x15 M h; exact BX12_joins_118 C (fun x1 x2 x3 x4 x6 x7 x8 x9 x14 x16 x17 M h => PX12_joins_376 C g115 h) (fun x1 x2 x3 x4 x6 x7 x8 x9 x10 x12 x14 x16 x17 xs0 M h => PX12_joins_275 C g115 h) (fun x1 x2 x3 x4 x6 x7 x8 x9 x10 x12 x14 x15 M h => PX12_joins_159 C g115 ih h) h
theorem PX12_joins_115 {sh : Nat → Nat × Nat} {t : Nat} {rm : Nat × Nat × Nat} {cs : Nat × Nat} {R : f_Rt} (C : f_Hy sh t yX12_joins rm cs 8 (lX12_joins WX12_along WX12_round WX12_areaOf WX12_tidy) R) : ∀ (n : Nat) (x1 : Int) (x2 : Int) (x3 : Int) (x4 : Int) (x6 : Int) (x7 : Int) (x8 : Int) (x9 : Int) (x10 : Int) (x12 : Int) (x14 : Int) (M : e_M), WX12_joins_115 (fun r M => R (some (.inl r)) M) n x1 x2 x3 x4 x6 x7 x8 x9 x10 x12 x14 M → f_E sh t YX12_joins rm cs (f_Q sh t R) 115 [.inr (.inr (.inl (12, 123, 4456))), .inl x1, .inl x2, .inl x3, .inl x4, .inr (.inr (.inr ())), .inl x6, .inl x7, .inl x8, .inl x9, .inr (.inl x10), .inr (.inr (.inr ())), .inr (.inl x12), .inr (.inr (.inr ())), .inl x14, .inr (.inr (.inr ())), .inr (.inr (.inr ())), .inr (.inr (.inr ())), .inr (.inr (.inr ())), .inr (.inr (.inr ())), .inr (.inr (.inr ()))] [] M := by
  intro n
  induction n with
  | zero => intro x1 x2 x3 x4 x6 x7 x8 x9 x10 x12 x14 M h; exact h.elim
  | succ n ih => intro x1 x2 x3 x4 x6 x7 x8 x9 x10 x12 x14 M h; exact BX12_joins_115 C (fun x1 x2 x3 x4 x6 x7 x8 x9 x10 x12 x14 x15 M ⟨j, h⟩ => PX12_joins_118 C ih j _ _ _ _ _ _ _ _ _ _ _ _ _ h) h
theorem PX12_joins_94 {sh : Nat → Nat × Nat} {t : Nat} {rm : Nat × Nat × Nat} {cs : Nat × Nat} {R : f_Rt} {x1 : Int} {x2 : Int} {x3 : Int} {x4 : Int} {x6 : Int} {xs0 : Int} {M : e_M} (C : f_Hy sh t yX12_joins rm cs 8 (lX12_joins WX12_along WX12_round WX12_areaOf WX12_tidy) R) (h : WX12_joins_94 (fun r M => R (some (.inl r)) M) x1 x2 x3 x4 x6 xs0 M) : f_E sh t YX12_joins rm cs (f_Q sh t R) 94 [.inr (.inr (.inl (12, 123, 4456))), .inl x1, .inl x2, .inl x3, .inl x4, .inr (.inr (.inr ())), .inl x6, .inr (.inr (.inr ())), .inr (.inr (.inr ())), .inr (.inr (.inr ())), .inr (.inr (.inr ())), .inr (.inr (.inr ())), .inr (.inr (.inr ())), .inr (.inr (.inr ())), .inr (.inr (.inr ())), .inr (.inr (.inr ())), .inr (.inr (.inr ())), .inr (.inr (.inr ())), .inr (.inr (.inr ())), .inr (.inr (.inr ())), .inr (.inr (.inr ()))] [.inl xs0] M :=
  BX12_joins_94 C (fun x1 x2 x3 x4 x6 x7 x8 x9 x10 x12 x14 M ⟨j, h⟩ => PX12_joins_115 C j _ _ _ _ _ _ _ _ _ _ _ _ h) h
theorem PX12_joins_72 {sh : Nat → Nat × Nat} {t : Nat} {rm : Nat × Nat × Nat} {cs : Nat × Nat} {R : f_Rt} {x1 : Int} {x2 : Int} {x3 : Int} {x4 : Int} {x5 : Int} {xs0 : Int} {M : e_M} (C : f_Hy sh t yX12_joins rm cs 8 (lX12_joins WX12_along WX12_round WX12_areaOf WX12_tidy) R) (h : WX12_joins_72 (fun r M => R (some (.inl r)) M) x1 x2 x3 x4 x5 xs0 M) : f_E sh t YX12_joins rm cs (f_Q sh t R) 72 [.inr (.inr (.inl (12, 123, 4456))), .inl x1, .inl x2, .inl x3, .inl x4, .inl x5, .inr (.inr (.inr ())), .inr (.inr (.inr ())), .inr (.inr (.inr ())), .inr (.inr (.inr ())), .inr (.inr (.inr ())), .inr (.inr (.inr ())), .inr (.inr (.inr ())), .inr (.inr (.inr ())), .inr (.inr (.inr ())), .inr (.inr (.inr ())), .inr (.inr (.inr ())), .inr (.inr (.inr ())), .inr (.inr (.inr ())), .inr (.inr (.inr ())), .inr (.inr (.inr ()))] [.inl xs0] M :=
  BX12_joins_72 C (fun x1 x2 x3 x4 x6 xs0 M h => PX12_joins_94 C h) h
theorem PX12_joins_50 {sh : Nat → Nat × Nat} {t : Nat} {rm : Nat × Nat × Nat} {cs : Nat × Nat} {R : f_Rt} {x1 : Int} {x2 : Int} {x3 : Int} {x4 : Int} {xs0 : Int} {M : e_M} (C : f_Hy sh t yX12_joins rm cs 8 (lX12_joins WX12_along WX12_round WX12_areaOf WX12_tidy) R) (h : WX12_joins_50 (fun r M => R (some (.inl r)) M) x1 x2 x3 x4 xs0 M) : f_E sh t YX12_joins rm cs (f_Q sh t R) 50 [.inr (.inr (.inl (12, 123, 4456))), .inl x1, .inl x2, .inl x3, .inl x4, .inr (.inr (.inr ())), .inr (.inr (.inr ())), .inr (.inr (.inr ())), .inr (.inr (.inr ())), .inr (.inr (.inr ())), .inr (.inr (.inr ())), .inr (.inr (.inr ())), .inr (.inr (.inr ())), .inr (.inr (.inr ())), .inr (.inr (.inr ())), .inr (.inr (.inr ())), .inr (.inr (.inr ())), .inr (.inr (.inr ())), .inr (.inr (.inr ())), .inr (.inr (.inr ())), .inr (.inr (.inr ()))] [.inl xs0] M :=
  BX12_joins_50 C (fun x1 x2 x3 x4 x5 xs0 M h => PX12_joins_72 C h) h
theorem PX12_joins_45 {sh : Nat → Nat × Nat} {t : Nat} {rm : Nat × Nat × Nat} {cs : Nat × Nat} {R : f_Rt} {x1 : Int} {x2 : Int} {x3 : Int} {x4 : Int} {M : e_M} (C : f_Hy sh t yX12_joins rm cs 8 (lX12_joins WX12_along WX12_round WX12_areaOf WX12_tidy) R) (h : WX12_joins_45 (fun r M => R (some (.inl r)) M) x1 x2 x3 x4 M) : f_E sh t YX12_joins rm cs (f_Q sh t R) 45 [.inr (.inr (.inl (12, 123, 4456))), .inl x1, .inl x2, .inl x3, .inl x4, .inr (.inr (.inr ())), .inr (.inr (.inr ())), .inr (.inr (.inr ())), .inr (.inr (.inr ())), .inr (.inr (.inr ())), .inr (.inr (.inr ())), .inr (.inr (.inr ())), .inr (.inr (.inr ())), .inr (.inr (.inr ())), .inr (.inr (.inr ())), .inr (.inr (.inr ())), .inr (.inr (.inr ())), .inr (.inr (.inr ())), .inr (.inr (.inr ())), .inr (.inr (.inr ())), .inr (.inr (.inr ()))] [] M :=
  BX12_joins_45 C (fun x1 x2 x3 x4 xs0 M h => PX12_joins_50 C h) h
theorem PX12_joins_49 {sh : Nat → Nat × Nat} {t : Nat} {rm : Nat × Nat × Nat} {cs : Nat × Nat} {R : f_Rt} {x1 : Int} {x2 : Int} {x3 : Int} {x4 : Int} {M : e_M} (C : f_Hy sh t yX12_joins rm cs 8 (lX12_joins WX12_along WX12_round WX12_areaOf WX12_tidy) R) (h : WX12_joins_49 (fun r M => R (some (.inl r)) M) x1 x2 x3 x4 M) : f_E sh t YX12_joins rm cs (f_Q sh t R) 49 [.inr (.inr (.inl (12, 123, 4456))), .inl x1, .inl x2, .inl x3, .inl x4, .inr (.inr (.inr ())), .inr (.inr (.inr ())), .inr (.inr (.inr ())), .inr (.inr (.inr ())), .inr (.inr (.inr ())), .inr (.inr (.inr ())), .inr (.inr (.inr ())), .inr (.inr (.inr ())), .inr (.inr (.inr ())), .inr (.inr (.inr ())), .inr (.inr (.inr ())), .inr (.inr (.inr ())), .inr (.inr (.inr ())), .inr (.inr (.inr ())), .inr (.inr (.inr ())), .inr (.inr (.inr ()))] [] M :=
  BX12_joins_49 C (fun x1 x2 x3 x4 xs0 M h => PX12_joins_50 C h) h
theorem PX12_joins {sh : Nat → Nat × Nat} {t : Nat} {rm : Nat × Nat × Nat} {cs : Nat × Nat} {R : f_Rt} {x1 : Int} {x2 : Int} {x3 : Int} {x4 : Int} {M : e_M} (C : f_Hy sh t yX12_joins rm cs 8 (lX12_joins WX12_along WX12_round WX12_areaOf WX12_tidy) R) (h : WX12_joins x1 x2 x3 x4 M (fun r M => R (some (.inl r)) M)) : f_E sh t YX12_joins rm cs (f_Q sh t R) 0 [.inr (.inr (.inl (12, 123, 4456))), .inl x1, .inl x2, .inl x3, .inl x4, .inr (.inr (.inr ())), .inr (.inr (.inr ())), .inr (.inr (.inr ())), .inr (.inr (.inr ())), .inr (.inr (.inr ())), .inr (.inr (.inr ())), .inr (.inr (.inr ())), .inr (.inr (.inr ())), .inr (.inr (.inr ())), .inr (.inr (.inr ())), .inr (.inr (.inr ())), .inr (.inr (.inr ())), .inr (.inr (.inr ())), .inr (.inr (.inr ())), .inr (.inr (.inr ())), .inr (.inr (.inr ()))] [] M :=
  BX12_joins C (fun x1 x2 x3 x4 M h => PX12_joins_45 C h) (fun x1 x2 x3 x4 M h => PX12_joins_49 C h) h
def wX12_joins : f_Wt := f_wm [(4466, 12, 123), (1, 0, 0), (1, 0, 0), (1, 0, 0), (1, 0, 0)] (fun ar M R => WX12_joins (f_vi (f_nth ar 1)) (f_vi (f_nth ar 2)) (f_vi (f_nth ar 3)) (f_vi (f_nth ar 4)) M (fun r M => R (some (.inl r)) M))
theorem TX12_joins {sh : Nat → Nat × Nat} {t : Nat} : f_Mt sh t YX12_joins 8 (wX12_joins) :=
  f_Mt_of (k := 16) (Nat.le_of_ble_eq_true rfl) rfl rfl (fun ar M R rm cs h1 h2 h3 hX h => PX12_joins ⟨Nat.le_of_ble_eq_true rfl, h1, h2, h3, ⟨(f_Mt.up (Nat.le_of_ble_eq_true rfl) TX12_along), (f_Mt.up (Nat.le_of_ble_eq_true rfl) TX12_round), (f_Mt.up (Nat.le_of_ble_eq_true rfl) TX12_areaOf), (f_Mt.up (Nat.le_of_ble_eq_true rfl) TX12_tidy), trivial⟩, hX⟩ h)
def VX12_areNear_3 (c_X12_turn : Int → Int → Int → Int → Int → Int → e_M → (Int → Prop) → Prop) (k28 : Int → Int → Int → Int → Int → Int → Int → Int → Prop) (Q : Int → Prop) (x1 : Int) (x2 : Int) (x3 : Int) (x4 : Int) (x5 : Int) (M : e_M) : Prop :=
  ((x2 ≤ x5 → (Q 0)) ∧ (x5 < x2 → (¬ x2 = 0 ∧ (∀ y1 : Int, y1 = e_w32 (x1 + ((e_w32 (x5 + 1)).tmod x2)) → (k28 x1 x2 x3 x4 x5 (e_w32 (x1 + x5)) y1 0)))))
def VX12_areNear_28 (c_X12_turn : Int → Int → Int → Int → Int → Int → e_M → (Int → Prop) → Prop) (k3 : Int → Int → Int → Int → Int → Prop) (k346 : Int → Int → Int → Int → Int → Int → Int → Int → Prop) (k337 : Int → Int → Int → Int → Int → Int → Int → Int → Int → Prop) (Q : Int → Prop) (x1 : Int) (x2 : Int) (x3 : Int) (x4 : Int) (x5 : Int) (x6 : Int) (x7 : Int) (x8 : Int) (M : e_M) : Prop :=
  ((x4 ≤ x8 → (k3 x1 x2 x3 x4 (e_w32 (x5 + 1)))) ∧ (x8 < x4 → (¬ x4 = 0 ∧ (∀ y1 : Int, y1 = e_w32 (x3 + ((e_w32 (x8 + 1)).tmod x4)) → ((0 ≤ x6 ∧ x6 < 4800) ∧ ((0 ≤ x6 ∧ x6 < 4800) ∧ ((0 ≤ x7 ∧ x7 < 4800) ∧ ((0 ≤ x7 ∧ x7 < 4800) ∧ ((0 ≤ (e_w32 (x3 + x8)) ∧ (e_w32 (x3 + x8)) < 4800) ∧ ((0 ≤ (e_w32 (x3 + x8)) ∧ (e_w32 (x3 + x8)) < 4800) ∧ (c_X12_turn (M 4480 (x6.toNat)) (M 4481 (x6.toNat)) (M 4480 (x7.toNat)) (M 4481 (x7.toNat)) (M 4480 ((e_w32 (x3 + x8)).toNat)) (M 4481 ((e_w32 (x3 + x8)).toNat)) M (fun r2 => ((¬ r2 = 0 → (k346 x1 x2 x3 x4 x5 x6 x7 x8)) ∧ (r2 = 0 → ((0 ≤ x6 ∧ x6 < 4800) ∧ ((0 ≤ x6 ∧ x6 < 4800) ∧ ((0 ≤ x7 ∧ x7 < 4800) ∧ ((0 ≤ x7 ∧ x7 < 4800) ∧ ((0 ≤ y1 ∧ y1 < 4800) ∧ ((0 ≤ y1 ∧ y1 < 4800) ∧ (c_X12_turn (M 4480 (x6.toNat)) (M 4481 (x6.toNat)) (M 4480 (x7.toNat)) (M 4481 (x7.toNat)) (M 4480 (y1.toNat)) (M 4481 (y1.toNat)) M (fun r3 => ((r3 = 0 → ((0 ≤ x6 ∧ x6 < 4800) ∧ ((0 ≤ x7 ∧ x7 < 4800) ∧ (((M 4480 (x6.toNat)) = (M 4480 (x7.toNat)) → ((0 ≤ x6 ∧ x6 < 4800) ∧ ((0 ≤ x7 ∧ x7 < 4800) ∧ ((0 ≤ (e_w32 (x3 + x8)) ∧ (e_w32 (x3 + x8)) < 4800) ∧ ((0 ≤ y1 ∧ y1 < 4800) ∧ ((0 ≤ x6 ∧ x6 < 4800) ∧ ((0 ≤ x7 ∧ x7 < 4800) ∧ ((0 ≤ (e_w32 (x3 + x8)) ∧ (e_w32 (x3 + x8)) < 4800) ∧ ((0 ≤ y1 ∧ y1 < 4800) ∧ (k337 x1 x2 x3 x4 x5 x6 x7 x8 (e_w32 ((e_min (e_max (M 4481 (x6.toNat)) (M 4481 (x7.toNat))) (e_max (M 4481 ((e_w32 (x3 + x8)).toNat)) (M 4481 (y1.toNat)))) - (e_max (e_min (M 4481 (x6.toNat)) (M 4481 (x7.toNat))) (e_min (M 4481 ((e_w32 (x3 + x8)).toNat)) (M 4481 (y1.toNat)))))))))))))))) ∧ (¬ (M 4480 (x6.toNat)) = (M 4480 (x7.toNat)) → ((0 ≤ x6 ∧ x6 < 4800) ∧ ((0 ≤ x7 ∧ x7 < 4800) ∧ ((0 ≤ (e_w32 (x3 + x8)) ∧ (e_w32 (x3 + x8)) < 4800) ∧ ((0 ≤ y1 ∧ y1 < 4800) ∧ ((0 ≤ x6 ∧ x6 < 4800) ∧ ((0 ≤ x7 ∧ x7 < 4800) ∧ ((0 ≤ (e_w32 (x3 + x8)) ∧ (e_w32 (x3 + x8)) < 4800) ∧ ((0 ≤ y1 ∧ y1 < 4800) ∧ (k337 x1 x2 x3 x4 x5 x6 x7 x8 (e_w32 ((e_min (e_max (M 4480 (x6.toNat)) (M 4480 (x7.toNat))) (e_max (M 4480 ((e_w32 (x3 + x8)).toNat)) (M 4480 (y1.toNat)))) - (e_max (e_min (M 4480 (x6.toNat)) (M 4480 (x7.toNat))) (e_min (M 4480 ((e_w32 (x3 + x8)).toNat)) (M 4480 (y1.toNat)))))))))))))))))))) ∧ (¬ r3 = 0 → (k346 x1 x2 x3 x4 x5 x6 x7 x8)))))))))))))))))))))))))
def VX12_areNear_337 (c_X12_turn : Int → Int → Int → Int → Int → Int → e_M → (Int → Prop) → Prop) (k346 : Int → Int → Int → Int → Int → Int → Int → Int → Prop) (Q : Int → Prop) (x1 : Int) (x2 : Int) (x3 : Int) (x4 : Int) (x5 : Int) (x6 : Int) (x7 : Int) (x8 : Int) (xs0 : Int) (M : e_M) : Prop :=
  ((xs0 ≤ 0 → (k346 x1 x2 x3 x4 x5 x6 x7 x8)) ∧ (0 < xs0 → (Q 1)))
def VX12_areNear_346 (c_X12_turn : Int → Int → Int → Int → Int → Int → e_M → (Int → Prop) → Prop) (k28 : Int → Int → Int → Int → Int → Int → Int → Int → Prop) (Q : Int → Prop) (x1 : Int) (x2 : Int) (x3 : Int) (x4 : Int) (x5 : Int) (x6 : Int) (x7 : Int) (x8 : Int) (M : e_M) : Prop :=
  (k28 x1 x2 x3 x4 x5 x6 x7 (e_w32 (x8 + 1)))
def VX12_areNear (c_X12_turn : Int → Int → Int → Int → Int → Int → e_M → (Int → Prop) → Prop) (k3 : Int → Int → Int → Int → Int → Prop) (Q : Int → Prop) (x1 : Int) (x2 : Int) (x3 : Int) (x4 : Int) (M : e_M) : Prop :=
  (k3 x1 x2 x3 x4 0)
def yX12_areNear (i : Nat) : e_Y := x_get YX12_areNear [YX12_turn] i
def pX12_areNearf : List x_I := [(0, 0, 1, 0, 0, 0, []), (1, 5, 2, 5, 0, 0, []), (3, 49, 0, 0, 0, 0, []), (3, 2, 2, 5, 0, 0, []), (5, 2, 1, 2, 0, 0, []), (6, 18, 358, 3, 205, 0, []), (9, 2, 1, 1, 0, 0, []), (10, 2, 2, 5, 0, 0, []), (12, 9, 0, 0, 0, 0, []), (13, 5, 2, 6, 0, 0, []), (15, 2, 1, 1, 0, 0, []), (16, 2, 2, 5, 0, 0, []), (18, 0, 1, 0, 0, 1, []), (19, 9, 0, 0, 0, 0, []), (20, 2, 1, 2, 0, 0, []), (21, 9, 0, 4, 0, 0, []), (22, 9, 0, 0, 0, 0, []), (23, 33, 0, 0, 0, 0, []), (23, 5, 2, 7, 0, 0, []), (25, 0, 1, 0, 0, 0, []), (26, 5, 2, 8, 0, 0, []), (28, 49, 0, 0, 0, 0, []), (28, 2, 2, 8, 0, 0, []), (30, 2, 2, 4, 0, 0, []), (32, 18, 352, 3, 203, 0, []), (35, 2, 1, 3, 0, 0, []), (36, 2, 2, 8, 0, 0, []), (38, 9, 0, 0, 0, 0, []), (39, 5, 2, 9, 0, 0, []), (41, 2, 1, 3, 0, 0, []), (42, 2, 2, 8, 0, 0, []), (44, 0, 1, 0, 0, 1, []), (45, 9, 0, 0, 0, 0, []), (46, 2, 2, 4, 0, 0, []), (48, 9, 0, 4, 0, 0, []), (49, 9, 0, 0, 0, 0, []), (50, 33, 0, 0, 0, 0, []), (50, 5, 2, 10, 0, 0, []), (52, 4, 1, 0, 0, 0, []), (53, 25, 12, 40, 4, 0, [(0, 20, 4800), (0, 1, 24)]), (56, 2, 2, 6, 0, 0, []), (58, 27, 0, 0, 0, 0, []), (59, 14, 0, 0, 0, 0, []), (60, 4, 1, 0, 0, 0, []), (61, 25, 12, 41, 4, 0, [(0, 20, 4800), (0, 1, 25)]), (64, 2, 2, 6, 0, 0, []), (66, 27, 0, 0, 0, 0, []), (67, 14, 0, 0, 0, 0, []), (68, 4, 1, 0, 0, 0, []), (69, 25, 12, 40, 4, 0, [(0, 20, 4800), (0, 1, 24)]), (72, 2, 2, 7, 0, 0, []), (74, 27, 0, 0, 0, 0, []), (75, 14, 0, 0, 0, 0, []), (76, 4, 1, 0, 0, 0, []), (77, 25, 12, 41, 4, 0, [(0, 20, 4800), (0, 1, 25)]), (80, 2, 2, 7, 0, 0, []), (82, 27, 0, 0, 0, 0, []), (83, 14, 0, 0, 0, 0, []), (84, 4, 1, 0, 0, 0, []), (85, 25, 12, 40, 4, 0, [(0, 20, 4800), (0, 1, 24)]), (88, 2, 2, 9, 0, 0, []), (90, 27, 0, 0, 0, 0, []), (91, 14, 0, 0, 0, 0, []), (92, 4, 1, 0, 0, 0, []), (93, 25, 12, 41, 4, 0, [(0, 20, 4800), (0, 1, 25)]), (96, 2, 2, 9, 0, 0, []), (98, 27, 0, 0, 0, 0, []), (99, 14, 0, 0, 0, 0, []), (100, 40, 0, 6, 0, 0, []), (103, 1, 1, 0, 0, 0, []), (104, 32, 346, 1, 200, 0, []), (108, 4, 1, 0, 0, 0, []), (109, 25, 12, 40, 4, 0, [(0, 20, 4800), (0, 1, 24)]), (112, 2, 2, 6, 0, 0, []), (114, 27, 0, 0, 0, 0, []), (115, 14, 0, 0, 0, 0, []), (116, 4, 1, 0, 0, 0, []), (117, 25, 12, 41, 4, 0, [(0, 20, 4800), (0, 1, 25)]), (120, 2, 2, 6, 0, 0, []), (122, 27, 0, 0, 0, 0, []), (123, 14, 0, 0, 0, 0, []), (124, 4, 1, 0, 0, 0, []), (125, 25, 12, 40, 4, 0, [(0, 20, 4800), (0, 1, 24)]), (128, 2, 2, 7, 0, 0, []), (130, 27, 0, 0, 0, 0, []), (131, 14, 0, 0, 0, 0, []), (132, 4, 1, 0, 0, 0, []), (133, 25, 12, 41, 4, 0, [(0, 20, 4800), (0, 1, 25)]), (136, 2, 2, 7, 0, 0, []), (138, 27, 0, 0, 0, 0, []), (139, 14, 0, 0, 0, 0, []), (140, 4, 1, 0, 0, 0, []), (141, 25, 12, 40, 4, 0, [(0, 20, 4800), (0, 1, 24)]), (144, 2, 2, 10, 0, 0, []), (146, 27, 0, 0, 0, 0, []), (147, 14, 0, 0, 0, 0, []), (148, 4, 1, 0, 0, 0, []), (149, 25, 12, 41, 4, 0, [(0, 20, 4800), (0, 1, 25)]), (152, 2, 2, 10, 0, 0, []), (154, 27, 0, 0, 0, 0, []), (155, 14, 0, 0, 0, 0, []), (156, 40, 0, 6, 0, 0, []), (159, 1, 1, 0, 0, 0, []), (160, 32, 167, 0, 106, 0, []), (164, 19, 346, 0, 200, 0, []), (167, 4, 1, 0, 0, 0, []), (168, 25, 12, 40, 4, 0, [(0, 20, 4800), (0, 1, 24)]), (171, 2, 2, 6, 0, 0, []), (173, 27, 0, 0, 0, 0, []), (174, 4, 1, 0, 0, 0, []), (175, 25, 12, 40, 4, 0, [(0, 20, 4800), (0, 1, 24)]), (178, 2, 2, 7, 0, 0, []), (180, 27, 0, 0, 0, 0, []), (181, 18, 262, 0, 155, 0, []), (184, 4, 1, 0, 0, 0, []), (185, 25, 12, 40, 4, 0, [(0, 20, 4800), (0, 1, 24)]), (188, 2, 2, 6, 0, 0, []), (190, 27, 0, 0, 0, 0, []), (191, 4, 1, 0, 0, 0, []), (192, 25, 12, 40, 4, 0, [(0, 20, 4800), (0, 1, 24)]), (195, 2, 2, 7, 0, 0, []), (197, 27, 0, 0, 0, 0, []), (198, 39, 0, 1, 0, 0, []), (201, 4, 1, 0, 0, 0, []), (202, 25, 12, 40, 4, 0, [(0, 20, 4800), (0, 1, 24)]), (205, 2, 2, 9, 0, 0, []), (207, 27, 0, 0, 0, 0, []), (208, 4, 1, 0, 0, 0, []), (209, 25, 12, 40, 4, 0, [(0, 20, 4800), (0, 1, 24)]), (212, 2, 2, 10, 0, 0, []), (214, 27, 0, 0, 0, 0, []), (215, 39, 0, 1, 0, 0, []), (218, 39, 0, 0, 0, 0, []), (221, 4, 1, 0, 0, 0, []), (222, 25, 12, 40, 4, 0, [(0, 20, 4800), (0, 1, 24)]), (225, 2, 2, 6, 0, 0, []), (227, 27, 0, 0, 0, 0, []), (228, 4, 1, 0, 0, 0, []), (229, 25, 12, 40, 4, 0, [(0, 20, 4800), (0, 1, 24)]), (232, 2, 2, 7, 0, 0, []), (234, 27, 0, 0, 0, 0, []), (235, 39, 0, 0, 0, 0, []), (238, 4, 1, 0, 0, 0, []), (239, 25, 12, 40, 4, 0, [(0, 20, 4800), (0, 1, 24)]), (242, 2, 2, 9, 0, 0, []), (244, 27, 0, 0, 0, 0, []), (245, 4, 1, 0, 0, 0, []), (246, 25, 12, 40, 4, 0, [(0, 20, 4800), (0, 1, 24)]), (249, 2, 2, 10, 0, 0, []), (251, 27, 0, 0, 0, 0, []), (252, 39, 0, 0, 0, 0, []), (255, 39, 0, 1, 0, 0, []), (258, 9, 0, 1, 0, 0, []), (259, 19, 337, 0, 194, 0, []), (262, 4, 1, 0, 0, 0, []), (263, 25, 12, 41, 4, 0, [(0, 20, 4800), (0, 1, 25)]), (266, 2, 2, 6, 0, 0, []), (268, 27, 0, 0, 0, 0, []), (269, 4, 1, 0, 0, 0, []), (270, 25, 12, 41, 4, 0, [(0, 20, 4800), (0, 1, 25)]), (273, 2, 2, 7, 0, 0, []), (275, 27, 0, 0, 0, 0, []), (276, 39, 0, 1, 0, 0, []), (279, 4, 1, 0, 0, 0, []), (280, 25, 12, 41, 4, 0, [(0, 20, 4800), (0, 1, 25)]), (283, 2, 2, 9, 0, 0, []), (285, 27, 0, 0, 0, 0, []), (286, 4, 1, 0, 0, 0, []), (287, 25, 12, 41, 4, 0, [(0, 20, 4800), (0, 1, 25)]), (290, 2, 2, 10, 0, 0, []), (292, 27, 0, 0, 0, 0, []), (293, 39, 0, 1, 0, 0, []), (296, 39, 0, 0, 0, 0, []), (299, 4, 1, 0, 0, 0, []), (300, 25, 12, 41, 4, 0, [(0, 20, 4800), (0, 1, 25)]), (303, 2, 2, 6, 0, 0, []), (305, 27, 0, 0, 0, 0, []), (306, 4, 1, 0, 0, 0, []), (307, 25, 12, 41, 4, 0, [(0, 20, 4800), (0, 1, 25)]), (310, 2, 2, 7, 0, 0, []), (312, 27, 0, 0, 0, 0, []), (313, 39, 0, 0, 0, 0, []), (316, 4, 1, 0, 0, 0, []), (317, 25, 12, 41, 4, 0, [(0, 20, 4800), (0, 1, 25)]), (320, 2, 2, 9, 0, 0, []), (322, 27, 0, 0, 0, 0, []), (323, 4, 1, 0, 0, 0, []), (324, 25, 12, 41, 4, 0, [(0, 20, 4800), (0, 1, 25)]), (327, 2, 2, 10, 0, 0, []), (329, 27, 0, 0, 0, 0, []), (330, 39, 0, 0, 0, 0, []), (333, 39, 0, 1, 0, 0, []), (336, 9, 0, 1, 0, 0, []), (337, 49, 0, 0, 0, 0, []), (337, 5, 2, 11, 0, 0, []), (339, 2, 2, 11, 0, 0, []), (341, 17, 346, 5, 200, 0, []), (344, 0, 1, 0, 0, 1, []), (345, 48, 0, 0, 0, 0, []), (346, 49, 0, 0, 0, 0, []), (346, 8, 0, 8, 0, 1, []), (349, 19, 28, 0, 22, 0, []), (352, 8, 0, 5, 0, 1, []), (355, 19, 3, 0, 3, 0, []), (358, 0, 1, 0, 0, 0, []), (359, 48, 0, 0, 0, 0, [])]
set_option maxRecDepth 20000 in
theorem qX12_areNearf : f_all yX12_areNear YX12_areNear pX12_areNearf :=
  ⟨f_iconst (e_dx DX12_areNear_0 0 rfl) ⟨by decide, by decide⟩,
  f_istore (e_dx DX12_areNear_0 1 rfl) (by decide),
  trivial,
  f_iload (e_dx DX12_areNear_0 2 rfl),
  f_iload_n (n := 2) (e_dx DX12_areNear_0 3 rfl) rfl,
  f_icmp_ge (e_dx DX12_areNear_0 4 rfl) rfl,
  f_iload_n (n := 1) (e_dx DX12_areNear_0 5 rfl) rfl,
  f_iload (e_dx DX12_areNear_0 6 rfl),
  f_iadd (e_dx DX12_areNear_0 7 rfl),
  f_istore (e_dx DX12_areNear_0 8 rfl) (by decide),
  f_iload_n (n := 1) (e_dx DX12_areNear_0 9 rfl) rfl,
  f_iload (e_dx DX12_areNear_0 10 rfl),
  f_iconst (e_dx DX12_areNear_0 11 rfl) ⟨by decide, by decide⟩,
  f_iadd (e_dx DX12_areNear_0 12 rfl),
  f_iload_n (n := 2) (e_dx DX12_areNear_0 13 rfl) rfl,
  f_irem (e_dx DX12_areNear_0 14 rfl),
  f_iadd (e_dx DX12_areNear_0 15 rfl),
  f_g33,
  f_istore (e_dx DX12_areNear_0 16 rfl) (by decide),
  f_iconst (e_dx DX12_areNear_0 17 rfl) ⟨by decide, by decide⟩,
  f_istore (e_dx DX12_areNear_0 18 rfl) (by decide),
  trivial,
  f_iload (e_dx DX12_areNear_0 19 rfl),
  f_iload (e_dx DX12_areNear_0 20 rfl),
  f_icmp_ge (e_dx DX12_areNear_0 21 rfl) rfl,
  f_iload_n (n := 3) (e_dx DX12_areNear_0 22 rfl) rfl,
  f_iload (e_dx DX12_areNear_0 23 rfl),
  f_iadd (e_dx DX12_areNear_0 24 rfl),
  f_istore (e_dx DX12_areNear_0 25 rfl) (by decide),
  f_iload_n (n := 3) (e_dx DX12_areNear_0 26 rfl) rfl,
  f_iload (e_dx DX12_areNear_0 27 rfl),
  f_iconst (e_dx DX12_areNear_0 28 rfl) ⟨by decide, by decide⟩,
  f_iadd (e_dx DX12_areNear_0 29 rfl),
  f_iload (e_dx DX12_areNear_0 30 rfl),
  f_irem (e_dx DX12_areNear_0 31 rfl),
  f_iadd (e_dx DX12_areNear_0 32 rfl),
  f_g33,
  f_istore (e_dx DX12_areNear_0 33 rfl) (by decide),
  f_aload_n (n := 0) (e_dx DX12_areNear_0 34 rfl) rfl,
  f_getA (e_dx DX12_areNear_0 35 rfl) fX12_82 rfl (by decide) (Nat.le_of_ble_eq_true rfl) rfl (by decide),
  f_iload (e_dx DX12_areNear_0 36 rfl),
  f_iaload (e_dx DX12_areNear_0 37 rfl),
  f_g14 (e_dx DX12_areNear_0 38 rfl),
  f_aload_n (n := 0) (e_dx DX12_areNear_0 39 rfl) rfl,
  f_getA (e_dx DX12_areNear_1 0 rfl) fX12_85 rfl (by decide) (Nat.le_of_ble_eq_true rfl) rfl (by decide),
  f_iload (e_dx DX12_areNear_1 1 rfl),
  f_iaload (e_dx DX12_areNear_1 2 rfl),
  f_g14 (e_dx DX12_areNear_1 3 rfl),
  f_aload_n (n := 0) (e_dx DX12_areNear_1 4 rfl) rfl,
  f_getA (e_dx DX12_areNear_1 5 rfl) fX12_82 rfl (by decide) (Nat.le_of_ble_eq_true rfl) rfl (by decide),
  f_iload (e_dx DX12_areNear_1 6 rfl),
  f_iaload (e_dx DX12_areNear_1 7 rfl),
  f_g14 (e_dx DX12_areNear_1 8 rfl),
  f_aload_n (n := 0) (e_dx DX12_areNear_1 9 rfl) rfl,
  f_getA (e_dx DX12_areNear_1 10 rfl) fX12_85 rfl (by decide) (Nat.le_of_ble_eq_true rfl) rfl (by decide),
  f_iload (e_dx DX12_areNear_1 11 rfl),
  f_iaload (e_dx DX12_areNear_1 12 rfl),
  f_g14 (e_dx DX12_areNear_1 13 rfl),
  f_aload_n (n := 0) (e_dx DX12_areNear_1 14 rfl) rfl,
  f_getA (e_dx DX12_areNear_1 15 rfl) fX12_82 rfl (by decide) (Nat.le_of_ble_eq_true rfl) rfl (by decide),
  f_iload (e_dx DX12_areNear_1 16 rfl),
  f_iaload (e_dx DX12_areNear_1 17 rfl),
  f_g14 (e_dx DX12_areNear_1 18 rfl),
  f_aload_n (n := 0) (e_dx DX12_areNear_1 19 rfl) rfl,
  f_getA (e_dx DX12_areNear_1 20 rfl) fX12_85 rfl (by decide) (Nat.le_of_ble_eq_true rfl) rfl (by decide),
  f_iload (e_dx DX12_areNear_1 21 rfl),
  f_iaload (e_dx DX12_areNear_1 22 rfl),
  f_g14 (e_dx DX12_areNear_1 23 rfl),
  x_callS (e_dx DX12_areNear_1 24 rfl) mwX12_turn cX12_427 swX12_turn rfl,
  f_lconst (n := 0) (e_dx DX12_areNear_1 25 rfl) rfl,
  f_lif_ne (e_dx DX12_areNear_1 26 rfl) (e_dx DX12_areNear_1 27 rfl) rfl,
  f_aload_n (n := 0) (e_dx DX12_areNear_1 28 rfl) rfl,
  f_getA (e_dx DX12_areNear_1 29 rfl) fX12_82 rfl (by decide) (Nat.le_of_ble_eq_true rfl) rfl (by decide),
  f_iload (e_dx DX12_areNear_1 30 rfl),
  f_iaload (e_dx DX12_areNear_1 31 rfl),
  f_g14 (e_dx DX12_areNear_1 32 rfl),
  f_aload_n (n := 0) (e_dx DX12_areNear_1 33 rfl) rfl,
  f_getA (e_dx DX12_areNear_1 34 rfl) fX12_85 rfl (by decide) (Nat.le_of_ble_eq_true rfl) rfl (by decide),
  f_iload (e_dx DX12_areNear_1 35 rfl),
  f_iaload (e_dx DX12_areNear_1 36 rfl),
  f_g14 (e_dx DX12_areNear_1 37 rfl),
  f_aload_n (n := 0) (e_dx DX12_areNear_1 38 rfl) rfl,
  f_getA (e_dx DX12_areNear_1 39 rfl) fX12_82 rfl (by decide) (Nat.le_of_ble_eq_true rfl) rfl (by decide),
  f_iload (e_dx DX12_areNear_2 0 rfl),
  f_iaload (e_dx DX12_areNear_2 1 rfl),
  f_g14 (e_dx DX12_areNear_2 2 rfl),
  f_aload_n (n := 0) (e_dx DX12_areNear_2 3 rfl) rfl,
  f_getA (e_dx DX12_areNear_2 4 rfl) fX12_85 rfl (by decide) (Nat.le_of_ble_eq_true rfl) rfl (by decide),
  f_iload (e_dx DX12_areNear_2 5 rfl),
  f_iaload (e_dx DX12_areNear_2 6 rfl),
  f_g14 (e_dx DX12_areNear_2 7 rfl),
  f_aload_n (n := 0) (e_dx DX12_areNear_2 8 rfl) rfl,
  f_getA (e_dx DX12_areNear_2 9 rfl) fX12_82 rfl (by decide) (Nat.le_of_ble_eq_true rfl) rfl (by decide),
  f_iload (e_dx DX12_areNear_2 10 rfl),
  f_iaload (e_dx DX12_areNear_2 11 rfl),
  f_g14 (e_dx DX12_areNear_2 12 rfl),
  f_aload_n (n := 0) (e_dx DX12_areNear_2 13 rfl) rfl,
  f_getA (e_dx DX12_areNear_2 14 rfl) fX12_85 rfl (by decide) (Nat.le_of_ble_eq_true rfl) rfl (by decide),
  f_iload (e_dx DX12_areNear_2 15 rfl),
  f_iaload (e_dx DX12_areNear_2 16 rfl),
  f_g14 (e_dx DX12_areNear_2 17 rfl),
  x_callS (e_dx DX12_areNear_2 18 rfl) mwX12_turn cX12_427 swX12_turn rfl,
  f_lconst (n := 0) (e_dx DX12_areNear_2 19 rfl) rfl,
  f_lif_eq (e_dx DX12_areNear_2 20 rfl) (e_dx DX12_areNear_2 21 rfl) rfl,
  f_g19 (e_dx DX12_areNear_2 22 rfl) rfl,
  f_aload_n (n := 0) (e_dx DX12_areNear_2 23 rfl) rfl,
  f_getA (e_dx DX12_areNear_2 24 rfl) fX12_82 rfl (by decide) (Nat.le_of_ble_eq_true rfl) rfl (by decide),
  f_iload (e_dx DX12_areNear_2 25 rfl),
  f_iaload (e_dx DX12_areNear_2 26 rfl),
  f_aload_n (n := 0) (e_dx DX12_areNear_2 27 rfl) rfl,
  f_getA (e_dx DX12_areNear_2 28 rfl) fX12_82 rfl (by decide) (Nat.le_of_ble_eq_true rfl) rfl (by decide),
  f_iload (e_dx DX12_areNear_2 29 rfl),
  f_iaload (e_dx DX12_areNear_2 30 rfl),
  f_icmp_eq (e_dx DX12_areNear_2 31 rfl) rfl,
  f_aload_n (n := 0) (e_dx DX12_areNear_2 32 rfl) rfl,
  f_getA (e_dx DX12_areNear_2 33 rfl) fX12_82 rfl (by decide) (Nat.le_of_ble_eq_true rfl) rfl (by decide),
  f_iload (e_dx DX12_areNear_2 34 rfl),
  f_iaload (e_dx DX12_areNear_2 35 rfl),
  f_aload_n (n := 0) (e_dx DX12_areNear_2 36 rfl) rfl,
  f_getA (e_dx DX12_areNear_2 37 rfl) fX12_82 rfl (by decide) (Nat.le_of_ble_eq_true rfl) rfl (by decide),
  f_iload (e_dx DX12_areNear_2 38 rfl),
  f_iaload (e_dx DX12_areNear_2 39 rfl),
  f_mmaxI (e_dx DX12_areNear_3 0 rfl) cX12_520 fm_s_mmaxI fm_i fm_c_mmaxI,
  f_aload_n (n := 0) (e_dx DX12_areNear_3 1 rfl) rfl,
  f_getA (e_dx DX12_areNear_3 2 rfl) fX12_82 rfl (by decide) (Nat.le_of_ble_eq_true rfl) rfl (by decide),
  f_iload (e_dx DX12_areNear_3 3 rfl),
  f_iaload (e_dx DX12_areNear_3 4 rfl),
  f_aload_n (n := 0) (e_dx DX12_areNear_3 5 rfl) rfl,
  f_getA (e_dx DX12_areNear_3 6 rfl) fX12_82 rfl (by decide) (Nat.le_of_ble_eq_true rfl) rfl (by decide),
  f_iload (e_dx DX12_areNear_3 7 rfl),
  f_iaload (e_dx DX12_areNear_3 8 rfl),
  f_mmaxI (e_dx DX12_areNear_3 9 rfl) cX12_520 fm_s_mmaxI fm_i fm_c_mmaxI,
  f_mminI (e_dx DX12_areNear_3 10 rfl) cX12_523 fm_s_mminI fm_i fm_c_mminI,
  f_aload_n (n := 0) (e_dx DX12_areNear_3 11 rfl) rfl,
  f_getA (e_dx DX12_areNear_3 12 rfl) fX12_82 rfl (by decide) (Nat.le_of_ble_eq_true rfl) rfl (by decide),
  f_iload (e_dx DX12_areNear_3 13 rfl),
  f_iaload (e_dx DX12_areNear_3 14 rfl),
  f_aload_n (n := 0) (e_dx DX12_areNear_3 15 rfl) rfl,
  f_getA (e_dx DX12_areNear_3 16 rfl) fX12_82 rfl (by decide) (Nat.le_of_ble_eq_true rfl) rfl (by decide),
  f_iload (e_dx DX12_areNear_3 17 rfl),
  f_iaload (e_dx DX12_areNear_3 18 rfl),
  f_mminI (e_dx DX12_areNear_3 19 rfl) cX12_523 fm_s_mminI fm_i fm_c_mminI,
  f_aload_n (n := 0) (e_dx DX12_areNear_3 20 rfl) rfl,
  f_getA (e_dx DX12_areNear_3 21 rfl) fX12_82 rfl (by decide) (Nat.le_of_ble_eq_true rfl) rfl (by decide),
  f_iload (e_dx DX12_areNear_3 22 rfl),
  f_iaload (e_dx DX12_areNear_3 23 rfl),
  f_aload_n (n := 0) (e_dx DX12_areNear_3 24 rfl) rfl,
  f_getA (e_dx DX12_areNear_3 25 rfl) fX12_82 rfl (by decide) (Nat.le_of_ble_eq_true rfl) rfl (by decide),
  f_iload (e_dx DX12_areNear_3 26 rfl),
  f_iaload (e_dx DX12_areNear_3 27 rfl),
  f_mminI (e_dx DX12_areNear_3 28 rfl) cX12_523 fm_s_mminI fm_i fm_c_mminI,
  f_mmaxI (e_dx DX12_areNear_3 29 rfl) cX12_520 fm_s_mmaxI fm_i fm_c_mmaxI,
  f_isub (e_dx DX12_areNear_3 30 rfl),
  f_g19 (e_dx DX12_areNear_3 31 rfl) rfl,
  f_aload_n (n := 0) (e_dx DX12_areNear_3 32 rfl) rfl,
  f_getA (e_dx DX12_areNear_3 33 rfl) fX12_85 rfl (by decide) (Nat.le_of_ble_eq_true rfl) rfl (by decide),
  f_iload (e_dx DX12_areNear_3 34 rfl),
  f_iaload (e_dx DX12_areNear_3 35 rfl),
  f_aload_n (n := 0) (e_dx DX12_areNear_3 36 rfl) rfl,
  f_getA (e_dx DX12_areNear_3 37 rfl) fX12_85 rfl (by decide) (Nat.le_of_ble_eq_true rfl) rfl (by decide),
  f_iload (e_dx DX12_areNear_3 38 rfl),
  f_iaload (e_dx DX12_areNear_3 39 rfl),
  f_mmaxI (e_dx DX12_areNear_4 0 rfl) cX12_520 fm_s_mmaxI fm_i fm_c_mmaxI,
  f_aload_n (n := 0) (e_dx DX12_areNear_4 1 rfl) rfl,
  f_getA (e_dx DX12_areNear_4 2 rfl) fX12_85 rfl (by decide) (Nat.le_of_ble_eq_true rfl) rfl (by decide),
  f_iload (e_dx DX12_areNear_4 3 rfl),
  f_iaload (e_dx DX12_areNear_4 4 rfl),
  f_aload_n (n := 0) (e_dx DX12_areNear_4 5 rfl) rfl,
  f_getA (e_dx DX12_areNear_4 6 rfl) fX12_85 rfl (by decide) (Nat.le_of_ble_eq_true rfl) rfl (by decide),
  f_iload (e_dx DX12_areNear_4 7 rfl),
  f_iaload (e_dx DX12_areNear_4 8 rfl),
  f_mmaxI (e_dx DX12_areNear_4 9 rfl) cX12_520 fm_s_mmaxI fm_i fm_c_mmaxI,
  f_mminI (e_dx DX12_areNear_4 10 rfl) cX12_523 fm_s_mminI fm_i fm_c_mminI,
  f_aload_n (n := 0) (e_dx DX12_areNear_4 11 rfl) rfl,
  f_getA (e_dx DX12_areNear_4 12 rfl) fX12_85 rfl (by decide) (Nat.le_of_ble_eq_true rfl) rfl (by decide),
  f_iload (e_dx DX12_areNear_4 13 rfl),
  f_iaload (e_dx DX12_areNear_4 14 rfl),
  f_aload_n (n := 0) (e_dx DX12_areNear_4 15 rfl) rfl,
  f_getA (e_dx DX12_areNear_4 16 rfl) fX12_85 rfl (by decide) (Nat.le_of_ble_eq_true rfl) rfl (by decide),
  f_iload (e_dx DX12_areNear_4 17 rfl),
  f_iaload (e_dx DX12_areNear_4 18 rfl),
  f_mminI (e_dx DX12_areNear_4 19 rfl) cX12_523 fm_s_mminI fm_i fm_c_mminI,
  f_aload_n (n := 0) (e_dx DX12_areNear_4 20 rfl) rfl,
  f_getA (e_dx DX12_areNear_4 21 rfl) fX12_85 rfl (by decide) (Nat.le_of_ble_eq_true rfl) rfl (by decide),
  f_iload (e_dx DX12_areNear_4 22 rfl),
  f_iaload (e_dx DX12_areNear_4 23 rfl),
  f_aload_n (n := 0) (e_dx DX12_areNear_4 24 rfl) rfl,
  f_getA (e_dx DX12_areNear_4 25 rfl) fX12_85 rfl (by decide) (Nat.le_of_ble_eq_true rfl) rfl (by decide),
  f_iload (e_dx DX12_areNear_4 26 rfl),
  f_iaload (e_dx DX12_areNear_4 27 rfl),
  f_mminI (e_dx DX12_areNear_4 28 rfl) cX12_523 fm_s_mminI fm_i fm_c_mminI,
  f_mmaxI (e_dx DX12_areNear_4 29 rfl) cX12_520 fm_s_mmaxI fm_i fm_c_mmaxI,
  f_isub (e_dx DX12_areNear_4 30 rfl),
  trivial,
  f_istore (e_dx DX12_areNear_4 31 rfl) (by decide),
  f_iload (e_dx DX12_areNear_4 32 rfl),
  f_if_le (e_dx DX12_areNear_4 33 rfl) rfl,
  f_iconst (e_dx DX12_areNear_4 34 rfl) ⟨by decide, by decide⟩,
  ⟨(e_dx DX12_areNear_4 35 rfl), rfl⟩,
  trivial,
  f_g8 (e_dx DX12_areNear_4 36 rfl) ⟨by decide, by decide⟩,
  f_g19 (e_dx DX12_areNear_4 37 rfl) rfl,
  f_g8 (e_dx DX12_areNear_4 38 rfl) ⟨by decide, by decide⟩,
  f_g19 (e_dx DX12_areNear_4 39 rfl) rfl,
  f_iconst (e_dx DX12_areNear_5 0 rfl) ⟨by decide, by decide⟩,
  ⟨(e_dx DX12_areNear_5 1 rfl), rfl⟩, trivial⟩
def lX12_areNear (c_X12_turn : Int → Int → Int → Int → Int → Int → e_M → (Int → Prop) → Prop) : List (Nat × f_Wt) := [(0, f_wm [(2, 0, 0), (2, 0, 0), (2, 0, 0), (2, 0, 0), (2, 0, 0), (2, 0, 0)] (fun ar M R => c_X12_turn (f_vi (f_nth ar 0)) (f_vi (f_nth ar 1)) (f_vi (f_nth ar 2)) (f_vi (f_nth ar 3)) (f_vi (f_nth ar 4)) (f_vi (f_nth ar 5)) M (fun r => R (some (.inr (.inl r))) M)))]
set_option maxRecDepth 20000 in
theorem BX12_areNear_3 {sh : Nat → Nat × Nat} {t : Nat} {rm : Nat × Nat × Nat} {cs : Nat × Nat} {R : f_Rt} {c_X12_turn : Int → Int → Int → Int → Int → Int → e_M → (Int → Prop) → Prop} {k28 : Int → Int → Int → Int → Int → Int → Int → Int → Prop} {x1 : Int} {x2 : Int} {x3 : Int} {x4 : Int} {x5 : Int} {M : e_M} (C : f_Hy sh t yX12_areNear rm cs 5 (lX12_areNear c_X12_turn) R) (h28 : ∀ (x1 : Int) (x2 : Int) (x3 : Int) (x4 : Int) (x5 : Int) (x6 : Int) (x7 : Int) (x8 : Int), k28 x1 x2 x3 x4 x5 x6 x7 x8 → f_E sh t YX12_areNear rm cs (f_Q sh t R) 28 [.inr (.inr (.inl (12, 123, 4456))), .inl x1, .inl x2, .inl x3, .inl x4, .inl x5, .inl x6, .inl x7, .inl x8, .inr (.inr (.inr ())), .inr (.inr (.inr ())), .inr (.inr (.inr ()))] [] M) (h : VX12_areNear_3 c_X12_turn k28 (fun r => R (some (.inl r)) M) x1 x2 x3 x4 x5 M) : f_E sh t YX12_areNear rm cs (f_Q sh t R) 3 [.inr (.inr (.inl (12, 123, 4456))), .inl x1, .inl x2, .inl x3, .inl x4, .inl x5, .inr (.inr (.inr ())), .inr (.inr (.inr ())), .inr (.inr (.inr ())), .inr (.inr (.inr ())), .inr (.inr (.inr ())), .inr (.inr (.inr ()))] [] M := by
  rw [f_kk8 M k28] at h
  exact f_go (KC := f_kc [(28, f_pl [(4466, 12, 123), (1, 0, 0), (1, 0, 0), (1, 0, 0), (1, 0, 0), (1, 0, 0), (1, 0, 0), (1, 0, 0), (1, 0, 0), (0, 0, 0), (0, 0, 0), (0, 0, 0)] [] (fun ls st M2 => M2 = M ∧ (k28 (f_vi (f_nth ls 1)) (f_vi (f_nth ls 2)) (f_vi (f_nth ls 3)) (f_vi (f_nth ls 4)) (f_vi (f_nth ls 5)) (f_vi (f_nth ls 6)) (f_vi (f_nth ls 7)) (f_vi (f_nth ls 8)))))]) C qX12_areNearf (f_kc_cons (f_pl_ok rfl (fun ls st M2 ⟨e, hh⟩ => by subst e; exact h28 _ _ _ _ _ _ _ _ hh)) f_kc_nil) 208 3 h
set_option maxRecDepth 20000 in
theorem BX12_areNear_28 {sh : Nat → Nat × Nat} {t : Nat} {rm : Nat × Nat × Nat} {cs : Nat × Nat} {R : f_Rt} {c_X12_turn : Int → Int → Int → Int → Int → Int → e_M → (Int → Prop) → Prop} {k3 : Int → Int → Int → Int → Int → Prop} {k346 : Int → Int → Int → Int → Int → Int → Int → Int → Prop} {k337 : Int → Int → Int → Int → Int → Int → Int → Int → Int → Prop} {x1 : Int} {x2 : Int} {x3 : Int} {x4 : Int} {x5 : Int} {x6 : Int} {x7 : Int} {x8 : Int} {M : e_M} (C : f_Hy sh t yX12_areNear rm cs 5 (lX12_areNear c_X12_turn) R) (h3 : ∀ (x1 : Int) (x2 : Int) (x3 : Int) (x4 : Int) (x5 : Int), k3 x1 x2 x3 x4 x5 → f_E sh t YX12_areNear rm cs (f_Q sh t R) 3 [.inr (.inr (.inl (12, 123, 4456))), .inl x1, .inl x2, .inl x3, .inl x4, .inl x5, .inr (.inr (.inr ())), .inr (.inr (.inr ())), .inr (.inr (.inr ())), .inr (.inr (.inr ())), .inr (.inr (.inr ())), .inr (.inr (.inr ()))] [] M) (h346 : ∀ (x1 : Int) (x2 : Int) (x3 : Int) (x4 : Int) (x5 : Int) (x6 : Int) (x7 : Int) (x8 : Int), k346 x1 x2 x3 x4 x5 x6 x7 x8 → f_E sh t YX12_areNear rm cs (f_Q sh t R) 346 [.inr (.inr (.inl (12, 123, 4456))), .inl x1, .inl x2, .inl x3, .inl x4, .inl x5, .inl x6, .inl x7, .inl x8, .inr (.inr (.inr ())), .inr (.inr (.inr ())), .inr (.inr (.inr ()))] [] M) (h337 : ∀ (x1 : Int) (x2 : Int) (x3 : Int) (x4 : Int) (x5 : Int) (x6 : Int) (x7 : Int) (x8 : Int) (xs0 : Int), k337 x1 x2 x3 x4 x5 x6 x7 x8 xs0 → f_E sh t YX12_areNear rm cs (f_Q sh t R) 337 [.inr (.inr (.inl (12, 123, 4456))), .inl x1, .inl x2, .inl x3, .inl x4, .inl x5, .inl x6, .inl x7, .inl x8, .inr (.inr (.inr ())), .inr (.inr (.inr ())), .inr (.inr (.inr ()))] [.inl xs0] M) (h : VX12_areNear_28 c_X12_turn k3 k346 k337 (fun r => R (some (.inl r)) M) x1 x2 x3 x4 x5 x6 x7 x8 M) : f_E sh t YX12_areNear rm cs (f_Q sh t R) 28 [.inr (.inr (.inl (12, 123, 4456))), .inl x1, .inl x2, .inl x3, .inl x4, .inl x5, .inl x6, .inl x7, .inl x8, .inr (.inr (.inr ())), .inr (.inr (.inr ())), .inr (.inr (.inr ()))] [] M := by
  rw [f_kk5 M k3] at h
  rw [f_kk8 M k346] at h
  rw [f_kk9 M k337] at h
  exact f_go (KC := f_kc [(3, f_pl [(4466, 12, 123), (1, 0, 0), (1, 0, 0), (1, 0, 0), (1, 0, 0), (1, 0, 0), (0, 0, 0), (0, 0, 0), (0, 0, 0), (0, 0, 0), (0, 0, 0), (0, 0, 0)] [] (fun ls st M2 => M2 = M ∧ (k3 (f_vi (f_nth ls 1)) (f_vi (f_nth ls 2)) (f_vi (f_nth ls 3)) (f_vi (f_nth ls 4)) (f_vi (f_nth ls 5))))), (346, f_pl [(4466, 12, 123), (1, 0, 0), (1, 0, 0), (1, 0, 0), (1, 0, 0), (1, 0, 0), (1, 0, 0), (1, 0, 0), (1, 0, 0), (0, 0, 0), (0, 0, 0), (0, 0, 0)] [] (fun ls st M2 => M2 = M ∧ (k346 (f_vi (f_nth ls 1)) (f_vi (f_nth ls 2)) (f_vi (f_nth ls 3)) (f_vi (f_nth ls 4)) (f_vi (f_nth ls 5)) (f_vi (f_nth ls 6)) (f_vi (f_nth ls 7)) (f_vi (f_nth ls 8))))), (337, f_pl [(4466, 12, 123), (1, 0, 0), (1, 0, 0), (1, 0, 0), (1, 0, 0), (1, 0, 0), (1, 0, 0), (1, 0, 0), (1, 0, 0), (0, 0, 0), (0, 0, 0), (0, 0, 0)] [(1, 0, 0)] (fun ls st M2 => M2 = M ∧ (k337 (f_vi (f_nth ls 1)) (f_vi (f_nth ls 2)) (f_vi (f_nth ls 3)) (f_vi (f_nth ls 4)) (f_vi (f_nth ls 5)) (f_vi (f_nth ls 6)) (f_vi (f_nth ls 7)) (f_vi (f_nth ls 8)) (f_vi (f_nth st 0)))))]) C qX12_areNearf (f_kc_cons (f_pl_ok rfl (fun ls st M2 ⟨e, hh⟩ => by subst e; exact h3 _ _ _ _ _ hh)) (f_kc_cons (f_pl_ok rfl (fun ls st M2 ⟨e, hh⟩ => by subst e; exact h346 _ _ _ _ _ _ _ _ hh)) (f_kc_cons (f_pl_ok rfl (fun ls st M2 ⟨e, hh⟩ => by subst e; exact h337 _ _ _ _ _ _ _ _ _ hh)) f_kc_nil))) 208 22 h
set_option maxRecDepth 20000 in
theorem BX12_areNear_337 {sh : Nat → Nat × Nat} {t : Nat} {rm : Nat × Nat × Nat} {cs : Nat × Nat} {R : f_Rt} {c_X12_turn : Int → Int → Int → Int → Int → Int → e_M → (Int → Prop) → Prop} {k346 : Int → Int → Int → Int → Int → Int → Int → Int → Prop} {x1 : Int} {x2 : Int} {x3 : Int} {x4 : Int} {x5 : Int} {x6 : Int} {x7 : Int} {x8 : Int} {xs0 : Int} {M : e_M} (C : f_Hy sh t yX12_areNear rm cs 5 (lX12_areNear c_X12_turn) R) (h346 : ∀ (x1 : Int) (x2 : Int) (x3 : Int) (x4 : Int) (x5 : Int) (x6 : Int) (x7 : Int) (x8 : Int), k346 x1 x2 x3 x4 x5 x6 x7 x8 → f_E sh t YX12_areNear rm cs (f_Q sh t R) 346 [.inr (.inr (.inl (12, 123, 4456))), .inl x1, .inl x2, .inl x3, .inl x4, .inl x5, .inl x6, .inl x7, .inl x8, .inr (.inr (.inr ())), .inr (.inr (.inr ())), .inr (.inr (.inr ()))] [] M) (h : VX12_areNear_337 c_X12_turn k346 (fun r => R (some (.inl r)) M) x1 x2 x3 x4 x5 x6 x7 x8 xs0 M) : f_E sh t YX12_areNear rm cs (f_Q sh t R) 337 [.inr (.inr (.inl (12, 123, 4456))), .inl x1, .inl x2, .inl x3, .inl x4, .inl x5, .inl x6, .inl x7, .inl x8, .inr (.inr (.inr ())), .inr (.inr (.inr ())), .inr (.inr (.inr ()))] [.inl xs0] M := by
  rw [f_kk8 M k346] at h
  exact f_go (KC := f_kc [(346, f_pl [(4466, 12, 123), (1, 0, 0), (1, 0, 0), (1, 0, 0), (1, 0, 0), (1, 0, 0), (1, 0, 0), (1, 0, 0), (1, 0, 0), (0, 0, 0), (0, 0, 0), (0, 0, 0)] [] (fun ls st M2 => M2 = M ∧ (k346 (f_vi (f_nth ls 1)) (f_vi (f_nth ls 2)) (f_vi (f_nth ls 3)) (f_vi (f_nth ls 4)) (f_vi (f_nth ls 5)) (f_vi (f_nth ls 6)) (f_vi (f_nth ls 7)) (f_vi (f_nth ls 8)))))]) C qX12_areNearf (f_kc_cons (f_pl_ok rfl (fun ls st M2 ⟨e, hh⟩ => by subst e; exact h346 _ _ _ _ _ _ _ _ hh)) f_kc_nil) 208 194 h
set_option maxRecDepth 20000 in
theorem BX12_areNear_346 {sh : Nat → Nat × Nat} {t : Nat} {rm : Nat × Nat × Nat} {cs : Nat × Nat} {R : f_Rt} {c_X12_turn : Int → Int → Int → Int → Int → Int → e_M → (Int → Prop) → Prop} {k28 : Int → Int → Int → Int → Int → Int → Int → Int → Prop} {x1 : Int} {x2 : Int} {x3 : Int} {x4 : Int} {x5 : Int} {x6 : Int} {x7 : Int} {x8 : Int} {M : e_M} (C : f_Hy sh t yX12_areNear rm cs 5 (lX12_areNear c_X12_turn) R) (h28 : ∀ (x1 : Int) (x2 : Int) (x3 : Int) (x4 : Int) (x5 : Int) (x6 : Int) (x7 : Int) (x8 : Int), k28 x1 x2 x3 x4 x5 x6 x7 x8 → f_E sh t YX12_areNear rm cs (f_Q sh t R) 28 [.inr (.inr (.inl (12, 123, 4456))), .inl x1, .inl x2, .inl x3, .inl x4, .inl x5, .inl x6, .inl x7, .inl x8, .inr (.inr (.inr ())), .inr (.inr (.inr ())), .inr (.inr (.inr ()))] [] M) (h : VX12_areNear_346 c_X12_turn k28 (fun r => R (some (.inl r)) M) x1 x2 x3 x4 x5 x6 x7 x8 M) : f_E sh t YX12_areNear rm cs (f_Q sh t R) 346 [.inr (.inr (.inl (12, 123, 4456))), .inl x1, .inl x2, .inl x3, .inl x4, .inl x5, .inl x6, .inl x7, .inl x8, .inr (.inr (.inr ())), .inr (.inr (.inr ())), .inr (.inr (.inr ()))] [] M := by
  rw [f_kk8 M k28] at h
  exact f_go (KC := f_kc [(28, f_pl [(4466, 12, 123), (1, 0, 0), (1, 0, 0), (1, 0, 0), (1, 0, 0), (1, 0, 0), (1, 0, 0), (1, 0, 0), (1, 0, 0), (0, 0, 0), (0, 0, 0), (0, 0, 0)] [] (fun ls st M2 => M2 = M ∧ (k28 (f_vi (f_nth ls 1)) (f_vi (f_nth ls 2)) (f_vi (f_nth ls 3)) (f_vi (f_nth ls 4)) (f_vi (f_nth ls 5)) (f_vi (f_nth ls 6)) (f_vi (f_nth ls 7)) (f_vi (f_nth ls 8)))))]) C qX12_areNearf (f_kc_cons (f_pl_ok rfl (fun ls st M2 ⟨e, hh⟩ => by subst e; exact h28 _ _ _ _ _ _ _ _ hh)) f_kc_nil) 208 200 h
set_option maxRecDepth 20000 in
theorem BX12_areNear {sh : Nat → Nat × Nat} {t : Nat} {rm : Nat × Nat × Nat} {cs : Nat × Nat} {R : f_Rt} {c_X12_turn : Int → Int → Int → Int → Int → Int → e_M → (Int → Prop) → Prop} {k3 : Int → Int → Int → Int → Int → Prop} {x1 : Int} {x2 : Int} {x3 : Int} {x4 : Int} {M : e_M} (C : f_Hy sh t yX12_areNear rm cs 5 (lX12_areNear c_X12_turn) R) (h3 : ∀ (x1 : Int) (x2 : Int) (x3 : Int) (x4 : Int) (x5 : Int), k3 x1 x2 x3 x4 x5 → f_E sh t YX12_areNear rm cs (f_Q sh t R) 3 [.inr (.inr (.inl (12, 123, 4456))), .inl x1, .inl x2, .inl x3, .inl x4, .inl x5, .inr (.inr (.inr ())), .inr (.inr (.inr ())), .inr (.inr (.inr ())), .inr (.inr (.inr ())), .inr (.inr (.inr ())), .inr (.inr (.inr ()))] [] M) (h : VX12_areNear c_X12_turn k3 (fun r => R (some (.inl r)) M) x1 x2 x3 x4 M) : f_E sh t YX12_areNear rm cs (f_Q sh t R) 0 [.inr (.inr (.inl (12, 123, 4456))), .inl x1, .inl x2, .inl x3, .inl x4, .inr (.inr (.inr ())), .inr (.inr (.inr ())), .inr (.inr (.inr ())), .inr (.inr (.inr ())), .inr (.inr (.inr ())), .inr (.inr (.inr ())), .inr (.inr (.inr ()))] [] M := by
  rw [f_kk5 M k3] at h
  exact f_go (KC := f_kc [(3, f_pl [(4466, 12, 123), (1, 0, 0), (1, 0, 0), (1, 0, 0), (1, 0, 0), (1, 0, 0), (0, 0, 0), (0, 0, 0), (0, 0, 0), (0, 0, 0), (0, 0, 0), (0, 0, 0)] [] (fun ls st M2 => M2 = M ∧ (k3 (f_vi (f_nth ls 1)) (f_vi (f_nth ls 2)) (f_vi (f_nth ls 3)) (f_vi (f_nth ls 4)) (f_vi (f_nth ls 5)))))]) C qX12_areNearf (f_kc_cons (f_pl_ok rfl (fun ls st M2 ⟨e, hh⟩ => by subst e; exact h3 _ _ _ _ _ hh)) f_kc_nil) 208 0 h
def WX12_areNear_346 (M : e_M) (H3 : Int → Int → Int → Int → Int → Prop) (H28 : Int → Int → Int → Int → Int → Int → Int → Int → Prop) (Q : Int → Prop) (x1 : Int) (x2 : Int) (x3 : Int) (x4 : Int) (x5 : Int) (x6 : Int) (x7 : Int) (x8 : Int) : Prop :=
  VX12_areNear_346 WX12_turn H28 Q x1 x2 x3 x4 x5 x6 x7 x8 M
def WX12_areNear_337 (M : e_M) (H3 : Int → Int → Int → Int → Int → Prop) (H28 : Int → Int → Int → Int → Int → Int → Int → Int → Prop) (Q : Int → Prop) (x1 : Int) (x2 : Int) (x3 : Int) (x4 : Int) (x5 : Int) (x6 : Int) (x7 : Int) (x8 : Int) (xs0 : Int) : Prop :=
  VX12_areNear_337 WX12_turn (WX12_areNear_346 M H3 H28 Q) Q x1 x2 x3 x4 x5 x6 x7 x8 xs0 M
def WX12_areNear_28 (M : e_M) (H3 : Int → Int → Int → Int → Int → Prop) (Q : Int → Prop) : Nat → Int → Int → Int → Int → Int → Int → Int → Int → Prop
  | 0, _, _, _, _, _, _, _, _ => False
  | n + 1, x1, x2, x3, x4, x5, x6, x7, x8 =>
    VX12_areNear_28 WX12_turn H3 (WX12_areNear_346 M H3 (WX12_areNear_28 M H3 Q n) Q) (WX12_areNear_337 M H3 (WX12_areNear_28 M H3 Q n) Q) Q x1 x2 x3 x4 x5 x6 x7 x8 M
def WX12_areNear_3 (M : e_M) (Q : Int → Prop) : Nat → Int → Int → Int → Int → Int → Prop
  | 0, _, _, _, _, _ => False
  | n + 1, x1, x2, x3, x4, x5 =>
    VX12_areNear_3 WX12_turn (fun x1 x2 x3 x4 x5 x6 x7 x8 => ∃ j, WX12_areNear_28 M (WX12_areNear_3 M Q n) Q j x1 x2 x3 x4 x5 x6 x7 x8) Q x1 x2 x3 x4 x5 M
def WX12_areNear (x1 : Int) (x2 : Int) (x3 : Int) (x4 : Int) (M : e_M) (Q : Int → Prop) : Prop :=
  VX12_areNear WX12_turn (fun x1 x2 x3 x4 x5 => ∃ j, WX12_areNear_3 M Q j x1 x2 x3 x4 x5) Q x1 x2 x3 x4 M
theorem PX12_areNear_346 {sh : Nat → Nat × Nat} {t : Nat} {rm : Nat × Nat × Nat} {cs : Nat × Nat} {R : f_Rt} {H3 : Int → Int → Int → Int → Int → Prop} {H28 : Int → Int → Int → Int → Int → Int → Int → Int → Prop} {x1 : Int} {x2 : Int} {x3 : Int} {x4 : Int} {x5 : Int} {x6 : Int} {x7 : Int} {x8 : Int} {M : e_M} (C : f_Hy sh t yX12_areNear rm cs 5 (lX12_areNear WX12_turn) R) (g3 : ∀ (x1 : Int) (x2 : Int) (x3 : Int) (x4 : Int) (x5 : Int), H3 x1 x2 x3 x4 x5 → f_E sh t YX12_areNear rm cs (f_Q sh t R) 3 [.inr (.inr (.inl (12, 123, 4456))), .inl x1, .inl x2, .inl x3, .inl x4, .inl x5, .inr (.inr (.inr ())), .inr (.inr (.inr ())), .inr (.inr (.inr ())), .inr (.inr (.inr ())), .inr (.inr (.inr ())), .inr (.inr (.inr ()))] [] M) (g28 : ∀ (x1 : Int) (x2 : Int) (x3 : Int) (x4 : Int) (x5 : Int) (x6 : Int) (x7 : Int) (x8 : Int), H28 x1 x2 x3 x4 x5 x6 x7 x8 → f_E sh t YX12_areNear rm cs (f_Q sh t R) 28 [.inr (.inr (.inl (12, 123, 4456))), .inl x1, .inl x2, .inl x3, .inl x4, .inl x5, .inl x6, .inl x7, .inl x8, .inr (.inr (.inr ())), .inr (.inr (.inr ())), .inr (.inr (.inr ()))] [] M) (h : WX12_areNear_346 M H3 H28 (fun r => R (some (.inl r)) M) x1 x2 x3 x4 x5 x6 x7 x8) : f_E sh t YX12_areNear rm cs (f_Q sh t R) 346 [.inr (.inr (.inl (12, 123, 4456))), .inl x1, .inl x2, .inl x3, .inl x4, .inl x5, .inl x6, .inl x7, .inl x8, .inr (.inr (.inr ())), .inr (.inr (.inr ())), .inr (.inr (.inr ()))] [] M :=
  BX12_areNear_346 C g28 h
theorem PX12_areNear_337 {sh : Nat → Nat × Nat} {t : Nat} {rm : Nat × Nat × Nat} {cs : Nat × Nat} {R : f_Rt} {H3 : Int → Int → Int → Int → Int → Prop} {H28 : Int → Int → Int → Int → Int → Int → Int → Int → Prop} {x1 : Int} {x2 : Int} {x3 : Int} {x4 : Int} {x5 : Int} {x6 : Int} {x7 : Int} {x8 : Int} {xs0 : Int} {M : e_M} (C : f_Hy sh t yX12_areNear rm cs 5 (lX12_areNear WX12_turn) R) (g3 : ∀ (x1 : Int) (x2 : Int) (x3 : Int) (x4 : Int) (x5 : Int), H3 x1 x2 x3 x4 x5 → f_E sh t YX12_areNear rm cs (f_Q sh t R) 3 [.inr (.inr (.inl (12, 123, 4456))), .inl x1, .inl x2, .inl x3, .inl x4, .inl x5, .inr (.inr (.inr ())), .inr (.inr (.inr ())), .inr (.inr (.inr ())), .inr (.inr (.inr ())), .inr (.inr (.inr ())), .inr (.inr (.inr ()))] [] M) (g28 : ∀ (x1 : Int) (x2 : Int) (x3 : Int) (x4 : Int) (x5 : Int) (x6 : Int) (x7 : Int) (x8 : Int), H28 x1 x2 x3 x4 x5 x6 x7 x8 → f_E sh t YX12_areNear rm cs (f_Q sh t R) 28 [.inr (.inr (.inl (12, 123, 4456))), .inl x1, .inl x2, .inl x3, .inl x4, .inl x5, .inl x6, .inl x7, .inl x8, .inr (.inr (.inr ())), .inr (.inr (.inr ())), .inr (.inr (.inr ()))] [] M) (h : WX12_areNear_337 M H3 H28 (fun r => R (some (.inl r)) M) x1 x2 x3 x4 x5 x6 x7 x8 xs0) : f_E sh t YX12_areNear rm cs (f_Q sh t R) 337 [.inr (.inr (.inl (12, 123, 4456))), .inl x1, .inl x2, .inl x3, .inl x4, .inl x5, .inl x6, .inl x7, .inl x8, .inr (.inr (.inr ())), .inr (.inr (.inr ())), .inr (.inr (.inr ()))] [.inl xs0] M :=
  BX12_areNear_337 C (fun x1 x2 x3 x4 x5 x6 x7 x8 h => PX12_areNear_346 C g3 g28 h) h
theorem PX12_areNear_28 {sh : Nat → Nat × Nat} {t : Nat} {rm : Nat × Nat × Nat} {cs : Nat × Nat} {R : f_Rt} {H3 : Int → Int → Int → Int → Int → Prop} {M : e_M} (C : f_Hy sh t yX12_areNear rm cs 5 (lX12_areNear WX12_turn) R) (g3 : ∀ (x1 : Int) (x2 : Int) (x3 : Int) (x4 : Int) (x5 : Int), H3 x1 x2 x3 x4 x5 → f_E sh t YX12_areNear rm cs (f_Q sh t R) 3 [.inr (.inr (.inl (12, 123, 4456))), .inl x1, .inl x2, .inl x3, .inl x4, .inl x5, .inr (.inr (.inr ())), .inr (.inr (.inr ())), .inr (.inr (.inr ())), .inr (.inr (.inr ())), .inr (.inr (.inr ())), .inr (.inr (.inr ()))] [] M) : ∀ (n : Nat) (x1 : Int) (x2 : Int) (x3 : Int) (x4 : Int) (x5 : Int) (x6 : Int) (x7 : Int) (x8 : Int), WX12_areNear_28 M H3 (fun r => R (some (.inl r)) M) n x1 x2 x3 x4 x5 x6 x7 x8 → f_E sh t YX12_areNear rm cs (f_Q sh t R) 28 [.inr (.inr (.inl (12, 123, 4456))), .inl x1, .inl x2, .inl x3, .inl x4, .inl x5, .inl x6, .inl x7, .inl x8, .inr (.inr (.inr ())), .inr (.inr (.inr ())), .inr (.inr (.inr ()))] [] M := by
  intro n
  induction n with
  | zero => intro x1 x2 x3 x4 x5 x6 x7 x8 h; exact h.elim
  | succ n ih => intro x1 x2 x3 x4 x5 x6 x7 x8 h; exact BX12_areNear_28 C g3 (fun x1 x2 x3 x4 x5 x6 x7 x8 h => PX12_areNear_346 C g3 ih h) (fun x1 x2 x3 x4 x5 x6 x7 x8 xs0 h => PX12_areNear_337 C g3 ih h) h
theorem PX12_areNear_3 {sh : Nat → Nat × Nat} {t : Nat} {rm : Nat × Nat × Nat} {cs : Nat × Nat} {R : f_Rt} {M : e_M} (C : f_Hy sh t yX12_areNear rm cs 5 (lX12_areNear WX12_turn) R) : ∀ (n : Nat) (x1 : Int) (x2 : Int) (x3 : Int) (x4 : Int) (x5 : Int), WX12_areNear_3 M (fun r => R (some (.inl r)) M) n x1 x2 x3 x4 x5 → f_E sh t YX12_areNear rm cs (f_Q sh t R) 3 [.inr (.inr (.inl (12, 123, 4456))), .inl x1, .inl x2, .inl x3, .inl x4, .inl x5, .inr (.inr (.inr ())), .inr (.inr (.inr ())), .inr (.inr (.inr ())), .inr (.inr (.inr ())), .inr (.inr (.inr ())), .inr (.inr (.inr ()))] [] M := by
  intro n
  induction n with
  | zero => intro x1 x2 x3 x4 x5 h; exact h.elim
  | succ n ih => intro x1 x2 x3 x4 x5 h; exact BX12_areNear_3 C (fun x1 x2 x3 x4 x5 x6 x7 x8 ⟨j, h⟩ => PX12_areNear_28 C ih j _ _ _ _ _ _ _ _ h) h
theorem PX12_areNear {sh : Nat → Nat × Nat} {t : Nat} {rm : Nat × Nat × Nat} {cs : Nat × Nat} {R : f_Rt} {x1 : Int} {x2 : Int} {x3 : Int} {x4 : Int} {M : e_M} (C : f_Hy sh t yX12_areNear rm cs 5 (lX12_areNear WX12_turn) R) (h : WX12_areNear x1 x2 x3 x4 M (fun r => R (some (.inl r)) M)) : f_E sh t YX12_areNear rm cs (f_Q sh t R) 0 [.inr (.inr (.inl (12, 123, 4456))), .inl x1, .inl x2, .inl x3, .inl x4, .inr (.inr (.inr ())), .inr (.inr (.inr ())), .inr (.inr (.inr ())), .inr (.inr (.inr ())), .inr (.inr (.inr ())), .inr (.inr (.inr ())), .inr (.inr (.inr ()))] [] M :=
  BX12_areNear C (fun x1 x2 x3 x4 x5 ⟨j, h⟩ => PX12_areNear_3 C j _ _ _ _ _ h) h
def wX12_areNear : f_Wt := f_wm [(4466, 12, 123), (1, 0, 0), (1, 0, 0), (1, 0, 0), (1, 0, 0)] (fun ar M R => WX12_areNear (f_vi (f_nth ar 1)) (f_vi (f_nth ar 2)) (f_vi (f_nth ar 3)) (f_vi (f_nth ar 4)) M (fun r => R (some (.inl r)) M))
theorem TX12_areNear {sh : Nat → Nat × Nat} {t : Nat} : f_Mt sh t YX12_areNear 5 (wX12_areNear) :=
  f_Mt_of (k := 7) (Nat.le_of_ble_eq_true rfl) rfl rfl (fun ar M R rm cs h1 h2 h3 hX h => PX12_areNear ⟨Nat.le_of_ble_eq_true rfl, h1, h2, h3, ⟨(f_Mt.up (Nat.le_of_ble_eq_true rfl) TX12_turn), trivial⟩, hX⟩ h)
def VX12_id (Q : Int → Prop) (x0 : Int) (x1 : Int) (M : e_M) : Prop :=
  (Q (e_w32 ((e_w32 ((80 : Int) * x0)) + x1)))
def yX12_id (i : Nat) : e_Y := x_get YX12_id [] i
def pX12_idf : List x_I := [(0, 0, 2, 0, 0, 80, []), (2, 2, 1, 0, 0, 0, []), (3, 9, 0, 2, 0, 0, []), (4, 2, 1, 1, 0, 0, []), (5, 9, 0, 0, 0, 0, []), (6, 41, 0, 0, 0, 0, [])]
set_option maxRecDepth 20000 in
theorem qX12_idf : f_all yX12_id YX12_id pX12_idf :=
  ⟨f_bipush (e_dx DX12_id_0 0 rfl) ⟨by decide, by decide⟩,
  f_iload_n (n := 0) (e_dx DX12_id_0 1 rfl) rfl,
  f_imul (e_dx DX12_id_0 2 rfl),
  f_iload_n (n := 1) (e_dx DX12_id_0 3 rfl) rfl,
  f_iadd (e_dx DX12_id_0 4 rfl),
  ⟨(e_dx DX12_id_0 5 rfl), rfl⟩, trivial⟩
def lX12_id : List (Nat × f_Wt) := []
set_option maxRecDepth 20000 in
theorem BX12_id {sh : Nat → Nat × Nat} {t : Nat} {rm : Nat × Nat × Nat} {cs : Nat × Nat} {R : f_Rt} {x0 : Int} {x1 : Int} {M : e_M} (C : f_Hy sh t yX12_id rm cs 4 (lX12_id) R) (h : VX12_id (fun r => R (some (.inl r)) M) x0 x1 M) : f_E sh t YX12_id rm cs (f_Q sh t R) 0 [.inl x0, .inl x1] [] M :=
  f_go (KC := f_kc []) C qX12_idf f_kc_nil 8 0 h
def WX12_id (x0 : Int) (x1 : Int) (M : e_M) (Q : Int → Prop) : Prop :=
  VX12_id Q x0 x1 M
theorem PX12_id {sh : Nat → Nat × Nat} {t : Nat} {rm : Nat × Nat × Nat} {cs : Nat × Nat} {R : f_Rt} {x0 : Int} {x1 : Int} {M : e_M} (C : f_Hy sh t yX12_id rm cs 4 (lX12_id) R) (h : WX12_id x0 x1 M (fun r => R (some (.inl r)) M)) : f_E sh t YX12_id rm cs (f_Q sh t R) 0 [.inl x0, .inl x1] [] M :=
  BX12_id C h
def wX12_id : f_Wt := f_wm [(1, 0, 0), (1, 0, 0)] (fun ar M R => WX12_id (f_vi (f_nth ar 0)) (f_vi (f_nth ar 1)) M (fun r => R (some (.inl r)) M))
theorem TX12_id {sh : Nat → Nat × Nat} {t : Nat} : f_Mt sh t YX12_id 4 (wX12_id) :=
  f_Mt_of (k := 0) (Nat.le_of_ble_eq_true rfl) rfl rfl (fun ar M R rm cs h1 h2 h3 hX h => PX12_id ⟨Nat.le_of_ble_eq_true rfl, h1, h2, h3, trivial, hX⟩ h)
def VX12_make_152 (c_X12_id : Int → Int → e_M → (Int → Prop) → Prop) (Q : Int → e_M → Prop) (x1 : Int) (x4 : Int) (M : e_M) : Prop :=
  ((¬ x1 = 3 → (Q x4 M)) ∧ (x1 = 3 → ((0 ≤ x4 ∧ x4 < 80) ∧ (∀ M1 : e_M, M1 = e_up M 4503 (x4.toNat) 0 → (Q x4 M1)))))
def VX12_make (c_X12_id : Int → Int → e_M → (Int → Prop) → Prop) (k152 : Int → Int → e_M → Prop) (Q : Int → e_M → Prop) (x1 : Int) (x2 : Int) (M : e_M) : Prop :=
  ((0 ≤ x1 ∧ x1 < 7) ∧ ((0 ≤ x1 ∧ x1 < 7) ∧ ((0 ≤ x1 ∧ x1 < 7) ∧ (∀ M1 : e_M, M1 = e_up M 4483 (x1.toNat) (e_w32 ((M 4483 (x1.toNat)) + 1)) → (c_X12_id x1 (M 4483 (x1.toNat)) M1 (fun r2 => ((0 ≤ r2 ∧ r2 < 560) ∧ (∀ M3 : e_M, M3 = e_up M1 4484 (r2.toNat) x2 → (((0 ≤ r2 ∧ r2 < 560) ∧ ((0 : Int) = 0 ∨ (0 : Int) = 1)) ∧ (∀ M4 : e_M, M4 = e_up M3 4485 (r2.toNat) 0 → ((0 ≤ r2 ∧ r2 < 560) ∧ (∀ M5 : e_M, M5 = e_up M4 4486 (r2.toNat) (M4 4456 86) → ((0 ≤ r2 ∧ r2 < 560) ∧ (∀ M6 : e_M, M6 = e_up M5 4487 (r2.toNat) 2147483647 → ((0 ≤ r2 ∧ r2 < 560) ∧ (∀ M7 : e_M, M7 = e_up M6 4488 (r2.toNat) (M6 4456 85) → (∀ M8 : e_M, M8 = e_up M7 4456 85 (e_w32 ((M7 4456 85) + 1)) → ((0 ≤ r2 ∧ r2 < 560) ∧ (∀ M9 : e_M, M9 = e_up M8 4489 (r2.toNat) (-1) → ((0 ≤ r2 ∧ r2 < 560) ∧ (∀ M10 : e_M, M10 = e_up M9 4490 (r2.toNat) 0 → ((0 ≤ r2 ∧ r2 < 560) ∧ (∀ M11 : e_M, M11 = e_up M10 4491 (r2.toNat) 0 → ((0 ≤ r2 ∧ r2 < 560) ∧ (∀ M12 : e_M, M12 = e_up M11 4492 (r2.toNat) 0 → ((0 ≤ r2 ∧ r2 < 560) ∧ (∀ M13 : e_M, M13 = e_up M12 4494 (r2.toNat) 0 → ((¬ x1 = 0 → (k152 x1 (M 4483 (x1.toNat)) M13)) ∧ (x1 = 0 → ((0 ≤ (M 4483 (x1.toNat)) ∧ (M 4483 (x1.toNat)) < 80) ∧ (∀ M14 : e_M, M14 = e_up M13 4496 ((M 4483 (x1.toNat)).toNat) 0 → ((0 ≤ (M 4483 (x1.toNat)) ∧ (M 4483 (x1.toNat)) < 80) ∧ (∀ M15 : e_M, M15 = e_up M14 4497 ((M 4483 (x1.toNat)).toNat) 0 → ((0 ≤ (M 4483 (x1.toNat)) ∧ (M 4483 (x1.toNat)) < 80) ∧ (∀ M16 : e_M, M16 = e_up M15 4499 ((M 4483 (x1.toNat)).toNat) 0 → (k152 x1 (M 4483 (x1.toNat)) M16))))))))))))))))))))))))))))))))))))
def yX12_make (i : Nat) : e_Y := x_get YX12_make [YX12_id] i
def pX12_makef : List x_I := [(0, 4, 1, 0, 0, 0, []), (1, 25, 12, 50, 4, 0, [(0, 20, 7), (0, 1, 27)]), (4, 2, 1, 1, 0, 0, []), (5, 27, 0, 0, 0, 0, []), (6, 5, 2, 4, 0, 0, []), (8, 4, 1, 0, 0, 0, []), (9, 25, 12, 50, 4, 0, [(0, 20, 7), (0, 1, 27)]), (12, 2, 1, 1, 0, 0, []), (13, 23, 0, 0, 0, 0, []), (14, 27, 0, 0, 0, 0, []), (15, 0, 1, 0, 0, 1, []), (16, 9, 0, 0, 0, 0, []), (17, 28, 0, 0, 0, 0, []), (18, 2, 1, 1, 0, 0, []), (19, 2, 2, 4, 0, 0, []), (21, 40, 0, 2, 0, 0, []), (24, 5, 2, 5, 0, 0, []), (26, 4, 1, 0, 0, 0, []), (27, 25, 12, 51, 4, 0, [(0, 23, 560), (0, 1, 28)]), (30, 2, 2, 5, 0, 0, []), (32, 3, 1, 2, 0, 0, []), (33, 28, 0, 1, 0, 0, []), (34, 4, 1, 0, 0, 0, []), (35, 25, 12, 52, 4, 0, [(0, 21, 560), (0, 1, 29)]), (38, 2, 2, 5, 0, 0, []), (40, 0, 1, 0, 0, 0, []), (41, 29, 0, 0, 0, 0, []), (42, 4, 1, 0, 0, 0, []), (43, 25, 12, 53, 4, 0, [(0, 20, 560), (0, 1, 30)]), (46, 2, 2, 5, 0, 0, []), (48, 4, 1, 0, 0, 0, []), (49, 25, 12, 86, 0, 0, []), (52, 28, 0, 0, 0, 0, []), (53, 4, 1, 0, 0, 0, []), (54, 25, 12, 54, 4, 0, [(0, 20, 560), (0, 1, 31)]), (57, 2, 2, 5, 0, 0, []), (59, 0, 3, 0, 0, 2147483647, []), (62, 28, 0, 0, 0, 0, []), (63, 4, 1, 0, 0, 0, []), (64, 25, 12, 55, 4, 0, [(0, 20, 560), (0, 1, 32)]), (67, 2, 2, 5, 0, 0, []), (69, 4, 1, 0, 0, 0, []), (70, 25, 12, 85, 0, 0, []), (73, 28, 0, 0, 0, 0, []), (74, 4, 1, 0, 0, 0, []), (75, 20, 0, 0, 0, 0, []), (76, 25, 12, 85, 0, 0, []), (79, 0, 1, 0, 0, 1, []), (80, 9, 0, 0, 0, 0, []), (81, 26, 12, 85, 0, 0, []), (84, 4, 1, 0, 0, 0, []), (85, 25, 12, 56, 4, 0, [(0, 20, 560), (0, 1, 33)]), (88, 2, 2, 5, 0, 0, []), (90, 0, 1, 0, 0, (-1), []), (91, 28, 0, 0, 0, 0, []), (92, 4, 1, 0, 0, 0, []), (93, 25, 12, 57, 4, 0, [(0, 20, 560), (0, 1, 34)]), (96, 2, 2, 5, 0, 0, []), (98, 0, 1, 0, 0, 0, []), (99, 28, 0, 0, 0, 0, []), (100, 4, 1, 0, 0, 0, []), (101, 25, 12, 58, 4, 0, [(0, 20, 560), (0, 1, 35)]), (104, 2, 2, 5, 0, 0, []), (106, 0, 1, 0, 0, 0, []), (107, 28, 0, 0, 0, 0, []), (108, 4, 1, 0, 0, 0, []), (109, 25, 12, 59, 4, 0, [(0, 20, 560), (0, 1, 36)]), (112, 2, 2, 5, 0, 0, []), (114, 0, 1, 0, 0, 0, []), (115, 28, 0, 0, 0, 0, []), (116, 4, 1, 0, 0, 0, []), (117, 25, 12, 61, 4, 0, [(0, 20, 560), (0, 1, 38)]), (120, 2, 2, 5, 0, 0, []), (122, 0, 1, 0, 0, 0, []), (123, 28, 0, 0, 0, 0, []), (124, 2, 1, 1, 0, 0, []), (125, 17, 152, 1, 93, 0, []), (128, 4, 1, 0, 0, 0, []), (129, 25, 12, 63, 4, 0, [(0, 20, 80), (0, 1, 40)]), (132, 2, 2, 4, 0, 0, []), (134, 0, 1, 0, 0, 0, []), (135, 28, 0, 0, 0, 0, []), (136, 4, 1, 0, 0, 0, []), (137, 25, 12, 64, 4, 0, [(0, 20, 80), (0, 1, 41)]), (140, 2, 2, 4, 0, 0, []), (142, 0, 1, 0, 0, 0, []), (143, 28, 0, 0, 0, 0, []), (144, 4, 1, 0, 0, 0, []), (145, 25, 12, 66, 4, 0, [(0, 20, 80), (0, 1, 43)]), (148, 2, 2, 4, 0, 0, []), (150, 0, 1, 0, 0, 0, []), (151, 28, 0, 0, 0, 0, []), (152, 49, 0, 0, 0, 0, []), (152, 2, 1, 1, 0, 0, []), (153, 0, 1, 0, 0, 3, []), (154, 18, 165, 1, 102, 0, []), (157, 4, 1, 0, 0, 0, []), (158, 25, 12, 70, 4, 0, [(0, 20, 80), (0, 1, 47)]), (161, 2, 2, 4, 0, 0, []), (163, 0, 1, 0, 0, 0, []), (164, 28, 0, 0, 0, 0, []), (165, 2, 2, 4, 0, 0, []), (167, 41, 0, 0, 0, 0, [])]
set_option maxRecDepth 20000 in
theorem qX12_makef : f_all yX12_make YX12_make pX12_makef :=
  ⟨f_aload_n (n := 0) (e_dx DX12_make_0 0 rfl) rfl,
  f_getA (e_dx DX12_make_0 1 rfl) fX12_91 rfl (by decide) (Nat.le_of_ble_eq_true rfl) rfl (by decide),
  f_iload_n (n := 1) (e_dx DX12_make_0 2 rfl) rfl,
  f_iaload (e_dx DX12_make_0 3 rfl),
  f_istore (e_dx DX12_make_0 4 rfl) (by decide),
  f_aload_n (n := 0) (e_dx DX12_make_0 5 rfl) rfl,
  f_getA (e_dx DX12_make_0 6 rfl) fX12_91 rfl (by decide) (Nat.le_of_ble_eq_true rfl) rfl (by decide),
  f_iload_n (n := 1) (e_dx DX12_make_0 7 rfl) rfl,
  f_g23 (e_dx DX12_make_0 8 rfl),
  f_iaload (e_dx DX12_make_0 9 rfl),
  f_iconst (e_dx DX12_make_0 10 rfl) ⟨by decide, by decide⟩,
  f_iadd (e_dx DX12_make_0 11 rfl),
  f_iastore (e_dx DX12_make_0 12 rfl),
  f_iload_n (n := 1) (e_dx DX12_make_0 13 rfl) rfl,
  f_iload (e_dx DX12_make_0 14 rfl),
  x_callS (e_dx DX12_make_0 15 rfl) mwX12_id cX12_540 swX12_id rfl,
  f_istore (e_dx DX12_make_0 16 rfl) (by decide),
  f_aload_n (n := 0) (e_dx DX12_make_0 17 rfl) rfl,
  f_getA (e_dx DX12_make_0 18 rfl) fX12_94 rfl (by decide) (Nat.le_of_ble_eq_true rfl) rfl (by decide),
  f_iload (e_dx DX12_make_0 19 rfl),
  f_lload_n (n := 2) (e_dx DX12_make_0 20 rfl) rfl,
  f_lastore (e_dx DX12_make_0 21 rfl),
  f_aload_n (n := 0) (e_dx DX12_make_0 22 rfl) rfl,
  f_getA (e_dx DX12_make_0 23 rfl) fX12_97 rfl (by decide) (Nat.le_of_ble_eq_true rfl) rfl (by decide),
  f_iload (e_dx DX12_make_0 24 rfl),
  f_iconst (e_dx DX12_make_0 25 rfl) ⟨by decide, by decide⟩,
  f_g29 (e_dx DX12_make_0 26 rfl),
  f_aload_n (n := 0) (e_dx DX12_make_0 27 rfl) rfl,
  f_getA (e_dx DX12_make_0 28 rfl) fX12_100 rfl (by decide) (Nat.le_of_ble_eq_true rfl) rfl (by decide),
  f_iload (e_dx DX12_make_0 29 rfl),
  f_aload_n (n := 0) (e_dx DX12_make_0 30 rfl) rfl,
  f_getf (e_dx DX12_make_0 31 rfl) fX12_543 rfl (by decide) (by decide) (by decide),
  f_iastore (e_dx DX12_make_0 32 rfl),
  f_aload_n (n := 0) (e_dx DX12_make_0 33 rfl) rfl,
  f_getA (e_dx DX12_make_0 34 rfl) fX12_103 rfl (by decide) (Nat.le_of_ble_eq_true rfl) rfl (by decide),
  f_iload (e_dx DX12_make_0 35 rfl),
  f_ldcw (e_dx DX12_make_0 36 rfl) hX12_548 rfl ⟨by decide, by decide⟩,
  f_iastore (e_dx DX12_make_0 37 rfl),
  f_aload_n (n := 0) (e_dx DX12_make_0 38 rfl) rfl,
  f_getA (e_dx DX12_make_0 39 rfl) fX12_106 rfl (by decide) (Nat.le_of_ble_eq_true rfl) rfl (by decide),
  f_iload (e_dx DX12_make_1 0 rfl),
  f_aload_n (n := 0) (e_dx DX12_make_1 1 rfl) rfl,
  f_getf (e_dx DX12_make_1 2 rfl) fX12_529 rfl (by decide) (by decide) (by decide),
  f_iastore (e_dx DX12_make_1 3 rfl),
  f_aload_n (n := 0) (e_dx DX12_make_1 4 rfl) rfl,
  f_g20 (e_dx DX12_make_1 5 rfl),
  f_getf (e_dx DX12_make_1 6 rfl) fX12_529 rfl (by decide) (by decide) (by decide),
  f_iconst (e_dx DX12_make_1 7 rfl) ⟨by decide, by decide⟩,
  f_iadd (e_dx DX12_make_1 8 rfl),
  f_putn (e_dx DX12_make_1 9 rfl) fX12_529 (fun q hq => by cases hq; rfl) rfl (Or.inl rfl) (by decide),
  f_aload_n (n := 0) (e_dx DX12_make_1 10 rfl) rfl,
  f_getA (e_dx DX12_make_1 11 rfl) fX12_109 rfl (by decide) (Nat.le_of_ble_eq_true rfl) rfl (by decide),
  f_iload (e_dx DX12_make_1 12 rfl),
  f_iconst (e_dx DX12_make_1 13 rfl) ⟨by decide, by decide⟩,
  f_iastore (e_dx DX12_make_1 14 rfl),
  f_aload_n (n := 0) (e_dx DX12_make_1 15 rfl) rfl,
  f_getA (e_dx DX12_make_1 16 rfl) fX12_112 rfl (by decide) (Nat.le_of_ble_eq_true rfl) rfl (by decide),
  f_iload (e_dx DX12_make_1 17 rfl),
  f_iconst (e_dx DX12_make_1 18 rfl) ⟨by decide, by decide⟩,
  f_iastore (e_dx DX12_make_1 19 rfl),
  f_aload_n (n := 0) (e_dx DX12_make_1 20 rfl) rfl,
  f_getA (e_dx DX12_make_1 21 rfl) fX12_115 rfl (by decide) (Nat.le_of_ble_eq_true rfl) rfl (by decide),
  f_iload (e_dx DX12_make_1 22 rfl),
  f_iconst (e_dx DX12_make_1 23 rfl) ⟨by decide, by decide⟩,
  f_iastore (e_dx DX12_make_1 24 rfl),
  f_aload_n (n := 0) (e_dx DX12_make_1 25 rfl) rfl,
  f_getA (e_dx DX12_make_1 26 rfl) fX12_118 rfl (by decide) (Nat.le_of_ble_eq_true rfl) rfl (by decide),
  f_iload (e_dx DX12_make_1 27 rfl),
  f_iconst (e_dx DX12_make_1 28 rfl) ⟨by decide, by decide⟩,
  f_iastore (e_dx DX12_make_1 29 rfl),
  f_aload_n (n := 0) (e_dx DX12_make_1 30 rfl) rfl,
  f_getA (e_dx DX12_make_1 31 rfl) fX12_124 rfl (by decide) (Nat.le_of_ble_eq_true rfl) rfl (by decide),
  f_iload (e_dx DX12_make_1 32 rfl),
  f_iconst (e_dx DX12_make_1 33 rfl) ⟨by decide, by decide⟩,
  f_iastore (e_dx DX12_make_1 34 rfl),
  f_iload_n (n := 1) (e_dx DX12_make_1 35 rfl) rfl,
  f_if_ne (e_dx DX12_make_1 36 rfl) rfl,
  f_aload_n (n := 0) (e_dx DX12_make_1 37 rfl) rfl,
  f_getA (e_dx DX12_make_1 38 rfl) fX12_130 rfl (by decide) (Nat.le_of_ble_eq_true rfl) rfl (by decide),
  f_iload (e_dx DX12_make_1 39 rfl),
  f_iconst (e_dx DX12_make_2 0 rfl) ⟨by decide, by decide⟩,
  f_iastore (e_dx DX12_make_2 1 rfl),
  f_aload_n (n := 0) (e_dx DX12_make_2 2 rfl) rfl,
  f_getA (e_dx DX12_make_2 3 rfl) fX12_133 rfl (by decide) (Nat.le_of_ble_eq_true rfl) rfl (by decide),
  f_iload (e_dx DX12_make_2 4 rfl),
  f_iconst (e_dx DX12_make_2 5 rfl) ⟨by decide, by decide⟩,
  f_iastore (e_dx DX12_make_2 6 rfl),
  f_aload_n (n := 0) (e_dx DX12_make_2 7 rfl) rfl,
  f_getA (e_dx DX12_make_2 8 rfl) fX12_139 rfl (by decide) (Nat.le_of_ble_eq_true rfl) rfl (by decide),
  f_iload (e_dx DX12_make_2 9 rfl),
  f_iconst (e_dx DX12_make_2 10 rfl) ⟨by decide, by decide⟩,
  f_iastore (e_dx DX12_make_2 11 rfl),
  trivial,
  f_iload_n (n := 1) (e_dx DX12_make_2 12 rfl) rfl,
  f_iconst (e_dx DX12_make_2 13 rfl) ⟨by decide, by decide⟩,
  f_icmp_ne (e_dx DX12_make_2 14 rfl) rfl,
  f_aload_n (n := 0) (e_dx DX12_make_2 15 rfl) rfl,
  f_getA (e_dx DX12_make_2 16 rfl) fX12_151 rfl (by decide) (Nat.le_of_ble_eq_true rfl) rfl (by decide),
  f_iload (e_dx DX12_make_2 17 rfl),
  f_iconst (e_dx DX12_make_2 18 rfl) ⟨by decide, by decide⟩,
  f_iastore (e_dx DX12_make_2 19 rfl),
  f_iload (e_dx DX12_make_2 20 rfl),
  ⟨(e_dx DX12_make_2 21 rfl), rfl⟩, trivial⟩
def lX12_make (c_X12_id : Int → Int → e_M → (Int → Prop) → Prop) : List (Nat × f_Wt) := [(0, f_wm [(1, 0, 0), (1, 0, 0)] (fun ar M R => c_X12_id (f_vi (f_nth ar 0)) (f_vi (f_nth ar 1)) M (fun r => R (some (.inl r)) M)))]
set_option maxRecDepth 20000 in
theorem BX12_make_152 {sh : Nat → Nat × Nat} {t : Nat} {rm : Nat × Nat × Nat} {cs : Nat × Nat} {R : f_Rt} {c_X12_id : Int → Int → e_M → (Int → Prop) → Prop} {x1 : Int} {x4 : Int} {M : e_M} (C : f_Hy sh t yX12_make rm cs 5 (lX12_make c_X12_id) R) (h : VX12_make_152 c_X12_id (fun r M => R (some (.inl r)) M) x1 x4 M) : f_E sh t YX12_make rm cs (f_Q sh t R) 152 [.inr (.inr (.inl (12, 123, 4456))), .inl x1, .inr (.inr (.inr ())), .inr (.inr (.inr ())), .inl x4, .inr (.inr (.inr ()))] [] M :=
  f_go (KC := f_kc []) C qX12_makef f_kc_nil 105 93 h
set_option maxRecDepth 20000 in
theorem BX12_make {sh : Nat → Nat × Nat} {t : Nat} {rm : Nat × Nat × Nat} {cs : Nat × Nat} {R : f_Rt} {c_X12_id : Int → Int → e_M → (Int → Prop) → Prop} {k152 : Int → Int → e_M → Prop} {x1 : Int} {x2 : Int} {M : e_M} (C : f_Hy sh t yX12_make rm cs 5 (lX12_make c_X12_id) R) (h152 : ∀ (x1 : Int) (x4 : Int) (M : e_M), k152 x1 x4 M → f_E sh t YX12_make rm cs (f_Q sh t R) 152 [.inr (.inr (.inl (12, 123, 4456))), .inl x1, .inr (.inr (.inr ())), .inr (.inr (.inr ())), .inl x4, .inr (.inr (.inr ()))] [] M) (h : VX12_make c_X12_id k152 (fun r M => R (some (.inl r)) M) x1 x2 M) : f_E sh t YX12_make rm cs (f_Q sh t R) 0 [.inr (.inr (.inl (12, 123, 4456))), .inl x1, .inr (.inl x2), .inr (.inr (.inr ())), .inr (.inr (.inr ())), .inr (.inr (.inr ()))] [] M :=
  f_go (KC := f_kc [(152, f_pl [(4466, 12, 123), (1, 0, 0), (0, 0, 0), (0, 0, 0), (1, 0, 0), (0, 0, 0)] [] (fun ls st M => k152 (f_vi (f_nth ls 1)) (f_vi (f_nth ls 4)) M))]) C qX12_makef (f_kc_cons (f_pl_ok rfl (fun ls st M h => h152 _ _ M h)) f_kc_nil) 105 0 h
def WX12_make_152 (Q : Int → e_M → Prop) (x1 : Int) (x4 : Int) (M : e_M) : Prop :=
  VX12_make_152 WX12_id Q x1 x4 M
def WX12_make (x1 : Int) (x2 : Int) (M : e_M) (Q : Int → e_M → Prop) : Prop :=
  VX12_make WX12_id (WX12_make_152 Q) Q x1 x2 M
theorem PX12_make_152 {sh : Nat → Nat × Nat} {t : Nat} {rm : Nat × Nat × Nat} {cs : Nat × Nat} {R : f_Rt} {x1 : Int} {x4 : Int} {M : e_M} (C : f_Hy sh t yX12_make rm cs 5 (lX12_make WX12_id) R) (h : WX12_make_152 (fun r M => R (some (.inl r)) M) x1 x4 M) : f_E sh t YX12_make rm cs (f_Q sh t R) 152 [.inr (.inr (.inl (12, 123, 4456))), .inl x1, .inr (.inr (.inr ())), .inr (.inr (.inr ())), .inl x4, .inr (.inr (.inr ()))] [] M :=
  BX12_make_152 C h
theorem PX12_make {sh : Nat → Nat × Nat} {t : Nat} {rm : Nat × Nat × Nat} {cs : Nat × Nat} {R : f_Rt} {x1 : Int} {x2 : Int} {M : e_M} (C : f_Hy sh t yX12_make rm cs 5 (lX12_make WX12_id) R) (h : WX12_make x1 x2 M (fun r M => R (some (.inl r)) M)) : f_E sh t YX12_make rm cs (f_Q sh t R) 0 [.inr (.inr (.inl (12, 123, 4456))), .inl x1, .inr (.inl x2), .inr (.inr (.inr ())), .inr (.inr (.inr ())), .inr (.inr (.inr ()))] [] M :=
  BX12_make C (fun x1 x4 M h => PX12_make_152 C h) h
def wX12_make : f_Wt := f_wm [(4466, 12, 123), (1, 0, 0), (2, 0, 0)] (fun ar M R => WX12_make (f_vi (f_nth ar 1)) (f_vi (f_nth ar 2)) M (fun r M => R (some (.inl r)) M))
theorem TX12_make {sh : Nat → Nat × Nat} {t : Nat} : f_Mt sh t YX12_make 5 (wX12_make) :=
  f_Mt_of (k := 2) (Nat.le_of_ble_eq_true rfl) rfl rfl (fun ar M R rm cs h1 h2 h3 hX h => PX12_make ⟨Nat.le_of_ble_eq_true rfl, h1, h2, h3, ⟨(f_Mt.up (Nat.le_of_ble_eq_true rfl) TX12_id), trivial⟩, hX⟩ h)
def VX12_empty_2 (c_X12_make : Int → Int → e_M → (Int → e_M → Prop) → Prop) (c_X12_id : Int → Int → e_M → (Int → Prop) → Prop) (k42 : Int → Int → e_M → Prop) (k2 : Int → e_M → Prop) (Q : e_M → Prop) (x1 : Int) (M : e_M) : Prop :=
  ((7 ≤ x1 → (∀ M1 : e_M, M1 = e_up M 4456 73 0 → (∀ M2 : e_M, M2 = e_up M1 4456 85 0 → (c_X12_make 0 7809644604612935680 M2 (fun r3 M4 => (k42 r3 0 M4)))))) ∧ (x1 < 7 → ((0 ≤ x1 ∧ x1 < 7) ∧ (∀ M5 : e_M, M5 = e_up M 4483 (x1.toNat) 0 → (k2 (e_w32 (x1 + 1)) M5)))))
def VX12_empty_42 (c_X12_make : Int → Int → e_M → (Int → e_M → Prop) → Prop) (c_X12_id : Int → Int → e_M → (Int → Prop) → Prop) (k62 : Int → Int → Int → e_M → Prop) (k69 : Int → Int → Int → Int → e_M → Prop) (Q : e_M → Prop) (x1 : Int) (x2 : Int) (M : e_M) : Prop :=
  ((4 ≤ x2 → ((0 ≤ x1 ∧ x1 < 80) ∧ (∀ M1 : e_M, M1 = e_up M 4496 (x1.toNat) 4 → ((0 ≤ x1 ∧ x1 < 80) ∧ (∀ M2 : e_M, M2 = e_up M1 4497 (x1.toNat) 1 → ((0 ≤ (0 : Int) ∧ (0 : Int) < 640) ∧ (∀ M3 : e_M, M3 = e_up M2 4498 ((0 : Int).toNat) 0 → ((0 ≤ (0 : Int) ∧ (0 : Int) < 640) ∧ (∀ M4 : e_M, M4 = e_up M3 4501 ((0 : Int).toNat) 1 → ((0 ≤ (0 : Int) ∧ (0 : Int) < 640) ∧ (∀ M5 : e_M, M5 = e_up M4 4502 ((0 : Int).toNat) 1 → (c_X12_make 1 7165912515837165568 M5 (fun r6 M7 => (c_X12_id 1 r6 M7 (fun r8 => ((0 ≤ r8 ∧ r8 < 560) ∧ (∀ M9 : e_M, M9 = e_up M7 4491 (r8.toNat) 2 → (Q M9)))))))))))))))))) ∧ (x2 < 4 → ((x2 = 1 → (k62 x1 x2 x2 M)) ∧ (¬ x2 = 1 → ((¬ x2 = 2 → (k69 x1 x2 0 x2 M)) ∧ (x2 = 2 → (k62 x1 x2 x2 M)))))))
def VX12_empty_62 (c_X12_make : Int → Int → e_M → (Int → e_M → Prop) → Prop) (c_X12_id : Int → Int → e_M → (Int → Prop) → Prop) (k69 : Int → Int → Int → Int → e_M → Prop) (Q : e_M → Prop) (x1 : Int) (x2 : Int) (xs1 : Int) (M : e_M) : Prop :=
  (k69 x1 x2 1000 xs1 M)
def VX12_empty_69 (c_X12_make : Int → Int → e_M → (Int → e_M → Prop) → Prop) (c_X12_id : Int → Int → e_M → (Int → Prop) → Prop) (k87 : Int → Int → Int → Int → e_M → Prop) (Q : e_M → Prop) (x1 : Int) (x2 : Int) (xs2 : Int) (xs1 : Int) (M : e_M) : Prop :=
  ((0 ≤ xs1 ∧ xs1 < 4800) ∧ (∀ M1 : e_M, M1 = e_up M 4480 (xs1.toNat) xs2 → ((x2 ≤ 1 → (k87 x1 x2 0 x2 M1)) ∧ (1 < x2 → (k87 x1 x2 1000 x2 M1)))))
def VX12_empty_87 (c_X12_make : Int → Int → e_M → (Int → e_M → Prop) → Prop) (c_X12_id : Int → Int → e_M → (Int → Prop) → Prop) (k42 : Int → Int → e_M → Prop) (Q : e_M → Prop) (x1 : Int) (x2 : Int) (xs2 : Int) (xs1 : Int) (M : e_M) : Prop :=
  ((0 ≤ xs1 ∧ xs1 < 4800) ∧ (∀ M1 : e_M, M1 = e_up M 4481 (xs1.toNat) xs2 → (k42 x1 (e_w32 (x2 + 1)) M1)))
def VX12_empty (c_X12_make : Int → Int → e_M → (Int → e_M → Prop) → Prop) (c_X12_id : Int → Int → e_M → (Int → Prop) → Prop) (k2 : Int → e_M → Prop) (Q : e_M → Prop) (M : e_M) : Prop :=
  (k2 0 M)
def yX12_empty (i : Nat) : e_Y := x_get YX12_empty [YX12_make, YX12_id] i
def pX12_emptyf : List x_I := [(0, 0, 1, 0, 0, 0, []), (1, 5, 1, 1, 0, 0, []), (2, 49, 0, 0, 0, 0, []), (2, 2, 1, 1, 0, 0, []), (3, 0, 2, 0, 0, 7, []), (5, 18, 21, 3, 14, 0, []), (8, 4, 1, 0, 0, 0, []), (9, 25, 12, 50, 4, 0, [(0, 20, 7), (0, 1, 27)]), (12, 2, 1, 1, 0, 0, []), (13, 0, 1, 0, 0, 0, []), (14, 28, 0, 0, 0, 0, []), (15, 8, 0, 1, 0, 1, []), (18, 19, 2, 0, 3, 0, []), (21, 4, 1, 0, 0, 0, []), (22, 0, 1, 0, 0, 0, []), (23, 26, 12, 73, 0, 0, []), (26, 4, 1, 0, 0, 0, []), (27, 0, 1, 0, 0, 0, []), (28, 26, 12, 85, 0, 0, []), (31, 4, 1, 0, 0, 0, []), (32, 0, 1, 0, 0, 0, []), (33, 1, 3, 0, 0, 7809644604612935680, []), (36, 40, 0, 3, 14, 0, []), (39, 5, 1, 1, 0, 0, []), (40, 0, 1, 0, 0, 0, []), (41, 5, 1, 2, 0, 0, []), (42, 49, 0, 0, 0, 0, []), (42, 2, 1, 2, 0, 0, []), (43, 0, 1, 0, 0, 4, []), (44, 18, 94, 3, 59, 0, []), (47, 4, 1, 0, 0, 0, []), (48, 25, 12, 40, 4, 0, [(0, 20, 4800), (0, 1, 24)]), (51, 2, 1, 2, 0, 0, []), (52, 2, 1, 2, 0, 0, []), (53, 0, 1, 0, 0, 1, []), (54, 18, 62, 0, 40, 0, []), (57, 2, 1, 2, 0, 0, []), (58, 0, 1, 0, 0, 2, []), (59, 18, 68, 1, 43, 0, []), (62, 49, 0, 0, 0, 0, []), (62, 0, 3, 0, 0, 1000, []), (65, 19, 69, 0, 44, 0, []), (68, 0, 1, 0, 0, 0, []), (69, 49, 0, 0, 0, 0, []), (69, 28, 0, 0, 0, 0, []), (70, 4, 1, 0, 0, 0, []), (71, 25, 12, 41, 4, 0, [(0, 20, 4800), (0, 1, 25)]), (74, 2, 1, 2, 0, 0, []), (75, 2, 1, 2, 0, 0, []), (76, 0, 1, 0, 0, 1, []), (77, 18, 86, 5, 54, 0, []), (80, 0, 3, 0, 0, 1000, []), (83, 19, 87, 0, 55, 0, []), (86, 0, 1, 0, 0, 0, []), (87, 49, 0, 0, 0, 0, []), (87, 28, 0, 0, 0, 0, []), (88, 8, 0, 2, 0, 1, []), (91, 19, 42, 0, 27, 0, []), (94, 4, 1, 0, 0, 0, []), (95, 25, 12, 63, 4, 0, [(0, 20, 80), (0, 1, 40)]), (98, 2, 1, 1, 0, 0, []), (99, 0, 1, 0, 0, 4, []), (100, 28, 0, 0, 0, 0, []), (101, 4, 1, 0, 0, 0, []), (102, 25, 12, 64, 4, 0, [(0, 20, 80), (0, 1, 41)]), (105, 2, 1, 1, 0, 0, []), (106, 0, 1, 0, 0, 1, []), (107, 28, 0, 0, 0, 0, []), (108, 4, 1, 0, 0, 0, []), (109, 25, 12, 65, 4, 0, [(0, 20, 640), (0, 1, 42)]), (112, 0, 1, 0, 0, 0, []), (113, 0, 1, 0, 0, 0, []), (114, 28, 0, 0, 0, 0, []), (115, 4, 1, 0, 0, 0, []), (116, 25, 12, 68, 4, 0, [(0, 23, 640), (0, 1, 45)]), (119, 0, 1, 0, 0, 0, []), (120, 1, 1, 0, 0, 1, []), (121, 28, 0, 1, 0, 0, []), (122, 4, 1, 0, 0, 0, []), (123, 25, 12, 69, 4, 0, [(0, 23, 640), (0, 1, 46)]), (126, 0, 1, 0, 0, 0, []), (127, 1, 1, 0, 0, 1, []), (128, 28, 0, 1, 0, 0, []), (129, 4, 1, 0, 0, 0, []), (130, 0, 1, 0, 0, 1, []), (131, 1, 3, 0, 0, 7165912515837165568, []), (134, 40, 0, 3, 14, 0, []), (137, 5, 1, 2, 0, 0, []), (138, 4, 1, 0, 0, 0, []), (139, 25, 12, 58, 4, 0, [(0, 20, 560), (0, 1, 35)]), (142, 0, 1, 0, 0, 1, []), (143, 2, 1, 2, 0, 0, []), (144, 40, 1, 2, 0, 0, []), (147, 0, 1, 0, 0, 2, []), (148, 28, 0, 0, 0, 0, []), (149, 44, 0, 0, 0, 0, [])]
set_option maxRecDepth 20000 in
theorem qX12_emptyf : f_all yX12_empty YX12_empty pX12_emptyf :=
  ⟨f_iconst (e_dx DX12_empty_0 0 rfl) ⟨by decide, by decide⟩,
  f_istore_n (n := 1) (e_dx DX12_empty_0 1 rfl) rfl (by decide),
  trivial,
  f_iload_n (n := 1) (e_dx DX12_empty_0 2 rfl) rfl,
  f_bipush (e_dx DX12_empty_0 3 rfl) ⟨by decide, by decide⟩,
  f_icmp_ge (e_dx DX12_empty_0 4 rfl) rfl,
  f_aload_n (n := 0) (e_dx DX12_empty_0 5 rfl) rfl,
  f_getA (e_dx DX12_empty_0 6 rfl) fX12_91 rfl (by decide) (Nat.le_of_ble_eq_true rfl) rfl (by decide),
  f_iload_n (n := 1) (e_dx DX12_empty_0 7 rfl) rfl,
  f_iconst (e_dx DX12_empty_0 8 rfl) ⟨by decide, by decide⟩,
  f_iastore (e_dx DX12_empty_0 9 rfl),
  f_g8 (e_dx DX12_empty_0 10 rfl) ⟨by decide, by decide⟩,
  f_g19 (e_dx DX12_empty_0 11 rfl) rfl,
  f_aload_n (n := 0) (e_dx DX12_empty_0 12 rfl) rfl,
  f_iconst (e_dx DX12_empty_0 13 rfl) ⟨by decide, by decide⟩,
  f_putn (e_dx DX12_empty_0 14 rfl) fX12_526 (fun q hq => by cases hq; rfl) rfl (Or.inl rfl) (by decide),
  f_aload_n (n := 0) (e_dx DX12_empty_0 15 rfl) rfl,
  f_iconst (e_dx DX12_empty_0 16 rfl) ⟨by decide, by decide⟩,
  f_putn (e_dx DX12_empty_0 17 rfl) fX12_529 (fun q hq => by cases hq; rfl) rfl (Or.inl rfl) (by decide),
  f_aload_n (n := 0) (e_dx DX12_empty_0 18 rfl) rfl,
  f_iconst (e_dx DX12_empty_0 19 rfl) ⟨by decide, by decide⟩,
  f_ldc2 (e_dx DX12_empty_0 20 rfl) hX12_532 rfl ⟨by decide, by decide⟩,
  x_callV (e_dx DX12_empty_0 21 rfl) mwX12_make vwX12_make cX12_534 rfl,
  f_istore_n (n := 1) (e_dx DX12_empty_0 22 rfl) rfl (by decide),
  f_iconst (e_dx DX12_empty_0 23 rfl) ⟨by decide, by decide⟩,
  f_istore_n (n := 2) (e_dx DX12_empty_0 24 rfl) rfl (by decide),
  trivial,
  f_iload_n (n := 2) (e_dx DX12_empty_0 25 rfl) rfl,
  f_iconst (e_dx DX12_empty_0 26 rfl) ⟨by decide, by decide⟩,
  f_icmp_ge (e_dx DX12_empty_0 27 rfl) rfl,
  f_aload_n (n := 0) (e_dx DX12_empty_0 28 rfl) rfl,
  f_getA (e_dx DX12_empty_0 29 rfl) fX12_82 rfl (by decide) (Nat.le_of_ble_eq_true rfl) rfl (by decide),
  f_iload_n (n := 2) (e_dx DX12_empty_0 30 rfl) rfl,
  f_iload_n (n := 2) (e_dx DX12_empty_0 31 rfl) rfl,
  f_iconst (e_dx DX12_empty_0 32 rfl) ⟨by decide, by decide⟩,
  f_icmp_eq (e_dx DX12_empty_0 33 rfl) rfl,
  f_iload_n (n := 2) (e_dx DX12_empty_0 34 rfl) rfl,
  f_iconst (e_dx DX12_empty_0 35 rfl) ⟨by decide, by decide⟩,
  f_icmp_ne (e_dx DX12_empty_0 36 rfl) rfl,
  trivial,
  f_sipush (e_dx DX12_empty_0 37 rfl) ⟨by decide, by decide⟩,
  f_g19 (e_dx DX12_empty_0 38 rfl) rfl,
  f_iconst (e_dx DX12_empty_0 39 rfl) ⟨by decide, by decide⟩,
  trivial,
  f_iastore (e_dx DX12_empty_1 0 rfl),
  f_aload_n (n := 0) (e_dx DX12_empty_1 1 rfl) rfl,
  f_getA (e_dx DX12_empty_1 2 rfl) fX12_85 rfl (by decide) (Nat.le_of_ble_eq_true rfl) rfl (by decide),
  f_iload_n (n := 2) (e_dx DX12_empty_1 3 rfl) rfl,
  f_iload_n (n := 2) (e_dx DX12_empty_1 4 rfl) rfl,
  f_iconst (e_dx DX12_empty_1 5 rfl) ⟨by decide, by decide⟩,
  f_icmp_le (e_dx DX12_empty_1 6 rfl) rfl,
  f_sipush (e_dx DX12_empty_1 7 rfl) ⟨by decide, by decide⟩,
  f_g19 (e_dx DX12_empty_1 8 rfl) rfl,
  f_iconst (e_dx DX12_empty_1 9 rfl) ⟨by decide, by decide⟩,
  trivial,
  f_iastore (e_dx DX12_empty_1 10 rfl),
  f_g8 (e_dx DX12_empty_1 11 rfl) ⟨by decide, by decide⟩,
  f_g19 (e_dx DX12_empty_1 12 rfl) rfl,
  f_aload_n (n := 0) (e_dx DX12_empty_1 13 rfl) rfl,
  f_getA (e_dx DX12_empty_1 14 rfl) fX12_130 rfl (by decide) (Nat.le_of_ble_eq_true rfl) rfl (by decide),
  f_iload_n (n := 1) (e_dx DX12_empty_1 15 rfl) rfl,
  f_iconst (e_dx DX12_empty_1 16 rfl) ⟨by decide, by decide⟩,
  f_iastore (e_dx DX12_empty_1 17 rfl),
  f_aload_n (n := 0) (e_dx DX12_empty_1 18 rfl) rfl,
  f_getA (e_dx DX12_empty_1 19 rfl) fX12_133 rfl (by decide) (Nat.le_of_ble_eq_true rfl) rfl (by decide),
  f_iload_n (n := 1) (e_dx DX12_empty_1 20 rfl) rfl,
  f_iconst (e_dx DX12_empty_1 21 rfl) ⟨by decide, by decide⟩,
  f_iastore (e_dx DX12_empty_1 22 rfl),
  f_aload_n (n := 0) (e_dx DX12_empty_1 23 rfl) rfl,
  f_getA (e_dx DX12_empty_1 24 rfl) fX12_136 rfl (by decide) (Nat.le_of_ble_eq_true rfl) rfl (by decide),
  f_iconst (e_dx DX12_empty_1 25 rfl) ⟨by decide, by decide⟩,
  f_iconst (e_dx DX12_empty_1 26 rfl) ⟨by decide, by decide⟩,
  f_iastore (e_dx DX12_empty_1 27 rfl),
  f_aload_n (n := 0) (e_dx DX12_empty_1 28 rfl) rfl,
  f_getA (e_dx DX12_empty_1 29 rfl) fX12_145 rfl (by decide) (Nat.le_of_ble_eq_true rfl) rfl (by decide),
  f_iconst (e_dx DX12_empty_1 30 rfl) ⟨by decide, by decide⟩,
  f_lconst (n := 1) (e_dx DX12_empty_1 31 rfl) rfl,
  f_lastore (e_dx DX12_empty_1 32 rfl),
  f_aload_n (n := 0) (e_dx DX12_empty_1 33 rfl) rfl,
  f_getA (e_dx DX12_empty_1 34 rfl) fX12_148 rfl (by decide) (Nat.le_of_ble_eq_true rfl) rfl (by decide),
  f_iconst (e_dx DX12_empty_1 35 rfl) ⟨by decide, by decide⟩,
  f_lconst (n := 1) (e_dx DX12_empty_1 36 rfl) rfl,
  f_lastore (e_dx DX12_empty_1 37 rfl),
  f_aload_n (n := 0) (e_dx DX12_empty_1 38 rfl) rfl,
  f_iconst (e_dx DX12_empty_1 39 rfl) ⟨by decide, by decide⟩,
  f_ldc2 (e_dx DX12_empty_2 0 rfl) hX12_538 rfl ⟨by decide, by decide⟩,
  x_callV (e_dx DX12_empty_2 1 rfl) mwX12_make vwX12_make cX12_534 rfl,
  f_istore_n (n := 2) (e_dx DX12_empty_2 2 rfl) rfl (by decide),
  f_aload_n (n := 0) (e_dx DX12_empty_2 3 rfl) rfl,
  f_getA (e_dx DX12_empty_2 4 rfl) fX12_115 rfl (by decide) (Nat.le_of_ble_eq_true rfl) rfl (by decide),
  f_iconst (e_dx DX12_empty_2 5 rfl) ⟨by decide, by decide⟩,
  f_iload_n (n := 2) (e_dx DX12_empty_2 6 rfl) rfl,
  x_callS (e_dx DX12_empty_2 7 rfl) mwX12_id cX12_540 swX12_id rfl,
  f_iconst (e_dx DX12_empty_2 8 rfl) ⟨by decide, by decide⟩,
  f_iastore (e_dx DX12_empty_2 9 rfl),
  ⟨(e_dx DX12_empty_2 10 rfl), rfl⟩, trivial⟩
def lX12_empty (c_X12_make : Int → Int → e_M → (Int → e_M → Prop) → Prop) (c_X12_id : Int → Int → e_M → (Int → Prop) → Prop) : List (Nat × f_Wt) := [(0, f_wm [(4466, 12, 123), (1, 0, 0), (2, 0, 0)] (fun ar M R => c_X12_make (f_vi (f_nth ar 1)) (f_vi (f_nth ar 2)) M (fun r M => R (some (.inl r)) M))), (1, f_wm [(1, 0, 0), (1, 0, 0)] (fun ar M R => c_X12_id (f_vi (f_nth ar 0)) (f_vi (f_nth ar 1)) M (fun r => R (some (.inl r)) M)))]
set_option maxRecDepth 20000 in
theorem BX12_empty_2 {sh : Nat → Nat × Nat} {t : Nat} {rm : Nat × Nat × Nat} {cs : Nat × Nat} {R : f_Rt} {c_X12_make : Int → Int → e_M → (Int → e_M → Prop) → Prop} {c_X12_id : Int → Int → e_M → (Int → Prop) → Prop} {k42 : Int → Int → e_M → Prop} {k2 : Int → e_M → Prop} {x1 : Int} {M : e_M} (C : f_Hy sh t yX12_empty rm cs 6 (lX12_empty c_X12_make c_X12_id) R) (h42 : ∀ (x1 : Int) (x2 : Int) (M : e_M), k42 x1 x2 M → f_E sh t YX12_empty rm cs (f_Q sh t R) 42 [.inr (.inr (.inl (12, 123, 4456))), .inl x1, .inl x2] [] M) (h2 : ∀ (x1 : Int) (M : e_M), k2 x1 M → f_E sh t YX12_empty rm cs (f_Q sh t R) 2 [.inr (.inr (.inl (12, 123, 4456))), .inl x1, .inr (.inr (.inr ()))] [] M) (h : VX12_empty_2 c_X12_make c_X12_id k42 k2 (fun M => R none M) x1 M) : f_E sh t YX12_empty rm cs (f_Q sh t R) 2 [.inr (.inr (.inl (12, 123, 4456))), .inl x1, .inr (.inr (.inr ()))] [] M :=
  f_go (KC := f_kc [(42, f_pl [(4466, 12, 123), (1, 0, 0), (1, 0, 0)] [] (fun ls st M => k42 (f_vi (f_nth ls 1)) (f_vi (f_nth ls 2)) M)), (2, f_pl [(4466, 12, 123), (1, 0, 0), (0, 0, 0)] [] (fun ls st M => k2 (f_vi (f_nth ls 1)) M))]) C qX12_emptyf (f_kc_cons (f_pl_ok rfl (fun ls st M h => h42 _ _ M h)) (f_kc_cons (f_pl_ok rfl (fun ls st M h => h2 _ M h)) f_kc_nil)) 98 3 h
set_option maxRecDepth 20000 in
theorem BX12_empty_42 {sh : Nat → Nat × Nat} {t : Nat} {rm : Nat × Nat × Nat} {cs : Nat × Nat} {R : f_Rt} {c_X12_make : Int → Int → e_M → (Int → e_M → Prop) → Prop} {c_X12_id : Int → Int → e_M → (Int → Prop) → Prop} {k62 : Int → Int → Int → e_M → Prop} {k69 : Int → Int → Int → Int → e_M → Prop} {x1 : Int} {x2 : Int} {M : e_M} (C : f_Hy sh t yX12_empty rm cs 6 (lX12_empty c_X12_make c_X12_id) R) (h62 : ∀ (x1 : Int) (x2 : Int) (xs1 : Int) (M : e_M), k62 x1 x2 xs1 M → f_E sh t YX12_empty rm cs (f_Q sh t R) 62 [.inr (.inr (.inl (12, 123, 4456))), .inl x1, .inl x2] [.inl xs1, .inr (.inr (.inl (20, 4800, 4480)))] M) (h69 : ∀ (x1 : Int) (x2 : Int) (xs2 : Int) (xs1 : Int) (M : e_M), k69 x1 x2 xs2 xs1 M → f_E sh t YX12_empty rm cs (f_Q sh t R) 69 [.inr (.inr (.inl (12, 123, 4456))), .inl x1, .inl x2] [.inl xs2, .inl xs1, .inr (.inr (.inl (20, 4800, 4480)))] M) (h : VX12_empty_42 c_X12_make c_X12_id k62 k69 (fun M => R none M) x1 x2 M) : f_E sh t YX12_empty rm cs (f_Q sh t R) 42 [.inr (.inr (.inl (12, 123, 4456))), .inl x1, .inl x2] [] M :=
  f_go (KC := f_kc [(62, f_pl [(4466, 12, 123), (1, 0, 0), (1, 0, 0)] [(1, 0, 0), (4490, 20, 4800)] (fun ls st M => k62 (f_vi (f_nth ls 1)) (f_vi (f_nth ls 2)) (f_vi (f_nth st 0)) M)), (69, f_pl [(4466, 12, 123), (1, 0, 0), (1, 0, 0)] [(1, 0, 0), (1, 0, 0), (4490, 20, 4800)] (fun ls st M => k69 (f_vi (f_nth ls 1)) (f_vi (f_nth ls 2)) (f_vi (f_nth st 0)) (f_vi (f_nth st 1)) M))]) C qX12_emptyf (f_kc_cons (f_pl_ok rfl (fun ls st M h => h62 _ _ _ M h)) (f_kc_cons (f_pl_ok rfl (fun ls st M h => h69 _ _ _ _ M h)) f_kc_nil)) 98 27 h
set_option maxRecDepth 20000 in
theorem BX12_empty_62 {sh : Nat → Nat × Nat} {t : Nat} {rm : Nat × Nat × Nat} {cs : Nat × Nat} {R : f_Rt} {c_X12_make : Int → Int → e_M → (Int → e_M → Prop) → Prop} {c_X12_id : Int → Int → e_M → (Int → Prop) → Prop} {k69 : Int → Int → Int → Int → e_M → Prop} {x1 : Int} {x2 : Int} {xs1 : Int} {M : e_M} (C : f_Hy sh t yX12_empty rm cs 6 (lX12_empty c_X12_make c_X12_id) R) (h69 : ∀ (x1 : Int) (x2 : Int) (xs2 : Int) (xs1 : Int) (M : e_M), k69 x1 x2 xs2 xs1 M → f_E sh t YX12_empty rm cs (f_Q sh t R) 69 [.inr (.inr (.inl (12, 123, 4456))), .inl x1, .inl x2] [.inl xs2, .inl xs1, .inr (.inr (.inl (20, 4800, 4480)))] M) (h : VX12_empty_62 c_X12_make c_X12_id k69 (fun M => R none M) x1 x2 xs1 M) : f_E sh t YX12_empty rm cs (f_Q sh t R) 62 [.inr (.inr (.inl (12, 123, 4456))), .inl x1, .inl x2] [.inl xs1, .inr (.inr (.inl (20, 4800, 4480)))] M :=
  f_go (KC := f_kc [(69, f_pl [(4466, 12, 123), (1, 0, 0), (1, 0, 0)] [(1, 0, 0), (1, 0, 0), (4490, 20, 4800)] (fun ls st M => k69 (f_vi (f_nth ls 1)) (f_vi (f_nth ls 2)) (f_vi (f_nth st 0)) (f_vi (f_nth st 1)) M))]) C qX12_emptyf (f_kc_cons (f_pl_ok rfl (fun ls st M h => h69 _ _ _ _ M h)) f_kc_nil) 98 40 h
set_option maxRecDepth 20000 in
theorem BX12_empty_69 {sh : Nat → Nat × Nat} {t : Nat} {rm : Nat × Nat × Nat} {cs : Nat × Nat} {R : f_Rt} {c_X12_make : Int → Int → e_M → (Int → e_M → Prop) → Prop} {c_X12_id : Int → Int → e_M → (Int → Prop) → Prop} {k87 : Int → Int → Int → Int → e_M → Prop} {x1 : Int} {x2 : Int} {xs2 : Int} {xs1 : Int} {M : e_M} (C : f_Hy sh t yX12_empty rm cs 6 (lX12_empty c_X12_make c_X12_id) R) (h87 : ∀ (x1 : Int) (x2 : Int) (xs2 : Int) (xs1 : Int) (M : e_M), k87 x1 x2 xs2 xs1 M → f_E sh t YX12_empty rm cs (f_Q sh t R) 87 [.inr (.inr (.inl (12, 123, 4456))), .inl x1, .inl x2] [.inl xs2, .inl xs1, .inr (.inr (.inl (20, 4800, 4481)))] M) (h : VX12_empty_69 c_X12_make c_X12_id k87 (fun M => R none M) x1 x2 xs2 xs1 M) : f_E sh t YX12_empty rm cs (f_Q sh t R) 69 [.inr (.inr (.inl (12, 123, 4456))), .inl x1, .inl x2] [.inl xs2, .inl xs1, .inr (.inr (.inl (20, 4800, 4480)))] M :=
  f_go (KC := f_kc [(87, f_pl [(4466, 12, 123), (1, 0, 0), (1, 0, 0)] [(1, 0, 0), (1, 0, 0), (4491, 20, 4800)] (fun ls st M => k87 (f_vi (f_nth ls 1)) (f_vi (f_nth ls 2)) (f_vi (f_nth st 0)) (f_vi (f_nth st 1)) M))]) C qX12_emptyf (f_kc_cons (f_pl_ok rfl (fun ls st M h => h87 _ _ _ _ M h)) f_kc_nil) 98 44 h
set_option maxRecDepth 20000 in
theorem BX12_empty_87 {sh : Nat → Nat × Nat} {t : Nat} {rm : Nat × Nat × Nat} {cs : Nat × Nat} {R : f_Rt} {c_X12_make : Int → Int → e_M → (Int → e_M → Prop) → Prop} {c_X12_id : Int → Int → e_M → (Int → Prop) → Prop} {k42 : Int → Int → e_M → Prop} {x1 : Int} {x2 : Int} {xs2 : Int} {xs1 : Int} {M : e_M} (C : f_Hy sh t yX12_empty rm cs 6 (lX12_empty c_X12_make c_X12_id) R) (h42 : ∀ (x1 : Int) (x2 : Int) (M : e_M), k42 x1 x2 M → f_E sh t YX12_empty rm cs (f_Q sh t R) 42 [.inr (.inr (.inl (12, 123, 4456))), .inl x1, .inl x2] [] M) (h : VX12_empty_87 c_X12_make c_X12_id k42 (fun M => R none M) x1 x2 xs2 xs1 M) : f_E sh t YX12_empty rm cs (f_Q sh t R) 87 [.inr (.inr (.inl (12, 123, 4456))), .inl x1, .inl x2] [.inl xs2, .inl xs1, .inr (.inr (.inl (20, 4800, 4481)))] M :=
  f_go (KC := f_kc [(42, f_pl [(4466, 12, 123), (1, 0, 0), (1, 0, 0)] [] (fun ls st M => k42 (f_vi (f_nth ls 1)) (f_vi (f_nth ls 2)) M))]) C qX12_emptyf (f_kc_cons (f_pl_ok rfl (fun ls st M h => h42 _ _ M h)) f_kc_nil) 98 55 h
set_option maxRecDepth 20000 in
theorem BX12_empty {sh : Nat → Nat × Nat} {t : Nat} {rm : Nat × Nat × Nat} {cs : Nat × Nat} {R : f_Rt} {c_X12_make : Int → Int → e_M → (Int → e_M → Prop) → Prop} {c_X12_id : Int → Int → e_M → (Int → Prop) → Prop} {k2 : Int → e_M → Prop} {M : e_M} (C : f_Hy sh t yX12_empty rm cs 6 (lX12_empty c_X12_make c_X12_id) R) (h2 : ∀ (x1 : Int) (M : e_M), k2 x1 M → f_E sh t YX12_empty rm cs (f_Q sh t R) 2 [.inr (.inr (.inl (12, 123, 4456))), .inl x1, .inr (.inr (.inr ()))] [] M) (h : VX12_empty c_X12_make c_X12_id k2 (fun M => R none M) M) : f_E sh t YX12_empty rm cs (f_Q sh t R) 0 [.inr (.inr (.inl (12, 123, 4456))), .inr (.inr (.inr ())), .inr (.inr (.inr ()))] [] M :=
  f_go (KC := f_kc [(2, f_pl [(4466, 12, 123), (1, 0, 0), (0, 0, 0)] [] (fun ls st M => k2 (f_vi (f_nth ls 1)) M))]) C qX12_emptyf (f_kc_cons (f_pl_ok rfl (fun ls st M h => h2 _ M h)) f_kc_nil) 98 0 h
def WX12_empty_87 (H42 : Int → Int → e_M → Prop) (Q : e_M → Prop) (x1 : Int) (x2 : Int) (xs2 : Int) (xs1 : Int) (M : e_M) : Prop :=
  VX12_empty_87 WX12_make WX12_id H42 Q x1 x2 xs2 xs1 M
def WX12_empty_69 (H42 : Int → Int → e_M → Prop) (Q : e_M → Prop) (x1 : Int) (x2 : Int) (xs2 : Int) (xs1 : Int) (M : e_M) : Prop :=
  VX12_empty_69 WX12_make WX12_id (WX12_empty_87 H42 Q) Q x1 x2 xs2 xs1 M
def WX12_empty_62 (H42 : Int → Int → e_M → Prop) (Q : e_M → Prop) (x1 : Int) (x2 : Int) (xs1 : Int) (M : e_M) : Prop :=
  VX12_empty_62 WX12_make WX12_id (WX12_empty_69 H42 Q) Q x1 x2 xs1 M
def WX12_empty_42 (Q : e_M → Prop) : Nat → Int → Int → e_M → Prop
  | 0, _, _, _ => False
  | n + 1, x1, x2, M =>
    VX12_empty_42 WX12_make WX12_id (WX12_empty_62 (WX12_empty_42 Q n) Q) (WX12_empty_69 (WX12_empty_42 Q n) Q) Q x1 x2 M
def WX12_empty_2 (Q : e_M → Prop) : Nat → Int → e_M → Prop
  | 0, _, _ => False
  | n + 1, x1, M =>
    VX12_empty_2 WX12_make WX12_id (fun x1 x2 M => ∃ j, WX12_empty_42 Q j x1 x2 M) (WX12_empty_2 Q n) Q x1 M
def WX12_empty (M : e_M) (Q : e_M → Prop) : Prop :=
  VX12_empty WX12_make WX12_id (fun x1 M => ∃ j, WX12_empty_2 Q j x1 M) Q M
theorem PX12_empty_87 {sh : Nat → Nat × Nat} {t : Nat} {rm : Nat × Nat × Nat} {cs : Nat × Nat} {R : f_Rt} {H42 : Int → Int → e_M → Prop} {x1 : Int} {x2 : Int} {xs2 : Int} {xs1 : Int} {M : e_M} (C : f_Hy sh t yX12_empty rm cs 6 (lX12_empty WX12_make WX12_id) R) (g42 : ∀ (x1 : Int) (x2 : Int) (M : e_M), H42 x1 x2 M → f_E sh t YX12_empty rm cs (f_Q sh t R) 42 [.inr (.inr (.inl (12, 123, 4456))), .inl x1, .inl x2] [] M) (h : WX12_empty_87 H42 (fun M => R none M) x1 x2 xs2 xs1 M) : f_E sh t YX12_empty rm cs (f_Q sh t R) 87 [.inr (.inr (.inl (12, 123, 4456))), .inl x1, .inl x2] [.inl xs2, .inl xs1, .inr (.inr (.inl (20, 4800, 4481)))] M :=
  BX12_empty_87 C g42 h
theorem PX12_empty_69 {sh : Nat → Nat × Nat} {t : Nat} {rm : Nat × Nat × Nat} {cs : Nat × Nat} {R : f_Rt} {H42 : Int → Int → e_M → Prop} {x1 : Int} {x2 : Int} {xs2 : Int} {xs1 : Int} {M : e_M} (C : f_Hy sh t yX12_empty rm cs 6 (lX12_empty WX12_make WX12_id) R) (g42 : ∀ (x1 : Int) (x2 : Int) (M : e_M), H42 x1 x2 M → f_E sh t YX12_empty rm cs (f_Q sh t R) 42 [.inr (.inr (.inl (12, 123, 4456))), .inl x1, .inl x2] [] M) (h : WX12_empty_69 H42 (fun M => R none M) x1 x2 xs2 xs1 M) : f_E sh t YX12_empty rm cs (f_Q sh t R) 69 [.inr (.inr (.inl (12, 123, 4456))), .inl x1, .inl x2] [.inl xs2, .inl xs1, .inr (.inr (.inl (20, 4800, 4480)))] M :=
  BX12_empty_69 C (fun x1 x2 xs2 xs1 M h => PX12_empty_87 C g42 h) h
theorem PX12_empty_62 {sh : Nat → Nat × Nat} {t : Nat} {rm : Nat × Nat × Nat} {cs : Nat × Nat} {R : f_Rt} {H42 : Int → Int → e_M → Prop} {x1 : Int} {x2 : Int} {xs1 : Int} {M : e_M} (C : f_Hy sh t yX12_empty rm cs 6 (lX12_empty WX12_make WX12_id) R) (g42 : ∀ (x1 : Int) (x2 : Int) (M : e_M), H42 x1 x2 M → f_E sh t YX12_empty rm cs (f_Q sh t R) 42 [.inr (.inr (.inl (12, 123, 4456))), .inl x1, .inl x2] [] M) (h : WX12_empty_62 H42 (fun M => R none M) x1 x2 xs1 M) : f_E sh t YX12_empty rm cs (f_Q sh t R) 62 [.inr (.inr (.inl (12, 123, 4456))), .inl x1, .inl x2] [.inl xs1, .inr (.inr (.inl (20, 4800, 4480)))] M :=
  BX12_empty_62 C (fun x1 x2 xs2 xs1 M h => PX12_empty_69 C g42 h) h
theorem PX12_empty_42 {sh : Nat → Nat × Nat} {t : Nat} {rm : Nat × Nat × Nat} {cs : Nat × Nat} {R : f_Rt} (C : f_Hy sh t yX12_empty rm cs 6 (lX12_empty WX12_make WX12_id) R) : ∀ (n : Nat) (x1 : Int) (x2 : Int) (M : e_M), WX12_empty_42 (fun M => R none M) n x1 x2 M → f_E sh t YX12_empty rm cs (f_Q sh t R) 42 [.inr (.inr (.inl (12, 123, 4456))), .inl x1, .inl x2] [] M := by
  intro n
  induction n with
  | zero => intro x1 x2 M h; exact h.elim
  | succ n ih => intro x1 x2 M h; exact BX12_empty_42 C (fun x1 x2 xs1 M h => PX12_empty_62 C ih h) (fun x1 x2 xs2 xs1 M h => PX12_empty_69 C ih h) h
theorem PX12_empty_2 {sh : Nat → Nat × Nat} {t : Nat} {rm : Nat × Nat × Nat} {cs : Nat × Nat} {R : f_Rt} (C : f_Hy sh t yX12_empty rm cs 6 (lX12_empty WX12_make WX12_id) R) : ∀ (n : Nat) (x1 : Int) (M : e_M), WX12_empty_2 (fun M => R none M) n x1 M → f_E sh t YX12_empty rm cs (f_Q sh t R) 2 [.inr (.inr (.inl (12, 123, 4456))), .inl x1, .inr (.inr (.inr ()))] [] M := by
  intro n
  induction n with
  | zero => intro x1 M h; exact h.elim
  | succ n ih => intro x1 M h; exact BX12_empty_2 C (fun x1 x2 M ⟨j, h⟩ => PX12_empty_42 C j _ _ _ h) ih h
theorem PX12_empty {sh : Nat → Nat × Nat} {t : Nat} {rm : Nat × Nat × Nat} {cs : Nat × Nat} {R : f_Rt} {M : e_M} (C : f_Hy sh t yX12_empty rm cs 6 (lX12_empty WX12_make WX12_id) R) (h : WX12_empty M (fun M => R none M)) : f_E sh t YX12_empty rm cs (f_Q sh t R) 0 [.inr (.inr (.inl (12, 123, 4456))), .inr (.inr (.inr ())), .inr (.inr (.inr ()))] [] M :=
  BX12_empty C (fun x1 M ⟨j, h⟩ => PX12_empty_2 C j _ _ h) h
def wX12_empty : f_Wt := f_wm [(4466, 12, 123)] (fun ar M R => WX12_empty M (fun M => R none M))
theorem TX12_empty {sh : Nat → Nat × Nat} {t : Nat} : f_Mt sh t YX12_empty 6 (wX12_empty) :=
  f_Mt_of (k := 2) (Nat.le_of_ble_eq_true rfl) rfl rfl (fun ar M R rm cs h1 h2 h3 hX h => PX12_empty ⟨Nat.le_of_ble_eq_true rfl, h1, h2, h3, ⟨(f_Mt.up (Nat.le_of_ble_eq_true rfl) TX12_make), (f_Mt.up (Nat.le_of_ble_eq_true rfl) TX12_id), trivial⟩, hX⟩ h)
def VX12_full (Q : Int → Prop) (x1 : Int) (x2 : Int) (M : e_M) : Prop :=
  ((0 ≤ x1 ∧ x1 < 7) ∧ ((0 ≤ x1 ∧ x1 < 7) ∧ (((e_w32 ((M 4483 (x1.toNat)) + x2)) ≤ (M 4482 (x1.toNat)) → (Q 0)) ∧ ((M 4482 (x1.toNat)) < (e_w32 ((M 4483 (x1.toNat)) + x2)) → (Q 1)))))
def yX12_full (i : Nat) : e_Y := x_get YX12_full [] i
def pX12_fullf : List x_I := [(0, 4, 1, 0, 0, 0, []), (1, 25, 12, 50, 4, 0, [(0, 20, 7), (0, 1, 27)]), (4, 2, 1, 1, 0, 0, []), (5, 27, 0, 0, 0, 0, []), (6, 2, 1, 2, 0, 0, []), (7, 9, 0, 0, 0, 0, []), (8, 4, 1, 0, 0, 0, []), (9, 25, 12, 49, 4, 0, [(0, 20, 7), (0, 1, 26)]), (12, 2, 1, 1, 0, 0, []), (13, 27, 0, 0, 0, 0, []), (14, 18, 21, 5, 14, 0, []), (17, 0, 1, 0, 0, 1, []), (18, 19, 22, 0, 15, 0, []), (21, 0, 1, 0, 0, 0, []), (22, 48, 0, 0, 0, 0, [])]
set_option maxRecDepth 20000 in
theorem qX12_fullf : f_all yX12_full YX12_full pX12_fullf :=
  ⟨f_aload_n (n := 0) (e_dx DX12_full_0 0 rfl) rfl,
  f_getA (e_dx DX12_full_0 1 rfl) fX12_91 rfl (by decide) (Nat.le_of_ble_eq_true rfl) rfl (by decide),
  f_iload_n (n := 1) (e_dx DX12_full_0 2 rfl) rfl,
  f_iaload (e_dx DX12_full_0 3 rfl),
  f_iload_n (n := 2) (e_dx DX12_full_0 4 rfl) rfl,
  f_iadd (e_dx DX12_full_0 5 rfl),
  f_aload_n (n := 0) (e_dx DX12_full_0 6 rfl) rfl,
  f_getA (e_dx DX12_full_0 7 rfl) fX12_88 rfl (by decide) (Nat.le_of_ble_eq_true rfl) rfl (by decide),
  f_iload_n (n := 1) (e_dx DX12_full_0 8 rfl) rfl,
  f_iaload (e_dx DX12_full_0 9 rfl),
  f_icmp_le (e_dx DX12_full_0 10 rfl) rfl,
  f_iconst (e_dx DX12_full_0 11 rfl) ⟨by decide, by decide⟩,
  f_g19 (e_dx DX12_full_0 12 rfl) rfl,
  f_iconst (e_dx DX12_full_0 13 rfl) ⟨by decide, by decide⟩,
  ⟨(e_dx DX12_full_0 14 rfl), rfl⟩, trivial⟩
def lX12_full : List (Nat × f_Wt) := []
set_option maxRecDepth 20000 in
theorem BX12_full {sh : Nat → Nat × Nat} {t : Nat} {rm : Nat × Nat × Nat} {cs : Nat × Nat} {R : f_Rt} {x1 : Int} {x2 : Int} {M : e_M} (C : f_Hy sh t yX12_full rm cs 4 (lX12_full) R) (h : VX12_full (fun r => R (some (.inl r)) M) x1 x2 M) : f_E sh t YX12_full rm cs (f_Q sh t R) 0 [.inr (.inr (.inl (12, 123, 4456))), .inl x1, .inl x2] [] M :=
  f_go (KC := f_kc []) C qX12_fullf f_kc_nil 17 0 h
def WX12_full (x1 : Int) (x2 : Int) (M : e_M) (Q : Int → Prop) : Prop :=
  VX12_full Q x1 x2 M
theorem PX12_full {sh : Nat → Nat × Nat} {t : Nat} {rm : Nat × Nat × Nat} {cs : Nat × Nat} {R : f_Rt} {x1 : Int} {x2 : Int} {M : e_M} (C : f_Hy sh t yX12_full rm cs 4 (lX12_full) R) (h : WX12_full x1 x2 M (fun r => R (some (.inl r)) M)) : f_E sh t YX12_full rm cs (f_Q sh t R) 0 [.inr (.inr (.inl (12, 123, 4456))), .inl x1, .inl x2] [] M :=
  BX12_full C h
def wX12_full : f_Wt := f_wm [(4466, 12, 123), (1, 0, 0), (1, 0, 0)] (fun ar M R => WX12_full (f_vi (f_nth ar 1)) (f_vi (f_nth ar 2)) M (fun r => R (some (.inl r)) M))
theorem TX12_full {sh : Nat → Nat × Nat} {t : Nat} : f_Mt sh t YX12_full 4 (wX12_full) :=
  f_Mt_of (k := 0) (Nat.le_of_ble_eq_true rfl) rfl rfl (fun ar M R rm cs h1 h2 h3 hX h => PX12_full ⟨Nat.le_of_ble_eq_true rfl, h1, h2, h3, trivial, hX⟩ h)
def VX12_isThere (c_X12_id : Int → Int → e_M → (Int → Prop) → Prop) (Q : Int → Prop) (x1 : Int) (x2 : Int) (x3 : Int) (M : e_M) : Prop :=
  (c_X12_id x1 x2 M (fun r1 => ((0 ≤ r1 ∧ r1 < 560) ∧ ((¬ (M 4485 (r1.toNat)) = 0 → (Q 0)) ∧ ((M 4485 (r1.toNat)) = 0 → (c_X12_id x1 x2 M (fun r2 => ((0 ≤ r2 ∧ r2 < 560) ∧ (((M 4487 (r2.toNat)) ≤ x3 → (Q 0)) ∧ (x3 < (M 4487 (r2.toNat)) → (Q 1)))))))))))
def yX12_isThere (i : Nat) : e_Y := x_get YX12_isThere [YX12_id] i
def pX12_isTheref : List x_I := [(0, 4, 1, 0, 0, 0, []), (1, 25, 12, 52, 4, 0, [(0, 21, 560), (0, 1, 29)]), (4, 2, 1, 1, 0, 0, []), (5, 2, 1, 2, 0, 0, []), (6, 40, 0, 2, 0, 0, []), (9, 27, 0, 2, 0, 0, []), (10, 17, 31, 1, 18, 0, []), (13, 2, 1, 3, 0, 0, []), (14, 4, 1, 0, 0, 0, []), (15, 25, 12, 54, 4, 0, [(0, 20, 560), (0, 1, 31)]), (18, 2, 1, 1, 0, 0, []), (19, 2, 1, 2, 0, 0, []), (20, 40, 0, 2, 0, 0, []), (23, 27, 0, 0, 0, 0, []), (24, 18, 31, 3, 18, 0, []), (27, 0, 1, 0, 0, 1, []), (28, 19, 32, 0, 19, 0, []), (31, 0, 1, 0, 0, 0, []), (32, 48, 0, 0, 0, 0, [])]
set_option maxRecDepth 20000 in
theorem qX12_isTheref : f_all yX12_isThere YX12_isThere pX12_isTheref :=
  ⟨f_aload_n (n := 0) (e_dx DX12_isThere_0 0 rfl) rfl,
  f_getA (e_dx DX12_isThere_0 1 rfl) fX12_97 rfl (by decide) (Nat.le_of_ble_eq_true rfl) rfl (by decide),
  f_iload_n (n := 1) (e_dx DX12_isThere_0 2 rfl) rfl,
  f_iload_n (n := 2) (e_dx DX12_isThere_0 3 rfl) rfl,
  x_callS (e_dx DX12_isThere_0 4 rfl) mwX12_id cX12_540 swX12_id rfl,
  f_baload (e_dx DX12_isThere_0 5 rfl),
  f_if_ne (e_dx DX12_isThere_0 6 rfl) rfl,
  f_iload_n (n := 3) (e_dx DX12_isThere_0 7 rfl) rfl,
  f_aload_n (n := 0) (e_dx DX12_isThere_0 8 rfl) rfl,
  f_getA (e_dx DX12_isThere_0 9 rfl) fX12_103 rfl (by decide) (Nat.le_of_ble_eq_true rfl) rfl (by decide),
  f_iload_n (n := 1) (e_dx DX12_isThere_0 10 rfl) rfl,
  f_iload_n (n := 2) (e_dx DX12_isThere_0 11 rfl) rfl,
  x_callS (e_dx DX12_isThere_0 12 rfl) mwX12_id cX12_540 swX12_id rfl,
  f_iaload (e_dx DX12_isThere_0 13 rfl),
  f_icmp_ge (e_dx DX12_isThere_0 14 rfl) rfl,
  f_iconst (e_dx DX12_isThere_0 15 rfl) ⟨by decide, by decide⟩,
  f_g19 (e_dx DX12_isThere_0 16 rfl) rfl,
  f_iconst (e_dx DX12_isThere_0 17 rfl) ⟨by decide, by decide⟩,
  ⟨(e_dx DX12_isThere_0 18 rfl), rfl⟩, trivial⟩
def lX12_isThere (c_X12_id : Int → Int → e_M → (Int → Prop) → Prop) : List (Nat × f_Wt) := [(0, f_wm [(1, 0, 0), (1, 0, 0)] (fun ar M R => c_X12_id (f_vi (f_nth ar 0)) (f_vi (f_nth ar 1)) M (fun r => R (some (.inl r)) M)))]
set_option maxRecDepth 20000 in
theorem BX12_isThere {sh : Nat → Nat × Nat} {t : Nat} {rm : Nat × Nat × Nat} {cs : Nat × Nat} {R : f_Rt} {c_X12_id : Int → Int → e_M → (Int → Prop) → Prop} {x1 : Int} {x2 : Int} {x3 : Int} {M : e_M} (C : f_Hy sh t yX12_isThere rm cs 5 (lX12_isThere c_X12_id) R) (h : VX12_isThere c_X12_id (fun r => R (some (.inl r)) M) x1 x2 x3 M) : f_E sh t YX12_isThere rm cs (f_Q sh t R) 0 [.inr (.inr (.inl (12, 123, 4456))), .inl x1, .inl x2, .inl x3] [] M :=
  f_go (KC := f_kc []) C qX12_isTheref f_kc_nil 21 0 h
def WX12_isThere (x1 : Int) (x2 : Int) (x3 : Int) (M : e_M) (Q : Int → Prop) : Prop :=
  VX12_isThere WX12_id Q x1 x2 x3 M
theorem PX12_isThere {sh : Nat → Nat × Nat} {t : Nat} {rm : Nat × Nat × Nat} {cs : Nat × Nat} {R : f_Rt} {x1 : Int} {x2 : Int} {x3 : Int} {M : e_M} (C : f_Hy sh t yX12_isThere rm cs 5 (lX12_isThere WX12_id) R) (h : WX12_isThere x1 x2 x3 M (fun r => R (some (.inl r)) M)) : f_E sh t YX12_isThere rm cs (f_Q sh t R) 0 [.inr (.inr (.inl (12, 123, 4456))), .inl x1, .inl x2, .inl x3] [] M :=
  BX12_isThere C h
def wX12_isThere : f_Wt := f_wm [(4466, 12, 123), (1, 0, 0), (1, 0, 0), (1, 0, 0)] (fun ar M R => WX12_isThere (f_vi (f_nth ar 1)) (f_vi (f_nth ar 2)) (f_vi (f_nth ar 3)) M (fun r => R (some (.inl r)) M))
theorem TX12_isThere {sh : Nat → Nat × Nat} {t : Nat} : f_Mt sh t YX12_isThere 5 (wX12_isThere) :=
  f_Mt_of (k := 0) (Nat.le_of_ble_eq_true rfl) rfl rfl (fun ar M R rm cs h1 h2 h3 hX h => PX12_isThere ⟨Nat.le_of_ble_eq_true rfl, h1, h2, h3, ⟨(f_Mt.up (Nat.le_of_ble_eq_true rfl) TX12_id), trivial⟩, hX⟩ h)
def VX12_isAge (c_X12_id : Int → Int → e_M → (Int → Prop) → Prop) (c_X12_yearOf : Int → e_M → (Int → Prop) → Prop) (c_X12_anniversary : Int → Int → e_M → (Int → Prop) → Prop) (Q : Int → Prop) (x1 : Int) (x2 : Int) (M : e_M) : Prop :=
  (c_X12_id 1 x1 M (fun r1 => ((0 ≤ r1 ∧ r1 < 560) ∧ (((M 4491 (r1.toNat)) ≤ 0 → ((0 ≤ r1 ∧ r1 < 560) ∧ ((0 ≤ r1 ∧ r1 < 560) ∧ (c_X12_yearOf (M 4486 (r1.toNat)) M (fun r2 => (c_X12_anniversary (M 4486 (r1.toNat)) (e_w32 (r2 + 18)) M (fun r3 => ((x2 < r3 → (Q 0)) ∧ (r3 ≤ x2 → (Q 1)))))))))) ∧ (0 < (M 4491 (r1.toNat)) → (Q 1))))))
def yX12_isAge (i : Nat) : e_Y := x_get YX12_isAge [YX12_id, YX12_yearOf, YX12_anniversary] i
def pX12_isAgef : List x_I := [(0, 0, 1, 0, 0, 1, []), (1, 2, 1, 1, 0, 0, []), (2, 40, 0, 2, 0, 0, []), (5, 5, 1, 3, 0, 0, []), (6, 4, 1, 0, 0, 0, []), (7, 25, 12, 58, 4, 0, [(0, 20, 560), (0, 1, 35)]), (10, 2, 1, 3, 0, 0, []), (11, 27, 0, 0, 0, 0, []), (12, 17, 17, 5, 12, 0, []), (15, 0, 1, 0, 0, 1, []), (16, 48, 0, 0, 0, 0, []), (17, 2, 1, 2, 0, 0, []), (18, 4, 1, 0, 0, 0, []), (19, 4, 1, 0, 0, 0, []), (20, 25, 12, 53, 4, 0, [(0, 20, 560), (0, 1, 30)]), (23, 2, 1, 3, 0, 0, []), (24, 27, 0, 0, 0, 0, []), (25, 4, 1, 0, 0, 0, []), (26, 4, 1, 0, 0, 0, []), (27, 25, 12, 53, 4, 0, [(0, 20, 560), (0, 1, 30)]), (30, 2, 1, 3, 0, 0, []), (31, 27, 0, 0, 0, 0, []), (32, 40, 1, 2, 14, 0, []), (35, 0, 2, 0, 0, 18, []), (37, 9, 0, 0, 0, 0, []), (38, 40, 2, 3, 14, 0, []), (41, 18, 48, 2, 30, 0, []), (44, 0, 1, 0, 0, 1, []), (45, 19, 49, 0, 31, 0, []), (48, 0, 1, 0, 0, 0, []), (49, 48, 0, 0, 0, 0, [])]
set_option maxRecDepth 20000 in
theorem qX12_isAgef : f_all yX12_isAge YX12_isAge pX12_isAgef :=
  ⟨f_iconst (e_dx DX12_isAge_0 0 rfl) ⟨by decide, by decide⟩,
  f_iload_n (n := 1) (e_dx DX12_isAge_0 1 rfl) rfl,
  x_callS (e_dx DX12_isAge_0 2 rfl) mwX12_id cX12_540 swX12_id rfl,
  f_istore_n (n := 3) (e_dx DX12_isAge_0 3 rfl) rfl (by decide),
  f_aload_n (n := 0) (e_dx DX12_isAge_0 4 rfl) rfl,
  f_getA (e_dx DX12_isAge_0 5 rfl) fX12_115 rfl (by decide) (Nat.le_of_ble_eq_true rfl) rfl (by decide),
  f_iload_n (n := 3) (e_dx DX12_isAge_0 6 rfl) rfl,
  f_iaload (e_dx DX12_isAge_0 7 rfl),
  f_if_le (e_dx DX12_isAge_0 8 rfl) rfl,
  f_iconst (e_dx DX12_isAge_0 9 rfl) ⟨by decide, by decide⟩,
  ⟨(e_dx DX12_isAge_0 10 rfl), rfl⟩,
  f_iload_n (n := 2) (e_dx DX12_isAge_0 11 rfl) rfl,
  f_aload_n (n := 0) (e_dx DX12_isAge_0 12 rfl) rfl,
  f_aload_n (n := 0) (e_dx DX12_isAge_0 13 rfl) rfl,
  f_getA (e_dx DX12_isAge_0 14 rfl) fX12_100 rfl (by decide) (Nat.le_of_ble_eq_true rfl) rfl (by decide),
  f_iload_n (n := 3) (e_dx DX12_isAge_0 15 rfl) rfl,
  f_iaload (e_dx DX12_isAge_0 16 rfl),
  f_aload_n (n := 0) (e_dx DX12_isAge_0 17 rfl) rfl,
  f_aload_n (n := 0) (e_dx DX12_isAge_0 18 rfl) rfl,
  f_getA (e_dx DX12_isAge_0 19 rfl) fX12_100 rfl (by decide) (Nat.le_of_ble_eq_true rfl) rfl (by decide),
  f_iload_n (n := 3) (e_dx DX12_isAge_0 20 rfl) rfl,
  f_iaload (e_dx DX12_isAge_0 21 rfl),
  x_callV (e_dx DX12_isAge_0 22 rfl) mwX12_yearOf vwX12_yearOf cX12_270 rfl,
  f_bipush (e_dx DX12_isAge_0 23 rfl) ⟨by decide, by decide⟩,
  f_iadd (e_dx DX12_isAge_0 24 rfl),
  x_callV (e_dx DX12_isAge_0 25 rfl) mwX12_anniversary vwX12_anniversary cX12_284 rfl,
  f_icmp_lt (e_dx DX12_isAge_0 26 rfl) rfl,
  f_iconst (e_dx DX12_isAge_0 27 rfl) ⟨by decide, by decide⟩,
  f_g19 (e_dx DX12_isAge_0 28 rfl) rfl,
  f_iconst (e_dx DX12_isAge_0 29 rfl) ⟨by decide, by decide⟩,
  ⟨(e_dx DX12_isAge_0 30 rfl), rfl⟩, trivial⟩
def lX12_isAge (c_X12_id : Int → Int → e_M → (Int → Prop) → Prop) (c_X12_yearOf : Int → e_M → (Int → Prop) → Prop) (c_X12_anniversary : Int → Int → e_M → (Int → Prop) → Prop) : List (Nat × f_Wt) := [(0, f_wm [(1, 0, 0), (1, 0, 0)] (fun ar M R => c_X12_id (f_vi (f_nth ar 0)) (f_vi (f_nth ar 1)) M (fun r => R (some (.inl r)) M))), (1, f_wm [(4466, 12, 123), (1, 0, 0)] (fun ar M R => c_X12_yearOf (f_vi (f_nth ar 1)) M (fun r => R (some (.inl r)) M))), (2, f_wm [(4466, 12, 123), (1, 0, 0), (1, 0, 0)] (fun ar M R => c_X12_anniversary (f_vi (f_nth ar 1)) (f_vi (f_nth ar 2)) M (fun r => R (some (.inl r)) M)))]
set_option maxRecDepth 20000 in
theorem BX12_isAge {sh : Nat → Nat × Nat} {t : Nat} {rm : Nat × Nat × Nat} {cs : Nat × Nat} {R : f_Rt} {c_X12_id : Int → Int → e_M → (Int → Prop) → Prop} {c_X12_yearOf : Int → e_M → (Int → Prop) → Prop} {c_X12_anniversary : Int → Int → e_M → (Int → Prop) → Prop} {x1 : Int} {x2 : Int} {M : e_M} (C : f_Hy sh t yX12_isAge rm cs 8 (lX12_isAge c_X12_id c_X12_yearOf c_X12_anniversary) R) (h : VX12_isAge c_X12_id c_X12_yearOf c_X12_anniversary (fun r => R (some (.inl r)) M) x1 x2 M) : f_E sh t YX12_isAge rm cs (f_Q sh t R) 0 [.inr (.inr (.inl (12, 123, 4456))), .inl x1, .inl x2, .inr (.inr (.inr ()))] [] M :=
  f_go (KC := f_kc []) C qX12_isAgef f_kc_nil 33 0 h
def WX12_isAge (x1 : Int) (x2 : Int) (M : e_M) (Q : Int → Prop) : Prop :=
  VX12_isAge WX12_id WX12_yearOf WX12_anniversary Q x1 x2 M
theorem PX12_isAge {sh : Nat → Nat × Nat} {t : Nat} {rm : Nat × Nat × Nat} {cs : Nat × Nat} {R : f_Rt} {x1 : Int} {x2 : Int} {M : e_M} (C : f_Hy sh t yX12_isAge rm cs 8 (lX12_isAge WX12_id WX12_yearOf WX12_anniversary) R) (h : WX12_isAge x1 x2 M (fun r => R (some (.inl r)) M)) : f_E sh t YX12_isAge rm cs (f_Q sh t R) 0 [.inr (.inr (.inl (12, 123, 4456))), .inl x1, .inl x2, .inr (.inr (.inr ()))] [] M :=
  BX12_isAge C h
def wX12_isAge : f_Wt := f_wm [(4466, 12, 123), (1, 0, 0), (1, 0, 0)] (fun ar M R => WX12_isAge (f_vi (f_nth ar 1)) (f_vi (f_nth ar 2)) M (fun r => R (some (.inl r)) M))
theorem TX12_isAge {sh : Nat → Nat × Nat} {t : Nat} : f_Mt sh t YX12_isAge 8 (wX12_isAge) :=
  f_Mt_of (k := 1) (Nat.le_of_ble_eq_true rfl) rfl rfl (fun ar M R rm cs h1 h2 h3 hX h => PX12_isAge ⟨Nat.le_of_ble_eq_true rfl, h1, h2, h3, ⟨(f_Mt.up (Nat.le_of_ble_eq_true rfl) TX12_id), (f_Mt.up (Nat.le_of_ble_eq_true rfl) TX12_yearOf), (f_Mt.up (Nat.le_of_ble_eq_true rfl) TX12_anniversary), trivial⟩, hX⟩ h)
def VX12_isAble_56 (c_X12_id : Int → Int → e_M → (Int → Prop) → Prop) (c_X12_isThere : Int → Int → Int → e_M → (Int → Prop) → Prop) (c_X12_isAge : Int → Int → e_M → (Int → Prop) → Prop) (k57 : Int → Int → Int → Int → Prop) (Q : Int → Prop) (x1 : Int) (x2 : Int) (x3 : Int) (M : e_M) : Prop :=
  (k57 x1 x2 x3 0)
def VX12_isAble_57 (c_X12_id : Int → Int → e_M → (Int → Prop) → Prop) (c_X12_isThere : Int → Int → Int → e_M → (Int → Prop) → Prop) (c_X12_isAge : Int → Int → e_M → (Int → Prop) → Prop) (k88 : Prop) (Q : Int → Prop) (x1 : Int) (x2 : Int) (x3 : Int) (xs0 : Int) (M : e_M) : Prop :=
  ((0 ≤ x3 ∧ x3 < 560) ∧ ((¬ (M 4491 (x3.toNat)) = 1 → (c_X12_isAge x1 x2 M (fun r1 => ((¬ r1 = 0 → (k88)) ∧ (r1 = 0 → ((xs0 = 0 → (((0 : Int) = 0 ∨ (0 : Int) = 1) ∧ Q 0)) ∧ (¬ xs0 = 0 → (k88)))))))) ∧ ((M 4491 (x3.toNat)) = 1 → ((xs0 = 0 ∨ xs0 = 1) ∧ Q xs0))))
def VX12_isAble_88 (c_X12_id : Int → Int → e_M → (Int → Prop) → Prop) (c_X12_isThere : Int → Int → Int → e_M → (Int → Prop) → Prop) (c_X12_isAge : Int → Int → e_M → (Int → Prop) → Prop) (Q : Int → Prop) (M : e_M) : Prop :=
  (((1 : Int) = 0 ∨ (1 : Int) = 1) ∧ Q 1)
def VX12_isAble (c_X12_id : Int → Int → e_M → (Int → Prop) → Prop) (c_X12_isThere : Int → Int → Int → e_M → (Int → Prop) → Prop) (c_X12_isAge : Int → Int → e_M → (Int → Prop) → Prop) (k56 : Int → Int → Int → Prop) (k57 : Int → Int → Int → Int → Prop) (Q : Int → Prop) (x1 : Int) (x2 : Int) (M : e_M) : Prop :=
  (c_X12_id 1 x1 M (fun r1 => ((0 ≤ r1 ∧ r1 < 560) ∧ ((¬ (M 4491 (r1.toNat)) = 2 → ((0 ≤ r1 ∧ r1 < 560) ∧ (((M 4489 (r1.toNat)) < 0 → (k56 x1 x2 r1)) ∧ (0 ≤ (M 4489 (r1.toNat)) → (c_X12_isThere 1 (M 4489 (r1.toNat)) x2 M (fun r2 => ((r2 = 0 → (k56 x1 x2 r1)) ∧ (¬ r2 = 0 → (c_X12_isAge (M 4489 (r1.toNat)) x2 M (fun r3 => ((r3 = 0 → (k56 x1 x2 r1)) ∧ (¬ r3 = 0 → (k57 x1 x2 r1 1))))))))))))) ∧ ((M 4491 (r1.toNat)) = 2 → (Q 1))))))
def yX12_isAble (i : Nat) : e_Y := x_get YX12_isAble [YX12_id, YX12_isThere, YX12_isAge] i
def pX12_isAblef : List x_I := [(0, 0, 1, 0, 0, 1, []), (1, 2, 1, 1, 0, 0, []), (2, 40, 0, 2, 0, 0, []), (5, 5, 1, 3, 0, 0, []), (6, 4, 1, 0, 0, 0, []), (7, 25, 12, 58, 4, 0, [(0, 20, 560), (0, 1, 35)]), (10, 2, 1, 3, 0, 0, []), (11, 27, 0, 0, 0, 0, []), (12, 0, 1, 0, 0, 2, []), (13, 18, 18, 1, 13, 0, []), (16, 0, 1, 0, 0, 1, []), (17, 48, 0, 0, 0, 0, []), (18, 4, 1, 0, 0, 0, []), (19, 25, 12, 56, 4, 0, [(0, 20, 560), (0, 1, 33)]), (22, 2, 1, 3, 0, 0, []), (23, 27, 0, 0, 0, 0, []), (24, 5, 2, 4, 0, 0, []), (26, 2, 2, 4, 0, 0, []), (28, 17, 56, 2, 33, 0, []), (31, 4, 1, 0, 0, 0, []), (32, 0, 1, 0, 0, 1, []), (33, 2, 2, 4, 0, 0, []), (35, 2, 1, 2, 0, 0, []), (36, 40, 1, 4, 14, 0, []), (39, 17, 56, 0, 33, 0, []), (42, 4, 1, 0, 0, 0, []), (43, 2, 2, 4, 0, 0, []), (45, 2, 1, 2, 0, 0, []), (46, 40, 2, 3, 14, 0, []), (49, 17, 56, 0, 33, 0, []), (52, 0, 1, 0, 0, 1, []), (53, 19, 57, 0, 35, 0, []), (56, 49, 0, 0, 0, 0, []), (56, 0, 1, 0, 0, 0, []), (57, 49, 0, 0, 0, 0, []), (57, 5, 2, 5, 0, 0, []), (59, 4, 1, 0, 0, 0, []), (60, 25, 12, 58, 4, 0, [(0, 20, 560), (0, 1, 35)]), (63, 2, 1, 3, 0, 0, []), (64, 27, 0, 0, 0, 0, []), (65, 0, 1, 0, 0, 1, []), (66, 18, 74, 1, 45, 0, []), (69, 2, 2, 5, 0, 0, []), (71, 19, 93, 0, 56, 0, []), (74, 4, 1, 0, 0, 0, []), (75, 2, 1, 1, 0, 0, []), (76, 2, 1, 2, 0, 0, []), (77, 40, 2, 3, 14, 0, []), (80, 17, 88, 1, 52, 0, []), (83, 2, 2, 5, 0, 0, []), (85, 17, 92, 0, 55, 0, []), (88, 49, 0, 0, 0, 0, []), (88, 0, 1, 0, 0, 1, []), (89, 19, 93, 0, 56, 0, []), (92, 0, 1, 0, 0, 0, []), (93, 42, 0, 0, 0, 0, [])]
set_option maxRecDepth 20000 in
theorem qX12_isAblef : f_all yX12_isAble YX12_isAble pX12_isAblef :=
  ⟨f_iconst (e_dx DX12_isAble_0 0 rfl) ⟨by decide, by decide⟩,
  f_iload_n (n := 1) (e_dx DX12_isAble_0 1 rfl) rfl,
  x_callS (e_dx DX12_isAble_0 2 rfl) mwX12_id cX12_540 swX12_id rfl,
  f_istore_n (n := 3) (e_dx DX12_isAble_0 3 rfl) rfl (by decide),
  f_aload_n (n := 0) (e_dx DX12_isAble_0 4 rfl) rfl,
  f_getA (e_dx DX12_isAble_0 5 rfl) fX12_115 rfl (by decide) (Nat.le_of_ble_eq_true rfl) rfl (by decide),
  f_iload_n (n := 3) (e_dx DX12_isAble_0 6 rfl) rfl,
  f_iaload (e_dx DX12_isAble_0 7 rfl),
  f_iconst (e_dx DX12_isAble_0 8 rfl) ⟨by decide, by decide⟩,
  f_icmp_ne (e_dx DX12_isAble_0 9 rfl) rfl,
  f_iconst (e_dx DX12_isAble_0 10 rfl) ⟨by decide, by decide⟩,
  ⟨(e_dx DX12_isAble_0 11 rfl), rfl⟩,
  f_aload_n (n := 0) (e_dx DX12_isAble_0 12 rfl) rfl,
  f_getA (e_dx DX12_isAble_0 13 rfl) fX12_109 rfl (by decide) (Nat.le_of_ble_eq_true rfl) rfl (by decide),
  f_iload_n (n := 3) (e_dx DX12_isAble_0 14 rfl) rfl,
  f_iaload (e_dx DX12_isAble_0 15 rfl),
  f_istore (e_dx DX12_isAble_0 16 rfl) (by decide),
  f_iload (e_dx DX12_isAble_0 17 rfl),
  f_if_lt (e_dx DX12_isAble_0 18 rfl) rfl,
  f_aload_n (n := 0) (e_dx DX12_isAble_0 19 rfl) rfl,
  f_iconst (e_dx DX12_isAble_0 20 rfl) ⟨by decide, by decide⟩,
  f_iload (e_dx DX12_isAble_0 21 rfl),
  f_iload_n (n := 2) (e_dx DX12_isAble_0 22 rfl) rfl,
  x_callV (e_dx DX12_isAble_0 23 rfl) mwX12_isThere vwX12_isThere cX12_549 rfl,
  f_if_eq (e_dx DX12_isAble_0 24 rfl) rfl,
  f_aload_n (n := 0) (e_dx DX12_isAble_0 25 rfl) rfl,
  f_iload (e_dx DX12_isAble_0 26 rfl),
  f_iload_n (n := 2) (e_dx DX12_isAble_0 27 rfl) rfl,
  x_callV (e_dx DX12_isAble_0 28 rfl) mwX12_isAge vwX12_isAge cX12_552 rfl,
  f_if_eq (e_dx DX12_isAble_0 29 rfl) rfl,
  f_iconst (e_dx DX12_isAble_0 30 rfl) ⟨by decide, by decide⟩,
  f_g19 (e_dx DX12_isAble_0 31 rfl) rfl,
  trivial,
  f_iconst (e_dx DX12_isAble_0 32 rfl) ⟨by decide, by decide⟩,
  trivial,
  f_istore (e_dx DX12_isAble_0 33 rfl) (by decide),
  f_aload_n (n := 0) (e_dx DX12_isAble_0 34 rfl) rfl,
  f_getA (e_dx DX12_isAble_0 35 rfl) fX12_115 rfl (by decide) (Nat.le_of_ble_eq_true rfl) rfl (by decide),
  f_iload_n (n := 3) (e_dx DX12_isAble_0 36 rfl) rfl,
  f_iaload (e_dx DX12_isAble_0 37 rfl),
  f_iconst (e_dx DX12_isAble_0 38 rfl) ⟨by decide, by decide⟩,
  f_icmp_ne (e_dx DX12_isAble_0 39 rfl) rfl,
  f_iload (e_dx DX12_isAble_1 0 rfl),
  f_g19 (e_dx DX12_isAble_1 1 rfl) rfl,
  f_aload_n (n := 0) (e_dx DX12_isAble_1 2 rfl) rfl,
  f_iload_n (n := 1) (e_dx DX12_isAble_1 3 rfl) rfl,
  f_iload_n (n := 2) (e_dx DX12_isAble_1 4 rfl) rfl,
  x_callV (e_dx DX12_isAble_1 5 rfl) mwX12_isAge vwX12_isAge cX12_552 rfl,
  f_if_ne (e_dx DX12_isAble_1 6 rfl) rfl,
  f_iload (e_dx DX12_isAble_1 7 rfl),
  f_if_eq (e_dx DX12_isAble_1 8 rfl) rfl,
  trivial,
  f_iconst (e_dx DX12_isAble_1 9 rfl) ⟨by decide, by decide⟩,
  f_g19 (e_dx DX12_isAble_1 10 rfl) rfl,
  f_iconst (e_dx DX12_isAble_1 11 rfl) ⟨by decide, by decide⟩,
  ⟨(e_dx DX12_isAble_1 12 rfl), rfl⟩, trivial⟩
def lX12_isAble (c_X12_id : Int → Int → e_M → (Int → Prop) → Prop) (c_X12_isThere : Int → Int → Int → e_M → (Int → Prop) → Prop) (c_X12_isAge : Int → Int → e_M → (Int → Prop) → Prop) : List (Nat × f_Wt) := [(0, f_wm [(1, 0, 0), (1, 0, 0)] (fun ar M R => c_X12_id (f_vi (f_nth ar 0)) (f_vi (f_nth ar 1)) M (fun r => R (some (.inl r)) M))), (1, f_wm [(4466, 12, 123), (1, 0, 0), (1, 0, 0), (1, 0, 0)] (fun ar M R => c_X12_isThere (f_vi (f_nth ar 1)) (f_vi (f_nth ar 2)) (f_vi (f_nth ar 3)) M (fun r => R (some (.inl r)) M))), (2, f_wm [(4466, 12, 123), (1, 0, 0), (1, 0, 0)] (fun ar M R => c_X12_isAge (f_vi (f_nth ar 1)) (f_vi (f_nth ar 2)) M (fun r => R (some (.inl r)) M)))]
set_option maxRecDepth 20000 in
theorem BX12_isAble_56 {sh : Nat → Nat × Nat} {t : Nat} {rm : Nat × Nat × Nat} {cs : Nat × Nat} {R : f_Rt} {c_X12_id : Int → Int → e_M → (Int → Prop) → Prop} {c_X12_isThere : Int → Int → Int → e_M → (Int → Prop) → Prop} {c_X12_isAge : Int → Int → e_M → (Int → Prop) → Prop} {k57 : Int → Int → Int → Int → Prop} {x1 : Int} {x2 : Int} {x3 : Int} {M : e_M} (C : f_Hy sh t yX12_isAble rm cs 9 (lX12_isAble c_X12_id c_X12_isThere c_X12_isAge) R) (h57 : ∀ (x1 : Int) (x2 : Int) (x3 : Int) (xs0 : Int), k57 x1 x2 x3 xs0 → f_E sh t YX12_isAble rm cs (f_Q sh t R) 57 [.inr (.inr (.inl (12, 123, 4456))), .inl x1, .inl x2, .inl x3, .inr (.inr (.inr ())), .inr (.inr (.inr ()))] [.inl xs0] M) (h : VX12_isAble_56 c_X12_id c_X12_isThere c_X12_isAge k57 (fun r => R (some (.inl r)) M) x1 x2 x3 M) : f_E sh t YX12_isAble rm cs (f_Q sh t R) 56 [.inr (.inr (.inl (12, 123, 4456))), .inl x1, .inl x2, .inl x3, .inr (.inr (.inr ())), .inr (.inr (.inr ()))] [] M := by
  rw [f_kk4 M k57] at h
  exact f_go (KC := f_kc [(57, f_pl [(4466, 12, 123), (1, 0, 0), (1, 0, 0), (1, 0, 0), (0, 0, 0), (0, 0, 0)] [(1, 0, 0)] (fun ls st M2 => M2 = M ∧ (k57 (f_vi (f_nth ls 1)) (f_vi (f_nth ls 2)) (f_vi (f_nth ls 3)) (f_vi (f_nth st 0)))))]) C qX12_isAblef (f_kc_cons (f_pl_ok rfl (fun ls st M2 ⟨e, hh⟩ => by subst e; exact h57 _ _ _ _ hh)) f_kc_nil) 58 33 h
set_option maxRecDepth 20000 in
theorem BX12_isAble_57 {sh : Nat → Nat × Nat} {t : Nat} {rm : Nat × Nat × Nat} {cs : Nat × Nat} {R : f_Rt} {c_X12_id : Int → Int → e_M → (Int → Prop) → Prop} {c_X12_isThere : Int → Int → Int → e_M → (Int → Prop) → Prop} {c_X12_isAge : Int → Int → e_M → (Int → Prop) → Prop} {k88 : Prop} {x1 : Int} {x2 : Int} {x3 : Int} {xs0 : Int} {M : e_M} (C : f_Hy sh t yX12_isAble rm cs 9 (lX12_isAble c_X12_id c_X12_isThere c_X12_isAge) R) (h88 : k88 → f_E sh t YX12_isAble rm cs (f_Q sh t R) 88 [.inr (.inr (.inr ())), .inr (.inr (.inr ())), .inr (.inr (.inr ())), .inr (.inr (.inr ())), .inr (.inr (.inr ())), .inr (.inr (.inr ()))] [] M) (h : VX12_isAble_57 c_X12_id c_X12_isThere c_X12_isAge k88 (fun r => R (some (.inl r)) M) x1 x2 x3 xs0 M) : f_E sh t YX12_isAble rm cs (f_Q sh t R) 57 [.inr (.inr (.inl (12, 123, 4456))), .inl x1, .inl x2, .inl x3, .inr (.inr (.inr ())), .inr (.inr (.inr ()))] [.inl xs0] M := by
  rw [f_kk0 M k88] at h
  exact f_go (KC := f_kc [(88, f_pl [(0, 0, 0), (0, 0, 0), (0, 0, 0), (0, 0, 0), (0, 0, 0), (0, 0, 0)] [] (fun ls st M2 => M2 = M ∧ (k88)))]) C qX12_isAblef (f_kc_cons (f_pl_ok rfl (fun ls st M2 ⟨e, hh⟩ => by subst e; exact h88  hh)) f_kc_nil) 58 35 h
set_option maxRecDepth 20000 in
theorem BX12_isAble_88 {sh : Nat → Nat × Nat} {t : Nat} {rm : Nat × Nat × Nat} {cs : Nat × Nat} {R : f_Rt} {c_X12_id : Int → Int → e_M → (Int → Prop) → Prop} {c_X12_isThere : Int → Int → Int → e_M → (Int → Prop) → Prop} {c_X12_isAge : Int → Int → e_M → (Int → Prop) → Prop} {M : e_M} (C : f_Hy sh t yX12_isAble rm cs 9 (lX12_isAble c_X12_id c_X12_isThere c_X12_isAge) R) (h : VX12_isAble_88 c_X12_id c_X12_isThere c_X12_isAge (fun r => R (some (.inl r)) M) M) : f_E sh t YX12_isAble rm cs (f_Q sh t R) 88 [.inr (.inr (.inr ())), .inr (.inr (.inr ())), .inr (.inr (.inr ())), .inr (.inr (.inr ())), .inr (.inr (.inr ())), .inr (.inr (.inr ()))] [] M :=
  f_go (KC := f_kc []) C qX12_isAblef f_kc_nil 58 52 h
set_option maxRecDepth 20000 in
theorem BX12_isAble {sh : Nat → Nat × Nat} {t : Nat} {rm : Nat × Nat × Nat} {cs : Nat × Nat} {R : f_Rt} {c_X12_id : Int → Int → e_M → (Int → Prop) → Prop} {c_X12_isThere : Int → Int → Int → e_M → (Int → Prop) → Prop} {c_X12_isAge : Int → Int → e_M → (Int → Prop) → Prop} {k56 : Int → Int → Int → Prop} {k57 : Int → Int → Int → Int → Prop} {x1 : Int} {x2 : Int} {M : e_M} (C : f_Hy sh t yX12_isAble rm cs 9 (lX12_isAble c_X12_id c_X12_isThere c_X12_isAge) R) (h56 : ∀ (x1 : Int) (x2 : Int) (x3 : Int), k56 x1 x2 x3 → f_E sh t YX12_isAble rm cs (f_Q sh t R) 56 [.inr (.inr (.inl (12, 123, 4456))), .inl x1, .inl x2, .inl x3, .inr (.inr (.inr ())), .inr (.inr (.inr ()))] [] M) (h57 : ∀ (x1 : Int) (x2 : Int) (x3 : Int) (xs0 : Int), k57 x1 x2 x3 xs0 → f_E sh t YX12_isAble rm cs (f_Q sh t R) 57 [.inr (.inr (.inl (12, 123, 4456))), .inl x1, .inl x2, .inl x3, .inr (.inr (.inr ())), .inr (.inr (.inr ()))] [.inl xs0] M) (h : VX12_isAble c_X12_id c_X12_isThere c_X12_isAge k56 k57 (fun r => R (some (.inl r)) M) x1 x2 M) : f_E sh t YX12_isAble rm cs (f_Q sh t R) 0 [.inr (.inr (.inl (12, 123, 4456))), .inl x1, .inl x2, .inr (.inr (.inr ())), .inr (.inr (.inr ())), .inr (.inr (.inr ()))] [] M := by
  rw [f_kk3 M k56] at h
  rw [f_kk4 M k57] at h
  exact f_go (KC := f_kc [(56, f_pl [(4466, 12, 123), (1, 0, 0), (1, 0, 0), (1, 0, 0), (0, 0, 0), (0, 0, 0)] [] (fun ls st M2 => M2 = M ∧ (k56 (f_vi (f_nth ls 1)) (f_vi (f_nth ls 2)) (f_vi (f_nth ls 3))))), (57, f_pl [(4466, 12, 123), (1, 0, 0), (1, 0, 0), (1, 0, 0), (0, 0, 0), (0, 0, 0)] [(1, 0, 0)] (fun ls st M2 => M2 = M ∧ (k57 (f_vi (f_nth ls 1)) (f_vi (f_nth ls 2)) (f_vi (f_nth ls 3)) (f_vi (f_nth st 0)))))]) C qX12_isAblef (f_kc_cons (f_pl_ok rfl (fun ls st M2 ⟨e, hh⟩ => by subst e; exact h56 _ _ _ hh)) (f_kc_cons (f_pl_ok rfl (fun ls st M2 ⟨e, hh⟩ => by subst e; exact h57 _ _ _ _ hh)) f_kc_nil)) 58 0 h
def WX12_isAble_88 (M : e_M) (Q : Int → Prop) : Prop :=
  VX12_isAble_88 WX12_id WX12_isThere WX12_isAge Q M
def WX12_isAble_57 (M : e_M) (Q : Int → Prop) (x1 : Int) (x2 : Int) (x3 : Int) (xs0 : Int) : Prop :=
  VX12_isAble_57 WX12_id WX12_isThere WX12_isAge (WX12_isAble_88 M Q) Q x1 x2 x3 xs0 M
def WX12_isAble_56 (M : e_M) (Q : Int → Prop) (x1 : Int) (x2 : Int) (x3 : Int) : Prop :=
  VX12_isAble_56 WX12_id WX12_isThere WX12_isAge (WX12_isAble_57 M Q) Q x1 x2 x3 M
def WX12_isAble (x1 : Int) (x2 : Int) (M : e_M) (Q : Int → Prop) : Prop :=
  VX12_isAble WX12_id WX12_isThere WX12_isAge (WX12_isAble_56 M Q) (WX12_isAble_57 M Q) Q x1 x2 M
theorem PX12_isAble_88 {sh : Nat → Nat × Nat} {t : Nat} {rm : Nat × Nat × Nat} {cs : Nat × Nat} {R : f_Rt} {M : e_M} (C : f_Hy sh t yX12_isAble rm cs 9 (lX12_isAble WX12_id WX12_isThere WX12_isAge) R) (h : WX12_isAble_88 M (fun r => R (some (.inl r)) M)) : f_E sh t YX12_isAble rm cs (f_Q sh t R) 88 [.inr (.inr (.inr ())), .inr (.inr (.inr ())), .inr (.inr (.inr ())), .inr (.inr (.inr ())), .inr (.inr (.inr ())), .inr (.inr (.inr ()))] [] M :=
  BX12_isAble_88 C h
theorem PX12_isAble_57 {sh : Nat → Nat × Nat} {t : Nat} {rm : Nat × Nat × Nat} {cs : Nat × Nat} {R : f_Rt} {x1 : Int} {x2 : Int} {x3 : Int} {xs0 : Int} {M : e_M} (C : f_Hy sh t yX12_isAble rm cs 9 (lX12_isAble WX12_id WX12_isThere WX12_isAge) R) (h : WX12_isAble_57 M (fun r => R (some (.inl r)) M) x1 x2 x3 xs0) : f_E sh t YX12_isAble rm cs (f_Q sh t R) 57 [.inr (.inr (.inl (12, 123, 4456))), .inl x1, .inl x2, .inl x3, .inr (.inr (.inr ())), .inr (.inr (.inr ()))] [.inl xs0] M :=
  BX12_isAble_57 C (fun h => PX12_isAble_88 C h) h
theorem PX12_isAble_56 {sh : Nat → Nat × Nat} {t : Nat} {rm : Nat × Nat × Nat} {cs : Nat × Nat} {R : f_Rt} {x1 : Int} {x2 : Int} {x3 : Int} {M : e_M} (C : f_Hy sh t yX12_isAble rm cs 9 (lX12_isAble WX12_id WX12_isThere WX12_isAge) R) (h : WX12_isAble_56 M (fun r => R (some (.inl r)) M) x1 x2 x3) : f_E sh t YX12_isAble rm cs (f_Q sh t R) 56 [.inr (.inr (.inl (12, 123, 4456))), .inl x1, .inl x2, .inl x3, .inr (.inr (.inr ())), .inr (.inr (.inr ()))] [] M :=
  BX12_isAble_56 C (fun x1 x2 x3 xs0 h => PX12_isAble_57 C h) h
theorem PX12_isAble {sh : Nat → Nat × Nat} {t : Nat} {rm : Nat × Nat × Nat} {cs : Nat × Nat} {R : f_Rt} {x1 : Int} {x2 : Int} {M : e_M} (C : f_Hy sh t yX12_isAble rm cs 9 (lX12_isAble WX12_id WX12_isThere WX12_isAge) R) (h : WX12_isAble x1 x2 M (fun r => R (some (.inl r)) M)) : f_E sh t YX12_isAble rm cs (f_Q sh t R) 0 [.inr (.inr (.inl (12, 123, 4456))), .inl x1, .inl x2, .inr (.inr (.inr ())), .inr (.inr (.inr ())), .inr (.inr (.inr ()))] [] M :=
  BX12_isAble C (fun x1 x2 x3 h => PX12_isAble_56 C h) (fun x1 x2 x3 xs0 h => PX12_isAble_57 C h) h
def wX12_isAble : f_Wt := f_wm [(4466, 12, 123), (1, 0, 0), (1, 0, 0)] (fun ar M R => WX12_isAble (f_vi (f_nth ar 1)) (f_vi (f_nth ar 2)) M (fun r => R (some (.inl r)) M))
theorem TX12_isAble {sh : Nat → Nat × Nat} {t : Nat} : f_Mt sh t YX12_isAble 9 (wX12_isAble) :=
  f_Mt_of (k := 3) (Nat.le_of_ble_eq_true rfl) rfl rfl (fun ar M R rm cs h1 h2 h3 hX h => PX12_isAble ⟨Nat.le_of_ble_eq_true rfl, h1, h2, h3, ⟨(f_Mt.up (Nat.le_of_ble_eq_true rfl) TX12_id), (f_Mt.up (Nat.le_of_ble_eq_true rfl) TX12_isThere), (f_Mt.up (Nat.le_of_ble_eq_true rfl) TX12_isAge), trivial⟩, hX⟩ h)
def VX12_loads_12 (k12 : Int → Int → e_M → Prop) (Q : e_M → Prop) (x1 : Int) (x2 : Int) (M : e_M) : Prop :=
  (((M 4456 87) ≤ x2 → (Q M)) ∧ (x2 < (M 4456 87) → ((0 ≤ (e_w32 ((e_w32 ((8 : Int) * x1)) + x2)) ∧ (e_w32 ((e_w32 ((8 : Int) * x1)) + x2)) < 640) ∧ ((0 ≤ x2 ∧ x2 < 16) ∧ (∀ M1 : e_M, M1 = e_up M 4517 (x2.toNat) (M 4498 ((e_w32 ((e_w32 ((8 : Int) * x1)) + x2)).toNat)) → ((0 ≤ (e_w32 ((e_w32 ((8 : Int) * x1)) + x2)) ∧ (e_w32 ((e_w32 ((8 : Int) * x1)) + x2)) < 640) ∧ ((0 ≤ x2 ∧ x2 < 16) ∧ (∀ M2 : e_M, M2 = e_up M1 4518 (x2.toNat) (M1 4501 ((e_w32 ((e_w32 ((8 : Int) * x1)) + x2)).toNat)) → ((0 ≤ (e_w32 ((e_w32 ((8 : Int) * x1)) + x2)) ∧ (e_w32 ((e_w32 ((8 : Int) * x1)) + x2)) < 640) ∧ ((0 ≤ x2 ∧ x2 < 16) ∧ (∀ M3 : e_M, M3 = e_up M2 4519 (x2.toNat) (M2 4502 ((e_w32 ((e_w32 ((8 : Int) * x1)) + x2)).toNat)) → (k12 x1 (e_w32 (x2 + 1)) M3))))))))))))
def VX12_loads (k12 : Int → Int → e_M → Prop) (Q : e_M → Prop) (x1 : Int) (M : e_M) : Prop :=
  ((0 ≤ x1 ∧ x1 < 80) ∧ (∀ M1 : e_M, M1 = e_up M 4456 87 (M 4497 (x1.toNat)) → (k12 x1 0 M1)))
def yX12_loads (i : Nat) : e_Y := x_get YX12_loads [] i
def pX12_loadsf : List x_I := [(0, 4, 1, 0, 0, 0, []), (1, 4, 1, 0, 0, 0, []), (2, 25, 12, 64, 4, 0, [(0, 20, 80), (0, 1, 41)]), (5, 2, 1, 1, 0, 0, []), (6, 27, 0, 0, 0, 0, []), (7, 26, 12, 87, 0, 0, []), (10, 0, 1, 0, 0, 0, []), (11, 5, 1, 2, 0, 0, []), (12, 49, 0, 0, 0, 0, []), (12, 2, 1, 2, 0, 0, []), (13, 4, 1, 0, 0, 0, []), (14, 25, 12, 87, 0, 0, []), (17, 18, 77, 3, 52, 0, []), (20, 4, 1, 0, 0, 0, []), (21, 25, 12, 88, 4, 0, [(0, 20, 16), (0, 1, 61)]), (24, 2, 1, 2, 0, 0, []), (25, 4, 1, 0, 0, 0, []), (26, 25, 12, 65, 4, 0, [(0, 20, 640), (0, 1, 42)]), (29, 0, 2, 0, 0, 8, []), (31, 2, 1, 1, 0, 0, []), (32, 9, 0, 2, 0, 0, []), (33, 2, 1, 2, 0, 0, []), (34, 9, 0, 0, 0, 0, []), (35, 27, 0, 0, 0, 0, []), (36, 28, 0, 0, 0, 0, []), (37, 4, 1, 0, 0, 0, []), (38, 25, 12, 89, 4, 0, [(0, 23, 16), (0, 1, 62)]), (41, 2, 1, 2, 0, 0, []), (42, 4, 1, 0, 0, 0, []), (43, 25, 12, 68, 4, 0, [(0, 23, 640), (0, 1, 45)]), (46, 0, 2, 0, 0, 8, []), (48, 2, 1, 1, 0, 0, []), (49, 9, 0, 2, 0, 0, []), (50, 2, 1, 2, 0, 0, []), (51, 9, 0, 0, 0, 0, []), (52, 27, 0, 1, 0, 0, []), (53, 28, 0, 1, 0, 0, []), (54, 4, 1, 0, 0, 0, []), (55, 25, 12, 90, 4, 0, [(0, 23, 16), (0, 1, 63)]), (58, 2, 1, 2, 0, 0, []), (59, 4, 1, 0, 0, 0, []), (60, 25, 12, 69, 4, 0, [(0, 23, 640), (0, 1, 46)]), (63, 0, 2, 0, 0, 8, []), (65, 2, 1, 1, 0, 0, []), (66, 9, 0, 2, 0, 0, []), (67, 2, 1, 2, 0, 0, []), (68, 9, 0, 0, 0, 0, []), (69, 27, 0, 1, 0, 0, []), (70, 28, 0, 1, 0, 0, []), (71, 8, 0, 2, 0, 1, []), (74, 19, 12, 0, 9, 0, []), (77, 44, 0, 0, 0, 0, [])]
set_option maxRecDepth 20000 in
theorem qX12_loadsf : f_all yX12_loads YX12_loads pX12_loadsf :=
  ⟨f_aload_n (n := 0) (e_dx DX12_loads_0 0 rfl) rfl,
  f_aload_n (n := 0) (e_dx DX12_loads_0 1 rfl) rfl,
  f_getA (e_dx DX12_loads_0 2 rfl) fX12_133 rfl (by decide) (Nat.le_of_ble_eq_true rfl) rfl (by decide),
  f_iload_n (n := 1) (e_dx DX12_loads_0 3 rfl) rfl,
  f_iaload (e_dx DX12_loads_0 4 rfl),
  f_putn (e_dx DX12_loads_0 5 rfl) fX12_555 (fun q hq => by cases hq; rfl) rfl (Or.inl rfl) (by decide),
  f_iconst (e_dx DX12_loads_0 6 rfl) ⟨by decide, by decide⟩,
  f_istore_n (n := 2) (e_dx DX12_loads_0 7 rfl) rfl (by decide),
  trivial,
  f_iload_n (n := 2) (e_dx DX12_loads_0 8 rfl) rfl,
  f_aload_n (n := 0) (e_dx DX12_loads_0 9 rfl) rfl,
  f_getf (e_dx DX12_loads_0 10 rfl) fX12_555 rfl (by decide) (by decide) (by decide),
  f_icmp_ge (e_dx DX12_loads_0 11 rfl) rfl,
  f_aload_n (n := 0) (e_dx DX12_loads_0 12 rfl) rfl,
  f_getA (e_dx DX12_loads_0 13 rfl) fX12_193 rfl (by decide) (Nat.le_of_ble_eq_true rfl) rfl (by decide),
  f_iload_n (n := 2) (e_dx DX12_loads_0 14 rfl) rfl,
  f_aload_n (n := 0) (e_dx DX12_loads_0 15 rfl) rfl,
  f_getA (e_dx DX12_loads_0 16 rfl) fX12_136 rfl (by decide) (Nat.le_of_ble_eq_true rfl) rfl (by decide),
  f_bipush (e_dx DX12_loads_0 17 rfl) ⟨by decide, by decide⟩,
  f_iload_n (n := 1) (e_dx DX12_loads_0 18 rfl) rfl,
  f_imul (e_dx DX12_loads_0 19 rfl),
  f_iload_n (n := 2) (e_dx DX12_loads_0 20 rfl) rfl,
  f_iadd (e_dx DX12_loads_0 21 rfl),
  f_iaload (e_dx DX12_loads_0 22 rfl),
  f_iastore (e_dx DX12_loads_0 23 rfl),
  f_aload_n (n := 0) (e_dx DX12_loads_0 24 rfl) rfl,
  f_getA (e_dx DX12_loads_0 25 rfl) fX12_196 rfl (by decide) (Nat.le_of_ble_eq_true rfl) rfl (by decide),
  f_iload_n (n := 2) (e_dx DX12_loads_0 26 rfl) rfl,
  f_aload_n (n := 0) (e_dx DX12_loads_0 27 rfl) rfl,
  f_getA (e_dx DX12_loads_0 28 rfl) fX12_145 rfl (by decide) (Nat.le_of_ble_eq_true rfl) rfl (by decide),
  f_bipush (e_dx DX12_loads_0 29 rfl) ⟨by decide, by decide⟩,
  f_iload_n (n := 1) (e_dx DX12_loads_0 30 rfl) rfl,
  f_imul (e_dx DX12_loads_0 31 rfl),
  f_iload_n (n := 2) (e_dx DX12_loads_0 32 rfl) rfl,
  f_iadd (e_dx DX12_loads_0 33 rfl),
  f_laload (e_dx DX12_loads_0 34 rfl),
  f_lastore (e_dx DX12_loads_0 35 rfl),
  f_aload_n (n := 0) (e_dx DX12_loads_0 36 rfl) rfl,
  f_getA (e_dx DX12_loads_0 37 rfl) fX12_199 rfl (by decide) (Nat.le_of_ble_eq_true rfl) rfl (by decide),
  f_iload_n (n := 2) (e_dx DX12_loads_0 38 rfl) rfl,
  f_aload_n (n := 0) (e_dx DX12_loads_0 39 rfl) rfl,
  f_getA (e_dx DX12_loads_1 0 rfl) fX12_148 rfl (by decide) (Nat.le_of_ble_eq_true rfl) rfl (by decide),
  f_bipush (e_dx DX12_loads_1 1 rfl) ⟨by decide, by decide⟩,
  f_iload_n (n := 1) (e_dx DX12_loads_1 2 rfl) rfl,
  f_imul (e_dx DX12_loads_1 3 rfl),
  f_iload_n (n := 2) (e_dx DX12_loads_1 4 rfl) rfl,
  f_iadd (e_dx DX12_loads_1 5 rfl),
  f_laload (e_dx DX12_loads_1 6 rfl),
  f_lastore (e_dx DX12_loads_1 7 rfl),
  f_g8 (e_dx DX12_loads_1 8 rfl) ⟨by decide, by decide⟩,
  f_g19 (e_dx DX12_loads_1 9 rfl) rfl,
  ⟨(e_dx DX12_loads_1 10 rfl), rfl⟩, trivial⟩
def lX12_loads : List (Nat × f_Wt) := []
set_option maxRecDepth 20000 in
theorem BX12_loads_12 {sh : Nat → Nat × Nat} {t : Nat} {rm : Nat × Nat × Nat} {cs : Nat × Nat} {R : f_Rt} {k12 : Int → Int → e_M → Prop} {x1 : Int} {x2 : Int} {M : e_M} (C : f_Hy sh t yX12_loads rm cs 4 (lX12_loads) R) (h12 : ∀ (x1 : Int) (x2 : Int) (M : e_M), k12 x1 x2 M → f_E sh t YX12_loads rm cs (f_Q sh t R) 12 [.inr (.inr (.inl (12, 123, 4456))), .inl x1, .inl x2] [] M) (h : VX12_loads_12 k12 (fun M => R none M) x1 x2 M) : f_E sh t YX12_loads rm cs (f_Q sh t R) 12 [.inr (.inr (.inl (12, 123, 4456))), .inl x1, .inl x2] [] M :=
  f_go (KC := f_kc [(12, f_pl [(4466, 12, 123), (1, 0, 0), (1, 0, 0)] [] (fun ls st M => k12 (f_vi (f_nth ls 1)) (f_vi (f_nth ls 2)) M))]) C qX12_loadsf (f_kc_cons (f_pl_ok rfl (fun ls st M h => h12 _ _ M h)) f_kc_nil) 54 9 h
set_option maxRecDepth 20000 in
theorem BX12_loads {sh : Nat → Nat × Nat} {t : Nat} {rm : Nat × Nat × Nat} {cs : Nat × Nat} {R : f_Rt} {k12 : Int → Int → e_M → Prop} {x1 : Int} {M : e_M} (C : f_Hy sh t yX12_loads rm cs 4 (lX12_loads) R) (h12 : ∀ (x1 : Int) (x2 : Int) (M : e_M), k12 x1 x2 M → f_E sh t YX12_loads rm cs (f_Q sh t R) 12 [.inr (.inr (.inl (12, 123, 4456))), .inl x1, .inl x2] [] M) (h : VX12_loads k12 (fun M => R none M) x1 M) : f_E sh t YX12_loads rm cs (f_Q sh t R) 0 [.inr (.inr (.inl (12, 123, 4456))), .inl x1, .inr (.inr (.inr ()))] [] M :=
  f_go (KC := f_kc [(12, f_pl [(4466, 12, 123), (1, 0, 0), (1, 0, 0)] [] (fun ls st M => k12 (f_vi (f_nth ls 1)) (f_vi (f_nth ls 2)) M))]) C qX12_loadsf (f_kc_cons (f_pl_ok rfl (fun ls st M h => h12 _ _ M h)) f_kc_nil) 54 0 h
def WX12_loads_12 (Q : e_M → Prop) : Nat → Int → Int → e_M → Prop
  | 0, _, _, _ => False
  | n + 1, x1, x2, M =>
    VX12_loads_12 (WX12_loads_12 Q n) Q x1 x2 M
def WX12_loads (x1 : Int) (M : e_M) (Q : e_M → Prop) : Prop :=
  VX12_loads (fun x1 x2 M => ∃ j, WX12_loads_12 Q j x1 x2 M) Q x1 M
theorem PX12_loads_12 {sh : Nat → Nat × Nat} {t : Nat} {rm : Nat × Nat × Nat} {cs : Nat × Nat} {R : f_Rt} (C : f_Hy sh t yX12_loads rm cs 4 (lX12_loads) R) : ∀ (n : Nat) (x1 : Int) (x2 : Int) (M : e_M), WX12_loads_12 (fun M => R none M) n x1 x2 M → f_E sh t YX12_loads rm cs (f_Q sh t R) 12 [.inr (.inr (.inl (12, 123, 4456))), .inl x1, .inl x2] [] M := by
  intro n
  induction n with
  | zero => intro x1 x2 M h; exact h.elim
  | succ n ih => intro x1 x2 M h; exact BX12_loads_12 C ih h
theorem PX12_loads {sh : Nat → Nat × Nat} {t : Nat} {rm : Nat × Nat × Nat} {cs : Nat × Nat} {R : f_Rt} {x1 : Int} {M : e_M} (C : f_Hy sh t yX12_loads rm cs 4 (lX12_loads) R) (h : WX12_loads x1 M (fun M => R none M)) : f_E sh t YX12_loads rm cs (f_Q sh t R) 0 [.inr (.inr (.inl (12, 123, 4456))), .inl x1, .inr (.inr (.inr ()))] [] M :=
  BX12_loads C (fun x1 x2 M ⟨j, h⟩ => PX12_loads_12 C j _ _ _ h) h
def wX12_loads : f_Wt := f_wm [(4466, 12, 123), (1, 0, 0)] (fun ar M R => WX12_loads (f_vi (f_nth ar 1)) M (fun M => R none M))
theorem TX12_loads {sh : Nat → Nat × Nat} {t : Nat} : f_Mt sh t YX12_loads 4 (wX12_loads) :=
  f_Mt_of (k := 1) (Nat.le_of_ble_eq_true rfl) rfl rfl (fun ar M R rm cs h1 h2 h3 hX h => PX12_loads ⟨Nat.le_of_ble_eq_true rfl, h1, h2, h3, trivial, hX⟩ h)
def VX12_keeps_12 (k12 : Int → Int → e_M → Prop) (Q : e_M → Prop) (x1 : Int) (x2 : Int) (M : e_M) : Prop :=
  (((M 4456 87) ≤ x2 → (Q M)) ∧ (x2 < (M 4456 87) → ((0 ≤ x2 ∧ x2 < 16) ∧ ((0 ≤ (e_w32 ((e_w32 ((8 : Int) * x1)) + x2)) ∧ (e_w32 ((e_w32 ((8 : Int) * x1)) + x2)) < 640) ∧ (∀ M1 : e_M, M1 = e_up M 4498 ((e_w32 ((e_w32 ((8 : Int) * x1)) + x2)).toNat) (M 4517 (x2.toNat)) → ((0 ≤ x2 ∧ x2 < 16) ∧ ((0 ≤ (e_w32 ((e_w32 ((8 : Int) * x1)) + x2)) ∧ (e_w32 ((e_w32 ((8 : Int) * x1)) + x2)) < 640) ∧ (∀ M2 : e_M, M2 = e_up M1 4501 ((e_w32 ((e_w32 ((8 : Int) * x1)) + x2)).toNat) (M1 4518 (x2.toNat)) → ((0 ≤ x2 ∧ x2 < 16) ∧ ((0 ≤ (e_w32 ((e_w32 ((8 : Int) * x1)) + x2)) ∧ (e_w32 ((e_w32 ((8 : Int) * x1)) + x2)) < 640) ∧ (∀ M3 : e_M, M3 = e_up M2 4502 ((e_w32 ((e_w32 ((8 : Int) * x1)) + x2)).toNat) (M2 4519 (x2.toNat)) → (k12 x1 (e_w32 (x2 + 1)) M3))))))))))))
def VX12_keeps (k12 : Int → Int → e_M → Prop) (Q : e_M → Prop) (x1 : Int) (M : e_M) : Prop :=
  ((0 ≤ x1 ∧ x1 < 80) ∧ (∀ M1 : e_M, M1 = e_up M 4497 (x1.toNat) (M 4456 87) → (k12 x1 0 M1)))
def yX12_keeps (i : Nat) : e_Y := x_get YX12_keeps [] i
def pX12_keepsf : List x_I := [(0, 4, 1, 0, 0, 0, []), (1, 25, 12, 64, 4, 0, [(0, 20, 80), (0, 1, 41)]), (4, 2, 1, 1, 0, 0, []), (5, 4, 1, 0, 0, 0, []), (6, 25, 12, 87, 0, 0, []), (9, 28, 0, 0, 0, 0, []), (10, 0, 1, 0, 0, 0, []), (11, 5, 1, 2, 0, 0, []), (12, 49, 0, 0, 0, 0, []), (12, 2, 1, 2, 0, 0, []), (13, 4, 1, 0, 0, 0, []), (14, 25, 12, 87, 0, 0, []), (17, 18, 77, 3, 52, 0, []), (20, 4, 1, 0, 0, 0, []), (21, 25, 12, 65, 4, 0, [(0, 20, 640), (0, 1, 42)]), (24, 0, 2, 0, 0, 8, []), (26, 2, 1, 1, 0, 0, []), (27, 9, 0, 2, 0, 0, []), (28, 2, 1, 2, 0, 0, []), (29, 9, 0, 0, 0, 0, []), (30, 4, 1, 0, 0, 0, []), (31, 25, 12, 88, 4, 0, [(0, 20, 16), (0, 1, 61)]), (34, 2, 1, 2, 0, 0, []), (35, 27, 0, 0, 0, 0, []), (36, 28, 0, 0, 0, 0, []), (37, 4, 1, 0, 0, 0, []), (38, 25, 12, 68, 4, 0, [(0, 23, 640), (0, 1, 45)]), (41, 0, 2, 0, 0, 8, []), (43, 2, 1, 1, 0, 0, []), (44, 9, 0, 2, 0, 0, []), (45, 2, 1, 2, 0, 0, []), (46, 9, 0, 0, 0, 0, []), (47, 4, 1, 0, 0, 0, []), (48, 25, 12, 89, 4, 0, [(0, 23, 16), (0, 1, 62)]), (51, 2, 1, 2, 0, 0, []), (52, 27, 0, 1, 0, 0, []), (53, 28, 0, 1, 0, 0, []), (54, 4, 1, 0, 0, 0, []), (55, 25, 12, 69, 4, 0, [(0, 23, 640), (0, 1, 46)]), (58, 0, 2, 0, 0, 8, []), (60, 2, 1, 1, 0, 0, []), (61, 9, 0, 2, 0, 0, []), (62, 2, 1, 2, 0, 0, []), (63, 9, 0, 0, 0, 0, []), (64, 4, 1, 0, 0, 0, []), (65, 25, 12, 90, 4, 0, [(0, 23, 16), (0, 1, 63)]), (68, 2, 1, 2, 0, 0, []), (69, 27, 0, 1, 0, 0, []), (70, 28, 0, 1, 0, 0, []), (71, 8, 0, 2, 0, 1, []), (74, 19, 12, 0, 9, 0, []), (77, 44, 0, 0, 0, 0, [])]
set_option maxRecDepth 20000 in
theorem qX12_keepsf : f_all yX12_keeps YX12_keeps pX12_keepsf :=
  ⟨f_aload_n (n := 0) (e_dx DX12_keeps_0 0 rfl) rfl,
  f_getA (e_dx DX12_keeps_0 1 rfl) fX12_133 rfl (by decide) (Nat.le_of_ble_eq_true rfl) rfl (by decide),
  f_iload_n (n := 1) (e_dx DX12_keeps_0 2 rfl) rfl,
  f_aload_n (n := 0) (e_dx DX12_keeps_0 3 rfl) rfl,
  f_getf (e_dx DX12_keeps_0 4 rfl) fX12_555 rfl (by decide) (by decide) (by decide),
  f_iastore (e_dx DX12_keeps_0 5 rfl),
  f_iconst (e_dx DX12_keeps_0 6 rfl) ⟨by decide, by decide⟩,
  f_istore_n (n := 2) (e_dx DX12_keeps_0 7 rfl) rfl (by decide),
  trivial,
  f_iload_n (n := 2) (e_dx DX12_keeps_0 8 rfl) rfl,
  f_aload_n (n := 0) (e_dx DX12_keeps_0 9 rfl) rfl,
  f_getf (e_dx DX12_keeps_0 10 rfl) fX12_555 rfl (by decide) (by decide) (by decide),
  f_icmp_ge (e_dx DX12_keeps_0 11 rfl) rfl,
  f_aload_n (n := 0) (e_dx DX12_keeps_0 12 rfl) rfl,
  f_getA (e_dx DX12_keeps_0 13 rfl) fX12_136 rfl (by decide) (Nat.le_of_ble_eq_true rfl) rfl (by decide),
  f_bipush (e_dx DX12_keeps_0 14 rfl) ⟨by decide, by decide⟩,
  f_iload_n (n := 1) (e_dx DX12_keeps_0 15 rfl) rfl,
  f_imul (e_dx DX12_keeps_0 16 rfl),
  f_iload_n (n := 2) (e_dx DX12_keeps_0 17 rfl) rfl,
  f_iadd (e_dx DX12_keeps_0 18 rfl),
  f_aload_n (n := 0) (e_dx DX12_keeps_0 19 rfl) rfl,
  f_getA (e_dx DX12_keeps_0 20 rfl) fX12_193 rfl (by decide) (Nat.le_of_ble_eq_true rfl) rfl (by decide),
  f_iload_n (n := 2) (e_dx DX12_keeps_0 21 rfl) rfl,
  f_iaload (e_dx DX12_keeps_0 22 rfl),
  f_iastore (e_dx DX12_keeps_0 23 rfl),
  f_aload_n (n := 0) (e_dx DX12_keeps_0 24 rfl) rfl,
  f_getA (e_dx DX12_keeps_0 25 rfl) fX12_145 rfl (by decide) (Nat.le_of_ble_eq_true rfl) rfl (by decide),
  f_bipush (e_dx DX12_keeps_0 26 rfl) ⟨by decide, by decide⟩,
  f_iload_n (n := 1) (e_dx DX12_keeps_0 27 rfl) rfl,
  f_imul (e_dx DX12_keeps_0 28 rfl),
  f_iload_n (n := 2) (e_dx DX12_keeps_0 29 rfl) rfl,
  f_iadd (e_dx DX12_keeps_0 30 rfl),
  f_aload_n (n := 0) (e_dx DX12_keeps_0 31 rfl) rfl,
  f_getA (e_dx DX12_keeps_0 32 rfl) fX12_196 rfl (by decide) (Nat.le_of_ble_eq_true rfl) rfl (by decide),
  f_iload_n (n := 2) (e_dx DX12_keeps_0 33 rfl) rfl,
  f_laload (e_dx DX12_keeps_0 34 rfl),
  f_lastore (e_dx DX12_keeps_0 35 rfl),
  f_aload_n (n := 0) (e_dx DX12_keeps_0 36 rfl) rfl,
  f_getA (e_dx DX12_keeps_0 37 rfl) fX12_148 rfl (by decide) (Nat.le_of_ble_eq_true rfl) rfl (by decide),
  f_bipush (e_dx DX12_keeps_0 38 rfl) ⟨by decide, by decide⟩,
  f_iload_n (n := 1) (e_dx DX12_keeps_0 39 rfl) rfl,
  f_imul (e_dx DX12_keeps_1 0 rfl),
  f_iload_n (n := 2) (e_dx DX12_keeps_1 1 rfl) rfl,
  f_iadd (e_dx DX12_keeps_1 2 rfl),
  f_aload_n (n := 0) (e_dx DX12_keeps_1 3 rfl) rfl,
  f_getA (e_dx DX12_keeps_1 4 rfl) fX12_199 rfl (by decide) (Nat.le_of_ble_eq_true rfl) rfl (by decide),
  f_iload_n (n := 2) (e_dx DX12_keeps_1 5 rfl) rfl,
  f_laload (e_dx DX12_keeps_1 6 rfl),
  f_lastore (e_dx DX12_keeps_1 7 rfl),
  f_g8 (e_dx DX12_keeps_1 8 rfl) ⟨by decide, by decide⟩,
  f_g19 (e_dx DX12_keeps_1 9 rfl) rfl,
  ⟨(e_dx DX12_keeps_1 10 rfl), rfl⟩, trivial⟩
def lX12_keeps : List (Nat × f_Wt) := []
set_option maxRecDepth 20000 in
theorem BX12_keeps_12 {sh : Nat → Nat × Nat} {t : Nat} {rm : Nat × Nat × Nat} {cs : Nat × Nat} {R : f_Rt} {k12 : Int → Int → e_M → Prop} {x1 : Int} {x2 : Int} {M : e_M} (C : f_Hy sh t yX12_keeps rm cs 4 (lX12_keeps) R) (h12 : ∀ (x1 : Int) (x2 : Int) (M : e_M), k12 x1 x2 M → f_E sh t YX12_keeps rm cs (f_Q sh t R) 12 [.inr (.inr (.inl (12, 123, 4456))), .inl x1, .inl x2] [] M) (h : VX12_keeps_12 k12 (fun M => R none M) x1 x2 M) : f_E sh t YX12_keeps rm cs (f_Q sh t R) 12 [.inr (.inr (.inl (12, 123, 4456))), .inl x1, .inl x2] [] M :=
  f_go (KC := f_kc [(12, f_pl [(4466, 12, 123), (1, 0, 0), (1, 0, 0)] [] (fun ls st M => k12 (f_vi (f_nth ls 1)) (f_vi (f_nth ls 2)) M))]) C qX12_keepsf (f_kc_cons (f_pl_ok rfl (fun ls st M h => h12 _ _ M h)) f_kc_nil) 54 9 h
set_option maxRecDepth 20000 in
theorem BX12_keeps {sh : Nat → Nat × Nat} {t : Nat} {rm : Nat × Nat × Nat} {cs : Nat × Nat} {R : f_Rt} {k12 : Int → Int → e_M → Prop} {x1 : Int} {M : e_M} (C : f_Hy sh t yX12_keeps rm cs 4 (lX12_keeps) R) (h12 : ∀ (x1 : Int) (x2 : Int) (M : e_M), k12 x1 x2 M → f_E sh t YX12_keeps rm cs (f_Q sh t R) 12 [.inr (.inr (.inl (12, 123, 4456))), .inl x1, .inl x2] [] M) (h : VX12_keeps k12 (fun M => R none M) x1 M) : f_E sh t YX12_keeps rm cs (f_Q sh t R) 0 [.inr (.inr (.inl (12, 123, 4456))), .inl x1, .inr (.inr (.inr ()))] [] M :=
  f_go (KC := f_kc [(12, f_pl [(4466, 12, 123), (1, 0, 0), (1, 0, 0)] [] (fun ls st M => k12 (f_vi (f_nth ls 1)) (f_vi (f_nth ls 2)) M))]) C qX12_keepsf (f_kc_cons (f_pl_ok rfl (fun ls st M h => h12 _ _ M h)) f_kc_nil) 54 0 h
def WX12_keeps_12 (Q : e_M → Prop) : Nat → Int → Int → e_M → Prop
  | 0, _, _, _ => False
  | n + 1, x1, x2, M =>
    VX12_keeps_12 (WX12_keeps_12 Q n) Q x1 x2 M
def WX12_keeps (x1 : Int) (M : e_M) (Q : e_M → Prop) : Prop :=
  VX12_keeps (fun x1 x2 M => ∃ j, WX12_keeps_12 Q j x1 x2 M) Q x1 M
theorem PX12_keeps_12 {sh : Nat → Nat × Nat} {t : Nat} {rm : Nat × Nat × Nat} {cs : Nat × Nat} {R : f_Rt} (C : f_Hy sh t yX12_keeps rm cs 4 (lX12_keeps) R) : ∀ (n : Nat) (x1 : Int) (x2 : Int) (M : e_M), WX12_keeps_12 (fun M => R none M) n x1 x2 M → f_E sh t YX12_keeps rm cs (f_Q sh t R) 12 [.inr (.inr (.inl (12, 123, 4456))), .inl x1, .inl x2] [] M := by
  intro n
  induction n with
  | zero => intro x1 x2 M h; exact h.elim
  | succ n ih => intro x1 x2 M h; exact BX12_keeps_12 C ih h
theorem PX12_keeps {sh : Nat → Nat × Nat} {t : Nat} {rm : Nat × Nat × Nat} {cs : Nat × Nat} {R : f_Rt} {x1 : Int} {M : e_M} (C : f_Hy sh t yX12_keeps rm cs 4 (lX12_keeps) R) (h : WX12_keeps x1 M (fun M => R none M)) : f_E sh t YX12_keeps rm cs (f_Q sh t R) 0 [.inr (.inr (.inl (12, 123, 4456))), .inl x1, .inr (.inr (.inr ()))] [] M :=
  BX12_keeps C (fun x1 x2 M ⟨j, h⟩ => PX12_keeps_12 C j _ _ _ h) h
def wX12_keeps : f_Wt := f_wm [(4466, 12, 123), (1, 0, 0)] (fun ar M R => WX12_keeps (f_vi (f_nth ar 1)) M (fun M => R none M))
theorem TX12_keeps {sh : Nat → Nat × Nat} {t : Nat} : f_Mt sh t YX12_keeps 4 (wX12_keeps) :=
  f_Mt_of (k := 1) (Nat.le_of_ble_eq_true rfl) rfl rfl (fun ar M R rm cs h1 h2 h3 hX h => PX12_keeps ⟨Nat.le_of_ble_eq_true rfl, h1, h2, h3, trivial, hX⟩ h)
def VX12_ownAt_2 (k2 : Int → Int → Prop) (Q : Int → Prop) (x1 : Int) (x2 : Int) (M : e_M) : Prop :=
  (((M 4456 87) ≤ x2 → (Q (-1))) ∧ (x2 < (M 4456 87) → ((0 ≤ x2 ∧ x2 < 16) ∧ ((¬ (M 4517 (x2.toNat)) = x1 → (k2 x1 (e_w32 (x2 + 1)))) ∧ ((M 4517 (x2.toNat)) = x1 → (Q x2))))))
def VX12_ownAt (k2 : Int → Int → Prop) (Q : Int → Prop) (x1 : Int) (M : e_M) : Prop :=
  (k2 x1 0)
def yX12_ownAt (i : Nat) : e_Y := x_get YX12_ownAt [] i
def pX12_ownAtf : List x_I := [(0, 0, 1, 0, 0, 0, []), (1, 5, 1, 2, 0, 0, []), (2, 49, 0, 0, 0, 0, []), (2, 2, 1, 2, 0, 0, []), (3, 4, 1, 0, 0, 0, []), (4, 25, 12, 87, 0, 0, []), (7, 18, 28, 3, 18, 0, []), (10, 4, 1, 0, 0, 0, []), (11, 25, 12, 88, 4, 0, [(0, 20, 16), (0, 1, 61)]), (14, 2, 1, 2, 0, 0, []), (15, 27, 0, 0, 0, 0, []), (16, 2, 1, 1, 0, 0, []), (17, 18, 22, 1, 16, 0, []), (20, 2, 1, 2, 0, 0, []), (21, 41, 0, 0, 0, 0, []), (22, 8, 0, 2, 0, 1, []), (25, 19, 2, 0, 3, 0, []), (28, 0, 1, 0, 0, (-1), []), (29, 41, 0, 0, 0, 0, [])]
set_option maxRecDepth 20000 in
theorem qX12_ownAtf : f_all yX12_ownAt YX12_ownAt pX12_ownAtf :=
  ⟨f_iconst (e_dx DX12_ownAt_0 0 rfl) ⟨by decide, by decide⟩,
  f_istore_n (n := 2) (e_dx DX12_ownAt_0 1 rfl) rfl (by decide),
  trivial,
  f_iload_n (n := 2) (e_dx DX12_ownAt_0 2 rfl) rfl,
  f_aload_n (n := 0) (e_dx DX12_ownAt_0 3 rfl) rfl,
  f_getf (e_dx DX12_ownAt_0 4 rfl) fX12_555 rfl (by decide) (by decide) (by decide),
  f_icmp_ge (e_dx DX12_ownAt_0 5 rfl) rfl,
  f_aload_n (n := 0) (e_dx DX12_ownAt_0 6 rfl) rfl,
  f_getA (e_dx DX12_ownAt_0 7 rfl) fX12_193 rfl (by decide) (Nat.le_of_ble_eq_true rfl) rfl (by decide),
  f_iload_n (n := 2) (e_dx DX12_ownAt_0 8 rfl) rfl,
  f_iaload (e_dx DX12_ownAt_0 9 rfl),
  f_iload_n (n := 1) (e_dx DX12_ownAt_0 10 rfl) rfl,
  f_icmp_ne (e_dx DX12_ownAt_0 11 rfl) rfl,
  f_iload_n (n := 2) (e_dx DX12_ownAt_0 12 rfl) rfl,
  ⟨(e_dx DX12_ownAt_0 13 rfl), rfl⟩,
  f_g8 (e_dx DX12_ownAt_0 14 rfl) ⟨by decide, by decide⟩,
  f_g19 (e_dx DX12_ownAt_0 15 rfl) rfl,
  f_iconst (e_dx DX12_ownAt_0 16 rfl) ⟨by decide, by decide⟩,
  ⟨(e_dx DX12_ownAt_0 17 rfl), rfl⟩, trivial⟩
def lX12_ownAt : List (Nat × f_Wt) := []
set_option maxRecDepth 20000 in
theorem BX12_ownAt_2 {sh : Nat → Nat × Nat} {t : Nat} {rm : Nat × Nat × Nat} {cs : Nat × Nat} {R : f_Rt} {k2 : Int → Int → Prop} {x1 : Int} {x2 : Int} {M : e_M} (C : f_Hy sh t yX12_ownAt rm cs 4 (lX12_ownAt) R) (h2 : ∀ (x1 : Int) (x2 : Int), k2 x1 x2 → f_E sh t YX12_ownAt rm cs (f_Q sh t R) 2 [.inr (.inr (.inl (12, 123, 4456))), .inl x1, .inl x2] [] M) (h : VX12_ownAt_2 k2 (fun r => R (some (.inl r)) M) x1 x2 M) : f_E sh t YX12_ownAt rm cs (f_Q sh t R) 2 [.inr (.inr (.inl (12, 123, 4456))), .inl x1, .inl x2] [] M := by
  rw [f_kk2 M k2] at h
  exact f_go (KC := f_kc [(2, f_pl [(4466, 12, 123), (1, 0, 0), (1, 0, 0)] [] (fun ls st M2 => M2 = M ∧ (k2 (f_vi (f_nth ls 1)) (f_vi (f_nth ls 2)))))]) C qX12_ownAtf (f_kc_cons (f_pl_ok rfl (fun ls st M2 ⟨e, hh⟩ => by subst e; exact h2 _ _ hh)) f_kc_nil) 21 3 h
set_option maxRecDepth 20000 in
theorem BX12_ownAt {sh : Nat → Nat × Nat} {t : Nat} {rm : Nat × Nat × Nat} {cs : Nat × Nat} {R : f_Rt} {k2 : Int → Int → Prop} {x1 : Int} {M : e_M} (C : f_Hy sh t yX12_ownAt rm cs 4 (lX12_ownAt) R) (h2 : ∀ (x1 : Int) (x2 : Int), k2 x1 x2 → f_E sh t YX12_ownAt rm cs (f_Q sh t R) 2 [.inr (.inr (.inl (12, 123, 4456))), .inl x1, .inl x2] [] M) (h : VX12_ownAt k2 (fun r => R (some (.inl r)) M) x1 M) : f_E sh t YX12_ownAt rm cs (f_Q sh t R) 0 [.inr (.inr (.inl (12, 123, 4456))), .inl x1, .inr (.inr (.inr ()))] [] M := by
  rw [f_kk2 M k2] at h
  exact f_go (KC := f_kc [(2, f_pl [(4466, 12, 123), (1, 0, 0), (1, 0, 0)] [] (fun ls st M2 => M2 = M ∧ (k2 (f_vi (f_nth ls 1)) (f_vi (f_nth ls 2)))))]) C qX12_ownAtf (f_kc_cons (f_pl_ok rfl (fun ls st M2 ⟨e, hh⟩ => by subst e; exact h2 _ _ hh)) f_kc_nil) 21 0 h
def WX12_ownAt_2 (M : e_M) (Q : Int → Prop) : Nat → Int → Int → Prop
  | 0, _, _ => False
  | n + 1, x1, x2 =>
    VX12_ownAt_2 (WX12_ownAt_2 M Q n) Q x1 x2 M
def WX12_ownAt (x1 : Int) (M : e_M) (Q : Int → Prop) : Prop :=
  VX12_ownAt (fun x1 x2 => ∃ j, WX12_ownAt_2 M Q j x1 x2) Q x1 M
theorem PX12_ownAt_2 {sh : Nat → Nat × Nat} {t : Nat} {rm : Nat × Nat × Nat} {cs : Nat × Nat} {R : f_Rt} {M : e_M} (C : f_Hy sh t yX12_ownAt rm cs 4 (lX12_ownAt) R) : ∀ (n : Nat) (x1 : Int) (x2 : Int), WX12_ownAt_2 M (fun r => R (some (.inl r)) M) n x1 x2 → f_E sh t YX12_ownAt rm cs (f_Q sh t R) 2 [.inr (.inr (.inl (12, 123, 4456))), .inl x1, .inl x2] [] M := by
  intro n
  induction n with
  | zero => intro x1 x2 h; exact h.elim
  | succ n ih => intro x1 x2 h; exact BX12_ownAt_2 C ih h
theorem PX12_ownAt {sh : Nat → Nat × Nat} {t : Nat} {rm : Nat × Nat × Nat} {cs : Nat × Nat} {R : f_Rt} {x1 : Int} {M : e_M} (C : f_Hy sh t yX12_ownAt rm cs 4 (lX12_ownAt) R) (h : WX12_ownAt x1 M (fun r => R (some (.inl r)) M)) : f_E sh t YX12_ownAt rm cs (f_Q sh t R) 0 [.inr (.inr (.inl (12, 123, 4456))), .inl x1, .inr (.inr (.inr ()))] [] M :=
  BX12_ownAt C (fun x1 x2 ⟨j, h⟩ => PX12_ownAt_2 C j _ _ h) h
def wX12_ownAt : f_Wt := f_wm [(4466, 12, 123), (1, 0, 0)] (fun ar M R => WX12_ownAt (f_vi (f_nth ar 1)) M (fun r => R (some (.inl r)) M))
theorem TX12_ownAt {sh : Nat → Nat × Nat} {t : Nat} : f_Mt sh t YX12_ownAt 4 (wX12_ownAt) :=
  f_Mt_of (k := 1) (Nat.le_of_ble_eq_true rfl) rfl rfl (fun ar M R rm cs h1 h2 h3 hX h => PX12_ownAt ⟨Nat.le_of_ble_eq_true rfl, h1, h2, h3, trivial, hX⟩ h)
def VX12_gets (c_X12_ownAt : Int → e_M → (Int → Prop) → Prop) (c_X12_plus : Int → Int → Int → Int → e_M → (e_M → Prop) → Prop) (Q : e_M → Prop) (x1 : Int) (x2 : Int) (x4 : Int) (M : e_M) : Prop :=
  (c_X12_ownAt x1 M (fun r1 => ((0 ≤ r1 → ((0 ≤ r1 ∧ r1 < 16) ∧ ((0 ≤ r1 ∧ r1 < 16) ∧ (c_X12_plus (M 4518 (r1.toNat)) (M 4519 (r1.toNat)) x2 x4 M (fun M2 => ((0 ≤ r1 ∧ r1 < 16) ∧ (∀ M3 : e_M, M3 = e_up M2 4518 (r1.toNat) (M2 4456 38) → ((0 ≤ r1 ∧ r1 < 16) ∧ (∀ M4 : e_M, M4 = e_up M3 4519 (r1.toNat) (M3 4456 39) → (Q M4)))))))))) ∧ (r1 < 0 → ((0 ≤ (M 4456 87) ∧ (M 4456 87) < 16) ∧ (∀ M5 : e_M, M5 = e_up M 4517 ((M 4456 87).toNat) x1 → ((0 ≤ (M5 4456 87) ∧ (M5 4456 87) < 16) ∧ (∀ M6 : e_M, M6 = e_up M5 4518 ((M5 4456 87).toNat) x2 → ((0 ≤ (M6 4456 87) ∧ (M6 4456 87) < 16) ∧ (∀ M7 : e_M, M7 = e_up M6 4519 ((M6 4456 87).toNat) x4 → (∀ M8 : e_M, M8 = e_up M7 4456 87 (e_w32 ((M7 4456 87) + 1)) → (Q M8))))))))))))
def yX12_gets (i : Nat) : e_Y := x_get YX12_gets [YX12_ownAt, YX12_plus] i
def pX12_getsf : List x_I := [(0, 4, 1, 0, 0, 0, []), (1, 2, 1, 1, 0, 0, []), (2, 40, 0, 2, 14, 0, []), (5, 5, 2, 6, 0, 0, []), (7, 2, 2, 6, 0, 0, []), (9, 17, 54, 3, 32, 0, []), (12, 4, 1, 0, 0, 0, []), (13, 25, 12, 88, 4, 0, [(0, 20, 16), (0, 1, 61)]), (16, 4, 1, 0, 0, 0, []), (17, 25, 12, 87, 0, 0, []), (20, 2, 1, 1, 0, 0, []), (21, 28, 0, 0, 0, 0, []), (22, 4, 1, 0, 0, 0, []), (23, 25, 12, 89, 4, 0, [(0, 23, 16), (0, 1, 62)]), (26, 4, 1, 0, 0, 0, []), (27, 25, 12, 87, 0, 0, []), (30, 3, 1, 2, 0, 0, []), (31, 28, 0, 1, 0, 0, []), (32, 4, 1, 0, 0, 0, []), (33, 25, 12, 90, 4, 0, [(0, 23, 16), (0, 1, 63)]), (36, 4, 1, 0, 0, 0, []), (37, 25, 12, 87, 0, 0, []), (40, 3, 2, 4, 0, 0, []), (42, 28, 0, 1, 0, 0, []), (43, 4, 1, 0, 0, 0, []), (44, 20, 0, 0, 0, 0, []), (45, 25, 12, 87, 0, 0, []), (48, 0, 1, 0, 0, 1, []), (49, 9, 0, 0, 0, 0, []), (50, 26, 12, 87, 0, 0, []), (53, 44, 0, 0, 0, 0, []), (54, 4, 1, 0, 0, 0, []), (55, 4, 1, 0, 0, 0, []), (56, 25, 12, 89, 4, 0, [(0, 23, 16), (0, 1, 62)]), (59, 2, 2, 6, 0, 0, []), (61, 27, 0, 1, 0, 0, []), (62, 4, 1, 0, 0, 0, []), (63, 25, 12, 90, 4, 0, [(0, 23, 16), (0, 1, 63)]), (66, 2, 2, 6, 0, 0, []), (68, 27, 0, 1, 0, 0, []), (69, 3, 1, 2, 0, 0, []), (70, 3, 2, 4, 0, 0, []), (72, 40, 1, 5, 14, 0, []), (75, 4, 1, 0, 0, 0, []), (76, 25, 12, 89, 4, 0, [(0, 23, 16), (0, 1, 62)]), (79, 2, 2, 6, 0, 0, []), (81, 4, 1, 0, 0, 0, []), (82, 25, 12, 38, 3, 0, []), (85, 28, 0, 1, 0, 0, []), (86, 4, 1, 0, 0, 0, []), (87, 25, 12, 90, 4, 0, [(0, 23, 16), (0, 1, 63)]), (90, 2, 2, 6, 0, 0, []), (92, 4, 1, 0, 0, 0, []), (93, 25, 12, 39, 3, 0, []), (96, 28, 0, 1, 0, 0, []), (97, 44, 0, 0, 0, 0, [])]
set_option maxRecDepth 20000 in
theorem qX12_getsf : f_all yX12_gets YX12_gets pX12_getsf :=
  ⟨f_aload_n (n := 0) (e_dx DX12_gets_0 0 rfl) rfl,
  f_iload_n (n := 1) (e_dx DX12_gets_0 1 rfl) rfl,
  x_callV (e_dx DX12_gets_0 2 rfl) mwX12_ownAt vwX12_ownAt cX12_558 rfl,
  f_istore (e_dx DX12_gets_0 3 rfl) (by decide),
  f_iload (e_dx DX12_gets_0 4 rfl),
  f_if_ge (e_dx DX12_gets_0 5 rfl) rfl,
  f_aload_n (n := 0) (e_dx DX12_gets_0 6 rfl) rfl,
  f_getA (e_dx DX12_gets_0 7 rfl) fX12_193 rfl (by decide) (Nat.le_of_ble_eq_true rfl) rfl (by decide),
  f_aload_n (n := 0) (e_dx DX12_gets_0 8 rfl) rfl,
  f_getf (e_dx DX12_gets_0 9 rfl) fX12_555 rfl (by decide) (by decide) (by decide),
  f_iload_n (n := 1) (e_dx DX12_gets_0 10 rfl) rfl,
  f_iastore (e_dx DX12_gets_0 11 rfl),
  f_aload_n (n := 0) (e_dx DX12_gets_0 12 rfl) rfl,
  f_getA (e_dx DX12_gets_0 13 rfl) fX12_196 rfl (by decide) (Nat.le_of_ble_eq_true rfl) rfl (by decide),
  f_aload_n (n := 0) (e_dx DX12_gets_0 14 rfl) rfl,
  f_getf (e_dx DX12_gets_0 15 rfl) fX12_555 rfl (by decide) (by decide) (by decide),
  f_lload_n (n := 2) (e_dx DX12_gets_0 16 rfl) rfl,
  f_lastore (e_dx DX12_gets_0 17 rfl),
  f_aload_n (n := 0) (e_dx DX12_gets_0 18 rfl) rfl,
  f_getA (e_dx DX12_gets_0 19 rfl) fX12_199 rfl (by decide) (Nat.le_of_ble_eq_true rfl) rfl (by decide),
  f_aload_n (n := 0) (e_dx DX12_gets_0 20 rfl) rfl,
  f_getf (e_dx DX12_gets_0 21 rfl) fX12_555 rfl (by decide) (by decide) (by decide),
  f_lload (e_dx DX12_gets_0 22 rfl),
  f_lastore (e_dx DX12_gets_0 23 rfl),
  f_aload_n (n := 0) (e_dx DX12_gets_0 24 rfl) rfl,
  f_g20 (e_dx DX12_gets_0 25 rfl),
  f_getf (e_dx DX12_gets_0 26 rfl) fX12_555 rfl (by decide) (by decide) (by decide),
  f_iconst (e_dx DX12_gets_0 27 rfl) ⟨by decide, by decide⟩,
  f_iadd (e_dx DX12_gets_0 28 rfl),
  f_putn (e_dx DX12_gets_0 29 rfl) fX12_555 (fun q hq => by cases hq; rfl) rfl (Or.inl rfl) (by decide),
  ⟨(e_dx DX12_gets_0 30 rfl), rfl⟩,
  f_aload_n (n := 0) (e_dx DX12_gets_0 31 rfl) rfl,
  f_aload_n (n := 0) (e_dx DX12_gets_0 32 rfl) rfl,
  f_getA (e_dx DX12_gets_0 33 rfl) fX12_196 rfl (by decide) (Nat.le_of_ble_eq_true rfl) rfl (by decide),
  f_iload (e_dx DX12_gets_0 34 rfl),
  f_laload (e_dx DX12_gets_0 35 rfl),
  f_aload_n (n := 0) (e_dx DX12_gets_0 36 rfl) rfl,
  f_getA (e_dx DX12_gets_0 37 rfl) fX12_199 rfl (by decide) (Nat.le_of_ble_eq_true rfl) rfl (by decide),
  f_iload (e_dx DX12_gets_0 38 rfl),
  f_laload (e_dx DX12_gets_0 39 rfl),
  f_lload_n (n := 2) (e_dx DX12_gets_1 0 rfl) rfl,
  f_lload (e_dx DX12_gets_1 1 rfl),
  x_callV (e_dx DX12_gets_1 2 rfl) mwX12_plus vwX12_plus cX12_423 rfl,
  f_aload_n (n := 0) (e_dx DX12_gets_1 3 rfl) rfl,
  f_getA (e_dx DX12_gets_1 4 rfl) fX12_196 rfl (by decide) (Nat.le_of_ble_eq_true rfl) rfl (by decide),
  f_iload (e_dx DX12_gets_1 5 rfl),
  f_aload_n (n := 0) (e_dx DX12_gets_1 6 rfl) rfl,
  f_getL (e_dx DX12_gets_1 7 rfl) fX12_413 rfl (by decide),
  f_lastore (e_dx DX12_gets_1 8 rfl),
  f_aload_n (n := 0) (e_dx DX12_gets_1 9 rfl) rfl,
  f_getA (e_dx DX12_gets_1 10 rfl) fX12_199 rfl (by decide) (Nat.le_of_ble_eq_true rfl) rfl (by decide),
  f_iload (e_dx DX12_gets_1 11 rfl),
  f_aload_n (n := 0) (e_dx DX12_gets_1 12 rfl) rfl,
  f_getL (e_dx DX12_gets_1 13 rfl) fX12_416 rfl (by decide),
  f_lastore (e_dx DX12_gets_1 14 rfl),
  ⟨(e_dx DX12_gets_1 15 rfl), rfl⟩, trivial⟩
def lX12_gets (c_X12_ownAt : Int → e_M → (Int → Prop) → Prop) (c_X12_plus : Int → Int → Int → Int → e_M → (e_M → Prop) → Prop) : List (Nat × f_Wt) := [(0, f_wm [(4466, 12, 123), (1, 0, 0)] (fun ar M R => c_X12_ownAt (f_vi (f_nth ar 1)) M (fun r => R (some (.inl r)) M))), (1, f_wm [(4466, 12, 123), (2, 0, 0), (2, 0, 0), (2, 0, 0), (2, 0, 0)] (fun ar M R => c_X12_plus (f_vi (f_nth ar 1)) (f_vi (f_nth ar 2)) (f_vi (f_nth ar 3)) (f_vi (f_nth ar 4)) M (fun M => R none M)))]
set_option maxRecDepth 20000 in
theorem BX12_gets {sh : Nat → Nat × Nat} {t : Nat} {rm : Nat × Nat × Nat} {cs : Nat × Nat} {R : f_Rt} {c_X12_ownAt : Int → e_M → (Int → Prop) → Prop} {c_X12_plus : Int → Int → Int → Int → e_M → (e_M → Prop) → Prop} {x1 : Int} {x2 : Int} {x4 : Int} {M : e_M} (C : f_Hy sh t yX12_gets rm cs 7 (lX12_gets c_X12_ownAt c_X12_plus) R) (h : VX12_gets c_X12_ownAt c_X12_plus (fun M => R none M) x1 x2 x4 M) : f_E sh t YX12_gets rm cs (f_Q sh t R) 0 [.inr (.inr (.inl (12, 123, 4456))), .inl x1, .inr (.inl x2), .inr (.inr (.inr ())), .inr (.inl x4), .inr (.inr (.inr ())), .inr (.inr (.inr ()))] [] M :=
  f_go (KC := f_kc []) C qX12_getsf f_kc_nil 58 0 h
def WX12_gets (x1 : Int) (x2 : Int) (x4 : Int) (M : e_M) (Q : e_M → Prop) : Prop :=
  VX12_gets WX12_ownAt WX12_plus Q x1 x2 x4 M
theorem PX12_gets {sh : Nat → Nat × Nat} {t : Nat} {rm : Nat × Nat × Nat} {cs : Nat × Nat} {R : f_Rt} {x1 : Int} {x2 : Int} {x4 : Int} {M : e_M} (C : f_Hy sh t yX12_gets rm cs 7 (lX12_gets WX12_ownAt WX12_plus) R) (h : WX12_gets x1 x2 x4 M (fun M => R none M)) : f_E sh t YX12_gets rm cs (f_Q sh t R) 0 [.inr (.inr (.inl (12, 123, 4456))), .inl x1, .inr (.inl x2), .inr (.inr (.inr ())), .inr (.inl x4), .inr (.inr (.inr ())), .inr (.inr (.inr ()))] [] M :=
  BX12_gets C h
def wX12_gets : f_Wt := f_wm [(4466, 12, 123), (1, 0, 0), (2, 0, 0), (2, 0, 0)] (fun ar M R => WX12_gets (f_vi (f_nth ar 1)) (f_vi (f_nth ar 2)) (f_vi (f_nth ar 3)) M (fun M => R none M))
theorem TX12_gets {sh : Nat → Nat × Nat} {t : Nat} : f_Mt sh t YX12_gets 7 (wX12_gets) :=
  f_Mt_of (k := 1) (Nat.le_of_ble_eq_true rfl) rfl rfl (fun ar M R rm cs h1 h2 h3 hX h => PX12_gets ⟨Nat.le_of_ble_eq_true rfl, h1, h2, h3, ⟨(f_Mt.up (Nat.le_of_ble_eq_true rfl) TX12_ownAt), (f_Mt.up (Nat.le_of_ble_eq_true rfl) TX12_plus), trivial⟩, hX⟩ h)
def VX12_gives_74 (c_X12_ownAt : Int → e_M → (Int → Prop) → Prop) (c_X12_less : Int → Int → Int → Int → e_M → (e_M → Prop) → Prop) (k74 : Int → e_M → Prop) (Q : e_M → Prop) (x7 : Int) (M : e_M) : Prop :=
  (((M 4456 87) ≤ x7 → (Q M)) ∧ (x7 < (M 4456 87) → ((0 ≤ (e_w32 (x7 + 1)) ∧ (e_w32 (x7 + 1)) < 16) ∧ ((0 ≤ x7 ∧ x7 < 16) ∧ (∀ M1 : e_M, M1 = e_up M 4517 (x7.toNat) (M 4517 ((e_w32 (x7 + 1)).toNat)) → ((0 ≤ (e_w32 (x7 + 1)) ∧ (e_w32 (x7 + 1)) < 16) ∧ ((0 ≤ x7 ∧ x7 < 16) ∧ (∀ M2 : e_M, M2 = e_up M1 4518 (x7.toNat) (M1 4518 ((e_w32 (x7 + 1)).toNat)) → ((0 ≤ (e_w32 (x7 + 1)) ∧ (e_w32 (x7 + 1)) < 16) ∧ ((0 ≤ x7 ∧ x7 < 16) ∧ (∀ M3 : e_M, M3 = e_up M2 4519 (x7.toNat) (M2 4519 ((e_w32 (x7 + 1)).toNat)) → (k74 (e_w32 (x7 + 1)) M3))))))))))))
def VX12_gives (c_X12_ownAt : Int → e_M → (Int → Prop) → Prop) (c_X12_less : Int → Int → Int → Int → e_M → (e_M → Prop) → Prop) (k74 : Int → e_M → Prop) (Q : e_M → Prop) (x1 : Int) (x2 : Int) (x4 : Int) (M : e_M) : Prop :=
  (c_X12_ownAt x1 M (fun r1 => ((0 ≤ r1 ∧ r1 < 16) ∧ ((0 ≤ r1 ∧ r1 < 16) ∧ (c_X12_less (M 4518 (r1.toNat)) (M 4519 (r1.toNat)) x2 x4 M (fun M2 => ((0 ≤ r1 ∧ r1 < 16) ∧ (∀ M3 : e_M, M3 = e_up M2 4518 (r1.toNat) (M2 4456 38) → ((0 ≤ r1 ∧ r1 < 16) ∧ (∀ M4 : e_M, M4 = e_up M3 4519 (r1.toNat) (M3 4456 39) → (((M4 4456 38) ≤ 0 → (∀ M5 : e_M, M5 = e_up M4 4456 87 (e_w32 ((M4 4456 87) - 1)) → (k74 r1 M5))) ∧ (0 < (M4 4456 38) → (Q M4)))))))))))))
def yX12_gives (i : Nat) : e_Y := x_get YX12_gives [YX12_ownAt, YX12_less] i
def pX12_givesf : List x_I := [(0, 4, 1, 0, 0, 0, []), (1, 2, 1, 1, 0, 0, []), (2, 40, 0, 2, 14, 0, []), (5, 5, 2, 6, 0, 0, []), (7, 4, 1, 0, 0, 0, []), (8, 4, 1, 0, 0, 0, []), (9, 25, 12, 89, 4, 0, [(0, 23, 16), (0, 1, 62)]), (12, 2, 2, 6, 0, 0, []), (14, 27, 0, 1, 0, 0, []), (15, 4, 1, 0, 0, 0, []), (16, 25, 12, 90, 4, 0, [(0, 23, 16), (0, 1, 63)]), (19, 2, 2, 6, 0, 0, []), (21, 27, 0, 1, 0, 0, []), (22, 3, 1, 2, 0, 0, []), (23, 3, 2, 4, 0, 0, []), (25, 40, 1, 5, 14, 0, []), (28, 4, 1, 0, 0, 0, []), (29, 25, 12, 89, 4, 0, [(0, 23, 16), (0, 1, 62)]), (32, 2, 2, 6, 0, 0, []), (34, 4, 1, 0, 0, 0, []), (35, 25, 12, 38, 3, 0, []), (38, 28, 0, 1, 0, 0, []), (39, 4, 1, 0, 0, 0, []), (40, 25, 12, 90, 4, 0, [(0, 23, 16), (0, 1, 63)]), (43, 2, 2, 6, 0, 0, []), (45, 4, 1, 0, 0, 0, []), (46, 25, 12, 39, 3, 0, []), (49, 28, 0, 1, 0, 0, []), (50, 4, 1, 0, 0, 0, []), (51, 25, 12, 38, 3, 0, []), (54, 1, 1, 0, 0, 0, []), (55, 32, 60, 5, 34, 0, []), (59, 44, 0, 0, 0, 0, []), (60, 4, 1, 0, 0, 0, []), (61, 20, 0, 0, 0, 0, []), (62, 25, 12, 87, 0, 0, []), (65, 0, 1, 0, 0, 1, []), (66, 9, 0, 1, 0, 0, []), (67, 26, 12, 87, 0, 0, []), (70, 2, 2, 6, 0, 0, []), (72, 5, 2, 7, 0, 0, []), (74, 49, 0, 0, 0, 0, []), (74, 2, 2, 7, 0, 0, []), (76, 4, 1, 0, 0, 0, []), (77, 25, 12, 87, 0, 0, []), (80, 18, 137, 3, 79, 0, []), (83, 4, 1, 0, 0, 0, []), (84, 25, 12, 88, 4, 0, [(0, 20, 16), (0, 1, 61)]), (87, 2, 2, 7, 0, 0, []), (89, 4, 1, 0, 0, 0, []), (90, 25, 12, 88, 4, 0, [(0, 20, 16), (0, 1, 61)]), (93, 2, 2, 7, 0, 0, []), (95, 0, 1, 0, 0, 1, []), (96, 9, 0, 0, 0, 0, []), (97, 27, 0, 0, 0, 0, []), (98, 28, 0, 0, 0, 0, []), (99, 4, 1, 0, 0, 0, []), (100, 25, 12, 89, 4, 0, [(0, 23, 16), (0, 1, 62)]), (103, 2, 2, 7, 0, 0, []), (105, 4, 1, 0, 0, 0, []), (106, 25, 12, 89, 4, 0, [(0, 23, 16), (0, 1, 62)]), (109, 2, 2, 7, 0, 0, []), (111, 0, 1, 0, 0, 1, []), (112, 9, 0, 0, 0, 0, []), (113, 27, 0, 1, 0, 0, []), (114, 28, 0, 1, 0, 0, []), (115, 4, 1, 0, 0, 0, []), (116, 25, 12, 90, 4, 0, [(0, 23, 16), (0, 1, 63)]), (119, 2, 2, 7, 0, 0, []), (121, 4, 1, 0, 0, 0, []), (122, 25, 12, 90, 4, 0, [(0, 23, 16), (0, 1, 63)]), (125, 2, 2, 7, 0, 0, []), (127, 0, 1, 0, 0, 1, []), (128, 9, 0, 0, 0, 0, []), (129, 27, 0, 1, 0, 0, []), (130, 28, 0, 1, 0, 0, []), (131, 8, 0, 7, 0, 1, []), (134, 19, 74, 0, 42, 0, []), (137, 44, 0, 0, 0, 0, [])]
set_option maxRecDepth 20000 in
theorem qX12_givesf : f_all yX12_gives YX12_gives pX12_givesf :=
  ⟨f_aload_n (n := 0) (e_dx DX12_gives_0 0 rfl) rfl,
  f_iload_n (n := 1) (e_dx DX12_gives_0 1 rfl) rfl,
  x_callV (e_dx DX12_gives_0 2 rfl) mwX12_ownAt vwX12_ownAt cX12_558 rfl,
  f_istore (e_dx DX12_gives_0 3 rfl) (by decide),
  f_aload_n (n := 0) (e_dx DX12_gives_0 4 rfl) rfl,
  f_aload_n (n := 0) (e_dx DX12_gives_0 5 rfl) rfl,
  f_getA (e_dx DX12_gives_0 6 rfl) fX12_196 rfl (by decide) (Nat.le_of_ble_eq_true rfl) rfl (by decide),
  f_iload (e_dx DX12_gives_0 7 rfl),
  f_laload (e_dx DX12_gives_0 8 rfl),
  f_aload_n (n := 0) (e_dx DX12_gives_0 9 rfl) rfl,
  f_getA (e_dx DX12_gives_0 10 rfl) fX12_199 rfl (by decide) (Nat.le_of_ble_eq_true rfl) rfl (by decide),
  f_iload (e_dx DX12_gives_0 11 rfl),
  f_laload (e_dx DX12_gives_0 12 rfl),
  f_lload_n (n := 2) (e_dx DX12_gives_0 13 rfl) rfl,
  f_lload (e_dx DX12_gives_0 14 rfl),
  x_callV (e_dx DX12_gives_0 15 rfl) mwX12_less vwX12_less cX12_561 rfl,
  f_aload_n (n := 0) (e_dx DX12_gives_0 16 rfl) rfl,
  f_getA (e_dx DX12_gives_0 17 rfl) fX12_196 rfl (by decide) (Nat.le_of_ble_eq_true rfl) rfl (by decide),
  f_iload (e_dx DX12_gives_0 18 rfl),
  f_aload_n (n := 0) (e_dx DX12_gives_0 19 rfl) rfl,
  f_getL (e_dx DX12_gives_0 20 rfl) fX12_413 rfl (by decide),
  f_lastore (e_dx DX12_gives_0 21 rfl),
  f_aload_n (n := 0) (e_dx DX12_gives_0 22 rfl) rfl,
  f_getA (e_dx DX12_gives_0 23 rfl) fX12_199 rfl (by decide) (Nat.le_of_ble_eq_true rfl) rfl (by decide),
  f_iload (e_dx DX12_gives_0 24 rfl),
  f_aload_n (n := 0) (e_dx DX12_gives_0 25 rfl) rfl,
  f_getL (e_dx DX12_gives_0 26 rfl) fX12_416 rfl (by decide),
  f_lastore (e_dx DX12_gives_0 27 rfl),
  f_aload_n (n := 0) (e_dx DX12_gives_0 28 rfl) rfl,
  f_getL (e_dx DX12_gives_0 29 rfl) fX12_413 rfl (by decide),
  f_lconst (n := 0) (e_dx DX12_gives_0 30 rfl) rfl,
  f_lif_le (e_dx DX12_gives_0 31 rfl) (e_dx DX12_gives_0 32 rfl) rfl,
  ⟨(e_dx DX12_gives_0 33 rfl), rfl⟩,
  f_aload_n (n := 0) (e_dx DX12_gives_0 34 rfl) rfl,
  f_g20 (e_dx DX12_gives_0 35 rfl),
  f_getf (e_dx DX12_gives_0 36 rfl) fX12_555 rfl (by decide) (by decide) (by decide),
  f_iconst (e_dx DX12_gives_0 37 rfl) ⟨by decide, by decide⟩,
  f_isub (e_dx DX12_gives_0 38 rfl),
  f_putn (e_dx DX12_gives_0 39 rfl) fX12_555 (fun q hq => by cases hq; rfl) rfl (Or.inl rfl) (by decide),
  f_iload (e_dx DX12_gives_1 0 rfl),
  f_istore (e_dx DX12_gives_1 1 rfl) (by decide),
  trivial,
  f_iload (e_dx DX12_gives_1 2 rfl),
  f_aload_n (n := 0) (e_dx DX12_gives_1 3 rfl) rfl,
  f_getf (e_dx DX12_gives_1 4 rfl) fX12_555 rfl (by decide) (by decide) (by decide),
  f_icmp_ge (e_dx DX12_gives_1 5 rfl) rfl,
  f_aload_n (n := 0) (e_dx DX12_gives_1 6 rfl) rfl,
  f_getA (e_dx DX12_gives_1 7 rfl) fX12_193 rfl (by decide) (Nat.le_of_ble_eq_true rfl) rfl (by decide),
  f_iload (e_dx DX12_gives_1 8 rfl),
  f_aload_n (n := 0) (e_dx DX12_gives_1 9 rfl) rfl,
  f_getA (e_dx DX12_gives_1 10 rfl) fX12_193 rfl (by decide) (Nat.le_of_ble_eq_true rfl) rfl (by decide),
  f_iload (e_dx DX12_gives_1 11 rfl),
  f_iconst (e_dx DX12_gives_1 12 rfl) ⟨by decide, by decide⟩,
  f_iadd (e_dx DX12_gives_1 13 rfl),
  f_iaload (e_dx DX12_gives_1 14 rfl),
  f_iastore (e_dx DX12_gives_1 15 rfl),
  f_aload_n (n := 0) (e_dx DX12_gives_1 16 rfl) rfl,
  f_getA (e_dx DX12_gives_1 17 rfl) fX12_196 rfl (by decide) (Nat.le_of_ble_eq_true rfl) rfl (by decide),
  f_iload (e_dx DX12_gives_1 18 rfl),
  f_aload_n (n := 0) (e_dx DX12_gives_1 19 rfl) rfl,
  f_getA (e_dx DX12_gives_1 20 rfl) fX12_196 rfl (by decide) (Nat.le_of_ble_eq_true rfl) rfl (by decide),
  f_iload (e_dx DX12_gives_1 21 rfl),
  f_iconst (e_dx DX12_gives_1 22 rfl) ⟨by decide, by decide⟩,
  f_iadd (e_dx DX12_gives_1 23 rfl),
  f_laload (e_dx DX12_gives_1 24 rfl),
  f_lastore (e_dx DX12_gives_1 25 rfl),
  f_aload_n (n := 0) (e_dx DX12_gives_1 26 rfl) rfl,
  f_getA (e_dx DX12_gives_1 27 rfl) fX12_199 rfl (by decide) (Nat.le_of_ble_eq_true rfl) rfl (by decide),
  f_iload (e_dx DX12_gives_1 28 rfl),
  f_aload_n (n := 0) (e_dx DX12_gives_1 29 rfl) rfl,
  f_getA (e_dx DX12_gives_1 30 rfl) fX12_199 rfl (by decide) (Nat.le_of_ble_eq_true rfl) rfl (by decide),
  f_iload (e_dx DX12_gives_1 31 rfl),
  f_iconst (e_dx DX12_gives_1 32 rfl) ⟨by decide, by decide⟩,
  f_iadd (e_dx DX12_gives_1 33 rfl),
  f_laload (e_dx DX12_gives_1 34 rfl),
  f_lastore (e_dx DX12_gives_1 35 rfl),
  f_g8 (e_dx DX12_gives_1 36 rfl) ⟨by decide, by decide⟩,
  f_g19 (e_dx DX12_gives_1 37 rfl) rfl,
  ⟨(e_dx DX12_gives_1 38 rfl), rfl⟩, trivial⟩
def lX12_gives (c_X12_ownAt : Int → e_M → (Int → Prop) → Prop) (c_X12_less : Int → Int → Int → Int → e_M → (e_M → Prop) → Prop) : List (Nat × f_Wt) := [(0, f_wm [(4466, 12, 123), (1, 0, 0)] (fun ar M R => c_X12_ownAt (f_vi (f_nth ar 1)) M (fun r => R (some (.inl r)) M))), (1, f_wm [(4466, 12, 123), (2, 0, 0), (2, 0, 0), (2, 0, 0), (2, 0, 0)] (fun ar M R => c_X12_less (f_vi (f_nth ar 1)) (f_vi (f_nth ar 2)) (f_vi (f_nth ar 3)) (f_vi (f_nth ar 4)) M (fun M => R none M)))]
set_option maxRecDepth 20000 in
theorem BX12_gives_74 {sh : Nat → Nat × Nat} {t : Nat} {rm : Nat × Nat × Nat} {cs : Nat × Nat} {R : f_Rt} {c_X12_ownAt : Int → e_M → (Int → Prop) → Prop} {c_X12_less : Int → Int → Int → Int → e_M → (e_M → Prop) → Prop} {k74 : Int → e_M → Prop} {x7 : Int} {M : e_M} (C : f_Hy sh t yX12_gives rm cs 7 (lX12_gives c_X12_ownAt c_X12_less) R) (h74 : ∀ (x7 : Int) (M : e_M), k74 x7 M → f_E sh t YX12_gives rm cs (f_Q sh t R) 74 [.inr (.inr (.inl (12, 123, 4456))), .inr (.inr (.inr ())), .inr (.inr (.inr ())), .inr (.inr (.inr ())), .inr (.inr (.inr ())), .inr (.inr (.inr ())), .inr (.inr (.inr ())), .inl x7] [] M) (h : VX12_gives_74 c_X12_ownAt c_X12_less k74 (fun M => R none M) x7 M) : f_E sh t YX12_gives rm cs (f_Q sh t R) 74 [.inr (.inr (.inl (12, 123, 4456))), .inr (.inr (.inr ())), .inr (.inr (.inr ())), .inr (.inr (.inr ())), .inr (.inr (.inr ())), .inr (.inr (.inr ())), .inr (.inr (.inr ())), .inl x7] [] M :=
  f_go (KC := f_kc [(74, f_pl [(4466, 12, 123), (0, 0, 0), (0, 0, 0), (0, 0, 0), (0, 0, 0), (0, 0, 0), (0, 0, 0), (1, 0, 0)] [] (fun ls st M => k74 (f_vi (f_nth ls 7)) M))]) C qX12_givesf (f_kc_cons (f_pl_ok rfl (fun ls st M h => h74 _ M h)) f_kc_nil) 81 42 h
set_option maxRecDepth 20000 in
theorem BX12_gives {sh : Nat → Nat × Nat} {t : Nat} {rm : Nat × Nat × Nat} {cs : Nat × Nat} {R : f_Rt} {c_X12_ownAt : Int → e_M → (Int → Prop) → Prop} {c_X12_less : Int → Int → Int → Int → e_M → (e_M → Prop) → Prop} {k74 : Int → e_M → Prop} {x1 : Int} {x2 : Int} {x4 : Int} {M : e_M} (C : f_Hy sh t yX12_gives rm cs 7 (lX12_gives c_X12_ownAt c_X12_less) R) (h74 : ∀ (x7 : Int) (M : e_M), k74 x7 M → f_E sh t YX12_gives rm cs (f_Q sh t R) 74 [.inr (.inr (.inl (12, 123, 4456))), .inr (.inr (.inr ())), .inr (.inr (.inr ())), .inr (.inr (.inr ())), .inr (.inr (.inr ())), .inr (.inr (.inr ())), .inr (.inr (.inr ())), .inl x7] [] M) (h : VX12_gives c_X12_ownAt c_X12_less k74 (fun M => R none M) x1 x2 x4 M) : f_E sh t YX12_gives rm cs (f_Q sh t R) 0 [.inr (.inr (.inl (12, 123, 4456))), .inl x1, .inr (.inl x2), .inr (.inr (.inr ())), .inr (.inl x4), .inr (.inr (.inr ())), .inr (.inr (.inr ())), .inr (.inr (.inr ()))] [] M :=
  f_go (KC := f_kc [(74, f_pl [(4466, 12, 123), (0, 0, 0), (0, 0, 0), (0, 0, 0), (0, 0, 0), (0, 0, 0), (0, 0, 0), (1, 0, 0)] [] (fun ls st M => k74 (f_vi (f_nth ls 7)) M))]) C qX12_givesf (f_kc_cons (f_pl_ok rfl (fun ls st M h => h74 _ M h)) f_kc_nil) 81 0 h
def WX12_gives_74 (Q : e_M → Prop) : Nat → Int → e_M → Prop
  | 0, _, _ => False
  | n + 1, x7, M =>
    VX12_gives_74 WX12_ownAt WX12_less (WX12_gives_74 Q n) Q x7 M
def WX12_gives (x1 : Int) (x2 : Int) (x4 : Int) (M : e_M) (Q : e_M → Prop) : Prop :=
  VX12_gives WX12_ownAt WX12_less (fun x7 M => ∃ j, WX12_gives_74 Q j x7 M) Q x1 x2 x4 M
theorem PX12_gives_74 {sh : Nat → Nat × Nat} {t : Nat} {rm : Nat × Nat × Nat} {cs : Nat × Nat} {R : f_Rt} (C : f_Hy sh t yX12_gives rm cs 7 (lX12_gives WX12_ownAt WX12_less) R) : ∀ (n : Nat) (x7 : Int) (M : e_M), WX12_gives_74 (fun M => R none M) n x7 M → f_E sh t YX12_gives rm cs (f_Q sh t R) 74 [.inr (.inr (.inl (12, 123, 4456))), .inr (.inr (.inr ())), .inr (.inr (.inr ())), .inr (.inr (.inr ())), .inr (.inr (.inr ())), .inr (.inr (.inr ())), .inr (.inr (.inr ())), .inl x7] [] M := by
  intro n
  induction n with
  | zero => intro x7 M h; exact h.elim
  | succ n ih => intro x7 M h; exact BX12_gives_74 C ih h
theorem PX12_gives {sh : Nat → Nat × Nat} {t : Nat} {rm : Nat × Nat × Nat} {cs : Nat × Nat} {R : f_Rt} {x1 : Int} {x2 : Int} {x4 : Int} {M : e_M} (C : f_Hy sh t yX12_gives rm cs 7 (lX12_gives WX12_ownAt WX12_less) R) (h : WX12_gives x1 x2 x4 M (fun M => R none M)) : f_E sh t YX12_gives rm cs (f_Q sh t R) 0 [.inr (.inr (.inl (12, 123, 4456))), .inl x1, .inr (.inl x2), .inr (.inr (.inr ())), .inr (.inl x4), .inr (.inr (.inr ())), .inr (.inr (.inr ())), .inr (.inr (.inr ()))] [] M :=
  BX12_gives C (fun x7 M ⟨j, h⟩ => PX12_gives_74 C j _ _ h) h
def wX12_gives : f_Wt := f_wm [(4466, 12, 123), (1, 0, 0), (2, 0, 0), (2, 0, 0)] (fun ar M R => WX12_gives (f_vi (f_nth ar 1)) (f_vi (f_nth ar 2)) (f_vi (f_nth ar 3)) M (fun M => R none M))
theorem TX12_gives {sh : Nat → Nat × Nat} {t : Nat} : f_Mt sh t YX12_gives 7 (wX12_gives) :=
  f_Mt_of (k := 2) (Nat.le_of_ble_eq_true rfl) rfl rfl (fun ar M R rm cs h1 h2 h3 hX h => PX12_gives ⟨Nat.le_of_ble_eq_true rfl, h1, h2, h3, ⟨(f_Mt.up (Nat.le_of_ble_eq_true rfl) TX12_ownAt), (f_Mt.up (Nat.le_of_ble_eq_true rfl) TX12_less), trivial⟩, hX⟩ h)
def VX12_isGreat_2 (k2 : Int → Prop) (Q : Int → Prop) (x1 : Int) (M : e_M) : Prop :=
  (((M 4456 87) ≤ x1 → (Q 0)) ∧ (x1 < (M 4456 87) → ((0 ≤ x1 ∧ x1 < 16) ∧ (((M 4519 (x1.toNat)) ≤ 1000000 → (k2 (e_w32 (x1 + 1)))) ∧ (1000000 < (M 4519 (x1.toNat)) → (Q 1))))))
def VX12_isGreat (k2 : Int → Prop) (Q : Int → Prop) (M : e_M) : Prop :=
  (k2 0)
def yX12_isGreat (i : Nat) : e_Y := x_get YX12_isGreat [] i
def pX12_isGreatf : List x_I := [(0, 0, 1, 0, 0, 0, []), (1, 5, 1, 1, 0, 0, []), (2, 49, 0, 0, 0, 0, []), (2, 2, 1, 1, 0, 0, []), (3, 4, 1, 0, 0, 0, []), (4, 25, 12, 87, 0, 0, []), (7, 18, 31, 3, 18, 0, []), (10, 4, 1, 0, 0, 0, []), (11, 25, 12, 90, 4, 0, [(0, 23, 16), (0, 1, 63)]), (14, 2, 1, 1, 0, 0, []), (15, 27, 0, 1, 0, 0, []), (16, 1, 3, 0, 0, 1000000, []), (19, 32, 25, 5, 16, 0, []), (23, 0, 1, 0, 0, 1, []), (24, 48, 0, 0, 0, 0, []), (25, 8, 0, 1, 0, 1, []), (28, 19, 2, 0, 3, 0, []), (31, 0, 1, 0, 0, 0, []), (32, 48, 0, 0, 0, 0, [])]
set_option maxRecDepth 20000 in
theorem qX12_isGreatf : f_all yX12_isGreat YX12_isGreat pX12_isGreatf :=
  ⟨f_iconst (e_dx DX12_isGreat_0 0 rfl) ⟨by decide, by decide⟩,
  f_istore_n (n := 1) (e_dx DX12_isGreat_0 1 rfl) rfl (by decide),
  trivial,
  f_iload_n (n := 1) (e_dx DX12_isGreat_0 2 rfl) rfl,
  f_aload_n (n := 0) (e_dx DX12_isGreat_0 3 rfl) rfl,
  f_getf (e_dx DX12_isGreat_0 4 rfl) fX12_555 rfl (by decide) (by decide) (by decide),
  f_icmp_ge (e_dx DX12_isGreat_0 5 rfl) rfl,
  f_aload_n (n := 0) (e_dx DX12_isGreat_0 6 rfl) rfl,
  f_getA (e_dx DX12_isGreat_0 7 rfl) fX12_199 rfl (by decide) (Nat.le_of_ble_eq_true rfl) rfl (by decide),
  f_iload_n (n := 1) (e_dx DX12_isGreat_0 8 rfl) rfl,
  f_laload (e_dx DX12_isGreat_0 9 rfl),
  f_ldc2 (e_dx DX12_isGreat_0 10 rfl) hX12_564 rfl ⟨by decide, by decide⟩,
  f_lif_le (e_dx DX12_isGreat_0 11 rfl) (e_dx DX12_isGreat_0 12 rfl) rfl,
  f_iconst (e_dx DX12_isGreat_0 13 rfl) ⟨by decide, by decide⟩,
  ⟨(e_dx DX12_isGreat_0 14 rfl), rfl⟩,
  f_g8 (e_dx DX12_isGreat_0 15 rfl) ⟨by decide, by decide⟩,
  f_g19 (e_dx DX12_isGreat_0 16 rfl) rfl,
  f_iconst (e_dx DX12_isGreat_0 17 rfl) ⟨by decide, by decide⟩,
  ⟨(e_dx DX12_isGreat_0 18 rfl), rfl⟩, trivial⟩
def lX12_isGreat : List (Nat × f_Wt) := []
set_option maxRecDepth 20000 in
theorem BX12_isGreat_2 {sh : Nat → Nat × Nat} {t : Nat} {rm : Nat × Nat × Nat} {cs : Nat × Nat} {R : f_Rt} {k2 : Int → Prop} {x1 : Int} {M : e_M} (C : f_Hy sh t yX12_isGreat rm cs 4 (lX12_isGreat) R) (h2 : ∀ (x1 : Int), k2 x1 → f_E sh t YX12_isGreat rm cs (f_Q sh t R) 2 [.inr (.inr (.inl (12, 123, 4456))), .inl x1] [] M) (h : VX12_isGreat_2 k2 (fun r => R (some (.inl r)) M) x1 M) : f_E sh t YX12_isGreat rm cs (f_Q sh t R) 2 [.inr (.inr (.inl (12, 123, 4456))), .inl x1] [] M := by
  rw [f_kk1 M k2] at h
  exact f_go (KC := f_kc [(2, f_pl [(4466, 12, 123), (1, 0, 0)] [] (fun ls st M2 => M2 = M ∧ (k2 (f_vi (f_nth ls 1)))))]) C qX12_isGreatf (f_kc_cons (f_pl_ok rfl (fun ls st M2 ⟨e, hh⟩ => by subst e; exact h2 _ hh)) f_kc_nil) 21 3 h
set_option maxRecDepth 20000 in
theorem BX12_isGreat {sh : Nat → Nat × Nat} {t : Nat} {rm : Nat × Nat × Nat} {cs : Nat × Nat} {R : f_Rt} {k2 : Int → Prop} {M : e_M} (C : f_Hy sh t yX12_isGreat rm cs 4 (lX12_isGreat) R) (h2 : ∀ (x1 : Int), k2 x1 → f_E sh t YX12_isGreat rm cs (f_Q sh t R) 2 [.inr (.inr (.inl (12, 123, 4456))), .inl x1] [] M) (h : VX12_isGreat k2 (fun r => R (some (.inl r)) M) M) : f_E sh t YX12_isGreat rm cs (f_Q sh t R) 0 [.inr (.inr (.inl (12, 123, 4456))), .inr (.inr (.inr ()))] [] M := by
  rw [f_kk1 M k2] at h
  exact f_go (KC := f_kc [(2, f_pl [(4466, 12, 123), (1, 0, 0)] [] (fun ls st M2 => M2 = M ∧ (k2 (f_vi (f_nth ls 1)))))]) C qX12_isGreatf (f_kc_cons (f_pl_ok rfl (fun ls st M2 ⟨e, hh⟩ => by subst e; exact h2 _ hh)) f_kc_nil) 21 0 h
def WX12_isGreat_2 (M : e_M) (Q : Int → Prop) : Nat → Int → Prop
  | 0, _ => False
  | n + 1, x1 =>
    VX12_isGreat_2 (WX12_isGreat_2 M Q n) Q x1 M
def WX12_isGreat (M : e_M) (Q : Int → Prop) : Prop :=
  VX12_isGreat (fun x1 => ∃ j, WX12_isGreat_2 M Q j x1) Q M
theorem PX12_isGreat_2 {sh : Nat → Nat × Nat} {t : Nat} {rm : Nat × Nat × Nat} {cs : Nat × Nat} {R : f_Rt} {M : e_M} (C : f_Hy sh t yX12_isGreat rm cs 4 (lX12_isGreat) R) : ∀ (n : Nat) (x1 : Int), WX12_isGreat_2 M (fun r => R (some (.inl r)) M) n x1 → f_E sh t YX12_isGreat rm cs (f_Q sh t R) 2 [.inr (.inr (.inl (12, 123, 4456))), .inl x1] [] M := by
  intro n
  induction n with
  | zero => intro x1 h; exact h.elim
  | succ n ih => intro x1 h; exact BX12_isGreat_2 C ih h
theorem PX12_isGreat {sh : Nat → Nat × Nat} {t : Nat} {rm : Nat × Nat × Nat} {cs : Nat × Nat} {R : f_Rt} {M : e_M} (C : f_Hy sh t yX12_isGreat rm cs 4 (lX12_isGreat) R) (h : WX12_isGreat M (fun r => R (some (.inl r)) M)) : f_E sh t YX12_isGreat rm cs (f_Q sh t R) 0 [.inr (.inr (.inl (12, 123, 4456))), .inr (.inr (.inr ()))] [] M :=
  BX12_isGreat C (fun x1 ⟨j, h⟩ => PX12_isGreat_2 C j _ h) h
def wX12_isGreat : f_Wt := f_wm [(4466, 12, 123)] (fun ar M R => WX12_isGreat M (fun r => R (some (.inl r)) M))
theorem TX12_isGreat {sh : Nat → Nat × Nat} {t : Nat} : f_Mt sh t YX12_isGreat 4 (wX12_isGreat) :=
  f_Mt_of (k := 1) (Nat.le_of_ble_eq_true rfl) rfl rfl (fun ar M R rm cs h1 h2 h3 hX h => PX12_isGreat ⟨Nat.le_of_ble_eq_true rfl, h1, h2, h3, trivial, hX⟩ h)
def VX12_placeOn_2 (k2 : Int → Int → Int → Prop) (Q : Int → Prop) (x1 : Int) (x2 : Int) (x3 : Int) (M : e_M) : Prop :=
  ((0 ≤ x1 ∧ x1 < 560) ∧ (((M 4492 (x1.toNat)) ≤ x3 → (Q (-1))) ∧ (x3 < (M 4492 (x1.toNat)) → ((0 ≤ (e_w32 ((e_w32 ((8 : Int) * x1)) + x3)) ∧ (e_w32 ((e_w32 ((8 : Int) * x1)) + x3)) < 4480) ∧ ((¬ (M 4493 ((e_w32 ((e_w32 ((8 : Int) * x1)) + x3)).toNat)) = x2 → (k2 x1 x2 (e_w32 (x3 + 1)))) ∧ ((M 4493 ((e_w32 ((e_w32 ((8 : Int) * x1)) + x3)).toNat)) = x2 → (Q x3)))))))
def VX12_placeOn (k2 : Int → Int → Int → Prop) (Q : Int → Prop) (x1 : Int) (x2 : Int) (M : e_M) : Prop :=
  (k2 x1 x2 0)
def yX12_placeOn (i : Nat) : e_Y := x_get YX12_placeOn [] i
def pX12_placeOnf : List x_I := [(0, 0, 1, 0, 0, 0, []), (1, 5, 1, 3, 0, 0, []), (2, 49, 0, 0, 0, 0, []), (2, 2, 1, 3, 0, 0, []), (3, 4, 1, 0, 0, 0, []), (4, 25, 12, 59, 4, 0, [(0, 20, 560), (0, 1, 36)]), (7, 2, 1, 1, 0, 0, []), (8, 27, 0, 0, 0, 0, []), (9, 18, 35, 3, 24, 0, []), (12, 4, 1, 0, 0, 0, []), (13, 25, 12, 60, 4, 0, [(0, 20, 4480), (0, 1, 37)]), (16, 0, 2, 0, 0, 8, []), (18, 2, 1, 1, 0, 0, []), (19, 9, 0, 2, 0, 0, []), (20, 2, 1, 3, 0, 0, []), (21, 9, 0, 0, 0, 0, []), (22, 27, 0, 0, 0, 0, []), (23, 2, 1, 2, 0, 0, []), (24, 18, 29, 1, 22, 0, []), (27, 2, 1, 3, 0, 0, []), (28, 41, 0, 0, 0, 0, []), (29, 8, 0, 3, 0, 1, []), (32, 19, 2, 0, 3, 0, []), (35, 0, 1, 0, 0, (-1), []), (36, 41, 0, 0, 0, 0, [])]
set_option maxRecDepth 20000 in
theorem qX12_placeOnf : f_all yX12_placeOn YX12_placeOn pX12_placeOnf :=
  ⟨f_iconst (e_dx DX12_placeOn_0 0 rfl) ⟨by decide, by decide⟩,
  f_istore_n (n := 3) (e_dx DX12_placeOn_0 1 rfl) rfl (by decide),
  trivial,
  f_iload_n (n := 3) (e_dx DX12_placeOn_0 2 rfl) rfl,
  f_aload_n (n := 0) (e_dx DX12_placeOn_0 3 rfl) rfl,
  f_getA (e_dx DX12_placeOn_0 4 rfl) fX12_118 rfl (by decide) (Nat.le_of_ble_eq_true rfl) rfl (by decide),
  f_iload_n (n := 1) (e_dx DX12_placeOn_0 5 rfl) rfl,
  f_iaload (e_dx DX12_placeOn_0 6 rfl),
  f_icmp_ge (e_dx DX12_placeOn_0 7 rfl) rfl,
  f_aload_n (n := 0) (e_dx DX12_placeOn_0 8 rfl) rfl,
  f_getA (e_dx DX12_placeOn_0 9 rfl) fX12_121 rfl (by decide) (Nat.le_of_ble_eq_true rfl) rfl (by decide),
  f_bipush (e_dx DX12_placeOn_0 10 rfl) ⟨by decide, by decide⟩,
  f_iload_n (n := 1) (e_dx DX12_placeOn_0 11 rfl) rfl,
  f_imul (e_dx DX12_placeOn_0 12 rfl),
  f_iload_n (n := 3) (e_dx DX12_placeOn_0 13 rfl) rfl,
  f_iadd (e_dx DX12_placeOn_0 14 rfl),
  f_iaload (e_dx DX12_placeOn_0 15 rfl),
  f_iload_n (n := 2) (e_dx DX12_placeOn_0 16 rfl) rfl,
  f_icmp_ne (e_dx DX12_placeOn_0 17 rfl) rfl,
  f_iload_n (n := 3) (e_dx DX12_placeOn_0 18 rfl) rfl,
  ⟨(e_dx DX12_placeOn_0 19 rfl), rfl⟩,
  f_g8 (e_dx DX12_placeOn_0 20 rfl) ⟨by decide, by decide⟩,
  f_g19 (e_dx DX12_placeOn_0 21 rfl) rfl,
  f_iconst (e_dx DX12_placeOn_0 22 rfl) ⟨by decide, by decide⟩,
  ⟨(e_dx DX12_placeOn_0 23 rfl), rfl⟩, trivial⟩
def lX12_placeOn : List (Nat × f_Wt) := []
set_option maxRecDepth 20000 in
theorem BX12_placeOn_2 {sh : Nat → Nat × Nat} {t : Nat} {rm : Nat × Nat × Nat} {cs : Nat × Nat} {R : f_Rt} {k2 : Int → Int → Int → Prop} {x1 : Int} {x2 : Int} {x3 : Int} {M : e_M} (C : f_Hy sh t yX12_placeOn rm cs 4 (lX12_placeOn) R) (h2 : ∀ (x1 : Int) (x2 : Int) (x3 : Int), k2 x1 x2 x3 → f_E sh t YX12_placeOn rm cs (f_Q sh t R) 2 [.inr (.inr (.inl (12, 123, 4456))), .inl x1, .inl x2, .inl x3] [] M) (h : VX12_placeOn_2 k2 (fun r => R (some (.inl r)) M) x1 x2 x3 M) : f_E sh t YX12_placeOn rm cs (f_Q sh t R) 2 [.inr (.inr (.inl (12, 123, 4456))), .inl x1, .inl x2, .inl x3] [] M := by
  rw [f_kk3 M k2] at h
  exact f_go (KC := f_kc [(2, f_pl [(4466, 12, 123), (1, 0, 0), (1, 0, 0), (1, 0, 0)] [] (fun ls st M2 => M2 = M ∧ (k2 (f_vi (f_nth ls 1)) (f_vi (f_nth ls 2)) (f_vi (f_nth ls 3)))))]) C qX12_placeOnf (f_kc_cons (f_pl_ok rfl (fun ls st M2 ⟨e, hh⟩ => by subst e; exact h2 _ _ _ hh)) f_kc_nil) 27 3 h
set_option maxRecDepth 20000 in
theorem BX12_placeOn {sh : Nat → Nat × Nat} {t : Nat} {rm : Nat × Nat × Nat} {cs : Nat × Nat} {R : f_Rt} {k2 : Int → Int → Int → Prop} {x1 : Int} {x2 : Int} {M : e_M} (C : f_Hy sh t yX12_placeOn rm cs 4 (lX12_placeOn) R) (h2 : ∀ (x1 : Int) (x2 : Int) (x3 : Int), k2 x1 x2 x3 → f_E sh t YX12_placeOn rm cs (f_Q sh t R) 2 [.inr (.inr (.inl (12, 123, 4456))), .inl x1, .inl x2, .inl x3] [] M) (h : VX12_placeOn k2 (fun r => R (some (.inl r)) M) x1 x2 M) : f_E sh t YX12_placeOn rm cs (f_Q sh t R) 0 [.inr (.inr (.inl (12, 123, 4456))), .inl x1, .inl x2, .inr (.inr (.inr ()))] [] M := by
  rw [f_kk3 M k2] at h
  exact f_go (KC := f_kc [(2, f_pl [(4466, 12, 123), (1, 0, 0), (1, 0, 0), (1, 0, 0)] [] (fun ls st M2 => M2 = M ∧ (k2 (f_vi (f_nth ls 1)) (f_vi (f_nth ls 2)) (f_vi (f_nth ls 3)))))]) C qX12_placeOnf (f_kc_cons (f_pl_ok rfl (fun ls st M2 ⟨e, hh⟩ => by subst e; exact h2 _ _ _ hh)) f_kc_nil) 27 0 h
def WX12_placeOn_2 (M : e_M) (Q : Int → Prop) : Nat → Int → Int → Int → Prop
  | 0, _, _, _ => False
  | n + 1, x1, x2, x3 =>
    VX12_placeOn_2 (WX12_placeOn_2 M Q n) Q x1 x2 x3 M
def WX12_placeOn (x1 : Int) (x2 : Int) (M : e_M) (Q : Int → Prop) : Prop :=
  VX12_placeOn (fun x1 x2 x3 => ∃ j, WX12_placeOn_2 M Q j x1 x2 x3) Q x1 x2 M
theorem PX12_placeOn_2 {sh : Nat → Nat × Nat} {t : Nat} {rm : Nat × Nat × Nat} {cs : Nat × Nat} {R : f_Rt} {M : e_M} (C : f_Hy sh t yX12_placeOn rm cs 4 (lX12_placeOn) R) : ∀ (n : Nat) (x1 : Int) (x2 : Int) (x3 : Int), WX12_placeOn_2 M (fun r => R (some (.inl r)) M) n x1 x2 x3 → f_E sh t YX12_placeOn rm cs (f_Q sh t R) 2 [.inr (.inr (.inl (12, 123, 4456))), .inl x1, .inl x2, .inl x3] [] M := by
  intro n
  induction n with
  | zero => intro x1 x2 x3 h; exact h.elim
  | succ n ih => intro x1 x2 x3 h; exact BX12_placeOn_2 C ih h
theorem PX12_placeOn {sh : Nat → Nat × Nat} {t : Nat} {rm : Nat × Nat × Nat} {cs : Nat × Nat} {R : f_Rt} {x1 : Int} {x2 : Int} {M : e_M} (C : f_Hy sh t yX12_placeOn rm cs 4 (lX12_placeOn) R) (h : WX12_placeOn x1 x2 M (fun r => R (some (.inl r)) M)) : f_E sh t YX12_placeOn rm cs (f_Q sh t R) 0 [.inr (.inr (.inl (12, 123, 4456))), .inl x1, .inl x2, .inr (.inr (.inr ()))] [] M :=
  BX12_placeOn C (fun x1 x2 x3 ⟨j, h⟩ => PX12_placeOn_2 C j _ _ _ h) h
def wX12_placeOn : f_Wt := f_wm [(4466, 12, 123), (1, 0, 0), (1, 0, 0)] (fun ar M R => WX12_placeOn (f_vi (f_nth ar 1)) (f_vi (f_nth ar 2)) M (fun r => R (some (.inl r)) M))
theorem TX12_placeOn {sh : Nat → Nat × Nat} {t : Nat} : f_Mt sh t YX12_placeOn 4 (wX12_placeOn) :=
  f_Mt_of (k := 1) (Nat.le_of_ble_eq_true rfl) rfl rfl (fun ar M R rm cs h1 h2 h3 hX h => PX12_placeOn ⟨Nat.le_of_ble_eq_true rfl, h1, h2, h3, trivial, hX⟩ h)
def VX12_placeOf_2 (k2 : Int → Int → Int → Prop) (Q : Int → Prop) (x1 : Int) (x2 : Int) (x3 : Int) (M : e_M) : Prop :=
  ((0 ≤ x1 ∧ x1 < 560) ∧ (((M 4494 (x1.toNat)) ≤ x3 → (Q (-1))) ∧ (x3 < (M 4494 (x1.toNat)) → ((0 ≤ (e_w32 ((e_w32 ((8 : Int) * x1)) + x3)) ∧ (e_w32 ((e_w32 ((8 : Int) * x1)) + x3)) < 4480) ∧ ((¬ (M 4495 ((e_w32 ((e_w32 ((8 : Int) * x1)) + x3)).toNat)) = x2 → (k2 x1 x2 (e_w32 (x3 + 1)))) ∧ ((M 4495 ((e_w32 ((e_w32 ((8 : Int) * x1)) + x3)).toNat)) = x2 → (Q x3)))))))
def VX12_placeOf (k2 : Int → Int → Int → Prop) (Q : Int → Prop) (x1 : Int) (x2 : Int) (M : e_M) : Prop :=
  (k2 x1 x2 0)
def yX12_placeOf (i : Nat) : e_Y := x_get YX12_placeOf [] i
def pX12_placeOff : List x_I := [(0, 0, 1, 0, 0, 0, []), (1, 5, 1, 3, 0, 0, []), (2, 49, 0, 0, 0, 0, []), (2, 2, 1, 3, 0, 0, []), (3, 4, 1, 0, 0, 0, []), (4, 25, 12, 61, 4, 0, [(0, 20, 560), (0, 1, 38)]), (7, 2, 1, 1, 0, 0, []), (8, 27, 0, 0, 0, 0, []), (9, 18, 35, 3, 24, 0, []), (12, 4, 1, 0, 0, 0, []), (13, 25, 12, 62, 4, 0, [(0, 20, 4480), (0, 1, 39)]), (16, 0, 2, 0, 0, 8, []), (18, 2, 1, 1, 0, 0, []), (19, 9, 0, 2, 0, 0, []), (20, 2, 1, 3, 0, 0, []), (21, 9, 0, 0, 0, 0, []), (22, 27, 0, 0, 0, 0, []), (23, 2, 1, 2, 0, 0, []), (24, 18, 29, 1, 22, 0, []), (27, 2, 1, 3, 0, 0, []), (28, 41, 0, 0, 0, 0, []), (29, 8, 0, 3, 0, 1, []), (32, 19, 2, 0, 3, 0, []), (35, 0, 1, 0, 0, (-1), []), (36, 41, 0, 0, 0, 0, [])]
set_option maxRecDepth 20000 in
theorem qX12_placeOff : f_all yX12_placeOf YX12_placeOf pX12_placeOff :=
  ⟨f_iconst (e_dx DX12_placeOf_0 0 rfl) ⟨by decide, by decide⟩,
  f_istore_n (n := 3) (e_dx DX12_placeOf_0 1 rfl) rfl (by decide),
  trivial,
  f_iload_n (n := 3) (e_dx DX12_placeOf_0 2 rfl) rfl,
  f_aload_n (n := 0) (e_dx DX12_placeOf_0 3 rfl) rfl,
  f_getA (e_dx DX12_placeOf_0 4 rfl) fX12_124 rfl (by decide) (Nat.le_of_ble_eq_true rfl) rfl (by decide),
  f_iload_n (n := 1) (e_dx DX12_placeOf_0 5 rfl) rfl,
  f_iaload (e_dx DX12_placeOf_0 6 rfl),
  f_icmp_ge (e_dx DX12_placeOf_0 7 rfl) rfl,
  f_aload_n (n := 0) (e_dx DX12_placeOf_0 8 rfl) rfl,
  f_getA (e_dx DX12_placeOf_0 9 rfl) fX12_127 rfl (by decide) (Nat.le_of_ble_eq_true rfl) rfl (by decide),
  f_bipush (e_dx DX12_placeOf_0 10 rfl) ⟨by decide, by decide⟩,
  f_iload_n (n := 1) (e_dx DX12_placeOf_0 11 rfl) rfl,
  f_imul (e_dx DX12_placeOf_0 12 rfl),
  f_iload_n (n := 3) (e_dx DX12_placeOf_0 13 rfl) rfl,
  f_iadd (e_dx DX12_placeOf_0 14 rfl),
  f_iaload (e_dx DX12_placeOf_0 15 rfl),
  f_iload_n (n := 2) (e_dx DX12_placeOf_0 16 rfl) rfl,
  f_icmp_ne (e_dx DX12_placeOf_0 17 rfl) rfl,
  f_iload_n (n := 3) (e_dx DX12_placeOf_0 18 rfl) rfl,
  ⟨(e_dx DX12_placeOf_0 19 rfl), rfl⟩,
  f_g8 (e_dx DX12_placeOf_0 20 rfl) ⟨by decide, by decide⟩,
  f_g19 (e_dx DX12_placeOf_0 21 rfl) rfl,
  f_iconst (e_dx DX12_placeOf_0 22 rfl) ⟨by decide, by decide⟩,
  ⟨(e_dx DX12_placeOf_0 23 rfl), rfl⟩, trivial⟩
def lX12_placeOf : List (Nat × f_Wt) := []
set_option maxRecDepth 20000 in
theorem BX12_placeOf_2 {sh : Nat → Nat × Nat} {t : Nat} {rm : Nat × Nat × Nat} {cs : Nat × Nat} {R : f_Rt} {k2 : Int → Int → Int → Prop} {x1 : Int} {x2 : Int} {x3 : Int} {M : e_M} (C : f_Hy sh t yX12_placeOf rm cs 4 (lX12_placeOf) R) (h2 : ∀ (x1 : Int) (x2 : Int) (x3 : Int), k2 x1 x2 x3 → f_E sh t YX12_placeOf rm cs (f_Q sh t R) 2 [.inr (.inr (.inl (12, 123, 4456))), .inl x1, .inl x2, .inl x3] [] M) (h : VX12_placeOf_2 k2 (fun r => R (some (.inl r)) M) x1 x2 x3 M) : f_E sh t YX12_placeOf rm cs (f_Q sh t R) 2 [.inr (.inr (.inl (12, 123, 4456))), .inl x1, .inl x2, .inl x3] [] M := by
  rw [f_kk3 M k2] at h
  exact f_go (KC := f_kc [(2, f_pl [(4466, 12, 123), (1, 0, 0), (1, 0, 0), (1, 0, 0)] [] (fun ls st M2 => M2 = M ∧ (k2 (f_vi (f_nth ls 1)) (f_vi (f_nth ls 2)) (f_vi (f_nth ls 3)))))]) C qX12_placeOff (f_kc_cons (f_pl_ok rfl (fun ls st M2 ⟨e, hh⟩ => by subst e; exact h2 _ _ _ hh)) f_kc_nil) 27 3 h
set_option maxRecDepth 20000 in
theorem BX12_placeOf {sh : Nat → Nat × Nat} {t : Nat} {rm : Nat × Nat × Nat} {cs : Nat × Nat} {R : f_Rt} {k2 : Int → Int → Int → Prop} {x1 : Int} {x2 : Int} {M : e_M} (C : f_Hy sh t yX12_placeOf rm cs 4 (lX12_placeOf) R) (h2 : ∀ (x1 : Int) (x2 : Int) (x3 : Int), k2 x1 x2 x3 → f_E sh t YX12_placeOf rm cs (f_Q sh t R) 2 [.inr (.inr (.inl (12, 123, 4456))), .inl x1, .inl x2, .inl x3] [] M) (h : VX12_placeOf k2 (fun r => R (some (.inl r)) M) x1 x2 M) : f_E sh t YX12_placeOf rm cs (f_Q sh t R) 0 [.inr (.inr (.inl (12, 123, 4456))), .inl x1, .inl x2, .inr (.inr (.inr ()))] [] M := by
  rw [f_kk3 M k2] at h
  exact f_go (KC := f_kc [(2, f_pl [(4466, 12, 123), (1, 0, 0), (1, 0, 0), (1, 0, 0)] [] (fun ls st M2 => M2 = M ∧ (k2 (f_vi (f_nth ls 1)) (f_vi (f_nth ls 2)) (f_vi (f_nth ls 3)))))]) C qX12_placeOff (f_kc_cons (f_pl_ok rfl (fun ls st M2 ⟨e, hh⟩ => by subst e; exact h2 _ _ _ hh)) f_kc_nil) 27 0 h
def WX12_placeOf_2 (M : e_M) (Q : Int → Prop) : Nat → Int → Int → Int → Prop
  | 0, _, _, _ => False
  | n + 1, x1, x2, x3 =>
    VX12_placeOf_2 (WX12_placeOf_2 M Q n) Q x1 x2 x3 M
def WX12_placeOf (x1 : Int) (x2 : Int) (M : e_M) (Q : Int → Prop) : Prop :=
  VX12_placeOf (fun x1 x2 x3 => ∃ j, WX12_placeOf_2 M Q j x1 x2 x3) Q x1 x2 M
theorem PX12_placeOf_2 {sh : Nat → Nat × Nat} {t : Nat} {rm : Nat × Nat × Nat} {cs : Nat × Nat} {R : f_Rt} {M : e_M} (C : f_Hy sh t yX12_placeOf rm cs 4 (lX12_placeOf) R) : ∀ (n : Nat) (x1 : Int) (x2 : Int) (x3 : Int), WX12_placeOf_2 M (fun r => R (some (.inl r)) M) n x1 x2 x3 → f_E sh t YX12_placeOf rm cs (f_Q sh t R) 2 [.inr (.inr (.inl (12, 123, 4456))), .inl x1, .inl x2, .inl x3] [] M := by
  intro n
  induction n with
  | zero => intro x1 x2 x3 h; exact h.elim
  | succ n ih => intro x1 x2 x3 h; exact BX12_placeOf_2 C ih h
theorem PX12_placeOf {sh : Nat → Nat × Nat} {t : Nat} {rm : Nat × Nat × Nat} {cs : Nat × Nat} {R : f_Rt} {x1 : Int} {x2 : Int} {M : e_M} (C : f_Hy sh t yX12_placeOf rm cs 4 (lX12_placeOf) R) (h : WX12_placeOf x1 x2 M (fun r => R (some (.inl r)) M)) : f_E sh t YX12_placeOf rm cs (f_Q sh t R) 0 [.inr (.inr (.inl (12, 123, 4456))), .inl x1, .inl x2, .inr (.inr (.inr ()))] [] M :=
  BX12_placeOf C (fun x1 x2 x3 ⟨j, h⟩ => PX12_placeOf_2 C j _ _ _ h) h
def wX12_placeOf : f_Wt := f_wm [(4466, 12, 123), (1, 0, 0), (1, 0, 0)] (fun ar M R => WX12_placeOf (f_vi (f_nth ar 1)) (f_vi (f_nth ar 2)) M (fun r => R (some (.inl r)) M))
theorem TX12_placeOf {sh : Nat → Nat × Nat} {t : Nat} : f_Mt sh t YX12_placeOf 4 (wX12_placeOf) :=
  f_Mt_of (k := 1) (Nat.le_of_ble_eq_true rfl) rfl rfl (fun ar M R rm cs h1 h2 h3 hX h => PX12_placeOf ⟨Nat.le_of_ble_eq_true rfl, h1, h2, h3, trivial, hX⟩ h)
def VX12_offOn_12 (k12 : Int → Int → e_M → Prop) (Q : e_M → Prop) (x1 : Int) (x3 : Int) (M : e_M) : Prop :=
  ((0 ≤ x1 ∧ x1 < 560) ∧ (((M 4492 (x1.toNat)) ≤ x3 → (Q M)) ∧ (x3 < (M 4492 (x1.toNat)) → ((0 ≤ (e_w32 ((e_w32 ((e_w32 ((8 : Int) * x1)) + x3)) + 1)) ∧ (e_w32 ((e_w32 ((e_w32 ((8 : Int) * x1)) + x3)) + 1)) < 4480) ∧ ((0 ≤ (e_w32 ((e_w32 ((8 : Int) * x1)) + x3)) ∧ (e_w32 ((e_w32 ((8 : Int) * x1)) + x3)) < 4480) ∧ (∀ M1 : e_M, M1 = e_up M 4493 ((e_w32 ((e_w32 ((8 : Int) * x1)) + x3)).toNat) (M 4493 ((e_w32 ((e_w32 ((e_w32 ((8 : Int) * x1)) + x3)) + 1)).toNat)) → (k12 x1 (e_w32 (x3 + 1)) M1)))))))
def VX12_offOn (k12 : Int → Int → e_M → Prop) (Q : e_M → Prop) (x1 : Int) (x2 : Int) (M : e_M) : Prop :=
  ((0 ≤ x1 ∧ x1 < 560) ∧ ((0 ≤ x1 ∧ x1 < 560) ∧ (∀ M1 : e_M, M1 = e_up M 4492 (x1.toNat) (e_w32 ((M 4492 (x1.toNat)) - 1)) → (k12 x1 x2 M1))))
def yX12_offOn (i : Nat) : e_Y := x_get YX12_offOn [] i
def pX12_offOnf : List x_I := [(0, 4, 1, 0, 0, 0, []), (1, 25, 12, 59, 4, 0, [(0, 20, 560), (0, 1, 36)]), (4, 2, 1, 1, 0, 0, []), (5, 23, 0, 0, 0, 0, []), (6, 27, 0, 0, 0, 0, []), (7, 0, 1, 0, 0, 1, []), (8, 9, 0, 1, 0, 0, []), (9, 28, 0, 0, 0, 0, []), (10, 2, 1, 2, 0, 0, []), (11, 5, 1, 3, 0, 0, []), (12, 49, 0, 0, 0, 0, []), (12, 2, 1, 3, 0, 0, []), (13, 4, 1, 0, 0, 0, []), (14, 25, 12, 59, 4, 0, [(0, 20, 560), (0, 1, 36)]), (17, 2, 1, 1, 0, 0, []), (18, 27, 0, 0, 0, 0, []), (19, 18, 52, 3, 38, 0, []), (22, 4, 1, 0, 0, 0, []), (23, 25, 12, 60, 4, 0, [(0, 20, 4480), (0, 1, 37)]), (26, 0, 2, 0, 0, 8, []), (28, 2, 1, 1, 0, 0, []), (29, 9, 0, 2, 0, 0, []), (30, 2, 1, 3, 0, 0, []), (31, 9, 0, 0, 0, 0, []), (32, 4, 1, 0, 0, 0, []), (33, 25, 12, 60, 4, 0, [(0, 20, 4480), (0, 1, 37)]), (36, 0, 2, 0, 0, 8, []), (38, 2, 1, 1, 0, 0, []), (39, 9, 0, 2, 0, 0, []), (40, 2, 1, 3, 0, 0, []), (41, 9, 0, 0, 0, 0, []), (42, 0, 1, 0, 0, 1, []), (43, 9, 0, 0, 0, 0, []), (44, 27, 0, 0, 0, 0, []), (45, 28, 0, 0, 0, 0, []), (46, 8, 0, 3, 0, 1, []), (49, 19, 12, 0, 11, 0, []), (52, 44, 0, 0, 0, 0, [])]
set_option maxRecDepth 20000 in
theorem qX12_offOnf : f_all yX12_offOn YX12_offOn pX12_offOnf :=
  ⟨f_aload_n (n := 0) (e_dx DX12_offOn_0 0 rfl) rfl,
  f_getA (e_dx DX12_offOn_0 1 rfl) fX12_118 rfl (by decide) (Nat.le_of_ble_eq_true rfl) rfl (by decide),
  f_iload_n (n := 1) (e_dx DX12_offOn_0 2 rfl) rfl,
  f_g23 (e_dx DX12_offOn_0 3 rfl),
  f_iaload (e_dx DX12_offOn_0 4 rfl),
  f_iconst (e_dx DX12_offOn_0 5 rfl) ⟨by decide, by decide⟩,
  f_isub (e_dx DX12_offOn_0 6 rfl),
  f_iastore (e_dx DX12_offOn_0 7 rfl),
  f_iload_n (n := 2) (e_dx DX12_offOn_0 8 rfl) rfl,
  f_istore_n (n := 3) (e_dx DX12_offOn_0 9 rfl) rfl (by decide),
  trivial,
  f_iload_n (n := 3) (e_dx DX12_offOn_0 10 rfl) rfl,
  f_aload_n (n := 0) (e_dx DX12_offOn_0 11 rfl) rfl,
  f_getA (e_dx DX12_offOn_0 12 rfl) fX12_118 rfl (by decide) (Nat.le_of_ble_eq_true rfl) rfl (by decide),
  f_iload_n (n := 1) (e_dx DX12_offOn_0 13 rfl) rfl,
  f_iaload (e_dx DX12_offOn_0 14 rfl),
  f_icmp_ge (e_dx DX12_offOn_0 15 rfl) rfl,
  f_aload_n (n := 0) (e_dx DX12_offOn_0 16 rfl) rfl,
  f_getA (e_dx DX12_offOn_0 17 rfl) fX12_121 rfl (by decide) (Nat.le_of_ble_eq_true rfl) rfl (by decide),
  f_bipush (e_dx DX12_offOn_0 18 rfl) ⟨by decide, by decide⟩,
  f_iload_n (n := 1) (e_dx DX12_offOn_0 19 rfl) rfl,
  f_imul (e_dx DX12_offOn_0 20 rfl),
  f_iload_n (n := 3) (e_dx DX12_offOn_0 21 rfl) rfl,
  f_iadd (e_dx DX12_offOn_0 22 rfl),
  f_aload_n (n := 0) (e_dx DX12_offOn_0 23 rfl) rfl,
  f_getA (e_dx DX12_offOn_0 24 rfl) fX12_121 rfl (by decide) (Nat.le_of_ble_eq_true rfl) rfl (by decide),
  f_bipush (e_dx DX12_offOn_0 25 rfl) ⟨by decide, by decide⟩,
  f_iload_n (n := 1) (e_dx DX12_offOn_0 26 rfl) rfl,
  f_imul (e_dx DX12_offOn_0 27 rfl),
  f_iload_n (n := 3) (e_dx DX12_offOn_0 28 rfl) rfl,
  f_iadd (e_dx DX12_offOn_0 29 rfl),
  f_iconst (e_dx DX12_offOn_0 30 rfl) ⟨by decide, by decide⟩,
  f_iadd (e_dx DX12_offOn_0 31 rfl),
  f_iaload (e_dx DX12_offOn_0 32 rfl),
  f_iastore (e_dx DX12_offOn_0 33 rfl),
  f_g8 (e_dx DX12_offOn_0 34 rfl) ⟨by decide, by decide⟩,
  f_g19 (e_dx DX12_offOn_0 35 rfl) rfl,
  ⟨(e_dx DX12_offOn_0 36 rfl), rfl⟩, trivial⟩
def lX12_offOn : List (Nat × f_Wt) := []
set_option maxRecDepth 20000 in
theorem BX12_offOn_12 {sh : Nat → Nat × Nat} {t : Nat} {rm : Nat × Nat × Nat} {cs : Nat × Nat} {R : f_Rt} {k12 : Int → Int → e_M → Prop} {x1 : Int} {x3 : Int} {M : e_M} (C : f_Hy sh t yX12_offOn rm cs 4 (lX12_offOn) R) (h12 : ∀ (x1 : Int) (x3 : Int) (M : e_M), k12 x1 x3 M → f_E sh t YX12_offOn rm cs (f_Q sh t R) 12 [.inr (.inr (.inl (12, 123, 4456))), .inl x1, .inr (.inr (.inr ())), .inl x3] [] M) (h : VX12_offOn_12 k12 (fun M => R none M) x1 x3 M) : f_E sh t YX12_offOn rm cs (f_Q sh t R) 12 [.inr (.inr (.inl (12, 123, 4456))), .inl x1, .inr (.inr (.inr ())), .inl x3] [] M :=
  f_go (KC := f_kc [(12, f_pl [(4466, 12, 123), (1, 0, 0), (0, 0, 0), (1, 0, 0)] [] (fun ls st M => k12 (f_vi (f_nth ls 1)) (f_vi (f_nth ls 3)) M))]) C qX12_offOnf (f_kc_cons (f_pl_ok rfl (fun ls st M h => h12 _ _ M h)) f_kc_nil) 40 11 h
set_option maxRecDepth 20000 in
theorem BX12_offOn {sh : Nat → Nat × Nat} {t : Nat} {rm : Nat × Nat × Nat} {cs : Nat × Nat} {R : f_Rt} {k12 : Int → Int → e_M → Prop} {x1 : Int} {x2 : Int} {M : e_M} (C : f_Hy sh t yX12_offOn rm cs 4 (lX12_offOn) R) (h12 : ∀ (x1 : Int) (x3 : Int) (M : e_M), k12 x1 x3 M → f_E sh t YX12_offOn rm cs (f_Q sh t R) 12 [.inr (.inr (.inl (12, 123, 4456))), .inl x1, .inr (.inr (.inr ())), .inl x3] [] M) (h : VX12_offOn k12 (fun M => R none M) x1 x2 M) : f_E sh t YX12_offOn rm cs (f_Q sh t R) 0 [.inr (.inr (.inl (12, 123, 4456))), .inl x1, .inl x2, .inr (.inr (.inr ()))] [] M :=
  f_go (KC := f_kc [(12, f_pl [(4466, 12, 123), (1, 0, 0), (0, 0, 0), (1, 0, 0)] [] (fun ls st M => k12 (f_vi (f_nth ls 1)) (f_vi (f_nth ls 3)) M))]) C qX12_offOnf (f_kc_cons (f_pl_ok rfl (fun ls st M h => h12 _ _ M h)) f_kc_nil) 40 0 h
def WX12_offOn_12 (Q : e_M → Prop) : Nat → Int → Int → e_M → Prop
  | 0, _, _, _ => False
  | n + 1, x1, x3, M =>
    VX12_offOn_12 (WX12_offOn_12 Q n) Q x1 x3 M
def WX12_offOn (x1 : Int) (x2 : Int) (M : e_M) (Q : e_M → Prop) : Prop :=
  VX12_offOn (fun x1 x3 M => ∃ j, WX12_offOn_12 Q j x1 x3 M) Q x1 x2 M
theorem PX12_offOn_12 {sh : Nat → Nat × Nat} {t : Nat} {rm : Nat × Nat × Nat} {cs : Nat × Nat} {R : f_Rt} (C : f_Hy sh t yX12_offOn rm cs 4 (lX12_offOn) R) : ∀ (n : Nat) (x1 : Int) (x3 : Int) (M : e_M), WX12_offOn_12 (fun M => R none M) n x1 x3 M → f_E sh t YX12_offOn rm cs (f_Q sh t R) 12 [.inr (.inr (.inl (12, 123, 4456))), .inl x1, .inr (.inr (.inr ())), .inl x3] [] M := by
  intro n
  induction n with
  | zero => intro x1 x3 M h; exact h.elim
  | succ n ih => intro x1 x3 M h; exact BX12_offOn_12 C ih h
theorem PX12_offOn {sh : Nat → Nat × Nat} {t : Nat} {rm : Nat × Nat × Nat} {cs : Nat × Nat} {R : f_Rt} {x1 : Int} {x2 : Int} {M : e_M} (C : f_Hy sh t yX12_offOn rm cs 4 (lX12_offOn) R) (h : WX12_offOn x1 x2 M (fun M => R none M)) : f_E sh t YX12_offOn rm cs (f_Q sh t R) 0 [.inr (.inr (.inl (12, 123, 4456))), .inl x1, .inl x2, .inr (.inr (.inr ()))] [] M :=
  BX12_offOn C (fun x1 x3 M ⟨j, h⟩ => PX12_offOn_12 C j _ _ _ h) h
def wX12_offOn : f_Wt := f_wm [(4466, 12, 123), (1, 0, 0), (1, 0, 0)] (fun ar M R => WX12_offOn (f_vi (f_nth ar 1)) (f_vi (f_nth ar 2)) M (fun M => R none M))
theorem TX12_offOn {sh : Nat → Nat × Nat} {t : Nat} : f_Mt sh t YX12_offOn 4 (wX12_offOn) :=
  f_Mt_of (k := 1) (Nat.le_of_ble_eq_true rfl) rfl rfl (fun ar M R rm cs h1 h2 h3 hX h => PX12_offOn ⟨Nat.le_of_ble_eq_true rfl, h1, h2, h3, trivial, hX⟩ h)
def VX12_offOf_12 (k12 : Int → Int → e_M → Prop) (Q : e_M → Prop) (x1 : Int) (x3 : Int) (M : e_M) : Prop :=
  ((0 ≤ x1 ∧ x1 < 560) ∧ (((M 4494 (x1.toNat)) ≤ x3 → (Q M)) ∧ (x3 < (M 4494 (x1.toNat)) → ((0 ≤ (e_w32 ((e_w32 ((e_w32 ((8 : Int) * x1)) + x3)) + 1)) ∧ (e_w32 ((e_w32 ((e_w32 ((8 : Int) * x1)) + x3)) + 1)) < 4480) ∧ ((0 ≤ (e_w32 ((e_w32 ((8 : Int) * x1)) + x3)) ∧ (e_w32 ((e_w32 ((8 : Int) * x1)) + x3)) < 4480) ∧ (∀ M1 : e_M, M1 = e_up M 4495 ((e_w32 ((e_w32 ((8 : Int) * x1)) + x3)).toNat) (M 4495 ((e_w32 ((e_w32 ((e_w32 ((8 : Int) * x1)) + x3)) + 1)).toNat)) → (k12 x1 (e_w32 (x3 + 1)) M1)))))))
def VX12_offOf (k12 : Int → Int → e_M → Prop) (Q : e_M → Prop) (x1 : Int) (x2 : Int) (M : e_M) : Prop :=
  ((0 ≤ x1 ∧ x1 < 560) ∧ ((0 ≤ x1 ∧ x1 < 560) ∧ (∀ M1 : e_M, M1 = e_up M 4494 (x1.toNat) (e_w32 ((M 4494 (x1.toNat)) - 1)) → (k12 x1 x2 M1))))
def yX12_offOf (i : Nat) : e_Y := x_get YX12_offOf [] i
def pX12_offOff : List x_I := [(0, 4, 1, 0, 0, 0, []), (1, 25, 12, 61, 4, 0, [(0, 20, 560), (0, 1, 38)]), (4, 2, 1, 1, 0, 0, []), (5, 23, 0, 0, 0, 0, []), (6, 27, 0, 0, 0, 0, []), (7, 0, 1, 0, 0, 1, []), (8, 9, 0, 1, 0, 0, []), (9, 28, 0, 0, 0, 0, []), (10, 2, 1, 2, 0, 0, []), (11, 5, 1, 3, 0, 0, []), (12, 49, 0, 0, 0, 0, []), (12, 2, 1, 3, 0, 0, []), (13, 4, 1, 0, 0, 0, []), (14, 25, 12, 61, 4, 0, [(0, 20, 560), (0, 1, 38)]), (17, 2, 1, 1, 0, 0, []), (18, 27, 0, 0, 0, 0, []), (19, 18, 52, 3, 38, 0, []), (22, 4, 1, 0, 0, 0, []), (23, 25, 12, 62, 4, 0, [(0, 20, 4480), (0, 1, 39)]), (26, 0, 2, 0, 0, 8, []), (28, 2, 1, 1, 0, 0, []), (29, 9, 0, 2, 0, 0, []), (30, 2, 1, 3, 0, 0, []), (31, 9, 0, 0, 0, 0, []), (32, 4, 1, 0, 0, 0, []), (33, 25, 12, 62, 4, 0, [(0, 20, 4480), (0, 1, 39)]), (36, 0, 2, 0, 0, 8, []), (38, 2, 1, 1, 0, 0, []), (39, 9, 0, 2, 0, 0, []), (40, 2, 1, 3, 0, 0, []), (41, 9, 0, 0, 0, 0, []), (42, 0, 1, 0, 0, 1, []), (43, 9, 0, 0, 0, 0, []), (44, 27, 0, 0, 0, 0, []), (45, 28, 0, 0, 0, 0, []), (46, 8, 0, 3, 0, 1, []), (49, 19, 12, 0, 11, 0, []), (52, 44, 0, 0, 0, 0, [])]
set_option maxRecDepth 20000 in
theorem qX12_offOff : f_all yX12_offOf YX12_offOf pX12_offOff :=
  ⟨f_aload_n (n := 0) (e_dx DX12_offOf_0 0 rfl) rfl,
  f_getA (e_dx DX12_offOf_0 1 rfl) fX12_124 rfl (by decide) (Nat.le_of_ble_eq_true rfl) rfl (by decide),
  f_iload_n (n := 1) (e_dx DX12_offOf_0 2 rfl) rfl,
  f_g23 (e_dx DX12_offOf_0 3 rfl),
  f_iaload (e_dx DX12_offOf_0 4 rfl),
  f_iconst (e_dx DX12_offOf_0 5 rfl) ⟨by decide, by decide⟩,
  f_isub (e_dx DX12_offOf_0 6 rfl),
  f_iastore (e_dx DX12_offOf_0 7 rfl),
  f_iload_n (n := 2) (e_dx DX12_offOf_0 8 rfl) rfl,
  f_istore_n (n := 3) (e_dx DX12_offOf_0 9 rfl) rfl (by decide),
  trivial,
  f_iload_n (n := 3) (e_dx DX12_offOf_0 10 rfl) rfl,
  f_aload_n (n := 0) (e_dx DX12_offOf_0 11 rfl) rfl,
  f_getA (e_dx DX12_offOf_0 12 rfl) fX12_124 rfl (by decide) (Nat.le_of_ble_eq_true rfl) rfl (by decide),
  f_iload_n (n := 1) (e_dx DX12_offOf_0 13 rfl) rfl,
  f_iaload (e_dx DX12_offOf_0 14 rfl),
  f_icmp_ge (e_dx DX12_offOf_0 15 rfl) rfl,
  f_aload_n (n := 0) (e_dx DX12_offOf_0 16 rfl) rfl,
  f_getA (e_dx DX12_offOf_0 17 rfl) fX12_127 rfl (by decide) (Nat.le_of_ble_eq_true rfl) rfl (by decide),
  f_bipush (e_dx DX12_offOf_0 18 rfl) ⟨by decide, by decide⟩,
  f_iload_n (n := 1) (e_dx DX12_offOf_0 19 rfl) rfl,
  f_imul (e_dx DX12_offOf_0 20 rfl),
  f_iload_n (n := 3) (e_dx DX12_offOf_0 21 rfl) rfl,
  f_iadd (e_dx DX12_offOf_0 22 rfl),
  f_aload_n (n := 0) (e_dx DX12_offOf_0 23 rfl) rfl,
  f_getA (e_dx DX12_offOf_0 24 rfl) fX12_127 rfl (by decide) (Nat.le_of_ble_eq_true rfl) rfl (by decide),
  f_bipush (e_dx DX12_offOf_0 25 rfl) ⟨by decide, by decide⟩,
  f_iload_n (n := 1) (e_dx DX12_offOf_0 26 rfl) rfl,
  f_imul (e_dx DX12_offOf_0 27 rfl),
  f_iload_n (n := 3) (e_dx DX12_offOf_0 28 rfl) rfl,
  f_iadd (e_dx DX12_offOf_0 29 rfl),
  f_iconst (e_dx DX12_offOf_0 30 rfl) ⟨by decide, by decide⟩,
  f_iadd (e_dx DX12_offOf_0 31 rfl),
  f_iaload (e_dx DX12_offOf_0 32 rfl),
  f_iastore (e_dx DX12_offOf_0 33 rfl),
  f_g8 (e_dx DX12_offOf_0 34 rfl) ⟨by decide, by decide⟩,
  f_g19 (e_dx DX12_offOf_0 35 rfl) rfl,
  ⟨(e_dx DX12_offOf_0 36 rfl), rfl⟩, trivial⟩
def lX12_offOf : List (Nat × f_Wt) := []
set_option maxRecDepth 20000 in
theorem BX12_offOf_12 {sh : Nat → Nat × Nat} {t : Nat} {rm : Nat × Nat × Nat} {cs : Nat × Nat} {R : f_Rt} {k12 : Int → Int → e_M → Prop} {x1 : Int} {x3 : Int} {M : e_M} (C : f_Hy sh t yX12_offOf rm cs 4 (lX12_offOf) R) (h12 : ∀ (x1 : Int) (x3 : Int) (M : e_M), k12 x1 x3 M → f_E sh t YX12_offOf rm cs (f_Q sh t R) 12 [.inr (.inr (.inl (12, 123, 4456))), .inl x1, .inr (.inr (.inr ())), .inl x3] [] M) (h : VX12_offOf_12 k12 (fun M => R none M) x1 x3 M) : f_E sh t YX12_offOf rm cs (f_Q sh t R) 12 [.inr (.inr (.inl (12, 123, 4456))), .inl x1, .inr (.inr (.inr ())), .inl x3] [] M :=
  f_go (KC := f_kc [(12, f_pl [(4466, 12, 123), (1, 0, 0), (0, 0, 0), (1, 0, 0)] [] (fun ls st M => k12 (f_vi (f_nth ls 1)) (f_vi (f_nth ls 3)) M))]) C qX12_offOff (f_kc_cons (f_pl_ok rfl (fun ls st M h => h12 _ _ M h)) f_kc_nil) 40 11 h
set_option maxRecDepth 20000 in
theorem BX12_offOf {sh : Nat → Nat × Nat} {t : Nat} {rm : Nat × Nat × Nat} {cs : Nat × Nat} {R : f_Rt} {k12 : Int → Int → e_M → Prop} {x1 : Int} {x2 : Int} {M : e_M} (C : f_Hy sh t yX12_offOf rm cs 4 (lX12_offOf) R) (h12 : ∀ (x1 : Int) (x3 : Int) (M : e_M), k12 x1 x3 M → f_E sh t YX12_offOf rm cs (f_Q sh t R) 12 [.inr (.inr (.inl (12, 123, 4456))), .inl x1, .inr (.inr (.inr ())), .inl x3] [] M) (h : VX12_offOf k12 (fun M => R none M) x1 x2 M) : f_E sh t YX12_offOf rm cs (f_Q sh t R) 0 [.inr (.inr (.inl (12, 123, 4456))), .inl x1, .inl x2, .inr (.inr (.inr ()))] [] M :=
  f_go (KC := f_kc [(12, f_pl [(4466, 12, 123), (1, 0, 0), (0, 0, 0), (1, 0, 0)] [] (fun ls st M => k12 (f_vi (f_nth ls 1)) (f_vi (f_nth ls 3)) M))]) C qX12_offOff (f_kc_cons (f_pl_ok rfl (fun ls st M h => h12 _ _ M h)) f_kc_nil) 40 0 h
def WX12_offOf_12 (Q : e_M → Prop) : Nat → Int → Int → e_M → Prop
  | 0, _, _, _ => False
  | n + 1, x1, x3, M =>
    VX12_offOf_12 (WX12_offOf_12 Q n) Q x1 x3 M
def WX12_offOf (x1 : Int) (x2 : Int) (M : e_M) (Q : e_M → Prop) : Prop :=
  VX12_offOf (fun x1 x3 M => ∃ j, WX12_offOf_12 Q j x1 x3 M) Q x1 x2 M
theorem PX12_offOf_12 {sh : Nat → Nat × Nat} {t : Nat} {rm : Nat × Nat × Nat} {cs : Nat × Nat} {R : f_Rt} (C : f_Hy sh t yX12_offOf rm cs 4 (lX12_offOf) R) : ∀ (n : Nat) (x1 : Int) (x3 : Int) (M : e_M), WX12_offOf_12 (fun M => R none M) n x1 x3 M → f_E sh t YX12_offOf rm cs (f_Q sh t R) 12 [.inr (.inr (.inl (12, 123, 4456))), .inl x1, .inr (.inr (.inr ())), .inl x3] [] M := by
  intro n
  induction n with
  | zero => intro x1 x3 M h; exact h.elim
  | succ n ih => intro x1 x3 M h; exact BX12_offOf_12 C ih h
theorem PX12_offOf {sh : Nat → Nat × Nat} {t : Nat} {rm : Nat × Nat × Nat} {cs : Nat × Nat} {R : f_Rt} {x1 : Int} {x2 : Int} {M : e_M} (C : f_Hy sh t yX12_offOf rm cs 4 (lX12_offOf) R) (h : WX12_offOf x1 x2 M (fun M => R none M)) : f_E sh t YX12_offOf rm cs (f_Q sh t R) 0 [.inr (.inr (.inl (12, 123, 4456))), .inl x1, .inl x2, .inr (.inr (.inr ()))] [] M :=
  BX12_offOf C (fun x1 x3 M ⟨j, h⟩ => PX12_offOf_12 C j _ _ _ h) h
def wX12_offOf : f_Wt := f_wm [(4466, 12, 123), (1, 0, 0), (1, 0, 0)] (fun ar M R => WX12_offOf (f_vi (f_nth ar 1)) (f_vi (f_nth ar 2)) M (fun M => R none M))
theorem TX12_offOf {sh : Nat → Nat × Nat} {t : Nat} : f_Mt sh t YX12_offOf 4 (wX12_offOf) :=
  f_Mt_of (k := 1) (Nat.le_of_ble_eq_true rfl) rfl rfl (fun ar M R rm cs h1 h2 h3 hX h => PX12_offOf ⟨Nat.le_of_ble_eq_true rfl, h1, h2, h3, trivial, hX⟩ h)
def VX12_inOn_8 (k8 : Int → Int → Int → Int → e_M → Prop) (Q : e_M → Prop) (x1 : Int) (x2 : Int) (x3 : Int) (x4 : Int) (M : e_M) : Prop :=
  ((x4 ≤ x2 → ((0 ≤ (e_w32 ((e_w32 ((8 : Int) * x1)) + x2)) ∧ (e_w32 ((e_w32 ((8 : Int) * x1)) + x2)) < 4480) ∧ (∀ M1 : e_M, M1 = e_up M 4493 ((e_w32 ((e_w32 ((8 : Int) * x1)) + x2)).toNat) x3 → ((0 ≤ x1 ∧ x1 < 560) ∧ ((0 ≤ x1 ∧ x1 < 560) ∧ (∀ M2 : e_M, M2 = e_up M1 4492 (x1.toNat) (e_w32 ((M1 4492 (x1.toNat)) + 1)) → (Q M2))))))) ∧ (x2 < x4 → ((0 ≤ (e_w32 ((e_w32 ((e_w32 ((8 : Int) * x1)) + x4)) - 1)) ∧ (e_w32 ((e_w32 ((e_w32 ((8 : Int) * x1)) + x4)) - 1)) < 4480) ∧ ((0 ≤ (e_w32 ((e_w32 ((8 : Int) * x1)) + x4)) ∧ (e_w32 ((e_w32 ((8 : Int) * x1)) + x4)) < 4480) ∧ (∀ M3 : e_M, M3 = e_up M 4493 ((e_w32 ((e_w32 ((8 : Int) * x1)) + x4)).toNat) (M 4493 ((e_w32 ((e_w32 ((e_w32 ((8 : Int) * x1)) + x4)) - 1)).toNat)) → (k8 x1 x2 x3 (e_w32 (x4 + (-1))) M3))))))
def VX12_inOn (k8 : Int → Int → Int → Int → e_M → Prop) (Q : e_M → Prop) (x1 : Int) (x2 : Int) (x3 : Int) (M : e_M) : Prop :=
  ((0 ≤ x1 ∧ x1 < 560) ∧ (k8 x1 x2 x3 (M 4492 (x1.toNat)) M))
def yX12_inOn (i : Nat) : e_Y := x_get YX12_inOn [] i
def pX12_inOnf : List x_I := [(0, 4, 1, 0, 0, 0, []), (1, 25, 12, 59, 4, 0, [(0, 20, 560), (0, 1, 36)]), (4, 2, 1, 1, 0, 0, []), (5, 27, 0, 0, 0, 0, []), (6, 5, 2, 4, 0, 0, []), (8, 49, 0, 0, 0, 0, []), (8, 2, 2, 4, 0, 0, []), (10, 2, 1, 2, 0, 0, []), (11, 18, 46, 5, 30, 0, []), (14, 4, 1, 0, 0, 0, []), (15, 25, 12, 60, 4, 0, [(0, 20, 4480), (0, 1, 37)]), (18, 0, 2, 0, 0, 8, []), (20, 2, 1, 1, 0, 0, []), (21, 9, 0, 2, 0, 0, []), (22, 2, 2, 4, 0, 0, []), (24, 9, 0, 0, 0, 0, []), (25, 4, 1, 0, 0, 0, []), (26, 25, 12, 60, 4, 0, [(0, 20, 4480), (0, 1, 37)]), (29, 0, 2, 0, 0, 8, []), (31, 2, 1, 1, 0, 0, []), (32, 9, 0, 2, 0, 0, []), (33, 2, 2, 4, 0, 0, []), (35, 9, 0, 0, 0, 0, []), (36, 0, 1, 0, 0, 1, []), (37, 9, 0, 1, 0, 0, []), (38, 27, 0, 0, 0, 0, []), (39, 28, 0, 0, 0, 0, []), (40, 8, 0, 4, 0, (-1), []), (43, 19, 8, 0, 6, 0, []), (46, 4, 1, 0, 0, 0, []), (47, 25, 12, 60, 4, 0, [(0, 20, 4480), (0, 1, 37)]), (50, 0, 2, 0, 0, 8, []), (52, 2, 1, 1, 0, 0, []), (53, 9, 0, 2, 0, 0, []), (54, 2, 1, 2, 0, 0, []), (55, 9, 0, 0, 0, 0, []), (56, 2, 1, 3, 0, 0, []), (57, 28, 0, 0, 0, 0, []), (58, 4, 1, 0, 0, 0, []), (59, 25, 12, 59, 4, 0, [(0, 20, 560), (0, 1, 36)]), (62, 2, 1, 1, 0, 0, []), (63, 23, 0, 0, 0, 0, []), (64, 27, 0, 0, 0, 0, []), (65, 0, 1, 0, 0, 1, []), (66, 9, 0, 0, 0, 0, []), (67, 28, 0, 0, 0, 0, []), (68, 44, 0, 0, 0, 0, [])]
set_option maxRecDepth 20000 in
theorem qX12_inOnf : f_all yX12_inOn YX12_inOn pX12_inOnf :=
  ⟨f_aload_n (n := 0) (e_dx DX12_inOn_0 0 rfl) rfl,
  f_getA (e_dx DX12_inOn_0 1 rfl) fX12_118 rfl (by decide) (Nat.le_of_ble_eq_true rfl) rfl (by decide),
  f_iload_n (n := 1) (e_dx DX12_inOn_0 2 rfl) rfl,
  f_iaload (e_dx DX12_inOn_0 3 rfl),
  f_istore (e_dx DX12_inOn_0 4 rfl) (by decide),
  trivial,
  f_iload (e_dx DX12_inOn_0 5 rfl),
  f_iload_n (n := 2) (e_dx DX12_inOn_0 6 rfl) rfl,
  f_icmp_le (e_dx DX12_inOn_0 7 rfl) rfl,
  f_aload_n (n := 0) (e_dx DX12_inOn_0 8 rfl) rfl,
  f_getA (e_dx DX12_inOn_0 9 rfl) fX12_121 rfl (by decide) (Nat.le_of_ble_eq_true rfl) rfl (by decide),
  f_bipush (e_dx DX12_inOn_0 10 rfl) ⟨by decide, by decide⟩,
  f_iload_n (n := 1) (e_dx DX12_inOn_0 11 rfl) rfl,
  f_imul (e_dx DX12_inOn_0 12 rfl),
  f_iload (e_dx DX12_inOn_0 13 rfl),
  f_iadd (e_dx DX12_inOn_0 14 rfl),
  f_aload_n (n := 0) (e_dx DX12_inOn_0 15 rfl) rfl,
  f_getA (e_dx DX12_inOn_0 16 rfl) fX12_121 rfl (by decide) (Nat.le_of_ble_eq_true rfl) rfl (by decide),
  f_bipush (e_dx DX12_inOn_0 17 rfl) ⟨by decide, by decide⟩,
  f_iload_n (n := 1) (e_dx DX12_inOn_0 18 rfl) rfl,
  f_imul (e_dx DX12_inOn_0 19 rfl),
  f_iload (e_dx DX12_inOn_0 20 rfl),
  f_iadd (e_dx DX12_inOn_0 21 rfl),
  f_iconst (e_dx DX12_inOn_0 22 rfl) ⟨by decide, by decide⟩,
  f_isub (e_dx DX12_inOn_0 23 rfl),
  f_iaload (e_dx DX12_inOn_0 24 rfl),
  f_iastore (e_dx DX12_inOn_0 25 rfl),
  f_g8 (e_dx DX12_inOn_0 26 rfl) ⟨by decide, by decide⟩,
  f_g19 (e_dx DX12_inOn_0 27 rfl) rfl,
  f_aload_n (n := 0) (e_dx DX12_inOn_0 28 rfl) rfl,
  f_getA (e_dx DX12_inOn_0 29 rfl) fX12_121 rfl (by decide) (Nat.le_of_ble_eq_true rfl) rfl (by decide),
  f_bipush (e_dx DX12_inOn_0 30 rfl) ⟨by decide, by decide⟩,
  f_iload_n (n := 1) (e_dx DX12_inOn_0 31 rfl) rfl,
  f_imul (e_dx DX12_inOn_0 32 rfl),
  f_iload_n (n := 2) (e_dx DX12_inOn_0 33 rfl) rfl,
  f_iadd (e_dx DX12_inOn_0 34 rfl),
  f_iload_n (n := 3) (e_dx DX12_inOn_0 35 rfl) rfl,
  f_iastore (e_dx DX12_inOn_0 36 rfl),
  f_aload_n (n := 0) (e_dx DX12_inOn_0 37 rfl) rfl,
  f_getA (e_dx DX12_inOn_0 38 rfl) fX12_118 rfl (by decide) (Nat.le_of_ble_eq_true rfl) rfl (by decide),
  f_iload_n (n := 1) (e_dx DX12_inOn_0 39 rfl) rfl,
  f_g23 (e_dx DX12_inOn_1 0 rfl),
  f_iaload (e_dx DX12_inOn_1 1 rfl),
  f_iconst (e_dx DX12_inOn_1 2 rfl) ⟨by decide, by decide⟩,
  f_iadd (e_dx DX12_inOn_1 3 rfl),
  f_iastore (e_dx DX12_inOn_1 4 rfl),
  ⟨(e_dx DX12_inOn_1 5 rfl), rfl⟩, trivial⟩
def lX12_inOn : List (Nat × f_Wt) := []
set_option maxRecDepth 20000 in
theorem BX12_inOn_8 {sh : Nat → Nat × Nat} {t : Nat} {rm : Nat × Nat × Nat} {cs : Nat × Nat} {R : f_Rt} {k8 : Int → Int → Int → Int → e_M → Prop} {x1 : Int} {x2 : Int} {x3 : Int} {x4 : Int} {M : e_M} (C : f_Hy sh t yX12_inOn rm cs 4 (lX12_inOn) R) (h8 : ∀ (x1 : Int) (x2 : Int) (x3 : Int) (x4 : Int) (M : e_M), k8 x1 x2 x3 x4 M → f_E sh t YX12_inOn rm cs (f_Q sh t R) 8 [.inr (.inr (.inl (12, 123, 4456))), .inl x1, .inl x2, .inl x3, .inl x4] [] M) (h : VX12_inOn_8 k8 (fun M => R none M) x1 x2 x3 x4 M) : f_E sh t YX12_inOn rm cs (f_Q sh t R) 8 [.inr (.inr (.inl (12, 123, 4456))), .inl x1, .inl x2, .inl x3, .inl x4] [] M :=
  f_go (KC := f_kc [(8, f_pl [(4466, 12, 123), (1, 0, 0), (1, 0, 0), (1, 0, 0), (1, 0, 0)] [] (fun ls st M => k8 (f_vi (f_nth ls 1)) (f_vi (f_nth ls 2)) (f_vi (f_nth ls 3)) (f_vi (f_nth ls 4)) M))]) C qX12_inOnf (f_kc_cons (f_pl_ok rfl (fun ls st M h => h8 _ _ _ _ M h)) f_kc_nil) 49 6 h
set_option maxRecDepth 20000 in
theorem BX12_inOn {sh : Nat → Nat × Nat} {t : Nat} {rm : Nat × Nat × Nat} {cs : Nat × Nat} {R : f_Rt} {k8 : Int → Int → Int → Int → e_M → Prop} {x1 : Int} {x2 : Int} {x3 : Int} {M : e_M} (C : f_Hy sh t yX12_inOn rm cs 4 (lX12_inOn) R) (h8 : ∀ (x1 : Int) (x2 : Int) (x3 : Int) (x4 : Int) (M : e_M), k8 x1 x2 x3 x4 M → f_E sh t YX12_inOn rm cs (f_Q sh t R) 8 [.inr (.inr (.inl (12, 123, 4456))), .inl x1, .inl x2, .inl x3, .inl x4] [] M) (h : VX12_inOn k8 (fun M => R none M) x1 x2 x3 M) : f_E sh t YX12_inOn rm cs (f_Q sh t R) 0 [.inr (.inr (.inl (12, 123, 4456))), .inl x1, .inl x2, .inl x3, .inr (.inr (.inr ()))] [] M :=
  f_go (KC := f_kc [(8, f_pl [(4466, 12, 123), (1, 0, 0), (1, 0, 0), (1, 0, 0), (1, 0, 0)] [] (fun ls st M => k8 (f_vi (f_nth ls 1)) (f_vi (f_nth ls 2)) (f_vi (f_nth ls 3)) (f_vi (f_nth ls 4)) M))]) C qX12_inOnf (f_kc_cons (f_pl_ok rfl (fun ls st M h => h8 _ _ _ _ M h)) f_kc_nil) 49 0 h
def WX12_inOn_8 (Q : e_M → Prop) : Nat → Int → Int → Int → Int → e_M → Prop
  | 0, _, _, _, _, _ => False
  | n + 1, x1, x2, x3, x4, M =>
    VX12_inOn_8 (WX12_inOn_8 Q n) Q x1 x2 x3 x4 M
def WX12_inOn (x1 : Int) (x2 : Int) (x3 : Int) (M : e_M) (Q : e_M → Prop) : Prop :=
  VX12_inOn (fun x1 x2 x3 x4 M => ∃ j, WX12_inOn_8 Q j x1 x2 x3 x4 M) Q x1 x2 x3 M
theorem PX12_inOn_8 {sh : Nat → Nat × Nat} {t : Nat} {rm : Nat × Nat × Nat} {cs : Nat × Nat} {R : f_Rt} (C : f_Hy sh t yX12_inOn rm cs 4 (lX12_inOn) R) : ∀ (n : Nat) (x1 : Int) (x2 : Int) (x3 : Int) (x4 : Int) (M : e_M), WX12_inOn_8 (fun M => R none M) n x1 x2 x3 x4 M → f_E sh t YX12_inOn rm cs (f_Q sh t R) 8 [.inr (.inr (.inl (12, 123, 4456))), .inl x1, .inl x2, .inl x3, .inl x4] [] M := by
  intro n
  induction n with
  | zero => intro x1 x2 x3 x4 M h; exact h.elim
  | succ n ih => intro x1 x2 x3 x4 M h; exact BX12_inOn_8 C ih h
theorem PX12_inOn {sh : Nat → Nat × Nat} {t : Nat} {rm : Nat × Nat × Nat} {cs : Nat × Nat} {R : f_Rt} {x1 : Int} {x2 : Int} {x3 : Int} {M : e_M} (C : f_Hy sh t yX12_inOn rm cs 4 (lX12_inOn) R) (h : WX12_inOn x1 x2 x3 M (fun M => R none M)) : f_E sh t YX12_inOn rm cs (f_Q sh t R) 0 [.inr (.inr (.inl (12, 123, 4456))), .inl x1, .inl x2, .inl x3, .inr (.inr (.inr ()))] [] M :=
  BX12_inOn C (fun x1 x2 x3 x4 M ⟨j, h⟩ => PX12_inOn_8 C j _ _ _ _ _ h) h
def wX12_inOn : f_Wt := f_wm [(4466, 12, 123), (1, 0, 0), (1, 0, 0), (1, 0, 0)] (fun ar M R => WX12_inOn (f_vi (f_nth ar 1)) (f_vi (f_nth ar 2)) (f_vi (f_nth ar 3)) M (fun M => R none M))
theorem TX12_inOn {sh : Nat → Nat × Nat} {t : Nat} : f_Mt sh t YX12_inOn 4 (wX12_inOn) :=
  f_Mt_of (k := 1) (Nat.le_of_ble_eq_true rfl) rfl rfl (fun ar M R rm cs h1 h2 h3 hX h => PX12_inOn ⟨Nat.le_of_ble_eq_true rfl, h1, h2, h3, trivial, hX⟩ h)
def VX12_inOf_8 (k8 : Int → Int → Int → Int → e_M → Prop) (Q : e_M → Prop) (x1 : Int) (x2 : Int) (x3 : Int) (x4 : Int) (M : e_M) : Prop :=
  ((x4 ≤ x2 → ((0 ≤ (e_w32 ((e_w32 ((8 : Int) * x1)) + x2)) ∧ (e_w32 ((e_w32 ((8 : Int) * x1)) + x2)) < 4480) ∧ (∀ M1 : e_M, M1 = e_up M 4495 ((e_w32 ((e_w32 ((8 : Int) * x1)) + x2)).toNat) x3 → ((0 ≤ x1 ∧ x1 < 560) ∧ ((0 ≤ x1 ∧ x1 < 560) ∧ (∀ M2 : e_M, M2 = e_up M1 4494 (x1.toNat) (e_w32 ((M1 4494 (x1.toNat)) + 1)) → (Q M2))))))) ∧ (x2 < x4 → ((0 ≤ (e_w32 ((e_w32 ((e_w32 ((8 : Int) * x1)) + x4)) - 1)) ∧ (e_w32 ((e_w32 ((e_w32 ((8 : Int) * x1)) + x4)) - 1)) < 4480) ∧ ((0 ≤ (e_w32 ((e_w32 ((8 : Int) * x1)) + x4)) ∧ (e_w32 ((e_w32 ((8 : Int) * x1)) + x4)) < 4480) ∧ (∀ M3 : e_M, M3 = e_up M 4495 ((e_w32 ((e_w32 ((8 : Int) * x1)) + x4)).toNat) (M 4495 ((e_w32 ((e_w32 ((e_w32 ((8 : Int) * x1)) + x4)) - 1)).toNat)) → (k8 x1 x2 x3 (e_w32 (x4 + (-1))) M3))))))
def VX12_inOf (k8 : Int → Int → Int → Int → e_M → Prop) (Q : e_M → Prop) (x1 : Int) (x2 : Int) (x3 : Int) (M : e_M) : Prop :=
  ((0 ≤ x1 ∧ x1 < 560) ∧ (k8 x1 x2 x3 (M 4494 (x1.toNat)) M))
def yX12_inOf (i : Nat) : e_Y := x_get YX12_inOf [] i
def pX12_inOff : List x_I := [(0, 4, 1, 0, 0, 0, []), (1, 25, 12, 61, 4, 0, [(0, 20, 560), (0, 1, 38)]), (4, 2, 1, 1, 0, 0, []), (5, 27, 0, 0, 0, 0, []), (6, 5, 2, 4, 0, 0, []), (8, 49, 0, 0, 0, 0, []), (8, 2, 2, 4, 0, 0, []), (10, 2, 1, 2, 0, 0, []), (11, 18, 46, 5, 30, 0, []), (14, 4, 1, 0, 0, 0, []), (15, 25, 12, 62, 4, 0, [(0, 20, 4480), (0, 1, 39)]), (18, 0, 2, 0, 0, 8, []), (20, 2, 1, 1, 0, 0, []), (21, 9, 0, 2, 0, 0, []), (22, 2, 2, 4, 0, 0, []), (24, 9, 0, 0, 0, 0, []), (25, 4, 1, 0, 0, 0, []), (26, 25, 12, 62, 4, 0, [(0, 20, 4480), (0, 1, 39)]), (29, 0, 2, 0, 0, 8, []), (31, 2, 1, 1, 0, 0, []), (32, 9, 0, 2, 0, 0, []), (33, 2, 2, 4, 0, 0, []), (35, 9, 0, 0, 0, 0, []), (36, 0, 1, 0, 0, 1, []), (37, 9, 0, 1, 0, 0, []), (38, 27, 0, 0, 0, 0, []), (39, 28, 0, 0, 0, 0, []), (40, 8, 0, 4, 0, (-1), []), (43, 19, 8, 0, 6, 0, []), (46, 4, 1, 0, 0, 0, []), (47, 25, 12, 62, 4, 0, [(0, 20, 4480), (0, 1, 39)]), (50, 0, 2, 0, 0, 8, []), (52, 2, 1, 1, 0, 0, []), (53, 9, 0, 2, 0, 0, []), (54, 2, 1, 2, 0, 0, []), (55, 9, 0, 0, 0, 0, []), (56, 2, 1, 3, 0, 0, []), (57, 28, 0, 0, 0, 0, []), (58, 4, 1, 0, 0, 0, []), (59, 25, 12, 61, 4, 0, [(0, 20, 560), (0, 1, 38)]), (62, 2, 1, 1, 0, 0, []), (63, 23, 0, 0, 0, 0, []), (64, 27, 0, 0, 0, 0, []), (65, 0, 1, 0, 0, 1, []), (66, 9, 0, 0, 0, 0, []), (67, 28, 0, 0, 0, 0, []), (68, 44, 0, 0, 0, 0, [])]
set_option maxRecDepth 20000 in
theorem qX12_inOff : f_all yX12_inOf YX12_inOf pX12_inOff :=
  ⟨f_aload_n (n := 0) (e_dx DX12_inOf_0 0 rfl) rfl,
  f_getA (e_dx DX12_inOf_0 1 rfl) fX12_124 rfl (by decide) (Nat.le_of_ble_eq_true rfl) rfl (by decide),
  f_iload_n (n := 1) (e_dx DX12_inOf_0 2 rfl) rfl,
  f_iaload (e_dx DX12_inOf_0 3 rfl),
  f_istore (e_dx DX12_inOf_0 4 rfl) (by decide),
  trivial,
  f_iload (e_dx DX12_inOf_0 5 rfl),
  f_iload_n (n := 2) (e_dx DX12_inOf_0 6 rfl) rfl,
  f_icmp_le (e_dx DX12_inOf_0 7 rfl) rfl,
  f_aload_n (n := 0) (e_dx DX12_inOf_0 8 rfl) rfl,
  f_getA (e_dx DX12_inOf_0 9 rfl) fX12_127 rfl (by decide) (Nat.le_of_ble_eq_true rfl) rfl (by decide),
  f_bipush (e_dx DX12_inOf_0 10 rfl) ⟨by decide, by decide⟩,
  f_iload_n (n := 1) (e_dx DX12_inOf_0 11 rfl) rfl,
  f_imul (e_dx DX12_inOf_0 12 rfl),
  f_iload (e_dx DX12_inOf_0 13 rfl),
  f_iadd (e_dx DX12_inOf_0 14 rfl),
  f_aload_n (n := 0) (e_dx DX12_inOf_0 15 rfl) rfl,
  f_getA (e_dx DX12_inOf_0 16 rfl) fX12_127 rfl (by decide) (Nat.le_of_ble_eq_true rfl) rfl (by decide),
  f_bipush (e_dx DX12_inOf_0 17 rfl) ⟨by decide, by decide⟩,
  f_iload_n (n := 1) (e_dx DX12_inOf_0 18 rfl) rfl,
  f_imul (e_dx DX12_inOf_0 19 rfl),
  f_iload (e_dx DX12_inOf_0 20 rfl),
  f_iadd (e_dx DX12_inOf_0 21 rfl),
  f_iconst (e_dx DX12_inOf_0 22 rfl) ⟨by decide, by decide⟩,
  f_isub (e_dx DX12_inOf_0 23 rfl),
  f_iaload (e_dx DX12_inOf_0 24 rfl),
  f_iastore (e_dx DX12_inOf_0 25 rfl),
  f_g8 (e_dx DX12_inOf_0 26 rfl) ⟨by decide, by decide⟩,
  f_g19 (e_dx DX12_inOf_0 27 rfl) rfl,
  f_aload_n (n := 0) (e_dx DX12_inOf_0 28 rfl) rfl,
  f_getA (e_dx DX12_inOf_0 29 rfl) fX12_127 rfl (by decide) (Nat.le_of_ble_eq_true rfl) rfl (by decide),
  f_bipush (e_dx DX12_inOf_0 30 rfl) ⟨by decide, by decide⟩,
  f_iload_n (n := 1) (e_dx DX12_inOf_0 31 rfl) rfl,
  f_imul (e_dx DX12_inOf_0 32 rfl),
  f_iload_n (n := 2) (e_dx DX12_inOf_0 33 rfl) rfl,
  f_iadd (e_dx DX12_inOf_0 34 rfl),
  f_iload_n (n := 3) (e_dx DX12_inOf_0 35 rfl) rfl,
  f_iastore (e_dx DX12_inOf_0 36 rfl),
  f_aload_n (n := 0) (e_dx DX12_inOf_0 37 rfl) rfl,
  f_getA (e_dx DX12_inOf_0 38 rfl) fX12_124 rfl (by decide) (Nat.le_of_ble_eq_true rfl) rfl (by decide),
  f_iload_n (n := 1) (e_dx DX12_inOf_0 39 rfl) rfl,
  f_g23 (e_dx DX12_inOf_1 0 rfl),
  f_iaload (e_dx DX12_inOf_1 1 rfl),
  f_iconst (e_dx DX12_inOf_1 2 rfl) ⟨by decide, by decide⟩,
  f_iadd (e_dx DX12_inOf_1 3 rfl),
  f_iastore (e_dx DX12_inOf_1 4 rfl),
  ⟨(e_dx DX12_inOf_1 5 rfl), rfl⟩, trivial⟩
def lX12_inOf : List (Nat × f_Wt) := []
set_option maxRecDepth 20000 in
theorem BX12_inOf_8 {sh : Nat → Nat × Nat} {t : Nat} {rm : Nat × Nat × Nat} {cs : Nat × Nat} {R : f_Rt} {k8 : Int → Int → Int → Int → e_M → Prop} {x1 : Int} {x2 : Int} {x3 : Int} {x4 : Int} {M : e_M} (C : f_Hy sh t yX12_inOf rm cs 4 (lX12_inOf) R) (h8 : ∀ (x1 : Int) (x2 : Int) (x3 : Int) (x4 : Int) (M : e_M), k8 x1 x2 x3 x4 M → f_E sh t YX12_inOf rm cs (f_Q sh t R) 8 [.inr (.inr (.inl (12, 123, 4456))), .inl x1, .inl x2, .inl x3, .inl x4] [] M) (h : VX12_inOf_8 k8 (fun M => R none M) x1 x2 x3 x4 M) : f_E sh t YX12_inOf rm cs (f_Q sh t R) 8 [.inr (.inr (.inl (12, 123, 4456))), .inl x1, .inl x2, .inl x3, .inl x4] [] M :=
  f_go (KC := f_kc [(8, f_pl [(4466, 12, 123), (1, 0, 0), (1, 0, 0), (1, 0, 0), (1, 0, 0)] [] (fun ls st M => k8 (f_vi (f_nth ls 1)) (f_vi (f_nth ls 2)) (f_vi (f_nth ls 3)) (f_vi (f_nth ls 4)) M))]) C qX12_inOff (f_kc_cons (f_pl_ok rfl (fun ls st M h => h8 _ _ _ _ M h)) f_kc_nil) 49 6 h
set_option maxRecDepth 20000 in
theorem BX12_inOf {sh : Nat → Nat × Nat} {t : Nat} {rm : Nat × Nat × Nat} {cs : Nat × Nat} {R : f_Rt} {k8 : Int → Int → Int → Int → e_M → Prop} {x1 : Int} {x2 : Int} {x3 : Int} {M : e_M} (C : f_Hy sh t yX12_inOf rm cs 4 (lX12_inOf) R) (h8 : ∀ (x1 : Int) (x2 : Int) (x3 : Int) (x4 : Int) (M : e_M), k8 x1 x2 x3 x4 M → f_E sh t YX12_inOf rm cs (f_Q sh t R) 8 [.inr (.inr (.inl (12, 123, 4456))), .inl x1, .inl x2, .inl x3, .inl x4] [] M) (h : VX12_inOf k8 (fun M => R none M) x1 x2 x3 M) : f_E sh t YX12_inOf rm cs (f_Q sh t R) 0 [.inr (.inr (.inl (12, 123, 4456))), .inl x1, .inl x2, .inl x3, .inr (.inr (.inr ()))] [] M :=
  f_go (KC := f_kc [(8, f_pl [(4466, 12, 123), (1, 0, 0), (1, 0, 0), (1, 0, 0), (1, 0, 0)] [] (fun ls st M => k8 (f_vi (f_nth ls 1)) (f_vi (f_nth ls 2)) (f_vi (f_nth ls 3)) (f_vi (f_nth ls 4)) M))]) C qX12_inOff (f_kc_cons (f_pl_ok rfl (fun ls st M h => h8 _ _ _ _ M h)) f_kc_nil) 49 0 h
def WX12_inOf_8 (Q : e_M → Prop) : Nat → Int → Int → Int → Int → e_M → Prop
  | 0, _, _, _, _, _ => False
  | n + 1, x1, x2, x3, x4, M =>
    VX12_inOf_8 (WX12_inOf_8 Q n) Q x1 x2 x3 x4 M
def WX12_inOf (x1 : Int) (x2 : Int) (x3 : Int) (M : e_M) (Q : e_M → Prop) : Prop :=
  VX12_inOf (fun x1 x2 x3 x4 M => ∃ j, WX12_inOf_8 Q j x1 x2 x3 x4 M) Q x1 x2 x3 M
theorem PX12_inOf_8 {sh : Nat → Nat × Nat} {t : Nat} {rm : Nat × Nat × Nat} {cs : Nat × Nat} {R : f_Rt} (C : f_Hy sh t yX12_inOf rm cs 4 (lX12_inOf) R) : ∀ (n : Nat) (x1 : Int) (x2 : Int) (x3 : Int) (x4 : Int) (M : e_M), WX12_inOf_8 (fun M => R none M) n x1 x2 x3 x4 M → f_E sh t YX12_inOf rm cs (f_Q sh t R) 8 [.inr (.inr (.inl (12, 123, 4456))), .inl x1, .inl x2, .inl x3, .inl x4] [] M := by
  intro n
  induction n with
  | zero => intro x1 x2 x3 x4 M h; exact h.elim
  | succ n ih => intro x1 x2 x3 x4 M h; exact BX12_inOf_8 C ih h
theorem PX12_inOf {sh : Nat → Nat × Nat} {t : Nat} {rm : Nat × Nat × Nat} {cs : Nat × Nat} {R : f_Rt} {x1 : Int} {x2 : Int} {x3 : Int} {M : e_M} (C : f_Hy sh t yX12_inOf rm cs 4 (lX12_inOf) R) (h : WX12_inOf x1 x2 x3 M (fun M => R none M)) : f_E sh t YX12_inOf rm cs (f_Q sh t R) 0 [.inr (.inr (.inl (12, 123, 4456))), .inl x1, .inl x2, .inl x3, .inr (.inr (.inr ()))] [] M :=
  BX12_inOf C (fun x1 x2 x3 x4 M ⟨j, h⟩ => PX12_inOf_8 C j _ _ _ _ _ h) h
def wX12_inOf : f_Wt := f_wm [(4466, 12, 123), (1, 0, 0), (1, 0, 0), (1, 0, 0)] (fun ar M R => WX12_inOf (f_vi (f_nth ar 1)) (f_vi (f_nth ar 2)) (f_vi (f_nth ar 3)) M (fun M => R none M))
theorem TX12_inOf {sh : Nat → Nat × Nat} {t : Nat} : f_Mt sh t YX12_inOf 4 (wX12_inOf) :=
  f_Mt_of (k := 1) (Nat.le_of_ble_eq_true rfl) rfl rfl (fun ar M R rm cs h1 h2 h3 hX h => PX12_inOf ⟨Nat.le_of_ble_eq_true rfl, h1, h2, h3, trivial, hX⟩ h)
def VX12_rankAt_2 (k2 : Int → Int → Int → Prop) (Q : Int → Prop) (x1 : Int) (x2 : Int) (x3 : Int) (M : e_M) : Prop :=
  ((0 ≤ x1 ∧ x1 < 80) ∧ (((M 4499 (x1.toNat)) ≤ x3 → (Q (-1))) ∧ (x3 < (M 4499 (x1.toNat)) → ((0 ≤ (e_w32 ((e_w32 ((8 : Int) * x1)) + x3)) ∧ (e_w32 ((e_w32 ((8 : Int) * x1)) + x3)) < 640) ∧ ((¬ (M 4500 ((e_w32 ((e_w32 ((8 : Int) * x1)) + x3)).toNat)) = x2 → (k2 x1 x2 (e_w32 (x3 + 1)))) ∧ ((M 4500 ((e_w32 ((e_w32 ((8 : Int) * x1)) + x3)).toNat)) = x2 → (Q x3)))))))
def VX12_rankAt (k2 : Int → Int → Int → Prop) (Q : Int → Prop) (x1 : Int) (x2 : Int) (M : e_M) : Prop :=
  (k2 x1 x2 0)
def yX12_rankAt (i : Nat) : e_Y := x_get YX12_rankAt [] i
def pX12_rankAtf : List x_I := [(0, 0, 1, 0, 0, 0, []), (1, 5, 1, 3, 0, 0, []), (2, 49, 0, 0, 0, 0, []), (2, 2, 1, 3, 0, 0, []), (3, 4, 1, 0, 0, 0, []), (4, 25, 12, 66, 4, 0, [(0, 20, 80), (0, 1, 43)]), (7, 2, 1, 1, 0, 0, []), (8, 27, 0, 0, 0, 0, []), (9, 18, 35, 3, 24, 0, []), (12, 4, 1, 0, 0, 0, []), (13, 25, 12, 67, 4, 0, [(0, 20, 640), (0, 1, 44)]), (16, 0, 2, 0, 0, 8, []), (18, 2, 1, 1, 0, 0, []), (19, 9, 0, 2, 0, 0, []), (20, 2, 1, 3, 0, 0, []), (21, 9, 0, 0, 0, 0, []), (22, 27, 0, 0, 0, 0, []), (23, 2, 1, 2, 0, 0, []), (24, 18, 29, 1, 22, 0, []), (27, 2, 1, 3, 0, 0, []), (28, 41, 0, 0, 0, 0, []), (29, 8, 0, 3, 0, 1, []), (32, 19, 2, 0, 3, 0, []), (35, 0, 1, 0, 0, (-1), []), (36, 41, 0, 0, 0, 0, [])]
set_option maxRecDepth 20000 in
theorem qX12_rankAtf : f_all yX12_rankAt YX12_rankAt pX12_rankAtf :=
  ⟨f_iconst (e_dx DX12_rankAt_0 0 rfl) ⟨by decide, by decide⟩,
  f_istore_n (n := 3) (e_dx DX12_rankAt_0 1 rfl) rfl (by decide),
  trivial,
  f_iload_n (n := 3) (e_dx DX12_rankAt_0 2 rfl) rfl,
  f_aload_n (n := 0) (e_dx DX12_rankAt_0 3 rfl) rfl,
  f_getA (e_dx DX12_rankAt_0 4 rfl) fX12_139 rfl (by decide) (Nat.le_of_ble_eq_true rfl) rfl (by decide),
  f_iload_n (n := 1) (e_dx DX12_rankAt_0 5 rfl) rfl,
  f_iaload (e_dx DX12_rankAt_0 6 rfl),
  f_icmp_ge (e_dx DX12_rankAt_0 7 rfl) rfl,
  f_aload_n (n := 0) (e_dx DX12_rankAt_0 8 rfl) rfl,
  f_getA (e_dx DX12_rankAt_0 9 rfl) fX12_142 rfl (by decide) (Nat.le_of_ble_eq_true rfl) rfl (by decide),
  f_bipush (e_dx DX12_rankAt_0 10 rfl) ⟨by decide, by decide⟩,
  f_iload_n (n := 1) (e_dx DX12_rankAt_0 11 rfl) rfl,
  f_imul (e_dx DX12_rankAt_0 12 rfl),
  f_iload_n (n := 3) (e_dx DX12_rankAt_0 13 rfl) rfl,
  f_iadd (e_dx DX12_rankAt_0 14 rfl),
  f_iaload (e_dx DX12_rankAt_0 15 rfl),
  f_iload_n (n := 2) (e_dx DX12_rankAt_0 16 rfl) rfl,
  f_icmp_ne (e_dx DX12_rankAt_0 17 rfl) rfl,
  f_iload_n (n := 3) (e_dx DX12_rankAt_0 18 rfl) rfl,
  ⟨(e_dx DX12_rankAt_0 19 rfl), rfl⟩,
  f_g8 (e_dx DX12_rankAt_0 20 rfl) ⟨by decide, by decide⟩,
  f_g19 (e_dx DX12_rankAt_0 21 rfl) rfl,
  f_iconst (e_dx DX12_rankAt_0 22 rfl) ⟨by decide, by decide⟩,
  ⟨(e_dx DX12_rankAt_0 23 rfl), rfl⟩, trivial⟩
def lX12_rankAt : List (Nat × f_Wt) := []
set_option maxRecDepth 20000 in
theorem BX12_rankAt_2 {sh : Nat → Nat × Nat} {t : Nat} {rm : Nat × Nat × Nat} {cs : Nat × Nat} {R : f_Rt} {k2 : Int → Int → Int → Prop} {x1 : Int} {x2 : Int} {x3 : Int} {M : e_M} (C : f_Hy sh t yX12_rankAt rm cs 4 (lX12_rankAt) R) (h2 : ∀ (x1 : Int) (x2 : Int) (x3 : Int), k2 x1 x2 x3 → f_E sh t YX12_rankAt rm cs (f_Q sh t R) 2 [.inr (.inr (.inl (12, 123, 4456))), .inl x1, .inl x2, .inl x3] [] M) (h : VX12_rankAt_2 k2 (fun r => R (some (.inl r)) M) x1 x2 x3 M) : f_E sh t YX12_rankAt rm cs (f_Q sh t R) 2 [.inr (.inr (.inl (12, 123, 4456))), .inl x1, .inl x2, .inl x3] [] M := by
  rw [f_kk3 M k2] at h
  exact f_go (KC := f_kc [(2, f_pl [(4466, 12, 123), (1, 0, 0), (1, 0, 0), (1, 0, 0)] [] (fun ls st M2 => M2 = M ∧ (k2 (f_vi (f_nth ls 1)) (f_vi (f_nth ls 2)) (f_vi (f_nth ls 3)))))]) C qX12_rankAtf (f_kc_cons (f_pl_ok rfl (fun ls st M2 ⟨e, hh⟩ => by subst e; exact h2 _ _ _ hh)) f_kc_nil) 27 3 h
set_option maxRecDepth 20000 in
theorem BX12_rankAt {sh : Nat → Nat × Nat} {t : Nat} {rm : Nat × Nat × Nat} {cs : Nat × Nat} {R : f_Rt} {k2 : Int → Int → Int → Prop} {x1 : Int} {x2 : Int} {M : e_M} (C : f_Hy sh t yX12_rankAt rm cs 4 (lX12_rankAt) R) (h2 : ∀ (x1 : Int) (x2 : Int) (x3 : Int), k2 x1 x2 x3 → f_E sh t YX12_rankAt rm cs (f_Q sh t R) 2 [.inr (.inr (.inl (12, 123, 4456))), .inl x1, .inl x2, .inl x3] [] M) (h : VX12_rankAt k2 (fun r => R (some (.inl r)) M) x1 x2 M) : f_E sh t YX12_rankAt rm cs (f_Q sh t R) 0 [.inr (.inr (.inl (12, 123, 4456))), .inl x1, .inl x2, .inr (.inr (.inr ()))] [] M := by
  rw [f_kk3 M k2] at h
  exact f_go (KC := f_kc [(2, f_pl [(4466, 12, 123), (1, 0, 0), (1, 0, 0), (1, 0, 0)] [] (fun ls st M2 => M2 = M ∧ (k2 (f_vi (f_nth ls 1)) (f_vi (f_nth ls 2)) (f_vi (f_nth ls 3)))))]) C qX12_rankAtf (f_kc_cons (f_pl_ok rfl (fun ls st M2 ⟨e, hh⟩ => by subst e; exact h2 _ _ _ hh)) f_kc_nil) 27 0 h
def WX12_rankAt_2 (M : e_M) (Q : Int → Prop) : Nat → Int → Int → Int → Prop
  | 0, _, _, _ => False
  | n + 1, x1, x2, x3 =>
    VX12_rankAt_2 (WX12_rankAt_2 M Q n) Q x1 x2 x3 M
def WX12_rankAt (x1 : Int) (x2 : Int) (M : e_M) (Q : Int → Prop) : Prop :=
  VX12_rankAt (fun x1 x2 x3 => ∃ j, WX12_rankAt_2 M Q j x1 x2 x3) Q x1 x2 M
theorem PX12_rankAt_2 {sh : Nat → Nat × Nat} {t : Nat} {rm : Nat × Nat × Nat} {cs : Nat × Nat} {R : f_Rt} {M : e_M} (C : f_Hy sh t yX12_rankAt rm cs 4 (lX12_rankAt) R) : ∀ (n : Nat) (x1 : Int) (x2 : Int) (x3 : Int), WX12_rankAt_2 M (fun r => R (some (.inl r)) M) n x1 x2 x3 → f_E sh t YX12_rankAt rm cs (f_Q sh t R) 2 [.inr (.inr (.inl (12, 123, 4456))), .inl x1, .inl x2, .inl x3] [] M := by
  intro n
  induction n with
  | zero => intro x1 x2 x3 h; exact h.elim
  | succ n ih => intro x1 x2 x3 h; exact BX12_rankAt_2 C ih h
theorem PX12_rankAt {sh : Nat → Nat × Nat} {t : Nat} {rm : Nat × Nat × Nat} {cs : Nat × Nat} {R : f_Rt} {x1 : Int} {x2 : Int} {M : e_M} (C : f_Hy sh t yX12_rankAt rm cs 4 (lX12_rankAt) R) (h : WX12_rankAt x1 x2 M (fun r => R (some (.inl r)) M)) : f_E sh t YX12_rankAt rm cs (f_Q sh t R) 0 [.inr (.inr (.inl (12, 123, 4456))), .inl x1, .inl x2, .inr (.inr (.inr ()))] [] M :=
  BX12_rankAt C (fun x1 x2 x3 ⟨j, h⟩ => PX12_rankAt_2 C j _ _ _ h) h
def wX12_rankAt : f_Wt := f_wm [(4466, 12, 123), (1, 0, 0), (1, 0, 0)] (fun ar M R => WX12_rankAt (f_vi (f_nth ar 1)) (f_vi (f_nth ar 2)) M (fun r => R (some (.inl r)) M))
theorem TX12_rankAt {sh : Nat → Nat × Nat} {t : Nat} : f_Mt sh t YX12_rankAt 4 (wX12_rankAt) :=
  f_Mt_of (k := 1) (Nat.le_of_ble_eq_true rfl) rfl rfl (fun ar M R rm cs h1 h2 h3 hX h => PX12_rankAt ⟨Nat.le_of_ble_eq_true rfl, h1, h2, h3, trivial, hX⟩ h)
def VX12_offRank_12 (k12 : Int → Int → e_M → Prop) (Q : e_M → Prop) (x1 : Int) (x3 : Int) (M : e_M) : Prop :=
  ((0 ≤ x1 ∧ x1 < 80) ∧ (((M 4499 (x1.toNat)) ≤ x3 → (Q M)) ∧ (x3 < (M 4499 (x1.toNat)) → ((0 ≤ (e_w32 ((e_w32 ((e_w32 ((8 : Int) * x1)) + x3)) + 1)) ∧ (e_w32 ((e_w32 ((e_w32 ((8 : Int) * x1)) + x3)) + 1)) < 640) ∧ ((0 ≤ (e_w32 ((e_w32 ((8 : Int) * x1)) + x3)) ∧ (e_w32 ((e_w32 ((8 : Int) * x1)) + x3)) < 640) ∧ (∀ M1 : e_M, M1 = e_up M 4500 ((e_w32 ((e_w32 ((8 : Int) * x1)) + x3)).toNat) (M 4500 ((e_w32 ((e_w32 ((e_w32 ((8 : Int) * x1)) + x3)) + 1)).toNat)) → (k12 x1 (e_w32 (x3 + 1)) M1)))))))
def VX12_offRank (k12 : Int → Int → e_M → Prop) (Q : e_M → Prop) (x1 : Int) (x2 : Int) (M : e_M) : Prop :=
  ((0 ≤ x1 ∧ x1 < 80) ∧ ((0 ≤ x1 ∧ x1 < 80) ∧ (∀ M1 : e_M, M1 = e_up M 4499 (x1.toNat) (e_w32 ((M 4499 (x1.toNat)) - 1)) → (k12 x1 x2 M1))))
def yX12_offRank (i : Nat) : e_Y := x_get YX12_offRank [] i
def pX12_offRankf : List x_I := [(0, 4, 1, 0, 0, 0, []), (1, 25, 12, 66, 4, 0, [(0, 20, 80), (0, 1, 43)]), (4, 2, 1, 1, 0, 0, []), (5, 23, 0, 0, 0, 0, []), (6, 27, 0, 0, 0, 0, []), (7, 0, 1, 0, 0, 1, []), (8, 9, 0, 1, 0, 0, []), (9, 28, 0, 0, 0, 0, []), (10, 2, 1, 2, 0, 0, []), (11, 5, 1, 3, 0, 0, []), (12, 49, 0, 0, 0, 0, []), (12, 2, 1, 3, 0, 0, []), (13, 4, 1, 0, 0, 0, []), (14, 25, 12, 66, 4, 0, [(0, 20, 80), (0, 1, 43)]), (17, 2, 1, 1, 0, 0, []), (18, 27, 0, 0, 0, 0, []), (19, 18, 52, 3, 38, 0, []), (22, 4, 1, 0, 0, 0, []), (23, 25, 12, 67, 4, 0, [(0, 20, 640), (0, 1, 44)]), (26, 0, 2, 0, 0, 8, []), (28, 2, 1, 1, 0, 0, []), (29, 9, 0, 2, 0, 0, []), (30, 2, 1, 3, 0, 0, []), (31, 9, 0, 0, 0, 0, []), (32, 4, 1, 0, 0, 0, []), (33, 25, 12, 67, 4, 0, [(0, 20, 640), (0, 1, 44)]), (36, 0, 2, 0, 0, 8, []), (38, 2, 1, 1, 0, 0, []), (39, 9, 0, 2, 0, 0, []), (40, 2, 1, 3, 0, 0, []), (41, 9, 0, 0, 0, 0, []), (42, 0, 1, 0, 0, 1, []), (43, 9, 0, 0, 0, 0, []), (44, 27, 0, 0, 0, 0, []), (45, 28, 0, 0, 0, 0, []), (46, 8, 0, 3, 0, 1, []), (49, 19, 12, 0, 11, 0, []), (52, 44, 0, 0, 0, 0, [])]
set_option maxRecDepth 20000 in
theorem qX12_offRankf : f_all yX12_offRank YX12_offRank pX12_offRankf :=
  ⟨f_aload_n (n := 0) (e_dx DX12_offRank_0 0 rfl) rfl,
  f_getA (e_dx DX12_offRank_0 1 rfl) fX12_139 rfl (by decide) (Nat.le_of_ble_eq_true rfl) rfl (by decide),
  f_iload_n (n := 1) (e_dx DX12_offRank_0 2 rfl) rfl,
  f_g23 (e_dx DX12_offRank_0 3 rfl),
  f_iaload (e_dx DX12_offRank_0 4 rfl),
  f_iconst (e_dx DX12_offRank_0 5 rfl) ⟨by decide, by decide⟩,
  f_isub (e_dx DX12_offRank_0 6 rfl),
  f_iastore (e_dx DX12_offRank_0 7 rfl),
  f_iload_n (n := 2) (e_dx DX12_offRank_0 8 rfl) rfl,
  f_istore_n (n := 3) (e_dx DX12_offRank_0 9 rfl) rfl (by decide),
  trivial,
  f_iload_n (n := 3) (e_dx DX12_offRank_0 10 rfl) rfl,
  f_aload_n (n := 0) (e_dx DX12_offRank_0 11 rfl) rfl,
  f_getA (e_dx DX12_offRank_0 12 rfl) fX12_139 rfl (by decide) (Nat.le_of_ble_eq_true rfl) rfl (by decide),
  f_iload_n (n := 1) (e_dx DX12_offRank_0 13 rfl) rfl,
  f_iaload (e_dx DX12_offRank_0 14 rfl),
  f_icmp_ge (e_dx DX12_offRank_0 15 rfl) rfl,
  f_aload_n (n := 0) (e_dx DX12_offRank_0 16 rfl) rfl,
  f_getA (e_dx DX12_offRank_0 17 rfl) fX12_142 rfl (by decide) (Nat.le_of_ble_eq_true rfl) rfl (by decide),
  f_bipush (e_dx DX12_offRank_0 18 rfl) ⟨by decide, by decide⟩,
  f_iload_n (n := 1) (e_dx DX12_offRank_0 19 rfl) rfl,
  f_imul (e_dx DX12_offRank_0 20 rfl),
  f_iload_n (n := 3) (e_dx DX12_offRank_0 21 rfl) rfl,
  f_iadd (e_dx DX12_offRank_0 22 rfl),
  f_aload_n (n := 0) (e_dx DX12_offRank_0 23 rfl) rfl,
  f_getA (e_dx DX12_offRank_0 24 rfl) fX12_142 rfl (by decide) (Nat.le_of_ble_eq_true rfl) rfl (by decide),
  f_bipush (e_dx DX12_offRank_0 25 rfl) ⟨by decide, by decide⟩,
  f_iload_n (n := 1) (e_dx DX12_offRank_0 26 rfl) rfl,
  f_imul (e_dx DX12_offRank_0 27 rfl),
  f_iload_n (n := 3) (e_dx DX12_offRank_0 28 rfl) rfl,
  f_iadd (e_dx DX12_offRank_0 29 rfl),
  f_iconst (e_dx DX12_offRank_0 30 rfl) ⟨by decide, by decide⟩,
  f_iadd (e_dx DX12_offRank_0 31 rfl),
  f_iaload (e_dx DX12_offRank_0 32 rfl),
  f_iastore (e_dx DX12_offRank_0 33 rfl),
  f_g8 (e_dx DX12_offRank_0 34 rfl) ⟨by decide, by decide⟩,
  f_g19 (e_dx DX12_offRank_0 35 rfl) rfl,
  ⟨(e_dx DX12_offRank_0 36 rfl), rfl⟩, trivial⟩
def lX12_offRank : List (Nat × f_Wt) := []
set_option maxRecDepth 20000 in
theorem BX12_offRank_12 {sh : Nat → Nat × Nat} {t : Nat} {rm : Nat × Nat × Nat} {cs : Nat × Nat} {R : f_Rt} {k12 : Int → Int → e_M → Prop} {x1 : Int} {x3 : Int} {M : e_M} (C : f_Hy sh t yX12_offRank rm cs 4 (lX12_offRank) R) (h12 : ∀ (x1 : Int) (x3 : Int) (M : e_M), k12 x1 x3 M → f_E sh t YX12_offRank rm cs (f_Q sh t R) 12 [.inr (.inr (.inl (12, 123, 4456))), .inl x1, .inr (.inr (.inr ())), .inl x3] [] M) (h : VX12_offRank_12 k12 (fun M => R none M) x1 x3 M) : f_E sh t YX12_offRank rm cs (f_Q sh t R) 12 [.inr (.inr (.inl (12, 123, 4456))), .inl x1, .inr (.inr (.inr ())), .inl x3] [] M :=
  f_go (KC := f_kc [(12, f_pl [(4466, 12, 123), (1, 0, 0), (0, 0, 0), (1, 0, 0)] [] (fun ls st M => k12 (f_vi (f_nth ls 1)) (f_vi (f_nth ls 3)) M))]) C qX12_offRankf (f_kc_cons (f_pl_ok rfl (fun ls st M h => h12 _ _ M h)) f_kc_nil) 40 11 h
set_option maxRecDepth 20000 in
theorem BX12_offRank {sh : Nat → Nat × Nat} {t : Nat} {rm : Nat × Nat × Nat} {cs : Nat × Nat} {R : f_Rt} {k12 : Int → Int → e_M → Prop} {x1 : Int} {x2 : Int} {M : e_M} (C : f_Hy sh t yX12_offRank rm cs 4 (lX12_offRank) R) (h12 : ∀ (x1 : Int) (x3 : Int) (M : e_M), k12 x1 x3 M → f_E sh t YX12_offRank rm cs (f_Q sh t R) 12 [.inr (.inr (.inl (12, 123, 4456))), .inl x1, .inr (.inr (.inr ())), .inl x3] [] M) (h : VX12_offRank k12 (fun M => R none M) x1 x2 M) : f_E sh t YX12_offRank rm cs (f_Q sh t R) 0 [.inr (.inr (.inl (12, 123, 4456))), .inl x1, .inl x2, .inr (.inr (.inr ()))] [] M :=
  f_go (KC := f_kc [(12, f_pl [(4466, 12, 123), (1, 0, 0), (0, 0, 0), (1, 0, 0)] [] (fun ls st M => k12 (f_vi (f_nth ls 1)) (f_vi (f_nth ls 3)) M))]) C qX12_offRankf (f_kc_cons (f_pl_ok rfl (fun ls st M h => h12 _ _ M h)) f_kc_nil) 40 0 h
def WX12_offRank_12 (Q : e_M → Prop) : Nat → Int → Int → e_M → Prop
  | 0, _, _, _ => False
  | n + 1, x1, x3, M =>
    VX12_offRank_12 (WX12_offRank_12 Q n) Q x1 x3 M
def WX12_offRank (x1 : Int) (x2 : Int) (M : e_M) (Q : e_M → Prop) : Prop :=
  VX12_offRank (fun x1 x3 M => ∃ j, WX12_offRank_12 Q j x1 x3 M) Q x1 x2 M
theorem PX12_offRank_12 {sh : Nat → Nat × Nat} {t : Nat} {rm : Nat × Nat × Nat} {cs : Nat × Nat} {R : f_Rt} (C : f_Hy sh t yX12_offRank rm cs 4 (lX12_offRank) R) : ∀ (n : Nat) (x1 : Int) (x3 : Int) (M : e_M), WX12_offRank_12 (fun M => R none M) n x1 x3 M → f_E sh t YX12_offRank rm cs (f_Q sh t R) 12 [.inr (.inr (.inl (12, 123, 4456))), .inl x1, .inr (.inr (.inr ())), .inl x3] [] M := by
  intro n
  induction n with
  | zero => intro x1 x3 M h; exact h.elim
  | succ n ih => intro x1 x3 M h; exact BX12_offRank_12 C ih h
theorem PX12_offRank {sh : Nat → Nat × Nat} {t : Nat} {rm : Nat × Nat × Nat} {cs : Nat × Nat} {R : f_Rt} {x1 : Int} {x2 : Int} {M : e_M} (C : f_Hy sh t yX12_offRank rm cs 4 (lX12_offRank) R) (h : WX12_offRank x1 x2 M (fun M => R none M)) : f_E sh t YX12_offRank rm cs (f_Q sh t R) 0 [.inr (.inr (.inl (12, 123, 4456))), .inl x1, .inl x2, .inr (.inr (.inr ()))] [] M :=
  BX12_offRank C (fun x1 x3 M ⟨j, h⟩ => PX12_offRank_12 C j _ _ _ h) h
def wX12_offRank : f_Wt := f_wm [(4466, 12, 123), (1, 0, 0), (1, 0, 0)] (fun ar M R => WX12_offRank (f_vi (f_nth ar 1)) (f_vi (f_nth ar 2)) M (fun M => R none M))
theorem TX12_offRank {sh : Nat → Nat × Nat} {t : Nat} : f_Mt sh t YX12_offRank 4 (wX12_offRank) :=
  f_Mt_of (k := 1) (Nat.le_of_ble_eq_true rfl) rfl rfl (fun ar M R rm cs h1 h2 h3 hX h => PX12_offRank ⟨Nat.le_of_ble_eq_true rfl, h1, h2, h3, trivial, hX⟩ h)
