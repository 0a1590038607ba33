/-! methods as words over the memory, part 34f -/
def VX12_numbered_33 (c_X12_look : Int → Int → e_M → (e_M → Prop) → Prop) (c_X12_isHere : Int → Int → e_M → (Int → Prop) → Prop) (k67 : Int → Int → Int → e_M → Prop) (Q : Int → e_M → Prop) (x1 : Int) (x3 : Int) (x4 : Int) (M : e_M) : Prop :=
  ((0 ≤ x1 ∧ x1 < 7) ∧ (((M 4483 (x1.toNat)) ≤ x4 → (Q (-1) M)) ∧ (x4 < (M 4483 (x1.toNat)) → (c_X12_isHere x1 x4 M (fun r1 => ((¬ r1 = 0 → ((¬ x3 = 0 → (k67 x1 (e_w32 (x3 + (-1))) x4 M)) ∧ (x3 = 0 → (Q x4 M)))) ∧ (r1 = 0 → (k67 x1 x3 x4 M))))))))
def VX12_numbered_67 (c_X12_look : Int → Int → e_M → (e_M → Prop) → Prop) (c_X12_isHere : Int → Int → e_M → (Int → Prop) → Prop) (k33 : Int → Int → Int → e_M → Prop) (Q : Int → e_M → Prop) (x1 : Int) (x3 : Int) (x4 : Int) (M : e_M) : Prop :=
  (k33 x1 x3 (e_w32 (x4 + 1)) M)
def VX12_numbered (c_X12_look : Int → Int → e_M → (e_M → Prop) → Prop) (c_X12_isHere : Int → Int → e_M → (Int → Prop) → Prop) (k33 : Int → Int → Int → e_M → Prop) (Q : Int → e_M → Prop) (x1 : Int) (x2 : Int) (M : e_M) : Prop :=
  (c_X12_look (M 4456 103) (M 4456 104) M (fun M1 => ((x1 < 0 → (Q (-1) M1)) ∧ (0 ≤ x1 → ((6 < x1 → (Q (-1) M1)) ∧ (x1 ≤ 6 → ((0 ≤ x2 → (k33 x1 x2 0 M1)) ∧ (x2 < 0 → (Q (-1) M1)))))))))
def yX12_numbered (i : Nat) : e_Y := x_get YX12_numbered [YX12_look, YX12_isHere] i
def pX12_numberedf : List x_I := [(0, 4, 1, 0, 0, 0, []), (1, 4, 1, 0, 0, 0, []), (2, 25, 12, 103, 0, 0, []), (5, 4, 1, 0, 0, 0, []), (6, 25, 12, 104, 0, 0, []), (9, 40, 0, 3, 14, 0, []), (12, 2, 1, 1, 0, 0, []), (13, 17, 26, 2, 14, 0, []), (16, 2, 1, 1, 0, 0, []), (17, 0, 2, 0, 0, 6, []), (19, 18, 26, 4, 14, 0, []), (22, 2, 1, 2, 0, 0, []), (23, 17, 28, 3, 16, 0, []), (26, 0, 1, 0, 0, (-1), []), (27, 41, 0, 0, 0, 0, []), (28, 2, 1, 2, 0, 0, []), (29, 5, 1, 3, 0, 0, []), (30, 0, 1, 0, 0, 0, []), (31, 5, 2, 4, 0, 0, []), (33, 49, 0, 0, 0, 0, []), (33, 2, 2, 4, 0, 0, []), (35, 4, 1, 0, 0, 0, []), (36, 25, 12, 50, 4, 0, [(0, 20, 7), (0, 1, 27)]), (39, 2, 1, 1, 0, 0, []), (40, 27, 0, 0, 0, 0, []), (41, 18, 73, 3, 41, 0, []), (44, 4, 1, 0, 0, 0, []), (45, 2, 1, 1, 0, 0, []), (46, 2, 2, 4, 0, 0, []), (48, 40, 1, 3, 14, 0, []), (51, 17, 57, 1, 33, 0, []), (54, 19, 67, 0, 38, 0, []), (57, 2, 1, 3, 0, 0, []), (58, 17, 64, 1, 37, 0, []), (61, 2, 2, 4, 0, 0, []), (63, 41, 0, 0, 0, 0, []), (64, 8, 0, 3, 0, (-1), []), (67, 49, 0, 0, 0, 0, []), (67, 8, 0, 4, 0, 1, []), (70, 19, 33, 0, 20, 0, []), (73, 0, 1, 0, 0, (-1), []), (74, 41, 0, 0, 0, 0, [])]
set_option maxRecDepth 20000 in
theorem qX12_numberedf : f_all yX12_numbered YX12_numbered pX12_numberedf :=
  ⟨f_aload_n (n := 0) (e_dx DX12_numbered_0 0 rfl) rfl,
  f_aload_n (n := 0) (e_dx DX12_numbered_0 1 rfl) rfl,
  f_getf (e_dx DX12_numbered_0 2 rfl) fX12_799 rfl (by decide) (by decide) (by decide),
  f_aload_n (n := 0) (e_dx DX12_numbered_0 3 rfl) rfl,
  f_getf (e_dx DX12_numbered_0 4 rfl) fX12_802 rfl (by decide) (by decide) (by decide),
  x_callV (e_dx DX12_numbered_0 5 rfl) mwX12_look vwX12_look cX12_805 rfl,
  f_iload_n (n := 1) (e_dx DX12_numbered_0 6 rfl) rfl,
  f_if_lt (e_dx DX12_numbered_0 7 rfl) rfl,
  f_iload_n (n := 1) (e_dx DX12_numbered_0 8 rfl) rfl,
  f_bipush (e_dx DX12_numbered_0 9 rfl) ⟨by decide, by decide⟩,
  f_icmp_gt (e_dx DX12_numbered_0 10 rfl) rfl,
  f_iload_n (n := 2) (e_dx DX12_numbered_0 11 rfl) rfl,
  f_if_ge (e_dx DX12_numbered_0 12 rfl) rfl,
  f_iconst (e_dx DX12_numbered_0 13 rfl) ⟨by decide, by decide⟩,
  ⟨(e_dx DX12_numbered_0 14 rfl), rfl⟩,
  f_iload_n (n := 2) (e_dx DX12_numbered_0 15 rfl) rfl,
  f_istore_n (n := 3) (e_dx DX12_numbered_0 16 rfl) rfl (by decide),
  f_iconst (e_dx DX12_numbered_0 17 rfl) ⟨by decide, by decide⟩,
  f_istore (e_dx DX12_numbered_0 18 rfl) (by decide),
  trivial,
  f_iload (e_dx DX12_numbered_0 19 rfl),
  f_aload_n (n := 0) (e_dx DX12_numbered_0 20 rfl) rfl,
  f_getA (e_dx DX12_numbered_0 21 rfl) fX12_91 rfl (by decide) (Nat.le_of_ble_eq_true rfl) rfl (by decide),
  f_iload_n (n := 1) (e_dx DX12_numbered_0 22 rfl) rfl,
  f_iaload (e_dx DX12_numbered_0 23 rfl),
  f_icmp_ge (e_dx DX12_numbered_0 24 rfl) rfl,
  f_aload_n (n := 0) (e_dx DX12_numbered_0 25 rfl) rfl,
  f_iload_n (n := 1) (e_dx DX12_numbered_0 26 rfl) rfl,
  f_iload (e_dx DX12_numbered_0 27 rfl),
  x_callV (e_dx DX12_numbered_0 28 rfl) mwX12_isHere vwX12_isHere cX12_875 rfl,
  f_if_ne (e_dx DX12_numbered_0 29 rfl) rfl,
  f_g19 (e_dx DX12_numbered_0 30 rfl) rfl,
  f_iload_n (n := 3) (e_dx DX12_numbered_0 31 rfl) rfl,
  f_if_ne (e_dx DX12_numbered_0 32 rfl) rfl,
  f_iload (e_dx DX12_numbered_0 33 rfl),
  ⟨(e_dx DX12_numbered_0 34 rfl), rfl⟩,
  f_g8 (e_dx DX12_numbered_0 35 rfl) ⟨by decide, by decide⟩,
  trivial,
  f_g8 (e_dx DX12_numbered_0 36 rfl) ⟨by decide, by decide⟩,
  f_g19 (e_dx DX12_numbered_0 37 rfl) rfl,
  f_iconst (e_dx DX12_numbered_0 38 rfl) ⟨by decide, by decide⟩,
  ⟨(e_dx DX12_numbered_0 39 rfl), rfl⟩, trivial⟩
def lX12_numbered (c_X12_look : Int → Int → e_M → (e_M → Prop) → Prop) (c_X12_isHere : Int → Int → e_M → (Int → Prop) → Prop) : List (Nat × f_Wt) := [(0, f_wm [(4466, 12, 123), (1, 0, 0), (1, 0, 0)] (fun ar M R => c_X12_look (f_vi (f_nth ar 1)) (f_vi (f_nth ar 2)) M (fun M => R none M))), (1, f_wm [(4466, 12, 123), (1, 0, 0), (1, 0, 0)] (fun ar M R => c_X12_isHere (f_vi (f_nth ar 1)) (f_vi (f_nth ar 2)) M (fun r => R (some (.inl r)) M)))]
set_option maxRecDepth 20000 in
theorem BX12_numbered_33 {sh : Nat → Nat × Nat} {t : Nat} {rm : Nat × Nat × Nat} {cs : Nat × Nat} {R : f_Rt} {c_X12_look : Int → Int → e_M → (e_M → Prop) → Prop} {c_X12_isHere : Int → Int → e_M → (Int → Prop) → Prop} {k67 : Int → Int → Int → e_M → Prop} {x1 : Int} {x3 : Int} {x4 : Int} {M : e_M} (C : f_Hy sh t yX12_numbered rm cs 15 (lX12_numbered c_X12_look c_X12_isHere) R) (h67 : ∀ (x1 : Int) (x3 : Int) (x4 : Int) (M : e_M), k67 x1 x3 x4 M → f_E sh t YX12_numbered rm cs (f_Q sh t R) 67 [.inr (.inr (.inl (12, 123, 4456))), .inl x1, .inr (.inr (.inr ())), .inl x3, .inl x4] [] M) (h : VX12_numbered_33 c_X12_look c_X12_isHere k67 (fun r M => R (some (.inl r)) M) x1 x3 x4 M) : f_E sh t YX12_numbered rm cs (f_Q sh t R) 33 [.inr (.inr (.inl (12, 123, 4456))), .inl x1, .inr (.inr (.inr ())), .inl x3, .inl x4] [] M :=
  f_go (KC := f_kc [(67, f_pl [(4466, 12, 123), (1, 0, 0), (0, 0, 0), (1, 0, 0), (1, 0, 0)] [] (fun ls st M => k67 (f_vi (f_nth ls 1)) (f_vi (f_nth ls 3)) (f_vi (f_nth ls 4)) M))]) C qX12_numberedf (f_kc_cons (f_pl_ok rfl (fun ls st M h => h67 _ _ _ M h)) f_kc_nil) 44 20 h
set_option maxRecDepth 20000 in
theorem BX12_numbered_67 {sh : Nat → Nat × Nat} {t : Nat} {rm : Nat × Nat × Nat} {cs : Nat × Nat} {R : f_Rt} {c_X12_look : Int → Int → e_M → (e_M → Prop) → Prop} {c_X12_isHere : Int → Int → e_M → (Int → Prop) → Prop} {k33 : Int → Int → Int → e_M → Prop} {x1 : Int} {x3 : Int} {x4 : Int} {M : e_M} (C : f_Hy sh t yX12_numbered rm cs 15 (lX12_numbered c_X12_look c_X12_isHere) R) (h33 : ∀ (x1 : Int) (x3 : Int) (x4 : Int) (M : e_M), k33 x1 x3 x4 M → f_E sh t YX12_numbered rm cs (f_Q sh t R) 33 [.inr (.inr (.inl (12, 123, 4456))), .inl x1, .inr (.inr (.inr ())), .inl x3, .inl x4] [] M) (h : VX12_numbered_67 c_X12_look c_X12_isHere k33 (fun r M => R (some (.inl r)) M) x1 x3 x4 M) : f_E sh t YX12_numbered rm cs (f_Q sh t R) 67 [.inr (.inr (.inl (12, 123, 4456))), .inl x1, .inr (.inr (.inr ())), .inl x3, .inl x4] [] M :=
  f_go (KC := f_kc [(33, f_pl [(4466, 12, 123), (1, 0, 0), (0, 0, 0), (1, 0, 0), (1, 0, 0)] [] (fun ls st M => k33 (f_vi (f_nth ls 1)) (f_vi (f_nth ls 3)) (f_vi (f_nth ls 4)) M))]) C qX12_numberedf (f_kc_cons (f_pl_ok rfl (fun ls st M h => h33 _ _ _ M h)) f_kc_nil) 44 38 h
set_option maxRecDepth 20000 in
theorem BX12_numbered {sh : Nat → Nat × Nat} {t : Nat} {rm : Nat × Nat × Nat} {cs : Nat × Nat} {R : f_Rt} {c_X12_look : Int → Int → e_M → (e_M → Prop) → Prop} {c_X12_isHere : Int → Int → e_M → (Int → Prop) → Prop} {k33 : Int → Int → Int → e_M → Prop} {x1 : Int} {x2 : Int} {M : e_M} (C : f_Hy sh t yX12_numbered rm cs 15 (lX12_numbered c_X12_look c_X12_isHere) R) (h33 : ∀ (x1 : Int) (x3 : Int) (x4 : Int) (M : e_M), k33 x1 x3 x4 M → f_E sh t YX12_numbered rm cs (f_Q sh t R) 33 [.inr (.inr (.inl (12, 123, 4456))), .inl x1, .inr (.inr (.inr ())), .inl x3, .inl x4] [] M) (h : VX12_numbered c_X12_look c_X12_isHere k33 (fun r M => R (some (.inl r)) M) x1 x2 M) : f_E sh t YX12_numbered rm cs (f_Q sh t R) 0 [.inr (.inr (.inl (12, 123, 4456))), .inl x1, .inl x2, .inr (.inr (.inr ())), .inr (.inr (.inr ()))] [] M :=
  f_go (KC := f_kc [(33, f_pl [(4466, 12, 123), (1, 0, 0), (0, 0, 0), (1, 0, 0), (1, 0, 0)] [] (fun ls st M => k33 (f_vi (f_nth ls 1)) (f_vi (f_nth ls 3)) (f_vi (f_nth ls 4)) M))]) C qX12_numberedf (f_kc_cons (f_pl_ok rfl (fun ls st M h => h33 _ _ _ M h)) f_kc_nil) 44 0 h
def WX12_numbered_67 (H33 : Int → Int → Int → e_M → Prop) (Q : Int → e_M → Prop) (x1 : Int) (x3 : Int) (x4 : Int) (M : e_M) : Prop :=
  VX12_numbered_67 WX12_look WX12_isHere H33 Q x1 x3 x4 M
def WX12_numbered_33 (Q : Int → e_M → Prop) : Nat → Int → Int → Int → e_M → Prop
  | 0, _, _, _, _ => False
  | n + 1, x1, x3, x4, M =>
    VX12_numbered_33 WX12_look WX12_isHere (WX12_numbered_67 (WX12_numbered_33 Q n) Q) Q x1 x3 x4 M
def WX12_numbered (x1 : Int) (x2 : Int) (M : e_M) (Q : Int → e_M → Prop) : Prop :=
  VX12_numbered WX12_look WX12_isHere (fun x1 x3 x4 M => ∃ j, WX12_numbered_33 Q j x1 x3 x4 M) Q x1 x2 M
theorem PX12_numbered_67 {sh : Nat → Nat × Nat} {t : Nat} {rm : Nat × Nat × Nat} {cs : Nat × Nat} {R : f_Rt} {H33 : Int → Int → Int → e_M → Prop} {x1 : Int} {x3 : Int} {x4 : Int} {M : e_M} (C : f_Hy sh t yX12_numbered rm cs 15 (lX12_numbered WX12_look WX12_isHere) R) (g33 : ∀ (x1 : Int) (x3 : Int) (x4 : Int) (M : e_M), H33 x1 x3 x4 M → f_E sh t YX12_numbered rm cs (f_Q sh t R) 33 [.inr (.inr (.inl (12, 123, 4456))), .inl x1, .inr (.inr (.inr ())), .inl x3, .inl x4] [] M) (h : WX12_numbered_67 H33 (fun r M => R (some (.inl r)) M) x1 x3 x4 M) : f_E sh t YX12_numbered rm cs (f_Q sh t R) 67 [.inr (.inr (.inl (12, 123, 4456))), .inl x1, .inr (.inr (.inr ())), .inl x3, .inl x4] [] M :=
  BX12_numbered_67 C g33 h
theorem PX12_numbered_33 {sh : Nat → Nat × Nat} {t : Nat} {rm : Nat × Nat × Nat} {cs : Nat × Nat} {R : f_Rt} (C : f_Hy sh t yX12_numbered rm cs 15 (lX12_numbered WX12_look WX12_isHere) R) : ∀ (n : Nat) (x1 : Int) (x3 : Int) (x4 : Int) (M : e_M), WX12_numbered_33 (fun r M => R (some (.inl r)) M) n x1 x3 x4 M → f_E sh t YX12_numbered rm cs (f_Q sh t R) 33 [.inr (.inr (.inl (12, 123, 4456))), .inl x1, .inr (.inr (.inr ())), .inl x3, .inl x4] [] M := by
  intro n
  induction n with
  | zero => intro x1 x3 x4 M h; exact h.elim
  | succ n ih => intro x1 x3 x4 M h; exact BX12_numbered_33 C (fun x1 x3 x4 M h => PX12_numbered_67 C ih h) h
theorem PX12_numbered {sh : Nat → Nat × Nat} {t : Nat} {rm : Nat × Nat × Nat} {cs : Nat × Nat} {R : f_Rt} {x1 : Int} {x2 : Int} {M : e_M} (C : f_Hy sh t yX12_numbered rm cs 15 (lX12_numbered WX12_look WX12_isHere) R) (h : WX12_numbered x1 x2 M (fun r M => R (some (.inl r)) M)) : f_E sh t YX12_numbered rm cs (f_Q sh t R) 0 [.inr (.inr (.inl (12, 123, 4456))), .inl x1, .inl x2, .inr (.inr (.inr ())), .inr (.inr (.inr ()))] [] M :=
  BX12_numbered C (fun x1 x3 x4 M ⟨j, h⟩ => PX12_numbered_33 C j _ _ _ _ h) h
def wX12_numbered : f_Wt := f_wm [(4466, 12, 123), (1, 0, 0), (1, 0, 0)] (fun ar M R => WX12_numbered (f_vi (f_nth ar 1)) (f_vi (f_nth ar 2)) M (fun r M => R (some (.inl r)) M))
theorem TX12_numbered {sh : Nat → Nat × Nat} {t : Nat} : f_Mt sh t YX12_numbered 15 (wX12_numbered) :=
  f_Mt_of (k := 2) (Nat.le_of_ble_eq_true rfl) rfl rfl (fun ar M R rm cs h1 h2 h3 hX h => PX12_numbered ⟨Nat.le_of_ble_eq_true rfl, h1, h2, h3, ⟨(f_Mt.up (Nat.le_of_ble_eq_true rfl) TX12_look), (f_Mt.up (Nat.le_of_ble_eq_true rfl) TX12_isHere), trivial⟩, hX⟩ h)
def VX12_name_17 (c_X12_numbered : Int → Int → e_M → (Int → e_M → Prop) → Prop) (c_X12_throwsIf : Int → e_M → (Int → e_M → Prop) → Prop) (c_X12_id : Int → Int → e_M → (Int → Prop) → Prop) (Q : Int → e_M → Prop) (x1 : Int) (x3 : Int) (xs1 : Int) (M : e_M) : Prop :=
  (c_X12_throwsIf xs1 M (fun r1 M2 => ((r1 = 0 → (c_X12_id x1 x3 M2 (fun r3 => ((0 ≤ r3 ∧ r3 < 560) ∧ (Q (M2 4484 (r3.toNat)) M2))))) ∧ (¬ r1 = 0 → (Q 0 M2)))))
def VX12_name (c_X12_numbered : Int → Int → e_M → (Int → e_M → Prop) → Prop) (c_X12_throwsIf : Int → e_M → (Int → e_M → Prop) → Prop) (c_X12_id : Int → Int → e_M → (Int → Prop) → Prop) (k17 : Int → Int → Int → e_M → Prop) (Q : Int → e_M → Prop) (x1 : Int) (x2 : Int) (M : e_M) : Prop :=
  (c_X12_numbered x1 x2 M (fun r1 M2 => ((0 ≤ r1 → (k17 x1 r1 0 M2)) ∧ (r1 < 0 → (k17 x1 r1 1 M2)))))
def yX12_name (i : Nat) : e_Y := x_get YX12_name [YX12_numbered, YX12_throwsIf, YX12_id] i
def pX12_namef : List x_I := [(0, 4, 1, 0, 0, 0, []), (1, 2, 1, 1, 0, 0, []), (2, 2, 1, 2, 0, 0, []), (3, 40, 0, 3, 14, 0, []), (6, 5, 1, 3, 0, 0, []), (7, 4, 1, 0, 0, 0, []), (8, 2, 1, 3, 0, 0, []), (9, 17, 16, 3, 11, 0, []), (12, 0, 1, 0, 0, 1, []), (13, 19, 17, 0, 12, 0, []), (16, 0, 1, 0, 0, 0, []), (17, 49, 0, 0, 0, 0, []), (17, 40, 1, 2, 14, 0, []), (20, 17, 27, 0, 17, 0, []), (23, 1, 1, 0, 0, 0, []), (24, 19, 37, 0, 23, 0, []), (27, 4, 1, 0, 0, 0, []), (28, 25, 12, 51, 4, 0, [(0, 23, 560), (0, 1, 28)]), (31, 2, 1, 1, 0, 0, []), (32, 2, 1, 3, 0, 0, []), (33, 40, 2, 2, 0, 0, []), (36, 27, 0, 1, 0, 0, []), (37, 43, 0, 0, 0, 0, [])]
set_option maxRecDepth 20000 in
theorem qX12_namef : f_all yX12_name YX12_name pX12_namef :=
  ⟨f_aload_n (n := 0) (e_dx DX12_name_0 0 rfl) rfl,
  f_iload_n (n := 1) (e_dx DX12_name_0 1 rfl) rfl,
  f_iload_n (n := 2) (e_dx DX12_name_0 2 rfl) rfl,
  x_callV (e_dx DX12_name_0 3 rfl) mwX12_numbered vwX12_numbered cX12_981 rfl,
  f_istore_n (n := 3) (e_dx DX12_name_0 4 rfl) rfl (by decide),
  f_aload_n (n := 0) (e_dx DX12_name_0 5 rfl) rfl,
  f_iload_n (n := 3) (e_dx DX12_name_0 6 rfl) rfl,
  f_if_ge (e_dx DX12_name_0 7 rfl) rfl,
  f_iconst (e_dx DX12_name_0 8 rfl) ⟨by decide, by decide⟩,
  f_g19 (e_dx DX12_name_0 9 rfl) rfl,
  f_iconst (e_dx DX12_name_0 10 rfl) ⟨by decide, by decide⟩,
  trivial,
  x_callV (e_dx DX12_name_0 11 rfl) mwX12_throwsIf vwX12_throwsIf cX12_974 rfl,
  f_if_eq (e_dx DX12_name_0 12 rfl) rfl,
  f_lconst (n := 0) (e_dx DX12_name_0 13 rfl) rfl,
  f_g19 (e_dx DX12_name_0 14 rfl) rfl,
  f_aload_n (n := 0) (e_dx DX12_name_0 15 rfl) rfl,
  f_getA (e_dx DX12_name_0 16 rfl) fX12_94 rfl (by decide) (Nat.le_of_ble_eq_true rfl) rfl (by decide),
  f_iload_n (n := 1) (e_dx DX12_name_0 17 rfl) rfl,
  f_iload_n (n := 3) (e_dx DX12_name_0 18 rfl) rfl,
  x_callS (e_dx DX12_name_0 19 rfl) mwX12_id cX12_540 swX12_id rfl,
  f_laload (e_dx DX12_name_0 20 rfl),
  ⟨(e_dx DX12_name_0 21 rfl), rfl⟩, trivial⟩
def lX12_name (c_X12_numbered : Int → Int → e_M → (Int → e_M → Prop) → Prop) (c_X12_throwsIf : Int → e_M → (Int → e_M → Prop) → Prop) (c_X12_id : Int → Int → e_M → (Int → Prop) → Prop) : List (Nat × f_Wt) := [(0, f_wm [(4466, 12, 123), (1, 0, 0), (1, 0, 0)] (fun ar M R => c_X12_numbered (f_vi (f_nth ar 1)) (f_vi (f_nth ar 2)) M (fun r M => R (some (.inl r)) M))), (1, f_wm [(4466, 12, 123), (1, 0, 0)] (fun ar M R => c_X12_throwsIf (f_vi (f_nth ar 1)) M (fun r M => R (some (.inl r)) M))), (2, f_wm [(1, 0, 0), (1, 0, 0)] (fun ar M R => c_X12_id (f_vi (f_nth ar 0)) (f_vi (f_nth ar 1)) M (fun r => R (some (.inl r)) M)))]
set_option maxRecDepth 20000 in
theorem BX12_name_17 {sh : Nat → Nat × Nat} {t : Nat} {rm : Nat × Nat × Nat} {cs : Nat × Nat} {R : f_Rt} {c_X12_numbered : Int → Int → e_M → (Int → e_M → Prop) → Prop} {c_X12_throwsIf : Int → e_M → (Int → e_M → Prop) → Prop} {c_X12_id : Int → Int → e_M → (Int → Prop) → Prop} {x1 : Int} {x3 : Int} {xs1 : Int} {M : e_M} (C : f_Hy sh t yX12_name rm cs 16 (lX12_name c_X12_numbered c_X12_throwsIf c_X12_id) R) (h : VX12_name_17 c_X12_numbered c_X12_throwsIf c_X12_id (fun r M => R (some (.inr (.inl r))) M) x1 x3 xs1 M) : f_E sh t YX12_name rm cs (f_Q sh t R) 17 [.inr (.inr (.inl (12, 123, 4456))), .inl x1, .inr (.inr (.inr ())), .inl x3] [.inl xs1, .inr (.inr (.inl (12, 123, 4456)))] M :=
  f_go (KC := f_kc []) C qX12_namef f_kc_nil 25 12 h
set_option maxRecDepth 20000 in
theorem BX12_name {sh : Nat → Nat × Nat} {t : Nat} {rm : Nat × Nat × Nat} {cs : Nat × Nat} {R : f_Rt} {c_X12_numbered : Int → Int → e_M → (Int → e_M → Prop) → Prop} {c_X12_throwsIf : Int → e_M → (Int → e_M → Prop) → Prop} {c_X12_id : Int → Int → e_M → (Int → Prop) → Prop} {k17 : Int → Int → Int → e_M → Prop} {x1 : Int} {x2 : Int} {M : e_M} (C : f_Hy sh t yX12_name rm cs 16 (lX12_name c_X12_numbered c_X12_throwsIf c_X12_id) R) (h17 : ∀ (x1 : Int) (x3 : Int) (xs1 : Int) (M : e_M), k17 x1 x3 xs1 M → f_E sh t YX12_name rm cs (f_Q sh t R) 17 [.inr (.inr (.inl (12, 123, 4456))), .inl x1, .inr (.inr (.inr ())), .inl x3] [.inl xs1, .inr (.inr (.inl (12, 123, 4456)))] M) (h : VX12_name c_X12_numbered c_X12_throwsIf c_X12_id k17 (fun r M => R (some (.inr (.inl r))) M) x1 x2 M) : f_E sh t YX12_name rm cs (f_Q sh t R) 0 [.inr (.inr (.inl (12, 123, 4456))), .inl x1, .inl x2, .inr (.inr (.inr ()))] [] M :=
  f_go (KC := f_kc [(17, f_pl [(4466, 12, 123), (1, 0, 0), (0, 0, 0), (1, 0, 0)] [(1, 0, 0), (4466, 12, 123)] (fun ls st M => k17 (f_vi (f_nth ls 1)) (f_vi (f_nth ls 3)) (f_vi (f_nth st 0)) M))]) C qX12_namef (f_kc_cons (f_pl_ok rfl (fun ls st M h => h17 _ _ _ M h)) f_kc_nil) 25 0 h
def WX12_name_17 (Q : Int → e_M → Prop) (x1 : Int) (x3 : Int) (xs1 : Int) (M : e_M) : Prop :=
  VX12_name_17 WX12_numbered WX12_throwsIf WX12_id Q x1 x3 xs1 M
def WX12_name (x1 : Int) (x2 : Int) (M : e_M) (Q : Int → e_M → Prop) : Prop :=
  VX12_name WX12_numbered WX12_throwsIf WX12_id (WX12_name_17 Q) Q x1 x2 M
theorem PX12_name_17 {sh : Nat → Nat × Nat} {t : Nat} {rm : Nat × Nat × Nat} {cs : Nat × Nat} {R : f_Rt} {x1 : Int} {x3 : Int} {xs1 : Int} {M : e_M} (C : f_Hy sh t yX12_name rm cs 16 (lX12_name WX12_numbered WX12_throwsIf WX12_id) R) (h : WX12_name_17 (fun r M => R (some (.inr (.inl r))) M) x1 x3 xs1 M) : f_E sh t YX12_name rm cs (f_Q sh t R) 17 [.inr (.inr (.inl (12, 123, 4456))), .inl x1, .inr (.inr (.inr ())), .inl x3] [.inl xs1, .inr (.inr (.inl (12, 123, 4456)))] M :=
  BX12_name_17 C h
theorem PX12_name {sh : Nat → Nat × Nat} {t : Nat} {rm : Nat × Nat × Nat} {cs : Nat × Nat} {R : f_Rt} {x1 : Int} {x2 : Int} {M : e_M} (C : f_Hy sh t yX12_name rm cs 16 (lX12_name WX12_numbered WX12_throwsIf WX12_id) R) (h : WX12_name x1 x2 M (fun r M => R (some (.inr (.inl r))) M)) : f_E sh t YX12_name rm cs (f_Q sh t R) 0 [.inr (.inr (.inl (12, 123, 4456))), .inl x1, .inl x2, .inr (.inr (.inr ()))] [] M :=
  BX12_name C (fun x1 x3 xs1 M h => PX12_name_17 C h) h
def wX12_name : f_Wt := f_wm [(4466, 12, 123), (1, 0, 0), (1, 0, 0)] (fun ar M R => WX12_name (f_vi (f_nth ar 1)) (f_vi (f_nth ar 2)) M (fun r M => R (some (.inr (.inl r))) M))
theorem TX12_name {sh : Nat → Nat × Nat} {t : Nat} : f_Mt sh t YX12_name 16 (wX12_name) :=
  f_Mt_of (k := 1) (Nat.le_of_ble_eq_true rfl) rfl rfl (fun ar M R rm cs h1 h2 h3 hX h => PX12_name ⟨Nat.le_of_ble_eq_true rfl, h1, h2, h3, ⟨(f_Mt.up (Nat.le_of_ble_eq_true rfl) TX12_numbered), (f_Mt.up (Nat.le_of_ble_eq_true rfl) TX12_throwsIf), (f_Mt.up (Nat.le_of_ble_eq_true rfl) TX12_id), trivial⟩, hX⟩ h)
def VX12_toldOf (c_X12_id : Int → Int → e_M → (Int → Prop) → Prop) (c_X12_areaOf : Int → Int → e_M → (Int → Prop) → Prop) (c_X12_isAge : Int → Int → e_M → (Int → Prop) → Prop) (c_X12_isAble : Int → Int → e_M → (Int → Prop) → Prop) (Q : Int → Prop) (x1 : Int) (x2 : Int) (x3 : Int) (M : e_M) : Prop :=
  (c_X12_id x1 x2 M (fun r1 => ((x1 = 0 → ((¬ x3 = 0 → ((¬ x3 = 1 → ((¬ x3 = 2 → ((¬ x3 = 3 → ((¬ x3 = 4 → (Q (-1))) ∧ (x3 = 4 → ((0 ≤ r1 ∧ r1 < 560) ∧ (Q (M 4490 (r1.toNat))))))) ∧ (x3 = 3 → ((0 ≤ x2 ∧ x2 < 80) ∧ (Q (M 4499 (x2.toNat))))))) ∧ (x3 = 2 → ((0 ≤ x2 ∧ x2 < 80) ∧ (Q (M 4497 (x2.toNat))))))) ∧ (x3 = 1 → ((0 ≤ x2 ∧ x2 < 80) ∧ (Q (M 4496 (x2.toNat))))))) ∧ (x3 = 0 → ((0 ≤ x2 ∧ x2 < 80) ∧ (c_X12_areaOf (e_w32 ((40 : Int) * x2)) (M 4496 (x2.toNat)) M (fun r4 => (Q (e_w32 r4)))))))) ∧ (¬ x1 = 0 → ((x1 = 1 → ((¬ x3 = 0 → ((¬ x3 = 1 → ((¬ x3 = 2 → ((¬ x3 = 3 → (Q (-1))) ∧ (x3 = 3 → (c_X12_isAble x2 (M 4456 100) M (fun r2 => ((r2 = 0 → (Q 0)) ∧ (¬ r2 = 0 → (Q 1)))))))) ∧ (x3 = 2 → (c_X12_isAge x2 (M 4456 100) M (fun r3 => ((r3 = 0 → (Q 0)) ∧ (¬ r3 = 0 → (Q 1)))))))) ∧ (x3 = 1 → ((0 ≤ r1 ∧ r1 < 560) ∧ ((¬ (M 4491 (r1.toNat)) = 0 → (Q (-1))) ∧ ((M 4491 (r1.toNat)) = 0 → ((0 ≤ r1 ∧ r1 < 560) ∧ (Q (M 4486 (r1.toNat)))))))))) ∧ (x3 = 0 → ((0 ≤ r1 ∧ r1 < 560) ∧ (Q (e_min (M 4491 (r1.toNat)) 1)))))) ∧ (¬ x1 = 1 → ((x1 = 2 → ((¬ x3 = 0 → ((¬ x3 = 1 → (Q (-1))) ∧ (x3 = 1 → ((0 ≤ r1 ∧ r1 < 560) ∧ (Q (M 4492 (r1.toNat))))))) ∧ (x3 = 0 → ((0 ≤ r1 ∧ r1 < 560) ∧ (Q (M 4490 (r1.toNat))))))) ∧ (¬ x1 = 2 → ((x1 = 3 → ((¬ x3 = 0 → ((¬ x3 = 1 → ((¬ x3 = 2 → ((¬ x3 = 3 → (Q (-1))) ∧ (x3 = 3 → ((0 ≤ x2 ∧ x2 < 80) ∧ (Q (M 4503 (x2.toNat))))))) ∧ (x3 = 2 → ((0 ≤ r1 ∧ r1 < 560) ∧ (Q (M 4492 (r1.toNat))))))) ∧ (x3 = 1 → ((0 ≤ r1 ∧ r1 < 560) ∧ (Q (M 4494 (r1.toNat))))))) ∧ (x3 = 0 → ((0 ≤ r1 ∧ r1 < 560) ∧ (Q (M 4491 (r1.toNat))))))) ∧ (¬ x1 = 3 → ((x1 = 4 → ((¬ x3 = 0 → ((¬ x3 = 1 → ((¬ x3 = 2 → ((¬ x3 = 3 → (Q (-1))) ∧ (x3 = 3 → ((0 ≤ r1 ∧ r1 < 560) ∧ (Q (M 4487 (r1.toNat))))))) ∧ (x3 = 2 → ((0 ≤ r1 ∧ r1 < 560) ∧ (Q (M 4486 (r1.toNat))))))) ∧ (x3 = 1 → ((0 ≤ r1 ∧ r1 < 560) ∧ (Q (M 4492 (r1.toNat))))))) ∧ (x3 = 0 → ((0 ≤ r1 ∧ r1 < 560) ∧ (Q (M 4490 (r1.toNat))))))) ∧ (¬ x1 = 4 → ((x1 = 5 → ((¬ x3 = 0 → (Q (-1))) ∧ (x3 = 0 → ((0 ≤ r1 ∧ r1 < 560) ∧ (Q (M 4487 (r1.toNat))))))) ∧ (¬ x1 = 5 → ((¬ x3 = 0 → ((¬ x3 = 1 → (Q (-1))) ∧ (x3 = 1 → ((0 ≤ r1 ∧ r1 < 560) ∧ (Q (M 4492 (r1.toNat))))))) ∧ (x3 = 0 → ((0 ≤ r1 ∧ r1 < 560) ∧ (Q (M 4487 (r1.toNat))))))))))))))))))))
def yX12_toldOf (i : Nat) : e_Y := x_get YX12_toldOf [YX12_id, YX12_areaOf, YX12_isAge, YX12_isAble] i
def pX12_toldOff : List x_I := [(0, 2, 1, 1, 0, 0, []), (1, 2, 1, 2, 0, 0, []), (2, 40, 0, 2, 0, 0, []), (5, 5, 2, 4, 0, 0, []), (7, 2, 1, 1, 0, 0, []), (8, 24, 396, 0, 198, 0, [(0, 48, 7), (1, 129, 54), (2, 228, 106), (3, 259, 123), (4, 319, 156), (5, 380, 189)]), (48, 2, 1, 3, 0, 0, []), (49, 17, 70, 1, 20, 0, []), (52, 4, 1, 0, 0, 0, []), (53, 0, 2, 0, 0, 40, []), (55, 2, 1, 2, 0, 0, []), (56, 9, 0, 2, 0, 0, []), (57, 4, 1, 0, 0, 0, []), (58, 25, 12, 63, 4, 0, [(0, 20, 80), (0, 1, 40)]), (61, 2, 1, 2, 0, 0, []), (62, 27, 0, 0, 0, 0, []), (63, 40, 1, 3, 14, 0, []), (66, 15, 0, 0, 0, 0, []), (67, 19, 128, 0, 53, 0, []), (70, 2, 1, 3, 0, 0, []), (71, 0, 1, 0, 0, 1, []), (72, 18, 84, 1, 28, 0, []), (75, 4, 1, 0, 0, 0, []), (76, 25, 12, 63, 4, 0, [(0, 20, 80), (0, 1, 40)]), (79, 2, 1, 2, 0, 0, []), (80, 27, 0, 0, 0, 0, []), (81, 19, 128, 0, 53, 0, []), (84, 2, 1, 3, 0, 0, []), (85, 0, 1, 0, 0, 2, []), (86, 18, 98, 1, 36, 0, []), (89, 4, 1, 0, 0, 0, []), (90, 25, 12, 64, 4, 0, [(0, 20, 80), (0, 1, 41)]), (93, 2, 1, 2, 0, 0, []), (94, 27, 0, 0, 0, 0, []), (95, 19, 128, 0, 53, 0, []), (98, 2, 1, 3, 0, 0, []), (99, 0, 1, 0, 0, 3, []), (100, 18, 112, 1, 44, 0, []), (103, 4, 1, 0, 0, 0, []), (104, 25, 12, 66, 4, 0, [(0, 20, 80), (0, 1, 43)]), (107, 2, 1, 2, 0, 0, []), (108, 27, 0, 0, 0, 0, []), (109, 19, 128, 0, 53, 0, []), (112, 2, 1, 3, 0, 0, []), (113, 0, 1, 0, 0, 4, []), (114, 18, 127, 1, 52, 0, []), (117, 4, 1, 0, 0, 0, []), (118, 25, 12, 57, 4, 0, [(0, 20, 560), (0, 1, 34)]), (121, 2, 2, 4, 0, 0, []), (123, 27, 0, 0, 0, 0, []), (124, 19, 128, 0, 53, 0, []), (127, 0, 1, 0, 0, (-1), []), (128, 41, 0, 0, 0, 0, []), (129, 2, 1, 3, 0, 0, []), (130, 17, 147, 1, 63, 0, []), (133, 4, 1, 0, 0, 0, []), (134, 25, 12, 58, 4, 0, [(0, 20, 560), (0, 1, 35)]), (137, 2, 2, 4, 0, 0, []), (139, 27, 0, 0, 0, 0, []), (140, 0, 1, 0, 0, 1, []), (141, 39, 0, 0, 0, 0, []), (144, 19, 227, 0, 105, 0, []), (147, 2, 1, 3, 0, 0, []), (148, 0, 1, 0, 0, 1, []), (149, 18, 176, 1, 78, 0, []), (152, 4, 1, 0, 0, 0, []), (153, 25, 12, 58, 4, 0, [(0, 20, 560), (0, 1, 35)]), (156, 2, 2, 4, 0, 0, []), (158, 27, 0, 0, 0, 0, []), (159, 17, 172, 1, 76, 0, []), (162, 4, 1, 0, 0, 0, []), (163, 25, 12, 53, 4, 0, [(0, 20, 560), (0, 1, 30)]), (166, 2, 2, 4, 0, 0, []), (168, 27, 0, 0, 0, 0, []), (169, 19, 227, 0, 105, 0, []), (172, 0, 1, 0, 0, (-1), []), (173, 19, 227, 0, 105, 0, []), (176, 2, 1, 3, 0, 0, []), (177, 0, 1, 0, 0, 2, []), (178, 18, 201, 1, 91, 0, []), (181, 4, 1, 0, 0, 0, []), (182, 2, 1, 2, 0, 0, []), (183, 4, 1, 0, 0, 0, []), (184, 25, 12, 100, 0, 0, []), (187, 40, 2, 3, 14, 0, []), (190, 17, 197, 0, 89, 0, []), (193, 0, 1, 0, 0, 1, []), (194, 19, 227, 0, 105, 0, []), (197, 0, 1, 0, 0, 0, []), (198, 19, 227, 0, 105, 0, []), (201, 2, 1, 3, 0, 0, []), (202, 0, 1, 0, 0, 3, []), (203, 18, 226, 1, 104, 0, []), (206, 4, 1, 0, 0, 0, []), (207, 2, 1, 2, 0, 0, []), (208, 4, 1, 0, 0, 0, []), (209, 25, 12, 100, 0, 0, []), (212, 40, 3, 3, 14, 0, []), (215, 17, 222, 0, 102, 0, []), (218, 0, 1, 0, 0, 1, []), (219, 19, 227, 0, 105, 0, []), (222, 0, 1, 0, 0, 0, []), (223, 19, 227, 0, 105, 0, []), (226, 0, 1, 0, 0, (-1), []), (227, 41, 0, 0, 0, 0, []), (228, 2, 1, 3, 0, 0, []), (229, 17, 242, 1, 113, 0, []), (232, 4, 1, 0, 0, 0, []), (233, 25, 12, 57, 4, 0, [(0, 20, 560), (0, 1, 34)]), (236, 2, 2, 4, 0, 0, []), (238, 27, 0, 0, 0, 0, []), (239, 19, 258, 0, 122, 0, []), (242, 2, 1, 3, 0, 0, []), (243, 0, 1, 0, 0, 1, []), (244, 18, 257, 1, 121, 0, []), (247, 4, 1, 0, 0, 0, []), (248, 25, 12, 59, 4, 0, [(0, 20, 560), (0, 1, 36)]), (251, 2, 2, 4, 0, 0, []), (253, 27, 0, 0, 0, 0, []), (254, 19, 258, 0, 122, 0, []), (257, 0, 1, 0, 0, (-1), []), (258, 41, 0, 0, 0, 0, []), (259, 2, 1, 3, 0, 0, []), (260, 17, 273, 1, 130, 0, []), (263, 4, 1, 0, 0, 0, []), (264, 25, 12, 58, 4, 0, [(0, 20, 560), (0, 1, 35)]), (267, 2, 2, 4, 0, 0, []), (269, 27, 0, 0, 0, 0, []), (270, 19, 318, 0, 155, 0, []), (273, 2, 1, 3, 0, 0, []), (274, 0, 1, 0, 0, 1, []), (275, 18, 288, 1, 138, 0, []), (278, 4, 1, 0, 0, 0, []), (279, 25, 12, 61, 4, 0, [(0, 20, 560), (0, 1, 38)]), (282, 2, 2, 4, 0, 0, []), (284, 27, 0, 0, 0, 0, []), (285, 19, 318, 0, 155, 0, []), (288, 2, 1, 3, 0, 0, []), (289, 0, 1, 0, 0, 2, []), (290, 18, 303, 1, 146, 0, []), (293, 4, 1, 0, 0, 0, []), (294, 25, 12, 59, 4, 0, [(0, 20, 560), (0, 1, 36)]), (297, 2, 2, 4, 0, 0, []), (299, 27, 0, 0, 0, 0, []), (300, 19, 318, 0, 155, 0, []), (303, 2, 1, 3, 0, 0, []), (304, 0, 1, 0, 0, 3, []), (305, 18, 317, 1, 154, 0, []), (308, 4, 1, 0, 0, 0, []), (309, 25, 12, 70, 4, 0, [(0, 20, 80), (0, 1, 47)]), (312, 2, 1, 2, 0, 0, []), (313, 27, 0, 0, 0, 0, []), (314, 19, 318, 0, 155, 0, []), (317, 0, 1, 0, 0, (-1), []), (318, 41, 0, 0, 0, 0, []), (319, 2, 1, 3, 0, 0, []), (320, 17, 333, 1, 163, 0, []), (323, 4, 1, 0, 0, 0, []), (324, 25, 12, 57, 4, 0, [(0, 20, 560), (0, 1, 34)]), (327, 2, 2, 4, 0, 0, []), (329, 27, 0, 0, 0, 0, []), (330, 19, 379, 0, 188, 0, []), (333, 2, 1, 3, 0, 0, []), (334, 0, 1, 0, 0, 1, []), (335, 18, 348, 1, 171, 0, []), (338, 4, 1, 0, 0, 0, []), (339, 25, 12, 59, 4, 0, [(0, 20, 560), (0, 1, 36)]), (342, 2, 2, 4, 0, 0, []), (344, 27, 0, 0, 0, 0, []), (345, 19, 379, 0, 188, 0, []), (348, 2, 1, 3, 0, 0, []), (349, 0, 1, 0, 0, 2, []), (350, 18, 363, 1, 179, 0, []), (353, 4, 1, 0, 0, 0, []), (354, 25, 12, 53, 4, 0, [(0, 20, 560), (0, 1, 30)]), (357, 2, 2, 4, 0, 0, []), (359, 27, 0, 0, 0, 0, []), (360, 19, 379, 0, 188, 0, []), (363, 2, 1, 3, 0, 0, []), (364, 0, 1, 0, 0, 3, []), (365, 18, 378, 1, 187, 0, []), (368, 4, 1, 0, 0, 0, []), (369, 25, 12, 54, 4, 0, [(0, 20, 560), (0, 1, 31)]), (372, 2, 2, 4, 0, 0, []), (374, 27, 0, 0, 0, 0, []), (375, 19, 379, 0, 188, 0, []), (378, 0, 1, 0, 0, (-1), []), (379, 41, 0, 0, 0, 0, []), (380, 2, 1, 3, 0, 0, []), (381, 17, 394, 1, 196, 0, []), (384, 4, 1, 0, 0, 0, []), (385, 25, 12, 54, 4, 0, [(0, 20, 560), (0, 1, 31)]), (388, 2, 2, 4, 0, 0, []), (390, 27, 0, 0, 0, 0, []), (391, 19, 395, 0, 197, 0, []), (394, 0, 1, 0, 0, (-1), []), (395, 41, 0, 0, 0, 0, []), (396, 2, 1, 3, 0, 0, []), (397, 17, 410, 1, 205, 0, []), (400, 4, 1, 0, 0, 0, []), (401, 25, 12, 54, 4, 0, [(0, 20, 560), (0, 1, 31)]), (404, 2, 2, 4, 0, 0, []), (406, 27, 0, 0, 0, 0, []), (407, 19, 426, 0, 214, 0, []), (410, 2, 1, 3, 0, 0, []), (411, 0, 1, 0, 0, 1, []), (412, 18, 425, 1, 213, 0, []), (415, 4, 1, 0, 0, 0, []), (416, 25, 12, 59, 4, 0, [(0, 20, 560), (0, 1, 36)]), (419, 2, 2, 4, 0, 0, []), (421, 27, 0, 0, 0, 0, []), (422, 19, 426, 0, 214, 0, []), (425, 0, 1, 0, 0, (-1), []), (426, 41, 0, 0, 0, 0, [])]
set_option maxRecDepth 20000 in
theorem qX12_toldOff : f_all yX12_toldOf YX12_toldOf pX12_toldOff :=
  ⟨f_iload_n (n := 1) (e_dx DX12_toldOf_0 0 rfl) rfl,
  f_iload_n (n := 2) (e_dx DX12_toldOf_0 1 rfl) rfl,
  x_callS (e_dx DX12_toldOf_0 2 rfl) mwX12_id cX12_540 swX12_id rfl,
  f_istore (e_dx DX12_toldOf_0 3 rfl) (by decide),
  f_iload_n (n := 1) (e_dx DX12_toldOf_0 4 rfl) rfl,
  f_tsw (e_dx DX12_toldOf_0 5 rfl) rfl rfl (by decide) rfl,
  f_iload_n (n := 3) (e_dx DX12_toldOf_0 6 rfl) rfl,
  f_if_ne (e_dx DX12_toldOf_0 7 rfl) rfl,
  f_aload_n (n := 0) (e_dx DX12_toldOf_0 8 rfl) rfl,
  f_bipush (e_dx DX12_toldOf_0 9 rfl) ⟨by decide, by decide⟩,
  f_iload_n (n := 2) (e_dx DX12_toldOf_0 10 rfl) rfl,
  f_imul (e_dx DX12_toldOf_0 11 rfl),
  f_aload_n (n := 0) (e_dx DX12_toldOf_0 12 rfl) rfl,
  f_getA (e_dx DX12_toldOf_0 13 rfl) fX12_130 rfl (by decide) (Nat.le_of_ble_eq_true rfl) rfl (by decide),
  f_iload_n (n := 2) (e_dx DX12_toldOf_0 14 rfl) rfl,
  f_iaload (e_dx DX12_toldOf_0 15 rfl),
  x_callV (e_dx DX12_toldOf_0 16 rfl) mwX12_areaOf vwX12_areaOf cX12_513 rfl,
  f_g15 (e_dx DX12_toldOf_0 17 rfl),
  f_g19 (e_dx DX12_toldOf_0 18 rfl) rfl,
  f_iload_n (n := 3) (e_dx DX12_toldOf_0 19 rfl) rfl,
  f_iconst (e_dx DX12_toldOf_0 20 rfl) ⟨by decide, by decide⟩,
  f_icmp_ne (e_dx DX12_toldOf_0 21 rfl) rfl,
  f_aload_n (n := 0) (e_dx DX12_toldOf_0 22 rfl) rfl,
  f_getA (e_dx DX12_toldOf_0 23 rfl) fX12_130 rfl (by decide) (Nat.le_of_ble_eq_true rfl) rfl (by decide),
  f_iload_n (n := 2) (e_dx DX12_toldOf_0 24 rfl) rfl,
  f_iaload (e_dx DX12_toldOf_0 25 rfl),
  f_g19 (e_dx DX12_toldOf_0 26 rfl) rfl,
  f_iload_n (n := 3) (e_dx DX12_toldOf_0 27 rfl) rfl,
  f_iconst (e_dx DX12_toldOf_0 28 rfl) ⟨by decide, by decide⟩,
  f_icmp_ne (e_dx DX12_toldOf_0 29 rfl) rfl,
  f_aload_n (n := 0) (e_dx DX12_toldOf_0 30 rfl) rfl,
  f_getA (e_dx DX12_toldOf_0 31 rfl) fX12_133 rfl (by decide) (Nat.le_of_ble_eq_true rfl) rfl (by decide),
  f_iload_n (n := 2) (e_dx DX12_toldOf_0 32 rfl) rfl,
  f_iaload (e_dx DX12_toldOf_0 33 rfl),
  f_g19 (e_dx DX12_toldOf_0 34 rfl) rfl,
  f_iload_n (n := 3) (e_dx DX12_toldOf_0 35 rfl) rfl,
  f_iconst (e_dx DX12_toldOf_0 36 rfl) ⟨by decide, by decide⟩,
  f_icmp_ne (e_dx DX12_toldOf_0 37 rfl) rfl,
  f_aload_n (n := 0) (e_dx DX12_toldOf_0 38 rfl) rfl,
  f_getA (e_dx DX12_toldOf_0 39 rfl) fX12_139 rfl (by decide) (Nat.le_of_ble_eq_true rfl) rfl (by decide),
  f_iload_n (n := 2) (e_dx DX12_toldOf_1 0 rfl) rfl,
  f_iaload (e_dx DX12_toldOf_1 1 rfl),
  f_g19 (e_dx DX12_toldOf_1 2 rfl) rfl,
  f_iload_n (n := 3) (e_dx DX12_toldOf_1 3 rfl) rfl,
  f_iconst (e_dx DX12_toldOf_1 4 rfl) ⟨by decide, by decide⟩,
  f_icmp_ne (e_dx DX12_toldOf_1 5 rfl) rfl,
  f_aload_n (n := 0) (e_dx DX12_toldOf_1 6 rfl) rfl,
  f_getA (e_dx DX12_toldOf_1 7 rfl) fX12_112 rfl (by decide) (Nat.le_of_ble_eq_true rfl) rfl (by decide),
  f_iload (e_dx DX12_toldOf_1 8 rfl),
  f_iaload (e_dx DX12_toldOf_1 9 rfl),
  f_g19 (e_dx DX12_toldOf_1 10 rfl) rfl,
  f_iconst (e_dx DX12_toldOf_1 11 rfl) ⟨by decide, by decide⟩,
  ⟨(e_dx DX12_toldOf_1 12 rfl), rfl⟩,
  f_iload_n (n := 3) (e_dx DX12_toldOf_1 13 rfl) rfl,
  f_if_ne (e_dx DX12_toldOf_1 14 rfl) rfl,
  f_aload_n (n := 0) (e_dx DX12_toldOf_1 15 rfl) rfl,
  f_getA (e_dx DX12_toldOf_1 16 rfl) fX12_115 rfl (by decide) (Nat.le_of_ble_eq_true rfl) rfl (by decide),
  f_iload (e_dx DX12_toldOf_1 17 rfl),
  f_iaload (e_dx DX12_toldOf_1 18 rfl),
  f_iconst (e_dx DX12_toldOf_1 19 rfl) ⟨by decide, by decide⟩,
  f_mminI (e_dx DX12_toldOf_1 20 rfl) cX12_523 fm_s_mminI fm_i fm_c_mminI,
  f_g19 (e_dx DX12_toldOf_1 21 rfl) rfl,
  f_iload_n (n := 3) (e_dx DX12_toldOf_1 22 rfl) rfl,
  f_iconst (e_dx DX12_toldOf_1 23 rfl) ⟨by decide, by decide⟩,
  f_icmp_ne (e_dx DX12_toldOf_1 24 rfl) rfl,
  f_aload_n (n := 0) (e_dx DX12_toldOf_1 25 rfl) rfl,
  f_getA (e_dx DX12_toldOf_1 26 rfl) fX12_115 rfl (by decide) (Nat.le_of_ble_eq_true rfl) rfl (by decide),
  f_iload (e_dx DX12_toldOf_1 27 rfl),
  f_iaload (e_dx DX12_toldOf_1 28 rfl),
  f_if_ne (e_dx DX12_toldOf_1 29 rfl) rfl,
  f_aload_n (n := 0) (e_dx DX12_toldOf_1 30 rfl) rfl,
  f_getA (e_dx DX12_toldOf_1 31 rfl) fX12_100 rfl (by decide) (Nat.le_of_ble_eq_true rfl) rfl (by decide),
  f_iload (e_dx DX12_toldOf_1 32 rfl),
  f_iaload (e_dx DX12_toldOf_1 33 rfl),
  f_g19 (e_dx DX12_toldOf_1 34 rfl) rfl,
  f_iconst (e_dx DX12_toldOf_1 35 rfl) ⟨by decide, by decide⟩,
  f_g19 (e_dx DX12_toldOf_1 36 rfl) rfl,
  f_iload_n (n := 3) (e_dx DX12_toldOf_1 37 rfl) rfl,
  f_iconst (e_dx DX12_toldOf_1 38 rfl) ⟨by decide, by decide⟩,
  f_icmp_ne (e_dx DX12_toldOf_1 39 rfl) rfl,
  f_aload_n (n := 0) (e_dx DX12_toldOf_2 0 rfl) rfl,
  f_iload_n (n := 2) (e_dx DX12_toldOf_2 1 rfl) rfl,
  f_aload_n (n := 0) (e_dx DX12_toldOf_2 2 rfl) rfl,
  f_getf (e_dx DX12_toldOf_2 3 rfl) fX12_223 rfl (by decide) (by decide) (by decide),
  x_callV (e_dx DX12_toldOf_2 4 rfl) mwX12_isAge vwX12_isAge cX12_552 rfl,
  f_if_eq (e_dx DX12_toldOf_2 5 rfl) rfl,
  f_iconst (e_dx DX12_toldOf_2 6 rfl) ⟨by decide, by decide⟩,
  f_g19 (e_dx DX12_toldOf_2 7 rfl) rfl,
  f_iconst (e_dx DX12_toldOf_2 8 rfl) ⟨by decide, by decide⟩,
  f_g19 (e_dx DX12_toldOf_2 9 rfl) rfl,
  f_iload_n (n := 3) (e_dx DX12_toldOf_2 10 rfl) rfl,
  f_iconst (e_dx DX12_toldOf_2 11 rfl) ⟨by decide, by decide⟩,
  f_icmp_ne (e_dx DX12_toldOf_2 12 rfl) rfl,
  f_aload_n (n := 0) (e_dx DX12_toldOf_2 13 rfl) rfl,
  f_iload_n (n := 2) (e_dx DX12_toldOf_2 14 rfl) rfl,
  f_aload_n (n := 0) (e_dx DX12_toldOf_2 15 rfl) rfl,
  f_getf (e_dx DX12_toldOf_2 16 rfl) fX12_223 rfl (by decide) (by decide) (by decide),
  x_callV (e_dx DX12_toldOf_2 17 rfl) mwX12_isAble vwX12_isAble cX12_582 rfl,
  f_if_eq (e_dx DX12_toldOf_2 18 rfl) rfl,
  f_iconst (e_dx DX12_toldOf_2 19 rfl) ⟨by decide, by decide⟩,
  f_g19 (e_dx DX12_toldOf_2 20 rfl) rfl,
  f_iconst (e_dx DX12_toldOf_2 21 rfl) ⟨by decide, by decide⟩,
  f_g19 (e_dx DX12_toldOf_2 22 rfl) rfl,
  f_iconst (e_dx DX12_toldOf_2 23 rfl) ⟨by decide, by decide⟩,
  ⟨(e_dx DX12_toldOf_2 24 rfl), rfl⟩,
  f_iload_n (n := 3) (e_dx DX12_toldOf_2 25 rfl) rfl,
  f_if_ne (e_dx DX12_toldOf_2 26 rfl) rfl,
  f_aload_n (n := 0) (e_dx DX12_toldOf_2 27 rfl) rfl,
  f_getA (e_dx DX12_toldOf_2 28 rfl) fX12_112 rfl (by decide) (Nat.le_of_ble_eq_true rfl) rfl (by decide),
  f_iload (e_dx DX12_toldOf_2 29 rfl),
  f_iaload (e_dx DX12_toldOf_2 30 rfl),
  f_g19 (e_dx DX12_toldOf_2 31 rfl) rfl,
  f_iload_n (n := 3) (e_dx DX12_toldOf_2 32 rfl) rfl,
  f_iconst (e_dx DX12_toldOf_2 33 rfl) ⟨by decide, by decide⟩,
  f_icmp_ne (e_dx DX12_toldOf_2 34 rfl) rfl,
  f_aload_n (n := 0) (e_dx DX12_toldOf_2 35 rfl) rfl,
  f_getA (e_dx DX12_toldOf_2 36 rfl) fX12_118 rfl (by decide) (Nat.le_of_ble_eq_true rfl) rfl (by decide),
  f_iload (e_dx DX12_toldOf_2 37 rfl),
  f_iaload (e_dx DX12_toldOf_2 38 rfl),
  f_g19 (e_dx DX12_toldOf_2 39 rfl) rfl,
  f_iconst (e_dx DX12_toldOf_3 0 rfl) ⟨by decide, by decide⟩,
  ⟨(e_dx DX12_toldOf_3 1 rfl), rfl⟩,
  f_iload_n (n := 3) (e_dx DX12_toldOf_3 2 rfl) rfl,
  f_if_ne (e_dx DX12_toldOf_3 3 rfl) rfl,
  f_aload_n (n := 0) (e_dx DX12_toldOf_3 4 rfl) rfl,
  f_getA (e_dx DX12_toldOf_3 5 rfl) fX12_115 rfl (by decide) (Nat.le_of_ble_eq_true rfl) rfl (by decide),
  f_iload (e_dx DX12_toldOf_3 6 rfl),
  f_iaload (e_dx DX12_toldOf_3 7 rfl),
  f_g19 (e_dx DX12_toldOf_3 8 rfl) rfl,
  f_iload_n (n := 3) (e_dx DX12_toldOf_3 9 rfl) rfl,
  f_iconst (e_dx DX12_toldOf_3 10 rfl) ⟨by decide, by decide⟩,
  f_icmp_ne (e_dx DX12_toldOf_3 11 rfl) rfl,
  f_aload_n (n := 0) (e_dx DX12_toldOf_3 12 rfl) rfl,
  f_getA (e_dx DX12_toldOf_3 13 rfl) fX12_124 rfl (by decide) (Nat.le_of_ble_eq_true rfl) rfl (by decide),
  f_iload (e_dx DX12_toldOf_3 14 rfl),
  f_iaload (e_dx DX12_toldOf_3 15 rfl),
  f_g19 (e_dx DX12_toldOf_3 16 rfl) rfl,
  f_iload_n (n := 3) (e_dx DX12_toldOf_3 17 rfl) rfl,
  f_iconst (e_dx DX12_toldOf_3 18 rfl) ⟨by decide, by decide⟩,
  f_icmp_ne (e_dx DX12_toldOf_3 19 rfl) rfl,
  f_aload_n (n := 0) (e_dx DX12_toldOf_3 20 rfl) rfl,
  f_getA (e_dx DX12_toldOf_3 21 rfl) fX12_118 rfl (by decide) (Nat.le_of_ble_eq_true rfl) rfl (by decide),
  f_iload (e_dx DX12_toldOf_3 22 rfl),
  f_iaload (e_dx DX12_toldOf_3 23 rfl),
  f_g19 (e_dx DX12_toldOf_3 24 rfl) rfl,
  f_iload_n (n := 3) (e_dx DX12_toldOf_3 25 rfl) rfl,
  f_iconst (e_dx DX12_toldOf_3 26 rfl) ⟨by decide, by decide⟩,
  f_icmp_ne (e_dx DX12_toldOf_3 27 rfl) rfl,
  f_aload_n (n := 0) (e_dx DX12_toldOf_3 28 rfl) rfl,
  f_getA (e_dx DX12_toldOf_3 29 rfl) fX12_151 rfl (by decide) (Nat.le_of_ble_eq_true rfl) rfl (by decide),
  f_iload_n (n := 2) (e_dx DX12_toldOf_3 30 rfl) rfl,
  f_iaload (e_dx DX12_toldOf_3 31 rfl),
  f_g19 (e_dx DX12_toldOf_3 32 rfl) rfl,
  f_iconst (e_dx DX12_toldOf_3 33 rfl) ⟨by decide, by decide⟩,
  ⟨(e_dx DX12_toldOf_3 34 rfl), rfl⟩,
  f_iload_n (n := 3) (e_dx DX12_toldOf_3 35 rfl) rfl,
  f_if_ne (e_dx DX12_toldOf_3 36 rfl) rfl,
  f_aload_n (n := 0) (e_dx DX12_toldOf_3 37 rfl) rfl,
  f_getA (e_dx DX12_toldOf_3 38 rfl) fX12_112 rfl (by decide) (Nat.le_of_ble_eq_true rfl) rfl (by decide),
  f_iload (e_dx DX12_toldOf_3 39 rfl),
  f_iaload (e_dx DX12_toldOf_4 0 rfl),
  f_g19 (e_dx DX12_toldOf_4 1 rfl) rfl,
  f_iload_n (n := 3) (e_dx DX12_toldOf_4 2 rfl) rfl,
  f_iconst (e_dx DX12_toldOf_4 3 rfl) ⟨by decide, by decide⟩,
  f_icmp_ne (e_dx DX12_toldOf_4 4 rfl) rfl,
  f_aload_n (n := 0) (e_dx DX12_toldOf_4 5 rfl) rfl,
  f_getA (e_dx DX12_toldOf_4 6 rfl) fX12_118 rfl (by decide) (Nat.le_of_ble_eq_true rfl) rfl (by decide),
  f_iload (e_dx DX12_toldOf_4 7 rfl),
  f_iaload (e_dx DX12_toldOf_4 8 rfl),
  f_g19 (e_dx DX12_toldOf_4 9 rfl) rfl,
  f_iload_n (n := 3) (e_dx DX12_toldOf_4 10 rfl) rfl,
  f_iconst (e_dx DX12_toldOf_4 11 rfl) ⟨by decide, by decide⟩,
  f_icmp_ne (e_dx DX12_toldOf_4 12 rfl) rfl,
  f_aload_n (n := 0) (e_dx DX12_toldOf_4 13 rfl) rfl,
  f_getA (e_dx DX12_toldOf_4 14 rfl) fX12_100 rfl (by decide) (Nat.le_of_ble_eq_true rfl) rfl (by decide),
  f_iload (e_dx DX12_toldOf_4 15 rfl),
  f_iaload (e_dx DX12_toldOf_4 16 rfl),
  f_g19 (e_dx DX12_toldOf_4 17 rfl) rfl,
  f_iload_n (n := 3) (e_dx DX12_toldOf_4 18 rfl) rfl,
  f_iconst (e_dx DX12_toldOf_4 19 rfl) ⟨by decide, by decide⟩,
  f_icmp_ne (e_dx DX12_toldOf_4 20 rfl) rfl,
  f_aload_n (n := 0) (e_dx DX12_toldOf_4 21 rfl) rfl,
  f_getA (e_dx DX12_toldOf_4 22 rfl) fX12_103 rfl (by decide) (Nat.le_of_ble_eq_true rfl) rfl (by decide),
  f_iload (e_dx DX12_toldOf_4 23 rfl),
  f_iaload (e_dx DX12_toldOf_4 24 rfl),
  f_g19 (e_dx DX12_toldOf_4 25 rfl) rfl,
  f_iconst (e_dx DX12_toldOf_4 26 rfl) ⟨by decide, by decide⟩,
  ⟨(e_dx DX12_toldOf_4 27 rfl), rfl⟩,
  f_iload_n (n := 3) (e_dx DX12_toldOf_4 28 rfl) rfl,
  f_if_ne (e_dx DX12_toldOf_4 29 rfl) rfl,
  f_aload_n (n := 0) (e_dx DX12_toldOf_4 30 rfl) rfl,
  f_getA (e_dx DX12_toldOf_4 31 rfl) fX12_103 rfl (by decide) (Nat.le_of_ble_eq_true rfl) rfl (by decide),
  f_iload (e_dx DX12_toldOf_4 32 rfl),
  f_iaload (e_dx DX12_toldOf_4 33 rfl),
  f_g19 (e_dx DX12_toldOf_4 34 rfl) rfl,
  f_iconst (e_dx DX12_toldOf_4 35 rfl) ⟨by decide, by decide⟩,
  ⟨(e_dx DX12_toldOf_4 36 rfl), rfl⟩,
  f_iload_n (n := 3) (e_dx DX12_toldOf_4 37 rfl) rfl,
  f_if_ne (e_dx DX12_toldOf_4 38 rfl) rfl,
  f_aload_n (n := 0) (e_dx DX12_toldOf_4 39 rfl) rfl,
  f_getA (e_dx DX12_toldOf_5 0 rfl) fX12_103 rfl (by decide) (Nat.le_of_ble_eq_true rfl) rfl (by decide),
  f_iload (e_dx DX12_toldOf_5 1 rfl),
  f_iaload (e_dx DX12_toldOf_5 2 rfl),
  f_g19 (e_dx DX12_toldOf_5 3 rfl) rfl,
  f_iload_n (n := 3) (e_dx DX12_toldOf_5 4 rfl) rfl,
  f_iconst (e_dx DX12_toldOf_5 5 rfl) ⟨by decide, by decide⟩,
  f_icmp_ne (e_dx DX12_toldOf_5 6 rfl) rfl,
  f_aload_n (n := 0) (e_dx DX12_toldOf_5 7 rfl) rfl,
  f_getA (e_dx DX12_toldOf_5 8 rfl) fX12_118 rfl (by decide) (Nat.le_of_ble_eq_true rfl) rfl (by decide),
  f_iload (e_dx DX12_toldOf_5 9 rfl),
  f_iaload (e_dx DX12_toldOf_5 10 rfl),
  f_g19 (e_dx DX12_toldOf_5 11 rfl) rfl,
  f_iconst (e_dx DX12_toldOf_5 12 rfl) ⟨by decide, by decide⟩,
  ⟨(e_dx DX12_toldOf_5 13 rfl), rfl⟩, trivial⟩
def lX12_toldOf (c_X12_id : Int → Int → e_M → (Int → Prop) → Prop) (c_X12_areaOf : Int → Int → e_M → (Int → Prop) → Prop) (c_X12_isAge : Int → Int → e_M → (Int → Prop) → Prop) (c_X12_isAble : Int → Int → e_M → (Int → Prop) → Prop) : List (Nat × f_Wt) := [(0, f_wm [(1, 0, 0), (1, 0, 0)] (fun ar M R => c_X12_id (f_vi (f_nth ar 0)) (f_vi (f_nth ar 1)) M (fun r => R (some (.inl r)) M))), (1, f_wm [(4466, 12, 123), (1, 0, 0), (1, 0, 0)] (fun ar M R => c_X12_areaOf (f_vi (f_nth ar 1)) (f_vi (f_nth ar 2)) M (fun r => R (some (.inr (.inl r))) M))), (2, f_wm [(4466, 12, 123), (1, 0, 0), (1, 0, 0)] (fun ar M R => c_X12_isAge (f_vi (f_nth ar 1)) (f_vi (f_nth ar 2)) M (fun r => R (some (.inl r)) M))), (3, f_wm [(4466, 12, 123), (1, 0, 0), (1, 0, 0)] (fun ar M R => c_X12_isAble (f_vi (f_nth ar 1)) (f_vi (f_nth ar 2)) M (fun r => R (some (.inl r)) M)))]
set_option maxRecDepth 20000 in
theorem BX12_toldOf {sh : Nat → Nat × Nat} {t : Nat} {rm : Nat × Nat × Nat} {cs : Nat × Nat} {R : f_Rt} {c_X12_id : Int → Int → e_M → (Int → Prop) → Prop} {c_X12_areaOf : Int → Int → e_M → (Int → Prop) → Prop} {c_X12_isAge : Int → Int → e_M → (Int → Prop) → Prop} {c_X12_isAble : Int → Int → e_M → (Int → Prop) → Prop} {x1 : Int} {x2 : Int} {x3 : Int} {M : e_M} (C : f_Hy sh t yX12_toldOf rm cs 10 (lX12_toldOf c_X12_id c_X12_areaOf c_X12_isAge c_X12_isAble) R) (h : VX12_toldOf c_X12_id c_X12_areaOf c_X12_isAge c_X12_isAble (fun r => R (some (.inl r)) M) x1 x2 x3 M) : f_E sh t YX12_toldOf rm cs (f_Q sh t R) 0 [.inr (.inr (.inl (12, 123, 4456))), .inl x1, .inl x2, .inl x3, .inr (.inr (.inr ()))] [] M :=
  f_go (KC := f_kc []) C qX12_toldOff f_kc_nil 216 0 h
def WX12_toldOf (x1 : Int) (x2 : Int) (x3 : Int) (M : e_M) (Q : Int → Prop) : Prop :=
  VX12_toldOf WX12_id WX12_areaOf WX12_isAge WX12_isAble Q x1 x2 x3 M
theorem PX12_toldOf {sh : Nat → Nat × Nat} {t : Nat} {rm : Nat × Nat × Nat} {cs : Nat × Nat} {R : f_Rt} {x1 : Int} {x2 : Int} {x3 : Int} {M : e_M} (C : f_Hy sh t yX12_toldOf rm cs 10 (lX12_toldOf WX12_id WX12_areaOf WX12_isAge WX12_isAble) R) (h : WX12_toldOf x1 x2 x3 M (fun r => R (some (.inl r)) M)) : f_E sh t YX12_toldOf rm cs (f_Q sh t R) 0 [.inr (.inr (.inl (12, 123, 4456))), .inl x1, .inl x2, .inl x3, .inr (.inr (.inr ()))] [] M :=
  BX12_toldOf C h
def wX12_toldOf : f_Wt := f_wm [(4466, 12, 123), (1, 0, 0), (1, 0, 0), (1, 0, 0)] (fun ar M R => WX12_toldOf (f_vi (f_nth ar 1)) (f_vi (f_nth ar 2)) (f_vi (f_nth ar 3)) M (fun r => R (some (.inl r)) M))
theorem TX12_toldOf {sh : Nat → Nat × Nat} {t : Nat} : f_Mt sh t YX12_toldOf 10 (wX12_toldOf) :=
  f_Mt_of (k := 1) (Nat.le_of_ble_eq_true rfl) rfl rfl (fun ar M R rm cs h1 h2 h3 hX h => PX12_toldOf ⟨Nat.le_of_ble_eq_true rfl, h1, h2, h3, ⟨(f_Mt.up (Nat.le_of_ble_eq_true rfl) TX12_id), (f_Mt.up (Nat.le_of_ble_eq_true rfl) TX12_areaOf), (f_Mt.up (Nat.le_of_ble_eq_true rfl) TX12_isAge), (f_Mt.up (Nat.le_of_ble_eq_true rfl) TX12_isAble), trivial⟩, hX⟩ h)
def VX12_thing_19 (c_X12_numbered : Int → Int → e_M → (Int → e_M → Prop) → Prop) (c_X12_throwsIf : Int → e_M → (Int → e_M → Prop) → Prop) (c_X12_toldOf : Int → Int → Int → e_M → (Int → Prop) → Prop) (Q : Int → e_M → Prop) (x1 : Int) (x3 : Int) (x4 : Int) (xs1 : Int) (M : e_M) : Prop :=
  (c_X12_throwsIf xs1 M (fun r1 M2 => ((r1 = 0 → (c_X12_toldOf x1 x4 x3 M2 (fun r3 => (Q r3 M2)))) ∧ (¬ r1 = 0 → (Q 0 M2)))))
def VX12_thing (c_X12_numbered : Int → Int → e_M → (Int → e_M → Prop) → Prop) (c_X12_throwsIf : Int → e_M → (Int → e_M → Prop) → Prop) (c_X12_toldOf : Int → Int → Int → e_M → (Int → Prop) → Prop) (k19 : Int → Int → Int → Int → e_M → Prop) (Q : Int → e_M → Prop) (x1 : Int) (x2 : Int) (x3 : Int) (M : e_M) : Prop :=
  (c_X12_numbered x1 x2 M (fun r1 M2 => ((0 ≤ r1 → (k19 x1 x3 r1 0 M2)) ∧ (r1 < 0 → (k19 x1 x3 r1 1 M2)))))
def yX12_thing (i : Nat) : e_Y := x_get YX12_thing [YX12_numbered, YX12_throwsIf, YX12_toldOf] i
def pX12_thingf : List x_I := [(0, 4, 1, 0, 0, 0, []), (1, 2, 1, 1, 0, 0, []), (2, 2, 1, 2, 0, 0, []), (3, 40, 0, 3, 14, 0, []), (6, 5, 2, 4, 0, 0, []), (8, 4, 1, 0, 0, 0, []), (9, 2, 2, 4, 0, 0, []), (11, 17, 18, 3, 11, 0, []), (14, 0, 1, 0, 0, 1, []), (15, 19, 19, 0, 12, 0, []), (18, 0, 1, 0, 0, 0, []), (19, 49, 0, 0, 0, 0, []), (19, 40, 1, 2, 14, 0, []), (22, 17, 29, 0, 17, 0, []), (25, 0, 1, 0, 0, 0, []), (26, 19, 37, 0, 22, 0, []), (29, 4, 1, 0, 0, 0, []), (30, 2, 1, 1, 0, 0, []), (31, 2, 2, 4, 0, 0, []), (33, 2, 1, 3, 0, 0, []), (34, 40, 2, 4, 14, 0, []), (37, 41, 0, 0, 0, 0, [])]
set_option maxRecDepth 20000 in
theorem qX12_thingf : f_all yX12_thing YX12_thing pX12_thingf :=
  ⟨f_aload_n (n := 0) (e_dx DX12_thing_0 0 rfl) rfl,
  f_iload_n (n := 1) (e_dx DX12_thing_0 1 rfl) rfl,
  f_iload_n (n := 2) (e_dx DX12_thing_0 2 rfl) rfl,
  x_callV (e_dx DX12_thing_0 3 rfl) mwX12_numbered vwX12_numbered cX12_981 rfl,
  f_istore (e_dx DX12_thing_0 4 rfl) (by decide),
  f_aload_n (n := 0) (e_dx DX12_thing_0 5 rfl) rfl,
  f_iload (e_dx DX12_thing_0 6 rfl),
  f_if_ge (e_dx DX12_thing_0 7 rfl) rfl,
  f_iconst (e_dx DX12_thing_0 8 rfl) ⟨by decide, by decide⟩,
  f_g19 (e_dx DX12_thing_0 9 rfl) rfl,
  f_iconst (e_dx DX12_thing_0 10 rfl) ⟨by decide, by decide⟩,
  trivial,
  x_callV (e_dx DX12_thing_0 11 rfl) mwX12_throwsIf vwX12_throwsIf cX12_974 rfl,
  f_if_eq (e_dx DX12_thing_0 12 rfl) rfl,
  f_iconst (e_dx DX12_thing_0 13 rfl) ⟨by decide, by decide⟩,
  f_g19 (e_dx DX12_thing_0 14 rfl) rfl,
  f_aload_n (n := 0) (e_dx DX12_thing_0 15 rfl) rfl,
  f_iload_n (n := 1) (e_dx DX12_thing_0 16 rfl) rfl,
  f_iload (e_dx DX12_thing_0 17 rfl),
  f_iload_n (n := 3) (e_dx DX12_thing_0 18 rfl) rfl,
  x_callV (e_dx DX12_thing_0 19 rfl) mwX12_toldOf vwX12_toldOf cX12_984 rfl,
  ⟨(e_dx DX12_thing_0 20 rfl), rfl⟩, trivial⟩
def lX12_thing (c_X12_numbered : Int → Int → e_M → (Int → e_M → Prop) → Prop) (c_X12_throwsIf : Int → e_M → (Int → e_M → Prop) → Prop) (c_X12_toldOf : Int → Int → Int → e_M → (Int → Prop) → Prop) : List (Nat × f_Wt) := [(0, f_wm [(4466, 12, 123), (1, 0, 0), (1, 0, 0)] (fun ar M R => c_X12_numbered (f_vi (f_nth ar 1)) (f_vi (f_nth ar 2)) M (fun r M => R (some (.inl r)) M))), (1, f_wm [(4466, 12, 123), (1, 0, 0)] (fun ar M R => c_X12_throwsIf (f_vi (f_nth ar 1)) M (fun r M => R (some (.inl r)) M))), (2, f_wm [(4466, 12, 123), (1, 0, 0), (1, 0, 0), (1, 0, 0)] (fun ar M R => c_X12_toldOf (f_vi (f_nth ar 1)) (f_vi (f_nth ar 2)) (f_vi (f_nth ar 3)) M (fun r => R (some (.inl r)) M)))]
set_option maxRecDepth 20000 in
theorem BX12_thing_19 {sh : Nat → Nat × Nat} {t : Nat} {rm : Nat × Nat × Nat} {cs : Nat × Nat} {R : f_Rt} {c_X12_numbered : Int → Int → e_M → (Int → e_M → Prop) → Prop} {c_X12_throwsIf : Int → e_M → (Int → e_M → Prop) → Prop} {c_X12_toldOf : Int → Int → Int → e_M → (Int → Prop) → Prop} {x1 : Int} {x3 : Int} {x4 : Int} {xs1 : Int} {M : e_M} (C : f_Hy sh t yX12_thing rm cs 16 (lX12_thing c_X12_numbered c_X12_throwsIf c_X12_toldOf) R) (h : VX12_thing_19 c_X12_numbered c_X12_throwsIf c_X12_toldOf (fun r M => R (some (.inl r)) M) x1 x3 x4 xs1 M) : f_E sh t YX12_thing rm cs (f_Q sh t R) 19 [.inr (.inr (.inl (12, 123, 4456))), .inl x1, .inr (.inr (.inr ())), .inl x3, .inl x4] [.inl xs1, .inr (.inr (.inl (12, 123, 4456)))] M :=
  f_go (KC := f_kc []) C qX12_thingf f_kc_nil 24 12 h
set_option maxRecDepth 20000 in
theorem BX12_thing {sh : Nat → Nat × Nat} {t : Nat} {rm : Nat × Nat × Nat} {cs : Nat × Nat} {R : f_Rt} {c_X12_numbered : Int → Int → e_M → (Int → e_M → Prop) → Prop} {c_X12_throwsIf : Int → e_M → (Int → e_M → Prop) → Prop} {c_X12_toldOf : Int → Int → Int → e_M → (Int → Prop) → Prop} {k19 : Int → Int → Int → Int → e_M → Prop} {x1 : Int} {x2 : Int} {x3 : Int} {M : e_M} (C : f_Hy sh t yX12_thing rm cs 16 (lX12_thing c_X12_numbered c_X12_throwsIf c_X12_toldOf) R) (h19 : ∀ (x1 : Int) (x3 : Int) (x4 : Int) (xs1 : Int) (M : e_M), k19 x1 x3 x4 xs1 M → f_E sh t YX12_thing rm cs (f_Q sh t R) 19 [.inr (.inr (.inl (12, 123, 4456))), .inl x1, .inr (.inr (.inr ())), .inl x3, .inl x4] [.inl xs1, .inr (.inr (.inl (12, 123, 4456)))] M) (h : VX12_thing c_X12_numbered c_X12_throwsIf c_X12_toldOf k19 (fun r M => R (some (.inl r)) M) x1 x2 x3 M) : f_E sh t YX12_thing rm cs (f_Q sh t R) 0 [.inr (.inr (.inl (12, 123, 4456))), .inl x1, .inl x2, .inl x3, .inr (.inr (.inr ()))] [] M :=
  f_go (KC := f_kc [(19, f_pl [(4466, 12, 123), (1, 0, 0), (0, 0, 0), (1, 0, 0), (1, 0, 0)] [(1, 0, 0), (4466, 12, 123)] (fun ls st M => k19 (f_vi (f_nth ls 1)) (f_vi (f_nth ls 3)) (f_vi (f_nth ls 4)) (f_vi (f_nth st 0)) M))]) C qX12_thingf (f_kc_cons (f_pl_ok rfl (fun ls st M h => h19 _ _ _ _ M h)) f_kc_nil) 24 0 h
def WX12_thing_19 (Q : Int → e_M → Prop) (x1 : Int) (x3 : Int) (x4 : Int) (xs1 : Int) (M : e_M) : Prop :=
  VX12_thing_19 WX12_numbered WX12_throwsIf WX12_toldOf Q x1 x3 x4 xs1 M
def WX12_thing (x1 : Int) (x2 : Int) (x3 : Int) (M : e_M) (Q : Int → e_M → Prop) : Prop :=
  VX12_thing WX12_numbered WX12_throwsIf WX12_toldOf (WX12_thing_19 Q) Q x1 x2 x3 M
theorem PX12_thing_19 {sh : Nat → Nat × Nat} {t : Nat} {rm : Nat × Nat × Nat} {cs : Nat × Nat} {R : f_Rt} {x1 : Int} {x3 : Int} {x4 : Int} {xs1 : Int} {M : e_M} (C : f_Hy sh t yX12_thing rm cs 16 (lX12_thing WX12_numbered WX12_throwsIf WX12_toldOf) R) (h : WX12_thing_19 (fun r M => R (some (.inl r)) M) x1 x3 x4 xs1 M) : f_E sh t YX12_thing rm cs (f_Q sh t R) 19 [.inr (.inr (.inl (12, 123, 4456))), .inl x1, .inr (.inr (.inr ())), .inl x3, .inl x4] [.inl xs1, .inr (.inr (.inl (12, 123, 4456)))] M :=
  BX12_thing_19 C h
theorem PX12_thing {sh : Nat → Nat × Nat} {t : Nat} {rm : Nat × Nat × Nat} {cs : Nat × Nat} {R : f_Rt} {x1 : Int} {x2 : Int} {x3 : Int} {M : e_M} (C : f_Hy sh t yX12_thing rm cs 16 (lX12_thing WX12_numbered WX12_throwsIf WX12_toldOf) R) (h : WX12_thing x1 x2 x3 M (fun r M => R (some (.inl r)) M)) : f_E sh t YX12_thing rm cs (f_Q sh t R) 0 [.inr (.inr (.inl (12, 123, 4456))), .inl x1, .inl x2, .inl x3, .inr (.inr (.inr ()))] [] M :=
  BX12_thing C (fun x1 x3 x4 xs1 M h => PX12_thing_19 C h) h
def wX12_thing : f_Wt := f_wm [(4466, 12, 123), (1, 0, 0), (1, 0, 0), (1, 0, 0)] (fun ar M R => WX12_thing (f_vi (f_nth ar 1)) (f_vi (f_nth ar 2)) (f_vi (f_nth ar 3)) M (fun r M => R (some (.inl r)) M))
theorem TX12_thing {sh : Nat → Nat × Nat} {t : Nat} : f_Mt sh t YX12_thing 16 (wX12_thing) :=
  f_Mt_of (k := 1) (Nat.le_of_ble_eq_true rfl) rfl rfl (fun ar M R rm cs h1 h2 h3 hX h => PX12_thing ⟨Nat.le_of_ble_eq_true rfl, h1, h2, h3, ⟨(f_Mt.up (Nat.le_of_ble_eq_true rfl) TX12_numbered), (f_Mt.up (Nat.le_of_ble_eq_true rfl) TX12_throwsIf), (f_Mt.up (Nat.le_of_ble_eq_true rfl) TX12_toldOf), trivial⟩, hX⟩ h)
def VX12_corner_38 (c_X12_numbered : Int → Int → e_M → (Int → e_M → Prop) → Prop) (c_X12_throwsIf : Int → e_M → (Int → e_M → Prop) → Prop) (k43 : Int → Int → Int → Int → e_M → Prop) (Q : Int → e_M → Prop) (x2 : Int) (x3 : Int) (x4 : Int) (M : e_M) : Prop :=
  (k43 x2 x3 x4 1 M)
def VX12_corner_43 (c_X12_numbered : Int → Int → e_M → (Int → e_M → Prop) → Prop) (c_X12_throwsIf : Int → e_M → (Int → e_M → Prop) → Prop) (Q : Int → e_M → Prop) (x2 : Int) (x3 : Int) (x4 : Int) (xs1 : Int) (M : e_M) : Prop :=
  (c_X12_throwsIf xs1 M (fun r1 M2 => ((r1 = 0 → ((¬ x3 = 0 → ((0 ≤ (e_w32 ((e_w32 ((40 : Int) * x4)) + x2)) ∧ (e_w32 ((e_w32 ((40 : Int) * x4)) + x2)) < 4800) ∧ (Q (M2 4481 ((e_w32 ((e_w32 ((40 : Int) * x4)) + x2)).toNat)) M2))) ∧ (x3 = 0 → ((0 ≤ (e_w32 ((e_w32 ((40 : Int) * x4)) + x2)) ∧ (e_w32 ((e_w32 ((40 : Int) * x4)) + x2)) < 4800) ∧ (Q (M2 4480 ((e_w32 ((e_w32 ((40 : Int) * x4)) + x2)).toNat)) M2))))) ∧ (¬ r1 = 0 → (Q 0 M2)))))
def VX12_corner (c_X12_numbered : Int → Int → e_M → (Int → e_M → Prop) → Prop) (c_X12_throwsIf : Int → e_M → (Int → e_M → Prop) → Prop) (k38 : Int → Int → Int → e_M → Prop) (k43 : Int → Int → Int → Int → e_M → Prop) (Q : Int → e_M → Prop) (x1 : Int) (x2 : Int) (x3 : Int) (M : e_M) : Prop :=
  (c_X12_numbered 0 x1 M (fun r1 M2 => ((r1 < 0 → (k38 x2 x3 r1 M2)) ∧ (0 ≤ r1 → ((x2 < 0 → (k38 x2 x3 r1 M2)) ∧ (0 ≤ x2 → ((0 ≤ r1 ∧ r1 < 80) ∧ (((M2 4496 (r1.toNat)) ≤ x2 → (k38 x2 x3 r1 M2)) ∧ (x2 < (M2 4496 (r1.toNat)) → ((x3 < 0 → (k38 x2 x3 r1 M2)) ∧ (0 ≤ x3 → ((x3 ≤ 1 → (k43 x2 x3 r1 0 M2)) ∧ (1 < x3 → (k38 x2 x3 r1 M2))))))))))))))
def yX12_corner (i : Nat) : e_Y := x_get YX12_corner [YX12_numbered, YX12_throwsIf] i
def pX12_cornerf : List x_I := [(0, 4, 1, 0, 0, 0, []), (1, 0, 1, 0, 0, 0, []), (2, 2, 1, 1, 0, 0, []), (3, 40, 0, 3, 14, 0, []), (6, 5, 2, 4, 0, 0, []), (8, 4, 1, 0, 0, 0, []), (9, 2, 2, 4, 0, 0, []), (11, 17, 38, 2, 22, 0, []), (14, 2, 1, 2, 0, 0, []), (15, 17, 38, 2, 22, 0, []), (18, 2, 1, 2, 0, 0, []), (19, 4, 1, 0, 0, 0, []), (20, 25, 12, 63, 4, 0, [(0, 20, 80), (0, 1, 40)]), (23, 2, 2, 4, 0, 0, []), (25, 27, 0, 0, 0, 0, []), (26, 18, 38, 3, 22, 0, []), (29, 2, 1, 3, 0, 0, []), (30, 17, 38, 2, 22, 0, []), (33, 2, 1, 3, 0, 0, []), (34, 0, 1, 0, 0, 1, []), (35, 18, 42, 5, 25, 0, []), (38, 49, 0, 0, 0, 0, []), (38, 0, 1, 0, 0, 1, []), (39, 19, 43, 0, 26, 0, []), (42, 0, 1, 0, 0, 0, []), (43, 49, 0, 0, 0, 0, []), (43, 40, 1, 2, 14, 0, []), (46, 17, 51, 0, 31, 0, []), (49, 0, 1, 0, 0, 0, []), (50, 41, 0, 0, 0, 0, []), (51, 2, 1, 3, 0, 0, []), (52, 17, 70, 1, 42, 0, []), (55, 4, 1, 0, 0, 0, []), (56, 25, 12, 40, 4, 0, [(0, 20, 4800), (0, 1, 24)]), (59, 0, 2, 0, 0, 40, []), (61, 2, 2, 4, 0, 0, []), (63, 9, 0, 2, 0, 0, []), (64, 2, 1, 2, 0, 0, []), (65, 9, 0, 0, 0, 0, []), (66, 27, 0, 0, 0, 0, []), (67, 19, 82, 0, 50, 0, []), (70, 4, 1, 0, 0, 0, []), (71, 25, 12, 41, 4, 0, [(0, 20, 4800), (0, 1, 25)]), (74, 0, 2, 0, 0, 40, []), (76, 2, 2, 4, 0, 0, []), (78, 9, 0, 2, 0, 0, []), (79, 2, 1, 2, 0, 0, []), (80, 9, 0, 0, 0, 0, []), (81, 27, 0, 0, 0, 0, []), (82, 41, 0, 0, 0, 0, [])]
set_option maxRecDepth 20000 in
theorem qX12_cornerf : f_all yX12_corner YX12_corner pX12_cornerf :=
  ⟨f_aload_n (n := 0) (e_dx DX12_corner_0 0 rfl) rfl,
  f_iconst (e_dx DX12_corner_0 1 rfl) ⟨by decide, by decide⟩,
  f_iload_n (n := 1) (e_dx DX12_corner_0 2 rfl) rfl,
  x_callV (e_dx DX12_corner_0 3 rfl) mwX12_numbered vwX12_numbered cX12_981 rfl,
  f_istore (e_dx DX12_corner_0 4 rfl) (by decide),
  f_aload_n (n := 0) (e_dx DX12_corner_0 5 rfl) rfl,
  f_iload (e_dx DX12_corner_0 6 rfl),
  f_if_lt (e_dx DX12_corner_0 7 rfl) rfl,
  f_iload_n (n := 2) (e_dx DX12_corner_0 8 rfl) rfl,
  f_if_lt (e_dx DX12_corner_0 9 rfl) rfl,
  f_iload_n (n := 2) (e_dx DX12_corner_0 10 rfl) rfl,
  f_aload_n (n := 0) (e_dx DX12_corner_0 11 rfl) rfl,
  f_getA (e_dx DX12_corner_0 12 rfl) fX12_130 rfl (by decide) (Nat.le_of_ble_eq_true rfl) rfl (by decide),
  f_iload (e_dx DX12_corner_0 13 rfl),
  f_iaload (e_dx DX12_corner_0 14 rfl),
  f_icmp_ge (e_dx DX12_corner_0 15 rfl) rfl,
  f_iload_n (n := 3) (e_dx DX12_corner_0 16 rfl) rfl,
  f_if_lt (e_dx DX12_corner_0 17 rfl) rfl,
  f_iload_n (n := 3) (e_dx DX12_corner_0 18 rfl) rfl,
  f_iconst (e_dx DX12_corner_0 19 rfl) ⟨by decide, by decide⟩,
  f_icmp_le (e_dx DX12_corner_0 20 rfl) rfl,
  trivial,
  f_iconst (e_dx DX12_corner_0 21 rfl) ⟨by decide, by decide⟩,
  f_g19 (e_dx DX12_corner_0 22 rfl) rfl,
  f_iconst (e_dx DX12_corner_0 23 rfl) ⟨by decide, by decide⟩,
  trivial,
  x_callV (e_dx DX12_corner_0 24 rfl) mwX12_throwsIf vwX12_throwsIf cX12_974 rfl,
  f_if_eq (e_dx DX12_corner_0 25 rfl) rfl,
  f_iconst (e_dx DX12_corner_0 26 rfl) ⟨by decide, by decide⟩,
  ⟨(e_dx DX12_corner_0 27 rfl), rfl⟩,
  f_iload_n (n := 3) (e_dx DX12_corner_0 28 rfl) rfl,
  f_if_ne (e_dx DX12_corner_0 29 rfl) rfl,
  f_aload_n (n := 0) (e_dx DX12_corner_0 30 rfl) rfl,
  f_getA (e_dx DX12_corner_0 31 rfl) fX12_82 rfl (by decide) (Nat.le_of_ble_eq_true rfl) rfl (by decide),
  f_bipush (e_dx DX12_corner_0 32 rfl) ⟨by decide, by decide⟩,
  f_iload (e_dx DX12_corner_0 33 rfl),
  f_imul (e_dx DX12_corner_0 34 rfl),
  f_iload_n (n := 2) (e_dx DX12_corner_0 35 rfl) rfl,
  f_iadd (e_dx DX12_corner_0 36 rfl),
  f_iaload (e_dx DX12_corner_0 37 rfl),
  f_g19 (e_dx DX12_corner_0 38 rfl) rfl,
  f_aload_n (n := 0) (e_dx DX12_corner_0 39 rfl) rfl,
  f_getA (e_dx DX12_corner_1 0 rfl) fX12_85 rfl (by decide) (Nat.le_of_ble_eq_true rfl) rfl (by decide),
  f_bipush (e_dx DX12_corner_1 1 rfl) ⟨by decide, by decide⟩,
  f_iload (e_dx DX12_corner_1 2 rfl),
  f_imul (e_dx DX12_corner_1 3 rfl),
  f_iload_n (n := 2) (e_dx DX12_corner_1 4 rfl) rfl,
  f_iadd (e_dx DX12_corner_1 5 rfl),
  f_iaload (e_dx DX12_corner_1 6 rfl),
  ⟨(e_dx DX12_corner_1 7 rfl), rfl⟩, trivial⟩
def lX12_corner (c_X12_numbered : Int → Int → e_M → (Int → e_M → Prop) → Prop) (c_X12_throwsIf : Int → e_M → (Int → e_M → Prop) → Prop) : List (Nat × f_Wt) := [(0, f_wm [(4466, 12, 123), (1, 0, 0), (1, 0, 0)] (fun ar M R => c_X12_numbered (f_vi (f_nth ar 1)) (f_vi (f_nth ar 2)) M (fun r M => R (some (.inl r)) M))), (1, f_wm [(4466, 12, 123), (1, 0, 0)] (fun ar M R => c_X12_throwsIf (f_vi (f_nth ar 1)) M (fun r M => R (some (.inl r)) M)))]
set_option maxRecDepth 20000 in
theorem BX12_corner_38 {sh : Nat → Nat × Nat} {t : Nat} {rm : Nat × Nat × Nat} {cs : Nat × Nat} {R : f_Rt} {c_X12_numbered : Int → Int → e_M → (Int → e_M → Prop) → Prop} {c_X12_throwsIf : Int → e_M → (Int → e_M → Prop) → Prop} {k43 : Int → Int → Int → Int → e_M → Prop} {x2 : Int} {x3 : Int} {x4 : Int} {M : e_M} (C : f_Hy sh t yX12_corner rm cs 16 (lX12_corner c_X12_numbered c_X12_throwsIf) R) (h43 : ∀ (x2 : Int) (x3 : Int) (x4 : Int) (xs1 : Int) (M : e_M), k43 x2 x3 x4 xs1 M → f_E sh t YX12_corner rm cs (f_Q sh t R) 43 [.inr (.inr (.inl (12, 123, 4456))), .inr (.inr (.inr ())), .inl x2, .inl x3, .inl x4] [.inl xs1, .inr (.inr (.inl (12, 123, 4456)))] M) (h : VX12_corner_38 c_X12_numbered c_X12_throwsIf k43 (fun r M => R (some (.inl r)) M) x2 x3 x4 M) : f_E sh t YX12_corner rm cs (f_Q sh t R) 38 [.inr (.inr (.inl (12, 123, 4456))), .inr (.inr (.inr ())), .inl x2, .inl x3, .inl x4] [.inr (.inr (.inl (12, 123, 4456)))] M :=
  f_go (KC := f_kc [(43, f_pl [(4466, 12, 123), (0, 0, 0), (1, 0, 0), (1, 0, 0), (1, 0, 0)] [(1, 0, 0), (4466, 12, 123)] (fun ls st M => k43 (f_vi (f_nth ls 2)) (f_vi (f_nth ls 3)) (f_vi (f_nth ls 4)) (f_vi (f_nth st 0)) M))]) C qX12_cornerf (f_kc_cons (f_pl_ok rfl (fun ls st M h => h43 _ _ _ _ M h)) f_kc_nil) 52 22 h
set_option maxRecDepth 20000 in
theorem BX12_corner_43 {sh : Nat → Nat × Nat} {t : Nat} {rm : Nat × Nat × Nat} {cs : Nat × Nat} {R : f_Rt} {c_X12_numbered : Int → Int → e_M → (Int → e_M → Prop) → Prop} {c_X12_throwsIf : Int → e_M → (Int → e_M → Prop) → Prop} {x2 : Int} {x3 : Int} {x4 : Int} {xs1 : Int} {M : e_M} (C : f_Hy sh t yX12_corner rm cs 16 (lX12_corner c_X12_numbered c_X12_throwsIf) R) (h : VX12_corner_43 c_X12_numbered c_X12_throwsIf (fun r M => R (some (.inl r)) M) x2 x3 x4 xs1 M) : f_E sh t YX12_corner rm cs (f_Q sh t R) 43 [.inr (.inr (.inl (12, 123, 4456))), .inr (.inr (.inr ())), .inl x2, .inl x3, .inl x4] [.inl xs1, .inr (.inr (.inl (12, 123, 4456)))] M :=
  f_go (KC := f_kc []) C qX12_cornerf f_kc_nil 52 26 h
set_option maxRecDepth 20000 in
theorem BX12_corner {sh : Nat → Nat × Nat} {t : Nat} {rm : Nat × Nat × Nat} {cs : Nat × Nat} {R : f_Rt} {c_X12_numbered : Int → Int → e_M → (Int → e_M → Prop) → Prop} {c_X12_throwsIf : Int → e_M → (Int → e_M → Prop) → Prop} {k38 : Int → Int → Int → e_M → Prop} {k43 : Int → Int → Int → Int → e_M → Prop} {x1 : Int} {x2 : Int} {x3 : Int} {M : e_M} (C : f_Hy sh t yX12_corner rm cs 16 (lX12_corner c_X12_numbered c_X12_throwsIf) R) (h38 : ∀ (x2 : Int) (x3 : Int) (x4 : Int) (M : e_M), k38 x2 x3 x4 M → f_E sh t YX12_corner rm cs (f_Q sh t R) 38 [.inr (.inr (.inl (12, 123, 4456))), .inr (.inr (.inr ())), .inl x2, .inl x3, .inl x4] [.inr (.inr (.inl (12, 123, 4456)))] M) (h43 : ∀ (x2 : Int) (x3 : Int) (x4 : Int) (xs1 : Int) (M : e_M), k43 x2 x3 x4 xs1 M → f_E sh t YX12_corner rm cs (f_Q sh t R) 43 [.inr (.inr (.inl (12, 123, 4456))), .inr (.inr (.inr ())), .inl x2, .inl x3, .inl x4] [.inl xs1, .inr (.inr (.inl (12, 123, 4456)))] M) (h : VX12_corner c_X12_numbered c_X12_throwsIf k38 k43 (fun r M => R (some (.inl r)) M) x1 x2 x3 M) : f_E sh t YX12_corner rm cs (f_Q sh t R) 0 [.inr (.inr (.inl (12, 123, 4456))), .inl x1, .inl x2, .inl x3, .inr (.inr (.inr ()))] [] M :=
  f_go (KC := f_kc [(38, f_pl [(4466, 12, 123), (0, 0, 0), (1, 0, 0), (1, 0, 0), (1, 0, 0)] [(4466, 12, 123)] (fun ls st M => k38 (f_vi (f_nth ls 2)) (f_vi (f_nth ls 3)) (f_vi (f_nth ls 4)) M)), (43, f_pl [(4466, 12, 123), (0, 0, 0), (1, 0, 0), (1, 0, 0), (1, 0, 0)] [(1, 0, 0), (4466, 12, 123)] (fun ls st M => k43 (f_vi (f_nth ls 2)) (f_vi (f_nth ls 3)) (f_vi (f_nth ls 4)) (f_vi (f_nth st 0)) M))]) C qX12_cornerf (f_kc_cons (f_pl_ok rfl (fun ls st M h => h38 _ _ _ M h)) (f_kc_cons (f_pl_ok rfl (fun ls st M h => h43 _ _ _ _ M h)) f_kc_nil)) 52 0 h
def WX12_corner_43 (Q : Int → e_M → Prop) (x2 : Int) (x3 : Int) (x4 : Int) (xs1 : Int) (M : e_M) : Prop :=
  VX12_corner_43 WX12_numbered WX12_throwsIf Q x2 x3 x4 xs1 M
def WX12_corner_38 (Q : Int → e_M → Prop) (x2 : Int) (x3 : Int) (x4 : Int) (M : e_M) : Prop :=
  VX12_corner_38 WX12_numbered WX12_throwsIf (WX12_corner_43 Q) Q x2 x3 x4 M
def WX12_corner (x1 : Int) (x2 : Int) (x3 : Int) (M : e_M) (Q : Int → e_M → Prop) : Prop :=
  VX12_corner WX12_numbered WX12_throwsIf (WX12_corner_38 Q) (WX12_corner_43 Q) Q x1 x2 x3 M
theorem PX12_corner_43 {sh : Nat → Nat × Nat} {t : Nat} {rm : Nat × Nat × Nat} {cs : Nat × Nat} {R : f_Rt} {x2 : Int} {x3 : Int} {x4 : Int} {xs1 : Int} {M : e_M} (C : f_Hy sh t yX12_corner rm cs 16 (lX12_corner WX12_numbered WX12_throwsIf) R) (h : WX12_corner_43 (fun r M => R (some (.inl r)) M) x2 x3 x4 xs1 M) : f_E sh t YX12_corner rm cs (f_Q sh t R) 43 [.inr (.inr (.inl (12, 123, 4456))), .inr (.inr (.inr ())), .inl x2, .inl x3, .inl x4] [.inl xs1, .inr (.inr (.inl (12, 123, 4456)))] M :=
  BX12_corner_43 C h
theorem PX12_corner_38 {sh : Nat → Nat × Nat} {t : Nat} {rm : Nat × Nat × Nat} {cs : Nat × Nat} {R : f_Rt} {x2 : Int} {x3 : Int} {x4 : Int} {M : e_M} (C : f_Hy sh t yX12_corner rm cs 16 (lX12_corner WX12_numbered WX12_throwsIf) R) (h : WX12_corner_38 (fun r M => R (some (.inl r)) M) x2 x3 x4 M) : f_E sh t YX12_corner rm cs (f_Q sh t R) 38 [.inr (.inr (.inl (12, 123, 4456))), .inr (.inr (.inr ())), .inl x2, .inl x3, .inl x4] [.inr (.inr (.inl (12, 123, 4456)))] M :=
  BX12_corner_38 C (fun x2 x3 x4 xs1 M h => PX12_corner_43 C h) h
theorem PX12_corner {sh : Nat → Nat × Nat} {t : Nat} {rm : Nat × Nat × Nat} {cs : Nat × Nat} {R : f_Rt} {x1 : Int} {x2 : Int} {x3 : Int} {M : e_M} (C : f_Hy sh t yX12_corner rm cs 16 (lX12_corner WX12_numbered WX12_throwsIf) R) (h : WX12_corner x1 x2 x3 M (fun r M => R (some (.inl r)) M)) : f_E sh t YX12_corner rm cs (f_Q sh t R) 0 [.inr (.inr (.inl (12, 123, 4456))), .inl x1, .inl x2, .inl x3, .inr (.inr (.inr ()))] [] M :=
  BX12_corner C (fun x2 x3 x4 M h => PX12_corner_38 C h) (fun x2 x3 x4 xs1 M h => PX12_corner_43 C h) h
def wX12_corner : f_Wt := f_wm [(4466, 12, 123), (1, 0, 0), (1, 0, 0), (1, 0, 0)] (fun ar M R => WX12_corner (f_vi (f_nth ar 1)) (f_vi (f_nth ar 2)) (f_vi (f_nth ar 3)) M (fun r M => R (some (.inl r)) M))
theorem TX12_corner {sh : Nat → Nat × Nat} {t : Nat} : f_Mt sh t YX12_corner 16 (wX12_corner) :=
  f_Mt_of (k := 1) (Nat.le_of_ble_eq_true rfl) rfl rfl (fun ar M R rm cs h1 h2 h3 hX h => PX12_corner ⟨Nat.le_of_ble_eq_true rfl, h1, h2, h3, ⟨(f_Mt.up (Nat.le_of_ble_eq_true rfl) TX12_numbered), (f_Mt.up (Nat.le_of_ble_eq_true rfl) TX12_throwsIf), trivial⟩, hX⟩ h)
def VX12_amongHere_4 (c_X12_isHere : Int → Int → e_M → (Int → Prop) → Prop) (k24 : Int → Int → Int → Int → Prop) (Q : Int → Prop) (x1 : Int) (x2 : Int) (x3 : Int) (M : e_M) : Prop :=
  ((x1 ≤ x3 → (Q x2)) ∧ (x3 < x1 → (c_X12_isHere 1 x3 M (fun r1 => ((r1 = 0 → (k24 x1 x3 0 x2)) ∧ (¬ r1 = 0 → (k24 x1 x3 1 x2)))))))
def VX12_amongHere_24 (c_X12_isHere : Int → Int → e_M → (Int → Prop) → Prop) (k4 : Int → Int → Int → Prop) (Q : Int → Prop) (x1 : Int) (x3 : Int) (xs1 : Int) (xs0 : Int) (M : e_M) : Prop :=
  (k4 x1 (e_w32 (xs0 + xs1)) (e_w32 (x3 + 1)))
def VX12_amongHere (c_X12_isHere : Int → Int → e_M → (Int → Prop) → Prop) (k4 : Int → Int → Int → Prop) (Q : Int → Prop) (x1 : Int) (M : e_M) : Prop :=
  (k4 x1 0 0)
def yX12_amongHere (i : Nat) : e_Y := x_get YX12_amongHere [YX12_isHere] i
def pX12_amongHeref : List x_I := [(0, 0, 1, 0, 0, 0, []), (1, 5, 1, 2, 0, 0, []), (2, 0, 1, 0, 0, 0, []), (3, 5, 1, 3, 0, 0, []), (4, 49, 0, 0, 0, 0, []), (4, 2, 1, 3, 0, 0, []), (5, 2, 1, 1, 0, 0, []), (6, 18, 32, 3, 23, 0, []), (9, 2, 1, 2, 0, 0, []), (10, 4, 1, 0, 0, 0, []), (11, 0, 1, 0, 0, 1, []), (12, 2, 1, 3, 0, 0, []), (13, 40, 0, 3, 14, 0, []), (16, 17, 23, 0, 17, 0, []), (19, 0, 1, 0, 0, 1, []), (20, 19, 24, 0, 18, 0, []), (23, 0, 1, 0, 0, 0, []), (24, 49, 0, 0, 0, 0, []), (24, 9, 0, 0, 0, 0, []), (25, 5, 1, 2, 0, 0, []), (26, 8, 0, 3, 0, 1, []), (29, 19, 4, 0, 5, 0, []), (32, 2, 1, 2, 0, 0, []), (33, 41, 0, 0, 0, 0, [])]
set_option maxRecDepth 20000 in
theorem qX12_amongHeref : f_all yX12_amongHere YX12_amongHere pX12_amongHeref :=
  ⟨f_iconst (e_dx DX12_amongHere_0 0 rfl) ⟨by decide, by decide⟩,
  f_istore_n (n := 2) (e_dx DX12_amongHere_0 1 rfl) rfl (by decide),
  f_iconst (e_dx DX12_amongHere_0 2 rfl) ⟨by decide, by decide⟩,
  f_istore_n (n := 3) (e_dx DX12_amongHere_0 3 rfl) rfl (by decide),
  trivial,
  f_iload_n (n := 3) (e_dx DX12_amongHere_0 4 rfl) rfl,
  f_iload_n (n := 1) (e_dx DX12_amongHere_0 5 rfl) rfl,
  f_icmp_ge (e_dx DX12_amongHere_0 6 rfl) rfl,
  f_iload_n (n := 2) (e_dx DX12_amongHere_0 7 rfl) rfl,
  f_aload_n (n := 0) (e_dx DX12_amongHere_0 8 rfl) rfl,
  f_iconst (e_dx DX12_amongHere_0 9 rfl) ⟨by decide, by decide⟩,
  f_iload_n (n := 3) (e_dx DX12_amongHere_0 10 rfl) rfl,
  x_callV (e_dx DX12_amongHere_0 11 rfl) mwX12_isHere vwX12_isHere cX12_875 rfl,
  f_if_eq (e_dx DX12_amongHere_0 12 rfl) rfl,
  f_iconst (e_dx DX12_amongHere_0 13 rfl) ⟨by decide, by decide⟩,
  f_g19 (e_dx DX12_amongHere_0 14 rfl) rfl,
  f_iconst (e_dx DX12_amongHere_0 15 rfl) ⟨by decide, by decide⟩,
  trivial,
  f_iadd (e_dx DX12_amongHere_0 16 rfl),
  f_istore_n (n := 2) (e_dx DX12_amongHere_0 17 rfl) rfl (by decide),
  f_g8 (e_dx DX12_amongHere_0 18 rfl) ⟨by decide, by decide⟩,
  f_g19 (e_dx DX12_amongHere_0 19 rfl) rfl,
  f_iload_n (n := 2) (e_dx DX12_amongHere_0 20 rfl) rfl,
  ⟨(e_dx DX12_amongHere_0 21 rfl), rfl⟩, trivial⟩
def lX12_amongHere (c_X12_isHere : Int → Int → e_M → (Int → Prop) → Prop) : List (Nat × f_Wt) := [(0, f_wm [(4466, 12, 123), (1, 0, 0), (1, 0, 0)] (fun ar M R => c_X12_isHere (f_vi (f_nth ar 1)) (f_vi (f_nth ar 2)) M (fun r => R (some (.inl r)) M)))]
set_option maxRecDepth 20000 in
theorem BX12_amongHere_4 {sh : Nat → Nat × Nat} {t : Nat} {rm : Nat × Nat × Nat} {cs : Nat × Nat} {R : f_Rt} {c_X12_isHere : Int → Int → e_M → (Int → Prop) → Prop} {k24 : Int → Int → Int → Int → Prop} {x1 : Int} {x2 : Int} {x3 : Int} {M : e_M} (C : f_Hy sh t yX12_amongHere rm cs 7 (lX12_amongHere c_X12_isHere) R) (h24 : ∀ (x1 : Int) (x3 : Int) (xs1 : Int) (xs0 : Int), k24 x1 x3 xs1 xs0 → f_E sh t YX12_amongHere rm cs (f_Q sh t R) 24 [.inr (.inr (.inl (12, 123, 4456))), .inl x1, .inr (.inr (.inr ())), .inl x3] [.inl xs1, .inl xs0] M) (h : VX12_amongHere_4 c_X12_isHere k24 (fun r => R (some (.inl r)) M) x1 x2 x3 M) : f_E sh t YX12_amongHere rm cs (f_Q sh t R) 4 [.inr (.inr (.inl (12, 123, 4456))), .inl x1, .inl x2, .inl x3] [] M := by
  rw [f_kk4 M k24] at h
  exact f_go (KC := f_kc [(24, f_pl [(4466, 12, 123), (1, 0, 0), (0, 0, 0), (1, 0, 0)] [(1, 0, 0), (1, 0, 0)] (fun ls st M2 => M2 = M ∧ (k24 (f_vi (f_nth ls 1)) (f_vi (f_nth ls 3)) (f_vi (f_nth st 0)) (f_vi (f_nth st 1)))))]) C qX12_amongHeref (f_kc_cons (f_pl_ok rfl (fun ls st M2 ⟨e, hh⟩ => by subst e; exact h24 _ _ _ _ hh)) f_kc_nil) 26 5 h
set_option maxRecDepth 20000 in
theorem BX12_amongHere_24 {sh : Nat → Nat × Nat} {t : Nat} {rm : Nat × Nat × Nat} {cs : Nat × Nat} {R : f_Rt} {c_X12_isHere : Int → Int → e_M → (Int → Prop) → Prop} {k4 : Int → Int → Int → Prop} {x1 : Int} {x3 : Int} {xs1 : Int} {xs0 : Int} {M : e_M} (C : f_Hy sh t yX12_amongHere rm cs 7 (lX12_amongHere c_X12_isHere) R) (h4 : ∀ (x1 : Int) (x2 : Int) (x3 : Int), k4 x1 x2 x3 → f_E sh t YX12_amongHere rm cs (f_Q sh t R) 4 [.inr (.inr (.inl (12, 123, 4456))), .inl x1, .inl x2, .inl x3] [] M) (h : VX12_amongHere_24 c_X12_isHere k4 (fun r => R (some (.inl r)) M) x1 x3 xs1 xs0 M) : f_E sh t YX12_amongHere rm cs (f_Q sh t R) 24 [.inr (.inr (.inl (12, 123, 4456))), .inl x1, .inr (.inr (.inr ())), .inl x3] [.inl xs1, .inl xs0] M := by
  rw [f_kk3 M k4] at h
  exact f_go (KC := f_kc [(4, f_pl [(4466, 12, 123), (1, 0, 0), (1, 0, 0), (1, 0, 0)] [] (fun ls st M2 => M2 = M ∧ (k4 (f_vi (f_nth ls 1)) (f_vi (f_nth ls 2)) (f_vi (f_nth ls 3)))))]) C qX12_amongHeref (f_kc_cons (f_pl_ok rfl (fun ls st M2 ⟨e, hh⟩ => by subst e; exact h4 _ _ _ hh)) f_kc_nil) 26 18 h
set_option maxRecDepth 20000 in
theorem BX12_amongHere {sh : Nat → Nat × Nat} {t : Nat} {rm : Nat × Nat × Nat} {cs : Nat × Nat} {R : f_Rt} {c_X12_isHere : Int → Int → e_M → (Int → Prop) → Prop} {k4 : Int → Int → Int → Prop} {x1 : Int} {M : e_M} (C : f_Hy sh t yX12_amongHere rm cs 7 (lX12_amongHere c_X12_isHere) R) (h4 : ∀ (x1 : Int) (x2 : Int) (x3 : Int), k4 x1 x2 x3 → f_E sh t YX12_amongHere rm cs (f_Q sh t R) 4 [.inr (.inr (.inl (12, 123, 4456))), .inl x1, .inl x2, .inl x3] [] M) (h : VX12_amongHere c_X12_isHere k4 (fun r => R (some (.inl r)) M) x1 M) : f_E sh t YX12_amongHere rm cs (f_Q sh t R) 0 [.inr (.inr (.inl (12, 123, 4456))), .inl x1, .inr (.inr (.inr ())), .inr (.inr (.inr ()))] [] M := by
  rw [f_kk3 M k4] at h
  exact f_go (KC := f_kc [(4, f_pl [(4466, 12, 123), (1, 0, 0), (1, 0, 0), (1, 0, 0)] [] (fun ls st M2 => M2 = M ∧ (k4 (f_vi (f_nth ls 1)) (f_vi (f_nth ls 2)) (f_vi (f_nth ls 3)))))]) C qX12_amongHeref (f_kc_cons (f_pl_ok rfl (fun ls st M2 ⟨e, hh⟩ => by subst e; exact h4 _ _ _ hh)) f_kc_nil) 26 0 h
def WX12_amongHere_24 (M : e_M) (H4 : Int → Int → Int → Prop) (Q : Int → Prop) (x1 : Int) (x3 : Int) (xs1 : Int) (xs0 : Int) : Prop :=
  VX12_amongHere_24 WX12_isHere H4 Q x1 x3 xs1 xs0 M
def WX12_amongHere_4 (M : e_M) (Q : Int → Prop) : Nat → Int → Int → Int → Prop
  | 0, _, _, _ => False
  | n + 1, x1, x2, x3 =>
    VX12_amongHere_4 WX12_isHere (WX12_amongHere_24 M (WX12_amongHere_4 M Q n) Q) Q x1 x2 x3 M
def WX12_amongHere (x1 : Int) (M : e_M) (Q : Int → Prop) : Prop :=
  VX12_amongHere WX12_isHere (fun x1 x2 x3 => ∃ j, WX12_amongHere_4 M Q j x1 x2 x3) Q x1 M
theorem PX12_amongHere_24 {sh : Nat → Nat × Nat} {t : Nat} {rm : Nat × Nat × Nat} {cs : Nat × Nat} {R : f_Rt} {H4 : Int → Int → Int → Prop} {x1 : Int} {x3 : Int} {xs1 : Int} {xs0 : Int} {M : e_M} (C : f_Hy sh t yX12_amongHere rm cs 7 (lX12_amongHere WX12_isHere) R) (g4 : ∀ (x1 : Int) (x2 : Int) (x3 : Int), H4 x1 x2 x3 → f_E sh t YX12_amongHere rm cs (f_Q sh t R) 4 [.inr (.inr (.inl (12, 123, 4456))), .inl x1, .inl x2, .inl x3] [] M) (h : WX12_amongHere_24 M H4 (fun r => R (some (.inl r)) M) x1 x3 xs1 xs0) : f_E sh t YX12_amongHere rm cs (f_Q sh t R) 24 [.inr (.inr (.inl (12, 123, 4456))), .inl x1, .inr (.inr (.inr ())), .inl x3] [.inl xs1, .inl xs0] M :=
  BX12_amongHere_24 C g4 h
theorem PX12_amongHere_4 {sh : Nat → Nat × Nat} {t : Nat} {rm : Nat × Nat × Nat} {cs : Nat × Nat} {R : f_Rt} {M : e_M} (C : f_Hy sh t yX12_amongHere rm cs 7 (lX12_amongHere WX12_isHere) R) : ∀ (n : Nat) (x1 : Int) (x2 : Int) (x3 : Int), WX12_amongHere_4 M (fun r => R (some (.inl r)) M) n x1 x2 x3 → f_E sh t YX12_amongHere rm cs (f_Q sh t R) 4 [.inr (.inr (.inl (12, 123, 4456))), .inl x1, .inl x2, .inl x3] [] M := by
  intro n
  induction n with
  | zero => intro x1 x2 x3 h; exact h.elim
  | succ n ih => intro x1 x2 x3 h; exact BX12_amongHere_4 C (fun x1 x3 xs1 xs0 h => PX12_amongHere_24 C ih h) h
theorem PX12_amongHere {sh : Nat → Nat × Nat} {t : Nat} {rm : Nat × Nat × Nat} {cs : Nat × Nat} {R : f_Rt} {x1 : Int} {M : e_M} (C : f_Hy sh t yX12_amongHere rm cs 7 (lX12_amongHere WX12_isHere) R) (h : WX12_amongHere x1 M (fun r => R (some (.inl r)) M)) : f_E sh t YX12_amongHere rm cs (f_Q sh t R) 0 [.inr (.inr (.inl (12, 123, 4456))), .inl x1, .inr (.inr (.inr ())), .inr (.inr (.inr ()))] [] M :=
  BX12_amongHere C (fun x1 x2 x3 ⟨j, h⟩ => PX12_amongHere_4 C j _ _ _ h) h
def wX12_amongHere : f_Wt := f_wm [(4466, 12, 123), (1, 0, 0)] (fun ar M R => WX12_amongHere (f_vi (f_nth ar 1)) M (fun r => R (some (.inl r)) M))
theorem TX12_amongHere {sh : Nat → Nat × Nat} {t : Nat} : f_Mt sh t YX12_amongHere 7 (wX12_amongHere) :=
  f_Mt_of (k := 2) (Nat.le_of_ble_eq_true rfl) rfl rfl (fun ar M R rm cs h1 h2 h3 hX h => PX12_amongHere ⟨Nat.le_of_ble_eq_true rfl, h1, h2, h3, ⟨(f_Mt.up (Nat.le_of_ble_eq_true rfl) TX12_isHere), trivial⟩, hX⟩ h)
def VX12_owner_38 (c_X12_numbered : Int → Int → e_M → (Int → e_M → Prop) → Prop) (c_X12_throwsIf : Int → e_M → (Int → e_M → Prop) → Prop) (c_X12_amongHere : Int → e_M → (Int → Prop) → Prop) (k43 : Int → Int → Int → Int → e_M → Prop) (Q : Int → e_M → Prop) (x2 : Int) (x3 : Int) (x4 : Int) (M : e_M) : Prop :=
  (k43 x2 x3 x4 1 M)
def VX12_owner_43 (c_X12_numbered : Int → Int → e_M → (Int → e_M → Prop) → Prop) (c_X12_throwsIf : Int → e_M → (Int → e_M → Prop) → Prop) (c_X12_amongHere : Int → e_M → (Int → Prop) → Prop) (k106 : Int → e_M → Prop) (Q : Int → e_M → Prop) (x2 : Int) (x3 : Int) (x4 : Int) (xs1 : Int) (M : e_M) : Prop :=
  (c_X12_throwsIf xs1 M (fun r1 M2 => ((r1 = 0 → ((¬ x3 = 0 → ((¬ x3 = 1 → ((0 ≤ (e_w32 ((e_w32 ((8 : Int) * x4)) + x2)) ∧ (e_w32 ((e_w32 ((8 : Int) * x4)) + x2)) < 640) ∧ (k106 (M2 4502 ((e_w32 ((e_w32 ((8 : Int) * x4)) + x2)).toNat)) M2))) ∧ (x3 = 1 → ((0 ≤ (e_w32 ((e_w32 ((8 : Int) * x4)) + x2)) ∧ (e_w32 ((e_w32 ((8 : Int) * x4)) + x2)) < 640) ∧ (k106 (M2 4501 ((e_w32 ((e_w32 ((8 : Int) * x4)) + x2)).toNat)) M2))))) ∧ (x3 = 0 → ((0 ≤ (e_w32 ((e_w32 ((8 : Int) * x4)) + x2)) ∧ (e_w32 ((e_w32 ((8 : Int) * x4)) + x2)) < 640) ∧ (c_X12_amongHere (M2 4498 ((e_w32 ((e_w32 ((8 : Int) * x4)) + x2)).toNat)) M2 (fun r3 => (Q r3 M2))))))) ∧ (¬ r1 = 0 → (Q 0 M2)))))
def VX12_owner_106 (c_X12_numbered : Int → Int → e_M → (Int → e_M → Prop) → Prop) (c_X12_throwsIf : Int → e_M → (Int → e_M → Prop) → Prop) (c_X12_amongHere : Int → e_M → (Int → Prop) → Prop) (Q : Int → e_M → Prop) (xs0 : Int) (M : e_M) : Prop :=
  (Q (e_w32 xs0) M)
def VX12_owner (c_X12_numbered : Int → Int → e_M → (Int → e_M → Prop) → Prop) (c_X12_throwsIf : Int → e_M → (Int → e_M → Prop) → Prop) (c_X12_amongHere : Int → e_M → (Int → Prop) → Prop) (k38 : Int → Int → Int → e_M → Prop) (k43 : Int → Int → Int → Int → e_M → Prop) (Q : Int → e_M → Prop) (x1 : Int) (x2 : Int) (x3 : Int) (M : e_M) : Prop :=
  (c_X12_numbered 0 x1 M (fun r1 M2 => ((r1 < 0 → (k38 x2 x3 r1 M2)) ∧ (0 ≤ r1 → ((x2 < 0 → (k38 x2 x3 r1 M2)) ∧ (0 ≤ x2 → ((0 ≤ r1 ∧ r1 < 80) ∧ (((M2 4497 (r1.toNat)) ≤ x2 → (k38 x2 x3 r1 M2)) ∧ (x2 < (M2 4497 (r1.toNat)) → ((x3 < 0 → (k38 x2 x3 r1 M2)) ∧ (0 ≤ x3 → ((x3 ≤ 2 → (k43 x2 x3 r1 0 M2)) ∧ (2 < x3 → (k38 x2 x3 r1 M2))))))))))))))
def yX12_owner (i : Nat) : e_Y := x_get YX12_owner [YX12_numbered, YX12_throwsIf, YX12_amongHere] i
def pX12_ownerf : List x_I := [(0, 4, 1, 0, 0, 0, []), (1, 0, 1, 0, 0, 0, []), (2, 2, 1, 1, 0, 0, []), (3, 40, 0, 3, 14, 0, []), (6, 5, 2, 4, 0, 0, []), (8, 4, 1, 0, 0, 0, []), (9, 2, 2, 4, 0, 0, []), (11, 17, 38, 2, 22, 0, []), (14, 2, 1, 2, 0, 0, []), (15, 17, 38, 2, 22, 0, []), (18, 2, 1, 2, 0, 0, []), (19, 4, 1, 0, 0, 0, []), (20, 25, 12, 64, 4, 0, [(0, 20, 80), (0, 1, 41)]), (23, 2, 2, 4, 0, 0, []), (25, 27, 0, 0, 0, 0, []), (26, 18, 38, 3, 22, 0, []), (29, 2, 1, 3, 0, 0, []), (30, 17, 38, 2, 22, 0, []), (33, 2, 1, 3, 0, 0, []), (34, 0, 1, 0, 0, 2, []), (35, 18, 42, 5, 25, 0, []), (38, 49, 0, 0, 0, 0, []), (38, 0, 1, 0, 0, 1, []), (39, 19, 43, 0, 26, 0, []), (42, 0, 1, 0, 0, 0, []), (43, 49, 0, 0, 0, 0, []), (43, 40, 1, 2, 14, 0, []), (46, 17, 51, 0, 31, 0, []), (49, 0, 1, 0, 0, 0, []), (50, 41, 0, 0, 0, 0, []), (51, 2, 1, 3, 0, 0, []), (52, 17, 74, 1, 44, 0, []), (55, 4, 1, 0, 0, 0, []), (56, 4, 1, 0, 0, 0, []), (57, 25, 12, 65, 4, 0, [(0, 20, 640), (0, 1, 42)]), (60, 0, 2, 0, 0, 8, []), (62, 2, 2, 4, 0, 0, []), (64, 9, 0, 2, 0, 0, []), (65, 2, 1, 2, 0, 0, []), (66, 9, 0, 0, 0, 0, []), (67, 27, 0, 0, 0, 0, []), (68, 40, 2, 2, 14, 0, []), (71, 19, 107, 0, 66, 0, []), (74, 2, 1, 3, 0, 0, []), (75, 0, 1, 0, 0, 1, []), (76, 18, 94, 1, 56, 0, []), (79, 4, 1, 0, 0, 0, []), (80, 25, 12, 68, 4, 0, [(0, 23, 640), (0, 1, 45)]), (83, 0, 2, 0, 0, 8, []), (85, 2, 2, 4, 0, 0, []), (87, 9, 0, 2, 0, 0, []), (88, 2, 1, 2, 0, 0, []), (89, 9, 0, 0, 0, 0, []), (90, 27, 0, 1, 0, 0, []), (91, 19, 106, 0, 64, 0, []), (94, 4, 1, 0, 0, 0, []), (95, 25, 12, 69, 4, 0, [(0, 23, 640), (0, 1, 46)]), (98, 0, 2, 0, 0, 8, []), (100, 2, 2, 4, 0, 0, []), (102, 9, 0, 2, 0, 0, []), (103, 2, 1, 2, 0, 0, []), (104, 9, 0, 0, 0, 0, []), (105, 27, 0, 1, 0, 0, []), (106, 49, 0, 0, 0, 0, []), (106, 15, 0, 0, 0, 0, []), (107, 41, 0, 0, 0, 0, [])]
set_option maxRecDepth 20000 in
theorem qX12_ownerf : f_all yX12_owner YX12_owner pX12_ownerf :=
  ⟨f_aload_n (n := 0) (e_dx DX12_owner_0 0 rfl) rfl,
  f_iconst (e_dx DX12_owner_0 1 rfl) ⟨by decide, by decide⟩,
  f_iload_n (n := 1) (e_dx DX12_owner_0 2 rfl) rfl,
  x_callV (e_dx DX12_owner_0 3 rfl) mwX12_numbered vwX12_numbered cX12_981 rfl,
  f_istore (e_dx DX12_owner_0 4 rfl) (by decide),
  f_aload_n (n := 0) (e_dx DX12_owner_0 5 rfl) rfl,
  f_iload (e_dx DX12_owner_0 6 rfl),
  f_if_lt (e_dx DX12_owner_0 7 rfl) rfl,
  f_iload_n (n := 2) (e_dx DX12_owner_0 8 rfl) rfl,
  f_if_lt (e_dx DX12_owner_0 9 rfl) rfl,
  f_iload_n (n := 2) (e_dx DX12_owner_0 10 rfl) rfl,
  f_aload_n (n := 0) (e_dx DX12_owner_0 11 rfl) rfl,
  f_getA (e_dx DX12_owner_0 12 rfl) fX12_133 rfl (by decide) (Nat.le_of_ble_eq_true rfl) rfl (by decide),
  f_iload (e_dx DX12_owner_0 13 rfl),
  f_iaload (e_dx DX12_owner_0 14 rfl),
  f_icmp_ge (e_dx DX12_owner_0 15 rfl) rfl,
  f_iload_n (n := 3) (e_dx DX12_owner_0 16 rfl) rfl,
  f_if_lt (e_dx DX12_owner_0 17 rfl) rfl,
  f_iload_n (n := 3) (e_dx DX12_owner_0 18 rfl) rfl,
  f_iconst (e_dx DX12_owner_0 19 rfl) ⟨by decide, by decide⟩,
  f_icmp_le (e_dx DX12_owner_0 20 rfl) rfl,
  trivial,
  f_iconst (e_dx DX12_owner_0 21 rfl) ⟨by decide, by decide⟩,
  f_g19 (e_dx DX12_owner_0 22 rfl) rfl,
  f_iconst (e_dx DX12_owner_0 23 rfl) ⟨by decide, by decide⟩,
  trivial,
  x_callV (e_dx DX12_owner_0 24 rfl) mwX12_throwsIf vwX12_throwsIf cX12_974 rfl,
  f_if_eq (e_dx DX12_owner_0 25 rfl) rfl,
  f_iconst (e_dx DX12_owner_0 26 rfl) ⟨by decide, by decide⟩,
  ⟨(e_dx DX12_owner_0 27 rfl), rfl⟩,
  f_iload_n (n := 3) (e_dx DX12_owner_0 28 rfl) rfl,
  f_if_ne (e_dx DX12_owner_0 29 rfl) rfl,
  f_aload_n (n := 0) (e_dx DX12_owner_0 30 rfl) rfl,
  f_aload_n (n := 0) (e_dx DX12_owner_0 31 rfl) rfl,
  f_getA (e_dx DX12_owner_0 32 rfl) fX12_136 rfl (by decide) (Nat.le_of_ble_eq_true rfl) rfl (by decide),
  f_bipush (e_dx DX12_owner_0 33 rfl) ⟨by decide, by decide⟩,
  f_iload (e_dx DX12_owner_0 34 rfl),
  f_imul (e_dx DX12_owner_0 35 rfl),
  f_iload_n (n := 2) (e_dx DX12_owner_0 36 rfl) rfl,
  f_iadd (e_dx DX12_owner_0 37 rfl),
  f_iaload (e_dx DX12_owner_0 38 rfl),
  x_callV (e_dx DX12_owner_0 39 rfl) mwX12_amongHere vwX12_amongHere cX12_987 rfl,
  f_g19 (e_dx DX12_owner_1 0 rfl) rfl,
  f_iload_n (n := 3) (e_dx DX12_owner_1 1 rfl) rfl,
  f_iconst (e_dx DX12_owner_1 2 rfl) ⟨by decide, by decide⟩,
  f_icmp_ne (e_dx DX12_owner_1 3 rfl) rfl,
  f_aload_n (n := 0) (e_dx DX12_owner_1 4 rfl) rfl,
  f_getA (e_dx DX12_owner_1 5 rfl) fX12_145 rfl (by decide) (Nat.le_of_ble_eq_true rfl) rfl (by decide),
  f_bipush (e_dx DX12_owner_1 6 rfl) ⟨by decide, by decide⟩,
  f_iload (e_dx DX12_owner_1 7 rfl),
  f_imul (e_dx DX12_owner_1 8 rfl),
  f_iload_n (n := 2) (e_dx DX12_owner_1 9 rfl) rfl,
  f_iadd (e_dx DX12_owner_1 10 rfl),
  f_laload (e_dx DX12_owner_1 11 rfl),
  f_g19 (e_dx DX12_owner_1 12 rfl) rfl,
  f_aload_n (n := 0) (e_dx DX12_owner_1 13 rfl) rfl,
  f_getA (e_dx DX12_owner_1 14 rfl) fX12_148 rfl (by decide) (Nat.le_of_ble_eq_true rfl) rfl (by decide),
  f_bipush (e_dx DX12_owner_1 15 rfl) ⟨by decide, by decide⟩,
  f_iload (e_dx DX12_owner_1 16 rfl),
  f_imul (e_dx DX12_owner_1 17 rfl),
  f_iload_n (n := 2) (e_dx DX12_owner_1 18 rfl) rfl,
  f_iadd (e_dx DX12_owner_1 19 rfl),
  f_laload (e_dx DX12_owner_1 20 rfl),
  trivial,
  f_g15 (e_dx DX12_owner_1 21 rfl),
  ⟨(e_dx DX12_owner_1 22 rfl), rfl⟩, trivial⟩
def lX12_owner (c_X12_numbered : Int → Int → e_M → (Int → e_M → Prop) → Prop) (c_X12_throwsIf : Int → e_M → (Int → e_M → Prop) → Prop) (c_X12_amongHere : Int → e_M → (Int → Prop) → Prop) : List (Nat × f_Wt) := [(0, f_wm [(4466, 12, 123), (1, 0, 0), (1, 0, 0)] (fun ar M R => c_X12_numbered (f_vi (f_nth ar 1)) (f_vi (f_nth ar 2)) M (fun r M => R (some (.inl r)) M))), (1, f_wm [(4466, 12, 123), (1, 0, 0)] (fun ar M R => c_X12_throwsIf (f_vi (f_nth ar 1)) M (fun r M => R (some (.inl r)) M))), (2, f_wm [(4466, 12, 123), (1, 0, 0)] (fun ar M R => c_X12_amongHere (f_vi (f_nth ar 1)) M (fun r => R (some (.inl r)) M)))]
set_option maxRecDepth 20000 in
theorem BX12_owner_38 {sh : Nat → Nat × Nat} {t : Nat} {rm : Nat × Nat × Nat} {cs : Nat × Nat} {R : f_Rt} {c_X12_numbered : Int → Int → e_M → (Int → e_M → Prop) → Prop} {c_X12_throwsIf : Int → e_M → (Int → e_M → Prop) → Prop} {c_X12_amongHere : Int → e_M → (Int → Prop) → Prop} {k43 : Int → Int → Int → Int → e_M → Prop} {x2 : Int} {x3 : Int} {x4 : Int} {M : e_M} (C : f_Hy sh t yX12_owner rm cs 16 (lX12_owner c_X12_numbered c_X12_throwsIf c_X12_amongHere) R) (h43 : ∀ (x2 : Int) (x3 : Int) (x4 : Int) (xs1 : Int) (M : e_M), k43 x2 x3 x4 xs1 M → f_E sh t YX12_owner rm cs (f_Q sh t R) 43 [.inr (.inr (.inl (12, 123, 4456))), .inr (.inr (.inr ())), .inl x2, .inl x3, .inl x4] [.inl xs1, .inr (.inr (.inl (12, 123, 4456)))] M) (h : VX12_owner_38 c_X12_numbered c_X12_throwsIf c_X12_amongHere k43 (fun r M => R (some (.inl r)) M) x2 x3 x4 M) : f_E sh t YX12_owner rm cs (f_Q sh t R) 38 [.inr (.inr (.inl (12, 123, 4456))), .inr (.inr (.inr ())), .inl x2, .inl x3, .inl x4] [.inr (.inr (.inl (12, 123, 4456)))] M :=
  f_go (KC := f_kc [(43, f_pl [(4466, 12, 123), (0, 0, 0), (1, 0, 0), (1, 0, 0), (1, 0, 0)] [(1, 0, 0), (4466, 12, 123)] (fun ls st M => k43 (f_vi (f_nth ls 2)) (f_vi (f_nth ls 3)) (f_vi (f_nth ls 4)) (f_vi (f_nth st 0)) M))]) C qX12_ownerf (f_kc_cons (f_pl_ok rfl (fun ls st M h => h43 _ _ _ _ M h)) f_kc_nil) 68 22 h
set_option maxRecDepth 20000 in
theorem BX12_owner_43 {sh : Nat → Nat × Nat} {t : Nat} {rm : Nat × Nat × Nat} {cs : Nat × Nat} {R : f_Rt} {c_X12_numbered : Int → Int → e_M → (Int → e_M → Prop) → Prop} {c_X12_throwsIf : Int → e_M → (Int → e_M → Prop) → Prop} {c_X12_amongHere : Int → e_M → (Int → Prop) → Prop} {k106 : Int → e_M → Prop} {x2 : Int} {x3 : Int} {x4 : Int} {xs1 : Int} {M : e_M} (C : f_Hy sh t yX12_owner rm cs 16 (lX12_owner c_X12_numbered c_X12_throwsIf c_X12_amongHere) R) (h106 : ∀ (xs0 : Int) (M : e_M), k106 xs0 M → f_E sh t YX12_owner rm cs (f_Q sh t R) 106 [.inr (.inr (.inr ())), .inr (.inr (.inr ())), .inr (.inr (.inr ())), .inr (.inr (.inr ())), .inr (.inr (.inr ()))] [.inr (.inl xs0)] M) (h : VX12_owner_43 c_X12_numbered c_X12_throwsIf c_X12_amongHere k106 (fun r M => R (some (.inl r)) M) x2 x3 x4 xs1 M) : f_E sh t YX12_owner rm cs (f_Q sh t R) 43 [.inr (.inr (.inl (12, 123, 4456))), .inr (.inr (.inr ())), .inl x2, .inl x3, .inl x4] [.inl xs1, .inr (.inr (.inl (12, 123, 4456)))] M :=
  f_go (KC := f_kc [(106, f_pl [(0, 0, 0), (0, 0, 0), (0, 0, 0), (0, 0, 0), (0, 0, 0)] [(2, 0, 0)] (fun ls st M => k106 (f_vi (f_nth st 0)) M))]) C qX12_ownerf (f_kc_cons (f_pl_ok rfl (fun ls st M h => h106 _ M h)) f_kc_nil) 68 26 h
set_option maxRecDepth 20000 in
theorem BX12_owner_106 {sh : Nat → Nat × Nat} {t : Nat} {rm : Nat × Nat × Nat} {cs : Nat × Nat} {R : f_Rt} {c_X12_numbered : Int → Int → e_M → (Int → e_M → Prop) → Prop} {c_X12_throwsIf : Int → e_M → (Int → e_M → Prop) → Prop} {c_X12_amongHere : Int → e_M → (Int → Prop) → Prop} {xs0 : Int} {M : e_M} (C : f_Hy sh t yX12_owner rm cs 16 (lX12_owner c_X12_numbered c_X12_throwsIf c_X12_amongHere) R) (h : VX12_owner_106 c_X12_numbered c_X12_throwsIf c_X12_amongHere (fun r M => R (some (.inl r)) M) xs0 M) : f_E sh t YX12_owner rm cs (f_Q sh t R) 106 [.inr (.inr (.inr ())), .inr (.inr (.inr ())), .inr (.inr (.inr ())), .inr (.inr (.inr ())), .inr (.inr (.inr ()))] [.inr (.inl xs0)] M :=
  f_go (KC := f_kc []) C qX12_ownerf f_kc_nil 68 64 h
set_option maxRecDepth 20000 in
theorem BX12_owner {sh : Nat → Nat × Nat} {t : Nat} {rm : Nat × Nat × Nat} {cs : Nat × Nat} {R : f_Rt} {c_X12_numbered : Int → Int → e_M → (Int → e_M → Prop) → Prop} {c_X12_throwsIf : Int → e_M → (Int → e_M → Prop) → Prop} {c_X12_amongHere : Int → e_M → (Int → Prop) → Prop} {k38 : Int → Int → Int → e_M → Prop} {k43 : Int → Int → Int → Int → e_M → Prop} {x1 : Int} {x2 : Int} {x3 : Int} {M : e_M} (C : f_Hy sh t yX12_owner rm cs 16 (lX12_owner c_X12_numbered c_X12_throwsIf c_X12_amongHere) R) (h38 : ∀ (x2 : Int) (x3 : Int) (x4 : Int) (M : e_M), k38 x2 x3 x4 M → f_E sh t YX12_owner rm cs (f_Q sh t R) 38 [.inr (.inr (.inl (12, 123, 4456))), .inr (.inr (.inr ())), .inl x2, .inl x3, .inl x4] [.inr (.inr (.inl (12, 123, 4456)))] M) (h43 : ∀ (x2 : Int) (x3 : Int) (x4 : Int) (xs1 : Int) (M : e_M), k43 x2 x3 x4 xs1 M → f_E sh t YX12_owner rm cs (f_Q sh t R) 43 [.inr (.inr (.inl (12, 123, 4456))), .inr (.inr (.inr ())), .inl x2, .inl x3, .inl x4] [.inl xs1, .inr (.inr (.inl (12, 123, 4456)))] M) (h : VX12_owner c_X12_numbered c_X12_throwsIf c_X12_amongHere k38 k43 (fun r M => R (some (.inl r)) M) x1 x2 x3 M) : f_E sh t YX12_owner rm cs (f_Q sh t R) 0 [.inr (.inr (.inl (12, 123, 4456))), .inl x1, .inl x2, .inl x3, .inr (.inr (.inr ()))] [] M :=
  f_go (KC := f_kc [(38, f_pl [(4466, 12, 123), (0, 0, 0), (1, 0, 0), (1, 0, 0), (1, 0, 0)] [(4466, 12, 123)] (fun ls st M => k38 (f_vi (f_nth ls 2)) (f_vi (f_nth ls 3)) (f_vi (f_nth ls 4)) M)), (43, f_pl [(4466, 12, 123), (0, 0, 0), (1, 0, 0), (1, 0, 0), (1, 0, 0)] [(1, 0, 0), (4466, 12, 123)] (fun ls st M => k43 (f_vi (f_nth ls 2)) (f_vi (f_nth ls 3)) (f_vi (f_nth ls 4)) (f_vi (f_nth st 0)) M))]) C qX12_ownerf (f_kc_cons (f_pl_ok rfl (fun ls st M h => h38 _ _ _ M h)) (f_kc_cons (f_pl_ok rfl (fun ls st M h => h43 _ _ _ _ M h)) f_kc_nil)) 68 0 h
def WX12_owner_106 (Q : Int → e_M → Prop) (xs0 : Int) (M : e_M) : Prop :=
  VX12_owner_106 WX12_numbered WX12_throwsIf WX12_amongHere Q xs0 M
def WX12_owner_43 (Q : Int → e_M → Prop) (x2 : Int) (x3 : Int) (x4 : Int) (xs1 : Int) (M : e_M) : Prop :=
  VX12_owner_43 WX12_numbered WX12_throwsIf WX12_amongHere (WX12_owner_106 Q) Q x2 x3 x4 xs1 M
def WX12_owner_38 (Q : Int → e_M → Prop) (x2 : Int) (x3 : Int) (x4 : Int) (M : e_M) : Prop :=
  VX12_owner_38 WX12_numbered WX12_throwsIf WX12_amongHere (WX12_owner_43 Q) Q x2 x3 x4 M
def WX12_owner (x1 : Int) (x2 : Int) (x3 : Int) (M : e_M) (Q : Int → e_M → Prop) : Prop :=
  VX12_owner WX12_numbered WX12_throwsIf WX12_amongHere (WX12_owner_38 Q) (WX12_owner_43 Q) Q x1 x2 x3 M
theorem PX12_owner_106 {sh : Nat → Nat × Nat} {t : Nat} {rm : Nat × Nat × Nat} {cs : Nat × Nat} {R : f_Rt} {xs0 : Int} {M : e_M} (C : f_Hy sh t yX12_owner rm cs 16 (lX12_owner WX12_numbered WX12_throwsIf WX12_amongHere) R) (h : WX12_owner_106 (fun r M => R (some (.inl r)) M) xs0 M) : f_E sh t YX12_owner rm cs (f_Q sh t R) 106 [.inr (.inr (.inr ())), .inr (.inr (.inr ())), .inr (.inr (.inr ())), .inr (.inr (.inr ())), .inr (.inr (.inr ()))] [.inr (.inl xs0)] M :=
  BX12_owner_106 C h
theorem PX12_owner_43 {sh : Nat → Nat × Nat} {t : Nat} {rm : Nat × Nat × Nat} {cs : Nat × Nat} {R : f_Rt} {x2 : Int} {x3 : Int} {x4 : Int} {xs1 : Int} {M : e_M} (C : f_Hy sh t yX12_owner rm cs 16 (lX12_owner WX12_numbered WX12_throwsIf WX12_amongHere) R) (h : WX12_owner_43 (fun r M => R (some (.inl r)) M) x2 x3 x4 xs1 M) : f_E sh t YX12_owner rm cs (f_Q sh t R) 43 [.inr (.inr (.inl (12, 123, 4456))), .inr (.inr (.inr ())), .inl x2, .inl x3, .inl x4] [.inl xs1, .inr (.inr (.inl (12, 123, 4456)))] M :=
  BX12_owner_43 C (fun xs0 M h => PX12_owner_106 C h) h
theorem PX12_owner_38 {sh : Nat → Nat × Nat} {t : Nat} {rm : Nat × Nat × Nat} {cs : Nat × Nat} {R : f_Rt} {x2 : Int} {x3 : Int} {x4 : Int} {M : e_M} (C : f_Hy sh t yX12_owner rm cs 16 (lX12_owner WX12_numbered WX12_throwsIf WX12_amongHere) R) (h : WX12_owner_38 (fun r M => R (some (.inl r)) M) x2 x3 x4 M) : f_E sh t YX12_owner rm cs (f_Q sh t R) 38 [.inr (.inr (.inl (12, 123, 4456))), .inr (.inr (.inr ())), .inl x2, .inl x3, .inl x4] [.inr (.inr (.inl (12, 123, 4456)))] M :=
  BX12_owner_38 C (fun x2 x3 x4 xs1 M h => PX12_owner_43 C h) h
theorem PX12_owner {sh : Nat → Nat × Nat} {t : Nat} {rm : Nat × Nat × Nat} {cs : Nat × Nat} {R : f_Rt} {x1 : Int} {x2 : Int} {x3 : Int} {M : e_M} (C : f_Hy sh t yX12_owner rm cs 16 (lX12_owner WX12_numbered WX12_throwsIf WX12_amongHere) R) (h : WX12_owner x1 x2 x3 M (fun r M => R (some (.inl r)) M)) : f_E sh t YX12_owner rm cs (f_Q sh t R) 0 [.inr (.inr (.inl (12, 123, 4456))), .inl x1, .inl x2, .inl x3, .inr (.inr (.inr ()))] [] M :=
  BX12_owner C (fun x2 x3 x4 M h => PX12_owner_38 C h) (fun x2 x3 x4 xs1 M h => PX12_owner_43 C h) h
def wX12_owner : f_Wt := f_wm [(4466, 12, 123), (1, 0, 0), (1, 0, 0), (1, 0, 0)] (fun ar M R => WX12_owner (f_vi (f_nth ar 1)) (f_vi (f_nth ar 2)) (f_vi (f_nth ar 3)) M (fun r M => R (some (.inl r)) M))
theorem TX12_owner {sh : Nat → Nat × Nat} {t : Nat} : f_Mt sh t YX12_owner 16 (wX12_owner) :=
  f_Mt_of (k := 1) (Nat.le_of_ble_eq_true rfl) rfl rfl (fun ar M R rm cs h1 h2 h3 hX h => PX12_owner ⟨Nat.le_of_ble_eq_true rfl, h1, h2, h3, ⟨(f_Mt.up (Nat.le_of_ble_eq_true rfl) TX12_numbered), (f_Mt.up (Nat.le_of_ble_eq_true rfl) TX12_throwsIf), (f_Mt.up (Nat.le_of_ble_eq_true rfl) TX12_amongHere), trivial⟩, hX⟩ h)
def VX12_lots_34 (c_X12_look : Int → Int → e_M → (e_M → Prop) → Prop) (c_X12_isHere : Int → Int → e_M → (Int → Prop) → Prop) (c_X12_lieAt : Int → Int → Int → Int → Int → e_M → (Int → Prop) → Prop) (k88 : Int → Int → Int → Int → Int → e_M → Prop) (k89 : Int → Int → Int → Int → Int → Int → e_M → Prop) (Q : Int → e_M → Prop) (x1 : Int) (x2 : Int) (x3 : Int) (x4 : Int) (x5 : Int) (M : e_M) : Prop :=
  ((0 ≤ (0 : Int) ∧ (0 : Int) < 7) ∧ (((M 4483 ((0 : Int).toNat)) ≤ x5 → (Q x4 M)) ∧ (x5 < (M 4483 ((0 : Int).toNat)) → (c_X12_isHere 0 x5 M (fun r1 => ((r1 = 0 → (k88 x1 x2 x3 x5 x4 M)) ∧ (¬ r1 = 0 → ((0 ≤ x5 ∧ x5 < 80) ∧ (c_X12_lieAt (e_w32 ((40 : Int) * x5)) (M 4496 (x5.toNat)) x1 x2 1 M (fun r2 => ((¬ r2 = (e_w32 ((2 : Int) - x3)) → (k88 x1 x2 x3 x5 x4 M)) ∧ (r2 = (e_w32 ((2 : Int) - x3)) → (k89 x1 x2 x3 x5 1 x4 M)))))))))))))
def VX12_lots_88 (c_X12_look : Int → Int → e_M → (e_M → Prop) → Prop) (c_X12_isHere : Int → Int → e_M → (Int → Prop) → Prop) (c_X12_lieAt : Int → Int → Int → Int → Int → e_M → (Int → Prop) → Prop) (k89 : Int → Int → Int → Int → Int → Int → e_M → Prop) (Q : Int → e_M → Prop) (x1 : Int) (x2 : Int) (x3 : Int) (x5 : Int) (xs0 : Int) (M : e_M) : Prop :=
  (k89 x1 x2 x3 x5 0 xs0 M)
def VX12_lots_89 (c_X12_look : Int → Int → e_M → (e_M → Prop) → Prop) (c_X12_isHere : Int → Int → e_M → (Int → Prop) → Prop) (c_X12_lieAt : Int → Int → Int → Int → Int → e_M → (Int → Prop) → Prop) (k34 : Int → Int → Int → Int → Int → e_M → Prop) (Q : Int → e_M → Prop) (x1 : Int) (x2 : Int) (x3 : Int) (x5 : Int) (xs1 : Int) (xs0 : Int) (M : e_M) : Prop :=
  (k34 x1 x2 x3 (e_w32 (xs0 + xs1)) (e_w32 (x5 + 1)) M)
def VX12_lots (c_X12_look : Int → Int → e_M → (e_M → Prop) → Prop) (c_X12_isHere : Int → Int → e_M → (Int → Prop) → Prop) (c_X12_lieAt : Int → Int → Int → Int → Int → e_M → (Int → Prop) → Prop) (k34 : Int → Int → Int → Int → Int → e_M → Prop) (Q : Int → e_M → Prop) (x1 : Int) (x2 : Int) (x3 : Int) (M : e_M) : Prop :=
  (∀ M1 : e_M, M1 = e_up M 4456 121 0 → (c_X12_look (M1 4456 103) (M1 4456 104) M1 (fun M2 => ((x3 < 0 → (Q 0 M2)) ∧ (0 ≤ x3 → ((x3 ≤ 1 → (k34 x1 x2 x3 0 0 M2)) ∧ (1 < x3 → (Q 0 M2))))))))
def yX12_lots (i : Nat) : e_Y := x_get YX12_lots [YX12_look, YX12_isHere, YX12_lieAt] i
def pX12_lotsf : List x_I := [(0, 4, 1, 0, 0, 0, []), (1, 0, 1, 0, 0, 0, []), (2, 26, 12, 121, 0, 0, []), (5, 4, 1, 0, 0, 0, []), (6, 4, 1, 0, 0, 0, []), (7, 25, 12, 103, 0, 0, []), (10, 4, 1, 0, 0, 0, []), (11, 25, 12, 104, 0, 0, []), (14, 40, 0, 3, 14, 0, []), (17, 2, 1, 3, 0, 0, []), (18, 17, 26, 2, 15, 0, []), (21, 2, 1, 3, 0, 0, []), (22, 0, 1, 0, 0, 1, []), (23, 18, 28, 5, 17, 0, []), (26, 0, 1, 0, 0, 0, []), (27, 41, 0, 0, 0, 0, []), (28, 0, 1, 0, 0, 0, []), (29, 5, 2, 4, 0, 0, []), (31, 0, 1, 0, 0, 0, []), (32, 5, 2, 5, 0, 0, []), (34, 49, 0, 0, 0, 0, []), (34, 2, 2, 5, 0, 0, []), (36, 4, 1, 0, 0, 0, []), (37, 25, 12, 50, 4, 0, [(0, 20, 7), (0, 1, 27)]), (40, 0, 1, 0, 0, 0, []), (41, 27, 0, 0, 0, 0, []), (42, 18, 98, 3, 61, 0, []), (45, 2, 2, 4, 0, 0, []), (47, 4, 1, 0, 0, 0, []), (48, 0, 1, 0, 0, 0, []), (49, 2, 2, 5, 0, 0, []), (51, 40, 1, 3, 14, 0, []), (54, 17, 88, 0, 54, 0, []), (57, 4, 1, 0, 0, 0, []), (58, 0, 2, 0, 0, 40, []), (60, 2, 2, 5, 0, 0, []), (62, 9, 0, 2, 0, 0, []), (63, 4, 1, 0, 0, 0, []), (64, 25, 12, 63, 4, 0, [(0, 20, 80), (0, 1, 40)]), (67, 2, 2, 5, 0, 0, []), (69, 27, 0, 0, 0, 0, []), (70, 2, 1, 1, 0, 0, []), (71, 14, 0, 0, 0, 0, []), (72, 2, 1, 2, 0, 0, []), (73, 14, 0, 0, 0, 0, []), (74, 0, 1, 0, 0, 1, []), (75, 40, 2, 6, 14, 0, []), (78, 0, 1, 0, 0, 2, []), (79, 2, 1, 3, 0, 0, []), (80, 9, 0, 1, 0, 0, []), (81, 18, 88, 1, 54, 0, []), (84, 0, 1, 0, 0, 1, []), (85, 19, 89, 0, 56, 0, []), (88, 49, 0, 0, 0, 0, []), (88, 0, 1, 0, 0, 0, []), (89, 49, 0, 0, 0, 0, []), (89, 9, 0, 0, 0, 0, []), (90, 5, 2, 4, 0, 0, []), (92, 8, 0, 5, 0, 1, []), (95, 19, 34, 0, 21, 0, []), (98, 2, 2, 4, 0, 0, []), (100, 41, 0, 0, 0, 0, [])]
set_option maxRecDepth 20000 in
theorem qX12_lotsf : f_all yX12_lots YX12_lots pX12_lotsf :=
  ⟨f_aload_n (n := 0) (e_dx DX12_lots_0 0 rfl) rfl,
  f_iconst (e_dx DX12_lots_0 1 rfl) ⟨by decide, by decide⟩,
  f_putn (e_dx DX12_lots_0 2 rfl) fX12_773 (fun q hq => by cases hq; rfl) rfl (Or.inl rfl) (by decide),
  f_aload_n (n := 0) (e_dx DX12_lots_0 3 rfl) rfl,
  f_aload_n (n := 0) (e_dx DX12_lots_0 4 rfl) rfl,
  f_getf (e_dx DX12_lots_0 5 rfl) fX12_799 rfl (by decide) (by decide) (by decide),
  f_aload_n (n := 0) (e_dx DX12_lots_0 6 rfl) rfl,
  f_getf (e_dx DX12_lots_0 7 rfl) fX12_802 rfl (by decide) (by decide) (by decide),
  x_callV (e_dx DX12_lots_0 8 rfl) mwX12_look vwX12_look cX12_805 rfl,
  f_iload_n (n := 3) (e_dx DX12_lots_0 9 rfl) rfl,
  f_if_lt (e_dx DX12_lots_0 10 rfl) rfl,
  f_iload_n (n := 3) (e_dx DX12_lots_0 11 rfl) rfl,
  f_iconst (e_dx DX12_lots_0 12 rfl) ⟨by decide, by decide⟩,
  f_icmp_le (e_dx DX12_lots_0 13 rfl) rfl,
  f_iconst (e_dx DX12_lots_0 14 rfl) ⟨by decide, by decide⟩,
  ⟨(e_dx DX12_lots_0 15 rfl), rfl⟩,
  f_iconst (e_dx DX12_lots_0 16 rfl) ⟨by decide, by decide⟩,
  f_istore (e_dx DX12_lots_0 17 rfl) (by decide),
  f_iconst (e_dx DX12_lots_0 18 rfl) ⟨by decide, by decide⟩,
  f_istore (e_dx DX12_lots_0 19 rfl) (by decide),
  trivial,
  f_iload (e_dx DX12_lots_0 20 rfl),
  f_aload_n (n := 0) (e_dx DX12_lots_0 21 rfl) rfl,
  f_getA (e_dx DX12_lots_0 22 rfl) fX12_91 rfl (by decide) (Nat.le_of_ble_eq_true rfl) rfl (by decide),
  f_iconst (e_dx DX12_lots_0 23 rfl) ⟨by decide, by decide⟩,
  f_iaload (e_dx DX12_lots_0 24 rfl),
  f_icmp_ge (e_dx DX12_lots_0 25 rfl) rfl,
  f_iload (e_dx DX12_lots_0 26 rfl),
  f_aload_n (n := 0) (e_dx DX12_lots_0 27 rfl) rfl,
  f_iconst (e_dx DX12_lots_0 28 rfl) ⟨by decide, by decide⟩,
  f_iload (e_dx DX12_lots_0 29 rfl),
  x_callV (e_dx DX12_lots_0 30 rfl) mwX12_isHere vwX12_isHere cX12_875 rfl,
  f_if_eq (e_dx DX12_lots_0 31 rfl) rfl,
  f_aload_n (n := 0) (e_dx DX12_lots_0 32 rfl) rfl,
  f_bipush (e_dx DX12_lots_0 33 rfl) ⟨by decide, by decide⟩,
  f_iload (e_dx DX12_lots_0 34 rfl),
  f_imul (e_dx DX12_lots_0 35 rfl),
  f_aload_n (n := 0) (e_dx DX12_lots_0 36 rfl) rfl,
  f_getA (e_dx DX12_lots_0 37 rfl) fX12_130 rfl (by decide) (Nat.le_of_ble_eq_true rfl) rfl (by decide),
  f_iload (e_dx DX12_lots_0 38 rfl),
  f_iaload (e_dx DX12_lots_0 39 rfl),
  f_iload_n (n := 1) (e_dx DX12_lots_1 0 rfl) rfl,
  f_g14 (e_dx DX12_lots_1 1 rfl),
  f_iload_n (n := 2) (e_dx DX12_lots_1 2 rfl) rfl,
  f_g14 (e_dx DX12_lots_1 3 rfl),
  f_iconst (e_dx DX12_lots_1 4 rfl) ⟨by decide, by decide⟩,
  x_callV (e_dx DX12_lots_1 5 rfl) mwX12_lieAt vwX12_lieAt cX12_452 rfl,
  f_iconst (e_dx DX12_lots_1 6 rfl) ⟨by decide, by decide⟩,
  f_iload_n (n := 3) (e_dx DX12_lots_1 7 rfl) rfl,
  f_isub (e_dx DX12_lots_1 8 rfl),
  f_icmp_ne (e_dx DX12_lots_1 9 rfl) rfl,
  f_iconst (e_dx DX12_lots_1 10 rfl) ⟨by decide, by decide⟩,
  f_g19 (e_dx DX12_lots_1 11 rfl) rfl,
  trivial,
  f_iconst (e_dx DX12_lots_1 12 rfl) ⟨by decide, by decide⟩,
  trivial,
  f_iadd (e_dx DX12_lots_1 13 rfl),
  f_istore (e_dx DX12_lots_1 14 rfl) (by decide),
  f_g8 (e_dx DX12_lots_1 15 rfl) ⟨by decide, by decide⟩,
  f_g19 (e_dx DX12_lots_1 16 rfl) rfl,
  f_iload (e_dx DX12_lots_1 17 rfl),
  ⟨(e_dx DX12_lots_1 18 rfl), rfl⟩, trivial⟩
def lX12_lots (c_X12_look : Int → Int → e_M → (e_M → Prop) → Prop) (c_X12_isHere : Int → Int → e_M → (Int → Prop) → Prop) (c_X12_lieAt : Int → Int → Int → Int → Int → e_M → (Int → Prop) → Prop) : List (Nat × f_Wt) := [(0, f_wm [(4466, 12, 123), (1, 0, 0), (1, 0, 0)] (fun ar M R => c_X12_look (f_vi (f_nth ar 1)) (f_vi (f_nth ar 2)) M (fun M => R none M))), (1, f_wm [(4466, 12, 123), (1, 0, 0), (1, 0, 0)] (fun ar M R => c_X12_isHere (f_vi (f_nth ar 1)) (f_vi (f_nth ar 2)) M (fun r => R (some (.inl r)) M))), (2, f_wm [(4466, 12, 123), (1, 0, 0), (1, 0, 0), (2, 0, 0), (2, 0, 0), (1, 0, 0)] (fun ar M R => c_X12_lieAt (f_vi (f_nth ar 1)) (f_vi (f_nth ar 2)) (f_vi (f_nth ar 3)) (f_vi (f_nth ar 4)) (f_vi (f_nth ar 5)) M (fun r => R (some (.inl r)) M)))]
set_option maxRecDepth 20000 in
theorem BX12_lots_34 {sh : Nat → Nat × Nat} {t : Nat} {rm : Nat × Nat × Nat} {cs : Nat × Nat} {R : f_Rt} {c_X12_look : Int → Int → e_M → (e_M → Prop) → Prop} {c_X12_isHere : Int → Int → e_M → (Int → Prop) → Prop} {c_X12_lieAt : Int → Int → Int → Int → Int → e_M → (Int → Prop) → Prop} {k88 : Int → Int → Int → Int → Int → e_M → Prop} {k89 : Int → Int → Int → Int → Int → Int → e_M → Prop} {x1 : Int} {x2 : Int} {x3 : Int} {x4 : Int} {x5 : Int} {M : e_M} (C : f_Hy sh t yX12_lots rm cs 15 (lX12_lots c_X12_look c_X12_isHere c_X12_lieAt) R) (h88 : ∀ (x1 : Int) (x2 : Int) (x3 : Int) (x5 : Int) (xs0 : Int) (M : e_M), k88 x1 x2 x3 x5 xs0 M → f_E sh t YX12_lots rm cs (f_Q sh t R) 88 [.inr (.inr (.inl (12, 123, 4456))), .inl x1, .inl x2, .inl x3, .inr (.inr (.inr ())), .inl x5] [.inl xs0] M) (h89 : ∀ (x1 : Int) (x2 : Int) (x3 : Int) (x5 : Int) (xs1 : Int) (xs0 : Int) (M : e_M), k89 x1 x2 x3 x5 xs1 xs0 M → f_E sh t YX12_lots rm cs (f_Q sh t R) 89 [.inr (.inr (.inl (12, 123, 4456))), .inl x1, .inl x2, .inl x3, .inr (.inr (.inr ())), .inl x5] [.inl xs1, .inl xs0] M) (h : VX12_lots_34 c_X12_look c_X12_isHere c_X12_lieAt k88 k89 (fun r M => R (some (.inl r)) M) x1 x2 x3 x4 x5 M) : f_E sh t YX12_lots rm cs (f_Q sh t R) 34 [.inr (.inr (.inl (12, 123, 4456))), .inl x1, .inl x2, .inl x3, .inl x4, .inl x5] [] M :=
  f_go (KC := f_kc [(88, f_pl [(4466, 12, 123), (1, 0, 0), (1, 0, 0), (1, 0, 0), (0, 0, 0), (1, 0, 0)] [(1, 0, 0)] (fun ls st M => k88 (f_vi (f_nth ls 1)) (f_vi (f_nth ls 2)) (f_vi (f_nth ls 3)) (f_vi (f_nth ls 5)) (f_vi (f_nth st 0)) M)), (89, f_pl [(4466, 12, 123), (1, 0, 0), (1, 0, 0), (1, 0, 0), (0, 0, 0), (1, 0, 0)] [(1, 0, 0), (1, 0, 0)] (fun ls st M => k89 (f_vi (f_nth ls 1)) (f_vi (f_nth ls 2)) (f_vi (f_nth ls 3)) (f_vi (f_nth ls 5)) (f_vi (f_nth st 0)) (f_vi (f_nth st 1)) M))]) C qX12_lotsf (f_kc_cons (f_pl_ok rfl (fun ls st M h => h88 _ _ _ _ _ M h)) (f_kc_cons (f_pl_ok rfl (fun ls st M h => h89 _ _ _ _ _ _ M h)) f_kc_nil)) 64 21 h
set_option maxRecDepth 20000 in
theorem BX12_lots_88 {sh : Nat → Nat × Nat} {t : Nat} {rm : Nat × Nat × Nat} {cs : Nat × Nat} {R : f_Rt} {c_X12_look : Int → Int → e_M → (e_M → Prop) → Prop} {c_X12_isHere : Int → Int → e_M → (Int → Prop) → Prop} {c_X12_lieAt : Int → Int → Int → Int → Int → e_M → (Int → Prop) → Prop} {k89 : Int → Int → Int → Int → Int → Int → e_M → Prop} {x1 : Int} {x2 : Int} {x3 : Int} {x5 : Int} {xs0 : Int} {M : e_M} (C : f_Hy sh t yX12_lots rm cs 15 (lX12_lots c_X12_look c_X12_isHere c_X12_lieAt) R) (h89 : ∀ (x1 : Int) (x2 : Int) (x3 : Int) (x5 : Int) (xs1 : Int) (xs0 : Int) (M : e_M), k89 x1 x2 x3 x5 xs1 xs0 M → f_E sh t YX12_lots rm cs (f_Q sh t R) 89 [.inr (.inr (.inl (12, 123, 4456))), .inl x1, .inl x2, .inl x3, .inr (.inr (.inr ())), .inl x5] [.inl xs1, .inl xs0] M) (h : VX12_lots_88 c_X12_look c_X12_isHere c_X12_lieAt k89 (fun r M => R (some (.inl r)) M) x1 x2 x3 x5 xs0 M) : f_E sh t YX12_lots rm cs (f_Q sh t R) 88 [.inr (.inr (.inl (12, 123, 4456))), .inl x1, .inl x2, .inl x3, .inr (.inr (.inr ())), .inl x5] [.inl xs0] M :=
  f_go (KC := f_kc [(89, f_pl [(4466, 12, 123), (1, 0, 0), (1, 0, 0), (1, 0, 0), (0, 0, 0), (1, 0, 0)] [(1, 0, 0), (1, 0, 0)] (fun ls st M => k89 (f_vi (f_nth ls 1)) (f_vi (f_nth ls 2)) (f_vi (f_nth ls 3)) (f_vi (f_nth ls 5)) (f_vi (f_nth st 0)) (f_vi (f_nth st 1)) M))]) C qX12_lotsf (f_kc_cons (f_pl_ok rfl (fun ls st M h => h89 _ _ _ _ _ _ M h)) f_kc_nil) 64 54 h
set_option maxRecDepth 20000 in
theorem BX12_lots_89 {sh : Nat → Nat × Nat} {t : Nat} {rm : Nat × Nat × Nat} {cs : Nat × Nat} {R : f_Rt} {c_X12_look : Int → Int → e_M → (e_M → Prop) → Prop} {c_X12_isHere : Int → Int → e_M → (Int → Prop) → Prop} {c_X12_lieAt : Int → Int → Int → Int → Int → e_M → (Int → Prop) → Prop} {k34 : Int → Int → Int → Int → Int → e_M → Prop} {x1 : Int} {x2 : Int} {x3 : Int} {x5 : Int} {xs1 : Int} {xs0 : Int} {M : e_M} (C : f_Hy sh t yX12_lots rm cs 15 (lX12_lots c_X12_look c_X12_isHere c_X12_lieAt) R) (h34 : ∀ (x1 : Int) (x2 : Int) (x3 : Int) (x4 : Int) (x5 : Int) (M : e_M), k34 x1 x2 x3 x4 x5 M → f_E sh t YX12_lots rm cs (f_Q sh t R) 34 [.inr (.inr (.inl (12, 123, 4456))), .inl x1, .inl x2, .inl x3, .inl x4, .inl x5] [] M) (h : VX12_lots_89 c_X12_look c_X12_isHere c_X12_lieAt k34 (fun r M => R (some (.inl r)) M) x1 x2 x3 x5 xs1 xs0 M) : f_E sh t YX12_lots rm cs (f_Q sh t R) 89 [.inr (.inr (.inl (12, 123, 4456))), .inl x1, .inl x2, .inl x3, .inr (.inr (.inr ())), .inl x5] [.inl xs1, .inl xs0] M :=
  f_go (KC := f_kc [(34, f_pl [(4466, 12, 123), (1, 0, 0), (1, 0, 0), (1, 0, 0), (1, 0, 0), (1, 0, 0)] [] (fun ls st M => k34 (f_vi (f_nth ls 1)) (f_vi (f_nth ls 2)) (f_vi (f_nth ls 3)) (f_vi (f_nth ls 4)) (f_vi (f_nth ls 5)) M))]) C qX12_lotsf (f_kc_cons (f_pl_ok rfl (fun ls st M h => h34 _ _ _ _ _ M h)) f_kc_nil) 64 56 h
set_option maxRecDepth 20000 in
theorem BX12_lots {sh : Nat → Nat × Nat} {t : Nat} {rm : Nat × Nat × Nat} {cs : Nat × Nat} {R : f_Rt} {c_X12_look : Int → Int → e_M → (e_M → Prop) → Prop} {c_X12_isHere : Int → Int → e_M → (Int → Prop) → Prop} {c_X12_lieAt : Int → Int → Int → Int → Int → e_M → (Int → Prop) → Prop} {k34 : Int → Int → Int → Int → Int → e_M → Prop} {x1 : Int} {x2 : Int} {x3 : Int} {M : e_M} (C : f_Hy sh t yX12_lots rm cs 15 (lX12_lots c_X12_look c_X12_isHere c_X12_lieAt) R) (h34 : ∀ (x1 : Int) (x2 : Int) (x3 : Int) (x4 : Int) (x5 : Int) (M : e_M), k34 x1 x2 x3 x4 x5 M → f_E sh t YX12_lots rm cs (f_Q sh t R) 34 [.inr (.inr (.inl (12, 123, 4456))), .inl x1, .inl x2, .inl x3, .inl x4, .inl x5] [] M) (h : VX12_lots c_X12_look c_X12_isHere c_X12_lieAt k34 (fun r M => R (some (.inl r)) M) x1 x2 x3 M) : f_E sh t YX12_lots rm cs (f_Q sh t R) 0 [.inr (.inr (.inl (12, 123, 4456))), .inl x1, .inl x2, .inl x3, .inr (.inr (.inr ())), .inr (.inr (.inr ()))] [] M :=
  f_go (KC := f_kc [(34, f_pl [(4466, 12, 123), (1, 0, 0), (1, 0, 0), (1, 0, 0), (1, 0, 0), (1, 0, 0)] [] (fun ls st M => k34 (f_vi (f_nth ls 1)) (f_vi (f_nth ls 2)) (f_vi (f_nth ls 3)) (f_vi (f_nth ls 4)) (f_vi (f_nth ls 5)) M))]) C qX12_lotsf (f_kc_cons (f_pl_ok rfl (fun ls st M h => h34 _ _ _ _ _ M h)) f_kc_nil) 64 0 h
def WX12_lots_89 (H34 : Int → Int → Int → Int → Int → e_M → Prop) (Q : Int → e_M → Prop) (x1 : Int) (x2 : Int) (x3 : Int) (x5 : Int) (xs1 : Int) (xs0 : Int) (M : e_M) : Prop :=
  VX12_lots_89 WX12_look WX12_isHere WX12_lieAt H34 Q x1 x2 x3 x5 xs1 xs0 M
def WX12_lots_88 (H34 : Int → Int → Int → Int → Int → e_M → Prop) (Q : Int → e_M → Prop) (x1 : Int) (x2 : Int) (x3 : Int) (x5 : Int) (xs0 : Int) (M : e_M) : Prop :=
  VX12_lots_88 WX12_look WX12_isHere WX12_lieAt (WX12_lots_89 H34 Q) Q x1 x2 x3 x5 xs0 M
def WX12_lots_34 (Q : Int → e_M → Prop) : Nat → Int → Int → Int → Int → Int → e_M → Prop
  | 0, _, _, _, _, _, _ => False
  | n + 1, x1, x2, x3, x4, x5, M =>
    VX12_lots_34 WX12_look WX12_isHere WX12_lieAt (WX12_lots_88 (WX12_lots_34 Q n) Q) (WX12_lots_89 (WX12_lots_34 Q n) Q) Q x1 x2 x3 x4 x5 M
def WX12_lots (x1 : Int) (x2 : Int) (x3 : Int) (M : e_M) (Q : Int → e_M → Prop) : Prop :=
  VX12_lots WX12_look WX12_isHere WX12_lieAt (fun x1 x2 x3 x4 x5 M => ∃ j, WX12_lots_34 Q j x1 x2 x3 x4 x5 M) Q x1 x2 x3 M
theorem PX12_lots_89 {sh : Nat → Nat × Nat} {t : Nat} {rm : Nat × Nat × Nat} {cs : Nat × Nat} {R : f_Rt} {H34 : Int → Int → Int → Int → Int → e_M → Prop} {x1 : Int} {x2 : Int} {x3 : Int} {x5 : Int} {xs1 : Int} {xs0 : Int} {M : e_M} (C : f_Hy sh t yX12_lots rm cs 15 (lX12_lots WX12_look WX12_isHere WX12_lieAt) R) (g34 : ∀ (x1 : Int) (x2 : Int) (x3 : Int) (x4 : Int) (x5 : Int) (M : e_M), H34 x1 x2 x3 x4 x5 M → f_E sh t YX12_lots rm cs (f_Q sh t R) 34 [.inr (.inr (.inl (12, 123, 4456))), .inl x1, .inl x2, .inl x3, .inl x4, .inl x5] [] M) (h : WX12_lots_89 H34 (fun r M => R (some (.inl r)) M) x1 x2 x3 x5 xs1 xs0 M) : f_E sh t YX12_lots rm cs (f_Q sh t R) 89 [.inr (.inr (.inl (12, 123, 4456))), .inl x1, .inl x2, .inl x3, .inr (.inr (.inr ())), .inl x5] [.inl xs1, .inl xs0] M :=
  BX12_lots_89 C g34 h
theorem PX12_lots_88 {sh : Nat → Nat × Nat} {t : Nat} {rm : Nat × Nat × Nat} {cs : Nat × Nat} {R : f_Rt} {H34 : Int → Int → Int → Int → Int → e_M → Prop} {x1 : Int} {x2 : Int} {x3 : Int} {x5 : Int} {xs0 : Int} {M : e_M} (C : f_Hy sh t yX12_lots rm cs 15 (lX12_lots WX12_look WX12_isHere WX12_lieAt) R) (g34 : ∀ (x1 : Int) (x2 : Int) (x3 : Int) (x4 : Int) (x5 : Int) (M : e_M), H34 x1 x2 x3 x4 x5 M → f_E sh t YX12_lots rm cs (f_Q sh t R) 34 [.inr (.inr (.inl (12, 123, 4456))), .inl x1, .inl x2, .inl x3, .inl x4, .inl x5] [] M) (h : WX12_lots_88 H34 (fun r M => R (some (.inl r)) M) x1 x2 x3 x5 xs0 M) : f_E sh t YX12_lots rm cs (f_Q sh t R) 88 [.inr (.inr (.inl (12, 123, 4456))), .inl x1, .inl x2, .inl x3, .inr (.inr (.inr ())), .inl x5] [.inl xs0] M :=
  BX12_lots_88 C (fun x1 x2 x3 x5 xs1 xs0 M h => PX12_lots_89 C g34 h) h
theorem PX12_lots_34 {sh : Nat → Nat × Nat} {t : Nat} {rm : Nat × Nat × Nat} {cs : Nat × Nat} {R : f_Rt} (C : f_Hy sh t yX12_lots rm cs 15 (lX12_lots WX12_look WX12_isHere WX12_lieAt) R) : ∀ (n : Nat) (x1 : Int) (x2 : Int) (x3 : Int) (x4 : Int) (x5 : Int) (M : e_M), WX12_lots_34 (fun r M => R (some (.inl r)) M) n x1 x2 x3 x4 x5 M → f_E sh t YX12_lots rm cs (f_Q sh t R) 34 [.inr (.inr (.inl (12, 123, 4456))), .inl x1, .inl x2, .inl x3, .inl x4, .inl x5] [] M := by
  intro n
  induction n with
  | zero => intro x1 x2 x3 x4 x5 M h; exact h.elim
  | succ n ih => intro x1 x2 x3 x4 x5 M h; exact BX12_lots_34 C (fun x1 x2 x3 x5 xs0 M h => PX12_lots_88 C ih h) (fun x1 x2 x3 x5 xs1 xs0 M h => PX12_lots_89 C ih h) h
theorem PX12_lots {sh : Nat → Nat × Nat} {t : Nat} {rm : Nat × Nat × Nat} {cs : Nat × Nat} {R : f_Rt} {x1 : Int} {x2 : Int} {x3 : Int} {M : e_M} (C : f_Hy sh t yX12_lots rm cs 15 (lX12_lots WX12_look WX12_isHere WX12_lieAt) R) (h : WX12_lots x1 x2 x3 M (fun r M => R (some (.inl r)) M)) : f_E sh t YX12_lots rm cs (f_Q sh t R) 0 [.inr (.inr (.inl (12, 123, 4456))), .inl x1, .inl x2, .inl x3, .inr (.inr (.inr ())), .inr (.inr (.inr ()))] [] M :=
  BX12_lots C (fun x1 x2 x3 x4 x5 M ⟨j, h⟩ => PX12_lots_34 C j _ _ _ _ _ _ h) h
def wX12_lots : f_Wt := f_wm [(4466, 12, 123), (1, 0, 0), (1, 0, 0), (1, 0, 0)] (fun ar M R => WX12_lots (f_vi (f_nth ar 1)) (f_vi (f_nth ar 2)) (f_vi (f_nth ar 3)) M (fun r M => R (some (.inl r)) M))
theorem TX12_lots {sh : Nat → Nat × Nat} {t : Nat} : f_Mt sh t YX12_lots 15 (wX12_lots) :=
  f_Mt_of (k := 2) (Nat.le_of_ble_eq_true rfl) rfl rfl (fun ar M R rm cs h1 h2 h3 hX h => PX12_lots ⟨Nat.le_of_ble_eq_true rfl, h1, h2, h3, ⟨(f_Mt.up (Nat.le_of_ble_eq_true rfl) TX12_look), (f_Mt.up (Nat.le_of_ble_eq_true rfl) TX12_isHere), (f_Mt.up (Nat.le_of_ble_eq_true rfl) TX12_lieAt), trivial⟩, hX⟩ h)
def VX12_mix (Q : e_M → Prop) (x1 : Int) (M : e_M) : Prop :=
  (∀ M1 : e_M, M1 = e_up M 4456 122 (f_xorJ (e_w64 ((M 4456 122) * 1000003)) x1) → (Q M1))
def yX12_mix (i : Nat) : e_Y := x_get YX12_mix [] i
def pX12_mixf : List x_I := [(0, 4, 1, 0, 0, 0, []), (1, 4, 1, 0, 0, 0, []), (2, 25, 12, 122, 3, 0, []), (5, 1, 3, 0, 0, 1000003, []), (8, 10, 0, 2, 0, 0, []), (9, 3, 1, 1, 0, 0, []), (10, 10, 0, 7, 0, 0, []), (11, 26, 12, 122, 3, 0, []), (14, 44, 0, 0, 0, 0, [])]
set_option maxRecDepth 20000 in
theorem qX12_mixf : f_all yX12_mix YX12_mix pX12_mixf :=
  ⟨f_aload_n (n := 0) (e_dx DX12_mix_0 0 rfl) rfl,
  f_aload_n (n := 0) (e_dx DX12_mix_0 1 rfl) rfl,
  f_getL (e_dx DX12_mix_0 2 rfl) fX12_990 rfl (by decide),
  f_ldc2 (e_dx DX12_mix_0 3 rfl) hX12_993 rfl ⟨by decide, by decide⟩,
  f_lmul (e_dx DX12_mix_0 4 rfl),
  f_lload_n (n := 1) (e_dx DX12_mix_0 5 rfl) rfl,
  f_lxor (e_dx DX12_mix_0 6 rfl),
  f_putn (e_dx DX12_mix_0 7 rfl) fX12_990 (fun q hq => by cases hq; rfl) rfl (Or.inr (Or.inr rfl)) (by decide),
  ⟨(e_dx DX12_mix_0 8 rfl), rfl⟩, trivial⟩
def lX12_mix : List (Nat × f_Wt) := []
set_option maxRecDepth 20000 in
theorem BX12_mix {sh : Nat → Nat × Nat} {t : Nat} {rm : Nat × Nat × Nat} {cs : Nat × Nat} {R : f_Rt} {x1 : Int} {M : e_M} (C : f_Hy sh t yX12_mix rm cs 4 (lX12_mix) R) (h : VX12_mix (fun M => R none M) x1 M) : f_E sh t YX12_mix rm cs (f_Q sh t R) 0 [.inr (.inr (.inl (12, 123, 4456))), .inr (.inl x1), .inr (.inr (.inr ()))] [] M :=
  f_go (KC := f_kc []) C qX12_mixf f_kc_nil 11 0 h
def WX12_mix (x1 : Int) (M : e_M) (Q : e_M → Prop) : Prop :=
  VX12_mix Q x1 M
theorem PX12_mix {sh : Nat → Nat × Nat} {t : Nat} {rm : Nat × Nat × Nat} {cs : Nat × Nat} {R : f_Rt} {x1 : Int} {M : e_M} (C : f_Hy sh t yX12_mix rm cs 4 (lX12_mix) R) (h : WX12_mix x1 M (fun M => R none M)) : f_E sh t YX12_mix rm cs (f_Q sh t R) 0 [.inr (.inr (.inl (12, 123, 4456))), .inr (.inl x1), .inr (.inr (.inr ()))] [] M :=
  BX12_mix C h
def wX12_mix : f_Wt := f_wm [(4466, 12, 123), (2, 0, 0)] (fun ar M R => WX12_mix (f_vi (f_nth ar 1)) M (fun M => R none M))
theorem TX12_mix {sh : Nat → Nat × Nat} {t : Nat} : f_Mt sh t YX12_mix 4 (wX12_mix) :=
  f_Mt_of (k := 0) (Nat.le_of_ble_eq_true rfl) rfl rfl (fun ar M R rm cs h1 h2 h3 hX h => PX12_mix ⟨Nat.le_of_ble_eq_true rfl, h1, h2, h3, trivial, hX⟩ h)
def VX12_mixLot_2 (c_X12_mix : Int → e_M → (e_M → Prop) → Prop) (c_X12_amongHere : Int → e_M → (Int → Prop) → Prop) (c_X12_id : Int → Int → e_M → (Int → Prop) → Prop) (k52 : Int → Int → e_M → Prop) (k2 : Int → Int → e_M → Prop) (Q : e_M → Prop) (x1 : Int) (x2 : Int) (M : e_M) : Prop :=
  ((0 ≤ x1 ∧ x1 < 80) ∧ (((M 4496 (x1.toNat)) ≤ x2 → (k52 x1 0 M)) ∧ (x2 < (M 4496 (x1.toNat)) → ((0 ≤ (e_w32 ((e_w32 ((40 : Int) * x1)) + x2)) ∧ (e_w32 ((e_w32 ((40 : Int) * x1)) + x2)) < 4800) ∧ (c_X12_mix (M 4480 ((e_w32 ((e_w32 ((40 : Int) * x1)) + x2)).toNat)) M (fun M1 => ((0 ≤ (e_w32 ((e_w32 ((40 : Int) * x1)) + x2)) ∧ (e_w32 ((e_w32 ((40 : Int) * x1)) + x2)) < 4800) ∧ (c_X12_mix (M1 4481 ((e_w32 ((e_w32 ((40 : Int) * x1)) + x2)).toNat)) M1 (fun M2 => (k2 x1 (e_w32 (x2 + 1)) M2))))))))))
def VX12_mixLot_52 (c_X12_mix : Int → e_M → (e_M → Prop) → Prop) (c_X12_amongHere : Int → e_M → (Int → Prop) → Prop) (c_X12_id : Int → Int → e_M → (Int → Prop) → Prop) (k120 : Int → Int → e_M → Prop) (k52 : Int → Int → e_M → Prop) (Q : e_M → Prop) (x1 : Int) (x2 : Int) (M : e_M) : Prop :=
  ((0 ≤ x1 ∧ x1 < 80) ∧ (((M 4497 (x1.toNat)) ≤ x2 → (k120 x1 0 M)) ∧ (x2 < (M 4497 (x1.toNat)) → ((0 ≤ (e_w32 ((e_w32 ((8 : Int) * x1)) + x2)) ∧ (e_w32 ((e_w32 ((8 : Int) * x1)) + x2)) < 640) ∧ (c_X12_amongHere (M 4498 ((e_w32 ((e_w32 ((8 : Int) * x1)) + x2)).toNat)) M (fun r1 => (c_X12_mix r1 M (fun M2 => ((0 ≤ (e_w32 ((e_w32 ((8 : Int) * x1)) + x2)) ∧ (e_w32 ((e_w32 ((8 : Int) * x1)) + x2)) < 640) ∧ (c_X12_mix (M2 4501 ((e_w32 ((e_w32 ((8 : Int) * x1)) + x2)).toNat)) M2 (fun M3 => ((0 ≤ (e_w32 ((e_w32 ((8 : Int) * x1)) + x2)) ∧ (e_w32 ((e_w32 ((8 : Int) * x1)) + x2)) < 640) ∧ (c_X12_mix (M3 4502 ((e_w32 ((e_w32 ((8 : Int) * x1)) + x2)).toNat)) M3 (fun M4 => (k52 x1 (e_w32 (x2 + 1)) M4)))))))))))))))
def VX12_mixLot_120 (c_X12_mix : Int → e_M → (e_M → Prop) → Prop) (c_X12_amongHere : Int → e_M → (Int → Prop) → Prop) (c_X12_id : Int → Int → e_M → (Int → Prop) → Prop) (k120 : Int → Int → e_M → Prop) (Q : e_M → Prop) (x1 : Int) (x2 : Int) (M : e_M) : Prop :=
  ((0 ≤ x1 ∧ x1 < 80) ∧ (((M 4499 (x1.toNat)) ≤ x2 → (Q M)) ∧ (x2 < (M 4499 (x1.toNat)) → ((0 ≤ (e_w32 ((e_w32 ((8 : Int) * x1)) + x2)) ∧ (e_w32 ((e_w32 ((8 : Int) * x1)) + x2)) < 640) ∧ (c_X12_id 2 (M 4500 ((e_w32 ((e_w32 ((8 : Int) * x1)) + x2)).toNat)) M (fun r1 => ((0 ≤ r1 ∧ r1 < 560) ∧ (c_X12_mix (M 4484 (r1.toNat)) M (fun M2 => (k120 x1 (e_w32 (x2 + 1)) M2))))))))))
def VX12_mixLot (c_X12_mix : Int → e_M → (e_M → Prop) → Prop) (c_X12_amongHere : Int → e_M → (Int → Prop) → Prop) (c_X12_id : Int → Int → e_M → (Int → Prop) → Prop) (k2 : Int → Int → e_M → Prop) (Q : e_M → Prop) (x1 : Int) (M : e_M) : Prop :=
  (k2 x1 0 M)
def yX12_mixLot (i : Nat) : e_Y := x_get YX12_mixLot [YX12_mix, YX12_amongHere, YX12_id] i
def pX12_mixLotf : List x_I := [(0, 0, 1, 0, 0, 0, []), (1, 5, 1, 2, 0, 0, []), (2, 49, 0, 0, 0, 0, []), (2, 2, 1, 2, 0, 0, []), (3, 4, 1, 0, 0, 0, []), (4, 25, 12, 63, 4, 0, [(0, 20, 80), (0, 1, 40)]), (7, 2, 1, 1, 0, 0, []), (8, 27, 0, 0, 0, 0, []), (9, 18, 50, 3, 34, 0, []), (12, 4, 1, 0, 0, 0, []), (13, 4, 1, 0, 0, 0, []), (14, 25, 12, 40, 4, 0, [(0, 20, 4800), (0, 1, 24)]), (17, 0, 2, 0, 0, 40, []), (19, 2, 1, 1, 0, 0, []), (20, 9, 0, 2, 0, 0, []), (21, 2, 1, 2, 0, 0, []), (22, 9, 0, 0, 0, 0, []), (23, 27, 0, 0, 0, 0, []), (24, 14, 0, 0, 0, 0, []), (25, 40, 0, 2, 14, 0, []), (28, 4, 1, 0, 0, 0, []), (29, 4, 1, 0, 0, 0, []), (30, 25, 12, 41, 4, 0, [(0, 20, 4800), (0, 1, 25)]), (33, 0, 2, 0, 0, 40, []), (35, 2, 1, 1, 0, 0, []), (36, 9, 0, 2, 0, 0, []), (37, 2, 1, 2, 0, 0, []), (38, 9, 0, 0, 0, 0, []), (39, 27, 0, 0, 0, 0, []), (40, 14, 0, 0, 0, 0, []), (41, 40, 0, 2, 14, 0, []), (44, 8, 0, 2, 0, 1, []), (47, 19, 2, 0, 3, 0, []), (50, 0, 1, 0, 0, 0, []), (51, 5, 1, 2, 0, 0, []), (52, 49, 0, 0, 0, 0, []), (52, 2, 1, 2, 0, 0, []), (53, 4, 1, 0, 0, 0, []), (54, 25, 12, 64, 4, 0, [(0, 20, 80), (0, 1, 41)]), (57, 2, 1, 1, 0, 0, []), (58, 27, 0, 0, 0, 0, []), (59, 18, 118, 3, 78, 0, []), (62, 4, 1, 0, 0, 0, []), (63, 4, 1, 0, 0, 0, []), (64, 4, 1, 0, 0, 0, []), (65, 25, 12, 65, 4, 0, [(0, 20, 640), (0, 1, 42)]), (68, 0, 2, 0, 0, 8, []), (70, 2, 1, 1, 0, 0, []), (71, 9, 0, 2, 0, 0, []), (72, 2, 1, 2, 0, 0, []), (73, 9, 0, 0, 0, 0, []), (74, 27, 0, 0, 0, 0, []), (75, 40, 1, 2, 14, 0, []), (78, 14, 0, 0, 0, 0, []), (79, 40, 0, 2, 14, 0, []), (82, 4, 1, 0, 0, 0, []), (83, 4, 1, 0, 0, 0, []), (84, 25, 12, 68, 4, 0, [(0, 23, 640), (0, 1, 45)]), (87, 0, 2, 0, 0, 8, []), (89, 2, 1, 1, 0, 0, []), (90, 9, 0, 2, 0, 0, []), (91, 2, 1, 2, 0, 0, []), (92, 9, 0, 0, 0, 0, []), (93, 27, 0, 1, 0, 0, []), (94, 40, 0, 2, 14, 0, []), (97, 4, 1, 0, 0, 0, []), (98, 4, 1, 0, 0, 0, []), (99, 25, 12, 69, 4, 0, [(0, 23, 640), (0, 1, 46)]), (102, 0, 2, 0, 0, 8, []), (104, 2, 1, 1, 0, 0, []), (105, 9, 0, 2, 0, 0, []), (106, 2, 1, 2, 0, 0, []), (107, 9, 0, 0, 0, 0, []), (108, 27, 0, 1, 0, 0, []), (109, 40, 0, 2, 14, 0, []), (112, 8, 0, 2, 0, 1, []), (115, 19, 52, 0, 36, 0, []), (118, 0, 1, 0, 0, 0, []), (119, 5, 1, 2, 0, 0, []), (120, 49, 0, 0, 0, 0, []), (120, 2, 1, 2, 0, 0, []), (121, 4, 1, 0, 0, 0, []), (122, 25, 12, 66, 4, 0, [(0, 20, 80), (0, 1, 43)]), (125, 2, 1, 1, 0, 0, []), (126, 27, 0, 0, 0, 0, []), (127, 18, 160, 3, 104, 0, []), (130, 4, 1, 0, 0, 0, []), (131, 4, 1, 0, 0, 0, []), (132, 25, 12, 51, 4, 0, [(0, 23, 560), (0, 1, 28)]), (135, 0, 1, 0, 0, 2, []), (136, 4, 1, 0, 0, 0, []), (137, 25, 12, 67, 4, 0, [(0, 20, 640), (0, 1, 44)]), (140, 0, 2, 0, 0, 8, []), (142, 2, 1, 1, 0, 0, []), (143, 9, 0, 2, 0, 0, []), (144, 2, 1, 2, 0, 0, []), (145, 9, 0, 0, 0, 0, []), (146, 27, 0, 0, 0, 0, []), (147, 40, 2, 2, 0, 0, []), (150, 27, 0, 1, 0, 0, []), (151, 40, 0, 2, 14, 0, []), (154, 8, 0, 2, 0, 1, []), (157, 19, 120, 0, 80, 0, []), (160, 44, 0, 0, 0, 0, [])]
set_option maxRecDepth 20000 in
theorem qX12_mixLotf : f_all yX12_mixLot YX12_mixLot pX12_mixLotf :=
  ⟨f_iconst (e_dx DX12_mixLot_0 0 rfl) ⟨by decide, by decide⟩,
  f_istore_n (n := 2) (e_dx DX12_mixLot_0 1 rfl) rfl (by decide),
  trivial,
  f_iload_n (n := 2) (e_dx DX12_mixLot_0 2 rfl) rfl,
  f_aload_n (n := 0) (e_dx DX12_mixLot_0 3 rfl) rfl,
  f_getA (e_dx DX12_mixLot_0 4 rfl) fX12_130 rfl (by decide) (Nat.le_of_ble_eq_true rfl) rfl (by decide),
  f_iload_n (n := 1) (e_dx DX12_mixLot_0 5 rfl) rfl,
  f_iaload (e_dx DX12_mixLot_0 6 rfl),
  f_icmp_ge (e_dx DX12_mixLot_0 7 rfl) rfl,
  f_aload_n (n := 0) (e_dx DX12_mixLot_0 8 rfl) rfl,
  f_aload_n (n := 0) (e_dx DX12_mixLot_0 9 rfl) rfl,
  f_getA (e_dx DX12_mixLot_0 10 rfl) fX12_82 rfl (by decide) (Nat.le_of_ble_eq_true rfl) rfl (by decide),
  f_bipush (e_dx DX12_mixLot_0 11 rfl) ⟨by decide, by decide⟩,
  f_iload_n (n := 1) (e_dx DX12_mixLot_0 12 rfl) rfl,
  f_imul (e_dx DX12_mixLot_0 13 rfl),
  f_iload_n (n := 2) (e_dx DX12_mixLot_0 14 rfl) rfl,
  f_iadd (e_dx DX12_mixLot_0 15 rfl),
  f_iaload (e_dx DX12_mixLot_0 16 rfl),
  f_g14 (e_dx DX12_mixLot_0 17 rfl),
  x_callV (e_dx DX12_mixLot_0 18 rfl) mwX12_mix vwX12_mix cX12_995 rfl,
  f_aload_n (n := 0) (e_dx DX12_mixLot_0 19 rfl) rfl,
  f_aload_n (n := 0) (e_dx DX12_mixLot_0 20 rfl) rfl,
  f_getA (e_dx DX12_mixLot_0 21 rfl) fX12_85 rfl (by decide) (Nat.le_of_ble_eq_true rfl) rfl (by decide),
  f_bipush (e_dx DX12_mixLot_0 22 rfl) ⟨by decide, by decide⟩,
  f_iload_n (n := 1) (e_dx DX12_mixLot_0 23 rfl) rfl,
  f_imul (e_dx DX12_mixLot_0 24 rfl),
  f_iload_n (n := 2) (e_dx DX12_mixLot_0 25 rfl) rfl,
  f_iadd (e_dx DX12_mixLot_0 26 rfl),
  f_iaload (e_dx DX12_mixLot_0 27 rfl),
  f_g14 (e_dx DX12_mixLot_0 28 rfl),
  x_callV (e_dx DX12_mixLot_0 29 rfl) mwX12_mix vwX12_mix cX12_995 rfl,
  f_g8 (e_dx DX12_mixLot_0 30 rfl) ⟨by decide, by decide⟩,
  f_g19 (e_dx DX12_mixLot_0 31 rfl) rfl,
  f_iconst (e_dx DX12_mixLot_0 32 rfl) ⟨by decide, by decide⟩,
  f_istore_n (n := 2) (e_dx DX12_mixLot_0 33 rfl) rfl (by decide),
  trivial,
  f_iload_n (n := 2) (e_dx DX12_mixLot_0 34 rfl) rfl,
  f_aload_n (n := 0) (e_dx DX12_mixLot_0 35 rfl) rfl,
  f_getA (e_dx DX12_mixLot_0 36 rfl) fX12_133 rfl (by decide) (Nat.le_of_ble_eq_true rfl) rfl (by decide),
  f_iload_n (n := 1) (e_dx DX12_mixLot_0 37 rfl) rfl,
  f_iaload (e_dx DX12_mixLot_0 38 rfl),
  f_icmp_ge (e_dx DX12_mixLot_0 39 rfl) rfl,
  f_aload_n (n := 0) (e_dx DX12_mixLot_1 0 rfl) rfl,
  f_aload_n (n := 0) (e_dx DX12_mixLot_1 1 rfl) rfl,
  f_aload_n (n := 0) (e_dx DX12_mixLot_1 2 rfl) rfl,
  f_getA (e_dx DX12_mixLot_1 3 rfl) fX12_136 rfl (by decide) (Nat.le_of_ble_eq_true rfl) rfl (by decide),
  f_bipush (e_dx DX12_mixLot_1 4 rfl) ⟨by decide, by decide⟩,
  f_iload_n (n := 1) (e_dx DX12_mixLot_1 5 rfl) rfl,
  f_imul (e_dx DX12_mixLot_1 6 rfl),
  f_iload_n (n := 2) (e_dx DX12_mixLot_1 7 rfl) rfl,
  f_iadd (e_dx DX12_mixLot_1 8 rfl),
  f_iaload (e_dx DX12_mixLot_1 9 rfl),
  x_callV (e_dx DX12_mixLot_1 10 rfl) mwX12_amongHere vwX12_amongHere cX12_987 rfl,
  f_g14 (e_dx DX12_mixLot_1 11 rfl),
  x_callV (e_dx DX12_mixLot_1 12 rfl) mwX12_mix vwX12_mix cX12_995 rfl,
  f_aload_n (n := 0) (e_dx DX12_mixLot_1 13 rfl) rfl,
  f_aload_n (n := 0) (e_dx DX12_mixLot_1 14 rfl) rfl,
  f_getA (e_dx DX12_mixLot_1 15 rfl) fX12_145 rfl (by decide) (Nat.le_of_ble_eq_true rfl) rfl (by decide),
  f_bipush (e_dx DX12_mixLot_1 16 rfl) ⟨by decide, by decide⟩,
  f_iload_n (n := 1) (e_dx DX12_mixLot_1 17 rfl) rfl,
  f_imul (e_dx DX12_mixLot_1 18 rfl),
  f_iload_n (n := 2) (e_dx DX12_mixLot_1 19 rfl) rfl,
  f_iadd (e_dx DX12_mixLot_1 20 rfl),
  f_laload (e_dx DX12_mixLot_1 21 rfl),
  x_callV (e_dx DX12_mixLot_1 22 rfl) mwX12_mix vwX12_mix cX12_995 rfl,
  f_aload_n (n := 0) (e_dx DX12_mixLot_1 23 rfl) rfl,
  f_aload_n (n := 0) (e_dx DX12_mixLot_1 24 rfl) rfl,
  f_getA (e_dx DX12_mixLot_1 25 rfl) fX12_148 rfl (by decide) (Nat.le_of_ble_eq_true rfl) rfl (by decide),
  f_bipush (e_dx DX12_mixLot_1 26 rfl) ⟨by decide, by decide⟩,
  f_iload_n (n := 1) (e_dx DX12_mixLot_1 27 rfl) rfl,
  f_imul (e_dx DX12_mixLot_1 28 rfl),
  f_iload_n (n := 2) (e_dx DX12_mixLot_1 29 rfl) rfl,
  f_iadd (e_dx DX12_mixLot_1 30 rfl),
  f_laload (e_dx DX12_mixLot_1 31 rfl),
  x_callV (e_dx DX12_mixLot_1 32 rfl) mwX12_mix vwX12_mix cX12_995 rfl,
  f_g8 (e_dx DX12_mixLot_1 33 rfl) ⟨by decide, by decide⟩,
  f_g19 (e_dx DX12_mixLot_1 34 rfl) rfl,
  f_iconst (e_dx DX12_mixLot_1 35 rfl) ⟨by decide, by decide⟩,
  f_istore_n (n := 2) (e_dx DX12_mixLot_1 36 rfl) rfl (by decide),
  trivial,
  f_iload_n (n := 2) (e_dx DX12_mixLot_1 37 rfl) rfl,
  f_aload_n (n := 0) (e_dx DX12_mixLot_1 38 rfl) rfl,
  f_getA (e_dx DX12_mixLot_1 39 rfl) fX12_139 rfl (by decide) (Nat.le_of_ble_eq_true rfl) rfl (by decide),
  f_iload_n (n := 1) (e_dx DX12_mixLot_2 0 rfl) rfl,
  f_iaload (e_dx DX12_mixLot_2 1 rfl),
  f_icmp_ge (e_dx DX12_mixLot_2 2 rfl) rfl,
  f_aload_n (n := 0) (e_dx DX12_mixLot_2 3 rfl) rfl,
  f_aload_n (n := 0) (e_dx DX12_mixLot_2 4 rfl) rfl,
  f_getA (e_dx DX12_mixLot_2 5 rfl) fX12_94 rfl (by decide) (Nat.le_of_ble_eq_true rfl) rfl (by decide),
  f_iconst (e_dx DX12_mixLot_2 6 rfl) ⟨by decide, by decide⟩,
  f_aload_n (n := 0) (e_dx DX12_mixLot_2 7 rfl) rfl,
  f_getA (e_dx DX12_mixLot_2 8 rfl) fX12_142 rfl (by decide) (Nat.le_of_ble_eq_true rfl) rfl (by decide),
  f_bipush (e_dx DX12_mixLot_2 9 rfl) ⟨by decide, by decide⟩,
  f_iload_n (n := 1) (e_dx DX12_mixLot_2 10 rfl) rfl,
  f_imul (e_dx DX12_mixLot_2 11 rfl),
  f_iload_n (n := 2) (e_dx DX12_mixLot_2 12 rfl) rfl,
  f_iadd (e_dx DX12_mixLot_2 13 rfl),
  f_iaload (e_dx DX12_mixLot_2 14 rfl),
  x_callS (e_dx DX12_mixLot_2 15 rfl) mwX12_id cX12_540 swX12_id rfl,
  f_laload (e_dx DX12_mixLot_2 16 rfl),
  x_callV (e_dx DX12_mixLot_2 17 rfl) mwX12_mix vwX12_mix cX12_995 rfl,
  f_g8 (e_dx DX12_mixLot_2 18 rfl) ⟨by decide, by decide⟩,
  f_g19 (e_dx DX12_mixLot_2 19 rfl) rfl,
  ⟨(e_dx DX12_mixLot_2 20 rfl), rfl⟩, trivial⟩
def lX12_mixLot (c_X12_mix : Int → e_M → (e_M → Prop) → Prop) (c_X12_amongHere : Int → e_M → (Int → Prop) → Prop) (c_X12_id : Int → Int → e_M → (Int → Prop) → Prop) : List (Nat × f_Wt) := [(0, f_wm [(4466, 12, 123), (2, 0, 0)] (fun ar M R => c_X12_mix (f_vi (f_nth ar 1)) M (fun M => R none M))), (1, f_wm [(4466, 12, 123), (1, 0, 0)] (fun ar M R => c_X12_amongHere (f_vi (f_nth ar 1)) M (fun r => R (some (.inl r)) M))), (2, f_wm [(1, 0, 0), (1, 0, 0)] (fun ar M R => c_X12_id (f_vi (f_nth ar 0)) (f_vi (f_nth ar 1)) M (fun r => R (some (.inl r)) M)))]
set_option maxRecDepth 20000 in
theorem BX12_mixLot_2 {sh : Nat → Nat × Nat} {t : Nat} {rm : Nat × Nat × Nat} {cs : Nat × Nat} {R : f_Rt} {c_X12_mix : Int → e_M → (e_M → Prop) → Prop} {c_X12_amongHere : Int → e_M → (Int → Prop) → Prop} {c_X12_id : Int → Int → e_M → (Int → Prop) → Prop} {k52 : Int → Int → e_M → Prop} {k2 : Int → Int → e_M → Prop} {x1 : Int} {x2 : Int} {M : e_M} (C : f_Hy sh t yX12_mixLot rm cs 8 (lX12_mixLot c_X12_mix c_X12_amongHere c_X12_id) R) (h52 : ∀ (x1 : Int) (x2 : Int) (M : e_M), k52 x1 x2 M → f_E sh t YX12_mixLot rm cs (f_Q sh t R) 52 [.inr (.inr (.inl (12, 123, 4456))), .inl x1, .inl x2] [] M) (h2 : ∀ (x1 : Int) (x2 : Int) (M : e_M), k2 x1 x2 M → f_E sh t YX12_mixLot rm cs (f_Q sh t R) 2 [.inr (.inr (.inl (12, 123, 4456))), .inl x1, .inl x2] [] M) (h : VX12_mixLot_2 c_X12_mix c_X12_amongHere c_X12_id k52 k2 (fun M => R none M) x1 x2 M) : f_E sh t YX12_mixLot rm cs (f_Q sh t R) 2 [.inr (.inr (.inl (12, 123, 4456))), .inl x1, .inl x2] [] M :=
  f_go (KC := f_kc [(52, f_pl [(4466, 12, 123), (1, 0, 0), (1, 0, 0)] [] (fun ls st M => k52 (f_vi (f_nth ls 1)) (f_vi (f_nth ls 2)) M)), (2, f_pl [(4466, 12, 123), (1, 0, 0), (1, 0, 0)] [] (fun ls st M => k2 (f_vi (f_nth ls 1)) (f_vi (f_nth ls 2)) M))]) C qX12_mixLotf (f_kc_cons (f_pl_ok rfl (fun ls st M h => h52 _ _ M h)) (f_kc_cons (f_pl_ok rfl (fun ls st M h => h2 _ _ M h)) f_kc_nil)) 106 3 h
set_option maxRecDepth 20000 in
theorem BX12_mixLot_52 {sh : Nat → Nat × Nat} {t : Nat} {rm : Nat × Nat × Nat} {cs : Nat × Nat} {R : f_Rt} {c_X12_mix : Int → e_M → (e_M → Prop) → Prop} {c_X12_amongHere : Int → e_M → (Int → Prop) → Prop} {c_X12_id : Int → Int → e_M → (Int → Prop) → Prop} {k120 : Int → Int → e_M → Prop} {k52 : Int → Int → e_M → Prop} {x1 : Int} {x2 : Int} {M : e_M} (C : f_Hy sh t yX12_mixLot rm cs 8 (lX12_mixLot c_X12_mix c_X12_amongHere c_X12_id) R) (h120 : ∀ (x1 : Int) (x2 : Int) (M : e_M), k120 x1 x2 M → f_E sh t YX12_mixLot rm cs (f_Q sh t R) 120 [.inr (.inr (.inl (12, 123, 4456))), .inl x1, .inl x2] [] M) (h52 : ∀ (x1 : Int) (x2 : Int) (M : e_M), k52 x1 x2 M → f_E sh t YX12_mixLot rm cs (f_Q sh t R) 52 [.inr (.inr (.inl (12, 123, 4456))), .inl x1, .inl x2] [] M) (h : VX12_mixLot_52 c_X12_mix c_X12_amongHere c_X12_id k120 k52 (fun M => R none M) x1 x2 M) : f_E sh t YX12_mixLot rm cs (f_Q sh t R) 52 [.inr (.inr (.inl (12, 123, 4456))), .inl x1, .inl x2] [] M :=
  f_go (KC := f_kc [(120, f_pl [(4466, 12, 123), (1, 0, 0), (1, 0, 0)] [] (fun ls st M => k120 (f_vi (f_nth ls 1)) (f_vi (f_nth ls 2)) M)), (52, f_pl [(4466, 12, 123), (1, 0, 0), (1, 0, 0)] [] (fun ls st M => k52 (f_vi (f_nth ls 1)) (f_vi (f_nth ls 2)) M))]) C qX12_mixLotf (f_kc_cons (f_pl_ok rfl (fun ls st M h => h120 _ _ M h)) (f_kc_cons (f_pl_ok rfl (fun ls st M h => h52 _ _ M h)) f_kc_nil)) 106 36 h
set_option maxRecDepth 20000 in
theorem BX12_mixLot_120 {sh : Nat → Nat × Nat} {t : Nat} {rm : Nat × Nat × Nat} {cs : Nat × Nat} {R : f_Rt} {c_X12_mix : Int → e_M → (e_M → Prop) → Prop} {c_X12_amongHere : Int → e_M → (Int → Prop) → Prop} {c_X12_id : Int → Int → e_M → (Int → Prop) → Prop} {k120 : Int → Int → e_M → Prop} {x1 : Int} {x2 : Int} {M : e_M} (C : f_Hy sh t yX12_mixLot rm cs 8 (lX12_mixLot c_X12_mix c_X12_amongHere c_X12_id) R) (h120 : ∀ (x1 : Int) (x2 : Int) (M : e_M), k120 x1 x2 M → f_E sh t YX12_mixLot rm cs (f_Q sh t R) 120 [.inr (.inr (.inl (12, 123, 4456))), .inl x1, .inl x2] [] M) (h : VX12_mixLot_120 c_X12_mix c_X12_amongHere c_X12_id k120 (fun M => R none M) x1 x2 M) : f_E sh t YX12_mixLot rm cs (f_Q sh t R) 120 [.inr (.inr (.inl (12, 123, 4456))), .inl x1, .inl x2] [] M :=
  f_go (KC := f_kc [(120, f_pl [(4466, 12, 123), (1, 0, 0), (1, 0, 0)] [] (fun ls st M => k120 (f_vi (f_nth ls 1)) (f_vi (f_nth ls 2)) M))]) C qX12_mixLotf (f_kc_cons (f_pl_ok rfl (fun ls st M h => h120 _ _ M h)) f_kc_nil) 106 80 h
set_option maxRecDepth 20000 in
theorem BX12_mixLot {sh : Nat → Nat × Nat} {t : Nat} {rm : Nat × Nat × Nat} {cs : Nat × Nat} {R : f_Rt} {c_X12_mix : Int → e_M → (e_M → Prop) → Prop} {c_X12_amongHere : Int → e_M → (Int → Prop) → Prop} {c_X12_id : Int → Int → e_M → (Int → Prop) → Prop} {k2 : Int → Int → e_M → Prop} {x1 : Int} {M : e_M} (C : f_Hy sh t yX12_mixLot rm cs 8 (lX12_mixLot c_X12_mix c_X12_amongHere c_X12_id) R) (h2 : ∀ (x1 : Int) (x2 : Int) (M : e_M), k2 x1 x2 M → f_E sh t YX12_mixLot rm cs (f_Q sh t R) 2 [.inr (.inr (.inl (12, 123, 4456))), .inl x1, .inl x2] [] M) (h : VX12_mixLot c_X12_mix c_X12_amongHere c_X12_id k2 (fun M => R none M) x1 M) : f_E sh t YX12_mixLot rm cs (f_Q sh t R) 0 [.inr (.inr (.inl (12, 123, 4456))), .inl x1, .inr (.inr (.inr ()))] [] M :=
  f_go (KC := f_kc [(2, f_pl [(4466, 12, 123), (1, 0, 0), (1, 0, 0)] [] (fun ls st M => k2 (f_vi (f_nth ls 1)) (f_vi (f_nth ls 2)) M))]) C qX12_mixLotf (f_kc_cons (f_pl_ok rfl (fun ls st M h => h2 _ _ M h)) f_kc_nil) 106 0 h
def WX12_mixLot_120 (Q : e_M → Prop) : Nat → Int → Int → e_M → Prop
  | 0, _, _, _ => False
  | n + 1, x1, x2, M =>
    VX12_mixLot_120 WX12_mix WX12_amongHere WX12_id (WX12_mixLot_120 Q n) Q x1 x2 M
def WX12_mixLot_52 (Q : e_M → Prop) : Nat → Int → Int → e_M → Prop
  | 0, _, _, _ => False
  | n + 1, x1, x2, M =>
    VX12_mixLot_52 WX12_mix WX12_amongHere WX12_id (fun x1 x2 M => ∃ j, WX12_mixLot_120 Q j x1 x2 M) (WX12_mixLot_52 Q n) Q x1 x2 M
def WX12_mixLot_2 (Q : e_M → Prop) : Nat → Int → Int → e_M → Prop
  | 0, _, _, _ => False
  | n + 1, x1, x2, M =>
    VX12_mixLot_2 WX12_mix WX12_amongHere WX12_id (fun x1 x2 M => ∃ j, WX12_mixLot_52 Q j x1 x2 M) (WX12_mixLot_2 Q n) Q x1 x2 M
def WX12_mixLot (x1 : Int) (M : e_M) (Q : e_M → Prop) : Prop :=
  VX12_mixLot WX12_mix WX12_amongHere WX12_id (fun x1 x2 M => ∃ j, WX12_mixLot_2 Q j x1 x2 M) Q x1 M
theorem PX12_mixLot_120 {sh : Nat → Nat × Nat} {t : Nat} {rm : Nat × Nat × Nat} {cs : Nat × Nat} {R : f_Rt} (C : f_Hy sh t yX12_mixLot rm cs 8 (lX12_mixLot WX12_mix WX12_amongHere WX12_id) R) : ∀ (n : Nat) (x1 : Int) (x2 : Int) (M : e_M), WX12_mixLot_120 (fun M => R none M) n x1 x2 M → f_E sh t YX12_mixLot rm cs (f_Q sh t R) 120 [.inr (.inr (.inl (12, 123, 4456))), .inl x1, .inl x2] [] M := by
  intro n
  induction n with
  | zero => intro x1 x2 M h; exact h.elim
  | succ n ih => intro x1 x2 M h; exact BX12_mixLot_120 C ih h
theorem PX12_mixLot_52 {sh : Nat → Nat × Nat} {t : Nat} {rm : Nat × Nat × Nat} {cs : Nat × Nat} {R : f_Rt} (C : f_Hy sh t yX12_mixLot rm cs 8 (lX12_mixLot WX12_mix WX12_amongHere WX12_id) R) : ∀ (n : Nat) (x1 : Int) (x2 : Int) (M : e_M), WX12_mixLot_52 (fun M => R none M) n x1 x2 M → f_E sh t YX12_mixLot rm cs (f_Q sh t R) 52 [.inr (.inr (.inl (12, 123, 4456))), .inl x1, .inl x2] [] M := by
  intro n
  induction n with
  | zero => intro x1 x2 M h; exact h.elim
  | succ n ih => intro x1 x2 M h; exact BX12_mixLot_52 C (fun x1 x2 M ⟨j, h⟩ => PX12_mixLot_120 C j _ _ _ h) ih h
theorem PX12_mixLot_2 {sh : Nat → Nat × Nat} {t : Nat} {rm : Nat × Nat × Nat} {cs : Nat × Nat} {R : f_Rt} (C : f_Hy sh t yX12_mixLot rm cs 8 (lX12_mixLot WX12_mix WX12_amongHere WX12_id) R) : ∀ (n : Nat) (x1 : Int) (x2 : Int) (M : e_M), WX12_mixLot_2 (fun M => R none M) n x1 x2 M → f_E sh t YX12_mixLot rm cs (f_Q sh t R) 2 [.inr (.inr (.inl (12, 123, 4456))), .inl x1, .inl x2] [] M := by
  intro n
  induction n with
  | zero => intro x1 x2 M h; exact h.elim
  | succ n ih => intro x1 x2 M h; exact BX12_mixLot_2 C (fun x1 x2 M ⟨j, h⟩ => PX12_mixLot_52 C j _ _ _ h) ih h
theorem PX12_mixLot {sh : Nat → Nat × Nat} {t : Nat} {rm : Nat × Nat × Nat} {cs : Nat × Nat} {R : f_Rt} {x1 : Int} {M : e_M} (C : f_Hy sh t yX12_mixLot rm cs 8 (lX12_mixLot WX12_mix WX12_amongHere WX12_id) R) (h : WX12_mixLot x1 M (fun M => R none M)) : f_E sh t YX12_mixLot rm cs (f_Q sh t R) 0 [.inr (.inr (.inl (12, 123, 4456))), .inl x1, .inr (.inr (.inr ()))] [] M :=
  BX12_mixLot C (fun x1 x2 M ⟨j, h⟩ => PX12_mixLot_2 C j _ _ _ h) h
def wX12_mixLot : f_Wt := f_wm [(4466, 12, 123), (1, 0, 0)] (fun ar M R => WX12_mixLot (f_vi (f_nth ar 1)) M (fun M => R none M))
theorem TX12_mixLot {sh : Nat → Nat × Nat} {t : Nat} : f_Mt sh t YX12_mixLot 8 (wX12_mixLot) :=
  f_Mt_of (k := 1) (Nat.le_of_ble_eq_true rfl) rfl rfl (fun ar M R rm cs h1 h2 h3 hX h => PX12_mixLot ⟨Nat.le_of_ble_eq_true rfl, h1, h2, h3, ⟨(f_Mt.up (Nat.le_of_ble_eq_true rfl) TX12_mix), (f_Mt.up (Nat.le_of_ble_eq_true rfl) TX12_amongHere), (f_Mt.up (Nat.le_of_ble_eq_true rfl) TX12_id), trivial⟩, hX⟩ h)
def VX12_mixOther_8 (c_X12_id : Int → Int → e_M → (Int → Prop) → Prop) (c_X12_mix : Int → e_M → (e_M → Prop) → Prop) (k50 : Int → Int → Int → e_M → Prop) (k8 : Int → Int → Int → e_M → Prop) (Q : e_M → Prop) (x1 : Int) (x2 : Int) (x3 : Int) (M : e_M) : Prop :=
  ((0 ≤ x2 ∧ x2 < 560) ∧ (((M 4494 (x2.toNat)) ≤ x3 → (k50 x1 x2 0 M)) ∧ (x3 < (M 4494 (x2.toNat)) → ((0 ≤ (e_w32 ((e_w32 ((8 : Int) * x2)) + x3)) ∧ (e_w32 ((e_w32 ((8 : Int) * x2)) + x3)) < 4480) ∧ (c_X12_id 0 (M 4495 ((e_w32 ((e_w32 ((8 : Int) * x2)) + x3)).toNat)) M (fun r1 => ((0 ≤ r1 ∧ r1 < 560) ∧ (c_X12_mix (M 4484 (r1.toNat)) M (fun M2 => (k8 x1 x2 (e_w32 (x3 + 1)) M2))))))))))
def VX12_mixOther_50 (c_X12_id : Int → Int → e_M → (Int → Prop) → Prop) (c_X12_mix : Int → e_M → (e_M → Prop) → Prop) (k50 : Int → Int → Int → e_M → Prop) (Q : e_M → Prop) (x1 : Int) (x2 : Int) (x3 : Int) (M : e_M) : Prop :=
  ((0 ≤ x2 ∧ x2 < 560) ∧ (((M 4492 (x2.toNat)) ≤ x3 → ((x1 = 3 → (Q M)) ∧ (¬ x1 = 3 → ((0 ≤ x2 ∧ x2 < 560) ∧ (c_X12_id 1 (M 4489 (x2.toNat)) M (fun r1 => ((0 ≤ r1 ∧ r1 < 560) ∧ (c_X12_mix (M 4484 (r1.toNat)) M (fun M2 => (Q M2)))))))))) ∧ (x3 < (M 4492 (x2.toNat)) → ((0 ≤ (e_w32 ((e_w32 ((8 : Int) * x2)) + x3)) ∧ (e_w32 ((e_w32 ((8 : Int) * x2)) + x3)) < 4480) ∧ (c_X12_id 0 (M 4493 ((e_w32 ((e_w32 ((8 : Int) * x2)) + x3)).toNat)) M (fun r3 => ((0 ≤ r3 ∧ r3 < 560) ∧ (c_X12_mix (M 4484 (r3.toNat)) M (fun M4 => (k50 x1 x2 (e_w32 (x3 + 1)) M4))))))))))
def VX12_mixOther (c_X12_id : Int → Int → e_M → (Int → Prop) → Prop) (c_X12_mix : Int → e_M → (e_M → Prop) → Prop) (k8 : Int → Int → Int → e_M → Prop) (Q : e_M → Prop) (x1 : Int) (x2 : Int) (M : e_M) : Prop :=
  ((¬ x1 = 1 → (k8 x1 x2 0 M)) ∧ (x1 = 1 → (Q M)))
def yX12_mixOther (i : Nat) : e_Y := x_get YX12_mixOther [YX12_id, YX12_mix] i
def pX12_mixOtherf : List x_I := [(0, 2, 1, 1, 0, 0, []), (1, 0, 1, 0, 0, 1, []), (2, 18, 6, 1, 5, 0, []), (5, 44, 0, 0, 0, 0, []), (6, 0, 1, 0, 0, 0, []), (7, 5, 1, 3, 0, 0, []), (8, 49, 0, 0, 0, 0, []), (8, 2, 1, 3, 0, 0, []), (9, 4, 1, 0, 0, 0, []), (10, 25, 12, 61, 4, 0, [(0, 20, 560), (0, 1, 38)]), (13, 2, 1, 2, 0, 0, []), (14, 27, 0, 0, 0, 0, []), (15, 18, 48, 3, 31, 0, []), (18, 4, 1, 0, 0, 0, []), (19, 4, 1, 0, 0, 0, []), (20, 25, 12, 51, 4, 0, [(0, 23, 560), (0, 1, 28)]), (23, 0, 1, 0, 0, 0, []), (24, 4, 1, 0, 0, 0, []), (25, 25, 12, 62, 4, 0, [(0, 20, 4480), (0, 1, 39)]), (28, 0, 2, 0, 0, 8, []), (30, 2, 1, 2, 0, 0, []), (31, 9, 0, 2, 0, 0, []), (32, 2, 1, 3, 0, 0, []), (33, 9, 0, 0, 0, 0, []), (34, 27, 0, 0, 0, 0, []), (35, 40, 0, 2, 0, 0, []), (38, 27, 0, 1, 0, 0, []), (39, 40, 1, 2, 14, 0, []), (42, 8, 0, 3, 0, 1, []), (45, 19, 8, 0, 7, 0, []), (48, 0, 1, 0, 0, 0, []), (49, 5, 1, 3, 0, 0, []), (50, 49, 0, 0, 0, 0, []), (50, 2, 1, 3, 0, 0, []), (51, 4, 1, 0, 0, 0, []), (52, 25, 12, 59, 4, 0, [(0, 20, 560), (0, 1, 36)]), (55, 2, 1, 2, 0, 0, []), (56, 27, 0, 0, 0, 0, []), (57, 18, 90, 3, 57, 0, []), (60, 4, 1, 0, 0, 0, []), (61, 4, 1, 0, 0, 0, []), (62, 25, 12, 51, 4, 0, [(0, 23, 560), (0, 1, 28)]), (65, 0, 1, 0, 0, 0, []), (66, 4, 1, 0, 0, 0, []), (67, 25, 12, 60, 4, 0, [(0, 20, 4480), (0, 1, 37)]), (70, 0, 2, 0, 0, 8, []), (72, 2, 1, 2, 0, 0, []), (73, 9, 0, 2, 0, 0, []), (74, 2, 1, 3, 0, 0, []), (75, 9, 0, 0, 0, 0, []), (76, 27, 0, 0, 0, 0, []), (77, 40, 0, 2, 0, 0, []), (80, 27, 0, 1, 0, 0, []), (81, 40, 1, 2, 14, 0, []), (84, 8, 0, 3, 0, 1, []), (87, 19, 50, 0, 33, 0, []), (90, 2, 1, 1, 0, 0, []), (91, 0, 1, 0, 0, 3, []), (92, 18, 114, 0, 71, 0, []), (95, 4, 1, 0, 0, 0, []), (96, 4, 1, 0, 0, 0, []), (97, 25, 12, 51, 4, 0, [(0, 23, 560), (0, 1, 28)]), (100, 0, 1, 0, 0, 1, []), (101, 4, 1, 0, 0, 0, []), (102, 25, 12, 56, 4, 0, [(0, 20, 560), (0, 1, 33)]), (105, 2, 1, 2, 0, 0, []), (106, 27, 0, 0, 0, 0, []), (107, 40, 0, 2, 0, 0, []), (110, 27, 0, 1, 0, 0, []), (111, 40, 1, 2, 14, 0, []), (114, 44, 0, 0, 0, 0, [])]
set_option maxRecDepth 20000 in
theorem qX12_mixOtherf : f_all yX12_mixOther YX12_mixOther pX12_mixOtherf :=
  ⟨f_iload_n (n := 1) (e_dx DX12_mixOther_0 0 rfl) rfl,
  f_iconst (e_dx DX12_mixOther_0 1 rfl) ⟨by decide, by decide⟩,
  f_icmp_ne (e_dx DX12_mixOther_0 2 rfl) rfl,
  ⟨(e_dx DX12_mixOther_0 3 rfl), rfl⟩,
  f_iconst (e_dx DX12_mixOther_0 4 rfl) ⟨by decide, by decide⟩,
  f_istore_n (n := 3) (e_dx DX12_mixOther_0 5 rfl) rfl (by decide),
  trivial,
  f_iload_n (n := 3) (e_dx DX12_mixOther_0 6 rfl) rfl,
  f_aload_n (n := 0) (e_dx DX12_mixOther_0 7 rfl) rfl,
  f_getA (e_dx DX12_mixOther_0 8 rfl) fX12_124 rfl (by decide) (Nat.le_of_ble_eq_true rfl) rfl (by decide),
  f_iload_n (n := 2) (e_dx DX12_mixOther_0 9 rfl) rfl,
  f_iaload (e_dx DX12_mixOther_0 10 rfl),
  f_icmp_ge (e_dx DX12_mixOther_0 11 rfl) rfl,
  f_aload_n (n := 0) (e_dx DX12_mixOther_0 12 rfl) rfl,
  f_aload_n (n := 0) (e_dx DX12_mixOther_0 13 rfl) rfl,
  f_getA (e_dx DX12_mixOther_0 14 rfl) fX12_94 rfl (by decide) (Nat.le_of_ble_eq_true rfl) rfl (by decide),
  f_iconst (e_dx DX12_mixOther_0 15 rfl) ⟨by decide, by decide⟩,
  f_aload_n (n := 0) (e_dx DX12_mixOther_0 16 rfl) rfl,
  f_getA (e_dx DX12_mixOther_0 17 rfl) fX12_127 rfl (by decide) (Nat.le_of_ble_eq_true rfl) rfl (by decide),
  f_bipush (e_dx DX12_mixOther_0 18 rfl) ⟨by decide, by decide⟩,
  f_iload_n (n := 2) (e_dx DX12_mixOther_0 19 rfl) rfl,
  f_imul (e_dx DX12_mixOther_0 20 rfl),
  f_iload_n (n := 3) (e_dx DX12_mixOther_0 21 rfl) rfl,
  f_iadd (e_dx DX12_mixOther_0 22 rfl),
  f_iaload (e_dx DX12_mixOther_0 23 rfl),
  x_callS (e_dx DX12_mixOther_0 24 rfl) mwX12_id cX12_540 swX12_id rfl,
  f_laload (e_dx DX12_mixOther_0 25 rfl),
  x_callV (e_dx DX12_mixOther_0 26 rfl) mwX12_mix vwX12_mix cX12_995 rfl,
  f_g8 (e_dx DX12_mixOther_0 27 rfl) ⟨by decide, by decide⟩,
  f_g19 (e_dx DX12_mixOther_0 28 rfl) rfl,
  f_iconst (e_dx DX12_mixOther_0 29 rfl) ⟨by decide, by decide⟩,
  f_istore_n (n := 3) (e_dx DX12_mixOther_0 30 rfl) rfl (by decide),
  trivial,
  f_iload_n (n := 3) (e_dx DX12_mixOther_0 31 rfl) rfl,
  f_aload_n (n := 0) (e_dx DX12_mixOther_0 32 rfl) rfl,
  f_getA (e_dx DX12_mixOther_0 33 rfl) fX12_118 rfl (by decide) (Nat.le_of_ble_eq_true rfl) rfl (by decide),
  f_iload_n (n := 2) (e_dx DX12_mixOther_0 34 rfl) rfl,
  f_iaload (e_dx DX12_mixOther_0 35 rfl),
  f_icmp_ge (e_dx DX12_mixOther_0 36 rfl) rfl,
  f_aload_n (n := 0) (e_dx DX12_mixOther_0 37 rfl) rfl,
  f_aload_n (n := 0) (e_dx DX12_mixOther_0 38 rfl) rfl,
  f_getA (e_dx DX12_mixOther_0 39 rfl) fX12_94 rfl (by decide) (Nat.le_of_ble_eq_true rfl) rfl (by decide),
  f_iconst (e_dx DX12_mixOther_1 0 rfl) ⟨by decide, by decide⟩,
  f_aload_n (n := 0) (e_dx DX12_mixOther_1 1 rfl) rfl,
  f_getA (e_dx DX12_mixOther_1 2 rfl) fX12_121 rfl (by decide) (Nat.le_of_ble_eq_true rfl) rfl (by decide),
  f_bipush (e_dx DX12_mixOther_1 3 rfl) ⟨by decide, by decide⟩,
  f_iload_n (n := 2) (e_dx DX12_mixOther_1 4 rfl) rfl,
  f_imul (e_dx DX12_mixOther_1 5 rfl),
  f_iload_n (n := 3) (e_dx DX12_mixOther_1 6 rfl) rfl,
  f_iadd (e_dx DX12_mixOther_1 7 rfl),
  f_iaload (e_dx DX12_mixOther_1 8 rfl),
  x_callS (e_dx DX12_mixOther_1 9 rfl) mwX12_id cX12_540 swX12_id rfl,
  f_laload (e_dx DX12_mixOther_1 10 rfl),
  x_callV (e_dx DX12_mixOther_1 11 rfl) mwX12_mix vwX12_mix cX12_995 rfl,
  f_g8 (e_dx DX12_mixOther_1 12 rfl) ⟨by decide, by decide⟩,
  f_g19 (e_dx DX12_mixOther_1 13 rfl) rfl,
  f_iload_n (n := 1) (e_dx DX12_mixOther_1 14 rfl) rfl,
  f_iconst (e_dx DX12_mixOther_1 15 rfl) ⟨by decide, by decide⟩,
  f_icmp_eq (e_dx DX12_mixOther_1 16 rfl) rfl,
  f_aload_n (n := 0) (e_dx DX12_mixOther_1 17 rfl) rfl,
  f_aload_n (n := 0) (e_dx DX12_mixOther_1 18 rfl) rfl,
  f_getA (e_dx DX12_mixOther_1 19 rfl) fX12_94 rfl (by decide) (Nat.le_of_ble_eq_true rfl) rfl (by decide),
  f_iconst (e_dx DX12_mixOther_1 20 rfl) ⟨by decide, by decide⟩,
  f_aload_n (n := 0) (e_dx DX12_mixOther_1 21 rfl) rfl,
  f_getA (e_dx DX12_mixOther_1 22 rfl) fX12_109 rfl (by decide) (Nat.le_of_ble_eq_true rfl) rfl (by decide),
  f_iload_n (n := 2) (e_dx DX12_mixOther_1 23 rfl) rfl,
  f_iaload (e_dx DX12_mixOther_1 24 rfl),
  x_callS (e_dx DX12_mixOther_1 25 rfl) mwX12_id cX12_540 swX12_id rfl,
  f_laload (e_dx DX12_mixOther_1 26 rfl),
  x_callV (e_dx DX12_mixOther_1 27 rfl) mwX12_mix vwX12_mix cX12_995 rfl,
  ⟨(e_dx DX12_mixOther_1 28 rfl), rfl⟩, trivial⟩
def lX12_mixOther (c_X12_id : Int → Int → e_M → (Int → Prop) → Prop) (c_X12_mix : Int → e_M → (e_M → Prop) → Prop) : List (Nat × f_Wt) := [(0, f_wm [(1, 0, 0), (1, 0, 0)] (fun ar M R => c_X12_id (f_vi (f_nth ar 0)) (f_vi (f_nth ar 1)) M (fun r => R (some (.inl r)) M))), (1, f_wm [(4466, 12, 123), (2, 0, 0)] (fun ar M R => c_X12_mix (f_vi (f_nth ar 1)) M (fun M => R none M)))]
set_option maxRecDepth 20000 in
theorem BX12_mixOther_8 {sh : Nat → Nat × Nat} {t : Nat} {rm : Nat × Nat × Nat} {cs : Nat × Nat} {R : f_Rt} {c_X12_id : Int → Int → e_M → (Int → Prop) → Prop} {c_X12_mix : Int → e_M → (e_M → Prop) → Prop} {k50 : Int → Int → Int → e_M → Prop} {k8 : Int → Int → Int → e_M → Prop} {x1 : Int} {x2 : Int} {x3 : Int} {M : e_M} (C : f_Hy sh t yX12_mixOther rm cs 5 (lX12_mixOther c_X12_id c_X12_mix) R) (h50 : ∀ (x1 : Int) (x2 : Int) (x3 : Int) (M : e_M), k50 x1 x2 x3 M → f_E sh t YX12_mixOther rm cs (f_Q sh t R) 50 [.inr (.inr (.inl (12, 123, 4456))), .inl x1, .inl x2, .inl x3] [] M) (h8 : ∀ (x1 : Int) (x2 : Int) (x3 : Int) (M : e_M), k8 x1 x2 x3 M → f_E sh t YX12_mixOther rm cs (f_Q sh t R) 8 [.inr (.inr (.inl (12, 123, 4456))), .inl x1, .inl x2, .inl x3] [] M) (h : VX12_mixOther_8 c_X12_id c_X12_mix k50 k8 (fun M => R none M) x1 x2 x3 M) : f_E sh t YX12_mixOther rm cs (f_Q sh t R) 8 [.inr (.inr (.inl (12, 123, 4456))), .inl x1, .inl x2, .inl x3] [] M :=
  f_go (KC := f_kc [(50, f_pl [(4466, 12, 123), (1, 0, 0), (1, 0, 0), (1, 0, 0)] [] (fun ls st M => k50 (f_vi (f_nth ls 1)) (f_vi (f_nth ls 2)) (f_vi (f_nth ls 3)) M)), (8, f_pl [(4466, 12, 123), (1, 0, 0), (1, 0, 0), (1, 0, 0)] [] (fun ls st M => k8 (f_vi (f_nth ls 1)) (f_vi (f_nth ls 2)) (f_vi (f_nth ls 3)) M))]) C qX12_mixOtherf (f_kc_cons (f_pl_ok rfl (fun ls st M h => h50 _ _ _ M h)) (f_kc_cons (f_pl_ok rfl (fun ls st M h => h8 _ _ _ M h)) f_kc_nil)) 73 7 h
set_option maxRecDepth 20000 in
theorem BX12_mixOther_50 {sh : Nat → Nat × Nat} {t : Nat} {rm : Nat × Nat × Nat} {cs : Nat × Nat} {R : f_Rt} {c_X12_id : Int → Int → e_M → (Int → Prop) → Prop} {c_X12_mix : Int → e_M → (e_M → Prop) → Prop} {k50 : Int → Int → Int → e_M → Prop} {x1 : Int} {x2 : Int} {x3 : Int} {M : e_M} (C : f_Hy sh t yX12_mixOther rm cs 5 (lX12_mixOther c_X12_id c_X12_mix) R) (h50 : ∀ (x1 : Int) (x2 : Int) (x3 : Int) (M : e_M), k50 x1 x2 x3 M → f_E sh t YX12_mixOther rm cs (f_Q sh t R) 50 [.inr (.inr (.inl (12, 123, 4456))), .inl x1, .inl x2, .inl x3] [] M) (h : VX12_mixOther_50 c_X12_id c_X12_mix k50 (fun M => R none M) x1 x2 x3 M) : f_E sh t YX12_mixOther rm cs (f_Q sh t R) 50 [.inr (.inr (.inl (12, 123, 4456))), .inl x1, .inl x2, .inl x3] [] M :=
  f_go (KC := f_kc [(50, f_pl [(4466, 12, 123), (1, 0, 0), (1, 0, 0), (1, 0, 0)] [] (fun ls st M => k50 (f_vi (f_nth ls 1)) (f_vi (f_nth ls 2)) (f_vi (f_nth ls 3)) M))]) C qX12_mixOtherf (f_kc_cons (f_pl_ok rfl (fun ls st M h => h50 _ _ _ M h)) f_kc_nil) 73 33 h
set_option maxRecDepth 20000 in
theorem BX12_mixOther {sh : Nat → Nat × Nat} {t : Nat} {rm : Nat × Nat × Nat} {cs : Nat × Nat} {R : f_Rt} {c_X12_id : Int → Int → e_M → (Int → Prop) → Prop} {c_X12_mix : Int → e_M → (e_M → Prop) → Prop} {k8 : Int → Int → Int → e_M → Prop} {x1 : Int} {x2 : Int} {M : e_M} (C : f_Hy sh t yX12_mixOther rm cs 5 (lX12_mixOther c_X12_id c_X12_mix) R) (h8 : ∀ (x1 : Int) (x2 : Int) (x3 : Int) (M : e_M), k8 x1 x2 x3 M → f_E sh t YX12_mixOther rm cs (f_Q sh t R) 8 [.inr (.inr (.inl (12, 123, 4456))), .inl x1, .inl x2, .inl x3] [] M) (h : VX12_mixOther c_X12_id c_X12_mix k8 (fun M => R none M) x1 x2 M) : f_E sh t YX12_mixOther rm cs (f_Q sh t R) 0 [.inr (.inr (.inl (12, 123, 4456))), .inl x1, .inl x2, .inr (.inr (.inr ()))] [] M :=
  f_go (KC := f_kc [(8, f_pl [(4466, 12, 123), (1, 0, 0), (1, 0, 0), (1, 0, 0)] [] (fun ls st M => k8 (f_vi (f_nth ls 1)) (f_vi (f_nth ls 2)) (f_vi (f_nth ls 3)) M))]) C qX12_mixOtherf (f_kc_cons (f_pl_ok rfl (fun ls st M h => h8 _ _ _ M h)) f_kc_nil) 73 0 h
def WX12_mixOther_50 (Q : e_M → Prop) : Nat → Int → Int → Int → e_M → Prop
  | 0, _, _, _, _ => False
  | n + 1, x1, x2, x3, M =>
    VX12_mixOther_50 WX12_id WX12_mix (WX12_mixOther_50 Q n) Q x1 x2 x3 M
def WX12_mixOther_8 (Q : e_M → Prop) : Nat → Int → Int → Int → e_M → Prop
  | 0, _, _, _, _ => False
  | n + 1, x1, x2, x3, M =>
    VX12_mixOther_8 WX12_id WX12_mix (fun x1 x2 x3 M => ∃ j, WX12_mixOther_50 Q j x1 x2 x3 M) (WX12_mixOther_8 Q n) Q x1 x2 x3 M
def WX12_mixOther (x1 : Int) (x2 : Int) (M : e_M) (Q : e_M → Prop) : Prop :=
  VX12_mixOther WX12_id WX12_mix (fun x1 x2 x3 M => ∃ j, WX12_mixOther_8 Q j x1 x2 x3 M) Q x1 x2 M
theorem PX12_mixOther_50 {sh : Nat → Nat × Nat} {t : Nat} {rm : Nat × Nat × Nat} {cs : Nat × Nat} {R : f_Rt} (C : f_Hy sh t yX12_mixOther rm cs 5 (lX12_mixOther WX12_id WX12_mix) R) : ∀ (n : Nat) (x1 : Int) (x2 : Int) (x3 : Int) (M : e_M), WX12_mixOther_50 (fun M => R none M) n x1 x2 x3 M → f_E sh t YX12_mixOther rm cs (f_Q sh t R) 50 [.inr (.inr (.inl (12, 123, 4456))), .inl x1, .inl x2, .inl x3] [] M := by
  intro n
  induction n with
  | zero => intro x1 x2 x3 M h; exact h.elim
  | succ n ih => intro x1 x2 x3 M h; exact BX12_mixOther_50 C ih h
theorem PX12_mixOther_8 {sh : Nat → Nat × Nat} {t : Nat} {rm : Nat × Nat × Nat} {cs : Nat × Nat} {R : f_Rt} (C : f_Hy sh t yX12_mixOther rm cs 5 (lX12_mixOther WX12_id WX12_mix) R) : ∀ (n : Nat) (x1 : Int) (x2 : Int) (x3 : Int) (M : e_M), WX12_mixOther_8 (fun M => R none M) n x1 x2 x3 M → f_E sh t YX12_mixOther rm cs (f_Q sh t R) 8 [.inr (.inr (.inl (12, 123, 4456))), .inl x1, .inl x2, .inl x3] [] M := by
  intro n
  induction n with
  | zero => intro x1 x2 x3 M h; exact h.elim
  | succ n ih => intro x1 x2 x3 M h; exact BX12_mixOther_8 C (fun x1 x2 x3 M ⟨j, h⟩ => PX12_mixOther_50 C j _ _ _ _ h) ih h
theorem PX12_mixOther {sh : Nat → Nat × Nat} {t : Nat} {rm : Nat × Nat × Nat} {cs : Nat × Nat} {R : f_Rt} {x1 : Int} {x2 : Int} {M : e_M} (C : f_Hy sh t yX12_mixOther rm cs 5 (lX12_mixOther WX12_id WX12_mix) R) (h : WX12_mixOther x1 x2 M (fun M => R none M)) : f_E sh t YX12_mixOther rm cs (f_Q sh t R) 0 [.inr (.inr (.inl (12, 123, 4456))), .inl x1, .inl x2, .inr (.inr (.inr ()))] [] M :=
  BX12_mixOther C (fun x1 x2 x3 M ⟨j, h⟩ => PX12_mixOther_8 C j _ _ _ _ h) h
def wX12_mixOther : f_Wt := f_wm [(4466, 12, 123), (1, 0, 0), (1, 0, 0)] (fun ar M R => WX12_mixOther (f_vi (f_nth ar 1)) (f_vi (f_nth ar 2)) M (fun M => R none M))
theorem TX12_mixOther {sh : Nat → Nat × Nat} {t : Nat} : f_Mt sh t YX12_mixOther 5 (wX12_mixOther) :=
  f_Mt_of (k := 1) (Nat.le_of_ble_eq_true rfl) rfl rfl (fun ar M R rm cs h1 h2 h3 hX h => PX12_mixOther ⟨Nat.le_of_ble_eq_true rfl, h1, h2, h3, ⟨(f_Mt.up (Nat.le_of_ble_eq_true rfl) TX12_id), (f_Mt.up (Nat.le_of_ble_eq_true rfl) TX12_mix), trivial⟩, hX⟩ h)
def VX12_sum_24 (c_X12_look : Int → Int → e_M → (e_M → Prop) → Prop) (c_X12_isHere : Int → Int → e_M → (Int → Prop) → Prop) (c_X12_id : Int → Int → e_M → (Int → Prop) → Prop) (c_X12_mix : Int → e_M → (e_M → Prop) → Prop) (c_X12_toldOf : Int → Int → Int → e_M → (Int → Prop) → Prop) (c_X12_mixLot : Int → e_M → (e_M → Prop) → Prop) (c_X12_mixOther : Int → Int → e_M → (e_M → Prop) → Prop) (k32 : Int → Int → e_M → Prop) (Q : Int → e_M → Prop) (x1 : Int) (M : e_M) : Prop :=
  ((7 ≤ x1 → (Q (M 4456 122) M)) ∧ (x1 < 7 → (k32 x1 0 M)))
def VX12_sum_32 (c_X12_look : Int → Int → e_M → (e_M → Prop) → Prop) (c_X12_isHere : Int → Int → e_M → (Int → Prop) → Prop) (c_X12_id : Int → Int → e_M → (Int → Prop) → Prop) (c_X12_mix : Int → e_M → (e_M → Prop) → Prop) (c_X12_toldOf : Int → Int → Int → e_M → (Int → Prop) → Prop) (c_X12_mixLot : Int → e_M → (e_M → Prop) → Prop) (c_X12_mixOther : Int → Int → e_M → (e_M → Prop) → Prop) (k24 : Int → e_M → Prop) (k73 : Int → Int → Int → Int → e_M → Prop) (k120 : Int → Int → e_M → Prop) (Q : Int → e_M → Prop) (x1 : Int) (x2 : Int) (M : e_M) : Prop :=
  ((0 ≤ x1 ∧ x1 < 7) ∧ (((M 4483 (x1.toNat)) ≤ x2 → (k24 (e_w32 (x1 + 1)) M)) ∧ (x2 < (M 4483 (x1.toNat)) → (c_X12_isHere x1 x2 M (fun r1 => ((¬ r1 = 0 → (c_X12_id x1 x2 M (fun r2 => ((0 ≤ r2 ∧ r2 < 560) ∧ (c_X12_mix (M 4484 (r2.toNat)) M (fun M3 => (k73 x1 x2 r2 0 M3))))))) ∧ (r1 = 0 → (k120 x1 x2 M))))))))
def VX12_sum_73 (c_X12_look : Int → Int → e_M → (e_M → Prop) → Prop) (c_X12_isHere : Int → Int → e_M → (Int → Prop) → Prop) (c_X12_id : Int → Int → e_M → (Int → Prop) → Prop) (c_X12_mix : Int → e_M → (e_M → Prop) → Prop) (c_X12_toldOf : Int → Int → Int → e_M → (Int → Prop) → Prop) (c_X12_mixLot : Int → e_M → (e_M → Prop) → Prop) (c_X12_mixOther : Int → Int → e_M → (e_M → Prop) → Prop) (k120 : Int → Int → e_M → Prop) (k73 : Int → Int → Int → Int → e_M → Prop) (Q : Int → e_M → Prop) (x1 : Int) (x2 : Int) (x3 : Int) (x4 : Int) (M : e_M) : Prop :=
  ((0 ≤ x1 ∧ x1 < 7) ∧ (((f_kt 1000004 (x1.toNat)) ≤ x4 → ((¬ x1 = 0 → (c_X12_mixOther x1 x3 M (fun M1 => (k120 x1 x2 M1)))) ∧ (x1 = 0 → (c_X12_mixLot x2 M (fun M2 => (k120 x1 x2 M2)))))) ∧ (x4 < (f_kt 1000004 (x1.toNat)) → (c_X12_toldOf x1 x2 x4 M (fun r3 => (c_X12_mix r3 M (fun M4 => (k73 x1 x2 x3 (e_w32 (x4 + 1)) M4))))))))
def VX12_sum_120 (c_X12_look : Int → Int → e_M → (e_M → Prop) → Prop) (c_X12_isHere : Int → Int → e_M → (Int → Prop) → Prop) (c_X12_id : Int → Int → e_M → (Int → Prop) → Prop) (c_X12_mix : Int → e_M → (e_M → Prop) → Prop) (c_X12_toldOf : Int → Int → Int → e_M → (Int → Prop) → Prop) (c_X12_mixLot : Int → e_M → (e_M → Prop) → Prop) (c_X12_mixOther : Int → Int → e_M → (e_M → Prop) → Prop) (k32 : Int → Int → e_M → Prop) (Q : Int → e_M → Prop) (x1 : Int) (x2 : Int) (M : e_M) : Prop :=
  (k32 x1 (e_w32 (x2 + 1)) M)
def VX12_sum (c_X12_look : Int → Int → e_M → (e_M → Prop) → Prop) (c_X12_isHere : Int → Int → e_M → (Int → Prop) → Prop) (c_X12_id : Int → Int → e_M → (Int → Prop) → Prop) (c_X12_mix : Int → e_M → (e_M → Prop) → Prop) (c_X12_toldOf : Int → Int → Int → e_M → (Int → Prop) → Prop) (c_X12_mixLot : Int → e_M → (e_M → Prop) → Prop) (c_X12_mixOther : Int → Int → e_M → (e_M → Prop) → Prop) (k24 : Int → e_M → Prop) (Q : Int → e_M → Prop) (M : e_M) : Prop :=
  (∀ M1 : e_M, M1 = e_up M 4456 121 0 → (c_X12_look (M1 4456 103) (M1 4456 104) M1 (fun M2 => (∀ M3 : e_M, M3 = e_up M2 4456 122 0 → (k24 0 M3)))))
def yX12_sum (i : Nat) : e_Y := x_get YX12_sum [YX12_look, YX12_isHere, YX12_id, YX12_mix, YX12_toldOf, YX12_mixLot, YX12_mixOther] i
def pX12_sumf : List x_I := [(0, 4, 1, 0, 0, 0, []), (1, 0, 1, 0, 0, 0, []), (2, 26, 12, 121, 0, 0, []), (5, 4, 1, 0, 0, 0, []), (6, 4, 1, 0, 0, 0, []), (7, 25, 12, 103, 0, 0, []), (10, 4, 1, 0, 0, 0, []), (11, 25, 12, 104, 0, 0, []), (14, 40, 0, 3, 14, 0, []), (17, 4, 1, 0, 0, 0, []), (18, 1, 1, 0, 0, 0, []), (19, 26, 12, 122, 3, 0, []), (22, 0, 1, 0, 0, 0, []), (23, 5, 1, 1, 0, 0, []), (24, 49, 0, 0, 0, 0, []), (24, 2, 1, 1, 0, 0, []), (25, 0, 2, 0, 0, 7, []), (27, 18, 132, 3, 77, 0, []), (30, 0, 1, 0, 0, 0, []), (31, 5, 1, 2, 0, 0, []), (32, 49, 0, 0, 0, 0, []), (32, 2, 1, 2, 0, 0, []), (33, 4, 1, 0, 0, 0, []), (34, 25, 12, 50, 4, 0, [(0, 20, 7), (0, 1, 27)]), (37, 2, 1, 1, 0, 0, []), (38, 27, 0, 0, 0, 0, []), (39, 18, 126, 3, 75, 0, []), (42, 4, 1, 0, 0, 0, []), (43, 2, 1, 1, 0, 0, []), (44, 2, 1, 2, 0, 0, []), (45, 40, 1, 3, 14, 0, []), (48, 17, 54, 1, 34, 0, []), (51, 19, 120, 0, 72, 0, []), (54, 2, 1, 1, 0, 0, []), (55, 2, 1, 2, 0, 0, []), (56, 40, 2, 2, 0, 0, []), (59, 5, 1, 3, 0, 0, []), (60, 4, 1, 0, 0, 0, []), (61, 4, 1, 0, 0, 0, []), (62, 25, 12, 51, 4, 0, [(0, 23, 560), (0, 1, 28)]), (65, 2, 1, 3, 0, 0, []), (66, 27, 0, 1, 0, 0, []), (67, 40, 3, 2, 14, 0, []), (70, 0, 1, 0, 0, 0, []), (71, 5, 2, 4, 0, 0, []), (73, 49, 0, 0, 0, 0, []), (73, 2, 2, 4, 0, 0, []), (75, 35, 3, 1000004, 7, 0, []), (78, 2, 1, 1, 0, 0, []), (79, 27, 0, 0, 0, 0, []), (80, 18, 102, 3, 62, 0, []), (83, 4, 1, 0, 0, 0, []), (84, 4, 1, 0, 0, 0, []), (85, 2, 1, 1, 0, 0, []), (86, 2, 1, 2, 0, 0, []), (87, 2, 2, 4, 0, 0, []), (89, 40, 4, 4, 14, 0, []), (92, 14, 0, 0, 0, 0, []), (93, 40, 3, 2, 14, 0, []), (96, 8, 0, 4, 0, 1, []), (99, 19, 73, 0, 46, 0, []), (102, 2, 1, 1, 0, 0, []), (103, 17, 114, 1, 68, 0, []), (106, 4, 1, 0, 0, 0, []), (107, 2, 1, 2, 0, 0, []), (108, 40, 5, 2, 14, 0, []), (111, 19, 120, 0, 72, 0, []), (114, 4, 1, 0, 0, 0, []), (115, 2, 1, 1, 0, 0, []), (116, 2, 1, 3, 0, 0, []), (117, 40, 6, 3, 14, 0, []), (120, 49, 0, 0, 0, 0, []), (120, 8, 0, 2, 0, 1, []), (123, 19, 32, 0, 21, 0, []), (126, 8, 0, 1, 0, 1, []), (129, 19, 24, 0, 15, 0, []), (132, 4, 1, 0, 0, 0, []), (133, 25, 12, 122, 3, 0, []), (136, 43, 0, 0, 0, 0, [])]
set_option maxRecDepth 20000 in
theorem qX12_sumf : f_all yX12_sum YX12_sum pX12_sumf :=
  ⟨f_aload_n (n := 0) (e_dx DX12_sum_0 0 rfl) rfl,
  f_iconst (e_dx DX12_sum_0 1 rfl) ⟨by decide, by decide⟩,
  f_putn (e_dx DX12_sum_0 2 rfl) fX12_773 (fun q hq => by cases hq; rfl) rfl (Or.inl rfl) (by decide),
  f_aload_n (n := 0) (e_dx DX12_sum_0 3 rfl) rfl,
  f_aload_n (n := 0) (e_dx DX12_sum_0 4 rfl) rfl,
  f_getf (e_dx DX12_sum_0 5 rfl) fX12_799 rfl (by decide) (by decide) (by decide),
  f_aload_n (n := 0) (e_dx DX12_sum_0 6 rfl) rfl,
  f_getf (e_dx DX12_sum_0 7 rfl) fX12_802 rfl (by decide) (by decide) (by decide),
  x_callV (e_dx DX12_sum_0 8 rfl) mwX12_look vwX12_look cX12_805 rfl,
  f_aload_n (n := 0) (e_dx DX12_sum_0 9 rfl) rfl,
  f_lconst (n := 0) (e_dx DX12_sum_0 10 rfl) rfl,
  f_putn (e_dx DX12_sum_0 11 rfl) fX12_990 (fun q hq => by cases hq; rfl) rfl (Or.inr (Or.inr rfl)) (by decide),
  f_iconst (e_dx DX12_sum_0 12 rfl) ⟨by decide, by decide⟩,
  f_istore_n (n := 1) (e_dx DX12_sum_0 13 rfl) rfl (by decide),
  trivial,
  f_iload_n (n := 1) (e_dx DX12_sum_0 14 rfl) rfl,
  f_bipush (e_dx DX12_sum_0 15 rfl) ⟨by decide, by decide⟩,
  f_icmp_ge (e_dx DX12_sum_0 16 rfl) rfl,
  f_iconst (e_dx DX12_sum_0 17 rfl) ⟨by decide, by decide⟩,
  f_istore_n (n := 2) (e_dx DX12_sum_0 18 rfl) rfl (by decide),
  trivial,
  f_iload_n (n := 2) (e_dx DX12_sum_0 19 rfl) rfl,
  f_aload_n (n := 0) (e_dx DX12_sum_0 20 rfl) rfl,
  f_getA (e_dx DX12_sum_0 21 rfl) fX12_91 rfl (by decide) (Nat.le_of_ble_eq_true rfl) rfl (by decide),
  f_iload_n (n := 1) (e_dx DX12_sum_0 22 rfl) rfl,
  f_iaload (e_dx DX12_sum_0 23 rfl),
  f_icmp_ge (e_dx DX12_sum_0 24 rfl) rfl,
  f_aload_n (n := 0) (e_dx DX12_sum_0 25 rfl) rfl,
  f_iload_n (n := 1) (e_dx DX12_sum_0 26 rfl) rfl,
  f_iload_n (n := 2) (e_dx DX12_sum_0 27 rfl) rfl,
  x_callV (e_dx DX12_sum_0 28 rfl) mwX12_isHere vwX12_isHere cX12_875 rfl,
  f_if_ne (e_dx DX12_sum_0 29 rfl) rfl,
  f_g19 (e_dx DX12_sum_0 30 rfl) rfl,
  f_iload_n (n := 1) (e_dx DX12_sum_0 31 rfl) rfl,
  f_iload_n (n := 2) (e_dx DX12_sum_0 32 rfl) rfl,
  x_callS (e_dx DX12_sum_0 33 rfl) mwX12_id cX12_540 swX12_id rfl,
  f_istore_n (n := 3) (e_dx DX12_sum_0 34 rfl) rfl (by decide),
  f_aload_n (n := 0) (e_dx DX12_sum_0 35 rfl) rfl,
  f_aload_n (n := 0) (e_dx DX12_sum_0 36 rfl) rfl,
  f_getA (e_dx DX12_sum_0 37 rfl) fX12_94 rfl (by decide) (Nat.le_of_ble_eq_true rfl) rfl (by decide),
  f_iload_n (n := 3) (e_dx DX12_sum_0 38 rfl) rfl,
  f_laload (e_dx DX12_sum_0 39 rfl),
  x_callV (e_dx DX12_sum_1 0 rfl) mwX12_mix vwX12_mix cX12_995 rfl,
  f_iconst (e_dx DX12_sum_1 1 rfl) ⟨by decide, by decide⟩,
  f_istore (e_dx DX12_sum_1 2 rfl) (by decide),
  trivial,
  f_iload (e_dx DX12_sum_1 3 rfl),
  f_gets (j := 3) (q := ("LandHouseModel", "TOLD")) (e_dx DX12_sum_1 4 rfl) rfl gX12_998 rfl ⟨rfl, rfl⟩,
  f_iload_n (n := 1) (e_dx DX12_sum_1 5 rfl) rfl,
  f_iaload (e_dx DX12_sum_1 6 rfl),
  f_icmp_ge (e_dx DX12_sum_1 7 rfl) rfl,
  f_aload_n (n := 0) (e_dx DX12_sum_1 8 rfl) rfl,
  f_aload_n (n := 0) (e_dx DX12_sum_1 9 rfl) rfl,
  f_iload_n (n := 1) (e_dx DX12_sum_1 10 rfl) rfl,
  f_iload_n (n := 2) (e_dx DX12_sum_1 11 rfl) rfl,
  f_iload (e_dx DX12_sum_1 12 rfl),
  x_callV (e_dx DX12_sum_1 13 rfl) mwX12_toldOf vwX12_toldOf cX12_984 rfl,
  f_g14 (e_dx DX12_sum_1 14 rfl),
  x_callV (e_dx DX12_sum_1 15 rfl) mwX12_mix vwX12_mix cX12_995 rfl,
  f_g8 (e_dx DX12_sum_1 16 rfl) ⟨by decide, by decide⟩,
  f_g19 (e_dx DX12_sum_1 17 rfl) rfl,
  f_iload_n (n := 1) (e_dx DX12_sum_1 18 rfl) rfl,
  f_if_ne (e_dx DX12_sum_1 19 rfl) rfl,
  f_aload_n (n := 0) (e_dx DX12_sum_1 20 rfl) rfl,
  f_iload_n (n := 2) (e_dx DX12_sum_1 21 rfl) rfl,
  x_callV (e_dx DX12_sum_1 22 rfl) mwX12_mixLot vwX12_mixLot cX12_1001 rfl,
  f_g19 (e_dx DX12_sum_1 23 rfl) rfl,
  f_aload_n (n := 0) (e_dx DX12_sum_1 24 rfl) rfl,
  f_iload_n (n := 1) (e_dx DX12_sum_1 25 rfl) rfl,
  f_iload_n (n := 3) (e_dx DX12_sum_1 26 rfl) rfl,
  x_callV (e_dx DX12_sum_1 27 rfl) mwX12_mixOther vwX12_mixOther cX12_1004 rfl,
  trivial,
  f_g8 (e_dx DX12_sum_1 28 rfl) ⟨by decide, by decide⟩,
  f_g19 (e_dx DX12_sum_1 29 rfl) rfl,
  f_g8 (e_dx DX12_sum_1 30 rfl) ⟨by decide, by decide⟩,
  f_g19 (e_dx DX12_sum_1 31 rfl) rfl,
  f_aload_n (n := 0) (e_dx DX12_sum_1 32 rfl) rfl,
  f_getL (e_dx DX12_sum_1 33 rfl) fX12_990 rfl (by decide),
  ⟨(e_dx DX12_sum_1 34 rfl), rfl⟩, trivial⟩
def lX12_sum (c_X12_look : Int → Int → e_M → (e_M → Prop) → Prop) (c_X12_isHere : Int → Int → e_M → (Int → Prop) → Prop) (c_X12_id : Int → Int → e_M → (Int → Prop) → Prop) (c_X12_mix : Int → e_M → (e_M → Prop) → Prop) (c_X12_toldOf : Int → Int → Int → e_M → (Int → Prop) → Prop) (c_X12_mixLot : Int → e_M → (e_M → Prop) → Prop) (c_X12_mixOther : Int → Int → e_M → (e_M → Prop) → Prop) : List (Nat × f_Wt) := [(0, f_wm [(4466, 12, 123), (1, 0, 0), (1, 0, 0)] (fun ar M R => c_X12_look (f_vi (f_nth ar 1)) (f_vi (f_nth ar 2)) M (fun M => R none M))), (1, f_wm [(4466, 12, 123), (1, 0, 0), (1, 0, 0)] (fun ar M R => c_X12_isHere (f_vi (f_nth ar 1)) (f_vi (f_nth ar 2)) M (fun r => R (some (.inl r)) M))), (2, f_wm [(1, 0, 0), (1, 0, 0)] (fun ar M R => c_X12_id (f_vi (f_nth ar 0)) (f_vi (f_nth ar 1)) M (fun r => R (some (.inl r)) M))), (3, f_wm [(4466, 12, 123), (2, 0, 0)] (fun ar M R => c_X12_mix (f_vi (f_nth ar 1)) M (fun M => R none M))), (4, f_wm [(4466, 12, 123), (1, 0, 0), (1, 0, 0), (1, 0, 0)] (fun ar M R => c_X12_toldOf (f_vi (f_nth ar 1)) (f_vi (f_nth ar 2)) (f_vi (f_nth ar 3)) M (fun r => R (some (.inl r)) M))), (5, f_wm [(4466, 12, 123), (1, 0, 0)] (fun ar M R => c_X12_mixLot (f_vi (f_nth ar 1)) M (fun M => R none M))), (6, f_wm [(4466, 12, 123), (1, 0, 0), (1, 0, 0)] (fun ar M R => c_X12_mixOther (f_vi (f_nth ar 1)) (f_vi (f_nth ar 2)) M (fun M => R none M)))]
set_option maxRecDepth 20000 in
theorem BX12_sum_24 {sh : Nat → Nat × Nat} {t : Nat} {rm : Nat × Nat × Nat} {cs : Nat × Nat} {R : f_Rt} {c_X12_look : Int → Int → e_M → (e_M → Prop) → Prop} {c_X12_isHere : Int → Int → e_M → (Int → Prop) → Prop} {c_X12_id : Int → Int → e_M → (Int → Prop) → Prop} {c_X12_mix : Int → e_M → (e_M → Prop) → Prop} {c_X12_toldOf : Int → Int → Int → e_M → (Int → Prop) → Prop} {c_X12_mixLot : Int → e_M → (e_M → Prop) → Prop} {c_X12_mixOther : Int → Int → e_M → (e_M → Prop) → Prop} {k32 : Int → Int → e_M → Prop} {x1 : Int} {M : e_M} (C : f_Hy sh t yX12_sum rm cs 15 (lX12_sum c_X12_look c_X12_isHere c_X12_id c_X12_mix c_X12_toldOf c_X12_mixLot c_X12_mixOther) R) (h32 : ∀ (x1 : Int) (x2 : Int) (M : e_M), k32 x1 x2 M → f_E sh t YX12_sum rm cs (f_Q sh t R) 32 [.inr (.inr (.inl (12, 123, 4456))), .inl x1, .inl x2, .inr (.inr (.inr ())), .inr (.inr (.inr ()))] [] M) (h : VX12_sum_24 c_X12_look c_X12_isHere c_X12_id c_X12_mix c_X12_toldOf c_X12_mixLot c_X12_mixOther k32 (fun r M => R (some (.inr (.inl r))) M) x1 M) : f_E sh t YX12_sum rm cs (f_Q sh t R) 24 [.inr (.inr (.inl (12, 123, 4456))), .inl x1, .inr (.inr (.inr ())), .inr (.inr (.inr ())), .inr (.inr (.inr ()))] [] M :=
  f_go (KC := f_kc [(32, f_pl [(4466, 12, 123), (1, 0, 0), (1, 0, 0), (0, 0, 0), (0, 0, 0)] [] (fun ls st M => k32 (f_vi (f_nth ls 1)) (f_vi (f_nth ls 2)) M))]) C qX12_sumf (f_kc_cons (f_pl_ok rfl (fun ls st M h => h32 _ _ M h)) f_kc_nil) 81 15 h
set_option maxRecDepth 20000 in
theorem BX12_sum_32 {sh : Nat → Nat × Nat} {t : Nat} {rm : Nat × Nat × Nat} {cs : Nat × Nat} {R : f_Rt} {c_X12_look : Int → Int → e_M → (e_M → Prop) → Prop} {c_X12_isHere : Int → Int → e_M → (Int → Prop) → Prop} {c_X12_id : Int → Int → e_M → (Int → Prop) → Prop} {c_X12_mix : Int → e_M → (e_M → Prop) → Prop} {c_X12_toldOf : Int → Int → Int → e_M → (Int → Prop) → Prop} {c_X12_mixLot : Int → e_M → (e_M → Prop) → Prop} {c_X12_mixOther : Int → Int → e_M → (e_M → Prop) → Prop} {k24 : Int → e_M → Prop} {k73 : Int → Int → Int → Int → e_M → Prop} {k120 : Int → Int → e_M → Prop} {x1 : Int} {x2 : Int} {M : e_M} (C : f_Hy sh t yX12_sum rm cs 15 (lX12_sum c_X12_look c_X12_isHere c_X12_id c_X12_mix c_X12_toldOf c_X12_mixLot c_X12_mixOther) R) (h24 : ∀ (x1 : Int) (M : e_M), k24 x1 M → f_E sh t YX12_sum rm cs (f_Q sh t R) 24 [.inr (.inr (.inl (12, 123, 4456))), .inl x1, .inr (.inr (.inr ())), .inr (.inr (.inr ())), .inr (.inr (.inr ()))] [] M) (h73 : ∀ (x1 : Int) (x2 : Int) (x3 : Int) (x4 : Int) (M : e_M), k73 x1 x2 x3 x4 M → f_E sh t YX12_sum rm cs (f_Q sh t R) 73 [.inr (.inr (.inl (12, 123, 4456))), .inl x1, .inl x2, .inl x3, .inl x4] [] M) (h120 : ∀ (x1 : Int) (x2 : Int) (M : e_M), k120 x1 x2 M → f_E sh t YX12_sum rm cs (f_Q sh t R) 120 [.inr (.inr (.inl (12, 123, 4456))), .inl x1, .inl x2, .inr (.inr (.inr ())), .inr (.inr (.inr ()))] [] M) (h : VX12_sum_32 c_X12_look c_X12_isHere c_X12_id c_X12_mix c_X12_toldOf c_X12_mixLot c_X12_mixOther k24 k73 k120 (fun r M => R (some (.inr (.inl r))) M) x1 x2 M) : f_E sh t YX12_sum rm cs (f_Q sh t R) 32 [.inr (.inr (.inl (12, 123, 4456))), .inl x1, .inl x2, .inr (.inr (.inr ())), .inr (.inr (.inr ()))] [] M :=
  f_go (KC := f_kc [(24, f_pl [(4466, 12, 123), (1, 0, 0), (0, 0, 0), (0, 0, 0), (0, 0, 0)] [] (fun ls st M => k24 (f_vi (f_nth ls 1)) M)), (73, f_pl [(4466, 12, 123), (1, 0, 0), (1, 0, 0), (1, 0, 0), (1, 0, 0)] [] (fun ls st M => k73 (f_vi (f_nth ls 1)) (f_vi (f_nth ls 2)) (f_vi (f_nth ls 3)) (f_vi (f_nth ls 4)) M)), (120, f_pl [(4466, 12, 123), (1, 0, 0), (1, 0, 0), (0, 0, 0), (0, 0, 0)] [] (fun ls st M => k120 (f_vi (f_nth ls 1)) (f_vi (f_nth ls 2)) M))]) C qX12_sumf (f_kc_cons (f_pl_ok rfl (fun ls st M h => h24 _ M h)) (f_kc_cons (f_pl_ok rfl (fun ls st M h => h73 _ _ _ _ M h)) (f_kc_cons (f_pl_ok rfl (fun ls st M h => h120 _ _ M h)) f_kc_nil))) 81 21 h
set_option maxRecDepth 20000 in
theorem BX12_sum_73 {sh : Nat → Nat × Nat} {t : Nat} {rm : Nat × Nat × Nat} {cs : Nat × Nat} {R : f_Rt} {c_X12_look : Int → Int → e_M → (e_M → Prop) → Prop} {c_X12_isHere : Int → Int → e_M → (Int → Prop) → Prop} {c_X12_id : Int → Int → e_M → (Int → Prop) → Prop} {c_X12_mix : Int → e_M → (e_M → Prop) → Prop} {c_X12_toldOf : Int → Int → Int → e_M → (Int → Prop) → Prop} {c_X12_mixLot : Int → e_M → (e_M → Prop) → Prop} {c_X12_mixOther : Int → Int → e_M → (e_M → Prop) → Prop} {k120 : Int → Int → e_M → Prop} {k73 : Int → Int → Int → Int → e_M → Prop} {x1 : Int} {x2 : Int} {x3 : Int} {x4 : Int} {M : e_M} (C : f_Hy sh t yX12_sum rm cs 15 (lX12_sum c_X12_look c_X12_isHere c_X12_id c_X12_mix c_X12_toldOf c_X12_mixLot c_X12_mixOther) R) (h120 : ∀ (x1 : Int) (x2 : Int) (M : e_M), k120 x1 x2 M → f_E sh t YX12_sum rm cs (f_Q sh t R) 120 [.inr (.inr (.inl (12, 123, 4456))), .inl x1, .inl x2, .inr (.inr (.inr ())), .inr (.inr (.inr ()))] [] M) (h73 : ∀ (x1 : Int) (x2 : Int) (x3 : Int) (x4 : Int) (M : e_M), k73 x1 x2 x3 x4 M → f_E sh t YX12_sum rm cs (f_Q sh t R) 73 [.inr (.inr (.inl (12, 123, 4456))), .inl x1, .inl x2, .inl x3, .inl x4] [] M) (h : VX12_sum_73 c_X12_look c_X12_isHere c_X12_id c_X12_mix c_X12_toldOf c_X12_mixLot c_X12_mixOther k120 k73 (fun r M => R (some (.inr (.inl r))) M) x1 x2 x3 x4 M) : f_E sh t YX12_sum rm cs (f_Q sh t R) 73 [.inr (.inr (.inl (12, 123, 4456))), .inl x1, .inl x2, .inl x3, .inl x4] [] M :=
  f_go (KC := f_kc [(120, f_pl [(4466, 12, 123), (1, 0, 0), (1, 0, 0), (0, 0, 0), (0, 0, 0)] [] (fun ls st M => k120 (f_vi (f_nth ls 1)) (f_vi (f_nth ls 2)) M)), (73, f_pl [(4466, 12, 123), (1, 0, 0), (1, 0, 0), (1, 0, 0), (1, 0, 0)] [] (fun ls st M => k73 (f_vi (f_nth ls 1)) (f_vi (f_nth ls 2)) (f_vi (f_nth ls 3)) (f_vi (f_nth ls 4)) M))]) C qX12_sumf (f_kc_cons (f_pl_ok rfl (fun ls st M h => h120 _ _ M h)) (f_kc_cons (f_pl_ok rfl (fun ls st M h => h73 _ _ _ _ M h)) f_kc_nil)) 81 46 h
set_option maxRecDepth 20000 in
theorem BX12_sum_120 {sh : Nat → Nat × Nat} {t : Nat} {rm : Nat × Nat × Nat} {cs : Nat × Nat} {R : f_Rt} {c_X12_look : Int → Int → e_M → (e_M → Prop) → Prop} {c_X12_isHere : Int → Int → e_M → (Int → Prop) → Prop} {c_X12_id : Int → Int → e_M → (Int → Prop) → Prop} {c_X12_mix : Int → e_M → (e_M → Prop) → Prop} {c_X12_toldOf : Int → Int → Int → e_M → (Int → Prop) → Prop} {c_X12_mixLot : Int → e_M → (e_M → Prop) → Prop} {c_X12_mixOther : Int → Int → e_M → (e_M → Prop) → Prop} {k32 : Int → Int → e_M → Prop} {x1 : Int} {x2 : Int} {M : e_M} (C : f_Hy sh t yX12_sum rm cs 15 (lX12_sum c_X12_look c_X12_isHere c_X12_id c_X12_mix c_X12_toldOf c_X12_mixLot c_X12_mixOther) R) (h32 : ∀ (x1 : Int) (x2 : Int) (M : e_M), k32 x1 x2 M → f_E sh t YX12_sum rm cs (f_Q sh t R) 32 [.inr (.inr (.inl (12, 123, 4456))), .inl x1, .inl x2, .inr (.inr (.inr ())), .inr (.inr (.inr ()))] [] M) (h : VX12_sum_120 c_X12_look c_X12_isHere c_X12_id c_X12_mix c_X12_toldOf c_X12_mixLot c_X12_mixOther k32 (fun r M => R (some (.inr (.inl r))) M) x1 x2 M) : f_E sh t YX12_sum rm cs (f_Q sh t R) 120 [.inr (.inr (.inl (12, 123, 4456))), .inl x1, .inl x2, .inr (.inr (.inr ())), .inr (.inr (.inr ()))] [] M :=
  f_go (KC := f_kc [(32, f_pl [(4466, 12, 123), (1, 0, 0), (1, 0, 0), (0, 0, 0), (0, 0, 0)] [] (fun ls st M => k32 (f_vi (f_nth ls 1)) (f_vi (f_nth ls 2)) M))]) C qX12_sumf (f_kc_cons (f_pl_ok rfl (fun ls st M h => h32 _ _ M h)) f_kc_nil) 81 72 h
set_option maxRecDepth 20000 in
theorem BX12_sum {sh : Nat → Nat × Nat} {t : Nat} {rm : Nat × Nat × Nat} {cs : Nat × Nat} {R : f_Rt} {c_X12_look : Int → Int → e_M → (e_M → Prop) → Prop} {c_X12_isHere : Int → Int → e_M → (Int → Prop) → Prop} {c_X12_id : Int → Int → e_M → (Int → Prop) → Prop} {c_X12_mix : Int → e_M → (e_M → Prop) → Prop} {c_X12_toldOf : Int → Int → Int → e_M → (Int → Prop) → Prop} {c_X12_mixLot : Int → e_M → (e_M → Prop) → Prop} {c_X12_mixOther : Int → Int → e_M → (e_M → Prop) → Prop} {k24 : Int → e_M → Prop} {M : e_M} (C : f_Hy sh t yX12_sum rm cs 15 (lX12_sum c_X12_look c_X12_isHere c_X12_id c_X12_mix c_X12_toldOf c_X12_mixLot c_X12_mixOther) R) (h24 : ∀ (x1 : Int) (M : e_M), k24 x1 M → f_E sh t YX12_sum rm cs (f_Q sh t R) 24 [.inr (.inr (.inl (12, 123, 4456))), .inl x1, .inr (.inr (.inr ())), .inr (.inr (.inr ())), .inr (.inr (.inr ()))] [] M) (h : VX12_sum c_X12_look c_X12_isHere c_X12_id c_X12_mix c_X12_toldOf c_X12_mixLot c_X12_mixOther k24 (fun r M => R (some (.inr (.inl r))) M) M) : f_E sh t YX12_sum rm cs (f_Q sh t R) 0 [.inr (.inr (.inl (12, 123, 4456))), .inr (.inr (.inr ())), .inr (.inr (.inr ())), .inr (.inr (.inr ())), .inr (.inr (.inr ()))] [] M :=
  f_go (KC := f_kc [(24, f_pl [(4466, 12, 123), (1, 0, 0), (0, 0, 0), (0, 0, 0), (0, 0, 0)] [] (fun ls st M => k24 (f_vi (f_nth ls 1)) M))]) C qX12_sumf (f_kc_cons (f_pl_ok rfl (fun ls st M h => h24 _ M h)) f_kc_nil) 81 0 h
def WX12_sum_120 (H24 : Int → e_M → Prop) (H32 : Int → Int → e_M → Prop) (Q : Int → e_M → Prop) (x1 : Int) (x2 : Int) (M : e_M) : Prop :=
  VX12_sum_120 WX12_look WX12_isHere WX12_id WX12_mix WX12_toldOf WX12_mixLot WX12_mixOther H32 Q x1 x2 M
def WX12_sum_73 (H24 : Int → e_M → Prop) (H32 : Int → Int → e_M → Prop) (Q : Int → e_M → Prop) : Nat → Int → Int → Int → Int → e_M → Prop
  | 0, _, _, _, _, _ => False
  | n + 1, x1, x2, x3, x4, M =>
    VX12_sum_73 WX12_look WX12_isHere WX12_id WX12_mix WX12_toldOf WX12_mixLot WX12_mixOther (WX12_sum_120 H24 H32 Q) (WX12_sum_73 H24 H32 Q n) Q x1 x2 x3 x4 M
def WX12_sum_32 (H24 : Int → e_M → Prop) (Q : Int → e_M → Prop) : Nat → Int → Int → e_M → Prop
  | 0, _, _, _ => False
  | n + 1, x1, x2, M =>
    VX12_sum_32 WX12_look WX12_isHere WX12_id WX12_mix WX12_toldOf WX12_mixLot WX12_mixOther H24 (fun x1 x2 x3 x4 M => ∃ j, WX12_sum_73 H24 (WX12_sum_32 H24 Q n) Q j x1 x2 x3 x4 M) (WX12_sum_120 H24 (WX12_sum_32 H24 Q n) Q) Q x1 x2 M
def WX12_sum_24 (Q : Int → e_M → Prop) : Nat → Int → e_M → Prop
  | 0, _, _ => False
  | n + 1, x1, M =>
    VX12_sum_24 WX12_look WX12_isHere WX12_id WX12_mix WX12_toldOf WX12_mixLot WX12_mixOther (fun x1 x2 M => ∃ j, WX12_sum_32 (WX12_sum_24 Q n) Q j x1 x2 M) Q x1 M
def WX12_sum (M : e_M) (Q : Int → e_M → Prop) : Prop :=
  VX12_sum WX12_look WX12_isHere WX12_id WX12_mix WX12_toldOf WX12_mixLot WX12_mixOther (fun x1 M => ∃ j, WX12_sum_24 Q j x1 M) Q M
theorem PX12_sum_120 {sh : Nat → Nat × Nat} {t : Nat} {rm : Nat × Nat × Nat} {cs : Nat × Nat} {R : f_Rt} {H24 : Int → e_M → Prop} {H32 : Int → Int → e_M → Prop} {x1 : Int} {x2 : Int} {M : e_M} (C : f_Hy sh t yX12_sum rm cs 15 (lX12_sum WX12_look WX12_isHere WX12_id WX12_mix WX12_toldOf WX12_mixLot WX12_mixOther) R) (g24 : ∀ (x1 : Int) (M : e_M), H24 x1 M → f_E sh t YX12_sum rm cs (f_Q sh t R) 24 [.inr (.inr (.inl (12, 123, 4456))), .inl x1, .inr (.inr (.inr ())), .inr (.inr (.inr ())), .inr (.inr (.inr ()))] [] M) (g32 : ∀ (x1 : Int) (x2 : Int) (M : e_M), H32 x1 x2 M → f_E sh t YX12_sum rm cs (f_Q sh t R) 32 [.inr (.inr (.inl (12, 123, 4456))), .inl x1, .inl x2, .inr (.inr (.inr ())), .inr (.inr (.inr ()))] [] M) (h : WX12_sum_120 H24 H32 (fun r M => R (some (.inr (.inl r))) M) x1 x2 M) : f_E sh t YX12_sum rm cs (f_Q sh t R) 120 [.inr (.inr (.inl (12, 123, 4456))), .inl x1, .inl x2, .inr (.inr (.inr ())), .inr (.inr (.inr ()))] [] M :=
  BX12_sum_120 C g32 h
theorem PX12_sum_73 {sh : Nat → Nat × Nat} {t : Nat} {rm : Nat × Nat × Nat} {cs : Nat × Nat} {R : f_Rt} {H24 : Int → e_M → Prop} {H32 : Int → Int → e_M → Prop} (C : f_Hy sh t yX12_sum rm cs 15 (lX12_sum WX12_look WX12_isHere WX12_id WX12_mix WX12_toldOf WX12_mixLot WX12_mixOther) R) (g24 : ∀ (x1 : Int) (M : e_M), H24 x1 M → f_E sh t YX12_sum rm cs (f_Q sh t R) 24 [.inr (.inr (.inl (12, 123, 4456))), .inl x1, .inr (.inr (.inr ())), .inr (.inr (.inr ())), .inr (.inr (.inr ()))] [] M) (g32 : ∀ (x1 : Int) (x2 : Int) (M : e_M), H32 x1 x2 M → f_E sh t YX12_sum rm cs (f_Q sh t R) 32 [.inr (.inr (.inl (12, 123, 4456))), .inl x1, .inl x2, .inr (.inr (.inr ())), .inr (.inr (.inr ()))] [] M) : ∀ (n : Nat) (x1 : Int) (x2 : Int) (x3 : Int) (x4 : Int) (M : e_M), WX12_sum_73 H24 H32 (fun r M => R (some (.inr (.inl r))) M) n x1 x2 x3 x4 M → f_E sh t YX12_sum rm cs (f_Q sh t R) 73 [.inr (.inr (.inl (12, 123, 4456))), .inl x1, .inl x2, .inl x3, .inl x4] [] M := by
  intro n
  induction n with
  | zero => intro x1 x2 x3 x4 M h; exact h.elim
  | succ n ih => intro x1 x2 x3 x4 M h; exact BX12_sum_73 C (fun x1 x2 M h => PX12_sum_120 C g24 g32 h) ih h
theorem PX12_sum_32 {sh : Nat → Nat × Nat} {t : Nat} {rm : Nat × Nat × Nat} {cs : Nat × Nat} {R : f_Rt} {H24 : Int → e_M → Prop} (C : f_Hy sh t yX12_sum rm cs 15 (lX12_sum WX12_look WX12_isHere WX12_id WX12_mix WX12_toldOf WX12_mixLot WX12_mixOther) R) (g24 : ∀ (x1 : Int) (M : e_M), H24 x1 M → f_E sh t YX12_sum rm cs (f_Q sh t R) 24 [.inr (.inr (.inl (12, 123, 4456))), .inl x1, .inr (.inr (.inr ())), .inr (.inr (.inr ())), .inr (.inr (.inr ()))] [] M) : ∀ (n : Nat) (x1 : Int) (x2 : Int) (M : e_M), WX12_sum_32 H24 (fun r M => R (some (.inr (.inl r))) M) n x1 x2 M → f_E sh t YX12_sum rm cs (f_Q sh t R) 32 [.inr (.inr (.inl (12, 123, 4456))), .inl x1, .inl x2, .inr (.inr (.inr ())), .inr (.inr (.inr ()))] [] M := by
  intro n
  induction n with
  | zero => intro x1 x2 M h; exact h.elim
  | succ n ih => intro x1 x2 M h; exact BX12_sum_32 C g24 (fun x1 x2 x3 x4 M ⟨j, h⟩ => PX12_sum_73 C g24 ih j _ _ _ _ _ h) (fun x1 x2 M h => PX12_sum_120 C g24 ih h) h
theorem PX12_sum_24 {sh : Nat → Nat × Nat} {t : Nat} {rm : Nat × Nat × Nat} {cs : Nat × Nat} {R : f_Rt} (C : f_Hy sh t yX12_sum rm cs 15 (lX12_sum WX12_look WX12_isHere WX12_id WX12_mix WX12_toldOf WX12_mixLot WX12_mixOther) R) : ∀ (n : Nat) (x1 : Int) (M : e_M), WX12_sum_24 (fun r M => R (some (.inr (.inl r))) M) n x1 M → f_E sh t YX12_sum rm cs (f_Q sh t R) 24 [.inr (.inr (.inl (12, 123, 4456))), .inl x1, .inr (.inr (.inr ())), .inr (.inr (.inr ())), .inr (.inr (.inr ()))] [] M := by
  intro n
  induction n with
  | zero => intro x1 M h; exact h.elim
  | succ n ih => intro x1 M h; exact BX12_sum_24 C (fun x1 x2 M ⟨j, h⟩ => PX12_sum_32 C ih j _ _ _ h) h
theorem PX12_sum {sh : Nat → Nat × Nat} {t : Nat} {rm : Nat × Nat × Nat} {cs : Nat × Nat} {R : f_Rt} {M : e_M} (C : f_Hy sh t yX12_sum rm cs 15 (lX12_sum WX12_look WX12_isHere WX12_id WX12_mix WX12_toldOf WX12_mixLot WX12_mixOther) R) (h : WX12_sum M (fun r M => R (some (.inr (.inl r))) M)) : f_E sh t YX12_sum rm cs (f_Q sh t R) 0 [.inr (.inr (.inl (12, 123, 4456))), .inr (.inr (.inr ())), .inr (.inr (.inr ())), .inr (.inr (.inr ())), .inr (.inr (.inr ()))] [] M :=
  BX12_sum C (fun x1 M ⟨j, h⟩ => PX12_sum_24 C j _ _ h) h
def wX12_sum : f_Wt := f_wm [(4466, 12, 123)] (fun ar M R => WX12_sum M (fun r M => R (some (.inr (.inl r))) M))
theorem TX12_sum {sh : Nat → Nat × Nat} {t : Nat} : f_Mt sh t YX12_sum 15 (wX12_sum) :=
  f_Mt_of (k := 4) (Nat.le_of_ble_eq_true rfl) rfl rfl (fun ar M R rm cs h1 h2 h3 hX h => PX12_sum ⟨Nat.le_of_ble_eq_true rfl, h1, h2, h3, ⟨(f_Mt.up (Nat.le_of_ble_eq_true rfl) TX12_look), (f_Mt.up (Nat.le_of_ble_eq_true rfl) TX12_isHere), (f_Mt.up (Nat.le_of_ble_eq_true rfl) TX12_id), (f_Mt.up (Nat.le_of_ble_eq_true rfl) TX12_mix), (f_Mt.up (Nat.le_of_ble_eq_true rfl) TX12_toldOf), (f_Mt.up (Nat.le_of_ble_eq_true rfl) TX12_mixLot), (f_Mt.up (Nat.le_of_ble_eq_true rfl) TX12_mixOther), trivial⟩, hX⟩ h)
