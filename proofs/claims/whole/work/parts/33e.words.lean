/-! methods as words over the memory, part 33e -/
def VX7_readOfTerms_14 (c_X7_named : Int → e_M → (e_M → Prop) → Prop) (c_X7_expect : Int → e_M → (e_M → Prop) → Prop) (c_X7_takeDate : e_M → (Int → e_M → Prop) → Prop) (c_X7_readPrice : e_M → (e_M → Prop) → Prop) (k29 : Int → e_M → Prop) (Q : e_M → Prop) (x1 : Int) (M : e_M) : Prop :=
  ((¬ x1 = 220 → (k29 13 M)) ∧ (x1 = 220 → (k29 6 M)))
def VX7_readOfTerms_29 (c_X7_named : Int → e_M → (e_M → Prop) → Prop) (c_X7_expect : Int → e_M → (e_M → Prop) → Prop) (c_X7_takeDate : e_M → (Int → e_M → Prop) → Prop) (c_X7_readPrice : e_M → (e_M → Prop) → Prop) (Q : e_M → Prop) (xs1 : Int) (M : e_M) : Prop :=
  (c_X7_named xs1 M (fun M1 => (Q M1)))
def VX7_readOfTerms_68 (c_X7_named : Int → e_M → (e_M → Prop) → Prop) (c_X7_expect : Int → e_M → (e_M → Prop) → Prop) (c_X7_takeDate : e_M → (Int → e_M → Prop) → Prop) (c_X7_readPrice : e_M → (e_M → Prop) → Prop) (k101 : Int → e_M → Prop) (Q : e_M → Prop) (x1 : Int) (xs1 : Int) (M : e_M) : Prop :=
  (c_X7_expect xs1 M (fun M1 => (c_X7_named 1 M1 (fun M2 => ((x1 = 218 → (k101 x1 M2)) ∧ (¬ x1 = 218 → (c_X7_expect 235 M2 (fun M3 => (c_X7_takeDate M3 (fun r4 M5 => (∀ M6 : e_M, M6 = e_up M5 ((M3 10 9).toNat) 8 r4 → (k101 x1 M6))))))))))))
def VX7_readOfTerms_101 (c_X7_named : Int → e_M → (e_M → Prop) → Prop) (c_X7_expect : Int → e_M → (e_M → Prop) → Prop) (c_X7_takeDate : e_M → (Int → e_M → Prop) → Prop) (c_X7_readPrice : e_M → (e_M → Prop) → Prop) (Q : e_M → Prop) (x1 : Int) (M : e_M) : Prop :=
  ((¬ x1 = 217 → (Q M)) ∧ (x1 = 217 → (c_X7_readPrice M (fun M1 => (Q M1)))))
def VX7_readOfTerms (c_X7_named : Int → e_M → (e_M → Prop) → Prop) (c_X7_expect : Int → e_M → (e_M → Prop) → Prop) (c_X7_takeDate : e_M → (Int → e_M → Prop) → Prop) (c_X7_readPrice : e_M → (e_M → Prop) → Prop) (k14 : Int → e_M → Prop) (k68 : Int → Int → e_M → Prop) (Q : e_M → Prop) (x1 : Int) (M : e_M) : Prop :=
  ((x1 = 220 → (k14 x1 M)) ∧ (¬ x1 = 220 → ((¬ x1 = 221 → (c_X7_named 10 M (fun M1 => (c_X7_expect 224 M1 (fun M2 => (c_X7_named 0 M2 (fun M3 => ((¬ x1 = 218 → (k68 x1 225 M3)) ∧ (x1 = 218 → (k68 x1 227 M3)))))))))) ∧ (x1 = 221 → (k14 x1 M)))))
def yX7_readOfTerms (i : Nat) : e_Y := x_get YX7_readOfTerms [YX7_named, YX7_expect, YX7_takeDate, YX7_readPrice] i
def pX7_readOfTermsf : List x_I := [(0, 2, 1, 1, 0, 0, []), (1, 0, 3, 0, 0, 220, []), (4, 18, 14, 0, 7, 0, []), (7, 2, 1, 1, 0, 0, []), (8, 0, 3, 0, 0, 221, []), (11, 18, 33, 1, 18, 0, []), (14, 49, 0, 0, 0, 0, []), (14, 4, 1, 0, 0, 0, []), (15, 2, 1, 1, 0, 0, []), (16, 0, 3, 0, 0, 220, []), (19, 18, 27, 1, 14, 0, []), (22, 0, 2, 0, 0, 6, []), (24, 19, 29, 0, 15, 0, []), (27, 0, 2, 0, 0, 13, []), (29, 49, 0, 0, 0, 0, []), (29, 40, 0, 2, 9, 0, []), (32, 44, 0, 0, 0, 0, []), (33, 4, 1, 0, 0, 0, []), (34, 0, 2, 0, 0, 10, []), (36, 40, 0, 2, 9, 0, []), (39, 4, 1, 0, 0, 0, []), (40, 0, 3, 0, 0, 224, []), (43, 40, 1, 2, 9, 0, []), (46, 4, 1, 0, 0, 0, []), (47, 0, 1, 0, 0, 0, []), (48, 40, 0, 2, 9, 0, []), (51, 4, 1, 0, 0, 0, []), (52, 2, 1, 1, 0, 0, []), (53, 0, 3, 0, 0, 218, []), (56, 18, 65, 1, 33, 0, []), (59, 0, 3, 0, 0, 227, []), (62, 19, 68, 0, 34, 0, []), (65, 0, 3, 0, 0, 225, []), (68, 49, 0, 0, 0, 0, []), (68, 40, 1, 2, 9, 0, []), (71, 4, 1, 0, 0, 0, []), (72, 0, 1, 0, 0, 1, []), (73, 40, 0, 2, 9, 0, []), (76, 2, 1, 1, 0, 0, []), (77, 0, 3, 0, 0, 218, []), (80, 18, 101, 0, 50, 0, []), (83, 4, 1, 0, 0, 0, []), (84, 0, 3, 0, 0, 235, []), (87, 40, 1, 2, 9, 0, []), (90, 4, 1, 0, 0, 0, []), (91, 25, 7, 9, 4, 0, [(0, 2, 19), (0, 0, 0)]), (94, 4, 1, 0, 0, 0, []), (95, 40, 2, 1, 9, 0, []), (98, 26, 2, 8, 0, 0, []), (101, 49, 0, 0, 0, 0, []), (101, 2, 1, 1, 0, 0, []), (102, 0, 3, 0, 0, 217, []), (105, 18, 112, 1, 56, 0, []), (108, 4, 1, 0, 0, 0, []), (109, 40, 3, 1, 9, 0, []), (112, 44, 0, 0, 0, 0, [])]
set_option maxRecDepth 20000 in
theorem qX7_readOfTermsf : f_all yX7_readOfTerms YX7_readOfTerms pX7_readOfTermsf :=
  ⟨f_iload_n (n := 1) (e_dx DX7_readOfTerms_0 0 rfl) rfl,
  f_sipush (e_dx DX7_readOfTerms_0 1 rfl) ⟨by decide, by decide⟩,
  f_icmp_eq (e_dx DX7_readOfTerms_0 2 rfl) rfl,
  f_iload_n (n := 1) (e_dx DX7_readOfTerms_0 3 rfl) rfl,
  f_sipush (e_dx DX7_readOfTerms_0 4 rfl) ⟨by decide, by decide⟩,
  f_icmp_ne (e_dx DX7_readOfTerms_0 5 rfl) rfl,
  trivial,
  f_aload_n (n := 0) (e_dx DX7_readOfTerms_0 6 rfl) rfl,
  f_iload_n (n := 1) (e_dx DX7_readOfTerms_0 7 rfl) rfl,
  f_sipush (e_dx DX7_readOfTerms_0 8 rfl) ⟨by decide, by decide⟩,
  f_icmp_ne (e_dx DX7_readOfTerms_0 9 rfl) rfl,
  f_bipush (e_dx DX7_readOfTerms_0 10 rfl) ⟨by decide, by decide⟩,
  f_g19 (e_dx DX7_readOfTerms_0 11 rfl) rfl,
  f_bipush (e_dx DX7_readOfTerms_0 12 rfl) ⟨by decide, by decide⟩,
  trivial,
  x_callV (e_dx DX7_readOfTerms_0 13 rfl) mwX7_named vwX7_named cX7_178 rfl,
  ⟨(e_dx DX7_readOfTerms_0 14 rfl), rfl⟩,
  f_aload_n (n := 0) (e_dx DX7_readOfTerms_0 15 rfl) rfl,
  f_bipush (e_dx DX7_readOfTerms_0 16 rfl) ⟨by decide, by decide⟩,
  x_callV (e_dx DX7_readOfTerms_0 17 rfl) mwX7_named vwX7_named cX7_178 rfl,
  f_aload_n (n := 0) (e_dx DX7_readOfTerms_0 18 rfl) rfl,
  f_sipush (e_dx DX7_readOfTerms_0 19 rfl) ⟨by decide, by decide⟩,
  x_callV (e_dx DX7_readOfTerms_0 20 rfl) mwX7_expect vwX7_expect cX7_128 rfl,
  f_aload_n (n := 0) (e_dx DX7_readOfTerms_0 21 rfl) rfl,
  f_iconst (e_dx DX7_readOfTerms_0 22 rfl) ⟨by decide, by decide⟩,
  x_callV (e_dx DX7_readOfTerms_0 23 rfl) mwX7_named vwX7_named cX7_178 rfl,
  f_aload_n (n := 0) (e_dx DX7_readOfTerms_0 24 rfl) rfl,
  f_iload_n (n := 1) (e_dx DX7_readOfTerms_0 25 rfl) rfl,
  f_sipush (e_dx DX7_readOfTerms_0 26 rfl) ⟨by decide, by decide⟩,
  f_icmp_ne (e_dx DX7_readOfTerms_0 27 rfl) rfl,
  f_sipush (e_dx DX7_readOfTerms_0 28 rfl) ⟨by decide, by decide⟩,
  f_g19 (e_dx DX7_readOfTerms_0 29 rfl) rfl,
  f_sipush (e_dx DX7_readOfTerms_0 30 rfl) ⟨by decide, by decide⟩,
  trivial,
  x_callV (e_dx DX7_readOfTerms_0 31 rfl) mwX7_expect vwX7_expect cX7_128 rfl,
  f_aload_n (n := 0) (e_dx DX7_readOfTerms_0 32 rfl) rfl,
  f_iconst (e_dx DX7_readOfTerms_0 33 rfl) ⟨by decide, by decide⟩,
  x_callV (e_dx DX7_readOfTerms_0 34 rfl) mwX7_named vwX7_named cX7_178 rfl,
  f_iload_n (n := 1) (e_dx DX7_readOfTerms_0 35 rfl) rfl,
  f_sipush (e_dx DX7_readOfTerms_0 36 rfl) ⟨by decide, by decide⟩,
  f_icmp_eq (e_dx DX7_readOfTerms_0 37 rfl) rfl,
  f_aload_n (n := 0) (e_dx DX7_readOfTerms_0 38 rfl) rfl,
  f_sipush (e_dx DX7_readOfTerms_0 39 rfl) ⟨by decide, by decide⟩,
  x_callV (e_dx DX7_readOfTerms_1 0 rfl) mwX7_expect vwX7_expect cX7_128 rfl,
  f_aload_n (n := 0) (e_dx DX7_readOfTerms_1 1 rfl) rfl,
  f_getA (e_dx DX7_readOfTerms_1 2 rfl) fX7_44 rfl (by decide) (Nat.le_of_ble_eq_true rfl) rfl (by decide),
  f_aload_n (n := 0) (e_dx DX7_readOfTerms_1 3 rfl) rfl,
  x_callV (e_dx DX7_readOfTerms_1 4 rfl) mwX7_takeDate vwX7_takeDate cX7_150 rfl,
  f_putn (e_dx DX7_readOfTerms_1 5 rfl) fX7_181 (fun q hq => by cases hq; rfl) rfl (Or.inl rfl) (by decide),
  trivial,
  f_iload_n (n := 1) (e_dx DX7_readOfTerms_1 6 rfl) rfl,
  f_sipush (e_dx DX7_readOfTerms_1 7 rfl) ⟨by decide, by decide⟩,
  f_icmp_ne (e_dx DX7_readOfTerms_1 8 rfl) rfl,
  f_aload_n (n := 0) (e_dx DX7_readOfTerms_1 9 rfl) rfl,
  x_callV (e_dx DX7_readOfTerms_1 10 rfl) mwX7_readPrice vwX7_readPrice cX7_196 rfl,
  ⟨(e_dx DX7_readOfTerms_1 11 rfl), rfl⟩, trivial⟩
def lX7_readOfTerms (c_X7_named : Int → e_M → (e_M → Prop) → Prop) (c_X7_expect : Int → e_M → (e_M → Prop) → Prop) (c_X7_takeDate : e_M → (Int → e_M → Prop) → Prop) (c_X7_readPrice : e_M → (e_M → Prop) → Prop) : List (Nat × f_Wt) := [(0, f_wm [(20, 7, 12), (1, 0, 0)] (fun ar M R => c_X7_named (f_vi (f_nth ar 1)) M (fun M => R none M))), (1, f_wm [(20, 7, 12), (1, 0, 0)] (fun ar M R => c_X7_expect (f_vi (f_nth ar 1)) M (fun M => R none M))), (2, f_wm [(20, 7, 12)] (fun ar M R => c_X7_takeDate  M (fun r M => R (some (.inl r)) M))), (3, f_wm [(20, 7, 12)] (fun ar M R => c_X7_readPrice  M (fun M => R none M)))]
set_option maxRecDepth 20000 in
theorem BX7_readOfTerms_14 {sh : Nat → Nat × Nat} {t : Nat} {rm : Nat × Nat × Nat} {cs : Nat × Nat} {R : f_Rt} {c_X7_named : Int → e_M → (e_M → Prop) → Prop} {c_X7_expect : Int → e_M → (e_M → Prop) → Prop} {c_X7_takeDate : e_M → (Int → e_M → Prop) → Prop} {c_X7_readPrice : e_M → (e_M → Prop) → Prop} {k29 : Int → e_M → Prop} {x1 : Int} {M : e_M} (C : f_Hy sh t yX7_readOfTerms rm cs 8 (lX7_readOfTerms c_X7_named c_X7_expect c_X7_takeDate c_X7_readPrice) R) (h29 : ∀ (xs1 : Int) (M : e_M), k29 xs1 M → f_E sh t YX7_readOfTerms rm cs (f_Q sh t R) 29 [.inr (.inr (.inr ())), .inr (.inr (.inr ()))] [.inl xs1, .inr (.inr (.inl (7, 12, 10)))] M) (h : VX7_readOfTerms_14 c_X7_named c_X7_expect c_X7_takeDate c_X7_readPrice k29 (fun M => R none M) x1 M) : f_E sh t YX7_readOfTerms rm cs (f_Q sh t R) 14 [.inr (.inr (.inl (7, 12, 10))), .inl x1] [] M :=
  f_go (KC := f_kc [(29, f_pl [(0, 0, 0), (0, 0, 0)] [(1, 0, 0), (20, 7, 12)] (fun ls st M => k29 (f_vi (f_nth st 0)) M))]) C qX7_readOfTermsf (f_kc_cons (f_pl_ok rfl (fun ls st M h => h29 _ M h)) f_kc_nil) 58 7 h
set_option maxRecDepth 20000 in
theorem BX7_readOfTerms_29 {sh : Nat → Nat × Nat} {t : Nat} {rm : Nat × Nat × Nat} {cs : Nat × Nat} {R : f_Rt} {c_X7_named : Int → e_M → (e_M → Prop) → Prop} {c_X7_expect : Int → e_M → (e_M → Prop) → Prop} {c_X7_takeDate : e_M → (Int → e_M → Prop) → Prop} {c_X7_readPrice : e_M → (e_M → Prop) → Prop} {xs1 : Int} {M : e_M} (C : f_Hy sh t yX7_readOfTerms rm cs 8 (lX7_readOfTerms c_X7_named c_X7_expect c_X7_takeDate c_X7_readPrice) R) (h : VX7_readOfTerms_29 c_X7_named c_X7_expect c_X7_takeDate c_X7_readPrice (fun M => R none M) xs1 M) : f_E sh t YX7_readOfTerms rm cs (f_Q sh t R) 29 [.inr (.inr (.inr ())), .inr (.inr (.inr ()))] [.inl xs1, .inr (.inr (.inl (7, 12, 10)))] M :=
  f_go (KC := f_kc []) C qX7_readOfTermsf f_kc_nil 58 15 h
set_option maxRecDepth 20000 in
theorem BX7_readOfTerms_68 {sh : Nat → Nat × Nat} {t : Nat} {rm : Nat × Nat × Nat} {cs : Nat × Nat} {R : f_Rt} {c_X7_named : Int → e_M → (e_M → Prop) → Prop} {c_X7_expect : Int → e_M → (e_M → Prop) → Prop} {c_X7_takeDate : e_M → (Int → e_M → Prop) → Prop} {c_X7_readPrice : e_M → (e_M → Prop) → Prop} {k101 : Int → e_M → Prop} {x1 : Int} {xs1 : Int} {M : e_M} (C : f_Hy sh t yX7_readOfTerms rm cs 8 (lX7_readOfTerms c_X7_named c_X7_expect c_X7_takeDate c_X7_readPrice) R) (h101 : ∀ (x1 : Int) (M : e_M), k101 x1 M → f_E sh t YX7_readOfTerms rm cs (f_Q sh t R) 101 [.inr (.inr (.inl (7, 12, 10))), .inl x1] [] M) (h : VX7_readOfTerms_68 c_X7_named c_X7_expect c_X7_takeDate c_X7_readPrice k101 (fun M => R none M) x1 xs1 M) : f_E sh t YX7_readOfTerms rm cs (f_Q sh t R) 68 [.inr (.inr (.inl (7, 12, 10))), .inl x1] [.inl xs1, .inr (.inr (.inl (7, 12, 10)))] M :=
  f_go (KC := f_kc [(101, f_pl [(20, 7, 12), (1, 0, 0)] [] (fun ls st M => k101 (f_vi (f_nth ls 1)) M))]) C qX7_readOfTermsf (f_kc_cons (f_pl_ok rfl (fun ls st M h => h101 _ M h)) f_kc_nil) 58 34 h
set_option maxRecDepth 20000 in
theorem BX7_readOfTerms_101 {sh : Nat → Nat × Nat} {t : Nat} {rm : Nat × Nat × Nat} {cs : Nat × Nat} {R : f_Rt} {c_X7_named : Int → e_M → (e_M → Prop) → Prop} {c_X7_expect : Int → e_M → (e_M → Prop) → Prop} {c_X7_takeDate : e_M → (Int → e_M → Prop) → Prop} {c_X7_readPrice : e_M → (e_M → Prop) → Prop} {x1 : Int} {M : e_M} (C : f_Hy sh t yX7_readOfTerms rm cs 8 (lX7_readOfTerms c_X7_named c_X7_expect c_X7_takeDate c_X7_readPrice) R) (h : VX7_readOfTerms_101 c_X7_named c_X7_expect c_X7_takeDate c_X7_readPrice (fun M => R none M) x1 M) : f_E sh t YX7_readOfTerms rm cs (f_Q sh t R) 101 [.inr (.inr (.inl (7, 12, 10))), .inl x1] [] M :=
  f_go (KC := f_kc []) C qX7_readOfTermsf f_kc_nil 58 50 h
set_option maxRecDepth 20000 in
theorem BX7_readOfTerms {sh : Nat → Nat × Nat} {t : Nat} {rm : Nat × Nat × Nat} {cs : Nat × Nat} {R : f_Rt} {c_X7_named : Int → e_M → (e_M → Prop) → Prop} {c_X7_expect : Int → e_M → (e_M → Prop) → Prop} {c_X7_takeDate : e_M → (Int → e_M → Prop) → Prop} {c_X7_readPrice : e_M → (e_M → Prop) → Prop} {k14 : Int → e_M → Prop} {k68 : Int → Int → e_M → Prop} {x1 : Int} {M : e_M} (C : f_Hy sh t yX7_readOfTerms rm cs 8 (lX7_readOfTerms c_X7_named c_X7_expect c_X7_takeDate c_X7_readPrice) R) (h14 : ∀ (x1 : Int) (M : e_M), k14 x1 M → f_E sh t YX7_readOfTerms rm cs (f_Q sh t R) 14 [.inr (.inr (.inl (7, 12, 10))), .inl x1] [] M) (h68 : ∀ (x1 : Int) (xs1 : Int) (M : e_M), k68 x1 xs1 M → f_E sh t YX7_readOfTerms rm cs (f_Q sh t R) 68 [.inr (.inr (.inl (7, 12, 10))), .inl x1] [.inl xs1, .inr (.inr (.inl (7, 12, 10)))] M) (h : VX7_readOfTerms c_X7_named c_X7_expect c_X7_takeDate c_X7_readPrice k14 k68 (fun M => R none M) x1 M) : f_E sh t YX7_readOfTerms rm cs (f_Q sh t R) 0 [.inr (.inr (.inl (7, 12, 10))), .inl x1] [] M :=
  f_go (KC := f_kc [(14, f_pl [(20, 7, 12), (1, 0, 0)] [] (fun ls st M => k14 (f_vi (f_nth ls 1)) M)), (68, f_pl [(20, 7, 12), (1, 0, 0)] [(1, 0, 0), (20, 7, 12)] (fun ls st M => k68 (f_vi (f_nth ls 1)) (f_vi (f_nth st 0)) M))]) C qX7_readOfTermsf (f_kc_cons (f_pl_ok rfl (fun ls st M h => h14 _ M h)) (f_kc_cons (f_pl_ok rfl (fun ls st M h => h68 _ _ M h)) f_kc_nil)) 58 0 h
def WX7_readOfTerms_29 (Q : e_M → Prop) (xs1 : Int) (M : e_M) : Prop :=
  VX7_readOfTerms_29 WX7_named WX7_expect WX7_takeDate WX7_readPrice Q xs1 M
def WX7_readOfTerms_14 (Q : e_M → Prop) (x1 : Int) (M : e_M) : Prop :=
  VX7_readOfTerms_14 WX7_named WX7_expect WX7_takeDate WX7_readPrice (WX7_readOfTerms_29 Q) Q x1 M
def WX7_readOfTerms_101 (Q : e_M → Prop) (x1 : Int) (M : e_M) : Prop :=
  VX7_readOfTerms_101 WX7_named WX7_expect WX7_takeDate WX7_readPrice Q x1 M
def WX7_readOfTerms_68 (Q : e_M → Prop) (x1 : Int) (xs1 : Int) (M : e_M) : Prop :=
  VX7_readOfTerms_68 WX7_named WX7_expect WX7_takeDate WX7_readPrice (WX7_readOfTerms_101 Q) Q x1 xs1 M
def WX7_readOfTerms (x1 : Int) (M : e_M) (Q : e_M → Prop) : Prop :=
  VX7_readOfTerms WX7_named WX7_expect WX7_takeDate WX7_readPrice (WX7_readOfTerms_14 Q) (WX7_readOfTerms_68 Q) Q x1 M
theorem PX7_readOfTerms_29 {sh : Nat → Nat × Nat} {t : Nat} {rm : Nat × Nat × Nat} {cs : Nat × Nat} {R : f_Rt} {xs1 : Int} {M : e_M} (C : f_Hy sh t yX7_readOfTerms rm cs 8 (lX7_readOfTerms WX7_named WX7_expect WX7_takeDate WX7_readPrice) R) (h : WX7_readOfTerms_29 (fun M => R none M) xs1 M) : f_E sh t YX7_readOfTerms rm cs (f_Q sh t R) 29 [.inr (.inr (.inr ())), .inr (.inr (.inr ()))] [.inl xs1, .inr (.inr (.inl (7, 12, 10)))] M :=
  BX7_readOfTerms_29 C h
theorem PX7_readOfTerms_14 {sh : Nat → Nat × Nat} {t : Nat} {rm : Nat × Nat × Nat} {cs : Nat × Nat} {R : f_Rt} {x1 : Int} {M : e_M} (C : f_Hy sh t yX7_readOfTerms rm cs 8 (lX7_readOfTerms WX7_named WX7_expect WX7_takeDate WX7_readPrice) R) (h : WX7_readOfTerms_14 (fun M => R none M) x1 M) : f_E sh t YX7_readOfTerms rm cs (f_Q sh t R) 14 [.inr (.inr (.inl (7, 12, 10))), .inl x1] [] M :=
  BX7_readOfTerms_14 C (fun xs1 M h => PX7_readOfTerms_29 C h) h
theorem PX7_readOfTerms_101 {sh : Nat → Nat × Nat} {t : Nat} {rm : Nat × Nat × Nat} {cs : Nat × Nat} {R : f_Rt} {x1 : Int} {M : e_M} (C : f_Hy sh t yX7_readOfTerms rm cs 8 (lX7_readOfTerms WX7_named WX7_expect WX7_takeDate WX7_readPrice) R) (h : WX7_readOfTerms_101 (fun M => R none M) x1 M) : f_E sh t YX7_readOfTerms rm cs (f_Q sh t R) 101 [.inr (.inr (.inl (7, 12, 10))), .inl x1] [] M :=
  BX7_readOfTerms_101 C h
theorem PX7_readOfTerms_68 {sh : Nat → Nat × Nat} {t : Nat} {rm : Nat × Nat × Nat} {cs : Nat × Nat} {R : f_Rt} {x1 : Int} {xs1 : Int} {M : e_M} (C : f_Hy sh t yX7_readOfTerms rm cs 8 (lX7_readOfTerms WX7_named WX7_expect WX7_takeDate WX7_readPrice) R) (h : WX7_readOfTerms_68 (fun M => R none M) x1 xs1 M) : f_E sh t YX7_readOfTerms rm cs (f_Q sh t R) 68 [.inr (.inr (.inl (7, 12, 10))), .inl x1] [.inl xs1, .inr (.inr (.inl (7, 12, 10)))] M :=
  BX7_readOfTerms_68 C (fun x1 M h => PX7_readOfTerms_101 C h) h
theorem PX7_readOfTerms {sh : Nat → Nat × Nat} {t : Nat} {rm : Nat × Nat × Nat} {cs : Nat × Nat} {R : f_Rt} {x1 : Int} {M : e_M} (C : f_Hy sh t yX7_readOfTerms rm cs 8 (lX7_readOfTerms WX7_named WX7_expect WX7_takeDate WX7_readPrice) R) (h : WX7_readOfTerms x1 M (fun M => R none M)) : f_E sh t YX7_readOfTerms rm cs (f_Q sh t R) 0 [.inr (.inr (.inl (7, 12, 10))), .inl x1] [] M :=
  BX7_readOfTerms C (fun x1 M h => PX7_readOfTerms_14 C h) (fun x1 xs1 M h => PX7_readOfTerms_68 C h) h
def wX7_readOfTerms : f_Wt := f_wm [(20, 7, 12), (1, 0, 0)] (fun ar M R => WX7_readOfTerms (f_vi (f_nth ar 1)) M (fun M => R none M))
theorem TX7_readOfTerms {sh : Nat → Nat × Nat} {t : Nat} : f_Mt sh t YX7_readOfTerms 8 (wX7_readOfTerms) :=
  f_Mt_of (k := 0) (Nat.le_of_ble_eq_true rfl) rfl rfl (fun ar M R rm cs h1 h2 h3 hX h => PX7_readOfTerms ⟨Nat.le_of_ble_eq_true rfl, h1, h2, h3, ⟨(f_Mt.up (Nat.le_of_ble_eq_true rfl) TX7_named), (f_Mt.up (Nat.le_of_ble_eq_true rfl) TX7_expect), (f_Mt.up (Nat.le_of_ble_eq_true rfl) TX7_takeDate), (f_Mt.up (Nat.le_of_ble_eq_true rfl) TX7_readPrice), trivial⟩, hX⟩ h)
def VX7_readDeed_37 (c_X7_expect : Int → e_M → (e_M → Prop) → Prop) (c_X7_takeDate : e_M → (Int → e_M → Prop) → Prop) (c_X7_note : Int → e_M → (e_M → Prop) → Prop) (c_X7_take : e_M → (e_M → Prop) → Prop) (c_X7_readOfPersons : Int → e_M → (e_M → Prop) → Prop) (c_X7_readOfLots : Int → e_M → (e_M → Prop) → Prop) (c_X7_readOfCharges : Int → e_M → (e_M → Prop) → Prop) (c_X7_readOfServes : Int → e_M → (e_M → Prop) → Prop) (c_X7_readOfTerms : Int → e_M → (e_M → Prop) → Prop) (Q : e_M → Prop) (M : e_M) : Prop :=
  (c_X7_note 1 M (fun M1 => (Q M1)))
def VX7_readDeed (c_X7_expect : Int → e_M → (e_M → Prop) → Prop) (c_X7_takeDate : e_M → (Int → e_M → Prop) → Prop) (c_X7_note : Int → e_M → (e_M → Prop) → Prop) (c_X7_take : e_M → (e_M → Prop) → Prop) (c_X7_readOfPersons : Int → e_M → (e_M → Prop) → Prop) (c_X7_readOfLots : Int → e_M → (e_M → Prop) → Prop) (c_X7_readOfCharges : Int → e_M → (e_M → Prop) → Prop) (c_X7_readOfServes : Int → e_M → (e_M → Prop) → Prop) (c_X7_readOfTerms : Int → e_M → (e_M → Prop) → Prop) (k37 : e_M → Prop) (Q : e_M → Prop) (M : e_M) : Prop :=
  (c_X7_expect 224 M (fun M1 => (c_X7_takeDate M1 (fun r2 M3 => (∀ M4 : e_M, M4 = e_up M3 ((M1 10 9).toNat) 4 r2 → (((M4 10 6) < 200 → (k37 M4)) ∧ (200 ≤ (M4 10 6) → (((M4 10 6) ≤ 221 → (∀ M5 : e_M, M5 = e_up M4 ((M4 10 9).toNat) 3 (M4 10 6) → (c_X7_take M5 (fun M6 => ((204 < (M4 10 6) → ((208 < (M4 10 6) → ((214 < (M4 10 6) → ((216 < (M4 10 6) → (c_X7_readOfTerms (M4 10 6) M6 (fun M7 => (Q M7)))) ∧ ((M4 10 6) ≤ 216 → (c_X7_readOfServes (M4 10 6) M6 (fun M8 => (Q M8)))))) ∧ ((M4 10 6) ≤ 214 → (c_X7_readOfCharges (M4 10 6) M6 (fun M9 => (Q M9)))))) ∧ ((M4 10 6) ≤ 208 → (c_X7_readOfLots (M4 10 6) M6 (fun M10 => (Q M10)))))) ∧ ((M4 10 6) ≤ 204 → (c_X7_readOfPersons (M4 10 6) M6 (fun M11 => (Q M11))))))))) ∧ (221 < (M4 10 6) → (k37 M4))))))))))
def yX7_readDeed (i : Nat) : e_Y := x_get YX7_readDeed [YX7_expect, YX7_takeDate, YX7_note, YX7_take, YX7_readOfPersons, YX7_readOfLots, YX7_readOfCharges, YX7_readOfServes, YX7_readOfTerms] i
def pX7_readDeedf : List x_I := [(0, 4, 1, 0, 0, 0, []), (1, 0, 3, 0, 0, 224, []), (4, 40, 0, 2, 9, 0, []), (7, 4, 1, 0, 0, 0, []), (8, 25, 7, 9, 4, 0, [(0, 2, 19), (0, 0, 0)]), (11, 4, 1, 0, 0, 0, []), (12, 40, 1, 1, 9, 0, []), (15, 26, 2, 4, 0, 0, []), (18, 4, 1, 0, 0, 0, []), (19, 25, 7, 6, 0, 0, []), (22, 5, 1, 1, 0, 0, []), (23, 2, 1, 1, 0, 0, []), (24, 0, 3, 0, 0, 200, []), (27, 18, 37, 2, 18, 0, []), (30, 2, 1, 1, 0, 0, []), (31, 0, 3, 0, 0, 221, []), (34, 18, 43, 5, 23, 0, []), (37, 49, 0, 0, 0, 0, []), (37, 4, 1, 0, 0, 0, []), (38, 0, 1, 0, 0, 1, []), (39, 40, 2, 2, 9, 0, []), (42, 44, 0, 0, 0, 0, []), (43, 4, 1, 0, 0, 0, []), (44, 25, 7, 9, 4, 0, [(0, 2, 19), (0, 0, 0)]), (47, 2, 1, 1, 0, 0, []), (48, 26, 2, 3, 0, 0, []), (51, 4, 1, 0, 0, 0, []), (52, 40, 3, 1, 9, 0, []), (55, 2, 1, 1, 0, 0, []), (56, 0, 3, 0, 0, 204, []), (59, 18, 70, 4, 36, 0, []), (62, 4, 1, 0, 0, 0, []), (63, 2, 1, 1, 0, 0, []), (64, 40, 4, 2, 9, 0, []), (67, 19, 120, 0, 60, 0, []), (70, 2, 1, 1, 0, 0, []), (71, 0, 3, 0, 0, 208, []), (74, 18, 85, 4, 43, 0, []), (77, 4, 1, 0, 0, 0, []), (78, 2, 1, 1, 0, 0, []), (79, 40, 5, 2, 9, 0, []), (82, 19, 120, 0, 60, 0, []), (85, 2, 1, 1, 0, 0, []), (86, 0, 3, 0, 0, 214, []), (89, 18, 100, 4, 50, 0, []), (92, 4, 1, 0, 0, 0, []), (93, 2, 1, 1, 0, 0, []), (94, 40, 6, 2, 9, 0, []), (97, 19, 120, 0, 60, 0, []), (100, 2, 1, 1, 0, 0, []), (101, 0, 3, 0, 0, 216, []), (104, 18, 115, 4, 57, 0, []), (107, 4, 1, 0, 0, 0, []), (108, 2, 1, 1, 0, 0, []), (109, 40, 7, 2, 9, 0, []), (112, 19, 120, 0, 60, 0, []), (115, 4, 1, 0, 0, 0, []), (116, 2, 1, 1, 0, 0, []), (117, 40, 8, 2, 9, 0, []), (120, 44, 0, 0, 0, 0, [])]
set_option maxRecDepth 20000 in
theorem qX7_readDeedf : f_all yX7_readDeed YX7_readDeed pX7_readDeedf :=
  ⟨f_aload_n (n := 0) (e_dx DX7_readDeed_0 0 rfl) rfl,
  f_sipush (e_dx DX7_readDeed_0 1 rfl) ⟨by decide, by decide⟩,
  x_callV (e_dx DX7_readDeed_0 2 rfl) mwX7_expect vwX7_expect cX7_128 rfl,
  f_aload_n (n := 0) (e_dx DX7_readDeed_0 3 rfl) rfl,
  f_getA (e_dx DX7_readDeed_0 4 rfl) fX7_44 rfl (by decide) (Nat.le_of_ble_eq_true rfl) rfl (by decide),
  f_aload_n (n := 0) (e_dx DX7_readDeed_0 5 rfl) rfl,
  x_callV (e_dx DX7_readDeed_0 6 rfl) mwX7_takeDate vwX7_takeDate cX7_150 rfl,
  f_putn (e_dx DX7_readDeed_0 7 rfl) fX7_153 (fun q hq => by cases hq; rfl) rfl (Or.inl rfl) (by decide),
  f_aload_n (n := 0) (e_dx DX7_readDeed_0 8 rfl) rfl,
  f_getf (e_dx DX7_readDeed_0 9 rfl) fX7_32 rfl (by decide) (by decide) (by decide),
  f_istore_n (n := 1) (e_dx DX7_readDeed_0 10 rfl) rfl (by decide),
  f_iload_n (n := 1) (e_dx DX7_readDeed_0 11 rfl) rfl,
  f_sipush (e_dx DX7_readDeed_0 12 rfl) ⟨by decide, by decide⟩,
  f_icmp_lt (e_dx DX7_readDeed_0 13 rfl) rfl,
  f_iload_n (n := 1) (e_dx DX7_readDeed_0 14 rfl) rfl,
  f_sipush (e_dx DX7_readDeed_0 15 rfl) ⟨by decide, by decide⟩,
  f_icmp_le (e_dx DX7_readDeed_0 16 rfl) rfl,
  trivial,
  f_aload_n (n := 0) (e_dx DX7_readDeed_0 17 rfl) rfl,
  f_iconst (e_dx DX7_readDeed_0 18 rfl) ⟨by decide, by decide⟩,
  x_callV (e_dx DX7_readDeed_0 19 rfl) mwX7_note vwX7_note cX7_124 rfl,
  ⟨(e_dx DX7_readDeed_0 20 rfl), rfl⟩,
  f_aload_n (n := 0) (e_dx DX7_readDeed_0 21 rfl) rfl,
  f_getA (e_dx DX7_readDeed_0 22 rfl) fX7_44 rfl (by decide) (Nat.le_of_ble_eq_true rfl) rfl (by decide),
  f_iload_n (n := 1) (e_dx DX7_readDeed_0 23 rfl) rfl,
  f_putn (e_dx DX7_readDeed_0 24 rfl) fX7_156 (fun q hq => by cases hq; rfl) rfl (Or.inl rfl) (by decide),
  f_aload_n (n := 0) (e_dx DX7_readDeed_0 25 rfl) rfl,
  x_callV (e_dx DX7_readDeed_0 26 rfl) mwX7_take vwX7_take cX7_121 rfl,
  f_iload_n (n := 1) (e_dx DX7_readDeed_0 27 rfl) rfl,
  f_sipush (e_dx DX7_readDeed_0 28 rfl) ⟨by decide, by decide⟩,
  f_icmp_gt (e_dx DX7_readDeed_0 29 rfl) rfl,
  f_aload_n (n := 0) (e_dx DX7_readDeed_0 30 rfl) rfl,
  f_iload_n (n := 1) (e_dx DX7_readDeed_0 31 rfl) rfl,
  x_callV (e_dx DX7_readDeed_0 32 rfl) mwX7_readOfPersons vwX7_readOfPersons cX7_159 rfl,
  f_g19 (e_dx DX7_readDeed_0 33 rfl) rfl,
  f_iload_n (n := 1) (e_dx DX7_readDeed_0 34 rfl) rfl,
  f_sipush (e_dx DX7_readDeed_0 35 rfl) ⟨by decide, by decide⟩,
  f_icmp_gt (e_dx DX7_readDeed_0 36 rfl) rfl,
  f_aload_n (n := 0) (e_dx DX7_readDeed_0 37 rfl) rfl,
  f_iload_n (n := 1) (e_dx DX7_readDeed_0 38 rfl) rfl,
  x_callV (e_dx DX7_readDeed_0 39 rfl) mwX7_readOfLots vwX7_readOfLots cX7_162 rfl,
  f_g19 (e_dx DX7_readDeed_1 0 rfl) rfl,
  f_iload_n (n := 1) (e_dx DX7_readDeed_1 1 rfl) rfl,
  f_sipush (e_dx DX7_readDeed_1 2 rfl) ⟨by decide, by decide⟩,
  f_icmp_gt (e_dx DX7_readDeed_1 3 rfl) rfl,
  f_aload_n (n := 0) (e_dx DX7_readDeed_1 4 rfl) rfl,
  f_iload_n (n := 1) (e_dx DX7_readDeed_1 5 rfl) rfl,
  x_callV (e_dx DX7_readDeed_1 6 rfl) mwX7_readOfCharges vwX7_readOfCharges cX7_165 rfl,
  f_g19 (e_dx DX7_readDeed_1 7 rfl) rfl,
  f_iload_n (n := 1) (e_dx DX7_readDeed_1 8 rfl) rfl,
  f_sipush (e_dx DX7_readDeed_1 9 rfl) ⟨by decide, by decide⟩,
  f_icmp_gt (e_dx DX7_readDeed_1 10 rfl) rfl,
  f_aload_n (n := 0) (e_dx DX7_readDeed_1 11 rfl) rfl,
  f_iload_n (n := 1) (e_dx DX7_readDeed_1 12 rfl) rfl,
  x_callV (e_dx DX7_readDeed_1 13 rfl) mwX7_readOfServes vwX7_readOfServes cX7_168 rfl,
  f_g19 (e_dx DX7_readDeed_1 14 rfl) rfl,
  f_aload_n (n := 0) (e_dx DX7_readDeed_1 15 rfl) rfl,
  f_iload_n (n := 1) (e_dx DX7_readDeed_1 16 rfl) rfl,
  x_callV (e_dx DX7_readDeed_1 17 rfl) mwX7_readOfTerms vwX7_readOfTerms cX7_171 rfl,
  ⟨(e_dx DX7_readDeed_1 18 rfl), rfl⟩, trivial⟩
def lX7_readDeed (c_X7_expect : Int → e_M → (e_M → Prop) → Prop) (c_X7_takeDate : e_M → (Int → e_M → Prop) → Prop) (c_X7_note : Int → e_M → (e_M → Prop) → Prop) (c_X7_take : e_M → (e_M → Prop) → Prop) (c_X7_readOfPersons : Int → e_M → (e_M → Prop) → Prop) (c_X7_readOfLots : Int → e_M → (e_M → Prop) → Prop) (c_X7_readOfCharges : Int → e_M → (e_M → Prop) → Prop) (c_X7_readOfServes : Int → e_M → (e_M → Prop) → Prop) (c_X7_readOfTerms : Int → e_M → (e_M → Prop) → Prop) : List (Nat × f_Wt) := [(0, f_wm [(20, 7, 12), (1, 0, 0)] (fun ar M R => c_X7_expect (f_vi (f_nth ar 1)) M (fun M => R none M))), (1, f_wm [(20, 7, 12)] (fun ar M R => c_X7_takeDate  M (fun r M => R (some (.inl r)) M))), (2, f_wm [(20, 7, 12), (1, 0, 0)] (fun ar M R => c_X7_note (f_vi (f_nth ar 1)) M (fun M => R none M))), (3, f_wm [(20, 7, 12)] (fun ar M R => c_X7_take  M (fun M => R none M))), (4, f_wm [(20, 7, 12), (1, 0, 0)] (fun ar M R => c_X7_readOfPersons (f_vi (f_nth ar 1)) M (fun M => R none M))), (5, f_wm [(20, 7, 12), (1, 0, 0)] (fun ar M R => c_X7_readOfLots (f_vi (f_nth ar 1)) M (fun M => R none M))), (6, f_wm [(20, 7, 12), (1, 0, 0)] (fun ar M R => c_X7_readOfCharges (f_vi (f_nth ar 1)) M (fun M => R none M))), (7, f_wm [(20, 7, 12), (1, 0, 0)] (fun ar M R => c_X7_readOfServes (f_vi (f_nth ar 1)) M (fun M => R none M))), (8, f_wm [(20, 7, 12), (1, 0, 0)] (fun ar M R => c_X7_readOfTerms (f_vi (f_nth ar 1)) M (fun M => R none M)))]
set_option maxRecDepth 20000 in
theorem BX7_readDeed_37 {sh : Nat → Nat × Nat} {t : Nat} {rm : Nat × Nat × Nat} {cs : Nat × Nat} {R : f_Rt} {c_X7_expect : Int → e_M → (e_M → Prop) → Prop} {c_X7_takeDate : e_M → (Int → e_M → Prop) → Prop} {c_X7_note : Int → e_M → (e_M → Prop) → Prop} {c_X7_take : e_M → (e_M → Prop) → Prop} {c_X7_readOfPersons : Int → e_M → (e_M → Prop) → Prop} {c_X7_readOfLots : Int → e_M → (e_M → Prop) → Prop} {c_X7_readOfCharges : Int → e_M → (e_M → Prop) → Prop} {c_X7_readOfServes : Int → e_M → (e_M → Prop) → Prop} {c_X7_readOfTerms : Int → e_M → (e_M → Prop) → Prop} {M : e_M} (C : f_Hy sh t yX7_readDeed rm cs 9 (lX7_readDeed c_X7_expect c_X7_takeDate c_X7_note c_X7_take c_X7_readOfPersons c_X7_readOfLots c_X7_readOfCharges c_X7_readOfServes c_X7_readOfTerms) R) (h : VX7_readDeed_37 c_X7_expect c_X7_takeDate c_X7_note c_X7_take c_X7_readOfPersons c_X7_readOfLots c_X7_readOfCharges c_X7_readOfServes c_X7_readOfTerms (fun M => R none M) M) : f_E sh t YX7_readDeed rm cs (f_Q sh t R) 37 [.inr (.inr (.inl (7, 12, 10))), .inr (.inr (.inr ()))] [] M :=
  f_go (KC := f_kc []) C qX7_readDeedf f_kc_nil 62 18 h
set_option maxRecDepth 20000 in
theorem BX7_readDeed {sh : Nat → Nat × Nat} {t : Nat} {rm : Nat × Nat × Nat} {cs : Nat × Nat} {R : f_Rt} {c_X7_expect : Int → e_M → (e_M → Prop) → Prop} {c_X7_takeDate : e_M → (Int → e_M → Prop) → Prop} {c_X7_note : Int → e_M → (e_M → Prop) → Prop} {c_X7_take : e_M → (e_M → Prop) → Prop} {c_X7_readOfPersons : Int → e_M → (e_M → Prop) → Prop} {c_X7_readOfLots : Int → e_M → (e_M → Prop) → Prop} {c_X7_readOfCharges : Int → e_M → (e_M → Prop) → Prop} {c_X7_readOfServes : Int → e_M → (e_M → Prop) → Prop} {c_X7_readOfTerms : Int → e_M → (e_M → Prop) → Prop} {k37 : e_M → Prop} {M : e_M} (C : f_Hy sh t yX7_readDeed rm cs 9 (lX7_readDeed c_X7_expect c_X7_takeDate c_X7_note c_X7_take c_X7_readOfPersons c_X7_readOfLots c_X7_readOfCharges c_X7_readOfServes c_X7_readOfTerms) R) (h37 : ∀ (M : e_M), k37 M → f_E sh t YX7_readDeed rm cs (f_Q sh t R) 37 [.inr (.inr (.inl (7, 12, 10))), .inr (.inr (.inr ()))] [] M) (h : VX7_readDeed c_X7_expect c_X7_takeDate c_X7_note c_X7_take c_X7_readOfPersons c_X7_readOfLots c_X7_readOfCharges c_X7_readOfServes c_X7_readOfTerms k37 (fun M => R none M) M) : f_E sh t YX7_readDeed rm cs (f_Q sh t R) 0 [.inr (.inr (.inl (7, 12, 10))), .inr (.inr (.inr ()))] [] M :=
  f_go (KC := f_kc [(37, f_pl [(20, 7, 12), (0, 0, 0)] [] (fun ls st M => k37 M))]) C qX7_readDeedf (f_kc_cons (f_pl_ok rfl (fun ls st M h => h37  M h)) f_kc_nil) 62 0 h
def WX7_readDeed_37 (Q : e_M → Prop) (M : e_M) : Prop :=
  VX7_readDeed_37 WX7_expect WX7_takeDate WX7_note WX7_take WX7_readOfPersons WX7_readOfLots WX7_readOfCharges WX7_readOfServes WX7_readOfTerms Q M
def WX7_readDeed (M : e_M) (Q : e_M → Prop) : Prop :=
  VX7_readDeed WX7_expect WX7_takeDate WX7_note WX7_take WX7_readOfPersons WX7_readOfLots WX7_readOfCharges WX7_readOfServes WX7_readOfTerms (WX7_readDeed_37 Q) Q M
theorem PX7_readDeed_37 {sh : Nat → Nat × Nat} {t : Nat} {rm : Nat × Nat × Nat} {cs : Nat × Nat} {R : f_Rt} {M : e_M} (C : f_Hy sh t yX7_readDeed rm cs 9 (lX7_readDeed WX7_expect WX7_takeDate WX7_note WX7_take WX7_readOfPersons WX7_readOfLots WX7_readOfCharges WX7_readOfServes WX7_readOfTerms) R) (h : WX7_readDeed_37 (fun M => R none M) M) : f_E sh t YX7_readDeed rm cs (f_Q sh t R) 37 [.inr (.inr (.inl (7, 12, 10))), .inr (.inr (.inr ()))] [] M :=
  BX7_readDeed_37 C h
theorem PX7_readDeed {sh : Nat → Nat × Nat} {t : Nat} {rm : Nat × Nat × Nat} {cs : Nat × Nat} {R : f_Rt} {M : e_M} (C : f_Hy sh t yX7_readDeed rm cs 9 (lX7_readDeed WX7_expect WX7_takeDate WX7_note WX7_take WX7_readOfPersons WX7_readOfLots WX7_readOfCharges WX7_readOfServes WX7_readOfTerms) R) (h : WX7_readDeed M (fun M => R none M)) : f_E sh t YX7_readDeed rm cs (f_Q sh t R) 0 [.inr (.inr (.inl (7, 12, 10))), .inr (.inr (.inr ()))] [] M :=
  BX7_readDeed C (fun M h => PX7_readDeed_37 C h) h
def wX7_readDeed : f_Wt := f_wm [(20, 7, 12)] (fun ar M R => WX7_readDeed M (fun M => R none M))
theorem TX7_readDeed {sh : Nat → Nat × Nat} {t : Nat} : f_Mt sh t YX7_readDeed 9 (wX7_readDeed) :=
  f_Mt_of (k := 1) (Nat.le_of_ble_eq_true rfl) rfl rfl (fun ar M R rm cs h1 h2 h3 hX h => PX7_readDeed ⟨Nat.le_of_ble_eq_true rfl, h1, h2, h3, ⟨(f_Mt.up (Nat.le_of_ble_eq_true rfl) TX7_expect), (f_Mt.up (Nat.le_of_ble_eq_true rfl) TX7_takeDate), (f_Mt.up (Nat.le_of_ble_eq_true rfl) TX7_note), (f_Mt.up (Nat.le_of_ble_eq_true rfl) TX7_take), (f_Mt.up (Nat.le_of_ble_eq_true rfl) TX7_readOfPersons), (f_Mt.up (Nat.le_of_ble_eq_true rfl) TX7_readOfLots), (f_Mt.up (Nat.le_of_ble_eq_true rfl) TX7_readOfCharges), (f_Mt.up (Nat.le_of_ble_eq_true rfl) TX7_readOfServes), (f_Mt.up (Nat.le_of_ble_eq_true rfl) TX7_readOfTerms), trivial⟩, hX⟩ h)
def VX7_readEntry_32 (c_X2_clear : Nat → e_M → (e_M → Prop) → Prop) (c_X7_take : e_M → (e_M → Prop) → Prop) (c_X7_expect : Int → e_M → (e_M → Prop) → Prop) (c_X7_readTarget : Nat → Int → e_M → (e_M → Prop) → Prop) (c_X7_readDeed : e_M → (e_M → Prop) → Prop) (c_X7_finish : e_M → (e_M → Prop) → Prop) (k95 : e_M → Prop) (Q : Int → e_M → Prop) (a2 : Nat) (x3 : Int) (M : e_M) : Prop :=
  (∀ M1 : e_M, M1 = e_up M ((M 10 9).toNat) 1 (M 10 6) → (c_X7_take M1 (fun M2 => (c_X7_expect 35 M2 (fun M3 => (c_X7_readTarget a2 (e_min x3 150) M3 (fun M4 => ((¬ (M4 ((M4 10 9).toNat) 1) = 223 → (k95 M4)) ∧ ((M4 ((M4 10 9).toNat) 1) = 223 → (c_X7_expect 225 M4 (fun M5 => (c_X7_readDeed M5 (fun M6 => (k95 M6))))))))))))))
def VX7_readEntry_95 (c_X2_clear : Nat → e_M → (e_M → Prop) → Prop) (c_X7_take : e_M → (e_M → Prop) → Prop) (c_X7_expect : Int → e_M → (e_M → Prop) → Prop) (c_X7_readTarget : Nat → Int → e_M → (e_M → Prop) → Prop) (c_X7_readDeed : e_M → (e_M → Prop) → Prop) (c_X7_finish : e_M → (e_M → Prop) → Prop) (Q : Int → e_M → Prop) (M : e_M) : Prop :=
  (c_X7_finish M (fun M1 => ((¬ (M1 10 7) = 0 → (Q 0 M1)) ∧ ((M1 10 7) = 0 → (Q 1 M1)))))
def VX7_readEntry (c_X2_clear : Nat → e_M → (e_M → Prop) → Prop) (c_X7_take : e_M → (e_M → Prop) → Prop) (c_X7_expect : Int → e_M → (e_M → Prop) → Prop) (c_X7_readTarget : Nat → Int → e_M → (e_M → Prop) → Prop) (c_X7_readDeed : e_M → (e_M → Prop) → Prop) (c_X7_finish : e_M → (e_M → Prop) → Prop) (k32 : Nat → Int → e_M → Prop) (k95 : e_M → Prop) (Q : Int → e_M → Prop) (a1 : Nat) (a2 : Nat) (x3 : Int) (M : e_M) : Prop :=
  (∀ M1 : e_M, M1 = e_up M 10 9 ((a1 : Nat) : Int) → (c_X2_clear ((M1 10 9).toNat) M1 (fun M2 => (((M2 10 6) = 222 → (k32 a2 x3 M2)) ∧ (¬ (M2 10 6) = 222 → ((¬ (M2 10 6) = 223 → (c_X7_readDeed M2 (fun M3 => (k95 M3)))) ∧ ((M2 10 6) = 223 → (k32 a2 x3 M2))))))))
def yX7_readEntry (i : Nat) : e_Y := x_get YX7_readEntry [YX2_clear, YX7_take, YX7_expect, YX7_readTarget, YX7_readDeed, YX7_finish] i
def pX7_readEntryf : List x_I := [(0, 4, 1, 0, 0, 0, []), (1, 4, 1, 1, 0, 0, []), (2, 26, 7, 9, 4, 0, [(0, 2, 19), (0, 0, 0)]), (5, 4, 1, 0, 0, 0, []), (6, 25, 7, 9, 4, 0, [(0, 2, 19), (0, 0, 0)]), (9, 40, 0, 1, 4, 0, []), (12, 4, 1, 0, 0, 0, []), (13, 25, 7, 6, 0, 0, []), (16, 0, 3, 0, 0, 222, []), (19, 18, 32, 0, 15, 0, []), (22, 4, 1, 0, 0, 0, []), (23, 25, 7, 6, 0, 0, []), (26, 0, 3, 0, 0, 223, []), (29, 18, 91, 1, 44, 0, []), (32, 49, 0, 0, 0, 0, []), (32, 4, 1, 0, 0, 0, []), (33, 25, 7, 9, 4, 0, [(0, 2, 19), (0, 0, 0)]), (36, 4, 1, 0, 0, 0, []), (37, 25, 7, 6, 0, 0, []), (40, 26, 2, 1, 0, 0, []), (43, 4, 1, 0, 0, 0, []), (44, 40, 1, 1, 9, 0, []), (47, 4, 1, 0, 0, 0, []), (48, 0, 2, 0, 0, 35, []), (50, 40, 2, 2, 9, 0, []), (53, 4, 1, 0, 0, 0, []), (54, 4, 1, 2, 0, 0, []), (55, 2, 1, 3, 0, 0, []), (56, 4, 1, 2, 0, 0, []), (57, 31, 0, 0, 0, 0, []), (58, 39, 0, 0, 0, 0, []), (61, 40, 3, 3, 9, 0, []), (64, 4, 1, 0, 0, 0, []), (65, 25, 7, 9, 4, 0, [(0, 2, 19), (0, 0, 0)]), (68, 25, 2, 1, 0, 0, []), (71, 0, 3, 0, 0, 223, []), (74, 18, 95, 1, 46, 0, []), (77, 4, 1, 0, 0, 0, []), (78, 0, 3, 0, 0, 225, []), (81, 40, 2, 2, 9, 0, []), (84, 4, 1, 0, 0, 0, []), (85, 40, 4, 1, 9, 0, []), (88, 19, 95, 0, 46, 0, []), (91, 4, 1, 0, 0, 0, []), (92, 40, 4, 1, 9, 0, []), (95, 49, 0, 0, 0, 0, []), (95, 4, 1, 0, 0, 0, []), (96, 40, 5, 1, 9, 0, []), (99, 4, 1, 0, 0, 0, []), (100, 25, 7, 7, 0, 0, []), (103, 17, 110, 1, 54, 0, []), (106, 0, 1, 0, 0, 1, []), (107, 19, 111, 0, 55, 0, []), (110, 0, 1, 0, 0, 0, []), (111, 48, 0, 0, 0, 0, [])]
set_option maxRecDepth 20000 in
theorem qX7_readEntryf : f_all yX7_readEntry YX7_readEntry pX7_readEntryf :=
  ⟨f_aload_n (n := 0) (e_dx DX7_readEntry_0 0 rfl) rfl,
  f_aload_n (n := 1) (e_dx DX7_readEntry_0 1 rfl) rfl,
  f_putA (e_dx DX7_readEntry_0 2 rfl) fX7_44 (fun q hq => by cases hq; rfl) rfl (by decide) rfl,
  f_aload_n (n := 0) (e_dx DX7_readEntry_0 3 rfl) rfl,
  f_getA (e_dx DX7_readEntry_0 4 rfl) fX7_44 rfl (by decide) (Nat.le_of_ble_eq_true rfl) rfl (by decide),
  x_callV (e_dx DX7_readEntry_0 5 rfl) mwX2_clear vwX2_clear cX7_131 rfl,
  f_aload_n (n := 0) (e_dx DX7_readEntry_0 6 rfl) rfl,
  f_getf (e_dx DX7_readEntry_0 7 rfl) fX7_32 rfl (by decide) (by decide) (by decide),
  f_sipush (e_dx DX7_readEntry_0 8 rfl) ⟨by decide, by decide⟩,
  f_icmp_eq (e_dx DX7_readEntry_0 9 rfl) rfl,
  f_aload_n (n := 0) (e_dx DX7_readEntry_0 10 rfl) rfl,
  f_getf (e_dx DX7_readEntry_0 11 rfl) fX7_32 rfl (by decide) (by decide) (by decide),
  f_sipush (e_dx DX7_readEntry_0 12 rfl) ⟨by decide, by decide⟩,
  f_icmp_ne (e_dx DX7_readEntry_0 13 rfl) rfl,
  trivial,
  f_aload_n (n := 0) (e_dx DX7_readEntry_0 14 rfl) rfl,
  f_getA (e_dx DX7_readEntry_0 15 rfl) fX7_44 rfl (by decide) (Nat.le_of_ble_eq_true rfl) rfl (by decide),
  f_aload_n (n := 0) (e_dx DX7_readEntry_0 16 rfl) rfl,
  f_getf (e_dx DX7_readEntry_0 17 rfl) fX7_32 rfl (by decide) (by decide) (by decide),
  f_putn (e_dx DX7_readEntry_0 18 rfl) fX7_134 (fun q hq => by cases hq; rfl) rfl (Or.inl rfl) (by decide),
  f_aload_n (n := 0) (e_dx DX7_readEntry_0 19 rfl) rfl,
  x_callV (e_dx DX7_readEntry_0 20 rfl) mwX7_take vwX7_take cX7_121 rfl,
  f_aload_n (n := 0) (e_dx DX7_readEntry_0 21 rfl) rfl,
  f_bipush (e_dx DX7_readEntry_0 22 rfl) ⟨by decide, by decide⟩,
  x_callV (e_dx DX7_readEntry_0 23 rfl) mwX7_expect vwX7_expect cX7_128 rfl,
  f_aload_n (n := 0) (e_dx DX7_readEntry_0 24 rfl) rfl,
  f_aload_n (n := 2) (e_dx DX7_readEntry_0 25 rfl) rfl,
  f_iload_n (n := 3) (e_dx DX7_readEntry_0 26 rfl) rfl,
  f_aload_n (n := 2) (e_dx DX7_readEntry_0 27 rfl) rfl,
  f_g31 (e_dx DX7_readEntry_0 28 rfl),
  f_mminI (e_dx DX7_readEntry_0 29 rfl) cX7_79 fm_s_mminI fm_i fm_c_mminI,
  x_callV (e_dx DX7_readEntry_0 30 rfl) mwX7_readTarget vwX7_readTarget cX7_137 rfl,
  f_aload_n (n := 0) (e_dx DX7_readEntry_0 31 rfl) rfl,
  f_getA (e_dx DX7_readEntry_0 32 rfl) fX7_44 rfl (by decide) (Nat.le_of_ble_eq_true rfl) rfl (by decide),
  f_getf (e_dx DX7_readEntry_0 33 rfl) fX7_134 rfl (by decide) (by decide) (by decide),
  f_sipush (e_dx DX7_readEntry_0 34 rfl) ⟨by decide, by decide⟩,
  f_icmp_ne (e_dx DX7_readEntry_0 35 rfl) rfl,
  f_aload_n (n := 0) (e_dx DX7_readEntry_0 36 rfl) rfl,
  f_sipush (e_dx DX7_readEntry_0 37 rfl) ⟨by decide, by decide⟩,
  x_callV (e_dx DX7_readEntry_0 38 rfl) mwX7_expect vwX7_expect cX7_128 rfl,
  f_aload_n (n := 0) (e_dx DX7_readEntry_0 39 rfl) rfl,
  x_callV (e_dx DX7_readEntry_1 0 rfl) mwX7_readDeed vwX7_readDeed cX7_141 rfl,
  f_g19 (e_dx DX7_readEntry_1 1 rfl) rfl,
  f_aload_n (n := 0) (e_dx DX7_readEntry_1 2 rfl) rfl,
  x_callV (e_dx DX7_readEntry_1 3 rfl) mwX7_readDeed vwX7_readDeed cX7_141 rfl,
  trivial,
  f_aload_n (n := 0) (e_dx DX7_readEntry_1 4 rfl) rfl,
  x_callV (e_dx DX7_readEntry_1 5 rfl) mwX7_finish vwX7_finish cX7_144 rfl,
  f_aload_n (n := 0) (e_dx DX7_readEntry_1 6 rfl) rfl,
  f_getf (e_dx DX7_readEntry_1 7 rfl) fX7_35 rfl (by decide) (by decide) (by decide),
  f_if_ne (e_dx DX7_readEntry_1 8 rfl) rfl,
  f_iconst (e_dx DX7_readEntry_1 9 rfl) ⟨by decide, by decide⟩,
  f_g19 (e_dx DX7_readEntry_1 10 rfl) rfl,
  f_iconst (e_dx DX7_readEntry_1 11 rfl) ⟨by decide, by decide⟩,
  ⟨(e_dx DX7_readEntry_1 12 rfl), rfl⟩, trivial⟩
def lX7_readEntry (c_X2_clear : Nat → e_M → (e_M → Prop) → Prop) (c_X7_take : e_M → (e_M → Prop) → Prop) (c_X7_expect : Int → e_M → (e_M → Prop) → Prop) (c_X7_readTarget : Nat → Int → e_M → (e_M → Prop) → Prop) (c_X7_readDeed : e_M → (e_M → Prop) → Prop) (c_X7_finish : e_M → (e_M → Prop) → Prop) : List (Nat × f_Wt) := [(0, f_wm [(3, 2, 19)] (fun ar M R => c_X2_clear (f_va (f_nth ar 0)) M (fun M => R none M))), (1, f_wm [(20, 7, 12)] (fun ar M R => c_X7_take  M (fun M => R none M))), (2, f_wm [(20, 7, 12), (1, 0, 0)] (fun ar M R => c_X7_expect (f_vi (f_nth ar 1)) M (fun M => R none M))), (3, f_wm [(20, 7, 12), (3, 32, 150), (1, 0, 0)] (fun ar M R => c_X7_readTarget (f_va (f_nth ar 1)) (f_vi (f_nth ar 2)) M (fun M => R none M))), (4, f_wm [(20, 7, 12)] (fun ar M R => c_X7_readDeed  M (fun M => R none M))), (5, f_wm [(20, 7, 12)] (fun ar M R => c_X7_finish  M (fun M => R none M)))]
set_option maxRecDepth 20000 in
theorem BX7_readEntry_32 {sh : Nat → Nat × Nat} {t : Nat} {rm : Nat × Nat × Nat} {cs : Nat × Nat} {R : f_Rt} {c_X2_clear : Nat → e_M → (e_M → Prop) → Prop} {c_X7_take : e_M → (e_M → Prop) → Prop} {c_X7_expect : Int → e_M → (e_M → Prop) → Prop} {c_X7_readTarget : Nat → Int → e_M → (e_M → Prop) → Prop} {c_X7_readDeed : e_M → (e_M → Prop) → Prop} {c_X7_finish : e_M → (e_M → Prop) → Prop} {k95 : e_M → Prop} {a2 : Nat} {x3 : Int} {M : e_M} (C : f_Hy sh t yX7_readEntry rm cs 10 (lX7_readEntry c_X2_clear c_X7_take c_X7_expect c_X7_readTarget c_X7_readDeed c_X7_finish) R) (h95 : ∀ (M : e_M), k95 M → f_E sh t YX7_readEntry rm cs (f_Q sh t R) 95 [.inr (.inr (.inl (7, 12, 10))), .inr (.inr (.inr ())), .inr (.inr (.inr ())), .inr (.inr (.inr ()))] [] M) (h : VX7_readEntry_32 c_X2_clear c_X7_take c_X7_expect c_X7_readTarget c_X7_readDeed c_X7_finish k95 (fun r M => R (some (.inl r)) M) a2 x3 M) : f_E sh t YX7_readEntry rm cs (f_Q sh t R) 32 [.inr (.inr (.inl (7, 12, 10))), .inr (.inr (.inr ())), .inr (.inr (.inl (32, 150, a2))), .inl x3] [] M :=
  f_go (KC := f_kc [(95, f_pl [(20, 7, 12), (0, 0, 0), (0, 0, 0), (0, 0, 0)] [] (fun ls st M => k95 M))]) C qX7_readEntryf (f_kc_cons (f_pl_ok rfl (fun ls st M h => h95  M h)) f_kc_nil) 57 15 h
set_option maxRecDepth 20000 in
theorem BX7_readEntry_95 {sh : Nat → Nat × Nat} {t : Nat} {rm : Nat × Nat × Nat} {cs : Nat × Nat} {R : f_Rt} {c_X2_clear : Nat → e_M → (e_M → Prop) → Prop} {c_X7_take : e_M → (e_M → Prop) → Prop} {c_X7_expect : Int → e_M → (e_M → Prop) → Prop} {c_X7_readTarget : Nat → Int → e_M → (e_M → Prop) → Prop} {c_X7_readDeed : e_M → (e_M → Prop) → Prop} {c_X7_finish : e_M → (e_M → Prop) → Prop} {M : e_M} (C : f_Hy sh t yX7_readEntry rm cs 10 (lX7_readEntry c_X2_clear c_X7_take c_X7_expect c_X7_readTarget c_X7_readDeed c_X7_finish) R) (h : VX7_readEntry_95 c_X2_clear c_X7_take c_X7_expect c_X7_readTarget c_X7_readDeed c_X7_finish (fun r M => R (some (.inl r)) M) M) : f_E sh t YX7_readEntry rm cs (f_Q sh t R) 95 [.inr (.inr (.inl (7, 12, 10))), .inr (.inr (.inr ())), .inr (.inr (.inr ())), .inr (.inr (.inr ()))] [] M :=
  f_go (KC := f_kc []) C qX7_readEntryf f_kc_nil 57 46 h
set_option maxRecDepth 20000 in
theorem BX7_readEntry {sh : Nat → Nat × Nat} {t : Nat} {rm : Nat × Nat × Nat} {cs : Nat × Nat} {R : f_Rt} {c_X2_clear : Nat → e_M → (e_M → Prop) → Prop} {c_X7_take : e_M → (e_M → Prop) → Prop} {c_X7_expect : Int → e_M → (e_M → Prop) → Prop} {c_X7_readTarget : Nat → Int → e_M → (e_M → Prop) → Prop} {c_X7_readDeed : e_M → (e_M → Prop) → Prop} {c_X7_finish : e_M → (e_M → Prop) → Prop} {k32 : Nat → Int → e_M → Prop} {k95 : e_M → Prop} {a1 : Nat} {a2 : Nat} {x3 : Int} {M : e_M} (C : f_Hy sh t yX7_readEntry rm cs 10 (lX7_readEntry c_X2_clear c_X7_take c_X7_expect c_X7_readTarget c_X7_readDeed c_X7_finish) R) (h32 : ∀ (a2 : Nat) (x3 : Int) (M : e_M), k32 a2 x3 M → f_E sh t YX7_readEntry rm cs (f_Q sh t R) 32 [.inr (.inr (.inl (7, 12, 10))), .inr (.inr (.inr ())), .inr (.inr (.inl (32, 150, a2))), .inl x3] [] M) (h95 : ∀ (M : e_M), k95 M → f_E sh t YX7_readEntry rm cs (f_Q sh t R) 95 [.inr (.inr (.inl (7, 12, 10))), .inr (.inr (.inr ())), .inr (.inr (.inr ())), .inr (.inr (.inr ()))] [] M) (h : VX7_readEntry c_X2_clear c_X7_take c_X7_expect c_X7_readTarget c_X7_readDeed c_X7_finish k32 k95 (fun r M => R (some (.inl r)) M) a1 a2 x3 M) : f_E sh t YX7_readEntry rm cs (f_Q sh t R) 0 [.inr (.inr (.inl (7, 12, 10))), .inr (.inr (.inl (2, 19, a1))), .inr (.inr (.inl (32, 150, a2))), .inl x3] [] M :=
  f_go (KC := f_kc [(32, f_pl [(20, 7, 12), (0, 0, 0), (3, 32, 150), (1, 0, 0)] [] (fun ls st M => k32 (f_va (f_nth ls 2)) (f_vi (f_nth ls 3)) M)), (95, f_pl [(20, 7, 12), (0, 0, 0), (0, 0, 0), (0, 0, 0)] [] (fun ls st M => k95 M))]) C qX7_readEntryf (f_kc_cons (f_pl_ok rfl (fun ls st M h => h32 _ _ M h)) (f_kc_cons (f_pl_ok rfl (fun ls st M h => h95  M h)) f_kc_nil)) 57 0 h
def WX7_readEntry_95 (Q : Int → e_M → Prop) (M : e_M) : Prop :=
  VX7_readEntry_95 WX2_clear WX7_take WX7_expect WX7_readTarget WX7_readDeed WX7_finish Q M
def WX7_readEntry_32 (Q : Int → e_M → Prop) (a2 : Nat) (x3 : Int) (M : e_M) : Prop :=
  VX7_readEntry_32 WX2_clear WX7_take WX7_expect WX7_readTarget WX7_readDeed WX7_finish (WX7_readEntry_95 Q) Q a2 x3 M
def WX7_readEntry (a1 : Nat) (a2 : Nat) (x3 : Int) (M : e_M) (Q : Int → e_M → Prop) : Prop :=
  VX7_readEntry WX2_clear WX7_take WX7_expect WX7_readTarget WX7_readDeed WX7_finish (WX7_readEntry_32 Q) (WX7_readEntry_95 Q) Q a1 a2 x3 M
theorem PX7_readEntry_95 {sh : Nat → Nat × Nat} {t : Nat} {rm : Nat × Nat × Nat} {cs : Nat × Nat} {R : f_Rt} {M : e_M} (C : f_Hy sh t yX7_readEntry rm cs 10 (lX7_readEntry WX2_clear WX7_take WX7_expect WX7_readTarget WX7_readDeed WX7_finish) R) (h : WX7_readEntry_95 (fun r M => R (some (.inl r)) M) M) : f_E sh t YX7_readEntry rm cs (f_Q sh t R) 95 [.inr (.inr (.inl (7, 12, 10))), .inr (.inr (.inr ())), .inr (.inr (.inr ())), .inr (.inr (.inr ()))] [] M :=
  BX7_readEntry_95 C h
theorem PX7_readEntry_32 {sh : Nat → Nat × Nat} {t : Nat} {rm : Nat × Nat × Nat} {cs : Nat × Nat} {R : f_Rt} {a2 : Nat} {x3 : Int} {M : e_M} (C : f_Hy sh t yX7_readEntry rm cs 10 (lX7_readEntry WX2_clear WX7_take WX7_expect WX7_readTarget WX7_readDeed WX7_finish) R) (h : WX7_readEntry_32 (fun r M => R (some (.inl r)) M) a2 x3 M) : f_E sh t YX7_readEntry rm cs (f_Q sh t R) 32 [.inr (.inr (.inl (7, 12, 10))), .inr (.inr (.inr ())), .inr (.inr (.inl (32, 150, a2))), .inl x3] [] M :=
  BX7_readEntry_32 C (fun M h => PX7_readEntry_95 C h) h
theorem PX7_readEntry {sh : Nat → Nat × Nat} {t : Nat} {rm : Nat × Nat × Nat} {cs : Nat × Nat} {R : f_Rt} {a1 : Nat} {a2 : Nat} {x3 : Int} {M : e_M} (C : f_Hy sh t yX7_readEntry rm cs 10 (lX7_readEntry WX2_clear WX7_take WX7_expect WX7_readTarget WX7_readDeed WX7_finish) R) (h : WX7_readEntry a1 a2 x3 M (fun r M => R (some (.inl r)) M)) : f_E sh t YX7_readEntry rm cs (f_Q sh t R) 0 [.inr (.inr (.inl (7, 12, 10))), .inr (.inr (.inl (2, 19, a1))), .inr (.inr (.inl (32, 150, a2))), .inl x3] [] M :=
  BX7_readEntry C (fun a2 x3 M h => PX7_readEntry_32 C h) (fun M h => PX7_readEntry_95 C h) h
def wX7_readEntry : f_Wt := f_wm [(20, 7, 12), (3, 2, 19), (3, 32, 150), (1, 0, 0)] (fun ar M R => WX7_readEntry (f_va (f_nth ar 1)) (f_va (f_nth ar 2)) (f_vi (f_nth ar 3)) M (fun r M => R (some (.inl r)) M))
theorem TX7_readEntry {sh : Nat → Nat × Nat} {t : Nat} : f_Mt sh t YX7_readEntry 10 (wX7_readEntry) :=
  f_Mt_of (k := 0) (Nat.le_of_ble_eq_true rfl) rfl rfl (fun ar M R rm cs h1 h2 h3 hX h => PX7_readEntry ⟨Nat.le_of_ble_eq_true rfl, h1, h2, h3, ⟨(f_Mt.up (Nat.le_of_ble_eq_true rfl) TX2_clear), (f_Mt.up (Nat.le_of_ble_eq_true rfl) TX7_take), (f_Mt.up (Nat.le_of_ble_eq_true rfl) TX7_expect), (f_Mt.up (Nat.le_of_ble_eq_true rfl) TX7_readTarget), (f_Mt.up (Nat.le_of_ble_eq_true rfl) TX7_readDeed), (f_Mt.up (Nat.le_of_ble_eq_true rfl) TX7_finish), trivial⟩, hX⟩ h)
def VX7_readDeedAlone (c_X2_clear : Nat → e_M → (e_M → Prop) → Prop) (c_X7_readDeed : e_M → (e_M → Prop) → Prop) (c_X7_finish : e_M → (e_M → Prop) → Prop) (Q : Int → e_M → Prop) (a1 : Nat) (M : e_M) : Prop :=
  (∀ M1 : e_M, M1 = e_up M 10 9 ((a1 : Nat) : Int) → (c_X2_clear ((M1 10 9).toNat) M1 (fun M2 => (c_X7_readDeed M2 (fun M3 => (c_X7_finish M3 (fun M4 => ((¬ (M4 10 7) = 0 → (Q 0 M4)) ∧ ((M4 10 7) = 0 → (Q 1 M4))))))))))
def yX7_readDeedAlone (i : Nat) : e_Y := x_get YX7_readDeedAlone [YX2_clear, YX7_readDeed, YX7_finish] i
def pX7_readDeedAlonef : List x_I := [(0, 4, 1, 0, 0, 0, []), (1, 4, 1, 1, 0, 0, []), (2, 26, 7, 9, 4, 0, [(0, 2, 19), (0, 0, 0)]), (5, 4, 1, 0, 0, 0, []), (6, 25, 7, 9, 4, 0, [(0, 2, 19), (0, 0, 0)]), (9, 40, 0, 1, 4, 0, []), (12, 4, 1, 0, 0, 0, []), (13, 40, 1, 1, 9, 0, []), (16, 4, 1, 0, 0, 0, []), (17, 40, 2, 1, 9, 0, []), (20, 4, 1, 0, 0, 0, []), (21, 25, 7, 7, 0, 0, []), (24, 17, 31, 1, 16, 0, []), (27, 0, 1, 0, 0, 1, []), (28, 19, 32, 0, 17, 0, []), (31, 0, 1, 0, 0, 0, []), (32, 48, 0, 0, 0, 0, [])]
set_option maxRecDepth 20000 in
theorem qX7_readDeedAlonef : f_all yX7_readDeedAlone YX7_readDeedAlone pX7_readDeedAlonef :=
  ⟨f_aload_n (n := 0) (e_dx DX7_readDeedAlone_0 0 rfl) rfl,
  f_aload_n (n := 1) (e_dx DX7_readDeedAlone_0 1 rfl) rfl,
  f_putA (e_dx DX7_readDeedAlone_0 2 rfl) fX7_44 (fun q hq => by cases hq; rfl) rfl (by decide) rfl,
  f_aload_n (n := 0) (e_dx DX7_readDeedAlone_0 3 rfl) rfl,
  f_getA (e_dx DX7_readDeedAlone_0 4 rfl) fX7_44 rfl (by decide) (Nat.le_of_ble_eq_true rfl) rfl (by decide),
  x_callV (e_dx DX7_readDeedAlone_0 5 rfl) mwX2_clear vwX2_clear cX7_131 rfl,
  f_aload_n (n := 0) (e_dx DX7_readDeedAlone_0 6 rfl) rfl,
  x_callV (e_dx DX7_readDeedAlone_0 7 rfl) mwX7_readDeed vwX7_readDeed cX7_141 rfl,
  f_aload_n (n := 0) (e_dx DX7_readDeedAlone_0 8 rfl) rfl,
  x_callV (e_dx DX7_readDeedAlone_0 9 rfl) mwX7_finish vwX7_finish cX7_144 rfl,
  f_aload_n (n := 0) (e_dx DX7_readDeedAlone_0 10 rfl) rfl,
  f_getf (e_dx DX7_readDeedAlone_0 11 rfl) fX7_35 rfl (by decide) (by decide) (by decide),
  f_if_ne (e_dx DX7_readDeedAlone_0 12 rfl) rfl,
  f_iconst (e_dx DX7_readDeedAlone_0 13 rfl) ⟨by decide, by decide⟩,
  f_g19 (e_dx DX7_readDeedAlone_0 14 rfl) rfl,
  f_iconst (e_dx DX7_readDeedAlone_0 15 rfl) ⟨by decide, by decide⟩,
  ⟨(e_dx DX7_readDeedAlone_0 16 rfl), rfl⟩, trivial⟩
def lX7_readDeedAlone (c_X2_clear : Nat → e_M → (e_M → Prop) → Prop) (c_X7_readDeed : e_M → (e_M → Prop) → Prop) (c_X7_finish : e_M → (e_M → Prop) → Prop) : List (Nat × f_Wt) := [(0, f_wm [(3, 2, 19)] (fun ar M R => c_X2_clear (f_va (f_nth ar 0)) M (fun M => R none M))), (1, f_wm [(20, 7, 12)] (fun ar M R => c_X7_readDeed  M (fun M => R none M))), (2, f_wm [(20, 7, 12)] (fun ar M R => c_X7_finish  M (fun M => R none M)))]
set_option maxRecDepth 20000 in
theorem BX7_readDeedAlone {sh : Nat → Nat × Nat} {t : Nat} {rm : Nat × Nat × Nat} {cs : Nat × Nat} {R : f_Rt} {c_X2_clear : Nat → e_M → (e_M → Prop) → Prop} {c_X7_readDeed : e_M → (e_M → Prop) → Prop} {c_X7_finish : e_M → (e_M → Prop) → Prop} {a1 : Nat} {M : e_M} (C : f_Hy sh t yX7_readDeedAlone rm cs 10 (lX7_readDeedAlone c_X2_clear c_X7_readDeed c_X7_finish) R) (h : VX7_readDeedAlone c_X2_clear c_X7_readDeed c_X7_finish (fun r M => R (some (.inl r)) M) a1 M) : f_E sh t YX7_readDeedAlone rm cs (f_Q sh t R) 0 [.inr (.inr (.inl (7, 12, 10))), .inr (.inr (.inl (2, 19, a1)))] [] M :=
  f_go (KC := f_kc []) C qX7_readDeedAlonef f_kc_nil 19 0 h
def WX7_readDeedAlone (a1 : Nat) (M : e_M) (Q : Int → e_M → Prop) : Prop :=
  VX7_readDeedAlone WX2_clear WX7_readDeed WX7_finish Q a1 M
theorem PX7_readDeedAlone {sh : Nat → Nat × Nat} {t : Nat} {rm : Nat × Nat × Nat} {cs : Nat × Nat} {R : f_Rt} {a1 : Nat} {M : e_M} (C : f_Hy sh t yX7_readDeedAlone rm cs 10 (lX7_readDeedAlone WX2_clear WX7_readDeed WX7_finish) R) (h : WX7_readDeedAlone a1 M (fun r M => R (some (.inl r)) M)) : f_E sh t YX7_readDeedAlone rm cs (f_Q sh t R) 0 [.inr (.inr (.inl (7, 12, 10))), .inr (.inr (.inl (2, 19, a1)))] [] M :=
  BX7_readDeedAlone C h
def wX7_readDeedAlone : f_Wt := f_wm [(20, 7, 12), (3, 2, 19)] (fun ar M R => WX7_readDeedAlone (f_va (f_nth ar 1)) M (fun r M => R (some (.inl r)) M))
theorem TX7_readDeedAlone {sh : Nat → Nat × Nat} {t : Nat} : f_Mt sh t YX7_readDeedAlone 10 (wX7_readDeedAlone) :=
  f_Mt_of (k := 0) (Nat.le_of_ble_eq_true rfl) rfl rfl (fun ar M R rm cs h1 h2 h3 hX h => PX7_readDeedAlone ⟨Nat.le_of_ble_eq_true rfl, h1, h2, h3, ⟨(f_Mt.up (Nat.le_of_ble_eq_true rfl) TX2_clear), (f_Mt.up (Nat.le_of_ble_eq_true rfl) TX7_readDeed), (f_Mt.up (Nat.le_of_ble_eq_true rfl) TX7_finish), trivial⟩, hX⟩ h)
def VX10_isOf (Q : Int → Prop) (a0 : Nat) (x1 : Int) (x2 : Int) (x3 : Int) (M : e_M) : Prop :=
  ((¬ (M a0 12) = x1 → (Q 0)) ∧ ((M a0 12) = x1 → ((¬ (M a0 13) = x2 → (Q 0)) ∧ ((M a0 13) = x2 → ((¬ (M a0 14) = x3 → (Q 0)) ∧ ((M a0 14) = x3 → (Q 1)))))))
def yX10_isOf (i : Nat) : e_Y := x_get YX10_isOf [] i
def pX10_isOff : List x_I := [(0, 4, 1, 0, 0, 0, []), (1, 25, 10, 12, 0, 0, []), (4, 2, 1, 1, 0, 0, []), (5, 18, 28, 1, 15, 0, []), (8, 4, 1, 0, 0, 0, []), (9, 25, 10, 13, 0, 0, []), (12, 2, 1, 2, 0, 0, []), (13, 18, 28, 1, 15, 0, []), (16, 4, 1, 0, 0, 0, []), (17, 25, 10, 14, 0, 0, []), (20, 2, 1, 3, 0, 0, []), (21, 18, 28, 1, 15, 0, []), (24, 0, 1, 0, 0, 1, []), (25, 19, 29, 0, 16, 0, []), (28, 0, 1, 0, 0, 0, []), (29, 48, 0, 0, 0, 0, [])]
set_option maxRecDepth 20000 in
theorem qX10_isOff : f_all yX10_isOf YX10_isOf pX10_isOff :=
  ⟨f_aload_n (n := 0) (e_dx DX10_isOf_0 0 rfl) rfl,
  f_getf (e_dx DX10_isOf_0 1 rfl) fX10_68 rfl (by decide) (by decide) (by decide),
  f_iload_n (n := 1) (e_dx DX10_isOf_0 2 rfl) rfl,
  f_icmp_ne (e_dx DX10_isOf_0 3 rfl) rfl,
  f_aload_n (n := 0) (e_dx DX10_isOf_0 4 rfl) rfl,
  f_getf (e_dx DX10_isOf_0 5 rfl) fX10_71 rfl (by decide) (by decide) (by decide),
  f_iload_n (n := 2) (e_dx DX10_isOf_0 6 rfl) rfl,
  f_icmp_ne (e_dx DX10_isOf_0 7 rfl) rfl,
  f_aload_n (n := 0) (e_dx DX10_isOf_0 8 rfl) rfl,
  f_getf (e_dx DX10_isOf_0 9 rfl) fX10_74 rfl (by decide) (by decide) (by decide),
  f_iload_n (n := 3) (e_dx DX10_isOf_0 10 rfl) rfl,
  f_icmp_ne (e_dx DX10_isOf_0 11 rfl) rfl,
  f_iconst (e_dx DX10_isOf_0 12 rfl) ⟨by decide, by decide⟩,
  f_g19 (e_dx DX10_isOf_0 13 rfl) rfl,
  f_iconst (e_dx DX10_isOf_0 14 rfl) ⟨by decide, by decide⟩,
  ⟨(e_dx DX10_isOf_0 15 rfl), rfl⟩, trivial⟩
def lX10_isOf : List (Nat × f_Wt) := []
set_option maxRecDepth 20000 in
theorem BX10_isOf {sh : Nat → Nat × Nat} {t : Nat} {rm : Nat × Nat × Nat} {cs : Nat × Nat} {R : f_Rt} {a0 : Nat} {x1 : Int} {x2 : Int} {x3 : Int} {M : e_M} (C : f_Hy sh t yX10_isOf rm cs 4 (lX10_isOf) R) (h : VX10_isOf (fun r => R (some (.inl r)) M) a0 x1 x2 x3 M) : f_E sh t YX10_isOf rm cs (f_Q sh t R) 0 [.inr (.inr (.inl (10, 15, a0))), .inl x1, .inl x2, .inl x3] [] M :=
  f_go (KC := f_kc []) C qX10_isOff f_kc_nil 18 0 h
def WX10_isOf (a0 : Nat) (x1 : Int) (x2 : Int) (x3 : Int) (M : e_M) (Q : Int → Prop) : Prop :=
  VX10_isOf Q a0 x1 x2 x3 M
theorem PX10_isOf {sh : Nat → Nat × Nat} {t : Nat} {rm : Nat × Nat × Nat} {cs : Nat × Nat} {R : f_Rt} {a0 : Nat} {x1 : Int} {x2 : Int} {x3 : Int} {M : e_M} (C : f_Hy sh t yX10_isOf rm cs 4 (lX10_isOf) R) (h : WX10_isOf a0 x1 x2 x3 M (fun r => R (some (.inl r)) M)) : f_E sh t YX10_isOf rm cs (f_Q sh t R) 0 [.inr (.inr (.inl (10, 15, a0))), .inl x1, .inl x2, .inl x3] [] M :=
  BX10_isOf C h
def wX10_isOf : f_Wt := f_wm [(3, 10, 15), (1, 0, 0), (1, 0, 0), (1, 0, 0)] (fun ar M R => WX10_isOf (f_va (f_nth ar 0)) (f_vi (f_nth ar 1)) (f_vi (f_nth ar 2)) (f_vi (f_nth ar 3)) M (fun r => R (some (.inl r)) M))
theorem TX10_isOf {sh : Nat → Nat × Nat} {t : Nat} : f_Mt sh t YX10_isOf 4 (wX10_isOf) :=
  f_Mt_of (k := 0) (Nat.le_of_ble_eq_true rfl) rfl rfl (fun ar M R rm cs h1 h2 h3 hX h => PX10_isOf ⟨Nat.le_of_ble_eq_true rfl, h1, h2, h3, trivial, hX⟩ h)
def VX10_forget (Q : e_M → Prop) (a0 : Nat) (M : e_M) : Prop :=
  (∀ M1 : e_M, M1 = e_up M a0 12 (-1) → (Q M1))
def yX10_forget (i : Nat) : e_Y := x_get YX10_forget [] i
def pX10_forgetf : List x_I := [(0, 4, 1, 0, 0, 0, []), (1, 0, 1, 0, 0, (-1), []), (2, 26, 10, 12, 0, 0, []), (5, 44, 0, 0, 0, 0, [])]
set_option maxRecDepth 20000 in
theorem qX10_forgetf : f_all yX10_forget YX10_forget pX10_forgetf :=
  ⟨f_aload_n (n := 0) (e_dx DX10_forget_0 0 rfl) rfl,
  f_iconst (e_dx DX10_forget_0 1 rfl) ⟨by decide, by decide⟩,
  f_putn (e_dx DX10_forget_0 2 rfl) fX10_68 (fun q hq => by cases hq; rfl) rfl (Or.inl rfl) (by decide),
  ⟨(e_dx DX10_forget_0 3 rfl), rfl⟩, trivial⟩
def lX10_forget : List (Nat × f_Wt) := []
set_option maxRecDepth 20000 in
theorem BX10_forget {sh : Nat → Nat × Nat} {t : Nat} {rm : Nat × Nat × Nat} {cs : Nat × Nat} {R : f_Rt} {a0 : Nat} {M : e_M} (C : f_Hy sh t yX10_forget rm cs 4 (lX10_forget) R) (h : VX10_forget (fun M => R none M) a0 M) : f_E sh t YX10_forget rm cs (f_Q sh t R) 0 [.inr (.inr (.inl (10, 15, a0)))] [] M :=
  f_go (KC := f_kc []) C qX10_forgetf f_kc_nil 6 0 h
def WX10_forget (a0 : Nat) (M : e_M) (Q : e_M → Prop) : Prop :=
  VX10_forget Q a0 M
theorem PX10_forget {sh : Nat → Nat × Nat} {t : Nat} {rm : Nat × Nat × Nat} {cs : Nat × Nat} {R : f_Rt} {a0 : Nat} {M : e_M} (C : f_Hy sh t yX10_forget rm cs 4 (lX10_forget) R) (h : WX10_forget a0 M (fun M => R none M)) : f_E sh t YX10_forget rm cs (f_Q sh t R) 0 [.inr (.inr (.inl (10, 15, a0)))] [] M :=
  BX10_forget C h
def wX10_forget : f_Wt := f_wm [(3, 10, 15)] (fun ar M R => WX10_forget (f_va (f_nth ar 0)) M (fun M => R none M))
theorem TX10_forget {sh : Nat → Nat × Nat} {t : Nat} : f_Mt sh t YX10_forget 4 (wX10_forget) :=
  f_Mt_of (k := 0) (Nat.le_of_ble_eq_true rfl) rfl rfl (fun ar M R rm cs h1 h2 h3 hX h => PX10_forget ⟨Nat.le_of_ble_eq_true rfl, h1, h2, h3, trivial, hX⟩ h)
def VX10_begin_39 (c_X10_add : Nat → Int → Int → Nat → Int → e_M → (Nat → e_M → Prop) → Prop) (c_X10_at : Nat → Int → Int → e_M → (Nat → Prop) → Prop) (c_X10_addLot : Nat → Int → e_M → (Int → e_M → Prop) → Prop) (c_X10_lot : Nat → Int → e_M → (Nat → Prop) → Prop) (c_X4_own : Nat → Int → e_M → (e_M → Prop) → Prop) (c_X3_add : Nat → Int → Int → e_M → (e_M → Prop) → Prop) (k39 : Nat → Int → e_M → Prop) (Q : e_M → Prop) (a0 : Nat) (x4 : Int) (M : e_M) : Prop :=
  ((8 ≤ x4 → (c_X10_add a0 1 7165912515837165568 ((M (a0 + 12) 11).toNat) 0 M (fun r1 M2 => (c_X10_at a0 1 0 M2 (fun r3 => (∀ M4 : e_M, M4 = e_up M2 r3 7 1 → (c_X10_addLot a0 7809644604612935680 M4 (fun r5 M6 => (c_X10_lot a0 r5 M6 (fun r7 => (c_X4_own r7 0 M6 (fun M8 => (c_X3_add (r7 + 1) 0 0 M8 (fun M9 => (c_X3_add (r7 + 1) 1000 0 M9 (fun M10 => (c_X3_add (r7 + 1) 1000 1000 M10 (fun M11 => (c_X3_add (r7 + 1) 0 1000 M11 (fun M12 => (Q M12))))))))))))))))))))) ∧ (x4 < 8 → ((0 ≤ x4 ∧ x4 < 8) ∧ (∀ M13 : e_M, M13 = e_up M (a0 + 24) (x4.toNat) 0 → (k39 a0 (e_w32 (x4 + 1)) M13)))))
def VX10_begin (c_X10_add : Nat → Int → Int → Nat → Int → e_M → (Nat → e_M → Prop) → Prop) (c_X10_at : Nat → Int → Int → e_M → (Nat → Prop) → Prop) (c_X10_addLot : Nat → Int → e_M → (Int → e_M → Prop) → Prop) (c_X10_lot : Nat → Int → e_M → (Nat → Prop) → Prop) (c_X4_own : Nat → Int → e_M → (e_M → Prop) → Prop) (c_X3_add : Nat → Int → Int → e_M → (e_M → Prop) → Prop) (k39 : Nat → Int → e_M → Prop) (Q : e_M → Prop) (a0 : Nat) (x1 : Int) (x2 : Int) (x3 : Int) (M : e_M) : Prop :=
  (∀ M1 : e_M, M1 = e_up M a0 12 x1 → (∀ M2 : e_M, M2 = e_up M1 a0 13 x2 → (∀ M3 : e_M, M3 = e_up M2 a0 14 (e_min x3 150) → (∀ M4 : e_M, M4 = e_up M3 a0 11 0 → (∀ M5 : e_M, M5 = e_up M4 a0 10 0 → (∀ M6 : e_M, M6 = e_up M5 a0 9 0 → (k39 a0 0 M6)))))))
def yX10_begin (i : Nat) : e_Y := x_get YX10_begin [YX10_add, YX10_at, YX10_addLot, YX10_lot, YX4_own, YX3_add] i
def pX10_beginf : List x_I := [(0, 4, 1, 0, 0, 0, []), (1, 2, 1, 1, 0, 0, []), (2, 26, 10, 12, 0, 0, []), (5, 4, 1, 0, 0, 0, []), (6, 2, 1, 2, 0, 0, []), (7, 26, 10, 13, 0, 0, []), (10, 4, 1, 0, 0, 0, []), (11, 2, 1, 3, 0, 0, []), (12, 0, 3, 0, 0, 150, []), (15, 39, 0, 0, 0, 0, []), (18, 26, 10, 14, 0, 0, []), (21, 4, 1, 0, 0, 0, []), (22, 0, 1, 0, 0, 0, []), (23, 26, 10, 11, 0, 0, []), (26, 4, 1, 0, 0, 0, []), (27, 0, 1, 0, 0, 0, []), (28, 26, 10, 10, 0, 0, []), (31, 4, 1, 0, 0, 0, []), (32, 0, 1, 0, 0, 0, []), (33, 26, 10, 9, 0, 0, []), (36, 0, 1, 0, 0, 0, []), (37, 5, 2, 4, 0, 0, []), (39, 49, 0, 0, 0, 0, []), (39, 2, 2, 4, 0, 0, []), (41, 0, 2, 0, 0, 8, []), (43, 18, 60, 3, 34, 0, []), (46, 4, 1, 0, 0, 0, []), (47, 25, 10, 4, 4, 0, [(0, 20, 8), (0, 1, 24)]), (50, 2, 2, 4, 0, 0, []), (52, 0, 1, 0, 0, 0, []), (53, 28, 0, 0, 0, 0, []), (54, 8, 0, 4, 0, 1, []), (57, 19, 39, 0, 23, 0, []), (60, 4, 1, 0, 0, 0, []), (61, 0, 1, 0, 0, 1, []), (62, 1, 3, 0, 0, 7165912515837165568, []), (65, 4, 1, 0, 0, 0, []), (66, 25, 10, 3, 4, 0, [(0, 9, 14), (0, 1, 12)]), (69, 25, 9, 11, 4, 0, [(0, 2, 19), (0, 0, 0)]), (72, 0, 1, 0, 0, 0, []), (73, 40, 0, 5, 12, 0, []), (76, 21, 0, 0, 0, 0, []), (77, 4, 1, 0, 0, 0, []), (78, 0, 1, 0, 0, 1, []), (79, 0, 1, 0, 0, 0, []), (80, 40, 1, 3, 12, 0, []), (83, 0, 1, 0, 0, 1, []), (84, 26, 9, 7, 0, 0, []), (87, 4, 1, 0, 0, 0, []), (88, 4, 1, 0, 0, 0, []), (89, 1, 3, 0, 0, 7809644604612935680, []), (92, 40, 2, 2, 12, 0, []), (95, 40, 3, 2, 12, 0, []), (98, 7, 2, 4, 0, 0, []), (100, 4, 2, 4, 0, 0, []), (102, 0, 1, 0, 0, 0, []), (103, 40, 4, 2, 6, 0, []), (106, 4, 2, 4, 0, 0, []), (108, 25, 4, 3, 4, 0, [(0, 3, 3), (0, 1, 1)]), (111, 0, 1, 0, 0, 0, []), (112, 0, 1, 0, 0, 0, []), (113, 40, 5, 3, 5, 0, []), (116, 4, 2, 4, 0, 0, []), (118, 25, 4, 3, 4, 0, [(0, 3, 3), (0, 1, 1)]), (121, 0, 3, 0, 0, 1000, []), (124, 0, 1, 0, 0, 0, []), (125, 40, 5, 3, 5, 0, []), (128, 4, 2, 4, 0, 0, []), (130, 25, 4, 3, 4, 0, [(0, 3, 3), (0, 1, 1)]), (133, 0, 3, 0, 0, 1000, []), (136, 0, 3, 0, 0, 1000, []), (139, 40, 5, 3, 5, 0, []), (142, 4, 2, 4, 0, 0, []), (144, 25, 4, 3, 4, 0, [(0, 3, 3), (0, 1, 1)]), (147, 0, 1, 0, 0, 0, []), (148, 0, 3, 0, 0, 1000, []), (151, 40, 5, 3, 5, 0, []), (154, 44, 0, 0, 0, 0, [])]
set_option maxRecDepth 20000 in
theorem qX10_beginf : f_all yX10_begin YX10_begin pX10_beginf :=
  ⟨f_aload_n (n := 0) (e_dx DX10_begin_0 0 rfl) rfl,
  f_iload_n (n := 1) (e_dx DX10_begin_0 1 rfl) rfl,
  f_putn (e_dx DX10_begin_0 2 rfl) fX10_68 (fun q hq => by cases hq; rfl) rfl (Or.inl rfl) (by decide),
  f_aload_n (n := 0) (e_dx DX10_begin_0 3 rfl) rfl,
  f_iload_n (n := 2) (e_dx DX10_begin_0 4 rfl) rfl,
  f_putn (e_dx DX10_begin_0 5 rfl) fX10_71 (fun q hq => by cases hq; rfl) rfl (Or.inl rfl) (by decide),
  f_aload_n (n := 0) (e_dx DX10_begin_0 6 rfl) rfl,
  f_iload_n (n := 3) (e_dx DX10_begin_0 7 rfl) rfl,
  f_sipush (e_dx DX10_begin_0 8 rfl) ⟨by decide, by decide⟩,
  f_mminI (e_dx DX10_begin_0 9 rfl) cX10_81 fm_s_mminI fm_i fm_c_mminI,
  f_putn (e_dx DX10_begin_0 10 rfl) fX10_74 (fun q hq => by cases hq; rfl) rfl (Or.inl rfl) (by decide),
  f_aload_n (n := 0) (e_dx DX10_begin_0 11 rfl) rfl,
  f_iconst (e_dx DX10_begin_0 12 rfl) ⟨by decide, by decide⟩,
  f_putn (e_dx DX10_begin_0 13 rfl) fX10_65 (fun q hq => by cases hq; rfl) rfl (Or.inl rfl) (by decide),
  f_aload_n (n := 0) (e_dx DX10_begin_0 14 rfl) rfl,
  f_iconst (e_dx DX10_begin_0 15 rfl) ⟨by decide, by decide⟩,
  f_putn (e_dx DX10_begin_0 16 rfl) fX10_62 (fun q hq => by cases hq; rfl) rfl (Or.inl rfl) (by decide),
  f_aload_n (n := 0) (e_dx DX10_begin_0 17 rfl) rfl,
  f_iconst (e_dx DX10_begin_0 18 rfl) ⟨by decide, by decide⟩,
  f_putn (e_dx DX10_begin_0 19 rfl) fX10_58 (fun q hq => by cases hq; rfl) rfl (Or.inl rfl) (by decide),
  f_iconst (e_dx DX10_begin_0 20 rfl) ⟨by decide, by decide⟩,
  f_istore (e_dx DX10_begin_0 21 rfl) (by decide),
  trivial,
  f_iload (e_dx DX10_begin_0 22 rfl),
  f_bipush (e_dx DX10_begin_0 23 rfl) ⟨by decide, by decide⟩,
  f_icmp_ge (e_dx DX10_begin_0 24 rfl) rfl,
  f_aload_n (n := 0) (e_dx DX10_begin_0 25 rfl) rfl,
  f_getA (e_dx DX10_begin_0 26 rfl) fX10_42 rfl (by decide) (Nat.le_of_ble_eq_true rfl) rfl (by decide),
  f_iload (e_dx DX10_begin_0 27 rfl),
  f_iconst (e_dx DX10_begin_0 28 rfl) ⟨by decide, by decide⟩,
  f_iastore (e_dx DX10_begin_0 29 rfl),
  f_g8 (e_dx DX10_begin_0 30 rfl) ⟨by decide, by decide⟩,
  f_g19 (e_dx DX10_begin_0 31 rfl) rfl,
  f_aload_n (n := 0) (e_dx DX10_begin_0 32 rfl) rfl,
  f_iconst (e_dx DX10_begin_0 33 rfl) ⟨by decide, by decide⟩,
  f_ldc2 (e_dx DX10_begin_0 34 rfl) hX10_87 rfl ⟨by decide, by decide⟩,
  f_aload_n (n := 0) (e_dx DX10_begin_0 35 rfl) rfl,
  f_getA (e_dx DX10_begin_0 36 rfl) fX10_38 rfl (by decide) (Nat.le_of_ble_eq_true rfl) rfl (by decide),
  f_getA (e_dx DX10_begin_0 37 rfl) fX10_77 rfl (by decide) (Nat.le_of_ble_eq_true rfl) rfl (by decide),
  f_iconst (e_dx DX10_begin_0 38 rfl) ⟨by decide, by decide⟩,
  x_callV (e_dx DX10_begin_0 39 rfl) mwX10_add vwX10_add cX10_89 rfl,
  f_g21 (e_dx DX10_begin_1 0 rfl),
  f_aload_n (n := 0) (e_dx DX10_begin_1 1 rfl) rfl,
  f_iconst (e_dx DX10_begin_1 2 rfl) ⟨by decide, by decide⟩,
  f_iconst (e_dx DX10_begin_1 3 rfl) ⟨by decide, by decide⟩,
  x_callV (e_dx DX10_begin_1 4 rfl) mwX10_at vwX10_at cX10_93 rfl,
  f_iconst (e_dx DX10_begin_1 5 rfl) ⟨by decide, by decide⟩,
  f_putn (e_dx DX10_begin_1 6 rfl) fX10_97 (fun q hq => by cases hq; rfl) rfl (Or.inl rfl) (by decide),
  f_aload_n (n := 0) (e_dx DX10_begin_1 7 rfl) rfl,
  f_aload_n (n := 0) (e_dx DX10_begin_1 8 rfl) rfl,
  f_ldc2 (e_dx DX10_begin_1 9 rfl) hX10_100 rfl ⟨by decide, by decide⟩,
  x_callV (e_dx DX10_begin_1 10 rfl) mwX10_addLot vwX10_addLot cX10_102 rfl,
  x_callV (e_dx DX10_begin_1 11 rfl) mwX10_lot vwX10_lot cX10_106 rfl,
  f_astore (e_dx DX10_begin_1 12 rfl) (by decide),
  f_aload (e_dx DX10_begin_1 13 rfl),
  f_iconst (e_dx DX10_begin_1 14 rfl) ⟨by decide, by decide⟩,
  x_callV (e_dx DX10_begin_1 15 rfl) mwX4_own vwX4_own cX10_110 rfl,
  f_aload (e_dx DX10_begin_1 16 rfl),
  f_getA (e_dx DX10_begin_1 17 rfl) fX10_114 rfl (by decide) (Nat.le_of_ble_eq_true rfl) rfl (by decide),
  f_iconst (e_dx DX10_begin_1 18 rfl) ⟨by decide, by decide⟩,
  f_iconst (e_dx DX10_begin_1 19 rfl) ⟨by decide, by decide⟩,
  x_callV (e_dx DX10_begin_1 20 rfl) mwX3_add vwX3_add cX10_118 rfl,
  f_aload (e_dx DX10_begin_1 21 rfl),
  f_getA (e_dx DX10_begin_1 22 rfl) fX10_114 rfl (by decide) (Nat.le_of_ble_eq_true rfl) rfl (by decide),
  f_sipush (e_dx DX10_begin_1 23 rfl) ⟨by decide, by decide⟩,
  f_iconst (e_dx DX10_begin_1 24 rfl) ⟨by decide, by decide⟩,
  x_callV (e_dx DX10_begin_1 25 rfl) mwX3_add vwX3_add cX10_118 rfl,
  f_aload (e_dx DX10_begin_1 26 rfl),
  f_getA (e_dx DX10_begin_1 27 rfl) fX10_114 rfl (by decide) (Nat.le_of_ble_eq_true rfl) rfl (by decide),
  f_sipush (e_dx DX10_begin_1 28 rfl) ⟨by decide, by decide⟩,
  f_sipush (e_dx DX10_begin_1 29 rfl) ⟨by decide, by decide⟩,
  x_callV (e_dx DX10_begin_1 30 rfl) mwX3_add vwX3_add cX10_118 rfl,
  f_aload (e_dx DX10_begin_1 31 rfl),
  f_getA (e_dx DX10_begin_1 32 rfl) fX10_114 rfl (by decide) (Nat.le_of_ble_eq_true rfl) rfl (by decide),
  f_iconst (e_dx DX10_begin_1 33 rfl) ⟨by decide, by decide⟩,
  f_sipush (e_dx DX10_begin_1 34 rfl) ⟨by decide, by decide⟩,
  x_callV (e_dx DX10_begin_1 35 rfl) mwX3_add vwX3_add cX10_118 rfl,
  ⟨(e_dx DX10_begin_1 36 rfl), rfl⟩, trivial⟩
def lX10_begin (c_X10_add : Nat → Int → Int → Nat → Int → e_M → (Nat → e_M → Prop) → Prop) (c_X10_at : Nat → Int → Int → e_M → (Nat → Prop) → Prop) (c_X10_addLot : Nat → Int → e_M → (Int → e_M → Prop) → Prop) (c_X10_lot : Nat → Int → e_M → (Nat → Prop) → Prop) (c_X4_own : Nat → Int → e_M → (e_M → Prop) → Prop) (c_X3_add : Nat → Int → Int → e_M → (e_M → Prop) → Prop) : List (Nat × f_Wt) := [(0, f_wm [(3, 10, 15), (1, 0, 0), (2, 0, 0), (3, 2, 19), (1, 0, 0)] (fun ar M R => c_X10_add (f_va (f_nth ar 0)) (f_vi (f_nth ar 1)) (f_vi (f_nth ar 2)) (f_va (f_nth ar 3)) (f_vi (f_nth ar 4)) M (fun r M => R (some (.inr (.inr (.inl (9, 14, r))))) M))), (1, f_wm [(3, 10, 15), (1, 0, 0), (1, 0, 0)] (fun ar M R => c_X10_at (f_va (f_nth ar 0)) (f_vi (f_nth ar 1)) (f_vi (f_nth ar 2)) M (fun r => R (some (.inr (.inr (.inl (9, 14, r))))) M))), (2, f_wm [(3, 10, 15), (2, 0, 0)] (fun ar M R => c_X10_addLot (f_va (f_nth ar 0)) (f_vi (f_nth ar 1)) M (fun r M => R (some (.inl r)) M))), (3, f_wm [(3, 10, 15), (1, 0, 0)] (fun ar M R => c_X10_lot (f_va (f_nth ar 0)) (f_vi (f_nth ar 1)) M (fun r => R (some (.inr (.inr (.inl (4, 9, r))))) M))), (4, f_wm [(3, 4, 9), (1, 0, 0)] (fun ar M R => c_X4_own (f_va (f_nth ar 0)) (f_vi (f_nth ar 1)) M (fun M => R none M))), (5, f_wm [(3, 3, 3), (1, 0, 0), (1, 0, 0)] (fun ar M R => c_X3_add (f_va (f_nth ar 0)) (f_vi (f_nth ar 1)) (f_vi (f_nth ar 2)) M (fun M => R none M)))]
set_option maxRecDepth 20000 in
theorem BX10_begin_39 {sh : Nat → Nat × Nat} {t : Nat} {rm : Nat × Nat × Nat} {cs : Nat × Nat} {R : f_Rt} {c_X10_add : Nat → Int → Int → Nat → Int → e_M → (Nat → e_M → Prop) → Prop} {c_X10_at : Nat → Int → Int → e_M → (Nat → Prop) → Prop} {c_X10_addLot : Nat → Int → e_M → (Int → e_M → Prop) → Prop} {c_X10_lot : Nat → Int → e_M → (Nat → Prop) → Prop} {c_X4_own : Nat → Int → e_M → (e_M → Prop) → Prop} {c_X3_add : Nat → Int → Int → e_M → (e_M → Prop) → Prop} {k39 : Nat → Int → e_M → Prop} {a0 : Nat} {x4 : Int} {M : e_M} (C : f_Hy sh t yX10_begin rm cs 8 (lX10_begin c_X10_add c_X10_at c_X10_addLot c_X10_lot c_X4_own c_X3_add) R) (h39 : ∀ (a0 : Nat) (x4 : Int) (M : e_M), k39 a0 x4 M → f_E sh t YX10_begin rm cs (f_Q sh t R) 39 [.inr (.inr (.inl (10, 15, a0))), .inr (.inr (.inr ())), .inr (.inr (.inr ())), .inr (.inr (.inr ())), .inl x4] [] M) (h : VX10_begin_39 c_X10_add c_X10_at c_X10_addLot c_X10_lot c_X4_own c_X3_add k39 (fun M => R none M) a0 x4 M) : f_E sh t YX10_begin rm cs (f_Q sh t R) 39 [.inr (.inr (.inl (10, 15, a0))), .inr (.inr (.inr ())), .inr (.inr (.inr ())), .inr (.inr (.inr ())), .inl x4] [] M :=
  f_go (KC := f_kc [(39, f_pl [(3, 10, 15), (0, 0, 0), (0, 0, 0), (0, 0, 0), (1, 0, 0)] [] (fun ls st M => k39 (f_va (f_nth ls 0)) (f_vi (f_nth ls 4)) M))]) C qX10_beginf (f_kc_cons (f_pl_ok rfl (fun ls st M h => h39 _ _ M h)) f_kc_nil) 80 23 h
set_option maxRecDepth 20000 in
theorem BX10_begin {sh : Nat → Nat × Nat} {t : Nat} {rm : Nat × Nat × Nat} {cs : Nat × Nat} {R : f_Rt} {c_X10_add : Nat → Int → Int → Nat → Int → e_M → (Nat → e_M → Prop) → Prop} {c_X10_at : Nat → Int → Int → e_M → (Nat → Prop) → Prop} {c_X10_addLot : Nat → Int → e_M → (Int → e_M → Prop) → Prop} {c_X10_lot : Nat → Int → e_M → (Nat → Prop) → Prop} {c_X4_own : Nat → Int → e_M → (e_M → Prop) → Prop} {c_X3_add : Nat → Int → Int → e_M → (e_M → Prop) → Prop} {k39 : Nat → Int → e_M → Prop} {a0 : Nat} {x1 : Int} {x2 : Int} {x3 : Int} {M : e_M} (C : f_Hy sh t yX10_begin rm cs 8 (lX10_begin c_X10_add c_X10_at c_X10_addLot c_X10_lot c_X4_own c_X3_add) R) (h39 : ∀ (a0 : Nat) (x4 : Int) (M : e_M), k39 a0 x4 M → f_E sh t YX10_begin rm cs (f_Q sh t R) 39 [.inr (.inr (.inl (10, 15, a0))), .inr (.inr (.inr ())), .inr (.inr (.inr ())), .inr (.inr (.inr ())), .inl x4] [] M) (h : VX10_begin c_X10_add c_X10_at c_X10_addLot c_X10_lot c_X4_own c_X3_add k39 (fun M => R none M) a0 x1 x2 x3 M) : f_E sh t YX10_begin rm cs (f_Q sh t R) 0 [.inr (.inr (.inl (10, 15, a0))), .inl x1, .inl x2, .inl x3, .inr (.inr (.inr ()))] [] M :=
  f_go (KC := f_kc [(39, f_pl [(3, 10, 15), (0, 0, 0), (0, 0, 0), (0, 0, 0), (1, 0, 0)] [] (fun ls st M => k39 (f_va (f_nth ls 0)) (f_vi (f_nth ls 4)) M))]) C qX10_beginf (f_kc_cons (f_pl_ok rfl (fun ls st M h => h39 _ _ M h)) f_kc_nil) 80 0 h
def WX10_begin_39 (Q : e_M → Prop) : Nat → Nat → Int → e_M → Prop
  | 0, _, _, _ => False
  | n + 1, a0, x4, M =>
    VX10_begin_39 WX10_add WX10_at WX10_addLot WX10_lot WX4_own WX3_add (WX10_begin_39 Q n) Q a0 x4 M
def WX10_begin (a0 : Nat) (x1 : Int) (x2 : Int) (x3 : Int) (M : e_M) (Q : e_M → Prop) : Prop :=
  VX10_begin WX10_add WX10_at WX10_addLot WX10_lot WX4_own WX3_add (fun a0 x4 M => ∃ j, WX10_begin_39 Q j a0 x4 M) Q a0 x1 x2 x3 M
theorem PX10_begin_39 {sh : Nat → Nat × Nat} {t : Nat} {rm : Nat × Nat × Nat} {cs : Nat × Nat} {R : f_Rt} (C : f_Hy sh t yX10_begin rm cs 8 (lX10_begin WX10_add WX10_at WX10_addLot WX10_lot WX4_own WX3_add) R) : ∀ (n : Nat) (a0 : Nat) (x4 : Int) (M : e_M), WX10_begin_39 (fun M => R none M) n a0 x4 M → f_E sh t YX10_begin rm cs (f_Q sh t R) 39 [.inr (.inr (.inl (10, 15, a0))), .inr (.inr (.inr ())), .inr (.inr (.inr ())), .inr (.inr (.inr ())), .inl x4] [] M := by
  intro n
  induction n with
  | zero => intro a0 x4 M h; exact h.elim
  | succ n ih => intro a0 x4 M h; exact BX10_begin_39 C ih h
theorem PX10_begin {sh : Nat → Nat × Nat} {t : Nat} {rm : Nat × Nat × Nat} {cs : Nat × Nat} {R : f_Rt} {a0 : Nat} {x1 : Int} {x2 : Int} {x3 : Int} {M : e_M} (C : f_Hy sh t yX10_begin rm cs 8 (lX10_begin WX10_add WX10_at WX10_addLot WX10_lot WX4_own WX3_add) R) (h : WX10_begin a0 x1 x2 x3 M (fun M => R none M)) : f_E sh t YX10_begin rm cs (f_Q sh t R) 0 [.inr (.inr (.inl (10, 15, a0))), .inl x1, .inl x2, .inl x3, .inr (.inr (.inr ()))] [] M :=
  BX10_begin C (fun a0 x4 M ⟨j, h⟩ => PX10_begin_39 C j _ _ _ h) h
def wX10_begin : f_Wt := f_wm [(3, 10, 15), (1, 0, 0), (1, 0, 0), (1, 0, 0)] (fun ar M R => WX10_begin (f_va (f_nth ar 0)) (f_vi (f_nth ar 1)) (f_vi (f_nth ar 2)) (f_vi (f_nth ar 3)) M (fun M => R none M))
theorem TX10_begin {sh : Nat → Nat × Nat} {t : Nat} : f_Mt sh t YX10_begin 8 (wX10_begin) :=
  f_Mt_of (k := 1) (Nat.le_of_ble_eq_true rfl) rfl rfl (fun ar M R rm cs h1 h2 h3 hX h => PX10_begin ⟨Nat.le_of_ble_eq_true rfl, h1, h2, h3, ⟨(f_Mt.up (Nat.le_of_ble_eq_true rfl) TX10_add), (f_Mt.up (Nat.le_of_ble_eq_true rfl) TX10_at), (f_Mt.up (Nat.le_of_ble_eq_true rfl) TX10_addLot), (f_Mt.up (Nat.le_of_ble_eq_true rfl) TX10_lot), (f_Mt.up (Nat.le_of_ble_eq_true rfl) TX4_own), (f_Mt.up (Nat.le_of_ble_eq_true rfl) TX3_add), trivial⟩, hX⟩ h)
def VX10_weighOrders_2 (k79 : Nat → Nat → Int → e_M → Prop) (k28 : Nat → Nat → Int → Int → e_M → Prop) (Q : e_M → Prop) (a0 : Nat) (a1 : Nat) (x2 : Int) (M : e_M) : Prop :=
  (((M a0 14) ≤ x2 → (k79 a0 a1 (e_w32 ((M a0 14) - 1)) M)) ∧ (x2 < (M a0 14) → ((0 ≤ x2 ∧ x2 < 150) ∧ (((M a0 13) < (M ((M a1 (x2.toNat)).toNat) 0) → (k28 a0 a1 x2 0 M)) ∧ ((M ((M a1 (x2.toNat)).toNat) 0) ≤ (M a0 13) → (k28 a0 a1 x2 1 M))))))
def VX10_weighOrders_28 (k65 : Nat → Nat → Int → Int → Int → Nat → e_M → Prop) (Q : e_M → Prop) (a0 : Nat) (a1 : Nat) (x2 : Int) (xs0 : Int) (M : e_M) : Prop :=
  ((0 ≤ x2 ∧ x2 < 150) ∧ (∀ M1 : e_M, M1 = e_up M (a0 + 26) (x2.toNat) x2 → ((¬ xs0 = 0 → ((0 ≤ x2 ∧ x2 < 150) ∧ ((¬ (M1 ((M1 a1 (x2.toNat)).toNat) 1) = 0 → (k65 a0 a1 x2 23 x2 (a0 + 25) M1)) ∧ ((M1 ((M1 a1 (x2.toNat)).toNat) 1) = 0 → (k65 a0 a1 x2 0 x2 (a0 + 25) M1))))) ∧ (xs0 = 0 → (k65 a0 a1 x2 22 x2 (a0 + 25) M1)))))
def VX10_weighOrders_65 (k2 : Nat → Nat → Int → e_M → Prop) (Q : e_M → Prop) (a0 : Nat) (a1 : Nat) (x2 : Int) (xs2 : Int) (xs1 : Int) (as0 : Nat) (M : e_M) : Prop :=
  ((0 ≤ xs1 ∧ xs1 < 150) ∧ (∀ M1 : e_M, M1 = e_up M as0 (xs1.toNat) xs2 → (k2 a0 a1 (e_w32 (x2 + 1)) M1)))
def VX10_weighOrders_79 (k169 : Nat → Nat → Int → e_M → Prop) (k148 : Nat → Nat → Int → Int → Int → Nat → e_M → Prop) (Q : e_M → Prop) (a0 : Nat) (a1 : Nat) (x2 : Int) (M : e_M) : Prop :=
  ((x2 < 0 → (Q M)) ∧ (0 ≤ x2 → ((0 ≤ x2 ∧ x2 < 150) ∧ (∀ y1 : Int, y1 = e_w32 ((M ((M a1 (x2.toNat)).toNat) 2) - 1) → ((0 ≤ x2 ∧ x2 < 150) ∧ ((¬ (M (a0 + 25) (x2.toNat)) = 23 → (k169 a0 a1 x2 M)) ∧ ((M (a0 + 25) (x2.toNat)) = 23 → ((y1 < 0 → (k169 a0 a1 x2 M)) ∧ (0 ≤ y1 → ((y1 < x2 → ((0 ≤ x2 ∧ x2 < 150) ∧ ((¬ (M ((M a1 (x2.toNat)).toNat) 1) = 222 → ((0 ≤ y1 ∧ y1 < 150) ∧ ((¬ (M (a0 + 26) (y1.toNat)) = y1 → (k169 a0 a1 x2 M)) ∧ ((M (a0 + 26) (y1.toNat)) = y1 → ((0 ≤ y1 ∧ y1 < 150) ∧ (∀ M2 : e_M, M2 = e_up M (a0 + 26) (y1.toNat) x2 → (k169 a0 a1 x2 M2))))))) ∧ ((M ((M a1 (x2.toNat)).toNat) 1) = 222 → ((0 ≤ y1 ∧ y1 < 150) ∧ ((¬ (M ((M a1 (y1.toNat)).toNat) 1) = 0 → (k148 a0 a1 x2 24 y1 (a0 + 25) M)) ∧ ((M ((M a1 (y1.toNat)).toNat) 1) = 0 → (k148 a0 a1 x2 21 y1 (a0 + 25) M)))))))) ∧ (x2 ≤ y1 → (k169 a0 a1 x2 M))))))))))))
def VX10_weighOrders_148 (k169 : Nat → Nat → Int → e_M → Prop) (Q : e_M → Prop) (a0 : Nat) (a1 : Nat) (x2 : Int) (xs2 : Int) (xs1 : Int) (as0 : Nat) (M : e_M) : Prop :=
  ((0 ≤ xs1 ∧ xs1 < 150) ∧ (∀ M1 : e_M, M1 = e_up M as0 (xs1.toNat) xs2 → (k169 a0 a1 x2 M1)))
def VX10_weighOrders_169 (k79 : Nat → Nat → Int → e_M → Prop) (Q : e_M → Prop) (a0 : Nat) (a1 : Nat) (x2 : Int) (M : e_M) : Prop :=
  (k79 a0 a1 (e_w32 (x2 + (-1))) M)
def VX10_weighOrders (k2 : Nat → Nat → Int → e_M → Prop) (Q : e_M → Prop) (a0 : Nat) (a1 : Nat) (M : e_M) : Prop :=
  (k2 a0 a1 0 M)
def yX10_weighOrders (i : Nat) : e_Y := x_get YX10_weighOrders [] i
def pX10_weighOrdersf : List x_I := [(0, 0, 1, 0, 0, 0, []), (1, 5, 1, 2, 0, 0, []), (2, 49, 0, 0, 0, 0, []), (2, 2, 1, 2, 0, 0, []), (3, 4, 1, 0, 0, 0, []), (4, 25, 10, 14, 0, 0, []), (7, 18, 72, 3, 44, 0, []), (10, 4, 1, 1, 0, 0, []), (11, 2, 1, 2, 0, 0, []), (12, 27, 0, 3, 0, 0, [(0, 2, 19), (0, 0, 0)]), (13, 25, 2, 0, 0, 0, []), (16, 4, 1, 0, 0, 0, []), (17, 25, 10, 13, 0, 0, []), (20, 18, 27, 4, 17, 0, []), (23, 0, 1, 0, 0, 1, []), (24, 19, 28, 0, 18, 0, []), (27, 0, 1, 0, 0, 0, []), (28, 49, 0, 0, 0, 0, []), (28, 5, 1, 3, 0, 0, []), (29, 4, 1, 0, 0, 0, []), (30, 25, 10, 6, 4, 0, [(0, 20, 150), (0, 1, 26)]), (33, 2, 1, 2, 0, 0, []), (34, 2, 1, 2, 0, 0, []), (35, 28, 0, 0, 0, 0, []), (36, 4, 1, 0, 0, 0, []), (37, 25, 10, 5, 4, 0, [(0, 20, 150), (0, 1, 25)]), (40, 2, 1, 2, 0, 0, []), (41, 2, 1, 3, 0, 0, []), (42, 17, 50, 1, 32, 0, []), (45, 0, 2, 0, 0, 22, []), (47, 19, 65, 0, 40, 0, []), (50, 4, 1, 1, 0, 0, []), (51, 2, 1, 2, 0, 0, []), (52, 27, 0, 3, 0, 0, [(0, 2, 19), (0, 0, 0)]), (53, 25, 2, 1, 0, 0, []), (56, 17, 63, 1, 39, 0, []), (59, 0, 1, 0, 0, 0, []), (60, 19, 65, 0, 40, 0, []), (63, 0, 2, 0, 0, 23, []), (65, 49, 0, 0, 0, 0, []), (65, 28, 0, 0, 0, 0, []), (66, 8, 0, 2, 0, 1, []), (69, 19, 2, 0, 3, 0, []), (72, 4, 1, 0, 0, 0, []), (73, 25, 10, 14, 0, 0, []), (76, 0, 1, 0, 0, 1, []), (77, 9, 0, 1, 0, 0, []), (78, 5, 1, 2, 0, 0, []), (79, 49, 0, 0, 0, 0, []), (79, 2, 1, 2, 0, 0, []), (80, 17, 175, 2, 106, 0, []), (83, 4, 1, 1, 0, 0, []), (84, 2, 1, 2, 0, 0, []), (85, 27, 0, 3, 0, 0, [(0, 2, 19), (0, 0, 0)]), (86, 25, 2, 2, 0, 0, []), (89, 0, 1, 0, 0, 1, []), (90, 9, 0, 1, 0, 0, []), (91, 33, 0, 0, 0, 0, []), (91, 5, 1, 3, 0, 0, []), (92, 4, 1, 0, 0, 0, []), (93, 25, 10, 5, 4, 0, [(0, 20, 150), (0, 1, 25)]), (96, 2, 1, 2, 0, 0, []), (97, 27, 0, 0, 0, 0, []), (98, 0, 2, 0, 0, 23, []), (100, 18, 169, 1, 103, 0, []), (103, 2, 1, 3, 0, 0, []), (104, 17, 169, 2, 103, 0, []), (107, 2, 1, 3, 0, 0, []), (108, 2, 1, 2, 0, 0, []), (109, 18, 115, 2, 72, 0, []), (112, 19, 169, 0, 103, 0, []), (115, 4, 1, 1, 0, 0, []), (116, 2, 1, 2, 0, 0, []), (117, 27, 0, 3, 0, 0, [(0, 2, 19), (0, 0, 0)]), (118, 25, 2, 1, 0, 0, []), (121, 0, 3, 0, 0, 222, []), (124, 18, 152, 1, 92, 0, []), (127, 4, 1, 0, 0, 0, []), (128, 25, 10, 5, 4, 0, [(0, 20, 150), (0, 1, 25)]), (131, 2, 1, 3, 0, 0, []), (132, 4, 1, 1, 0, 0, []), (133, 2, 1, 3, 0, 0, []), (134, 27, 0, 3, 0, 0, [(0, 2, 19), (0, 0, 0)]), (135, 25, 2, 1, 0, 0, []), (138, 17, 146, 1, 88, 0, []), (141, 0, 2, 0, 0, 21, []), (143, 19, 148, 0, 89, 0, []), (146, 0, 2, 0, 0, 24, []), (148, 49, 0, 0, 0, 0, []), (148, 28, 0, 0, 0, 0, []), (149, 19, 169, 0, 103, 0, []), (152, 4, 1, 0, 0, 0, []), (153, 25, 10, 6, 4, 0, [(0, 20, 150), (0, 1, 26)]), (156, 2, 1, 3, 0, 0, []), (157, 27, 0, 0, 0, 0, []), (158, 2, 1, 3, 0, 0, []), (159, 18, 169, 1, 103, 0, []), (162, 4, 1, 0, 0, 0, []), (163, 25, 10, 6, 4, 0, [(0, 20, 150), (0, 1, 26)]), (166, 2, 1, 3, 0, 0, []), (167, 2, 1, 2, 0, 0, []), (168, 28, 0, 0, 0, 0, []), (169, 49, 0, 0, 0, 0, []), (169, 8, 0, 2, 0, (-1), []), (172, 19, 79, 0, 49, 0, []), (175, 44, 0, 0, 0, 0, [])]
set_option maxRecDepth 20000 in
theorem qX10_weighOrdersf : f_all yX10_weighOrders YX10_weighOrders pX10_weighOrdersf :=
  ⟨f_iconst (e_dx DX10_weighOrders_0 0 rfl) ⟨by decide, by decide⟩,
  f_istore_n (n := 2) (e_dx DX10_weighOrders_0 1 rfl) rfl (by decide),
  trivial,
  f_iload_n (n := 2) (e_dx DX10_weighOrders_0 2 rfl) rfl,
  f_aload_n (n := 0) (e_dx DX10_weighOrders_0 3 rfl) rfl,
  f_getf (e_dx DX10_weighOrders_0 4 rfl) fX10_74 rfl (by decide) (by decide) (by decide),
  f_icmp_ge (e_dx DX10_weighOrders_0 5 rfl) rfl,
  f_aload_n (n := 1) (e_dx DX10_weighOrders_0 6 rfl) rfl,
  f_iload_n (n := 2) (e_dx DX10_weighOrders_0 7 rfl) rfl,
  f_aaload (e_dx DX10_weighOrders_0 8 rfl) (by decide) rfl,
  f_getf (e_dx DX10_weighOrders_0 9 rfl) fX10_123 rfl (by decide) (by decide) (by decide),
  f_aload_n (n := 0) (e_dx DX10_weighOrders_0 10 rfl) rfl,
  f_getf (e_dx DX10_weighOrders_0 11 rfl) fX10_71 rfl (by decide) (by decide) (by decide),
  f_icmp_gt (e_dx DX10_weighOrders_0 12 rfl) rfl,
  f_iconst (e_dx DX10_weighOrders_0 13 rfl) ⟨by decide, by decide⟩,
  f_g19 (e_dx DX10_weighOrders_0 14 rfl) rfl,
  f_iconst (e_dx DX10_weighOrders_0 15 rfl) ⟨by decide, by decide⟩,
  trivial,
  f_istore_n (n := 3) (e_dx DX10_weighOrders_0 16 rfl) rfl (by decide),
  f_aload_n (n := 0) (e_dx DX10_weighOrders_0 17 rfl) rfl,
  f_getA (e_dx DX10_weighOrders_0 18 rfl) fX10_48 rfl (by decide) (Nat.le_of_ble_eq_true rfl) rfl (by decide),
  f_iload_n (n := 2) (e_dx DX10_weighOrders_0 19 rfl) rfl,
  f_iload_n (n := 2) (e_dx DX10_weighOrders_0 20 rfl) rfl,
  f_iastore (e_dx DX10_weighOrders_0 21 rfl),
  f_aload_n (n := 0) (e_dx DX10_weighOrders_0 22 rfl) rfl,
  f_getA (e_dx DX10_weighOrders_0 23 rfl) fX10_45 rfl (by decide) (Nat.le_of_ble_eq_true rfl) rfl (by decide),
  f_iload_n (n := 2) (e_dx DX10_weighOrders_0 24 rfl) rfl,
  f_iload_n (n := 3) (e_dx DX10_weighOrders_0 25 rfl) rfl,
  f_if_ne (e_dx DX10_weighOrders_0 26 rfl) rfl,
  f_bipush (e_dx DX10_weighOrders_0 27 rfl) ⟨by decide, by decide⟩,
  f_g19 (e_dx DX10_weighOrders_0 28 rfl) rfl,
  f_aload_n (n := 1) (e_dx DX10_weighOrders_0 29 rfl) rfl,
  f_iload_n (n := 2) (e_dx DX10_weighOrders_0 30 rfl) rfl,
  f_aaload (e_dx DX10_weighOrders_0 31 rfl) (by decide) rfl,
  f_getf (e_dx DX10_weighOrders_0 32 rfl) fX10_126 rfl (by decide) (by decide) (by decide),
  f_if_ne (e_dx DX10_weighOrders_0 33 rfl) rfl,
  f_iconst (e_dx DX10_weighOrders_0 34 rfl) ⟨by decide, by decide⟩,
  f_g19 (e_dx DX10_weighOrders_0 35 rfl) rfl,
  f_bipush (e_dx DX10_weighOrders_0 36 rfl) ⟨by decide, by decide⟩,
  trivial,
  f_iastore (e_dx DX10_weighOrders_0 37 rfl),
  f_g8 (e_dx DX10_weighOrders_0 38 rfl) ⟨by decide, by decide⟩,
  f_g19 (e_dx DX10_weighOrders_0 39 rfl) rfl,
  f_aload_n (n := 0) (e_dx DX10_weighOrders_1 0 rfl) rfl,
  f_getf (e_dx DX10_weighOrders_1 1 rfl) fX10_74 rfl (by decide) (by decide) (by decide),
  f_iconst (e_dx DX10_weighOrders_1 2 rfl) ⟨by decide, by decide⟩,
  f_isub (e_dx DX10_weighOrders_1 3 rfl),
  f_istore_n (n := 2) (e_dx DX10_weighOrders_1 4 rfl) rfl (by decide),
  trivial,
  f_iload_n (n := 2) (e_dx DX10_weighOrders_1 5 rfl) rfl,
  f_if_lt (e_dx DX10_weighOrders_1 6 rfl) rfl,
  f_aload_n (n := 1) (e_dx DX10_weighOrders_1 7 rfl) rfl,
  f_iload_n (n := 2) (e_dx DX10_weighOrders_1 8 rfl) rfl,
  f_aaload (e_dx DX10_weighOrders_1 9 rfl) (by decide) rfl,
  f_getf (e_dx DX10_weighOrders_1 10 rfl) fX10_128 rfl (by decide) (by decide) (by decide),
  f_iconst (e_dx DX10_weighOrders_1 11 rfl) ⟨by decide, by decide⟩,
  f_isub (e_dx DX10_weighOrders_1 12 rfl),
  f_g33,
  f_istore_n (n := 3) (e_dx DX10_weighOrders_1 13 rfl) rfl (by decide),
  f_aload_n (n := 0) (e_dx DX10_weighOrders_1 14 rfl) rfl,
  f_getA (e_dx DX10_weighOrders_1 15 rfl) fX10_45 rfl (by decide) (Nat.le_of_ble_eq_true rfl) rfl (by decide),
  f_iload_n (n := 2) (e_dx DX10_weighOrders_1 16 rfl) rfl,
  f_iaload (e_dx DX10_weighOrders_1 17 rfl),
  f_bipush (e_dx DX10_weighOrders_1 18 rfl) ⟨by decide, by decide⟩,
  f_icmp_ne (e_dx DX10_weighOrders_1 19 rfl) rfl,
  f_iload_n (n := 3) (e_dx DX10_weighOrders_1 20 rfl) rfl,
  f_if_lt (e_dx DX10_weighOrders_1 21 rfl) rfl,
  f_iload_n (n := 3) (e_dx DX10_weighOrders_1 22 rfl) rfl,
  f_iload_n (n := 2) (e_dx DX10_weighOrders_1 23 rfl) rfl,
  f_icmp_lt (e_dx DX10_weighOrders_1 24 rfl) rfl,
  f_g19 (e_dx DX10_weighOrders_1 25 rfl) rfl,
  f_aload_n (n := 1) (e_dx DX10_weighOrders_1 26 rfl) rfl,
  f_iload_n (n := 2) (e_dx DX10_weighOrders_1 27 rfl) rfl,
  f_aaload (e_dx DX10_weighOrders_1 28 rfl) (by decide) rfl,
  f_getf (e_dx DX10_weighOrders_1 29 rfl) fX10_126 rfl (by decide) (by decide) (by decide),
  f_sipush (e_dx DX10_weighOrders_1 30 rfl) ⟨by decide, by decide⟩,
  f_icmp_ne (e_dx DX10_weighOrders_1 31 rfl) rfl,
  f_aload_n (n := 0) (e_dx DX10_weighOrders_1 32 rfl) rfl,
  f_getA (e_dx DX10_weighOrders_1 33 rfl) fX10_45 rfl (by decide) (Nat.le_of_ble_eq_true rfl) rfl (by decide),
  f_iload_n (n := 3) (e_dx DX10_weighOrders_1 34 rfl) rfl,
  f_aload_n (n := 1) (e_dx DX10_weighOrders_1 35 rfl) rfl,
  f_iload_n (n := 3) (e_dx DX10_weighOrders_1 36 rfl) rfl,
  f_aaload (e_dx DX10_weighOrders_1 37 rfl) (by decide) rfl,
  f_getf (e_dx DX10_weighOrders_1 38 rfl) fX10_126 rfl (by decide) (by decide) (by decide),
  f_if_ne (e_dx DX10_weighOrders_1 39 rfl) rfl,
  f_bipush (e_dx DX10_weighOrders_2 0 rfl) ⟨by decide, by decide⟩,
  f_g19 (e_dx DX10_weighOrders_2 1 rfl) rfl,
  f_bipush (e_dx DX10_weighOrders_2 2 rfl) ⟨by decide, by decide⟩,
  trivial,
  f_iastore (e_dx DX10_weighOrders_2 3 rfl),
  f_g19 (e_dx DX10_weighOrders_2 4 rfl) rfl,
  f_aload_n (n := 0) (e_dx DX10_weighOrders_2 5 rfl) rfl,
  f_getA (e_dx DX10_weighOrders_2 6 rfl) fX10_48 rfl (by decide) (Nat.le_of_ble_eq_true rfl) rfl (by decide),
  f_iload_n (n := 3) (e_dx DX10_weighOrders_2 7 rfl) rfl,
  f_iaload (e_dx DX10_weighOrders_2 8 rfl),
  f_iload_n (n := 3) (e_dx DX10_weighOrders_2 9 rfl) rfl,
  f_icmp_ne (e_dx DX10_weighOrders_2 10 rfl) rfl,
  f_aload_n (n := 0) (e_dx DX10_weighOrders_2 11 rfl) rfl,
  f_getA (e_dx DX10_weighOrders_2 12 rfl) fX10_48 rfl (by decide) (Nat.le_of_ble_eq_true rfl) rfl (by decide),
  f_iload_n (n := 3) (e_dx DX10_weighOrders_2 13 rfl) rfl,
  f_iload_n (n := 2) (e_dx DX10_weighOrders_2 14 rfl) rfl,
  f_iastore (e_dx DX10_weighOrders_2 15 rfl),
  trivial,
  f_g8 (e_dx DX10_weighOrders_2 16 rfl) ⟨by decide, by decide⟩,
  f_g19 (e_dx DX10_weighOrders_2 17 rfl) rfl,
  ⟨(e_dx DX10_weighOrders_2 18 rfl), rfl⟩, trivial⟩
def lX10_weighOrders : List (Nat × f_Wt) := []
set_option maxRecDepth 20000 in
theorem BX10_weighOrders_2 {sh : Nat → Nat × Nat} {t : Nat} {rm : Nat × Nat × Nat} {cs : Nat × Nat} {R : f_Rt} {k79 : Nat → Nat → Int → e_M → Prop} {k28 : Nat → Nat → Int → Int → e_M → Prop} {a0 : Nat} {a1 : Nat} {x2 : Int} {M : e_M} (C : f_Hy sh t yX10_weighOrders rm cs 4 (lX10_weighOrders) R) (h79 : ∀ (a0 : Nat) (a1 : Nat) (x2 : Int) (M : e_M), k79 a0 a1 x2 M → f_E sh t YX10_weighOrders rm cs (f_Q sh t R) 79 [.inr (.inr (.inl (10, 15, a0))), .inr (.inr (.inl (32, 150, a1))), .inl x2, .inr (.inr (.inr ()))] [] M) (h28 : ∀ (a0 : Nat) (a1 : Nat) (x2 : Int) (xs0 : Int) (M : e_M), k28 a0 a1 x2 xs0 M → f_E sh t YX10_weighOrders rm cs (f_Q sh t R) 28 [.inr (.inr (.inl (10, 15, a0))), .inr (.inr (.inl (32, 150, a1))), .inl x2, .inr (.inr (.inr ()))] [.inl xs0] M) (h : VX10_weighOrders_2 k79 k28 (fun M => R none M) a0 a1 x2 M) : f_E sh t YX10_weighOrders rm cs (f_Q sh t R) 2 [.inr (.inr (.inl (10, 15, a0))), .inr (.inr (.inl (32, 150, a1))), .inl x2, .inr (.inr (.inr ()))] [] M :=
  f_go (KC := f_kc [(79, f_pl [(3, 10, 15), (3, 32, 150), (1, 0, 0), (0, 0, 0)] [] (fun ls st M => k79 (f_va (f_nth ls 0)) (f_va (f_nth ls 1)) (f_vi (f_nth ls 2)) M)), (28, f_pl [(3, 10, 15), (3, 32, 150), (1, 0, 0), (0, 0, 0)] [(1, 0, 0)] (fun ls st M => k28 (f_va (f_nth ls 0)) (f_va (f_nth ls 1)) (f_vi (f_nth ls 2)) (f_vi (f_nth st 0)) M))]) C qX10_weighOrdersf (f_kc_cons (f_pl_ok rfl (fun ls st M h => h79 _ _ _ M h)) (f_kc_cons (f_pl_ok rfl (fun ls st M h => h28 _ _ _ _ M h)) f_kc_nil)) 108 3 h
set_option maxRecDepth 20000 in
theorem BX10_weighOrders_28 {sh : Nat → Nat × Nat} {t : Nat} {rm : Nat × Nat × Nat} {cs : Nat × Nat} {R : f_Rt} {k65 : Nat → Nat → Int → Int → Int → Nat → e_M → Prop} {a0 : Nat} {a1 : Nat} {x2 : Int} {xs0 : Int} {M : e_M} (C : f_Hy sh t yX10_weighOrders rm cs 4 (lX10_weighOrders) R) (h65 : ∀ (a0 : Nat) (a1 : Nat) (x2 : Int) (xs2 : Int) (xs1 : Int) (as0 : Nat) (M : e_M), k65 a0 a1 x2 xs2 xs1 as0 M → f_E sh t YX10_weighOrders rm cs (f_Q sh t R) 65 [.inr (.inr (.inl (10, 15, a0))), .inr (.inr (.inl (32, 150, a1))), .inl x2, .inr (.inr (.inr ()))] [.inl xs2, .inl xs1, .inr (.inr (.inl (20, 150, as0)))] M) (h : VX10_weighOrders_28 k65 (fun M => R none M) a0 a1 x2 xs0 M) : f_E sh t YX10_weighOrders rm cs (f_Q sh t R) 28 [.inr (.inr (.inl (10, 15, a0))), .inr (.inr (.inl (32, 150, a1))), .inl x2, .inr (.inr (.inr ()))] [.inl xs0] M :=
  f_go (KC := f_kc [(65, f_pl [(3, 10, 15), (3, 32, 150), (1, 0, 0), (0, 0, 0)] [(1, 0, 0), (1, 0, 0), (3, 20, 150)] (fun ls st M => k65 (f_va (f_nth ls 0)) (f_va (f_nth ls 1)) (f_vi (f_nth ls 2)) (f_vi (f_nth st 0)) (f_vi (f_nth st 1)) (f_va (f_nth st 2)) M))]) C qX10_weighOrdersf (f_kc_cons (f_pl_ok rfl (fun ls st M h => h65 _ _ _ _ _ _ M h)) f_kc_nil) 108 18 h
set_option maxRecDepth 20000 in
theorem BX10_weighOrders_65 {sh : Nat → Nat × Nat} {t : Nat} {rm : Nat × Nat × Nat} {cs : Nat × Nat} {R : f_Rt} {k2 : Nat → Nat → Int → e_M → Prop} {a0 : Nat} {a1 : Nat} {x2 : Int} {xs2 : Int} {xs1 : Int} {as0 : Nat} {M : e_M} (C : f_Hy sh t yX10_weighOrders rm cs 4 (lX10_weighOrders) R) (h2 : ∀ (a0 : Nat) (a1 : Nat) (x2 : Int) (M : e_M), k2 a0 a1 x2 M → f_E sh t YX10_weighOrders rm cs (f_Q sh t R) 2 [.inr (.inr (.inl (10, 15, a0))), .inr (.inr (.inl (32, 150, a1))), .inl x2, .inr (.inr (.inr ()))] [] M) (h : VX10_weighOrders_65 k2 (fun M => R none M) a0 a1 x2 xs2 xs1 as0 M) : f_E sh t YX10_weighOrders rm cs (f_Q sh t R) 65 [.inr (.inr (.inl (10, 15, a0))), .inr (.inr (.inl (32, 150, a1))), .inl x2, .inr (.inr (.inr ()))] [.inl xs2, .inl xs1, .inr (.inr (.inl (20, 150, as0)))] M :=
  f_go (KC := f_kc [(2, f_pl [(3, 10, 15), (3, 32, 150), (1, 0, 0), (0, 0, 0)] [] (fun ls st M => k2 (f_va (f_nth ls 0)) (f_va (f_nth ls 1)) (f_vi (f_nth ls 2)) M))]) C qX10_weighOrdersf (f_kc_cons (f_pl_ok rfl (fun ls st M h => h2 _ _ _ M h)) f_kc_nil) 108 40 h
set_option maxRecDepth 20000 in
theorem BX10_weighOrders_79 {sh : Nat → Nat × Nat} {t : Nat} {rm : Nat × Nat × Nat} {cs : Nat × Nat} {R : f_Rt} {k169 : Nat → Nat → Int → e_M → Prop} {k148 : Nat → Nat → Int → Int → Int → Nat → e_M → Prop} {a0 : Nat} {a1 : Nat} {x2 : Int} {M : e_M} (C : f_Hy sh t yX10_weighOrders rm cs 4 (lX10_weighOrders) R) (h169 : ∀ (a0 : Nat) (a1 : Nat) (x2 : Int) (M : e_M), k169 a0 a1 x2 M → f_E sh t YX10_weighOrders rm cs (f_Q sh t R) 169 [.inr (.inr (.inl (10, 15, a0))), .inr (.inr (.inl (32, 150, a1))), .inl x2, .inr (.inr (.inr ()))] [] M) (h148 : ∀ (a0 : Nat) (a1 : Nat) (x2 : Int) (xs2 : Int) (xs1 : Int) (as0 : Nat) (M : e_M), k148 a0 a1 x2 xs2 xs1 as0 M → f_E sh t YX10_weighOrders rm cs (f_Q sh t R) 148 [.inr (.inr (.inl (10, 15, a0))), .inr (.inr (.inl (32, 150, a1))), .inl x2, .inr (.inr (.inr ()))] [.inl xs2, .inl xs1, .inr (.inr (.inl (20, 150, as0)))] M) (h : VX10_weighOrders_79 k169 k148 (fun M => R none M) a0 a1 x2 M) : f_E sh t YX10_weighOrders rm cs (f_Q sh t R) 79 [.inr (.inr (.inl (10, 15, a0))), .inr (.inr (.inl (32, 150, a1))), .inl x2, .inr (.inr (.inr ()))] [] M :=
  f_go (KC := f_kc [(169, f_pl [(3, 10, 15), (3, 32, 150), (1, 0, 0), (0, 0, 0)] [] (fun ls st M => k169 (f_va (f_nth ls 0)) (f_va (f_nth ls 1)) (f_vi (f_nth ls 2)) M)), (148, f_pl [(3, 10, 15), (3, 32, 150), (1, 0, 0), (0, 0, 0)] [(1, 0, 0), (1, 0, 0), (3, 20, 150)] (fun ls st M => k148 (f_va (f_nth ls 0)) (f_va (f_nth ls 1)) (f_vi (f_nth ls 2)) (f_vi (f_nth st 0)) (f_vi (f_nth st 1)) (f_va (f_nth st 2)) M))]) C qX10_weighOrdersf (f_kc_cons (f_pl_ok rfl (fun ls st M h => h169 _ _ _ M h)) (f_kc_cons (f_pl_ok rfl (fun ls st M h => h148 _ _ _ _ _ _ M h)) f_kc_nil)) 108 49 h
set_option maxRecDepth 20000 in
theorem BX10_weighOrders_148 {sh : Nat → Nat × Nat} {t : Nat} {rm : Nat × Nat × Nat} {cs : Nat × Nat} {R : f_Rt} {k169 : Nat → Nat → Int → e_M → Prop} {a0 : Nat} {a1 : Nat} {x2 : Int} {xs2 : Int} {xs1 : Int} {as0 : Nat} {M : e_M} (C : f_Hy sh t yX10_weighOrders rm cs 4 (lX10_weighOrders) R) (h169 : ∀ (a0 : Nat) (a1 : Nat) (x2 : Int) (M : e_M), k169 a0 a1 x2 M → f_E sh t YX10_weighOrders rm cs (f_Q sh t R) 169 [.inr (.inr (.inl (10, 15, a0))), .inr (.inr (.inl (32, 150, a1))), .inl x2, .inr (.inr (.inr ()))] [] M) (h : VX10_weighOrders_148 k169 (fun M => R none M) a0 a1 x2 xs2 xs1 as0 M) : f_E sh t YX10_weighOrders rm cs (f_Q sh t R) 148 [.inr (.inr (.inl (10, 15, a0))), .inr (.inr (.inl (32, 150, a1))), .inl x2, .inr (.inr (.inr ()))] [.inl xs2, .inl xs1, .inr (.inr (.inl (20, 150, as0)))] M :=
  f_go (KC := f_kc [(169, f_pl [(3, 10, 15), (3, 32, 150), (1, 0, 0), (0, 0, 0)] [] (fun ls st M => k169 (f_va (f_nth ls 0)) (f_va (f_nth ls 1)) (f_vi (f_nth ls 2)) M))]) C qX10_weighOrdersf (f_kc_cons (f_pl_ok rfl (fun ls st M h => h169 _ _ _ M h)) f_kc_nil) 108 89 h
set_option maxRecDepth 20000 in
theorem BX10_weighOrders_169 {sh : Nat → Nat × Nat} {t : Nat} {rm : Nat × Nat × Nat} {cs : Nat × Nat} {R : f_Rt} {k79 : Nat → Nat → Int → e_M → Prop} {a0 : Nat} {a1 : Nat} {x2 : Int} {M : e_M} (C : f_Hy sh t yX10_weighOrders rm cs 4 (lX10_weighOrders) R) (h79 : ∀ (a0 : Nat) (a1 : Nat) (x2 : Int) (M : e_M), k79 a0 a1 x2 M → f_E sh t YX10_weighOrders rm cs (f_Q sh t R) 79 [.inr (.inr (.inl (10, 15, a0))), .inr (.inr (.inl (32, 150, a1))), .inl x2, .inr (.inr (.inr ()))] [] M) (h : VX10_weighOrders_169 k79 (fun M => R none M) a0 a1 x2 M) : f_E sh t YX10_weighOrders rm cs (f_Q sh t R) 169 [.inr (.inr (.inl (10, 15, a0))), .inr (.inr (.inl (32, 150, a1))), .inl x2, .inr (.inr (.inr ()))] [] M :=
  f_go (KC := f_kc [(79, f_pl [(3, 10, 15), (3, 32, 150), (1, 0, 0), (0, 0, 0)] [] (fun ls st M => k79 (f_va (f_nth ls 0)) (f_va (f_nth ls 1)) (f_vi (f_nth ls 2)) M))]) C qX10_weighOrdersf (f_kc_cons (f_pl_ok rfl (fun ls st M h => h79 _ _ _ M h)) f_kc_nil) 108 103 h
set_option maxRecDepth 20000 in
theorem BX10_weighOrders {sh : Nat → Nat × Nat} {t : Nat} {rm : Nat × Nat × Nat} {cs : Nat × Nat} {R : f_Rt} {k2 : Nat → Nat → Int → e_M → Prop} {a0 : Nat} {a1 : Nat} {M : e_M} (C : f_Hy sh t yX10_weighOrders rm cs 4 (lX10_weighOrders) R) (h2 : ∀ (a0 : Nat) (a1 : Nat) (x2 : Int) (M : e_M), k2 a0 a1 x2 M → f_E sh t YX10_weighOrders rm cs (f_Q sh t R) 2 [.inr (.inr (.inl (10, 15, a0))), .inr (.inr (.inl (32, 150, a1))), .inl x2, .inr (.inr (.inr ()))] [] M) (h : VX10_weighOrders k2 (fun M => R none M) a0 a1 M) : f_E sh t YX10_weighOrders rm cs (f_Q sh t R) 0 [.inr (.inr (.inl (10, 15, a0))), .inr (.inr (.inl (32, 150, a1))), .inr (.inr (.inr ())), .inr (.inr (.inr ()))] [] M :=
  f_go (KC := f_kc [(2, f_pl [(3, 10, 15), (3, 32, 150), (1, 0, 0), (0, 0, 0)] [] (fun ls st M => k2 (f_va (f_nth ls 0)) (f_va (f_nth ls 1)) (f_vi (f_nth ls 2)) M))]) C qX10_weighOrdersf (f_kc_cons (f_pl_ok rfl (fun ls st M h => h2 _ _ _ M h)) f_kc_nil) 108 0 h
def WX10_weighOrders_169 (H79 : Nat → Nat → Int → e_M → Prop) (Q : e_M → Prop) (a0 : Nat) (a1 : Nat) (x2 : Int) (M : e_M) : Prop :=
  VX10_weighOrders_169 H79 Q a0 a1 x2 M
def WX10_weighOrders_148 (H79 : Nat → Nat → Int → e_M → Prop) (Q : e_M → Prop) (a0 : Nat) (a1 : Nat) (x2 : Int) (xs2 : Int) (xs1 : Int) (as0 : Nat) (M : e_M) : Prop :=
  VX10_weighOrders_148 (WX10_weighOrders_169 H79 Q) Q a0 a1 x2 xs2 xs1 as0 M
def WX10_weighOrders_79 (Q : e_M → Prop) : Nat → Nat → Nat → Int → e_M → Prop
  | 0, _, _, _, _ => False
  | n + 1, a0, a1, x2, M =>
    VX10_weighOrders_79 (WX10_weighOrders_169 (WX10_weighOrders_79 Q n) Q) (WX10_weighOrders_148 (WX10_weighOrders_79 Q n) Q) Q a0 a1 x2 M
def WX10_weighOrders_65 (H2 : Nat → Nat → Int → e_M → Prop) (Q : e_M → Prop) (a0 : Nat) (a1 : Nat) (x2 : Int) (xs2 : Int) (xs1 : Int) (as0 : Nat) (M : e_M) : Prop :=
  VX10_weighOrders_65 H2 Q a0 a1 x2 xs2 xs1 as0 M
def WX10_weighOrders_28 (H2 : Nat → Nat → Int → e_M → Prop) (Q : e_M → Prop) (a0 : Nat) (a1 : Nat) (x2 : Int) (xs0 : Int) (M : e_M) : Prop :=
  VX10_weighOrders_28 (WX10_weighOrders_65 H2 Q) Q a0 a1 x2 xs0 M
def WX10_weighOrders_2 (Q : e_M → Prop) : Nat → Nat → Nat → Int → e_M → Prop
  | 0, _, _, _, _ => False
  | n + 1, a0, a1, x2, M =>
    VX10_weighOrders_2 (fun a0 a1 x2 M => ∃ j, WX10_weighOrders_79 Q j a0 a1 x2 M) (WX10_weighOrders_28 (WX10_weighOrders_2 Q n) Q) Q a0 a1 x2 M
def WX10_weighOrders (a0 : Nat) (a1 : Nat) (M : e_M) (Q : e_M → Prop) : Prop :=
  VX10_weighOrders (fun a0 a1 x2 M => ∃ j, WX10_weighOrders_2 Q j a0 a1 x2 M) Q a0 a1 M
theorem PX10_weighOrders_169 {sh : Nat → Nat × Nat} {t : Nat} {rm : Nat × Nat × Nat} {cs : Nat × Nat} {R : f_Rt} {H79 : Nat → Nat → Int → e_M → Prop} {a0 : Nat} {a1 : Nat} {x2 : Int} {M : e_M} (C : f_Hy sh t yX10_weighOrders rm cs 4 (lX10_weighOrders) R) (g79 : ∀ (a0 : Nat) (a1 : Nat) (x2 : Int) (M : e_M), H79 a0 a1 x2 M → f_E sh t YX10_weighOrders rm cs (f_Q sh t R) 79 [.inr (.inr (.inl (10, 15, a0))), .inr (.inr (.inl (32, 150, a1))), .inl x2, .inr (.inr (.inr ()))] [] M) (h : WX10_weighOrders_169 H79 (fun M => R none M) a0 a1 x2 M) : f_E sh t YX10_weighOrders rm cs (f_Q sh t R) 169 [.inr (.inr (.inl (10, 15, a0))), .inr (.inr (.inl (32, 150, a1))), .inl x2, .inr (.inr (.inr ()))] [] M :=
  BX10_weighOrders_169 C g79 h
theorem PX10_weighOrders_148 {sh : Nat → Nat × Nat} {t : Nat} {rm : Nat × Nat × Nat} {cs : Nat × Nat} {R : f_Rt} {H79 : Nat → Nat → Int → e_M → Prop} {a0 : Nat} {a1 : Nat} {x2 : Int} {xs2 : Int} {xs1 : Int} {as0 : Nat} {M : e_M} (C : f_Hy sh t yX10_weighOrders rm cs 4 (lX10_weighOrders) R) (g79 : ∀ (a0 : Nat) (a1 : Nat) (x2 : Int) (M : e_M), H79 a0 a1 x2 M → f_E sh t YX10_weighOrders rm cs (f_Q sh t R) 79 [.inr (.inr (.inl (10, 15, a0))), .inr (.inr (.inl (32, 150, a1))), .inl x2, .inr (.inr (.inr ()))] [] M) (h : WX10_weighOrders_148 H79 (fun M => R none M) a0 a1 x2 xs2 xs1 as0 M) : f_E sh t YX10_weighOrders rm cs (f_Q sh t R) 148 [.inr (.inr (.inl (10, 15, a0))), .inr (.inr (.inl (32, 150, a1))), .inl x2, .inr (.inr (.inr ()))] [.inl xs2, .inl xs1, .inr (.inr (.inl (20, 150, as0)))] M :=
  BX10_weighOrders_148 C (fun a0 a1 x2 M h => PX10_weighOrders_169 C g79 h) h
theorem PX10_weighOrders_79 {sh : Nat → Nat × Nat} {t : Nat} {rm : Nat × Nat × Nat} {cs : Nat × Nat} {R : f_Rt} (C : f_Hy sh t yX10_weighOrders rm cs 4 (lX10_weighOrders) R) : ∀ (n : Nat) (a0 : Nat) (a1 : Nat) (x2 : Int) (M : e_M), WX10_weighOrders_79 (fun M => R none M) n a0 a1 x2 M → f_E sh t YX10_weighOrders rm cs (f_Q sh t R) 79 [.inr (.inr (.inl (10, 15, a0))), .inr (.inr (.inl (32, 150, a1))), .inl x2, .inr (.inr (.inr ()))] [] M := by
  intro n
  induction n with
  | zero => intro a0 a1 x2 M h; exact h.elim
  | succ n ih => intro a0 a1 x2 M h; exact BX10_weighOrders_79 C (fun a0 a1 x2 M h => PX10_weighOrders_169 C ih h) (fun a0 a1 x2 xs2 xs1 as0 M h => PX10_weighOrders_148 C ih h) h
theorem PX10_weighOrders_65 {sh : Nat → Nat × Nat} {t : Nat} {rm : Nat × Nat × Nat} {cs : Nat × Nat} {R : f_Rt} {H2 : Nat → Nat → Int → e_M → Prop} {a0 : Nat} {a1 : Nat} {x2 : Int} {xs2 : Int} {xs1 : Int} {as0 : Nat} {M : e_M} (C : f_Hy sh t yX10_weighOrders rm cs 4 (lX10_weighOrders) R) (g2 : ∀ (a0 : Nat) (a1 : Nat) (x2 : Int) (M : e_M), H2 a0 a1 x2 M → f_E sh t YX10_weighOrders rm cs (f_Q sh t R) 2 [.inr (.inr (.inl (10, 15, a0))), .inr (.inr (.inl (32, 150, a1))), .inl x2, .inr (.inr (.inr ()))] [] M) (h : WX10_weighOrders_65 H2 (fun M => R none M) a0 a1 x2 xs2 xs1 as0 M) : f_E sh t YX10_weighOrders rm cs (f_Q sh t R) 65 [.inr (.inr (.inl (10, 15, a0))), .inr (.inr (.inl (32, 150, a1))), .inl x2, .inr (.inr (.inr ()))] [.inl xs2, .inl xs1, .inr (.inr (.inl (20, 150, as0)))] M :=
  BX10_weighOrders_65 C g2 h
theorem PX10_weighOrders_28 {sh : Nat → Nat × Nat} {t : Nat} {rm : Nat × Nat × Nat} {cs : Nat × Nat} {R : f_Rt} {H2 : Nat → Nat → Int → e_M → Prop} {a0 : Nat} {a1 : Nat} {x2 : Int} {xs0 : Int} {M : e_M} (C : f_Hy sh t yX10_weighOrders rm cs 4 (lX10_weighOrders) R) (g2 : ∀ (a0 : Nat) (a1 : Nat) (x2 : Int) (M : e_M), H2 a0 a1 x2 M → f_E sh t YX10_weighOrders rm cs (f_Q sh t R) 2 [.inr (.inr (.inl (10, 15, a0))), .inr (.inr (.inl (32, 150, a1))), .inl x2, .inr (.inr (.inr ()))] [] M) (h : WX10_weighOrders_28 H2 (fun M => R none M) a0 a1 x2 xs0 M) : f_E sh t YX10_weighOrders rm cs (f_Q sh t R) 28 [.inr (.inr (.inl (10, 15, a0))), .inr (.inr (.inl (32, 150, a1))), .inl x2, .inr (.inr (.inr ()))] [.inl xs0] M :=
  BX10_weighOrders_28 C (fun a0 a1 x2 xs2 xs1 as0 M h => PX10_weighOrders_65 C g2 h) h
theorem PX10_weighOrders_2 {sh : Nat → Nat × Nat} {t : Nat} {rm : Nat × Nat × Nat} {cs : Nat × Nat} {R : f_Rt} (C : f_Hy sh t yX10_weighOrders rm cs 4 (lX10_weighOrders) R) : ∀ (n : Nat) (a0 : Nat) (a1 : Nat) (x2 : Int) (M : e_M), WX10_weighOrders_2 (fun M => R none M) n a0 a1 x2 M → f_E sh t YX10_weighOrders rm cs (f_Q sh t R) 2 [.inr (.inr (.inl (10, 15, a0))), .inr (.inr (.inl (32, 150, a1))), .inl x2, .inr (.inr (.inr ()))] [] M := by
  intro n
  induction n with
  | zero => intro a0 a1 x2 M h; exact h.elim
  | succ n ih => intro a0 a1 x2 M h; exact BX10_weighOrders_2 C (fun a0 a1 x2 M ⟨j, h⟩ => PX10_weighOrders_79 C j _ _ _ _ h) (fun a0 a1 x2 xs0 M h => PX10_weighOrders_28 C ih h) h
theorem PX10_weighOrders {sh : Nat → Nat × Nat} {t : Nat} {rm : Nat × Nat × Nat} {cs : Nat × Nat} {R : f_Rt} {a0 : Nat} {a1 : Nat} {M : e_M} (C : f_Hy sh t yX10_weighOrders rm cs 4 (lX10_weighOrders) R) (h : WX10_weighOrders a0 a1 M (fun M => R none M)) : f_E sh t YX10_weighOrders rm cs (f_Q sh t R) 0 [.inr (.inr (.inl (10, 15, a0))), .inr (.inr (.inl (32, 150, a1))), .inr (.inr (.inr ())), .inr (.inr (.inr ()))] [] M :=
  BX10_weighOrders C (fun a0 a1 x2 M ⟨j, h⟩ => PX10_weighOrders_2 C j _ _ _ _ h) h
def wX10_weighOrders : f_Wt := f_wm [(3, 10, 15), (3, 32, 150)] (fun ar M R => WX10_weighOrders (f_va (f_nth ar 0)) (f_va (f_nth ar 1)) M (fun M => R none M))
theorem TX10_weighOrders {sh : Nat → Nat × Nat} {t : Nat} : f_Mt sh t YX10_weighOrders 4 (wX10_weighOrders) :=
  f_Mt_of (k := 2) (Nat.le_of_ble_eq_true rfl) rfl rfl (fun ar M R rm cs h1 h2 h3 hX h => PX10_weighOrders ⟨Nat.le_of_ble_eq_true rfl, h1, h2, h3, trivial, hX⟩ h)
def VX10_lineUp_2 (k59 : Nat → Nat → Int → Nat → Int → e_M → Prop) (k147 : Nat → Nat → Int → e_M → Prop) (Q : e_M → Prop) (a0 : Nat) (a1 : Nat) (x2 : Int) (M : e_M) : Prop :=
  (((M a0 14) ≤ x2 → (Q M)) ∧ (x2 < (M a0 14) → ((0 ≤ x2 ∧ x2 < 150) ∧ (((M (a0 + 25) (x2.toNat)) = 0 → ((0 ≤ x2 ∧ x2 < 150) ∧ ((0 ≤ (M (a0 + 26) (x2.toNat)) ∧ (M (a0 + 26) (x2.toNat)) < 150) ∧ (((M ((M a1 ((M (a0 + 26) (x2.toNat)).toNat)).toNat) 4) ≤ (M a0 12) → (k59 a0 a1 x2 ((M a1 ((M (a0 + 26) (x2.toNat)).toNat)).toNat) (M a0 9) M)) ∧ ((M a0 12) < (M ((M a1 ((M (a0 + 26) (x2.toNat)).toNat)).toNat) 4) → ((0 ≤ x2 ∧ x2 < 150) ∧ (∀ M1 : e_M, M1 = e_up M (a0 + 25) (x2.toNat) 20 → (k147 a0 a1 x2 M1)))))))) ∧ (¬ (M (a0 + 25) (x2.toNat)) = 0 → (k147 a0 a1 x2 M))))))
def VX10_lineUp_59 (k121 : Nat → Nat → Int → Nat → Int → e_M → Prop) (k59 : Nat → Nat → Int → Nat → Int → e_M → Prop) (Q : e_M → Prop) (a0 : Nat) (a1 : Nat) (x2 : Int) (a3 : Nat) (x4 : Int) (M : e_M) : Prop :=
  ((x4 ≤ 0 → (k121 a0 a1 x2 a3 x4 M)) ∧ (0 < x4 → ((0 ≤ (e_w32 (x4 - 1)) ∧ (e_w32 (x4 - 1)) < 150) ∧ (((M ((M (a0 + 28) ((e_w32 (x4 - 1)).toNat)).toNat) 4) ≤ (M a3 4) → (k121 a0 a1 x2 a3 x4 M)) ∧ ((M a3 4) < (M ((M (a0 + 28) ((e_w32 (x4 - 1)).toNat)).toNat) 4) → ((0 ≤ (e_w32 (x4 - 1)) ∧ (e_w32 (x4 - 1)) < 150) ∧ ((0 ≤ x4 ∧ x4 < 150) ∧ (∀ M1 : e_M, M1 = e_up M (a0 + 28) (x4.toNat) (((M (a0 + 28) ((e_w32 (x4 - 1)).toNat)).toNat : Nat) : Int) → ((0 ≤ (e_w32 (x4 - 1)) ∧ (e_w32 (x4 - 1)) < 150) ∧ ((0 ≤ x4 ∧ x4 < 150) ∧ (∀ M2 : e_M, M2 = e_up M1 (a0 + 27) (x4.toNat) (M1 (a0 + 27) ((e_w32 (x4 - 1)).toNat)) → (k59 a0 a1 x2 a3 (e_w32 (x4 + (-1))) M2))))))))))))
def VX10_lineUp_121 (k147 : Nat → Nat → Int → e_M → Prop) (Q : e_M → Prop) (a0 : Nat) (a1 : Nat) (x2 : Int) (a3 : Nat) (x4 : Int) (M : e_M) : Prop :=
  ((0 ≤ x4 ∧ x4 < 150) ∧ (∀ M1 : e_M, M1 = e_up M (a0 + 28) (x4.toNat) ((a3 : Nat) : Int) → ((0 ≤ x4 ∧ x4 < 150) ∧ (∀ M2 : e_M, M2 = e_up M1 (a0 + 27) (x4.toNat) x2 → (∀ M3 : e_M, M3 = e_up M2 a0 9 (e_w32 ((M2 a0 9) + 1)) → (k147 a0 a1 x2 M3))))))
def VX10_lineUp_147 (k2 : Nat → Nat → Int → e_M → Prop) (Q : e_M → Prop) (a0 : Nat) (a1 : Nat) (x2 : Int) (M : e_M) : Prop :=
  (k2 a0 a1 (e_w32 (x2 + 1)) M)
def VX10_lineUp (k2 : Nat → Nat → Int → e_M → Prop) (Q : e_M → Prop) (a0 : Nat) (a1 : Nat) (M : e_M) : Prop :=
  (k2 a0 a1 0 M)
def yX10_lineUp (i : Nat) : e_Y := x_get YX10_lineUp [] i
def pX10_lineUpf : List x_I := [(0, 0, 1, 0, 0, 0, []), (1, 5, 1, 2, 0, 0, []), (2, 49, 0, 0, 0, 0, []), (2, 2, 1, 2, 0, 0, []), (3, 4, 1, 0, 0, 0, []), (4, 25, 10, 14, 0, 0, []), (7, 18, 153, 3, 90, 0, []), (10, 4, 1, 0, 0, 0, []), (11, 25, 10, 5, 4, 0, [(0, 20, 150), (0, 1, 25)]), (14, 2, 1, 2, 0, 0, []), (15, 27, 0, 0, 0, 0, []), (16, 17, 22, 0, 14, 0, []), (19, 19, 147, 0, 87, 0, []), (22, 4, 1, 1, 0, 0, []), (23, 4, 1, 0, 0, 0, []), (24, 25, 10, 6, 4, 0, [(0, 20, 150), (0, 1, 26)]), (27, 2, 1, 2, 0, 0, []), (28, 27, 0, 0, 0, 0, []), (29, 27, 0, 3, 0, 0, [(0, 2, 19), (0, 0, 0)]), (30, 7, 1, 3, 0, 0, []), (31, 4, 1, 3, 0, 0, []), (32, 25, 2, 4, 0, 0, []), (35, 4, 1, 0, 0, 0, []), (36, 25, 10, 12, 0, 0, []), (39, 18, 53, 5, 32, 0, []), (42, 4, 1, 0, 0, 0, []), (43, 25, 10, 5, 4, 0, [(0, 20, 150), (0, 1, 25)]), (46, 2, 1, 2, 0, 0, []), (47, 0, 2, 0, 0, 20, []), (49, 28, 0, 0, 0, 0, []), (50, 19, 147, 0, 87, 0, []), (53, 4, 1, 0, 0, 0, []), (54, 25, 10, 9, 0, 0, []), (57, 5, 2, 4, 0, 0, []), (59, 49, 0, 0, 0, 0, []), (59, 2, 2, 4, 0, 0, []), (61, 17, 121, 5, 70, 0, []), (64, 4, 1, 0, 0, 0, []), (65, 25, 10, 8, 4, 0, [(0, 32, 150), (0, 1, 28)]), (68, 2, 2, 4, 0, 0, []), (70, 0, 1, 0, 0, 1, []), (71, 9, 0, 1, 0, 0, []), (72, 27, 0, 3, 0, 0, [(0, 2, 19), (0, 0, 0)]), (73, 25, 2, 4, 0, 0, []), (76, 4, 1, 3, 0, 0, []), (77, 25, 2, 4, 0, 0, []), (80, 18, 121, 5, 70, 0, []), (83, 4, 1, 0, 0, 0, []), (84, 25, 10, 8, 4, 0, [(0, 32, 150), (0, 1, 28)]), (87, 2, 2, 4, 0, 0, []), (89, 4, 1, 0, 0, 0, []), (90, 25, 10, 8, 4, 0, [(0, 32, 150), (0, 1, 28)]), (93, 2, 2, 4, 0, 0, []), (95, 0, 1, 0, 0, 1, []), (96, 9, 0, 1, 0, 0, []), (97, 27, 0, 3, 0, 0, [(0, 2, 19), (0, 0, 0)]), (98, 30, 0, 0, 0, 0, [(0, 2, 19), (0, 0, 0)]), (99, 4, 1, 0, 0, 0, []), (100, 25, 10, 7, 4, 0, [(0, 20, 150), (0, 1, 27)]), (103, 2, 2, 4, 0, 0, []), (105, 4, 1, 0, 0, 0, []), (106, 25, 10, 7, 4, 0, [(0, 20, 150), (0, 1, 27)]), (109, 2, 2, 4, 0, 0, []), (111, 0, 1, 0, 0, 1, []), (112, 9, 0, 1, 0, 0, []), (113, 27, 0, 0, 0, 0, []), (114, 28, 0, 0, 0, 0, []), (115, 8, 0, 4, 0, (-1), []), (118, 19, 59, 0, 35, 0, []), (121, 49, 0, 0, 0, 0, []), (121, 4, 1, 0, 0, 0, []), (122, 25, 10, 8, 4, 0, [(0, 32, 150), (0, 1, 28)]), (125, 2, 2, 4, 0, 0, []), (127, 4, 1, 3, 0, 0, []), (128, 30, 0, 0, 0, 0, [(0, 2, 19), (0, 0, 0)]), (129, 4, 1, 0, 0, 0, []), (130, 25, 10, 7, 4, 0, [(0, 20, 150), (0, 1, 27)]), (133, 2, 2, 4, 0, 0, []), (135, 2, 1, 2, 0, 0, []), (136, 28, 0, 0, 0, 0, []), (137, 4, 1, 0, 0, 0, []), (138, 20, 0, 0, 0, 0, []), (139, 25, 10, 9, 0, 0, []), (142, 0, 1, 0, 0, 1, []), (143, 9, 0, 0, 0, 0, []), (144, 26, 10, 9, 0, 0, []), (147, 49, 0, 0, 0, 0, []), (147, 8, 0, 2, 0, 1, []), (150, 19, 2, 0, 3, 0, []), (153, 44, 0, 0, 0, 0, [])]
set_option maxRecDepth 20000 in
theorem qX10_lineUpf : f_all yX10_lineUp YX10_lineUp pX10_lineUpf :=
  ⟨f_iconst (e_dx DX10_lineUp_0 0 rfl) ⟨by decide, by decide⟩,
  f_istore_n (n := 2) (e_dx DX10_lineUp_0 1 rfl) rfl (by decide),
  trivial,
  f_iload_n (n := 2) (e_dx DX10_lineUp_0 2 rfl) rfl,
  f_aload_n (n := 0) (e_dx DX10_lineUp_0 3 rfl) rfl,
  f_getf (e_dx DX10_lineUp_0 4 rfl) fX10_74 rfl (by decide) (by decide) (by decide),
  f_icmp_ge (e_dx DX10_lineUp_0 5 rfl) rfl,
  f_aload_n (n := 0) (e_dx DX10_lineUp_0 6 rfl) rfl,
  f_getA (e_dx DX10_lineUp_0 7 rfl) fX10_45 rfl (by decide) (Nat.le_of_ble_eq_true rfl) rfl (by decide),
  f_iload_n (n := 2) (e_dx DX10_lineUp_0 8 rfl) rfl,
  f_iaload (e_dx DX10_lineUp_0 9 rfl),
  f_if_eq (e_dx DX10_lineUp_0 10 rfl) rfl,
  f_g19 (e_dx DX10_lineUp_0 11 rfl) rfl,
  f_aload_n (n := 1) (e_dx DX10_lineUp_0 12 rfl) rfl,
  f_aload_n (n := 0) (e_dx DX10_lineUp_0 13 rfl) rfl,
  f_getA (e_dx DX10_lineUp_0 14 rfl) fX10_48 rfl (by decide) (Nat.le_of_ble_eq_true rfl) rfl (by decide),
  f_iload_n (n := 2) (e_dx DX10_lineUp_0 15 rfl) rfl,
  f_iaload (e_dx DX10_lineUp_0 16 rfl),
  f_aaload (e_dx DX10_lineUp_0 17 rfl) (by decide) rfl,
  f_astore_n (n := 3) (e_dx DX10_lineUp_0 18 rfl) rfl (by decide),
  f_aload_n (n := 3) (e_dx DX10_lineUp_0 19 rfl) rfl,
  f_getf (e_dx DX10_lineUp_0 20 rfl) fX10_131 rfl (by decide) (by decide) (by decide),
  f_aload_n (n := 0) (e_dx DX10_lineUp_0 21 rfl) rfl,
  f_getf (e_dx DX10_lineUp_0 22 rfl) fX10_68 rfl (by decide) (by decide) (by decide),
  f_icmp_le (e_dx DX10_lineUp_0 23 rfl) rfl,
  f_aload_n (n := 0) (e_dx DX10_lineUp_0 24 rfl) rfl,
  f_getA (e_dx DX10_lineUp_0 25 rfl) fX10_45 rfl (by decide) (Nat.le_of_ble_eq_true rfl) rfl (by decide),
  f_iload_n (n := 2) (e_dx DX10_lineUp_0 26 rfl) rfl,
  f_bipush (e_dx DX10_lineUp_0 27 rfl) ⟨by decide, by decide⟩,
  f_iastore (e_dx DX10_lineUp_0 28 rfl),
  f_g19 (e_dx DX10_lineUp_0 29 rfl) rfl,
  f_aload_n (n := 0) (e_dx DX10_lineUp_0 30 rfl) rfl,
  f_getf (e_dx DX10_lineUp_0 31 rfl) fX10_58 rfl (by decide) (by decide) (by decide),
  f_istore (e_dx DX10_lineUp_0 32 rfl) (by decide),
  trivial,
  f_iload (e_dx DX10_lineUp_0 33 rfl),
  f_if_le (e_dx DX10_lineUp_0 34 rfl) rfl,
  f_aload_n (n := 0) (e_dx DX10_lineUp_0 35 rfl) rfl,
  f_getA (e_dx DX10_lineUp_0 36 rfl) fX10_54 rfl (by decide) (Nat.le_of_ble_eq_true rfl) rfl (by decide),
  f_iload (e_dx DX10_lineUp_0 37 rfl),
  f_iconst (e_dx DX10_lineUp_0 38 rfl) ⟨by decide, by decide⟩,
  f_isub (e_dx DX10_lineUp_0 39 rfl),
  f_aaload (e_dx DX10_lineUp_1 0 rfl) (by decide) rfl,
  f_getf (e_dx DX10_lineUp_1 1 rfl) fX10_131 rfl (by decide) (by decide) (by decide),
  f_aload_n (n := 3) (e_dx DX10_lineUp_1 2 rfl) rfl,
  f_getf (e_dx DX10_lineUp_1 3 rfl) fX10_131 rfl (by decide) (by decide) (by decide),
  f_icmp_le (e_dx DX10_lineUp_1 4 rfl) rfl,
  f_aload_n (n := 0) (e_dx DX10_lineUp_1 5 rfl) rfl,
  f_getA (e_dx DX10_lineUp_1 6 rfl) fX10_54 rfl (by decide) (Nat.le_of_ble_eq_true rfl) rfl (by decide),
  f_iload (e_dx DX10_lineUp_1 7 rfl),
  f_aload_n (n := 0) (e_dx DX10_lineUp_1 8 rfl) rfl,
  f_getA (e_dx DX10_lineUp_1 9 rfl) fX10_54 rfl (by decide) (Nat.le_of_ble_eq_true rfl) rfl (by decide),
  f_iload (e_dx DX10_lineUp_1 10 rfl),
  f_iconst (e_dx DX10_lineUp_1 11 rfl) ⟨by decide, by decide⟩,
  f_isub (e_dx DX10_lineUp_1 12 rfl),
  f_aaload (e_dx DX10_lineUp_1 13 rfl) (by decide) rfl,
  f_g30 (e_dx DX10_lineUp_1 14 rfl) rfl,
  f_aload_n (n := 0) (e_dx DX10_lineUp_1 15 rfl) rfl,
  f_getA (e_dx DX10_lineUp_1 16 rfl) fX10_51 rfl (by decide) (Nat.le_of_ble_eq_true rfl) rfl (by decide),
  f_iload (e_dx DX10_lineUp_1 17 rfl),
  f_aload_n (n := 0) (e_dx DX10_lineUp_1 18 rfl) rfl,
  f_getA (e_dx DX10_lineUp_1 19 rfl) fX10_51 rfl (by decide) (Nat.le_of_ble_eq_true rfl) rfl (by decide),
  f_iload (e_dx DX10_lineUp_1 20 rfl),
  f_iconst (e_dx DX10_lineUp_1 21 rfl) ⟨by decide, by decide⟩,
  f_isub (e_dx DX10_lineUp_1 22 rfl),
  f_iaload (e_dx DX10_lineUp_1 23 rfl),
  f_iastore (e_dx DX10_lineUp_1 24 rfl),
  f_g8 (e_dx DX10_lineUp_1 25 rfl) ⟨by decide, by decide⟩,
  f_g19 (e_dx DX10_lineUp_1 26 rfl) rfl,
  trivial,
  f_aload_n (n := 0) (e_dx DX10_lineUp_1 27 rfl) rfl,
  f_getA (e_dx DX10_lineUp_1 28 rfl) fX10_54 rfl (by decide) (Nat.le_of_ble_eq_true rfl) rfl (by decide),
  f_iload (e_dx DX10_lineUp_1 29 rfl),
  f_aload_n (n := 3) (e_dx DX10_lineUp_1 30 rfl) rfl,
  f_g30 (e_dx DX10_lineUp_1 31 rfl) rfl,
  f_aload_n (n := 0) (e_dx DX10_lineUp_1 32 rfl) rfl,
  f_getA (e_dx DX10_lineUp_1 33 rfl) fX10_51 rfl (by decide) (Nat.le_of_ble_eq_true rfl) rfl (by decide),
  f_iload (e_dx DX10_lineUp_1 34 rfl),
  f_iload_n (n := 2) (e_dx DX10_lineUp_1 35 rfl) rfl,
  f_iastore (e_dx DX10_lineUp_1 36 rfl),
  f_aload_n (n := 0) (e_dx DX10_lineUp_1 37 rfl) rfl,
  f_g20 (e_dx DX10_lineUp_1 38 rfl),
  f_getf (e_dx DX10_lineUp_1 39 rfl) fX10_58 rfl (by decide) (by decide) (by decide),
  f_iconst (e_dx DX10_lineUp_2 0 rfl) ⟨by decide, by decide⟩,
  f_iadd (e_dx DX10_lineUp_2 1 rfl),
  f_putn (e_dx DX10_lineUp_2 2 rfl) fX10_58 (fun q hq => by cases hq; rfl) rfl (Or.inl rfl) (by decide),
  trivial,
  f_g8 (e_dx DX10_lineUp_2 3 rfl) ⟨by decide, by decide⟩,
  f_g19 (e_dx DX10_lineUp_2 4 rfl) rfl,
  ⟨(e_dx DX10_lineUp_2 5 rfl), rfl⟩, trivial⟩
def lX10_lineUp : List (Nat × f_Wt) := []
set_option maxRecDepth 20000 in
theorem BX10_lineUp_2 {sh : Nat → Nat × Nat} {t : Nat} {rm : Nat × Nat × Nat} {cs : Nat × Nat} {R : f_Rt} {k59 : Nat → Nat → Int → Nat → Int → e_M → Prop} {k147 : Nat → Nat → Int → e_M → Prop} {a0 : Nat} {a1 : Nat} {x2 : Int} {M : e_M} (C : f_Hy sh t yX10_lineUp rm cs 4 (lX10_lineUp) R) (h59 : ∀ (a0 : Nat) (a1 : Nat) (x2 : Int) (a3 : Nat) (x4 : Int) (M : e_M), k59 a0 a1 x2 a3 x4 M → f_E sh t YX10_lineUp rm cs (f_Q sh t R) 59 [.inr (.inr (.inl (10, 15, a0))), .inr (.inr (.inl (32, 150, a1))), .inl x2, .inr (.inr (.inl (2, 19, a3))), .inl x4] [] M) (h147 : ∀ (a0 : Nat) (a1 : Nat) (x2 : Int) (M : e_M), k147 a0 a1 x2 M → f_E sh t YX10_lineUp rm cs (f_Q sh t R) 147 [.inr (.inr (.inl (10, 15, a0))), .inr (.inr (.inl (32, 150, a1))), .inl x2, .inr (.inr (.inr ())), .inr (.inr (.inr ()))] [] M) (h : VX10_lineUp_2 k59 k147 (fun M => R none M) a0 a1 x2 M) : f_E sh t YX10_lineUp rm cs (f_Q sh t R) 2 [.inr (.inr (.inl (10, 15, a0))), .inr (.inr (.inl (32, 150, a1))), .inl x2, .inr (.inr (.inr ())), .inr (.inr (.inr ()))] [] M :=
  f_go (KC := f_kc [(59, f_pl [(3, 10, 15), (3, 32, 150), (1, 0, 0), (3, 2, 19), (1, 0, 0)] [] (fun ls st M => k59 (f_va (f_nth ls 0)) (f_va (f_nth ls 1)) (f_vi (f_nth ls 2)) (f_va (f_nth ls 3)) (f_vi (f_nth ls 4)) M)), (147, f_pl [(3, 10, 15), (3, 32, 150), (1, 0, 0), (0, 0, 0), (0, 0, 0)] [] (fun ls st M => k147 (f_va (f_nth ls 0)) (f_va (f_nth ls 1)) (f_vi (f_nth ls 2)) M))]) C qX10_lineUpf (f_kc_cons (f_pl_ok rfl (fun ls st M h => h59 _ _ _ _ _ M h)) (f_kc_cons (f_pl_ok rfl (fun ls st M h => h147 _ _ _ M h)) f_kc_nil)) 92 3 h
set_option maxRecDepth 20000 in
theorem BX10_lineUp_59 {sh : Nat → Nat × Nat} {t : Nat} {rm : Nat × Nat × Nat} {cs : Nat × Nat} {R : f_Rt} {k121 : Nat → Nat → Int → Nat → Int → e_M → Prop} {k59 : Nat → Nat → Int → Nat → Int → e_M → Prop} {a0 : Nat} {a1 : Nat} {x2 : Int} {a3 : Nat} {x4 : Int} {M : e_M} (C : f_Hy sh t yX10_lineUp rm cs 4 (lX10_lineUp) R) (h121 : ∀ (a0 : Nat) (a1 : Nat) (x2 : Int) (a3 : Nat) (x4 : Int) (M : e_M), k121 a0 a1 x2 a3 x4 M → f_E sh t YX10_lineUp rm cs (f_Q sh t R) 121 [.inr (.inr (.inl (10, 15, a0))), .inr (.inr (.inl (32, 150, a1))), .inl x2, .inr (.inr (.inl (2, 19, a3))), .inl x4] [] M) (h59 : ∀ (a0 : Nat) (a1 : Nat) (x2 : Int) (a3 : Nat) (x4 : Int) (M : e_M), k59 a0 a1 x2 a3 x4 M → f_E sh t YX10_lineUp rm cs (f_Q sh t R) 59 [.inr (.inr (.inl (10, 15, a0))), .inr (.inr (.inl (32, 150, a1))), .inl x2, .inr (.inr (.inl (2, 19, a3))), .inl x4] [] M) (h : VX10_lineUp_59 k121 k59 (fun M => R none M) a0 a1 x2 a3 x4 M) : f_E sh t YX10_lineUp rm cs (f_Q sh t R) 59 [.inr (.inr (.inl (10, 15, a0))), .inr (.inr (.inl (32, 150, a1))), .inl x2, .inr (.inr (.inl (2, 19, a3))), .inl x4] [] M :=
  f_go (KC := f_kc [(121, f_pl [(3, 10, 15), (3, 32, 150), (1, 0, 0), (3, 2, 19), (1, 0, 0)] [] (fun ls st M => k121 (f_va (f_nth ls 0)) (f_va (f_nth ls 1)) (f_vi (f_nth ls 2)) (f_va (f_nth ls 3)) (f_vi (f_nth ls 4)) M)), (59, f_pl [(3, 10, 15), (3, 32, 150), (1, 0, 0), (3, 2, 19), (1, 0, 0)] [] (fun ls st M => k59 (f_va (f_nth ls 0)) (f_va (f_nth ls 1)) (f_vi (f_nth ls 2)) (f_va (f_nth ls 3)) (f_vi (f_nth ls 4)) M))]) C qX10_lineUpf (f_kc_cons (f_pl_ok rfl (fun ls st M h => h121 _ _ _ _ _ M h)) (f_kc_cons (f_pl_ok rfl (fun ls st M h => h59 _ _ _ _ _ M h)) f_kc_nil)) 92 35 h
set_option maxRecDepth 20000 in
theorem BX10_lineUp_121 {sh : Nat → Nat × Nat} {t : Nat} {rm : Nat × Nat × Nat} {cs : Nat × Nat} {R : f_Rt} {k147 : Nat → Nat → Int → e_M → Prop} {a0 : Nat} {a1 : Nat} {x2 : Int} {a3 : Nat} {x4 : Int} {M : e_M} (C : f_Hy sh t yX10_lineUp rm cs 4 (lX10_lineUp) R) (h147 : ∀ (a0 : Nat) (a1 : Nat) (x2 : Int) (M : e_M), k147 a0 a1 x2 M → f_E sh t YX10_lineUp rm cs (f_Q sh t R) 147 [.inr (.inr (.inl (10, 15, a0))), .inr (.inr (.inl (32, 150, a1))), .inl x2, .inr (.inr (.inr ())), .inr (.inr (.inr ()))] [] M) (h : VX10_lineUp_121 k147 (fun M => R none M) a0 a1 x2 a3 x4 M) : f_E sh t YX10_lineUp rm cs (f_Q sh t R) 121 [.inr (.inr (.inl (10, 15, a0))), .inr (.inr (.inl (32, 150, a1))), .inl x2, .inr (.inr (.inl (2, 19, a3))), .inl x4] [] M :=
  f_go (KC := f_kc [(147, f_pl [(3, 10, 15), (3, 32, 150), (1, 0, 0), (0, 0, 0), (0, 0, 0)] [] (fun ls st M => k147 (f_va (f_nth ls 0)) (f_va (f_nth ls 1)) (f_vi (f_nth ls 2)) M))]) C qX10_lineUpf (f_kc_cons (f_pl_ok rfl (fun ls st M h => h147 _ _ _ M h)) f_kc_nil) 92 70 h
set_option maxRecDepth 20000 in
theorem BX10_lineUp_147 {sh : Nat → Nat × Nat} {t : Nat} {rm : Nat × Nat × Nat} {cs : Nat × Nat} {R : f_Rt} {k2 : Nat → Nat → Int → e_M → Prop} {a0 : Nat} {a1 : Nat} {x2 : Int} {M : e_M} (C : f_Hy sh t yX10_lineUp rm cs 4 (lX10_lineUp) R) (h2 : ∀ (a0 : Nat) (a1 : Nat) (x2 : Int) (M : e_M), k2 a0 a1 x2 M → f_E sh t YX10_lineUp rm cs (f_Q sh t R) 2 [.inr (.inr (.inl (10, 15, a0))), .inr (.inr (.inl (32, 150, a1))), .inl x2, .inr (.inr (.inr ())), .inr (.inr (.inr ()))] [] M) (h : VX10_lineUp_147 k2 (fun M => R none M) a0 a1 x2 M) : f_E sh t YX10_lineUp rm cs (f_Q sh t R) 147 [.inr (.inr (.inl (10, 15, a0))), .inr (.inr (.inl (32, 150, a1))), .inl x2, .inr (.inr (.inr ())), .inr (.inr (.inr ()))] [] M :=
  f_go (KC := f_kc [(2, f_pl [(3, 10, 15), (3, 32, 150), (1, 0, 0), (0, 0, 0), (0, 0, 0)] [] (fun ls st M => k2 (f_va (f_nth ls 0)) (f_va (f_nth ls 1)) (f_vi (f_nth ls 2)) M))]) C qX10_lineUpf (f_kc_cons (f_pl_ok rfl (fun ls st M h => h2 _ _ _ M h)) f_kc_nil) 92 87 h
set_option maxRecDepth 20000 in
theorem BX10_lineUp {sh : Nat → Nat × Nat} {t : Nat} {rm : Nat × Nat × Nat} {cs : Nat × Nat} {R : f_Rt} {k2 : Nat → Nat → Int → e_M → Prop} {a0 : Nat} {a1 : Nat} {M : e_M} (C : f_Hy sh t yX10_lineUp rm cs 4 (lX10_lineUp) R) (h2 : ∀ (a0 : Nat) (a1 : Nat) (x2 : Int) (M : e_M), k2 a0 a1 x2 M → f_E sh t YX10_lineUp rm cs (f_Q sh t R) 2 [.inr (.inr (.inl (10, 15, a0))), .inr (.inr (.inl (32, 150, a1))), .inl x2, .inr (.inr (.inr ())), .inr (.inr (.inr ()))] [] M) (h : VX10_lineUp k2 (fun M => R none M) a0 a1 M) : f_E sh t YX10_lineUp rm cs (f_Q sh t R) 0 [.inr (.inr (.inl (10, 15, a0))), .inr (.inr (.inl (32, 150, a1))), .inr (.inr (.inr ())), .inr (.inr (.inr ())), .inr (.inr (.inr ()))] [] M :=
  f_go (KC := f_kc [(2, f_pl [(3, 10, 15), (3, 32, 150), (1, 0, 0), (0, 0, 0), (0, 0, 0)] [] (fun ls st M => k2 (f_va (f_nth ls 0)) (f_va (f_nth ls 1)) (f_vi (f_nth ls 2)) M))]) C qX10_lineUpf (f_kc_cons (f_pl_ok rfl (fun ls st M h => h2 _ _ _ M h)) f_kc_nil) 92 0 h
def WX10_lineUp_147 (H2 : Nat → Nat → Int → e_M → Prop) (Q : e_M → Prop) (a0 : Nat) (a1 : Nat) (x2 : Int) (M : e_M) : Prop :=
  VX10_lineUp_147 H2 Q a0 a1 x2 M
def WX10_lineUp_121 (H2 : Nat → Nat → Int → e_M → Prop) (Q : e_M → Prop) (a0 : Nat) (a1 : Nat) (x2 : Int) (a3 : Nat) (x4 : Int) (M : e_M) : Prop :=
  VX10_lineUp_121 (WX10_lineUp_147 H2 Q) Q a0 a1 x2 a3 x4 M
def WX10_lineUp_59 (H2 : Nat → Nat → Int → e_M → Prop) (Q : e_M → Prop) : Nat → Nat → Nat → Int → Nat → Int → e_M → Prop
  | 0, _, _, _, _, _, _ => False
  | n + 1, a0, a1, x2, a3, x4, M =>
    VX10_lineUp_59 (WX10_lineUp_121 H2 Q) (WX10_lineUp_59 H2 Q n) Q a0 a1 x2 a3 x4 M
def WX10_lineUp_2 (Q : e_M → Prop) : Nat → Nat → Nat → Int → e_M → Prop
  | 0, _, _, _, _ => False
  | n + 1, a0, a1, x2, M =>
    VX10_lineUp_2 (fun a0 a1 x2 a3 x4 M => ∃ j, WX10_lineUp_59 (WX10_lineUp_2 Q n) Q j a0 a1 x2 a3 x4 M) (WX10_lineUp_147 (WX10_lineUp_2 Q n) Q) Q a0 a1 x2 M
def WX10_lineUp (a0 : Nat) (a1 : Nat) (M : e_M) (Q : e_M → Prop) : Prop :=
  VX10_lineUp (fun a0 a1 x2 M => ∃ j, WX10_lineUp_2 Q j a0 a1 x2 M) Q a0 a1 M
theorem PX10_lineUp_147 {sh : Nat → Nat × Nat} {t : Nat} {rm : Nat × Nat × Nat} {cs : Nat × Nat} {R : f_Rt} {H2 : Nat → Nat → Int → e_M → Prop} {a0 : Nat} {a1 : Nat} {x2 : Int} {M : e_M} (C : f_Hy sh t yX10_lineUp rm cs 4 (lX10_lineUp) R) (g2 : ∀ (a0 : Nat) (a1 : Nat) (x2 : Int) (M : e_M), H2 a0 a1 x2 M → f_E sh t YX10_lineUp rm cs (f_Q sh t R) 2 [.inr (.inr (.inl (10, 15, a0))), .inr (.inr (.inl (32, 150, a1))), .inl x2, .inr (.inr (.inr ())), .inr (.inr (.inr ()))] [] M) (h : WX10_lineUp_147 H2 (fun M => R none M) a0 a1 x2 M) : f_E sh t YX10_lineUp rm cs (f_Q sh t R) 147 [.inr (.inr (.inl (10, 15, a0))), .inr (.inr (.inl (32, 150, a1))), .inl x2, .inr (.inr (.inr ())), .inr (.inr (.inr ()))] [] M :=
  BX10_lineUp_147 C g2 h
theorem PX10_lineUp_121 {sh : Nat → Nat × Nat} {t : Nat} {rm : Nat × Nat × Nat} {cs : Nat × Nat} {R : f_Rt} {H2 : Nat → Nat → Int → e_M → Prop} {a0 : Nat} {a1 : Nat} {x2 : Int} {a3 : Nat} {x4 : Int} {M : e_M} (C : f_Hy sh t yX10_lineUp rm cs 4 (lX10_lineUp) R) (g2 : ∀ (a0 : Nat) (a1 : Nat) (x2 : Int) (M : e_M), H2 a0 a1 x2 M → f_E sh t YX10_lineUp rm cs (f_Q sh t R) 2 [.inr (.inr (.inl (10, 15, a0))), .inr (.inr (.inl (32, 150, a1))), .inl x2, .inr (.inr (.inr ())), .inr (.inr (.inr ()))] [] M) (h : WX10_lineUp_121 H2 (fun M => R none M) a0 a1 x2 a3 x4 M) : f_E sh t YX10_lineUp rm cs (f_Q sh t R) 121 [.inr (.inr (.inl (10, 15, a0))), .inr (.inr (.inl (32, 150, a1))), .inl x2, .inr (.inr (.inl (2, 19, a3))), .inl x4] [] M :=
  BX10_lineUp_121 C (fun a0 a1 x2 M h => PX10_lineUp_147 C g2 h) h
theorem PX10_lineUp_59 {sh : Nat → Nat × Nat} {t : Nat} {rm : Nat × Nat × Nat} {cs : Nat × Nat} {R : f_Rt} {H2 : Nat → Nat → Int → e_M → Prop} (C : f_Hy sh t yX10_lineUp rm cs 4 (lX10_lineUp) R) (g2 : ∀ (a0 : Nat) (a1 : Nat) (x2 : Int) (M : e_M), H2 a0 a1 x2 M → f_E sh t YX10_lineUp rm cs (f_Q sh t R) 2 [.inr (.inr (.inl (10, 15, a0))), .inr (.inr (.inl (32, 150, a1))), .inl x2, .inr (.inr (.inr ())), .inr (.inr (.inr ()))] [] M) : ∀ (n : Nat) (a0 : Nat) (a1 : Nat) (x2 : Int) (a3 : Nat) (x4 : Int) (M : e_M), WX10_lineUp_59 H2 (fun M => R none M) n a0 a1 x2 a3 x4 M → f_E sh t YX10_lineUp rm cs (f_Q sh t R) 59 [.inr (.inr (.inl (10, 15, a0))), .inr (.inr (.inl (32, 150, a1))), .inl x2, .inr (.inr (.inl (2, 19, a3))), .inl x4] [] M := by
  intro n
  induction n with
  | zero => intro a0 a1 x2 a3 x4 M h; exact h.elim
  | succ n ih => intro a0 a1 x2 a3 x4 M h; exact BX10_lineUp_59 C (fun a0 a1 x2 a3 x4 M h => PX10_lineUp_121 C g2 h) ih h
theorem PX10_lineUp_2 {sh : Nat → Nat × Nat} {t : Nat} {rm : Nat × Nat × Nat} {cs : Nat × Nat} {R : f_Rt} (C : f_Hy sh t yX10_lineUp rm cs 4 (lX10_lineUp) R) : ∀ (n : Nat) (a0 : Nat) (a1 : Nat) (x2 : Int) (M : e_M), WX10_lineUp_2 (fun M => R none M) n a0 a1 x2 M → f_E sh t YX10_lineUp rm cs (f_Q sh t R) 2 [.inr (.inr (.inl (10, 15, a0))), .inr (.inr (.inl (32, 150, a1))), .inl x2, .inr (.inr (.inr ())), .inr (.inr (.inr ()))] [] M := by
  intro n
  induction n with
  | zero => intro a0 a1 x2 M h; exact h.elim
  | succ n ih => intro a0 a1 x2 M h; exact BX10_lineUp_2 C (fun a0 a1 x2 a3 x4 M ⟨j, h⟩ => PX10_lineUp_59 C ih j _ _ _ _ _ _ h) (fun a0 a1 x2 M h => PX10_lineUp_147 C ih h) h
theorem PX10_lineUp {sh : Nat → Nat × Nat} {t : Nat} {rm : Nat × Nat × Nat} {cs : Nat × Nat} {R : f_Rt} {a0 : Nat} {a1 : Nat} {M : e_M} (C : f_Hy sh t yX10_lineUp rm cs 4 (lX10_lineUp) R) (h : WX10_lineUp a0 a1 M (fun M => R none M)) : f_E sh t YX10_lineUp rm cs (f_Q sh t R) 0 [.inr (.inr (.inl (10, 15, a0))), .inr (.inr (.inl (32, 150, a1))), .inr (.inr (.inr ())), .inr (.inr (.inr ())), .inr (.inr (.inr ()))] [] M :=
  BX10_lineUp C (fun a0 a1 x2 M ⟨j, h⟩ => PX10_lineUp_2 C j _ _ _ _ h) h
def wX10_lineUp : f_Wt := f_wm [(3, 10, 15), (3, 32, 150)] (fun ar M R => WX10_lineUp (f_va (f_nth ar 0)) (f_va (f_nth ar 1)) M (fun M => R none M))
theorem TX10_lineUp {sh : Nat → Nat × Nat} {t : Nat} : f_Mt sh t YX10_lineUp 4 (wX10_lineUp) :=
  f_Mt_of (k := 3) (Nat.le_of_ble_eq_true rfl) rfl rfl (fun ar M R rm cs h1 h2 h3 hX h => PX10_lineUp ⟨Nat.le_of_ble_eq_true rfl, h1, h2, h3, trivial, hX⟩ h)
def VX10_settle (Q : e_M → Prop) (a0 : Nat) (x1 : Int) (x2 : Int) (M : e_M) : Prop :=
  ((0 ≤ x1 ∧ x1 < 150) ∧ ((0 ≤ (M (a0 + 27) (x1.toNat)) ∧ (M (a0 + 27) (x1.toNat)) < 150) ∧ (∀ M1 : e_M, M1 = e_up M (a0 + 25) ((M (a0 + 27) (x1.toNat)).toNat) x2 → ((¬ x2 = 0 → (Q M1)) ∧ (x2 = 0 → (∀ M2 : e_M, M2 = e_up M1 a0 10 (e_w32 ((M1 a0 10) + 1)) → (Q M2)))))))
def yX10_settle (i : Nat) : e_Y := x_get YX10_settle [] i
def pX10_settlef : List x_I := [(0, 4, 1, 0, 0, 0, []), (1, 25, 10, 5, 4, 0, [(0, 20, 150), (0, 1, 25)]), (4, 4, 1, 0, 0, 0, []), (5, 25, 10, 7, 4, 0, [(0, 20, 150), (0, 1, 27)]), (8, 2, 1, 1, 0, 0, []), (9, 27, 0, 0, 0, 0, []), (10, 2, 1, 2, 0, 0, []), (11, 28, 0, 0, 0, 0, []), (12, 2, 1, 2, 0, 0, []), (13, 17, 26, 1, 17, 0, []), (16, 4, 1, 0, 0, 0, []), (17, 20, 0, 0, 0, 0, []), (18, 25, 10, 10, 0, 0, []), (21, 0, 1, 0, 0, 1, []), (22, 9, 0, 0, 0, 0, []), (23, 26, 10, 10, 0, 0, []), (26, 44, 0, 0, 0, 0, [])]
set_option maxRecDepth 20000 in
theorem qX10_settlef : f_all yX10_settle YX10_settle pX10_settlef :=
  ⟨f_aload_n (n := 0) (e_dx DX10_settle_0 0 rfl) rfl,
  f_getA (e_dx DX10_settle_0 1 rfl) fX10_45 rfl (by decide) (Nat.le_of_ble_eq_true rfl) rfl (by decide),
  f_aload_n (n := 0) (e_dx DX10_settle_0 2 rfl) rfl,
  f_getA (e_dx DX10_settle_0 3 rfl) fX10_51 rfl (by decide) (Nat.le_of_ble_eq_true rfl) rfl (by decide),
  f_iload_n (n := 1) (e_dx DX10_settle_0 4 rfl) rfl,
  f_iaload (e_dx DX10_settle_0 5 rfl),
  f_iload_n (n := 2) (e_dx DX10_settle_0 6 rfl) rfl,
  f_iastore (e_dx DX10_settle_0 7 rfl),
  f_iload_n (n := 2) (e_dx DX10_settle_0 8 rfl) rfl,
  f_if_ne (e_dx DX10_settle_0 9 rfl) rfl,
  f_aload_n (n := 0) (e_dx DX10_settle_0 10 rfl) rfl,
  f_g20 (e_dx DX10_settle_0 11 rfl),
  f_getf (e_dx DX10_settle_0 12 rfl) fX10_62 rfl (by decide) (by decide) (by decide),
  f_iconst (e_dx DX10_settle_0 13 rfl) ⟨by decide, by decide⟩,
  f_iadd (e_dx DX10_settle_0 14 rfl),
  f_putn (e_dx DX10_settle_0 15 rfl) fX10_62 (fun q hq => by cases hq; rfl) rfl (Or.inl rfl) (by decide),
  ⟨(e_dx DX10_settle_0 16 rfl), rfl⟩, trivial⟩
def lX10_settle : List (Nat × f_Wt) := []
set_option maxRecDepth 20000 in
theorem BX10_settle {sh : Nat → Nat × Nat} {t : Nat} {rm : Nat × Nat × Nat} {cs : Nat × Nat} {R : f_Rt} {a0 : Nat} {x1 : Int} {x2 : Int} {M : e_M} (C : f_Hy sh t yX10_settle rm cs 4 (lX10_settle) R) (h : VX10_settle (fun M => R none M) a0 x1 x2 M) : f_E sh t YX10_settle rm cs (f_Q sh t R) 0 [.inr (.inr (.inl (10, 15, a0))), .inl x1, .inl x2] [] M :=
  f_go (KC := f_kc []) C qX10_settlef f_kc_nil 19 0 h
def WX10_settle (a0 : Nat) (x1 : Int) (x2 : Int) (M : e_M) (Q : e_M → Prop) : Prop :=
  VX10_settle Q a0 x1 x2 M
theorem PX10_settle {sh : Nat → Nat × Nat} {t : Nat} {rm : Nat × Nat × Nat} {cs : Nat × Nat} {R : f_Rt} {a0 : Nat} {x1 : Int} {x2 : Int} {M : e_M} (C : f_Hy sh t yX10_settle rm cs 4 (lX10_settle) R) (h : WX10_settle a0 x1 x2 M (fun M => R none M)) : f_E sh t YX10_settle rm cs (f_Q sh t R) 0 [.inr (.inr (.inl (10, 15, a0))), .inl x1, .inl x2] [] M :=
  BX10_settle C h
def wX10_settle : f_Wt := f_wm [(3, 10, 15), (1, 0, 0), (1, 0, 0)] (fun ar M R => WX10_settle (f_va (f_nth ar 0)) (f_vi (f_nth ar 1)) (f_vi (f_nth ar 2)) M (fun M => R none M))
theorem TX10_settle {sh : Nat → Nat × Nat} {t : Nat} : f_Mt sh t YX10_settle 4 (wX10_settle) :=
  f_Mt_of (k := 0) (Nat.le_of_ble_eq_true rfl) rfl rfl (fun ar M R rm cs h1 h2 h3 hX h => PX10_settle ⟨Nat.le_of_ble_eq_true rfl, h1, h2, h3, trivial, hX⟩ h)
def VX10_howMany_4 (c_X10_isThere : Nat → Int → Int → e_M → (Int → Prop) → Prop) (k29 : Nat → Int → Int → Int → Int → Prop) (Q : Int → Prop) (a0 : Nat) (x1 : Int) (x2 : Int) (x3 : Int) (M : e_M) : Prop :=
  ((0 ≤ x1 ∧ x1 < 8) ∧ (((M (a0 + 24) (x1.toNat)) ≤ x3 → (Q x2)) ∧ (x3 < (M (a0 + 24) (x1.toNat)) → (c_X10_isThere a0 x1 x3 M (fun r1 => ((r1 = 0 → (k29 a0 x1 x3 0 x2)) ∧ (¬ r1 = 0 → (k29 a0 x1 x3 1 x2))))))))
def VX10_howMany_29 (c_X10_isThere : Nat → Int → Int → e_M → (Int → Prop) → Prop) (k4 : Nat → Int → Int → Int → Prop) (Q : Int → Prop) (a0 : Nat) (x1 : Int) (x3 : Int) (xs1 : Int) (xs0 : Int) (M : e_M) : Prop :=
  (k4 a0 x1 (e_w32 (xs0 + xs1)) (e_w32 (x3 + 1)))
def VX10_howMany (c_X10_isThere : Nat → Int → Int → e_M → (Int → Prop) → Prop) (k4 : Nat → Int → Int → Int → Prop) (Q : Int → Prop) (a0 : Nat) (x1 : Int) (M : e_M) : Prop :=
  (k4 a0 x1 0 0)
def yX10_howMany (i : Nat) : e_Y := x_get YX10_howMany [YX10_isThere] i
def pX10_howManyf : List x_I := [(0, 0, 1, 0, 0, 0, []), (1, 5, 1, 2, 0, 0, []), (2, 0, 1, 0, 0, 0, []), (3, 5, 1, 3, 0, 0, []), (4, 49, 0, 0, 0, 0, []), (4, 2, 1, 3, 0, 0, []), (5, 4, 1, 0, 0, 0, []), (6, 25, 10, 4, 4, 0, [(0, 20, 8), (0, 1, 24)]), (9, 2, 1, 1, 0, 0, []), (10, 27, 0, 0, 0, 0, []), (11, 18, 37, 3, 26, 0, []), (14, 2, 1, 2, 0, 0, []), (15, 4, 1, 0, 0, 0, []), (16, 2, 1, 1, 0, 0, []), (17, 2, 1, 3, 0, 0, []), (18, 40, 0, 3, 12, 0, []), (21, 17, 28, 0, 20, 0, []), (24, 0, 1, 0, 0, 1, []), (25, 19, 29, 0, 21, 0, []), (28, 0, 1, 0, 0, 0, []), (29, 49, 0, 0, 0, 0, []), (29, 9, 0, 0, 0, 0, []), (30, 5, 1, 2, 0, 0, []), (31, 8, 0, 3, 0, 1, []), (34, 19, 4, 0, 5, 0, []), (37, 2, 1, 2, 0, 0, []), (38, 41, 0, 0, 0, 0, [])]
set_option maxRecDepth 20000 in
theorem qX10_howManyf : f_all yX10_howMany YX10_howMany pX10_howManyf :=
  ⟨f_iconst (e_dx DX10_howMany_0 0 rfl) ⟨by decide, by decide⟩,
  f_istore_n (n := 2) (e_dx DX10_howMany_0 1 rfl) rfl (by decide),
  f_iconst (e_dx DX10_howMany_0 2 rfl) ⟨by decide, by decide⟩,
  f_istore_n (n := 3) (e_dx DX10_howMany_0 3 rfl) rfl (by decide),
  trivial,
  f_iload_n (n := 3) (e_dx DX10_howMany_0 4 rfl) rfl,
  f_aload_n (n := 0) (e_dx DX10_howMany_0 5 rfl) rfl,
  f_getA (e_dx DX10_howMany_0 6 rfl) fX10_42 rfl (by decide) (Nat.le_of_ble_eq_true rfl) rfl (by decide),
  f_iload_n (n := 1) (e_dx DX10_howMany_0 7 rfl) rfl,
  f_iaload (e_dx DX10_howMany_0 8 rfl),
  f_icmp_ge (e_dx DX10_howMany_0 9 rfl) rfl,
  f_iload_n (n := 2) (e_dx DX10_howMany_0 10 rfl) rfl,
  f_aload_n (n := 0) (e_dx DX10_howMany_0 11 rfl) rfl,
  f_iload_n (n := 1) (e_dx DX10_howMany_0 12 rfl) rfl,
  f_iload_n (n := 3) (e_dx DX10_howMany_0 13 rfl) rfl,
  x_callV (e_dx DX10_howMany_0 14 rfl) mwX10_isThere vwX10_isThere cX10_158 rfl,
  f_if_eq (e_dx DX10_howMany_0 15 rfl) rfl,
  f_iconst (e_dx DX10_howMany_0 16 rfl) ⟨by decide, by decide⟩,
  f_g19 (e_dx DX10_howMany_0 17 rfl) rfl,
  f_iconst (e_dx DX10_howMany_0 18 rfl) ⟨by decide, by decide⟩,
  trivial,
  f_iadd (e_dx DX10_howMany_0 19 rfl),
  f_istore_n (n := 2) (e_dx DX10_howMany_0 20 rfl) rfl (by decide),
  f_g8 (e_dx DX10_howMany_0 21 rfl) ⟨by decide, by decide⟩,
  f_g19 (e_dx DX10_howMany_0 22 rfl) rfl,
  f_iload_n (n := 2) (e_dx DX10_howMany_0 23 rfl) rfl,
  ⟨(e_dx DX10_howMany_0 24 rfl), rfl⟩, trivial⟩
def lX10_howMany (c_X10_isThere : Nat → Int → Int → e_M → (Int → Prop) → Prop) : List (Nat × f_Wt) := [(0, f_wm [(3, 10, 15), (1, 0, 0), (1, 0, 0)] (fun ar M R => c_X10_isThere (f_va (f_nth ar 0)) (f_vi (f_nth ar 1)) (f_vi (f_nth ar 2)) M (fun r => R (some (.inl r)) M)))]
set_option maxRecDepth 20000 in
theorem BX10_howMany_4 {sh : Nat → Nat × Nat} {t : Nat} {rm : Nat × Nat × Nat} {cs : Nat × Nat} {R : f_Rt} {c_X10_isThere : Nat → Int → Int → e_M → (Int → Prop) → Prop} {k29 : Nat → Int → Int → Int → Int → Prop} {a0 : Nat} {x1 : Int} {x2 : Int} {x3 : Int} {M : e_M} (C : f_Hy sh t yX10_howMany rm cs 6 (lX10_howMany c_X10_isThere) R) (h29 : ∀ (a0 : Nat) (x1 : Int) (x3 : Int) (xs1 : Int) (xs0 : Int), k29 a0 x1 x3 xs1 xs0 → f_E sh t YX10_howMany rm cs (f_Q sh t R) 29 [.inr (.inr (.inl (10, 15, a0))), .inl x1, .inr (.inr (.inr ())), .inl x3] [.inl xs1, .inl xs0] M) (h : VX10_howMany_4 c_X10_isThere k29 (fun r => R (some (.inl r)) M) a0 x1 x2 x3 M) : f_E sh t YX10_howMany rm cs (f_Q sh t R) 4 [.inr (.inr (.inl (10, 15, a0))), .inl x1, .inl x2, .inl x3] [] M := by
  rw [f_kk5 M k29] at h
  exact f_go (KC := f_kc [(29, f_pl [(3, 10, 15), (1, 0, 0), (0, 0, 0), (1, 0, 0)] [(1, 0, 0), (1, 0, 0)] (fun ls st M2 => M2 = M ∧ (k29 (f_va (f_nth ls 0)) (f_vi (f_nth ls 1)) (f_vi (f_nth ls 3)) (f_vi (f_nth st 0)) (f_vi (f_nth st 1)))))]) C qX10_howManyf (f_kc_cons (f_pl_ok rfl (fun ls st M2 ⟨e, hh⟩ => by subst e; exact h29 _ _ _ _ _ hh)) f_kc_nil) 29 5 h
set_option maxRecDepth 20000 in
theorem BX10_howMany_29 {sh : Nat → Nat × Nat} {t : Nat} {rm : Nat × Nat × Nat} {cs : Nat × Nat} {R : f_Rt} {c_X10_isThere : Nat → Int → Int → e_M → (Int → Prop) → Prop} {k4 : Nat → Int → Int → Int → Prop} {a0 : Nat} {x1 : Int} {x3 : Int} {xs1 : Int} {xs0 : Int} {M : e_M} (C : f_Hy sh t yX10_howMany rm cs 6 (lX10_howMany c_X10_isThere) R) (h4 : ∀ (a0 : Nat) (x1 : Int) (x2 : Int) (x3 : Int), k4 a0 x1 x2 x3 → f_E sh t YX10_howMany rm cs (f_Q sh t R) 4 [.inr (.inr (.inl (10, 15, a0))), .inl x1, .inl x2, .inl x3] [] M) (h : VX10_howMany_29 c_X10_isThere k4 (fun r => R (some (.inl r)) M) a0 x1 x3 xs1 xs0 M) : f_E sh t YX10_howMany rm cs (f_Q sh t R) 29 [.inr (.inr (.inl (10, 15, a0))), .inl x1, .inr (.inr (.inr ())), .inl x3] [.inl xs1, .inl xs0] M := by
  rw [f_kk4 M k4] at h
  exact f_go (KC := f_kc [(4, f_pl [(3, 10, 15), (1, 0, 0), (1, 0, 0), (1, 0, 0)] [] (fun ls st M2 => M2 = M ∧ (k4 (f_va (f_nth ls 0)) (f_vi (f_nth ls 1)) (f_vi (f_nth ls 2)) (f_vi (f_nth ls 3)))))]) C qX10_howManyf (f_kc_cons (f_pl_ok rfl (fun ls st M2 ⟨e, hh⟩ => by subst e; exact h4 _ _ _ _ hh)) f_kc_nil) 29 21 h
set_option maxRecDepth 20000 in
theorem BX10_howMany {sh : Nat → Nat × Nat} {t : Nat} {rm : Nat × Nat × Nat} {cs : Nat × Nat} {R : f_Rt} {c_X10_isThere : Nat → Int → Int → e_M → (Int → Prop) → Prop} {k4 : Nat → Int → Int → Int → Prop} {a0 : Nat} {x1 : Int} {M : e_M} (C : f_Hy sh t yX10_howMany rm cs 6 (lX10_howMany c_X10_isThere) R) (h4 : ∀ (a0 : Nat) (x1 : Int) (x2 : Int) (x3 : Int), k4 a0 x1 x2 x3 → f_E sh t YX10_howMany rm cs (f_Q sh t R) 4 [.inr (.inr (.inl (10, 15, a0))), .inl x1, .inl x2, .inl x3] [] M) (h : VX10_howMany c_X10_isThere k4 (fun r => R (some (.inl r)) M) a0 x1 M) : f_E sh t YX10_howMany rm cs (f_Q sh t R) 0 [.inr (.inr (.inl (10, 15, a0))), .inl x1, .inr (.inr (.inr ())), .inr (.inr (.inr ()))] [] M := by
  rw [f_kk4 M k4] at h
  exact f_go (KC := f_kc [(4, f_pl [(3, 10, 15), (1, 0, 0), (1, 0, 0), (1, 0, 0)] [] (fun ls st M2 => M2 = M ∧ (k4 (f_va (f_nth ls 0)) (f_vi (f_nth ls 1)) (f_vi (f_nth ls 2)) (f_vi (f_nth ls 3)))))]) C qX10_howManyf (f_kc_cons (f_pl_ok rfl (fun ls st M2 ⟨e, hh⟩ => by subst e; exact h4 _ _ _ _ hh)) f_kc_nil) 29 0 h
def WX10_howMany_29 (M : e_M) (H4 : Nat → Int → Int → Int → Prop) (Q : Int → Prop) (a0 : Nat) (x1 : Int) (x3 : Int) (xs1 : Int) (xs0 : Int) : Prop :=
  VX10_howMany_29 WX10_isThere H4 Q a0 x1 x3 xs1 xs0 M
def WX10_howMany_4 (M : e_M) (Q : Int → Prop) : Nat → Nat → Int → Int → Int → Prop
  | 0, _, _, _, _ => False
  | n + 1, a0, x1, x2, x3 =>
    VX10_howMany_4 WX10_isThere (WX10_howMany_29 M (WX10_howMany_4 M Q n) Q) Q a0 x1 x2 x3 M
def WX10_howMany (a0 : Nat) (x1 : Int) (M : e_M) (Q : Int → Prop) : Prop :=
  VX10_howMany WX10_isThere (fun a0 x1 x2 x3 => ∃ j, WX10_howMany_4 M Q j a0 x1 x2 x3) Q a0 x1 M
theorem PX10_howMany_29 {sh : Nat → Nat × Nat} {t : Nat} {rm : Nat × Nat × Nat} {cs : Nat × Nat} {R : f_Rt} {H4 : Nat → Int → Int → Int → Prop} {a0 : Nat} {x1 : Int} {x3 : Int} {xs1 : Int} {xs0 : Int} {M : e_M} (C : f_Hy sh t yX10_howMany rm cs 6 (lX10_howMany WX10_isThere) R) (g4 : ∀ (a0 : Nat) (x1 : Int) (x2 : Int) (x3 : Int), H4 a0 x1 x2 x3 → f_E sh t YX10_howMany rm cs (f_Q sh t R) 4 [.inr (.inr (.inl (10, 15, a0))), .inl x1, .inl x2, .inl x3] [] M) (h : WX10_howMany_29 M H4 (fun r => R (some (.inl r)) M) a0 x1 x3 xs1 xs0) : f_E sh t YX10_howMany rm cs (f_Q sh t R) 29 [.inr (.inr (.inl (10, 15, a0))), .inl x1, .inr (.inr (.inr ())), .inl x3] [.inl xs1, .inl xs0] M :=
  BX10_howMany_29 C g4 h
theorem PX10_howMany_4 {sh : Nat → Nat × Nat} {t : Nat} {rm : Nat × Nat × Nat} {cs : Nat × Nat} {R : f_Rt} {M : e_M} (C : f_Hy sh t yX10_howMany rm cs 6 (lX10_howMany WX10_isThere) R) : ∀ (n : Nat) (a0 : Nat) (x1 : Int) (x2 : Int) (x3 : Int), WX10_howMany_4 M (fun r => R (some (.inl r)) M) n a0 x1 x2 x3 → f_E sh t YX10_howMany rm cs (f_Q sh t R) 4 [.inr (.inr (.inl (10, 15, a0))), .inl x1, .inl x2, .inl x3] [] M := by
  intro n
  induction n with
  | zero => intro a0 x1 x2 x3 h; exact h.elim
  | succ n ih => intro a0 x1 x2 x3 h; exact BX10_howMany_4 C (fun a0 x1 x3 xs1 xs0 h => PX10_howMany_29 C ih h) h
theorem PX10_howMany {sh : Nat → Nat × Nat} {t : Nat} {rm : Nat × Nat × Nat} {cs : Nat × Nat} {R : f_Rt} {a0 : Nat} {x1 : Int} {M : e_M} (C : f_Hy sh t yX10_howMany rm cs 6 (lX10_howMany WX10_isThere) R) (h : WX10_howMany a0 x1 M (fun r => R (some (.inl r)) M)) : f_E sh t YX10_howMany rm cs (f_Q sh t R) 0 [.inr (.inr (.inl (10, 15, a0))), .inl x1, .inr (.inr (.inr ())), .inr (.inr (.inr ()))] [] M :=
  BX10_howMany C (fun a0 x1 x2 x3 ⟨j, h⟩ => PX10_howMany_4 C j _ _ _ _ h) h
def wX10_howMany : f_Wt := f_wm [(3, 10, 15), (1, 0, 0)] (fun ar M R => WX10_howMany (f_va (f_nth ar 0)) (f_vi (f_nth ar 1)) M (fun r => R (some (.inl r)) M))
theorem TX10_howMany {sh : Nat → Nat × Nat} {t : Nat} : f_Mt sh t YX10_howMany 6 (wX10_howMany) :=
  f_Mt_of (k := 2) (Nat.le_of_ble_eq_true rfl) rfl rfl (fun ar M R rm cs h1 h2 h3 hX h => PX10_howMany ⟨Nat.le_of_ble_eq_true rfl, h1, h2, h3, ⟨(f_Mt.up (Nat.le_of_ble_eq_true rfl) TX10_isThere), trivial⟩, hX⟩ h)
def VX10_numberOf_21 (c_X10_isThere : Nat → Int → Int → e_M → (Int → Prop) → Prop) (k53 : Nat → Int → Int → Int → Int → Prop) (Q : Int → Prop) (a0 : Nat) (x1 : Int) (x2 : Int) (x3 : Int) (x4 : Int) (M : e_M) : Prop :=
  ((0 ≤ x1 ∧ x1 < 8) ∧ (((M (a0 + 24) (x1.toNat)) ≤ x4 → (Q (-1))) ∧ (x4 < (M (a0 + 24) (x1.toNat)) → (c_X10_isThere a0 x1 x4 M (fun r1 => ((r1 = 0 → (k53 a0 x1 x2 x3 x4)) ∧ (¬ r1 = 0 → ((¬ x3 = x2 → (k53 a0 x1 x2 (e_w32 (x3 + 1)) x4)) ∧ (x3 = x2 → (Q x4))))))))))
def VX10_numberOf_53 (c_X10_isThere : Nat → Int → Int → e_M → (Int → Prop) → Prop) (k21 : Nat → Int → Int → Int → Int → Prop) (Q : Int → Prop) (a0 : Nat) (x1 : Int) (x2 : Int) (x3 : Int) (x4 : Int) (M : e_M) : Prop :=
  (k21 a0 x1 x2 x3 (e_w32 (x4 + 1)))
def VX10_numberOf (c_X10_isThere : Nat → Int → Int → e_M → (Int → Prop) → Prop) (k21 : Nat → Int → Int → Int → Int → Prop) (Q : Int → Prop) (a0 : Nat) (x1 : Int) (x2 : Int) (M : e_M) : Prop :=
  ((x1 < 0 → (Q (-1))) ∧ (0 ≤ x1 → ((7 ≤ x1 → (Q (-1))) ∧ (x1 < 7 → ((0 ≤ x2 → (k21 a0 x1 x2 0 0)) ∧ (x2 < 0 → (Q (-1))))))))
def yX10_numberOf (i : Nat) : e_Y := x_get YX10_numberOf [YX10_isThere] i
def pX10_numberOff : List x_I := [(0, 2, 1, 1, 0, 0, []), (1, 17, 14, 2, 8, 0, []), (4, 2, 1, 1, 0, 0, []), (5, 0, 2, 0, 0, 7, []), (7, 18, 14, 3, 8, 0, []), (10, 2, 1, 2, 0, 0, []), (11, 17, 16, 3, 10, 0, []), (14, 0, 1, 0, 0, (-1), []), (15, 41, 0, 0, 0, 0, []), (16, 0, 1, 0, 0, 0, []), (17, 5, 1, 3, 0, 0, []), (18, 0, 1, 0, 0, 0, []), (19, 5, 2, 4, 0, 0, []), (21, 49, 0, 0, 0, 0, []), (21, 2, 2, 4, 0, 0, []), (23, 4, 1, 0, 0, 0, []), (24, 25, 10, 4, 4, 0, [(0, 20, 8), (0, 1, 24)]), (27, 2, 1, 1, 0, 0, []), (28, 27, 0, 0, 0, 0, []), (29, 18, 59, 3, 35, 0, []), (32, 4, 1, 0, 0, 0, []), (33, 2, 1, 1, 0, 0, []), (34, 2, 2, 4, 0, 0, []), (36, 40, 0, 3, 12, 0, []), (39, 17, 53, 0, 32, 0, []), (42, 2, 1, 3, 0, 0, []), (43, 2, 1, 2, 0, 0, []), (44, 18, 50, 1, 31, 0, []), (47, 2, 2, 4, 0, 0, []), (49, 41, 0, 0, 0, 0, []), (50, 8, 0, 3, 0, 1, []), (53, 49, 0, 0, 0, 0, []), (53, 8, 0, 4, 0, 1, []), (56, 19, 21, 0, 14, 0, []), (59, 0, 1, 0, 0, (-1), []), (60, 41, 0, 0, 0, 0, [])]
set_option maxRecDepth 20000 in
theorem qX10_numberOff : f_all yX10_numberOf YX10_numberOf pX10_numberOff :=
  ⟨f_iload_n (n := 1) (e_dx DX10_numberOf_0 0 rfl) rfl,
  f_if_lt (e_dx DX10_numberOf_0 1 rfl) rfl,
  f_iload_n (n := 1) (e_dx DX10_numberOf_0 2 rfl) rfl,
  f_bipush (e_dx DX10_numberOf_0 3 rfl) ⟨by decide, by decide⟩,
  f_icmp_ge (e_dx DX10_numberOf_0 4 rfl) rfl,
  f_iload_n (n := 2) (e_dx DX10_numberOf_0 5 rfl) rfl,
  f_if_ge (e_dx DX10_numberOf_0 6 rfl) rfl,
  f_iconst (e_dx DX10_numberOf_0 7 rfl) ⟨by decide, by decide⟩,
  ⟨(e_dx DX10_numberOf_0 8 rfl), rfl⟩,
  f_iconst (e_dx DX10_numberOf_0 9 rfl) ⟨by decide, by decide⟩,
  f_istore_n (n := 3) (e_dx DX10_numberOf_0 10 rfl) rfl (by decide),
  f_iconst (e_dx DX10_numberOf_0 11 rfl) ⟨by decide, by decide⟩,
  f_istore (e_dx DX10_numberOf_0 12 rfl) (by decide),
  trivial,
  f_iload (e_dx DX10_numberOf_0 13 rfl),
  f_aload_n (n := 0) (e_dx DX10_numberOf_0 14 rfl) rfl,
  f_getA (e_dx DX10_numberOf_0 15 rfl) fX10_42 rfl (by decide) (Nat.le_of_ble_eq_true rfl) rfl (by decide),
  f_iload_n (n := 1) (e_dx DX10_numberOf_0 16 rfl) rfl,
  f_iaload (e_dx DX10_numberOf_0 17 rfl),
  f_icmp_ge (e_dx DX10_numberOf_0 18 rfl) rfl,
  f_aload_n (n := 0) (e_dx DX10_numberOf_0 19 rfl) rfl,
  f_iload_n (n := 1) (e_dx DX10_numberOf_0 20 rfl) rfl,
  f_iload (e_dx DX10_numberOf_0 21 rfl),
  x_callV (e_dx DX10_numberOf_0 22 rfl) mwX10_isThere vwX10_isThere cX10_158 rfl,
  f_if_eq (e_dx DX10_numberOf_0 23 rfl) rfl,
  f_iload_n (n := 3) (e_dx DX10_numberOf_0 24 rfl) rfl,
  f_iload_n (n := 2) (e_dx DX10_numberOf_0 25 rfl) rfl,
  f_icmp_ne (e_dx DX10_numberOf_0 26 rfl) rfl,
  f_iload (e_dx DX10_numberOf_0 27 rfl),
  ⟨(e_dx DX10_numberOf_0 28 rfl), rfl⟩,
  f_g8 (e_dx DX10_numberOf_0 29 rfl) ⟨by decide, by decide⟩,
  trivial,
  f_g8 (e_dx DX10_numberOf_0 30 rfl) ⟨by decide, by decide⟩,
  f_g19 (e_dx DX10_numberOf_0 31 rfl) rfl,
  f_iconst (e_dx DX10_numberOf_0 32 rfl) ⟨by decide, by decide⟩,
  ⟨(e_dx DX10_numberOf_0 33 rfl), rfl⟩, trivial⟩
def lX10_numberOf (c_X10_isThere : Nat → Int → Int → e_M → (Int → Prop) → Prop) : List (Nat × f_Wt) := [(0, f_wm [(3, 10, 15), (1, 0, 0), (1, 0, 0)] (fun ar M R => c_X10_isThere (f_va (f_nth ar 0)) (f_vi (f_nth ar 1)) (f_vi (f_nth ar 2)) M (fun r => R (some (.inl r)) M)))]
set_option maxRecDepth 20000 in
theorem BX10_numberOf_21 {sh : Nat → Nat × Nat} {t : Nat} {rm : Nat × Nat × Nat} {cs : Nat × Nat} {R : f_Rt} {c_X10_isThere : Nat → Int → Int → e_M → (Int → Prop) → Prop} {k53 : Nat → Int → Int → Int → Int → Prop} {a0 : Nat} {x1 : Int} {x2 : Int} {x3 : Int} {x4 : Int} {M : e_M} (C : f_Hy sh t yX10_numberOf rm cs 6 (lX10_numberOf c_X10_isThere) R) (h53 : ∀ (a0 : Nat) (x1 : Int) (x2 : Int) (x3 : Int) (x4 : Int), k53 a0 x1 x2 x3 x4 → f_E sh t YX10_numberOf rm cs (f_Q sh t R) 53 [.inr (.inr (.inl (10, 15, a0))), .inl x1, .inl x2, .inl x3, .inl x4] [] M) (h : VX10_numberOf_21 c_X10_isThere k53 (fun r => R (some (.inl r)) M) a0 x1 x2 x3 x4 M) : f_E sh t YX10_numberOf rm cs (f_Q sh t R) 21 [.inr (.inr (.inl (10, 15, a0))), .inl x1, .inl x2, .inl x3, .inl x4] [] M := by
  rw [f_kk5 M k53] at h
  exact f_go (KC := f_kc [(53, f_pl [(3, 10, 15), (1, 0, 0), (1, 0, 0), (1, 0, 0), (1, 0, 0)] [] (fun ls st M2 => M2 = M ∧ (k53 (f_va (f_nth ls 0)) (f_vi (f_nth ls 1)) (f_vi (f_nth ls 2)) (f_vi (f_nth ls 3)) (f_vi (f_nth ls 4)))))]) C qX10_numberOff (f_kc_cons (f_pl_ok rfl (fun ls st M2 ⟨e, hh⟩ => by subst e; exact h53 _ _ _ _ _ hh)) f_kc_nil) 38 14 h
set_option maxRecDepth 20000 in
theorem BX10_numberOf_53 {sh : Nat → Nat × Nat} {t : Nat} {rm : Nat × Nat × Nat} {cs : Nat × Nat} {R : f_Rt} {c_X10_isThere : Nat → Int → Int → e_M → (Int → Prop) → Prop} {k21 : Nat → Int → Int → Int → Int → Prop} {a0 : Nat} {x1 : Int} {x2 : Int} {x3 : Int} {x4 : Int} {M : e_M} (C : f_Hy sh t yX10_numberOf rm cs 6 (lX10_numberOf c_X10_isThere) R) (h21 : ∀ (a0 : Nat) (x1 : Int) (x2 : Int) (x3 : Int) (x4 : Int), k21 a0 x1 x2 x3 x4 → f_E sh t YX10_numberOf rm cs (f_Q sh t R) 21 [.inr (.inr (.inl (10, 15, a0))), .inl x1, .inl x2, .inl x3, .inl x4] [] M) (h : VX10_numberOf_53 c_X10_isThere k21 (fun r => R (some (.inl r)) M) a0 x1 x2 x3 x4 M) : f_E sh t YX10_numberOf rm cs (f_Q sh t R) 53 [.inr (.inr (.inl (10, 15, a0))), .inl x1, .inl x2, .inl x3, .inl x4] [] M := by
  rw [f_kk5 M k21] at h
  exact f_go (KC := f_kc [(21, f_pl [(3, 10, 15), (1, 0, 0), (1, 0, 0), (1, 0, 0), (1, 0, 0)] [] (fun ls st M2 => M2 = M ∧ (k21 (f_va (f_nth ls 0)) (f_vi (f_nth ls 1)) (f_vi (f_nth ls 2)) (f_vi (f_nth ls 3)) (f_vi (f_nth ls 4)))))]) C qX10_numberOff (f_kc_cons (f_pl_ok rfl (fun ls st M2 ⟨e, hh⟩ => by subst e; exact h21 _ _ _ _ _ hh)) f_kc_nil) 38 32 h
set_option maxRecDepth 20000 in
theorem BX10_numberOf {sh : Nat → Nat × Nat} {t : Nat} {rm : Nat × Nat × Nat} {cs : Nat × Nat} {R : f_Rt} {c_X10_isThere : Nat → Int → Int → e_M → (Int → Prop) → Prop} {k21 : Nat → Int → Int → Int → Int → Prop} {a0 : Nat} {x1 : Int} {x2 : Int} {M : e_M} (C : f_Hy sh t yX10_numberOf rm cs 6 (lX10_numberOf c_X10_isThere) R) (h21 : ∀ (a0 : Nat) (x1 : Int) (x2 : Int) (x3 : Int) (x4 : Int), k21 a0 x1 x2 x3 x4 → f_E sh t YX10_numberOf rm cs (f_Q sh t R) 21 [.inr (.inr (.inl (10, 15, a0))), .inl x1, .inl x2, .inl x3, .inl x4] [] M) (h : VX10_numberOf c_X10_isThere k21 (fun r => R (some (.inl r)) M) a0 x1 x2 M) : f_E sh t YX10_numberOf rm cs (f_Q sh t R) 0 [.inr (.inr (.inl (10, 15, a0))), .inl x1, .inl x2, .inr (.inr (.inr ())), .inr (.inr (.inr ()))] [] M := by
  rw [f_kk5 M k21] at h
  exact f_go (KC := f_kc [(21, f_pl [(3, 10, 15), (1, 0, 0), (1, 0, 0), (1, 0, 0), (1, 0, 0)] [] (fun ls st M2 => M2 = M ∧ (k21 (f_va (f_nth ls 0)) (f_vi (f_nth ls 1)) (f_vi (f_nth ls 2)) (f_vi (f_nth ls 3)) (f_vi (f_nth ls 4)))))]) C qX10_numberOff (f_kc_cons (f_pl_ok rfl (fun ls st M2 ⟨e, hh⟩ => by subst e; exact h21 _ _ _ _ _ hh)) f_kc_nil) 38 0 h
def WX10_numberOf_53 (M : e_M) (H21 : Nat → Int → Int → Int → Int → Prop) (Q : Int → Prop) (a0 : Nat) (x1 : Int) (x2 : Int) (x3 : Int) (x4 : Int) : Prop :=
  VX10_numberOf_53 WX10_isThere H21 Q a0 x1 x2 x3 x4 M
def WX10_numberOf_21 (M : e_M) (Q : Int → Prop) : Nat → Nat → Int → Int → Int → Int → Prop
  | 0, _, _, _, _, _ => False
  | n + 1, a0, x1, x2, x3, x4 =>
    VX10_numberOf_21 WX10_isThere (WX10_numberOf_53 M (WX10_numberOf_21 M Q n) Q) Q a0 x1 x2 x3 x4 M
def WX10_numberOf (a0 : Nat) (x1 : Int) (x2 : Int) (M : e_M) (Q : Int → Prop) : Prop :=
  VX10_numberOf WX10_isThere (fun a0 x1 x2 x3 x4 => ∃ j, WX10_numberOf_21 M Q j a0 x1 x2 x3 x4) Q a0 x1 x2 M
theorem PX10_numberOf_53 {sh : Nat → Nat × Nat} {t : Nat} {rm : Nat × Nat × Nat} {cs : Nat × Nat} {R : f_Rt} {H21 : Nat → Int → Int → Int → Int → Prop} {a0 : Nat} {x1 : Int} {x2 : Int} {x3 : Int} {x4 : Int} {M : e_M} (C : f_Hy sh t yX10_numberOf rm cs 6 (lX10_numberOf WX10_isThere) R) (g21 : ∀ (a0 : Nat) (x1 : Int) (x2 : Int) (x3 : Int) (x4 : Int), H21 a0 x1 x2 x3 x4 → f_E sh t YX10_numberOf rm cs (f_Q sh t R) 21 [.inr (.inr (.inl (10, 15, a0))), .inl x1, .inl x2, .inl x3, .inl x4] [] M) (h : WX10_numberOf_53 M H21 (fun r => R (some (.inl r)) M) a0 x1 x2 x3 x4) : f_E sh t YX10_numberOf rm cs (f_Q sh t R) 53 [.inr (.inr (.inl (10, 15, a0))), .inl x1, .inl x2, .inl x3, .inl x4] [] M :=
  BX10_numberOf_53 C g21 h
theorem PX10_numberOf_21 {sh : Nat → Nat × Nat} {t : Nat} {rm : Nat × Nat × Nat} {cs : Nat × Nat} {R : f_Rt} {M : e_M} (C : f_Hy sh t yX10_numberOf rm cs 6 (lX10_numberOf WX10_isThere) R) : ∀ (n : Nat) (a0 : Nat) (x1 : Int) (x2 : Int) (x3 : Int) (x4 : Int), WX10_numberOf_21 M (fun r => R (some (.inl r)) M) n a0 x1 x2 x3 x4 → f_E sh t YX10_numberOf rm cs (f_Q sh t R) 21 [.inr (.inr (.inl (10, 15, a0))), .inl x1, .inl x2, .inl x3, .inl x4] [] M := by
  intro n
  induction n with
  | zero => intro a0 x1 x2 x3 x4 h; exact h.elim
  | succ n ih => intro a0 x1 x2 x3 x4 h; exact BX10_numberOf_21 C (fun a0 x1 x2 x3 x4 h => PX10_numberOf_53 C ih h) h
theorem PX10_numberOf {sh : Nat → Nat × Nat} {t : Nat} {rm : Nat × Nat × Nat} {cs : Nat × Nat} {R : f_Rt} {a0 : Nat} {x1 : Int} {x2 : Int} {M : e_M} (C : f_Hy sh t yX10_numberOf rm cs 6 (lX10_numberOf WX10_isThere) R) (h : WX10_numberOf a0 x1 x2 M (fun r => R (some (.inl r)) M)) : f_E sh t YX10_numberOf rm cs (f_Q sh t R) 0 [.inr (.inr (.inl (10, 15, a0))), .inl x1, .inl x2, .inr (.inr (.inr ())), .inr (.inr (.inr ()))] [] M :=
  BX10_numberOf C (fun a0 x1 x2 x3 x4 ⟨j, h⟩ => PX10_numberOf_21 C j _ _ _ _ _ h) h
def wX10_numberOf : f_Wt := f_wm [(3, 10, 15), (1, 0, 0), (1, 0, 0)] (fun ar M R => WX10_numberOf (f_va (f_nth ar 0)) (f_vi (f_nth ar 1)) (f_vi (f_nth ar 2)) M (fun r => R (some (.inl r)) M))
theorem TX10_numberOf {sh : Nat → Nat × Nat} {t : Nat} : f_Mt sh t YX10_numberOf 6 (wX10_numberOf) :=
  f_Mt_of (k := 2) (Nat.le_of_ble_eq_true rfl) rfl rfl (fun ar M R rm cs h1 h2 h3 hX h => PX10_numberOf ⟨Nat.le_of_ble_eq_true rfl, h1, h2, h3, ⟨(f_Mt.up (Nat.le_of_ble_eq_true rfl) TX10_isThere), trivial⟩, hX⟩ h)
def VX10_lotsAt_6 (c_X3_where : Nat → Int → Int → Int → e_M → (Int → Prop) → Prop) (k55 : Nat → Int → Int → Int → Int → Int → Prop) (Q : Int → Prop) (a0 : Nat) (x1 : Int) (x2 : Int) (x3 : Int) (x4 : Int) (x5 : Int) (M : e_M) : Prop :=
  ((0 ≤ (0 : Int) ∧ (0 : Int) < 8) ∧ (((M (a0 + 24) ((0 : Int).toNat)) ≤ x5 → (Q x4)) ∧ (x5 < (M (a0 + 24) ((0 : Int).toNat)) → ((0 ≤ x5 ∧ x5 < 80) ∧ ((¬ (M ((M (a0 + 1) (x5.toNat)).toNat) 1) = 0 → (k55 a0 x1 x2 x3 x4 x5)) ∧ ((M ((M (a0 + 1) (x5.toNat)).toNat) 1) = 0 → ((0 ≤ x5 ∧ x5 < 80) ∧ (c_X3_where ((M (a0 + 1) (x5.toNat)).toNat + 1) x1 x2 1 M (fun r1 => ((¬ r1 = x3 → (k55 a0 x1 x2 x3 x4 x5)) ∧ (r1 = x3 → (k55 a0 x1 x2 x3 (e_w32 (x4 + 1)) x5))))))))))))
def VX10_lotsAt_55 (c_X3_where : Nat → Int → Int → Int → e_M → (Int → Prop) → Prop) (k6 : Nat → Int → Int → Int → Int → Int → Prop) (Q : Int → Prop) (a0 : Nat) (x1 : Int) (x2 : Int) (x3 : Int) (x4 : Int) (x5 : Int) (M : e_M) : Prop :=
  (k6 a0 x1 x2 x3 x4 (e_w32 (x5 + 1)))
def VX10_lotsAt (c_X3_where : Nat → Int → Int → Int → e_M → (Int → Prop) → Prop) (k6 : Nat → Int → Int → Int → Int → Int → Prop) (Q : Int → Prop) (a0 : Nat) (x1 : Int) (x2 : Int) (x3 : Int) (M : e_M) : Prop :=
  (k6 a0 x1 x2 x3 0 0)
def yX10_lotsAt (i : Nat) : e_Y := x_get YX10_lotsAt [YX3_where] i
def pX10_lotsAtf : List x_I := [(0, 0, 1, 0, 0, 0, []), (1, 5, 2, 4, 0, 0, []), (3, 0, 1, 0, 0, 0, []), (4, 5, 2, 5, 0, 0, []), (6, 49, 0, 0, 0, 0, []), (6, 2, 2, 5, 0, 0, []), (8, 4, 1, 0, 0, 0, []), (9, 25, 10, 4, 4, 0, [(0, 20, 8), (0, 1, 24)]), (12, 0, 1, 0, 0, 0, []), (13, 27, 0, 0, 0, 0, []), (14, 18, 61, 3, 35, 0, []), (17, 4, 1, 0, 0, 0, []), (18, 25, 10, 0, 4, 0, [(0, 34, 80), (0, 1, 1)]), (21, 2, 2, 5, 0, 0, []), (23, 27, 0, 3, 0, 0, [(0, 4, 9), (0, 0, 0)]), (24, 25, 4, 1, 1, 0, []), (27, 17, 55, 1, 32, 0, []), (30, 4, 1, 0, 0, 0, []), (31, 25, 10, 0, 4, 0, [(0, 34, 80), (0, 1, 1)]), (34, 2, 2, 5, 0, 0, []), (36, 27, 0, 3, 0, 0, [(0, 4, 9), (0, 0, 0)]), (37, 25, 4, 3, 4, 0, [(0, 3, 3), (0, 1, 1)]), (40, 2, 1, 1, 0, 0, []), (41, 14, 0, 0, 0, 0, []), (42, 2, 1, 2, 0, 0, []), (43, 14, 0, 0, 0, 0, []), (44, 0, 1, 0, 0, 1, []), (45, 40, 0, 4, 5, 0, []), (48, 2, 1, 3, 0, 0, []), (49, 18, 55, 1, 32, 0, []), (52, 8, 0, 4, 0, 1, []), (55, 49, 0, 0, 0, 0, []), (55, 8, 0, 5, 0, 1, []), (58, 19, 6, 0, 5, 0, []), (61, 2, 2, 4, 0, 0, []), (63, 41, 0, 0, 0, 0, [])]
set_option maxRecDepth 20000 in
theorem qX10_lotsAtf : f_all yX10_lotsAt YX10_lotsAt pX10_lotsAtf :=
  ⟨f_iconst (e_dx DX10_lotsAt_0 0 rfl) ⟨by decide, by decide⟩,
  f_istore (e_dx DX10_lotsAt_0 1 rfl) (by decide),
  f_iconst (e_dx DX10_lotsAt_0 2 rfl) ⟨by decide, by decide⟩,
  f_istore (e_dx DX10_lotsAt_0 3 rfl) (by decide),
  trivial,
  f_iload (e_dx DX10_lotsAt_0 4 rfl),
  f_aload_n (n := 0) (e_dx DX10_lotsAt_0 5 rfl) rfl,
  f_getA (e_dx DX10_lotsAt_0 6 rfl) fX10_42 rfl (by decide) (Nat.le_of_ble_eq_true rfl) rfl (by decide),
  f_iconst (e_dx DX10_lotsAt_0 7 rfl) ⟨by decide, by decide⟩,
  f_iaload (e_dx DX10_lotsAt_0 8 rfl),
  f_icmp_ge (e_dx DX10_lotsAt_0 9 rfl) rfl,
  f_aload_n (n := 0) (e_dx DX10_lotsAt_0 10 rfl) rfl,
  f_getA (e_dx DX10_lotsAt_0 11 rfl) fX10_15 rfl (by decide) (Nat.le_of_ble_eq_true rfl) rfl (by decide),
  f_iload (e_dx DX10_lotsAt_0 12 rfl),
  f_aaload (e_dx DX10_lotsAt_0 13 rfl) (by decide) rfl,
  f_getf (e_dx DX10_lotsAt_0 14 rfl) fX10_146 rfl (by decide) (by decide) (by decide),
  f_if_ne (e_dx DX10_lotsAt_0 15 rfl) rfl,
  f_aload_n (n := 0) (e_dx DX10_lotsAt_0 16 rfl) rfl,
  f_getA (e_dx DX10_lotsAt_0 17 rfl) fX10_15 rfl (by decide) (Nat.le_of_ble_eq_true rfl) rfl (by decide),
  f_iload (e_dx DX10_lotsAt_0 18 rfl),
  f_aaload (e_dx DX10_lotsAt_0 19 rfl) (by decide) rfl,
  f_getA (e_dx DX10_lotsAt_0 20 rfl) fX10_114 rfl (by decide) (Nat.le_of_ble_eq_true rfl) rfl (by decide),
  f_iload_n (n := 1) (e_dx DX10_lotsAt_0 21 rfl) rfl,
  f_g14 (e_dx DX10_lotsAt_0 22 rfl),
  f_iload_n (n := 2) (e_dx DX10_lotsAt_0 23 rfl) rfl,
  f_g14 (e_dx DX10_lotsAt_0 24 rfl),
  f_iconst (e_dx DX10_lotsAt_0 25 rfl) ⟨by decide, by decide⟩,
  x_callV (e_dx DX10_lotsAt_0 26 rfl) mwX3_where vwX3_where cX10_170 rfl,
  f_iload_n (n := 3) (e_dx DX10_lotsAt_0 27 rfl) rfl,
  f_icmp_ne (e_dx DX10_lotsAt_0 28 rfl) rfl,
  f_g8 (e_dx DX10_lotsAt_0 29 rfl) ⟨by decide, by decide⟩,
  trivial,
  f_g8 (e_dx DX10_lotsAt_0 30 rfl) ⟨by decide, by decide⟩,
  f_g19 (e_dx DX10_lotsAt_0 31 rfl) rfl,
  f_iload (e_dx DX10_lotsAt_0 32 rfl),
  ⟨(e_dx DX10_lotsAt_0 33 rfl), rfl⟩, trivial⟩
def lX10_lotsAt (c_X3_where : Nat → Int → Int → Int → e_M → (Int → Prop) → Prop) : List (Nat × f_Wt) := [(0, f_wm [(3, 3, 3), (2, 0, 0), (2, 0, 0), (1, 0, 0)] (fun ar M R => c_X3_where (f_va (f_nth ar 0)) (f_vi (f_nth ar 1)) (f_vi (f_nth ar 2)) (f_vi (f_nth ar 3)) M (fun r => R (some (.inl r)) M)))]
set_option maxRecDepth 20000 in
theorem BX10_lotsAt_6 {sh : Nat → Nat × Nat} {t : Nat} {rm : Nat × Nat × Nat} {cs : Nat × Nat} {R : f_Rt} {c_X3_where : Nat → Int → Int → Int → e_M → (Int → Prop) → Prop} {k55 : Nat → Int → Int → Int → Int → Int → Prop} {a0 : Nat} {x1 : Int} {x2 : Int} {x3 : Int} {x4 : Int} {x5 : Int} {M : e_M} (C : f_Hy sh t yX10_lotsAt rm cs 6 (lX10_lotsAt c_X3_where) R) (h55 : ∀ (a0 : Nat) (x1 : Int) (x2 : Int) (x3 : Int) (x4 : Int) (x5 : Int), k55 a0 x1 x2 x3 x4 x5 → f_E sh t YX10_lotsAt rm cs (f_Q sh t R) 55 [.inr (.inr (.inl (10, 15, a0))), .inl x1, .inl x2, .inl x3, .inl x4, .inl x5] [] M) (h : VX10_lotsAt_6 c_X3_where k55 (fun r => R (some (.inl r)) M) a0 x1 x2 x3 x4 x5 M) : f_E sh t YX10_lotsAt rm cs (f_Q sh t R) 6 [.inr (.inr (.inl (10, 15, a0))), .inl x1, .inl x2, .inl x3, .inl x4, .inl x5] [] M := by
  rw [f_kk6 M k55] at h
  exact f_go (KC := f_kc [(55, f_pl [(3, 10, 15), (1, 0, 0), (1, 0, 0), (1, 0, 0), (1, 0, 0), (1, 0, 0)] [] (fun ls st M2 => M2 = M ∧ (k55 (f_va (f_nth ls 0)) (f_vi (f_nth ls 1)) (f_vi (f_nth ls 2)) (f_vi (f_nth ls 3)) (f_vi (f_nth ls 4)) (f_vi (f_nth ls 5)))))]) C qX10_lotsAtf (f_kc_cons (f_pl_ok rfl (fun ls st M2 ⟨e, hh⟩ => by subst e; exact h55 _ _ _ _ _ _ hh)) f_kc_nil) 38 5 h
set_option maxRecDepth 20000 in
theorem BX10_lotsAt_55 {sh : Nat → Nat × Nat} {t : Nat} {rm : Nat × Nat × Nat} {cs : Nat × Nat} {R : f_Rt} {c_X3_where : Nat → Int → Int → Int → e_M → (Int → Prop) → Prop} {k6 : Nat → Int → Int → Int → Int → Int → Prop} {a0 : Nat} {x1 : Int} {x2 : Int} {x3 : Int} {x4 : Int} {x5 : Int} {M : e_M} (C : f_Hy sh t yX10_lotsAt rm cs 6 (lX10_lotsAt c_X3_where) R) (h6 : ∀ (a0 : Nat) (x1 : Int) (x2 : Int) (x3 : Int) (x4 : Int) (x5 : Int), k6 a0 x1 x2 x3 x4 x5 → f_E sh t YX10_lotsAt rm cs (f_Q sh t R) 6 [.inr (.inr (.inl (10, 15, a0))), .inl x1, .inl x2, .inl x3, .inl x4, .inl x5] [] M) (h : VX10_lotsAt_55 c_X3_where k6 (fun r => R (some (.inl r)) M) a0 x1 x2 x3 x4 x5 M) : f_E sh t YX10_lotsAt rm cs (f_Q sh t R) 55 [.inr (.inr (.inl (10, 15, a0))), .inl x1, .inl x2, .inl x3, .inl x4, .inl x5] [] M := by
  rw [f_kk6 M k6] at h
  exact f_go (KC := f_kc [(6, f_pl [(3, 10, 15), (1, 0, 0), (1, 0, 0), (1, 0, 0), (1, 0, 0), (1, 0, 0)] [] (fun ls st M2 => M2 = M ∧ (k6 (f_va (f_nth ls 0)) (f_vi (f_nth ls 1)) (f_vi (f_nth ls 2)) (f_vi (f_nth ls 3)) (f_vi (f_nth ls 4)) (f_vi (f_nth ls 5)))))]) C qX10_lotsAtf (f_kc_cons (f_pl_ok rfl (fun ls st M2 ⟨e, hh⟩ => by subst e; exact h6 _ _ _ _ _ _ hh)) f_kc_nil) 38 32 h
set_option maxRecDepth 20000 in
theorem BX10_lotsAt {sh : Nat → Nat × Nat} {t : Nat} {rm : Nat × Nat × Nat} {cs : Nat × Nat} {R : f_Rt} {c_X3_where : Nat → Int → Int → Int → e_M → (Int → Prop) → Prop} {k6 : Nat → Int → Int → Int → Int → Int → Prop} {a0 : Nat} {x1 : Int} {x2 : Int} {x3 : Int} {M : e_M} (C : f_Hy sh t yX10_lotsAt rm cs 6 (lX10_lotsAt c_X3_where) R) (h6 : ∀ (a0 : Nat) (x1 : Int) (x2 : Int) (x3 : Int) (x4 : Int) (x5 : Int), k6 a0 x1 x2 x3 x4 x5 → f_E sh t YX10_lotsAt rm cs (f_Q sh t R) 6 [.inr (.inr (.inl (10, 15, a0))), .inl x1, .inl x2, .inl x3, .inl x4, .inl x5] [] M) (h : VX10_lotsAt c_X3_where k6 (fun r => R (some (.inl r)) M) a0 x1 x2 x3 M) : f_E sh t YX10_lotsAt rm cs (f_Q sh t R) 0 [.inr (.inr (.inl (10, 15, a0))), .inl x1, .inl x2, .inl x3, .inr (.inr (.inr ())), .inr (.inr (.inr ()))] [] M := by
  rw [f_kk6 M k6] at h
  exact f_go (KC := f_kc [(6, f_pl [(3, 10, 15), (1, 0, 0), (1, 0, 0), (1, 0, 0), (1, 0, 0), (1, 0, 0)] [] (fun ls st M2 => M2 = M ∧ (k6 (f_va (f_nth ls 0)) (f_vi (f_nth ls 1)) (f_vi (f_nth ls 2)) (f_vi (f_nth ls 3)) (f_vi (f_nth ls 4)) (f_vi (f_nth ls 5)))))]) C qX10_lotsAtf (f_kc_cons (f_pl_ok rfl (fun ls st M2 ⟨e, hh⟩ => by subst e; exact h6 _ _ _ _ _ _ hh)) f_kc_nil) 38 0 h
def WX10_lotsAt_55 (M : e_M) (H6 : Nat → Int → Int → Int → Int → Int → Prop) (Q : Int → Prop) (a0 : Nat) (x1 : Int) (x2 : Int) (x3 : Int) (x4 : Int) (x5 : Int) : Prop :=
  VX10_lotsAt_55 WX3_where H6 Q a0 x1 x2 x3 x4 x5 M
def WX10_lotsAt_6 (M : e_M) (Q : Int → Prop) : Nat → Nat → Int → Int → Int → Int → Int → Prop
  | 0, _, _, _, _, _, _ => False
  | n + 1, a0, x1, x2, x3, x4, x5 =>
    VX10_lotsAt_6 WX3_where (WX10_lotsAt_55 M (WX10_lotsAt_6 M Q n) Q) Q a0 x1 x2 x3 x4 x5 M
def WX10_lotsAt (a0 : Nat) (x1 : Int) (x2 : Int) (x3 : Int) (M : e_M) (Q : Int → Prop) : Prop :=
  VX10_lotsAt WX3_where (fun a0 x1 x2 x3 x4 x5 => ∃ j, WX10_lotsAt_6 M Q j a0 x1 x2 x3 x4 x5) Q a0 x1 x2 x3 M
theorem PX10_lotsAt_55 {sh : Nat → Nat × Nat} {t : Nat} {rm : Nat × Nat × Nat} {cs : Nat × Nat} {R : f_Rt} {H6 : Nat → Int → Int → Int → Int → Int → Prop} {a0 : Nat} {x1 : Int} {x2 : Int} {x3 : Int} {x4 : Int} {x5 : Int} {M : e_M} (C : f_Hy sh t yX10_lotsAt rm cs 6 (lX10_lotsAt WX3_where) R) (g6 : ∀ (a0 : Nat) (x1 : Int) (x2 : Int) (x3 : Int) (x4 : Int) (x5 : Int), H6 a0 x1 x2 x3 x4 x5 → f_E sh t YX10_lotsAt rm cs (f_Q sh t R) 6 [.inr (.inr (.inl (10, 15, a0))), .inl x1, .inl x2, .inl x3, .inl x4, .inl x5] [] M) (h : WX10_lotsAt_55 M H6 (fun r => R (some (.inl r)) M) a0 x1 x2 x3 x4 x5) : f_E sh t YX10_lotsAt rm cs (f_Q sh t R) 55 [.inr (.inr (.inl (10, 15, a0))), .inl x1, .inl x2, .inl x3, .inl x4, .inl x5] [] M :=
  BX10_lotsAt_55 C g6 h
theorem PX10_lotsAt_6 {sh : Nat → Nat × Nat} {t : Nat} {rm : Nat × Nat × Nat} {cs : Nat × Nat} {R : f_Rt} {M : e_M} (C : f_Hy sh t yX10_lotsAt rm cs 6 (lX10_lotsAt WX3_where) R) : ∀ (n : Nat) (a0 : Nat) (x1 : Int) (x2 : Int) (x3 : Int) (x4 : Int) (x5 : Int), WX10_lotsAt_6 M (fun r => R (some (.inl r)) M) n a0 x1 x2 x3 x4 x5 → f_E sh t YX10_lotsAt rm cs (f_Q sh t R) 6 [.inr (.inr (.inl (10, 15, a0))), .inl x1, .inl x2, .inl x3, .inl x4, .inl x5] [] M := by
  intro n
  induction n with
  | zero => intro a0 x1 x2 x3 x4 x5 h; exact h.elim
  | succ n ih => intro a0 x1 x2 x3 x4 x5 h; exact BX10_lotsAt_6 C (fun a0 x1 x2 x3 x4 x5 h => PX10_lotsAt_55 C ih h) h
theorem PX10_lotsAt {sh : Nat → Nat × Nat} {t : Nat} {rm : Nat × Nat × Nat} {cs : Nat × Nat} {R : f_Rt} {a0 : Nat} {x1 : Int} {x2 : Int} {x3 : Int} {M : e_M} (C : f_Hy sh t yX10_lotsAt rm cs 6 (lX10_lotsAt WX3_where) R) (h : WX10_lotsAt a0 x1 x2 x3 M (fun r => R (some (.inl r)) M)) : f_E sh t YX10_lotsAt rm cs (f_Q sh t R) 0 [.inr (.inr (.inl (10, 15, a0))), .inl x1, .inl x2, .inl x3, .inr (.inr (.inr ())), .inr (.inr (.inr ()))] [] M :=
  BX10_lotsAt C (fun a0 x1 x2 x3 x4 x5 ⟨j, h⟩ => PX10_lotsAt_6 C j _ _ _ _ _ _ h) h
def wX10_lotsAt : f_Wt := f_wm [(3, 10, 15), (1, 0, 0), (1, 0, 0), (1, 0, 0)] (fun ar M R => WX10_lotsAt (f_va (f_nth ar 0)) (f_vi (f_nth ar 1)) (f_vi (f_nth ar 2)) (f_vi (f_nth ar 3)) M (fun r => R (some (.inl r)) M))
theorem TX10_lotsAt {sh : Nat → Nat × Nat} {t : Nat} : f_Mt sh t YX10_lotsAt 6 (wX10_lotsAt) :=
  f_Mt_of (k := 2) (Nat.le_of_ble_eq_true rfl) rfl rfl (fun ar M R rm cs h1 h2 h3 hX h => PX10_lotsAt ⟨Nat.le_of_ble_eq_true rfl, h1, h2, h3, ⟨(f_Mt.up (Nat.le_of_ble_eq_true rfl) TX3_where), trivial⟩, hX⟩ h)
def VX10_lotFact (c_X3_area : Nat → e_M → (Int → Prop) → Prop) (Q : Int → Prop) (a0 : Nat) (x1 : Int) (M : e_M) : Prop :=
  ((x1 = 0 → (c_X3_area (a0 + 1) M (fun r1 => (Q r1)))) ∧ (¬ x1 = 0 → ((x1 = 1 → (Q (M (a0 + 1) 2))) ∧ (¬ x1 = 1 → ((x1 = 2 → (Q (M a0 8))) ∧ (¬ x1 = 2 → ((x1 = 3 → (Q (M (a0 + 4) 1))) ∧ (¬ x1 = 3 → (Q (M a0 2))))))))))
def yX10_lotFact (i : Nat) : e_Y := x_get YX10_lotFact [YX3_area] i
def pX10_lotFactf : List x_I := [(0, 2, 1, 1, 0, 0, []), (1, 24, 61, 0, 18, 0, [(0, 32, 3), (1, 40, 7), (2, 48, 11), (3, 53, 14)]), (32, 4, 1, 0, 0, 0, []), (33, 25, 4, 3, 4, 0, [(0, 3, 3), (0, 1, 1)]), (36, 40, 0, 1, 5, 0, []), (39, 41, 0, 0, 0, 0, []), (40, 4, 1, 0, 0, 0, []), (41, 25, 4, 3, 4, 0, [(0, 3, 3), (0, 1, 1)]), (44, 25, 3, 2, 0, 0, []), (47, 41, 0, 0, 0, 0, []), (48, 4, 1, 0, 0, 0, []), (49, 25, 4, 8, 0, 0, []), (52, 41, 0, 0, 0, 0, []), (53, 4, 1, 0, 0, 0, []), (54, 25, 4, 4, 4, 0, [(0, 8, 2), (0, 1, 4)]), (57, 25, 8, 1, 0, 0, []), (60, 41, 0, 0, 0, 0, []), (61, 4, 1, 0, 0, 0, []), (62, 25, 4, 2, 0, 0, []), (65, 41, 0, 0, 0, 0, [])]
set_option maxRecDepth 20000 in
theorem qX10_lotFactf : f_all yX10_lotFact YX10_lotFact pX10_lotFactf :=
  ⟨f_iload_n (n := 1) (e_dx DX10_lotFact_0 0 rfl) rfl,
  f_tsw (e_dx DX10_lotFact_0 1 rfl) rfl rfl (by decide) rfl,
  f_aload_n (n := 0) (e_dx DX10_lotFact_0 2 rfl) rfl,
  f_getA (e_dx DX10_lotFact_0 3 rfl) fX10_114 rfl (by decide) (Nat.le_of_ble_eq_true rfl) rfl (by decide),
  x_callV (e_dx DX10_lotFact_0 4 rfl) mwX3_area vwX3_area cX10_201 rfl,
  ⟨(e_dx DX10_lotFact_0 5 rfl), rfl⟩,
  f_aload_n (n := 0) (e_dx DX10_lotFact_0 6 rfl) rfl,
  f_getA (e_dx DX10_lotFact_0 7 rfl) fX10_114 rfl (by decide) (Nat.le_of_ble_eq_true rfl) rfl (by decide),
  f_getf (e_dx DX10_lotFact_0 8 rfl) fX10_205 rfl (by decide) (by decide) (by decide),
  ⟨(e_dx DX10_lotFact_0 9 rfl), rfl⟩,
  f_aload_n (n := 0) (e_dx DX10_lotFact_0 10 rfl) rfl,
  f_getf (e_dx DX10_lotFact_0 11 rfl) fX10_206 rfl (by decide) (by decide) (by decide),
  ⟨(e_dx DX10_lotFact_0 12 rfl), rfl⟩,
  f_aload_n (n := 0) (e_dx DX10_lotFact_0 13 rfl) rfl,
  f_getA (e_dx DX10_lotFact_0 14 rfl) fX10_209 rfl (by decide) (Nat.le_of_ble_eq_true rfl) rfl (by decide),
  f_getf (e_dx DX10_lotFact_0 15 rfl) fX10_187 rfl (by decide) (by decide) (by decide),
  ⟨(e_dx DX10_lotFact_0 16 rfl), rfl⟩,
  f_aload_n (n := 0) (e_dx DX10_lotFact_0 17 rfl) rfl,
  f_getf (e_dx DX10_lotFact_0 18 rfl) fX10_212 rfl (by decide) (by decide) (by decide),
  ⟨(e_dx DX10_lotFact_0 19 rfl), rfl⟩, trivial⟩
def lX10_lotFact (c_X3_area : Nat → e_M → (Int → Prop) → Prop) : List (Nat × f_Wt) := [(0, f_wm [(3, 3, 3)] (fun ar M R => c_X3_area (f_va (f_nth ar 0)) M (fun r => R (some (.inl r)) M)))]
set_option maxRecDepth 20000 in
theorem BX10_lotFact {sh : Nat → Nat × Nat} {t : Nat} {rm : Nat × Nat × Nat} {cs : Nat × Nat} {R : f_Rt} {c_X3_area : Nat → e_M → (Int → Prop) → Prop} {a0 : Nat} {x1 : Int} {M : e_M} (C : f_Hy sh t yX10_lotFact rm cs 6 (lX10_lotFact c_X3_area) R) (h : VX10_lotFact c_X3_area (fun r => R (some (.inl r)) M) a0 x1 M) : f_E sh t YX10_lotFact rm cs (f_Q sh t R) 0 [.inr (.inr (.inl (4, 9, a0))), .inl x1] [] M :=
  f_go (KC := f_kc []) C qX10_lotFactf f_kc_nil 22 0 h
def WX10_lotFact (a0 : Nat) (x1 : Int) (M : e_M) (Q : Int → Prop) : Prop :=
  VX10_lotFact WX3_area Q a0 x1 M
theorem PX10_lotFact {sh : Nat → Nat × Nat} {t : Nat} {rm : Nat × Nat × Nat} {cs : Nat × Nat} {R : f_Rt} {a0 : Nat} {x1 : Int} {M : e_M} (C : f_Hy sh t yX10_lotFact rm cs 6 (lX10_lotFact WX3_area) R) (h : WX10_lotFact a0 x1 M (fun r => R (some (.inl r)) M)) : f_E sh t YX10_lotFact rm cs (f_Q sh t R) 0 [.inr (.inr (.inl (4, 9, a0))), .inl x1] [] M :=
  BX10_lotFact C h
def wX10_lotFact : f_Wt := f_wm [(3, 4, 9), (1, 0, 0)] (fun ar M R => WX10_lotFact (f_va (f_nth ar 0)) (f_vi (f_nth ar 1)) M (fun r => R (some (.inl r)) M))
theorem TX10_lotFact {sh : Nat → Nat × Nat} {t : Nat} : f_Mt sh t YX10_lotFact 6 (wX10_lotFact) :=
  f_Mt_of (k := 0) (Nat.le_of_ble_eq_true rfl) rfl rfl (fun ar M R rm cs h1 h2 h3 hX h => PX10_lotFact ⟨Nat.le_of_ble_eq_true rfl, h1, h2, h3, ⟨(f_Mt.up (Nat.le_of_ble_eq_true rfl) TX3_area), trivial⟩, hX⟩ h)
def VX10_personFact (c_X10_at : Nat → Int → Int → e_M → (Nat → Prop) → Prop) (c_X10_isOfAge : Nat → Int → e_M → (Int → Prop) → Prop) (c_X10_isAble : Nat → Int → e_M → (Int → Prop) → Prop) (Q : Int → Prop) (a0 : Nat) (x1 : Int) (x2 : Int) (M : e_M) : Prop :=
  ((x2 = 0 → (c_X10_at a0 1 x1 M (fun r4 => (Q (M r4 7))))) ∧ (¬ x2 = 0 → ((x2 = 1 → (c_X10_at a0 1 x1 M (fun r3 => (Q (M r3 4))))) ∧ (¬ x2 = 1 → ((x2 = 2 → (c_X10_isOfAge a0 x1 M (fun r2 => ((r2 = 0 → (Q 0)) ∧ (¬ r2 = 0 → (Q 1)))))) ∧ (¬ x2 = 2 → (c_X10_isAble a0 x1 M (fun r1 => ((r1 = 0 → (Q 0)) ∧ (¬ r1 = 0 → (Q 1)))))))))))
def yX10_personFact (i : Nat) : e_Y := x_get YX10_personFact [YX10_at, YX10_isOfAge, YX10_isAble] i
def pX10_personFactf : List x_I := [(0, 2, 1, 2, 0, 0, []), (1, 24, 62, 0, 23, 0, [(0, 28, 3), (1, 38, 9), (2, 48, 15)]), (28, 4, 1, 0, 0, 0, []), (29, 0, 1, 0, 0, 1, []), (30, 2, 1, 1, 0, 0, []), (31, 40, 0, 3, 12, 0, []), (34, 25, 9, 7, 0, 0, []), (37, 41, 0, 0, 0, 0, []), (38, 4, 1, 0, 0, 0, []), (39, 0, 1, 0, 0, 1, []), (40, 2, 1, 1, 0, 0, []), (41, 40, 0, 3, 12, 0, []), (44, 25, 9, 4, 0, 0, []), (47, 41, 0, 0, 0, 0, []), (48, 4, 1, 0, 0, 0, []), (49, 2, 1, 1, 0, 0, []), (50, 40, 1, 2, 12, 0, []), (53, 17, 60, 0, 21, 0, []), (56, 0, 1, 0, 0, 1, []), (57, 19, 61, 0, 22, 0, []), (60, 0, 1, 0, 0, 0, []), (61, 41, 0, 0, 0, 0, []), (62, 4, 1, 0, 0, 0, []), (63, 2, 1, 1, 0, 0, []), (64, 40, 2, 2, 12, 0, []), (67, 17, 74, 0, 29, 0, []), (70, 0, 1, 0, 0, 1, []), (71, 19, 75, 0, 30, 0, []), (74, 0, 1, 0, 0, 0, []), (75, 41, 0, 0, 0, 0, [])]
set_option maxRecDepth 20000 in
theorem qX10_personFactf : f_all yX10_personFact YX10_personFact pX10_personFactf :=
  ⟨f_iload_n (n := 2) (e_dx DX10_personFact_0 0 rfl) rfl,
  f_tsw (e_dx DX10_personFact_0 1 rfl) rfl rfl (by decide) rfl,
  f_aload_n (n := 0) (e_dx DX10_personFact_0 2 rfl) rfl,
  f_iconst (e_dx DX10_personFact_0 3 rfl) ⟨by decide, by decide⟩,
  f_iload_n (n := 1) (e_dx DX10_personFact_0 4 rfl) rfl,
  x_callV (e_dx DX10_personFact_0 5 rfl) mwX10_at vwX10_at cX10_93 rfl,
  f_getf (e_dx DX10_personFact_0 6 rfl) fX10_97 rfl (by decide) (by decide) (by decide),
  ⟨(e_dx DX10_personFact_0 7 rfl), rfl⟩,
  f_aload_n (n := 0) (e_dx DX10_personFact_0 8 rfl) rfl,
  f_iconst (e_dx DX10_personFact_0 9 rfl) ⟨by decide, by decide⟩,
  f_iload_n (n := 1) (e_dx DX10_personFact_0 10 rfl) rfl,
  x_callV (e_dx DX10_personFact_0 11 rfl) mwX10_at vwX10_at cX10_93 rfl,
  f_getf (e_dx DX10_personFact_0 12 rfl) fX10_215 rfl (by decide) (by decide) (by decide),
  ⟨(e_dx DX10_personFact_0 13 rfl), rfl⟩,
  f_aload_n (n := 0) (e_dx DX10_personFact_0 14 rfl) rfl,
  f_iload_n (n := 1) (e_dx DX10_personFact_0 15 rfl) rfl,
  x_callV (e_dx DX10_personFact_0 16 rfl) mwX10_isOfAge vwX10_isOfAge cX10_164 rfl,
  f_if_eq (e_dx DX10_personFact_0 17 rfl) rfl,
  f_iconst (e_dx DX10_personFact_0 18 rfl) ⟨by decide, by decide⟩,
  f_g19 (e_dx DX10_personFact_0 19 rfl) rfl,
  f_iconst (e_dx DX10_personFact_0 20 rfl) ⟨by decide, by decide⟩,
  ⟨(e_dx DX10_personFact_0 21 rfl), rfl⟩,
  f_aload_n (n := 0) (e_dx DX10_personFact_0 22 rfl) rfl,
  f_iload_n (n := 1) (e_dx DX10_personFact_0 23 rfl) rfl,
  x_callV (e_dx DX10_personFact_0 24 rfl) mwX10_isAble vwX10_isAble cX10_218 rfl,
  f_if_eq (e_dx DX10_personFact_0 25 rfl) rfl,
  f_iconst (e_dx DX10_personFact_0 26 rfl) ⟨by decide, by decide⟩,
  f_g19 (e_dx DX10_personFact_0 27 rfl) rfl,
  f_iconst (e_dx DX10_personFact_0 28 rfl) ⟨by decide, by decide⟩,
  ⟨(e_dx DX10_personFact_0 29 rfl), rfl⟩, trivial⟩
def lX10_personFact (c_X10_at : Nat → Int → Int → e_M → (Nat → Prop) → Prop) (c_X10_isOfAge : Nat → Int → e_M → (Int → Prop) → Prop) (c_X10_isAble : Nat → Int → e_M → (Int → Prop) → Prop) : List (Nat × f_Wt) := [(0, f_wm [(3, 10, 15), (1, 0, 0), (1, 0, 0)] (fun ar M R => c_X10_at (f_va (f_nth ar 0)) (f_vi (f_nth ar 1)) (f_vi (f_nth ar 2)) M (fun r => R (some (.inr (.inr (.inl (9, 14, r))))) M))), (1, f_wm [(3, 10, 15), (1, 0, 0)] (fun ar M R => c_X10_isOfAge (f_va (f_nth ar 0)) (f_vi (f_nth ar 1)) M (fun r => R (some (.inl r)) M))), (2, f_wm [(3, 10, 15), (1, 0, 0)] (fun ar M R => c_X10_isAble (f_va (f_nth ar 0)) (f_vi (f_nth ar 1)) M (fun r => R (some (.inl r)) M)))]
set_option maxRecDepth 20000 in
theorem BX10_personFact {sh : Nat → Nat × Nat} {t : Nat} {rm : Nat × Nat × Nat} {cs : Nat × Nat} {R : f_Rt} {c_X10_at : Nat → Int → Int → e_M → (Nat → Prop) → Prop} {c_X10_isOfAge : Nat → Int → e_M → (Int → Prop) → Prop} {c_X10_isAble : Nat → Int → e_M → (Int → Prop) → Prop} {a0 : Nat} {x1 : Int} {x2 : Int} {M : e_M} (C : f_Hy sh t yX10_personFact rm cs 7 (lX10_personFact c_X10_at c_X10_isOfAge c_X10_isAble) R) (h : VX10_personFact c_X10_at c_X10_isOfAge c_X10_isAble (fun r => R (some (.inl r)) M) a0 x1 x2 M) : f_E sh t YX10_personFact rm cs (f_Q sh t R) 0 [.inr (.inr (.inl (10, 15, a0))), .inl x1, .inl x2] [] M :=
  f_go (KC := f_kc []) C qX10_personFactf f_kc_nil 32 0 h
def WX10_personFact (a0 : Nat) (x1 : Int) (x2 : Int) (M : e_M) (Q : Int → Prop) : Prop :=
  VX10_personFact WX10_at WX10_isOfAge WX10_isAble Q a0 x1 x2 M
theorem PX10_personFact {sh : Nat → Nat × Nat} {t : Nat} {rm : Nat × Nat × Nat} {cs : Nat × Nat} {R : f_Rt} {a0 : Nat} {x1 : Int} {x2 : Int} {M : e_M} (C : f_Hy sh t yX10_personFact rm cs 7 (lX10_personFact WX10_at WX10_isOfAge WX10_isAble) R) (h : WX10_personFact a0 x1 x2 M (fun r => R (some (.inl r)) M)) : f_E sh t YX10_personFact rm cs (f_Q sh t R) 0 [.inr (.inr (.inl (10, 15, a0))), .inl x1, .inl x2] [] M :=
  BX10_personFact C h
def wX10_personFact : f_Wt := f_wm [(3, 10, 15), (1, 0, 0), (1, 0, 0)] (fun ar M R => WX10_personFact (f_va (f_nth ar 0)) (f_vi (f_nth ar 1)) (f_vi (f_nth ar 2)) M (fun r => R (some (.inl r)) M))
theorem TX10_personFact {sh : Nat → Nat × Nat} {t : Nat} : f_Mt sh t YX10_personFact 7 (wX10_personFact) :=
  f_Mt_of (k := 0) (Nat.le_of_ble_eq_true rfl) rfl rfl (fun ar M R rm cs h1 h2 h3 hX h => PX10_personFact ⟨Nat.le_of_ble_eq_true rfl, h1, h2, h3, ⟨(f_Mt.up (Nat.le_of_ble_eq_true rfl) TX10_at), (f_Mt.up (Nat.le_of_ble_eq_true rfl) TX10_isOfAge), (f_Mt.up (Nat.le_of_ble_eq_true rfl) TX10_isAble), trivial⟩, hX⟩ h)
def VX10_serveFact (Q : Int → Prop) (a0 : Nat) (x1 : Int) (M : e_M) : Prop :=
  ((x1 = 0 → (Q (M a0 7))) ∧ (¬ x1 = 0 → ((x1 = 1 → (Q (M ((M a0 9).toNat) 1))) ∧ (¬ x1 = 1 → ((x1 = 2 → (Q (M ((M a0 10).toNat) 1))) ∧ (¬ x1 = 2 → (Q (M ((M a0 11).toNat) 18))))))))
def yX10_serveFact (i : Nat) : e_Y := x_get YX10_serveFact [] i
def pX10_serveFactf : List x_I := [(0, 2, 1, 1, 0, 0, []), (1, 24, 49, 0, 14, 0, [(0, 28, 3), (1, 33, 6), (2, 41, 10)]), (28, 4, 1, 0, 0, 0, []), (29, 25, 9, 7, 0, 0, []), (32, 41, 0, 0, 0, 0, []), (33, 4, 1, 0, 0, 0, []), (34, 25, 9, 9, 4, 0, [(0, 8, 2), (0, 0, 0)]), (37, 25, 8, 1, 0, 0, []), (40, 41, 0, 0, 0, 0, []), (41, 4, 1, 0, 0, 0, []), (42, 25, 9, 10, 4, 0, [(0, 8, 2), (0, 0, 0)]), (45, 25, 8, 1, 0, 0, []), (48, 41, 0, 0, 0, 0, []), (49, 4, 1, 0, 0, 0, []), (50, 25, 9, 11, 4, 0, [(0, 2, 19), (0, 0, 0)]), (53, 25, 2, 18, 0, 0, []), (56, 41, 0, 0, 0, 0, [])]
set_option maxRecDepth 20000 in
theorem qX10_serveFactf : f_all yX10_serveFact YX10_serveFact pX10_serveFactf :=
  ⟨f_iload_n (n := 1) (e_dx DX10_serveFact_0 0 rfl) rfl,
  f_tsw (e_dx DX10_serveFact_0 1 rfl) rfl rfl (by decide) rfl,
  f_aload_n (n := 0) (e_dx DX10_serveFact_0 2 rfl) rfl,
  f_getf (e_dx DX10_serveFact_0 3 rfl) fX10_97 rfl (by decide) (by decide) (by decide),
  ⟨(e_dx DX10_serveFact_0 4 rfl), rfl⟩,
  f_aload_n (n := 0) (e_dx DX10_serveFact_0 5 rfl) rfl,
  f_getA (e_dx DX10_serveFact_0 6 rfl) fX10_184 rfl (by decide) (Nat.le_of_ble_eq_true rfl) rfl (by decide),
  f_getf (e_dx DX10_serveFact_0 7 rfl) fX10_187 rfl (by decide) (by decide) (by decide),
  ⟨(e_dx DX10_serveFact_0 8 rfl), rfl⟩,
  f_aload_n (n := 0) (e_dx DX10_serveFact_0 9 rfl) rfl,
  f_getA (e_dx DX10_serveFact_0 10 rfl) fX10_221 rfl (by decide) (Nat.le_of_ble_eq_true rfl) rfl (by decide),
  f_getf (e_dx DX10_serveFact_0 11 rfl) fX10_187 rfl (by decide) (by decide) (by decide),
  ⟨(e_dx DX10_serveFact_0 12 rfl), rfl⟩,
  f_aload_n (n := 0) (e_dx DX10_serveFact_0 13 rfl) rfl,
  f_getA (e_dx DX10_serveFact_0 14 rfl) fX10_77 rfl (by decide) (Nat.le_of_ble_eq_true rfl) rfl (by decide),
  f_getf (e_dx DX10_serveFact_0 15 rfl) fX10_224 rfl (by decide) (by decide) (by decide),
  ⟨(e_dx DX10_serveFact_0 16 rfl), rfl⟩, trivial⟩
def lX10_serveFact : List (Nat × f_Wt) := []
set_option maxRecDepth 20000 in
theorem BX10_serveFact {sh : Nat → Nat × Nat} {t : Nat} {rm : Nat × Nat × Nat} {cs : Nat × Nat} {R : f_Rt} {a0 : Nat} {x1 : Int} {M : e_M} (C : f_Hy sh t yX10_serveFact rm cs 4 (lX10_serveFact) R) (h : VX10_serveFact (fun r => R (some (.inl r)) M) a0 x1 M) : f_E sh t YX10_serveFact rm cs (f_Q sh t R) 0 [.inr (.inr (.inl (9, 14, a0))), .inl x1] [] M :=
  f_go (KC := f_kc []) C qX10_serveFactf f_kc_nil 19 0 h
def WX10_serveFact (a0 : Nat) (x1 : Int) (M : e_M) (Q : Int → Prop) : Prop :=
  VX10_serveFact Q a0 x1 M
theorem PX10_serveFact {sh : Nat → Nat × Nat} {t : Nat} {rm : Nat × Nat × Nat} {cs : Nat × Nat} {R : f_Rt} {a0 : Nat} {x1 : Int} {M : e_M} (C : f_Hy sh t yX10_serveFact rm cs 4 (lX10_serveFact) R) (h : WX10_serveFact a0 x1 M (fun r => R (some (.inl r)) M)) : f_E sh t YX10_serveFact rm cs (f_Q sh t R) 0 [.inr (.inr (.inl (9, 14, a0))), .inl x1] [] M :=
  BX10_serveFact C h
def wX10_serveFact : f_Wt := f_wm [(3, 9, 14), (1, 0, 0)] (fun ar M R => WX10_serveFact (f_va (f_nth ar 0)) (f_vi (f_nth ar 1)) M (fun r => R (some (.inl r)) M))
theorem TX10_serveFact {sh : Nat → Nat × Nat} {t : Nat} : f_Mt sh t YX10_serveFact 4 (wX10_serveFact) :=
  f_Mt_of (k := 0) (Nat.le_of_ble_eq_true rfl) rfl rfl (fun ar M R rm cs h1 h2 h3 hX h => PX10_serveFact ⟨Nat.le_of_ble_eq_true rfl, h1, h2, h3, trivial, hX⟩ h)
def VX10_leaseFact (Q : Int → Prop) (a0 : Nat) (x1 : Int) (M : e_M) : Prop :=
  ((x1 = 0 → (Q (M a0 6))) ∧ (¬ x1 = 0 → ((x1 = 1 → (Q (M ((M a0 9).toNat) 1))) ∧ (¬ x1 = 1 → ((x1 = 2 → (Q (M a0 4))) ∧ (¬ x1 = 2 → (Q (M a0 3))))))))
def yX10_leaseFact (i : Nat) : e_Y := x_get YX10_leaseFact [] i
def pX10_leaseFactf : List x_I := [(0, 2, 1, 1, 0, 0, []), (1, 24, 46, 0, 13, 0, [(0, 28, 3), (1, 33, 6), (2, 41, 10)]), (28, 4, 1, 0, 0, 0, []), (29, 25, 9, 6, 0, 0, []), (32, 41, 0, 0, 0, 0, []), (33, 4, 1, 0, 0, 0, []), (34, 25, 9, 9, 4, 0, [(0, 8, 2), (0, 0, 0)]), (37, 25, 8, 1, 0, 0, []), (40, 41, 0, 0, 0, 0, []), (41, 4, 1, 0, 0, 0, []), (42, 25, 9, 4, 0, 0, []), (45, 41, 0, 0, 0, 0, []), (46, 4, 1, 0, 0, 0, []), (47, 25, 9, 3, 0, 0, []), (50, 41, 0, 0, 0, 0, [])]
set_option maxRecDepth 20000 in
theorem qX10_leaseFactf : f_all yX10_leaseFact YX10_leaseFact pX10_leaseFactf :=
  ⟨f_iload_n (n := 1) (e_dx DX10_leaseFact_0 0 rfl) rfl,
  f_tsw (e_dx DX10_leaseFact_0 1 rfl) rfl rfl (by decide) rfl,
  f_aload_n (n := 0) (e_dx DX10_leaseFact_0 2 rfl) rfl,
  f_getf (e_dx DX10_leaseFact_0 3 rfl) fX10_161 rfl (by decide) (by decide) (by decide),
  ⟨(e_dx DX10_leaseFact_0 4 rfl), rfl⟩,
  f_aload_n (n := 0) (e_dx DX10_leaseFact_0 5 rfl) rfl,
  f_getA (e_dx DX10_leaseFact_0 6 rfl) fX10_184 rfl (by decide) (Nat.le_of_ble_eq_true rfl) rfl (by decide),
  f_getf (e_dx DX10_leaseFact_0 7 rfl) fX10_187 rfl (by decide) (by decide) (by decide),
  ⟨(e_dx DX10_leaseFact_0 8 rfl), rfl⟩,
  f_aload_n (n := 0) (e_dx DX10_leaseFact_0 9 rfl) rfl,
  f_getf (e_dx DX10_leaseFact_0 10 rfl) fX10_215 rfl (by decide) (by decide) (by decide),
  ⟨(e_dx DX10_leaseFact_0 11 rfl), rfl⟩,
  f_aload_n (n := 0) (e_dx DX10_leaseFact_0 12 rfl) rfl,
  f_getf (e_dx DX10_leaseFact_0 13 rfl) fX10_198 rfl (by decide) (by decide) (by decide),
  ⟨(e_dx DX10_leaseFact_0 14 rfl), rfl⟩, trivial⟩
def lX10_leaseFact : List (Nat × f_Wt) := []
set_option maxRecDepth 20000 in
theorem BX10_leaseFact {sh : Nat → Nat × Nat} {t : Nat} {rm : Nat × Nat × Nat} {cs : Nat × Nat} {R : f_Rt} {a0 : Nat} {x1 : Int} {M : e_M} (C : f_Hy sh t yX10_leaseFact rm cs 4 (lX10_leaseFact) R) (h : VX10_leaseFact (fun r => R (some (.inl r)) M) a0 x1 M) : f_E sh t YX10_leaseFact rm cs (f_Q sh t R) 0 [.inr (.inr (.inl (9, 14, a0))), .inl x1] [] M :=
  f_go (KC := f_kc []) C qX10_leaseFactf f_kc_nil 17 0 h
def WX10_leaseFact (a0 : Nat) (x1 : Int) (M : e_M) (Q : Int → Prop) : Prop :=
  VX10_leaseFact Q a0 x1 M
theorem PX10_leaseFact {sh : Nat → Nat × Nat} {t : Nat} {rm : Nat × Nat × Nat} {cs : Nat × Nat} {R : f_Rt} {a0 : Nat} {x1 : Int} {M : e_M} (C : f_Hy sh t yX10_leaseFact rm cs 4 (lX10_leaseFact) R) (h : WX10_leaseFact a0 x1 M (fun r => R (some (.inl r)) M)) : f_E sh t YX10_leaseFact rm cs (f_Q sh t R) 0 [.inr (.inr (.inl (9, 14, a0))), .inl x1] [] M :=
  BX10_leaseFact C h
def wX10_leaseFact : f_Wt := f_wm [(3, 9, 14), (1, 0, 0)] (fun ar M R => WX10_leaseFact (f_va (f_nth ar 0)) (f_vi (f_nth ar 1)) M (fun r => R (some (.inl r)) M))
theorem TX10_leaseFact {sh : Nat → Nat × Nat} {t : Nat} : f_Mt sh t YX10_leaseFact 4 (wX10_leaseFact) :=
  f_Mt_of (k := 0) (Nat.le_of_ble_eq_true rfl) rfl rfl (fun ar M R rm cs h1 h2 h3 hX h => PX10_leaseFact ⟨Nat.le_of_ble_eq_true rfl, h1, h2, h3, trivial, hX⟩ h)
def VX10_fact (c_X10_at : Nat → Int → Int → e_M → (Nat → Prop) → Prop) (c_X10_lot : Nat → Int → e_M → (Nat → Prop) → Prop) (c_X10_lotFact : Nat → Int → e_M → (Int → Prop) → Prop) (c_X10_personFact : Nat → Int → Int → e_M → (Int → Prop) → Prop) (c_X10_serveFact : Nat → Int → e_M → (Int → Prop) → Prop) (c_X10_leaseFact : Nat → Int → e_M → (Int → Prop) → Prop) (Q : Int → Prop) (a0 : Nat) (x1 : Int) (x2 : Int) (x3 : Int) (M : e_M) : Prop :=
  ((x3 < 0 → (Q (-1))) ∧ (0 ≤ x3 → ((x1 < 0 → (Q (-1))) ∧ (0 ≤ x1 → ((7 ≤ x1 → (Q (-1))) ∧ (x1 < 7 → ((0 ≤ x1 ∧ x1 < 7) ∧ ((x3 < (f_kt 1000003 (x1.toNat)) → (c_X10_at a0 x1 x2 M (fun r1 => ((x1 = 0 → (c_X10_lot a0 x2 M (fun r5 => (c_X10_lotFact r5 x3 M (fun r6 => (Q r6)))))) ∧ (¬ x1 = 0 → ((x1 = 1 → (c_X10_personFact a0 x2 x3 M (fun r4 => (Q r4)))) ∧ (¬ x1 = 1 → ((x1 = 2 → ((¬ x3 = 0 → (Q (M ((M r1 9).toNat) 1))) ∧ (x3 = 0 → (Q (M r1 6))))) ∧ (¬ x1 = 2 → ((x1 = 3 → (c_X10_serveFact r1 x3 M (fun r3 => (Q r3)))) ∧ (¬ x1 = 3 → ((x1 = 4 → (c_X10_leaseFact r1 x3 M (fun r2 => (Q r2)))) ∧ (¬ x1 = 4 → ((¬ x3 = 0 → (Q (M ((M r1 9).toNat) 1))) ∧ (x3 = 0 → (Q (M r1 3))))))))))))))))) ∧ ((f_kt 1000003 (x1.toNat)) ≤ x3 → (Q (-1)))))))))))
def yX10_fact (i : Nat) : e_Y := x_get YX10_fact [YX10_at, YX10_lot, YX10_lotFact, YX10_personFact, YX10_serveFact, YX10_leaseFact] i
def pX10_factf : List x_I := [(0, 2, 1, 3, 0, 0, []), (1, 17, 23, 2, 13, 0, []), (4, 2, 1, 1, 0, 0, []), (5, 17, 23, 2, 13, 0, []), (8, 2, 1, 1, 0, 0, []), (9, 0, 2, 0, 0, 7, []), (11, 18, 23, 3, 13, 0, []), (14, 2, 1, 3, 0, 0, []), (15, 35, 3, 1000003, 7, 0, []), (18, 2, 1, 1, 0, 0, []), (19, 27, 0, 0, 0, 0, []), (20, 18, 25, 2, 15, 0, []), (23, 0, 1, 0, 0, (-1), []), (24, 41, 0, 0, 0, 0, []), (25, 4, 1, 0, 0, 0, []), (26, 2, 1, 1, 0, 0, []), (27, 2, 1, 2, 0, 0, []), (28, 40, 0, 3, 12, 0, []), (31, 7, 2, 4, 0, 0, []), (33, 2, 1, 1, 0, 0, []), (34, 24, 120, 0, 50, 0, [(0, 68, 22), (1, 78, 28), (2, 85, 33), (3, 106, 42), (4, 113, 46)]), (68, 4, 1, 0, 0, 0, []), (69, 2, 1, 2, 0, 0, []), (70, 40, 1, 2, 12, 0, []), (73, 2, 1, 3, 0, 0, []), (74, 40, 2, 2, 0, 0, []), (77, 41, 0, 0, 0, 0, []), (78, 4, 1, 0, 0, 0, []), (79, 2, 1, 2, 0, 0, []), (80, 2, 1, 3, 0, 0, []), (81, 40, 3, 3, 12, 0, []), (84, 41, 0, 0, 0, 0, []), (85, 2, 1, 3, 0, 0, []), (86, 17, 97, 1, 38, 0, []), (89, 4, 2, 4, 0, 0, []), (91, 25, 9, 6, 0, 0, []), (94, 19, 105, 0, 41, 0, []), (97, 4, 2, 4, 0, 0, []), (99, 25, 9, 9, 4, 0, [(0, 8, 2), (0, 0, 0)]), (102, 25, 8, 1, 0, 0, []), (105, 41, 0, 0, 0, 0, []), (106, 4, 2, 4, 0, 0, []), (108, 2, 1, 3, 0, 0, []), (109, 40, 4, 2, 0, 0, []), (112, 41, 0, 0, 0, 0, []), (113, 4, 2, 4, 0, 0, []), (115, 2, 1, 3, 0, 0, []), (116, 40, 5, 2, 0, 0, []), (119, 41, 0, 0, 0, 0, []), (120, 2, 1, 3, 0, 0, []), (121, 17, 132, 1, 55, 0, []), (124, 4, 2, 4, 0, 0, []), (126, 25, 9, 3, 0, 0, []), (129, 19, 140, 0, 58, 0, []), (132, 4, 2, 4, 0, 0, []), (134, 25, 9, 9, 4, 0, [(0, 8, 2), (0, 0, 0)]), (137, 25, 8, 1, 0, 0, []), (140, 41, 0, 0, 0, 0, [])]
set_option maxRecDepth 20000 in
theorem qX10_factf : f_all yX10_fact YX10_fact pX10_factf :=
  ⟨f_iload_n (n := 3) (e_dx DX10_fact_0 0 rfl) rfl,
  f_if_lt (e_dx DX10_fact_0 1 rfl) rfl,
  f_iload_n (n := 1) (e_dx DX10_fact_0 2 rfl) rfl,
  f_if_lt (e_dx DX10_fact_0 3 rfl) rfl,
  f_iload_n (n := 1) (e_dx DX10_fact_0 4 rfl) rfl,
  f_bipush (e_dx DX10_fact_0 5 rfl) ⟨by decide, by decide⟩,
  f_icmp_ge (e_dx DX10_fact_0 6 rfl) rfl,
  f_iload_n (n := 3) (e_dx DX10_fact_0 7 rfl) rfl,
  f_getsN (j := 2) (q := ("LandHouse", "FACTS")) (e_dx DX10_fact_0 8 rfl) rfl gX10_174 rfl ⟨rfl, rfl⟩,
  f_iload_n (n := 1) (e_dx DX10_fact_0 9 rfl) rfl,
  f_iaload (e_dx DX10_fact_0 10 rfl),
  f_icmp_lt (e_dx DX10_fact_0 11 rfl) rfl,
  f_iconst (e_dx DX10_fact_0 12 rfl) ⟨by decide, by decide⟩,
  ⟨(e_dx DX10_fact_0 13 rfl), rfl⟩,
  f_aload_n (n := 0) (e_dx DX10_fact_0 14 rfl) rfl,
  f_iload_n (n := 1) (e_dx DX10_fact_0 15 rfl) rfl,
  f_iload_n (n := 2) (e_dx DX10_fact_0 16 rfl) rfl,
  x_callV (e_dx DX10_fact_0 17 rfl) mwX10_at vwX10_at cX10_93 rfl,
  f_astore (e_dx DX10_fact_0 18 rfl) (by decide),
  f_iload_n (n := 1) (e_dx DX10_fact_0 19 rfl) rfl,
  f_tsw (e_dx DX10_fact_0 20 rfl) rfl rfl (by decide) rfl,
  f_aload_n (n := 0) (e_dx DX10_fact_0 21 rfl) rfl,
  f_iload_n (n := 2) (e_dx DX10_fact_0 22 rfl) rfl,
  x_callV (e_dx DX10_fact_0 23 rfl) mwX10_lot vwX10_lot cX10_106 rfl,
  f_iload_n (n := 3) (e_dx DX10_fact_0 24 rfl) rfl,
  x_callS (e_dx DX10_fact_0 25 rfl) mwX10_lotFact cX10_177 swX10_lotFact rfl,
  ⟨(e_dx DX10_fact_0 26 rfl), rfl⟩,
  f_aload_n (n := 0) (e_dx DX10_fact_0 27 rfl) rfl,
  f_iload_n (n := 2) (e_dx DX10_fact_0 28 rfl) rfl,
  f_iload_n (n := 3) (e_dx DX10_fact_0 29 rfl) rfl,
  x_callV (e_dx DX10_fact_0 30 rfl) mwX10_personFact vwX10_personFact cX10_181 rfl,
  ⟨(e_dx DX10_fact_0 31 rfl), rfl⟩,
  f_iload_n (n := 3) (e_dx DX10_fact_0 32 rfl) rfl,
  f_if_ne (e_dx DX10_fact_0 33 rfl) rfl,
  f_aload (e_dx DX10_fact_0 34 rfl),
  f_getf (e_dx DX10_fact_0 35 rfl) fX10_161 rfl (by decide) (by decide) (by decide),
  f_g19 (e_dx DX10_fact_0 36 rfl) rfl,
  f_aload (e_dx DX10_fact_0 37 rfl),
  f_getA (e_dx DX10_fact_0 38 rfl) fX10_184 rfl (by decide) (Nat.le_of_ble_eq_true rfl) rfl (by decide),
  f_getf (e_dx DX10_fact_0 39 rfl) fX10_187 rfl (by decide) (by decide) (by decide),
  ⟨(e_dx DX10_fact_1 0 rfl), rfl⟩,
  f_aload (e_dx DX10_fact_1 1 rfl),
  f_iload_n (n := 3) (e_dx DX10_fact_1 2 rfl) rfl,
  x_callS (e_dx DX10_fact_1 3 rfl) mwX10_serveFact cX10_191 swX10_serveFact rfl,
  ⟨(e_dx DX10_fact_1 4 rfl), rfl⟩,
  f_aload (e_dx DX10_fact_1 5 rfl),
  f_iload_n (n := 3) (e_dx DX10_fact_1 6 rfl) rfl,
  x_callS (e_dx DX10_fact_1 7 rfl) mwX10_leaseFact cX10_195 swX10_leaseFact rfl,
  ⟨(e_dx DX10_fact_1 8 rfl), rfl⟩,
  f_iload_n (n := 3) (e_dx DX10_fact_1 9 rfl) rfl,
  f_if_ne (e_dx DX10_fact_1 10 rfl) rfl,
  f_aload (e_dx DX10_fact_1 11 rfl),
  f_getf (e_dx DX10_fact_1 12 rfl) fX10_198 rfl (by decide) (by decide) (by decide),
  f_g19 (e_dx DX10_fact_1 13 rfl) rfl,
  f_aload (e_dx DX10_fact_1 14 rfl),
  f_getA (e_dx DX10_fact_1 15 rfl) fX10_184 rfl (by decide) (Nat.le_of_ble_eq_true rfl) rfl (by decide),
  f_getf (e_dx DX10_fact_1 16 rfl) fX10_187 rfl (by decide) (by decide) (by decide),
  ⟨(e_dx DX10_fact_1 17 rfl), rfl⟩, trivial⟩
def lX10_fact (c_X10_at : Nat → Int → Int → e_M → (Nat → Prop) → Prop) (c_X10_lot : Nat → Int → e_M → (Nat → Prop) → Prop) (c_X10_lotFact : Nat → Int → e_M → (Int → Prop) → Prop) (c_X10_personFact : Nat → Int → Int → e_M → (Int → Prop) → Prop) (c_X10_serveFact : Nat → Int → e_M → (Int → Prop) → Prop) (c_X10_leaseFact : Nat → Int → e_M → (Int → Prop) → Prop) : List (Nat × f_Wt) := [(0, f_wm [(3, 10, 15), (1, 0, 0), (1, 0, 0)] (fun ar M R => c_X10_at (f_va (f_nth ar 0)) (f_vi (f_nth ar 1)) (f_vi (f_nth ar 2)) M (fun r => R (some (.inr (.inr (.inl (9, 14, r))))) M))), (1, f_wm [(3, 10, 15), (1, 0, 0)] (fun ar M R => c_X10_lot (f_va (f_nth ar 0)) (f_vi (f_nth ar 1)) M (fun r => R (some (.inr (.inr (.inl (4, 9, r))))) M))), (2, f_wm [(3, 4, 9), (1, 0, 0)] (fun ar M R => c_X10_lotFact (f_va (f_nth ar 0)) (f_vi (f_nth ar 1)) M (fun r => R (some (.inl r)) M))), (3, f_wm [(3, 10, 15), (1, 0, 0), (1, 0, 0)] (fun ar M R => c_X10_personFact (f_va (f_nth ar 0)) (f_vi (f_nth ar 1)) (f_vi (f_nth ar 2)) M (fun r => R (some (.inl r)) M))), (4, f_wm [(3, 9, 14), (1, 0, 0)] (fun ar M R => c_X10_serveFact (f_va (f_nth ar 0)) (f_vi (f_nth ar 1)) M (fun r => R (some (.inl r)) M))), (5, f_wm [(3, 9, 14), (1, 0, 0)] (fun ar M R => c_X10_leaseFact (f_va (f_nth ar 0)) (f_vi (f_nth ar 1)) M (fun r => R (some (.inl r)) M)))]
set_option maxRecDepth 20000 in
theorem BX10_fact {sh : Nat → Nat × Nat} {t : Nat} {rm : Nat × Nat × Nat} {cs : Nat × Nat} {R : f_Rt} {c_X10_at : Nat → Int → Int → e_M → (Nat → Prop) → Prop} {c_X10_lot : Nat → Int → e_M → (Nat → Prop) → Prop} {c_X10_lotFact : Nat → Int → e_M → (Int → Prop) → Prop} {c_X10_personFact : Nat → Int → Int → e_M → (Int → Prop) → Prop} {c_X10_serveFact : Nat → Int → e_M → (Int → Prop) → Prop} {c_X10_leaseFact : Nat → Int → e_M → (Int → Prop) → Prop} {a0 : Nat} {x1 : Int} {x2 : Int} {x3 : Int} {M : e_M} (C : f_Hy sh t yX10_fact rm cs 8 (lX10_fact c_X10_at c_X10_lot c_X10_lotFact c_X10_personFact c_X10_serveFact c_X10_leaseFact) R) (h : VX10_fact c_X10_at c_X10_lot c_X10_lotFact c_X10_personFact c_X10_serveFact c_X10_leaseFact (fun r => R (some (.inl r)) M) a0 x1 x2 x3 M) : f_E sh t YX10_fact rm cs (f_Q sh t R) 0 [.inr (.inr (.inl (10, 15, a0))), .inl x1, .inl x2, .inl x3, .inr (.inr (.inr ()))] [] M :=
  f_go (KC := f_kc []) C qX10_factf f_kc_nil 60 0 h
def WX10_fact (a0 : Nat) (x1 : Int) (x2 : Int) (x3 : Int) (M : e_M) (Q : Int → Prop) : Prop :=
  VX10_fact WX10_at WX10_lot WX10_lotFact WX10_personFact WX10_serveFact WX10_leaseFact Q a0 x1 x2 x3 M
theorem PX10_fact {sh : Nat → Nat × Nat} {t : Nat} {rm : Nat × Nat × Nat} {cs : Nat × Nat} {R : f_Rt} {a0 : Nat} {x1 : Int} {x2 : Int} {x3 : Int} {M : e_M} (C : f_Hy sh t yX10_fact rm cs 8 (lX10_fact WX10_at WX10_lot WX10_lotFact WX10_personFact WX10_serveFact WX10_leaseFact) R) (h : WX10_fact a0 x1 x2 x3 M (fun r => R (some (.inl r)) M)) : f_E sh t YX10_fact rm cs (f_Q sh t R) 0 [.inr (.inr (.inl (10, 15, a0))), .inl x1, .inl x2, .inl x3, .inr (.inr (.inr ()))] [] M :=
  BX10_fact C h
def wX10_fact : f_Wt := f_wm [(3, 10, 15), (1, 0, 0), (1, 0, 0), (1, 0, 0)] (fun ar M R => WX10_fact (f_va (f_nth ar 0)) (f_vi (f_nth ar 1)) (f_vi (f_nth ar 2)) (f_vi (f_nth ar 3)) M (fun r => R (some (.inl r)) M))
theorem TX10_fact {sh : Nat → Nat × Nat} {t : Nat} : f_Mt sh t YX10_fact 8 (wX10_fact) :=
  f_Mt_of (k := 1) (Nat.le_of_ble_eq_true rfl) rfl rfl (fun ar M R rm cs h1 h2 h3 hX h => PX10_fact ⟨Nat.le_of_ble_eq_true rfl, h1, h2, h3, ⟨(f_Mt.up (Nat.le_of_ble_eq_true rfl) TX10_at), (f_Mt.up (Nat.le_of_ble_eq_true rfl) TX10_lot), (f_Mt.up (Nat.le_of_ble_eq_true rfl) TX10_lotFact), (f_Mt.up (Nat.le_of_ble_eq_true rfl) TX10_personFact), (f_Mt.up (Nat.le_of_ble_eq_true rfl) TX10_serveFact), (f_Mt.up (Nat.le_of_ble_eq_true rfl) TX10_leaseFact), trivial⟩, hX⟩ h)
def VX10_ownerFact_38 (c_X10_isThere : Nat → Int → Int → e_M → (Int → Prop) → Prop) (Q : Int → Prop) (xs0 : Int) (M : e_M) : Prop :=
  (Q (e_w32 xs0))
def VX10_ownerFact_46 (c_X10_isThere : Nat → Int → Int → e_M → (Int → Prop) → Prop) (k74 : Nat → Nat → Int → Int → Int → Int → Prop) (Q : Int → Prop) (a0 : Nat) (a1 : Nat) (x2 : Int) (x4 : Int) (x5 : Int) (M : e_M) : Prop :=
  ((0 ≤ x2 ∧ x2 < 14) ∧ (((M (a1 + 6) (x2.toNat)) ≤ x5 → (Q x4)) ∧ (x5 < (M (a1 + 6) (x2.toNat)) → (c_X10_isThere a0 1 x5 M (fun r1 => ((r1 = 0 → (k74 a0 a1 x2 x5 0 x4)) ∧ (¬ r1 = 0 → (k74 a0 a1 x2 x5 1 x4))))))))
def VX10_ownerFact_74 (c_X10_isThere : Nat → Int → Int → e_M → (Int → Prop) → Prop) (k46 : Nat → Nat → Int → Int → Int → Prop) (Q : Int → Prop) (a0 : Nat) (a1 : Nat) (x2 : Int) (x5 : Int) (xs1 : Int) (xs0 : Int) (M : e_M) : Prop :=
  (k46 a0 a1 x2 (e_w32 (xs0 + xs1)) (e_w32 (x5 + 1)))
def VX10_ownerFact (c_X10_isThere : Nat → Int → Int → e_M → (Int → Prop) → Prop) (k46 : Nat → Nat → Int → Int → Int → Prop) (k38 : Int → Prop) (Q : Int → Prop) (a0 : Nat) (a1 : Nat) (x2 : Int) (x3 : Int) (M : e_M) : Prop :=
  ((x2 < 0 → (Q (-1))) ∧ (0 ≤ x2 → ((x2 < (M a1 8) → ((x3 ≤ 0 → (k46 a0 a1 x2 0 0)) ∧ (0 < x3 → ((¬ x3 = 1 → ((0 ≤ x2 ∧ x2 < 14) ∧ (k38 (M (a1 + 8) (x2.toNat))))) ∧ (x3 = 1 → ((0 ≤ x2 ∧ x2 < 14) ∧ (k38 (M (a1 + 7) (x2.toNat))))))))) ∧ ((M a1 8) ≤ x2 → (Q (-1))))))
def yX10_ownerFact (i : Nat) : e_Y := x_get YX10_ownerFact [YX10_isThere] i
def pX10_ownerFactf : List x_I := [(0, 2, 1, 2, 0, 0, []), (1, 17, 12, 2, 7, 0, []), (4, 2, 1, 2, 0, 0, []), (5, 4, 1, 1, 0, 0, []), (6, 25, 4, 8, 0, 0, []), (9, 18, 14, 2, 9, 0, []), (12, 0, 1, 0, 0, (-1), []), (13, 41, 0, 0, 0, 0, []), (14, 2, 1, 3, 0, 0, []), (15, 17, 40, 5, 26, 0, []), (18, 2, 1, 3, 0, 0, []), (19, 0, 1, 0, 0, 1, []), (20, 18, 32, 1, 19, 0, []), (23, 4, 1, 1, 0, 0, []), (24, 25, 4, 6, 4, 0, [(0, 23, 14), (0, 1, 7)]), (27, 2, 1, 2, 0, 0, []), (28, 27, 0, 1, 0, 0, []), (29, 19, 38, 0, 23, 0, []), (32, 4, 1, 1, 0, 0, []), (33, 25, 4, 7, 4, 0, [(0, 23, 14), (0, 1, 8)]), (36, 2, 1, 2, 0, 0, []), (37, 27, 0, 1, 0, 0, []), (38, 49, 0, 0, 0, 0, []), (38, 15, 0, 0, 0, 0, []), (39, 41, 0, 0, 0, 0, []), (40, 0, 1, 0, 0, 0, []), (41, 5, 2, 4, 0, 0, []), (43, 0, 1, 0, 0, 0, []), (44, 5, 2, 5, 0, 0, []), (46, 49, 0, 0, 0, 0, []), (46, 2, 2, 5, 0, 0, []), (48, 4, 1, 1, 0, 0, []), (49, 25, 4, 5, 4, 0, [(0, 20, 14), (0, 1, 6)]), (52, 2, 1, 2, 0, 0, []), (53, 27, 0, 0, 0, 0, []), (54, 18, 83, 3, 51, 0, []), (57, 2, 2, 4, 0, 0, []), (59, 4, 1, 0, 0, 0, []), (60, 0, 1, 0, 0, 1, []), (61, 2, 2, 5, 0, 0, []), (63, 40, 0, 3, 12, 0, []), (66, 17, 73, 0, 45, 0, []), (69, 0, 1, 0, 0, 1, []), (70, 19, 74, 0, 46, 0, []), (73, 0, 1, 0, 0, 0, []), (74, 49, 0, 0, 0, 0, []), (74, 9, 0, 0, 0, 0, []), (75, 5, 2, 4, 0, 0, []), (77, 8, 0, 5, 0, 1, []), (80, 19, 46, 0, 30, 0, []), (83, 2, 2, 4, 0, 0, []), (85, 41, 0, 0, 0, 0, [])]
set_option maxRecDepth 20000 in
theorem qX10_ownerFactf : f_all yX10_ownerFact YX10_ownerFact pX10_ownerFactf :=
  ⟨f_iload_n (n := 2) (e_dx DX10_ownerFact_0 0 rfl) rfl,
  f_if_lt (e_dx DX10_ownerFact_0 1 rfl) rfl,
  f_iload_n (n := 2) (e_dx DX10_ownerFact_0 2 rfl) rfl,
  f_aload_n (n := 1) (e_dx DX10_ownerFact_0 3 rfl) rfl,
  f_getf (e_dx DX10_ownerFact_0 4 rfl) fX10_206 rfl (by decide) (by decide) (by decide),
  f_icmp_lt (e_dx DX10_ownerFact_0 5 rfl) rfl,
  f_iconst (e_dx DX10_ownerFact_0 6 rfl) ⟨by decide, by decide⟩,
  ⟨(e_dx DX10_ownerFact_0 7 rfl), rfl⟩,
  f_iload_n (n := 3) (e_dx DX10_ownerFact_0 8 rfl) rfl,
  f_if_le (e_dx DX10_ownerFact_0 9 rfl) rfl,
  f_iload_n (n := 3) (e_dx DX10_ownerFact_0 10 rfl) rfl,
  f_iconst (e_dx DX10_ownerFact_0 11 rfl) ⟨by decide, by decide⟩,
  f_icmp_ne (e_dx DX10_ownerFact_0 12 rfl) rfl,
  f_aload_n (n := 1) (e_dx DX10_ownerFact_0 13 rfl) rfl,
  f_getA (e_dx DX10_ownerFact_0 14 rfl) fX10_227 rfl (by decide) (Nat.le_of_ble_eq_true rfl) rfl (by decide),
  f_iload_n (n := 2) (e_dx DX10_ownerFact_0 15 rfl) rfl,
  f_laload (e_dx DX10_ownerFact_0 16 rfl),
  f_g19 (e_dx DX10_ownerFact_0 17 rfl) rfl,
  f_aload_n (n := 1) (e_dx DX10_ownerFact_0 18 rfl) rfl,
  f_getA (e_dx DX10_ownerFact_0 19 rfl) fX10_231 rfl (by decide) (Nat.le_of_ble_eq_true rfl) rfl (by decide),
  f_iload_n (n := 2) (e_dx DX10_ownerFact_0 20 rfl) rfl,
  f_laload (e_dx DX10_ownerFact_0 21 rfl),
  trivial,
  f_g15 (e_dx DX10_ownerFact_0 22 rfl),
  ⟨(e_dx DX10_ownerFact_0 23 rfl), rfl⟩,
  f_iconst (e_dx DX10_ownerFact_0 24 rfl) ⟨by decide, by decide⟩,
  f_istore (e_dx DX10_ownerFact_0 25 rfl) (by decide),
  f_iconst (e_dx DX10_ownerFact_0 26 rfl) ⟨by decide, by decide⟩,
  f_istore (e_dx DX10_ownerFact_0 27 rfl) (by decide),
  trivial,
  f_iload (e_dx DX10_ownerFact_0 28 rfl),
  f_aload_n (n := 1) (e_dx DX10_ownerFact_0 29 rfl) rfl,
  f_getA (e_dx DX10_ownerFact_0 30 rfl) fX10_234 rfl (by decide) (Nat.le_of_ble_eq_true rfl) rfl (by decide),
  f_iload_n (n := 2) (e_dx DX10_ownerFact_0 31 rfl) rfl,
  f_iaload (e_dx DX10_ownerFact_0 32 rfl),
  f_icmp_ge (e_dx DX10_ownerFact_0 33 rfl) rfl,
  f_iload (e_dx DX10_ownerFact_0 34 rfl),
  f_aload_n (n := 0) (e_dx DX10_ownerFact_0 35 rfl) rfl,
  f_iconst (e_dx DX10_ownerFact_0 36 rfl) ⟨by decide, by decide⟩,
  f_iload (e_dx DX10_ownerFact_0 37 rfl),
  x_callV (e_dx DX10_ownerFact_0 38 rfl) mwX10_isThere vwX10_isThere cX10_158 rfl,
  f_if_eq (e_dx DX10_ownerFact_0 39 rfl) rfl,
  f_iconst (e_dx DX10_ownerFact_1 0 rfl) ⟨by decide, by decide⟩,
  f_g19 (e_dx DX10_ownerFact_1 1 rfl) rfl,
  f_iconst (e_dx DX10_ownerFact_1 2 rfl) ⟨by decide, by decide⟩,
  trivial,
  f_iadd (e_dx DX10_ownerFact_1 3 rfl),
  f_istore (e_dx DX10_ownerFact_1 4 rfl) (by decide),
  f_g8 (e_dx DX10_ownerFact_1 5 rfl) ⟨by decide, by decide⟩,
  f_g19 (e_dx DX10_ownerFact_1 6 rfl) rfl,
  f_iload (e_dx DX10_ownerFact_1 7 rfl),
  ⟨(e_dx DX10_ownerFact_1 8 rfl), rfl⟩, trivial⟩
def lX10_ownerFact (c_X10_isThere : Nat → Int → Int → e_M → (Int → Prop) → Prop) : List (Nat × f_Wt) := [(0, f_wm [(3, 10, 15), (1, 0, 0), (1, 0, 0)] (fun ar M R => c_X10_isThere (f_va (f_nth ar 0)) (f_vi (f_nth ar 1)) (f_vi (f_nth ar 2)) M (fun r => R (some (.inl r)) M)))]
set_option maxRecDepth 20000 in
theorem BX10_ownerFact_38 {sh : Nat → Nat × Nat} {t : Nat} {rm : Nat × Nat × Nat} {cs : Nat × Nat} {R : f_Rt} {c_X10_isThere : Nat → Int → Int → e_M → (Int → Prop) → Prop} {xs0 : Int} {M : e_M} (C : f_Hy sh t yX10_ownerFact rm cs 6 (lX10_ownerFact c_X10_isThere) R) (h : VX10_ownerFact_38 c_X10_isThere (fun r => R (some (.inl r)) M) xs0 M) : f_E sh t YX10_ownerFact rm cs (f_Q sh t R) 38 [.inr (.inr (.inr ())), .inr (.inr (.inr ())), .inr (.inr (.inr ())), .inr (.inr (.inr ())), .inr (.inr (.inr ())), .inr (.inr (.inr ()))] [.inr (.inl xs0)] M :=
  f_go (KC := f_kc []) C qX10_ownerFactf f_kc_nil 54 23 h
set_option maxRecDepth 20000 in
theorem BX10_ownerFact_46 {sh : Nat → Nat × Nat} {t : Nat} {rm : Nat × Nat × Nat} {cs : Nat × Nat} {R : f_Rt} {c_X10_isThere : Nat → Int → Int → e_M → (Int → Prop) → Prop} {k74 : Nat → Nat → Int → Int → Int → Int → Prop} {a0 : Nat} {a1 : Nat} {x2 : Int} {x4 : Int} {x5 : Int} {M : e_M} (C : f_Hy sh t yX10_ownerFact rm cs 6 (lX10_ownerFact c_X10_isThere) R) (h74 : ∀ (a0 : Nat) (a1 : Nat) (x2 : Int) (x5 : Int) (xs1 : Int) (xs0 : Int), k74 a0 a1 x2 x5 xs1 xs0 → f_E sh t YX10_ownerFact rm cs (f_Q sh t R) 74 [.inr (.inr (.inl (10, 15, a0))), .inr (.inr (.inl (4, 9, a1))), .inl x2, .inr (.inr (.inr ())), .inr (.inr (.inr ())), .inl x5] [.inl xs1, .inl xs0] M) (h : VX10_ownerFact_46 c_X10_isThere k74 (fun r => R (some (.inl r)) M) a0 a1 x2 x4 x5 M) : f_E sh t YX10_ownerFact rm cs (f_Q sh t R) 46 [.inr (.inr (.inl (10, 15, a0))), .inr (.inr (.inl (4, 9, a1))), .inl x2, .inr (.inr (.inr ())), .inl x4, .inl x5] [] M := by
  rw [f_kk6 M k74] at h
  exact f_go (KC := f_kc [(74, f_pl [(3, 10, 15), (3, 4, 9), (1, 0, 0), (0, 0, 0), (0, 0, 0), (1, 0, 0)] [(1, 0, 0), (1, 0, 0)] (fun ls st M2 => M2 = M ∧ (k74 (f_va (f_nth ls 0)) (f_va (f_nth ls 1)) (f_vi (f_nth ls 2)) (f_vi (f_nth ls 5)) (f_vi (f_nth st 0)) (f_vi (f_nth st 1)))))]) C qX10_ownerFactf (f_kc_cons (f_pl_ok rfl (fun ls st M2 ⟨e, hh⟩ => by subst e; exact h74 _ _ _ _ _ _ hh)) f_kc_nil) 54 30 h
set_option maxRecDepth 20000 in
theorem BX10_ownerFact_74 {sh : Nat → Nat × Nat} {t : Nat} {rm : Nat × Nat × Nat} {cs : Nat × Nat} {R : f_Rt} {c_X10_isThere : Nat → Int → Int → e_M → (Int → Prop) → Prop} {k46 : Nat → Nat → Int → Int → Int → Prop} {a0 : Nat} {a1 : Nat} {x2 : Int} {x5 : Int} {xs1 : Int} {xs0 : Int} {M : e_M} (C : f_Hy sh t yX10_ownerFact rm cs 6 (lX10_ownerFact c_X10_isThere) R) (h46 : ∀ (a0 : Nat) (a1 : Nat) (x2 : Int) (x4 : Int) (x5 : Int), k46 a0 a1 x2 x4 x5 → f_E sh t YX10_ownerFact rm cs (f_Q sh t R) 46 [.inr (.inr (.inl (10, 15, a0))), .inr (.inr (.inl (4, 9, a1))), .inl x2, .inr (.inr (.inr ())), .inl x4, .inl x5] [] M) (h : VX10_ownerFact_74 c_X10_isThere k46 (fun r => R (some (.inl r)) M) a0 a1 x2 x5 xs1 xs0 M) : f_E sh t YX10_ownerFact rm cs (f_Q sh t R) 74 [.inr (.inr (.inl (10, 15, a0))), .inr (.inr (.inl (4, 9, a1))), .inl x2, .inr (.inr (.inr ())), .inr (.inr (.inr ())), .inl x5] [.inl xs1, .inl xs0] M := by
  rw [f_kk5 M k46] at h
  exact f_go (KC := f_kc [(46, f_pl [(3, 10, 15), (3, 4, 9), (1, 0, 0), (0, 0, 0), (1, 0, 0), (1, 0, 0)] [] (fun ls st M2 => M2 = M ∧ (k46 (f_va (f_nth ls 0)) (f_va (f_nth ls 1)) (f_vi (f_nth ls 2)) (f_vi (f_nth ls 4)) (f_vi (f_nth ls 5)))))]) C qX10_ownerFactf (f_kc_cons (f_pl_ok rfl (fun ls st M2 ⟨e, hh⟩ => by subst e; exact h46 _ _ _ _ _ hh)) f_kc_nil) 54 46 h
set_option maxRecDepth 20000 in
theorem BX10_ownerFact {sh : Nat → Nat × Nat} {t : Nat} {rm : Nat × Nat × Nat} {cs : Nat × Nat} {R : f_Rt} {c_X10_isThere : Nat → Int → Int → e_M → (Int → Prop) → Prop} {k46 : Nat → Nat → Int → Int → Int → Prop} {k38 : Int → Prop} {a0 : Nat} {a1 : Nat} {x2 : Int} {x3 : Int} {M : e_M} (C : f_Hy sh t yX10_ownerFact rm cs 6 (lX10_ownerFact c_X10_isThere) R) (h46 : ∀ (a0 : Nat) (a1 : Nat) (x2 : Int) (x4 : Int) (x5 : Int), k46 a0 a1 x2 x4 x5 → f_E sh t YX10_ownerFact rm cs (f_Q sh t R) 46 [.inr (.inr (.inl (10, 15, a0))), .inr (.inr (.inl (4, 9, a1))), .inl x2, .inr (.inr (.inr ())), .inl x4, .inl x5] [] M) (h38 : ∀ (xs0 : Int), k38 xs0 → f_E sh t YX10_ownerFact rm cs (f_Q sh t R) 38 [.inr (.inr (.inr ())), .inr (.inr (.inr ())), .inr (.inr (.inr ())), .inr (.inr (.inr ())), .inr (.inr (.inr ())), .inr (.inr (.inr ()))] [.inr (.inl xs0)] M) (h : VX10_ownerFact c_X10_isThere k46 k38 (fun r => R (some (.inl r)) M) a0 a1 x2 x3 M) : f_E sh t YX10_ownerFact rm cs (f_Q sh t R) 0 [.inr (.inr (.inl (10, 15, a0))), .inr (.inr (.inl (4, 9, a1))), .inl x2, .inl x3, .inr (.inr (.inr ())), .inr (.inr (.inr ()))] [] M := by
  rw [f_kk5 M k46] at h
  rw [f_kk1 M k38] at h
  exact f_go (KC := f_kc [(46, f_pl [(3, 10, 15), (3, 4, 9), (1, 0, 0), (0, 0, 0), (1, 0, 0), (1, 0, 0)] [] (fun ls st M2 => M2 = M ∧ (k46 (f_va (f_nth ls 0)) (f_va (f_nth ls 1)) (f_vi (f_nth ls 2)) (f_vi (f_nth ls 4)) (f_vi (f_nth ls 5))))), (38, f_pl [(0, 0, 0), (0, 0, 0), (0, 0, 0), (0, 0, 0), (0, 0, 0), (0, 0, 0)] [(2, 0, 0)] (fun ls st M2 => M2 = M ∧ (k38 (f_vi (f_nth st 0)))))]) C qX10_ownerFactf (f_kc_cons (f_pl_ok rfl (fun ls st M2 ⟨e, hh⟩ => by subst e; exact h46 _ _ _ _ _ hh)) (f_kc_cons (f_pl_ok rfl (fun ls st M2 ⟨e, hh⟩ => by subst e; exact h38 _ hh)) f_kc_nil)) 54 0 h
def WX10_ownerFact_38 (M : e_M) (Q : Int → Prop) (xs0 : Int) : Prop :=
  VX10_ownerFact_38 WX10_isThere Q xs0 M
def WX10_ownerFact_74 (M : e_M) (H46 : Nat → Nat → Int → Int → Int → Prop) (Q : Int → Prop) (a0 : Nat) (a1 : Nat) (x2 : Int) (x5 : Int) (xs1 : Int) (xs0 : Int) : Prop :=
  VX10_ownerFact_74 WX10_isThere H46 Q a0 a1 x2 x5 xs1 xs0 M
def WX10_ownerFact_46 (M : e_M) (Q : Int → Prop) : Nat → Nat → Nat → Int → Int → Int → Prop
  | 0, _, _, _, _, _ => False
  | n + 1, a0, a1, x2, x4, x5 =>
    VX10_ownerFact_46 WX10_isThere (WX10_ownerFact_74 M (WX10_ownerFact_46 M Q n) Q) Q a0 a1 x2 x4 x5 M
def WX10_ownerFact (a0 : Nat) (a1 : Nat) (x2 : Int) (x3 : Int) (M : e_M) (Q : Int → Prop) : Prop :=
  VX10_ownerFact WX10_isThere (fun a0 a1 x2 x4 x5 => ∃ j, WX10_ownerFact_46 M Q j a0 a1 x2 x4 x5) (WX10_ownerFact_38 M Q) Q a0 a1 x2 x3 M
theorem PX10_ownerFact_38 {sh : Nat → Nat × Nat} {t : Nat} {rm : Nat × Nat × Nat} {cs : Nat × Nat} {R : f_Rt} {xs0 : Int} {M : e_M} (C : f_Hy sh t yX10_ownerFact rm cs 6 (lX10_ownerFact WX10_isThere) R) (h : WX10_ownerFact_38 M (fun r => R (some (.inl r)) M) xs0) : f_E sh t YX10_ownerFact rm cs (f_Q sh t R) 38 [.inr (.inr (.inr ())), .inr (.inr (.inr ())), .inr (.inr (.inr ())), .inr (.inr (.inr ())), .inr (.inr (.inr ())), .inr (.inr (.inr ()))] [.inr (.inl xs0)] M :=
  BX10_ownerFact_38 C h
theorem PX10_ownerFact_74 {sh : Nat → Nat × Nat} {t : Nat} {rm : Nat × Nat × Nat} {cs : Nat × Nat} {R : f_Rt} {H46 : Nat → Nat → Int → Int → Int → Prop} {a0 : Nat} {a1 : Nat} {x2 : Int} {x5 : Int} {xs1 : Int} {xs0 : Int} {M : e_M} (C : f_Hy sh t yX10_ownerFact rm cs 6 (lX10_ownerFact WX10_isThere) R) (g46 : ∀ (a0 : Nat) (a1 : Nat) (x2 : Int) (x4 : Int) (x5 : Int), H46 a0 a1 x2 x4 x5 → f_E sh t YX10_ownerFact rm cs (f_Q sh t R) 46 [.inr (.inr (.inl (10, 15, a0))), .inr (.inr (.inl (4, 9, a1))), .inl x2, .inr (.inr (.inr ())), .inl x4, .inl x5] [] M) (h : WX10_ownerFact_74 M H46 (fun r => R (some (.inl r)) M) a0 a1 x2 x5 xs1 xs0) : f_E sh t YX10_ownerFact rm cs (f_Q sh t R) 74 [.inr (.inr (.inl (10, 15, a0))), .inr (.inr (.inl (4, 9, a1))), .inl x2, .inr (.inr (.inr ())), .inr (.inr (.inr ())), .inl x5] [.inl xs1, .inl xs0] M :=
  BX10_ownerFact_74 C g46 h
theorem PX10_ownerFact_46 {sh : Nat → Nat × Nat} {t : Nat} {rm : Nat × Nat × Nat} {cs : Nat × Nat} {R : f_Rt} {M : e_M} (C : f_Hy sh t yX10_ownerFact rm cs 6 (lX10_ownerFact WX10_isThere) R) : ∀ (n : Nat) (a0 : Nat) (a1 : Nat) (x2 : Int) (x4 : Int) (x5 : Int), WX10_ownerFact_46 M (fun r => R (some (.inl r)) M) n a0 a1 x2 x4 x5 → f_E sh t YX10_ownerFact rm cs (f_Q sh t R) 46 [.inr (.inr (.inl (10, 15, a0))), .inr (.inr (.inl (4, 9, a1))), .inl x2, .inr (.inr (.inr ())), .inl x4, .inl x5] [] M := by
  intro n
  induction n with
  | zero => intro a0 a1 x2 x4 x5 h; exact h.elim
  | succ n ih => intro a0 a1 x2 x4 x5 h; exact BX10_ownerFact_46 C (fun a0 a1 x2 x5 xs1 xs0 h => PX10_ownerFact_74 C ih h) h
theorem PX10_ownerFact {sh : Nat → Nat × Nat} {t : Nat} {rm : Nat × Nat × Nat} {cs : Nat × Nat} {R : f_Rt} {a0 : Nat} {a1 : Nat} {x2 : Int} {x3 : Int} {M : e_M} (C : f_Hy sh t yX10_ownerFact rm cs 6 (lX10_ownerFact WX10_isThere) R) (h : WX10_ownerFact a0 a1 x2 x3 M (fun r => R (some (.inl r)) M)) : f_E sh t YX10_ownerFact rm cs (f_Q sh t R) 0 [.inr (.inr (.inl (10, 15, a0))), .inr (.inr (.inl (4, 9, a1))), .inl x2, .inl x3, .inr (.inr (.inr ())), .inr (.inr (.inr ()))] [] M :=
  BX10_ownerFact C (fun a0 a1 x2 x4 x5 ⟨j, h⟩ => PX10_ownerFact_46 C j _ _ _ _ _ h) (fun xs0 h => PX10_ownerFact_38 C h) h
def wX10_ownerFact : f_Wt := f_wm [(3, 10, 15), (3, 4, 9), (1, 0, 0), (1, 0, 0)] (fun ar M R => WX10_ownerFact (f_va (f_nth ar 0)) (f_va (f_nth ar 1)) (f_vi (f_nth ar 2)) (f_vi (f_nth ar 3)) M (fun r => R (some (.inl r)) M))
theorem TX10_ownerFact {sh : Nat → Nat × Nat} {t : Nat} : f_Mt sh t YX10_ownerFact 6 (wX10_ownerFact) :=
  f_Mt_of (k := 2) (Nat.le_of_ble_eq_true rfl) rfl rfl (fun ar M R rm cs h1 h2 h3 hX h => PX10_ownerFact ⟨Nat.le_of_ble_eq_true rfl, h1, h2, h3, ⟨(f_Mt.up (Nat.le_of_ble_eq_true rfl) TX10_isThere), trivial⟩, hX⟩ h)
def VX10_mix (Q : Int → Prop) (x0 : Int) (x2 : Int) (M : e_M) : Prop :=
  (Q (f_xorJ (e_w64 (x0 * 1000003)) x2))
def yX10_mix (i : Nat) : e_Y := x_get YX10_mix [] i
def pX10_mixf : List x_I := [(0, 3, 1, 0, 0, 0, []), (1, 1, 3, 0, 0, 1000003, []), (4, 10, 0, 2, 0, 0, []), (5, 3, 1, 2, 0, 0, []), (6, 10, 0, 7, 0, 0, []), (7, 43, 0, 0, 0, 0, [])]
set_option maxRecDepth 20000 in
theorem qX10_mixf : f_all yX10_mix YX10_mix pX10_mixf :=
  ⟨f_lload_n (n := 0) (e_dx DX10_mix_0 0 rfl) rfl,
  f_ldc2 (e_dx DX10_mix_0 1 rfl) hX10_236 rfl ⟨by decide, by decide⟩,
  f_lmul (e_dx DX10_mix_0 2 rfl),
  f_lload_n (n := 2) (e_dx DX10_mix_0 3 rfl) rfl,
  f_lxor (e_dx DX10_mix_0 4 rfl),
  ⟨(e_dx DX10_mix_0 5 rfl), rfl⟩, trivial⟩
def lX10_mix : List (Nat × f_Wt) := []
set_option maxRecDepth 20000 in
theorem BX10_mix {sh : Nat → Nat × Nat} {t : Nat} {rm : Nat × Nat × Nat} {cs : Nat × Nat} {R : f_Rt} {x0 : Int} {x2 : Int} {M : e_M} (C : f_Hy sh t yX10_mix rm cs 4 (lX10_mix) R) (h : VX10_mix (fun r => R (some (.inr (.inl r))) M) x0 x2 M) : f_E sh t YX10_mix rm cs (f_Q sh t R) 0 [.inr (.inl x0), .inr (.inr (.inr ())), .inr (.inl x2), .inr (.inr (.inr ()))] [] M :=
  f_go (KC := f_kc []) C qX10_mixf f_kc_nil 8 0 h
def WX10_mix (x0 : Int) (x2 : Int) (M : e_M) (Q : Int → Prop) : Prop :=
  VX10_mix Q x0 x2 M
theorem PX10_mix {sh : Nat → Nat × Nat} {t : Nat} {rm : Nat × Nat × Nat} {cs : Nat × Nat} {R : f_Rt} {x0 : Int} {x2 : Int} {M : e_M} (C : f_Hy sh t yX10_mix rm cs 4 (lX10_mix) R) (h : WX10_mix x0 x2 M (fun r => R (some (.inr (.inl r))) M)) : f_E sh t YX10_mix rm cs (f_Q sh t R) 0 [.inr (.inl x0), .inr (.inr (.inr ())), .inr (.inl x2), .inr (.inr (.inr ()))] [] M :=
  BX10_mix C h
def wX10_mix : f_Wt := f_wm [(2, 0, 0), (2, 0, 0)] (fun ar M R => WX10_mix (f_vi (f_nth ar 0)) (f_vi (f_nth ar 1)) M (fun r => R (some (.inr (.inl r))) M))
theorem TX10_mix {sh : Nat → Nat × Nat} {t : Nat} : f_Mt sh t YX10_mix 4 (wX10_mix) :=
  f_Mt_of (k := 0) (Nat.le_of_ble_eq_true rfl) rfl rfl (fun ar M R rm cs h1 h2 h3 hX h => PX10_mix ⟨Nat.le_of_ble_eq_true rfl, h1, h2, h3, trivial, hX⟩ h)
def VX10_mixLot_6 (c_X10_mix : Int → Int → e_M → (Int → Prop) → Prop) (c_X10_ownerFact : Nat → Nat → Int → Int → e_M → (Int → Prop) → Prop) (c_X8_get : Nat → Int → e_M → (Int → Prop) → Prop) (c_X10_at : Nat → Int → Int → e_M → (Nat → Prop) → Prop) (k59 : Nat → Nat → Int → Int → Prop) (k6 : Nat → Nat → Int → Int → Prop) (Q : Int → Prop) (a0 : Nat) (a3 : Nat) (x4 : Int) (x6 : Int) (M : e_M) : Prop :=
  (((M (a3 + 1) 2) ≤ x6 → (k59 a0 a3 x4 0)) ∧ (x6 < (M (a3 + 1) 2) → ((0 ≤ x6 ∧ x6 < 40) ∧ (c_X10_mix x4 (M (a3 + 1 + 1) (x6.toNat)) M (fun r1 => ((0 ≤ x6 ∧ x6 < 40) ∧ (c_X10_mix r1 (M (a3 + 1 + 2) (x6.toNat)) M (fun r2 => (k6 a0 a3 r2 (e_w32 (x6 + 1)))))))))))
def VX10_mixLot_59 (c_X10_mix : Int → Int → e_M → (Int → Prop) → Prop) (c_X10_ownerFact : Nat → Nat → Int → Int → e_M → (Int → Prop) → Prop) (c_X8_get : Nat → Int → e_M → (Int → Prop) → Prop) (c_X10_at : Nat → Int → Int → e_M → (Nat → Prop) → Prop) (k109 : Nat → Nat → Int → Int → Prop) (k71 : Nat → Nat → Int → Int → Int → Prop) (Q : Int → Prop) (a0 : Nat) (a3 : Nat) (x4 : Int) (x6 : Int) (M : e_M) : Prop :=
  (((M a3 8) ≤ x6 → (k109 a0 a3 x4 0)) ∧ (x6 < (M a3 8) → (k71 a0 a3 x4 x6 0)))
def VX10_mixLot_71 (c_X10_mix : Int → Int → e_M → (Int → Prop) → Prop) (c_X10_ownerFact : Nat → Nat → Int → Int → e_M → (Int → Prop) → Prop) (c_X8_get : Nat → Int → e_M → (Int → Prop) → Prop) (c_X10_at : Nat → Int → Int → e_M → (Nat → Prop) → Prop) (k59 : Nat → Nat → Int → Int → Prop) (k71 : Nat → Nat → Int → Int → Int → Prop) (Q : Int → Prop) (a0 : Nat) (a3 : Nat) (x4 : Int) (x6 : Int) (x7 : Int) (M : e_M) : Prop :=
  ((3 ≤ x7 → (k59 a0 a3 x4 (e_w32 (x6 + 1)))) ∧ (x7 < 3 → (c_X10_ownerFact a0 a3 x6 x7 M (fun r1 => (c_X10_mix x4 r1 M (fun r2 => (k71 a0 a3 r2 x6 (e_w32 (x7 + 1)))))))))
def VX10_mixLot_109 (c_X10_mix : Int → Int → e_M → (Int → Prop) → Prop) (c_X10_ownerFact : Nat → Nat → Int → Int → e_M → (Int → Prop) → Prop) (c_X8_get : Nat → Int → e_M → (Int → Prop) → Prop) (c_X10_at : Nat → Int → Int → e_M → (Nat → Prop) → Prop) (k109 : Nat → Nat → Int → Int → Prop) (Q : Int → Prop) (a0 : Nat) (a3 : Nat) (x4 : Int) (x6 : Int) (M : e_M) : Prop :=
  (((M (a3 + 4) 1) ≤ x6 → (Q x4)) ∧ (x6 < (M (a3 + 4) 1) → (c_X8_get (a3 + 4) x6 M (fun r1 => (c_X10_at a0 2 r1 M (fun r2 => (c_X10_mix x4 (M r2 0) M (fun r3 => (k109 a0 a3 r3 (e_w32 (x6 + 1)))))))))))
def VX10_mixLot (c_X10_mix : Int → Int → e_M → (Int → Prop) → Prop) (c_X10_ownerFact : Nat → Nat → Int → Int → e_M → (Int → Prop) → Prop) (c_X8_get : Nat → Int → e_M → (Int → Prop) → Prop) (c_X10_at : Nat → Int → Int → e_M → (Nat → Prop) → Prop) (k6 : Nat → Nat → Int → Int → Prop) (Q : Int → Prop) (a0 : Nat) (x1 : Int) (a3 : Nat) (M : e_M) : Prop :=
  (k6 a0 a3 x1 0)
def yX10_mixLot (i : Nat) : e_Y := x_get YX10_mixLot [YX10_mix, YX10_ownerFact, YX8_get, YX10_at] i
def pX10_mixLotf : List x_I := [(0, 3, 1, 1, 0, 0, []), (1, 6, 2, 4, 0, 0, []), (3, 0, 1, 0, 0, 0, []), (4, 5, 2, 6, 0, 0, []), (6, 49, 0, 0, 0, 0, []), (6, 2, 2, 6, 0, 0, []), (8, 4, 1, 3, 0, 0, []), (9, 25, 4, 3, 4, 0, [(0, 3, 3), (0, 1, 1)]), (12, 25, 3, 2, 0, 0, []), (15, 18, 56, 3, 29, 0, []), (18, 3, 2, 4, 0, 0, []), (20, 4, 1, 3, 0, 0, []), (21, 25, 4, 3, 4, 0, [(0, 3, 3), (0, 1, 1)]), (24, 25, 3, 0, 4, 0, [(0, 20, 40), (0, 1, 1)]), (27, 2, 2, 6, 0, 0, []), (29, 27, 0, 0, 0, 0, []), (30, 14, 0, 0, 0, 0, []), (31, 40, 0, 2, 0, 0, []), (34, 4, 1, 3, 0, 0, []), (35, 25, 4, 3, 4, 0, [(0, 3, 3), (0, 1, 1)]), (38, 25, 3, 1, 4, 0, [(0, 20, 40), (0, 1, 2)]), (41, 2, 2, 6, 0, 0, []), (43, 27, 0, 0, 0, 0, []), (44, 14, 0, 0, 0, 0, []), (45, 40, 0, 2, 0, 0, []), (48, 6, 2, 4, 0, 0, []), (50, 8, 0, 6, 0, 1, []), (53, 19, 6, 0, 5, 0, []), (56, 0, 1, 0, 0, 0, []), (57, 5, 2, 6, 0, 0, []), (59, 49, 0, 0, 0, 0, []), (59, 2, 2, 6, 0, 0, []), (61, 4, 1, 3, 0, 0, []), (62, 25, 4, 8, 0, 0, []), (65, 18, 106, 3, 55, 0, []), (68, 0, 1, 0, 0, 0, []), (69, 5, 2, 7, 0, 0, []), (71, 49, 0, 0, 0, 0, []), (71, 2, 2, 7, 0, 0, []), (73, 0, 1, 0, 0, 3, []), (74, 18, 100, 3, 53, 0, []), (77, 3, 2, 4, 0, 0, []), (79, 4, 1, 0, 0, 0, []), (80, 4, 1, 3, 0, 0, []), (81, 2, 2, 6, 0, 0, []), (83, 2, 2, 7, 0, 0, []), (85, 40, 1, 4, 12, 0, []), (88, 14, 0, 0, 0, 0, []), (89, 40, 0, 2, 0, 0, []), (92, 6, 2, 4, 0, 0, []), (94, 8, 0, 7, 0, 1, []), (97, 19, 71, 0, 38, 0, []), (100, 8, 0, 6, 0, 1, []), (103, 19, 59, 0, 31, 0, []), (106, 0, 1, 0, 0, 0, []), (107, 5, 2, 6, 0, 0, []), (109, 49, 0, 0, 0, 0, []), (109, 2, 2, 6, 0, 0, []), (111, 4, 1, 3, 0, 0, []), (112, 25, 4, 4, 4, 0, [(0, 8, 2), (0, 1, 4)]), (115, 25, 8, 1, 0, 0, []), (118, 18, 151, 3, 76, 0, []), (121, 3, 2, 4, 0, 0, []), (123, 4, 1, 0, 0, 0, []), (124, 0, 1, 0, 0, 2, []), (125, 4, 1, 3, 0, 0, []), (126, 25, 4, 4, 4, 0, [(0, 8, 2), (0, 1, 4)]), (129, 2, 2, 6, 0, 0, []), (131, 40, 2, 2, 10, 0, []), (134, 40, 3, 3, 12, 0, []), (137, 25, 9, 0, 3, 0, []), (140, 40, 0, 2, 0, 0, []), (143, 6, 2, 4, 0, 0, []), (145, 8, 0, 6, 0, 1, []), (148, 19, 109, 0, 57, 0, []), (151, 3, 2, 4, 0, 0, []), (153, 43, 0, 0, 0, 0, [])]
set_option maxRecDepth 20000 in
theorem qX10_mixLotf : f_all yX10_mixLot YX10_mixLot pX10_mixLotf :=
  ⟨f_lload_n (n := 1) (e_dx DX10_mixLot_0 0 rfl) rfl,
  f_lstore (e_dx DX10_mixLot_0 1 rfl) (by decide),
  f_iconst (e_dx DX10_mixLot_0 2 rfl) ⟨by decide, by decide⟩,
  f_istore (e_dx DX10_mixLot_0 3 rfl) (by decide),
  trivial,
  f_iload (e_dx DX10_mixLot_0 4 rfl),
  f_aload_n (n := 3) (e_dx DX10_mixLot_0 5 rfl) rfl,
  f_getA (e_dx DX10_mixLot_0 6 rfl) fX10_114 rfl (by decide) (Nat.le_of_ble_eq_true rfl) rfl (by decide),
  f_getf (e_dx DX10_mixLot_0 7 rfl) fX10_205 rfl (by decide) (by decide) (by decide),
  f_icmp_ge (e_dx DX10_mixLot_0 8 rfl) rfl,
  f_lload (e_dx DX10_mixLot_0 9 rfl),
  f_aload_n (n := 3) (e_dx DX10_mixLot_0 10 rfl) rfl,
  f_getA (e_dx DX10_mixLot_0 11 rfl) fX10_114 rfl (by decide) (Nat.le_of_ble_eq_true rfl) rfl (by decide),
  f_getA (e_dx DX10_mixLot_0 12 rfl) fX10_258 rfl (by decide) (Nat.le_of_ble_eq_true rfl) rfl (by decide),
  f_iload (e_dx DX10_mixLot_0 13 rfl),
  f_iaload (e_dx DX10_mixLot_0 14 rfl),
  f_g14 (e_dx DX10_mixLot_0 15 rfl),
  x_callS (e_dx DX10_mixLot_0 16 rfl) mwX10_mix cX10_242 swX10_mix rfl,
  f_aload_n (n := 3) (e_dx DX10_mixLot_0 17 rfl) rfl,
  f_getA (e_dx DX10_mixLot_0 18 rfl) fX10_114 rfl (by decide) (Nat.le_of_ble_eq_true rfl) rfl (by decide),
  f_getA (e_dx DX10_mixLot_0 19 rfl) fX10_261 rfl (by decide) (Nat.le_of_ble_eq_true rfl) rfl (by decide),
  f_iload (e_dx DX10_mixLot_0 20 rfl),
  f_iaload (e_dx DX10_mixLot_0 21 rfl),
  f_g14 (e_dx DX10_mixLot_0 22 rfl),
  x_callS (e_dx DX10_mixLot_0 23 rfl) mwX10_mix cX10_242 swX10_mix rfl,
  f_lstore (e_dx DX10_mixLot_0 24 rfl) (by decide),
  f_g8 (e_dx DX10_mixLot_0 25 rfl) ⟨by decide, by decide⟩,
  f_g19 (e_dx DX10_mixLot_0 26 rfl) rfl,
  f_iconst (e_dx DX10_mixLot_0 27 rfl) ⟨by decide, by decide⟩,
  f_istore (e_dx DX10_mixLot_0 28 rfl) (by decide),
  trivial,
  f_iload (e_dx DX10_mixLot_0 29 rfl),
  f_aload_n (n := 3) (e_dx DX10_mixLot_0 30 rfl) rfl,
  f_getf (e_dx DX10_mixLot_0 31 rfl) fX10_206 rfl (by decide) (by decide) (by decide),
  f_icmp_ge (e_dx DX10_mixLot_0 32 rfl) rfl,
  f_iconst (e_dx DX10_mixLot_0 33 rfl) ⟨by decide, by decide⟩,
  f_istore (e_dx DX10_mixLot_0 34 rfl) (by decide),
  trivial,
  f_iload (e_dx DX10_mixLot_0 35 rfl),
  f_iconst (e_dx DX10_mixLot_0 36 rfl) ⟨by decide, by decide⟩,
  f_icmp_ge (e_dx DX10_mixLot_0 37 rfl) rfl,
  f_lload (e_dx DX10_mixLot_0 38 rfl),
  f_aload_n (n := 0) (e_dx DX10_mixLot_0 39 rfl) rfl,
  f_aload_n (n := 3) (e_dx DX10_mixLot_1 0 rfl) rfl,
  f_iload (e_dx DX10_mixLot_1 1 rfl),
  f_iload (e_dx DX10_mixLot_1 2 rfl),
  x_callV (e_dx DX10_mixLot_1 3 rfl) mwX10_ownerFact vwX10_ownerFact cX10_264 rfl,
  f_g14 (e_dx DX10_mixLot_1 4 rfl),
  x_callS (e_dx DX10_mixLot_1 5 rfl) mwX10_mix cX10_242 swX10_mix rfl,
  f_lstore (e_dx DX10_mixLot_1 6 rfl) (by decide),
  f_g8 (e_dx DX10_mixLot_1 7 rfl) ⟨by decide, by decide⟩,
  f_g19 (e_dx DX10_mixLot_1 8 rfl) rfl,
  f_g8 (e_dx DX10_mixLot_1 9 rfl) ⟨by decide, by decide⟩,
  f_g19 (e_dx DX10_mixLot_1 10 rfl) rfl,
  f_iconst (e_dx DX10_mixLot_1 11 rfl) ⟨by decide, by decide⟩,
  f_istore (e_dx DX10_mixLot_1 12 rfl) (by decide),
  trivial,
  f_iload (e_dx DX10_mixLot_1 13 rfl),
  f_aload_n (n := 3) (e_dx DX10_mixLot_1 14 rfl) rfl,
  f_getA (e_dx DX10_mixLot_1 15 rfl) fX10_209 rfl (by decide) (Nat.le_of_ble_eq_true rfl) rfl (by decide),
  f_getf (e_dx DX10_mixLot_1 16 rfl) fX10_187 rfl (by decide) (by decide) (by decide),
  f_icmp_ge (e_dx DX10_mixLot_1 17 rfl) rfl,
  f_lload (e_dx DX10_mixLot_1 18 rfl),
  f_aload_n (n := 0) (e_dx DX10_mixLot_1 19 rfl) rfl,
  f_iconst (e_dx DX10_mixLot_1 20 rfl) ⟨by decide, by decide⟩,
  f_aload_n (n := 3) (e_dx DX10_mixLot_1 21 rfl) rfl,
  f_getA (e_dx DX10_mixLot_1 22 rfl) fX10_209 rfl (by decide) (Nat.le_of_ble_eq_true rfl) rfl (by decide),
  f_iload (e_dx DX10_mixLot_1 23 rfl),
  x_callV (e_dx DX10_mixLot_1 24 rfl) mwX8_get vwX8_get cX10_254 rfl,
  x_callV (e_dx DX10_mixLot_1 25 rfl) mwX10_at vwX10_at cX10_93 rfl,
  f_getL (e_dx DX10_mixLot_1 26 rfl) fX10_157 rfl (by decide),
  x_callS (e_dx DX10_mixLot_1 27 rfl) mwX10_mix cX10_242 swX10_mix rfl,
  f_lstore (e_dx DX10_mixLot_1 28 rfl) (by decide),
  f_g8 (e_dx DX10_mixLot_1 29 rfl) ⟨by decide, by decide⟩,
  f_g19 (e_dx DX10_mixLot_1 30 rfl) rfl,
  f_lload (e_dx DX10_mixLot_1 31 rfl),
  ⟨(e_dx DX10_mixLot_1 32 rfl), rfl⟩, trivial⟩
def lX10_mixLot (c_X10_mix : Int → Int → e_M → (Int → Prop) → Prop) (c_X10_ownerFact : Nat → Nat → Int → Int → e_M → (Int → Prop) → Prop) (c_X8_get : Nat → Int → e_M → (Int → Prop) → Prop) (c_X10_at : Nat → Int → Int → e_M → (Nat → Prop) → Prop) : List (Nat × f_Wt) := [(0, f_wm [(2, 0, 0), (2, 0, 0)] (fun ar M R => c_X10_mix (f_vi (f_nth ar 0)) (f_vi (f_nth ar 1)) M (fun r => R (some (.inr (.inl r))) M))), (1, f_wm [(3, 10, 15), (3, 4, 9), (1, 0, 0), (1, 0, 0)] (fun ar M R => c_X10_ownerFact (f_va (f_nth ar 0)) (f_va (f_nth ar 1)) (f_vi (f_nth ar 2)) (f_vi (f_nth ar 3)) M (fun r => R (some (.inl r)) M))), (2, f_wm [(3, 8, 2), (1, 0, 0)] (fun ar M R => c_X8_get (f_va (f_nth ar 0)) (f_vi (f_nth ar 1)) M (fun r => R (some (.inl r)) M))), (3, f_wm [(3, 10, 15), (1, 0, 0), (1, 0, 0)] (fun ar M R => c_X10_at (f_va (f_nth ar 0)) (f_vi (f_nth ar 1)) (f_vi (f_nth ar 2)) M (fun r => R (some (.inr (.inr (.inl (9, 14, r))))) M)))]
set_option maxRecDepth 20000 in
theorem BX10_mixLot_6 {sh : Nat → Nat × Nat} {t : Nat} {rm : Nat × Nat × Nat} {cs : Nat × Nat} {R : f_Rt} {c_X10_mix : Int → Int → e_M → (Int → Prop) → Prop} {c_X10_ownerFact : Nat → Nat → Int → Int → e_M → (Int → Prop) → Prop} {c_X8_get : Nat → Int → e_M → (Int → Prop) → Prop} {c_X10_at : Nat → Int → Int → e_M → (Nat → Prop) → Prop} {k59 : Nat → Nat → Int → Int → Prop} {k6 : Nat → Nat → Int → Int → Prop} {a0 : Nat} {a3 : Nat} {x4 : Int} {x6 : Int} {M : e_M} (C : f_Hy sh t yX10_mixLot rm cs 7 (lX10_mixLot c_X10_mix c_X10_ownerFact c_X8_get c_X10_at) R) (h59 : ∀ (a0 : Nat) (a3 : Nat) (x4 : Int) (x6 : Int), k59 a0 a3 x4 x6 → f_E sh t YX10_mixLot rm cs (f_Q sh t R) 59 [.inr (.inr (.inl (10, 15, a0))), .inr (.inr (.inr ())), .inr (.inr (.inr ())), .inr (.inr (.inl (4, 9, a3))), .inr (.inl x4), .inr (.inr (.inr ())), .inl x6, .inr (.inr (.inr ()))] [] M) (h6 : ∀ (a0 : Nat) (a3 : Nat) (x4 : Int) (x6 : Int), k6 a0 a3 x4 x6 → f_E sh t YX10_mixLot rm cs (f_Q sh t R) 6 [.inr (.inr (.inl (10, 15, a0))), .inr (.inr (.inr ())), .inr (.inr (.inr ())), .inr (.inr (.inl (4, 9, a3))), .inr (.inl x4), .inr (.inr (.inr ())), .inl x6, .inr (.inr (.inr ()))] [] M) (h : VX10_mixLot_6 c_X10_mix c_X10_ownerFact c_X8_get c_X10_at k59 k6 (fun r => R (some (.inr (.inl r))) M) a0 a3 x4 x6 M) : f_E sh t YX10_mixLot rm cs (f_Q sh t R) 6 [.inr (.inr (.inl (10, 15, a0))), .inr (.inr (.inr ())), .inr (.inr (.inr ())), .inr (.inr (.inl (4, 9, a3))), .inr (.inl x4), .inr (.inr (.inr ())), .inl x6, .inr (.inr (.inr ()))] [] M := by
  rw [f_kk4 M k59] at h
  rw [f_kk4 M k6] at h
  exact f_go (KC := f_kc [(59, f_pl [(3, 10, 15), (0, 0, 0), (0, 0, 0), (3, 4, 9), (2, 0, 0), (0, 0, 0), (1, 0, 0), (0, 0, 0)] [] (fun ls st M2 => M2 = M ∧ (k59 (f_va (f_nth ls 0)) (f_va (f_nth ls 3)) (f_vi (f_nth ls 4)) (f_vi (f_nth ls 6))))), (6, f_pl [(3, 10, 15), (0, 0, 0), (0, 0, 0), (3, 4, 9), (2, 0, 0), (0, 0, 0), (1, 0, 0), (0, 0, 0)] [] (fun ls st M2 => M2 = M ∧ (k6 (f_va (f_nth ls 0)) (f_va (f_nth ls 3)) (f_vi (f_nth ls 4)) (f_vi (f_nth ls 6)))))]) C qX10_mixLotf (f_kc_cons (f_pl_ok rfl (fun ls st M2 ⟨e, hh⟩ => by subst e; exact h59 _ _ _ _ hh)) (f_kc_cons (f_pl_ok rfl (fun ls st M2 ⟨e, hh⟩ => by subst e; exact h6 _ _ _ _ hh)) f_kc_nil)) 79 5 h
set_option maxRecDepth 20000 in
theorem BX10_mixLot_59 {sh : Nat → Nat × Nat} {t : Nat} {rm : Nat × Nat × Nat} {cs : Nat × Nat} {R : f_Rt} {c_X10_mix : Int → Int → e_M → (Int → Prop) → Prop} {c_X10_ownerFact : Nat → Nat → Int → Int → e_M → (Int → Prop) → Prop} {c_X8_get : Nat → Int → e_M → (Int → Prop) → Prop} {c_X10_at : Nat → Int → Int → e_M → (Nat → Prop) → Prop} {k109 : Nat → Nat → Int → Int → Prop} {k71 : Nat → Nat → Int → Int → Int → Prop} {a0 : Nat} {a3 : Nat} {x4 : Int} {x6 : Int} {M : e_M} (C : f_Hy sh t yX10_mixLot rm cs 7 (lX10_mixLot c_X10_mix c_X10_ownerFact c_X8_get c_X10_at) R) (h109 : ∀ (a0 : Nat) (a3 : Nat) (x4 : Int) (x6 : Int), k109 a0 a3 x4 x6 → f_E sh t YX10_mixLot rm cs (f_Q sh t R) 109 [.inr (.inr (.inl (10, 15, a0))), .inr (.inr (.inr ())), .inr (.inr (.inr ())), .inr (.inr (.inl (4, 9, a3))), .inr (.inl x4), .inr (.inr (.inr ())), .inl x6, .inr (.inr (.inr ()))] [] M) (h71 : ∀ (a0 : Nat) (a3 : Nat) (x4 : Int) (x6 : Int) (x7 : Int), k71 a0 a3 x4 x6 x7 → f_E sh t YX10_mixLot rm cs (f_Q sh t R) 71 [.inr (.inr (.inl (10, 15, a0))), .inr (.inr (.inr ())), .inr (.inr (.inr ())), .inr (.inr (.inl (4, 9, a3))), .inr (.inl x4), .inr (.inr (.inr ())), .inl x6, .inl x7] [] M) (h : VX10_mixLot_59 c_X10_mix c_X10_ownerFact c_X8_get c_X10_at k109 k71 (fun r => R (some (.inr (.inl r))) M) a0 a3 x4 x6 M) : f_E sh t YX10_mixLot rm cs (f_Q sh t R) 59 [.inr (.inr (.inl (10, 15, a0))), .inr (.inr (.inr ())), .inr (.inr (.inr ())), .inr (.inr (.inl (4, 9, a3))), .inr (.inl x4), .inr (.inr (.inr ())), .inl x6, .inr (.inr (.inr ()))] [] M := by
  rw [f_kk4 M k109] at h
  rw [f_kk5 M k71] at h
  exact f_go (KC := f_kc [(109, f_pl [(3, 10, 15), (0, 0, 0), (0, 0, 0), (3, 4, 9), (2, 0, 0), (0, 0, 0), (1, 0, 0), (0, 0, 0)] [] (fun ls st M2 => M2 = M ∧ (k109 (f_va (f_nth ls 0)) (f_va (f_nth ls 3)) (f_vi (f_nth ls 4)) (f_vi (f_nth ls 6))))), (71, f_pl [(3, 10, 15), (0, 0, 0), (0, 0, 0), (3, 4, 9), (2, 0, 0), (0, 0, 0), (1, 0, 0), (1, 0, 0)] [] (fun ls st M2 => M2 = M ∧ (k71 (f_va (f_nth ls 0)) (f_va (f_nth ls 3)) (f_vi (f_nth ls 4)) (f_vi (f_nth ls 6)) (f_vi (f_nth ls 7)))))]) C qX10_mixLotf (f_kc_cons (f_pl_ok rfl (fun ls st M2 ⟨e, hh⟩ => by subst e; exact h109 _ _ _ _ hh)) (f_kc_cons (f_pl_ok rfl (fun ls st M2 ⟨e, hh⟩ => by subst e; exact h71 _ _ _ _ _ hh)) f_kc_nil)) 79 31 h
set_option maxRecDepth 20000 in
theorem BX10_mixLot_71 {sh : Nat → Nat × Nat} {t : Nat} {rm : Nat × Nat × Nat} {cs : Nat × Nat} {R : f_Rt} {c_X10_mix : Int → Int → e_M → (Int → Prop) → Prop} {c_X10_ownerFact : Nat → Nat → Int → Int → e_M → (Int → Prop) → Prop} {c_X8_get : Nat → Int → e_M → (Int → Prop) → Prop} {c_X10_at : Nat → Int → Int → e_M → (Nat → Prop) → Prop} {k59 : Nat → Nat → Int → Int → Prop} {k71 : Nat → Nat → Int → Int → Int → Prop} {a0 : Nat} {a3 : Nat} {x4 : Int} {x6 : Int} {x7 : Int} {M : e_M} (C : f_Hy sh t yX10_mixLot rm cs 7 (lX10_mixLot c_X10_mix c_X10_ownerFact c_X8_get c_X10_at) R) (h59 : ∀ (a0 : Nat) (a3 : Nat) (x4 : Int) (x6 : Int), k59 a0 a3 x4 x6 → f_E sh t YX10_mixLot rm cs (f_Q sh t R) 59 [.inr (.inr (.inl (10, 15, a0))), .inr (.inr (.inr ())), .inr (.inr (.inr ())), .inr (.inr (.inl (4, 9, a3))), .inr (.inl x4), .inr (.inr (.inr ())), .inl x6, .inr (.inr (.inr ()))] [] M) (h71 : ∀ (a0 : Nat) (a3 : Nat) (x4 : Int) (x6 : Int) (x7 : Int), k71 a0 a3 x4 x6 x7 → f_E sh t YX10_mixLot rm cs (f_Q sh t R) 71 [.inr (.inr (.inl (10, 15, a0))), .inr (.inr (.inr ())), .inr (.inr (.inr ())), .inr (.inr (.inl (4, 9, a3))), .inr (.inl x4), .inr (.inr (.inr ())), .inl x6, .inl x7] [] M) (h : VX10_mixLot_71 c_X10_mix c_X10_ownerFact c_X8_get c_X10_at k59 k71 (fun r => R (some (.inr (.inl r))) M) a0 a3 x4 x6 x7 M) : f_E sh t YX10_mixLot rm cs (f_Q sh t R) 71 [.inr (.inr (.inl (10, 15, a0))), .inr (.inr (.inr ())), .inr (.inr (.inr ())), .inr (.inr (.inl (4, 9, a3))), .inr (.inl x4), .inr (.inr (.inr ())), .inl x6, .inl x7] [] M := by
  rw [f_kk4 M k59] at h
  rw [f_kk5 M k71] at h
  exact f_go (KC := f_kc [(59, f_pl [(3, 10, 15), (0, 0, 0), (0, 0, 0), (3, 4, 9), (2, 0, 0), (0, 0, 0), (1, 0, 0), (0, 0, 0)] [] (fun ls st M2 => M2 = M ∧ (k59 (f_va (f_nth ls 0)) (f_va (f_nth ls 3)) (f_vi (f_nth ls 4)) (f_vi (f_nth ls 6))))), (71, f_pl [(3, 10, 15), (0, 0, 0), (0, 0, 0), (3, 4, 9), (2, 0, 0), (0, 0, 0), (1, 0, 0), (1, 0, 0)] [] (fun ls st M2 => M2 = M ∧ (k71 (f_va (f_nth ls 0)) (f_va (f_nth ls 3)) (f_vi (f_nth ls 4)) (f_vi (f_nth ls 6)) (f_vi (f_nth ls 7)))))]) C qX10_mixLotf (f_kc_cons (f_pl_ok rfl (fun ls st M2 ⟨e, hh⟩ => by subst e; exact h59 _ _ _ _ hh)) (f_kc_cons (f_pl_ok rfl (fun ls st M2 ⟨e, hh⟩ => by subst e; exact h71 _ _ _ _ _ hh)) f_kc_nil)) 79 38 h
set_option maxRecDepth 20000 in
theorem BX10_mixLot_109 {sh : Nat → Nat × Nat} {t : Nat} {rm : Nat × Nat × Nat} {cs : Nat × Nat} {R : f_Rt} {c_X10_mix : Int → Int → e_M → (Int → Prop) → Prop} {c_X10_ownerFact : Nat → Nat → Int → Int → e_M → (Int → Prop) → Prop} {c_X8_get : Nat → Int → e_M → (Int → Prop) → Prop} {c_X10_at : Nat → Int → Int → e_M → (Nat → Prop) → Prop} {k109 : Nat → Nat → Int → Int → Prop} {a0 : Nat} {a3 : Nat} {x4 : Int} {x6 : Int} {M : e_M} (C : f_Hy sh t yX10_mixLot rm cs 7 (lX10_mixLot c_X10_mix c_X10_ownerFact c_X8_get c_X10_at) R) (h109 : ∀ (a0 : Nat) (a3 : Nat) (x4 : Int) (x6 : Int), k109 a0 a3 x4 x6 → f_E sh t YX10_mixLot rm cs (f_Q sh t R) 109 [.inr (.inr (.inl (10, 15, a0))), .inr (.inr (.inr ())), .inr (.inr (.inr ())), .inr (.inr (.inl (4, 9, a3))), .inr (.inl x4), .inr (.inr (.inr ())), .inl x6, .inr (.inr (.inr ()))] [] M) (h : VX10_mixLot_109 c_X10_mix c_X10_ownerFact c_X8_get c_X10_at k109 (fun r => R (some (.inr (.inl r))) M) a0 a3 x4 x6 M) : f_E sh t YX10_mixLot rm cs (f_Q sh t R) 109 [.inr (.inr (.inl (10, 15, a0))), .inr (.inr (.inr ())), .inr (.inr (.inr ())), .inr (.inr (.inl (4, 9, a3))), .inr (.inl x4), .inr (.inr (.inr ())), .inl x6, .inr (.inr (.inr ()))] [] M := by
  rw [f_kk4 M k109] at h
  exact f_go (KC := f_kc [(109, f_pl [(3, 10, 15), (0, 0, 0), (0, 0, 0), (3, 4, 9), (2, 0, 0), (0, 0, 0), (1, 0, 0), (0, 0, 0)] [] (fun ls st M2 => M2 = M ∧ (k109 (f_va (f_nth ls 0)) (f_va (f_nth ls 3)) (f_vi (f_nth ls 4)) (f_vi (f_nth ls 6)))))]) C qX10_mixLotf (f_kc_cons (f_pl_ok rfl (fun ls st M2 ⟨e, hh⟩ => by subst e; exact h109 _ _ _ _ hh)) f_kc_nil) 79 57 h
set_option maxRecDepth 20000 in
theorem BX10_mixLot {sh : Nat → Nat × Nat} {t : Nat} {rm : Nat × Nat × Nat} {cs : Nat × Nat} {R : f_Rt} {c_X10_mix : Int → Int → e_M → (Int → Prop) → Prop} {c_X10_ownerFact : Nat → Nat → Int → Int → e_M → (Int → Prop) → Prop} {c_X8_get : Nat → Int → e_M → (Int → Prop) → Prop} {c_X10_at : Nat → Int → Int → e_M → (Nat → Prop) → Prop} {k6 : Nat → Nat → Int → Int → Prop} {a0 : Nat} {x1 : Int} {a3 : Nat} {M : e_M} (C : f_Hy sh t yX10_mixLot rm cs 7 (lX10_mixLot c_X10_mix c_X10_ownerFact c_X8_get c_X10_at) R) (h6 : ∀ (a0 : Nat) (a3 : Nat) (x4 : Int) (x6 : Int), k6 a0 a3 x4 x6 → f_E sh t YX10_mixLot rm cs (f_Q sh t R) 6 [.inr (.inr (.inl (10, 15, a0))), .inr (.inr (.inr ())), .inr (.inr (.inr ())), .inr (.inr (.inl (4, 9, a3))), .inr (.inl x4), .inr (.inr (.inr ())), .inl x6, .inr (.inr (.inr ()))] [] M) (h : VX10_mixLot c_X10_mix c_X10_ownerFact c_X8_get c_X10_at k6 (fun r => R (some (.inr (.inl r))) M) a0 x1 a3 M) : f_E sh t YX10_mixLot rm cs (f_Q sh t R) 0 [.inr (.inr (.inl (10, 15, a0))), .inr (.inl x1), .inr (.inr (.inr ())), .inr (.inr (.inl (4, 9, a3))), .inr (.inr (.inr ())), .inr (.inr (.inr ())), .inr (.inr (.inr ())), .inr (.inr (.inr ()))] [] M := by
  rw [f_kk4 M k6] at h
  exact f_go (KC := f_kc [(6, f_pl [(3, 10, 15), (0, 0, 0), (0, 0, 0), (3, 4, 9), (2, 0, 0), (0, 0, 0), (1, 0, 0), (0, 0, 0)] [] (fun ls st M2 => M2 = M ∧ (k6 (f_va (f_nth ls 0)) (f_va (f_nth ls 3)) (f_vi (f_nth ls 4)) (f_vi (f_nth ls 6)))))]) C qX10_mixLotf (f_kc_cons (f_pl_ok rfl (fun ls st M2 ⟨e, hh⟩ => by subst e; exact h6 _ _ _ _ hh)) f_kc_nil) 79 0 h
def WX10_mixLot_109 (M : e_M) (Q : Int → Prop) : Nat → Nat → Nat → Int → Int → Prop
  | 0, _, _, _, _ => False
  | n + 1, a0, a3, x4, x6 =>
    VX10_mixLot_109 WX10_mix WX10_ownerFact WX8_get WX10_at (WX10_mixLot_109 M Q n) Q a0 a3 x4 x6 M
def WX10_mixLot_71 (M : e_M) (H59 : Nat → Nat → Int → Int → Prop) (Q : Int → Prop) : Nat → Nat → Nat → Int → Int → Int → Prop
  | 0, _, _, _, _, _ => False
  | n + 1, a0, a3, x4, x6, x7 =>
    VX10_mixLot_71 WX10_mix WX10_ownerFact WX8_get WX10_at H59 (WX10_mixLot_71 M H59 Q n) Q a0 a3 x4 x6 x7 M
def WX10_mixLot_59 (M : e_M) (Q : Int → Prop) : Nat → Nat → Nat → Int → Int → Prop
  | 0, _, _, _, _ => False
  | n + 1, a0, a3, x4, x6 =>
    VX10_mixLot_59 WX10_mix WX10_ownerFact WX8_get WX10_at (fun a0 a3 x4 x6 => ∃ j, WX10_mixLot_109 M Q j a0 a3 x4 x6) (fun a0 a3 x4 x6 x7 => ∃ j, WX10_mixLot_71 M (WX10_mixLot_59 M Q n) Q j a0 a3 x4 x6 x7) Q a0 a3 x4 x6 M
def WX10_mixLot_6 (M : e_M) (Q : Int → Prop) : Nat → Nat → Nat → Int → Int → Prop
  | 0, _, _, _, _ => False
  | n + 1, a0, a3, x4, x6 =>
    VX10_mixLot_6 WX10_mix WX10_ownerFact WX8_get WX10_at (fun a0 a3 x4 x6 => ∃ j, WX10_mixLot_59 M Q j a0 a3 x4 x6) (WX10_mixLot_6 M Q n) Q a0 a3 x4 x6 M
def WX10_mixLot (a0 : Nat) (x1 : Int) (a3 : Nat) (M : e_M) (Q : Int → Prop) : Prop :=
  VX10_mixLot WX10_mix WX10_ownerFact WX8_get WX10_at (fun a0 a3 x4 x6 => ∃ j, WX10_mixLot_6 M Q j a0 a3 x4 x6) Q a0 x1 a3 M
theorem PX10_mixLot_109 {sh : Nat → Nat × Nat} {t : Nat} {rm : Nat × Nat × Nat} {cs : Nat × Nat} {R : f_Rt} {M : e_M} (C : f_Hy sh t yX10_mixLot rm cs 7 (lX10_mixLot WX10_mix WX10_ownerFact WX8_get WX10_at) R) : ∀ (n : Nat) (a0 : Nat) (a3 : Nat) (x4 : Int) (x6 : Int), WX10_mixLot_109 M (fun r => R (some (.inr (.inl r))) M) n a0 a3 x4 x6 → f_E sh t YX10_mixLot rm cs (f_Q sh t R) 109 [.inr (.inr (.inl (10, 15, a0))), .inr (.inr (.inr ())), .inr (.inr (.inr ())), .inr (.inr (.inl (4, 9, a3))), .inr (.inl x4), .inr (.inr (.inr ())), .inl x6, .inr (.inr (.inr ()))] [] M := by
  intro n
  induction n with
  | zero => intro a0 a3 x4 x6 h; exact h.elim
  | succ n ih => intro a0 a3 x4 x6 h; exact BX10_mixLot_109 C ih h
theorem PX10_mixLot_71 {sh : Nat → Nat × Nat} {t : Nat} {rm : Nat × Nat × Nat} {cs : Nat × Nat} {R : f_Rt} {H59 : Nat → Nat → Int → Int → Prop} {M : e_M} (C : f_Hy sh t yX10_mixLot rm cs 7 (lX10_mixLot WX10_mix WX10_ownerFact WX8_get WX10_at) R) (g59 : ∀ (a0 : Nat) (a3 : Nat) (x4 : Int) (x6 : Int), H59 a0 a3 x4 x6 → f_E sh t YX10_mixLot rm cs (f_Q sh t R) 59 [.inr (.inr (.inl (10, 15, a0))), .inr (.inr (.inr ())), .inr (.inr (.inr ())), .inr (.inr (.inl (4, 9, a3))), .inr (.inl x4), .inr (.inr (.inr ())), .inl x6, .inr (.inr (.inr ()))] [] M) : ∀ (n : Nat) (a0 : Nat) (a3 : Nat) (x4 : Int) (x6 : Int) (x7 : Int), WX10_mixLot_71 M H59 (fun r => R (some (.inr (.inl r))) M) n a0 a3 x4 x6 x7 → f_E sh t YX10_mixLot rm cs (f_Q sh t R) 71 [.inr (.inr (.inl (10, 15, a0))), .inr (.inr (.inr ())), .inr (.inr (.inr ())), .inr (.inr (.inl (4, 9, a3))), .inr (.inl x4), .inr (.inr (.inr ())), .inl x6, .inl x7] [] M := by
  intro n
  induction n with
  | zero => intro a0 a3 x4 x6 x7 h; exact h.elim
  | succ n ih => intro a0 a3 x4 x6 x7 h; exact BX10_mixLot_71 C g59 ih h
theorem PX10_mixLot_59 {sh : Nat → Nat × Nat} {t : Nat} {rm : Nat × Nat × Nat} {cs : Nat × Nat} {R : f_Rt} {M : e_M} (C : f_Hy sh t yX10_mixLot rm cs 7 (lX10_mixLot WX10_mix WX10_ownerFact WX8_get WX10_at) R) : ∀ (n : Nat) (a0 : Nat) (a3 : Nat) (x4 : Int) (x6 : Int), WX10_mixLot_59 M (fun r => R (some (.inr (.inl r))) M) n a0 a3 x4 x6 → f_E sh t YX10_mixLot rm cs (f_Q sh t R) 59 [.inr (.inr (.inl (10, 15, a0))), .inr (.inr (.inr ())), .inr (.inr (.inr ())), .inr (.inr (.inl (4, 9, a3))), .inr (.inl x4), .inr (.inr (.inr ())), .inl x6, .inr (.inr (.inr ()))] [] M := by
  intro n
  induction n with
  | zero => intro a0 a3 x4 x6 h; exact h.elim
  | succ n ih => intro a0 a3 x4 x6 h; exact BX10_mixLot_59 C (fun a0 a3 x4 x6 ⟨j, h⟩ => PX10_mixLot_109 C j _ _ _ _ h) (fun a0 a3 x4 x6 x7 ⟨j, h⟩ => PX10_mixLot_71 C ih j _ _ _ _ _ h) h
theorem PX10_mixLot_6 {sh : Nat → Nat × Nat} {t : Nat} {rm : Nat × Nat × Nat} {cs : Nat × Nat} {R : f_Rt} {M : e_M} (C : f_Hy sh t yX10_mixLot rm cs 7 (lX10_mixLot WX10_mix WX10_ownerFact WX8_get WX10_at) R) : ∀ (n : Nat) (a0 : Nat) (a3 : Nat) (x4 : Int) (x6 : Int), WX10_mixLot_6 M (fun r => R (some (.inr (.inl r))) M) n a0 a3 x4 x6 → f_E sh t YX10_mixLot rm cs (f_Q sh t R) 6 [.inr (.inr (.inl (10, 15, a0))), .inr (.inr (.inr ())), .inr (.inr (.inr ())), .inr (.inr (.inl (4, 9, a3))), .inr (.inl x4), .inr (.inr (.inr ())), .inl x6, .inr (.inr (.inr ()))] [] M := by
  intro n
  induction n with
  | zero => intro a0 a3 x4 x6 h; exact h.elim
  | succ n ih => intro a0 a3 x4 x6 h; exact BX10_mixLot_6 C (fun a0 a3 x4 x6 ⟨j, h⟩ => PX10_mixLot_59 C j _ _ _ _ h) ih h
theorem PX10_mixLot {sh : Nat → Nat × Nat} {t : Nat} {rm : Nat × Nat × Nat} {cs : Nat × Nat} {R : f_Rt} {a0 : Nat} {x1 : Int} {a3 : Nat} {M : e_M} (C : f_Hy sh t yX10_mixLot rm cs 7 (lX10_mixLot WX10_mix WX10_ownerFact WX8_get WX10_at) R) (h : WX10_mixLot a0 x1 a3 M (fun r => R (some (.inr (.inl r))) M)) : f_E sh t YX10_mixLot rm cs (f_Q sh t R) 0 [.inr (.inr (.inl (10, 15, a0))), .inr (.inl x1), .inr (.inr (.inr ())), .inr (.inr (.inl (4, 9, a3))), .inr (.inr (.inr ())), .inr (.inr (.inr ())), .inr (.inr (.inr ())), .inr (.inr (.inr ()))] [] M :=
  BX10_mixLot C (fun a0 a3 x4 x6 ⟨j, h⟩ => PX10_mixLot_6 C j _ _ _ _ h) h
def wX10_mixLot : f_Wt := f_wm [(3, 10, 15), (2, 0, 0), (3, 4, 9)] (fun ar M R => WX10_mixLot (f_va (f_nth ar 0)) (f_vi (f_nth ar 1)) (f_va (f_nth ar 2)) M (fun r => R (some (.inr (.inl r))) M))
theorem TX10_mixLot {sh : Nat → Nat × Nat} {t : Nat} : f_Mt sh t YX10_mixLot 7 (wX10_mixLot) :=
  f_Mt_of (k := 4) (Nat.le_of_ble_eq_true rfl) rfl rfl (fun ar M R rm cs h1 h2 h3 hX h => PX10_mixLot ⟨Nat.le_of_ble_eq_true rfl, h1, h2, h3, ⟨(f_Mt.up (Nat.le_of_ble_eq_true rfl) TX10_mix), (f_Mt.up (Nat.le_of_ble_eq_true rfl) TX10_ownerFact), (f_Mt.up (Nat.le_of_ble_eq_true rfl) TX8_get), (f_Mt.up (Nat.le_of_ble_eq_true rfl) TX10_at), trivial⟩, hX⟩ h)
def VX10_mixIn_16 (c_X10_nameOf : Nat → Int → Int → e_M → (Int → Prop) → Prop) (c_X10_mix : Int → Int → e_M → (Int → Prop) → Prop) (c_X10_fact : Nat → Int → Int → Int → e_M → (Int → Prop) → Prop) (c_X10_lot : Nat → Int → e_M → (Nat → Prop) → Prop) (c_X10_mixLot : Nat → Int → Nat → e_M → (Int → Prop) → Prop) (c_X10_at : Nat → Int → Int → e_M → (Nat → Prop) → Prop) (c_X8_get : Nat → Int → e_M → (Int → Prop) → Prop) (k86 : Nat → Int → Int → Nat → Int → Prop) (k16 : Nat → Int → Int → Int → Int → Prop) (Q : Int → Prop) (a0 : Nat) (x3 : Int) (x4 : Int) (x5 : Int) (x7 : Int) (M : e_M) : Prop :=
  ((0 ≤ x3 ∧ x3 < 7) ∧ (((f_kt 1000003 (x3.toNat)) ≤ x7 → ((¬ x3 = 0 → ((¬ x3 = 1 → (c_X10_at a0 x3 x4 M (fun r1 => (k86 a0 x3 x5 r1 0)))) ∧ (x3 = 1 → (Q x5)))) ∧ (x3 = 0 → (c_X10_lot a0 x4 M (fun r2 => (c_X10_mixLot a0 x5 r2 M (fun r3 => (Q r3)))))))) ∧ (x7 < (f_kt 1000003 (x3.toNat)) → (c_X10_fact a0 x3 x4 x7 M (fun r4 => (c_X10_mix x5 r4 M (fun r5 => (k16 a0 x3 x4 r5 (e_w32 (x7 + 1))))))))))
def VX10_mixIn_86 (c_X10_nameOf : Nat → Int → Int → e_M → (Int → Prop) → Prop) (c_X10_mix : Int → Int → e_M → (Int → Prop) → Prop) (c_X10_fact : Nat → Int → Int → Int → e_M → (Int → Prop) → Prop) (c_X10_lot : Nat → Int → e_M → (Nat → Prop) → Prop) (c_X10_mixLot : Nat → Int → Nat → e_M → (Int → Prop) → Prop) (c_X10_at : Nat → Int → Int → e_M → (Nat → Prop) → Prop) (c_X8_get : Nat → Int → e_M → (Int → Prop) → Prop) (k132 : Nat → Int → Int → Nat → Int → Prop) (k86 : Nat → Int → Int → Nat → Int → Prop) (Q : Int → Prop) (a0 : Nat) (x3 : Int) (x5 : Int) (a7 : Nat) (x8 : Int) (M : e_M) : Prop :=
  (((M ((M a7 9).toNat) 1) ≤ x8 → (k132 a0 x3 x5 a7 0)) ∧ (x8 < (M ((M a7 9).toNat) 1) → (c_X8_get ((M a7 9).toNat) x8 M (fun r1 => (c_X10_lot a0 r1 M (fun r2 => (c_X10_mix x5 (M r2 0) M (fun r3 => (k86 a0 x3 r3 a7 (e_w32 (x8 + 1)))))))))))
def VX10_mixIn_132 (c_X10_nameOf : Nat → Int → Int → e_M → (Int → Prop) → Prop) (c_X10_mix : Int → Int → e_M → (Int → Prop) → Prop) (c_X10_fact : Nat → Int → Int → Int → e_M → (Int → Prop) → Prop) (c_X10_lot : Nat → Int → e_M → (Nat → Prop) → Prop) (c_X10_mixLot : Nat → Int → Nat → e_M → (Int → Prop) → Prop) (c_X10_at : Nat → Int → Int → e_M → (Nat → Prop) → Prop) (c_X8_get : Nat → Int → e_M → (Int → Prop) → Prop) (k132 : Nat → Int → Int → Nat → Int → Prop) (Q : Int → Prop) (a0 : Nat) (x3 : Int) (x5 : Int) (a7 : Nat) (x8 : Int) (M : e_M) : Prop :=
  (((M ((M a7 10).toNat) 1) ≤ x8 → ((¬ x3 = 3 → (c_X10_at a0 1 (M a7 5) M (fun r1 => (c_X10_mix x5 (M r1 0) M (fun r2 => (Q r2)))))) ∧ (x3 = 3 → (Q x5)))) ∧ (x8 < (M ((M a7 10).toNat) 1) → (c_X8_get ((M a7 10).toNat) x8 M (fun r3 => (c_X10_lot a0 r3 M (fun r4 => (c_X10_mix x5 (M r4 0) M (fun r5 => (k132 a0 x3 r5 a7 (e_w32 (x8 + 1)))))))))))
def VX10_mixIn (c_X10_nameOf : Nat → Int → Int → e_M → (Int → Prop) → Prop) (c_X10_mix : Int → Int → e_M → (Int → Prop) → Prop) (c_X10_fact : Nat → Int → Int → Int → e_M → (Int → Prop) → Prop) (c_X10_lot : Nat → Int → e_M → (Nat → Prop) → Prop) (c_X10_mixLot : Nat → Int → Nat → e_M → (Int → Prop) → Prop) (c_X10_at : Nat → Int → Int → e_M → (Nat → Prop) → Prop) (c_X8_get : Nat → Int → e_M → (Int → Prop) → Prop) (k16 : Nat → Int → Int → Int → Int → Prop) (Q : Int → Prop) (a0 : Nat) (x1 : Int) (x3 : Int) (x4 : Int) (M : e_M) : Prop :=
  (c_X10_nameOf a0 x3 x4 M (fun r1 => (c_X10_mix x1 r1 M (fun r2 => (k16 a0 x3 x4 r2 0)))))
def yX10_mixIn (i : Nat) : e_Y := x_get YX10_mixIn [YX10_nameOf, YX10_mix, YX10_fact, YX10_lot, YX10_mixLot, YX10_at, YX8_get] i
def pX10_mixInf : List x_I := [(0, 3, 1, 1, 0, 0, []), (1, 4, 1, 0, 0, 0, []), (2, 2, 1, 3, 0, 0, []), (3, 2, 2, 4, 0, 0, []), (5, 40, 0, 3, 12, 0, []), (8, 40, 1, 2, 0, 0, []), (11, 6, 2, 5, 0, 0, []), (13, 0, 1, 0, 0, 0, []), (14, 5, 2, 7, 0, 0, []), (16, 49, 0, 0, 0, 0, []), (16, 2, 2, 7, 0, 0, []), (18, 35, 3, 1000003, 7, 0, []), (21, 2, 1, 3, 0, 0, []), (22, 27, 0, 0, 0, 0, []), (23, 18, 49, 3, 27, 0, []), (26, 3, 2, 5, 0, 0, []), (28, 4, 1, 0, 0, 0, []), (29, 2, 1, 3, 0, 0, []), (30, 2, 2, 4, 0, 0, []), (32, 2, 2, 7, 0, 0, []), (34, 40, 2, 4, 12, 0, []), (37, 14, 0, 0, 0, 0, []), (38, 40, 1, 2, 0, 0, []), (41, 6, 2, 5, 0, 0, []), (43, 8, 0, 7, 0, 1, []), (46, 19, 16, 0, 10, 0, []), (49, 2, 1, 3, 0, 0, []), (50, 17, 66, 1, 36, 0, []), (53, 4, 1, 0, 0, 0, []), (54, 3, 2, 5, 0, 0, []), (56, 4, 1, 0, 0, 0, []), (57, 2, 2, 4, 0, 0, []), (59, 40, 3, 2, 12, 0, []), (62, 40, 4, 3, 12, 0, []), (65, 43, 0, 0, 0, 0, []), (66, 2, 1, 3, 0, 0, []), (67, 0, 1, 0, 0, 1, []), (68, 18, 74, 1, 41, 0, []), (71, 3, 2, 5, 0, 0, []), (73, 43, 0, 0, 0, 0, []), (74, 4, 1, 0, 0, 0, []), (75, 2, 1, 3, 0, 0, []), (76, 2, 2, 4, 0, 0, []), (78, 40, 5, 3, 12, 0, []), (81, 7, 2, 7, 0, 0, []), (83, 0, 1, 0, 0, 0, []), (84, 5, 2, 8, 0, 0, []), (86, 49, 0, 0, 0, 0, []), (86, 2, 2, 8, 0, 0, []), (88, 4, 2, 7, 0, 0, []), (90, 25, 9, 9, 4, 0, [(0, 8, 2), (0, 0, 0)]), (93, 25, 8, 1, 0, 0, []), (96, 18, 129, 3, 66, 0, []), (99, 3, 2, 5, 0, 0, []), (101, 4, 1, 0, 0, 0, []), (102, 4, 2, 7, 0, 0, []), (104, 25, 9, 9, 4, 0, [(0, 8, 2), (0, 0, 0)]), (107, 2, 2, 8, 0, 0, []), (109, 40, 6, 2, 10, 0, []), (112, 40, 3, 2, 12, 0, []), (115, 25, 4, 0, 3, 0, []), (118, 40, 1, 2, 0, 0, []), (121, 6, 2, 5, 0, 0, []), (123, 8, 0, 8, 0, 1, []), (126, 19, 86, 0, 48, 0, []), (129, 0, 1, 0, 0, 0, []), (130, 5, 2, 8, 0, 0, []), (132, 49, 0, 0, 0, 0, []), (132, 2, 2, 8, 0, 0, []), (134, 4, 2, 7, 0, 0, []), (136, 25, 9, 10, 4, 0, [(0, 8, 2), (0, 0, 0)]), (139, 25, 8, 1, 0, 0, []), (142, 18, 175, 3, 86, 0, []), (145, 3, 2, 5, 0, 0, []), (147, 4, 1, 0, 0, 0, []), (148, 4, 2, 7, 0, 0, []), (150, 25, 9, 10, 4, 0, [(0, 8, 2), (0, 0, 0)]), (153, 2, 2, 8, 0, 0, []), (155, 40, 6, 2, 10, 0, []), (158, 40, 3, 2, 12, 0, []), (161, 25, 4, 0, 3, 0, []), (164, 40, 1, 2, 0, 0, []), (167, 6, 2, 5, 0, 0, []), (169, 8, 0, 8, 0, 1, []), (172, 19, 132, 0, 68, 0, []), (175, 2, 1, 3, 0, 0, []), (176, 0, 1, 0, 0, 3, []), (177, 18, 185, 1, 91, 0, []), (180, 3, 2, 5, 0, 0, []), (182, 19, 203, 0, 99, 0, []), (185, 3, 2, 5, 0, 0, []), (187, 4, 1, 0, 0, 0, []), (188, 0, 1, 0, 0, 1, []), (189, 4, 2, 7, 0, 0, []), (191, 25, 9, 5, 0, 0, []), (194, 40, 5, 3, 12, 0, []), (197, 25, 9, 0, 3, 0, []), (200, 40, 1, 2, 0, 0, []), (203, 43, 0, 0, 0, 0, [])]
set_option maxRecDepth 20000 in
theorem qX10_mixInf : f_all yX10_mixIn YX10_mixIn pX10_mixInf :=
  ⟨f_lload_n (n := 1) (e_dx DX10_mixIn_0 0 rfl) rfl,
  f_aload_n (n := 0) (e_dx DX10_mixIn_0 1 rfl) rfl,
  f_iload_n (n := 3) (e_dx DX10_mixIn_0 2 rfl) rfl,
  f_iload (e_dx DX10_mixIn_0 3 rfl),
  x_callV (e_dx DX10_mixIn_0 4 rfl) mwX10_nameOf vwX10_nameOf cX10_238 rfl,
  x_callS (e_dx DX10_mixIn_0 5 rfl) mwX10_mix cX10_242 swX10_mix rfl,
  f_lstore (e_dx DX10_mixIn_0 6 rfl) (by decide),
  f_iconst (e_dx DX10_mixIn_0 7 rfl) ⟨by decide, by decide⟩,
  f_istore (e_dx DX10_mixIn_0 8 rfl) (by decide),
  trivial,
  f_iload (e_dx DX10_mixIn_0 9 rfl),
  f_getsN (j := 2) (q := ("LandHouse", "FACTS")) (e_dx DX10_mixIn_0 10 rfl) rfl gX10_174 rfl ⟨rfl, rfl⟩,
  f_iload_n (n := 3) (e_dx DX10_mixIn_0 11 rfl) rfl,
  f_iaload (e_dx DX10_mixIn_0 12 rfl),
  f_icmp_ge (e_dx DX10_mixIn_0 13 rfl) rfl,
  f_lload (e_dx DX10_mixIn_0 14 rfl),
  f_aload_n (n := 0) (e_dx DX10_mixIn_0 15 rfl) rfl,
  f_iload_n (n := 3) (e_dx DX10_mixIn_0 16 rfl) rfl,
  f_iload (e_dx DX10_mixIn_0 17 rfl),
  f_iload (e_dx DX10_mixIn_0 18 rfl),
  x_callV (e_dx DX10_mixIn_0 19 rfl) mwX10_fact vwX10_fact cX10_246 rfl,
  f_g14 (e_dx DX10_mixIn_0 20 rfl),
  x_callS (e_dx DX10_mixIn_0 21 rfl) mwX10_mix cX10_242 swX10_mix rfl,
  f_lstore (e_dx DX10_mixIn_0 22 rfl) (by decide),
  f_g8 (e_dx DX10_mixIn_0 23 rfl) ⟨by decide, by decide⟩,
  f_g19 (e_dx DX10_mixIn_0 24 rfl) rfl,
  f_iload_n (n := 3) (e_dx DX10_mixIn_0 25 rfl) rfl,
  f_if_ne (e_dx DX10_mixIn_0 26 rfl) rfl,
  f_aload_n (n := 0) (e_dx DX10_mixIn_0 27 rfl) rfl,
  f_lload (e_dx DX10_mixIn_0 28 rfl),
  f_aload_n (n := 0) (e_dx DX10_mixIn_0 29 rfl) rfl,
  f_iload (e_dx DX10_mixIn_0 30 rfl),
  x_callV (e_dx DX10_mixIn_0 31 rfl) mwX10_lot vwX10_lot cX10_106 rfl,
  x_callV (e_dx DX10_mixIn_0 32 rfl) mwX10_mixLot vwX10_mixLot cX10_250 rfl,
  ⟨(e_dx DX10_mixIn_0 33 rfl), rfl⟩,
  f_iload_n (n := 3) (e_dx DX10_mixIn_0 34 rfl) rfl,
  f_iconst (e_dx DX10_mixIn_0 35 rfl) ⟨by decide, by decide⟩,
  f_icmp_ne (e_dx DX10_mixIn_0 36 rfl) rfl,
  f_lload (e_dx DX10_mixIn_0 37 rfl),
  ⟨(e_dx DX10_mixIn_0 38 rfl), rfl⟩,
  f_aload_n (n := 0) (e_dx DX10_mixIn_0 39 rfl) rfl,
  f_iload_n (n := 3) (e_dx DX10_mixIn_1 0 rfl) rfl,
  f_iload (e_dx DX10_mixIn_1 1 rfl),
  x_callV (e_dx DX10_mixIn_1 2 rfl) mwX10_at vwX10_at cX10_93 rfl,
  f_astore (e_dx DX10_mixIn_1 3 rfl) (by decide),
  f_iconst (e_dx DX10_mixIn_1 4 rfl) ⟨by decide, by decide⟩,
  f_istore (e_dx DX10_mixIn_1 5 rfl) (by decide),
  trivial,
  f_iload (e_dx DX10_mixIn_1 6 rfl),
  f_aload (e_dx DX10_mixIn_1 7 rfl),
  f_getA (e_dx DX10_mixIn_1 8 rfl) fX10_184 rfl (by decide) (Nat.le_of_ble_eq_true rfl) rfl (by decide),
  f_getf (e_dx DX10_mixIn_1 9 rfl) fX10_187 rfl (by decide) (by decide) (by decide),
  f_icmp_ge (e_dx DX10_mixIn_1 10 rfl) rfl,
  f_lload (e_dx DX10_mixIn_1 11 rfl),
  f_aload_n (n := 0) (e_dx DX10_mixIn_1 12 rfl) rfl,
  f_aload (e_dx DX10_mixIn_1 13 rfl),
  f_getA (e_dx DX10_mixIn_1 14 rfl) fX10_184 rfl (by decide) (Nat.le_of_ble_eq_true rfl) rfl (by decide),
  f_iload (e_dx DX10_mixIn_1 15 rfl),
  x_callV (e_dx DX10_mixIn_1 16 rfl) mwX8_get vwX8_get cX10_254 rfl,
  x_callV (e_dx DX10_mixIn_1 17 rfl) mwX10_lot vwX10_lot cX10_106 rfl,
  f_getL (e_dx DX10_mixIn_1 18 rfl) fX10_153 rfl (by decide),
  x_callS (e_dx DX10_mixIn_1 19 rfl) mwX10_mix cX10_242 swX10_mix rfl,
  f_lstore (e_dx DX10_mixIn_1 20 rfl) (by decide),
  f_g8 (e_dx DX10_mixIn_1 21 rfl) ⟨by decide, by decide⟩,
  f_g19 (e_dx DX10_mixIn_1 22 rfl) rfl,
  f_iconst (e_dx DX10_mixIn_1 23 rfl) ⟨by decide, by decide⟩,
  f_istore (e_dx DX10_mixIn_1 24 rfl) (by decide),
  trivial,
  f_iload (e_dx DX10_mixIn_1 25 rfl),
  f_aload (e_dx DX10_mixIn_1 26 rfl),
  f_getA (e_dx DX10_mixIn_1 27 rfl) fX10_221 rfl (by decide) (Nat.le_of_ble_eq_true rfl) rfl (by decide),
  f_getf (e_dx DX10_mixIn_1 28 rfl) fX10_187 rfl (by decide) (by decide) (by decide),
  f_icmp_ge (e_dx DX10_mixIn_1 29 rfl) rfl,
  f_lload (e_dx DX10_mixIn_1 30 rfl),
  f_aload_n (n := 0) (e_dx DX10_mixIn_1 31 rfl) rfl,
  f_aload (e_dx DX10_mixIn_1 32 rfl),
  f_getA (e_dx DX10_mixIn_1 33 rfl) fX10_221 rfl (by decide) (Nat.le_of_ble_eq_true rfl) rfl (by decide),
  f_iload (e_dx DX10_mixIn_1 34 rfl),
  x_callV (e_dx DX10_mixIn_1 35 rfl) mwX8_get vwX8_get cX10_254 rfl,
  x_callV (e_dx DX10_mixIn_1 36 rfl) mwX10_lot vwX10_lot cX10_106 rfl,
  f_getL (e_dx DX10_mixIn_1 37 rfl) fX10_153 rfl (by decide),
  x_callS (e_dx DX10_mixIn_1 38 rfl) mwX10_mix cX10_242 swX10_mix rfl,
  f_lstore (e_dx DX10_mixIn_1 39 rfl) (by decide),
  f_g8 (e_dx DX10_mixIn_2 0 rfl) ⟨by decide, by decide⟩,
  f_g19 (e_dx DX10_mixIn_2 1 rfl) rfl,
  f_iload_n (n := 3) (e_dx DX10_mixIn_2 2 rfl) rfl,
  f_iconst (e_dx DX10_mixIn_2 3 rfl) ⟨by decide, by decide⟩,
  f_icmp_ne (e_dx DX10_mixIn_2 4 rfl) rfl,
  f_lload (e_dx DX10_mixIn_2 5 rfl),
  f_g19 (e_dx DX10_mixIn_2 6 rfl) rfl,
  f_lload (e_dx DX10_mixIn_2 7 rfl),
  f_aload_n (n := 0) (e_dx DX10_mixIn_2 8 rfl) rfl,
  f_iconst (e_dx DX10_mixIn_2 9 rfl) ⟨by decide, by decide⟩,
  f_aload (e_dx DX10_mixIn_2 10 rfl),
  f_getf (e_dx DX10_mixIn_2 11 rfl) fX10_167 rfl (by decide) (by decide) (by decide),
  x_callV (e_dx DX10_mixIn_2 12 rfl) mwX10_at vwX10_at cX10_93 rfl,
  f_getL (e_dx DX10_mixIn_2 13 rfl) fX10_157 rfl (by decide),
  x_callS (e_dx DX10_mixIn_2 14 rfl) mwX10_mix cX10_242 swX10_mix rfl,
  ⟨(e_dx DX10_mixIn_2 15 rfl), rfl⟩, trivial⟩
def lX10_mixIn (c_X10_nameOf : Nat → Int → Int → e_M → (Int → Prop) → Prop) (c_X10_mix : Int → Int → e_M → (Int → Prop) → Prop) (c_X10_fact : Nat → Int → Int → Int → e_M → (Int → Prop) → Prop) (c_X10_lot : Nat → Int → e_M → (Nat → Prop) → Prop) (c_X10_mixLot : Nat → Int → Nat → e_M → (Int → Prop) → Prop) (c_X10_at : Nat → Int → Int → e_M → (Nat → Prop) → Prop) (c_X8_get : Nat → Int → e_M → (Int → Prop) → Prop) : List (Nat × f_Wt) := [(0, f_wm [(3, 10, 15), (1, 0, 0), (1, 0, 0)] (fun ar M R => c_X10_nameOf (f_va (f_nth ar 0)) (f_vi (f_nth ar 1)) (f_vi (f_nth ar 2)) M (fun r => R (some (.inr (.inl r))) M))), (1, f_wm [(2, 0, 0), (2, 0, 0)] (fun ar M R => c_X10_mix (f_vi (f_nth ar 0)) (f_vi (f_nth ar 1)) M (fun r => R (some (.inr (.inl r))) M))), (2, f_wm [(3, 10, 15), (1, 0, 0), (1, 0, 0), (1, 0, 0)] (fun ar M R => c_X10_fact (f_va (f_nth ar 0)) (f_vi (f_nth ar 1)) (f_vi (f_nth ar 2)) (f_vi (f_nth ar 3)) M (fun r => R (some (.inl r)) M))), (3, f_wm [(3, 10, 15), (1, 0, 0)] (fun ar M R => c_X10_lot (f_va (f_nth ar 0)) (f_vi (f_nth ar 1)) M (fun r => R (some (.inr (.inr (.inl (4, 9, r))))) M))), (4, f_wm [(3, 10, 15), (2, 0, 0), (3, 4, 9)] (fun ar M R => c_X10_mixLot (f_va (f_nth ar 0)) (f_vi (f_nth ar 1)) (f_va (f_nth ar 2)) M (fun r => R (some (.inr (.inl r))) M))), (5, f_wm [(3, 10, 15), (1, 0, 0), (1, 0, 0)] (fun ar M R => c_X10_at (f_va (f_nth ar 0)) (f_vi (f_nth ar 1)) (f_vi (f_nth ar 2)) M (fun r => R (some (.inr (.inr (.inl (9, 14, r))))) M))), (6, f_wm [(3, 8, 2), (1, 0, 0)] (fun ar M R => c_X8_get (f_va (f_nth ar 0)) (f_vi (f_nth ar 1)) M (fun r => R (some (.inl r)) M)))]
set_option maxRecDepth 20000 in
theorem BX10_mixIn_16 {sh : Nat → Nat × Nat} {t : Nat} {rm : Nat × Nat × Nat} {cs : Nat × Nat} {R : f_Rt} {c_X10_nameOf : Nat → Int → Int → e_M → (Int → Prop) → Prop} {c_X10_mix : Int → Int → e_M → (Int → Prop) → Prop} {c_X10_fact : Nat → Int → Int → Int → e_M → (Int → Prop) → Prop} {c_X10_lot : Nat → Int → e_M → (Nat → Prop) → Prop} {c_X10_mixLot : Nat → Int → Nat → e_M → (Int → Prop) → Prop} {c_X10_at : Nat → Int → Int → e_M → (Nat → Prop) → Prop} {c_X8_get : Nat → Int → e_M → (Int → Prop) → Prop} {k86 : Nat → Int → Int → Nat → Int → Prop} {k16 : Nat → Int → Int → Int → Int → Prop} {a0 : Nat} {x3 : Int} {x4 : Int} {x5 : Int} {x7 : Int} {M : e_M} (C : f_Hy sh t yX10_mixIn rm cs 9 (lX10_mixIn c_X10_nameOf c_X10_mix c_X10_fact c_X10_lot c_X10_mixLot c_X10_at c_X8_get) R) (h86 : ∀ (a0 : Nat) (x3 : Int) (x5 : Int) (a7 : Nat) (x8 : Int), k86 a0 x3 x5 a7 x8 → f_E sh t YX10_mixIn rm cs (f_Q sh t R) 86 [.inr (.inr (.inl (10, 15, a0))), .inr (.inr (.inr ())), .inr (.inr (.inr ())), .inl x3, .inr (.inr (.inr ())), .inr (.inl x5), .inr (.inr (.inr ())), .inr (.inr (.inl (9, 14, a7))), .inl x8] [] M) (h16 : ∀ (a0 : Nat) (x3 : Int) (x4 : Int) (x5 : Int) (x7 : Int), k16 a0 x3 x4 x5 x7 → f_E sh t YX10_mixIn rm cs (f_Q sh t R) 16 [.inr (.inr (.inl (10, 15, a0))), .inr (.inr (.inr ())), .inr (.inr (.inr ())), .inl x3, .inl x4, .inr (.inl x5), .inr (.inr (.inr ())), .inl x7, .inr (.inr (.inr ()))] [] M) (h : VX10_mixIn_16 c_X10_nameOf c_X10_mix c_X10_fact c_X10_lot c_X10_mixLot c_X10_at c_X8_get k86 k16 (fun r => R (some (.inr (.inl r))) M) a0 x3 x4 x5 x7 M) : f_E sh t YX10_mixIn rm cs (f_Q sh t R) 16 [.inr (.inr (.inl (10, 15, a0))), .inr (.inr (.inr ())), .inr (.inr (.inr ())), .inl x3, .inl x4, .inr (.inl x5), .inr (.inr (.inr ())), .inl x7, .inr (.inr (.inr ()))] [] M := by
  rw [f_kk5 M k86] at h
  rw [f_kk5 M k16] at h
  exact f_go (KC := f_kc [(86, f_pl [(3, 10, 15), (0, 0, 0), (0, 0, 0), (1, 0, 0), (0, 0, 0), (2, 0, 0), (0, 0, 0), (3, 9, 14), (1, 0, 0)] [] (fun ls st M2 => M2 = M ∧ (k86 (f_va (f_nth ls 0)) (f_vi (f_nth ls 3)) (f_vi (f_nth ls 5)) (f_va (f_nth ls 7)) (f_vi (f_nth ls 8))))), (16, f_pl [(3, 10, 15), (0, 0, 0), (0, 0, 0), (1, 0, 0), (1, 0, 0), (2, 0, 0), (0, 0, 0), (1, 0, 0), (0, 0, 0)] [] (fun ls st M2 => M2 = M ∧ (k16 (f_va (f_nth ls 0)) (f_vi (f_nth ls 3)) (f_vi (f_nth ls 4)) (f_vi (f_nth ls 5)) (f_vi (f_nth ls 7)))))]) C qX10_mixInf (f_kc_cons (f_pl_ok rfl (fun ls st M2 ⟨e, hh⟩ => by subst e; exact h86 _ _ _ _ _ hh)) (f_kc_cons (f_pl_ok rfl (fun ls st M2 ⟨e, hh⟩ => by subst e; exact h16 _ _ _ _ _ hh)) f_kc_nil)) 101 10 h
set_option maxRecDepth 20000 in
theorem BX10_mixIn_86 {sh : Nat → Nat × Nat} {t : Nat} {rm : Nat × Nat × Nat} {cs : Nat × Nat} {R : f_Rt} {c_X10_nameOf : Nat → Int → Int → e_M → (Int → Prop) → Prop} {c_X10_mix : Int → Int → e_M → (Int → Prop) → Prop} {c_X10_fact : Nat → Int → Int → Int → e_M → (Int → Prop) → Prop} {c_X10_lot : Nat → Int → e_M → (Nat → Prop) → Prop} {c_X10_mixLot : Nat → Int → Nat → e_M → (Int → Prop) → Prop} {c_X10_at : Nat → Int → Int → e_M → (Nat → Prop) → Prop} {c_X8_get : Nat → Int → e_M → (Int → Prop) → Prop} {k132 : Nat → Int → Int → Nat → Int → Prop} {k86 : Nat → Int → Int → Nat → Int → Prop} {a0 : Nat} {x3 : Int} {x5 : Int} {a7 : Nat} {x8 : Int} {M : e_M} (C : f_Hy sh t yX10_mixIn rm cs 9 (lX10_mixIn c_X10_nameOf c_X10_mix c_X10_fact c_X10_lot c_X10_mixLot c_X10_at c_X8_get) R) (h132 : ∀ (a0 : Nat) (x3 : Int) (x5 : Int) (a7 : Nat) (x8 : Int), k132 a0 x3 x5 a7 x8 → f_E sh t YX10_mixIn rm cs (f_Q sh t R) 132 [.inr (.inr (.inl (10, 15, a0))), .inr (.inr (.inr ())), .inr (.inr (.inr ())), .inl x3, .inr (.inr (.inr ())), .inr (.inl x5), .inr (.inr (.inr ())), .inr (.inr (.inl (9, 14, a7))), .inl x8] [] M) (h86 : ∀ (a0 : Nat) (x3 : Int) (x5 : Int) (a7 : Nat) (x8 : Int), k86 a0 x3 x5 a7 x8 → f_E sh t YX10_mixIn rm cs (f_Q sh t R) 86 [.inr (.inr (.inl (10, 15, a0))), .inr (.inr (.inr ())), .inr (.inr (.inr ())), .inl x3, .inr (.inr (.inr ())), .inr (.inl x5), .inr (.inr (.inr ())), .inr (.inr (.inl (9, 14, a7))), .inl x8] [] M) (h : VX10_mixIn_86 c_X10_nameOf c_X10_mix c_X10_fact c_X10_lot c_X10_mixLot c_X10_at c_X8_get k132 k86 (fun r => R (some (.inr (.inl r))) M) a0 x3 x5 a7 x8 M) : f_E sh t YX10_mixIn rm cs (f_Q sh t R) 86 [.inr (.inr (.inl (10, 15, a0))), .inr (.inr (.inr ())), .inr (.inr (.inr ())), .inl x3, .inr (.inr (.inr ())), .inr (.inl x5), .inr (.inr (.inr ())), .inr (.inr (.inl (9, 14, a7))), .inl x8] [] M := by
  rw [f_kk5 M k132] at h
  rw [f_kk5 M k86] at h
  exact f_go (KC := f_kc [(132, f_pl [(3, 10, 15), (0, 0, 0), (0, 0, 0), (1, 0, 0), (0, 0, 0), (2, 0, 0), (0, 0, 0), (3, 9, 14), (1, 0, 0)] [] (fun ls st M2 => M2 = M ∧ (k132 (f_va (f_nth ls 0)) (f_vi (f_nth ls 3)) (f_vi (f_nth ls 5)) (f_va (f_nth ls 7)) (f_vi (f_nth ls 8))))), (86, f_pl [(3, 10, 15), (0, 0, 0), (0, 0, 0), (1, 0, 0), (0, 0, 0), (2, 0, 0), (0, 0, 0), (3, 9, 14), (1, 0, 0)] [] (fun ls st M2 => M2 = M ∧ (k86 (f_va (f_nth ls 0)) (f_vi (f_nth ls 3)) (f_vi (f_nth ls 5)) (f_va (f_nth ls 7)) (f_vi (f_nth ls 8)))))]) C qX10_mixInf (f_kc_cons (f_pl_ok rfl (fun ls st M2 ⟨e, hh⟩ => by subst e; exact h132 _ _ _ _ _ hh)) (f_kc_cons (f_pl_ok rfl (fun ls st M2 ⟨e, hh⟩ => by subst e; exact h86 _ _ _ _ _ hh)) f_kc_nil)) 101 48 h
set_option maxRecDepth 20000 in
theorem BX10_mixIn_132 {sh : Nat → Nat × Nat} {t : Nat} {rm : Nat × Nat × Nat} {cs : Nat × Nat} {R : f_Rt} {c_X10_nameOf : Nat → Int → Int → e_M → (Int → Prop) → Prop} {c_X10_mix : Int → Int → e_M → (Int → Prop) → Prop} {c_X10_fact : Nat → Int → Int → Int → e_M → (Int → Prop) → Prop} {c_X10_lot : Nat → Int → e_M → (Nat → Prop) → Prop} {c_X10_mixLot : Nat → Int → Nat → e_M → (Int → Prop) → Prop} {c_X10_at : Nat → Int → Int → e_M → (Nat → Prop) → Prop} {c_X8_get : Nat → Int → e_M → (Int → Prop) → Prop} {k132 : Nat → Int → Int → Nat → Int → Prop} {a0 : Nat} {x3 : Int} {x5 : Int} {a7 : Nat} {x8 : Int} {M : e_M} (C : f_Hy sh t yX10_mixIn rm cs 9 (lX10_mixIn c_X10_nameOf c_X10_mix c_X10_fact c_X10_lot c_X10_mixLot c_X10_at c_X8_get) R) (h132 : ∀ (a0 : Nat) (x3 : Int) (x5 : Int) (a7 : Nat) (x8 : Int), k132 a0 x3 x5 a7 x8 → f_E sh t YX10_mixIn rm cs (f_Q sh t R) 132 [.inr (.inr (.inl (10, 15, a0))), .inr (.inr (.inr ())), .inr (.inr (.inr ())), .inl x3, .inr (.inr (.inr ())), .inr (.inl x5), .inr (.inr (.inr ())), .inr (.inr (.inl (9, 14, a7))), .inl x8] [] M) (h : VX10_mixIn_132 c_X10_nameOf c_X10_mix c_X10_fact c_X10_lot c_X10_mixLot c_X10_at c_X8_get k132 (fun r => R (some (.inr (.inl r))) M) a0 x3 x5 a7 x8 M) : f_E sh t YX10_mixIn rm cs (f_Q sh t R) 132 [.inr (.inr (.inl (10, 15, a0))), .inr (.inr (.inr ())), .inr (.inr (.inr ())), .inl x3, .inr (.inr (.inr ())), .inr (.inl x5), .inr (.inr (.inr ())), .inr (.inr (.inl (9, 14, a7))), .inl x8] [] M := by
  rw [f_kk5 M k132] at h
  exact f_go (KC := f_kc [(132, f_pl [(3, 10, 15), (0, 0, 0), (0, 0, 0), (1, 0, 0), (0, 0, 0), (2, 0, 0), (0, 0, 0), (3, 9, 14), (1, 0, 0)] [] (fun ls st M2 => M2 = M ∧ (k132 (f_va (f_nth ls 0)) (f_vi (f_nth ls 3)) (f_vi (f_nth ls 5)) (f_va (f_nth ls 7)) (f_vi (f_nth ls 8)))))]) C qX10_mixInf (f_kc_cons (f_pl_ok rfl (fun ls st M2 ⟨e, hh⟩ => by subst e; exact h132 _ _ _ _ _ hh)) f_kc_nil) 101 68 h
set_option maxRecDepth 20000 in
theorem BX10_mixIn {sh : Nat → Nat × Nat} {t : Nat} {rm : Nat × Nat × Nat} {cs : Nat × Nat} {R : f_Rt} {c_X10_nameOf : Nat → Int → Int → e_M → (Int → Prop) → Prop} {c_X10_mix : Int → Int → e_M → (Int → Prop) → Prop} {c_X10_fact : Nat → Int → Int → Int → e_M → (Int → Prop) → Prop} {c_X10_lot : Nat → Int → e_M → (Nat → Prop) → Prop} {c_X10_mixLot : Nat → Int → Nat → e_M → (Int → Prop) → Prop} {c_X10_at : Nat → Int → Int → e_M → (Nat → Prop) → Prop} {c_X8_get : Nat → Int → e_M → (Int → Prop) → Prop} {k16 : Nat → Int → Int → Int → Int → Prop} {a0 : Nat} {x1 : Int} {x3 : Int} {x4 : Int} {M : e_M} (C : f_Hy sh t yX10_mixIn rm cs 9 (lX10_mixIn c_X10_nameOf c_X10_mix c_X10_fact c_X10_lot c_X10_mixLot c_X10_at c_X8_get) R) (h16 : ∀ (a0 : Nat) (x3 : Int) (x4 : Int) (x5 : Int) (x7 : Int), k16 a0 x3 x4 x5 x7 → f_E sh t YX10_mixIn rm cs (f_Q sh t R) 16 [.inr (.inr (.inl (10, 15, a0))), .inr (.inr (.inr ())), .inr (.inr (.inr ())), .inl x3, .inl x4, .inr (.inl x5), .inr (.inr (.inr ())), .inl x7, .inr (.inr (.inr ()))] [] M) (h : VX10_mixIn c_X10_nameOf c_X10_mix c_X10_fact c_X10_lot c_X10_mixLot c_X10_at c_X8_get k16 (fun r => R (some (.inr (.inl r))) M) a0 x1 x3 x4 M) : f_E sh t YX10_mixIn rm cs (f_Q sh t R) 0 [.inr (.inr (.inl (10, 15, a0))), .inr (.inl x1), .inr (.inr (.inr ())), .inl x3, .inl x4, .inr (.inr (.inr ())), .inr (.inr (.inr ())), .inr (.inr (.inr ())), .inr (.inr (.inr ()))] [] M := by
  rw [f_kk5 M k16] at h
  exact f_go (KC := f_kc [(16, f_pl [(3, 10, 15), (0, 0, 0), (0, 0, 0), (1, 0, 0), (1, 0, 0), (2, 0, 0), (0, 0, 0), (1, 0, 0), (0, 0, 0)] [] (fun ls st M2 => M2 = M ∧ (k16 (f_va (f_nth ls 0)) (f_vi (f_nth ls 3)) (f_vi (f_nth ls 4)) (f_vi (f_nth ls 5)) (f_vi (f_nth ls 7)))))]) C qX10_mixInf (f_kc_cons (f_pl_ok rfl (fun ls st M2 ⟨e, hh⟩ => by subst e; exact h16 _ _ _ _ _ hh)) f_kc_nil) 101 0 h
def WX10_mixIn_132 (M : e_M) (Q : Int → Prop) : Nat → Nat → Int → Int → Nat → Int → Prop
  | 0, _, _, _, _, _ => False
  | n + 1, a0, x3, x5, a7, x8 =>
    VX10_mixIn_132 WX10_nameOf WX10_mix WX10_fact WX10_lot WX10_mixLot WX10_at WX8_get (WX10_mixIn_132 M Q n) Q a0 x3 x5 a7 x8 M
def WX10_mixIn_86 (M : e_M) (Q : Int → Prop) : Nat → Nat → Int → Int → Nat → Int → Prop
  | 0, _, _, _, _, _ => False
  | n + 1, a0, x3, x5, a7, x8 =>
    VX10_mixIn_86 WX10_nameOf WX10_mix WX10_fact WX10_lot WX10_mixLot WX10_at WX8_get (fun a0 x3 x5 a7 x8 => ∃ j, WX10_mixIn_132 M Q j a0 x3 x5 a7 x8) (WX10_mixIn_86 M Q n) Q a0 x3 x5 a7 x8 M
def WX10_mixIn_16 (M : e_M) (Q : Int → Prop) : Nat → Nat → Int → Int → Int → Int → Prop
  | 0, _, _, _, _, _ => False
  | n + 1, a0, x3, x4, x5, x7 =>
    VX10_mixIn_16 WX10_nameOf WX10_mix WX10_fact WX10_lot WX10_mixLot WX10_at WX8_get (fun a0 x3 x5 a7 x8 => ∃ j, WX10_mixIn_86 M Q j a0 x3 x5 a7 x8) (WX10_mixIn_16 M Q n) Q a0 x3 x4 x5 x7 M
def WX10_mixIn (a0 : Nat) (x1 : Int) (x3 : Int) (x4 : Int) (M : e_M) (Q : Int → Prop) : Prop :=
  VX10_mixIn WX10_nameOf WX10_mix WX10_fact WX10_lot WX10_mixLot WX10_at WX8_get (fun a0 x3 x4 x5 x7 => ∃ j, WX10_mixIn_16 M Q j a0 x3 x4 x5 x7) Q a0 x1 x3 x4 M
theorem PX10_mixIn_132 {sh : Nat → Nat × Nat} {t : Nat} {rm : Nat × Nat × Nat} {cs : Nat × Nat} {R : f_Rt} {M : e_M} (C : f_Hy sh t yX10_mixIn rm cs 9 (lX10_mixIn WX10_nameOf WX10_mix WX10_fact WX10_lot WX10_mixLot WX10_at WX8_get) R) : ∀ (n : Nat) (a0 : Nat) (x3 : Int) (x5 : Int) (a7 : Nat) (x8 : Int), WX10_mixIn_132 M (fun r => R (some (.inr (.inl r))) M) n a0 x3 x5 a7 x8 → f_E sh t YX10_mixIn rm cs (f_Q sh t R) 132 [.inr (.inr (.inl (10, 15, a0))), .inr (.inr (.inr ())), .inr (.inr (.inr ())), .inl x3, .inr (.inr (.inr ())), .inr (.inl x5), .inr (.inr (.inr ())), .inr (.inr (.inl (9, 14, a7))), .inl x8] [] M := by
  intro n
  induction n with
  | zero => intro a0 x3 x5 a7 x8 h; exact h.elim
  | succ n ih => intro a0 x3 x5 a7 x8 h; exact BX10_mixIn_132 C ih h
theorem PX10_mixIn_86 {sh : Nat → Nat × Nat} {t : Nat} {rm : Nat × Nat × Nat} {cs : Nat × Nat} {R : f_Rt} {M : e_M} (C : f_Hy sh t yX10_mixIn rm cs 9 (lX10_mixIn WX10_nameOf WX10_mix WX10_fact WX10_lot WX10_mixLot WX10_at WX8_get) R) : ∀ (n : Nat) (a0 : Nat) (x3 : Int) (x5 : Int) (a7 : Nat) (x8 : Int), WX10_mixIn_86 M (fun r => R (some (.inr (.inl r))) M) n a0 x3 x5 a7 x8 → f_E sh t YX10_mixIn rm cs (f_Q sh t R) 86 [.inr (.inr (.inl (10, 15, a0))), .inr (.inr (.inr ())), .inr (.inr (.inr ())), .inl x3, .inr (.inr (.inr ())), .inr (.inl x5), .inr (.inr (.inr ())), .inr (.inr (.inl (9, 14, a7))), .inl x8] [] M := by
  intro n
  induction n with
  | zero => intro a0 x3 x5 a7 x8 h; exact h.elim
  | succ n ih => intro a0 x3 x5 a7 x8 h; exact BX10_mixIn_86 C (fun a0 x3 x5 a7 x8 ⟨j, h⟩ => PX10_mixIn_132 C j _ _ _ _ _ h) ih h
theorem PX10_mixIn_16 {sh : Nat → Nat × Nat} {t : Nat} {rm : Nat × Nat × Nat} {cs : Nat × Nat} {R : f_Rt} {M : e_M} (C : f_Hy sh t yX10_mixIn rm cs 9 (lX10_mixIn WX10_nameOf WX10_mix WX10_fact WX10_lot WX10_mixLot WX10_at WX8_get) R) : ∀ (n : Nat) (a0 : Nat) (x3 : Int) (x4 : Int) (x5 : Int) (x7 : Int), WX10_mixIn_16 M (fun r => R (some (.inr (.inl r))) M) n a0 x3 x4 x5 x7 → f_E sh t YX10_mixIn rm cs (f_Q sh t R) 16 [.inr (.inr (.inl (10, 15, a0))), .inr (.inr (.inr ())), .inr (.inr (.inr ())), .inl x3, .inl x4, .inr (.inl x5), .inr (.inr (.inr ())), .inl x7, .inr (.inr (.inr ()))] [] M := by
  intro n
  induction n with
  | zero => intro a0 x3 x4 x5 x7 h; exact h.elim
  | succ n ih => intro a0 x3 x4 x5 x7 h; exact BX10_mixIn_16 C (fun a0 x3 x5 a7 x8 ⟨j, h⟩ => PX10_mixIn_86 C j _ _ _ _ _ h) ih h
theorem PX10_mixIn {sh : Nat → Nat × Nat} {t : Nat} {rm : Nat × Nat × Nat} {cs : Nat × Nat} {R : f_Rt} {a0 : Nat} {x1 : Int} {x3 : Int} {x4 : Int} {M : e_M} (C : f_Hy sh t yX10_mixIn rm cs 9 (lX10_mixIn WX10_nameOf WX10_mix WX10_fact WX10_lot WX10_mixLot WX10_at WX8_get) R) (h : WX10_mixIn a0 x1 x3 x4 M (fun r => R (some (.inr (.inl r))) M)) : f_E sh t YX10_mixIn rm cs (f_Q sh t R) 0 [.inr (.inr (.inl (10, 15, a0))), .inr (.inl x1), .inr (.inr (.inr ())), .inl x3, .inl x4, .inr (.inr (.inr ())), .inr (.inr (.inr ())), .inr (.inr (.inr ())), .inr (.inr (.inr ()))] [] M :=
  BX10_mixIn C (fun a0 x3 x4 x5 x7 ⟨j, h⟩ => PX10_mixIn_16 C j _ _ _ _ _ h) h
def wX10_mixIn : f_Wt := f_wm [(3, 10, 15), (2, 0, 0), (1, 0, 0), (1, 0, 0)] (fun ar M R => WX10_mixIn (f_va (f_nth ar 0)) (f_vi (f_nth ar 1)) (f_vi (f_nth ar 2)) (f_vi (f_nth ar 3)) M (fun r => R (some (.inr (.inl r))) M))
theorem TX10_mixIn {sh : Nat → Nat × Nat} {t : Nat} : f_Mt sh t YX10_mixIn 9 (wX10_mixIn) :=
  f_Mt_of (k := 4) (Nat.le_of_ble_eq_true rfl) rfl rfl (fun ar M R rm cs h1 h2 h3 hX h => PX10_mixIn ⟨Nat.le_of_ble_eq_true rfl, h1, h2, h3, ⟨(f_Mt.up (Nat.le_of_ble_eq_true rfl) TX10_nameOf), (f_Mt.up (Nat.le_of_ble_eq_true rfl) TX10_mix), (f_Mt.up (Nat.le_of_ble_eq_true rfl) TX10_fact), (f_Mt.up (Nat.le_of_ble_eq_true rfl) TX10_lot), (f_Mt.up (Nat.le_of_ble_eq_true rfl) TX10_mixLot), (f_Mt.up (Nat.le_of_ble_eq_true rfl) TX10_at), (f_Mt.up (Nat.le_of_ble_eq_true rfl) TX8_get), trivial⟩, hX⟩ h)
def VX11_feedFour_3 (k3 : Int → Int → e_M → Prop) (Q : e_M → Prop) (x1 : Int) (x2 : Int) (M : e_M) : Prop :=
  ((x2 < 0 → (Q M)) ∧ (0 ≤ x2 → ((640 ≤ (M 0 1) → (Q M)) ∧ ((M 0 1) < 640 → ((0 ≤ (M 0 1) ∧ (M 0 1) < 640) ∧ (∀ M1 : e_M, M1 = e_up M 1 ((M 0 1).toNat) (e_w8 (e_w8 (f_shr x1 x2))) → (∀ M2 : e_M, M2 = e_up M1 0 1 (e_w32 ((M1 0 1) + 1)) → (k3 x1 (e_w32 (x2 + (-8))) M2))))))))
def VX11_feedFour (k3 : Int → Int → e_M → Prop) (Q : e_M → Prop) (x1 : Int) (M : e_M) : Prop :=
  (k3 x1 24 M)
def yX11_feedFour (i : Nat) : e_Y := x_get YX11_feedFour [] i
def pX11_feedFourf : List x_I := [(0, 0, 2, 0, 0, 24, []), (2, 5, 1, 2, 0, 0, []), (3, 49, 0, 0, 0, 0, []), (3, 2, 1, 2, 0, 0, []), (4, 17, 46, 2, 27, 0, []), (7, 4, 1, 0, 0, 0, []), (8, 25, 11, 1, 0, 0, []), (11, 0, 3, 0, 0, 640, []), (14, 18, 46, 3, 27, 0, []), (17, 4, 1, 0, 0, 0, []), (18, 25, 11, 0, 4, 0, [(0, 22, 640), (0, 1, 1)]), (21, 4, 1, 0, 0, 0, []), (22, 25, 11, 1, 0, 0, []), (25, 2, 1, 1, 0, 0, []), (26, 2, 1, 2, 0, 0, []), (27, 9, 0, 9, 0, 0, []), (28, 12, 0, 1, 0, 0, []), (29, 29, 0, 0, 0, 0, []), (30, 4, 1, 0, 0, 0, []), (31, 20, 0, 0, 0, 0, []), (32, 25, 11, 1, 0, 0, []), (35, 0, 1, 0, 0, 1, []), (36, 9, 0, 0, 0, 0, []), (37, 26, 11, 1, 0, 0, []), (40, 8, 0, 2, 0, (-8), []), (43, 19, 3, 0, 3, 0, []), (46, 44, 0, 0, 0, 0, [])]
set_option maxRecDepth 20000 in
theorem qX11_feedFourf : f_all yX11_feedFour YX11_feedFour pX11_feedFourf :=
  ⟨f_bipush (e_dx DX11_feedFour_0 0 rfl) ⟨by decide, by decide⟩,
  f_istore_n (n := 2) (e_dx DX11_feedFour_0 1 rfl) rfl (by decide),
  trivial,
  f_iload_n (n := 2) (e_dx DX11_feedFour_0 2 rfl) rfl,
  f_if_lt (e_dx DX11_feedFour_0 3 rfl) rfl,
  f_aload_n (n := 0) (e_dx DX11_feedFour_0 4 rfl) rfl,
  f_getf (e_dx DX11_feedFour_0 5 rfl) fX11_13 rfl (by decide) (by decide) (by decide),
  f_sipush (e_dx DX11_feedFour_0 6 rfl) ⟨by decide, by decide⟩,
  f_icmp_ge (e_dx DX11_feedFour_0 7 rfl) rfl,
  f_aload_n (n := 0) (e_dx DX11_feedFour_0 8 rfl) rfl,
  f_getA (e_dx DX11_feedFour_0 9 rfl) fX11_9 rfl (by decide) (Nat.le_of_ble_eq_true rfl) rfl (by decide),
  f_aload_n (n := 0) (e_dx DX11_feedFour_0 10 rfl) rfl,
  f_getf (e_dx DX11_feedFour_0 11 rfl) fX11_13 rfl (by decide) (by decide) (by decide),
  f_iload_n (n := 1) (e_dx DX11_feedFour_0 12 rfl) rfl,
  f_iload_n (n := 2) (e_dx DX11_feedFour_0 13 rfl) rfl,
  f_ishr (e_dx DX11_feedFour_0 14 rfl),
  f_i2b (e_dx DX11_feedFour_0 15 rfl),
  f_g29 (e_dx DX11_feedFour_0 16 rfl),
  f_aload_n (n := 0) (e_dx DX11_feedFour_0 17 rfl) rfl,
  f_g20 (e_dx DX11_feedFour_0 18 rfl),
  f_getf (e_dx DX11_feedFour_0 19 rfl) fX11_13 rfl (by decide) (by decide) (by decide),
  f_iconst (e_dx DX11_feedFour_0 20 rfl) ⟨by decide, by decide⟩,
  f_iadd (e_dx DX11_feedFour_0 21 rfl),
  f_putn (e_dx DX11_feedFour_0 22 rfl) fX11_13 (fun q hq => by cases hq; rfl) rfl (Or.inl rfl) (by decide),
  f_g8 (e_dx DX11_feedFour_0 23 rfl) ⟨by decide, by decide⟩,
  f_g19 (e_dx DX11_feedFour_0 24 rfl) rfl,
  ⟨(e_dx DX11_feedFour_0 25 rfl), rfl⟩, trivial⟩
def lX11_feedFour : List (Nat × f_Wt) := []
set_option maxRecDepth 20000 in
theorem BX11_feedFour_3 {sh : Nat → Nat × Nat} {t : Nat} {rm : Nat × Nat × Nat} {cs : Nat × Nat} {R : f_Rt} {k3 : Int → Int → e_M → Prop} {x1 : Int} {x2 : Int} {M : e_M} (C : f_Hy sh t yX11_feedFour rm cs 4 (lX11_feedFour) R) (h3 : ∀ (x1 : Int) (x2 : Int) (M : e_M), k3 x1 x2 M → f_E sh t YX11_feedFour rm cs (f_Q sh t R) 3 [.inr (.inr (.inl (11, 15, 0))), .inl x1, .inl x2] [] M) (h : VX11_feedFour_3 k3 (fun M => R none M) x1 x2 M) : f_E sh t YX11_feedFour rm cs (f_Q sh t R) 3 [.inr (.inr (.inl (11, 15, 0))), .inl x1, .inl x2] [] M :=
  f_go (KC := f_kc [(3, f_pl [(10, 11, 15), (1, 0, 0), (1, 0, 0)] [] (fun ls st M => k3 (f_vi (f_nth ls 1)) (f_vi (f_nth ls 2)) M))]) C qX11_feedFourf (f_kc_cons (f_pl_ok rfl (fun ls st M h => h3 _ _ M h)) f_kc_nil) 29 3 h
set_option maxRecDepth 20000 in
theorem BX11_feedFour {sh : Nat → Nat × Nat} {t : Nat} {rm : Nat × Nat × Nat} {cs : Nat × Nat} {R : f_Rt} {k3 : Int → Int → e_M → Prop} {x1 : Int} {M : e_M} (C : f_Hy sh t yX11_feedFour rm cs 4 (lX11_feedFour) R) (h3 : ∀ (x1 : Int) (x2 : Int) (M : e_M), k3 x1 x2 M → f_E sh t YX11_feedFour rm cs (f_Q sh t R) 3 [.inr (.inr (.inl (11, 15, 0))), .inl x1, .inl x2] [] M) (h : VX11_feedFour k3 (fun M => R none M) x1 M) : f_E sh t YX11_feedFour rm cs (f_Q sh t R) 0 [.inr (.inr (.inl (11, 15, 0))), .inl x1, .inr (.inr (.inr ()))] [] M :=
  f_go (KC := f_kc [(3, f_pl [(10, 11, 15), (1, 0, 0), (1, 0, 0)] [] (fun ls st M => k3 (f_vi (f_nth ls 1)) (f_vi (f_nth ls 2)) M))]) C qX11_feedFourf (f_kc_cons (f_pl_ok rfl (fun ls st M h => h3 _ _ M h)) f_kc_nil) 29 0 h
def WX11_feedFour_3 (Q : e_M → Prop) : Nat → Int → Int → e_M → Prop
  | 0, _, _, _ => False
  | n + 1, x1, x2, M =>
    VX11_feedFour_3 (WX11_feedFour_3 Q n) Q x1 x2 M
def WX11_feedFour (x1 : Int) (M : e_M) (Q : e_M → Prop) : Prop :=
  VX11_feedFour (fun x1 x2 M => ∃ j, WX11_feedFour_3 Q j x1 x2 M) Q x1 M
theorem PX11_feedFour_3 {sh : Nat → Nat × Nat} {t : Nat} {rm : Nat × Nat × Nat} {cs : Nat × Nat} {R : f_Rt} (C : f_Hy sh t yX11_feedFour rm cs 4 (lX11_feedFour) R) : ∀ (n : Nat) (x1 : Int) (x2 : Int) (M : e_M), WX11_feedFour_3 (fun M => R none M) n x1 x2 M → f_E sh t YX11_feedFour rm cs (f_Q sh t R) 3 [.inr (.inr (.inl (11, 15, 0))), .inl x1, .inl x2] [] M := by
  intro n
  induction n with
  | zero => intro x1 x2 M h; exact h.elim
  | succ n ih => intro x1 x2 M h; exact BX11_feedFour_3 C ih h
theorem PX11_feedFour {sh : Nat → Nat × Nat} {t : Nat} {rm : Nat × Nat × Nat} {cs : Nat × Nat} {R : f_Rt} {x1 : Int} {M : e_M} (C : f_Hy sh t yX11_feedFour rm cs 4 (lX11_feedFour) R) (h : WX11_feedFour x1 M (fun M => R none M)) : f_E sh t YX11_feedFour rm cs (f_Q sh t R) 0 [.inr (.inr (.inl (11, 15, 0))), .inl x1, .inr (.inr (.inr ()))] [] M :=
  BX11_feedFour C (fun x1 x2 M ⟨j, h⟩ => PX11_feedFour_3 C j _ _ _ h) h
def wX11_feedFour : f_Wt := f_wm [(10, 11, 15), (1, 0, 0)] (fun ar M R => WX11_feedFour (f_vi (f_nth ar 1)) M (fun M => R none M))
theorem TX11_feedFour {sh : Nat → Nat × Nat} {t : Nat} : f_Mt sh t YX11_feedFour 4 (wX11_feedFour) :=
  f_Mt_of (k := 1) (Nat.le_of_ble_eq_true rfl) rfl rfl (fun ar M R rm cs h1 h2 h3 hX h => PX11_feedFour ⟨Nat.le_of_ble_eq_true rfl, h1, h2, h3, trivial, hX⟩ h)
def VX11_feed (c_X11_feedFour : Int → e_M → (e_M → Prop) → Prop) (Q : Int → e_M → Prop) (x1 : Int) (x2 : Int) (x3 : Int) (x4 : Int) (x5 : Int) (M : e_M) : Prop :=
  (((e_w32 ((M 0 1) + 20)) ≤ 640 → (c_X11_feedFour x1 M (fun M1 => (c_X11_feedFour x2 M1 (fun M2 => (c_X11_feedFour x3 M2 (fun M3 => (c_X11_feedFour x4 M3 (fun M4 => (c_X11_feedFour x5 M4 (fun M5 => (Q 1 M5)))))))))))) ∧ (640 < (e_w32 ((M 0 1) + 20)) → (Q 0 M)))
def yX11_feed (i : Nat) : e_Y := x_get YX11_feed [YX11_feedFour] i
def pX11_feedf : List x_I := [(0, 4, 1, 0, 0, 0, []), (1, 25, 11, 1, 0, 0, []), (4, 0, 2, 0, 0, 20, []), (6, 9, 0, 0, 0, 0, []), (7, 0, 3, 0, 0, 640, []), (10, 18, 15, 5, 9, 0, []), (13, 0, 1, 0, 0, 0, []), (14, 48, 0, 0, 0, 0, []), (15, 4, 1, 0, 0, 0, []), (16, 2, 1, 1, 0, 0, []), (17, 40, 0, 2, 13, 0, []), (20, 4, 1, 0, 0, 0, []), (21, 2, 1, 2, 0, 0, []), (22, 40, 0, 2, 13, 0, []), (25, 4, 1, 0, 0, 0, []), (26, 2, 1, 3, 0, 0, []), (27, 40, 0, 2, 13, 0, []), (30, 4, 1, 0, 0, 0, []), (31, 2, 2, 4, 0, 0, []), (33, 40, 0, 2, 13, 0, []), (36, 4, 1, 0, 0, 0, []), (37, 2, 2, 5, 0, 0, []), (39, 40, 0, 2, 13, 0, []), (42, 0, 1, 0, 0, 1, []), (43, 48, 0, 0, 0, 0, [])]
set_option maxRecDepth 20000 in
theorem qX11_feedf : f_all yX11_feed YX11_feed pX11_feedf :=
  ⟨f_aload_n (n := 0) (e_dx DX11_feed_0 0 rfl) rfl,
  f_getf (e_dx DX11_feed_0 1 rfl) fX11_13 rfl (by decide) (by decide) (by decide),
  f_bipush (e_dx DX11_feed_0 2 rfl) ⟨by decide, by decide⟩,
  f_iadd (e_dx DX11_feed_0 3 rfl),
  f_sipush (e_dx DX11_feed_0 4 rfl) ⟨by decide, by decide⟩,
  f_icmp_le (e_dx DX11_feed_0 5 rfl) rfl,
  f_iconst (e_dx DX11_feed_0 6 rfl) ⟨by decide, by decide⟩,
  ⟨(e_dx DX11_feed_0 7 rfl), rfl⟩,
  f_aload_n (n := 0) (e_dx DX11_feed_0 8 rfl) rfl,
  f_iload_n (n := 1) (e_dx DX11_feed_0 9 rfl) rfl,
  x_callV (e_dx DX11_feed_0 10 rfl) mwX11_feedFour vwX11_feedFour cX11_87 rfl,
  f_aload_n (n := 0) (e_dx DX11_feed_0 11 rfl) rfl,
  f_iload_n (n := 2) (e_dx DX11_feed_0 12 rfl) rfl,
  x_callV (e_dx DX11_feed_0 13 rfl) mwX11_feedFour vwX11_feedFour cX11_87 rfl,
  f_aload_n (n := 0) (e_dx DX11_feed_0 14 rfl) rfl,
  f_iload_n (n := 3) (e_dx DX11_feed_0 15 rfl) rfl,
  x_callV (e_dx DX11_feed_0 16 rfl) mwX11_feedFour vwX11_feedFour cX11_87 rfl,
  f_aload_n (n := 0) (e_dx DX11_feed_0 17 rfl) rfl,
  f_iload (e_dx DX11_feed_0 18 rfl),
  x_callV (e_dx DX11_feed_0 19 rfl) mwX11_feedFour vwX11_feedFour cX11_87 rfl,
  f_aload_n (n := 0) (e_dx DX11_feed_0 20 rfl) rfl,
  f_iload (e_dx DX11_feed_0 21 rfl),
  x_callV (e_dx DX11_feed_0 22 rfl) mwX11_feedFour vwX11_feedFour cX11_87 rfl,
  f_iconst (e_dx DX11_feed_0 23 rfl) ⟨by decide, by decide⟩,
  ⟨(e_dx DX11_feed_0 24 rfl), rfl⟩, trivial⟩
def lX11_feed (c_X11_feedFour : Int → e_M → (e_M → Prop) → Prop) : List (Nat × f_Wt) := [(0, f_wm [(10, 11, 15), (1, 0, 0)] (fun ar M R => c_X11_feedFour (f_vi (f_nth ar 1)) M (fun M => R none M)))]
set_option maxRecDepth 20000 in
theorem BX11_feed {sh : Nat → Nat × Nat} {t : Nat} {rm : Nat × Nat × Nat} {cs : Nat × Nat} {R : f_Rt} {c_X11_feedFour : Int → e_M → (e_M → Prop) → Prop} {x1 : Int} {x2 : Int} {x3 : Int} {x4 : Int} {x5 : Int} {M : e_M} (C : f_Hy sh t yX11_feed rm cs 5 (lX11_feed c_X11_feedFour) R) (h : VX11_feed c_X11_feedFour (fun r M => R (some (.inl r)) M) x1 x2 x3 x4 x5 M) : f_E sh t YX11_feed rm cs (f_Q sh t R) 0 [.inr (.inr (.inl (11, 15, 0))), .inl x1, .inl x2, .inl x3, .inl x4, .inl x5] [] M :=
  f_go (KC := f_kc []) C qX11_feedf f_kc_nil 27 0 h
def WX11_feed (x1 : Int) (x2 : Int) (x3 : Int) (x4 : Int) (x5 : Int) (M : e_M) (Q : Int → e_M → Prop) : Prop :=
  VX11_feed WX11_feedFour Q x1 x2 x3 x4 x5 M
theorem PX11_feed {sh : Nat → Nat × Nat} {t : Nat} {rm : Nat × Nat × Nat} {cs : Nat × Nat} {R : f_Rt} {x1 : Int} {x2 : Int} {x3 : Int} {x4 : Int} {x5 : Int} {M : e_M} (C : f_Hy sh t yX11_feed rm cs 5 (lX11_feed WX11_feedFour) R) (h : WX11_feed x1 x2 x3 x4 x5 M (fun r M => R (some (.inl r)) M)) : f_E sh t YX11_feed rm cs (f_Q sh t R) 0 [.inr (.inr (.inl (11, 15, 0))), .inl x1, .inl x2, .inl x3, .inl x4, .inl x5] [] M :=
  BX11_feed C h
def wX11_feed : f_Wt := f_wm [(10, 11, 15), (1, 0, 0), (1, 0, 0), (1, 0, 0), (1, 0, 0), (1, 0, 0)] (fun ar M R => WX11_feed (f_vi (f_nth ar 1)) (f_vi (f_nth ar 2)) (f_vi (f_nth ar 3)) (f_vi (f_nth ar 4)) (f_vi (f_nth ar 5)) M (fun r M => R (some (.inl r)) M))
theorem TX11_feed {sh : Nat → Nat × Nat} {t : Nat} : f_Mt sh t YX11_feed 5 (wX11_feed) :=
  f_Mt_of (k := 0) (Nat.le_of_ble_eq_true rfl) rfl rfl (fun ar M R rm cs h1 h2 h3 hX h => PX11_feed ⟨Nat.le_of_ble_eq_true rfl, h1, h2, h3, ⟨(f_Mt.up (Nat.le_of_ble_eq_true rfl) TX11_feedFour), trivial⟩, hX⟩ h)
def VX11_end (Q : Int → e_M → Prop) (x1 : Int) (M : e_M) : Prop :=
  ((x1 < 0 → (Q 0 M)) ∧ (0 ≤ x1 → ((x1 ≤ (M 0 1) → (∀ M1 : e_M, M1 = e_up M 0 1 x1 → (Q 1 M1))) ∧ ((M 0 1) < x1 → (Q 0 M)))))
def yX11_end (i : Nat) : e_Y := x_get YX11_end [] i
def pX11_endf : List x_I := [(0, 2, 1, 1, 0, 0, []), (1, 17, 12, 2, 7, 0, []), (4, 2, 1, 1, 0, 0, []), (5, 4, 1, 0, 0, 0, []), (6, 25, 11, 1, 0, 0, []), (9, 18, 14, 5, 9, 0, []), (12, 0, 1, 0, 0, 0, []), (13, 48, 0, 0, 0, 0, []), (14, 4, 1, 0, 0, 0, []), (15, 2, 1, 1, 0, 0, []), (16, 26, 11, 1, 0, 0, []), (19, 0, 1, 0, 0, 1, []), (20, 48, 0, 0, 0, 0, [])]
set_option maxRecDepth 20000 in
theorem qX11_endf : f_all yX11_end YX11_end pX11_endf :=
  ⟨f_iload_n (n := 1) (e_dx DX11_end_0 0 rfl) rfl,
  f_if_lt (e_dx DX11_end_0 1 rfl) rfl,
  f_iload_n (n := 1) (e_dx DX11_end_0 2 rfl) rfl,
  f_aload_n (n := 0) (e_dx DX11_end_0 3 rfl) rfl,
  f_getf (e_dx DX11_end_0 4 rfl) fX11_13 rfl (by decide) (by decide) (by decide),
  f_icmp_le (e_dx DX11_end_0 5 rfl) rfl,
  f_iconst (e_dx DX11_end_0 6 rfl) ⟨by decide, by decide⟩,
  ⟨(e_dx DX11_end_0 7 rfl), rfl⟩,
  f_aload_n (n := 0) (e_dx DX11_end_0 8 rfl) rfl,
  f_iload_n (n := 1) (e_dx DX11_end_0 9 rfl) rfl,
  f_putn (e_dx DX11_end_0 10 rfl) fX11_13 (fun q hq => by cases hq; rfl) rfl (Or.inl rfl) (by decide),
  f_iconst (e_dx DX11_end_0 11 rfl) ⟨by decide, by decide⟩,
  ⟨(e_dx DX11_end_0 12 rfl), rfl⟩, trivial⟩
def lX11_end : List (Nat × f_Wt) := []
set_option maxRecDepth 20000 in
theorem BX11_end {sh : Nat → Nat × Nat} {t : Nat} {rm : Nat × Nat × Nat} {cs : Nat × Nat} {R : f_Rt} {x1 : Int} {M : e_M} (C : f_Hy sh t yX11_end rm cs 4 (lX11_end) R) (h : VX11_end (fun r M => R (some (.inl r)) M) x1 M) : f_E sh t YX11_end rm cs (f_Q sh t R) 0 [.inr (.inr (.inl (11, 15, 0))), .inl x1] [] M :=
  f_go (KC := f_kc []) C qX11_endf f_kc_nil 15 0 h
def WX11_end (x1 : Int) (M : e_M) (Q : Int → e_M → Prop) : Prop :=
  VX11_end Q x1 M
theorem PX11_end {sh : Nat → Nat × Nat} {t : Nat} {rm : Nat × Nat × Nat} {cs : Nat × Nat} {R : f_Rt} {x1 : Int} {M : e_M} (C : f_Hy sh t yX11_end rm cs 4 (lX11_end) R) (h : WX11_end x1 M (fun r M => R (some (.inl r)) M)) : f_E sh t YX11_end rm cs (f_Q sh t R) 0 [.inr (.inr (.inl (11, 15, 0))), .inl x1] [] M :=
  BX11_end C h
def wX11_end : f_Wt := f_wm [(10, 11, 15), (1, 0, 0)] (fun ar M R => WX11_end (f_vi (f_nth ar 1)) M (fun r M => R (some (.inl r)) M))
theorem TX11_end {sh : Nat → Nat × Nat} {t : Nat} : f_Mt sh t YX11_end 4 (wX11_end) :=
  f_Mt_of (k := 0) (Nat.le_of_ble_eq_true rfl) rfl rfl (fun ar M R rm cs h1 h2 h3 hX h => PX11_end ⟨Nat.le_of_ble_eq_true rfl, h1, h2, h3, trivial, hX⟩ h)
def VX11_clock (Q : Int → e_M → Prop) (x1 : Int) (M : e_M) : Prop :=
  ((x1 < (M 0 2) → (Q 0 M)) ∧ ((M 0 2) ≤ x1 → ((x1 ≤ 219144 → (∀ M1 : e_M, M1 = e_up M 0 2 x1 → (Q 1 M1))) ∧ (219144 < x1 → (Q 0 M)))))
def yX11_clock (i : Nat) : e_Y := x_get YX11_clock [] i
def pX11_clockf : List x_I := [(0, 2, 1, 1, 0, 0, []), (1, 4, 1, 0, 0, 0, []), (2, 25, 11, 2, 0, 0, []), (5, 18, 14, 2, 8, 0, []), (8, 2, 1, 1, 0, 0, []), (9, 0, 2, 0, 0, 219144, []), (11, 18, 16, 5, 10, 0, []), (14, 0, 1, 0, 0, 0, []), (15, 48, 0, 0, 0, 0, []), (16, 4, 1, 0, 0, 0, []), (17, 2, 1, 1, 0, 0, []), (18, 26, 11, 2, 0, 0, []), (21, 0, 1, 0, 0, 1, []), (22, 48, 0, 0, 0, 0, [])]
set_option maxRecDepth 20000 in
theorem qX11_clockf : f_all yX11_clock YX11_clock pX11_clockf :=
  ⟨f_iload_n (n := 1) (e_dx DX11_clock_0 0 rfl) rfl,
  f_aload_n (n := 0) (e_dx DX11_clock_0 1 rfl) rfl,
  f_getf (e_dx DX11_clock_0 2 rfl) fX11_17 rfl (by decide) (by decide) (by decide),
  f_icmp_lt (e_dx DX11_clock_0 3 rfl) rfl,
  f_iload_n (n := 1) (e_dx DX11_clock_0 4 rfl) rfl,
  f_ldc (e_dx DX11_clock_0 5 rfl) hX11_91 rfl ⟨by decide, by decide⟩,
  f_icmp_le (e_dx DX11_clock_0 6 rfl) rfl,
  f_iconst (e_dx DX11_clock_0 7 rfl) ⟨by decide, by decide⟩,
  ⟨(e_dx DX11_clock_0 8 rfl), rfl⟩,
  f_aload_n (n := 0) (e_dx DX11_clock_0 9 rfl) rfl,
  f_iload_n (n := 1) (e_dx DX11_clock_0 10 rfl) rfl,
  f_putn (e_dx DX11_clock_0 11 rfl) fX11_17 (fun q hq => by cases hq; rfl) rfl (Or.inl rfl) (by decide),
  f_iconst (e_dx DX11_clock_0 12 rfl) ⟨by decide, by decide⟩,
  ⟨(e_dx DX11_clock_0 13 rfl), rfl⟩, trivial⟩
def lX11_clock : List (Nat × f_Wt) := []
set_option maxRecDepth 20000 in
theorem BX11_clock {sh : Nat → Nat × Nat} {t : Nat} {rm : Nat × Nat × Nat} {cs : Nat × Nat} {R : f_Rt} {x1 : Int} {M : e_M} (C : f_Hy sh t yX11_clock rm cs 4 (lX11_clock) R) (h : VX11_clock (fun r M => R (some (.inl r)) M) x1 M) : f_E sh t YX11_clock rm cs (f_Q sh t R) 0 [.inr (.inr (.inl (11, 15, 0))), .inl x1] [] M :=
  f_go (KC := f_kc []) C qX11_clockf f_kc_nil 16 0 h
def WX11_clock (x1 : Int) (M : e_M) (Q : Int → e_M → Prop) : Prop :=
  VX11_clock Q x1 M
theorem PX11_clock {sh : Nat → Nat × Nat} {t : Nat} {rm : Nat × Nat × Nat} {cs : Nat × Nat} {R : f_Rt} {x1 : Int} {M : e_M} (C : f_Hy sh t yX11_clock rm cs 4 (lX11_clock) R) (h : WX11_clock x1 M (fun r M => R (some (.inl r)) M)) : f_E sh t YX11_clock rm cs (f_Q sh t R) 0 [.inr (.inr (.inl (11, 15, 0))), .inl x1] [] M :=
  BX11_clock C h
def wX11_clock : f_Wt := f_wm [(10, 11, 15), (1, 0, 0)] (fun ar M R => WX11_clock (f_vi (f_nth ar 1)) M (fun r M => R (some (.inl r)) M))
theorem TX11_clock {sh : Nat → Nat × Nat} {t : Nat} : f_Mt sh t YX11_clock 4 (wX11_clock) :=
  f_Mt_of (k := 0) (Nat.le_of_ble_eq_true rfl) rfl rfl (fun ar M R rm cs h1 h2 h3 hX h => PX11_clock ⟨Nat.le_of_ble_eq_true rfl, h1, h2, h3, trivial, hX⟩ h)
def VX11_fault (Q : Int → Prop) (M : e_M) : Prop :=
  (Q (M 0 5))
def yX11_fault (i : Nat) : e_Y := x_get YX11_fault [] i
def pX11_faultf : List x_I := [(0, 4, 1, 0, 0, 0, []), (1, 25, 11, 5, 0, 0, []), (4, 41, 0, 0, 0, 0, [])]
set_option maxRecDepth 20000 in
theorem qX11_faultf : f_all yX11_fault YX11_fault pX11_faultf :=
  ⟨f_aload_n (n := 0) (e_dx DX11_fault_0 0 rfl) rfl,
  f_getf (e_dx DX11_fault_0 1 rfl) fX11_26 rfl (by decide) (by decide) (by decide),
  ⟨(e_dx DX11_fault_0 2 rfl), rfl⟩, trivial⟩
def lX11_fault : List (Nat × f_Wt) := []
set_option maxRecDepth 20000 in
theorem BX11_fault {sh : Nat → Nat × Nat} {t : Nat} {rm : Nat × Nat × Nat} {cs : Nat × Nat} {R : f_Rt} {M : e_M} (C : f_Hy sh t yX11_fault rm cs 4 (lX11_fault) R) (h : VX11_fault (fun r => R (some (.inl r)) M) M) : f_E sh t YX11_fault rm cs (f_Q sh t R) 0 [.inr (.inr (.inl (11, 15, 0)))] [] M :=
  f_go (KC := f_kc []) C qX11_faultf f_kc_nil 5 0 h
def WX11_fault (M : e_M) (Q : Int → Prop) : Prop :=
  VX11_fault Q M
theorem PX11_fault {sh : Nat → Nat × Nat} {t : Nat} {rm : Nat × Nat × Nat} {cs : Nat × Nat} {R : f_Rt} {M : e_M} (C : f_Hy sh t yX11_fault rm cs 4 (lX11_fault) R) (h : WX11_fault M (fun r => R (some (.inl r)) M)) : f_E sh t YX11_fault rm cs (f_Q sh t R) 0 [.inr (.inr (.inl (11, 15, 0)))] [] M :=
  BX11_fault C h
def wX11_fault : f_Wt := f_wm [(10, 11, 15)] (fun ar M R => WX11_fault M (fun r => R (some (.inl r)) M))
theorem TX11_fault {sh : Nat → Nat × Nat} {t : Nat} : f_Mt sh t YX11_fault 4 (wX11_fault) :=
  f_Mt_of (k := 0) (Nat.le_of_ble_eq_true rfl) rfl rfl (fun ar M R rm cs h1 h2 h3 hX h => PX11_fault ⟨Nat.le_of_ble_eq_true rfl, h1, h2, h3, trivial, hX⟩ h)
def VX11_readTape (c_X7_scan : Nat → Int → e_M → (e_M → Prop) → Prop) (Q : e_M → Prop) (M : e_M) : Prop :=
  (c_X7_scan 1 (M 0 1) M (fun M1 => (∀ M2 : e_M, M2 = e_up M1 0 1 0 → (Q M2))))
def yX11_readTape (i : Nat) : e_Y := x_get YX11_readTape [YX7_scan] i
def pX11_readTapef : List x_I := [(0, 4, 1, 0, 0, 0, []), (1, 25, 11, 9, 4, 0, [(0, 7, 12), (0, 1, 10)]), (4, 4, 1, 0, 0, 0, []), (5, 25, 11, 0, 4, 0, [(0, 22, 640), (0, 1, 1)]), (8, 4, 1, 0, 0, 0, []), (9, 25, 11, 1, 0, 0, []), (12, 40, 0, 3, 9, 0, []), (15, 4, 1, 0, 0, 0, []), (16, 0, 1, 0, 0, 0, []), (17, 26, 11, 1, 0, 0, []), (20, 44, 0, 0, 0, 0, [])]
set_option maxRecDepth 20000 in
theorem qX11_readTapef : f_all yX11_readTape YX11_readTape pX11_readTapef :=
  ⟨f_aload_n (n := 0) (e_dx DX11_readTape_0 0 rfl) rfl,
  f_getA (e_dx DX11_readTape_0 1 rfl) fX11_46 rfl (by decide) (Nat.le_of_ble_eq_true rfl) rfl (by decide),
  f_aload_n (n := 0) (e_dx DX11_readTape_0 2 rfl) rfl,
  f_getA (e_dx DX11_readTape_0 3 rfl) fX11_9 rfl (by decide) (Nat.le_of_ble_eq_true rfl) rfl (by decide),
  f_aload_n (n := 0) (e_dx DX11_readTape_0 4 rfl) rfl,
  f_getf (e_dx DX11_readTape_0 5 rfl) fX11_13 rfl (by decide) (by decide) (by decide),
  x_callV (e_dx DX11_readTape_0 6 rfl) mwX7_scan vwX7_scan cX11_129 rfl,
  f_aload_n (n := 0) (e_dx DX11_readTape_0 7 rfl) rfl,
  f_iconst (e_dx DX11_readTape_0 8 rfl) ⟨by decide, by decide⟩,
  f_putn (e_dx DX11_readTape_0 9 rfl) fX11_13 (fun q hq => by cases hq; rfl) rfl (Or.inl rfl) (by decide),
  ⟨(e_dx DX11_readTape_0 10 rfl), rfl⟩, trivial⟩
def lX11_readTape (c_X7_scan : Nat → Int → e_M → (e_M → Prop) → Prop) : List (Nat × f_Wt) := [(0, f_wm [(20, 7, 12), (3, 22, 640), (1, 0, 0)] (fun ar M R => c_X7_scan (f_va (f_nth ar 1)) (f_vi (f_nth ar 2)) M (fun M => R none M)))]
set_option maxRecDepth 20000 in
theorem BX11_readTape {sh : Nat → Nat × Nat} {t : Nat} {rm : Nat × Nat × Nat} {cs : Nat × Nat} {R : f_Rt} {c_X7_scan : Nat → Int → e_M → (e_M → Prop) → Prop} {M : e_M} (C : f_Hy sh t yX11_readTape rm cs 8 (lX11_readTape c_X7_scan) R) (h : VX11_readTape c_X7_scan (fun M => R none M) M) : f_E sh t YX11_readTape rm cs (f_Q sh t R) 0 [.inr (.inr (.inl (11, 15, 0)))] [] M :=
  f_go (KC := f_kc []) C qX11_readTapef f_kc_nil 13 0 h
def WX11_readTape (M : e_M) (Q : e_M → Prop) : Prop :=
  VX11_readTape WX7_scan Q M
theorem PX11_readTape {sh : Nat → Nat × Nat} {t : Nat} {rm : Nat × Nat × Nat} {cs : Nat × Nat} {R : f_Rt} {M : e_M} (C : f_Hy sh t yX11_readTape rm cs 8 (lX11_readTape WX7_scan) R) (h : WX11_readTape M (fun M => R none M)) : f_E sh t YX11_readTape rm cs (f_Q sh t R) 0 [.inr (.inr (.inl (11, 15, 0)))] [] M :=
  BX11_readTape C h
def wX11_readTape : f_Wt := f_wm [(10, 11, 15)] (fun ar M R => WX11_readTape M (fun M => R none M))
theorem TX11_readTape {sh : Nat → Nat × Nat} {t : Nat} : f_Mt sh t YX11_readTape 8 (wX11_readTape) :=
  f_Mt_of (k := 0) (Nat.le_of_ble_eq_true rfl) rfl rfl (fun ar M R rm cs h1 h2 h3 hX h => PX11_readTape ⟨Nat.le_of_ble_eq_true rfl, h1, h2, h3, ⟨(f_Mt.up (Nat.le_of_ble_eq_true rfl) TX7_scan), trivial⟩, hX⟩ h)
def VX11_viewOf_44 (c_X10_isOf : Nat → Int → Int → Int → e_M → (Int → Prop) → Prop) (c_X10_begin : Nat → Int → Int → Int → e_M → (e_M → Prop) → Prop) (c_X10_weighOrders : Nat → Nat → e_M → (e_M → Prop) → Prop) (c_X10_lineUp : Nat → Nat → e_M → (e_M → Prop) → Prop) (c_X0_perform : Nat → Nat → Int → e_M → (Int → e_M → Prop) → Prop) (c_X10_settle : Nat → Int → Int → e_M → (e_M → Prop) → Prop) (k44 : Nat → Int → Int → e_M → Prop) (Q : Nat → e_M → Prop) (a1 : Nat) (x2 : Int) (x4 : Int) (M : e_M) : Prop :=
  (((M a1 9) ≤ x4 → (∀ M1 : e_M, M1 = e_up M a1 11 x2 → (Q a1 M1))) ∧ (x4 < (M a1 9) → ((0 ≤ x4 ∧ x4 < 150) ∧ (c_X0_perform a1 ((M (a1 + 28) (x4.toNat)).toNat) (e_w32 (x4 + 1)) M (fun r2 M3 => (c_X10_settle a1 x4 r2 M3 (fun M4 => (k44 a1 x2 (e_w32 (x4 + 1)) M4))))))))
def VX11_viewOf (c_X10_isOf : Nat → Int → Int → Int → e_M → (Int → Prop) → Prop) (c_X10_begin : Nat → Int → Int → Int → e_M → (e_M → Prop) → Prop) (c_X10_weighOrders : Nat → Nat → e_M → (e_M → Prop) → Prop) (c_X10_lineUp : Nat → Nat → e_M → (e_M → Prop) → Prop) (c_X0_perform : Nat → Nat → Int → e_M → (Int → e_M → Prop) → Prop) (c_X10_settle : Nat → Int → Int → e_M → (e_M → Prop) → Prop) (k44 : Nat → Int → Int → e_M → Prop) (Q : Nat → e_M → Prop) (a1 : Nat) (x2 : Int) (x3 : Int) (M : e_M) : Prop :=
  (c_X10_isOf a1 x2 x3 (M 0 7) M (fun r1 => ((r1 = 0 → (c_X10_begin a1 x2 x3 (M 0 7) M (fun M2 => (c_X10_weighOrders a1 2 M2 (fun M3 => (c_X10_lineUp a1 2 M3 (fun M4 => (k44 a1 x2 0 M4)))))))) ∧ (¬ r1 = 0 → (Q a1 M)))))
def yX11_viewOf (i : Nat) : e_Y := x_get YX11_viewOf [YX10_isOf, YX10_begin, YX10_weighOrders, YX10_lineUp, YX0_perform, YX10_settle] i
def pX11_viewOff : List x_I := [(0, 4, 1, 1, 0, 0, []), (1, 2, 1, 2, 0, 0, []), (2, 2, 1, 3, 0, 0, []), (3, 4, 1, 0, 0, 0, []), (4, 25, 11, 7, 0, 0, []), (7, 40, 0, 4, 12, 0, []), (10, 17, 15, 0, 10, 0, []), (13, 4, 1, 1, 0, 0, []), (14, 45, 0, 0, 0, 0, []), (15, 4, 1, 1, 0, 0, []), (16, 2, 1, 2, 0, 0, []), (17, 2, 1, 3, 0, 0, []), (18, 4, 1, 0, 0, 0, []), (19, 25, 11, 7, 0, 0, []), (22, 40, 1, 4, 12, 0, []), (25, 4, 1, 1, 0, 0, []), (26, 4, 1, 0, 0, 0, []), (27, 25, 11, 6, 4, 0, [(0, 32, 150), (0, 1, 2)]), (30, 40, 2, 2, 12, 0, []), (33, 4, 1, 1, 0, 0, []), (34, 4, 1, 0, 0, 0, []), (35, 25, 11, 6, 4, 0, [(0, 32, 150), (0, 1, 2)]), (38, 40, 3, 2, 12, 0, []), (41, 0, 1, 0, 0, 0, []), (42, 5, 2, 4, 0, 0, []), (44, 49, 0, 0, 0, 0, []), (44, 2, 2, 4, 0, 0, []), (46, 4, 1, 1, 0, 0, []), (47, 25, 10, 9, 0, 0, []), (50, 18, 84, 3, 47, 0, []), (53, 4, 1, 1, 0, 0, []), (54, 2, 2, 4, 0, 0, []), (56, 4, 1, 0, 0, 0, []), (57, 25, 11, 13, 4, 0, [(0, 0, 7), (0, 1, 4423)]), (60, 4, 1, 1, 0, 0, []), (61, 4, 1, 1, 0, 0, []), (62, 25, 10, 8, 4, 0, [(0, 32, 150), (0, 1, 28)]), (65, 2, 2, 4, 0, 0, []), (67, 27, 0, 3, 0, 0, [(0, 2, 19), (0, 0, 0)]), (68, 2, 2, 4, 0, 0, []), (70, 0, 1, 0, 0, 1, []), (71, 9, 0, 0, 0, 0, []), (72, 40, 4, 4, 2, 0, []), (75, 40, 5, 3, 12, 0, []), (78, 8, 0, 4, 0, 1, []), (81, 19, 44, 0, 26, 0, []), (84, 4, 1, 1, 0, 0, []), (85, 2, 1, 2, 0, 0, []), (86, 26, 10, 11, 0, 0, []), (89, 4, 1, 1, 0, 0, []), (90, 45, 0, 0, 0, 0, [])]
set_option maxRecDepth 20000 in
theorem qX11_viewOff : f_all yX11_viewOf YX11_viewOf pX11_viewOff :=
  ⟨f_aload_n (n := 1) (e_dx DX11_viewOf_0 0 rfl) rfl,
  f_iload_n (n := 2) (e_dx DX11_viewOf_0 1 rfl) rfl,
  f_iload_n (n := 3) (e_dx DX11_viewOf_0 2 rfl) rfl,
  f_aload_n (n := 0) (e_dx DX11_viewOf_0 3 rfl) rfl,
  f_getf (e_dx DX11_viewOf_0 4 rfl) fX11_35 rfl (by decide) (by decide) (by decide),
  x_callV (e_dx DX11_viewOf_0 5 rfl) mwX10_isOf vwX10_isOf cX11_136 rfl,
  f_if_eq (e_dx DX11_viewOf_0 6 rfl) rfl,
  f_aload_n (n := 1) (e_dx DX11_viewOf_0 7 rfl) rfl,
  ⟨(e_dx DX11_viewOf_0 8 rfl), _, rfl, Or.inl ⟨_, rfl⟩⟩,
  f_aload_n (n := 1) (e_dx DX11_viewOf_0 9 rfl) rfl,
  f_iload_n (n := 2) (e_dx DX11_viewOf_0 10 rfl) rfl,
  f_iload_n (n := 3) (e_dx DX11_viewOf_0 11 rfl) rfl,
  f_aload_n (n := 0) (e_dx DX11_viewOf_0 12 rfl) rfl,
  f_getf (e_dx DX11_viewOf_0 13 rfl) fX11_35 rfl (by decide) (by decide) (by decide),
  x_callV (e_dx DX11_viewOf_0 14 rfl) mwX10_begin vwX10_begin cX11_140 rfl,
  f_aload_n (n := 1) (e_dx DX11_viewOf_0 15 rfl) rfl,
  f_aload_n (n := 0) (e_dx DX11_viewOf_0 16 rfl) rfl,
  f_getA (e_dx DX11_viewOf_0 17 rfl) fX11_31 rfl (by decide) (Nat.le_of_ble_eq_true rfl) rfl (by decide),
  x_callV (e_dx DX11_viewOf_0 18 rfl) mwX10_weighOrders vwX10_weighOrders cX11_144 rfl,
  f_aload_n (n := 1) (e_dx DX11_viewOf_0 19 rfl) rfl,
  f_aload_n (n := 0) (e_dx DX11_viewOf_0 20 rfl) rfl,
  f_getA (e_dx DX11_viewOf_0 21 rfl) fX11_31 rfl (by decide) (Nat.le_of_ble_eq_true rfl) rfl (by decide),
  x_callV (e_dx DX11_viewOf_0 22 rfl) mwX10_lineUp vwX10_lineUp cX11_148 rfl,
  f_iconst (e_dx DX11_viewOf_0 23 rfl) ⟨by decide, by decide⟩,
  f_istore (e_dx DX11_viewOf_0 24 rfl) (by decide),
  trivial,
  f_iload (e_dx DX11_viewOf_0 25 rfl),
  f_aload_n (n := 1) (e_dx DX11_viewOf_0 26 rfl) rfl,
  f_getf (e_dx DX11_viewOf_0 27 rfl) fX11_119 rfl (by decide) (by decide) (by decide),
  f_icmp_ge (e_dx DX11_viewOf_0 28 rfl) rfl,
  f_aload_n (n := 1) (e_dx DX11_viewOf_0 29 rfl) rfl,
  f_iload (e_dx DX11_viewOf_0 30 rfl),
  f_aload_n (n := 0) (e_dx DX11_viewOf_0 31 rfl) rfl,
  f_getA (e_dx DX11_viewOf_0 32 rfl) fX11_74 rfl (by decide) (Nat.le_of_ble_eq_true rfl) rfl (by decide),
  f_aload_n (n := 1) (e_dx DX11_viewOf_0 33 rfl) rfl,
  f_aload_n (n := 1) (e_dx DX11_viewOf_0 34 rfl) rfl,
  f_getA (e_dx DX11_viewOf_0 35 rfl) fX11_151 rfl (by decide) (Nat.le_of_ble_eq_true rfl) rfl (by decide),
  f_iload (e_dx DX11_viewOf_0 36 rfl),
  f_aaload (e_dx DX11_viewOf_0 37 rfl) (by decide) rfl,
  f_iload (e_dx DX11_viewOf_0 38 rfl),
  f_iconst (e_dx DX11_viewOf_0 39 rfl) ⟨by decide, by decide⟩,
  f_iadd (e_dx DX11_viewOf_1 0 rfl),
  x_callV (e_dx DX11_viewOf_1 1 rfl) mwX0_perform vwX0_perform cX11_122 rfl,
  x_callV (e_dx DX11_viewOf_1 2 rfl) mwX10_settle vwX10_settle cX11_154 rfl,
  f_g8 (e_dx DX11_viewOf_1 3 rfl) ⟨by decide, by decide⟩,
  f_g19 (e_dx DX11_viewOf_1 4 rfl) rfl,
  f_aload_n (n := 1) (e_dx DX11_viewOf_1 5 rfl) rfl,
  f_iload_n (n := 2) (e_dx DX11_viewOf_1 6 rfl) rfl,
  f_putn (e_dx DX11_viewOf_1 7 rfl) fX11_158 (fun q hq => by cases hq; rfl) rfl (Or.inl rfl) (by decide),
  f_aload_n (n := 1) (e_dx DX11_viewOf_1 8 rfl) rfl,
  ⟨(e_dx DX11_viewOf_1 9 rfl), _, rfl, Or.inl ⟨_, rfl⟩⟩, trivial⟩
def lX11_viewOf (c_X10_isOf : Nat → Int → Int → Int → e_M → (Int → Prop) → Prop) (c_X10_begin : Nat → Int → Int → Int → e_M → (e_M → Prop) → Prop) (c_X10_weighOrders : Nat → Nat → e_M → (e_M → Prop) → Prop) (c_X10_lineUp : Nat → Nat → e_M → (e_M → Prop) → Prop) (c_X0_perform : Nat → Nat → Int → e_M → (Int → e_M → Prop) → Prop) (c_X10_settle : Nat → Int → Int → e_M → (e_M → Prop) → Prop) : List (Nat × f_Wt) := [(0, f_wm [(3, 10, 15), (1, 0, 0), (1, 0, 0), (1, 0, 0)] (fun ar M R => c_X10_isOf (f_va (f_nth ar 0)) (f_vi (f_nth ar 1)) (f_vi (f_nth ar 2)) (f_vi (f_nth ar 3)) M (fun r => R (some (.inl r)) M))), (1, f_wm [(3, 10, 15), (1, 0, 0), (1, 0, 0), (1, 0, 0)] (fun ar M R => c_X10_begin (f_va (f_nth ar 0)) (f_vi (f_nth ar 1)) (f_vi (f_nth ar 2)) (f_vi (f_nth ar 3)) M (fun M => R none M))), (2, f_wm [(3, 10, 15), (3, 32, 150)] (fun ar M R => c_X10_weighOrders (f_va (f_nth ar 0)) (f_va (f_nth ar 1)) M (fun M => R none M))), (3, f_wm [(3, 10, 15), (3, 32, 150)] (fun ar M R => c_X10_lineUp (f_va (f_nth ar 0)) (f_va (f_nth ar 1)) M (fun M => R none M))), (4, f_wm [(4433, 0, 7), (3, 10, 15), (3, 2, 19), (1, 0, 0)] (fun ar M R => c_X0_perform (f_va (f_nth ar 1)) (f_va (f_nth ar 2)) (f_vi (f_nth ar 3)) M (fun r M => R (some (.inl r)) M))), (5, f_wm [(3, 10, 15), (1, 0, 0), (1, 0, 0)] (fun ar M R => c_X10_settle (f_va (f_nth ar 0)) (f_vi (f_nth ar 1)) (f_vi (f_nth ar 2)) M (fun M => R none M)))]
set_option maxRecDepth 20000 in
theorem BX11_viewOf_44 {sh : Nat → Nat × Nat} {t : Nat} {rm : Nat × Nat × Nat} {cs : Nat × Nat} {R : f_Rt} {c_X10_isOf : Nat → Int → Int → Int → e_M → (Int → Prop) → Prop} {c_X10_begin : Nat → Int → Int → Int → e_M → (e_M → Prop) → Prop} {c_X10_weighOrders : Nat → Nat → e_M → (e_M → Prop) → Prop} {c_X10_lineUp : Nat → Nat → e_M → (e_M → Prop) → Prop} {c_X0_perform : Nat → Nat → Int → e_M → (Int → e_M → Prop) → Prop} {c_X10_settle : Nat → Int → Int → e_M → (e_M → Prop) → Prop} {k44 : Nat → Int → Int → e_M → Prop} {a1 : Nat} {x2 : Int} {x4 : Int} {M : e_M} (C : f_Hy sh t yX11_viewOf rm cs 10 (lX11_viewOf c_X10_isOf c_X10_begin c_X10_weighOrders c_X10_lineUp c_X0_perform c_X10_settle) R) (h44 : ∀ (a1 : Nat) (x2 : Int) (x4 : Int) (M : e_M), k44 a1 x2 x4 M → f_E sh t YX11_viewOf rm cs (f_Q sh t R) 44 [.inr (.inr (.inl (11, 15, 0))), .inr (.inr (.inl (10, 15, a1))), .inl x2, .inr (.inr (.inr ())), .inl x4] [] M) (h : VX11_viewOf_44 c_X10_isOf c_X10_begin c_X10_weighOrders c_X10_lineUp c_X0_perform c_X10_settle k44 (fun r M => R (some (.inr (.inr (.inl (10, 15, r))))) M) a1 x2 x4 M) : f_E sh t YX11_viewOf rm cs (f_Q sh t R) 44 [.inr (.inr (.inl (11, 15, 0))), .inr (.inr (.inl (10, 15, a1))), .inl x2, .inr (.inr (.inr ())), .inl x4] [] M :=
  f_go (KC := f_kc [(44, f_pl [(10, 11, 15), (3, 10, 15), (1, 0, 0), (0, 0, 0), (1, 0, 0)] [] (fun ls st M => k44 (f_va (f_nth ls 1)) (f_vi (f_nth ls 2)) (f_vi (f_nth ls 4)) M))]) C qX11_viewOff (f_kc_cons (f_pl_ok rfl (fun ls st M h => h44 _ _ _ M h)) f_kc_nil) 53 26 h
set_option maxRecDepth 20000 in
theorem BX11_viewOf {sh : Nat → Nat × Nat} {t : Nat} {rm : Nat × Nat × Nat} {cs : Nat × Nat} {R : f_Rt} {c_X10_isOf : Nat → Int → Int → Int → e_M → (Int → Prop) → Prop} {c_X10_begin : Nat → Int → Int → Int → e_M → (e_M → Prop) → Prop} {c_X10_weighOrders : Nat → Nat → e_M → (e_M → Prop) → Prop} {c_X10_lineUp : Nat → Nat → e_M → (e_M → Prop) → Prop} {c_X0_perform : Nat → Nat → Int → e_M → (Int → e_M → Prop) → Prop} {c_X10_settle : Nat → Int → Int → e_M → (e_M → Prop) → Prop} {k44 : Nat → Int → Int → e_M → Prop} {a1 : Nat} {x2 : Int} {x3 : Int} {M : e_M} (C : f_Hy sh t yX11_viewOf rm cs 10 (lX11_viewOf c_X10_isOf c_X10_begin c_X10_weighOrders c_X10_lineUp c_X0_perform c_X10_settle) R) (h44 : ∀ (a1 : Nat) (x2 : Int) (x4 : Int) (M : e_M), k44 a1 x2 x4 M → f_E sh t YX11_viewOf rm cs (f_Q sh t R) 44 [.inr (.inr (.inl (11, 15, 0))), .inr (.inr (.inl (10, 15, a1))), .inl x2, .inr (.inr (.inr ())), .inl x4] [] M) (h : VX11_viewOf c_X10_isOf c_X10_begin c_X10_weighOrders c_X10_lineUp c_X0_perform c_X10_settle k44 (fun r M => R (some (.inr (.inr (.inl (10, 15, r))))) M) a1 x2 x3 M) : f_E sh t YX11_viewOf rm cs (f_Q sh t R) 0 [.inr (.inr (.inl (11, 15, 0))), .inr (.inr (.inl (10, 15, a1))), .inl x2, .inl x3, .inr (.inr (.inr ()))] [] M :=
  f_go (KC := f_kc [(44, f_pl [(10, 11, 15), (3, 10, 15), (1, 0, 0), (0, 0, 0), (1, 0, 0)] [] (fun ls st M => k44 (f_va (f_nth ls 1)) (f_vi (f_nth ls 2)) (f_vi (f_nth ls 4)) M))]) C qX11_viewOff (f_kc_cons (f_pl_ok rfl (fun ls st M h => h44 _ _ _ M h)) f_kc_nil) 53 0 h
def WX11_viewOf_44 (Q : Nat → e_M → Prop) : Nat → Nat → Int → Int → e_M → Prop
  | 0, _, _, _, _ => False
  | n + 1, a1, x2, x4, M =>
    VX11_viewOf_44 WX10_isOf WX10_begin WX10_weighOrders WX10_lineUp WX0_perform WX10_settle (WX11_viewOf_44 Q n) Q a1 x2 x4 M
def WX11_viewOf (a1 : Nat) (x2 : Int) (x3 : Int) (M : e_M) (Q : Nat → e_M → Prop) : Prop :=
  VX11_viewOf WX10_isOf WX10_begin WX10_weighOrders WX10_lineUp WX0_perform WX10_settle (fun a1 x2 x4 M => ∃ j, WX11_viewOf_44 Q j a1 x2 x4 M) Q a1 x2 x3 M
theorem PX11_viewOf_44 {sh : Nat → Nat × Nat} {t : Nat} {rm : Nat × Nat × Nat} {cs : Nat × Nat} {R : f_Rt} (C : f_Hy sh t yX11_viewOf rm cs 10 (lX11_viewOf WX10_isOf WX10_begin WX10_weighOrders WX10_lineUp WX0_perform WX10_settle) R) : ∀ (n : Nat) (a1 : Nat) (x2 : Int) (x4 : Int) (M : e_M), WX11_viewOf_44 (fun r M => R (some (.inr (.inr (.inl (10, 15, r))))) M) n a1 x2 x4 M → f_E sh t YX11_viewOf rm cs (f_Q sh t R) 44 [.inr (.inr (.inl (11, 15, 0))), .inr (.inr (.inl (10, 15, a1))), .inl x2, .inr (.inr (.inr ())), .inl x4] [] M := by
  intro n
  induction n with
  | zero => intro a1 x2 x4 M h; exact h.elim
  | succ n ih => intro a1 x2 x4 M h; exact BX11_viewOf_44 C ih h
theorem PX11_viewOf {sh : Nat → Nat × Nat} {t : Nat} {rm : Nat × Nat × Nat} {cs : Nat × Nat} {R : f_Rt} {a1 : Nat} {x2 : Int} {x3 : Int} {M : e_M} (C : f_Hy sh t yX11_viewOf rm cs 10 (lX11_viewOf WX10_isOf WX10_begin WX10_weighOrders WX10_lineUp WX0_perform WX10_settle) R) (h : WX11_viewOf a1 x2 x3 M (fun r M => R (some (.inr (.inr (.inl (10, 15, r))))) M)) : f_E sh t YX11_viewOf rm cs (f_Q sh t R) 0 [.inr (.inr (.inl (11, 15, 0))), .inr (.inr (.inl (10, 15, a1))), .inl x2, .inl x3, .inr (.inr (.inr ()))] [] M :=
  BX11_viewOf C (fun a1 x2 x4 M ⟨j, h⟩ => PX11_viewOf_44 C j _ _ _ _ h) h
def wX11_viewOf : f_Wt := f_wm [(10, 11, 15), (3, 10, 15), (1, 0, 0), (1, 0, 0)] (fun ar M R => WX11_viewOf (f_va (f_nth ar 1)) (f_vi (f_nth ar 2)) (f_vi (f_nth ar 3)) M (fun r M => R (some (.inr (.inr (.inl (10, 15, r))))) M))
theorem TX11_viewOf {sh : Nat → Nat × Nat} {t : Nat} : f_Mt sh t YX11_viewOf 10 (wX11_viewOf) :=
  f_Mt_of (k := 1) (Nat.le_of_ble_eq_true rfl) rfl rfl (fun ar M R rm cs h1 h2 h3 hX h => PX11_viewOf ⟨Nat.le_of_ble_eq_true rfl, h1, h2, h3, ⟨(f_Mt.up (Nat.le_of_ble_eq_true rfl) TX10_isOf), (f_Mt.up (Nat.le_of_ble_eq_true rfl) TX10_begin), (f_Mt.up (Nat.le_of_ble_eq_true rfl) TX10_weighOrders), (f_Mt.up (Nat.le_of_ble_eq_true rfl) TX10_lineUp), (f_Mt.up (Nat.le_of_ble_eq_true rfl) TX0_perform), (f_Mt.up (Nat.le_of_ble_eq_true rfl) TX10_settle), trivial⟩, hX⟩ h)
def VX11_suppose (c_X11_readTape : e_M → (e_M → Prop) → Prop) (c_X7_readDeedAlone : Nat → e_M → (Int → e_M → Prop) → Prop) (c_X11_viewOf : Nat → Int → Int → e_M → (Nat → e_M → Prop) → Prop) (c_X0_perform : Nat → Nat → Int → e_M → (Int → e_M → Prop) → Prop) (c_X10_forget : Nat → e_M → (e_M → Prop) → Prop) (Q : Int → e_M → Prop) (M : e_M) : Prop :=
  (c_X11_readTape M (fun M1 => (c_X7_readDeedAlone ((M1 0 8).toNat) M1 (fun r2 M3 => (∀ M4 : e_M, M4 = e_up M3 0 5 (M3 10 7) → ((¬ r2 = 0 → (c_X11_viewOf 2224 (M4 ((M4 0 8).toNat) 4) (M4 0 2) M4 (fun r5 M6 => (c_X0_perform r5 ((M6 0 8).toNat) (e_w32 ((M6 r5 9) + 1)) M6 (fun r7 M8 => (c_X10_forget r5 M8 (fun M9 => (Q r7 M9)))))))) ∧ (r2 = 0 → (Q (e_w32 ((-1 : Int) - (M4 10 8))) M4))))))))
def yX11_suppose (i : Nat) : e_Y := x_get YX11_suppose [YX11_readTape, YX7_readDeedAlone, YX11_viewOf, YX0_perform, YX10_forget] i
def pX11_supposef : List x_I := [(0, 4, 1, 0, 0, 0, []), (1, 40, 0, 1, 13, 0, []), (4, 4, 1, 0, 0, 0, []), (5, 25, 11, 9, 4, 0, [(0, 7, 12), (0, 1, 10)]), (8, 4, 1, 0, 0, 0, []), (9, 25, 11, 8, 4, 0, [(0, 2, 19), (0, 0, 0)]), (12, 40, 1, 2, 9, 0, []), (15, 5, 1, 1, 0, 0, []), (16, 4, 1, 0, 0, 0, []), (17, 4, 1, 0, 0, 0, []), (18, 25, 11, 9, 4, 0, [(0, 7, 12), (0, 1, 10)]), (21, 25, 7, 7, 0, 0, []), (24, 26, 11, 5, 0, 0, []), (27, 2, 1, 1, 0, 0, []), (28, 17, 41, 1, 22, 0, []), (31, 0, 1, 0, 0, (-1), []), (32, 4, 1, 0, 0, 0, []), (33, 25, 11, 9, 4, 0, [(0, 7, 12), (0, 1, 10)]), (36, 25, 7, 8, 0, 0, []), (39, 9, 0, 1, 0, 0, []), (40, 41, 0, 0, 0, 0, []), (41, 4, 1, 0, 0, 0, []), (42, 4, 1, 0, 0, 0, []), (43, 25, 11, 12, 4, 0, [(0, 10, 15), (0, 1, 2224)]), (46, 4, 1, 0, 0, 0, []), (47, 25, 11, 8, 4, 0, [(0, 2, 19), (0, 0, 0)]), (50, 25, 2, 4, 0, 0, []), (53, 4, 1, 0, 0, 0, []), (54, 25, 11, 2, 0, 0, []), (57, 40, 2, 4, 13, 0, []), (60, 7, 1, 2, 0, 0, []), (61, 4, 1, 0, 0, 0, []), (62, 25, 11, 13, 4, 0, [(0, 0, 7), (0, 1, 4423)]), (65, 4, 1, 2, 0, 0, []), (66, 4, 1, 0, 0, 0, []), (67, 25, 11, 8, 4, 0, [(0, 2, 19), (0, 0, 0)]), (70, 4, 1, 2, 0, 0, []), (71, 25, 10, 9, 0, 0, []), (74, 0, 1, 0, 0, 1, []), (75, 9, 0, 0, 0, 0, []), (76, 40, 3, 4, 2, 0, []), (79, 5, 1, 3, 0, 0, []), (80, 4, 1, 2, 0, 0, []), (81, 40, 4, 1, 12, 0, []), (84, 2, 1, 3, 0, 0, []), (85, 41, 0, 0, 0, 0, [])]
set_option maxRecDepth 20000 in
theorem qX11_supposef : f_all yX11_suppose YX11_suppose pX11_supposef :=
  ⟨f_aload_n (n := 0) (e_dx DX11_suppose_0 0 rfl) rfl,
  x_callV (e_dx DX11_suppose_0 1 rfl) mwX11_readTape vwX11_readTape cX11_92 rfl,
  f_aload_n (n := 0) (e_dx DX11_suppose_0 2 rfl) rfl,
  f_getA (e_dx DX11_suppose_0 3 rfl) fX11_46 rfl (by decide) (Nat.le_of_ble_eq_true rfl) rfl (by decide),
  f_aload_n (n := 0) (e_dx DX11_suppose_0 4 rfl) rfl,
  f_getA (e_dx DX11_suppose_0 5 rfl) fX11_39 rfl (by decide) (Nat.le_of_ble_eq_true rfl) rfl (by decide),
  x_callV (e_dx DX11_suppose_0 6 rfl) mwX7_readDeedAlone vwX7_readDeedAlone cX11_108 rfl,
  f_istore_n (n := 1) (e_dx DX11_suppose_0 7 rfl) rfl (by decide),
  f_aload_n (n := 0) (e_dx DX11_suppose_0 8 rfl) rfl,
  f_aload_n (n := 0) (e_dx DX11_suppose_0 9 rfl) rfl,
  f_getA (e_dx DX11_suppose_0 10 rfl) fX11_46 rfl (by decide) (Nat.le_of_ble_eq_true rfl) rfl (by decide),
  f_getf (e_dx DX11_suppose_0 11 rfl) fX11_99 rfl (by decide) (by decide) (by decide),
  f_putn (e_dx DX11_suppose_0 12 rfl) fX11_26 (fun q hq => by cases hq; rfl) rfl (Or.inl rfl) (by decide),
  f_iload_n (n := 1) (e_dx DX11_suppose_0 13 rfl) rfl,
  f_if_ne (e_dx DX11_suppose_0 14 rfl) rfl,
  f_iconst (e_dx DX11_suppose_0 15 rfl) ⟨by decide, by decide⟩,
  f_aload_n (n := 0) (e_dx DX11_suppose_0 16 rfl) rfl,
  f_getA (e_dx DX11_suppose_0 17 rfl) fX11_46 rfl (by decide) (Nat.le_of_ble_eq_true rfl) rfl (by decide),
  f_getf (e_dx DX11_suppose_0 18 rfl) fX11_102 rfl (by decide) (by decide) (by decide),
  f_isub (e_dx DX11_suppose_0 19 rfl),
  ⟨(e_dx DX11_suppose_0 20 rfl), rfl⟩,
  f_aload_n (n := 0) (e_dx DX11_suppose_0 21 rfl) rfl,
  f_aload_n (n := 0) (e_dx DX11_suppose_0 22 rfl) rfl,
  f_getA (e_dx DX11_suppose_0 23 rfl) fX11_66 rfl (by decide) (Nat.le_of_ble_eq_true rfl) rfl (by decide),
  f_aload_n (n := 0) (e_dx DX11_suppose_0 24 rfl) rfl,
  f_getA (e_dx DX11_suppose_0 25 rfl) fX11_39 rfl (by decide) (Nat.le_of_ble_eq_true rfl) rfl (by decide),
  f_getf (e_dx DX11_suppose_0 26 rfl) fX11_112 rfl (by decide) (by decide) (by decide),
  f_aload_n (n := 0) (e_dx DX11_suppose_0 27 rfl) rfl,
  f_getf (e_dx DX11_suppose_0 28 rfl) fX11_17 rfl (by decide) (by decide) (by decide),
  x_callV (e_dx DX11_suppose_0 29 rfl) mwX11_viewOf vwX11_viewOf cX11_115 rfl,
  f_astore_n (n := 2) (e_dx DX11_suppose_0 30 rfl) rfl (by decide),
  f_aload_n (n := 0) (e_dx DX11_suppose_0 31 rfl) rfl,
  f_getA (e_dx DX11_suppose_0 32 rfl) fX11_74 rfl (by decide) (Nat.le_of_ble_eq_true rfl) rfl (by decide),
  f_aload_n (n := 2) (e_dx DX11_suppose_0 33 rfl) rfl,
  f_aload_n (n := 0) (e_dx DX11_suppose_0 34 rfl) rfl,
  f_getA (e_dx DX11_suppose_0 35 rfl) fX11_39 rfl (by decide) (Nat.le_of_ble_eq_true rfl) rfl (by decide),
  f_aload_n (n := 2) (e_dx DX11_suppose_0 36 rfl) rfl,
  f_getf (e_dx DX11_suppose_0 37 rfl) fX11_119 rfl (by decide) (by decide) (by decide),
  f_iconst (e_dx DX11_suppose_0 38 rfl) ⟨by decide, by decide⟩,
  f_iadd (e_dx DX11_suppose_0 39 rfl),
  x_callV (e_dx DX11_suppose_1 0 rfl) mwX0_perform vwX0_perform cX11_122 rfl,
  f_istore_n (n := 3) (e_dx DX11_suppose_1 1 rfl) rfl (by decide),
  f_aload_n (n := 2) (e_dx DX11_suppose_1 2 rfl) rfl,
  x_callV (e_dx DX11_suppose_1 3 rfl) mwX10_forget vwX10_forget cX11_126 rfl,
  f_iload_n (n := 3) (e_dx DX11_suppose_1 4 rfl) rfl,
  ⟨(e_dx DX11_suppose_1 5 rfl), rfl⟩, trivial⟩
def lX11_suppose (c_X11_readTape : e_M → (e_M → Prop) → Prop) (c_X7_readDeedAlone : Nat → e_M → (Int → e_M → Prop) → Prop) (c_X11_viewOf : Nat → Int → Int → e_M → (Nat → e_M → Prop) → Prop) (c_X0_perform : Nat → Nat → Int → e_M → (Int → e_M → Prop) → Prop) (c_X10_forget : Nat → e_M → (e_M → Prop) → Prop) : List (Nat × f_Wt) := [(0, f_wm [(10, 11, 15)] (fun ar M R => c_X11_readTape  M (fun M => R none M))), (1, f_wm [(20, 7, 12), (3, 2, 19)] (fun ar M R => c_X7_readDeedAlone (f_va (f_nth ar 1)) M (fun r M => R (some (.inl r)) M))), (2, f_wm [(10, 11, 15), (3, 10, 15), (1, 0, 0), (1, 0, 0)] (fun ar M R => c_X11_viewOf (f_va (f_nth ar 1)) (f_vi (f_nth ar 2)) (f_vi (f_nth ar 3)) M (fun r M => R (some (.inr (.inr (.inl (10, 15, r))))) M))), (3, f_wm [(4433, 0, 7), (3, 10, 15), (3, 2, 19), (1, 0, 0)] (fun ar M R => c_X0_perform (f_va (f_nth ar 1)) (f_va (f_nth ar 2)) (f_vi (f_nth ar 3)) M (fun r M => R (some (.inl r)) M))), (4, f_wm [(3, 10, 15)] (fun ar M R => c_X10_forget (f_va (f_nth ar 0)) M (fun M => R none M)))]
set_option maxRecDepth 20000 in
theorem BX11_suppose {sh : Nat → Nat × Nat} {t : Nat} {rm : Nat × Nat × Nat} {cs : Nat × Nat} {R : f_Rt} {c_X11_readTape : e_M → (e_M → Prop) → Prop} {c_X7_readDeedAlone : Nat → e_M → (Int → e_M → Prop) → Prop} {c_X11_viewOf : Nat → Int → Int → e_M → (Nat → e_M → Prop) → Prop} {c_X0_perform : Nat → Nat → Int → e_M → (Int → e_M → Prop) → Prop} {c_X10_forget : Nat → e_M → (e_M → Prop) → Prop} {M : e_M} (C : f_Hy sh t yX11_suppose rm cs 11 (lX11_suppose c_X11_readTape c_X7_readDeedAlone c_X11_viewOf c_X0_perform c_X10_forget) R) (h : VX11_suppose c_X11_readTape c_X7_readDeedAlone c_X11_viewOf c_X0_perform c_X10_forget (fun r M => R (some (.inl r)) M) M) : f_E sh t YX11_suppose rm cs (f_Q sh t R) 0 [.inr (.inr (.inl (11, 15, 0))), .inr (.inr (.inr ())), .inr (.inr (.inr ())), .inr (.inr (.inr ()))] [] M :=
  f_go (KC := f_kc []) C qX11_supposef f_kc_nil 48 0 h
def WX11_suppose (M : e_M) (Q : Int → e_M → Prop) : Prop :=
  VX11_suppose WX11_readTape WX7_readDeedAlone WX11_viewOf WX0_perform WX10_forget Q M
theorem PX11_suppose {sh : Nat → Nat × Nat} {t : Nat} {rm : Nat × Nat × Nat} {cs : Nat × Nat} {R : f_Rt} {M : e_M} (C : f_Hy sh t yX11_suppose rm cs 11 (lX11_suppose WX11_readTape WX7_readDeedAlone WX11_viewOf WX0_perform WX10_forget) R) (h : WX11_suppose M (fun r M => R (some (.inl r)) M)) : f_E sh t YX11_suppose rm cs (f_Q sh t R) 0 [.inr (.inr (.inl (11, 15, 0))), .inr (.inr (.inr ())), .inr (.inr (.inr ())), .inr (.inr (.inr ()))] [] M :=
  BX11_suppose C h
def wX11_suppose : f_Wt := f_wm [(10, 11, 15)] (fun ar M R => WX11_suppose M (fun r M => R (some (.inl r)) M))
theorem TX11_suppose {sh : Nat → Nat × Nat} {t : Nat} : f_Mt sh t YX11_suppose 11 (wX11_suppose) :=
  f_Mt_of (k := 3) (Nat.le_of_ble_eq_true rfl) rfl rfl (fun ar M R rm cs h1 h2 h3 hX h => PX11_suppose ⟨Nat.le_of_ble_eq_true rfl, h1, h2, h3, ⟨(f_Mt.up (Nat.le_of_ble_eq_true rfl) TX11_readTape), (f_Mt.up (Nat.le_of_ble_eq_true rfl) TX7_readDeedAlone), (f_Mt.up (Nat.le_of_ble_eq_true rfl) TX11_viewOf), (f_Mt.up (Nat.le_of_ble_eq_true rfl) TX0_perform), (f_Mt.up (Nat.le_of_ble_eq_true rfl) TX10_forget), trivial⟩, hX⟩ h)
def VX11_view (c_X11_viewOf : Nat → Int → Int → e_M → (Nat → e_M → Prop) → Prop) (Q : Int → e_M → Prop) (x1 : Int) (x2 : Int) (M : e_M) : Prop :=
  ((x1 < 0 → (Q (-1) M)) ∧ (0 ≤ x1 → ((219144 < x1 → (Q (-1) M)) ∧ (x1 ≤ 219144 → ((x2 < 0 → (Q (-1) M)) ∧ (0 ≤ x2 → ((x2 ≤ (M 0 2) → (∀ M1 : e_M, M1 = e_up M 0 3 x1 → (∀ M2 : e_M, M2 = e_up M1 0 4 x2 → (c_X11_viewOf 25 (M2 0 3) (M2 0 4) M2 (fun r3 M4 => (Q (M4 r3 10) M4)))))) ∧ ((M 0 2) < x2 → (Q (-1) M)))))))))
def yX11_view (i : Nat) : e_Y := x_get YX11_view [YX11_viewOf] i
def pX11_viewf : List x_I := [(0, 2, 1, 1, 0, 0, []), (1, 17, 22, 2, 12, 0, []), (4, 2, 1, 1, 0, 0, []), (5, 0, 2, 0, 0, 219144, []), (7, 18, 22, 4, 12, 0, []), (10, 2, 1, 2, 0, 0, []), (11, 17, 22, 2, 12, 0, []), (14, 2, 1, 2, 0, 0, []), (15, 4, 1, 0, 0, 0, []), (16, 25, 11, 2, 0, 0, []), (19, 18, 24, 5, 14, 0, []), (22, 0, 1, 0, 0, (-1), []), (23, 41, 0, 0, 0, 0, []), (24, 4, 1, 0, 0, 0, []), (25, 2, 1, 1, 0, 0, []), (26, 26, 11, 3, 0, 0, []), (29, 4, 1, 0, 0, 0, []), (30, 2, 1, 2, 0, 0, []), (31, 26, 11, 4, 0, 0, []), (34, 4, 1, 0, 0, 0, []), (35, 4, 1, 0, 0, 0, []), (36, 25, 11, 11, 4, 0, [(0, 10, 15), (0, 1, 25)]), (39, 4, 1, 0, 0, 0, []), (40, 25, 11, 3, 0, 0, []), (43, 4, 1, 0, 0, 0, []), (44, 25, 11, 4, 0, 0, []), (47, 40, 0, 4, 13, 0, []), (50, 25, 10, 10, 0, 0, []), (53, 41, 0, 0, 0, 0, [])]
set_option maxRecDepth 20000 in
theorem qX11_viewf : f_all yX11_view YX11_view pX11_viewf :=
  ⟨f_iload_n (n := 1) (e_dx DX11_view_0 0 rfl) rfl,
  f_if_lt (e_dx DX11_view_0 1 rfl) rfl,
  f_iload_n (n := 1) (e_dx DX11_view_0 2 rfl) rfl,
  f_ldc (e_dx DX11_view_0 3 rfl) hX11_91 rfl ⟨by decide, by decide⟩,
  f_icmp_gt (e_dx DX11_view_0 4 rfl) rfl,
  f_iload_n (n := 2) (e_dx DX11_view_0 5 rfl) rfl,
  f_if_lt (e_dx DX11_view_0 6 rfl) rfl,
  f_iload_n (n := 2) (e_dx DX11_view_0 7 rfl) rfl,
  f_aload_n (n := 0) (e_dx DX11_view_0 8 rfl) rfl,
  f_getf (e_dx DX11_view_0 9 rfl) fX11_17 rfl (by decide) (by decide) (by decide),
  f_icmp_le (e_dx DX11_view_0 10 rfl) rfl,
  f_iconst (e_dx DX11_view_0 11 rfl) ⟨by decide, by decide⟩,
  ⟨(e_dx DX11_view_0 12 rfl), rfl⟩,
  f_aload_n (n := 0) (e_dx DX11_view_0 13 rfl) rfl,
  f_iload_n (n := 1) (e_dx DX11_view_0 14 rfl) rfl,
  f_putn (e_dx DX11_view_0 15 rfl) fX11_20 (fun q hq => by cases hq; rfl) rfl (Or.inl rfl) (by decide),
  f_aload_n (n := 0) (e_dx DX11_view_0 16 rfl) rfl,
  f_iload_n (n := 2) (e_dx DX11_view_0 17 rfl) rfl,
  f_putn (e_dx DX11_view_0 18 rfl) fX11_23 (fun q hq => by cases hq; rfl) rfl (Or.inl rfl) (by decide),
  f_aload_n (n := 0) (e_dx DX11_view_0 19 rfl) rfl,
  f_aload_n (n := 0) (e_dx DX11_view_0 20 rfl) rfl,
  f_getA (e_dx DX11_view_0 21 rfl) fX11_62 rfl (by decide) (Nat.le_of_ble_eq_true rfl) rfl (by decide),
  f_aload_n (n := 0) (e_dx DX11_view_0 22 rfl) rfl,
  f_getf (e_dx DX11_view_0 23 rfl) fX11_20 rfl (by decide) (by decide) (by decide),
  f_aload_n (n := 0) (e_dx DX11_view_0 24 rfl) rfl,
  f_getf (e_dx DX11_view_0 25 rfl) fX11_23 rfl (by decide) (by decide) (by decide),
  x_callV (e_dx DX11_view_0 26 rfl) mwX11_viewOf vwX11_viewOf cX11_115 rfl,
  f_getf (e_dx DX11_view_0 27 rfl) fX11_133 rfl (by decide) (by decide) (by decide),
  ⟨(e_dx DX11_view_0 28 rfl), rfl⟩, trivial⟩
def lX11_view (c_X11_viewOf : Nat → Int → Int → e_M → (Nat → e_M → Prop) → Prop) : List (Nat × f_Wt) := [(0, f_wm [(10, 11, 15), (3, 10, 15), (1, 0, 0), (1, 0, 0)] (fun ar M R => c_X11_viewOf (f_va (f_nth ar 1)) (f_vi (f_nth ar 2)) (f_vi (f_nth ar 3)) M (fun r M => R (some (.inr (.inr (.inl (10, 15, r))))) M)))]
set_option maxRecDepth 20000 in
theorem BX11_view {sh : Nat → Nat × Nat} {t : Nat} {rm : Nat × Nat × Nat} {cs : Nat × Nat} {R : f_Rt} {c_X11_viewOf : Nat → Int → Int → e_M → (Nat → e_M → Prop) → Prop} {x1 : Int} {x2 : Int} {M : e_M} (C : f_Hy sh t yX11_view rm cs 11 (lX11_view c_X11_viewOf) R) (h : VX11_view c_X11_viewOf (fun r M => R (some (.inl r)) M) x1 x2 M) : f_E sh t YX11_view rm cs (f_Q sh t R) 0 [.inr (.inr (.inl (11, 15, 0))), .inl x1, .inl x2] [] M :=
  f_go (KC := f_kc []) C qX11_viewf f_kc_nil 31 0 h
def WX11_view (x1 : Int) (x2 : Int) (M : e_M) (Q : Int → e_M → Prop) : Prop :=
  VX11_view WX11_viewOf Q x1 x2 M
theorem PX11_view {sh : Nat → Nat × Nat} {t : Nat} {rm : Nat × Nat × Nat} {cs : Nat × Nat} {R : f_Rt} {x1 : Int} {x2 : Int} {M : e_M} (C : f_Hy sh t yX11_view rm cs 11 (lX11_view WX11_viewOf) R) (h : WX11_view x1 x2 M (fun r M => R (some (.inl r)) M)) : f_E sh t YX11_view rm cs (f_Q sh t R) 0 [.inr (.inr (.inl (11, 15, 0))), .inl x1, .inl x2] [] M :=
  BX11_view C h
def wX11_view : f_Wt := f_wm [(10, 11, 15), (1, 0, 0), (1, 0, 0)] (fun ar M R => WX11_view (f_vi (f_nth ar 1)) (f_vi (f_nth ar 2)) M (fun r M => R (some (.inl r)) M))
theorem TX11_view {sh : Nat → Nat × Nat} {t : Nat} : f_Mt sh t YX11_view 11 (wX11_view) :=
  f_Mt_of (k := 0) (Nat.le_of_ble_eq_true rfl) rfl rfl (fun ar M R rm cs h1 h2 h3 hX h => PX11_view ⟨Nat.le_of_ble_eq_true rfl, h1, h2, h3, ⟨(f_Mt.up (Nat.le_of_ble_eq_true rfl) TX11_viewOf), trivial⟩, hX⟩ h)
def VX11_came (c_X11_viewOf : Nat → Int → Int → e_M → (Nat → e_M → Prop) → Prop) (Q : Int → e_M → Prop) (x1 : Int) (M : e_M) : Prop :=
  ((x1 < 1 → (Q (-1) M)) ∧ (1 ≤ x1 → ((x1 ≤ (M 0 7) → (c_X11_viewOf 25 (M 0 3) (M 0 4) M (fun r1 M2 => ((0 ≤ (e_w32 (x1 - 1)) ∧ (e_w32 (x1 - 1)) < 150) ∧ (Q (M2 (r1 + 25) ((e_w32 (x1 - 1)).toNat)) M2))))) ∧ ((M 0 7) < x1 → (Q (-1) M)))))
def yX11_came (i : Nat) : e_Y := x_get YX11_came [YX11_viewOf] i
def pX11_camef : List x_I := [(0, 2, 1, 1, 0, 0, []), (1, 0, 1, 0, 0, 1, []), (2, 18, 13, 2, 8, 0, []), (5, 2, 1, 1, 0, 0, []), (6, 4, 1, 0, 0, 0, []), (7, 25, 11, 7, 0, 0, []), (10, 18, 15, 5, 10, 0, []), (13, 0, 1, 0, 0, (-1), []), (14, 41, 0, 0, 0, 0, []), (15, 4, 1, 0, 0, 0, []), (16, 4, 1, 0, 0, 0, []), (17, 25, 11, 11, 4, 0, [(0, 10, 15), (0, 1, 25)]), (20, 4, 1, 0, 0, 0, []), (21, 25, 11, 3, 0, 0, []), (24, 4, 1, 0, 0, 0, []), (25, 25, 11, 4, 0, 0, []), (28, 40, 0, 4, 13, 0, []), (31, 25, 10, 5, 4, 0, [(0, 20, 150), (0, 1, 25)]), (34, 2, 1, 1, 0, 0, []), (35, 0, 1, 0, 0, 1, []), (36, 9, 0, 1, 0, 0, []), (37, 27, 0, 0, 0, 0, []), (38, 41, 0, 0, 0, 0, [])]
set_option maxRecDepth 20000 in
theorem qX11_camef : f_all yX11_came YX11_came pX11_camef :=
  ⟨f_iload_n (n := 1) (e_dx DX11_came_0 0 rfl) rfl,
  f_iconst (e_dx DX11_came_0 1 rfl) ⟨by decide, by decide⟩,
  f_icmp_lt (e_dx DX11_came_0 2 rfl) rfl,
  f_iload_n (n := 1) (e_dx DX11_came_0 3 rfl) rfl,
  f_aload_n (n := 0) (e_dx DX11_came_0 4 rfl) rfl,
  f_getf (e_dx DX11_came_0 5 rfl) fX11_35 rfl (by decide) (by decide) (by decide),
  f_icmp_le (e_dx DX11_came_0 6 rfl) rfl,
  f_iconst (e_dx DX11_came_0 7 rfl) ⟨by decide, by decide⟩,
  ⟨(e_dx DX11_came_0 8 rfl), rfl⟩,
  f_aload_n (n := 0) (e_dx DX11_came_0 9 rfl) rfl,
  f_aload_n (n := 0) (e_dx DX11_came_0 10 rfl) rfl,
  f_getA (e_dx DX11_came_0 11 rfl) fX11_62 rfl (by decide) (Nat.le_of_ble_eq_true rfl) rfl (by decide),
  f_aload_n (n := 0) (e_dx DX11_came_0 12 rfl) rfl,
  f_getf (e_dx DX11_came_0 13 rfl) fX11_20 rfl (by decide) (by decide) (by decide),
  f_aload_n (n := 0) (e_dx DX11_came_0 14 rfl) rfl,
  f_getf (e_dx DX11_came_0 15 rfl) fX11_23 rfl (by decide) (by decide) (by decide),
  x_callV (e_dx DX11_came_0 16 rfl) mwX11_viewOf vwX11_viewOf cX11_115 rfl,
  f_getA (e_dx DX11_came_0 17 rfl) fX11_159 rfl (by decide) (Nat.le_of_ble_eq_true rfl) rfl (by decide),
  f_iload_n (n := 1) (e_dx DX11_came_0 18 rfl) rfl,
  f_iconst (e_dx DX11_came_0 19 rfl) ⟨by decide, by decide⟩,
  f_isub (e_dx DX11_came_0 20 rfl),
  f_iaload (e_dx DX11_came_0 21 rfl),
  ⟨(e_dx DX11_came_0 22 rfl), rfl⟩, trivial⟩
def lX11_came (c_X11_viewOf : Nat → Int → Int → e_M → (Nat → e_M → Prop) → Prop) : List (Nat × f_Wt) := [(0, f_wm [(10, 11, 15), (3, 10, 15), (1, 0, 0), (1, 0, 0)] (fun ar M R => c_X11_viewOf (f_va (f_nth ar 1)) (f_vi (f_nth ar 2)) (f_vi (f_nth ar 3)) M (fun r M => R (some (.inr (.inr (.inl (10, 15, r))))) M)))]
set_option maxRecDepth 20000 in
theorem BX11_came {sh : Nat → Nat × Nat} {t : Nat} {rm : Nat × Nat × Nat} {cs : Nat × Nat} {R : f_Rt} {c_X11_viewOf : Nat → Int → Int → e_M → (Nat → e_M → Prop) → Prop} {x1 : Int} {M : e_M} (C : f_Hy sh t yX11_came rm cs 11 (lX11_came c_X11_viewOf) R) (h : VX11_came c_X11_viewOf (fun r M => R (some (.inl r)) M) x1 M) : f_E sh t YX11_came rm cs (f_Q sh t R) 0 [.inr (.inr (.inl (11, 15, 0))), .inl x1] [] M :=
  f_go (KC := f_kc []) C qX11_camef f_kc_nil 25 0 h
def WX11_came (x1 : Int) (M : e_M) (Q : Int → e_M → Prop) : Prop :=
  VX11_came WX11_viewOf Q x1 M
theorem PX11_came {sh : Nat → Nat × Nat} {t : Nat} {rm : Nat × Nat × Nat} {cs : Nat × Nat} {R : f_Rt} {x1 : Int} {M : e_M} (C : f_Hy sh t yX11_came rm cs 11 (lX11_came WX11_viewOf) R) (h : WX11_came x1 M (fun r M => R (some (.inl r)) M)) : f_E sh t YX11_came rm cs (f_Q sh t R) 0 [.inr (.inr (.inl (11, 15, 0))), .inl x1] [] M :=
  BX11_came C h
def wX11_came : f_Wt := f_wm [(10, 11, 15), (1, 0, 0)] (fun ar M R => WX11_came (f_vi (f_nth ar 1)) M (fun r M => R (some (.inl r)) M))
theorem TX11_came {sh : Nat → Nat × Nat} {t : Nat} : f_Mt sh t YX11_came 11 (wX11_came) :=
  f_Mt_of (k := 0) (Nat.le_of_ble_eq_true rfl) rfl rfl (fun ar M R rm cs h1 h2 h3 hX h => PX11_came ⟨Nat.le_of_ble_eq_true rfl, h1, h2, h3, ⟨(f_Mt.up (Nat.le_of_ble_eq_true rfl) TX11_viewOf), trivial⟩, hX⟩ h)
def VX11_ask_62 (c_X11_readTape : e_M → (e_M → Prop) → Prop) (c_X6_read : e_M → (Int → e_M → Prop) → Prop) (c_X11_viewOf : Nat → Int → Int → e_M → (Nat → e_M → Prop) → Prop) (c_X1_reply : Nat → e_M → (e_M → Prop) → Prop) (k95 : Int → Int → e_M → Prop) (Q : Int → e_M → Prop) (xs0 : Int) (M : e_M) : Prop :=
  ((¬ (M 22 2) = (-1) → (k95 xs0 (e_min (M 22 2) (M 0 2)) M)) ∧ ((M 22 2) = (-1) → (k95 xs0 (M 0 2) M)))
def VX11_ask_95 (c_X11_readTape : e_M → (e_M → Prop) → Prop) (c_X6_read : e_M → (Int → e_M → Prop) → Prop) (c_X11_viewOf : Nat → Int → Int → e_M → (Nat → e_M → Prop) → Prop) (c_X1_reply : Nat → e_M → (e_M → Prop) → Prop) (Q : Int → e_M → Prop) (x2 : Int) (xs0 : Int) (M : e_M) : Prop :=
  (c_X11_viewOf 2224 x2 xs0 M (fun r1 M2 => (c_X1_reply r1 M2 (fun M3 => (Q 0 M3)))))
def VX11_ask (c_X11_readTape : e_M → (e_M → Prop) → Prop) (c_X6_read : e_M → (Int → e_M → Prop) → Prop) (c_X11_viewOf : Nat → Int → Int → e_M → (Nat → e_M → Prop) → Prop) (c_X1_reply : Nat → e_M → (e_M → Prop) → Prop) (k62 : Int → e_M → Prop) (Q : Int → e_M → Prop) (M : e_M) : Prop :=
  (c_X11_readTape M (fun M1 => (c_X6_read M1 (fun r2 M3 => (∀ M4 : e_M, M4 = e_up M3 0 5 (M3 10 7) → ((¬ r2 = 0 → ((¬ (M4 22 1) = (-1) → (k62 (M4 22 1) M4)) ∧ ((M4 22 1) = (-1) → (k62 (M4 0 2) M4)))) ∧ (r2 = 0 → (Q (e_w32 ((-1 : Int) - (M4 10 8))) M4))))))))
def yX11_ask (i : Nat) : e_Y := x_get YX11_ask [YX11_readTape, YX6_read, YX11_viewOf, YX1_reply] i
def pX11_askf : List x_I := [(0, 4, 1, 0, 0, 0, []), (1, 40, 0, 1, 13, 0, []), (4, 4, 1, 0, 0, 0, []), (5, 25, 11, 10, 4, 0, [(0, 6, 11), (0, 1, 22)]), (8, 40, 1, 1, 8, 0, []), (11, 5, 1, 1, 0, 0, []), (12, 4, 1, 0, 0, 0, []), (13, 4, 1, 0, 0, 0, []), (14, 25, 11, 9, 4, 0, [(0, 7, 12), (0, 1, 10)]), (17, 25, 7, 7, 0, 0, []), (20, 26, 11, 5, 0, 0, []), (23, 2, 1, 1, 0, 0, []), (24, 17, 37, 1, 20, 0, []), (27, 0, 1, 0, 0, (-1), []), (28, 4, 1, 0, 0, 0, []), (29, 25, 11, 9, 4, 0, [(0, 7, 12), (0, 1, 10)]), (32, 25, 7, 8, 0, 0, []), (35, 9, 0, 1, 0, 0, []), (36, 41, 0, 0, 0, 0, []), (37, 4, 1, 0, 0, 0, []), (38, 25, 11, 10, 4, 0, [(0, 6, 11), (0, 1, 22)]), (41, 25, 6, 1, 0, 0, []), (44, 0, 1, 0, 0, (-1), []), (45, 18, 55, 1, 28, 0, []), (48, 4, 1, 0, 0, 0, []), (49, 25, 11, 2, 0, 0, []), (52, 19, 62, 0, 31, 0, []), (55, 4, 1, 0, 0, 0, []), (56, 25, 11, 10, 4, 0, [(0, 6, 11), (0, 1, 22)]), (59, 25, 6, 1, 0, 0, []), (62, 49, 0, 0, 0, 0, []), (62, 5, 1, 2, 0, 0, []), (63, 4, 1, 0, 0, 0, []), (64, 25, 11, 10, 4, 0, [(0, 6, 11), (0, 1, 22)]), (67, 25, 6, 2, 0, 0, []), (70, 0, 1, 0, 0, (-1), []), (71, 18, 81, 1, 41, 0, []), (74, 4, 1, 0, 0, 0, []), (75, 25, 11, 2, 0, 0, []), (78, 19, 95, 0, 47, 0, []), (81, 4, 1, 0, 0, 0, []), (82, 25, 11, 10, 4, 0, [(0, 6, 11), (0, 1, 22)]), (85, 25, 6, 2, 0, 0, []), (88, 4, 1, 0, 0, 0, []), (89, 25, 11, 2, 0, 0, []), (92, 39, 0, 0, 0, 0, []), (95, 49, 0, 0, 0, 0, []), (95, 5, 1, 3, 0, 0, []), (96, 4, 1, 0, 0, 0, []), (97, 25, 11, 14, 4, 0, [(0, 1, 7), (0, 1, 4452)]), (100, 4, 1, 0, 0, 0, []), (101, 4, 1, 0, 0, 0, []), (102, 25, 11, 12, 4, 0, [(0, 10, 15), (0, 1, 2224)]), (105, 2, 1, 2, 0, 0, []), (106, 2, 1, 3, 0, 0, []), (107, 40, 2, 4, 13, 0, []), (110, 4, 1, 0, 0, 0, []), (111, 25, 11, 10, 4, 0, [(0, 6, 11), (0, 1, 22)]), (114, 40, 3, 3, 3, 0, []), (117, 0, 1, 0, 0, 0, []), (118, 41, 0, 0, 0, 0, [])]
set_option maxRecDepth 20000 in
theorem qX11_askf : f_all yX11_ask YX11_ask pX11_askf :=
  ⟨f_aload_n (n := 0) (e_dx DX11_ask_0 0 rfl) rfl,
  x_callV (e_dx DX11_ask_0 1 rfl) mwX11_readTape vwX11_readTape cX11_92 rfl,
  f_aload_n (n := 0) (e_dx DX11_ask_0 2 rfl) rfl,
  f_getA (e_dx DX11_ask_0 3 rfl) fX11_55 rfl (by decide) (Nat.le_of_ble_eq_true rfl) rfl (by decide),
  x_callV (e_dx DX11_ask_0 4 rfl) mwX6_read vwX6_read cX11_163 rfl,
  f_istore_n (n := 1) (e_dx DX11_ask_0 5 rfl) rfl (by decide),
  f_aload_n (n := 0) (e_dx DX11_ask_0 6 rfl) rfl,
  f_aload_n (n := 0) (e_dx DX11_ask_0 7 rfl) rfl,
  f_getA (e_dx DX11_ask_0 8 rfl) fX11_46 rfl (by decide) (Nat.le_of_ble_eq_true rfl) rfl (by decide),
  f_getf (e_dx DX11_ask_0 9 rfl) fX11_99 rfl (by decide) (by decide) (by decide),
  f_putn (e_dx DX11_ask_0 10 rfl) fX11_26 (fun q hq => by cases hq; rfl) rfl (Or.inl rfl) (by decide),
  f_iload_n (n := 1) (e_dx DX11_ask_0 11 rfl) rfl,
  f_if_ne (e_dx DX11_ask_0 12 rfl) rfl,
  f_iconst (e_dx DX11_ask_0 13 rfl) ⟨by decide, by decide⟩,
  f_aload_n (n := 0) (e_dx DX11_ask_0 14 rfl) rfl,
  f_getA (e_dx DX11_ask_0 15 rfl) fX11_46 rfl (by decide) (Nat.le_of_ble_eq_true rfl) rfl (by decide),
  f_getf (e_dx DX11_ask_0 16 rfl) fX11_102 rfl (by decide) (by decide) (by decide),
  f_isub (e_dx DX11_ask_0 17 rfl),
  ⟨(e_dx DX11_ask_0 18 rfl), rfl⟩,
  f_aload_n (n := 0) (e_dx DX11_ask_0 19 rfl) rfl,
  f_getA (e_dx DX11_ask_0 20 rfl) fX11_55 rfl (by decide) (Nat.le_of_ble_eq_true rfl) rfl (by decide),
  f_getf (e_dx DX11_ask_0 21 rfl) fX11_167 rfl (by decide) (by decide) (by decide),
  f_iconst (e_dx DX11_ask_0 22 rfl) ⟨by decide, by decide⟩,
  f_icmp_ne (e_dx DX11_ask_0 23 rfl) rfl,
  f_aload_n (n := 0) (e_dx DX11_ask_0 24 rfl) rfl,
  f_getf (e_dx DX11_ask_0 25 rfl) fX11_17 rfl (by decide) (by decide) (by decide),
  f_g19 (e_dx DX11_ask_0 26 rfl) rfl,
  f_aload_n (n := 0) (e_dx DX11_ask_0 27 rfl) rfl,
  f_getA (e_dx DX11_ask_0 28 rfl) fX11_55 rfl (by decide) (Nat.le_of_ble_eq_true rfl) rfl (by decide),
  f_getf (e_dx DX11_ask_0 29 rfl) fX11_167 rfl (by decide) (by decide) (by decide),
  trivial,
  f_istore_n (n := 2) (e_dx DX11_ask_0 30 rfl) rfl (by decide),
  f_aload_n (n := 0) (e_dx DX11_ask_0 31 rfl) rfl,
  f_getA (e_dx DX11_ask_0 32 rfl) fX11_55 rfl (by decide) (Nat.le_of_ble_eq_true rfl) rfl (by decide),
  f_getf (e_dx DX11_ask_0 33 rfl) fX11_168 rfl (by decide) (by decide) (by decide),
  f_iconst (e_dx DX11_ask_0 34 rfl) ⟨by decide, by decide⟩,
  f_icmp_ne (e_dx DX11_ask_0 35 rfl) rfl,
  f_aload_n (n := 0) (e_dx DX11_ask_0 36 rfl) rfl,
  f_getf (e_dx DX11_ask_0 37 rfl) fX11_17 rfl (by decide) (by decide) (by decide),
  f_g19 (e_dx DX11_ask_0 38 rfl) rfl,
  f_aload_n (n := 0) (e_dx DX11_ask_0 39 rfl) rfl,
  f_getA (e_dx DX11_ask_1 0 rfl) fX11_55 rfl (by decide) (Nat.le_of_ble_eq_true rfl) rfl (by decide),
  f_getf (e_dx DX11_ask_1 1 rfl) fX11_168 rfl (by decide) (by decide) (by decide),
  f_aload_n (n := 0) (e_dx DX11_ask_1 2 rfl) rfl,
  f_getf (e_dx DX11_ask_1 3 rfl) fX11_17 rfl (by decide) (by decide) (by decide),
  f_mminI (e_dx DX11_ask_1 4 rfl) cX11_171 fm_s_mminI fm_i fm_c_mminI,
  trivial,
  f_istore_n (n := 3) (e_dx DX11_ask_1 5 rfl) rfl (by decide),
  f_aload_n (n := 0) (e_dx DX11_ask_1 6 rfl) rfl,
  f_getA (e_dx DX11_ask_1 7 rfl) fX11_83 rfl (by decide) (Nat.le_of_ble_eq_true rfl) rfl (by decide),
  f_aload_n (n := 0) (e_dx DX11_ask_1 8 rfl) rfl,
  f_aload_n (n := 0) (e_dx DX11_ask_1 9 rfl) rfl,
  f_getA (e_dx DX11_ask_1 10 rfl) fX11_66 rfl (by decide) (Nat.le_of_ble_eq_true rfl) rfl (by decide),
  f_iload_n (n := 2) (e_dx DX11_ask_1 11 rfl) rfl,
  f_iload_n (n := 3) (e_dx DX11_ask_1 12 rfl) rfl,
  x_callV (e_dx DX11_ask_1 13 rfl) mwX11_viewOf vwX11_viewOf cX11_115 rfl,
  f_aload_n (n := 0) (e_dx DX11_ask_1 14 rfl) rfl,
  f_getA (e_dx DX11_ask_1 15 rfl) fX11_55 rfl (by decide) (Nat.le_of_ble_eq_true rfl) rfl (by decide),
  x_callV (e_dx DX11_ask_1 16 rfl) mwX1_reply vwX1_reply cX11_177 rfl,
  f_iconst (e_dx DX11_ask_1 17 rfl) ⟨by decide, by decide⟩,
  ⟨(e_dx DX11_ask_1 18 rfl), rfl⟩, trivial⟩
def lX11_ask (c_X11_readTape : e_M → (e_M → Prop) → Prop) (c_X6_read : e_M → (Int → e_M → Prop) → Prop) (c_X11_viewOf : Nat → Int → Int → e_M → (Nat → e_M → Prop) → Prop) (c_X1_reply : Nat → e_M → (e_M → Prop) → Prop) : List (Nat × f_Wt) := [(0, f_wm [(10, 11, 15)] (fun ar M R => c_X11_readTape  M (fun M => R none M))), (1, f_wm [(32, 6, 11)] (fun ar M R => c_X6_read  M (fun r M => R (some (.inl r)) M))), (2, f_wm [(10, 11, 15), (3, 10, 15), (1, 0, 0), (1, 0, 0)] (fun ar M R => c_X11_viewOf (f_va (f_nth ar 1)) (f_vi (f_nth ar 2)) (f_vi (f_nth ar 3)) M (fun r M => R (some (.inr (.inr (.inl (10, 15, r))))) M))), (3, f_wm [(4462, 1, 7), (3, 10, 15), (32, 6, 11)] (fun ar M R => c_X1_reply (f_va (f_nth ar 1)) M (fun M => R none M)))]
set_option maxRecDepth 20000 in
theorem BX11_ask_62 {sh : Nat → Nat × Nat} {t : Nat} {rm : Nat × Nat × Nat} {cs : Nat × Nat} {R : f_Rt} {c_X11_readTape : e_M → (e_M → Prop) → Prop} {c_X6_read : e_M → (Int → e_M → Prop) → Prop} {c_X11_viewOf : Nat → Int → Int → e_M → (Nat → e_M → Prop) → Prop} {c_X1_reply : Nat → e_M → (e_M → Prop) → Prop} {k95 : Int → Int → e_M → Prop} {xs0 : Int} {M : e_M} (C : f_Hy sh t yX11_ask rm cs 69 (lX11_ask c_X11_readTape c_X6_read c_X11_viewOf c_X1_reply) R) (h95 : ∀ (x2 : Int) (xs0 : Int) (M : e_M), k95 x2 xs0 M → f_E sh t YX11_ask rm cs (f_Q sh t R) 95 [.inr (.inr (.inl (11, 15, 0))), .inr (.inr (.inr ())), .inl x2, .inr (.inr (.inr ()))] [.inl xs0] M) (h : VX11_ask_62 c_X11_readTape c_X6_read c_X11_viewOf c_X1_reply k95 (fun r M => R (some (.inl r)) M) xs0 M) : f_E sh t YX11_ask rm cs (f_Q sh t R) 62 [.inr (.inr (.inl (11, 15, 0))), .inr (.inr (.inr ())), .inr (.inr (.inr ())), .inr (.inr (.inr ()))] [.inl xs0] M :=
  f_go (KC := f_kc [(95, f_pl [(10, 11, 15), (0, 0, 0), (1, 0, 0), (0, 0, 0)] [(1, 0, 0)] (fun ls st M => k95 (f_vi (f_nth ls 2)) (f_vi (f_nth st 0)) M))]) C qX11_askf (f_kc_cons (f_pl_ok rfl (fun ls st M h => h95 _ _ M h)) f_kc_nil) 63 31 h
set_option maxRecDepth 20000 in
theorem BX11_ask_95 {sh : Nat → Nat × Nat} {t : Nat} {rm : Nat × Nat × Nat} {cs : Nat × Nat} {R : f_Rt} {c_X11_readTape : e_M → (e_M → Prop) → Prop} {c_X6_read : e_M → (Int → e_M → Prop) → Prop} {c_X11_viewOf : Nat → Int → Int → e_M → (Nat → e_M → Prop) → Prop} {c_X1_reply : Nat → e_M → (e_M → Prop) → Prop} {x2 : Int} {xs0 : Int} {M : e_M} (C : f_Hy sh t yX11_ask rm cs 69 (lX11_ask c_X11_readTape c_X6_read c_X11_viewOf c_X1_reply) R) (h : VX11_ask_95 c_X11_readTape c_X6_read c_X11_viewOf c_X1_reply (fun r M => R (some (.inl r)) M) x2 xs0 M) : f_E sh t YX11_ask rm cs (f_Q sh t R) 95 [.inr (.inr (.inl (11, 15, 0))), .inr (.inr (.inr ())), .inl x2, .inr (.inr (.inr ()))] [.inl xs0] M :=
  f_go (KC := f_kc []) C qX11_askf f_kc_nil 63 47 h
set_option maxRecDepth 20000 in
theorem BX11_ask {sh : Nat → Nat × Nat} {t : Nat} {rm : Nat × Nat × Nat} {cs : Nat × Nat} {R : f_Rt} {c_X11_readTape : e_M → (e_M → Prop) → Prop} {c_X6_read : e_M → (Int → e_M → Prop) → Prop} {c_X11_viewOf : Nat → Int → Int → e_M → (Nat → e_M → Prop) → Prop} {c_X1_reply : Nat → e_M → (e_M → Prop) → Prop} {k62 : Int → e_M → Prop} {M : e_M} (C : f_Hy sh t yX11_ask rm cs 69 (lX11_ask c_X11_readTape c_X6_read c_X11_viewOf c_X1_reply) R) (h62 : ∀ (xs0 : Int) (M : e_M), k62 xs0 M → f_E sh t YX11_ask rm cs (f_Q sh t R) 62 [.inr (.inr (.inl (11, 15, 0))), .inr (.inr (.inr ())), .inr (.inr (.inr ())), .inr (.inr (.inr ()))] [.inl xs0] M) (h : VX11_ask c_X11_readTape c_X6_read c_X11_viewOf c_X1_reply k62 (fun r M => R (some (.inl r)) M) M) : f_E sh t YX11_ask rm cs (f_Q sh t R) 0 [.inr (.inr (.inl (11, 15, 0))), .inr (.inr (.inr ())), .inr (.inr (.inr ())), .inr (.inr (.inr ()))] [] M :=
  f_go (KC := f_kc [(62, f_pl [(10, 11, 15), (0, 0, 0), (0, 0, 0), (0, 0, 0)] [(1, 0, 0)] (fun ls st M => k62 (f_vi (f_nth st 0)) M))]) C qX11_askf (f_kc_cons (f_pl_ok rfl (fun ls st M h => h62 _ M h)) f_kc_nil) 63 0 h
def WX11_ask_95 (Q : Int → e_M → Prop) (x2 : Int) (xs0 : Int) (M : e_M) : Prop :=
  VX11_ask_95 WX11_readTape WX6_read WX11_viewOf WX1_reply Q x2 xs0 M
def WX11_ask_62 (Q : Int → e_M → Prop) (xs0 : Int) (M : e_M) : Prop :=
  VX11_ask_62 WX11_readTape WX6_read WX11_viewOf WX1_reply (WX11_ask_95 Q) Q xs0 M
def WX11_ask (M : e_M) (Q : Int → e_M → Prop) : Prop :=
  VX11_ask WX11_readTape WX6_read WX11_viewOf WX1_reply (WX11_ask_62 Q) Q M
theorem PX11_ask_95 {sh : Nat → Nat × Nat} {t : Nat} {rm : Nat × Nat × Nat} {cs : Nat × Nat} {R : f_Rt} {x2 : Int} {xs0 : Int} {M : e_M} (C : f_Hy sh t yX11_ask rm cs 69 (lX11_ask WX11_readTape WX6_read WX11_viewOf WX1_reply) R) (h : WX11_ask_95 (fun r M => R (some (.inl r)) M) x2 xs0 M) : f_E sh t YX11_ask rm cs (f_Q sh t R) 95 [.inr (.inr (.inl (11, 15, 0))), .inr (.inr (.inr ())), .inl x2, .inr (.inr (.inr ()))] [.inl xs0] M :=
  BX11_ask_95 C h
theorem PX11_ask_62 {sh : Nat → Nat × Nat} {t : Nat} {rm : Nat × Nat × Nat} {cs : Nat × Nat} {R : f_Rt} {xs0 : Int} {M : e_M} (C : f_Hy sh t yX11_ask rm cs 69 (lX11_ask WX11_readTape WX6_read WX11_viewOf WX1_reply) R) (h : WX11_ask_62 (fun r M => R (some (.inl r)) M) xs0 M) : f_E sh t YX11_ask rm cs (f_Q sh t R) 62 [.inr (.inr (.inl (11, 15, 0))), .inr (.inr (.inr ())), .inr (.inr (.inr ())), .inr (.inr (.inr ()))] [.inl xs0] M :=
  BX11_ask_62 C (fun x2 xs0 M h => PX11_ask_95 C h) h
theorem PX11_ask {sh : Nat → Nat × Nat} {t : Nat} {rm : Nat × Nat × Nat} {cs : Nat × Nat} {R : f_Rt} {M : e_M} (C : f_Hy sh t yX11_ask rm cs 69 (lX11_ask WX11_readTape WX6_read WX11_viewOf WX1_reply) R) (h : WX11_ask M (fun r M => R (some (.inl r)) M)) : f_E sh t YX11_ask rm cs (f_Q sh t R) 0 [.inr (.inr (.inl (11, 15, 0))), .inr (.inr (.inr ())), .inr (.inr (.inr ())), .inr (.inr (.inr ()))] [] M :=
  BX11_ask C (fun xs0 M h => PX11_ask_62 C h) h
def wX11_ask : f_Wt := f_wm [(10, 11, 15)] (fun ar M R => WX11_ask M (fun r M => R (some (.inl r)) M))
theorem TX11_ask {sh : Nat → Nat × Nat} {t : Nat} : f_Mt sh t YX11_ask 69 (wX11_ask) :=
  f_Mt_of (k := 3) (Nat.le_of_ble_eq_true rfl) rfl rfl (fun ar M R rm cs h1 h2 h3 hX h => PX11_ask ⟨Nat.le_of_ble_eq_true rfl, h1, h2, h3, ⟨(f_Mt.up (Nat.le_of_ble_eq_true rfl) TX11_readTape), (f_Mt.up (Nat.le_of_ble_eq_true rfl) TX6_read), (f_Mt.up (Nat.le_of_ble_eq_true rfl) TX11_viewOf), (f_Mt.up (Nat.le_of_ble_eq_true rfl) TX1_reply), trivial⟩, hX⟩ h)
def VX11_answer (Q : Int → Prop) (M : e_M) : Prop :=
  (Q (M 4452 0))
def yX11_answer (i : Nat) : e_Y := x_get YX11_answer [] i
def pX11_answerf : List x_I := [(0, 4, 1, 0, 0, 0, []), (1, 25, 11, 14, 4, 0, [(0, 1, 7), (0, 1, 4452)]), (4, 25, 1, 0, 3, 0, []), (7, 43, 0, 0, 0, 0, [])]
set_option maxRecDepth 20000 in
theorem qX11_answerf : f_all yX11_answer YX11_answer pX11_answerf :=
  ⟨f_aload_n (n := 0) (e_dx DX11_answer_0 0 rfl) rfl,
  f_getA (e_dx DX11_answer_0 1 rfl) fX11_83 rfl (by decide) (Nat.le_of_ble_eq_true rfl) rfl (by decide),
  f_getL (e_dx DX11_answer_0 2 rfl) fX11_180 rfl (by decide),
  ⟨(e_dx DX11_answer_0 3 rfl), rfl⟩, trivial⟩
def lX11_answer : List (Nat × f_Wt) := []
set_option maxRecDepth 20000 in
theorem BX11_answer {sh : Nat → Nat × Nat} {t : Nat} {rm : Nat × Nat × Nat} {cs : Nat × Nat} {R : f_Rt} {M : e_M} (C : f_Hy sh t yX11_answer rm cs 4 (lX11_answer) R) (h : VX11_answer (fun r => R (some (.inr (.inl r))) M) M) : f_E sh t YX11_answer rm cs (f_Q sh t R) 0 [.inr (.inr (.inl (11, 15, 0)))] [] M :=
  f_go (KC := f_kc []) C qX11_answerf f_kc_nil 6 0 h
def WX11_answer (M : e_M) (Q : Int → Prop) : Prop :=
  VX11_answer Q M
theorem PX11_answer {sh : Nat → Nat × Nat} {t : Nat} {rm : Nat × Nat × Nat} {cs : Nat × Nat} {R : f_Rt} {M : e_M} (C : f_Hy sh t yX11_answer rm cs 4 (lX11_answer) R) (h : WX11_answer M (fun r => R (some (.inr (.inl r))) M)) : f_E sh t YX11_answer rm cs (f_Q sh t R) 0 [.inr (.inr (.inl (11, 15, 0)))] [] M :=
  BX11_answer C h
def wX11_answer : f_Wt := f_wm [(10, 11, 15)] (fun ar M R => WX11_answer M (fun r => R (some (.inr (.inl r))) M))
theorem TX11_answer {sh : Nat → Nat × Nat} {t : Nat} : f_Mt sh t YX11_answer 4 (wX11_answer) :=
  f_Mt_of (k := 0) (Nat.le_of_ble_eq_true rfl) rfl rfl (fun ar M R rm cs h1 h2 h3 hX h => PX11_answer ⟨Nat.le_of_ble_eq_true rfl, h1, h2, h3, trivial, hX⟩ h)
def VX11_count (c_X11_viewOf : Nat → Int → Int → e_M → (Nat → e_M → Prop) → Prop) (c_X10_howMany : Nat → Int → e_M → (Int → Prop) → Prop) (Q : Int → e_M → Prop) (x1 : Int) (M : e_M) : Prop :=
  ((x1 = 0 → (Q (M 0 7) M)) ∧ (¬ x1 = 0 → ((x1 = 1 → (Q (M 0 1) M)) ∧ (¬ x1 = 1 → ((x1 = 2 → (Q (M 4452 2) M)) ∧ (¬ x1 = 2 → ((x1 = 3 → (Q (M 0 2) M)) ∧ (¬ x1 = 3 → ((x1 = 4 → (Q (M 0 3) M)) ∧ (¬ x1 = 4 → ((x1 = 5 → (Q (M 0 4) M)) ∧ (¬ x1 = 5 → ((x1 = 6 → (c_X11_viewOf 25 (M 0 3) (M 0 4) M (fun r36 M37 => (Q (M37 r36 10) M37)))) ∧ (¬ x1 = 6 → ((x1 = 7 → ((x1 < 10 → (Q (-1) M)) ∧ (10 ≤ x1 → ((x1 < 17 → (c_X11_viewOf 25 (M 0 3) (M 0 4) M (fun r33 M34 => (c_X10_howMany r33 (e_w32 (x1 - 10)) M34 (fun r35 => (Q r35 M34)))))) ∧ (17 ≤ x1 → (Q (-1) M)))))) ∧ (¬ x1 = 7 → ((x1 = 8 → ((x1 < 10 → (Q (-1) M)) ∧ (10 ≤ x1 → ((x1 < 17 → (c_X11_viewOf 25 (M 0 3) (M 0 4) M (fun r30 M31 => (c_X10_howMany r30 (e_w32 (x1 - 10)) M31 (fun r32 => (Q r32 M31)))))) ∧ (17 ≤ x1 → (Q (-1) M)))))) ∧ (¬ x1 = 8 → ((x1 = 9 → ((x1 < 10 → (Q (-1) M)) ∧ (10 ≤ x1 → ((x1 < 17 → (c_X11_viewOf 25 (M 0 3) (M 0 4) M (fun r27 M28 => (c_X10_howMany r27 (e_w32 (x1 - 10)) M28 (fun r29 => (Q r29 M28)))))) ∧ (17 ≤ x1 → (Q (-1) M)))))) ∧ (¬ x1 = 9 → ((x1 = 10 → ((x1 < 10 → (Q (-1) M)) ∧ (10 ≤ x1 → ((x1 < 17 → (c_X11_viewOf 25 (M 0 3) (M 0 4) M (fun r24 M25 => (c_X10_howMany r24 (e_w32 (x1 - 10)) M25 (fun r26 => (Q r26 M25)))))) ∧ (17 ≤ x1 → (Q (-1) M)))))) ∧ (¬ x1 = 10 → ((x1 = 11 → ((x1 < 10 → (Q (-1) M)) ∧ (10 ≤ x1 → ((x1 < 17 → (c_X11_viewOf 25 (M 0 3) (M 0 4) M (fun r21 M22 => (c_X10_howMany r21 (e_w32 (x1 - 10)) M22 (fun r23 => (Q r23 M22)))))) ∧ (17 ≤ x1 → (Q (-1) M)))))) ∧ (¬ x1 = 11 → ((x1 = 12 → ((x1 < 10 → (Q (-1) M)) ∧ (10 ≤ x1 → ((x1 < 17 → (c_X11_viewOf 25 (M 0 3) (M 0 4) M (fun r18 M19 => (c_X10_howMany r18 (e_w32 (x1 - 10)) M19 (fun r20 => (Q r20 M19)))))) ∧ (17 ≤ x1 → (Q (-1) M)))))) ∧ (¬ x1 = 12 → ((x1 = 13 → ((x1 < 10 → (Q (-1) M)) ∧ (10 ≤ x1 → ((x1 < 17 → (c_X11_viewOf 25 (M 0 3) (M 0 4) M (fun r15 M16 => (c_X10_howMany r15 (e_w32 (x1 - 10)) M16 (fun r17 => (Q r17 M16)))))) ∧ (17 ≤ x1 → (Q (-1) M)))))) ∧ (¬ x1 = 13 → ((x1 = 14 → ((x1 < 10 → (Q (-1) M)) ∧ (10 ≤ x1 → ((x1 < 17 → (c_X11_viewOf 25 (M 0 3) (M 0 4) M (fun r12 M13 => (c_X10_howMany r12 (e_w32 (x1 - 10)) M13 (fun r14 => (Q r14 M13)))))) ∧ (17 ≤ x1 → (Q (-1) M)))))) ∧ (¬ x1 = 14 → ((x1 = 15 → ((x1 < 10 → (Q (-1) M)) ∧ (10 ≤ x1 → ((x1 < 17 → (c_X11_viewOf 25 (M 0 3) (M 0 4) M (fun r9 M10 => (c_X10_howMany r9 (e_w32 (x1 - 10)) M10 (fun r11 => (Q r11 M10)))))) ∧ (17 ≤ x1 → (Q (-1) M)))))) ∧ (¬ x1 = 15 → ((x1 = 16 → ((x1 < 10 → (Q (-1) M)) ∧ (10 ≤ x1 → ((x1 < 17 → (c_X11_viewOf 25 (M 0 3) (M 0 4) M (fun r6 M7 => (c_X10_howMany r6 (e_w32 (x1 - 10)) M7 (fun r8 => (Q r8 M7)))))) ∧ (17 ≤ x1 → (Q (-1) M)))))) ∧ (¬ x1 = 16 → ((x1 = 17 → (c_X11_viewOf 25 (M 0 3) (M 0 4) M (fun r4 M5 => ((0 ≤ (7 : Int) ∧ (7 : Int) < 8) ∧ (Q (M5 (r4 + 24) ((7 : Int).toNat)) M5))))) ∧ (¬ x1 = 17 → ((x1 < 10 → (Q (-1) M)) ∧ (10 ≤ x1 → ((x1 < 17 → (c_X11_viewOf 25 (M 0 3) (M 0 4) M (fun r1 M2 => (c_X10_howMany r1 (e_w32 (x1 - 10)) M2 (fun r3 => (Q r3 M2)))))) ∧ (17 ≤ x1 → (Q (-1) M)))))))))))))))))))))))))))))))))))))))))
def yX11_count (i : Nat) : e_Y := x_get YX11_count [YX11_viewOf, YX10_howMany] i
def pX11_countf : List x_I := [(0, 2, 1, 1, 0, 0, []), (1, 24, 164, 0, 44, 0, [(0, 88, 3), (1, 93, 6), (2, 98, 9), (3, 106, 13), (4, 111, 16), (5, 116, 19), (6, 121, 22), (7, 164, 44), (8, 164, 44), (9, 164, 44), (10, 164, 44), (11, 164, 44), (12, 164, 44), (13, 164, 44), (14, 164, 44), (15, 164, 44), (16, 164, 44), (17, 141, 32)]), (88, 4, 1, 0, 0, 0, []), (89, 25, 11, 7, 0, 0, []), (92, 41, 0, 0, 0, 0, []), (93, 4, 1, 0, 0, 0, []), (94, 25, 11, 1, 0, 0, []), (97, 41, 0, 0, 0, 0, []), (98, 4, 1, 0, 0, 0, []), (99, 25, 11, 14, 4, 0, [(0, 1, 7), (0, 1, 4452)]), (102, 25, 1, 2, 0, 0, []), (105, 41, 0, 0, 0, 0, []), (106, 4, 1, 0, 0, 0, []), (107, 25, 11, 2, 0, 0, []), (110, 41, 0, 0, 0, 0, []), (111, 4, 1, 0, 0, 0, []), (112, 25, 11, 3, 0, 0, []), (115, 41, 0, 0, 0, 0, []), (116, 4, 1, 0, 0, 0, []), (117, 25, 11, 4, 0, 0, []), (120, 41, 0, 0, 0, 0, []), (121, 4, 1, 0, 0, 0, []), (122, 4, 1, 0, 0, 0, []), (123, 25, 11, 11, 4, 0, [(0, 10, 15), (0, 1, 25)]), (126, 4, 1, 0, 0, 0, []), (127, 25, 11, 3, 0, 0, []), (130, 4, 1, 0, 0, 0, []), (131, 25, 11, 4, 0, 0, []), (134, 40, 0, 4, 13, 0, []), (137, 25, 10, 10, 0, 0, []), (140, 41, 0, 0, 0, 0, []), (141, 4, 1, 0, 0, 0, []), (142, 4, 1, 0, 0, 0, []), (143, 25, 11, 11, 4, 0, [(0, 10, 15), (0, 1, 25)]), (146, 4, 1, 0, 0, 0, []), (147, 25, 11, 3, 0, 0, []), (150, 4, 1, 0, 0, 0, []), (151, 25, 11, 4, 0, 0, []), (154, 40, 0, 4, 13, 0, []), (157, 25, 10, 4, 4, 0, [(0, 20, 8), (0, 1, 24)]), (160, 0, 2, 0, 0, 7, []), (162, 27, 0, 0, 0, 0, []), (163, 41, 0, 0, 0, 0, []), (164, 2, 1, 1, 0, 0, []), (165, 0, 2, 0, 0, 10, []), (167, 18, 176, 2, 50, 0, []), (170, 2, 1, 1, 0, 0, []), (171, 0, 2, 0, 0, 17, []), (173, 18, 178, 2, 52, 0, []), (176, 0, 1, 0, 0, (-1), []), (177, 41, 0, 0, 0, 0, []), (178, 4, 1, 0, 0, 0, []), (179, 4, 1, 0, 0, 0, []), (180, 25, 11, 11, 4, 0, [(0, 10, 15), (0, 1, 25)]), (183, 4, 1, 0, 0, 0, []), (184, 25, 11, 3, 0, 0, []), (187, 4, 1, 0, 0, 0, []), (188, 25, 11, 4, 0, 0, []), (191, 40, 0, 4, 13, 0, []), (194, 2, 1, 1, 0, 0, []), (195, 0, 2, 0, 0, 10, []), (197, 9, 0, 1, 0, 0, []), (198, 40, 1, 2, 12, 0, []), (201, 41, 0, 0, 0, 0, [])]
set_option maxRecDepth 20000 in
theorem qX11_countf : f_all yX11_count YX11_count pX11_countf :=
  ⟨f_iload_n (n := 1) (e_dx DX11_count_0 0 rfl) rfl,
  f_tsw (e_dx DX11_count_0 1 rfl) rfl rfl (by decide) rfl,
  f_aload_n (n := 0) (e_dx DX11_count_0 2 rfl) rfl,
  f_getf (e_dx DX11_count_0 3 rfl) fX11_35 rfl (by decide) (by decide) (by decide),
  ⟨(e_dx DX11_count_0 4 rfl), rfl⟩,
  f_aload_n (n := 0) (e_dx DX11_count_0 5 rfl) rfl,
  f_getf (e_dx DX11_count_0 6 rfl) fX11_13 rfl (by decide) (by decide) (by decide),
  ⟨(e_dx DX11_count_0 7 rfl), rfl⟩,
  f_aload_n (n := 0) (e_dx DX11_count_0 8 rfl) rfl,
  f_getA (e_dx DX11_count_0 9 rfl) fX11_83 rfl (by decide) (Nat.le_of_ble_eq_true rfl) rfl (by decide),
  f_getf (e_dx DX11_count_0 10 rfl) fX11_184 rfl (by decide) (by decide) (by decide),
  ⟨(e_dx DX11_count_0 11 rfl), rfl⟩,
  f_aload_n (n := 0) (e_dx DX11_count_0 12 rfl) rfl,
  f_getf (e_dx DX11_count_0 13 rfl) fX11_17 rfl (by decide) (by decide) (by decide),
  ⟨(e_dx DX11_count_0 14 rfl), rfl⟩,
  f_aload_n (n := 0) (e_dx DX11_count_0 15 rfl) rfl,
  f_getf (e_dx DX11_count_0 16 rfl) fX11_20 rfl (by decide) (by decide) (by decide),
  ⟨(e_dx DX11_count_0 17 rfl), rfl⟩,
  f_aload_n (n := 0) (e_dx DX11_count_0 18 rfl) rfl,
  f_getf (e_dx DX11_count_0 19 rfl) fX11_23 rfl (by decide) (by decide) (by decide),
  ⟨(e_dx DX11_count_0 20 rfl), rfl⟩,
  f_aload_n (n := 0) (e_dx DX11_count_0 21 rfl) rfl,
  f_aload_n (n := 0) (e_dx DX11_count_0 22 rfl) rfl,
  f_getA (e_dx DX11_count_0 23 rfl) fX11_62 rfl (by decide) (Nat.le_of_ble_eq_true rfl) rfl (by decide),
  f_aload_n (n := 0) (e_dx DX11_count_0 24 rfl) rfl,
  f_getf (e_dx DX11_count_0 25 rfl) fX11_20 rfl (by decide) (by decide) (by decide),
  f_aload_n (n := 0) (e_dx DX11_count_0 26 rfl) rfl,
  f_getf (e_dx DX11_count_0 27 rfl) fX11_23 rfl (by decide) (by decide) (by decide),
  x_callV (e_dx DX11_count_0 28 rfl) mwX11_viewOf vwX11_viewOf cX11_115 rfl,
  f_getf (e_dx DX11_count_0 29 rfl) fX11_133 rfl (by decide) (by decide) (by decide),
  ⟨(e_dx DX11_count_0 30 rfl), rfl⟩,
  f_aload_n (n := 0) (e_dx DX11_count_0 31 rfl) rfl,
  f_aload_n (n := 0) (e_dx DX11_count_0 32 rfl) rfl,
  f_getA (e_dx DX11_count_0 33 rfl) fX11_62 rfl (by decide) (Nat.le_of_ble_eq_true rfl) rfl (by decide),
  f_aload_n (n := 0) (e_dx DX11_count_0 34 rfl) rfl,
  f_getf (e_dx DX11_count_0 35 rfl) fX11_20 rfl (by decide) (by decide) (by decide),
  f_aload_n (n := 0) (e_dx DX11_count_0 36 rfl) rfl,
  f_getf (e_dx DX11_count_0 37 rfl) fX11_23 rfl (by decide) (by decide) (by decide),
  x_callV (e_dx DX11_count_0 38 rfl) mwX11_viewOf vwX11_viewOf cX11_115 rfl,
  f_getA (e_dx DX11_count_0 39 rfl) fX11_197 rfl (by decide) (Nat.le_of_ble_eq_true rfl) rfl (by decide),
  f_bipush (e_dx DX11_count_1 0 rfl) ⟨by decide, by decide⟩,
  f_iaload (e_dx DX11_count_1 1 rfl),
  ⟨(e_dx DX11_count_1 2 rfl), rfl⟩,
  f_iload_n (n := 1) (e_dx DX11_count_1 3 rfl) rfl,
  f_bipush (e_dx DX11_count_1 4 rfl) ⟨by decide, by decide⟩,
  f_icmp_lt (e_dx DX11_count_1 5 rfl) rfl,
  f_iload_n (n := 1) (e_dx DX11_count_1 6 rfl) rfl,
  f_bipush (e_dx DX11_count_1 7 rfl) ⟨by decide, by decide⟩,
  f_icmp_lt (e_dx DX11_count_1 8 rfl) rfl,
  f_iconst (e_dx DX11_count_1 9 rfl) ⟨by decide, by decide⟩,
  ⟨(e_dx DX11_count_1 10 rfl), rfl⟩,
  f_aload_n (n := 0) (e_dx DX11_count_1 11 rfl) rfl,
  f_aload_n (n := 0) (e_dx DX11_count_1 12 rfl) rfl,
  f_getA (e_dx DX11_count_1 13 rfl) fX11_62 rfl (by decide) (Nat.le_of_ble_eq_true rfl) rfl (by decide),
  f_aload_n (n := 0) (e_dx DX11_count_1 14 rfl) rfl,
  f_getf (e_dx DX11_count_1 15 rfl) fX11_20 rfl (by decide) (by decide) (by decide),
  f_aload_n (n := 0) (e_dx DX11_count_1 16 rfl) rfl,
  f_getf (e_dx DX11_count_1 17 rfl) fX11_23 rfl (by decide) (by decide) (by decide),
  x_callV (e_dx DX11_count_1 18 rfl) mwX11_viewOf vwX11_viewOf cX11_115 rfl,
  f_iload_n (n := 1) (e_dx DX11_count_1 19 rfl) rfl,
  f_bipush (e_dx DX11_count_1 20 rfl) ⟨by decide, by decide⟩,
  f_isub (e_dx DX11_count_1 21 rfl),
  x_callV (e_dx DX11_count_1 22 rfl) mwX10_howMany vwX10_howMany cX11_200 rfl,
  ⟨(e_dx DX11_count_1 23 rfl), rfl⟩, trivial⟩
def lX11_count (c_X11_viewOf : Nat → Int → Int → e_M → (Nat → e_M → Prop) → Prop) (c_X10_howMany : Nat → Int → e_M → (Int → Prop) → Prop) : List (Nat × f_Wt) := [(0, f_wm [(10, 11, 15), (3, 10, 15), (1, 0, 0), (1, 0, 0)] (fun ar M R => c_X11_viewOf (f_va (f_nth ar 1)) (f_vi (f_nth ar 2)) (f_vi (f_nth ar 3)) M (fun r M => R (some (.inr (.inr (.inl (10, 15, r))))) M))), (1, f_wm [(3, 10, 15), (1, 0, 0)] (fun ar M R => c_X10_howMany (f_va (f_nth ar 0)) (f_vi (f_nth ar 1)) M (fun r => R (some (.inl r)) M)))]
set_option maxRecDepth 20000 in
theorem BX11_count {sh : Nat → Nat × Nat} {t : Nat} {rm : Nat × Nat × Nat} {cs : Nat × Nat} {R : f_Rt} {c_X11_viewOf : Nat → Int → Int → e_M → (Nat → e_M → Prop) → Prop} {c_X10_howMany : Nat → Int → e_M → (Int → Prop) → Prop} {x1 : Int} {M : e_M} (C : f_Hy sh t yX11_count rm cs 11 (lX11_count c_X11_viewOf c_X10_howMany) R) (h : VX11_count c_X11_viewOf c_X10_howMany (fun r M => R (some (.inl r)) M) x1 M) : f_E sh t YX11_count rm cs (f_Q sh t R) 0 [.inr (.inr (.inl (11, 15, 0))), .inl x1] [] M :=
  f_go (KC := f_kc []) C qX11_countf f_kc_nil 66 0 h
def WX11_count (x1 : Int) (M : e_M) (Q : Int → e_M → Prop) : Prop :=
  VX11_count WX11_viewOf WX10_howMany Q x1 M
theorem PX11_count {sh : Nat → Nat × Nat} {t : Nat} {rm : Nat × Nat × Nat} {cs : Nat × Nat} {R : f_Rt} {x1 : Int} {M : e_M} (C : f_Hy sh t yX11_count rm cs 11 (lX11_count WX11_viewOf WX10_howMany) R) (h : WX11_count x1 M (fun r M => R (some (.inl r)) M)) : f_E sh t YX11_count rm cs (f_Q sh t R) 0 [.inr (.inr (.inl (11, 15, 0))), .inl x1] [] M :=
  BX11_count C h
def wX11_count : f_Wt := f_wm [(10, 11, 15), (1, 0, 0)] (fun ar M R => WX11_count (f_vi (f_nth ar 1)) M (fun r M => R (some (.inl r)) M))
theorem TX11_count {sh : Nat → Nat × Nat} {t : Nat} : f_Mt sh t YX11_count 11 (wX11_count) :=
  f_Mt_of (k := 0) (Nat.le_of_ble_eq_true rfl) rfl rfl (fun ar M R rm cs h1 h2 h3 hX h => PX11_count ⟨Nat.le_of_ble_eq_true rfl, h1, h2, h3, ⟨(f_Mt.up (Nat.le_of_ble_eq_true rfl) TX11_viewOf), (f_Mt.up (Nat.le_of_ble_eq_true rfl) TX10_howMany), trivial⟩, hX⟩ h)
def VX11_lots_60 (c_X11_viewOf : Nat → Int → Int → e_M → (Nat → e_M → Prop) → Prop) (c_X10_lotsAt : Nat → Int → Int → Int → e_M → (Int → Prop) → Prop) (Q : Int → e_M → Prop) (xs3 : Int) (xs2 : Int) (xs1 : Int) (as0 : Nat) (M : e_M) : Prop :=
  (c_X10_lotsAt as0 xs1 xs2 xs3 M (fun r1 => (Q r1 M)))
def VX11_lots (c_X11_viewOf : Nat → Int → Int → e_M → (Nat → e_M → Prop) → Prop) (c_X10_lotsAt : Nat → Int → Int → Int → e_M → (Int → Prop) → Prop) (k60 : Int → Int → Int → Nat → e_M → Prop) (Q : Int → e_M → Prop) (x1 : Int) (x2 : Int) (x3 : Int) (M : e_M) : Prop :=
  ((x1 < 0 → (Q 0 M)) ∧ (0 ≤ x1 → ((1000 < x1 → (Q 0 M)) ∧ (x1 ≤ 1000 → ((x2 < 0 → (Q 0 M)) ∧ (0 ≤ x2 → ((1000 < x2 → (Q 0 M)) ∧ (x2 ≤ 1000 → ((x3 < 0 → (Q 0 M)) ∧ (0 ≤ x3 → ((x3 ≤ 1 → (c_X11_viewOf 25 (M 0 3) (M 0 4) M (fun r1 M2 => ((¬ x3 = 0 → (k60 1 x2 x1 r1 M2)) ∧ (x3 = 0 → (k60 2 x2 x1 r1 M2)))))) ∧ (1 < x3 → (Q 0 M)))))))))))))
def yX11_lots (i : Nat) : e_Y := x_get YX11_lots [YX11_viewOf, YX10_lotsAt] i
def pX11_lotsf : List x_I := [(0, 2, 1, 1, 0, 0, []), (1, 17, 31, 2, 16, 0, []), (4, 2, 1, 1, 0, 0, []), (5, 0, 3, 0, 0, 1000, []), (8, 18, 31, 4, 16, 0, []), (11, 2, 1, 2, 0, 0, []), (12, 17, 31, 2, 16, 0, []), (15, 2, 1, 2, 0, 0, []), (16, 0, 3, 0, 0, 1000, []), (19, 18, 31, 4, 16, 0, []), (22, 2, 1, 3, 0, 0, []), (23, 17, 31, 2, 16, 0, []), (26, 2, 1, 3, 0, 0, []), (27, 0, 1, 0, 0, 1, []), (28, 18, 33, 5, 18, 0, []), (31, 0, 1, 0, 0, 0, []), (32, 41, 0, 0, 0, 0, []), (33, 4, 1, 0, 0, 0, []), (34, 4, 1, 0, 0, 0, []), (35, 25, 11, 11, 4, 0, [(0, 10, 15), (0, 1, 25)]), (38, 4, 1, 0, 0, 0, []), (39, 25, 11, 3, 0, 0, []), (42, 4, 1, 0, 0, 0, []), (43, 25, 11, 4, 0, 0, []), (46, 40, 0, 4, 13, 0, []), (49, 2, 1, 1, 0, 0, []), (50, 2, 1, 2, 0, 0, []), (51, 2, 1, 3, 0, 0, []), (52, 17, 59, 1, 32, 0, []), (55, 0, 1, 0, 0, 2, []), (56, 19, 60, 0, 33, 0, []), (59, 0, 1, 0, 0, 1, []), (60, 49, 0, 0, 0, 0, []), (60, 40, 1, 4, 12, 0, []), (63, 41, 0, 0, 0, 0, [])]
set_option maxRecDepth 20000 in
theorem qX11_lotsf : f_all yX11_lots YX11_lots pX11_lotsf :=
  ⟨f_iload_n (n := 1) (e_dx DX11_lots_0 0 rfl) rfl,
  f_if_lt (e_dx DX11_lots_0 1 rfl) rfl,
  f_iload_n (n := 1) (e_dx DX11_lots_0 2 rfl) rfl,
  f_sipush (e_dx DX11_lots_0 3 rfl) ⟨by decide, by decide⟩,
  f_icmp_gt (e_dx DX11_lots_0 4 rfl) rfl,
  f_iload_n (n := 2) (e_dx DX11_lots_0 5 rfl) rfl,
  f_if_lt (e_dx DX11_lots_0 6 rfl) rfl,
  f_iload_n (n := 2) (e_dx DX11_lots_0 7 rfl) rfl,
  f_sipush (e_dx DX11_lots_0 8 rfl) ⟨by decide, by decide⟩,
  f_icmp_gt (e_dx DX11_lots_0 9 rfl) rfl,
  f_iload_n (n := 3) (e_dx DX11_lots_0 10 rfl) rfl,
  f_if_lt (e_dx DX11_lots_0 11 rfl) rfl,
  f_iload_n (n := 3) (e_dx DX11_lots_0 12 rfl) rfl,
  f_iconst (e_dx DX11_lots_0 13 rfl) ⟨by decide, by decide⟩,
  f_icmp_le (e_dx DX11_lots_0 14 rfl) rfl,
  f_iconst (e_dx DX11_lots_0 15 rfl) ⟨by decide, by decide⟩,
  ⟨(e_dx DX11_lots_0 16 rfl), rfl⟩,
  f_aload_n (n := 0) (e_dx DX11_lots_0 17 rfl) rfl,
  f_aload_n (n := 0) (e_dx DX11_lots_0 18 rfl) rfl,
  f_getA (e_dx DX11_lots_0 19 rfl) fX11_62 rfl (by decide) (Nat.le_of_ble_eq_true rfl) rfl (by decide),
  f_aload_n (n := 0) (e_dx DX11_lots_0 20 rfl) rfl,
  f_getf (e_dx DX11_lots_0 21 rfl) fX11_20 rfl (by decide) (by decide) (by decide),
  f_aload_n (n := 0) (e_dx DX11_lots_0 22 rfl) rfl,
  f_getf (e_dx DX11_lots_0 23 rfl) fX11_23 rfl (by decide) (by decide) (by decide),
  x_callV (e_dx DX11_lots_0 24 rfl) mwX11_viewOf vwX11_viewOf cX11_115 rfl,
  f_iload_n (n := 1) (e_dx DX11_lots_0 25 rfl) rfl,
  f_iload_n (n := 2) (e_dx DX11_lots_0 26 rfl) rfl,
  f_iload_n (n := 3) (e_dx DX11_lots_0 27 rfl) rfl,
  f_if_ne (e_dx DX11_lots_0 28 rfl) rfl,
  f_iconst (e_dx DX11_lots_0 29 rfl) ⟨by decide, by decide⟩,
  f_g19 (e_dx DX11_lots_0 30 rfl) rfl,
  f_iconst (e_dx DX11_lots_0 31 rfl) ⟨by decide, by decide⟩,
  trivial,
  x_callV (e_dx DX11_lots_0 32 rfl) mwX10_lotsAt vwX10_lotsAt cX11_248 rfl,
  ⟨(e_dx DX11_lots_0 33 rfl), rfl⟩, trivial⟩
def lX11_lots (c_X11_viewOf : Nat → Int → Int → e_M → (Nat → e_M → Prop) → Prop) (c_X10_lotsAt : Nat → Int → Int → Int → e_M → (Int → Prop) → Prop) : List (Nat × f_Wt) := [(0, f_wm [(10, 11, 15), (3, 10, 15), (1, 0, 0), (1, 0, 0)] (fun ar M R => c_X11_viewOf (f_va (f_nth ar 1)) (f_vi (f_nth ar 2)) (f_vi (f_nth ar 3)) M (fun r M => R (some (.inr (.inr (.inl (10, 15, r))))) M))), (1, f_wm [(3, 10, 15), (1, 0, 0), (1, 0, 0), (1, 0, 0)] (fun ar M R => c_X10_lotsAt (f_va (f_nth ar 0)) (f_vi (f_nth ar 1)) (f_vi (f_nth ar 2)) (f_vi (f_nth ar 3)) M (fun r => R (some (.inl r)) M)))]
set_option maxRecDepth 20000 in
theorem BX11_lots_60 {sh : Nat → Nat × Nat} {t : Nat} {rm : Nat × Nat × Nat} {cs : Nat × Nat} {R : f_Rt} {c_X11_viewOf : Nat → Int → Int → e_M → (Nat → e_M → Prop) → Prop} {c_X10_lotsAt : Nat → Int → Int → Int → e_M → (Int → Prop) → Prop} {xs3 : Int} {xs2 : Int} {xs1 : Int} {as0 : Nat} {M : e_M} (C : f_Hy sh t yX11_lots rm cs 11 (lX11_lots c_X11_viewOf c_X10_lotsAt) R) (h : VX11_lots_60 c_X11_viewOf c_X10_lotsAt (fun r M => R (some (.inl r)) M) xs3 xs2 xs1 as0 M) : f_E sh t YX11_lots rm cs (f_Q sh t R) 60 [.inr (.inr (.inr ())), .inr (.inr (.inr ())), .inr (.inr (.inr ())), .inr (.inr (.inr ()))] [.inl xs3, .inl xs2, .inl xs1, .inr (.inr (.inl (10, 15, as0)))] M :=
  f_go (KC := f_kc []) C qX11_lotsf f_kc_nil 37 33 h
set_option maxRecDepth 20000 in
theorem BX11_lots {sh : Nat → Nat × Nat} {t : Nat} {rm : Nat × Nat × Nat} {cs : Nat × Nat} {R : f_Rt} {c_X11_viewOf : Nat → Int → Int → e_M → (Nat → e_M → Prop) → Prop} {c_X10_lotsAt : Nat → Int → Int → Int → e_M → (Int → Prop) → Prop} {k60 : Int → Int → Int → Nat → e_M → Prop} {x1 : Int} {x2 : Int} {x3 : Int} {M : e_M} (C : f_Hy sh t yX11_lots rm cs 11 (lX11_lots c_X11_viewOf c_X10_lotsAt) R) (h60 : ∀ (xs3 : Int) (xs2 : Int) (xs1 : Int) (as0 : Nat) (M : e_M), k60 xs3 xs2 xs1 as0 M → f_E sh t YX11_lots rm cs (f_Q sh t R) 60 [.inr (.inr (.inr ())), .inr (.inr (.inr ())), .inr (.inr (.inr ())), .inr (.inr (.inr ()))] [.inl xs3, .inl xs2, .inl xs1, .inr (.inr (.inl (10, 15, as0)))] M) (h : VX11_lots c_X11_viewOf c_X10_lotsAt k60 (fun r M => R (some (.inl r)) M) x1 x2 x3 M) : f_E sh t YX11_lots rm cs (f_Q sh t R) 0 [.inr (.inr (.inl (11, 15, 0))), .inl x1, .inl x2, .inl x3] [] M :=
  f_go (KC := f_kc [(60, f_pl [(0, 0, 0), (0, 0, 0), (0, 0, 0), (0, 0, 0)] [(1, 0, 0), (1, 0, 0), (1, 0, 0), (3, 10, 15)] (fun ls st M => k60 (f_vi (f_nth st 0)) (f_vi (f_nth st 1)) (f_vi (f_nth st 2)) (f_va (f_nth st 3)) M))]) C qX11_lotsf (f_kc_cons (f_pl_ok rfl (fun ls st M h => h60 _ _ _ _ M h)) f_kc_nil) 37 0 h
def WX11_lots_60 (Q : Int → e_M → Prop) (xs3 : Int) (xs2 : Int) (xs1 : Int) (as0 : Nat) (M : e_M) : Prop :=
  VX11_lots_60 WX11_viewOf WX10_lotsAt Q xs3 xs2 xs1 as0 M
def WX11_lots (x1 : Int) (x2 : Int) (x3 : Int) (M : e_M) (Q : Int → e_M → Prop) : Prop :=
  VX11_lots WX11_viewOf WX10_lotsAt (WX11_lots_60 Q) Q x1 x2 x3 M
theorem PX11_lots_60 {sh : Nat → Nat × Nat} {t : Nat} {rm : Nat × Nat × Nat} {cs : Nat × Nat} {R : f_Rt} {xs3 : Int} {xs2 : Int} {xs1 : Int} {as0 : Nat} {M : e_M} (C : f_Hy sh t yX11_lots rm cs 11 (lX11_lots WX11_viewOf WX10_lotsAt) R) (h : WX11_lots_60 (fun r M => R (some (.inl r)) M) xs3 xs2 xs1 as0 M) : f_E sh t YX11_lots rm cs (f_Q sh t R) 60 [.inr (.inr (.inr ())), .inr (.inr (.inr ())), .inr (.inr (.inr ())), .inr (.inr (.inr ()))] [.inl xs3, .inl xs2, .inl xs1, .inr (.inr (.inl (10, 15, as0)))] M :=
  BX11_lots_60 C h
theorem PX11_lots {sh : Nat → Nat × Nat} {t : Nat} {rm : Nat × Nat × Nat} {cs : Nat × Nat} {R : f_Rt} {x1 : Int} {x2 : Int} {x3 : Int} {M : e_M} (C : f_Hy sh t yX11_lots rm cs 11 (lX11_lots WX11_viewOf WX10_lotsAt) R) (h : WX11_lots x1 x2 x3 M (fun r M => R (some (.inl r)) M)) : f_E sh t YX11_lots rm cs (f_Q sh t R) 0 [.inr (.inr (.inl (11, 15, 0))), .inl x1, .inl x2, .inl x3] [] M :=
  BX11_lots C (fun xs3 xs2 xs1 as0 M h => PX11_lots_60 C h) h
def wX11_lots : f_Wt := f_wm [(10, 11, 15), (1, 0, 0), (1, 0, 0), (1, 0, 0)] (fun ar M R => WX11_lots (f_vi (f_nth ar 1)) (f_vi (f_nth ar 2)) (f_vi (f_nth ar 3)) M (fun r M => R (some (.inl r)) M))
theorem TX11_lots {sh : Nat → Nat × Nat} {t : Nat} : f_Mt sh t YX11_lots 11 (wX11_lots) :=
  f_Mt_of (k := 0) (Nat.le_of_ble_eq_true rfl) rfl rfl (fun ar M R rm cs h1 h2 h3 hX h => PX11_lots ⟨Nat.le_of_ble_eq_true rfl, h1, h2, h3, ⟨(f_Mt.up (Nat.le_of_ble_eq_true rfl) TX11_viewOf), (f_Mt.up (Nat.le_of_ble_eq_true rfl) TX10_lotsAt), trivial⟩, hX⟩ h)
def VX11_sum_22 (c_X11_viewOf : Nat → Int → Int → e_M → (Nat → e_M → Prop) → Prop) (c_X10_isThere : Nat → Int → Int → e_M → (Int → Prop) → Prop) (c_X10_mixIn : Nat → Int → Int → Int → e_M → (Int → Prop) → Prop) (k32 : Nat → Int → Int → Int → e_M → Prop) (Q : Int → e_M → Prop) (a1 : Nat) (x2 : Int) (x4 : Int) (M : e_M) : Prop :=
  ((7 ≤ x4 → (Q x2 M)) ∧ (x4 < 7 → (k32 a1 x2 x4 0 M)))
def VX11_sum_32 (c_X11_viewOf : Nat → Int → Int → e_M → (Nat → e_M → Prop) → Prop) (c_X10_isThere : Nat → Int → Int → e_M → (Int → Prop) → Prop) (c_X10_mixIn : Nat → Int → Int → Int → e_M → (Int → Prop) → Prop) (k22 : Nat → Int → Int → e_M → Prop) (k65 : Nat → Int → Int → Int → e_M → Prop) (Q : Int → e_M → Prop) (a1 : Nat) (x2 : Int) (x4 : Int) (x5 : Int) (M : e_M) : Prop :=
  ((0 ≤ x4 ∧ x4 < 8) ∧ (((M (a1 + 24) (x4.toNat)) ≤ x5 → (k22 a1 x2 (e_w32 (x4 + 1)) M)) ∧ (x5 < (M (a1 + 24) (x4.toNat)) → (c_X10_isThere a1 x4 x5 M (fun r1 => ((r1 = 0 → (k65 a1 x2 x4 x5 M)) ∧ (¬ r1 = 0 → (c_X10_mixIn a1 x2 x4 x5 M (fun r2 => (k65 a1 r2 x4 x5 M))))))))))
def VX11_sum_65 (c_X11_viewOf : Nat → Int → Int → e_M → (Nat → e_M → Prop) → Prop) (c_X10_isThere : Nat → Int → Int → e_M → (Int → Prop) → Prop) (c_X10_mixIn : Nat → Int → Int → Int → e_M → (Int → Prop) → Prop) (k32 : Nat → Int → Int → Int → e_M → Prop) (Q : Int → e_M → Prop) (a1 : Nat) (x2 : Int) (x4 : Int) (x5 : Int) (M : e_M) : Prop :=
  (k32 a1 x2 x4 (e_w32 (x5 + 1)) M)
def VX11_sum (c_X11_viewOf : Nat → Int → Int → e_M → (Nat → e_M → Prop) → Prop) (c_X10_isThere : Nat → Int → Int → e_M → (Int → Prop) → Prop) (c_X10_mixIn : Nat → Int → Int → Int → e_M → (Int → Prop) → Prop) (k22 : Nat → Int → Int → e_M → Prop) (Q : Int → e_M → Prop) (M : e_M) : Prop :=
  (c_X11_viewOf 25 (M 0 3) (M 0 4) M (fun r1 M2 => (k22 r1 0 0 M2)))
def yX11_sum (i : Nat) : e_Y := x_get YX11_sum [YX11_viewOf, YX10_isThere, YX10_mixIn] i
def pX11_sumf : List x_I := [(0, 4, 1, 0, 0, 0, []), (1, 4, 1, 0, 0, 0, []), (2, 25, 11, 11, 4, 0, [(0, 10, 15), (0, 1, 25)]), (5, 4, 1, 0, 0, 0, []), (6, 25, 11, 3, 0, 0, []), (9, 4, 1, 0, 0, 0, []), (10, 25, 11, 4, 0, 0, []), (13, 40, 0, 4, 13, 0, []), (16, 7, 1, 1, 0, 0, []), (17, 1, 1, 0, 0, 0, []), (18, 6, 1, 2, 0, 0, []), (19, 0, 1, 0, 0, 0, []), (20, 5, 2, 4, 0, 0, []), (22, 49, 0, 0, 0, 0, []), (22, 2, 2, 4, 0, 0, []), (24, 0, 2, 0, 0, 7, []), (26, 18, 77, 3, 43, 0, []), (29, 0, 1, 0, 0, 0, []), (30, 5, 2, 5, 0, 0, []), (32, 49, 0, 0, 0, 0, []), (32, 2, 2, 5, 0, 0, []), (34, 4, 1, 1, 0, 0, []), (35, 25, 10, 4, 4, 0, [(0, 20, 8), (0, 1, 24)]), (38, 2, 2, 4, 0, 0, []), (40, 27, 0, 0, 0, 0, []), (41, 18, 71, 3, 41, 0, []), (44, 4, 1, 1, 0, 0, []), (45, 2, 2, 4, 0, 0, []), (47, 2, 2, 5, 0, 0, []), (49, 40, 1, 3, 12, 0, []), (52, 17, 65, 0, 38, 0, []), (55, 4, 1, 1, 0, 0, []), (56, 3, 1, 2, 0, 0, []), (57, 2, 2, 4, 0, 0, []), (59, 2, 2, 5, 0, 0, []), (61, 40, 2, 4, 12, 0, []), (64, 6, 1, 2, 0, 0, []), (65, 49, 0, 0, 0, 0, []), (65, 8, 0, 5, 0, 1, []), (68, 19, 32, 0, 20, 0, []), (71, 8, 0, 4, 0, 1, []), (74, 19, 22, 0, 14, 0, []), (77, 3, 1, 2, 0, 0, []), (78, 43, 0, 0, 0, 0, [])]
set_option maxRecDepth 20000 in
theorem qX11_sumf : f_all yX11_sum YX11_sum pX11_sumf :=
  ⟨f_aload_n (n := 0) (e_dx DX11_sum_0 0 rfl) rfl,
  f_aload_n (n := 0) (e_dx DX11_sum_0 1 rfl) rfl,
  f_getA (e_dx DX11_sum_0 2 rfl) fX11_62 rfl (by decide) (Nat.le_of_ble_eq_true rfl) rfl (by decide),
  f_aload_n (n := 0) (e_dx DX11_sum_0 3 rfl) rfl,
  f_getf (e_dx DX11_sum_0 4 rfl) fX11_20 rfl (by decide) (by decide) (by decide),
  f_aload_n (n := 0) (e_dx DX11_sum_0 5 rfl) rfl,
  f_getf (e_dx DX11_sum_0 6 rfl) fX11_23 rfl (by decide) (by decide) (by decide),
  x_callV (e_dx DX11_sum_0 7 rfl) mwX11_viewOf vwX11_viewOf cX11_115 rfl,
  f_astore_n (n := 1) (e_dx DX11_sum_0 8 rfl) rfl (by decide),
  f_lconst (n := 0) (e_dx DX11_sum_0 9 rfl) rfl,
  f_lstore_n (n := 2) (e_dx DX11_sum_0 10 rfl) rfl (by decide),
  f_iconst (e_dx DX11_sum_0 11 rfl) ⟨by decide, by decide⟩,
  f_istore (e_dx DX11_sum_0 12 rfl) (by decide),
  trivial,
  f_iload (e_dx DX11_sum_0 13 rfl),
  f_bipush (e_dx DX11_sum_0 14 rfl) ⟨by decide, by decide⟩,
  f_icmp_ge (e_dx DX11_sum_0 15 rfl) rfl,
  f_iconst (e_dx DX11_sum_0 16 rfl) ⟨by decide, by decide⟩,
  f_istore (e_dx DX11_sum_0 17 rfl) (by decide),
  trivial,
  f_iload (e_dx DX11_sum_0 18 rfl),
  f_aload_n (n := 1) (e_dx DX11_sum_0 19 rfl) rfl,
  f_getA (e_dx DX11_sum_0 20 rfl) fX11_197 rfl (by decide) (Nat.le_of_ble_eq_true rfl) rfl (by decide),
  f_iload (e_dx DX11_sum_0 21 rfl),
  f_iaload (e_dx DX11_sum_0 22 rfl),
  f_icmp_ge (e_dx DX11_sum_0 23 rfl) rfl,
  f_aload_n (n := 1) (e_dx DX11_sum_0 24 rfl) rfl,
  f_iload (e_dx DX11_sum_0 25 rfl),
  f_iload (e_dx DX11_sum_0 26 rfl),
  x_callV (e_dx DX11_sum_0 27 rfl) mwX10_isThere vwX10_isThere cX11_251 rfl,
  f_if_eq (e_dx DX11_sum_0 28 rfl) rfl,
  f_aload_n (n := 1) (e_dx DX11_sum_0 29 rfl) rfl,
  f_lload_n (n := 2) (e_dx DX11_sum_0 30 rfl) rfl,
  f_iload (e_dx DX11_sum_0 31 rfl),
  f_iload (e_dx DX11_sum_0 32 rfl),
  x_callV (e_dx DX11_sum_0 33 rfl) mwX10_mixIn vwX10_mixIn cX11_255 rfl,
  f_lstore_n (n := 2) (e_dx DX11_sum_0 34 rfl) rfl (by decide),
  trivial,
  f_g8 (e_dx DX11_sum_0 35 rfl) ⟨by decide, by decide⟩,
  f_g19 (e_dx DX11_sum_0 36 rfl) rfl,
  f_g8 (e_dx DX11_sum_0 37 rfl) ⟨by decide, by decide⟩,
  f_g19 (e_dx DX11_sum_0 38 rfl) rfl,
  f_lload_n (n := 2) (e_dx DX11_sum_0 39 rfl) rfl,
  ⟨(e_dx DX11_sum_1 0 rfl), rfl⟩, trivial⟩
def lX11_sum (c_X11_viewOf : Nat → Int → Int → e_M → (Nat → e_M → Prop) → Prop) (c_X10_isThere : Nat → Int → Int → e_M → (Int → Prop) → Prop) (c_X10_mixIn : Nat → Int → Int → Int → e_M → (Int → Prop) → Prop) : List (Nat × f_Wt) := [(0, f_wm [(10, 11, 15), (3, 10, 15), (1, 0, 0), (1, 0, 0)] (fun ar M R => c_X11_viewOf (f_va (f_nth ar 1)) (f_vi (f_nth ar 2)) (f_vi (f_nth ar 3)) M (fun r M => R (some (.inr (.inr (.inl (10, 15, r))))) M))), (1, f_wm [(3, 10, 15), (1, 0, 0), (1, 0, 0)] (fun ar M R => c_X10_isThere (f_va (f_nth ar 0)) (f_vi (f_nth ar 1)) (f_vi (f_nth ar 2)) M (fun r => R (some (.inl r)) M))), (2, f_wm [(3, 10, 15), (2, 0, 0), (1, 0, 0), (1, 0, 0)] (fun ar M R => c_X10_mixIn (f_va (f_nth ar 0)) (f_vi (f_nth ar 1)) (f_vi (f_nth ar 2)) (f_vi (f_nth ar 3)) M (fun r => R (some (.inr (.inl r))) M)))]
set_option maxRecDepth 20000 in
theorem BX11_sum_22 {sh : Nat → Nat × Nat} {t : Nat} {rm : Nat × Nat × Nat} {cs : Nat × Nat} {R : f_Rt} {c_X11_viewOf : Nat → Int → Int → e_M → (Nat → e_M → Prop) → Prop} {c_X10_isThere : Nat → Int → Int → e_M → (Int → Prop) → Prop} {c_X10_mixIn : Nat → Int → Int → Int → e_M → (Int → Prop) → Prop} {k32 : Nat → Int → Int → Int → e_M → Prop} {a1 : Nat} {x2 : Int} {x4 : Int} {M : e_M} (C : f_Hy sh t yX11_sum rm cs 11 (lX11_sum c_X11_viewOf c_X10_isThere c_X10_mixIn) R) (h32 : ∀ (a1 : Nat) (x2 : Int) (x4 : Int) (x5 : Int) (M : e_M), k32 a1 x2 x4 x5 M → f_E sh t YX11_sum rm cs (f_Q sh t R) 32 [.inr (.inr (.inr ())), .inr (.inr (.inl (10, 15, a1))), .inr (.inl x2), .inr (.inr (.inr ())), .inl x4, .inl x5] [] M) (h : VX11_sum_22 c_X11_viewOf c_X10_isThere c_X10_mixIn k32 (fun r M => R (some (.inr (.inl r))) M) a1 x2 x4 M) : f_E sh t YX11_sum rm cs (f_Q sh t R) 22 [.inr (.inr (.inr ())), .inr (.inr (.inl (10, 15, a1))), .inr (.inl x2), .inr (.inr (.inr ())), .inl x4, .inr (.inr (.inr ()))] [] M :=
  f_go (KC := f_kc [(32, f_pl [(0, 0, 0), (3, 10, 15), (2, 0, 0), (0, 0, 0), (1, 0, 0), (1, 0, 0)] [] (fun ls st M => k32 (f_va (f_nth ls 1)) (f_vi (f_nth ls 2)) (f_vi (f_nth ls 4)) (f_vi (f_nth ls 5)) M))]) C qX11_sumf (f_kc_cons (f_pl_ok rfl (fun ls st M h => h32 _ _ _ _ M h)) f_kc_nil) 46 14 h
set_option maxRecDepth 20000 in
theorem BX11_sum_32 {sh : Nat → Nat × Nat} {t : Nat} {rm : Nat × Nat × Nat} {cs : Nat × Nat} {R : f_Rt} {c_X11_viewOf : Nat → Int → Int → e_M → (Nat → e_M → Prop) → Prop} {c_X10_isThere : Nat → Int → Int → e_M → (Int → Prop) → Prop} {c_X10_mixIn : Nat → Int → Int → Int → e_M → (Int → Prop) → Prop} {k22 : Nat → Int → Int → e_M → Prop} {k65 : Nat → Int → Int → Int → e_M → Prop} {a1 : Nat} {x2 : Int} {x4 : Int} {x5 : Int} {M : e_M} (C : f_Hy sh t yX11_sum rm cs 11 (lX11_sum c_X11_viewOf c_X10_isThere c_X10_mixIn) R) (h22 : ∀ (a1 : Nat) (x2 : Int) (x4 : Int) (M : e_M), k22 a1 x2 x4 M → f_E sh t YX11_sum rm cs (f_Q sh t R) 22 [.inr (.inr (.inr ())), .inr (.inr (.inl (10, 15, a1))), .inr (.inl x2), .inr (.inr (.inr ())), .inl x4, .inr (.inr (.inr ()))] [] M) (h65 : ∀ (a1 : Nat) (x2 : Int) (x4 : Int) (x5 : Int) (M : e_M), k65 a1 x2 x4 x5 M → f_E sh t YX11_sum rm cs (f_Q sh t R) 65 [.inr (.inr (.inr ())), .inr (.inr (.inl (10, 15, a1))), .inr (.inl x2), .inr (.inr (.inr ())), .inl x4, .inl x5] [] M) (h : VX11_sum_32 c_X11_viewOf c_X10_isThere c_X10_mixIn k22 k65 (fun r M => R (some (.inr (.inl r))) M) a1 x2 x4 x5 M) : f_E sh t YX11_sum rm cs (f_Q sh t R) 32 [.inr (.inr (.inr ())), .inr (.inr (.inl (10, 15, a1))), .inr (.inl x2), .inr (.inr (.inr ())), .inl x4, .inl x5] [] M :=
  f_go (KC := f_kc [(22, f_pl [(0, 0, 0), (3, 10, 15), (2, 0, 0), (0, 0, 0), (1, 0, 0), (0, 0, 0)] [] (fun ls st M => k22 (f_va (f_nth ls 1)) (f_vi (f_nth ls 2)) (f_vi (f_nth ls 4)) M)), (65, f_pl [(0, 0, 0), (3, 10, 15), (2, 0, 0), (0, 0, 0), (1, 0, 0), (1, 0, 0)] [] (fun ls st M => k65 (f_va (f_nth ls 1)) (f_vi (f_nth ls 2)) (f_vi (f_nth ls 4)) (f_vi (f_nth ls 5)) M))]) C qX11_sumf (f_kc_cons (f_pl_ok rfl (fun ls st M h => h22 _ _ _ M h)) (f_kc_cons (f_pl_ok rfl (fun ls st M h => h65 _ _ _ _ M h)) f_kc_nil)) 46 20 h
set_option maxRecDepth 20000 in
theorem BX11_sum_65 {sh : Nat → Nat × Nat} {t : Nat} {rm : Nat × Nat × Nat} {cs : Nat × Nat} {R : f_Rt} {c_X11_viewOf : Nat → Int → Int → e_M → (Nat → e_M → Prop) → Prop} {c_X10_isThere : Nat → Int → Int → e_M → (Int → Prop) → Prop} {c_X10_mixIn : Nat → Int → Int → Int → e_M → (Int → Prop) → Prop} {k32 : Nat → Int → Int → Int → e_M → Prop} {a1 : Nat} {x2 : Int} {x4 : Int} {x5 : Int} {M : e_M} (C : f_Hy sh t yX11_sum rm cs 11 (lX11_sum c_X11_viewOf c_X10_isThere c_X10_mixIn) R) (h32 : ∀ (a1 : Nat) (x2 : Int) (x4 : Int) (x5 : Int) (M : e_M), k32 a1 x2 x4 x5 M → f_E sh t YX11_sum rm cs (f_Q sh t R) 32 [.inr (.inr (.inr ())), .inr (.inr (.inl (10, 15, a1))), .inr (.inl x2), .inr (.inr (.inr ())), .inl x4, .inl x5] [] M) (h : VX11_sum_65 c_X11_viewOf c_X10_isThere c_X10_mixIn k32 (fun r M => R (some (.inr (.inl r))) M) a1 x2 x4 x5 M) : f_E sh t YX11_sum rm cs (f_Q sh t R) 65 [.inr (.inr (.inr ())), .inr (.inr (.inl (10, 15, a1))), .inr (.inl x2), .inr (.inr (.inr ())), .inl x4, .inl x5] [] M :=
  f_go (KC := f_kc [(32, f_pl [(0, 0, 0), (3, 10, 15), (2, 0, 0), (0, 0, 0), (1, 0, 0), (1, 0, 0)] [] (fun ls st M => k32 (f_va (f_nth ls 1)) (f_vi (f_nth ls 2)) (f_vi (f_nth ls 4)) (f_vi (f_nth ls 5)) M))]) C qX11_sumf (f_kc_cons (f_pl_ok rfl (fun ls st M h => h32 _ _ _ _ M h)) f_kc_nil) 46 38 h
set_option maxRecDepth 20000 in
theorem BX11_sum {sh : Nat → Nat × Nat} {t : Nat} {rm : Nat × Nat × Nat} {cs : Nat × Nat} {R : f_Rt} {c_X11_viewOf : Nat → Int → Int → e_M → (Nat → e_M → Prop) → Prop} {c_X10_isThere : Nat → Int → Int → e_M → (Int → Prop) → Prop} {c_X10_mixIn : Nat → Int → Int → Int → e_M → (Int → Prop) → Prop} {k22 : Nat → Int → Int → e_M → Prop} {M : e_M} (C : f_Hy sh t yX11_sum rm cs 11 (lX11_sum c_X11_viewOf c_X10_isThere c_X10_mixIn) R) (h22 : ∀ (a1 : Nat) (x2 : Int) (x4 : Int) (M : e_M), k22 a1 x2 x4 M → f_E sh t YX11_sum rm cs (f_Q sh t R) 22 [.inr (.inr (.inr ())), .inr (.inr (.inl (10, 15, a1))), .inr (.inl x2), .inr (.inr (.inr ())), .inl x4, .inr (.inr (.inr ()))] [] M) (h : VX11_sum c_X11_viewOf c_X10_isThere c_X10_mixIn k22 (fun r M => R (some (.inr (.inl r))) M) M) : f_E sh t YX11_sum rm cs (f_Q sh t R) 0 [.inr (.inr (.inl (11, 15, 0))), .inr (.inr (.inr ())), .inr (.inr (.inr ())), .inr (.inr (.inr ())), .inr (.inr (.inr ())), .inr (.inr (.inr ()))] [] M :=
  f_go (KC := f_kc [(22, f_pl [(0, 0, 0), (3, 10, 15), (2, 0, 0), (0, 0, 0), (1, 0, 0), (0, 0, 0)] [] (fun ls st M => k22 (f_va (f_nth ls 1)) (f_vi (f_nth ls 2)) (f_vi (f_nth ls 4)) M))]) C qX11_sumf (f_kc_cons (f_pl_ok rfl (fun ls st M h => h22 _ _ _ M h)) f_kc_nil) 46 0 h
def WX11_sum_65 (H22 : Nat → Int → Int → e_M → Prop) (H32 : Nat → Int → Int → Int → e_M → Prop) (Q : Int → e_M → Prop) (a1 : Nat) (x2 : Int) (x4 : Int) (x5 : Int) (M : e_M) : Prop :=
  VX11_sum_65 WX11_viewOf WX10_isThere WX10_mixIn H32 Q a1 x2 x4 x5 M
def WX11_sum_32 (H22 : Nat → Int → Int → e_M → Prop) (Q : Int → e_M → Prop) : Nat → Nat → Int → Int → Int → e_M → Prop
  | 0, _, _, _, _, _ => False
  | n + 1, a1, x2, x4, x5, M =>
    VX11_sum_32 WX11_viewOf WX10_isThere WX10_mixIn H22 (WX11_sum_65 H22 (WX11_sum_32 H22 Q n) Q) Q a1 x2 x4 x5 M
def WX11_sum_22 (Q : Int → e_M → Prop) : Nat → Nat → Int → Int → e_M → Prop
  | 0, _, _, _, _ => False
  | n + 1, a1, x2, x4, M =>
    VX11_sum_22 WX11_viewOf WX10_isThere WX10_mixIn (fun a1 x2 x4 x5 M => ∃ j, WX11_sum_32 (WX11_sum_22 Q n) Q j a1 x2 x4 x5 M) Q a1 x2 x4 M
def WX11_sum (M : e_M) (Q : Int → e_M → Prop) : Prop :=
  VX11_sum WX11_viewOf WX10_isThere WX10_mixIn (fun a1 x2 x4 M => ∃ j, WX11_sum_22 Q j a1 x2 x4 M) Q M
theorem PX11_sum_65 {sh : Nat → Nat × Nat} {t : Nat} {rm : Nat × Nat × Nat} {cs : Nat × Nat} {R : f_Rt} {H22 : Nat → Int → Int → e_M → Prop} {H32 : Nat → Int → Int → Int → e_M → Prop} {a1 : Nat} {x2 : Int} {x4 : Int} {x5 : Int} {M : e_M} (C : f_Hy sh t yX11_sum rm cs 11 (lX11_sum WX11_viewOf WX10_isThere WX10_mixIn) R) (g22 : ∀ (a1 : Nat) (x2 : Int) (x4 : Int) (M : e_M), H22 a1 x2 x4 M → f_E sh t YX11_sum rm cs (f_Q sh t R) 22 [.inr (.inr (.inr ())), .inr (.inr (.inl (10, 15, a1))), .inr (.inl x2), .inr (.inr (.inr ())), .inl x4, .inr (.inr (.inr ()))] [] M) (g32 : ∀ (a1 : Nat) (x2 : Int) (x4 : Int) (x5 : Int) (M : e_M), H32 a1 x2 x4 x5 M → f_E sh t YX11_sum rm cs (f_Q sh t R) 32 [.inr (.inr (.inr ())), .inr (.inr (.inl (10, 15, a1))), .inr (.inl x2), .inr (.inr (.inr ())), .inl x4, .inl x5] [] M) (h : WX11_sum_65 H22 H32 (fun r M => R (some (.inr (.inl r))) M) a1 x2 x4 x5 M) : f_E sh t YX11_sum rm cs (f_Q sh t R) 65 [.inr (.inr (.inr ())), .inr (.inr (.inl (10, 15, a1))), .inr (.inl x2), .inr (.inr (.inr ())), .inl x4, .inl x5] [] M :=
  BX11_sum_65 C g32 h
theorem PX11_sum_32 {sh : Nat → Nat × Nat} {t : Nat} {rm : Nat × Nat × Nat} {cs : Nat × Nat} {R : f_Rt} {H22 : Nat → Int → Int → e_M → Prop} (C : f_Hy sh t yX11_sum rm cs 11 (lX11_sum WX11_viewOf WX10_isThere WX10_mixIn) R) (g22 : ∀ (a1 : Nat) (x2 : Int) (x4 : Int) (M : e_M), H22 a1 x2 x4 M → f_E sh t YX11_sum rm cs (f_Q sh t R) 22 [.inr (.inr (.inr ())), .inr (.inr (.inl (10, 15, a1))), .inr (.inl x2), .inr (.inr (.inr ())), .inl x4, .inr (.inr (.inr ()))] [] M) : ∀ (n : Nat) (a1 : Nat) (x2 : Int) (x4 : Int) (x5 : Int) (M : e_M), WX11_sum_32 H22 (fun r M => R (some (.inr (.inl r))) M) n a1 x2 x4 x5 M → f_E sh t YX11_sum rm cs (f_Q sh t R) 32 [.inr (.inr (.inr ())), .inr (.inr (.inl (10, 15, a1))), .inr (.inl x2), .inr (.inr (.inr ())), .inl x4, .inl x5] [] M := by
  intro n
  induction n with
  | zero => intro a1 x2 x4 x5 M h; exact h.elim
  | succ n ih => intro a1 x2 x4 x5 M h; exact BX11_sum_32 C g22 (fun a1 x2 x4 x5 M h => PX11_sum_65 C g22 ih h) h
theorem PX11_sum_22 {sh : Nat → Nat × Nat} {t : Nat} {rm : Nat × Nat × Nat} {cs : Nat × Nat} {R : f_Rt} (C : f_Hy sh t yX11_sum rm cs 11 (lX11_sum WX11_viewOf WX10_isThere WX10_mixIn) R) : ∀ (n : Nat) (a1 : Nat) (x2 : Int) (x4 : Int) (M : e_M), WX11_sum_22 (fun r M => R (some (.inr (.inl r))) M) n a1 x2 x4 M → f_E sh t YX11_sum rm cs (f_Q sh t R) 22 [.inr (.inr (.inr ())), .inr (.inr (.inl (10, 15, a1))), .inr (.inl x2), .inr (.inr (.inr ())), .inl x4, .inr (.inr (.inr ()))] [] M := by
  intro n
  induction n with
  | zero => intro a1 x2 x4 M h; exact h.elim
  | succ n ih => intro a1 x2 x4 M h; exact BX11_sum_22 C (fun a1 x2 x4 x5 M ⟨j, h⟩ => PX11_sum_32 C ih j _ _ _ _ _ h) h
theorem PX11_sum {sh : Nat → Nat × Nat} {t : Nat} {rm : Nat × Nat × Nat} {cs : Nat × Nat} {R : f_Rt} {M : e_M} (C : f_Hy sh t yX11_sum rm cs 11 (lX11_sum WX11_viewOf WX10_isThere WX10_mixIn) R) (h : WX11_sum M (fun r M => R (some (.inr (.inl r))) M)) : f_E sh t YX11_sum rm cs (f_Q sh t R) 0 [.inr (.inr (.inl (11, 15, 0))), .inr (.inr (.inr ())), .inr (.inr (.inr ())), .inr (.inr (.inr ())), .inr (.inr (.inr ())), .inr (.inr (.inr ()))] [] M :=
  BX11_sum C (fun a1 x2 x4 M ⟨j, h⟩ => PX11_sum_22 C j _ _ _ _ h) h
def wX11_sum : f_Wt := f_wm [(10, 11, 15)] (fun ar M R => WX11_sum M (fun r M => R (some (.inr (.inl r))) M))
theorem TX11_sum {sh : Nat → Nat × Nat} {t : Nat} : f_Mt sh t YX11_sum 11 (wX11_sum) :=
  f_Mt_of (k := 5) (Nat.le_of_ble_eq_true rfl) rfl rfl (fun ar M R rm cs h1 h2 h3 hX h => PX11_sum ⟨Nat.le_of_ble_eq_true rfl, h1, h2, h3, ⟨(f_Mt.up (Nat.le_of_ble_eq_true rfl) TX11_viewOf), (f_Mt.up (Nat.le_of_ble_eq_true rfl) TX10_isThere), (f_Mt.up (Nat.le_of_ble_eq_true rfl) TX10_mixIn), trivial⟩, hX⟩ h)
