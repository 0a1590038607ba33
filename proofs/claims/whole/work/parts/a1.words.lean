/-! the five methods of the class that throw, as words: what is wanted of none is wanted where they throw -/
def f_thI (o : Option Int) : Option f_V := match o with
  | none => some (.inr (.inr (.inr ())))
  | some x => some (.inl x)
def f_thJ (o : Option Int) : Option f_V := match o with
  | none => some (.inr (.inr (.inr ())))
  | some x => some (.inr (.inl x))
theorem thX11_octet_22 : x_okX YX11_octet 22 := fun sh rm ls st g cs Q h6 h8 h1 h2 hQ =>
  e_throwNS (Y := YX11_octet) (pc := 22) (is := 189) (text := "no such byte") (j := 24) rfl (by decide +kernel) mwX11_octet.1 (e_dx DX11_octet_0 10 rfl) (e_dx DX11_octet_0 11 rfl) (e_dx DX11_octet_0 12 rfl) (e_dx DX11_octet_0 13 rfl) (e_dx DX11_octet_0 14 rfl) h6 h8 h1 h2 hQ
def VX11_octet_22 (Q : Option Int → e_M → Prop) (M : e_M) : Prop :=
  (Q none M)
def VX11_octet (k22 : e_M → Prop) (Q : Option Int → e_M → Prop) (x1 : Int) (M : e_M) : Prop :=
  ((x1 < 0 → (k22 M)) ∧ (0 ≤ x1 → (((M 4452 2) ≤ x1 → (k22 M)) ∧ (x1 < (M 4452 2) → ((x1 < 2000 → ((0 ≤ x1 ∧ x1 < 2000) ∧ (Q (some (M 4453 (x1.toNat))) M))) ∧ (2000 ≤ x1 → (k22 M)))))))
def yX11_octet (i : Nat) : e_Y := x_get YX11_octet [] i
def pX11_octetf : List x_I := [(0, 2, 1, 1, 0, 0, []), (1, 17, 22, 2, 11, 0, []), (4, 2, 1, 1, 0, 0, []), (5, 4, 1, 0, 0, 0, []), (6, 25, 11, 14, 4, 0, [(0, 1, 7), (0, 1, 4452)]), (9, 25, 1, 2, 0, 0, []), (12, 18, 22, 3, 11, 0, []), (15, 2, 1, 1, 0, 0, []), (16, 0, 3, 0, 0, 2000, []), (19, 18, 32, 2, 13, 0, []), (22, 49, 0, 0, 0, 0, []), (22, 46, 0, 0, 0, 0, []), (32, 4, 1, 0, 0, 0, []), (33, 25, 11, 14, 4, 0, [(0, 1, 7), (0, 1, 4452)]), (36, 25, 1, 1, 4, 0, [(0, 22, 2000), (0, 1, 1)]), (39, 2, 1, 1, 0, 0, []), (40, 27, 0, 2, 0, 0, []), (41, 41, 0, 0, 0, 0, [])]
set_option maxRecDepth 20000 in
theorem qX11_octetf : f_all yX11_octet YX11_octet pX11_octetf :=
  ⟨f_iload_n (n := 1) (e_dx DX11_octet_0 0 rfl) rfl,
  f_if_lt (e_dx DX11_octet_0 1 rfl) rfl,
  f_iload_n (n := 1) (e_dx DX11_octet_0 2 rfl) rfl,
  f_aload_n (n := 0) (e_dx DX11_octet_0 3 rfl) rfl,
  f_getA (e_dx DX11_octet_0 4 rfl) fX11_83 rfl (by decide) (Nat.le_of_ble_eq_true rfl) rfl (by decide),
  f_getf (e_dx DX11_octet_0 5 rfl) fX11_184 rfl (by decide) (by decide) (by decide),
  f_icmp_ge (e_dx DX11_octet_0 6 rfl) rfl,
  f_iload_n (n := 1) (e_dx DX11_octet_0 7 rfl) rfl,
  f_sipush (e_dx DX11_octet_0 8 rfl) ⟨by decide, by decide⟩,
  f_icmp_lt (e_dx DX11_octet_0 9 rfl) rfl,
  trivial,
  thX11_octet_22,
  f_aload_n (n := 0) (e_dx DX11_octet_0 15 rfl) rfl,
  f_getA (e_dx DX11_octet_0 16 rfl) fX11_83 rfl (by decide) (Nat.le_of_ble_eq_true rfl) rfl (by decide),
  f_getA (e_dx DX11_octet_0 17 rfl) fX11_194 rfl (by decide) (Nat.le_of_ble_eq_true rfl) rfl (by decide),
  f_iload_n (n := 1) (e_dx DX11_octet_0 18 rfl) rfl,
  f_baload (e_dx DX11_octet_0 19 rfl),
  ⟨(e_dx DX11_octet_0 20 rfl), rfl⟩, trivial⟩
def lX11_octet : List (Nat × f_Wt) := []
set_option maxRecDepth 20000 in
theorem BX11_octet_22 {sh : Nat → Nat × Nat} {t : Nat} {rm : Nat × Nat × Nat} {cs : Nat × Nat} {R : f_Rt} {M : e_M} (C : f_Hy sh t yX11_octet rm cs 4 (lX11_octet) R) (h : VX11_octet_22 (fun r M => R (f_thI r) M) M) : f_E sh t YX11_octet rm cs (f_Q sh t R) 22 [.inr (.inr (.inr ())), .inr (.inr (.inr ()))] [] M :=
  f_go (KC := f_kc []) C qX11_octetf f_kc_nil 20 11 h
set_option maxRecDepth 20000 in
theorem BX11_octet {sh : Nat → Nat × Nat} {t : Nat} {rm : Nat × Nat × Nat} {cs : Nat × Nat} {R : f_Rt} {k22 : e_M → Prop} {x1 : Int} {M : e_M} (C : f_Hy sh t yX11_octet rm cs 4 (lX11_octet) R) (h22 : ∀ (M : e_M), k22 M → f_E sh t YX11_octet rm cs (f_Q sh t R) 22 [.inr (.inr (.inr ())), .inr (.inr (.inr ()))] [] M) (h : VX11_octet k22 (fun r M => R (f_thI r) M) x1 M) : f_E sh t YX11_octet rm cs (f_Q sh t R) 0 [.inr (.inr (.inl (11, 15, 0))), .inl x1] [] M :=
  f_go (KC := f_kc [(22, f_pl [(0, 0, 0), (0, 0, 0)] [] (fun ls st M => k22 M))]) C qX11_octetf (f_kc_cons (f_pl_ok rfl (fun ls st M h => h22  M h)) f_kc_nil) 20 0 h
def WX11_octet_22 (Q : Option Int → e_M → Prop) (M : e_M) : Prop :=
  VX11_octet_22 Q M
def WX11_octet (x1 : Int) (M : e_M) (Q : Option Int → e_M → Prop) : Prop :=
  VX11_octet (WX11_octet_22 Q) Q x1 M
theorem PX11_octet_22 {sh : Nat → Nat × Nat} {t : Nat} {rm : Nat × Nat × Nat} {cs : Nat × Nat} {R : f_Rt} {M : e_M} (C : f_Hy sh t yX11_octet rm cs 4 (lX11_octet) R) (h : WX11_octet_22 (fun r M => R (f_thI r) M) M) : f_E sh t YX11_octet rm cs (f_Q sh t R) 22 [.inr (.inr (.inr ())), .inr (.inr (.inr ()))] [] M :=
  BX11_octet_22 C h
theorem PX11_octet {sh : Nat → Nat × Nat} {t : Nat} {rm : Nat × Nat × Nat} {cs : Nat × Nat} {R : f_Rt} {x1 : Int} {M : e_M} (C : f_Hy sh t yX11_octet rm cs 4 (lX11_octet) R) (h : WX11_octet x1 M (fun r M => R (f_thI r) M)) : f_E sh t YX11_octet rm cs (f_Q sh t R) 0 [.inr (.inr (.inl (11, 15, 0))), .inl x1] [] M :=
  BX11_octet C (fun M h => PX11_octet_22 C h) h
def wX11_octet : f_Wt := f_wm [(10, 11, 15), (1, 0, 0)] (fun ar M R => WX11_octet (f_vi (f_nth ar 1)) M (fun r M => R (f_thI r) M))
theorem TX11_octet {sh : Nat → Nat × Nat} {t : Nat} : f_Mt sh t YX11_octet 4 (wX11_octet) :=
  f_Mt_of (k := 0) (Nat.le_of_ble_eq_true rfl) rfl rfl (fun ar M R rm cs h1 h2 h3 hX h => PX11_octet ⟨Nat.le_of_ble_eq_true rfl, h1, h2, h3, trivial, hX⟩ h)
theorem thX11_name_30 : x_okX YX11_name 30 := fun sh rm ls st g cs Q h6 h8 h1 h2 hQ =>
  e_throwNS (Y := YX11_name) (pc := 30) (is := 207) (text := "no such thing") (j := 25) rfl (by decide +kernel) mwX11_name.1 (e_dx DX11_name_0 16 rfl) (e_dx DX11_name_0 17 rfl) (e_dx DX11_name_0 18 rfl) (e_dx DX11_name_0 19 rfl) (e_dx DX11_name_0 20 rfl) h6 h8 h1 h2 hQ
def VX11_name (c_X11_viewOf : Nat → Int → Int → e_M → (Nat → e_M → Prop) → Prop) (c_X10_numberOf : Nat → Int → Int → e_M → (Int → Prop) → Prop) (c_X10_nameOf : Nat → Int → Int → e_M → (Int → Prop) → Prop) (Q : Option Int → e_M → Prop) (x1 : Int) (x2 : Int) (M : e_M) : Prop :=
  (c_X11_viewOf 25 (M 0 3) (M 0 4) M (fun r1 M2 => (c_X10_numberOf r1 x1 x2 M2 (fun r3 => ((0 ≤ r3 → (c_X10_nameOf r1 x1 r3 M2 (fun r4 => (Q (some r4) M2)))) ∧ (r3 < 0 → (Q none M2)))))))
def yX11_name (i : Nat) : e_Y := x_get YX11_name [YX11_viewOf, YX10_numberOf, YX10_nameOf] i
def pX11_namef : List x_I := [(0, 4, 1, 0, 0, 0, []), (1, 4, 1, 0, 0, 0, []), (2, 25, 11, 11, 4, 0, [(0, 10, 15), (0, 1, 25)]), (5, 4, 1, 0, 0, 0, []), (6, 25, 11, 3, 0, 0, []), (9, 4, 1, 0, 0, 0, []), (10, 25, 11, 4, 0, 0, []), (13, 40, 0, 4, 13, 0, []), (16, 7, 1, 3, 0, 0, []), (17, 4, 1, 3, 0, 0, []), (18, 2, 1, 1, 0, 0, []), (19, 2, 1, 2, 0, 0, []), (20, 40, 1, 3, 12, 0, []), (23, 5, 2, 4, 0, 0, []), (25, 2, 2, 4, 0, 0, []), (27, 17, 40, 3, 18, 0, []), (30, 46, 0, 0, 0, 0, []), (40, 4, 1, 3, 0, 0, []), (41, 2, 1, 1, 0, 0, []), (42, 2, 2, 4, 0, 0, []), (44, 40, 2, 3, 12, 0, []), (47, 43, 0, 0, 0, 0, [])]
set_option maxRecDepth 20000 in
theorem qX11_namef : f_all yX11_name YX11_name pX11_namef :=
  ⟨f_aload_n (n := 0) (e_dx DX11_name_0 0 rfl) rfl,
  f_aload_n (n := 0) (e_dx DX11_name_0 1 rfl) rfl,
  f_getA (e_dx DX11_name_0 2 rfl) fX11_62 rfl (by decide) (Nat.le_of_ble_eq_true rfl) rfl (by decide),
  f_aload_n (n := 0) (e_dx DX11_name_0 3 rfl) rfl,
  f_getf (e_dx DX11_name_0 4 rfl) fX11_20 rfl (by decide) (by decide) (by decide),
  f_aload_n (n := 0) (e_dx DX11_name_0 5 rfl) rfl,
  f_getf (e_dx DX11_name_0 6 rfl) fX11_23 rfl (by decide) (by decide) (by decide),
  x_callV (e_dx DX11_name_0 7 rfl) mwX11_viewOf vwX11_viewOf cX11_115 rfl,
  f_astore_n (n := 3) (e_dx DX11_name_0 8 rfl) rfl (by decide),
  f_aload_n (n := 3) (e_dx DX11_name_0 9 rfl) rfl,
  f_iload_n (n := 1) (e_dx DX11_name_0 10 rfl) rfl,
  f_iload_n (n := 2) (e_dx DX11_name_0 11 rfl) rfl,
  x_callV (e_dx DX11_name_0 12 rfl) mwX10_numberOf vwX10_numberOf cX11_204 rfl,
  f_istore (e_dx DX11_name_0 13 rfl) (by decide),
  f_iload (e_dx DX11_name_0 14 rfl),
  f_if_ge (e_dx DX11_name_0 15 rfl) rfl,
  thX11_name_30,
  f_aload_n (n := 3) (e_dx DX11_name_0 21 rfl) rfl,
  f_iload_n (n := 1) (e_dx DX11_name_0 22 rfl) rfl,
  f_iload (e_dx DX11_name_0 23 rfl),
  x_callV (e_dx DX11_name_0 24 rfl) mwX10_nameOf vwX10_nameOf cX11_209 rfl,
  ⟨(e_dx DX11_name_0 25 rfl), rfl⟩, trivial⟩
def lX11_name (c_X11_viewOf : Nat → Int → Int → e_M → (Nat → e_M → Prop) → Prop) (c_X10_numberOf : Nat → Int → Int → e_M → (Int → Prop) → Prop) (c_X10_nameOf : Nat → Int → Int → e_M → (Int → Prop) → Prop) : List (Nat × f_Wt) := [(0, f_wm [(10, 11, 15), (3, 10, 15), (1, 0, 0), (1, 0, 0)] (fun ar M R => c_X11_viewOf (f_va (f_nth ar 1)) (f_vi (f_nth ar 2)) (f_vi (f_nth ar 3)) M (fun r M => R (some (.inr (.inr (.inl (10, 15, r))))) M))), (1, f_wm [(3, 10, 15), (1, 0, 0), (1, 0, 0)] (fun ar M R => c_X10_numberOf (f_va (f_nth ar 0)) (f_vi (f_nth ar 1)) (f_vi (f_nth ar 2)) M (fun r => R (some (.inl r)) M))), (2, f_wm [(3, 10, 15), (1, 0, 0), (1, 0, 0)] (fun ar M R => c_X10_nameOf (f_va (f_nth ar 0)) (f_vi (f_nth ar 1)) (f_vi (f_nth ar 2)) M (fun r => R (some (.inr (.inl r))) M)))]
set_option maxRecDepth 20000 in
theorem BX11_name {sh : Nat → Nat × Nat} {t : Nat} {rm : Nat × Nat × Nat} {cs : Nat × Nat} {R : f_Rt} {c_X11_viewOf : Nat → Int → Int → e_M → (Nat → e_M → Prop) → Prop} {c_X10_numberOf : Nat → Int → Int → e_M → (Int → Prop) → Prop} {c_X10_nameOf : Nat → Int → Int → e_M → (Int → Prop) → Prop} {x1 : Int} {x2 : Int} {M : e_M} (C : f_Hy sh t yX11_name rm cs 11 (lX11_name c_X11_viewOf c_X10_numberOf c_X10_nameOf) R) (h : VX11_name c_X11_viewOf c_X10_numberOf c_X10_nameOf (fun r M => R (f_thJ r) M) x1 x2 M) : f_E sh t YX11_name rm cs (f_Q sh t R) 0 [.inr (.inr (.inl (11, 15, 0))), .inl x1, .inl x2, .inr (.inr (.inr ())), .inr (.inr (.inr ()))] [] M :=
  f_go (KC := f_kc []) C qX11_namef f_kc_nil 24 0 h
def WX11_name (x1 : Int) (x2 : Int) (M : e_M) (Q : Option Int → e_M → Prop) : Prop :=
  VX11_name WX11_viewOf WX10_numberOf WX10_nameOf Q x1 x2 M
theorem PX11_name {sh : Nat → Nat × Nat} {t : Nat} {rm : Nat × Nat × Nat} {cs : Nat × Nat} {R : f_Rt} {x1 : Int} {x2 : Int} {M : e_M} (C : f_Hy sh t yX11_name rm cs 11 (lX11_name WX11_viewOf WX10_numberOf WX10_nameOf) R) (h : WX11_name x1 x2 M (fun r M => R (f_thJ r) M)) : f_E sh t YX11_name rm cs (f_Q sh t R) 0 [.inr (.inr (.inl (11, 15, 0))), .inl x1, .inl x2, .inr (.inr (.inr ())), .inr (.inr (.inr ()))] [] M :=
  BX11_name C h
def wX11_name : f_Wt := f_wm [(10, 11, 15), (1, 0, 0), (1, 0, 0)] (fun ar M R => WX11_name (f_vi (f_nth ar 1)) (f_vi (f_nth ar 2)) M (fun r M => R (f_thJ r) M))
theorem TX11_name {sh : Nat → Nat × Nat} {t : Nat} : f_Mt sh t YX11_name 11 (wX11_name) :=
  f_Mt_of (k := 2) (Nat.le_of_ble_eq_true rfl) rfl rfl (fun ar M R rm cs h1 h2 h3 hX h => PX11_name ⟨Nat.le_of_ble_eq_true rfl, h1, h2, h3, ⟨(f_Mt.up (Nat.le_of_ble_eq_true rfl) TX11_viewOf), (f_Mt.up (Nat.le_of_ble_eq_true rfl) TX10_numberOf), (f_Mt.up (Nat.le_of_ble_eq_true rfl) TX10_nameOf), trivial⟩, hX⟩ h)
theorem thX11_thing_32 : x_okX YX11_thing 32 := fun sh rm ls st g cs Q h6 h8 h1 h2 hQ =>
  e_throwNS (Y := YX11_thing) (pc := 32) (is := 207) (text := "no such thing") (j := 25) rfl (by decide +kernel) mwX11_thing.1 (e_dx DX11_thing_0 16 rfl) (e_dx DX11_thing_0 17 rfl) (e_dx DX11_thing_0 18 rfl) (e_dx DX11_thing_0 19 rfl) (e_dx DX11_thing_0 20 rfl) h6 h8 h1 h2 hQ
def VX11_thing (c_X11_viewOf : Nat → Int → Int → e_M → (Nat → e_M → Prop) → Prop) (c_X10_numberOf : Nat → Int → Int → e_M → (Int → Prop) → Prop) (c_X10_fact : Nat → Int → Int → Int → e_M → (Int → Prop) → Prop) (Q : Option Int → e_M → Prop) (x1 : Int) (x2 : Int) (x3 : Int) (M : e_M) : Prop :=
  (c_X11_viewOf 25 (M 0 3) (M 0 4) M (fun r1 M2 => (c_X10_numberOf r1 x1 x2 M2 (fun r3 => ((0 ≤ r3 → (c_X10_fact r1 x1 r3 x3 M2 (fun r4 => (Q (some r4) M2)))) ∧ (r3 < 0 → (Q none M2)))))))
def yX11_thing (i : Nat) : e_Y := x_get YX11_thing [YX11_viewOf, YX10_numberOf, YX10_fact] i
def pX11_thingf : List x_I := [(0, 4, 1, 0, 0, 0, []), (1, 4, 1, 0, 0, 0, []), (2, 25, 11, 11, 4, 0, [(0, 10, 15), (0, 1, 25)]), (5, 4, 1, 0, 0, 0, []), (6, 25, 11, 3, 0, 0, []), (9, 4, 1, 0, 0, 0, []), (10, 25, 11, 4, 0, 0, []), (13, 40, 0, 4, 13, 0, []), (16, 7, 2, 4, 0, 0, []), (18, 4, 2, 4, 0, 0, []), (20, 2, 1, 1, 0, 0, []), (21, 2, 1, 2, 0, 0, []), (22, 40, 1, 3, 12, 0, []), (25, 5, 2, 5, 0, 0, []), (27, 2, 2, 5, 0, 0, []), (29, 17, 42, 3, 18, 0, []), (32, 46, 0, 0, 0, 0, []), (42, 4, 2, 4, 0, 0, []), (44, 2, 1, 1, 0, 0, []), (45, 2, 2, 5, 0, 0, []), (47, 2, 1, 3, 0, 0, []), (48, 40, 2, 4, 12, 0, []), (51, 41, 0, 0, 0, 0, [])]
set_option maxRecDepth 20000 in
theorem qX11_thingf : f_all yX11_thing YX11_thing pX11_thingf :=
  ⟨f_aload_n (n := 0) (e_dx DX11_thing_0 0 rfl) rfl,
  f_aload_n (n := 0) (e_dx DX11_thing_0 1 rfl) rfl,
  f_getA (e_dx DX11_thing_0 2 rfl) fX11_62 rfl (by decide) (Nat.le_of_ble_eq_true rfl) rfl (by decide),
  f_aload_n (n := 0) (e_dx DX11_thing_0 3 rfl) rfl,
  f_getf (e_dx DX11_thing_0 4 rfl) fX11_20 rfl (by decide) (by decide) (by decide),
  f_aload_n (n := 0) (e_dx DX11_thing_0 5 rfl) rfl,
  f_getf (e_dx DX11_thing_0 6 rfl) fX11_23 rfl (by decide) (by decide) (by decide),
  x_callV (e_dx DX11_thing_0 7 rfl) mwX11_viewOf vwX11_viewOf cX11_115 rfl,
  f_astore (e_dx DX11_thing_0 8 rfl) (by decide),
  f_aload (e_dx DX11_thing_0 9 rfl),
  f_iload_n (n := 1) (e_dx DX11_thing_0 10 rfl) rfl,
  f_iload_n (n := 2) (e_dx DX11_thing_0 11 rfl) rfl,
  x_callV (e_dx DX11_thing_0 12 rfl) mwX10_numberOf vwX10_numberOf cX11_204 rfl,
  f_istore (e_dx DX11_thing_0 13 rfl) (by decide),
  f_iload (e_dx DX11_thing_0 14 rfl),
  f_if_ge (e_dx DX11_thing_0 15 rfl) rfl,
  thX11_thing_32,
  f_aload (e_dx DX11_thing_0 21 rfl),
  f_iload_n (n := 1) (e_dx DX11_thing_0 22 rfl) rfl,
  f_iload (e_dx DX11_thing_0 23 rfl),
  f_iload_n (n := 3) (e_dx DX11_thing_0 24 rfl) rfl,
  x_callV (e_dx DX11_thing_0 25 rfl) mwX10_fact vwX10_fact cX11_213 rfl,
  ⟨(e_dx DX11_thing_0 26 rfl), rfl⟩, trivial⟩
def lX11_thing (c_X11_viewOf : Nat → Int → Int → e_M → (Nat → e_M → Prop) → Prop) (c_X10_numberOf : Nat → Int → Int → e_M → (Int → Prop) → Prop) (c_X10_fact : Nat → Int → Int → Int → e_M → (Int → Prop) → Prop) : List (Nat × f_Wt) := [(0, f_wm [(10, 11, 15), (3, 10, 15), (1, 0, 0), (1, 0, 0)] (fun ar M R => c_X11_viewOf (f_va (f_nth ar 1)) (f_vi (f_nth ar 2)) (f_vi (f_nth ar 3)) M (fun r M => R (some (.inr (.inr (.inl (10, 15, r))))) M))), (1, f_wm [(3, 10, 15), (1, 0, 0), (1, 0, 0)] (fun ar M R => c_X10_numberOf (f_va (f_nth ar 0)) (f_vi (f_nth ar 1)) (f_vi (f_nth ar 2)) M (fun r => R (some (.inl r)) M))), (2, f_wm [(3, 10, 15), (1, 0, 0), (1, 0, 0), (1, 0, 0)] (fun ar M R => c_X10_fact (f_va (f_nth ar 0)) (f_vi (f_nth ar 1)) (f_vi (f_nth ar 2)) (f_vi (f_nth ar 3)) M (fun r => R (some (.inl r)) M)))]
set_option maxRecDepth 20000 in
theorem BX11_thing {sh : Nat → Nat × Nat} {t : Nat} {rm : Nat × Nat × Nat} {cs : Nat × Nat} {R : f_Rt} {c_X11_viewOf : Nat → Int → Int → e_M → (Nat → e_M → Prop) → Prop} {c_X10_numberOf : Nat → Int → Int → e_M → (Int → Prop) → Prop} {c_X10_fact : Nat → Int → Int → Int → e_M → (Int → Prop) → Prop} {x1 : Int} {x2 : Int} {x3 : Int} {M : e_M} (C : f_Hy sh t yX11_thing rm cs 11 (lX11_thing c_X11_viewOf c_X10_numberOf c_X10_fact) R) (h : VX11_thing c_X11_viewOf c_X10_numberOf c_X10_fact (fun r M => R (f_thI r) M) x1 x2 x3 M) : f_E sh t YX11_thing rm cs (f_Q sh t R) 0 [.inr (.inr (.inl (11, 15, 0))), .inl x1, .inl x2, .inl x3, .inr (.inr (.inr ())), .inr (.inr (.inr ()))] [] M :=
  f_go (KC := f_kc []) C qX11_thingf f_kc_nil 25 0 h
def WX11_thing (x1 : Int) (x2 : Int) (x3 : Int) (M : e_M) (Q : Option Int → e_M → Prop) : Prop :=
  VX11_thing WX11_viewOf WX10_numberOf WX10_fact Q x1 x2 x3 M
theorem PX11_thing {sh : Nat → Nat × Nat} {t : Nat} {rm : Nat × Nat × Nat} {cs : Nat × Nat} {R : f_Rt} {x1 : Int} {x2 : Int} {x3 : Int} {M : e_M} (C : f_Hy sh t yX11_thing rm cs 11 (lX11_thing WX11_viewOf WX10_numberOf WX10_fact) R) (h : WX11_thing x1 x2 x3 M (fun r M => R (f_thI r) M)) : f_E sh t YX11_thing rm cs (f_Q sh t R) 0 [.inr (.inr (.inl (11, 15, 0))), .inl x1, .inl x2, .inl x3, .inr (.inr (.inr ())), .inr (.inr (.inr ()))] [] M :=
  BX11_thing C h
def wX11_thing : f_Wt := f_wm [(10, 11, 15), (1, 0, 0), (1, 0, 0), (1, 0, 0)] (fun ar M R => WX11_thing (f_vi (f_nth ar 1)) (f_vi (f_nth ar 2)) (f_vi (f_nth ar 3)) M (fun r M => R (f_thI r) M))
theorem TX11_thing {sh : Nat → Nat × Nat} {t : Nat} : f_Mt sh t YX11_thing 11 (wX11_thing) :=
  f_Mt_of (k := 2) (Nat.le_of_ble_eq_true rfl) rfl rfl (fun ar M R rm cs h1 h2 h3 hX h => PX11_thing ⟨Nat.le_of_ble_eq_true rfl, h1, h2, h3, ⟨(f_Mt.up (Nat.le_of_ble_eq_true rfl) TX11_viewOf), (f_Mt.up (Nat.le_of_ble_eq_true rfl) TX10_numberOf), (f_Mt.up (Nat.le_of_ble_eq_true rfl) TX10_fact), trivial⟩, hX⟩ h)
theorem thX11_corner_66 : x_okX YX11_corner 66 := fun sh rm ls st g cs Q h6 h8 h1 h2 hQ =>
  e_throwNS (Y := YX11_corner) (pc := 66) (is := 231) (text := "no such corner") (j := 26) rfl (by decide +kernel) mwX11_corner.1 (e_dx DX11_corner_0 32 rfl) (e_dx DX11_corner_0 33 rfl) (e_dx DX11_corner_0 34 rfl) (e_dx DX11_corner_0 35 rfl) (e_dx DX11_corner_0 36 rfl) h6 h8 h1 h2 hQ
def VX11_corner_66 (c_X11_viewOf : Nat → Int → Int → e_M → (Nat → e_M → Prop) → Prop) (c_X10_numberOf : Nat → Int → Int → e_M → (Int → Prop) → Prop) (c_X10_lot : Nat → Int → e_M → (Nat → Prop) → Prop) (Q : Option Int → e_M → Prop) (M : e_M) : Prop :=
  (Q none M)
def VX11_corner (c_X11_viewOf : Nat → Int → Int → e_M → (Nat → e_M → Prop) → Prop) (c_X10_numberOf : Nat → Int → Int → e_M → (Int → Prop) → Prop) (c_X10_lot : Nat → Int → e_M → (Nat → Prop) → Prop) (k66 : e_M → Prop) (Q : Option Int → e_M → Prop) (x1 : Int) (x2 : Int) (x3 : Int) (M : e_M) : Prop :=
  (c_X11_viewOf 25 (M 0 3) (M 0 4) M (fun r1 M2 => (c_X10_numberOf r1 0 x1 M2 (fun r3 => (c_X10_lot r1 r3 M2 (fun r4 => ((r3 < 0 → (k66 M2)) ∧ (0 ≤ r3 → ((x2 < 0 → (k66 M2)) ∧ (0 ≤ x2 → (((M2 (r4 + 1) 2) ≤ x2 → (k66 M2)) ∧ (x2 < (M2 (r4 + 1) 2) → ((x3 < 0 → (k66 M2)) ∧ (0 ≤ x3 → ((x3 ≤ 1 → ((¬ x3 = 0 → ((0 ≤ x2 ∧ x2 < 40) ∧ (Q (some (M2 (r4 + 1 + 2) (x2.toNat))) M2))) ∧ (x3 = 0 → ((0 ≤ x2 ∧ x2 < 40) ∧ (Q (some (M2 (r4 + 1 + 1) (x2.toNat))) M2))))) ∧ (1 < x3 → (k66 M2)))))))))))))))))
def yX11_corner (i : Nat) : e_Y := x_get YX11_corner [YX11_viewOf, YX10_numberOf, YX10_lot] i
def pX11_cornerf : List x_I := [(0, 4, 1, 0, 0, 0, []), (1, 4, 1, 0, 0, 0, []), (2, 25, 11, 11, 4, 0, [(0, 10, 15), (0, 1, 25)]), (5, 4, 1, 0, 0, 0, []), (6, 25, 11, 3, 0, 0, []), (9, 4, 1, 0, 0, 0, []), (10, 25, 11, 4, 0, 0, []), (13, 40, 0, 4, 13, 0, []), (16, 7, 2, 4, 0, 0, []), (18, 4, 2, 4, 0, 0, []), (20, 0, 1, 0, 0, 0, []), (21, 2, 1, 1, 0, 0, []), (22, 40, 1, 3, 12, 0, []), (25, 5, 2, 5, 0, 0, []), (27, 4, 2, 4, 0, 0, []), (29, 2, 2, 5, 0, 0, []), (31, 40, 2, 2, 12, 0, []), (34, 25, 4, 3, 4, 0, [(0, 3, 3), (0, 1, 1)]), (37, 7, 2, 6, 0, 0, []), (39, 2, 2, 5, 0, 0, []), (41, 17, 66, 2, 33, 0, []), (44, 2, 1, 2, 0, 0, []), (45, 17, 66, 2, 33, 0, []), (48, 2, 1, 2, 0, 0, []), (49, 4, 2, 6, 0, 0, []), (51, 25, 3, 2, 0, 0, []), (54, 18, 66, 3, 33, 0, []), (57, 2, 1, 3, 0, 0, []), (58, 17, 66, 2, 33, 0, []), (61, 2, 1, 3, 0, 0, []), (62, 0, 1, 0, 0, 1, []), (63, 18, 76, 5, 35, 0, []), (66, 49, 0, 0, 0, 0, []), (66, 46, 0, 0, 0, 0, []), (76, 2, 1, 3, 0, 0, []), (77, 17, 90, 1, 42, 0, []), (80, 4, 2, 6, 0, 0, []), (82, 25, 3, 0, 4, 0, [(0, 20, 40), (0, 1, 1)]), (85, 2, 1, 2, 0, 0, []), (86, 27, 0, 0, 0, 0, []), (87, 19, 97, 0, 46, 0, []), (90, 4, 2, 6, 0, 0, []), (92, 25, 3, 1, 4, 0, [(0, 20, 40), (0, 1, 2)]), (95, 2, 1, 2, 0, 0, []), (96, 27, 0, 0, 0, 0, []), (97, 41, 0, 0, 0, 0, [])]
set_option maxRecDepth 20000 in
theorem qX11_cornerf : f_all yX11_corner YX11_corner pX11_cornerf :=
  ⟨f_aload_n (n := 0) (e_dx DX11_corner_0 0 rfl) rfl,
  f_aload_n (n := 0) (e_dx DX11_corner_0 1 rfl) rfl,
  f_getA (e_dx DX11_corner_0 2 rfl) fX11_62 rfl (by decide) (Nat.le_of_ble_eq_true rfl) rfl (by decide),
  f_aload_n (n := 0) (e_dx DX11_corner_0 3 rfl) rfl,
  f_getf (e_dx DX11_corner_0 4 rfl) fX11_20 rfl (by decide) (by decide) (by decide),
  f_aload_n (n := 0) (e_dx DX11_corner_0 5 rfl) rfl,
  f_getf (e_dx DX11_corner_0 6 rfl) fX11_23 rfl (by decide) (by decide) (by decide),
  x_callV (e_dx DX11_corner_0 7 rfl) mwX11_viewOf vwX11_viewOf cX11_115 rfl,
  f_astore (e_dx DX11_corner_0 8 rfl) (by decide),
  f_aload (e_dx DX11_corner_0 9 rfl),
  f_iconst (e_dx DX11_corner_0 10 rfl) ⟨by decide, by decide⟩,
  f_iload_n (n := 1) (e_dx DX11_corner_0 11 rfl) rfl,
  x_callV (e_dx DX11_corner_0 12 rfl) mwX10_numberOf vwX10_numberOf cX11_204 rfl,
  f_istore (e_dx DX11_corner_0 13 rfl) (by decide),
  f_aload (e_dx DX11_corner_0 14 rfl),
  f_iload (e_dx DX11_corner_0 15 rfl),
  x_callV (e_dx DX11_corner_0 16 rfl) mwX10_lot vwX10_lot cX11_217 rfl,
  f_getA (e_dx DX11_corner_0 17 rfl) fX11_221 rfl (by decide) (Nat.le_of_ble_eq_true rfl) rfl (by decide),
  f_astore (e_dx DX11_corner_0 18 rfl) (by decide),
  f_iload (e_dx DX11_corner_0 19 rfl),
  f_if_lt (e_dx DX11_corner_0 20 rfl) rfl,
  f_iload_n (n := 2) (e_dx DX11_corner_0 21 rfl) rfl,
  f_if_lt (e_dx DX11_corner_0 22 rfl) rfl,
  f_iload_n (n := 2) (e_dx DX11_corner_0 23 rfl) rfl,
  f_aload (e_dx DX11_corner_0 24 rfl),
  f_getf (e_dx DX11_corner_0 25 rfl) fX11_227 rfl (by decide) (by decide) (by decide),
  f_icmp_ge (e_dx DX11_corner_0 26 rfl) rfl,
  f_iload_n (n := 3) (e_dx DX11_corner_0 27 rfl) rfl,
  f_if_lt (e_dx DX11_corner_0 28 rfl) rfl,
  f_iload_n (n := 3) (e_dx DX11_corner_0 29 rfl) rfl,
  f_iconst (e_dx DX11_corner_0 30 rfl) ⟨by decide, by decide⟩,
  f_icmp_le (e_dx DX11_corner_0 31 rfl) rfl,
  trivial,
  thX11_corner_66,
  f_iload_n (n := 3) (e_dx DX11_corner_0 37 rfl) rfl,
  f_if_ne (e_dx DX11_corner_0 38 rfl) rfl,
  f_aload (e_dx DX11_corner_0 39 rfl),
  f_getA (e_dx DX11_corner_1 0 rfl) fX11_233 rfl (by decide) (Nat.le_of_ble_eq_true rfl) rfl (by decide),
  f_iload_n (n := 2) (e_dx DX11_corner_1 1 rfl) rfl,
  f_iaload (e_dx DX11_corner_1 2 rfl),
  f_g19 (e_dx DX11_corner_1 3 rfl) rfl,
  f_aload (e_dx DX11_corner_1 4 rfl),
  f_getA (e_dx DX11_corner_1 5 rfl) fX11_236 rfl (by decide) (Nat.le_of_ble_eq_true rfl) rfl (by decide),
  f_iload_n (n := 2) (e_dx DX11_corner_1 6 rfl) rfl,
  f_iaload (e_dx DX11_corner_1 7 rfl),
  ⟨(e_dx DX11_corner_1 8 rfl), rfl⟩, trivial⟩
def lX11_corner (c_X11_viewOf : Nat → Int → Int → e_M → (Nat → e_M → Prop) → Prop) (c_X10_numberOf : Nat → Int → Int → e_M → (Int → Prop) → Prop) (c_X10_lot : Nat → Int → e_M → (Nat → Prop) → Prop) : List (Nat × f_Wt) := [(0, f_wm [(10, 11, 15), (3, 10, 15), (1, 0, 0), (1, 0, 0)] (fun ar M R => c_X11_viewOf (f_va (f_nth ar 1)) (f_vi (f_nth ar 2)) (f_vi (f_nth ar 3)) M (fun r M => R (some (.inr (.inr (.inl (10, 15, r))))) M))), (1, f_wm [(3, 10, 15), (1, 0, 0), (1, 0, 0)] (fun ar M R => c_X10_numberOf (f_va (f_nth ar 0)) (f_vi (f_nth ar 1)) (f_vi (f_nth ar 2)) M (fun r => R (some (.inl r)) M))), (2, f_wm [(3, 10, 15), (1, 0, 0)] (fun ar M R => c_X10_lot (f_va (f_nth ar 0)) (f_vi (f_nth ar 1)) M (fun r => R (some (.inr (.inr (.inl (4, 9, r))))) M)))]
set_option maxRecDepth 20000 in
theorem BX11_corner_66 {sh : Nat → Nat × Nat} {t : Nat} {rm : Nat × Nat × Nat} {cs : Nat × Nat} {R : f_Rt} {c_X11_viewOf : Nat → Int → Int → e_M → (Nat → e_M → Prop) → Prop} {c_X10_numberOf : Nat → Int → Int → e_M → (Int → Prop) → Prop} {c_X10_lot : Nat → Int → e_M → (Nat → Prop) → Prop} {M : e_M} (C : f_Hy sh t yX11_corner rm cs 11 (lX11_corner c_X11_viewOf c_X10_numberOf c_X10_lot) R) (h : VX11_corner_66 c_X11_viewOf c_X10_numberOf c_X10_lot (fun r M => R (f_thI r) M) M) : f_E sh t YX11_corner rm cs (f_Q sh t R) 66 [.inr (.inr (.inr ())), .inr (.inr (.inr ())), .inr (.inr (.inr ())), .inr (.inr (.inr ())), .inr (.inr (.inr ())), .inr (.inr (.inr ())), .inr (.inr (.inr ()))] [] M :=
  f_go (KC := f_kc []) C qX11_cornerf f_kc_nil 48 33 h
set_option maxRecDepth 20000 in
theorem BX11_corner {sh : Nat → Nat × Nat} {t : Nat} {rm : Nat × Nat × Nat} {cs : Nat × Nat} {R : f_Rt} {c_X11_viewOf : Nat → Int → Int → e_M → (Nat → e_M → Prop) → Prop} {c_X10_numberOf : Nat → Int → Int → e_M → (Int → Prop) → Prop} {c_X10_lot : Nat → Int → e_M → (Nat → Prop) → Prop} {k66 : e_M → Prop} {x1 : Int} {x2 : Int} {x3 : Int} {M : e_M} (C : f_Hy sh t yX11_corner rm cs 11 (lX11_corner c_X11_viewOf c_X10_numberOf c_X10_lot) R) (h66 : ∀ (M : e_M), k66 M → f_E sh t YX11_corner rm cs (f_Q sh t R) 66 [.inr (.inr (.inr ())), .inr (.inr (.inr ())), .inr (.inr (.inr ())), .inr (.inr (.inr ())), .inr (.inr (.inr ())), .inr (.inr (.inr ())), .inr (.inr (.inr ()))] [] M) (h : VX11_corner c_X11_viewOf c_X10_numberOf c_X10_lot k66 (fun r M => R (f_thI r) M) x1 x2 x3 M) : f_E sh t YX11_corner rm cs (f_Q sh t R) 0 [.inr (.inr (.inl (11, 15, 0))), .inl x1, .inl x2, .inl x3, .inr (.inr (.inr ())), .inr (.inr (.inr ())), .inr (.inr (.inr ()))] [] M :=
  f_go (KC := f_kc [(66, f_pl [(0, 0, 0), (0, 0, 0), (0, 0, 0), (0, 0, 0), (0, 0, 0), (0, 0, 0), (0, 0, 0)] [] (fun ls st M => k66 M))]) C qX11_cornerf (f_kc_cons (f_pl_ok rfl (fun ls st M h => h66  M h)) f_kc_nil) 48 0 h
def WX11_corner_66 (Q : Option Int → e_M → Prop) (M : e_M) : Prop :=
  VX11_corner_66 WX11_viewOf WX10_numberOf WX10_lot Q M
def WX11_corner (x1 : Int) (x2 : Int) (x3 : Int) (M : e_M) (Q : Option Int → e_M → Prop) : Prop :=
  VX11_corner WX11_viewOf WX10_numberOf WX10_lot (WX11_corner_66 Q) Q x1 x2 x3 M
theorem PX11_corner_66 {sh : Nat → Nat × Nat} {t : Nat} {rm : Nat × Nat × Nat} {cs : Nat × Nat} {R : f_Rt} {M : e_M} (C : f_Hy sh t yX11_corner rm cs 11 (lX11_corner WX11_viewOf WX10_numberOf WX10_lot) R) (h : WX11_corner_66 (fun r M => R (f_thI r) M) M) : f_E sh t YX11_corner rm cs (f_Q sh t R) 66 [.inr (.inr (.inr ())), .inr (.inr (.inr ())), .inr (.inr (.inr ())), .inr (.inr (.inr ())), .inr (.inr (.inr ())), .inr (.inr (.inr ())), .inr (.inr (.inr ()))] [] M :=
  BX11_corner_66 C h
theorem PX11_corner {sh : Nat → Nat × Nat} {t : Nat} {rm : Nat × Nat × Nat} {cs : Nat × Nat} {R : f_Rt} {x1 : Int} {x2 : Int} {x3 : Int} {M : e_M} (C : f_Hy sh t yX11_corner rm cs 11 (lX11_corner WX11_viewOf WX10_numberOf WX10_lot) R) (h : WX11_corner x1 x2 x3 M (fun r M => R (f_thI r) M)) : f_E sh t YX11_corner rm cs (f_Q sh t R) 0 [.inr (.inr (.inl (11, 15, 0))), .inl x1, .inl x2, .inl x3, .inr (.inr (.inr ())), .inr (.inr (.inr ())), .inr (.inr (.inr ()))] [] M :=
  BX11_corner C (fun M h => PX11_corner_66 C h) h
def wX11_corner : f_Wt := f_wm [(10, 11, 15), (1, 0, 0), (1, 0, 0), (1, 0, 0)] (fun ar M R => WX11_corner (f_vi (f_nth ar 1)) (f_vi (f_nth ar 2)) (f_vi (f_nth ar 3)) M (fun r M => R (f_thI r) M))
theorem TX11_corner {sh : Nat → Nat × Nat} {t : Nat} : f_Mt sh t YX11_corner 11 (wX11_corner) :=
  f_Mt_of (k := 3) (Nat.le_of_ble_eq_true rfl) rfl rfl (fun ar M R rm cs h1 h2 h3 hX h => PX11_corner ⟨Nat.le_of_ble_eq_true rfl, h1, h2, h3, ⟨(f_Mt.up (Nat.le_of_ble_eq_true rfl) TX11_viewOf), (f_Mt.up (Nat.le_of_ble_eq_true rfl) TX10_numberOf), (f_Mt.up (Nat.le_of_ble_eq_true rfl) TX10_lot), trivial⟩, hX⟩ h)
theorem thX11_owner_63 : x_okX YX11_owner 63 := fun sh rm ls st g cs Q h6 h8 h1 h2 hQ =>
  e_throwNS (Y := YX11_owner) (pc := 63) (is := 242) (text := "no such owner") (j := 27) rfl (by decide +kernel) mwX11_owner.1 (e_dx DX11_owner_0 31 rfl) (e_dx DX11_owner_0 32 rfl) (e_dx DX11_owner_0 33 rfl) (e_dx DX11_owner_0 34 rfl) (e_dx DX11_owner_0 35 rfl) h6 h8 h1 h2 hQ
def VX11_owner_63 (c_X11_viewOf : Nat → Int → Int → e_M → (Nat → e_M → Prop) → Prop) (c_X10_numberOf : Nat → Int → Int → e_M → (Int → Prop) → Prop) (c_X10_lot : Nat → Int → e_M → (Nat → Prop) → Prop) (c_X10_ownerFact : Nat → Nat → Int → Int → e_M → (Int → Prop) → Prop) (Q : Option Int → e_M → Prop) (M : e_M) : Prop :=
  (Q none M)
def VX11_owner (c_X11_viewOf : Nat → Int → Int → e_M → (Nat → e_M → Prop) → Prop) (c_X10_numberOf : Nat → Int → Int → e_M → (Int → Prop) → Prop) (c_X10_lot : Nat → Int → e_M → (Nat → Prop) → Prop) (c_X10_ownerFact : Nat → Nat → Int → Int → e_M → (Int → Prop) → Prop) (k63 : e_M → Prop) (Q : Option Int → e_M → Prop) (x1 : Int) (x2 : Int) (x3 : Int) (M : e_M) : Prop :=
  (c_X11_viewOf 25 (M 0 3) (M 0 4) M (fun r1 M2 => (c_X10_numberOf r1 0 x1 M2 (fun r3 => (c_X10_lot r1 r3 M2 (fun r4 => ((r3 < 0 → (k63 M2)) ∧ (0 ≤ r3 → ((x2 < 0 → (k63 M2)) ∧ (0 ≤ x2 → (((M2 r4 8) ≤ x2 → (k63 M2)) ∧ (x2 < (M2 r4 8) → ((x3 < 0 → (k63 M2)) ∧ (0 ≤ x3 → ((x3 ≤ 2 → (c_X10_ownerFact r1 r4 x2 x3 M2 (fun r5 => (Q (some r5) M2)))) ∧ (2 < x3 → (k63 M2)))))))))))))))))
def yX11_owner (i : Nat) : e_Y := x_get YX11_owner [YX11_viewOf, YX10_numberOf, YX10_lot, YX10_ownerFact] i
def pX11_ownerf : List x_I := [(0, 4, 1, 0, 0, 0, []), (1, 4, 1, 0, 0, 0, []), (2, 25, 11, 11, 4, 0, [(0, 10, 15), (0, 1, 25)]), (5, 4, 1, 0, 0, 0, []), (6, 25, 11, 3, 0, 0, []), (9, 4, 1, 0, 0, 0, []), (10, 25, 11, 4, 0, 0, []), (13, 40, 0, 4, 13, 0, []), (16, 7, 2, 4, 0, 0, []), (18, 4, 2, 4, 0, 0, []), (20, 0, 1, 0, 0, 0, []), (21, 2, 1, 1, 0, 0, []), (22, 40, 1, 3, 12, 0, []), (25, 5, 2, 5, 0, 0, []), (27, 4, 2, 4, 0, 0, []), (29, 2, 2, 5, 0, 0, []), (31, 40, 2, 2, 12, 0, []), (34, 7, 2, 6, 0, 0, []), (36, 2, 2, 5, 0, 0, []), (38, 17, 63, 2, 32, 0, []), (41, 2, 1, 2, 0, 0, []), (42, 17, 63, 2, 32, 0, []), (45, 2, 1, 2, 0, 0, []), (46, 4, 2, 6, 0, 0, []), (48, 25, 4, 8, 0, 0, []), (51, 18, 63, 3, 32, 0, []), (54, 2, 1, 3, 0, 0, []), (55, 17, 63, 2, 32, 0, []), (58, 2, 1, 3, 0, 0, []), (59, 0, 1, 0, 0, 2, []), (60, 18, 73, 5, 34, 0, []), (63, 49, 0, 0, 0, 0, []), (63, 46, 0, 0, 0, 0, []), (73, 4, 2, 4, 0, 0, []), (75, 4, 2, 6, 0, 0, []), (77, 2, 1, 2, 0, 0, []), (78, 2, 1, 3, 0, 0, []), (79, 40, 3, 4, 12, 0, []), (82, 41, 0, 0, 0, 0, [])]
set_option maxRecDepth 20000 in
theorem qX11_ownerf : f_all yX11_owner YX11_owner pX11_ownerf :=
  ⟨f_aload_n (n := 0) (e_dx DX11_owner_0 0 rfl) rfl,
  f_aload_n (n := 0) (e_dx DX11_owner_0 1 rfl) rfl,
  f_getA (e_dx DX11_owner_0 2 rfl) fX11_62 rfl (by decide) (Nat.le_of_ble_eq_true rfl) rfl (by decide),
  f_aload_n (n := 0) (e_dx DX11_owner_0 3 rfl) rfl,
  f_getf (e_dx DX11_owner_0 4 rfl) fX11_20 rfl (by decide) (by decide) (by decide),
  f_aload_n (n := 0) (e_dx DX11_owner_0 5 rfl) rfl,
  f_getf (e_dx DX11_owner_0 6 rfl) fX11_23 rfl (by decide) (by decide) (by decide),
  x_callV (e_dx DX11_owner_0 7 rfl) mwX11_viewOf vwX11_viewOf cX11_115 rfl,
  f_astore (e_dx DX11_owner_0 8 rfl) (by decide),
  f_aload (e_dx DX11_owner_0 9 rfl),
  f_iconst (e_dx DX11_owner_0 10 rfl) ⟨by decide, by decide⟩,
  f_iload_n (n := 1) (e_dx DX11_owner_0 11 rfl) rfl,
  x_callV (e_dx DX11_owner_0 12 rfl) mwX10_numberOf vwX10_numberOf cX11_204 rfl,
  f_istore (e_dx DX11_owner_0 13 rfl) (by decide),
  f_aload (e_dx DX11_owner_0 14 rfl),
  f_iload (e_dx DX11_owner_0 15 rfl),
  x_callV (e_dx DX11_owner_0 16 rfl) mwX10_lot vwX10_lot cX11_217 rfl,
  f_astore (e_dx DX11_owner_0 17 rfl) (by decide),
  f_iload (e_dx DX11_owner_0 18 rfl),
  f_if_lt (e_dx DX11_owner_0 19 rfl) rfl,
  f_iload_n (n := 2) (e_dx DX11_owner_0 20 rfl) rfl,
  f_if_lt (e_dx DX11_owner_0 21 rfl) rfl,
  f_iload_n (n := 2) (e_dx DX11_owner_0 22 rfl) rfl,
  f_aload (e_dx DX11_owner_0 23 rfl),
  f_getf (e_dx DX11_owner_0 24 rfl) fX11_239 rfl (by decide) (by decide) (by decide),
  f_icmp_ge (e_dx DX11_owner_0 25 rfl) rfl,
  f_iload_n (n := 3) (e_dx DX11_owner_0 26 rfl) rfl,
  f_if_lt (e_dx DX11_owner_0 27 rfl) rfl,
  f_iload_n (n := 3) (e_dx DX11_owner_0 28 rfl) rfl,
  f_iconst (e_dx DX11_owner_0 29 rfl) ⟨by decide, by decide⟩,
  f_icmp_le (e_dx DX11_owner_0 30 rfl) rfl,
  trivial,
  thX11_owner_63,
  f_aload (e_dx DX11_owner_0 36 rfl),
  f_aload (e_dx DX11_owner_0 37 rfl),
  f_iload_n (n := 2) (e_dx DX11_owner_0 38 rfl) rfl,
  f_iload_n (n := 3) (e_dx DX11_owner_0 39 rfl) rfl,
  x_callV (e_dx DX11_owner_1 0 rfl) mwX10_ownerFact vwX10_ownerFact cX11_244 rfl,
  ⟨(e_dx DX11_owner_1 1 rfl), rfl⟩, trivial⟩
def lX11_owner (c_X11_viewOf : Nat → Int → Int → e_M → (Nat → e_M → Prop) → Prop) (c_X10_numberOf : Nat → Int → Int → e_M → (Int → Prop) → Prop) (c_X10_lot : Nat → Int → e_M → (Nat → Prop) → Prop) (c_X10_ownerFact : Nat → Nat → Int → Int → e_M → (Int → Prop) → Prop) : List (Nat × f_Wt) := [(0, f_wm [(10, 11, 15), (3, 10, 15), (1, 0, 0), (1, 0, 0)] (fun ar M R => c_X11_viewOf (f_va (f_nth ar 1)) (f_vi (f_nth ar 2)) (f_vi (f_nth ar 3)) M (fun r M => R (some (.inr (.inr (.inl (10, 15, r))))) M))), (1, f_wm [(3, 10, 15), (1, 0, 0), (1, 0, 0)] (fun ar M R => c_X10_numberOf (f_va (f_nth ar 0)) (f_vi (f_nth ar 1)) (f_vi (f_nth ar 2)) M (fun r => R (some (.inl r)) M))), (2, f_wm [(3, 10, 15), (1, 0, 0)] (fun ar M R => c_X10_lot (f_va (f_nth ar 0)) (f_vi (f_nth ar 1)) M (fun r => R (some (.inr (.inr (.inl (4, 9, r))))) M))), (3, f_wm [(3, 10, 15), (3, 4, 9), (1, 0, 0), (1, 0, 0)] (fun ar M R => c_X10_ownerFact (f_va (f_nth ar 0)) (f_va (f_nth ar 1)) (f_vi (f_nth ar 2)) (f_vi (f_nth ar 3)) M (fun r => R (some (.inl r)) M)))]
set_option maxRecDepth 20000 in
theorem BX11_owner_63 {sh : Nat → Nat × Nat} {t : Nat} {rm : Nat × Nat × Nat} {cs : Nat × Nat} {R : f_Rt} {c_X11_viewOf : Nat → Int → Int → e_M → (Nat → e_M → Prop) → Prop} {c_X10_numberOf : Nat → Int → Int → e_M → (Int → Prop) → Prop} {c_X10_lot : Nat → Int → e_M → (Nat → Prop) → Prop} {c_X10_ownerFact : Nat → Nat → Int → Int → e_M → (Int → Prop) → Prop} {M : e_M} (C : f_Hy sh t yX11_owner rm cs 11 (lX11_owner c_X11_viewOf c_X10_numberOf c_X10_lot c_X10_ownerFact) R) (h : VX11_owner_63 c_X11_viewOf c_X10_numberOf c_X10_lot c_X10_ownerFact (fun r M => R (f_thI r) M) M) : f_E sh t YX11_owner rm cs (f_Q sh t R) 63 [.inr (.inr (.inr ())), .inr (.inr (.inr ())), .inr (.inr (.inr ())), .inr (.inr (.inr ())), .inr (.inr (.inr ())), .inr (.inr (.inr ())), .inr (.inr (.inr ()))] [] M :=
  f_go (KC := f_kc []) C qX11_ownerf f_kc_nil 41 32 h
set_option maxRecDepth 20000 in
theorem BX11_owner {sh : Nat → Nat × Nat} {t : Nat} {rm : Nat × Nat × Nat} {cs : Nat × Nat} {R : f_Rt} {c_X11_viewOf : Nat → Int → Int → e_M → (Nat → e_M → Prop) → Prop} {c_X10_numberOf : Nat → Int → Int → e_M → (Int → Prop) → Prop} {c_X10_lot : Nat → Int → e_M → (Nat → Prop) → Prop} {c_X10_ownerFact : Nat → Nat → Int → Int → e_M → (Int → Prop) → Prop} {k63 : e_M → Prop} {x1 : Int} {x2 : Int} {x3 : Int} {M : e_M} (C : f_Hy sh t yX11_owner rm cs 11 (lX11_owner c_X11_viewOf c_X10_numberOf c_X10_lot c_X10_ownerFact) R) (h63 : ∀ (M : e_M), k63 M → f_E sh t YX11_owner rm cs (f_Q sh t R) 63 [.inr (.inr (.inr ())), .inr (.inr (.inr ())), .inr (.inr (.inr ())), .inr (.inr (.inr ())), .inr (.inr (.inr ())), .inr (.inr (.inr ())), .inr (.inr (.inr ()))] [] M) (h : VX11_owner c_X11_viewOf c_X10_numberOf c_X10_lot c_X10_ownerFact k63 (fun r M => R (f_thI r) M) x1 x2 x3 M) : f_E sh t YX11_owner rm cs (f_Q sh t R) 0 [.inr (.inr (.inl (11, 15, 0))), .inl x1, .inl x2, .inl x3, .inr (.inr (.inr ())), .inr (.inr (.inr ())), .inr (.inr (.inr ()))] [] M :=
  f_go (KC := f_kc [(63, f_pl [(0, 0, 0), (0, 0, 0), (0, 0, 0), (0, 0, 0), (0, 0, 0), (0, 0, 0), (0, 0, 0)] [] (fun ls st M => k63 M))]) C qX11_ownerf (f_kc_cons (f_pl_ok rfl (fun ls st M h => h63  M h)) f_kc_nil) 41 0 h
def WX11_owner_63 (Q : Option Int → e_M → Prop) (M : e_M) : Prop :=
  VX11_owner_63 WX11_viewOf WX10_numberOf WX10_lot WX10_ownerFact Q M
def WX11_owner (x1 : Int) (x2 : Int) (x3 : Int) (M : e_M) (Q : Option Int → e_M → Prop) : Prop :=
  VX11_owner WX11_viewOf WX10_numberOf WX10_lot WX10_ownerFact (WX11_owner_63 Q) Q x1 x2 x3 M
theorem PX11_owner_63 {sh : Nat → Nat × Nat} {t : Nat} {rm : Nat × Nat × Nat} {cs : Nat × Nat} {R : f_Rt} {M : e_M} (C : f_Hy sh t yX11_owner rm cs 11 (lX11_owner WX11_viewOf WX10_numberOf WX10_lot WX10_ownerFact) R) (h : WX11_owner_63 (fun r M => R (f_thI r) M) M) : f_E sh t YX11_owner rm cs (f_Q sh t R) 63 [.inr (.inr (.inr ())), .inr (.inr (.inr ())), .inr (.inr (.inr ())), .inr (.inr (.inr ())), .inr (.inr (.inr ())), .inr (.inr (.inr ())), .inr (.inr (.inr ()))] [] M :=
  BX11_owner_63 C h
theorem PX11_owner {sh : Nat → Nat × Nat} {t : Nat} {rm : Nat × Nat × Nat} {cs : Nat × Nat} {R : f_Rt} {x1 : Int} {x2 : Int} {x3 : Int} {M : e_M} (C : f_Hy sh t yX11_owner rm cs 11 (lX11_owner WX11_viewOf WX10_numberOf WX10_lot WX10_ownerFact) R) (h : WX11_owner x1 x2 x3 M (fun r M => R (f_thI r) M)) : f_E sh t YX11_owner rm cs (f_Q sh t R) 0 [.inr (.inr (.inl (11, 15, 0))), .inl x1, .inl x2, .inl x3, .inr (.inr (.inr ())), .inr (.inr (.inr ())), .inr (.inr (.inr ()))] [] M :=
  BX11_owner C (fun M h => PX11_owner_63 C h) h
def wX11_owner : f_Wt := f_wm [(10, 11, 15), (1, 0, 0), (1, 0, 0), (1, 0, 0)] (fun ar M R => WX11_owner (f_vi (f_nth ar 1)) (f_vi (f_nth ar 2)) (f_vi (f_nth ar 3)) M (fun r M => R (f_thI r) M))
theorem TX11_owner {sh : Nat → Nat × Nat} {t : Nat} : f_Mt sh t YX11_owner 11 (wX11_owner) :=
  f_Mt_of (k := 3) (Nat.le_of_ble_eq_true rfl) rfl rfl (fun ar M R rm cs h1 h2 h3 hX h => PX11_owner ⟨Nat.le_of_ble_eq_true rfl, h1, h2, h3, ⟨(f_Mt.up (Nat.le_of_ble_eq_true rfl) TX11_viewOf), (f_Mt.up (Nat.le_of_ble_eq_true rfl) TX10_numberOf), (f_Mt.up (Nat.le_of_ble_eq_true rfl) TX10_lot), (f_Mt.up (Nat.le_of_ble_eq_true rfl) TX10_ownerFact), trivial⟩, hX⟩ h)
