/-! the law's loop, out of what both sides answer, in words -/
theorem f_use {sh : Nat → Nat × Nat} {t : Nat} {Y : e_Y} {D : Nat} {P : f_Wt} (T : f_Mt sh t Y D P) {ar : List f_V} {M : e_M} {R : f_Rt} {rm : Nat × Nat × Nat} {cs : Nat × Nat} {Q : Option e_V → e_G → Prop} {n : Nat} {vs : List e_V} (hn : Y.2.2.1 = n) (hv : ar.map f_ev = vs) (h : P ar M R) (hD : D ≤ rm.1) (h1 : cs.1 ≤ rm.2.1) (h2 : cs.2 ≤ rm.2.2) (tv : f_tvs sh t ar) (ty : f_Ty sh M t) (hX : ∀ M, R (some (.inr (.inr (.inr ())))) M → 6 ≤ rm.1 ∧ cs.1 + 1 ≤ rm.2.1 ∧ cs.2 + 6 ≤ rm.2.2) (hQ : ∀ w M', f_Ty sh M' t → R w M' → Q (w.map f_ev) (M', t)) : e_T sh Y rm 0 (e_loc n vs) [] (M, t) cs Q := by
  subst hn hv
  refine e_T.mono (T.2 ar M R rm cs h hD h1 h2 tv ty hX).2 (fun v g' hh => ?_)
  obtain ⟨w, e1, -, e2, e3, e4⟩ := hh
  obtain ⟨m, t'⟩ := g'
  have e2' : t' = t := e2
  subst e2'
  rw [e1]
  exact hQ w m e3 e4
def gl_rI (P : Int → e_M → Prop) : f_Rt := fun v M => match v with
  | some (.inl x) => P x M
  | _ => False
def gl_rJ (P : Int → e_M → Prop) : f_Rt := fun v M => match v with
  | some (.inr (.inl x)) => P x M
  | _ => False
def gl_oI (P : Option Int → e_M → Prop) : f_Rt := fun v M => match v with
  | some (.inl x) => P (some x) M
  | some (.inr (.inr (.inr _))) => P none M
  | _ => False
def gl_oJ (P : Option Int → e_M → Prop) : f_Rt := fun v M => match v with
  | some (.inr (.inl x)) => P (some x) M
  | some (.inr (.inr (.inr _))) => P none M
  | _ => False
theorem gl_I {P : Int → e_M → Prop} {w : Option f_V} {M : e_M} (h : gl_rI P w M) : ∃ x, w = some (.inl x) ∧ P x M := by
  rcases w with _ | x | x | x | x
  · exact False.elim h
  · exact ⟨x, rfl, h⟩
  · exact False.elim h
  · exact False.elim h
  · exact False.elim h
theorem gl_J {P : Int → e_M → Prop} {w : Option f_V} {M : e_M} (h : gl_rJ P w M) : ∃ x, w = some (.inr (.inl x)) ∧ P x M := by
  rcases w with _ | x | x | x | x
  · exact False.elim h
  · exact False.elim h
  · exact ⟨x, rfl, h⟩
  · exact False.elim h
  · exact False.elim h
theorem gl_OI {P : Option Int → e_M → Prop} {w : Option f_V} {M : e_M} (h : gl_oI P w M) : (∃ x, w = some (.inl x) ∧ P (some x) M) ∨ (w = some (.inr (.inr (.inr ()))) ∧ P none M) := by
  rcases w with _ | x | x | x | x
  · exact False.elim h
  · exact Or.inl ⟨x, rfl, h⟩
  · exact False.elim h
  · exact False.elim h
  · exact Or.inr ⟨rfl, h⟩
theorem gl_OJ {P : Option Int → e_M → Prop} {w : Option f_V} {M : e_M} (h : gl_oJ P w M) : (∃ x, w = some (.inr (.inl x)) ∧ P (some x) M) ∨ (w = some (.inr (.inr (.inr ()))) ∧ P none M) := by
  rcases w with _ | x | x | x | x
  · exact False.elim h
  · exact False.elim h
  · exact Or.inl ⟨x, rfl, h⟩
  · exact False.elim h
  · exact Or.inr ⟨rfl, h⟩
def gl_C0 (sh : Nat → Nat × Nat) (t : Nat) : Prop := sh 0 = (11, 15) ∧ sh 4456 = (12, 123) ∧ sh 4533 = (23, 1) ∧ 4534 ≤ t
theorem gl_tv1 {sh : Nat → Nat × Nat} {t : Nat} {l : List Int} (h : gl_C0 sh t) : f_tvs sh t (.inr (.inr (.inl (11, 15, 0))) :: l.map (fun x => (.inl x : f_V))) := by
  intro v hv
  rcases List.mem_cons.mp hv with rfl | hv
  · exact Or.inl ⟨by decide, h.1, by show 0 < t; have := h.2.2.2; omega⟩
  · obtain ⟨x, -, rfl⟩ := List.mem_map.mp hv
    trivial
theorem gl_tv2 {sh : Nat → Nat × Nat} {t : Nat} {l : List Int} (h : gl_C0 sh t) : f_tvs sh t (.inr (.inr (.inl (12, 123, 4456))) :: l.map (fun x => (.inl x : f_V))) := by
  intro v hv
  rcases List.mem_cons.mp hv with rfl | hv
  · exact Or.inl ⟨by decide, h.2.1, by show 4456 < t; have := h.2.2.2; omega⟩
  · obtain ⟨x, -, rfl⟩ := List.mem_map.mp hv
    trivial
theorem gl_ty {sh : Nat → Nat × Nat} {t : Nat} {M : e_M} {w : Int} (h : gl_C0 sh t) (ty : f_Ty sh M t) : f_Ty sh (e_up M 4533 0 w) t := by
  obtain ⟨y1, y2, y3⟩ := ty
  refine ⟨y1, fun a ha => ⟨fun k k1 k2 k3 => ?_, fun k k1 k2 k3 => ?_⟩, fun j hj => ⟨(y3 j hj).1, fun k hk => ?_⟩⟩
  · have c : a ≠ 4533 := fun e => by rw [e, h.2.2.1] at k1; omega
    have e : e_up M 4533 0 w a = M a := e_up_row c
    have := (y2 a ha).1 k k1 k2 k3
    unfold f_fc at this ⊢
    rw [e]
    exact this
  · have c : a ≠ 4533 := fun e => by rw [e, h.2.2.1] at k1; omega
    have e : e_up M 4533 0 w a = M a := e_up_row c
    rw [e]
    exact (y2 a ha).2 k k1 k2 k3
  · have e : e_up M 4533 0 w (1000001 + j) = M (1000001 + j) := e_up_row (by omega)
    rw [e]
    exact (y3 j hj).2 k hk
section GLUE
variable {sh : Nat → Nat × Nat} {rm : Nat × Nat × Nat} {cs : Nat × Nat} {Q : Option e_V → e_G → Prop} {i L t : Nat} {M : e_M} {ls : List e_V} {J : Nat → e_M → Prop}
/-- what is wanted behind a call: the case's end from any memory that J says -/
def gl_K (sh : Nat → Nat × Nat) (rm : Nat × Nat × Nat) (Q : Option e_V → e_G → Prop) (i : Nat) (cs : Nat × Nat) (J : Nat → e_M → Prop) (t : Nat) : Prop := ∀ (t' : Nat) (M2 : e_M) (cs2 : Nat × Nat) (ls2 : List e_V), t ≤ t' → lw_L i ls2 → f_Ty sh M2 t' → J t' M2 → cs2.1 ≤ cs.1 + 12 → cs2.2 ≤ cs.2 + 120 → e_T sh YL_law rm 830 ls2 [] (M2, t') cs2 Q
theorem gl_feed (hS : lw_S sh L) (h0 : gl_C0 sh t) (hl : lw_L i ls) (hi : i + 6 ≤ L) (hr : 600 ≤ rm.1) (c1 : cs.1 + 12 ≤ rm.2.1) (c2 : cs.2 + 120 ≤ rm.2.2) (ty : f_Ty sh M t) (K : gl_K sh rm Q i cs J t) (hW : WX11_feed (M 1000000 (i + 1)) (M 1000000 (i + 2)) (M 1000000 (i + 3)) (M 1000000 (i + 4)) (M 1000000 (i + 5)) M (fun x M1 => M1 1000000 = M 1000000 ∧ WX12_feed (M 1000000 (i + 1)) (M 1000000 (i + 2)) (M 1000000 (i + 3)) (M 1000000 (i + 4)) (M 1000000 (i + 5)) M1 (fun y M2 => y = x ∧ J t M2))) : e_T sh YL_law rm 128 ls [] (M, t) cs Q := by
  refine law_feed (g := (M, t)) (r1 := (599, 0, 0)) (r2 := (599, 0, 0)) hS hl hi (by show 599 + 1 ≤ rm.1; omega) (by show cs.1 + 0 ≤ rm.2.1; omega) (by show cs.2 + 0 ≤ rm.2.2; omega) (by show 599 + 1 ≤ rm.1; omega) (by show cs.1 + 0 + 0 ≤ rm.2.1; omega) (by show cs.2 + 0 + 0 ≤ rm.2.2; omega) ?_
  refine f_use TX11_feed (ar := .inr (.inr (.inl (11, 15, 0))) :: [M 1000000 (i + 1), M 1000000 (i + 2), M 1000000 (i + 3), M 1000000 (i + 4), M 1000000 (i + 5)].map (fun x => (.inl x : f_V))) (R := gl_rI (fun x M1 => M1 1000000 = M 1000000 ∧ WX12_feed (M 1000000 (i + 1)) (M 1000000 (i + 2)) (M 1000000 (i + 3)) (M 1000000 (i + 4)) (M 1000000 (i + 5)) M1 (fun y M2 => y = x ∧ J t M2))) rfl rfl (by exact hW) (by show _ ≤ 599; exact Nat.le_of_ble_eq_true rfl) (Nat.zero_le _) (Nat.zero_le _) (gl_tv1 h0) ty (fun M hx => False.elim hx) (fun w M1 ty1 hR => ?_)
  obtain ⟨x, ew, e1, hR⟩ := gl_I hR
  refine ⟨x, by rw [ew]; rfl, fun _ => ?_⟩
  show e_T sh YX12_feed (599, 0, 0) 0 (e_loc _ [.inr (.inr (.inl 4456)), .inl (M1 1000000 (i + 1)), .inl (M1 1000000 (i + 2)), .inl (M1 1000000 (i + 3)), .inl (M1 1000000 (i + 4)), .inl (M1 1000000 (i + 5))]) [] (M1, t) (0, 0) _
  rw [e1]
  refine f_use TX12_feed (ar := .inr (.inr (.inl (12, 123, 4456))) :: [M 1000000 (i + 1), M 1000000 (i + 2), M 1000000 (i + 3), M 1000000 (i + 4), M 1000000 (i + 5)].map (fun x => (.inl x : f_V))) (R := gl_rI (fun y M2 => y = x ∧ J t M2)) rfl rfl (by exact hR) (by show _ ≤ 599; exact Nat.le_of_ble_eq_true rfl) (Nat.zero_le _) (Nat.zero_le _) (gl_tv2 h0) ty1 (fun M hx => False.elim hx) (fun w2 M2 ty2 hR2 => ?_)
  obtain ⟨y, ew2, e2, j⟩ := gl_I hR2
  exact ⟨by rw [ew2, e2]; rfl, fun _ => K t M2 _ ls (Nat.le_refl _) hl ty2 j (by show cs.1 + 0 + 0 ≤ _; omega) (by show cs.2 + 0 + 0 ≤ _; omega)⟩
theorem gl_end (hS : lw_S sh L) (h0 : gl_C0 sh t) (hl : lw_L i ls) (hi : i + 6 ≤ L) (hr : 600 ≤ rm.1) (c1 : cs.1 + 12 ≤ rm.2.1) (c2 : cs.2 + 120 ≤ rm.2.2) (ty : f_Ty sh M t) (K : gl_K sh rm Q i cs J t) (hW : WX11_end (M 1000000 (i + 1)) M (fun x M1 => M1 1000000 = M 1000000 ∧ WX12_end (M 1000000 (i + 1)) M1 (fun y M2 => y = x ∧ J t M2))) : e_T sh YL_law rm 201 ls [] (M, t) cs Q := by
  refine law_end (g := (M, t)) (r1 := (599, 0, 0)) (r2 := (599, 0, 0)) hS hl hi (by show 599 + 1 ≤ rm.1; omega) (by show cs.1 + 0 ≤ rm.2.1; omega) (by show cs.2 + 0 ≤ rm.2.2; omega) (by show 599 + 1 ≤ rm.1; omega) (by show cs.1 + 0 + 0 ≤ rm.2.1; omega) (by show cs.2 + 0 + 0 ≤ rm.2.2; omega) ?_
  refine f_use TX11_end (ar := .inr (.inr (.inl (11, 15, 0))) :: [M 1000000 (i + 1)].map (fun x => (.inl x : f_V))) (R := gl_rI (fun x M1 => M1 1000000 = M 1000000 ∧ WX12_end (M 1000000 (i + 1)) M1 (fun y M2 => y = x ∧ J t M2))) rfl rfl (by exact hW) (by show _ ≤ 599; exact Nat.le_of_ble_eq_true rfl) (Nat.zero_le _) (Nat.zero_le _) (gl_tv1 h0) ty (fun M hx => False.elim hx) (fun w M1 ty1 hR => ?_)
  obtain ⟨x, ew, e1, hR⟩ := gl_I hR
  refine ⟨x, by rw [ew]; rfl, fun _ => ?_⟩
  show e_T sh YX12_end (599, 0, 0) 0 (e_loc _ [.inr (.inr (.inl 4456)), .inl (M1 1000000 (i + 1))]) [] (M1, t) (0, 0) _
  rw [e1]
  refine f_use TX12_end (ar := .inr (.inr (.inl (12, 123, 4456))) :: [M 1000000 (i + 1)].map (fun x => (.inl x : f_V))) (R := gl_rI (fun y M2 => y = x ∧ J t M2)) rfl rfl (by exact hR) (by show _ ≤ 599; exact Nat.le_of_ble_eq_true rfl) (Nat.zero_le _) (Nat.zero_le _) (gl_tv2 h0) ty1 (fun M hx => False.elim hx) (fun w2 M2 ty2 hR2 => ?_)
  obtain ⟨y, ew2, e2, j⟩ := gl_I hR2
  exact ⟨by rw [ew2, e2]; rfl, fun _ => K t M2 _ ls (Nat.le_refl _) hl ty2 j (by show cs.1 + 0 + 0 ≤ _; omega) (by show cs.2 + 0 + 0 ≤ _; omega)⟩
theorem gl_clock (hS : lw_S sh L) (h0 : gl_C0 sh t) (hl : lw_L i ls) (hi : i + 6 ≤ L) (hr : 600 ≤ rm.1) (c1 : cs.1 + 12 ≤ rm.2.1) (c2 : cs.2 + 120 ≤ rm.2.2) (ty : f_Ty sh M t) (K : gl_K sh rm Q i cs J t) (hW : WX11_clock (M 1000000 (i + 1)) M (fun x M1 => M1 1000000 = M 1000000 ∧ WX12_clock (M 1000000 (i + 1)) M1 (fun y M2 => y = x ∧ J t M2))) : e_T sh YL_law rm 226 ls [] (M, t) cs Q := by
  refine law_clock (g := (M, t)) (r1 := (599, 0, 0)) (r2 := (599, 0, 0)) hS hl hi (by show 599 + 1 ≤ rm.1; omega) (by show cs.1 + 0 ≤ rm.2.1; omega) (by show cs.2 + 0 ≤ rm.2.2; omega) (by show 599 + 1 ≤ rm.1; omega) (by show cs.1 + 0 + 0 ≤ rm.2.1; omega) (by show cs.2 + 0 + 0 ≤ rm.2.2; omega) ?_
  refine f_use TX11_clock (ar := .inr (.inr (.inl (11, 15, 0))) :: [M 1000000 (i + 1)].map (fun x => (.inl x : f_V))) (R := gl_rI (fun x M1 => M1 1000000 = M 1000000 ∧ WX12_clock (M 1000000 (i + 1)) M1 (fun y M2 => y = x ∧ J t M2))) rfl rfl (by exact hW) (by show _ ≤ 599; exact Nat.le_of_ble_eq_true rfl) (Nat.zero_le _) (Nat.zero_le _) (gl_tv1 h0) ty (fun M hx => False.elim hx) (fun w M1 ty1 hR => ?_)
  obtain ⟨x, ew, e1, hR⟩ := gl_I hR
  refine ⟨x, by rw [ew]; rfl, fun _ => ?_⟩
  show e_T sh YX12_clock (599, 0, 0) 0 (e_loc _ [.inr (.inr (.inl 4456)), .inl (M1 1000000 (i + 1))]) [] (M1, t) (0, 0) _
  rw [e1]
  refine f_use TX12_clock (ar := .inr (.inr (.inl (12, 123, 4456))) :: [M 1000000 (i + 1)].map (fun x => (.inl x : f_V))) (R := gl_rI (fun y M2 => y = x ∧ J t M2)) rfl rfl (by exact hR) (by show _ ≤ 599; exact Nat.le_of_ble_eq_true rfl) (Nat.zero_le _) (Nat.zero_le _) (gl_tv2 h0) ty1 (fun M hx => False.elim hx) (fun w2 M2 ty2 hR2 => ?_)
  obtain ⟨y, ew2, e2, j⟩ := gl_I hR2
  exact ⟨by rw [ew2, e2]; rfl, fun _ => K t M2 _ ls (Nat.le_refl _) hl ty2 j (by show cs.1 + 0 + 0 ≤ _; omega) (by show cs.2 + 0 + 0 ≤ _; omega)⟩
theorem gl_fault (hS : lw_S sh L) (h0 : gl_C0 sh t) (hl : lw_L i ls) (hi : i + 6 ≤ L) (hr : 600 ≤ rm.1) (c1 : cs.1 + 12 ≤ rm.2.1) (c2 : cs.2 + 120 ≤ rm.2.2) (ty : f_Ty sh M t) (K : gl_K sh rm Q i cs J t) (hW : WX11_fault M (fun x => WX12_fault M (fun y M2 => y = x ∧ J t M2))) : e_T sh YL_law rm 264 ls [] (M, t) cs Q := by
  refine law_fault (g := (M, t)) (r1 := (599, 0, 0)) (r2 := (599, 0, 0)) hS hl hi (by show 599 + 1 ≤ rm.1; omega) (by show cs.1 + 0 ≤ rm.2.1; omega) (by show cs.2 + 0 ≤ rm.2.2; omega) (by show 599 + 1 ≤ rm.1; omega) (by show cs.1 + 0 + 0 ≤ rm.2.1; omega) (by show cs.2 + 0 + 0 ≤ rm.2.2; omega) ?_
  refine f_use TX11_fault (ar := .inr (.inr (.inl (11, 15, 0))) :: [].map (fun x => (.inl x : f_V))) (R := gl_rI (fun x M1 => M1 = M ∧ WX12_fault M (fun y M2 => y = x ∧ J t M2))) rfl rfl ?_ (by show _ ≤ 599; exact Nat.le_of_ble_eq_true rfl) (Nat.zero_le _) (Nat.zero_le _) (gl_tv1 h0) ty (fun M hx => False.elim hx) (fun w M1 ty1 hR => ?_)
  · have e : (fun r => gl_rI (fun x M1 => M1 = M ∧ WX12_fault M (fun y M2 => y = x ∧ J t M2)) (some (.inl r)) M) = (fun x => WX12_fault M (fun y M2 => y = x ∧ J t M2)) := funext (fun r => propext ⟨fun h => h.2, fun h => ⟨rfl, h⟩⟩)
    show WX11_fault M (fun r => gl_rI (fun x M1 => M1 = M ∧ WX12_fault M (fun y M2 => y = x ∧ J t M2)) (some (.inl r)) M)
    rw [e]; exact hW
  obtain ⟨x, ew, e1, hR⟩ := gl_I hR
  refine ⟨x, by rw [ew]; rfl, fun _ => ?_⟩
  subst e1
  refine f_use TX12_fault (ar := .inr (.inr (.inl (12, 123, 4456))) :: [].map (fun x => (.inl x : f_V))) (R := gl_rI (fun y M2 => y = x ∧ J t M2)) rfl rfl (by exact hR) (by show _ ≤ 599; exact Nat.le_of_ble_eq_true rfl) (Nat.zero_le _) (Nat.zero_le _) (gl_tv2 h0) ty1 (fun M hx => False.elim hx) (fun w2 M2 ty2 hR2 => ?_)
  obtain ⟨y, ew2, e2, j⟩ := gl_I hR2
  exact ⟨by rw [ew2, e2]; rfl, fun _ => K t M2 _ ls (Nat.le_refl _) hl ty2 j (by show cs.1 + 0 + 0 ≤ _; omega) (by show cs.2 + 0 + 0 ≤ _; omega)⟩
theorem gl_suppose (hS : lw_S sh L) (h0 : gl_C0 sh t) (hl : lw_L i ls) (hi : i + 6 ≤ L) (hr : 600 ≤ rm.1) (c1 : cs.1 + 12 ≤ rm.2.1) (c2 : cs.2 + 120 ≤ rm.2.2) (ty : f_Ty sh M t) (K : gl_K sh rm Q i cs J t) (hW : WX11_suppose M (fun x M1 => M1 1000000 = M 1000000 ∧ WX12_suppose M1 (fun y M2 => y = x ∧ J t M2))) : e_T sh YL_law rm 277 ls [] (M, t) cs Q := by
  refine law_suppose (g := (M, t)) (r1 := (599, 0, 0)) (r2 := (599, 0, 0)) hS hl hi (by show 599 + 1 ≤ rm.1; omega) (by show cs.1 + 0 ≤ rm.2.1; omega) (by show cs.2 + 0 ≤ rm.2.2; omega) (by show 599 + 1 ≤ rm.1; omega) (by show cs.1 + 0 + 0 ≤ rm.2.1; omega) (by show cs.2 + 0 + 0 ≤ rm.2.2; omega) ?_
  refine f_use TX11_suppose (ar := .inr (.inr (.inl (11, 15, 0))) :: [].map (fun x => (.inl x : f_V))) (R := gl_rI (fun x M1 => M1 1000000 = M 1000000 ∧ WX12_suppose M1 (fun y M2 => y = x ∧ J t M2))) rfl rfl (by exact hW) (by show _ ≤ 599; exact Nat.le_of_ble_eq_true rfl) (Nat.zero_le _) (Nat.zero_le _) (gl_tv1 h0) ty (fun M hx => False.elim hx) (fun w M1 ty1 hR => ?_)
  obtain ⟨x, ew, e1, hR⟩ := gl_I hR
  refine ⟨x, by rw [ew]; rfl, fun _ => ?_⟩
  refine f_use TX12_suppose (ar := .inr (.inr (.inl (12, 123, 4456))) :: [].map (fun x => (.inl x : f_V))) (R := gl_rI (fun y M2 => y = x ∧ J t M2)) rfl rfl (by exact hR) (by show _ ≤ 599; exact Nat.le_of_ble_eq_true rfl) (Nat.zero_le _) (Nat.zero_le _) (gl_tv2 h0) ty1 (fun M hx => False.elim hx) (fun w2 M2 ty2 hR2 => ?_)
  obtain ⟨y, ew2, e2, j⟩ := gl_I hR2
  exact ⟨by rw [ew2, e2]; rfl, fun _ => K t M2 _ ls (Nat.le_refl _) hl ty2 j (by show cs.1 + 0 + 0 ≤ _; omega) (by show cs.2 + 0 + 0 ≤ _; omega)⟩
theorem gl_view (hS : lw_S sh L) (h0 : gl_C0 sh t) (hl : lw_L i ls) (hi : i + 6 ≤ L) (hr : 600 ≤ rm.1) (c1 : cs.1 + 12 ≤ rm.2.1) (c2 : cs.2 + 120 ≤ rm.2.2) (ty : f_Ty sh M t) (K : gl_K sh rm Q i cs J t) (hW : WX11_view (M 1000000 (i + 1)) (M 1000000 (i + 2)) M (fun x M1 => M1 1000000 = M 1000000 ∧ WX12_view (M 1000000 (i + 1)) (M 1000000 (i + 2)) M1 (fun y M2 => y = x ∧ J t M2))) : e_T sh YL_law rm 290 ls [] (M, t) cs Q := by
  refine law_view (g := (M, t)) (r1 := (599, 0, 0)) (r2 := (599, 0, 0)) hS hl hi (by show 599 + 1 ≤ rm.1; omega) (by show cs.1 + 0 ≤ rm.2.1; omega) (by show cs.2 + 0 ≤ rm.2.2; omega) (by show 599 + 1 ≤ rm.1; omega) (by show cs.1 + 0 + 0 ≤ rm.2.1; omega) (by show cs.2 + 0 + 0 ≤ rm.2.2; omega) ?_
  refine f_use TX11_view (ar := .inr (.inr (.inl (11, 15, 0))) :: [M 1000000 (i + 1), M 1000000 (i + 2)].map (fun x => (.inl x : f_V))) (R := gl_rI (fun x M1 => M1 1000000 = M 1000000 ∧ WX12_view (M 1000000 (i + 1)) (M 1000000 (i + 2)) M1 (fun y M2 => y = x ∧ J t M2))) rfl rfl (by exact hW) (by show _ ≤ 599; exact Nat.le_of_ble_eq_true rfl) (Nat.zero_le _) (Nat.zero_le _) (gl_tv1 h0) ty (fun M hx => False.elim hx) (fun w M1 ty1 hR => ?_)
  obtain ⟨x, ew, e1, hR⟩ := gl_I hR
  refine ⟨x, by rw [ew]; rfl, fun _ => ?_⟩
  show e_T sh YX12_view (599, 0, 0) 0 (e_loc _ [.inr (.inr (.inl 4456)), .inl (M1 1000000 (i + 1)), .inl (M1 1000000 (i + 2))]) [] (M1, t) (0, 0) _
  rw [e1]
  refine f_use TX12_view (ar := .inr (.inr (.inl (12, 123, 4456))) :: [M 1000000 (i + 1), M 1000000 (i + 2)].map (fun x => (.inl x : f_V))) (R := gl_rI (fun y M2 => y = x ∧ J t M2)) rfl rfl (by exact hR) (by show _ ≤ 599; exact Nat.le_of_ble_eq_true rfl) (Nat.zero_le _) (Nat.zero_le _) (gl_tv2 h0) ty1 (fun M hx => False.elim hx) (fun w2 M2 ty2 hR2 => ?_)
  obtain ⟨y, ew2, e2, j⟩ := gl_I hR2
  exact ⟨by rw [ew2, e2]; rfl, fun _ => K t M2 _ ls (Nat.le_refl _) hl ty2 j (by show cs.1 + 0 + 0 ≤ _; omega) (by show cs.2 + 0 + 0 ≤ _; omega)⟩
theorem gl_came (hS : lw_S sh L) (h0 : gl_C0 sh t) (hl : lw_L i ls) (hi : i + 6 ≤ L) (hr : 600 ≤ rm.1) (c1 : cs.1 + 12 ≤ rm.2.1) (c2 : cs.2 + 120 ≤ rm.2.2) (ty : f_Ty sh M t) (K : gl_K sh rm Q i cs J t) (hW : WX11_came (M 1000000 (i + 1)) M (fun x M1 => M1 1000000 = M 1000000 ∧ WX12_came (M 1000000 (i + 1)) M1 (fun y M2 => y = x ∧ J t M2))) : e_T sh YL_law rm 327 ls [] (M, t) cs Q := by
  refine law_came (g := (M, t)) (r1 := (599, 0, 0)) (r2 := (599, 0, 0)) hS hl hi (by show 599 + 1 ≤ rm.1; omega) (by show cs.1 + 0 ≤ rm.2.1; omega) (by show cs.2 + 0 ≤ rm.2.2; omega) (by show 599 + 1 ≤ rm.1; omega) (by show cs.1 + 0 + 0 ≤ rm.2.1; omega) (by show cs.2 + 0 + 0 ≤ rm.2.2; omega) ?_
  refine f_use TX11_came (ar := .inr (.inr (.inl (11, 15, 0))) :: [M 1000000 (i + 1)].map (fun x => (.inl x : f_V))) (R := gl_rI (fun x M1 => M1 1000000 = M 1000000 ∧ WX12_came (M 1000000 (i + 1)) M1 (fun y M2 => y = x ∧ J t M2))) rfl rfl (by exact hW) (by show _ ≤ 599; exact Nat.le_of_ble_eq_true rfl) (Nat.zero_le _) (Nat.zero_le _) (gl_tv1 h0) ty (fun M hx => False.elim hx) (fun w M1 ty1 hR => ?_)
  obtain ⟨x, ew, e1, hR⟩ := gl_I hR
  refine ⟨x, by rw [ew]; rfl, fun _ => ?_⟩
  show e_T sh YX12_came (599, 0, 0) 0 (e_loc _ [.inr (.inr (.inl 4456)), .inl (M1 1000000 (i + 1))]) [] (M1, t) (0, 0) _
  rw [e1]
  refine f_use TX12_came (ar := .inr (.inr (.inl (12, 123, 4456))) :: [M 1000000 (i + 1)].map (fun x => (.inl x : f_V))) (R := gl_rI (fun y M2 => y = x ∧ J t M2)) rfl rfl (by exact hR) (by show _ ≤ 599; exact Nat.le_of_ble_eq_true rfl) (Nat.zero_le _) (Nat.zero_le _) (gl_tv2 h0) ty1 (fun M hx => False.elim hx) (fun w2 M2 ty2 hR2 => ?_)
  obtain ⟨y, ew2, e2, j⟩ := gl_I hR2
  exact ⟨by rw [ew2, e2]; rfl, fun _ => K t M2 _ ls (Nat.le_refl _) hl ty2 j (by show cs.1 + 0 + 0 ≤ _; omega) (by show cs.2 + 0 + 0 ≤ _; omega)⟩
theorem gl_ask (hS : lw_S sh L) (h0 : gl_C0 sh t) (hl : lw_L i ls) (hi : i + 6 ≤ L) (hr : 600 ≤ rm.1) (c1 : cs.1 + 12 ≤ rm.2.1) (c2 : cs.2 + 120 ≤ rm.2.2) (ty : f_Ty sh M t) (K : gl_K sh rm Q i cs J t) (hW : WX11_ask M (fun x M1 => M1 1000000 = M 1000000 ∧ WX12_ask M1 (fun y M2 => y = x ∧ J t M2))) : e_T sh YL_law rm 352 ls [] (M, t) cs Q := by
  refine law_ask (g := (M, t)) (r1 := (599, 0, 0)) (r2 := (599, 0, 0)) hS hl hi (by show 599 + 1 ≤ rm.1; omega) (by show cs.1 + 0 ≤ rm.2.1; omega) (by show cs.2 + 0 ≤ rm.2.2; omega) (by show 599 + 1 ≤ rm.1; omega) (by show cs.1 + 0 + 0 ≤ rm.2.1; omega) (by show cs.2 + 0 + 0 ≤ rm.2.2; omega) ?_
  refine f_use TX11_ask (ar := .inr (.inr (.inl (11, 15, 0))) :: [].map (fun x => (.inl x : f_V))) (R := gl_rI (fun x M1 => M1 1000000 = M 1000000 ∧ WX12_ask M1 (fun y M2 => y = x ∧ J t M2))) rfl rfl (by exact hW) (by show _ ≤ 599; exact Nat.le_of_ble_eq_true rfl) (Nat.zero_le _) (Nat.zero_le _) (gl_tv1 h0) ty (fun M hx => False.elim hx) (fun w M1 ty1 hR => ?_)
  obtain ⟨x, ew, e1, hR⟩ := gl_I hR
  refine ⟨x, by rw [ew]; rfl, fun _ => ?_⟩
  refine f_use TX12_ask (ar := .inr (.inr (.inl (12, 123, 4456))) :: [].map (fun x => (.inl x : f_V))) (R := gl_rI (fun y M2 => y = x ∧ J t M2)) rfl rfl (by exact hR) (by show _ ≤ 599; exact Nat.le_of_ble_eq_true rfl) (Nat.zero_le _) (Nat.zero_le _) (gl_tv2 h0) ty1 (fun M hx => False.elim hx) (fun w2 M2 ty2 hR2 => ?_)
  obtain ⟨y, ew2, e2, j⟩ := gl_I hR2
  exact ⟨by rw [ew2, e2]; rfl, fun _ => K t M2 _ ls (Nat.le_refl _) hl ty2 j (by show cs.1 + 0 + 0 ≤ _; omega) (by show cs.2 + 0 + 0 ≤ _; omega)⟩
theorem gl_answer (hS : lw_S sh L) (h0 : gl_C0 sh t) (hl : lw_L i ls) (hi : i + 6 ≤ L) (hr : 600 ≤ rm.1) (c1 : cs.1 + 12 ≤ rm.2.1) (c2 : cs.2 + 120 ≤ rm.2.2) (ty : f_Ty sh M t) (K : gl_K sh rm Q i cs J t) (hW : WX11_answer M (fun x => WX12_answer M (fun y M2 => y = x ∧ J t M2))) : e_T sh YL_law rm 365 ls [] (M, t) cs Q := by
  refine law_answer (g := (M, t)) (r1 := (599, 0, 0)) (r2 := (599, 0, 0)) hS hl hi (by show 599 + 1 ≤ rm.1; omega) (by show cs.1 + 0 ≤ rm.2.1; omega) (by show cs.2 + 0 ≤ rm.2.2; omega) (by show 599 + 1 ≤ rm.1; omega) (by show cs.1 + 0 + 0 ≤ rm.2.1; omega) (by show cs.2 + 0 + 0 ≤ rm.2.2; omega) ?_
  refine f_use TX11_answer (ar := .inr (.inr (.inl (11, 15, 0))) :: [].map (fun x => (.inl x : f_V))) (R := gl_rJ (fun x M1 => M1 = M ∧ WX12_answer M (fun y M2 => y = x ∧ J t M2))) rfl rfl ?_ (by show _ ≤ 599; exact Nat.le_of_ble_eq_true rfl) (Nat.zero_le _) (Nat.zero_le _) (gl_tv1 h0) ty (fun M hx => False.elim hx) (fun w M1 ty1 hR => ?_)
  · have e : (fun r => gl_rJ (fun x M1 => M1 = M ∧ WX12_answer M (fun y M2 => y = x ∧ J t M2)) (some (.inr (.inl r))) M) = (fun x => WX12_answer M (fun y M2 => y = x ∧ J t M2)) := funext (fun r => propext ⟨fun h => h.2, fun h => ⟨rfl, h⟩⟩)
    show WX11_answer M (fun r => gl_rJ (fun x M1 => M1 = M ∧ WX12_answer M (fun y M2 => y = x ∧ J t M2)) (some (.inr (.inl r))) M)
    rw [e]; exact hW
  obtain ⟨x, ew, e1, hR⟩ := gl_J hR
  refine ⟨x, by rw [ew]; rfl, fun _ => ?_⟩
  subst e1
  refine f_use TX12_answer (ar := .inr (.inr (.inl (12, 123, 4456))) :: [].map (fun x => (.inl x : f_V))) (R := gl_rJ (fun y M2 => y = x ∧ J t M2)) rfl rfl (by exact hR) (by show _ ≤ 599; exact Nat.le_of_ble_eq_true rfl) (Nat.zero_le _) (Nat.zero_le _) (gl_tv2 h0) ty1 (fun M hx => False.elim hx) (fun w2 M2 ty2 hR2 => ?_)
  obtain ⟨y, ew2, e2, j⟩ := gl_J hR2
  exact ⟨by rw [ew2, e2]; rfl, fun _ => K t M2 _ ls (Nat.le_refl _) hl ty2 j (by show cs.1 + 0 + 0 ≤ _; omega) (by show cs.2 + 0 + 0 ≤ _; omega)⟩
theorem gl_count (hS : lw_S sh L) (h0 : gl_C0 sh t) (hl : lw_L i ls) (hi : i + 6 ≤ L) (hr : 600 ≤ rm.1) (c1 : cs.1 + 12 ≤ rm.2.1) (c2 : cs.2 + 120 ≤ rm.2.2) (ty : f_Ty sh M t) (K : gl_K sh rm Q i cs J t) (hW : WX11_count (M 1000000 (i + 1)) M (fun x M1 => M1 1000000 = M 1000000 ∧ WX12_count (M 1000000 (i + 1)) M1 (fun y M2 => y = x ∧ J t M2))) : e_T sh YL_law rm 435 ls [] (M, t) cs Q := by
  refine law_count (g := (M, t)) (r1 := (599, 0, 0)) (r2 := (599, 0, 0)) hS hl hi (by show 599 + 1 ≤ rm.1; omega) (by show cs.1 + 0 ≤ rm.2.1; omega) (by show cs.2 + 0 ≤ rm.2.2; omega) (by show 599 + 1 ≤ rm.1; omega) (by show cs.1 + 0 + 0 ≤ rm.2.1; omega) (by show cs.2 + 0 + 0 ≤ rm.2.2; omega) ?_
  refine f_use TX11_count (ar := .inr (.inr (.inl (11, 15, 0))) :: [M 1000000 (i + 1)].map (fun x => (.inl x : f_V))) (R := gl_rI (fun x M1 => M1 1000000 = M 1000000 ∧ WX12_count (M 1000000 (i + 1)) M1 (fun y M2 => y = x ∧ J t M2))) rfl rfl (by exact hW) (by show _ ≤ 599; exact Nat.le_of_ble_eq_true rfl) (Nat.zero_le _) (Nat.zero_le _) (gl_tv1 h0) ty (fun M hx => False.elim hx) (fun w M1 ty1 hR => ?_)
  obtain ⟨x, ew, e1, hR⟩ := gl_I hR
  refine ⟨x, by rw [ew]; rfl, fun _ => ?_⟩
  show e_T sh YX12_count (599, 0, 0) 0 (e_loc _ [.inr (.inr (.inl 4456)), .inl (M1 1000000 (i + 1))]) [] (M1, t) (0, 0) _
  rw [e1]
  refine f_use TX12_count (ar := .inr (.inr (.inl (12, 123, 4456))) :: [M 1000000 (i + 1)].map (fun x => (.inl x : f_V))) (R := gl_rI (fun y M2 => y = x ∧ J t M2)) rfl rfl (by exact hR) (by show _ ≤ 599; exact Nat.le_of_ble_eq_true rfl) (Nat.zero_le _) (Nat.zero_le _) (gl_tv2 h0) ty1 (fun M hx => False.elim hx) (fun w2 M2 ty2 hR2 => ?_)
  obtain ⟨y, ew2, e2, j⟩ := gl_I hR2
  exact ⟨by rw [ew2, e2]; rfl, fun _ => K t M2 _ ls (Nat.le_refl _) hl ty2 j (by show cs.1 + 0 + 0 ≤ _; omega) (by show cs.2 + 0 + 0 ≤ _; omega)⟩
theorem gl_lots (hS : lw_S sh L) (h0 : gl_C0 sh t) (hl : lw_L i ls) (hi : i + 6 ≤ L) (hr : 600 ≤ rm.1) (c1 : cs.1 + 12 ≤ rm.2.1) (c2 : cs.2 + 120 ≤ rm.2.2) (ty : f_Ty sh M t) (K : gl_K sh rm Q i cs J t) (hW : WX11_lots (M 1000000 (i + 1)) (M 1000000 (i + 2)) (M 1000000 (i + 3)) M (fun x M1 => M1 1000000 = M 1000000 ∧ WX12_lots (M 1000000 (i + 1)) (M 1000000 (i + 2)) (M 1000000 (i + 3)) M1 (fun y M2 => y = x ∧ J t M2))) : e_T sh YL_law rm 767 ls [] (M, t) cs Q := by
  refine law_lots (g := (M, t)) (r1 := (599, 0, 0)) (r2 := (599, 0, 0)) hS hl hi (by show 599 + 1 ≤ rm.1; omega) (by show cs.1 + 0 ≤ rm.2.1; omega) (by show cs.2 + 0 ≤ rm.2.2; omega) (by show 599 + 1 ≤ rm.1; omega) (by show cs.1 + 0 + 0 ≤ rm.2.1; omega) (by show cs.2 + 0 + 0 ≤ rm.2.2; omega) ?_
  refine f_use TX11_lots (ar := .inr (.inr (.inl (11, 15, 0))) :: [M 1000000 (i + 1), M 1000000 (i + 2), M 1000000 (i + 3)].map (fun x => (.inl x : f_V))) (R := gl_rI (fun x M1 => M1 1000000 = M 1000000 ∧ WX12_lots (M 1000000 (i + 1)) (M 1000000 (i + 2)) (M 1000000 (i + 3)) M1 (fun y M2 => y = x ∧ J t M2))) rfl rfl (by exact hW) (by show _ ≤ 599; exact Nat.le_of_ble_eq_true rfl) (Nat.zero_le _) (Nat.zero_le _) (gl_tv1 h0) ty (fun M hx => False.elim hx) (fun w M1 ty1 hR => ?_)
  obtain ⟨x, ew, e1, hR⟩ := gl_I hR
  refine ⟨x, by rw [ew]; rfl, fun _ => ?_⟩
  show e_T sh YX12_lots (599, 0, 0) 0 (e_loc _ [.inr (.inr (.inl 4456)), .inl (M1 1000000 (i + 1)), .inl (M1 1000000 (i + 2)), .inl (M1 1000000 (i + 3))]) [] (M1, t) (0, 0) _
  rw [e1]
  refine f_use TX12_lots (ar := .inr (.inr (.inl (12, 123, 4456))) :: [M 1000000 (i + 1), M 1000000 (i + 2), M 1000000 (i + 3)].map (fun x => (.inl x : f_V))) (R := gl_rI (fun y M2 => y = x ∧ J t M2)) rfl rfl (by exact hR) (by show _ ≤ 599; exact Nat.le_of_ble_eq_true rfl) (Nat.zero_le _) (Nat.zero_le _) (gl_tv2 h0) ty1 (fun M hx => False.elim hx) (fun w2 M2 ty2 hR2 => ?_)
  obtain ⟨y, ew2, e2, j⟩ := gl_I hR2
  exact ⟨by rw [ew2, e2]; rfl, fun _ => K t M2 _ ls (Nat.le_refl _) hl ty2 j (by show cs.1 + 0 + 0 ≤ _; omega) (by show cs.2 + 0 + 0 ≤ _; omega)⟩
theorem gl_sum (hS : lw_S sh L) (h0 : gl_C0 sh t) (hl : lw_L i ls) (hi : i + 6 ≤ L) (hr : 600 ≤ rm.1) (c1 : cs.1 + 12 ≤ rm.2.1) (c2 : cs.2 + 120 ≤ rm.2.2) (ty : f_Ty sh M t) (K : gl_K sh rm Q i cs J t) (hW : WX11_sum M (fun x M1 => M1 1000000 = M 1000000 ∧ WX12_sum M1 (fun y M2 => y = x ∧ J t M2))) : e_T sh YL_law rm 816 ls [] (M, t) cs Q := by
  refine law_sum (g := (M, t)) (r1 := (599, 0, 0)) (r2 := (599, 0, 0)) hS hl hi (by show 599 + 1 ≤ rm.1; omega) (by show cs.1 + 0 ≤ rm.2.1; omega) (by show cs.2 + 0 ≤ rm.2.2; omega) (by show 599 + 1 ≤ rm.1; omega) (by show cs.1 + 0 + 0 ≤ rm.2.1; omega) (by show cs.2 + 0 + 0 ≤ rm.2.2; omega) ?_
  refine f_use TX11_sum (ar := .inr (.inr (.inl (11, 15, 0))) :: [].map (fun x => (.inl x : f_V))) (R := gl_rJ (fun x M1 => M1 1000000 = M 1000000 ∧ WX12_sum M1 (fun y M2 => y = x ∧ J t M2))) rfl rfl (by exact hW) (by show _ ≤ 599; exact Nat.le_of_ble_eq_true rfl) (Nat.zero_le _) (Nat.zero_le _) (gl_tv1 h0) ty (fun M hx => False.elim hx) (fun w M1 ty1 hR => ?_)
  obtain ⟨x, ew, e1, hR⟩ := gl_J hR
  refine ⟨x, by rw [ew]; rfl, fun _ => ?_⟩
  refine f_use TX12_sum (ar := .inr (.inr (.inl (12, 123, 4456))) :: [].map (fun x => (.inl x : f_V))) (R := gl_rJ (fun y M2 => y = x ∧ J t M2)) rfl rfl (by exact hR) (by show _ ≤ 599; exact Nat.le_of_ble_eq_true rfl) (Nat.zero_le _) (Nat.zero_le _) (gl_tv2 h0) ty1 (fun M hx => False.elim hx) (fun w2 M2 ty2 hR2 => ?_)
  obtain ⟨y, ew2, e2, j⟩ := gl_J hR2
  exact ⟨by rw [ew2, e2]; rfl, fun _ => K t M2 _ ls (Nat.le_refl _) hl ty2 j (by show cs.1 + 0 + 0 ≤ _; omega) (by show cs.2 + 0 + 0 ≤ _; omega)⟩
def gl_out (o : Option Int) (M : e_M) : e_M := match o with
  | none => M
  | some x => e_up M 4533 0 x
def gl_th (o : Option Int) (y u : Int) : Prop := match o with
  | none => u = 1
  | some x => u = 0 ∧ x = y
theorem gl_octet (hS : lw_S sh L) (h0 : gl_C0 sh t) (hl : lw_L i ls) (hi : i + 6 ≤ L) (hr : 600 ≤ rm.1) (c1 : cs.1 + 12 ≤ rm.2.1) (c2 : cs.2 + 120 ≤ rm.2.2) (ty : f_Ty sh M t) (K : gl_K sh rm Q i cs J t) (hW : WX11_octet (M 1000000 (i + 1)) M (fun r M1 => gl_oI (fun o M1 => M1 1000000 = M 1000000 ∧ WX12_octet (M 1000000 (i + 1)) (gl_out o M1) (fun y M2 => M2 4533 = (gl_out o M1) 4533 ∧ WX12_thrown M2 (fun u => gl_th o y u ∧ J t M2))) (f_thI r) M1)) : e_T sh YL_law rm 379 ls [] (M, t) cs Q := by
  refine law_octet (g := (M, t)) (r1 := (599, 1, 6)) (r2 := (599, 0, 0)) (r3 := (599, 0, 0)) hS hl hi (by show 599 + 1 ≤ rm.1; omega) (by show cs.1 + 1 ≤ rm.2.1; omega) (by show cs.2 + 6 ≤ rm.2.2; omega) (by show 599 + 1 ≤ rm.1; omega) (by show cs.1 + 1 + 0 ≤ rm.2.1; omega) (by show cs.2 + 6 + 0 ≤ rm.2.2; omega) (by show 599 + 1 ≤ rm.1; omega) (by show cs.1 + 1 + 0 + 0 ≤ rm.2.1; omega) (by show cs.2 + 6 + 0 + 0 ≤ rm.2.2; omega) ?_
  refine hel_octet (r := (598, 1, 6)) hS (by show 598 + 1 ≤ 599; omega) (by show 0 + 1 ≤ 1; omega) (by show 0 + 6 ≤ 6; omega) ?_
  refine f_use TX11_octet (ar := .inr (.inr (.inl (11, 15, 0))) :: [M 1000000 (i + 1)].map (fun x => (.inl x : f_V))) (R := gl_oI (fun o M1 => M1 1000000 = M 1000000 ∧ WX12_octet (M 1000000 (i + 1)) (gl_out o M1) (fun y M2 => M2 4533 = (gl_out o M1) 4533 ∧ WX12_thrown M2 (fun u => gl_th o y u ∧ J t M2)))) rfl rfl (by exact hW) (by show _ ≤ 598; exact Nat.le_of_ble_eq_true rfl) (Nat.zero_le _) (Nat.zero_le _) (gl_tv1 h0) ty (fun M hx => ⟨by show 6 ≤ 598; omega, by show 0 + 1 ≤ 1; omega, by show 0 + 6 ≤ 6; omega⟩) (fun w M1 ty1 hR => ?_)
  intro _
  have rest : ∀ (o : Option Int) (N : e_M) (b : Int), N = gl_out o M1 → f_Ty sh N t → (o = none ∧ b = 1 ∨ ∃ x, o = some x ∧ b = 0 ∧ N 4533 0 = x) → M1 1000000 = M 1000000 → WX12_octet (M 1000000 (i + 1)) N (fun y M2 => M2 4533 = N 4533 ∧ WX12_thrown M2 (fun u => gl_th o y u ∧ J t M2)) → e_T sh YX12_octet (599, 0, 0) 0 (e_loc 2 [.inr (.inr (.inl 4456)), .inl (N 1000000 (i + 1))]) [] (N, t) (0, 0) (fun w g2 => ∃ y : Int, w = some (.inl y) ∧ (t ≤ g2.2 → e_T sh YX12_thrown (599, 0, 0) 0 (e_loc 1 [.inr (.inr (.inl 4456))]) [] g2 (0, 0) (fun u g3 => u = some (.inl b) ∧ (b = 0 → g3.1 4533 0 = y) ∧ (g2.2 ≤ g3.2 → ∀ ls2, lw_L i ls2 → e_T sh YL_law rm 830 ls2 [] g3 (cs.1 + 1 + 0 + 0, cs.2 + 6 + 0 + 0) Q)))) := by
    intro o N b eN tyN hob e1 hR
    have eN1 : N 1000000 = M 1000000 := by
      rw [eN, ← e1]
      cases o with
      | none => rfl
      | some x => exact e_up_row (by omega)
    rw [eN1]
    refine f_use TX12_octet (ar := .inr (.inr (.inl (12, 123, 4456))) :: [M 1000000 (i + 1)].map (fun x => (.inl x : f_V))) (R := gl_rI (fun y M2 => M2 4533 = N 4533 ∧ WX12_thrown M2 (fun u => gl_th o y u ∧ J t M2))) rfl rfl (by exact hR) (by show _ ≤ 599; exact Nat.le_of_ble_eq_true rfl) (Nat.zero_le _) (Nat.zero_le _) (gl_tv2 h0) tyN (fun M hx => False.elim hx) (fun w2 M2 ty2 hR2 => ?_)
    obtain ⟨y, ew2, e33, hT⟩ := gl_I hR2
    refine ⟨y, by rw [ew2]; rfl, fun _ => ?_⟩
    refine f_use TX12_thrown (ar := .inr (.inr (.inl (12, 123, 4456))) :: ([] : List Int).map (fun x => (.inl x : f_V))) (R := gl_rI (fun u M3 => M3 = M2 ∧ gl_th o y u ∧ J t M2)) rfl rfl ?_ (by show _ ≤ 599; exact Nat.le_of_ble_eq_true rfl) (Nat.zero_le _) (Nat.zero_le _) (gl_tv2 h0) ty2 (fun M hx => False.elim hx) (fun w3 M3 ty3 hR3 => ?_)
    · have e : (fun r => gl_rI (fun u M3 => M3 = M2 ∧ gl_th o y u ∧ J t M2) (some (.inl r)) M2) = (fun u => gl_th o y u ∧ J t M2) := funext (fun r => propext ⟨fun h => h.2, fun h => ⟨rfl, h⟩⟩)
      show WX12_thrown M2 (fun r => gl_rI (fun u M3 => M3 = M2 ∧ gl_th o y u ∧ J t M2) (some (.inl r)) M2)
      rw [e]; exact hT
    obtain ⟨u, ew3, em, hth, j⟩ := gl_I hR3
    subst em
    have hub : u = b ∧ (b = 0 → M3 4533 0 = y) := by
      rcases hob with ⟨eo, eb⟩ | ⟨x, eo, eb, ex⟩
      · subst eo
        exact ⟨by have : u = 1 := hth; omega, fun z => by omega⟩
      · subst eo
        have hh : u = 0 ∧ x = y := hth
        exact ⟨by omega, fun _ => by rw [e33, ex]; exact hh.2⟩
    exact ⟨by rw [ew3, hub.1]; rfl, hub.2, fun _ ls2 hl2 => K t M3 _ ls2 (Nat.le_refl _) hl2 ty3 j (by show cs.1 + 1 + 0 + 0 ≤ _; omega) (by show cs.2 + 6 + 0 + 0 ≤ _; omega)⟩
  rcases gl_OI hR with ⟨x, ew, e1, hR⟩ | ⟨ew, e1, hR⟩
  · refine Or.inl ⟨x, by rw [ew]; rfl, 0, rfl, fun _ => ?_⟩
    exact rest (some x) (e_up M1 4533 0 x) 0 rfl (gl_ty h0 ty1) (Or.inr ⟨x, rfl, rfl, e_up_eq⟩) e1 hR
  · refine Or.inr ⟨by rw [ew]; rfl, 1, rfl, fun _ => ?_⟩
    exact rest none M1 1 rfl ty1 (Or.inl ⟨rfl, rfl⟩) e1 hR
theorem gl_name (hS : lw_S sh L) (h0 : gl_C0 sh t) (hl : lw_L i ls) (hi : i + 6 ≤ L) (hr : 600 ≤ rm.1) (c1 : cs.1 + 12 ≤ rm.2.1) (c2 : cs.2 + 120 ≤ rm.2.2) (ty : f_Ty sh M t) (K : gl_K sh rm Q i cs J t) (hW : WX11_name (M 1000000 (i + 1)) (M 1000000 (i + 2)) M (fun r M1 => gl_oJ (fun o M1 => M1 1000000 = M 1000000 ∧ WX12_name (M 1000000 (i + 1)) (M 1000000 (i + 2)) (gl_out o M1) (fun y M2 => M2 4533 = (gl_out o M1) 4533 ∧ WX12_thrown M2 (fun u => gl_th o y u ∧ J t M2))) (f_thJ r) M1)) : e_T sh YL_law rm 460 ls [] (M, t) cs Q := by
  refine law_name (g := (M, t)) (r1 := (599, 1, 6)) (r2 := (599, 0, 0)) (r3 := (599, 0, 0)) hS hl hi (by show 599 + 1 ≤ rm.1; omega) (by show cs.1 + 1 ≤ rm.2.1; omega) (by show cs.2 + 6 ≤ rm.2.2; omega) (by show 599 + 1 ≤ rm.1; omega) (by show cs.1 + 1 + 0 ≤ rm.2.1; omega) (by show cs.2 + 6 + 0 ≤ rm.2.2; omega) (by show 599 + 1 ≤ rm.1; omega) (by show cs.1 + 1 + 0 + 0 ≤ rm.2.1; omega) (by show cs.2 + 6 + 0 + 0 ≤ rm.2.2; omega) ?_
  refine hel_name (r := (598, 1, 6)) hS (by show 598 + 1 ≤ 599; omega) (by show 0 + 1 ≤ 1; omega) (by show 0 + 6 ≤ 6; omega) ?_
  refine f_use TX11_name (ar := .inr (.inr (.inl (11, 15, 0))) :: [M 1000000 (i + 1), M 1000000 (i + 2)].map (fun x => (.inl x : f_V))) (R := gl_oJ (fun o M1 => M1 1000000 = M 1000000 ∧ WX12_name (M 1000000 (i + 1)) (M 1000000 (i + 2)) (gl_out o M1) (fun y M2 => M2 4533 = (gl_out o M1) 4533 ∧ WX12_thrown M2 (fun u => gl_th o y u ∧ J t M2)))) rfl rfl (by exact hW) (by show _ ≤ 598; exact Nat.le_of_ble_eq_true rfl) (Nat.zero_le _) (Nat.zero_le _) (gl_tv1 h0) ty (fun M hx => ⟨by show 6 ≤ 598; omega, by show 0 + 1 ≤ 1; omega, by show 0 + 6 ≤ 6; omega⟩) (fun w M1 ty1 hR => ?_)
  intro _
  have rest : ∀ (o : Option Int) (N : e_M) (b : Int), N = gl_out o M1 → f_Ty sh N t → (o = none ∧ b = 1 ∨ ∃ x, o = some x ∧ b = 0 ∧ N 4533 0 = x) → M1 1000000 = M 1000000 → WX12_name (M 1000000 (i + 1)) (M 1000000 (i + 2)) N (fun y M2 => M2 4533 = N 4533 ∧ WX12_thrown M2 (fun u => gl_th o y u ∧ J t M2)) → e_T sh YX12_name (599, 0, 0) 0 (e_loc 4 [.inr (.inr (.inl 4456)), .inl (N 1000000 (i + 1)), .inl (N 1000000 (i + 2))]) [] (N, t) (0, 0) (fun w g2 => ∃ y : Int, w = some (.inr (.inl y)) ∧ (t ≤ g2.2 → e_T sh YX12_thrown (599, 0, 0) 0 (e_loc 1 [.inr (.inr (.inl 4456))]) [] g2 (0, 0) (fun u g3 => u = some (.inl b) ∧ (b = 0 → g3.1 4533 0 = y) ∧ (g2.2 ≤ g3.2 → ∀ ls2, lw_L i ls2 → e_T sh YL_law rm 830 ls2 [] g3 (cs.1 + 1 + 0 + 0, cs.2 + 6 + 0 + 0) Q)))) := by
    intro o N b eN tyN hob e1 hR
    have eN1 : N 1000000 = M 1000000 := by
      rw [eN, ← e1]
      cases o with
      | none => rfl
      | some x => exact e_up_row (by omega)
    rw [eN1]
    refine f_use TX12_name (ar := .inr (.inr (.inl (12, 123, 4456))) :: [M 1000000 (i + 1), M 1000000 (i + 2)].map (fun x => (.inl x : f_V))) (R := gl_rJ (fun y M2 => M2 4533 = N 4533 ∧ WX12_thrown M2 (fun u => gl_th o y u ∧ J t M2))) rfl rfl (by exact hR) (by show _ ≤ 599; exact Nat.le_of_ble_eq_true rfl) (Nat.zero_le _) (Nat.zero_le _) (gl_tv2 h0) tyN (fun M hx => False.elim hx) (fun w2 M2 ty2 hR2 => ?_)
    obtain ⟨y, ew2, e33, hT⟩ := gl_J hR2
    refine ⟨y, by rw [ew2]; rfl, fun _ => ?_⟩
    refine f_use TX12_thrown (ar := .inr (.inr (.inl (12, 123, 4456))) :: ([] : List Int).map (fun x => (.inl x : f_V))) (R := gl_rI (fun u M3 => M3 = M2 ∧ gl_th o y u ∧ J t M2)) rfl rfl ?_ (by show _ ≤ 599; exact Nat.le_of_ble_eq_true rfl) (Nat.zero_le _) (Nat.zero_le _) (gl_tv2 h0) ty2 (fun M hx => False.elim hx) (fun w3 M3 ty3 hR3 => ?_)
    · have e : (fun r => gl_rI (fun u M3 => M3 = M2 ∧ gl_th o y u ∧ J t M2) (some (.inl r)) M2) = (fun u => gl_th o y u ∧ J t M2) := funext (fun r => propext ⟨fun h => h.2, fun h => ⟨rfl, h⟩⟩)
      show WX12_thrown M2 (fun r => gl_rI (fun u M3 => M3 = M2 ∧ gl_th o y u ∧ J t M2) (some (.inl r)) M2)
      rw [e]; exact hT
    obtain ⟨u, ew3, em, hth, j⟩ := gl_I hR3
    subst em
    have hub : u = b ∧ (b = 0 → M3 4533 0 = y) := by
      rcases hob with ⟨eo, eb⟩ | ⟨x, eo, eb, ex⟩
      · subst eo
        exact ⟨by have : u = 1 := hth; omega, fun z => by omega⟩
      · subst eo
        have hh : u = 0 ∧ x = y := hth
        exact ⟨by omega, fun _ => by rw [e33, ex]; exact hh.2⟩
    exact ⟨by rw [ew3, hub.1]; rfl, hub.2, fun _ ls2 hl2 => K t M3 _ ls2 (Nat.le_refl _) hl2 ty3 j (by show cs.1 + 1 + 0 + 0 ≤ _; omega) (by show cs.2 + 6 + 0 + 0 ≤ _; omega)⟩
  rcases gl_OJ hR with ⟨x, ew, e1, hR⟩ | ⟨ew, e1, hR⟩
  · refine Or.inl ⟨x, by rw [ew]; rfl, 0, rfl, fun _ => ?_⟩
    exact rest (some x) (e_up M1 4533 0 x) 0 rfl (gl_ty h0 ty1) (Or.inr ⟨x, rfl, rfl, e_up_eq⟩) e1 hR
  · refine Or.inr ⟨by rw [ew]; rfl, 1, rfl, fun _ => ?_⟩
    exact rest none M1 1 rfl ty1 (Or.inl ⟨rfl, rfl⟩) e1 hR
theorem gl_thing (hS : lw_S sh L) (h0 : gl_C0 sh t) (hl : lw_L i ls) (hi : i + 6 ≤ L) (hr : 600 ≤ rm.1) (c1 : cs.1 + 12 ≤ rm.2.1) (c2 : cs.2 + 120 ≤ rm.2.2) (ty : f_Ty sh M t) (K : gl_K sh rm Q i cs J t) (hW : WX11_thing (M 1000000 (i + 1)) (M 1000000 (i + 2)) (M 1000000 (i + 3)) M (fun r M1 => gl_oI (fun o M1 => M1 1000000 = M 1000000 ∧ WX12_thing (M 1000000 (i + 1)) (M 1000000 (i + 2)) (M 1000000 (i + 3)) (gl_out o M1) (fun y M2 => M2 4533 = (gl_out o M1) 4533 ∧ WX12_thrown M2 (fun u => gl_th o y u ∧ J t M2))) (f_thI r) M1)) : e_T sh YL_law rm 527 ls [] (M, t) cs Q := by
  refine law_thing (g := (M, t)) (r1 := (599, 1, 6)) (r2 := (599, 0, 0)) (r3 := (599, 0, 0)) hS hl hi (by show 599 + 1 ≤ rm.1; omega) (by show cs.1 + 1 ≤ rm.2.1; omega) (by show cs.2 + 6 ≤ rm.2.2; omega) (by show 599 + 1 ≤ rm.1; omega) (by show cs.1 + 1 + 0 ≤ rm.2.1; omega) (by show cs.2 + 6 + 0 ≤ rm.2.2; omega) (by show 599 + 1 ≤ rm.1; omega) (by show cs.1 + 1 + 0 + 0 ≤ rm.2.1; omega) (by show cs.2 + 6 + 0 + 0 ≤ rm.2.2; omega) ?_
  refine hel_thing (r := (598, 1, 6)) hS (by show 598 + 1 ≤ 599; omega) (by show 0 + 1 ≤ 1; omega) (by show 0 + 6 ≤ 6; omega) ?_
  refine f_use TX11_thing (ar := .inr (.inr (.inl (11, 15, 0))) :: [M 1000000 (i + 1), M 1000000 (i + 2), M 1000000 (i + 3)].map (fun x => (.inl x : f_V))) (R := gl_oI (fun o M1 => M1 1000000 = M 1000000 ∧ WX12_thing (M 1000000 (i + 1)) (M 1000000 (i + 2)) (M 1000000 (i + 3)) (gl_out o M1) (fun y M2 => M2 4533 = (gl_out o M1) 4533 ∧ WX12_thrown M2 (fun u => gl_th o y u ∧ J t M2)))) rfl rfl (by exact hW) (by show _ ≤ 598; exact Nat.le_of_ble_eq_true rfl) (Nat.zero_le _) (Nat.zero_le _) (gl_tv1 h0) ty (fun M hx => ⟨by show 6 ≤ 598; omega, by show 0 + 1 ≤ 1; omega, by show 0 + 6 ≤ 6; omega⟩) (fun w M1 ty1 hR => ?_)
  intro _
  have rest : ∀ (o : Option Int) (N : e_M) (b : Int), N = gl_out o M1 → f_Ty sh N t → (o = none ∧ b = 1 ∨ ∃ x, o = some x ∧ b = 0 ∧ N 4533 0 = x) → M1 1000000 = M 1000000 → WX12_thing (M 1000000 (i + 1)) (M 1000000 (i + 2)) (M 1000000 (i + 3)) N (fun y M2 => M2 4533 = N 4533 ∧ WX12_thrown M2 (fun u => gl_th o y u ∧ J t M2)) → e_T sh YX12_thing (599, 0, 0) 0 (e_loc 5 [.inr (.inr (.inl 4456)), .inl (N 1000000 (i + 1)), .inl (N 1000000 (i + 2)), .inl (N 1000000 (i + 3))]) [] (N, t) (0, 0) (fun w g2 => ∃ y : Int, w = some (.inl y) ∧ (t ≤ g2.2 → e_T sh YX12_thrown (599, 0, 0) 0 (e_loc 1 [.inr (.inr (.inl 4456))]) [] g2 (0, 0) (fun u g3 => u = some (.inl b) ∧ (b = 0 → g3.1 4533 0 = y) ∧ (g2.2 ≤ g3.2 → ∀ ls2, lw_L i ls2 → e_T sh YL_law rm 830 ls2 [] g3 (cs.1 + 1 + 0 + 0, cs.2 + 6 + 0 + 0) Q)))) := by
    intro o N b eN tyN hob e1 hR
    have eN1 : N 1000000 = M 1000000 := by
      rw [eN, ← e1]
      cases o with
      | none => rfl
      | some x => exact e_up_row (by omega)
    rw [eN1]
    refine f_use TX12_thing (ar := .inr (.inr (.inl (12, 123, 4456))) :: [M 1000000 (i + 1), M 1000000 (i + 2), M 1000000 (i + 3)].map (fun x => (.inl x : f_V))) (R := gl_rI (fun y M2 => M2 4533 = N 4533 ∧ WX12_thrown M2 (fun u => gl_th o y u ∧ J t M2))) rfl rfl (by exact hR) (by show _ ≤ 599; exact Nat.le_of_ble_eq_true rfl) (Nat.zero_le _) (Nat.zero_le _) (gl_tv2 h0) tyN (fun M hx => False.elim hx) (fun w2 M2 ty2 hR2 => ?_)
    obtain ⟨y, ew2, e33, hT⟩ := gl_I hR2
    refine ⟨y, by rw [ew2]; rfl, fun _ => ?_⟩
    refine f_use TX12_thrown (ar := .inr (.inr (.inl (12, 123, 4456))) :: ([] : List Int).map (fun x => (.inl x : f_V))) (R := gl_rI (fun u M3 => M3 = M2 ∧ gl_th o y u ∧ J t M2)) rfl rfl ?_ (by show _ ≤ 599; exact Nat.le_of_ble_eq_true rfl) (Nat.zero_le _) (Nat.zero_le _) (gl_tv2 h0) ty2 (fun M hx => False.elim hx) (fun w3 M3 ty3 hR3 => ?_)
    · have e : (fun r => gl_rI (fun u M3 => M3 = M2 ∧ gl_th o y u ∧ J t M2) (some (.inl r)) M2) = (fun u => gl_th o y u ∧ J t M2) := funext (fun r => propext ⟨fun h => h.2, fun h => ⟨rfl, h⟩⟩)
      show WX12_thrown M2 (fun r => gl_rI (fun u M3 => M3 = M2 ∧ gl_th o y u ∧ J t M2) (some (.inl r)) M2)
      rw [e]; exact hT
    obtain ⟨u, ew3, em, hth, j⟩ := gl_I hR3
    subst em
    have hub : u = b ∧ (b = 0 → M3 4533 0 = y) := by
      rcases hob with ⟨eo, eb⟩ | ⟨x, eo, eb, ex⟩
      · subst eo
        exact ⟨by have : u = 1 := hth; omega, fun z => by omega⟩
      · subst eo
        have hh : u = 0 ∧ x = y := hth
        exact ⟨by omega, fun _ => by rw [e33, ex]; exact hh.2⟩
    exact ⟨by rw [ew3, hub.1]; rfl, hub.2, fun _ ls2 hl2 => K t M3 _ ls2 (Nat.le_refl _) hl2 ty3 j (by show cs.1 + 1 + 0 + 0 ≤ _; omega) (by show cs.2 + 6 + 0 + 0 ≤ _; omega)⟩
  rcases gl_OI hR with ⟨x, ew, e1, hR⟩ | ⟨ew, e1, hR⟩
  · refine Or.inl ⟨x, by rw [ew]; rfl, 0, rfl, fun _ => ?_⟩
    exact rest (some x) (e_up M1 4533 0 x) 0 rfl (gl_ty h0 ty1) (Or.inr ⟨x, rfl, rfl, e_up_eq⟩) e1 hR
  · refine Or.inr ⟨by rw [ew]; rfl, 1, rfl, fun _ => ?_⟩
    exact rest none M1 1 rfl ty1 (Or.inl ⟨rfl, rfl⟩) e1 hR
theorem gl_corner (hS : lw_S sh L) (h0 : gl_C0 sh t) (hl : lw_L i ls) (hi : i + 6 ≤ L) (hr : 600 ≤ rm.1) (c1 : cs.1 + 12 ≤ rm.2.1) (c2 : cs.2 + 120 ≤ rm.2.2) (ty : f_Ty sh M t) (K : gl_K sh rm Q i cs J t) (hW : WX11_corner (M 1000000 (i + 1)) (M 1000000 (i + 2)) (M 1000000 (i + 3)) M (fun r M1 => gl_oI (fun o M1 => M1 1000000 = M 1000000 ∧ WX12_corner (M 1000000 (i + 1)) (M 1000000 (i + 2)) (M 1000000 (i + 3)) (gl_out o M1) (fun y M2 => M2 4533 = (gl_out o M1) 4533 ∧ WX12_thrown M2 (fun u => gl_th o y u ∧ J t M2))) (f_thI r) M1)) : e_T sh YL_law rm 607 ls [] (M, t) cs Q := by
  refine law_corner (g := (M, t)) (r1 := (599, 1, 6)) (r2 := (599, 0, 0)) (r3 := (599, 0, 0)) hS hl hi (by show 599 + 1 ≤ rm.1; omega) (by show cs.1 + 1 ≤ rm.2.1; omega) (by show cs.2 + 6 ≤ rm.2.2; omega) (by show 599 + 1 ≤ rm.1; omega) (by show cs.1 + 1 + 0 ≤ rm.2.1; omega) (by show cs.2 + 6 + 0 ≤ rm.2.2; omega) (by show 599 + 1 ≤ rm.1; omega) (by show cs.1 + 1 + 0 + 0 ≤ rm.2.1; omega) (by show cs.2 + 6 + 0 + 0 ≤ rm.2.2; omega) ?_
  refine hel_corner (r := (598, 1, 6)) hS (by show 598 + 1 ≤ 599; omega) (by show 0 + 1 ≤ 1; omega) (by show 0 + 6 ≤ 6; omega) ?_
  refine f_use TX11_corner (ar := .inr (.inr (.inl (11, 15, 0))) :: [M 1000000 (i + 1), M 1000000 (i + 2), M 1000000 (i + 3)].map (fun x => (.inl x : f_V))) (R := gl_oI (fun o M1 => M1 1000000 = M 1000000 ∧ WX12_corner (M 1000000 (i + 1)) (M 1000000 (i + 2)) (M 1000000 (i + 3)) (gl_out o M1) (fun y M2 => M2 4533 = (gl_out o M1) 4533 ∧ WX12_thrown M2 (fun u => gl_th o y u ∧ J t M2)))) rfl rfl (by exact hW) (by show _ ≤ 598; exact Nat.le_of_ble_eq_true rfl) (Nat.zero_le _) (Nat.zero_le _) (gl_tv1 h0) ty (fun M hx => ⟨by show 6 ≤ 598; omega, by show 0 + 1 ≤ 1; omega, by show 0 + 6 ≤ 6; omega⟩) (fun w M1 ty1 hR => ?_)
  intro _
  have rest : ∀ (o : Option Int) (N : e_M) (b : Int), N = gl_out o M1 → f_Ty sh N t → (o = none ∧ b = 1 ∨ ∃ x, o = some x ∧ b = 0 ∧ N 4533 0 = x) → M1 1000000 = M 1000000 → WX12_corner (M 1000000 (i + 1)) (M 1000000 (i + 2)) (M 1000000 (i + 3)) N (fun y M2 => M2 4533 = N 4533 ∧ WX12_thrown M2 (fun u => gl_th o y u ∧ J t M2)) → e_T sh YX12_corner (599, 0, 0) 0 (e_loc 5 [.inr (.inr (.inl 4456)), .inl (N 1000000 (i + 1)), .inl (N 1000000 (i + 2)), .inl (N 1000000 (i + 3))]) [] (N, t) (0, 0) (fun w g2 => ∃ y : Int, w = some (.inl y) ∧ (t ≤ g2.2 → e_T sh YX12_thrown (599, 0, 0) 0 (e_loc 1 [.inr (.inr (.inl 4456))]) [] g2 (0, 0) (fun u g3 => u = some (.inl b) ∧ (b = 0 → g3.1 4533 0 = y) ∧ (g2.2 ≤ g3.2 → ∀ ls2, lw_L i ls2 → e_T sh YL_law rm 830 ls2 [] g3 (cs.1 + 1 + 0 + 0, cs.2 + 6 + 0 + 0) Q)))) := by
    intro o N b eN tyN hob e1 hR
    have eN1 : N 1000000 = M 1000000 := by
      rw [eN, ← e1]
      cases o with
      | none => rfl
      | some x => exact e_up_row (by omega)
    rw [eN1]
    refine f_use TX12_corner (ar := .inr (.inr (.inl (12, 123, 4456))) :: [M 1000000 (i + 1), M 1000000 (i + 2), M 1000000 (i + 3)].map (fun x => (.inl x : f_V))) (R := gl_rI (fun y M2 => M2 4533 = N 4533 ∧ WX12_thrown M2 (fun u => gl_th o y u ∧ J t M2))) rfl rfl (by exact hR) (by show _ ≤ 599; exact Nat.le_of_ble_eq_true rfl) (Nat.zero_le _) (Nat.zero_le _) (gl_tv2 h0) tyN (fun M hx => False.elim hx) (fun w2 M2 ty2 hR2 => ?_)
    obtain ⟨y, ew2, e33, hT⟩ := gl_I hR2
    refine ⟨y, by rw [ew2]; rfl, fun _ => ?_⟩
    refine f_use TX12_thrown (ar := .inr (.inr (.inl (12, 123, 4456))) :: ([] : List Int).map (fun x => (.inl x : f_V))) (R := gl_rI (fun u M3 => M3 = M2 ∧ gl_th o y u ∧ J t M2)) rfl rfl ?_ (by show _ ≤ 599; exact Nat.le_of_ble_eq_true rfl) (Nat.zero_le _) (Nat.zero_le _) (gl_tv2 h0) ty2 (fun M hx => False.elim hx) (fun w3 M3 ty3 hR3 => ?_)
    · have e : (fun r => gl_rI (fun u M3 => M3 = M2 ∧ gl_th o y u ∧ J t M2) (some (.inl r)) M2) = (fun u => gl_th o y u ∧ J t M2) := funext (fun r => propext ⟨fun h => h.2, fun h => ⟨rfl, h⟩⟩)
      show WX12_thrown M2 (fun r => gl_rI (fun u M3 => M3 = M2 ∧ gl_th o y u ∧ J t M2) (some (.inl r)) M2)
      rw [e]; exact hT
    obtain ⟨u, ew3, em, hth, j⟩ := gl_I hR3
    subst em
    have hub : u = b ∧ (b = 0 → M3 4533 0 = y) := by
      rcases hob with ⟨eo, eb⟩ | ⟨x, eo, eb, ex⟩
      · subst eo
        exact ⟨by have : u = 1 := hth; omega, fun z => by omega⟩
      · subst eo
        have hh : u = 0 ∧ x = y := hth
        exact ⟨by omega, fun _ => by rw [e33, ex]; exact hh.2⟩
    exact ⟨by rw [ew3, hub.1]; rfl, hub.2, fun _ ls2 hl2 => K t M3 _ ls2 (Nat.le_refl _) hl2 ty3 j (by show cs.1 + 1 + 0 + 0 ≤ _; omega) (by show cs.2 + 6 + 0 + 0 ≤ _; omega)⟩
  rcases gl_OI hR with ⟨x, ew, e1, hR⟩ | ⟨ew, e1, hR⟩
  · refine Or.inl ⟨x, by rw [ew]; rfl, 0, rfl, fun _ => ?_⟩
    exact rest (some x) (e_up M1 4533 0 x) 0 rfl (gl_ty h0 ty1) (Or.inr ⟨x, rfl, rfl, e_up_eq⟩) e1 hR
  · refine Or.inr ⟨by rw [ew]; rfl, 1, rfl, fun _ => ?_⟩
    exact rest none M1 1 rfl ty1 (Or.inl ⟨rfl, rfl⟩) e1 hR
theorem gl_owner (hS : lw_S sh L) (h0 : gl_C0 sh t) (hl : lw_L i ls) (hi : i + 6 ≤ L) (hr : 600 ≤ rm.1) (c1 : cs.1 + 12 ≤ rm.2.1) (c2 : cs.2 + 120 ≤ rm.2.2) (ty : f_Ty sh M t) (K : gl_K sh rm Q i cs J t) (hW : WX11_owner (M 1000000 (i + 1)) (M 1000000 (i + 2)) (M 1000000 (i + 3)) M (fun r M1 => gl_oI (fun o M1 => M1 1000000 = M 1000000 ∧ WX12_owner (M 1000000 (i + 1)) (M 1000000 (i + 2)) (M 1000000 (i + 3)) (gl_out o M1) (fun y M2 => M2 4533 = (gl_out o M1) 4533 ∧ WX12_thrown M2 (fun u => gl_th o y u ∧ J t M2))) (f_thI r) M1)) : e_T sh YL_law rm 687 ls [] (M, t) cs Q := by
  refine law_owner (g := (M, t)) (r1 := (599, 1, 6)) (r2 := (599, 0, 0)) (r3 := (599, 0, 0)) hS hl hi (by show 599 + 1 ≤ rm.1; omega) (by show cs.1 + 1 ≤ rm.2.1; omega) (by show cs.2 + 6 ≤ rm.2.2; omega) (by show 599 + 1 ≤ rm.1; omega) (by show cs.1 + 1 + 0 ≤ rm.2.1; omega) (by show cs.2 + 6 + 0 ≤ rm.2.2; omega) (by show 599 + 1 ≤ rm.1; omega) (by show cs.1 + 1 + 0 + 0 ≤ rm.2.1; omega) (by show cs.2 + 6 + 0 + 0 ≤ rm.2.2; omega) ?_
  refine hel_owner (r := (598, 1, 6)) hS (by show 598 + 1 ≤ 599; omega) (by show 0 + 1 ≤ 1; omega) (by show 0 + 6 ≤ 6; omega) ?_
  refine f_use TX11_owner (ar := .inr (.inr (.inl (11, 15, 0))) :: [M 1000000 (i + 1), M 1000000 (i + 2), M 1000000 (i + 3)].map (fun x => (.inl x : f_V))) (R := gl_oI (fun o M1 => M1 1000000 = M 1000000 ∧ WX12_owner (M 1000000 (i + 1)) (M 1000000 (i + 2)) (M 1000000 (i + 3)) (gl_out o M1) (fun y M2 => M2 4533 = (gl_out o M1) 4533 ∧ WX12_thrown M2 (fun u => gl_th o y u ∧ J t M2)))) rfl rfl (by exact hW) (by show _ ≤ 598; exact Nat.le_of_ble_eq_true rfl) (Nat.zero_le _) (Nat.zero_le _) (gl_tv1 h0) ty (fun M hx => ⟨by show 6 ≤ 598; omega, by show 0 + 1 ≤ 1; omega, by show 0 + 6 ≤ 6; omega⟩) (fun w M1 ty1 hR => ?_)
  intro _
  have rest : ∀ (o : Option Int) (N : e_M) (b : Int), N = gl_out o M1 → f_Ty sh N t → (o = none ∧ b = 1 ∨ ∃ x, o = some x ∧ b = 0 ∧ N 4533 0 = x) → M1 1000000 = M 1000000 → WX12_owner (M 1000000 (i + 1)) (M 1000000 (i + 2)) (M 1000000 (i + 3)) N (fun y M2 => M2 4533 = N 4533 ∧ WX12_thrown M2 (fun u => gl_th o y u ∧ J t M2)) → e_T sh YX12_owner (599, 0, 0) 0 (e_loc 5 [.inr (.inr (.inl 4456)), .inl (N 1000000 (i + 1)), .inl (N 1000000 (i + 2)), .inl (N 1000000 (i + 3))]) [] (N, t) (0, 0) (fun w g2 => ∃ y : Int, w = some (.inl y) ∧ (t ≤ g2.2 → e_T sh YX12_thrown (599, 0, 0) 0 (e_loc 1 [.inr (.inr (.inl 4456))]) [] g2 (0, 0) (fun u g3 => u = some (.inl b) ∧ (b = 0 → g3.1 4533 0 = y) ∧ (g2.2 ≤ g3.2 → ∀ ls2, lw_L i ls2 → e_T sh YL_law rm 830 ls2 [] g3 (cs.1 + 1 + 0 + 0, cs.2 + 6 + 0 + 0) Q)))) := by
    intro o N b eN tyN hob e1 hR
    have eN1 : N 1000000 = M 1000000 := by
      rw [eN, ← e1]
      cases o with
      | none => rfl
      | some x => exact e_up_row (by omega)
    rw [eN1]
    refine f_use TX12_owner (ar := .inr (.inr (.inl (12, 123, 4456))) :: [M 1000000 (i + 1), M 1000000 (i + 2), M 1000000 (i + 3)].map (fun x => (.inl x : f_V))) (R := gl_rI (fun y M2 => M2 4533 = N 4533 ∧ WX12_thrown M2 (fun u => gl_th o y u ∧ J t M2))) rfl rfl (by exact hR) (by show _ ≤ 599; exact Nat.le_of_ble_eq_true rfl) (Nat.zero_le _) (Nat.zero_le _) (gl_tv2 h0) tyN (fun M hx => False.elim hx) (fun w2 M2 ty2 hR2 => ?_)
    obtain ⟨y, ew2, e33, hT⟩ := gl_I hR2
    refine ⟨y, by rw [ew2]; rfl, fun _ => ?_⟩
    refine f_use TX12_thrown (ar := .inr (.inr (.inl (12, 123, 4456))) :: ([] : List Int).map (fun x => (.inl x : f_V))) (R := gl_rI (fun u M3 => M3 = M2 ∧ gl_th o y u ∧ J t M2)) rfl rfl ?_ (by show _ ≤ 599; exact Nat.le_of_ble_eq_true rfl) (Nat.zero_le _) (Nat.zero_le _) (gl_tv2 h0) ty2 (fun M hx => False.elim hx) (fun w3 M3 ty3 hR3 => ?_)
    · have e : (fun r => gl_rI (fun u M3 => M3 = M2 ∧ gl_th o y u ∧ J t M2) (some (.inl r)) M2) = (fun u => gl_th o y u ∧ J t M2) := funext (fun r => propext ⟨fun h => h.2, fun h => ⟨rfl, h⟩⟩)
      show WX12_thrown M2 (fun r => gl_rI (fun u M3 => M3 = M2 ∧ gl_th o y u ∧ J t M2) (some (.inl r)) M2)
      rw [e]; exact hT
    obtain ⟨u, ew3, em, hth, j⟩ := gl_I hR3
    subst em
    have hub : u = b ∧ (b = 0 → M3 4533 0 = y) := by
      rcases hob with ⟨eo, eb⟩ | ⟨x, eo, eb, ex⟩
      · subst eo
        exact ⟨by have : u = 1 := hth; omega, fun z => by omega⟩
      · subst eo
        have hh : u = 0 ∧ x = y := hth
        exact ⟨by omega, fun _ => by rw [e33, ex]; exact hh.2⟩
    exact ⟨by rw [ew3, hub.1]; rfl, hub.2, fun _ ls2 hl2 => K t M3 _ ls2 (Nat.le_refl _) hl2 ty3 j (by show cs.1 + 1 + 0 + 0 ≤ _; omega) (by show cs.2 + 6 + 0 + 0 ≤ _; omega)⟩
  rcases gl_OI hR with ⟨x, ew, e1, hR⟩ | ⟨ew, e1, hR⟩
  · refine Or.inl ⟨x, by rw [ew]; rfl, 0, rfl, fun _ => ?_⟩
    exact rest (some x) (e_up M1 4533 0 x) 0 rfl (gl_ty h0 ty1) (Or.inr ⟨x, rfl, rfl, e_up_eq⟩) e1 hR
  · refine Or.inr ⟨by rw [ew]; rfl, 1, rfl, fun _ => ?_⟩
    exact rest none M1 1 rfl ty1 (Or.inl ⟨rfl, rfl⟩) e1 hR
end GLUE
