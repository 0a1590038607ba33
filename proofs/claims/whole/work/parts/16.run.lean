/-! the run: calls and returns; a run that ends says how the frame ends -/
noncomputable section
/-- the same by a tree of choices -/
def x_st2 {α : Type} (op : Nat) : (fl : α) → (br : Bool → α → α → α) → (bs : Nat → Int → Int → α → α → α) → (ar : Nat → Nat → Int → Int → (Int → α) → α) → (K : Nat → Nat → List e_V → List e_V → x_M → Nat → α) → (B : Nat → x_O) → (S0 : Nat → Nat × Nat) → (pc a b c : Nat) → (z : Int) → (t : List (Int × Nat × Nat)) → (ls st : List e_V) → (M : x_M) → (top : Nat) → α := cond (Nat.blt op 40) (cond (Nat.blt op 39) (cond (Nat.blt op 19) (cond (Nat.blt op 9) (cond (Nat.blt op 4) (cond (Nat.blt op 2) (cond (Nat.blt op 1) (x_s0) (x_s1)) (cond (Nat.blt op 3) (x_s2) (x_s3))) (cond (Nat.blt op 6) (cond (Nat.blt op 5) (x_s4) (x_s5)) (cond (Nat.blt op 7) (x_s6) (cond (Nat.blt op 8) (x_s7) (x_s8))))) (cond (Nat.blt op 14) (cond (Nat.blt op 11) (cond (Nat.blt op 10) (x_s9) (x_s10)) (cond (Nat.blt op 12) (x_s11) (cond (Nat.blt op 13) (x_s12) (x_s13)))) (cond (Nat.blt op 16) (cond (Nat.blt op 15) (x_s14) (x_s15)) (cond (Nat.blt op 17) (x_s16) (cond (Nat.blt op 18) (x_s17) (x_s18)))))) (cond (Nat.blt op 29) (cond (Nat.blt op 24) (cond (Nat.blt op 21) (cond (Nat.blt op 20) (x_s19) (x_s20)) (cond (Nat.blt op 22) (x_s21) (cond (Nat.blt op 23) (x_s22) (x_s23)))) (cond (Nat.blt op 26) (cond (Nat.blt op 25) (x_s24) (x_s25)) (cond (Nat.blt op 27) (x_s26) (cond (Nat.blt op 28) (x_s27) (x_s28))))) (cond (Nat.blt op 34) (cond (Nat.blt op 31) (cond (Nat.blt op 30) (x_s29) (x_s30)) (cond (Nat.blt op 32) (x_s31) (cond (Nat.blt op 33) (x_s32) (x_s33)))) (cond (Nat.blt op 36) (cond (Nat.blt op 35) (x_s34) (x_s35)) (cond (Nat.blt op 37) (x_s36) (cond (Nat.blt op 38) (x_s37) (x_s38))))))) (x_s39)) x_sf
theorem x_st2_eq {α : Type} : ∀ op : Nat, x_st2 (α := α) op = x_st op
  | 0 => rfl
  | 1 => rfl
  | 2 => rfl
  | 3 => rfl
  | 4 => rfl
  | 5 => rfl
  | 6 => rfl
  | 7 => rfl
  | 8 => rfl
  | 9 => rfl
  | 10 => rfl
  | 11 => rfl
  | 12 => rfl
  | 13 => rfl
  | 14 => rfl
  | 15 => rfl
  | 16 => rfl
  | 17 => rfl
  | 18 => rfl
  | 19 => rfl
  | 20 => rfl
  | 21 => rfl
  | 22 => rfl
  | 23 => rfl
  | 24 => rfl
  | 25 => rfl
  | 26 => rfl
  | 27 => rfl
  | 28 => rfl
  | 29 => rfl
  | 30 => rfl
  | 31 => rfl
  | 32 => rfl
  | 33 => rfl
  | 34 => rfl
  | 35 => rfl
  | 36 => rfl
  | 37 => rfl
  | 38 => rfl
  | 39 => rfl
  | n + 40 => by
    unfold x_st2
    rw [show Nat.blt (n + 40) 40 = false from Bool.eq_false_iff.mpr (fun e => by rw [Nat.blt_eq] at e; omega)]
    rfl
def x_tk : Nat → List e_V → List e_V → Option (List e_V × List e_V)
  | 0, acc, st => some (acc, st)
  | _ + 1, _, [] => none
  | n + 1, acc, v :: st => x_tk n (v :: acc) st
theorem x_tk_ok : ∀ (n : Nat) (acc st ar rest : List e_V), x_tk n acc st = some (ar, rest) → ∃ l : List e_V, l.length = n ∧ st = l ++ rest ∧ ar = l.reverse ++ acc
  | 0, acc, st, ar, rest, h => by
    obtain ⟨rfl, rfl⟩ := Prod.mk.inj (Option.some.inj h)
    exact ⟨[], rfl, rfl, rfl⟩
  | n + 1, acc, [], ar, rest, h => by cases h
  | n + 1, acc, v :: st, ar, rest, h => by
    obtain ⟨l, h1, h2, h3⟩ := x_tk_ok n (v :: acc) st ar rest h
    exact ⟨v :: l, by rw [List.length_cons, h1], by rw [h2]; rfl, by rw [h3, List.reverse_cons, List.append_assoc]; rfl⟩
def x_sel {α : Type} (j : Nat) (code suf : List α) : List α := match j with
  | 0 => suf
  | Nat.succ k => code.drop k
/-- who is called: nobody's object, a new one, or one of a kind -/
def x_rc (f : Nat → x_O) (top c : Nat) (ar : List e_V) : Bool := match c with
  | 0 => true
  | 1 => (match ar with
    | .inr (.inr (.inl (.ofNat n))) :: _ => x_ln n
    | _ => false)
  | Nat.succ (Nat.succ k) => (match ar with
    | .inr (.inr (.inl (.ofNat n))) :: _ => x_al top n && Nat.beq (f n).1 k
    | _ => false)
def x_cat (l1 : List x_Lg) (r : Option (x_Rs × List Int × List x_Lg)) : Option (x_Rs × List Int × List x_Lg) := match r with
  | none => none
  | some (q, o, l) => some (q, o, l1 ++ l)
theorem x_cat_b {l1 lg : List x_Lg} {r : Option (x_Rs × List Int × List x_Lg)} {r0 : x_Rs} {o : List Int} (h : x_cat l1 r = some (r0, o, lg)) : ∃ l2, r = some (r0, o, l2) ∧ lg = l1 ++ l2 := by
  unfold x_cat at h
  split at h
  · cases h
  · cases h; exact ⟨_, rfl, rfl⟩
abbrev x_Rn : Type := Nat → List x_I → List x_I → Nat → List e_V → List e_V → x_M → Nat → x_A
/-- an answer, no throw; how many cells a throw makes -/
def x_nu (v : Option e_V) : Bool := match v with
  | some (.inr (.inr (.inr _))) => false
  | _ => true
def x_x1 (v : Option e_V) : Nat := match v with
  | some (.inr (.inr (.inr _))) => 1
  | _ => 0
theorem x_nu_x1 {v : Option e_V} (h : x_nu v = true) : x_x1 v = 0 := by
  rcases v with _ | (x | x | x | x)
  · rfl
  · rfl
  · rfl
  · rfl
  · cases h
theorem x_nu_ne {v : Option e_V} (h : x_nu v = true) : v ≠ some (.inr (.inr (.inr ()))) := by rintro rfl; cases h
def x_psh {α : Type} (v : Option e_V) (rest : List e_V) (k : List e_V → α) : α := match v with
  | none => k rest
  | some w => k (w :: rest)
theorem x_psh_eq {α : Type} {v : Option e_V} {rest : List e_V} {k : List e_V → α} : x_psh v rest k = k (v.toList ++ rest) := by cases v <;> rfl
/-- a call: the callee's run, then on -/
def x_cl (rec : x_Rn) (d : Nat) (code suf2 : List x_I) (pc : Nat) (ls rest : List e_V) (r : Option (x_Rs × List Int × List x_Lg)) : Option (x_Rs × List Int × List x_Lg) := match r with
  | none => none
  | some ((v, M2, t2), o2, l1) => cond (x_nu v) (x_psh v rest fun st => x_cat l1 (rec d code suf2 (pc + 3) ls st M2 t2 o2)) none
def x_G (C : Nat → List x_I × Nat) (B : Nat → x_O) (rec : x_Rn) (d : Nat) (code suf2 : List x_I) (ipc op a b c : Nat) (ls st : List e_V) (M : x_M) (top : Nat) : x_A := match op with
  | 40 => (match x_tk b [] st with
    | none => x_fR
    | some (ar, rest) => cond (Nat.ble 5 d && (Nat.ble (e_cat rest) 8 && (Nat.ble (e_la ar).length (C a).2 && (Nat.ble (C a).2 100 && x_rc (x_rd B M) top c ar))))
      (fun o => x_cl rec d code suf2 ipc ls rest (x_frc (e_loc (C a).2 ar) fun la => rec (d - 1) (C a).1 (C a).1 0 la [] M top o)) x_fR)
  | 41 => x_eI st x_fR fun x r => cond r.isEmpty (fun o => some ((some (.inl x), M, top), o, [])) x_fR
  | 42 => x_eI st x_fR fun x r => cond (r.isEmpty && x_01 x) (fun o => some ((some (.inl x), M, top), o, [])) x_fR
  | 43 => x_eL st x_fR fun x r => cond r.isEmpty (fun o => some ((some (.inr (.inl x)), M, top), o, [])) x_fR
  | 44 => cond st.isEmpty (fun o => some ((none, M, top), o, [])) x_fR
  | 45 => x_eA st x_fR fun n r => cond r.isEmpty (fun o => some ((some (.inr (.inr (.inl (.ofNat n)))), M, top), o, [])) x_fR
  | 46 => cond (Nat.ble 6 d && Nat.ble (e_cat st) 8) (fun o => some ((some (.inr (.inr (.inr ()))), M, top), o, [])) x_fR
  | _ => x_fR
def x_on (rec : x_Rn) (d : Nat) (code suf2 : List x_I) (j p : Nat) (l s : List e_V) (m : x_M) (t2 : Nat) : x_A := rec d code (x_sel j code suf2) p l s m t2
def x_i1 (C : Nat → List x_I × Nat) (B : Nat → x_O) (S0 : Nat → Nat × Nat) (rec : x_Rn) (d : Nat) (code suf2 : List x_I) (i : x_I) (pc : Nat) (ls st : List e_V) (M : x_M) (top : Nat) : x_A := match i with
  | (ipc, op, a, b, c, z, t) => cond (Nat.beq ipc pc) (cond (Nat.blt op 40)
      (x_st2 op x_fR x_brR x_bsR x_arR (x_on rec d code suf2) B S0 ipc a b c z t ls st M top)
      (x_G C B rec d code suf2 ipc op a b c ls st M top)) x_fR
def x_F (C : Nat → List x_I × Nat) (B : Nat → x_O) (S0 : Nat → Nat × Nat) (rec : x_Rn) (d : Nat) (code suf : List x_I) (pc : Nat) (ls st : List e_V) (M : x_M) (top : Nat) : x_A := match suf with
  | [] => x_fR
  | i :: suf2 => x_i1 C B S0 rec d code suf2 i pc ls st M top
def x_run (C : Nat → List x_I × Nat) (B : Nat → x_O) (S0 : Nat → Nat × Nat) : Nat → x_Rn
  | 0 => fun _ _ _ _ _ _ _ _ => x_fR
  | n + 1 => x_F C B S0 (x_run C B S0 n)
/-- a call -/
def x_okC (Y : e_Y) (Ys : Nat → e_Y) (pc a b c : Nat) : Prop :=
  ∀ (sh : Nat → Nat × Nat) (rm rc : Nat × Nat × Nat) (ls st ar : List e_V) (g : e_G) (cs : Nat × Nat) (Q : Option e_V → e_G → Prop), ar.length = b →
    (c = 0 ∨ ∃ (n : Nat) (vs : List e_V), ar = .inr (.inr (.inl (.ofNat n))) :: vs ∧ (c = 1 ∨ (sh n).1 + 2 = c)) → (e_la ar).length ≤ (Ys a).2.2.1 ∧ (Ys a).2.2.1 ≤ 100 → rc.1 + 1 ≤ rm.1 → cs.1 + rc.2.1 ≤ rm.2.1 → cs.2 + rc.2.2 ≤ rm.2.2 → e_cat st ≤ 8 →
    e_T sh (Ys a) rc 0 (e_loc (Ys a).2.2.1 ar) [] g (0, 0) (e_bk sh Y rm (pc + 3) ls st g.2 (cs.1 + rc.2.1, cs.2 + rc.2.2) Q) → e_T sh Y rm pc ls (ar.reverse ++ st) g cs Q
/-- a throw -/
def x_okX (Y : e_Y) (pc : Nat) : Prop :=
  ∀ (sh : Nat → Nat × Nat) (rm : Nat × Nat × Nat) (ls st : List e_V) (g : e_G) (cs : Nat × Nat) (Q : Option e_V → e_G → Prop), 6 ≤ rm.1 → e_cat st ≤ 8 → cs.1 + 1 ≤ rm.2.1 → cs.2 + 6 ≤ rm.2.2 → Q (some (.inr (.inr (.inr ())))) g → e_T sh Y rm pc ls st g cs Q
def x_iok (Ys : Nat → e_Y) (Y : e_Y) (i : x_I) : Prop := match i.2.1 with
  | 40 => x_okC Y Ys i.1 i.2.2.1 i.2.2.2.1 i.2.2.2.2.1
  | 41 => decode Y.2.1 i.1 = .ok (.ireturn, 1) ∧ Y.2.2.2 = some .int
  | 42 => decode Y.2.1 i.1 = .ok (.ireturn, 1) ∧ Y.2.2.2 = some .boolean
  | 43 => decode Y.2.1 i.1 = .ok (.lreturn, 1) ∧ Y.2.2.2 = some .long
  | 44 => decode Y.2.1 i.1 = .ok (.return_, 1) ∧ Y.2.2.2 = none
  | 46 => x_okX Y i.1
  | 45 => decode Y.2.1 i.1 = .ok (.areturn, 1) ∧ ∃ ty, Y.2.2.2 = some ty ∧ ((∃ n, ty = .object n) ∨ ∃ t, ty = .array t)
  | op => x_ok Y op i.1 i.2.2.1 i.2.2.2.1 i.2.2.2.2.1 i.2.2.2.2.2.1 i.2.2.2.2.2.2
def x_all (Ys : Nat → e_Y) (Y : e_Y) : List x_I → Prop
  | [] => True
  | i :: l => x_iok Ys Y i ∧ x_all Ys Y l
theorem x_all_mem {Ys : Nat → e_Y} {Y : e_Y} : ∀ {l : List x_I} {i : x_I}, x_all Ys Y l → i ∈ l → x_iok Ys Y i
  | j :: l, i, h, hi => by
    rcases List.mem_cons.mp hi with rfl | hi
    · exact h.1
    · exact x_all_mem h.2 hi
theorem x_all_drop {Ys : Nat → e_Y} {Y : e_Y} {l : List x_I} (h : ∀ i ∈ l, x_iok Ys Y i) (k : Nat) : ∀ i ∈ l.drop k, x_iok Ys Y i := fun i hi => h i (List.mem_of_mem_drop hi)
theorem x_iok_lt {Ys : Nat → e_Y} {Y : e_Y} {pc op a b c : Nat} {z : Int} {t : List (Int × Nat × Nat)} (h : x_iok Ys Y (pc, op, a, b, c, z, t)) (ho : op < 40) : x_ok Y op pc a b c z t := by
  unfold x_iok at h
  dsimp only at h
  split at h <;> first | exact h | omega
theorem x_al_ln {top n : Nat} (h : x_al top n = true) : x_ln n = true := by
  unfold x_al at h
  rw [Bool.or_eq_true, Bool.and_eq_true, Nat.blt_eq, Nat.ble_eq] at h
  rcases h with h | h
  · have := x_aw_ok h; exact x_lnlt (by omega)
  · exact x_lnlt (by omega)
theorem x_inj3 {v v2 : Option e_V} {M M2 : x_M} {t t2 : Nat} {o o2 : List Int} {l : List x_Lg} (h : some ((v, M, t), o, ([] : List x_Lg)) = some ((v2, M2, t2), o2, l)) : v2 = v ∧ M2 = M ∧ t2 = t := by
  cases h
  exact ⟨rfl, rfl, rfl⟩
theorem x_la_dn {ρ : Nat → Int} : ∀ {l : List e_V}, e_la (l.map (x_dv ρ)) = (e_la l).map (x_dv ρ)
  | [] => rfl
  | .inl x :: r => by show _ :: e_la (r.map (x_dv ρ)) = _ :: _; rw [x_la_dn]
  | .inr (.inl x) :: r => by show _ :: _ :: e_la (r.map (x_dv ρ)) = _ :: _ :: _; rw [x_la_dn]; rfl
  | .inr (.inr (.inl x)) :: r => by show _ :: e_la (r.map (x_dv ρ)) = _ :: _; rw [x_la_dn]; rfl
  | .inr (.inr (.inr ())) :: r => by show _ :: e_la (r.map (x_dv ρ)) = _ :: _; rw [x_la_dn]; rfl
theorem x_loc_dn {ρ : Nat → Int} {n : Nat} {l : List e_V} : e_loc n (l.map (x_dv ρ)) = (e_loc n l).map (x_dv ρ) := by
  unfold e_loc
  rw [x_la_dn, List.map_append, List.map_replicate, List.length_map]
  rfl
theorem x_nu_dn {ρ : Nat → Int} {v : Option e_V} (h : v ≠ some (.inr (.inr (.inr ())))) : v.map (x_dv ρ) ≠ some (.inr (.inr (.inr ()))) := by
  rcases v with _ | (x | x | x | x)
  · exact fun h => by cases h
  · exact fun h => by cases h
  · exact fun h => by cases h
  · exact fun h => by cases h
  · exact absurd rfl h
theorem x_run_ok {C : Nat → List x_I × Nat} {B : Nat → x_O} {S0 : Nat → Nat × Nat} {sh : Nat → Nat × Nat} {W : e_M} {Ys : Nat → e_Y} {ρ : Nat → Int} (hB : x_Bl ρ B) (hS : ∀ a, a < 1000000 → S0 a = sh a) (hC : ∀ id, (∀ i ∈ (C id).1, x_iok Ys (Ys id) i) ∧ ((C id).1 ≠ [] → (C id).2 = (Ys id).2.2.1)) :
    ∀ (n d : Nat) (Y : e_Y) (code suf : List x_I) (pc : Nat) (ls st : List e_V) (M : x_M) (top : Nat) (o : List Int) (v : Option e_V) (M2 : x_M) (t2 : Nat) (o2 : List Int) (lg : List x_Lg), (∀ i ∈ code, x_iok Ys Y i) → (∀ i ∈ suf, x_iok Ys Y i) → x_run C B S0 n d code suf pc ls st M top o = some ((v, M2, t2), o2, lg) →
      top ≤ t2 ∧ ((∀ e ∈ lg, x_ho ρ e) → ∀ (rm : Nat × Nat × Nat) (g : e_G) (cs : Nat × Nat) (T0 : Nat), d ≤ rm.1 → 4 ≤ rm.1 → ls.length ≤ Y.2.2.1 → g.2 = top → x_R sh W (x_rd B (x_dM ρ M)) g → cs.1 + T0 = top → cs.2 + x_sl sh T0 = x_sl sh top → t2 + x_x1 v ≤ T0 + rm.2.1 → x_sl sh t2 + 6 * x_x1 v ≤ x_sl sh T0 + rm.2.2 →
        e_T sh Y rm pc (ls.map (x_dv ρ)) (st.map (x_dv ρ)) g cs (fun v' g' => v' = v.map (x_dv ρ) ∧ g'.2 = t2 ∧ x_R sh W (x_rd B (x_dM ρ M2)) g')) := by
  intro n
  induction n with
  | zero => intro d Y code suf pc ls st M top o v M2 t2 o2 lg _ _ h; cases h
  | succ n ih =>
    intro d Y code suf pc ls st M top o v M2 t2 o2 lg hcode hsuf h
    cases suf with
    | nil => cases h
    | cons i suf2 =>
      obtain ⟨ipc, op, a, b, c, z, t⟩ := i
      replace h := x_br_b (show x_brR (Nat.beq ipc pc) _ x_fR o = some ((v, M2, t2), o2, lg) from h)
      obtain ⟨hpc, h⟩ := h
      obtain rfl := x_bq hpc
      have hi := hsuf _ List.mem_cons_self
      have hsuf2 : ∀ i ∈ suf2, x_iok Ys Y i := fun i hi => hsuf i (List.mem_cons_of_mem _ hi)
      have hsel : ∀ j, ∀ i ∈ x_sel j code suf2, x_iok Ys Y i := by
        intro j
        cases j with
        | zero => exact hsuf2
        | succ k => exact x_all_drop hcode k
      cases ho : Nat.blt op 40 with
      | true =>
        rw [ho, cond_true, x_st2_eq] at h
        have hok := x_iok_lt hi (x_bl ho)
        obtain ⟨j0, p0, l0, s0, m0, t0, o0, g0, ht0, hk0⟩ := x_reach op h
        refine ⟨Nat.le_trans ht0 (ih _ _ _ _ _ _ _ _ _ _ _ _ _ _ _ hcode (hsel j0) hk0).1, fun hlg rm g cs T0 hd hd4 hlen hg hR c1 c2 r1 r2 => ?_⟩
        subst hg
        refine hok sh W rm _ _ _ g cs _ T0 B S0 hS hd4 (by rw [List.length_map]; exact hlen) hR c1 c2 (x_sim hB (fun j p l s m t3 o1 lg1 ht hk hl => ?_) hlg op h)
        obtain ⟨q1, q2⟩ := ih _ _ _ _ _ _ _ _ _ _ _ _ _ _ _ hcode (hsel j) hk
        exact ⟨⟨by omega, Nat.le_trans (x_sl_mono q1) (by omega)⟩, fun hl2 g2 cs2 e1 e2 e3 e4 => q2 hl rm g2 cs2 T0 hd hd4 (by rw [List.length_map] at hl2; exact hl2) e1 e2 e3 e4 r1 r2⟩
      | false =>
        rw [ho, cond_false] at h
        clear ho
        by_cases e40 : op = 40
        · subst e40
          have h : (match x_tk b [] st with
            | none => x_fR
            | some (ar, rest) => cond (Nat.ble 5 d && (Nat.ble (e_cat rest) 8 && (Nat.ble (e_la ar).length (C a).2 && (Nat.ble (C a).2 100 && x_rc (x_rd B M) top c ar))))
              (fun o => x_cl (x_run C B S0 n) d code suf2 ipc ls rest (x_frc (e_loc (C a).2 ar) fun la => x_run C B S0 n (d - 1) (C a).1 (C a).1 0 la [] M top o)) x_fR) o = some ((v, M2, t2), o2, lg) := h
          cases htk : x_tk b [] st with
          | none => rw [htk] at h; cases h
          | some q =>
            obtain ⟨ar, rest⟩ := q
            rw [htk] at h
            dsimp only at h
            replace h := x_br_b (show x_brR _ _ x_fR o = some ((v, M2, t2), o2, lg) from h)
            obtain ⟨hc, h⟩ := h
            rw [x_frc_eq] at h
            cases hr : x_run C B S0 n (d - 1) (C a).1 (C a).1 0 (e_loc (C a).2 ar) [] M top o with
            | none => rw [hr] at h; cases h
            | some w =>
              obtain ⟨⟨v1, M1, t1⟩, o1, lg1⟩ := w
              rw [hr] at h
              replace h : cond (x_nu v1) (x_psh v1 rest fun st => x_cat lg1 (x_run C B S0 n d code suf2 (ipc + 3) ls st M1 t1 o1)) none = some ((v, M2, t2), o2, lg) := h
              have kn : x_nu v1 = true := by
                cases hn : x_nu v1 with
                | true => rfl
                | false => rw [hn] at h; cases h
              rw [kn, cond_true] at h
              have kx := x_nu_x1 kn
              rw [x_psh_eq] at h
              replace h := x_cat_b h
              obtain ⟨lg2, h2, rfl⟩ := h
              obtain ⟨l, hl, hst, har⟩ := x_tk_ok b [] st ar rest htk
              rw [List.append_nil] at har
              obtain ⟨k1, k2⟩ := ih (d - 1) (Ys a) (C a).1 (C a).1 0 (e_loc (C a).2 ar) [] M top o v1 M1 t1 o1 lg1 (hC a).1 (hC a).1 hr
              obtain ⟨k3, k4⟩ := ih d Y code suf2 (ipc + 3) ls (v1.toList ++ rest) M1 t1 o1 v M2 t2 o2 lg2 hcode hsuf2 h2
              refine ⟨Nat.le_trans k1 k3, fun hlg rm g cs T0 hd hd4 hlen hg hR c1 c2 r1 r2 => ?_⟩
              have hY : (C a).2 = (Ys a).2.2.1 := (hC a).2 (fun e => by
                rw [e] at hr
                cases n <;> cases hr)
              obtain ⟨q1, hc⟩ := x_an hc
              obtain ⟨q2, hc⟩ := x_an hc
              obtain ⟨q3, hc⟩ := x_an hc
              obtain ⟨q4, q5⟩ := x_an hc
              have q1 := x_be q1
              have q2 := x_be q2
              have q3 := x_be q3
              have q4 := x_be q4
              have m1 := x_sl_mono (sh := sh) k1
              have m2 := x_sl_mono (sh := sh) k3
              subst hg
              have hes : st.map (x_dv ρ) = (ar.map (x_dv ρ)).reverse ++ rest.map (x_dv ρ) := by rw [hst, har, List.map_append, List.map_reverse, List.reverse_reverse]
              rw [hes]
              have hrec : c = 0 ∨ ∃ (n : Nat) (vs : List e_V), ar.map (x_dv ρ) = .inr (.inr (.inl (.ofNat n))) :: vs ∧ (c = 1 ∨ (sh n).1 + 2 = c) := by
                unfold x_rc at q5
                split at q5
                · exact Or.inl rfl
                · split at q5
                  · exact Or.inr ⟨_, _, by rw [List.map_cons, x_dvA q5], Or.inl rfl⟩
                  · cases q5
                · split at q5
                  · obtain ⟨u1, u2⟩ := x_an q5
                    obtain ⟨u3, u4⟩ := x_al_ok u1
                    refine Or.inr ⟨_, _, by rw [List.map_cons, x_dvA (x_al_ln u1)], Or.inr ?_⟩
                    rw [hR.kd u3 u4, x_rd_dn hB]
                    show (x_rd B M _).1 + 2 = _
                    rw [x_bq u2]
                  · cases q5
              have hla : (e_la (ar.map (x_dv ρ))).length ≤ (Ys a).2.2.1 := by rw [x_la_dn, List.length_map, ← hY]; exact q3
              refine hi sh rm (rm.1 - 1, t1 - g.2, x_sl sh t1 - x_sl sh g.2) _ _ (ar.map (x_dv ρ)) g cs _ (by rw [List.length_map, har, List.length_reverse, hl]) hrec ⟨hla, by rw [← hY]; exact q4⟩ (by show rm.1 - 1 + 1 ≤ rm.1; omega) (by show cs.1 + (t1 - g.2) ≤ rm.2.1; omega) (by show cs.2 + (x_sl sh t1 - x_sl sh g.2) ≤ rm.2.2; omega) (by rw [e_cat_dn]; exact q2) ?_
              rw [← hY, x_loc_dn]
              refine e_T.mono (k2 (fun e he => hlg e (List.mem_append_left _ he)) (rm.1 - 1, t1 - g.2, x_sl sh t1 - x_sl sh g.2) g (0, 0) g.2 (by show d - 1 ≤ rm.1 - 1; omega) (by show 4 ≤ rm.1 - 1; omega) (by rw [← hY]; unfold e_loc; rw [List.length_append, List.length_replicate]; omega) rfl hR (Nat.zero_add _) (Nat.zero_add _) (by show t1 + x_x1 v1 ≤ g.2 + (t1 - g.2); omega) (by show x_sl sh t1 + 6 * x_x1 v1 ≤ x_sl sh g.2 + (x_sl sh t1 - x_sl sh g.2); omega)) ?_
              rintro v' g' ⟨rfl, e2, e3⟩
              refine ⟨x_nu_dn (x_nu_ne kn), fun _ => ?_⟩
              have e9 : (Option.map (x_dv ρ) v1).toList ++ List.map (x_dv ρ) rest = (v1.toList ++ rest).map (x_dv ρ) := by
                rw [List.map_append]
                cases v1 <;> rfl
              rw [e9]
              exact k4 (fun e he => hlg e (List.mem_append_right _ he)) rm g' _ T0 hd hd4 hlen e2 e3 (by show cs.1 + (t1 - g.2) + T0 = t1; omega) (by show cs.2 + (x_sl sh t1 - x_sl sh g.2) + x_sl sh T0 = x_sl sh t1; omega) r1 r2
        by_cases e41 : op = 41
        · subst e41
          replace h : x_eI st x_fR (fun x r => cond r.isEmpty (fun o => some (((some (.inl x)), M, top), o, [])) x_fR) o = some ((v, M2, t2), o2, lg) := h
          obtain ⟨x, r, e⟩ := x_eI_b (fun e => by rw [e] at h; cases h)
          subst e
          rw [x_eI_e] at h
          replace h := x_br_b (show x_brR _ _ x_fR o = some ((v, M2, t2), o2, lg) from h)
          obtain ⟨hc, h⟩ := h
          obtain rfl := List.isEmpty_iff.mp hc
          obtain ⟨rfl, rfl, rfl⟩ := x_inj3 h
          exact ⟨Nat.le_refl _, fun hlg rm g cs T0 hd hd4 hlen hg hR c1 c2 r1 r2 => e_iret hi.1 hi.2 (by omega) (by omega) ⟨rfl, hg, hR⟩⟩
        by_cases e42 : op = 42
        · subst e42
          replace h : x_eI st x_fR (fun x r => cond (r.isEmpty && x_01 x) (fun o => some (((some (.inl x)), M, top), o, [])) x_fR) o = some ((v, M2, t2), o2, lg) := h
          obtain ⟨x, r, e⟩ := x_eI_b (fun e => by rw [e] at h; cases h)
          subst e
          rw [x_eI_e] at h
          replace h := x_br_b (show x_brR _ _ x_fR o = some ((v, M2, t2), o2, lg) from h)
          obtain ⟨hc, h⟩ := h
          obtain ⟨hc, hx⟩ := x_an hc
          obtain rfl := List.isEmpty_iff.mp hc
          obtain ⟨rfl, rfl, rfl⟩ := x_inj3 h
          exact ⟨Nat.le_refl _, fun hlg rm g cs T0 hd hd4 hlen hg hR c1 c2 r1 r2 => e_zret hi.1 hi.2 (x_01_ok (x_01_dn hx)) (by omega) (by omega) ⟨rfl, hg, hR⟩⟩
        by_cases e43 : op = 43
        · subst e43
          replace h : x_eL st x_fR (fun x r => cond r.isEmpty (fun o => some (((some (.inr (.inl x))), M, top), o, [])) x_fR) o = some ((v, M2, t2), o2, lg) := h
          obtain ⟨x, r, e⟩ := x_eL_b (fun e => by rw [e] at h; cases h)
          subst e
          rw [x_eL_e] at h
          replace h := x_br_b (show x_brR _ _ x_fR o = some ((v, M2, t2), o2, lg) from h)
          obtain ⟨hc, h⟩ := h
          obtain rfl := List.isEmpty_iff.mp hc
          obtain ⟨rfl, rfl, rfl⟩ := x_inj3 h
          exact ⟨Nat.le_refl _, fun hlg rm g cs T0 hd hd4 hlen hg hR c1 c2 r1 r2 => e_lret hi.1 hi.2 (by omega) (by omega) ⟨rfl, hg, hR⟩⟩
        by_cases e45 : op = 45
        · subst e45
          replace h : x_eA st x_fR (fun x r => cond r.isEmpty (fun o => some (((some (.inr (.inr (.inl (.ofNat x))))), M, top), o, [])) x_fR) o = some ((v, M2, t2), o2, lg) := h
          obtain ⟨x, r, e, qx⟩ := x_eA_b (fun e => by rw [e] at h; cases h)
          subst e
          rw [x_eA_e qx] at h
          replace h := x_br_b (show x_brR _ _ x_fR o = some ((v, M2, t2), o2, lg) from h)
          obtain ⟨hc, h⟩ := h
          obtain rfl := List.isEmpty_iff.mp hc
          obtain ⟨rfl, rfl, rfl⟩ := x_inj3 h
          exact ⟨Nat.le_refl _, fun hlg rm g cs T0 hd hd4 hlen hg hR c1 c2 r1 r2 => e_aret hi.1 hi.2.choose_spec.1 hi.2.choose_spec.2 (by omega) (by omega) ⟨rfl, hg, hR⟩⟩
        by_cases e44 : op = 44
        · subst e44
          replace h := x_br_b (show x_brR st.isEmpty (fun o => some ((none, M, top), o, [])) x_fR o = some ((v, M2, t2), o2, lg) from h)
          obtain ⟨hc, h⟩ := h
          obtain rfl := List.isEmpty_iff.mp hc
          obtain ⟨rfl, rfl, rfl⟩ := x_inj3 h
          exact ⟨Nat.le_refl _, fun hlg rm g cs T0 hd hd4 hlen hg hR c1 c2 r1 r2 => e_vret hi.1 hi.2 (by omega) (by omega) ⟨rfl, hg, hR⟩⟩
        by_cases e46 : op = 46
        · subst e46
          replace h := x_br_b (show x_brR (Nat.ble 6 d && Nat.ble (e_cat st) 8) (fun o => some ((some (.inr (.inr (.inr ()))), M, top), o, [])) x_fR o = some ((v, M2, t2), o2, lg) from h)
          obtain ⟨hc, h⟩ := h
          obtain ⟨hc1, hc2⟩ := x_an hc
          have hc1 := x_be hc1
          have hc2 := x_be hc2
          obtain ⟨rfl, rfl, rfl⟩ := x_inj3 h
          exact ⟨Nat.le_refl _, fun hlg rm g cs T0 hd hd4 hlen hg hR c1 c2 r1 r2 => hi sh rm _ _ g cs _ (by omega) (by rw [e_cat_dn]; exact hc2) (by have : x_x1 (some (.inr (.inr (.inr ())) : e_V)) = 1 := rfl; omega) (by have : x_x1 (some (.inr (.inr (.inr ())) : e_V)) = 1 := rfl; omega) ⟨rfl, hg, hR⟩⟩
        exfalso
        unfold x_G at h
        split at h <;> first | contradiction | (cases h; done) | omega
end
