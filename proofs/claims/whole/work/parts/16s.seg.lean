/-! the run of a frame up to a place: from one place of a method to another -/
noncomputable section
def x_vq (v w : e_V) : Bool := match v with
  | .inl x => (match w with
    | .inl y => x_eq x y
    | _ => false)
  | .inr (.inl x) => (match w with
    | .inr (.inl y) => x_eq x y
    | _ => false)
  | .inr (.inr (.inl x)) => (match w with
    | .inr (.inr (.inl y)) => x_eq x y
    | _ => false)
  | .inr (.inr (.inr _)) => (match w with
    | .inr (.inr (.inr _)) => true
    | _ => false)
theorem x_vq_ok {v w : e_V} (h : x_vq v w = true) : v = w := by
  rcases v with x | x | x | x <;> rcases w with y | y | y | y <;> first
    | (cases h; done)
    | (have h : x_eq x y = true := h
       rw [x_eq_iff.mp h]; done)
    | rfl
def x_lq : List e_V → List e_V → Bool
  | [], [] => true
  | v :: l, w :: m => x_vq v w && x_lq l m
  | [], _ :: _ => false
  | _ :: _, [] => false
theorem x_lq_ok : ∀ {l m : List e_V}, x_lq l m = true → l = m
  | [], [], _ => rfl
  | v :: l, w :: m, h => by
    obtain ⟨h1, h2⟩ := x_an (show (x_vq v w && x_lq l m) = true from h)
    rw [x_vq_ok h1, x_lq_ok h2]
  | [], _ :: _, h => by cases h
  | _ :: _, [], h => by cases h
def x_G2 (C : Nat → List x_I × Nat) (B : Nat → x_O) (run rec : x_Rn) (d : Nat) (code suf2 : List x_I) (ipc a b c : Nat) (ls st : List e_V) (M : x_M) (top : Nat) : x_A := match x_tk b [] st with
  | none => x_fR
  | some (ar, rest) => cond (Nat.ble 5 d && (Nat.ble (e_cat rest) 8 && (Nat.ble (e_la ar).length (C a).2 && (Nat.ble (C a).2 100 && x_rc (x_rd B M) top c ar))))
      (fun o => x_cl rec d code suf2 ipc ls rest (x_frc (e_loc (C a).2 ar) fun la => run (d - 1) (C a).1 (C a).1 0 la [] M top o)) x_fR
def x_i2 (C : Nat → List x_I × Nat) (B : Nat → x_O) (S0 : Nat → Nat × Nat) (run rec : x_Rn) (d : Nat) (code suf2 : List x_I) (i : x_I) (pc : Nat) (ls st : List e_V) (M : x_M) (top : Nat) : x_A := match i with
  | (ipc, op, a, b, c, z, t) => cond (Nat.beq ipc pc) (cond (Nat.blt op 40)
      (x_st2 op x_fR x_brR x_bsR x_arR (x_on rec d code suf2) B S0 ipc a b c z t ls st M top)
      (cond (Nat.beq op 40) (x_G2 C B run rec d code suf2 ipc a b c ls st M top) x_fR)) x_fR
def x_sgG (C : Nat → List x_I × Nat) (B : Nat → x_O) (S0 : Nat → Nat × Nat) (run rec : x_Rn) (d : Nat) (code suf : List x_I) (pc : Nat) (ls st : List e_V) (M : x_M) (top : Nat) : x_A := match suf with
  | [] => x_fR
  | i :: suf2 => x_i2 C B S0 run rec d code suf2 i pc ls st M top
def x_sgF (P : Nat) (LS ST : List e_V) (C : Nat → List x_I × Nat) (B : Nat → x_O) (S0 : Nat → Nat × Nat) (run rec : x_Rn) (d : Nat) (code suf : List x_I) (pc : Nat) (ls st : List e_V) (M : x_M) (top : Nat) : x_A :=
  cond (Nat.beq pc P && (x_lq st ST && x_lq ls LS)) (fun o => some ((none, M, top), o, [])) (x_sgG C B S0 run rec d code suf pc ls st M top)
def x_sg (P : Nat) (LS ST : List e_V) (C : Nat → List x_I × Nat) (B : Nat → x_O) (S0 : Nat → Nat × Nat) : Nat → x_Rn
  | 0 => fun _ _ _ _ _ _ _ _ => x_fR
  | n + 1 => x_sgF P LS ST C B S0 (x_run C B S0 n) (x_sg P LS ST C B S0 n)
theorem x_sg_ok {P : Nat} {LS ST : List e_V} {C : Nat → List x_I × Nat} {B : Nat → x_O} {S0 : Nat → Nat × Nat} {sh : Nat → Nat × Nat} {W : e_M} {Ys : Nat → e_Y} {ρ : Nat → Int} (hB : x_Bl ρ B) (hS : ∀ a, a < 1000000 → S0 a = sh a) (hC : ∀ id, (∀ i ∈ (C id).1, x_iok Ys (Ys id) i) ∧ ((C id).1 ≠ [] → (C id).2 = (Ys id).2.2.1)) :
    ∀ (n d : Nat) (Y : e_Y) (code suf : List x_I) (pc : Nat) (ls st : List e_V) (M : x_M) (top : Nat) (o : List Int) (v : Option e_V) (M2 : x_M) (t2 : Nat) (o2 : List Int) (lg : List x_Lg), (∀ i ∈ code, x_iok Ys Y i) → (∀ i ∈ suf, x_iok Ys Y i) → x_sg P LS ST C B S0 n d code suf pc ls st M top o = some ((v, M2, t2), o2, lg) →
      top ≤ t2 ∧ ((∀ e ∈ lg, x_ho ρ e) → ∀ (rm : Nat × Nat × Nat) (g : e_G) (cs : Nat × Nat) (T0 : Nat) (Q : Option e_V → e_G → Prop), d ≤ rm.1 → 4 ≤ rm.1 → ls.length ≤ Y.2.2.1 → g.2 = top → x_R sh W (x_rd B (x_dM ρ M)) g → cs.1 + T0 = top → cs.2 + x_sl sh T0 = x_sl sh top → t2 ≤ T0 + rm.2.1 → x_sl sh t2 ≤ x_sl sh T0 + rm.2.2 →
        (∀ (g2 : e_G) (cs2 : Nat × Nat), g2.2 = t2 → x_R sh W (x_rd B (x_dM ρ M2)) g2 → cs2.1 + T0 = t2 → cs2.2 + x_sl sh T0 = x_sl sh t2 → e_T sh Y rm P (LS.map (x_dv ρ)) (ST.map (x_dv ρ)) g2 cs2 Q) →
        e_T sh Y rm pc (ls.map (x_dv ρ)) (st.map (x_dv ρ)) g cs Q) := by
  intro n
  induction n with
  | zero => intro d Y code suf pc ls st M top o v M2 t2 o2 lg _ _ h; cases h
  | succ n ih =>
    intro d Y code suf pc ls st M top o v M2 t2 o2 lg hcode hsuf h
    replace h : cond (Nat.beq pc P && (x_lq st ST && x_lq ls LS)) (fun o => some ((none, M, top), o, [])) (x_sgG C B S0 (x_run C B S0 n) (x_sg P LS ST C B S0 n) d code suf pc ls st M top) o = some ((v, M2, t2), o2, lg) := h
    by_cases hstop : (Nat.beq pc P && (x_lq st ST && x_lq ls LS)) = true
    · rw [hstop, cond_true] at h
      obtain ⟨s1, s2⟩ := x_an hstop
      obtain ⟨s2, s3⟩ := x_an s2
      obtain rfl := x_bq s1
      obtain rfl := x_lq_ok s2
      obtain rfl := x_lq_ok s3
      obtain ⟨rfl, rfl, rfl⟩ := x_inj3 h
      exact ⟨Nat.le_refl _, fun hlg rm g cs T0 Q hd hd4 hlen hg hR c1 c2 r1 r2 k => k g cs hg hR c1 c2⟩
    rw [Bool.eq_false_iff.mpr hstop, cond_false] at h
    cases suf with
    | nil => cases h
    | cons i suf2 =>
      obtain ⟨ipc, op, a, b, c, z, t⟩ := i
      replace h := x_br_b (show x_brR (Nat.beq ipc pc) _ x_fR o = some ((v, M2, t2), o2, lg) from h)
      obtain ⟨hpc, h⟩ := h
      obtain rfl := x_bq hpc
      have hi := hsuf _ List.mem_cons_self
      have hsuf2 : ∀ i ∈ suf2, x_iok Ys Y i := fun i hi => hsuf i (List.mem_cons_of_mem _ hi)
      have hsel : ∀ j, ∀ i ∈ x_sel j code suf2, x_iok Ys Y i := by
        intro j
        cases j with
        | zero => exact hsuf2
        | succ k => exact x_all_drop hcode k
      cases ho : Nat.blt op 40 with
      | true =>
        rw [ho, cond_true, x_st2_eq] at h
        have hok := x_iok_lt hi (x_bl ho)
        obtain ⟨j0, p0, l0, s0, m0, t0, o0, g0, ht0, hk0⟩ := x_reach op h
        refine ⟨Nat.le_trans ht0 (ih _ _ _ _ _ _ _ _ _ _ _ _ _ _ _ hcode (hsel j0) hk0).1, fun hlg rm g cs T0 Q hd hd4 hlen hg hR c1 c2 r1 r2 kq => ?_⟩
        subst hg
        refine hok sh W rm _ _ _ g cs _ T0 B S0 hS hd4 (by rw [List.length_map]; exact hlen) hR c1 c2 (x_sim hB (fun j p l s m t3 o1 lg1 ht hk hl => ?_) hlg op h)
        obtain ⟨q1, q2⟩ := ih _ _ _ _ _ _ _ _ _ _ _ _ _ _ _ hcode (hsel j) hk
        exact ⟨⟨by omega, Nat.le_trans (x_sl_mono q1) r2⟩, fun hl2 g2 cs2 e1 e2 e3 e4 => q2 hl rm g2 cs2 T0 Q hd hd4 (by rw [List.length_map] at hl2; exact hl2) e1 e2 e3 e4 r1 r2 kq⟩
      | false =>
        rw [ho, cond_false] at h
        clear ho
        replace h := x_br_b (show x_brR (Nat.beq op 40) _ x_fR o = some ((v, M2, t2), o2, lg) from h)
        obtain ⟨e40, h⟩ := h
        obtain rfl := x_bq e40
        replace h : (match x_tk b [] st with
            | none => x_fR
            | some (ar, rest) => cond (Nat.ble 5 d && (Nat.ble (e_cat rest) 8 && (Nat.ble (e_la ar).length (C a).2 && (Nat.ble (C a).2 100 && x_rc (x_rd B M) top c ar))))
              (fun o => x_cl (x_sg P LS ST C B S0 n) d code suf2 ipc ls rest (x_frc (e_loc (C a).2 ar) fun la => x_run C B S0 n (d - 1) (C a).1 (C a).1 0 la [] M top o)) x_fR) o = some ((v, M2, t2), o2, lg) := h
        cases htk : x_tk b [] st with
        | none => rw [htk] at h; cases h
        | some q =>
          obtain ⟨ar, rest⟩ := q
          rw [htk] at h
          dsimp only at h
          replace h := x_br_b (show x_brR _ _ x_fR o = some ((v, M2, t2), o2, lg) from h)
          obtain ⟨hc, h⟩ := h
          rw [x_frc_eq] at h
          cases hr : x_run C B S0 n (d - 1) (C a).1 (C a).1 0 (e_loc (C a).2 ar) [] M top o with
          | none => rw [hr] at h; cases h
          | some w =>
            obtain ⟨⟨v1, M1, t1⟩, o1, lg1⟩ := w
            rw [hr] at h
            replace h : cond (x_nu v1) (x_psh v1 rest fun st => x_cat lg1 (x_sg P LS ST C B S0 n d code suf2 (ipc + 3) ls st M1 t1 o1)) none = some ((v, M2, t2), o2, lg) := h
            have kn : x_nu v1 = true := by
              cases hn : x_nu v1 with
              | true => rfl
              | false => rw [hn] at h; cases h
            rw [kn, cond_true] at h
            have kx := x_nu_x1 kn
            rw [x_psh_eq] at h
            replace h := x_cat_b h
            obtain ⟨lg2, h2, rfl⟩ := h
            obtain ⟨l, hl, hst, har⟩ := x_tk_ok b [] st ar rest htk
            rw [List.append_nil] at har
            obtain ⟨k1, k2⟩ := x_run_ok (sh := sh) (W := W) hB hS hC n (d - 1) (Ys a) (C a).1 (C a).1 0 (e_loc (C a).2 ar) [] M top o v1 M1 t1 o1 lg1 (hC a).1 (hC a).1 hr
            obtain ⟨k3, k4⟩ := ih d Y code suf2 (ipc + 3) ls (v1.toList ++ rest) M1 t1 o1 v M2 t2 o2 lg2 hcode hsuf2 h2
            refine ⟨Nat.le_trans k1 k3, fun hlg rm g cs T0 Q hd hd4 hlen hg hR c1 c2 r1 r2 kq => ?_⟩
            have hY : (C a).2 = (Ys a).2.2.1 := (hC a).2 (fun e => by
              rw [e] at hr
              cases n <;> cases hr)
            obtain ⟨q1, hc⟩ := x_an hc
            obtain ⟨q2, hc⟩ := x_an hc
            obtain ⟨q3, hc⟩ := x_an hc
            obtain ⟨q4, q5⟩ := x_an hc
            have q1 := x_be q1
            have q2 := x_be q2
            have q3 := x_be q3
            have q4 := x_be q4
            have m1 := x_sl_mono (sh := sh) k1
            have m2 := x_sl_mono (sh := sh) k3
            subst hg
            have hes : st.map (x_dv ρ) = (ar.map (x_dv ρ)).reverse ++ rest.map (x_dv ρ) := by rw [hst, har, List.map_append, List.map_reverse, List.reverse_reverse]
            rw [hes]
            have hrec : c = 0 ∨ ∃ (n : Nat) (vs : List e_V), ar.map (x_dv ρ) = .inr (.inr (.inl (.ofNat n))) :: vs ∧ (c = 1 ∨ (sh n).1 + 2 = c) := by
              unfold x_rc at q5
              split at q5
              · exact Or.inl rfl
              · split at q5
                · exact Or.inr ⟨_, _, by rw [List.map_cons, x_dvA q5], Or.inl rfl⟩
                · cases q5
              · split at q5
                · obtain ⟨u1, u2⟩ := x_an q5
                  obtain ⟨u3, u4⟩ := x_al_ok u1
                  refine Or.inr ⟨_, _, by rw [List.map_cons, x_dvA (x_al_ln u1)], Or.inr ?_⟩
                  rw [hR.kd u3 u4, x_rd_dn hB]
                  show (x_rd B M _).1 + 2 = _
                  rw [x_bq u2]
                · cases q5
            have hla : (e_la (ar.map (x_dv ρ))).length ≤ (Ys a).2.2.1 := by rw [x_la_dn, List.length_map, ← hY]; exact q3
            refine hi sh rm (rm.1 - 1, t1 - g.2, x_sl sh t1 - x_sl sh g.2) _ _ (ar.map (x_dv ρ)) g cs _ (by rw [List.length_map, har, List.length_reverse, hl]) hrec ⟨hla, by rw [← hY]; exact q4⟩ (by show rm.1 - 1 + 1 ≤ rm.1; omega) (by show cs.1 + (t1 - g.2) ≤ rm.2.1; omega) (by show cs.2 + (x_sl sh t1 - x_sl sh g.2) ≤ rm.2.2; omega) (by rw [e_cat_dn]; exact q2) ?_
            rw [← hY, x_loc_dn]
            refine e_T.mono (k2 (fun e he => hlg e (List.mem_append_left _ he)) (rm.1 - 1, t1 - g.2, x_sl sh t1 - x_sl sh g.2) g (0, 0) g.2 (by show d - 1 ≤ rm.1 - 1; omega) (by show 4 ≤ rm.1 - 1; omega) (by rw [← hY]; unfold e_loc; rw [List.length_append, List.length_replicate]; omega) rfl hR (Nat.zero_add _) (Nat.zero_add _) (by show t1 + x_x1 v1 ≤ g.2 + (t1 - g.2); omega) (by show x_sl sh t1 + 6 * x_x1 v1 ≤ x_sl sh g.2 + (x_sl sh t1 - x_sl sh g.2); omega)) ?_
            rintro v' g' ⟨rfl, e2, e3⟩
            refine ⟨x_nu_dn (x_nu_ne kn), fun _ => ?_⟩
            have e9 : (Option.map (x_dv ρ) v1).toList ++ List.map (x_dv ρ) rest = (v1.toList ++ rest).map (x_dv ρ) := by
              rw [List.map_append]
              cases v1 <;> rfl
            rw [e9]
            exact k4 (fun e he => hlg e (List.mem_append_right _ he)) rm g' _ T0 Q hd hd4 hlen e2 e3 (by show cs.1 + (t1 - g.2) + T0 = t1; omega) (by show cs.2 + (x_sl sh t1 - x_sl sh g.2) + x_sl sh T0 = x_sl sh t1; omega) r1 r2 kq
end
