/-! THE MACHINE IN WORDS, second half: runs, places, calls, and that they say what the method does (f_run_ok) -/
abbrev f_Rt : Type := Option f_V → e_M → Prop
abbrev f_Ct : Type := Nat → List f_V → e_M → f_Rt → Prop
abbrev f_Pt : Type := Nat → List f_V → List f_V → e_M → Prop
def f_tk : Nat → List f_V → List f_V → Option (List f_V × List f_V)
  | 0, acc, st => some (acc, st)
  | _ + 1, _, [] => none
  | n + 1, acc, v :: st => f_tk n (v :: acc) st
theorem f_tk_ok : ∀ (n : Nat) (acc st ar rest : List f_V), f_tk n acc st = some (ar, rest) → ∃ l : List f_V, l.length = n ∧ st = l ++ rest ∧ ar = l.reverse ++ acc
  | 0, acc, st, ar, rest, h => by
    obtain ⟨rfl, rfl⟩ := Prod.mk.inj (Option.some.inj h)
    exact ⟨[], rfl, rfl, rfl⟩
  | n + 1, acc, [], ar, rest, h => by cases h
  | n + 1, acc, v :: st, ar, rest, h => by
    obtain ⟨l, h1, h2, h3⟩ := f_tk_ok n (v :: acc) st ar rest h
    exact ⟨v :: l, by rw [List.length_cons, h1], by rw [h2]; rfl, by rw [h3, List.reverse_cons, List.append_assoc]; rfl⟩
/-- whose method it is: nobody's (0), or an object's of kind c - 2 -/
def f_rc (c : Nat) (ar : List f_V) : Bool := cond (Nat.beq c 0) true (match ar with
  | .inr (.inr (.inl q)) :: _ => Nat.blt q.1 100 && Nat.beq (q.1 + 2) c
  | _ => false)
/-- behind a call -/
def f_bk (k : List f_V → e_M → Prop) (rest : List f_V) : f_Rt := fun v M => match v with
  | none => k rest M
  | some (.inl x) => k (.inl x :: rest) M
  | some (.inr (.inl x)) => k (.inr (.inl x) :: rest) M
  | some (.inr (.inr (.inl q))) => k (.inr (.inr (.inl q)) :: rest) M
  | some (.inr (.inr (.inr _))) => False
/-- a truth that is written out -/
def f_z1 (x : Int) (P : Prop) : Prop := match x with
  | 0 => P
  | 1 => P
  | _ => False
theorem f_z1_b {x : Int} {P : Prop} (h : f_z1 x P) : (x = 0 ∨ x = 1) ∧ P := by
  unfold f_z1 at h
  split at h
  · exact ⟨Or.inl rfl, h⟩
  · exact ⟨Or.inr rfl, h⟩
  · exact h.elim
abbrev f_Rn : Type := List x_I → Nat → List f_V → List f_V → e_M → Prop
def f_40 (CL : f_Ct) (rec : f_Rn) (suf2 : List x_I) (pc a b c : Nat) (ls st : List f_V) (M : e_M) : Prop := match f_tk b [] st with
  | none => False
  | some (ar, rest) => cond (f_rc c ar && Nat.ble (f_cat rest) 8) (CL a ar M (f_bk (fun s m => rec suf2 (pc + 3) ls s m) rest)) False
def f_41 (R : f_Rt) (st : List f_V) (M : e_M) : Prop := f_eI st fun x r => cond r.isEmpty (R (some (.inl x)) M) False
def f_42 (R : f_Rt) (st : List f_V) (M : e_M) : Prop := f_eI st fun x r => cond r.isEmpty ((x = 0 ∨ x = 1) ∧ R (some (.inl x)) M) False
def f_43 (R : f_Rt) (st : List f_V) (M : e_M) : Prop := f_eL st fun x r => cond r.isEmpty (R (some (.inr (.inl x))) M) False
def f_44 (R : f_Rt) (st : List f_V) (M : e_M) : Prop := cond st.isEmpty (R none M) False
def f_45 (R : f_Rt) (st : List f_V) (M : e_M) : Prop := f_eA st fun k n q r => cond r.isEmpty (R (some (.inr (.inr (.inl (k, n, q))))) M) False
def f_46 (R : f_Rt) (st : List f_V) (M : e_M) : Prop := cond (Nat.ble (f_cat st) 8) (R (some (.inr (.inr (.inr ())))) M) False
def f_48 (R : f_Rt) (st : List f_V) (M : e_M) : Prop := f_eI st fun x r => cond r.isEmpty (f_z1 x (R (some (.inl x)) M)) False
def f_G (CL : f_Ct) (KC : f_Pt) (R : f_Rt) (rec : f_Rn) (suf2 : List x_I) (pc op a b c : Nat) (ls st : List f_V) (M : e_M) : Prop :=
  cond (Nat.beq op 40) (f_40 CL rec suf2 pc a b c ls st M) (cond (Nat.beq op 49) (KC pc ls st M) (cond (Nat.beq op 41) (f_41 R st M) (cond (Nat.beq op 42) (f_42 R st M) (cond (Nat.beq op 43) (f_43 R st M) (cond (Nat.beq op 44) (f_44 R st M) (cond (Nat.beq op 45) (f_45 R st M) (cond (Nat.beq op 46) (f_46 R st M) (cond (Nat.beq op 48) (f_48 R st M) False))))))))
def f_i1 (CL : f_Ct) (KC : f_Pt) (R : f_Rt) (rec : f_Rn) (code suf2 : List x_I) (i : x_I) (pc : Nat) (ls st : List f_V) (M : e_M) : Prop := match i with
  | (ipc, op, a, b, c, z, t) => cond (Nat.beq ipc pc) (cond (Nat.blt op 40) (f_st op (fun j p l s m => rec (x_sel j code suf2) p l s m) pc a b c z t ls st M) (f_G CL KC R rec suf2 pc op a b c ls st M)) False
def f_F (CL : f_Ct) (KC : f_Pt) (R : f_Rt) (rec : f_Rn) (code : List x_I) : f_Rn := fun suf pc ls st M => match suf with
  | [] => False
  | i :: suf2 => f_i1 CL KC R rec code suf2 i pc ls st M
def f_run (CL : f_Ct) (KC : f_Pt) (R : f_Rt) (code : List x_I) : Nat → f_Rn
  | 0 => fun _ _ _ _ _ => False
  | n + 1 => f_F CL KC R (f_run CL KC R code n) code
def f_iok (Ys : Nat → e_Y) (Y : e_Y) (i : x_I) : Prop := match i.2.1 with
  | 40 => x_okC Y Ys i.1 i.2.2.1 i.2.2.2.1 i.2.2.2.2.1
  | 41 => decode Y.2.1 i.1 = .ok (.ireturn, 1) ∧ Y.2.2.2 = some .int
  | 42 => decode Y.2.1 i.1 = .ok (.ireturn, 1) ∧ Y.2.2.2 = some .boolean
  | 43 => decode Y.2.1 i.1 = .ok (.lreturn, 1) ∧ Y.2.2.2 = some .long
  | 44 => decode Y.2.1 i.1 = .ok (.return_, 1) ∧ Y.2.2.2 = none
  | 45 => decode Y.2.1 i.1 = .ok (.areturn, 1) ∧ ∃ ty, Y.2.2.2 = some ty ∧ ((∃ n, ty = .object n) ∨ ∃ t, ty = .array t)
  | 46 => x_okX Y i.1
  | 48 => decode Y.2.1 i.1 = .ok (.ireturn, 1) ∧ Y.2.2.2 = some .boolean
  | 49 => True
  | op => f_ok Y op i.1 i.2.2.1 i.2.2.2.1 i.2.2.2.2.1 i.2.2.2.2.2.1 i.2.2.2.2.2.2
def f_all (Ys : Nat → e_Y) (Y : e_Y) : List x_I → Prop
  | [] => True
  | i :: l => f_iok Ys Y i ∧ f_all Ys Y l
theorem f_all_mem {Ys : Nat → e_Y} {Y : e_Y} : ∀ {l : List x_I} {i : x_I}, f_all Ys Y l → i ∈ l → f_iok Ys Y i
  | j :: l, i, h, hi => by
    rcases List.mem_cons.mp hi with rfl | hi
    · exact h.1
    · exact f_all_mem h.2 hi
theorem f_iok_lt {Ys : Nat → e_Y} {Y : e_Y} {pc op a b c : Nat} {z : Int} {t : List (Int × Nat × Nat)} (h : f_iok Ys Y (pc, op, a, b, c, z, t)) (ho : op < 40) : f_ok Y op pc a b c z t := by
  unfold f_iok at h
  dsimp only at h
  split at h <;> first | exact h | omega
/-- how a frame ends: what R says of its answer (of the word that is none: it threw) -/
def f_Q (sh : Nat → Nat × Nat) (t : Nat) (R : f_Rt) : Option e_V → e_G → Prop := fun v g => ∃ w, v = Option.map f_ev w ∧ (∀ x, w = some x → f_tv sh t x) ∧ g.2 = t ∧ f_Ty sh g.1 t ∧ R w g.1
theorem f_lif {α : Type} {p : α → Prop} {l : List α} (h : ∀ x ∈ l, p x) (k : Nat) : ∀ x ∈ l.drop k, p x := fun x hx => h x (List.mem_of_mem_drop hx)
theorem f_run_ok {sh : Nat → Nat × Nat} {t : Nat} {Y : e_Y} {Ys : Nat → e_Y} {rm : Nat × Nat × Nat} {cs : Nat × Nat} {CL : f_Ct} {KC : f_Pt} {R : f_Rt} {code : List x_I} (hcode : ∀ i ∈ code, f_iok Ys Y i) (h4 : 4 ≤ rm.1) (h1 : cs.1 ≤ rm.2.1) (h2 : cs.2 ≤ rm.2.2)
    (hCL : ∀ a ar M X, CL a ar M X → f_tvs sh t ar → f_Ty sh M t → (∀ M, ¬ X (some (.inr (.inr (.inr ())))) M) → ((e_la (ar.map f_ev)).length ≤ (Ys a).2.2.1 ∧ (Ys a).2.2.1 ≤ 100) ∧ e_T sh (Ys a) (rm.1 - 1, 0, 0) 0 (e_loc (Ys a).2.2.1 (ar.map f_ev)) [] (M, t) (0, 0) (f_Q sh t X))
    (hKC : ∀ pc ls st M, KC pc ls st M → f_E sh t Y rm cs (f_Q sh t R) pc ls st M) (hX : ∀ M, R (some (.inr (.inr (.inr ())))) M → 6 ≤ rm.1 ∧ cs.1 + 1 ≤ rm.2.1 ∧ cs.2 + 6 ≤ rm.2.2) :
    ∀ (n : Nat) (suf : List x_I) (pc : Nat) (ls st : List f_V) (M : e_M), (∀ i ∈ suf, f_iok Ys Y i) → f_run CL KC R code n suf pc ls st M → f_E sh t Y rm cs (f_Q sh t R) pc ls st M := by
  intro n
  induction n with
  | zero => intro suf pc ls st M _ h; exact h.elim
  | succ n ih =>
    intro suf pc ls st M hsuf h hls hst hlen hTy
    cases suf with
    | nil => exact h.elim
    | cons i suf2 =>
      obtain ⟨ipc, op, a, b, c, z, tt⟩ := i
      replace h := f_c_b (show cond (Nat.beq ipc pc) _ False from h)
      obtain ⟨hpc, h⟩ := h
      obtain rfl := f_bq hpc
      have hi := hsuf _ List.mem_cons_self
      have hsuf2 : ∀ i ∈ suf2, f_iok Ys Y i := fun i hi => hsuf i (List.mem_cons_of_mem _ hi)
      have hsel : ∀ j, ∀ i ∈ x_sel j code suf2, f_iok Ys Y i := by
        intro j
        cases j with
        | zero => exact hsuf2
        | succ k => exact f_lif hcode k
      cases ho : Nat.blt op 40 with
      | true =>
        rw [ho, cond_true] at h
        exact f_iok_lt hi (f_bl ho) sh t rm cs _ _ ls st M ⟨h4, h1, h2, hls, hst, hlen, hTy, fun j p l s m k => ih _ p l s m (hsel j) k⟩ h
      | false =>
        rw [ho, cond_false] at h
        have ho : ¬ op < 40 := fun e => by
          have : Nat.blt op 40 = true := Nat.ble_eq_true_of_le e
          rw [this] at ho; cases ho
        unfold f_G at h
        cases e40 : Nat.beq op 40 with
        | true =>
          rw [e40, cond_true] at h
          obtain rfl := f_bq e40
          unfold f_40 at h
          cases htk : f_tk b [] st with
          | none => rw [htk] at h; exact h.elim
          | some q =>
            obtain ⟨ar, rest⟩ := q
            rw [htk] at h
            replace h := f_c_b (show cond (f_rc c ar && Nat.ble (f_cat rest) 8) _ False from h)
            obtain ⟨hc, h⟩ := h
            obtain ⟨c1, c2⟩ := f_an hc
            obtain ⟨l, hl, hst2, har⟩ := f_tk_ok b [] st ar rest htk
            rw [List.append_nil] at har
            have hmem : ∀ v ∈ ar, v ∈ st := fun v hv => by
              rw [hst2]
              rw [har] at hv
              exact List.mem_append_left _ (List.mem_reverse.mp hv)
            have hrest : f_tvs sh t rest := fun v hv => hst v (by rw [hst2]; exact List.mem_append_right _ hv)
            obtain ⟨hla, hT⟩ := hCL a ar M _ h (fun v hv => hst v (hmem v hv)) hTy (fun M e => e)
            have hes : st.map f_ev = (ar.map f_ev).reverse ++ rest.map f_ev := by rw [hst2, har, List.map_append, List.map_reverse, List.reverse_reverse]
            rw [hes]
            have hrec : c = 0 ∨ ∃ (n : Nat) (vs : List e_V), ar.map f_ev = .inr (.inr (.inl (.ofNat n))) :: vs ∧ (c = 1 ∨ (sh n).1 + 2 = c) := by
              unfold f_rc at c1
              cases e0 : Nat.beq c 0 with
              | true => exact Or.inl (f_bq e0)
              | false =>
                rw [e0, cond_false] at c1
                split at c1
                · rename_i q r
                  obtain ⟨d1, d2⟩ := f_an c1
                  obtain ⟨kd, n2, q⟩ := q
                  have := f_rf_lo (show f_rf sh t (kd, n2, q) from hst _ (hmem _ List.mem_cons_self)) (f_bl d1)
                  exact Or.inr ⟨q, r.map f_ev, rfl, Or.inr (by rw [this.1]; exact f_bq d2)⟩
                · cases c1
            refine hi sh rm (rm.1 - 1, 0, 0) _ _ (ar.map f_ev) (M, t) cs _ (by rw [List.length_map, har, List.length_reverse, hl]) hrec hla (by show rm.1 - 1 + 1 ≤ rm.1; omega) (by show cs.1 + 0 ≤ rm.2.1; omega) (by show cs.2 + 0 ≤ rm.2.2; omega) (f_cat_le c2) ?_
            refine e_T.mono hT ?_
            rintro v ⟨m, t'⟩ ⟨w, rfl, hw, rfl, hTy2, hR⟩
            have key : ∀ s : List f_V, f_run CL KC R code n suf2 (ipc + 3) ls s m → f_tvs sh t' s → e_T sh Y rm (ipc + 3) (ls.map f_ev) (s.map f_ev) (m, t') cs (f_Q sh t' R) := fun s hk hs => ih suf2 (ipc + 3) ls s m hsuf2 hk hls hs hlen hTy2
            rcases w with _ | (x | x | x | x)
            · exact ⟨(fun e => by cases e), fun _ => key rest hR hrest⟩
            · exact ⟨(fun e => by cases e), fun _ => key (.inl x :: rest) hR (f_tvs_mk trivial hrest)⟩
            · exact ⟨(fun e => by cases e), fun _ => key (.inr (.inl x) :: rest) hR (f_tvs_mk trivial hrest)⟩
            · exact ⟨(fun e => by cases e), fun _ => key (.inr (.inr (.inl x)) :: rest) hR (f_tvs_mk (hw _ rfl) hrest)⟩
            · exact hR.elim
        | false =>
        rw [e40, cond_false] at h
        cases e49 : Nat.beq op 49 with
        | true =>
          rw [e49, cond_true] at h
          exact hKC _ _ _ _ h hls hst hlen hTy
        | false =>
        rw [e49, cond_false] at h
        cases e41 : Nat.beq op 41 with
        | true =>
          rw [e41, cond_true] at h
          obtain rfl := f_bq e41
          replace h := f_eI_b h
          obtain ⟨x, r, rfl, h⟩ := h
          replace h := f_c_b h
          obtain ⟨hc, h⟩ := h
          obtain rfl := List.isEmpty_iff.mp hc
          exact e_iret hi.1 hi.2 h1 h2 ⟨some (.inl x), rfl, (fun y e => by cases e; trivial), rfl, hTy, h⟩
        | false =>
        rw [e41, cond_false] at h
        cases e42 : Nat.beq op 42 with
        | true =>
          rw [e42, cond_true] at h
          obtain rfl := f_bq e42
          replace h := f_eI_b h
          obtain ⟨x, r, rfl, h⟩ := h
          replace h := f_c_b h
          obtain ⟨hc, hx, h⟩ := h
          obtain rfl := List.isEmpty_iff.mp hc
          exact e_zret hi.1 hi.2 hx h1 h2 ⟨some (.inl x), rfl, (fun y e => by cases e; trivial), rfl, hTy, h⟩
        | false =>
        rw [e42, cond_false] at h
        cases e43 : Nat.beq op 43 with
        | true =>
          rw [e43, cond_true] at h
          obtain rfl := f_bq e43
          replace h := f_eL_b h
          obtain ⟨x, r, rfl, h⟩ := h
          replace h := f_c_b h
          obtain ⟨hc, h⟩ := h
          obtain rfl := List.isEmpty_iff.mp hc
          exact e_lret hi.1 hi.2 h1 h2 ⟨some (.inr (.inl x)), rfl, (fun y e => by cases e; trivial), rfl, hTy, h⟩
        | false =>
        rw [e43, cond_false] at h
        cases e44 : Nat.beq op 44 with
        | true =>
          rw [e44, cond_true] at h
          obtain rfl := f_bq e44
          replace h := f_c_b (show cond st.isEmpty _ False from h)
          obtain ⟨hc, h⟩ := h
          obtain rfl := List.isEmpty_iff.mp hc
          exact e_vret hi.1 hi.2 h1 h2 ⟨none, rfl, (fun y e => by cases e), rfl, hTy, h⟩
        | false =>
        rw [e44, cond_false] at h
        cases e45 : Nat.beq op 45 with
        | true =>
          rw [e45, cond_true] at h
          obtain rfl := f_bq e45
          replace h := f_eA_b h
          obtain ⟨q, r, rfl, h⟩ := h
          replace h := f_c_b h
          obtain ⟨hc, h⟩ := h
          obtain rfl := List.isEmpty_iff.mp hc
          obtain ⟨d1, ty, d2, d3⟩ := hi
          exact e_aret d1 d2 d3 h1 h2 ⟨some (.inr (.inr (.inl q))), rfl, (fun y e => by cases e; exact hst _ List.mem_cons_self), rfl, hTy, h⟩
        | false =>
        rw [e45, cond_false] at h
        cases e46 : Nat.beq op 46 with
        | true =>
          rw [e46, cond_true] at h
          obtain rfl := f_bq e46
          replace h := f_c_b (show cond (Nat.ble (f_cat st) 8) _ False from h)
          obtain ⟨hc, h⟩ := h
          obtain ⟨d1, d2, d3⟩ := hX M h
          exact hi sh rm _ _ (M, t) cs _ d1 (f_cat_le hc) d2 d3 ⟨some (.inr (.inr (.inr ()))), rfl, (fun y e => by cases e; trivial), rfl, hTy, h⟩
        | false =>
        rw [e46, cond_false] at h
        cases e48 : Nat.beq op 48 with
        | true =>
          rw [e48, cond_true] at h
          obtain rfl := f_bq e48
          replace h := f_eI_b h
          obtain ⟨x, r, rfl, h⟩ := h
          replace h := f_c_b h
          obtain ⟨hc, h⟩ := h
          obtain ⟨hx, h⟩ := f_z1_b h
          obtain rfl := List.isEmpty_iff.mp hc
          exact e_zret hi.1 hi.2 hx h1 h2 ⟨some (.inl x), rfl, (fun y e => by cases e; trivial), rfl, hTy, h⟩
        | false =>
        rw [e48, cond_false] at h
        exact h.elim
/-! what is known of locals and stack at a place: 0 nothing, 1 an int, 2 a long, 3 a reference of a kind and a length, 4 a text, from 10 on a reference of a kind, a length and a cell -/
abbrev f_T1 : Type := Nat × Nat × Nat
def f_t1 (τ : f_T1) (v : f_V) : Bool := match τ.1 with
  | 0 => true
  | 1 => (match v with
    | .inl _ => true
    | _ => false)
  | 2 => (match v with
    | .inr (.inl _) => true
    | _ => false)
  | 3 => (match v with
    | .inr (.inr (.inl q)) => Nat.beq q.1 τ.2.1 && Nat.beq q.2.1 τ.2.2
    | _ => false)
  | 4 => (match v with
    | .inr (.inr (.inl q)) => Nat.beq q.1 115
    | _ => false)
  | n => (match v with
    | .inr (.inr (.inl q)) => Nat.beq q.1 τ.2.1 && (Nat.beq q.2.1 τ.2.2 && Nat.beq (q.2.2 + 10) n)
    | _ => false)
def f_tl : List f_T1 → List f_V → Bool
  | [], l => l.isEmpty
  | _ :: _, [] => false
  | τ :: r, v :: l => f_t1 τ v && f_tl r l
/-- (where there is no number f_kt stands: so that this is unfolded ahead of f_kt) -/
def f_vi (v : f_V) : Int := match v with
  | .inl x => x
  | .inr (.inl x) => x
  | _ => f_kt 0 0
def f_va (v : f_V) : Nat := match v with
  | .inr (.inr (.inl q)) => q.2.2
  | _ => 0
def f_vn (v : f_V) : Nat := match v with
  | .inr (.inr (.inl q)) => q.2.1
  | _ => 0
def f_hd (l : List f_V) : f_V := match l with
  | [] => .inr (.inr (.inr ()))
  | v :: _ => v
def f_ta (l : List f_V) : List f_V := match l with
  | [] => []
  | _ :: r => r
def f_nth (l : List f_V) : Nat → f_V
  | 0 => f_hd l
  | n + 1 => f_nth (f_ta l) n
def f_b1 (τ : f_T1) (v : f_V) : f_V := match τ.1 with
  | 0 => .inr (.inr (.inr ()))
  | 1 => .inl (f_vi v)
  | 2 => .inr (.inl (f_vi v))
  | 3 => .inr (.inr (.inl (τ.2.1, τ.2.2, f_va v)))
  | 4 => .inr (.inr (.inl (115, f_vn v, f_va v)))
  | n => .inr (.inr (.inl (τ.2.1, τ.2.2, n - 10)))
def f_mk : List f_T1 → List f_V → List f_V
  | [], _ => []
  | τ :: r, l => f_b1 τ (f_hd l) :: f_mk r (f_ta l)
theorem f_b1_ok {τ : f_T1} {v : f_V} (h : f_t1 τ v = true) : f_b1 τ v = v ∨ f_b1 τ v = .inr (.inr (.inr ())) := by
  obtain ⟨k, a, b⟩ := τ
  rcases k with _ | _ | _ | _ | _ | k
  · exact Or.inr rfl
  · rcases v with x | x | x | x
    · exact Or.inl rfl
    · cases h
    · cases h
    · cases h
  · rcases v with x | x | x | x
    · cases h
    · exact Or.inl rfl
    · cases h
    · cases h
  · rcases v with x | x | ⟨x1, x2, x3⟩ | x
    · cases h
    · cases h
    · obtain ⟨h1, h2⟩ := f_an (show (Nat.beq x1 a && Nat.beq x2 b) = true from h)
      obtain rfl := f_bq h1
      obtain rfl := f_bq h2
      exact Or.inl rfl
    · cases h
  · rcases v with x | x | ⟨x1, x2, x3⟩ | x
    · cases h
    · cases h
    · obtain rfl := f_bq (show Nat.beq x1 115 = true from h)
      exact Or.inl rfl
    · cases h
  · rcases v with x | x | ⟨x1, x2, x3⟩ | x
    · cases h
    · cases h
    · obtain ⟨h1, h2⟩ := f_an (show (Nat.beq x1 a && (Nat.beq x2 b && Nat.beq (x3 + 10) (k + 1 + 1 + 1 + 1 + 1))) = true from h)
      obtain ⟨h2, h3⟩ := f_an h2
      obtain rfl := f_bq h1
      obtain rfl := f_bq h2
      have h3 := f_bq h3
      left
      show (.inr (.inr (.inl (x1, x2, k + 1 + 1 + 1 + 1 + 1 - 10))) : f_V) = .inr (.inr (.inl (x1, x2, x3)))
      rw [show k + 1 + 1 + 1 + 1 + 1 - 10 = x3 by omega]
    · cases h
theorem f_b1_eq {τ : f_T1} {v : f_V} (h : f_t1 τ v = true) (h0 : Nat.beq τ.1 0 = false) : f_b1 τ v = v := by
  rcases f_b1_ok h with e | e
  · exact e
  · obtain ⟨k, a, b⟩ := τ
    rcases k with _ | _ | _ | _ | _ | k
    · cases h0
    · cases e
    · cases e
    · cases e
    · cases e
    · cases e
theorem f_mk_at : ∀ {τ : List f_T1} {l : List f_V}, f_tl τ l = true → (f_mk τ l).length = l.length ∧ ∀ (i : Nat) (v : f_V), (f_mk τ l)[i]? = some v → v = .inr (.inr (.inr ())) ∨ l[i]? = some v
  | [], [], _ => ⟨rfl, fun i v h => by cases i <;> cases h⟩
  | [], _ :: _, h => by cases h
  | _ :: _, [], h => by cases h
  | τ :: r, v :: l, h => by
    obtain ⟨h1, h2⟩ := f_an h
    obtain ⟨k1, k2⟩ := f_mk_at h2
    refine ⟨by show (f_mk r l).length + 1 = l.length + 1; rw [k1], fun i w hw => ?_⟩
    cases i with
    | zero =>
      have e : f_b1 τ v = w := Option.some.inj hw
      rcases f_b1_ok h1 with e1 | e1
      · exact Or.inr (by rw [← e, e1]; rfl)
      · exact Or.inl (by rw [← e, e1])
    | succ i => exact k2 i w hw
def f_n0 (τ : List f_T1) : Bool := τ.all (fun q => !Nat.beq q.1 0)
theorem f_mk_eq : ∀ {τ : List f_T1} {l : List f_V}, f_tl τ l = true → f_n0 τ = true → f_mk τ l = l
  | [], [], _, _ => rfl
  | [], _ :: _, h, _ => by cases h
  | _ :: _, [], h, _ => by cases h
  | τ :: r, v :: l, h, h0 => by
    obtain ⟨h1, h2⟩ := f_an h
    obtain ⟨g1, g2⟩ := f_an (show (!Nat.beq τ.1 0 && f_n0 r) = true from h0)
    show f_b1 τ v :: f_mk r l = v :: l
    rw [f_b1_eq h1 (by simpa using g1), f_mk_eq h2 g2]
theorem e_T.less {sh : Nat → Nat × Nat} {Y : e_Y} {rm : Nat × Nat × Nat} {pc : Nat} {ls ls' st : List e_V} {g : e_G} {cs : Nat × Nat} {Q : Option e_V → e_G → Prop} (h : ∀ (i : Nat) (v : e_V), ls'[i]? = some v → v = .inr (.inr (.inr ())) ∨ ls[i]? = some v) (k : e_T sh Y rm pc ls' st g cs Q) : e_T sh Y rm pc ls st g cs Q := by
  intro p l e s m args below meth c D ad0 t0 ad H locs lsJ hC hE hI hL hls hst
  refine k p l e s m args below meth c D ad0 t0 ad H locs lsJ hC hE hI ⟨hL.1, hL.2.1, fun q hq => ?_⟩ (fun v hv => ?_) hst
  · obtain ⟨i, v, h1, h2, rfl⟩ := (e_pr_mem _ 0 _).mp hq
    rcases h i v h1 with e | e
    · exact absurd e h2
    · rw [Nat.zero_add]
      exact hL.at e h2
  · obtain ⟨i, hi⟩ := List.getElem?_of_mem hv
    rcases h i v hi with e | e
    · rw [e]; trivial
    · exact hls v (List.mem_of_getElem? e)
/-- a place: what is known there, and what is wanted -/
def f_pl (τ σ : List f_T1) (P : List f_V → List f_V → e_M → Prop) : List f_V → List f_V → e_M → Prop := fun ls st M => cond (f_tl τ ls && f_tl σ st) (P ls st M) False
theorem f_pl_ok {sh : Nat → Nat × Nat} {t : Nat} {Y : e_Y} {rm : Nat × Nat × Nat} {cs : Nat × Nat} {Q : Option e_V → e_G → Prop} {pc : Nat} {τ σ : List f_T1} {P : List f_V → List f_V → e_M → Prop} (h0 : f_n0 σ = true) (h : ∀ ls st M, P ls st M → f_E sh t Y rm cs Q pc (f_mk τ ls) (f_mk σ st) M) :
    ∀ ls st M, f_pl τ σ P ls st M → f_E sh t Y rm cs Q pc ls st M := by
  intro ls st M hP hls hst hlen hTy
  replace hP := f_c_b hP
  obtain ⟨hc, hP⟩ := hP
  obtain ⟨c1, c2⟩ := f_an hc
  obtain ⟨d1, d2⟩ := f_mk_at c1
  have key := h ls st M hP
  rw [f_mk_eq c2 h0] at key
  refine e_T.less (ls' := (f_mk τ ls).map f_ev) (fun i v hv => ?_) (key (fun v hv => ?_) hst (by rw [d1]; exact hlen) hTy)
  · rw [List.getElem?_map] at hv
    cases hx : (f_mk τ ls)[i]? with
    | none => rw [hx] at hv; cases hv
    | some w =>
      rw [hx] at hv
      obtain rfl := Option.some.inj hv
      rcases d2 i w hx with e | e
      · exact Or.inl (by rw [e]; rfl)
      · exact Or.inr (f_lk e)
  · obtain ⟨i, hi⟩ := List.getElem?_of_mem hv
    rcases d2 i v hi with e | e
    · rw [e]; trivial
    · exact hls v (List.mem_of_getElem? e)
/-- the places of a method -/
def f_kc : List (Nat × (List f_V → List f_V → e_M → Prop)) → f_Pt
  | [] => fun _ _ _ _ => False
  | (p, P) :: r => fun pc ls st M => cond (Nat.beq p pc) (P ls st M) (f_kc r pc ls st M)
theorem f_kc_nil {sh : Nat → Nat × Nat} {t : Nat} {Y : e_Y} {rm : Nat × Nat × Nat} {cs : Nat × Nat} {Q : Option e_V → e_G → Prop} : ∀ pc ls st M, f_kc [] pc ls st M → f_E sh t Y rm cs Q pc ls st M := fun _ _ _ _ h => h.elim
theorem f_kc_cons {sh : Nat → Nat × Nat} {t : Nat} {Y : e_Y} {rm : Nat × Nat × Nat} {cs : Nat × Nat} {Q : Option e_V → e_G → Prop} {p : Nat} {P : List f_V → List f_V → e_M → Prop} {r : List (Nat × (List f_V → List f_V → e_M → Prop))} (h1 : ∀ ls st M, P ls st M → f_E sh t Y rm cs Q p ls st M) (h2 : ∀ pc ls st M, f_kc r pc ls st M → f_E sh t Y rm cs Q pc ls st M) : ∀ pc ls st M, f_kc ((p, P) :: r) pc ls st M → f_E sh t Y rm cs Q pc ls st M := by
  intro pc ls st M h
  replace h : cond (Nat.beq p pc) (P ls st M) (f_kc r pc ls st M) := h
  cases e : Nat.beq p pc with
  | true =>
    rw [e] at h
    obtain rfl := f_bq e
    exact h1 ls st M h
  | false =>
    rw [e] at h
    exact h2 pc ls st M h
/-- a method's words: of its arguments, of the memory, of what is wanted behind it -/
abbrev f_Wt : Type := List f_V → e_M → f_Rt → Prop
/-- the method does what its words say; it needs D frames -/
def f_Mt (sh : Nat → Nat × Nat) (t : Nat) (Y : e_Y) (D : Nat) (P : f_Wt) : Prop := Y.2.2.1 ≤ 100 ∧ ∀ (ar : List f_V) (M : e_M) (R : f_Rt) (rm : Nat × Nat × Nat) (cs : Nat × Nat), P ar M R → D ≤ rm.1 → cs.1 ≤ rm.2.1 → cs.2 ≤ rm.2.2 → f_tvs sh t ar → f_Ty sh M t → (∀ M, R (some (.inr (.inr (.inr ())))) M → 6 ≤ rm.1 ∧ cs.1 + 1 ≤ rm.2.1 ∧ cs.2 + 6 ≤ rm.2.2) →
  (e_la (ar.map f_ev)).length ≤ Y.2.2.1 ∧ e_T sh Y rm 0 (e_loc Y.2.2.1 (ar.map f_ev)) [] (M, t) cs (f_Q sh t R)
theorem f_Mt.up {sh : Nat → Nat × Nat} {t : Nat} {Y : e_Y} {D D' : Nat} {P : f_Wt} (hD : D ≤ D') (h : f_Mt sh t Y D P) : f_Mt sh t Y D' P := ⟨h.1, fun ar M R rm cs a b => h.2 ar M R rm cs a (Nat.le_trans hD b)⟩
def f_cl : List (Nat × f_Wt) → f_Ct
  | [] => fun _ _ _ _ => False
  | (i, P) :: r => fun a ar M X => cond (Nat.beq i a) (P ar M X) (f_cl r a ar M X)
def f_Ms (sh : Nat → Nat × Nat) (t : Nat) (Ys : Nat → e_Y) (D : Nat) : List (Nat × f_Wt) → Prop
  | [] => True
  | (i, P) :: r => f_Mt sh t (Ys i) D P ∧ f_Ms sh t Ys D r
theorem f_cl_ok {sh : Nat → Nat × Nat} {t : Nat} {Ys : Nat → e_Y} {D : Nat} {rm : Nat × Nat × Nat} (hD : D + 1 ≤ rm.1) : ∀ {l : List (Nat × f_Wt)}, f_Ms sh t Ys D l → ∀ a ar M X, f_cl l a ar M X → f_tvs sh t ar → f_Ty sh M t → (∀ M, ¬ X (some (.inr (.inr (.inr ())))) M) → ((e_la (ar.map f_ev)).length ≤ (Ys a).2.2.1 ∧ (Ys a).2.2.1 ≤ 100) ∧ e_T sh (Ys a) (rm.1 - 1, 0, 0) 0 (e_loc (Ys a).2.2.1 (ar.map f_ev)) [] (M, t) (0, 0) (f_Q sh t X)
  | [], _, _, _, _, _, h, _, _, _ => h.elim
  | (i, P) :: r, hl, a, ar, M, X, h, h1, h2, h3 => by
    replace h : cond (Nat.beq i a) (P ar M X) (f_cl r a ar M X) := h
    cases e : Nat.beq i a with
    | true =>
      rw [e] at h
      obtain rfl := f_bq e
      obtain ⟨k1, k2⟩ := hl.1.2 ar M X (rm.1 - 1, 0, 0) (0, 0) h (by show D ≤ rm.1 - 1; omega) (Nat.le_refl _) (Nat.le_refl _) h1 h2 (fun M hM => (h3 M hM).elim)
      exact ⟨⟨k1, hl.1.1⟩, k2⟩
    | false =>
      rw [e] at h
      exact f_cl_ok hD hl.2 a ar M X h h1 h2 h3
/-- arguments of known kinds -/
def f_wm (τ : List f_T1) (P : f_Wt) : f_Wt := fun ar M R => cond (f_tl τ ar) (P ar M R) False
/-- the locals with which a method begins -/
def f_lo : List f_T1 → List f_V → List f_V
  | [], _ => []
  | τ :: r, l => cond (Nat.beq τ.1 2) (f_b1 τ (f_hd l) :: .inr (.inr (.inr ())) :: f_lo r (f_ta l)) (f_b1 τ (f_hd l) :: f_lo r (f_ta l))
def f_ll : List f_T1 → Nat
  | [] => 0
  | τ :: r => cond (Nat.beq τ.1 2) (f_ll r + 2) (f_ll r + 1)
theorem f_lo_ok : ∀ {τ : List f_T1} {l : List f_V}, f_tl τ l = true → f_n0 τ = true → (f_lo τ l).map f_ev = e_la (l.map f_ev) ∧ (f_lo τ l).length = f_ll τ
  | [], [], _, _ => ⟨rfl, rfl⟩
  | [], _ :: _, h, _ => by cases h
  | _ :: _, [], h, _ => by cases h
  | τ :: r, v :: l, h, h0 => by
    obtain ⟨h1, h2⟩ := f_an h
    obtain ⟨g1, g2⟩ := f_an (show (!Nat.beq τ.1 0 && f_n0 r) = true from h0)
    obtain ⟨k1, k2⟩ := f_lo_ok h2 g2
    have e1 := f_b1_eq h1 (by simpa using g1)
    have ef : f_lo (τ :: r) (v :: l) = cond (Nat.beq τ.1 2) (f_b1 τ v :: .inr (.inr (.inr ())) :: f_lo r l) (f_b1 τ v :: f_lo r l) := rfl
    have eg : f_ll (τ :: r) = cond (Nat.beq τ.1 2) (f_ll r + 2) (f_ll r + 1) := rfl
    rw [ef, eg, e1]
    obtain ⟨k, a, b⟩ := τ
    rcases k with _ | _ | _ | _ | _ | k
    · cases g1
    · rcases v with x | x | x | x
      · exact ⟨by show _ :: (f_lo r l).map f_ev = _ :: e_la (l.map f_ev); rw [k1], by show (f_lo r l).length + 1 = f_ll r + 1; rw [k2]⟩
      · cases h1
      · cases h1
      · cases h1
    · rcases v with x | x | x | x
      · cases h1
      · exact ⟨by show _ :: _ :: (f_lo r l).map f_ev = _ :: _ :: e_la (l.map f_ev); rw [k1]; rfl, by show (f_lo r l).length + 2 = f_ll r + 2; rw [k2]⟩
      · cases h1
      · cases h1
    · rcases v with x | x | x | x
      · cases h1
      · cases h1
      · exact ⟨by show _ :: (f_lo r l).map f_ev = _ :: e_la (l.map f_ev); rw [k1]; rfl, by show (f_lo r l).length + 1 = f_ll r + 1; rw [k2]⟩
      · cases h1
    · rcases v with x | x | x | x
      · cases h1
      · cases h1
      · exact ⟨by show _ :: (f_lo r l).map f_ev = _ :: e_la (l.map f_ev); rw [k1]; rfl, by show (f_lo r l).length + 1 = f_ll r + 1; rw [k2]⟩
      · cases h1
    · rcases v with x | x | x | x
      · cases h1
      · cases h1
      · exact ⟨by show _ :: (f_lo r l).map f_ev = _ :: e_la (l.map f_ev); rw [k1]; rfl, by show (f_lo r l).length + 1 = f_ll r + 1; rw [k2]⟩
      · cases h1
theorem f_lo_tv {sh : Nat → Nat × Nat} {t : Nat} : ∀ {τ : List f_T1} {l : List f_V}, f_tl τ l = true → f_tvs sh t l → f_tvs sh t (f_lo τ l)
  | [], [], _, h => h
  | [], _ :: _, h, _ => by cases h
  | _ :: _, [], h, _ => by cases h
  | τ :: r, v :: l, h, ht => by
    obtain ⟨h1, h2⟩ := f_an h
    obtain ⟨t1, t2⟩ := f_tvs_cons ht
    have k := f_lo_tv h2 t2
    have e1 : f_tv sh t (f_b1 τ v) := by
      rcases f_b1_ok h1 with e | e
      · rw [e]; exact t1
      · rw [e]; trivial
    show f_tvs sh t (cond (Nat.beq τ.1 2) (f_b1 τ v :: .inr (.inr (.inr ())) :: f_lo r l) (f_b1 τ v :: f_lo r l))
    cases Nat.beq τ.1 2 with
    | true => exact f_tvs_mk e1 (f_tvs_mk trivial k)
    | false => exact f_tvs_mk e1 k
def f_un (n : Nat) : List f_V := List.replicate n (.inr (.inr (.inr ())))
theorem f_un_ev {n : Nat} : (f_un n).map f_ev = List.replicate n (.inr (.inr (.inr ()))) := by unfold f_un; rw [List.map_replicate]; rfl
/-- the method's words out of those of its first place -/
theorem f_Mt_of {sh : Nat → Nat × Nat} {t : Nat} {Y : e_Y} {D k : Nat} {τ : List f_T1} {P : f_Wt} (hml : Y.2.2.1 ≤ 100) (h0 : f_n0 τ = true) (hk : f_ll τ + k = Y.2.2.1)
    (h : ∀ (ar : List f_V) (M : e_M) (R : f_Rt) (rm : Nat × Nat × Nat) (cs : Nat × Nat), D ≤ rm.1 → cs.1 ≤ rm.2.1 → cs.2 ≤ rm.2.2 → (∀ M, R (some (.inr (.inr (.inr ())))) M → 6 ≤ rm.1 ∧ cs.1 + 1 ≤ rm.2.1 ∧ cs.2 + 6 ≤ rm.2.2) → P ar M R → f_E sh t Y rm cs (f_Q sh t R) 0 (f_lo τ ar ++ f_un k) [] M) : f_Mt sh t Y D (f_wm τ P) := by
  refine ⟨hml, fun ar M R rm cs hP h1 h2 h3 h4 h5 h6 => ?_⟩
  replace hP := f_c_b hP
  obtain ⟨hc, hP⟩ := hP
  obtain ⟨e1, e2⟩ := f_lo_ok hc h0
  have e3 : (e_la (ar.map f_ev)).length = f_ll τ := by rw [← e1, List.length_map, e2]
  refine ⟨by omega, ?_⟩
  have key := h ar M R rm cs h1 h2 h3 h6 hP (fun v hv => by
    rcases List.mem_append.mp hv with hv | hv
    · exact f_lo_tv hc h4 v hv
    · rw [List.eq_of_mem_replicate hv]; trivial) (fun v hv => by cases hv) (by rw [List.length_append, e2]; unfold f_un; rw [List.length_replicate]; omega) h5
  rw [List.map_append, e1, f_un_ev] at key
  unfold e_loc
  rw [e3, show Y.2.2.1 - f_ll τ = k by omega]
  exact key
/-- what a method's places rest on -/
def f_Hy (sh : Nat → Nat × Nat) (t : Nat) (Ys : Nat → e_Y) (rm : Nat × Nat × Nat) (cs : Nat × Nat) (D : Nat) (L : List (Nat × f_Wt)) (R : f_Rt) : Prop :=
  4 ≤ D ∧ D ≤ rm.1 ∧ cs.1 ≤ rm.2.1 ∧ cs.2 ≤ rm.2.2 ∧ f_Ms sh t Ys (D - 1) L ∧ ∀ M, R (some (.inr (.inr (.inr ())))) M → 6 ≤ rm.1 ∧ cs.1 + 1 ≤ rm.2.1 ∧ cs.2 + 6 ≤ rm.2.2
theorem f_go {sh : Nat → Nat × Nat} {t : Nat} {Y : e_Y} {Ys : Nat → e_Y} {rm : Nat × Nat × Nat} {cs : Nat × Nat} {D : Nat} {L : List (Nat × f_Wt)} {R : f_Rt} {KC : f_Pt} {code : List x_I} (C : f_Hy sh t Ys rm cs D L R) (hcode : f_all Ys Y code) (hKC : ∀ pc ls st M, KC pc ls st M → f_E sh t Y rm cs (f_Q sh t R) pc ls st M)
    (n k : Nat) {pc : Nat} {ls st : List f_V} {M : e_M} (h : f_run (f_cl L) KC R code n (code.drop k) pc ls st M) : f_E sh t Y rm cs (f_Q sh t R) pc ls st M := by
  obtain ⟨c1, c2, c3, c4, c5, c6⟩ := C
  have hc : ∀ i ∈ code, f_iok Ys Y i := fun i hi => f_all_mem hcode hi
  exact f_run_ok hc (by omega) c3 c4 (f_cl_ok (D := D - 1) (by omega) c5) hKC c6 n (code.drop k) pc ls st M (f_lif hc k) h
