/-! geometry: the model walk -/
/-! the class's walk: a full way is found -/
theorem gt_wlk_mk {A B : List gt_P} (h : gt_pr A B) {p0 : gt_P} {s : Nat} (u : ∀ e f, gt_J A B e → gt_J A B f → e.1 = f.1 → e = f) (hs : s < (gt_ed A ++ gt_ed B).length) (js : gt_J A B (g_eg (gt_ed A ++ gt_ed B) s)) (s0 : (g_eg (gt_ed A ++ gt_ed B) s).1 = p0) : ∀ {rest : List gt_P} {a : gt_P} {acc : List gt_P} {e : Nat}, e < (gt_ed A ++ gt_ed B).length → (∃ b m, rest ++ [p0] = b :: m ∧ g_eg (gt_ed A ++ gt_ed B) e = (a, b)) → (∀ f ∈ gt_pe a (rest ++ [p0]), gt_J A B f) → (∀ p ∈ rest, p ≠ p0) → g_wlk (gt_ed A ++ gt_ed B) (gt_ed A).length s (rest.length + 1) e acc = some (acc ++ a :: rest)
  | [], a, acc, e, he, ⟨b, m, e1, e2⟩, hJ, _ => by
    have e1 : [p0] = b :: m := e1
    have eb : b = p0 := by injection e1 with e3 _; exact e3.symm
    have on : g_only (gt_ed A ++ gt_ed B) (gt_ed A).length p0 = (s : Int) := (gt_only h).mpr ⟨hs, ⟨js, s0⟩, fun f jf q => u _ _ jf js (q.trans s0.symm)⟩
    show g_wlk (gt_ed A ++ gt_ed B) (gt_ed A).length s (0 + 1) e acc = _
    unfold g_wlk
    rw [e2]
    dsimp only
    rw [eb, on, if_neg (by omega), if_pos rfl, if_pos rfl]
  | b :: rest, a, acc, e, he, ⟨b', m, e1, e2⟩, hJ, hne => by
    have e1 : b :: (rest ++ [p0]) = b' :: m := e1
    have eb : b' = b := by injection e1 with e3 _; exact e3.symm
    have ex : ∃ c m', rest ++ [p0] = c :: m' := by
      cases rest with
      | nil => exact ⟨p0, [], rfl⟩
      | cons x r => exact ⟨x, r ++ [p0], rfl⟩
    obtain ⟨c, m', ec⟩ := ex
    have jb : gt_J A B (b, c) := hJ (b, c) (by
      show (b, c) ∈ (a, b) :: gt_pe b (rest ++ [p0])
      rw [ec]
      exact List.mem_cons_of_mem _ (List.mem_cons_self ..))
    have mb : (b, c) ∈ gt_ed A ++ gt_ed B := by
      rcases gt_J_in jb with k | k
      · exact List.mem_append.mpr (Or.inl k)
      · exact List.mem_append.mpr (Or.inr k)
    obtain ⟨k, hk, ek⟩ := gt_mem_eg mb
    have on : g_only (gt_ed A ++ gt_ed B) (gt_ed A).length b = (k : Int) := (gt_only h).mpr ⟨hk, by rw [ek]; exact ⟨jb, rfl⟩, fun f jf q => by rw [ek]; exact u _ _ jf jb q⟩
    have ks : ¬ (k : Int) = (s : Int) := fun z => by
      have : k = s := by omega
      rw [this] at ek
      rw [ek] at s0
      exact hne b (List.mem_cons_self ..) s0
    have ih := gt_wlk_mk h u hs js s0 (rest := rest) (a := b) (acc := acc ++ [a]) (e := k) hk ⟨c, m', ec, ek⟩ (fun f hf => hJ f (List.mem_cons_of_mem _ hf)) (fun p hp => hne p (List.mem_cons_of_mem _ hp))
    show g_wlk (gt_ed A ++ gt_ed B) (gt_ed A).length s (rest.length + 1 + 1) e acc = _
    unfold g_wlk
    rw [e2]
    dsimp only
    rw [eb, on, if_neg (by omega), if_neg ks, Int.toNat_natCast, ih]
    simp
theorem gt_aug_len {F G : s_Fig} (h : gt_fig F) (hF : F.length ≤ 40) (hG : G.length ≤ 40) : (gt_aug F G).length ≤ 80 := by
  obtain ⟨a1, a2, _⟩ := gt_aug_all h hG
  have := List.Nodup.length_le_of_subset (gt_smp_nd a1.1) (fun v hv => List.mem_append.mpr (a2 v hv) : gt_aug F G ⊆ F ++ G)
  rw [List.length_append] at this
  omega
theorem gt_fst_at {f : Nat → Bool} {n : Nat} (h : ¬ g_fst f n < 0) : (g_fst f n).toNat < n ∧ f (g_fst f n).toNat = true := by
  by_cases c : ∃ i, i < n ∧ f i = true
  · obtain ⟨i, e, h1, h2⟩ := g_fst_ex c
    rw [e]
    exact ⟨h1, h2⟩
  · have := g_fst_no (f := f) (n := n) (fun j hj => by
      cases e : f j
      · rfl
      · exact absurd ⟨j, hj, e⟩ c)
    omega
/-- the class joins just where there is a full way round -/
theorem gt_jraw {F G : s_Fig} (hF : gt_fig F) (hG : gt_fig G) (lF : F.length ≤ 40) (lG : G.length ≤ 40) (h : gt_pr (gt_aug F G) (gt_aug G F)) : (∀ R, g_jraw F G = some R → gt_fw (gt_aug F G) (gt_aug G F) R) ∧ ∀ W, gt_fw (gt_aug F G) (gt_aug G F) W → ∃ R, g_jraw F G = some R := by
  have nA := gt_aug_len hF lF lG
  have nB := gt_aug_len hG lG lF
  have eEA : g_EA F G = gt_ed (gt_aug F G) := by
    unfold g_EA
    rw [← gt_aug_ed hF.2.1]
    exact List.take_of_length_le (by rw [gt_ed_len]; omega)
  have eE : g_EAB F G = gt_ed (gt_aug F G) ++ gt_ed (gt_aug G F) := by
    unfold g_EAB
    rw [eEA, ← gt_aug_ed hG.2.1]
    exact List.take_of_length_le (by rw [List.length_append, gt_ed_len, gt_ed_len]; omega)
  generalize gt_aug F G = A at *
  generalize gt_aug G F = B at *
  have lf : g_jlf F G = ((gt_JA A B ++ gt_JA B A).length : Int) := by
    unfold g_jlf
    rw [eE, eEA]
    exact (gt_J_len h).symm
  have js : g_jst F G = g_fst (fun i => !g_sh (gt_ed A ++ gt_ed B) (gt_ed A).length i) (gt_ed A).length := by
    unfold g_jst
    rw [eE, eEA]
  unfold g_jraw
  rw [lf, eE, eEA, js, Int.toNat_natCast]
  constructor
  · intro R hr
    by_cases c : ((gt_JA A B ++ gt_JA B A).length : Int) = ((gt_ed A ++ gt_ed B).length : Int) ∨ g_fst (fun i => !g_sh (gt_ed A ++ gt_ed B) (gt_ed A).length i) (gt_ed A).length < 0
    · rw [if_pos c] at hr; cases hr
    · rw [if_neg c] at hr
      obtain ⟨f1, f2⟩ := gt_fst_at (fun z => c (Or.inr z))
      exact gt_cls_fw h f1 (by rw [Bool.not_eq_true'] at f2; exact f2) hr
  · intro W w
    obtain ⟨⟨e1, m1, j1⟩, e2, m2, j2⟩ := gt_fw_some h w
    obtain ⟨i, hi, ei⟩ := gt_mem_eg m1
    have hi2 : i < (gt_ed A ++ gt_ed B).length := by rw [List.length_append]; omega
    have nsh : ∀ k, k < (gt_ed A ++ gt_ed B).length → (g_sh (gt_ed A ++ gt_ed B) (gt_ed A).length k = false ↔ gt_J A B (g_eg (gt_ed A ++ gt_ed B) k)) := fun k hk => by
      have := gt_shared h hk
      constructor
      · intro z
        refine Classical.byContradiction (fun w => ?_)
        rw [this.mpr w] at z
        cases z
      · intro z
        cases q : g_sh (gt_ed A ++ gt_ed B) (gt_ed A).length k
        · rfl
        · exact absurd z (this.mp q)
    obtain ⟨s, es, hs, fs⟩ := g_fst_ex (f := fun i => !g_sh (gt_ed A ++ gt_ed B) (gt_ed A).length i) (n := (gt_ed A).length) ⟨i, hi, by
      show (!g_sh (gt_ed A ++ gt_ed B) (gt_ed A).length i) = true
      rw [(nsh i hi2).mpr (by rw [gt_eg_l hi, ei]; exact j1)]
      rfl⟩
    have hs2 : s < (gt_ed A ++ gt_ed B).length := by rw [List.length_append]; omega
    have jss : gt_J A B (g_eg (gt_ed A ++ gt_ed B) s) := (nsh s hs2).mp (by rw [Bool.not_eq_true'] at fs; exact fs)
    have less : ((gt_JA A B ++ gt_JA B A).length : Int) ≠ ((gt_ed A ++ gt_ed B).length : Int) := fun z => by
      rw [List.length_append, List.length_append] at z
      have a := List.length_filter_le (fun e => decide (gt_rv e ∉ gt_ed B)) (gt_ed A)
      have b := List.length_filter_le (fun e => decide (gt_rv e ∉ gt_ed A)) (gt_ed B)
      have c : (gt_JA A B).length = (gt_ed A).length := by unfold gt_JA at *; omega
      have := (List.length_filter_eq_length_iff).mp c e2 m2
      exact of_decide_eq_true this j2
    rw [if_neg (fun z => by
      rcases z with z | z
      · exact less z
      · rw [es] at z; omega), es, Int.toNat_natCast]
    have u : ∀ e f, gt_J A B e → gt_J A B f → e.1 = f.1 → e = f := fun e f je jf q => gt_nd1 w.1.2.1 (w.2 e je) (w.2 f jf) q
    -- turn it to begin there
    have mW := w.2 _ jss
    have w3 := gt_way_3 h w.1
    obtain ⟨x, y, r, e3, e4⟩ := gt_ed_turn (by omega) mW
    generalize hp0 : (g_eg (gt_ed A ++ gt_ed B) s).1 = p0 at *
    generalize hp1 : (g_eg (gt_ed A ++ gt_ed B) s).2 = p1 at *
    have mem : ∀ f, f ∈ gt_ed (p0 :: p1 :: r) ↔ f ∈ gt_ed W := fun f => by rw [← e4, e3]; exact gt_ed_rot.mem_iff
    have ndr : (p0 :: p1 :: r).Nodup := by
      rw [← e4]
      have := w.1.2.1
      rw [e3] at this
      exact (List.perm_append_comm.nodup_iff).mp this
    have len : (gt_JA A B ++ gt_JA B A).length = (p1 :: r).length + 1 := by
      rw [← (gt_fw_perm h w).length_eq, gt_ed_len, e3, List.length_append]
      have := congrArg List.length e4
      rw [List.length_append, List.length_cons] at this
      omega
    rw [len]
    refine ⟨_, gt_wlk_mk h u hs2 jss hp0 (rest := p1 :: r) (a := p0) (acc := []) (e := s) hs2 ⟨p1, r ++ [p0], rfl, Prod.ext hp0 hp1⟩ (fun f hf => w.1.2.2 f ((mem f).mp hf)) (fun p hp z => ?_)⟩
    rw [z] at hp
    exact (List.nodup_cons.mp ndr).1 hp
/-! the model's walk -/
/-- the place of a direction in the round from another one on -/
def gt_rd (r x : gt_P) : Int := if 0 < gt_x r x then 1 else if gt_x r x < 0 then 3 else if r.1 * x.1 + r.2 * x.2 < 0 then 2 else 4
/-- y comes ahead of x -/
def gt_nr (r x y : gt_P) : Prop := gt_rd r y < gt_rd r x ∨ (gt_rd r x = gt_rd r y ∧ 0 < gt_x y x)
theorem gt_rd_opp {r x : gt_P} (nr : gt_nz r) (nx : gt_nz x) (n : ¬ gt_sd r x) : gt_rd r x ≠ 4 ∧ (gt_rd r x = 2 → gt_x r x = 0 ∧ r.1 * x.1 + r.2 * x.2 < 0) := by
  unfold gt_rd
  by_cases c1 : 0 < gt_x r x
  · rw [if_pos c1]; exact ⟨by decide, fun z => absurd z (by decide)⟩
  rw [if_neg c1]
  by_cases c2 : gt_x r x < 0
  · rw [if_pos c2]; exact ⟨by decide, fun z => absurd z (by decide)⟩
  rw [if_neg c2]
  have c : gt_x r x = 0 := by omega
  by_cases c3 : r.1 * x.1 + r.2 * x.2 < 0
  · rw [if_pos c3]; exact ⟨by decide, fun _ => ⟨c, c3⟩⟩
  · exfalso
    refine n ⟨?_, c⟩
    unfold gt_x at c
    have key : ∀ {r x : gt_P}, gt_nz r → gt_nz x → r.1 * x.2 - r.2 * x.1 = 0 → ¬ r.1 * x.1 + r.2 * x.2 < 0 → gt_up r → gt_up x := by
      intro r x nr nx c c3 u
      unfold gt_nz at nx
      rcases u with u | ⟨u1, u2⟩
      · -- r.2 > 0: x = t r
        have e : r.2 * (r.1 * x.1 + r.2 * x.2) = (r.1 * r.1 + r.2 * r.2) * x.2 := by grind
        have p : 0 < r.1 * r.1 + r.2 * r.2 := by
          have := gt_sq r.1
          have := Int.mul_pos u u
          omega
        have q := Int.mul_nonneg (show 0 ≤ r.2 by omega) (show 0 ≤ r.1 * x.1 + r.2 * x.2 by omega)
        rw [e] at q
        have x2 : 0 ≤ x.2 := by
          refine Int.le_of_lt_add_one (Int.lt_of_not_ge (fun w => ?_))
          have := Int.mul_neg_of_pos_of_neg p (show x.2 < 0 by omega)
          omega
        by_cases z : x.2 = 0
        · rw [z, Int.mul_zero] at c
          have : r.2 * x.1 = 0 := by omega
          rcases Int.mul_eq_zero.mp this with k | k <;> omega
        · exact Or.inl (by omega)
      · rw [u1, Int.zero_mul] at c c3
        have x2 : x.2 = 0 := by
          have : r.1 * x.2 = 0 := by omega
          rcases Int.mul_eq_zero.mp this with k | k <;> omega
        refine Or.inr ⟨x2, Int.lt_of_not_ge (fun w => ?_)⟩
        have := Int.mul_neg_of_neg_of_pos u2 (show 0 < x.1 by omega)
        omega
    exact ⟨key nr nx c c3, key nx nr (by grind) (by grind)⟩
theorem gt_nr_C {r x y : gt_P} (nr : gt_nz r) (nx : gt_nz x) (ny : gt_nz y) (h1 : ¬ gt_sd x y) (h2 : ¬ gt_sd r x) (h3 : ¬ gt_sd r y) : gt_nr r x y ↔ gt_C r y x = 1 := by
  have one : ∀ {x y : gt_P}, gt_nz x → gt_nz y → ¬ gt_sd x y → ¬ gt_sd r x → ¬ gt_sd r y → gt_nr r x y → gt_C r y x = 1 := by
    intro x y nx ny h1 h2 h3 h
    obtain ⟨x4, x2⟩ := gt_rd_opp nr nx h2
    obtain ⟨y4, y2⟩ := gt_rd_opp nr ny h3
    have sw := gt_x_sw (a := r) (b := x)
    have P1 : 0 < gt_x r y → 0 < gt_x y x → gt_C r y x = 1 := fun a b => gt_C_pos nr ny nx h3 (fun z => h2 (gt_sd_sw z)) (fun z => h1 z) a b
    have P2 : 0 < gt_x x r → 0 < gt_x r y → gt_C r y x = 1 := fun a b => by
      have := gt_C_pos nx nr ny (fun z => h2 (gt_sd_sw z)) (fun z => h1 (gt_sd_sw z)) (fun z => h3 (gt_sd_sw z)) a b
      rw [gt_C_cyc] at this
      exact this
    have P3 : 0 < gt_x y x → 0 < gt_x x r → gt_C r y x = 1 := fun a b => by
      have := gt_C_pos ny nx nr (fun z => h1 (gt_sd_sw z)) h3 h2 a b
      rw [← gt_C_cyc] at this
      exact this
    -- opposite to r: what is its side of another one
    have op : ∀ {o z : gt_P}, gt_x r o = 0 → r.1 * o.1 + r.2 * o.2 < 0 → (0 < gt_x r z → 0 < gt_x z o) ∧ (gt_x r z < 0 → 0 < gt_x o z) := by
      intro o z a b
      have e : (r.1 * r.1 + r.2 * r.2) * gt_x z o = -(r.1 * o.1 + r.2 * o.2) * gt_x r z := by
        unfold gt_x at *
        grind
      have p : 0 < r.1 * r.1 + r.2 * r.2 := by
        have a1 := gt_sq r.1
        have a2 := gt_sq r.2
        have n1 : r.1 ≠ 0 ∨ r.2 ≠ 0 := nr
        rcases n1 with n1 | n1
        · rcases Int.lt_or_gt_of_ne n1 with w | w
          · have := Int.mul_pos_of_neg_of_neg w w; omega
          · have := Int.mul_pos w w; omega
        · rcases Int.lt_or_gt_of_ne n1 with w | w
          · have := Int.mul_pos_of_neg_of_neg w w; omega
          · have := Int.mul_pos w w; omega
      have g := gt_sg p (show 0 < -(r.1 * o.1 + r.2 * o.2) by omega) e
      have s := gt_x_sw (a := z) (b := o)
      exact ⟨fun k => g.1.mpr k, fun k => by have := g.2.1.mpr k; omega⟩
    have v1 : ∀ {z : gt_P}, gt_rd r z = 1 → 0 < gt_x r z := fun {z} e => by
      unfold gt_rd at e
      repeat' split at e
      all_goals first | assumption | omega
    have v3 : ∀ {z : gt_P}, gt_rd r z = 3 → gt_x r z < 0 := fun {z} e => by
      unfold gt_rd at e
      repeat' split at e
      all_goals first | assumption | omega
    have rng : ∀ {z : gt_P}, gt_rd r z = 1 ∨ gt_rd r z = 2 ∨ gt_rd r z = 3 ∨ gt_rd r z = 4 := fun {z} => by
      unfold gt_rd
      repeat' split
      all_goals omega
    rcases rng (z := y) with ey | ey | ey | ey
    · rcases rng (z := x) with ex | ex | ex | ex
      · rcases h with h | h
        · omega
        · exact P1 (v1 ey) h.2
      · exact P1 (v1 ey) ((op (x2 ex).1 (x2 ex).2).1 (v1 ey))
      · exact P2 (by have := v3 ex; omega) (v1 ey)
      · exact absurd ex x4
    · rcases rng (z := x) with ex | ex | ex | ex
      · rcases h with h | h <;> omega
      · exfalso
        -- both opposite
        obtain ⟨a1, a2⟩ := x2 ex
        obtain ⟨b1, b2⟩ := y2 ey
        rcases h with h | h
        · omega
        · have k := h.2
          have e : (r.1 * r.1 + r.2 * r.2) * gt_x y x = 0 := by
            unfold gt_x at *
            grind
          have p : r.1 * r.1 + r.2 * r.2 ≠ 0 := fun z => by
            have c1 := gt_sq r.1
            have c2 := gt_sq r.2
            have r1 : r.1 * r.1 = 0 := by omega
            have r2 : r.2 * r.2 = 0 := by omega
            have r1 : r.1 = 0 := by rcases Int.mul_eq_zero.mp r1 with w | w <;> exact w
            have r2 : r.2 = 0 := by rcases Int.mul_eq_zero.mp r2 with w | w <;> exact w
            rw [r1, r2] at a2
            omega
          rcases Int.mul_eq_zero.mp e with w | w
          · exact p w
          · omega
      · exact P3 ((op (y2 ey).1 (y2 ey).2).2 (v3 ex)) (by have := v3 ex; omega)
      · exact absurd ex x4
    · rcases rng (z := x) with ex | ex | ex | ex
      · rcases h with h | h <;> omega
      · rcases h with h | h <;> omega
      · rcases h with h | h
        · omega
        · exact P3 h.2 (by have := v3 ex; omega)
      · exact absurd ex x4
    · exact absurd ey y4
  constructor
  · exact one nx ny h1 h2 h3
  · intro h
    refine Classical.byContradiction (fun n => ?_)
    have other : gt_nr r y x := by
      unfold gt_nr at *
      have sw := gt_x_sw (a := x) (b := y)
      by_cases c : gt_rd r x < gt_rd r y
      · exact Or.inl c
      · have e : gt_rd r x = gt_rd r y := by
          refine Classical.byContradiction (fun w => n (Or.inl (by omega)))
        have k : ¬ 0 < gt_x y x := fun w => n (Or.inr ⟨e, w⟩)
        refine Or.inr ⟨e.symm, ?_⟩
        by_cases z : gt_x x y = 0
        · exfalso
          -- same place and in line: the same direction
          obtain ⟨x4, x2⟩ := gt_rd_opp nr nx h2
          obtain ⟨y4, y2⟩ := gt_rd_opp nr ny h3
          have dot : 0 < x.1 * y.1 + x.2 * y.2 ∨ x.1 * y.1 + x.2 * y.2 ≤ 0 := by omega
          have pp : ∀ {q : gt_P}, gt_nz q → 0 < q.1 * q.1 + q.2 * q.2 := fun {q} nq => by
            have a1 := gt_sq q.1
            have a2 := gt_sq q.2
            have n1 : q.1 ≠ 0 ∨ q.2 ≠ 0 := nq
            rcases n1 with n1 | n1
            · rcases Int.lt_or_gt_of_ne n1 with w | w
              · have := Int.mul_pos_of_neg_of_neg w w; omega
              · have := Int.mul_pos w w; omega
            · rcases Int.lt_or_gt_of_ne n1 with w | w
              · have := Int.mul_pos_of_neg_of_neg w w; omega
              · have := Int.mul_pos w w; omega
          have e1 : (x.1 * x.1 + x.2 * x.2) * gt_x r y = (x.1 * y.1 + x.2 * y.2) * gt_x r x := by
            unfold gt_x at *
            grind
          have e2 : (x.1 * x.1 + x.2 * x.2) * (r.1 * y.1 + r.2 * y.2) = (x.1 * y.1 + x.2 * y.2) * (r.1 * x.1 + r.2 * x.2) := by
            unfold gt_x at *
            grind
          have nd : x.1 * y.1 + x.2 * y.2 ≠ 0 := fun w => by
            have e3 : (x.1 * x.1 + x.2 * x.2) * (y.1 * y.1 + y.2 * y.2) = 0 := by
              unfold gt_x at *
              grind
            have := Int.mul_pos (pp nx) (pp ny)
            omega
          have neg : ¬ x.1 * y.1 + x.2 * y.2 < 0 := fun w => by
            -- opposite: the places differ
            have s1 := gt_sg (pp nx) (show 0 < -(x.1 * y.1 + x.2 * y.2) by omega) (show (x.1 * x.1 + x.2 * x.2) * gt_x r y = -(x.1 * y.1 + x.2 * y.2) * -gt_x r x by rw [e1]; grind)
            have s2 := gt_sg (pp nx) (show 0 < -(x.1 * y.1 + x.2 * y.2) by omega) (show (x.1 * x.1 + x.2 * x.2) * (r.1 * y.1 + r.2 * y.2) = -(x.1 * y.1 + x.2 * y.2) * -(r.1 * x.1 + r.2 * x.2) by rw [e2]; grind)
            have nx4 : ¬ (¬ 0 < gt_x r x ∧ ¬ gt_x r x < 0 ∧ ¬ r.1 * x.1 + r.2 * x.2 < 0) := fun w => x4 (by unfold gt_rd; rw [if_neg w.1, if_neg w.2.1, if_neg w.2.2])
            unfold gt_rd at e
            repeat' split at e
            all_goals omega
          refine h1 ⟨?_, z⟩
          have key : ∀ {x y : gt_P}, gt_nz y → gt_x x y = 0 → 0 < x.1 * y.1 + x.2 * y.2 → gt_up x → gt_up y := by
            intro x y ny z d u
            have d' := d
            unfold gt_x at z
            rcases u with u | ⟨u1, u2⟩
            · have e : x.2 * (x.1 * y.1 + x.2 * y.2) = (x.1 * x.1 + x.2 * x.2) * y.2 := by grind
              have nx : gt_nz x := Or.inr (by omega)
              have q := Int.mul_pos u d
              rw [e] at q
              have := (gt_sp (x.1 * x.1 + x.2 * x.2) y.2)
              have p := pp nx
              rcases Int.lt_trichotomy y.2 0 with w | w | w
              · have := this.2.1 p w; omega
              · have := this.2.2.2.2.2 w; omega
              · exact Or.inl w
            · rw [u1, Int.zero_mul] at z d
              have y2 : y.2 = 0 := by
                have : x.1 * y.2 = 0 := by omega
                rcases Int.mul_eq_zero.mp this with k | k <;> omega
              refine Or.inr ⟨y2, Int.lt_of_not_ge (fun w => ?_)⟩
              have := gt_sp x.1 y.1
              rcases Int.lt_trichotomy y.1 0 with w2 | w2 | w2
              · omega
              · have := this.2.2.2.2.2 w2; omega
              · have := this.2.2.1 u2 w2; omega
          exact ⟨key ny z (by omega), key nx (by rw [gt_x_sw, z]; rfl) (by grind)⟩
        · omega
    have k := one ny nx (fun z => h1 (gt_sd_sw z)) h3 h2 other
    have s := gt_C_sw (x := r) (y := x) (z := y) h2 h1 (fun z => h3 (gt_sd_sw z))
    omega
/-! the model's walk, from corner to corner -/
def gt_nxo (l : List gt_P) (v : gt_P) : Option gt_P := ((gt_ed l).find? (fun e => decide (e.1 = v))).map Prod.snd
theorem gt_nxo_in {l : List gt_P} (h : l.Nodup) {v b : gt_P} (hb : (v, b) ∈ gt_ed l) : gt_nxo l v = some b := by
  unfold gt_nxo
  cases e : (gt_ed l).find? (fun e => decide (e.1 = v)) with
  | none =>
    have := List.find?_eq_none.mp e (v, b) hb
    exact absurd (decide_eq_true rfl) this
  | some f =>
    have m := List.mem_of_find?_eq_some e
    have q : f.1 = v := by
      have q := List.find?_some e
      simpa using q
    have : f = (v, b) := gt_nd1 h m hb q
    rw [this]
    rfl
theorem gt_nxo_no {l : List gt_P} {v : gt_P} (h : v ∉ l) : gt_nxo l v = none := by
  unfold gt_nxo
  cases e : (gt_ed l).find? (fun e => decide (e.1 = v)) with
  | none => rfl
  | some f =>
    have m := List.mem_of_find?_eq_some e
    have q : f.1 = v := by
      have q := List.find?_some e
      simpa using q
    exact absurd (by rw [← q]; exact (gt_ed_mem m).1) h
/-- where the walk goes on -/
def gt_chs (A B : List gt_P) (r v : gt_P) : gt_P := match gt_nxo A v, gt_nxo B v with
  | some a, some b => if gt_rd r (gt_d v b) < gt_rd r (gt_d v a) ∨ (gt_rd r (gt_d v a) = gt_rd r (gt_d v b) ∧ 0 < gt_x (gt_d v b) (gt_d v a)) then b else a
  | some a, none => a
  | none, some b => b
  | none, none => v
theorem gt_chs_A {A B : List gt_P} {r v a : gt_P} (h : gt_pr A B) (ha : (v, a) ∈ gt_ed A) (n : v ∉ B) : gt_chs A B r v = a := by
  unfold gt_chs
  rw [gt_nxo_in (gt_smp_nd h.1.1.1) ha, gt_nxo_no n]
theorem gt_chs_B {A B : List gt_P} {r v b : gt_P} (h : gt_pr A B) (hb : (v, b) ∈ gt_ed B) (n : v ∉ A) : gt_chs A B r v = b := by
  unfold gt_chs
  rw [gt_nxo_in (gt_smp_nd h.1.2.1) hb, gt_nxo_no n]
theorem gt_chs_AB {A B : List gt_P} {r v a b : gt_P} (h : gt_pr A B) (ha : (v, a) ∈ gt_ed A) (hb : (v, b) ∈ gt_ed B) : (gt_nr r (gt_d v a) (gt_d v b) → gt_chs A B r v = b) ∧ (¬ gt_nr r (gt_d v a) (gt_d v b) → gt_chs A B r v = a) := by
  unfold gt_chs
  rw [gt_nxo_in (gt_smp_nd h.1.1.1) ha, gt_nxo_in (gt_smp_nd h.1.2.1) hb]
  exact ⟨fun k => if_pos k, fun k => if_neg k⟩
/-- from what is not common on to what is not common -/
theorem gt_chs_J {A B : List gt_P} (h : gt_pr A B) {u v : gt_P} (je : gt_J A B (u, v)) : gt_J A B (v, gt_chs A B (gt_d v u) v) := by
  rcases gt_J_in je with ke | ke
  · obtain ⟨s1, s2⟩ := gt_J_stp h je ke
    obtain ⟨a, ha⟩ := gt_out (gt_ed_mem ke).2
    by_cases c : v ∈ B
    · obtain ⟨b, hb⟩ := gt_out c
      obtain ⟨a', ha'⟩ := gt_into c
      obtain ⟨⟨⟨nu, na⟩, -, nb⟩, ⟨q1, -⟩, ⟨-, q2⟩, c1, -⟩ := gt_cor h ke ha ha' hb
      have q3 : ¬ gt_sd (gt_d v u) (gt_d v b) := fun z => by
        have e := gt_pr_dir h (Or.inr ke) (Or.inl hb) z
        have := (gt_J_no h je).2
        rw [e] at this
        exact this hb
      rw [(gt_chs_AB h ha hb).1 ((gt_nr_C nu na nb q2 q1 q3).mpr (c1 q3).1)]
      exact s1 b hb
    · rw [gt_chs_A h ha c]
      exact s2 c a ha
  · obtain ⟨s1, s2⟩ := gt_J_stp (gt_pr_sw h) (gt_J_sw je) ke
    obtain ⟨b, hb⟩ := gt_out (gt_ed_mem ke).2
    by_cases c : v ∈ A
    · obtain ⟨a, ha⟩ := gt_out c
      obtain ⟨i, hi⟩ := gt_into c
      obtain ⟨⟨⟨-, na⟩, nu, nb⟩, ⟨-, q1⟩, ⟨-, q2⟩, -, c2⟩ := gt_cor h hi ha ke hb
      have q3 : ¬ gt_sd (gt_d v a) (gt_d v u) := fun z => by
        have e := gt_pr_dir h (Or.inl ha) (Or.inr ke) z
        have := (gt_J_no h je).1
        rw [← e] at this
        exact this ha
      have k := (c2 q3).1
      have sw := gt_C_sw (x := gt_d v u) (y := gt_d v a) (z := gt_d v b) (fun z => q3 (gt_sd_sw z)) q2 (fun z => q1 (gt_sd_sw z))
      rw [(gt_chs_AB h ha hb).2 (fun z => by
        have := (gt_nr_C nu na nb q2 (fun z => q3 (gt_sd_sw z)) q1).mp z
        omega)]
      exact gt_J_sw (s1 a ha)
    · rw [gt_chs_B h hb c]
      exact gt_J_sw (s2 c b hb)
/-- at the lowest corner: the one way out lies ahead of the way in -/
theorem gt_lowest {l : List gt_P} (h : gt_fig l) {a v b : gt_P} (h1 : (a, v) ∈ gt_ed l) (h2 : (v, b) ∈ gt_ed l) (lo : ∀ x ∈ l, ¬ gt_lo x v) : (0 < (gt_d v a).2 ∨ ((gt_d v a).2 = 0 ∧ 0 < (gt_d v a).1)) ∧ (0 < (gt_d v b).2 ∨ ((gt_d v b).2 = 0 ∧ 0 < (gt_d v b).1)) ∧ 0 < gt_x (gt_d v b) (gt_d v a) := by
  have up : ∀ {x : gt_P}, x ∈ l → x ≠ v → 0 < (gt_d v x).2 ∨ ((gt_d v x).2 = 0 ∧ 0 < (gt_d v x).1) := fun {x} hx n => by
    have := lo x hx
    unfold gt_lo at this
    have n2 : x.1 ≠ v.1 ∨ x.2 ≠ v.2 := by
      refine Classical.byContradiction (fun z => n (Prod.ext ?_ ?_))
      · exact Classical.byContradiction (fun w => z (Or.inl w))
      · exact Classical.byContradiction (fun w => z (Or.inr w))
    show 0 < x.2 - v.2 ∨ (x.2 - v.2 = 0 ∧ 0 < x.1 - v.1)
    omega
  have na : a ≠ v := gt_ne h.1 h1
  have nb : b ≠ v := fun e => gt_ne h.1 h2 e.symm
  have ua := up (gt_ed_mem h1).1 na
  have ub := up (gt_ed_mem h2).2 nb
  refine ⟨ua, ub, ?_⟩
  obtain ⟨r, ref, lr⟩ := gt_turn_v h.1 h1 h2
  obtain ⟨K0, k1, k2⟩ := gt_loc ref.1 (0, -1)
  have k3 := k2 K0 (Int.le_refl _)
  rw [lr, ref.2.1, h.2.2] at k3
  have e0 : gt_w ((v :: b :: r).map (gt_g K0)) (gt_sh K0 v (0, -1)) = gt_w (l.map (gt_g K0)) (gt_sh K0 v (0, -1)) := gt_ref_w ref k1
  -- nothing lies below
  have z0 : gt_w (l.map (gt_g K0)) (gt_sh K0 v (0, -1)) = 0 := by
    rw [gt_w_sm, gt_ed_map, gt_sm_map]
    have : ∀ L : List gt_E, (∀ e ∈ L, e.1 ∈ l ∧ e.2 ∈ l) → gt_sm (fun a b => gt_c (gt_sh K0 v (0, -1)) (gt_g K0 a) (gt_g K0 b)) L = 0 := by
      intro L
      induction L with
      | nil => intro _; rfl
      | cons e L ih =>
        intro hL
        rw [gt_sm_cons, ih (fun f hf => hL f (List.mem_cons_of_mem _ hf))]
        have he := hL e (List.mem_cons_self ..)
        have l1 : v.2 ≤ e.1.2 := by
          have := lo _ he.1
          unfold gt_lo at this
          omega
        have l2 : v.2 ≤ e.2.2 := by
          have := lo _ he.2
          unfold gt_lo at this
          omega
        have m1 := Int.mul_le_mul_of_nonneg_left l1 (show 0 ≤ K0 by omega)
        have m2 := Int.mul_le_mul_of_nonneg_left l2 (show 0 ≤ K0 by omega)
        have c0 : gt_c (gt_sh K0 v (0, -1)) (gt_g K0 e.1) (gt_g K0 e.2) = 0 := by
          show g_cs (K0 * v.1 + 0) (K0 * v.2 + -1) (K0 * e.1.1) (K0 * e.1.2) (K0 * e.2.1) (K0 * e.2.2) = 0
          unfold g_cs
          rw [if_neg (fun w => by omega), if_neg (fun w => by omega)]
        rw [c0]
        rfl
    exact this _ (fun e he => gt_ed_mem he)
  rw [e0, z0] at k3
  have nsd : ¬ gt_sd (gt_d v a) (gt_d v b) := (gt_spk h.1 h.2.1 h1 h2 rfl).2.2
  generalize gt_d v a = x at *
  generalize gt_d v b = y at *
  have nS : gt_nz ((0, -1) : gt_P) := Or.inr (by decide)
  have uS : ¬ gt_up ((0, -1) : gt_P) := by unfold gt_up; decide
  unfold gt_s at k3
  rw [gt_f_dn nS uS, gt_f_dn nS uS] at k3
  have lS : ∀ {q : gt_P}, (0 < q.2 ∨ (q.2 = 0 ∧ 0 < q.1)) → (gt_lt ((0, -1) : gt_P) q ↔ q.2 = 0) := fun {q} hq => by
    have e : gt_x ((0, -1) : gt_P) q = q.1 := by unfold gt_x; dsimp only; omega
    constructor
    · intro w
      rcases w with w | w
      · exact absurd w.1 uS
      · have : ¬ gt_up q := fun z => uS (w.1.mpr z)
        unfold gt_up at this
        omega
    · intro w
      refine Or.inr ⟨⟨fun z => absurd z uS, fun z => ?_⟩, by rw [e]; omega⟩
      unfold gt_up at z
      omega
  have sw := gt_x_sw (a := x) (b := y)
  by_cases cx : x.2 = 0 <;> by_cases cy : y.2 = 0
  · exfalso
    refine nsd ⟨⟨fun u => ?_, fun u => ?_⟩, ?_⟩
    · unfold gt_up at u; omega
    · unfold gt_up at u; omega
    · unfold gt_x; rw [cx, cy]; omega
  · exfalso
    rw [if_neg (fun w => cy ((lS ub).mp w)), if_pos ((lS ua).mpr cx)] at k3
    have : ¬ gt_lt x y := fun w => by
      rcases w with w | w
      · have := w.1; unfold gt_up at this; omega
      · have := w.1.mpr (Or.inl (by omega))
        unfold gt_up at this; omega
    rw [if_neg this] at k3
    omega
  · unfold gt_x
    rw [cy]
    have := Int.mul_pos (show 0 < y.1 by omega) (show 0 < x.2 by omega)
    omega
  · rw [if_neg (fun w => cy ((lS ub).mp w)), if_neg (fun w => cx ((lS ua).mp w))] at k3
    have : ¬ gt_lt x y := fun w => by rw [if_pos w] at k3; omega
    have nl : ¬ 0 < gt_x x y := fun w => this (Or.inr ⟨⟨fun _ => Or.inl (by omega), fun _ => Or.inl (by omega)⟩, w⟩)
    have nz : gt_x x y ≠ 0 := fun w => nsd ⟨⟨fun _ => Or.inl (by omega), fun _ => Or.inl (by omega)⟩, w⟩
    omega
/-- seen from the west, in the upper half -/
theorem gt_nr_0 {x y : gt_P} (hx : 0 < x.2 ∨ (x.2 = 0 ∧ 0 < x.1)) (hy : 0 < y.2 ∨ (y.2 = 0 ∧ 0 < y.1)) : gt_nr (-1, 0) x y ↔ 0 < gt_x y x := by
  have rd : ∀ {z : gt_P}, (0 < z.2 ∨ (z.2 = 0 ∧ 0 < z.1)) → gt_rd (-1, 0) z = if z.2 = 0 then 2 else 3 := fun {z} hz => by
    have e : gt_x ((-1, 0) : gt_P) z = -z.2 := by unfold gt_x; dsimp only; omega
    unfold gt_rd
    rw [e]
    dsimp only
    by_cases c : z.2 = 0
    · rw [if_neg (by omega), if_neg (by omega), if_pos (by omega), if_pos c]
    · rw [if_neg (by omega), if_pos (by omega), if_neg c]
  unfold gt_nr
  rw [rd hx, rd hy]
  by_cases cx : x.2 = 0 <;> by_cases cy : y.2 = 0
  · rw [if_pos cx, if_pos cy]
    exact ⟨fun w => by rcases w with w | w; exact absurd w (by decide); exact w.2, fun w => Or.inr ⟨rfl, w⟩⟩
  · rw [if_pos cx, if_neg cy]
    have : ¬ 0 < gt_x y x := by
      unfold gt_x
      rw [cx]
      have := Int.mul_pos (show 0 < y.2 by omega) (show 0 < x.1 by omega)
      omega
    exact ⟨fun w => by rcases w with w | w; exact absurd w (by decide); exact w.2, fun w => absurd w this⟩
  · rw [if_neg cx, if_pos cy]
    have : 0 < gt_x y x := by
      unfold gt_x
      rw [cy]
      have := Int.mul_pos (show 0 < y.1 by omega) (show 0 < x.2 by omega)
      omega
    exact ⟨fun _ => this, fun _ => Or.inl (by decide)⟩
  · rw [if_neg cx, if_neg cy]
    exact ⟨fun w => by rcases w with w | w; exact absurd w (by decide); exact w.2, fun w => Or.inr ⟨rfl, w⟩⟩
theorem gt_chs_0 {A B : List gt_P} (h : gt_pr A B) {s : gt_P} (hs : s ∈ A ∨ s ∈ B) (lo : ∀ x, x ∈ A ∨ x ∈ B → ¬ gt_lo x s) : gt_J A B (s, gt_chs A B (-1, 0) s) := by
  by_cases cA : s ∈ A
  · obtain ⟨a, ha⟩ := gt_out cA
    obtain ⟨i, hi⟩ := gt_into cA
    by_cases cB : s ∈ B
    · obtain ⟨b, hb⟩ := gt_out cB
      obtain ⟨i', hi'⟩ := gt_into cB
      obtain ⟨l1, l2, l3⟩ := gt_lowest h.1.1 hi ha (fun x hx => lo x (Or.inl hx))
      obtain ⟨m1, m2, m3⟩ := gt_lowest h.1.2 hi' hb (fun x hx => lo x (Or.inr hx))
      have nz : gt_x (gt_d s b) (gt_d s a) ≠ 0 := fun z => by
        obtain ⟨-, -, ⟨-, q⟩, -⟩ := gt_cor h hi ha hi' hb
        refine q ⟨?_, by rw [gt_x_sw, z]; rfl⟩
        unfold gt_x at z
        unfold gt_up
        generalize gt_d s a = x at *
        generalize gt_d s b = y at *
        have e1 := gt_sp y.2 x.1
        have e2 := gt_sp y.1 x.2
        have e3 : y.2 = 0 → y.2 * x.1 = 0 := fun k => by rw [k, Int.zero_mul]
        have e4 : x.2 = 0 → y.1 * x.2 = 0 := fun k => by rw [k, Int.mul_zero]
        omega
      by_cases n : gt_nr (-1, 0) (gt_d s a) (gt_d s b)
      · rw [(gt_chs_AB h ha hb).1 n]
        refine Or.inr ⟨hb, fun k => ?_⟩
        have e : i = b := congrArg Prod.fst (gt_one2 h.1.1.1 hi k rfl)
        rw [e] at l3
        have := (gt_nr_0 l2 m2).mp n
        have := gt_x_sw (a := gt_d s a) (b := gt_d s b)
        omega
      · rw [(gt_chs_AB h ha hb).2 n]
        refine Or.inl ⟨ha, fun k => ?_⟩
        have e : i' = a := congrArg Prod.fst (gt_one2 h.1.2.1 hi' k rfl)
        rw [e] at m3
        exact n ((gt_nr_0 l2 m2).mpr m3)
    · rw [gt_chs_A h ha cB]
      exact Or.inl ⟨ha, fun k => cB (gt_ed_mem k).2⟩
  · have cB := hs.resolve_left cA
    obtain ⟨b, hb⟩ := gt_out cB
    rw [gt_chs_B h hb cA]
    exact Or.inr ⟨hb, fun k => cA (gt_ed_mem k).2⟩
/-- the walk: from v on, coming from the direction r -/
def gt_mw (A B : List gt_P) (s : gt_P) : Nat → gt_P → gt_P → List gt_P → Option (List gt_P)
  | 0, _, _, _ => none
  | n + 1, r, v, acc => if v ∈ acc then none else if gt_chs A B r v = s then some (acc ++ [v]) else gt_mw A B s n (gt_d (gt_chs A B r v) v) (gt_chs A B r v) (acc ++ [v])
theorem gt_mw_on {A B : List gt_P} (h : gt_pr A B) {s : gt_P} : ∀ {n : Nat} {r v : gt_P} {acc R : List gt_P}, gt_J A B (v, gt_chs A B r v) → gt_mw A B s n r v acc = some R → ∃ l, R = acc ++ v :: l ∧ (∀ x ∈ v :: l, x ∉ acc) ∧ (v :: l).Nodup ∧ ∀ f ∈ gt_pe v (l ++ [s]), gt_J A B f
  | 0, _, _, _, _, _, hr => by cases hr
  | n + 1, r, v, acc, R, j, hr => by
    unfold gt_mw at hr
    by_cases c : v ∈ acc
    · rw [if_pos c] at hr; cases hr
    rw [if_neg c] at hr
    by_cases c2 : gt_chs A B r v = s
    · rw [if_pos c2] at hr
      refine ⟨[], (Option.some.inj hr).symm, fun x hx => ?_, List.nodup_cons.mpr ⟨by simp, List.nodup_nil⟩, fun f hf => ?_⟩
      · rw [List.mem_singleton.mp hx]; exact c
      · have hf : f ∈ [(v, s)] := hf
        rw [List.mem_singleton.mp hf, ← c2]
        exact j
    · rw [if_neg c2] at hr
      obtain ⟨l, r1, r2, r3, r4⟩ := gt_mw_on h (gt_chs_J h j) hr
      refine ⟨gt_chs A B r v :: l, by rw [r1]; simp, fun x hx => ?_, List.nodup_cons.mpr ⟨fun m => ?_, r3⟩, fun f hf => ?_⟩
      · rcases List.mem_cons.mp hx with k | k
        · rw [k]; exact c
        · exact fun z => r2 x k (List.mem_append.mpr (Or.inl z))
      · exact r2 v m (List.mem_append.mpr (Or.inr (List.mem_singleton.mpr rfl)))
      · rcases List.mem_cons.mp hf with k | k
        · rw [k]; exact j
        · exact r4 f k
theorem gt_mw_way {A B : List gt_P} (h : gt_pr A B) {s : gt_P} {n : Nat} {R : List gt_P} (hs : s ∈ A ∨ s ∈ B) (lo : ∀ x, x ∈ A ∨ x ∈ B → ¬ gt_lo x s) (hr : gt_mw A B s n (-1, 0) s [] = some R) : gt_way A B R ∧ ∃ l, R = s :: l := by
  obtain ⟨l, r1, -, r3, r4⟩ := gt_mw_on h (gt_chs_0 h hs lo) hr
  rw [List.nil_append] at r1
  exact ⟨by rw [r1]; exact ⟨by simp, r3, r4⟩, l, r1⟩
theorem gt_mw_mk {A B : List gt_P} (h : gt_pr A B) {s : gt_P} {W : List gt_P} (w : gt_fw A B W) (hW : ∀ f ∈ gt_ed W, True) : ∀ {rest acc : List gt_P} {r v : gt_P} {n : Nat}, W = acc ++ v :: rest → (∀ f ∈ gt_pe v (rest ++ [s]), f ∈ gt_ed W) → s ∉ rest → gt_J A B (v, gt_chs A B r v) → rest.length < n → gt_mw A B s n r v acc = some W
  | [], acc, r, v, n + 1, e, hp, _, j, _ => by
    have m := w.2 _ j
    have q : (v, gt_chs A B r v) = (v, s) := gt_nd1 w.1.2.1 m (hp (v, s) (List.mem_cons_self ..)) rfl
    have q : gt_chs A B r v = s := congrArg Prod.snd q
    have nd := w.1.2.1
    rw [e] at nd
    unfold gt_mw
    rw [if_neg (fun z => (List.nodup_append.mp nd).2.2 v z v (List.mem_cons_self ..) rfl), if_pos q, e]
  | b :: rest, acc, r, v, n + 1, e, hp, hs, j, hn => by
    have m := w.2 _ j
    have q : (v, gt_chs A B r v) = (v, b) := gt_nd1 w.1.2.1 m (hp (v, b) (List.mem_cons_self ..)) rfl
    have q : gt_chs A B r v = b := congrArg Prod.snd q
    have nd := w.1.2.1
    rw [e] at nd
    have jn := gt_chs_J h j
    unfold gt_mw
    rw [if_neg (fun z => (List.nodup_append.mp nd).2.2 v z v (List.mem_cons_self ..) rfl), q, if_neg (fun z => hs (by rw [z]; exact List.mem_cons_self ..))]
    rw [q] at jn
    exact gt_mw_mk h w hW (rest := rest) (acc := acc ++ [v]) (by rw [e]; simp) (fun f hf => hp f (List.mem_cons_of_mem _ hf)) (fun z => hs (List.mem_cons_of_mem _ z)) jn (by rw [List.length_cons] at hn; omega)
/-- class and model join alike -/
theorem gt_joins {F G : s_Fig} {N : Nat} (hF : gt_fig F) (hG : gt_fig G) (lF : F.length ≤ 40) (lG : G.length ≤ 40) (bF : ∀ p ∈ F, (0 ≤ p.1 ∧ p.1 ≤ N) ∧ 0 ≤ p.2 ∧ p.2 ≤ N) (bG : ∀ p ∈ G, (0 ≤ p.1 ∧ p.1 ≤ N) ∧ 0 ≤ p.2 ∧ p.2 ≤ N) (h : gt_pr (gt_aug F G) (gt_aug G F)) {s : gt_P} (hs : s ∈ gt_aug F G ∨ s ∈ gt_aug G F) (lo : ∀ x, x ∈ gt_aug F G ∨ x ∈ gt_aug G F → ¬ gt_lo x s) : (∀ R, g_jraw F G = some R → (gt_fig R ∧ ∀ c, gt_cc c → gt_sm c (gt_ed R) = gt_sm c (gt_ed F) + gt_sm c (gt_ed G)) ∧ ∃ W, gt_mw (gt_aug F G) (gt_aug G F) s 399 (-1, 0) s [] = some W ∧ W.length ≤ 160 ∧ gt_sm gt_ar (gt_ed W) = gt_sm gt_ar (gt_ed F) + gt_sm gt_ar (gt_ed G) ∧ ∃ x y, R = x ++ y ∧ y ++ x = W) ∧ ∀ W, gt_mw (gt_aug F G) (gt_aug G F) s 399 (-1, 0) s [] = some W → gt_sm gt_ar (gt_ed W) = gt_sm gt_ar (gt_ed F) + gt_sm gt_ar (gt_ed G) → ∃ R, g_jraw F G = some R := by
  obtain ⟨a1, a2, -⟩ := gt_aug_all hF lG
  obtain ⟨b1, b2, -⟩ := gt_aug_all hG lF
  obtain ⟨j1, j2⟩ := gt_jraw hF hG lF lG h
  have nA := gt_aug_len hF lF lG
  have nB := gt_aug_len hG lG lF
  have bA : ∀ p ∈ gt_aug F G, (0 ≤ p.1 ∧ p.1 ≤ N) ∧ 0 ≤ p.2 ∧ p.2 ≤ N := fun p hp => by
    rcases a2 p hp with k | k
    · exact bF p k
    · exact bG p k
  have bB : ∀ p ∈ gt_aug G F, (0 ≤ p.1 ∧ p.1 ≤ N) ∧ 0 ≤ p.2 ∧ p.2 ≤ N := fun p hp => by
    rcases b2 p hp with k | k
    · exact bG p k
    · exact bF p k
  have sA := a1.2.2.1
  have sB := b1.2.2.1
  constructor
  · intro R hR
    have w := j1 R hR
    have sm : ∀ c, gt_cc c → gt_sm c (gt_ed R) = gt_sm c (gt_ed F) + gt_sm c (gt_ed G) := fun c hc => by
      rw [gt_fw_sm h w hc, sA c hc, sB c hc]
    refine ⟨⟨gt_fw_fig h w bA bB, sm⟩, ?_⟩
    have j0 := gt_chs_0 h hs lo
    have ms : s ∈ R := (gt_ed_mem (w.2 _ j0)).1
    obtain ⟨x, y, e⟩ := List.append_of_mem ms
    have rot : ∀ f, f ∈ gt_ed ((s :: y) ++ x) ↔ f ∈ gt_ed R := fun f => by rw [e]; exact gt_ed_rot.mem_iff
    have nd := w.1.2.1
    rw [e] at nd
    have ndW : ((s :: y) ++ x).Nodup := (List.perm_append_comm.nodup_iff).mp nd
    have wW : gt_fw (gt_aug F G) (gt_aug G F) ((s :: y) ++ x) := ⟨⟨by simp, ndW, fun f hf => w.1.2.2 f ((rot f).mp hf)⟩, fun f jf => (rot f).mpr (w.2 f jf)⟩
    have len : ((s :: y) ++ x).length ≤ 160 := by
      have := (gt_fw_perm h wW).length_eq
      rw [gt_ed_len] at this
      rw [this, List.length_append]
      have p := List.length_filter_le (fun e => decide (gt_rv e ∉ gt_ed (gt_aug G F))) (gt_ed (gt_aug F G))
      have q := List.length_filter_le (fun e => decide (gt_rv e ∉ gt_ed (gt_aug F G))) (gt_ed (gt_aug G F))
      rw [gt_ed_len] at p q
      unfold gt_JA
      omega
    refine ⟨(s :: y) ++ x, ?_, len, ?_, x, s :: y, e, rfl⟩
    · refine gt_mw_mk h wW (fun _ _ => trivial) (rest := y ++ x) (acc := []) rfl (fun f hf => hf) (fun z => (List.nodup_cons.mp ndW).1 z) j0 ?_
      rw [List.cons_append, List.length_cons] at len
      omega
    · rw [gt_fw_sm h wW gt_cc_ar, sA _ gt_cc_ar, sB _ gt_cc_ar]
  · intro W hW ar
    obtain ⟨w, -⟩ := gt_mw_way h hs lo hW
    refine j2 W ⟨w, gt_full h w bA bB ?_⟩
    rw [ar, sA _ gt_cc_ar, sB _ gt_cc_ar]
