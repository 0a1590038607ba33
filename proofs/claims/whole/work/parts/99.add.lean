/-! one thing more, on both sides -/
theorem w_t_add {S : w_S} {s r j : Nat} {x : w_T} (hs : 1 ≤ s ∧ s < 8) (hr : 1 ≤ r ∧ r < 8) (hi : (S.1 s).toNat < w_mx s) (hj : j < w_mx r) : w_t (w_addT S s x) r j = if r = s ∧ j = (S.1 s).toNat then x else w_t S r j := by
  show s_fu S.2.2.1 (w_F s + (S.1 s).toNat) x (w_F r + j) = _
  by_cases c : r = s ∧ j = (S.1 s).toNat
  · rw [if_pos c, c.1, c.2, s_fu_eq]
  · rw [if_neg c, s_fu_ne (fun e => c (by have := w_F_ne hr hs hj hi e; exact this))]; rfl
theorem w_z_add {S : w_S} {s r : Nat} {x : w_T} : (w_addT S s x).1 r = if r = s then S.1 s + 1 else S.1 r := by
  show s_fu S.1 s (S.1 s + 1) r = _
  unfold s_fu
  rfl
theorem R_S_le {V : Nat → v_D} {S : w_S} {N : n_S} {a b : Int} (hR : R_S V S N a) (h : a ≤ b) : R_S V S N b := by
  obtain ⟨a1, a2, a3, a4, a5, a6, a7, a8, a9, b1, b2⟩ := hR
  exact ⟨a1, a2, a3, a4, a5, a6, a7, a8, a9, fun s i h1 h2 h3 => by have := b1 s i h1 h2 h3; omega, b2⟩
theorem R_addT {V : Nat → v_D} {S : w_S} {N N' : n_S} {a : Int} {s : Nat} {x t : w_T} (hR : R_S V S N a) (hz : R_z S) (hs : 1 ≤ s ∧ s < 7) (hf : S.1 s < w_mx s) (h1 : t.1 1 = N.2.2.2.2.2.1 ∧ x.1 1 = a) (hp : s = 1 → R_p (S.1 1).toNat x t) (ht : 2 ≤ s → R_t S.2.2.2 s x t)
    (e1 : N'.1 = s_fu N.1 s (N.1 s + 1)) (e2 : N'.2.1 = s_fu N.2.1 (80 * s + (N.1 s).toNat) t) (e3 : N'.2.2.1 = N.2.2.1) (e4 : ∀ j, ¬ (s = 3 ∧ j = (S.1 3).toNat) → N'.2.2.2.1 j = N.2.2.2.1 j) (e4' : s = 3 → N'.2.2.2.1 (S.1 3).toNat = (V (x.1 11).toNat).2.2.2.2) (e5 : N'.2.2.2.2.1 = N.2.2.2.2.1) (e6 : N'.2.2.2.2.2.1 = N.2.2.2.2.2.1 + 1) (e7 : N'.2.2.2.2.2.2 = N.2.2.2.2.2.2) : R_S V (w_addT S s x) N' (a + 1) := by
  obtain ⟨a1, a2, a3, a4, a5, a6, a7, a8, a9, b1, b2, b3, b4⟩ := hR
  have zs := hz s (by omega)
  have hm : w_mx s ≤ 80 := by unfold w_mx; (repeat' split) <;> omega
  have hi : (S.1 s).toNat < w_mx s := by omega
  have ns : N.1 s = S.1 s := a1.1 s hs.2
  have wz : ∀ r, (w_addT S s x).1 r = if r = s then S.1 s + 1 else S.1 r := fun r => w_z_add
  have w_old : ∀ r j : Nat, r < 8 → (j : Int) < (w_addT S s x).1 r → ¬ (r = s ∧ j = (S.1 s).toNat) → (j : Int) < S.1 r := fun r j r8 hj c => by
    rw [wz] at hj
    by_cases cr : r = s
    · rw [if_pos cr] at hj; rw [cr]; omega
    · rw [if_neg cr] at hj; exact hj
  have w_jm : ∀ r j : Nat, r < 8 → (j : Int) < (w_addT S s x).1 r → j < w_mx r := fun r j r8 hj => by
    rw [wz] at hj
    by_cases cr : r = s
    · rw [if_pos cr] at hj; rw [cr]; omega
    · rw [if_neg cr] at hj; exact R_lt hz r8 hj
  have j80 : ∀ r j : Nat, r < 7 → (j : Int) < (w_addT S s x).1 r → j < 80 := fun r j r7 hj => by
    have h1 := w_jm r j (by omega) hj
    have : w_mx r ≤ 80 := by unfold w_mx; (repeat' split) <;> omega
    omega
  have wt : ∀ r j : Nat, 1 ≤ r → r < 8 → (j : Int) < (w_addT S s x).1 r → w_t (w_addT S s x) r j = if r = s ∧ j = (S.1 s).toNat then x else w_t S r j := fun r j r1 r8 hj => w_t_add ⟨hs.1, by omega⟩ ⟨r1, r8⟩ hi (w_jm r j r8 hj)
  have nt : ∀ r j : Nat, r < 7 → j < 80 → N'.2.1 (80 * r + j) = if r = s ∧ j = (S.1 s).toNat then t else N.2.1 (80 * r + j) := fun r j r7 hj => by
    rw [e2, ns]
    by_cases c : r = s ∧ j = (S.1 s).toNat
    · rw [if_pos c, c.1, c.2, s_fu_eq]
    · rw [if_neg c, s_fu_ne (by omega)]
  refine ⟨⟨fun r hr => ?_, ?_⟩, ?_, fun j hj => ?_, fun j hj => ?_, fun r j r2 r6 hj => ?_, fun j hj => ?_, fun k hk => ?_, fun k j hk hj => ?_, fun c j hc hj => ?_, fun r j r1 r8 hj => ?_, fun r j r7 hj => ?_, fun k hk => ?_, ?_⟩
  · rw [e1, wz]
    unfold s_fu
    by_cases c : r = s
    · rw [if_pos c, if_pos c, ns]
    · rw [if_neg c, if_neg c]; exact a1.1 r hr
  · rw [e7, wz, if_neg (by omega)]; exact a1.2
  · rw [e7]; exact a2
  · have hj' := w_old 0 j (by omega) hj (by omega)
    have e := nt 0 j (by omega) (j80 0 j (by omega) hj)
    rw [show 80 * 0 + j = j by omega, if_neg (by omega)] at e
    rw [e, e3]
    exact a3 j hj'
  · rw [wt 1 j (by omega) (by omega) hj, nt 1 j (by omega) (j80 1 j (by omega) hj)]
    by_cases c : 1 = s ∧ j = (S.1 s).toNat
    · rw [if_pos c, if_pos c, c.2, ← c.1]; exact hp c.1.symm
    · rw [if_neg c, if_neg c]; exact a4 j (w_old 1 j (by omega) hj c)
  · rw [wt r j (by omega) (by omega) hj, nt r j (by omega) (j80 r j (by omega) hj)]
    by_cases c : r = s ∧ j = (S.1 s).toNat
    · rw [if_pos c, if_pos c, c.1]; exact ht (by omega)
    · rw [if_neg c, if_neg c]; exact a5 r j r2 r6 (w_old r j (by omega) hj c)
  · rw [wt 3 j (by omega) (by omega) hj]
    by_cases c : 3 = s ∧ j = (S.1 s).toNat
    · rw [if_pos c, c.2, ← c.1]; exact e4' c.1.symm
    · rw [if_neg c, e4 j (fun d => c ⟨d.1.symm, by rw [d.1]; exact d.2⟩)]; exact a6 j (w_old 3 j (by omega) hj c)
  · rw [wt 7 k (by omega) (by omega) hk, if_neg (by omega), e5]
    exact a7 k (w_old 7 k (by omega) hk (by omega))
  · have hk' := w_old 7 k (by omega) hk (by omega)
    rw [wt 6 j (by omega) (by omega) hj, wt 7 k (by omega) (by omega) hk, nt 6 j (by omega) (j80 6 j (by omega) hj), if_neg (show ¬ (7 = s ∧ k = (S.1 s).toNat) by omega), e5]
    by_cases c : 6 = s ∧ j = (S.1 s).toNat
    · rw [if_pos c, if_pos c, h1.1, h1.2]
      have y1 := b1 7 k (by omega) (by omega) hk'
      have y2 := b3 k hk'
      constructor <;> intro z <;> omega
    · rw [if_neg c, if_neg c]; exact a8 k j hk' (w_old 6 j (by omega) hj c)
  · rw [wt 4 j (by omega) (by omega) hj, wt 2 c (by omega) (by omega) hc, nt 4 j (by omega) (j80 4 j (by omega) hj), nt 2 c (by omega) (j80 2 c (by omega) hc)]
    by_cases c4 : 4 = s ∧ j = (S.1 s).toNat
    · have c2 : ¬ (2 = s ∧ c = (S.1 s).toNat) := by omega
      have hc' := w_old 2 c (by omega) hc c2
      rw [if_pos c4, if_pos c4, if_neg c2, if_neg c2, h1.1, h1.2]
      have y1 := b1 2 c (by omega) (by omega) hc'
      have y2 := b2 2 c (by omega) hc'
      constructor <;> intro z <;> omega
    · have hj' := w_old 4 j (by omega) hj c4
      rw [if_neg c4, if_neg c4]
      by_cases c2 : 2 = s ∧ c = (S.1 s).toNat
      · rw [if_pos c2, if_pos c2, h1.1, h1.2]
        have y1 := b1 4 j (by omega) (by omega) hj'
        have y2 := b2 4 j (by omega) hj'
        constructor <;> intro z <;> omega
      · rw [if_neg c2, if_neg c2]; exact a9 c j (w_old 2 c (by omega) hc c2) hj'
  · rw [wt r j r1 r8 hj]
    by_cases c : r = s ∧ j = (S.1 s).toNat
    · rw [if_pos c, h1.2]; omega
    · rw [if_neg c]; have := b1 r j r1 r8 (w_old r j (by omega) hj c); omega
  · rw [nt r j r7 (j80 r j r7 hj), e6]
    by_cases c : r = s ∧ j = (S.1 s).toNat
    · rw [if_pos c, h1.1]; omega
    · rw [if_neg c]; have := b2 r j r7 (w_old r j (by omega) hj c); omega
  · rw [e5, e6]; have := b3 k (w_old 7 k (by omega) hk (by omega)); omega
  · rw [e6, b4, wz 0, wz 1, wz 2, wz 3, wz 4, wz 5, wz 6, wz 7]
    have : s = 1 ∨ s = 2 ∨ s = 3 ∨ s = 4 ∨ s = 5 ∨ s = 6 := by omega
    rcases this with z | z | z | z | z | z <;> subst z <;> simp <;> omega
/-- one LOT more -/
theorem R_addL {V : Nat → v_D} {S : w_S} {N N' : n_S} {a : Int} {x : w_L} (hR : R_S V S N a) (hz : R_z S) (hf : S.1 0 < 80) (hx : R_l x (N'.2.1 (S.1 0).toNat) (N'.2.2.1 (S.1 0).toNat)) (h1 : (N'.2.1 (S.1 0).toNat).1 1 = N.2.2.2.2.2.1)
    (e1 : N'.1 = s_fu N.1 0 (N.1 0 + 1)) (e2 : ∀ j, j ≠ (S.1 0).toNat → N'.2.1 j = N.2.1 j) (e3 : ∀ j, j ≠ (S.1 0).toNat → N'.2.2.1 j = N.2.2.1 j) (e4 : N'.2.2.2.1 = N.2.2.2.1) (e5 : N'.2.2.2.2.1 = N.2.2.2.2.1) (e6 : N'.2.2.2.2.2.1 = N.2.2.2.2.2.1 + 1) (e7 : N'.2.2.2.2.2.2 = N.2.2.2.2.2.2) : R_S V (w_addL S x) N' a := by
  obtain ⟨a1, a2, a3, a4, a5, a6, a7, a8, a9, b1, b2, b3, b4⟩ := hR
  have zs := hz 0 (by omega)
  have n0 : N.1 0 = S.1 0 := a1.1 0 (by omega)
  have wz : ∀ r, (w_addL S x).1 r = if r = 0 then S.1 0 + 1 else S.1 r := fun r => by
    show s_fu S.1 0 (S.1 0 + 1) r = _
    unfold s_fu; rfl
  have wo : ∀ r, r ≠ 0 → (w_addL S x).1 r = S.1 r := fun r hr => by rw [wz, if_neg hr]
  refine ⟨⟨fun r hr => ?_, ?_⟩, by rw [e7]; exact a2, fun j hj => ?_, fun j hj => ?_, fun r j r2 r6 hj => ?_, fun j hj => ?_, fun k hk => ?_, fun k j hk hj => ?_, fun c j hc hj => ?_, fun r j r1 r8 hj => ?_, fun r j r7 hj => ?_, fun k hk => ?_, ?_⟩
  · rw [e1, wz]
    unfold s_fu
    by_cases c : r = 0
    · rw [if_pos c, if_pos c, n0]
    · rw [if_neg c, if_neg c]; exact a1.1 r hr
  · rw [e7, wo 7 (by omega)]; exact a1.2
  · rw [wz, if_pos rfl] at hj
    show R_l (s_fu S.2.1 (S.1 0).toNat x j) _ _
    by_cases c : j = (S.1 0).toNat
    · rw [c, s_fu_eq]; exact hx
    · rw [s_fu_ne c, e2 j c, e3 j c]; exact a3 j (by omega)
  · rw [wo 1 (by omega)] at hj
    rw [e2 _ (by omega)]; exact a4 j hj
  · rw [wo r (by omega)] at hj
    rw [e2 _ (by omega)]; exact a5 r j r2 r6 hj
  · rw [wo 3 (by omega)] at hj
    rw [e4]; exact a6 j hj
  · rw [wo 7 (by omega)] at hk
    rw [e5]; exact a7 k hk
  · rw [wo 7 (by omega)] at hk
    rw [wo 6 (by omega)] at hj
    rw [e2 _ (by omega), e5]; exact a8 k j hk hj
  · rw [wo 2 (by omega)] at hc
    rw [wo 4 (by omega)] at hj
    rw [e2 _ (by omega), e2 _ (by omega)]; exact a9 c j hc hj
  · rw [wo r (by omega)] at hj
    exact b1 r j r1 r8 hj
  · rw [e6]
    by_cases c : 80 * r + j = (S.1 0).toNat
    · rw [c, h1]; omega
    · rw [e2 _ c]
      have hj' : (j : Int) < S.1 r := by
        rw [wz] at hj
        by_cases r0 : r = 0
        · rw [if_pos r0] at hj; rw [r0]; omega
        · rw [if_neg r0] at hj; exact hj
      have := b2 r j r7 hj'; omega
  · rw [wo 7 (by omega)] at hk
    rw [e5, e6]; have := b3 k hk; omega
  · rw [e6, b4, wz 0, wo 1 (by omega), wo 2 (by omega), wo 3 (by omega), wo 4 (by omega), wo 5 (by omega), wo 6 (by omega), wo 7 (by omega), if_pos rfl]; omega
/-- one SALE more -/
theorem R_addS {V : Nat → v_D} {S : w_S} {N N' : n_S} {a : Int} {x : w_T} (hR : R_S V S N a) (hz : R_z S) (hf : S.1 7 < 60) (hx : R_sale V x (N'.2.2.2.2.1 (S.1 7).toNat)) (h1 : (N'.2.2.2.2.1 (S.1 7).toNat).1 1 = N.2.2.2.2.2.1 ∧ x.1 1 = a)
    (e1 : N'.1 = N.1) (e2 : N'.2.1 = N.2.1) (e3 : N'.2.2.1 = N.2.2.1) (e4 : N'.2.2.2.1 = N.2.2.2.1) (e5 : ∀ j, j ≠ (S.1 7).toNat → N'.2.2.2.2.1 j = N.2.2.2.2.1 j) (e6 : N'.2.2.2.2.2.1 = N.2.2.2.2.2.1 + 1) (e7 : N'.2.2.2.2.2.2.1 = N.2.2.2.2.2.2.1) (e8 : N'.2.2.2.2.2.2.2 = N.2.2.2.2.2.2.2 + 1) : R_S V (w_addT S 7 x) N' (a + 1) := by
  obtain ⟨a1, a2, a3, a4, a5, a6, a7, a8, a9, b1, b2, b3, b4⟩ := hR
  have zs := hz 7 (by omega)
  have wz : ∀ r, (w_addT S 7 x).1 r = if r = 7 then S.1 7 + 1 else S.1 r := fun r => w_z_add
  have wo : ∀ r, r ≠ 7 → (w_addT S 7 x).1 r = S.1 r := fun r hr => by rw [wz, if_neg hr]
  have hm7 : w_mx 7 = 60 := rfl
  have wt : ∀ r j : Nat, 1 ≤ r → r < 7 → (j : Int) < S.1 r → w_t (w_addT S 7 x) r j = w_t S r j := fun r j r1 r7 hj => by
    rw [w_t_add (by omega) ⟨r1, by omega⟩ (by omega) (R_lt hz (by omega) hj), if_neg (by omega)]
  have wt7 : ∀ k : Nat, (k : Int) < S.1 7 + 1 → w_t (w_addT S 7 x) 7 k = if k = (S.1 7).toNat then x else w_t S 7 k := fun k hk => by
    rw [w_t_add (by omega) (by omega) (by omega) (by omega)]
    by_cases c : k = (S.1 7).toNat
    · rw [if_pos ⟨rfl, c⟩, if_pos c]
    · rw [if_neg (fun z => c z.2), if_neg c]
  refine ⟨⟨fun r hr => by rw [e1, wo r (by omega)]; exact a1.1 r hr, by rw [e8, wz, if_pos rfl, a1.2]⟩, by rw [e7]; exact a2, fun j hj => ?_, fun j hj => ?_, fun r j r2 r6 hj => ?_, fun j hj => ?_, fun k hk => ?_, fun k j hk hj => ?_, fun c j hc hj => ?_, fun r j r1 r8 hj => ?_, fun r j r7 hj => ?_, fun k hk => ?_, ?_⟩
  · rw [wo 0 (by omega)] at hj
    rw [e2, e3]; exact a3 j hj
  · rw [wo 1 (by omega)] at hj
    rw [e2, wt 1 j (by omega) (by omega) hj]; exact a4 j hj
  · rw [wo r (by omega)] at hj
    rw [e2, wt r j (by omega) (by omega) hj]; exact a5 r j r2 r6 hj
  · rw [wo 3 (by omega)] at hj
    rw [e4, wt 3 j (by omega) (by omega) hj]; exact a6 j hj
  · rw [wz, if_pos rfl] at hk
    rw [wt7 k hk]
    by_cases c : k = (S.1 7).toNat
    · rw [if_pos c, c]; exact hx
    · rw [if_neg c, e5 k c]; exact a7 k (by omega)
  · rw [wz, if_pos rfl] at hk
    rw [wo 6 (by omega)] at hj
    rw [wt7 k hk, wt 6 j (by omega) (by omega) hj, e2]
    by_cases c : k = (S.1 7).toNat
    · rw [if_pos c, c, h1.1, h1.2]
      have y1 := b1 6 j (by omega) (by omega) hj
      have y2 := b2 6 j (by omega) hj
      constructor <;> intro z <;> omega
    · rw [if_neg c, e5 k c]; exact a8 k j (by omega) hj
  · rw [wo 2 (by omega)] at hc
    rw [wo 4 (by omega)] at hj
    rw [wt 4 j (by omega) (by omega) hj, wt 2 c (by omega) (by omega) hc, e2]; exact a9 c j hc hj
  · by_cases r7 : r = 7
    · subst r7
      rw [wz, if_pos rfl] at hj
      rw [wt7 j hj]
      by_cases c : j = (S.1 7).toNat
      · rw [if_pos c, h1.2]; omega
      · rw [if_neg c]; have := b1 7 j (by omega) (by omega) (by omega); omega
    · rw [wo r r7] at hj
      rw [wt r j r1 (by omega) hj]; have := b1 r j r1 r8 hj; omega
  · rw [wo r (by omega)] at hj
    rw [e2, e6]; have := b2 r j r7 hj; omega
  · rw [wz, if_pos rfl] at hk
    rw [e6]
    by_cases c : k = (S.1 7).toNat
    · rw [c, h1.1]; omega
    · rw [e5 k c]; have := b3 k (by omega); omega
  · rw [e6, b4, wz 7, if_pos rfl, wo 0 (by omega), wo 1 (by omega), wo 2 (by omega), wo 3 (by omega), wo 4 (by omega), wo 5 (by omega), wo 6 (by omega)]; omega
