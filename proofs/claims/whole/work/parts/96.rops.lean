/-! one row changed, on both sides -/
theorem w_t_set {S : w_S} {s i r j : Nat} {x : w_T} (hs : 1 ≤ s ∧ s < 8) (hr : 1 ≤ r ∧ r < 8) (hi : i < w_mx s) (hj : j < w_mx r) : w_t (w_setT S (w_F s + i) x) r j = if r = s ∧ j = i then x else w_t S r j := by
  show s_fu S.2.2.1 (w_F s + i) x (w_F r + j) = _
  by_cases c : r = s ∧ j = i
  · rw [if_pos c, c.1, c.2, s_fu_eq]
  · rw [if_neg c, s_fu_ne (fun e => c (by have := w_F_ne hr hs hj hi e; exact this))]; rfl
theorem R_lt {S : w_S} (hz : R_z S) {s i : Nat} (hs : s < 8) (hi : (i : Int) < S.1 s) : i < w_mx s := by have := hz s hs; omega
theorem R_setT {V : Nat → v_D} {S : w_S} {N : n_S} {a : Int} {s i : Nat} {x t : w_T} (hR : R_S V S N a) (hz : R_z S) (hs : 1 ≤ s ∧ s < 7) (hi : (i : Int) < S.1 s) (h1 : t.1 1 = (N.2.1 (80 * s + i)).1 1 ∧ x.1 1 = (w_t S s i).1 1 ∧ x.1 11 = (w_t S s i).1 11) (hp : s = 1 → R_p i x t) (ht : 2 ≤ s → R_t S.2.2.2 s x t) : R_S V (w_setT S (w_F s + i) x) (n_setT N (80 * s + i) t) a := by
  obtain ⟨a1, a2, a3, a4, a5, a6, a7, a8, a9, b1, b2, b3, b4⟩ := hR
  have hi80 := R_mx hz hs.2 hi
  have him := R_lt hz (show s < 8 by omega) hi
  have wt : ∀ r j : Nat, 1 ≤ r → r < 8 → (j : Int) < S.1 r → w_t (w_setT S (w_F s + i) x) r j = if r = s ∧ j = i then x else w_t S r j := fun r j r1 r8 hj => w_t_set ⟨hs.1, by omega⟩ ⟨r1, r8⟩ him (R_lt hz r8 hj)
  have nt : ∀ r j : Nat, r < 7 → j < 80 → (n_setT N (80 * s + i) t).2.1 (80 * r + j) = if r = s ∧ j = i then t else N.2.1 (80 * r + j) := fun r j r7 j80 => by
    show s_fu N.2.1 (80 * s + i) t (80 * r + j) = _
    by_cases c : r = s ∧ j = i
    · rw [if_pos c, c.1, c.2, s_fu_eq]
    · rw [if_neg c, s_fu_ne (by omega)]
  refine ⟨a1, a2, fun j hj => ?_, fun j hj => ?_, fun r j r2 r6 hj => ?_, fun j hj => ?_, fun k hk => ?_, fun k j hk hj => ?_, fun c j hc hj => ?_, fun r j r1 r8 hj => ?_, fun r j r7 hj => ?_, b3, b4⟩
  · have e := nt 0 j (by omega) (R_mx hz (by omega) hj)
    rw [show 80 * 0 + j = j by omega, if_neg (by omega)] at e
    rw [e]
    exact a3 j hj
  · rw [wt 1 j (by omega) (by omega) hj, nt 1 j (by omega) (R_mx hz (by omega) hj)]
    by_cases c : 1 = s ∧ j = i
    · rw [if_pos c, if_pos c, c.2]; exact hp c.1.symm
    · rw [if_neg c, if_neg c]; exact a4 j hj
  · rw [wt r j (by omega) (by omega) hj, nt r j (by omega) (R_mx hz (by omega) hj)]
    by_cases c : r = s ∧ j = i
    · rw [if_pos c, if_pos c, c.1]; exact ht (by omega)
    · rw [if_neg c, if_neg c]; exact a5 r j r2 r6 hj
  · rw [wt 3 j (by omega) (by omega) hj]
    by_cases c : 3 = s ∧ j = i
    · rw [if_pos c, h1.2.2, ← c.1, ← c.2]; exact a6 j hj
    · rw [if_neg c]; exact a6 j hj
  · rw [wt 7 k (by omega) (by omega) hk, if_neg (by omega)]
    exact a7 k hk
  · rw [wt 6 j (by omega) (by omega) hj, wt 7 k (by omega) (by omega) hk, nt 6 j (by omega) (R_mx hz (by omega) hj), if_neg (show ¬ (7 = s ∧ k = i) by omega)]
    have e := a8 k j hk hj
    by_cases c : 6 = s ∧ j = i
    · rw [if_pos c, if_pos c, h1.1, h1.2.1, ← c.1, ← c.2]; exact e
    · rw [if_neg c, if_neg c]; exact e
  · rw [wt 4 j (by omega) (by omega) hj, wt 2 c (by omega) (by omega) hc, nt 4 j (by omega) (R_mx hz (by omega) hj), nt 2 c (by omega) (R_mx hz (by omega) hc)]
    have e := a9 c j hc hj
    by_cases c4 : 4 = s ∧ j = i
    · rw [if_pos c4, if_pos c4, if_neg (show ¬ (2 = s ∧ c = i) by omega), if_neg (show ¬ (2 = s ∧ c = i) by omega), h1.1, h1.2.1, ← c4.1, ← c4.2]; exact e
    · rw [if_neg c4, if_neg c4]
      by_cases c2 : 2 = s ∧ c = i
      · rw [if_pos c2, if_pos c2, h1.1, h1.2.1, ← c2.1, ← c2.2]; exact e
      · rw [if_neg c2, if_neg c2]; exact e
  · rw [wt r j r1 r8 hj]
    by_cases c : r = s ∧ j = i
    · rw [if_pos c, h1.2.1]; exact b1 s i hs.1 (by omega) hi
    · rw [if_neg c]; exact b1 r j r1 r8 hj
  · rw [nt r j r7 (R_mx hz r7 hj)]
    by_cases c : r = s ∧ j = i
    · rw [if_pos c, h1.1]; exact b2 s i hs.2 hi
    · rw [if_neg c]; exact b2 r j r7 hj
theorem R_setL {V : Nat → v_D} {S : w_S} {N N' : n_S} {a : Int} {l : Nat} {x : w_L} (hR : R_S V S N a) (hz : R_z S) (hl : (l : Int) < S.1 0) (e1 : N'.1 = N.1) (e2 : ∀ t, t ≠ l → N'.2.1 t = N.2.1 t) (e3 : ∀ j, j ≠ l → N'.2.2.1 j = N.2.2.1 j) (e4 : N'.2.2.2 = N.2.2.2) (e5 : (N'.2.1 l).1 1 = (N.2.1 l).1 1) (hx : R_l x (N'.2.1 l) (N'.2.2.1 l)) : R_S V (w_setL S l x) N' a := by
  obtain ⟨a1, a2, a3, a4, a5, a6, a7, a8, a9, b1, b2, b3, b4⟩ := hR
  have hl80 := R_mx hz (show 0 < 7 by omega) hl
  refine ⟨⟨fun s hs => by rw [e1]; exact a1.1 s hs, by rw [e4]; exact a1.2⟩, by rw [e4]; exact a2, fun j hj => ?_, fun j hj => ?_, fun r j r2 r6 hj => ?_, fun j hj => ?_, fun k hk => ?_, fun k j hk hj => ?_, fun c j hc hj => ?_, b1, fun r j r7 hj => ?_, by rw [e4]; exact b3, by rw [e4]; exact b4⟩
  · show R_l (s_fu S.2.1 l x j) _ _
    unfold s_fu
    by_cases c : j = l
    · rw [if_pos c, c]; exact hx
    · rw [if_neg c, e2 j c, e3 j c]; exact a3 j hj
  · rw [e2 _ (by omega)]; exact a4 j hj
  · rw [e2 _ (by omega)]; exact a5 r j r2 r6 hj
  · rw [e4]; exact a6 j hj
  · rw [e4]; exact a7 k hk
  · rw [e2 _ (by omega), e4]; exact a8 k j hk hj
  · rw [e2 _ (by omega), e2 _ (by omega)]; exact a9 c j hc hj
  · rw [e4]
    by_cases c : 80 * r + j = l
    · rw [c, e5]
      have := b2 r j r7 hj
      rw [c] at this; exact this
    · rw [e2 _ c]; exact b2 r j r7 hj
theorem R_ows {V : Nat → v_D} {S : w_S} {N : n_S} {a : Int} {l : Nat} {o : s_Own} (hR : R_S V S N a) (hz : R_z S) (hl : (l : Int) < S.1 0) : R_S V (w_ows S l o) (n_own N l o) a := by
  have aa := hR.2.2.1 l hl
  refine R_setL hR hz hl rfl (fun _ _ => rfl) (fun j hj => s_fu_ne hj) rfl rfl ⟨aa.1, ?_⟩
  show s_fu N.2.2.1 l _ l = _
  rw [s_fu_eq, aa.2]
theorem R_chg {V : Nat → v_D} {S : w_S} {N : n_S} {a : Int} {l : Nat} {r : List Int} (hR : R_S V S N a) (hz : R_z S) (hl : (l : Int) < S.1 0) : R_S V (w_chg S l r) (n_rk N l r) a := by
  have aa := hR.2.2.1 l hl
  refine R_setL hR hz hl rfl (fun _ _ => rfl) (fun j hj => s_fu_ne hj) rfl rfl ⟨aa.1, ?_⟩
  show s_fu N.2.2.1 l _ l = _
  rw [s_fu_eq, aa.2]
theorem R_fgs {V : Nat → v_D} {S : w_S} {N : n_S} {a : Int} {l : Nat} {f : s_Fig} (hR : R_S V S N a) (hz : R_z S) (hl : (l : Int) < S.1 0) : R_S V (w_fgs S l f) (n_fig N l f) a := by
  have aa := hR.2.2.1 l hl
  refine R_setL hR hz hl rfl (fun _ _ => rfl) (fun j hj => s_fu_ne hj) rfl rfl ⟨aa.1, ?_⟩
  show s_fu N.2.2.1 l _ l = _
  rw [s_fu_eq, aa.2]
/-- PRICE -/
theorem R_price {V : Nat → v_D} {S : w_S} {N : n_S} {a : Int} {l : Nat} {v : Int} (hR : R_S V S N a) (hz : R_z S) (hl : (l : Int) < S.1 0) : R_S V (w_lpt S l 2 v) (n_put N l 6 v) a := by
  have aa := hR.2.2.1 l hl
  obtain ⟨⟨b0, b2, b6, b3⟩, b⟩ := aa
  refine R_setL hR hz hl rfl (fun t ht => s_fu_ne ht) (fun _ _ => rfl) rfl (by show (s_fu N.2.1 l _ l).1 1 = _; rw [s_fu_eq]; rfl) ⟨?_, b⟩
  show ((s_fu N.2.1 l _ l).1 0 = _ ∧ (s_fu N.2.1 l _ l).1 2 = _ ∧ (s_fu N.2.1 l _ l).1 6 = _ ∧ (s_fu N.2.1 l _ l).1 3 = _)
  rw [s_fu_eq]
  exact ⟨b0, b2, rfl, b3⟩
/-- a LOT is not there any more -/
theorem R_lgone {V : Nat → v_D} {S : w_S} {N : n_S} {a : Int} {l : Nat} (hR : R_S V S N a) (hz : R_z S) (hl : (l : Int) < S.1 0) : R_S V (w_lpt S l 1 1) (n_put N l 2 1) a := by
  have aa := hR.2.2.1 l hl
  obtain ⟨⟨b0, b2, b6, b3⟩, b⟩ := aa
  refine R_setL hR hz hl rfl (fun t ht => s_fu_ne ht) (fun _ _ => rfl) rfl (by show (s_fu N.2.1 l _ l).1 1 = _; rw [s_fu_eq]; rfl) ⟨?_, b⟩
  show ((s_fu N.2.1 l _ l).1 0 = _ ∧ (s_fu N.2.1 l _ l).1 2 = _ ∧ (s_fu N.2.1 l _ l).1 6 = _ ∧ (s_fu N.2.1 l _ l).1 3 = _)
  rw [s_fu_eq]
  exact ⟨b0, rfl, b6, b3⟩
/-- GUARDIAN -/
theorem R_guard {V : Nat → v_D} {S : w_S} {N : n_S} {a : Int} {p : Nat} {v : Int} (hR : R_S V S N a) (hz : R_z S) (hp : (p : Int) < S.1 1) : R_S V (w_put S (w_F 1 + p) 5 v) (n_put N (80 * 1 + p) 5 v) a := by
  obtain ⟨⟨b0, b2, b3, b4, b5⟩, c1, c2, c3⟩ := hR.2.2.2.1 p hp
  exact R_setT (s := 1) hR hz (by omega) hp ⟨rfl, rfl, rfl⟩ (fun _ => ⟨⟨b0, b2, b3, b4, rfl⟩, c1, c2, c3⟩) (fun h => by omega)
/-- a PERSON is not there any more -/
theorem R_pgone {V : Nat → v_D} {S : w_S} {N : n_S} {a : Int} {p : Nat} (hR : R_S V S N a) (hz : R_z S) (hp : (p : Int) < S.1 1) : R_S V (w_put S (w_F 1 + p) 2 1) (n_put N (80 * 1 + p) 2 1) a := by
  obtain ⟨⟨b0, b2, b3, b4, b5⟩, c1, c2, c3⟩ := hR.2.2.2.1 p hp
  exact R_setT (s := 1) hR hz (by omega) hp ⟨rfl, rfl, rfl⟩ (fun _ => ⟨⟨b0, rfl, b3, b4, b5⟩, c1, c2, c3⟩) (fun h => by omega)
theorem t_thr_gone {t : w_T} {day : Int} (h : t.1 2 = 1) : t_thr t day = false := t_thr_f (fun z => by omega)
/-- what has ended is not there, whatever else it holds -/
theorem R_tend {V : Nat → v_D} {S : w_S} {N : n_S} {a : Int} {s i : Nat} {x t : w_T} (hR : R_S V S N a) (hz : R_z S) (hs : 2 ≤ s ∧ s ≤ 6) (hi : (i : Int) < S.1 s) (h1 : t.1 1 = (N.2.1 (80 * s + i)).1 1 ∧ x.1 1 = (w_t S s i).1 1 ∧ x.1 11 = (w_t S s i).1 11) (h0 : t.1 0 = (N.2.1 (80 * s + i)).1 0 ∧ x.1 0 = (w_t S s i).1 0) (g1 : t_thr t S.2.2.2 = false) (g2 : t_thr x S.2.2.2 = false) : R_S V (w_setT S (w_F s + i) x) (n_setT N (80 * s + i) t) a := by
  have aa := hR.2.2.2.2.1 s i hs.1 hs.2 hi
  exact R_setT hR hz (by omega) hi h1 (fun h => by omega) (fun _ => ⟨by rw [h0.1, h0.2]; exact aa.1, by rw [g1, g2], fun z => by rw [g2] at z; cases z⟩)
/-- a thing's number changed, one that both sides keep alike -/
theorem R_tput {V : Nat → v_D} {S : w_S} {N : n_S} {a : Int} {s i k : Nat} {v : Int} (hR : R_S V S N a) (hz : R_z S) (hs : 2 ≤ s ∧ s ≤ 6) (hi : (i : Int) < S.1 s) (hk : (k = 5 ∧ s ≠ 3) ∨ (k = 6 ∧ (s = 2 ∨ s = 4))) : R_S V (w_put S (w_F s + i) k v) (n_put N (80 * s + i) k v) a := by
  obtain ⟨b0, b1, b2⟩ := hR.2.2.2.2.1 s i hs.1 hs.2 hi
  refine R_setT hR hz (by omega) hi ⟨s_fu_ne (by omega), s_fu_ne (by omega), s_fu_ne (by omega)⟩ (fun h => by omega) (fun _ => ⟨?_, ?_, fun z => ?_⟩)
  · show s_fu _ k v 0 = s_fu _ k v 0
    rw [s_fu_ne (by omega), s_fu_ne (by omega)]; exact b0
  · have e : ∀ t : w_T, t_thr (s_fu t.1 k v, t.2) S.2.2.2 = t_thr t S.2.2.2 := fun t => by
      unfold t_thr
      show (decide (s_fu t.1 k v 2 = 0) && decide (S.2.2.2 < s_fu t.1 k v 3)) = _
      rw [s_fu_ne (by omega), s_fu_ne (by omega)]
    exact (e _).trans (b1.trans (e _).symm)
  · have e : ∀ t : w_T, t_thr (s_fu t.1 k v, t.2) S.2.2.2 = t_thr t S.2.2.2 := fun t => by
      unfold t_thr
      show (decide (s_fu t.1 k v 2 = 0) && decide (S.2.2.2 < s_fu t.1 k v 3)) = _
      rw [s_fu_ne (by omega), s_fu_ne (by omega)]
    have z2 : t_thr (S.2.2.1 (w_F s + i)) S.2.2.2 = true := (e (S.2.2.1 (w_F s + i))).symm.trans z
    obtain ⟨c1, c2, c3, c4, c5, c6, c7⟩ := b2 z2
    refine ⟨fun h => ?_, fun h => ?_, fun h => ?_, c4, fun h => ?_, fun h => ?_, fun h => ?_⟩
    · show s_fu _ k v 5 = s_fu _ k v 5
      unfold s_fu
      by_cases ck : 5 = k
      · rw [if_pos ck, if_pos ck]
      · rw [if_neg ck, if_neg ck]; exact c1 h
    · show s_fu _ k v 6 = s_fu _ k v 6
      unfold s_fu
      by_cases ck : 6 = k
      · rw [if_pos ck, if_pos ck]
      · rw [if_neg ck, if_neg ck]; exact c2 h
    · refine ⟨?_, (c3 h).2⟩
      show s_fu _ k v 7 = s_fu _ k v 7
      rw [s_fu_ne (by omega), s_fu_ne (by omega)]; exact (c3 h).1
    · show s_fu _ k v 4 = s_fu _ k v 4
      rw [s_fu_ne (by omega), s_fu_ne (by omega)]; exact c5 h
    · show s_fu _ k v 3 = s_fu _ k v 3
      rw [s_fu_ne (by omega), s_fu_ne (by omega)]; exact c6 h
    · show s_fu _ k v 3 = _ ∧ s_fu _ k v 3 = _
      rw [s_fu_ne (by omega), s_fu_ne (by omega)]; exact c7 h
/-- the LOTS that something has -/
theorem R_tlots {V : Nat → v_D} {S : w_S} {N : n_S} {a : Int} {s i : Nat} {r : List Int} (hR : R_S V S N a) (hz : R_z S) (hs : 2 ≤ s ∧ s ≤ 6) (h3 : s ≠ 3) (hi : (i : Int) < S.1 s) : R_S V (w_lts S (w_F s + i) r) (n_on N (80 * s + i) r) a := by
  obtain ⟨b0, b1, b2⟩ := hR.2.2.2.2.1 s i hs.1 hs.2 hi
  refine R_setT hR hz (by omega) hi ⟨rfl, rfl, rfl⟩ (fun h => by omega) (fun _ => ⟨b0, b1, fun z => ?_⟩)
  obtain ⟨c1, c2, c3, c4, c5, c6, c7⟩ := b2 z
  exact ⟨c1, c2, fun h => absurd h h3, fun h => ⟨rfl, (c4 h).2⟩, c5, c6, c7⟩
