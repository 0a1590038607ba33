/-! the class's World: the DEEDS in their order -/
def v_pos (D : Int → Int) (L : List Int) (d : Int) : Nat → Nat
  | 0 => 0
  | k + 1 => if d < D (L[k]?.getD 0) then v_pos D L d k else k + 1
theorem v_pos_le {D : Int → Int} {L : List Int} {d : Int} : ∀ {n : Nat}, v_pos D L d n ≤ n
  | 0 => Nat.le_refl 0
  | n + 1 => by
    have := v_pos_le (D := D) (L := L) (d := d) (n := n)
    unfold v_pos
    split <;> omega
def v_put (D : Int → Int) (L : List Int) (i : Int) : List Int := r_in L (v_pos D L (D i) L.length) i
def v_ln (D : Int → Int) (F : Nat → Int) (day : Int) : Nat → List Int
  | 0 => []
  | k + 1 => if F k = 0 ∧ D k ≤ day then v_put D (v_ln D F day k) k else v_ln D F day k
theorem v_ln_len {D : Int → Int} {F : Nat → Int} {day : Int} : ∀ {n : Nat}, (v_ln D F day n).length ≤ n
  | 0 => Nat.le_refl 0
  | n + 1 => by
    have := v_ln_len (D := D) (F := F) (day := day) (n := n)
    unfold v_ln
    split
    · unfold v_put; rw [r_in_len]; omega
    · omega
theorem r_in_mem {l : List Int} {k : Nat} {x y : Int} (h : y ∈ r_in l k x) : y = x ∨ y ∈ l := by
  unfold r_in at h
  rcases List.mem_append.mp h with h | h
  · exact Or.inr (List.mem_of_mem_take h)
  · rcases List.mem_cons.mp h with h | h
    · exact Or.inl h
    · exact Or.inr (List.mem_of_mem_drop h)
theorem v_ln_mem {D : Int → Int} {F : Nat → Int} {day y : Int} : ∀ {n : Nat}, y ∈ v_ln D F day n → 0 ≤ y ∧ y < n
  | 0, h => by cases h
  | n + 1, h => by
    unfold v_ln at h
    split at h
    · rcases r_in_mem h with e | e
      · omega
      · have := v_ln_mem e; omega
    · have := v_ln_mem h; omega
def v_f1 (D : Int → Int) (day : Int) (n : Int) (f : Nat → Int) : Nat → Int := fun k => if (k : Int) < n ∧ f k = 0 ∧ day < D k then 20 else f k
/-- the DAY of the DEED that tells an ENTRY -/
def v_day (M : e_M) (w : Nat) : Int → Int := fun e => v_e M 4 (M (w + 26) e.toNat).toNat
theorem k_line {M : e_M} {w : Nat} {Q : e_M → Prop} (hn : 0 ≤ M w 14 ∧ M w 14 ≤ 150) (hw : 24 < w) (h9 : M w 9 = 0) (hd : ∀ i : Nat, (i : Int) < M w 14 → 0 ≤ M 2 i ∧ (M 2 i < w ∨ ((w + 28 : Nat) : Int) < M 2 i)) (hT : ∀ i : Nat, (i : Int) < M w 14 → 0 ≤ M (w + 26) i ∧ M (w + 26) i < M w 14)
    (hq : ∀ M', M' (w + 25) = v_f1 (v_day M w) (M w 12) (M w 14) (M (w + 25)) → s_ar (M' (w + 27)) (M' w 9) = v_ln (v_day M w) (M (w + 25)) (M w 12) (M w 14).toNat → M' w 9 = (((v_ln (v_day M w) (M (w + 25)) (M w 12) (M w 14).toNat).length : Nat) : Int) → (∀ j : Nat, (j : Int) < M' w 9 → M' (w + 28) j = M 2 (M (w + 26) (M' (w + 27) j).toNat).toNat) → (∀ k, k ≠ 9 → M' w k = M w k) → (∀ b, b ≠ w → b ≠ w + 25 → b ≠ w + 27 → b ≠ w + 28 → M' b = M b) → Q M') : WX10_lineUp w 2 M Q := by
  unfold WX10_lineUp VX10_lineUp
  generalize hD : v_day M w = D at *
  have eD : ∀ (N : e_M), (∀ b, b ≠ w → b ≠ w + 25 → b ≠ w + 27 → b ≠ w + 28 → N b = M b) → ∀ e : Nat, (e : Int) < M w 14 → N (M 2 (M (w + 26) e).toNat).toNat 4 = D e := by
    intro N hN e he
    have h1 := hT e he
    have h2 := hd (M (w + 26) e).toNat (by omega)
    rw [hN _ (by omega) (by omega) (by omega) (by omega), ← hD]
    rfl
  refine s_up (P := fun d i N => WX10_lineUp_2 Q d w 2 i N) (n := M w 14) (fun i N => (∀ b, b ≠ w → b ≠ w + 25 → b ≠ w + 27 → b ≠ w + 28 → N b = M b) ∧ (∀ k, k ≠ 9 → N w k = M w k) ∧ N (w + 25) = v_f1 D (M w 12) i (M (w + 25)) ∧ s_ar (N (w + 27)) (N w 9) = v_ln D (M (w + 25)) (M w 12) i.toNat ∧ N w 9 = (v_ln D (M (w + 25)) (M w 12) i.toNat).length ∧ ∀ j : Nat, (j : Int) < N w 9 → N (w + 28) j = M 2 (M (w + 26) (N (w + 27) j).toNat).toNat) hn.1 ⟨fun _ _ _ _ _ => rfl, fun _ _ => rfl, ?_, ?_, ?_, ?_⟩ ?_ ?_
  · funext k; unfold v_f1; rw [if_neg (by omega)]
  · rw [h9]; rfl
  · rw [h9]; rfl
  · intro j hj; omega
  · intro d N ⟨n1, n2, n3, n4, n5, n6⟩
    refine ⟨fun _ => hq N n3 n4 n5 n6 n2 n1, fun z => by rw [n2 14 (by omega)] at z; omega⟩
  · intro d i N k1 k2 ⟨n1, n2, n3, n4, n5, n6⟩ ih
    have r1 : 0 ≤ i ∧ i < 150 := by omega
    have hl := v_ln_len (D := D) (F := M (w + 25)) (day := M w 12) (n := i.toNat)
    have hmem := fun y => v_ln_mem (D := D) (F := M (w + 25)) (day := M w 12) (n := i.toNat) (y := y)
    have eL : v_ln D (M (w + 25)) (M w 12) (i + 1).toNat = if M (w + 25) i.toNat = 0 ∧ D i ≤ M w 12 then v_put D (v_ln D (M (w + 25)) (M w 12) i.toNat) i else v_ln D (M (w + 25)) (M w 12) i.toNat := by
      rw [show (i + 1).toNat = i.toNat + 1 by omega]
      show (if M (w + 25) i.toNat = 0 ∧ D (i.toNat : Nat) ≤ M w 12 then v_put D _ (i.toNat : Nat) else _) = _
      rw [show ((i.toNat : Nat) : Int) = i by omega]
    have e25 : N (w + 25) i.toNat = M (w + 25) i.toNat := by rw [n3]; unfold v_f1; rw [if_neg (by omega)]
    have hTi := hT i.toNat (by omega)
    have e26 : N (w + 26) = M (w + 26) := n1 _ (by omega) (by omega) (by omega) (by omega)
    have e2 : N 2 = M 2 := n1 _ (by omega) (by omega) (by omega) (by omega)
    have hDi := eD N n1 i.toNat (by omega)
    rw [show ((i.toNat : Nat) : Int) = i by omega] at hDi
    have hdi := hd (M (w + 26) i.toNat).toNat (by omega)
    generalize hL : v_ln D (M (w + 25)) (M w 12) i.toNat = L at *
    have go : ∀ N' : e_M, (∀ b, b ≠ w → b ≠ w + 25 → b ≠ w + 27 → b ≠ w + 28 → N' b = M b) → (∀ k, k ≠ 9 → N' w k = M w k) → N' (w + 25) = v_f1 D (M w 12) (i + 1) (M (w + 25)) → s_ar (N' (w + 27)) (N' w 9) = v_ln D (M (w + 25)) (M w 12) (i + 1).toNat → N' w 9 = (v_ln D (M (w + 25)) (M w 12) (i + 1).toNat).length → (∀ j : Nat, (j : Int) < N' w 9 → N' (w + 28) j = M 2 (M (w + 26) (N' (w + 27) j).toNat).toNat) → WX10_lineUp_147 (WX10_lineUp_2 Q d) Q w 2 i N' := by
      intro N' m1 m2 m3 m4 m5 m6
      show WX10_lineUp_2 Q d w 2 (e_w32 (i + 1)) N'
      rw [s_w (by omega) (by omega)]
      exact ih N' ⟨m1, m2, m3, m4, m5, m6⟩
    have f1 : ¬ (M (w + 25) i.toNat = 0 ∧ M w 12 < D i) → v_f1 D (M w 12) i (M (w + 25)) = v_f1 D (M w 12) (i + 1) (M (w + 25)) := by
      intro ne
      funext k
      unfold v_f1
      by_cases c : k = i.toNat
      · rw [if_neg (by omega)]
        rw [if_neg (fun z => ne (by rw [← c]; exact ⟨z.2.1, by rw [show i = (k : Int) by omega]; exact z.2.2⟩))]
      · by_cases c2 : (k : Int) < i ∧ M (w + 25) k = 0 ∧ M w 12 < D k
        · rw [if_pos c2, if_pos ⟨by omega, c2.2⟩]
        · rw [if_neg c2, if_neg (fun z => c2 ⟨by omega, z.2⟩)]
    refine ⟨fun z => by rw [n2 14 (by omega)] at z; omega, fun _ => ⟨r1, ?_⟩⟩
    rw [e25, e26, e2]
    refine ⟨fun f0 => ⟨r1, by omega, ?_⟩, fun nf => go N n1 n2 (by rw [n3]; exact f1 (fun z => nf z.1)) (by rw [eL, if_neg (fun z => nf z.1)]; exact n4) (by rw [eL, if_neg (fun z => nf z.1)]; exact n5) n6⟩
    rw [hDi, n2 12 (by omega)]
    refine ⟨fun le => ?_, fun lt => ⟨r1, fun M1 q1 => ?_⟩⟩
    · rw [if_pos ⟨f0, le⟩] at eL
      have f1' := f1 (fun z => by omega)
      -- into its place
      have key : ∀ (p : Nat) (A : e_M), p ≤ L.length → v_pos D L (D i) L.length = v_pos D L (D i) p → (∀ b, b ≠ w + 27 → b ≠ w + 28 → A b = N b) → (∀ j : Nat, j < p → A (w + 27) j = N (w + 27) j ∧ A (w + 28) j = N (w + 28) j) → (∀ j : Nat, p < j → j ≤ L.length → A (w + 27) j = N (w + 27) (j - 1) ∧ A (w + 28) j = N (w + 28) (j - 1)) → WX10_lineUp_59 (WX10_lineUp_2 Q d) Q (p + 1) w 2 i (M 2 (M (w + 26) i.toNat).toNat).toNat p A := by
        have stop : ∀ (p : Nat) (A : e_M), p ≤ L.length → v_pos D L (D i) L.length = p → (∀ b, b ≠ w + 27 → b ≠ w + 28 → A b = N b) → (∀ j : Nat, j < p → A (w + 27) j = N (w + 27) j ∧ A (w + 28) j = N (w + 28) j) → (∀ j : Nat, p < j → j ≤ L.length → A (w + 27) j = N (w + 27) (j - 1) ∧ A (w + 28) j = N (w + 28) (j - 1)) → WX10_lineUp_121 (WX10_lineUp_2 Q d) Q w 2 i (M 2 (M (w + 26) i.toNat).toNat).toNat p A := by
          intro p A a1 a2 a3 a4 a5
          have rp : 0 ≤ (p : Int) ∧ (p : Int) < 150 := by omega
          refine ⟨rp, fun M1 q1 => ⟨rp, fun M2 q2 => fun M3 q3 => ?_⟩⟩
          have ep : ((p : Nat) : Int).toNat = p := by omega
          rw [ep] at q1 q2
          have ew : ∀ k, M2 w k = N w k := fun k => by rw [q2, e_up_row (by omega), q1, e_up_row (by omega), a3 _ (by omega) (by omega)]
          rw [ew 9, s_w (by omega) (by omega)] at q3
          have t9 : M3 w 9 = N w 9 + 1 := by rw [q3, e_up_eq]
          have t27 : ∀ j, M3 (w + 27) j = if j = p then i else A (w + 27) j := fun j => by rw [q3, e_up_row (by omega), q2, e_up_at, q1, e_up_row (by omega)]
          have t28 : ∀ j, M3 (w + 28) j = if j = p then ((M 2 (M (w + 26) i.toNat).toNat).toNat : Int) else A (w + 28) j := fun j => by rw [q3, e_up_row (by omega), q2, e_up_row (by omega), q1, e_up_at]
          refine go M3 (fun b b0 b25 b27 b28 => by rw [q3, e_up_row b0, q2, e_up_row b27, q1, e_up_row b28, a3 b b27 b28, n1 b b0 b25 b27 b28]) (fun k hk => by rw [q3, e_up_ne (fun z => hk z.2), ew, n2 k hk]) ?_ ?_ ?_ ?_
          · rw [q3, e_up_row (by omega), q2, e_up_row (by omega), q1, e_up_row (by omega), a3 _ (by omega) (by omega), n3, f1']
          · rw [eL, t9]
            unfold v_put
            rw [a2]
            refine s_ar_ext (by rw [r_in_len]; omega) (fun j hj => ?_)
            rw [r_in_get a1, t27, ← n4]
            by_cases c1 : j < p
            · rw [if_pos c1, if_neg (by omega), s_ar_get (by omega), (a4 j c1).1]
            · rw [if_neg c1]
              by_cases c2 : j = p
              · rw [if_pos c2, if_pos c2]
              · rw [if_neg c2, if_neg c2, s_ar_get (by omega), (a5 j (by omega) (by omega)).1]
          · rw [eL, t9]
            unfold v_put
            rw [r_in_len]; omega
          · intro j hj
            rw [t27, t28]
            by_cases c1 : j = p
            · rw [if_pos c1, if_pos c1]; omega
            · rw [if_neg c1, if_neg c1]
              by_cases c2 : j < p
              · rw [(a4 j c2).1, (a4 j c2).2]; exact n6 j (by omega)
              · rw [(a5 j (by omega) (by omega)).1, (a5 j (by omega) (by omega)).2]; exact n6 (j - 1) (by omega)
        intro p
        induction p with
        | zero =>
          intro A a1 a2 a3 a4 a5
          exact ⟨fun _ => stop 0 A a1 a2 a3 a4 a5, fun z => by omega⟩
        | succ p ihp =>
          intro A a1 a2 a3 a4 a5
          have epp : e_w32 (((p + 1 : Nat) : Int) - 1) = (p : Int) := by rw [s_w (by omega) (by omega)]; omega
          have epm : e_w32 (((p + 1 : Nat) : Int) + -1) = (p : Int) := by rw [s_w (by omega) (by omega)]; omega
          have rp : 0 ≤ (p : Int) ∧ (p : Int) < 150 := by omega
          have rp1 : 0 ≤ ((p + 1 : Nat) : Int) ∧ ((p + 1 : Nat) : Int) < 150 := by omega
          refine ⟨fun z => by omega, fun _ => ?_⟩
          rw [epp, epm, show ((p : Nat) : Int).toNat = p by omega, show (((p + 1 : Nat)) : Int).toNat = p + 1 by omega]
          have hg : L[p]? = some (N (w + 27) p) := by rw [← n4]; exact s_ar_get (by omega)
          have hm := hmem _ (List.mem_of_getElem? hg)
          have aA : ∀ b, b ≠ w → b ≠ w + 25 → b ≠ w + 27 → b ≠ w + 28 → A b = M b := fun b b0 b25 b27 b28 => by rw [a3 b b27 b28, n1 b b0 b25 b27 b28]
          have hx := eD A aA (N (w + 27) p).toNat (by omega)
          rw [show (((N (w + 27) p).toNat : Nat) : Int) = N (w + 27) p by omega] at hx
          have hy := eD A aA i.toNat (by omega)
          rw [show ((i.toNat : Nat) : Int) = i by omega] at hy
          have h28 := n6 p (by omega)
          have hTp := hT (N (w + 27) p).toNat (by omega)
          have hdp := hd (M (w + 26) (N (w + 27) p).toNat).toNat (by omega)
          refine ⟨rp, ?_⟩
          rw [(a4 p (by omega)).2, h28, hx, hy]
          replace a2 : v_pos D L (D i) L.length = if D i < D (L[p]?.getD 0) then v_pos D L (D i) p else p + 1 := a2
          rw [hg] at a2
          dsimp only [Option.getD_some] at a2
          refine ⟨fun le2 => ?_, fun lt => ⟨rp, rp1, fun M1 q1 => ⟨rp, rp1, fun M2 q2 => ?_⟩⟩⟩
          · rw [if_neg (by omega)] at a2
            exact stop (p + 1) A a1 a2 a3 a4 a5
          · rw [if_pos lt] at a2
            have u27 : ∀ j, M2 (w + 27) j = if j = p + 1 then A (w + 27) p else A (w + 27) j := fun j => by rw [q2, e_up_at, q1, e_up_row (by omega)]
            have u28 : ∀ j, M2 (w + 28) j = if j = p + 1 then ((M 2 (M (w + 26) (N (w + 27) p).toNat).toNat).toNat : Int) else A (w + 28) j := fun j => by rw [q2, e_up_row (by omega), q1, e_up_at]
            refine ihp M2 (by omega) a2 (fun b b27 b28 => by rw [q2, e_up_row b27, q1, e_up_row b28, a3 b b27 b28]) (fun j hj => ?_) (fun j hj1 hj2 => ?_)
            · rw [u27, u28, if_neg (by omega), if_neg (by omega)]; exact a4 j (by omega)
            · rw [u27, u28]
              by_cases c : j = p + 1
              · rw [if_pos c, if_pos c, c]
                exact ⟨(a4 p (by omega)).1, by rw [show p + 1 - 1 = p by omega, h28]; omega⟩
              · rw [if_neg c, if_neg c]; exact a5 j (by omega) hj2
      have := key L.length N (Nat.le_refl _) rfl (fun _ _ _ => rfl) (fun j _ => ⟨rfl, rfl⟩) (fun j h1 h2 => by omega)
      rw [n5]
      exact ⟨_, this⟩
    · refine go M1 (fun b b0 b25 b27 b28 => by rw [q1, e_up_row b25, n1 b b0 b25 b27 b28]) (fun k hk => by rw [q1, e_up_row (by omega), n2 k hk]) ?_ ?_ ?_ ?_
      · rw [q1, s_fu_up, n3]
        funext k
        unfold s_fu v_f1
        by_cases c : k = i.toNat
        · rw [if_pos c, if_pos ⟨by omega, by rw [c]; exact f0, by rw [show (k : Int) = i by omega]; exact lt⟩]
        · rw [if_neg c]
          by_cases c2 : (k : Int) < i ∧ M (w + 25) k = 0 ∧ M w 12 < D k
          · rw [if_pos c2, if_pos ⟨by omega, c2.2⟩]
          · rw [if_neg c2, if_neg (fun z => c2 ⟨by omega, z.2⟩)]
      · rw [eL, if_neg (by omega), q1, e_up_row (by omega), e_up_row (by omega)]; exact n4
      · rw [eL, if_neg (by omega), q1, e_up_row (by omega)]; exact n5
      · intro j hj
        rw [q1, e_up_row (by omega)] at hj
        rw [q1, e_up_row (by omega), e_up_row (by omega)]
        exact n6 j hj
