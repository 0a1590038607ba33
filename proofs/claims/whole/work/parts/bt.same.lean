/-! two runs over the same DEEDS -/
theorem E_run {V : Nat → v_D} {U : Nat → Prop} {I : Int → w_S → Prop} (hI : ∀ a S, I a S → R_z S ∧ w_rg S ∧ w_un S ∧ ∀ k : Nat, (k : Int) < S.1 7 → 0 ≤ r_get (w_t S 7 k).2.1 0 ∧ r_get (w_t S 7 k).2.1 0 < S.1 0) (hst : ∀ a S d X, I a S → U d → v_ok (V d) → S.2.2.2 ≤ (V d).1 4 → X_perf V S d a X → I (a + 1) X.2) : ∀ (ds : List (Nat × Nat)) {a : Int} {S T S' T' : w_S} {F F1 F2 : Nat → Int} {c c1 c2 : Int}, (∀ q ∈ ds, U q.1 ∧ v_ok (V q.1) ∧ (((V q.1).2.2.2.1).length : Int) = (V q.1).1 15) → (S.2.2.2 :: ds.map (fun q => (V q.1).1 4)).Pairwise (· ≤ ·) → E_S S T → I a S → v_run V ds a S F c S' F1 c1 → v_run V ds a T F c T' F2 c2 → E_S S' T' ∧ F1 = F2 ∧ c1 = c2
  | [], a, S, T, S', T', F, F1, F2, c, c1, c2, _, _, h, _, ⟨r1, r2, r3⟩, ⟨s1, s2, s3⟩ => ⟨by rw [r1, s1]; exact h, by rw [r2, s2], by rw [r3, s3]⟩
  | q :: ds, a, S, T, S', T', F, F1, F2, c, c1, c2, hv, hs, h, hi, ⟨X, x1, x2⟩, ⟨Y, y1, y2⟩ => by
    obtain ⟨i1, i2, i3, i4⟩ := hI a S hi
    obtain ⟨v0, v1, v2⟩ := hv q (List.mem_cons_self ..)
    rw [List.map_cons, List.pairwise_cons] at hs
    have le : S.2.2.2 ≤ (V q.1).1 4 := hs.1 _ (List.mem_cons_self ..)
    obtain ⟨e1, e2⟩ := E_perf h i1 i2 i3 v1 v2 i4 x1 y1
    rw [← e1] at y2
    refine E_run hI hst ds (fun p hp => hv p (List.mem_cons_of_mem _ hp)) ?_ e2 (hst a S q.1 X hi v0 v1 le x1) x2 y2
    rw [X_perf_d x1]
    exact hs.2
