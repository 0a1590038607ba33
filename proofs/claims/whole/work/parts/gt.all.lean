/-! what FIGURES need, and that it is enough for SPLIT, JOIN and BORDER -/
def H_on (S : w_S) : Prop := ∀ i : Nat, (i : Int) < S.1 0 → ((S.2.1 i).2.2.2.map (fun q => q.1)).Nodup
def H_nd (S : w_S) : Prop := ∀ s i : Nat, 2 ≤ s → s ≤ 6 → (i : Int) < S.1 s → (s ≠ 2 → (w_t S s i).2.1.Nodup) ∧ (w_t S s i).2.2.Nodup
def H_sv (V : Nat → v_D) (S : w_S) : Prop := ∀ i : Nat, (i : Int) < S.1 3 → (s_pb (V ((w_t S 3 i).1 11).toNat).2.2.2.2 ∧ (w_t S 3 i).1 3 = 1000000) ∧ ((w_t S 3 i).1 2 = 0 → (w_t S 3 i).2.2 ≠ [] ∧ ∀ l ∈ (w_t S 3 i).2.2, g_hold (S.2.1 l.toNat).2.1 (V ((w_t S 3 i).1 11).toNat).2.2.2.2 = true)
def H_all (V : Nat → v_D) (S : w_S) : Prop := H_fig S ∧ H_on S ∧ H_nd S ∧ H_sv V S
theorem H_all_good {V : Nat → v_D} : ∀ S, H_all V S → ∀ l : Nat, (l : Int) < S.1 0 → (w_l S l).1 1 = 0 → g_good (w_l S l).2.1 := fun _ h l hl _ => gt_fig_good (h.1.2.1 l hl).1
theorem H_all_fig {V : Nat → v_D} : G_fig V (H_all V) := by
  intro M S a d x r Q h hm hI hx hD hv hday
  obtain ⟨⟨-, hC, -⟩, ⟨h5, -⟩, -, -, -, -, hF, hon, hnd, hsv⟩ := hI
  have h5g : ∀ i : Nat, (i : Int) < S.1 5 → 0 ≤ (w_t S 5 i).1 5 := fun i hi => (h.2.2.2.2.1.2 5 i (by omega) (by omega) hi).1.2 (by omega) (by omega)
  have hpb3 : ∀ i : Nat, (i : Int) < S.1 3 → s_pb (V ((w_t S 3 i).1 11).toNat).2.2.2.2 := fun i hi => (hsv i hi).1.1
  have hnd' : ∀ s i : Nat, 2 ≤ s → s ≤ 6 → (i : Int) < S.1 s → (w_t S s i).2.1.Nodup ∧ (w_t S s i).2.2.Nodup := fun s i s2 s6 hi => by
    refine ⟨?_, (hnd s i s2 s6 hi).2⟩
    by_cases e : s = 2
    · subst e; exact (hC.1 i hi).1
    · exact (hnd s i s2 s6 hi).1 e
  have h' := R_all_le h (show a ≤ a + 1 by omega)
  exact ⟨fun hk i0 h0 t0 hq => m_split h' hm h5 h5g hpb3 hF hx hD hv hk i0 h0 hq, fun hk i0 i1 h0 h1 t0 t1 hq => m_join h' hm h5g hF hon hnd' (fun i hi t => ((hsv i hi).2 (t_thr_iff.mp t).1).1) hx hD hv hk i0 i1 h0 h1 t0 t1 hq, fun hk i0 i1 h0 h1 t0 t1 hq => m_border h' hpb3 hF hx hD hv i0 i1 h0 h1 t0 t1 hq⟩
