/-! THE MODEL: has a FIGURE one of a SERVE's POINTS; is a row too long -/
theorem g_lie_le {F : s_Fig} {px py sc : Int} (h : g_lie F px py sc ≤ 0) : g_lie F px py sc = 0 := by
  unfold g_lie at h ⊢
  split at h
  · omega
  · next c =>
    rw [if_neg c]
    split at h
    · next c2 => rw [if_pos c2]
    · omega
theorem m_hasPoint {M : e_M} {v f n : Nat} {v' f' n' : Int} {F ps : s_Fig} {Q : Int → Prop} (ev : v' = (v : Int)) (ef : f' = (f : Int)) (en : n' = (n : Int)) (hv : v < 80) (hf : f + n ≤ 4800) (eF : j_fg M f n = F) (hF : gt_fig F) (fb : s_fb F) (ep : n_pt M v = ps) (hpb : s_pb ps) (hn : 0 ≤ M 4503 v ∧ M 4503 v ≤ 12) (q1 : g_hold F ps = true → Q 1) (q0 : g_hold F ps = false → Q 0) : WX12_hasPoint v' f' n' M Q := by
  subst ev ef en
  have hb : j_fgb M f n := j_fgb_e (by rw [eF]; exact fb)
  have pt : ∀ k : Nat, (k : Int) < M 4503 v → (M 4504 (12 * v + k), M 4505 (12 * v + k)) ∈ ps := fun k hk => by
    rw [← ep]; unfold n_pt; exact s_ar_mem.mpr ⟨k, by omega, rfl⟩
  unfold WX12_hasPoint VX12_hasPoint
  refine s_up (σ := Unit) (P := fun dd i _ => WX12_hasPoint_3 M Q dd v f n i) (n := M 4503 v) (i0 := 0) (s := ()) (fun i _ => ∀ k : Nat, (k : Int) < i → g_where F (M 4504 (12 * v + k)) (M 4505 (12 * v + k)) 1 = 0) hn.1 (fun k hk => by omega) ?_ ?_
  · intro d2 _ hI
    unfold WX12_hasPoint_3 VX12_hasPoint_3
    rw [show ((v : Nat) : Int).toNat = v by omega]
    refine ⟨by omega, fun _ => q0 ?_, fun z => by omega⟩
    cases e : g_hold F ps with
    | false => rfl
    | true =>
      unfold g_hold at e
      obtain ⟨q, hq, e2⟩ := List.any_eq_true.mp e
      rw [← ep] at hq
      unfold n_pt at hq
      obtain ⟨k, hk, e3⟩ := s_ar_mem.mp hq
      rw [← e3] at e2
      exact absurd (hI k (by omega)) (of_decide_eq_true e2)
  · intro d2 i _ k1 k2 hI ih
    obtain ⟨k, ek⟩ : ∃ k : Nat, i = k := ⟨i.toNat, by omega⟩
    subst ek
    have mk := pt k k2
    have bb := hpb _ mk
    dsimp only at bb
    unfold WX12_hasPoint_3 VX12_hasPoint_3
    rw [show ((v : Nat) : Int).toNat = v by omega, s_w (x := 12 * (v : Int)) (by omega) (by omega), s_w (x := 12 * (v : Int) + (k : Int)) (by omega) (by omega), show (12 * (v : Int) + (k : Int)).toNat = 12 * v + k by omega, s_w (x := (k : Int) + 1) (by omega) (by omega)]
    refine ⟨by omega, fun z => by omega, fun _ => ⟨by omega, by omega, m_lieAt rfl rfl hf hb (by omega) (by omega) (Or.inl rfl) ⟨fun le => ih () (fun j hj => ?_), fun lt => q1 ?_⟩⟩⟩
    · by_cases c : j = k
      · subst c
        rw [eF] at le
        exact (g_hit (gt_fig_good hF)).mp (g_lie_le le)
      · exact hI j (by omega)
    · rw [eF] at lt
      unfold g_hold
      exact List.any_eq_true.mpr ⟨_, mk, decide_eq_true (fun z => by
        have z : g_where F (M 4504 (12 * v + k)) (M 4505 (12 * v + k)) 1 = 0 := z
        have := (g_hit (gt_fig_good hF)).mpr z
        omega)⟩
/-- too long at one thing -/
def tm_at (P : Nat → s_Fig) (S : w_S) (old : Int) (L R : s_Fig) (s i : Nat) : Prop := w_thr S s i = true ∧ ((8 ≤ (w_t S s i).2.1.length ∧ old ∈ (w_t S s i).2.1) ∨ (8 ≤ (w_t S s i).2.2.length ∧ old ∈ (w_t S s i).2.2 ∧ g_hold L (P ((w_t S s i).1 11).toNat) = true ∧ g_hold R (P ((w_t S s i).1 11).toNat) = true))
theorem tm_iff {P : Nat → s_Fig} {S : w_S} {old : Int} {L R : s_Fig} : w_tm P S old L R ↔ ∃ s i : Nat, 2 ≤ s ∧ s ≤ 6 ∧ (i : Int) < w_z S s ∧ tm_at P S old L R s i := Iff.rfl
theorem w_thr_t {S : w_S} {s i : Nat} (h : s ≠ 0) : w_thr S s i = t_thr (w_t S s i) S.2.2.2 := by
  unfold w_thr; rw [if_neg h]; rfl
theorem m_tooLong {M : e_M} {V : Nat → v_D} {S : w_S} {a : Int} {l nl nr : Nat} {l' : Int} {L R : s_Fig} {Q : Int → Prop} (el : l' = (l : Int)) (h : R_all M V S a) (h5 : ∀ i : Nat, (i : Int) < S.1 5 → w_thr S 5 i = true → (w_t S 5 i).2.1.length = 1) (hpb : ∀ i : Nat, (i : Int) < S.1 3 → s_pb (V ((w_t S 3 i).1 11).toNat).2.2.2.2) (e2 : M 4456 42 = (nl : Int)) (e3 : M 4456 43 = (nr : Int)) (l40 : nl ≤ 400) (r40 : nr ≤ 400) (eL : j_fg M 3600 nl = L) (eR : j_fg M 4000 nr = R) (gL : gt_fig L) (gR : gt_fig R) (bL : s_fb L) (bR : s_fb R) (q1 : w_tm (fun a => (V a).2.2.2.2) S l L R → Q 1) (q0 : ¬ w_tm (fun a => (V a).2.2.2.2) S l L R → Q 0) : WX12_tooLong l' M Q := by
  subst el
  obtain ⟨hn, hc, hR, hz, hg, hd⟩ := id h
  have day : M 4456 86 = S.2.2.2 := R_day hR
  generalize hP : (fun a => (V a).2.2.2.2) = P at *
  have z80 : ∀ s, s < 7 → 0 ≤ S.1 s ∧ S.1 s ≤ 80 := fun s hs => by
    have := hz s (by omega)
    have : w_mx s ≤ 80 := by unfold w_mx; (repeat' split) <;> omega
    omega
  unfold WX12_tooLong VX12_tooLong
  refine s_up (σ := Int) (P := fun dd s fl => WX12_tooLong_4 M Q dd l fl s) (n := 7) (i0 := 2) (s := 0) (fun s fl => (fl = 0 ∨ fl = 1) ∧ (fl = 1 → w_tm P S l L R) ∧ (fl = 0 → ∀ s' i : Nat, 2 ≤ s' → (s' : Int) < s → (i : Int) < S.1 s' → ¬ tm_at P S l L R s' i)) (by omega) ⟨Or.inl rfl, fun z => by omega, fun _ s' i k1 k2 => by omega⟩ ?_ ?_
  · intro d2 fl ⟨i1, i2, i3⟩
    unfold WX12_tooLong_4 VX12_tooLong_4
    refine ⟨fun _ => ⟨i1, ?_⟩, fun z => by omega⟩
    rcases i1 with z | z
    · rw [z]
      refine q0 (fun ⟨s', i, k1, k2, k3, k4⟩ => i3 z s' i k1 (by omega) k3 k4)
    · rw [z]; exact q1 (i2 z)
  · intro d2 s0 fl s1 s2 ⟨i1, i2, i3⟩ ihs
    obtain ⟨s, es⟩ : ∃ s : Nat, s0 = s := ⟨s0.toNat, by omega⟩
    subst es
    have es : M 4483 s = S.1 s := R_many hR (by omega)
    have ms := z80 s (by omega)
    unfold WX12_tooLong_4 VX12_tooLong_4
    refine ⟨fun z => by omega, fun _ => ?_⟩
    refine s_up (σ := Int) (P := fun dd i fl => WX12_tooLong_13 M (WX12_tooLong_4 M Q d2) Q dd l fl s i) (n := M 4483 s) (i0 := 0) (s := fl) (fun i fl => (fl = 0 ∨ fl = 1) ∧ (fl = 1 → w_tm P S l L R) ∧ (fl = 0 → (∀ s' i : Nat, 2 ≤ s' → (s' : Int) < s → (i : Int) < S.1 s' → ¬ tm_at P S l L R s' i) ∧ ∀ k : Nat, (k : Int) < i → ¬ tm_at P S l L R s k)) (by omega) ⟨i1, i2, fun z => ⟨i3 z, fun k hk => by omega⟩⟩ ?_ ?_
    · intro d3 fl ⟨j1, j2, j3⟩
      unfold WX12_tooLong_13 VX12_tooLong_13
      rw [show ((s : Nat) : Int).toNat = s by omega]
      refine ⟨by omega, fun _ => ?_, fun z => by omega⟩
      rw [s_w (x := (s : Int) + 1) (by omega) (by omega)]
      refine ihs fl ⟨j1, j2, fun z s' i k1 k2 k3 => ?_⟩
      by_cases c : s' = s
      · subst c; exact (j3 z).2 i (by omega)
      · exact (j3 z).1 s' i k1 (by omega) k3
    · intro d3 i0 fl k1 k2 ⟨j1, j2, j3⟩ ihi
      obtain ⟨i, ei⟩ : ∃ i : Nat, i0 = i := ⟨i0.toNat, by omega⟩
      subst ei
      have i80 : i < 80 := by omega
      have hi : (i : Int) < S.1 s := by omega
      have rt := hR.2.2.2.2.1 s i (by omega) (by omega) hi
      have n162 : ∀ fl', (fl' = 0 ∨ fl' = 1) → (fl' = 1 → w_tm P S l L R) → (fl' = 0 → fl = 0 ∧ ¬ tm_at P S l L R s i) → WX12_tooLong_162 M (WX12_tooLong_4 M Q d2) (WX12_tooLong_13 M (WX12_tooLong_4 M Q d2) Q d3) Q l fl' s i := fun fl' w1 w2 w3 => by
        unfold WX12_tooLong_162 VX12_tooLong_162
        rw [s_w (x := (i : Int) + 1) (by omega) (by omega)]
        refine ihi fl' ⟨w1, w2, fun z => ⟨(j3 (w3 z).1).1, fun k hk => ?_⟩⟩
        by_cases c : k = i
        · rw [c]; exact (w3 z).2
        · exact (j3 (w3 z).1).2 k (by omega)
      have same : ¬ tm_at P S l L R s i → WX12_tooLong_162 M (WX12_tooLong_4 M Q d2) (WX12_tooLong_13 M (WX12_tooLong_4 M Q d2) Q d3) Q l fl s i := fun nt => n162 fl j1 j2 (fun z => ⟨z, nt⟩)
      have yes : w_tm P S l L R → WX12_tooLong_156 M (WX12_tooLong_4 M Q d2) (WX12_tooLong_13 M (WX12_tooLong_4 M Q d2) Q d3) Q l s i := fun y => by
        unfold WX12_tooLong_156 VX12_tooLong_156 WX12_tooLong_161 VX12_tooLong_161
        exact n162 1 (Or.inr rfl) (fun _ => y) (fun z => by omega)
      have no : fl = 0 → ¬ tm_at P S l L R s i → WX12_tooLong_160 M (WX12_tooLong_4 M Q d2) (WX12_tooLong_13 M (WX12_tooLong_4 M Q d2) Q d3) Q l s i := fun y nt => by
        unfold WX12_tooLong_160 VX12_tooLong_160 WX12_tooLong_161 VX12_tooLong_161
        exact n162 0 (Or.inl rfl) (fun z => by omega) (fun _ => ⟨y, nt⟩)
      have is : tm_at P S l L R s i → w_tm P S l L R := fun y => ⟨s, i, by omega, by omega, hi, y⟩
      obtain ⟨r1, r2⟩ := n_r (M := M) (t := 80 * s + i) (by omega)
      have ok := hn.2.1 (80 * s + i) (by omega)
      have tt : (80 * (s : Int) + (i : Int)) = ((80 * s + i : Nat) : Int) := by omega
      have tn : ((80 * s + i : Nat) : Int).toNat = 80 * s + i := by omega
      have ln1 : ((n_of M).2.1 (80 * s + i)).2.1.length = (M 4492 (80 * s + i)).toNat := by rw [← r1]; unfold j_row; rw [s_ar_len]
      have ln2 : ((n_of M).2.1 (80 * s + i)).2.2.length = (M 4494 (80 * s + i)).toNat := by rw [← r2]; unfold j_row; rw [s_ar_len]
      unfold WX12_tooLong_13 VX12_tooLong_13
      rw [show ((s : Nat) : Int).toNat = s by omega, day]
      refine ⟨by omega, fun z => by omega, fun _ => m_id (by omega) (by omega) ⟨fun e5 => same ?_, fun n5 => m_isThere (by omega) i80 (fun t => ⟨fun _ => ?_, fun z => by omega⟩) (fun t => ⟨fun z => absurd rfl z, fun _ => same ?_⟩)⟩⟩
      · have e5 : s = 5 := by omega
        subst e5
        rintro ⟨t, y⟩
        have b5 := h5 i hi t
        have rb := R_rows hR (show 2 ≤ 5 ∧ 5 ≤ 6 by omega) hi t
        have e22 := (rb.2.2.2.1 (by omega)).2.2
        rcases y with y | y
        · omega
        · rw [e22] at y
          have := y.1
          rw [List.length_nil] at this
          omega
      · have tx : w_thr S s i = true := by rw [w_thr_t (by omega), ← rt.2.1]; exact t
        have rb := R_rows hR (show 2 ≤ s ∧ s ≤ 6 by omega) hi tx
        have jk := ok.1
        have jk2 := ok.2
        unfold j_ok at jk jk2
        -- what the two rows say
        have k129 : fl = 0 → (¬ (s = 3 ∧ (l : Int) ∈ ((n_of M).2.1 (80 * s + i)).2.2 ∧ M 4494 (80 * s + i) = 8) → ¬ tm_at P S l L R s i) → WX12_tooLong_129 M (WX12_tooLong_4 M Q d2) (WX12_tooLong_13 M (WX12_tooLong_4 M Q d2) Q d3) Q l s i (80 * (s : Int) + (i : Int)) := fun f0 nt => by
          unfold WX12_tooLong_129 VX12_tooLong_129
          refine ⟨fun n3 => no f0 (nt (fun c => n3 (by omega))), fun e3 => ?_⟩
          rw [tt]
          refine m_placeOf (t := ((80 * s + i : Nat) : Int)) (by omega) (by rw [tn]; exact ok.2) ?_
          rw [tn, r2]
          refine ⟨fun lt => no f0 (nt (fun c => ?_)), fun ge => ⟨by omega, fun n8 => no f0 (nt (fun c => n8 c.2.2)), fun e8 => yes (is ⟨tx, Or.inl ?_⟩)⟩⟩
          · have := r_find_mem.mpr c.2.1; omega
          · have s3 : s = 3 := by omega
            have rr := (rb.2.2.1 s3).2.2
            rw [← rr, ln2]
            exact ⟨by omega, r_find_mem.mp ge⟩
        have k96 : ∀ xs0 : Int, (xs0 = 0 → s = 3 ∧ ¬ (g_hold L (P ((w_t S s i).1 11).toNat) = true ∧ g_hold R (P ((w_t S s i).1 11).toNat) = true)) → (xs0 ≠ 0 → s = 3 → (g_hold L (P ((w_t S s i).1 11).toNat) = true ∧ g_hold R (P ((w_t S s i).1 11).toNat) = true)) → WX12_tooLong_96 M (WX12_tooLong_4 M Q d2) (WX12_tooLong_13 M (WX12_tooLong_4 M Q d2) Q d3) Q l fl s i (80 * (s : Int) + (i : Int)) xs0 := fun xs0 h0 h1 => by
          unfold WX12_tooLong_96 VX12_tooLong_96
          refine ⟨fun ne => yes (j2 (by omega)), fun e0 => ⟨fun x0 => k129 e0 (fun c y => ?_), fun x1 => ?_⟩⟩
          · obtain ⟨s3, nh⟩ := h0 x0
            have rr := (rb.2.2.1 s3).2.2
            rcases y.2 with y | y
            · refine c ⟨s3, by rw [rr]; exact y.2, ?_⟩
              rw [← rr, ln2] at y
              omega
            · exact nh ⟨y.2.2.1, y.2.2.2⟩
          · rw [tt]
            refine m_placeOn (t := ((80 * s + i : Nat) : Int)) (by omega) (by rw [tn]; exact ok.1) ?_
            rw [tn, r1, ← tt]
            -- of the row that both know, and the SERVE's other one
            have last : ¬ ((l : Int) ∈ ((n_of M).2.1 (80 * s + i)).2.1 ∧ M 4492 (80 * s + i) = 8) → ¬ (s = 3 ∧ (l : Int) ∈ ((n_of M).2.1 (80 * s + i)).2.2 ∧ M 4494 (80 * s + i) = 8) → ¬ tm_at P S l L R s i := fun c1 c2 y => by
              by_cases s3 : s = 3
              · obtain ⟨-, ra, rr⟩ := rb.2.2.1 s3
                rcases y.2 with y | y
                · refine c2 ⟨s3, by rw [rr]; exact y.2, ?_⟩
                  rw [← rr, ln2] at y
                  omega
                · refine c1 ⟨by rw [ra]; exact y.2.1, ?_⟩
                  rw [← ra, ln1] at y
                  omega
              · obtain ⟨ra, -, rr⟩ := rb.2.2.2.1 s3
                rcases y.2 with y | y
                · refine c1 ⟨by rw [ra]; exact y.2, ?_⟩
                  rw [← ra, ln1] at y
                  omega
                · rw [rr] at y
                  have := y.1
                  rw [List.length_nil] at this
                  omega
            refine ⟨fun lt => k129 e0 (last (fun c => ?_)), fun ge => ⟨by omega, fun e8 => yes (is ?_), fun n8 => k129 e0 (last (fun c => n8 ?_))⟩⟩
            · have := r_find_mem.mpr c.1; omega
            · by_cases s3 : s = 3
              · obtain ⟨-, ra, rr⟩ := rb.2.2.1 s3
                refine ⟨tx, Or.inr ?_⟩
                rw [← ra, ln1]
                exact ⟨by omega, r_find_mem.mp ge, h1 x1 s3⟩
              · obtain ⟨ra, -, rr⟩ := rb.2.2.2.1 s3
                refine ⟨tx, Or.inl ?_⟩
                rw [← ra, ln1]
                exact ⟨by omega, r_find_mem.mp ge⟩
            · exact c.2
        have k91 : (s = 3 → (g_hold L (P ((w_t S s i).1 11).toNat) = true ∧ g_hold R (P ((w_t S s i).1 11).toNat) = true)) → WX12_tooLong_91 M (WX12_tooLong_4 M Q d2) (WX12_tooLong_13 M (WX12_tooLong_4 M Q d2) Q d3) Q l fl s i (80 * (s : Int) + (i : Int)) := fun hh => by
          unfold WX12_tooLong_91 VX12_tooLong_91
          exact k96 1 (fun z => by omega) (fun _ => hh)
        have k95 : s = 3 → ¬ (g_hold L (P ((w_t S s i).1 11).toNat) = true ∧ g_hold R (P ((w_t S s i).1 11).toNat) = true) → WX12_tooLong_95 M (WX12_tooLong_4 M Q d2) (WX12_tooLong_13 M (WX12_tooLong_4 M Q d2) Q d3) Q l fl s i (80 * (s : Int) + (i : Int)) := fun s3 hh => by
          unfold WX12_tooLong_95 VX12_tooLong_95
          exact k96 0 (fun _ => ⟨s3, hh⟩) (fun z => absurd rfl z)
        refine ⟨fun n3 => k91 (fun s3 => absurd (show (s : Int) = 3 by omega) n3), fun e3' => ?_⟩
        have s3 : s = 3 := by omega
        subst s3
        have ep : n_pt M i = P ((w_t S 3 i).1 11).toNat := by
          rw [← hP]
          have := hR.2.2.2.2.2.1 i hi
          rw [n_v i80] at this
          exact this
        have pb : s_pb (P ((w_t S 3 i).1 11).toNat) := by rw [← hP]; exact hpb i hi
        have pn := hn.2.2.2.1 i i80
        refine m_hasPoint (v := i) (f := 3600) (n := nl) rfl rfl e2 i80 (by omega) eL gL bL ep pb pn (fun y1 => ⟨fun z => by omega, fun _ => m_hasPoint (v := i) (f := 4000) (n := nr) rfl rfl e3 i80 (by omega) eR gR bR ep pb pn (fun y2 => ⟨fun z => by omega, fun _ => k91 (fun _ => ⟨y1, y2⟩)⟩) (fun y2 => ⟨fun _ => k95 rfl (fun c => by rw [y2] at c; cases c.2), fun z => absurd rfl z⟩)⟩) (fun y1 => ⟨fun _ => k95 rfl (fun c => by rw [y1] at c; cases c.1), fun z => absurd rfl z⟩)
      · rintro ⟨tx, -⟩
        rw [w_thr_t (by omega), ← rt.2.1, t] at tx
        cases tx
