/-! THE MODEL: a later DAY -/
def n_day (N : n_S) (day : Int) : n_S := (N.1, N.2.1, N.2.2.1, N.2.2.2.1, N.2.2.2.2.1, N.2.2.2.2.2.1, day, N.2.2.2.2.2.2.2)
theorem n_upD {M : e_M} {day : Int} (h : nn_ok M) : nn_ok (e_up M 4456 86 day) ∧ n_of (e_up M 4456 86 day) = n_day (n_of M) day := by
  have f : ∀ b, b ≠ 4456 → e_up M 4456 86 day b = M b := fun b hb => e_up_row hb
  have g : ∀ k, k ≠ 86 → e_up M 4456 86 day 4456 k = M 4456 k := fun k hk => e_up_ne (fun z => hk z.2)
  obtain ⟨h1, h2, h3, h4, h5, h6⟩ := h
  refine ⟨⟨fun s hs => by rw [f _ (by omega)]; exact h1 s hs, fun t ht => ?_, fun l hl => ?_, fun v hv => by rw [f _ (by omega)]; exact h4 v hv, fun u hu => by rw [f _ (by omega)]; exact h5 u hu, by rw [g 73 (by omega)]; exact h6⟩, ?_⟩
  · have := h2 t ht
    unfold j_ok at *
    rw [f 4492 (by omega), f 4494 (by omega)]; exact this
  · have := h3 l hl
    unfold n_lok j_ok at *
    rw [f 4496 (by omega), f 4497 (by omega), f 4499 (by omega)]; exact this
  · refine n_of_ext (fun s => ?_) (fun u => ?_) (fun u => ?_) (fun v => ?_) (fun u => ?_) (g 85 (by omega)) e_up_eq (g 73 (by omega))
    · rw [f 4483 (by omega)]; rfl
    · show _ = if u < 560 then n_th M u else n_T0
      unfold n_th
      rw [n_sc_congr (M := M) (fun b b1 b2 => by rw [f b (by omega)]), j_row_congr (M := M) (f 4492 (by omega)) (f 4493 (by omega)), j_row_congr (M := M) (f 4494 (by omega)) (f 4495 (by omega))]
    · show _ = if u < 80 then n_lo M u else n_L0
      rw [n_lo_congr (M := M) (fun b hb => f b (by omega))]
    · show _ = if v < 80 then n_pt M v else []
      rw [n_pt_congr (M := M) (fun b b1 b2 => f b (by omega))]
    · show _ = if u < 60 then n_sa M u else n_X0
      rw [n_sa_congr (M := M) (fun b b1 b2 => f b (by omega))]
theorem t_thr_at {t : w_T} {day : Int} : t_thr t day = (decide (t.1 2 = 0) && decide (day < t.1 3)) := rfl
theorem R_up {V : Nat → v_D} {S : w_S} {N : n_S} {a day : Int} (hR : R_S V S N a) (hd : S.2.2.2 ≤ day) (h6 : day < 1000000) : R_S V (d_set S day) (n_day N day) a := by
  obtain ⟨a1, a2, a3, a4, a5, a6, a7, b⟩ := hR
  refine ⟨a1, rfl, a3, a4, fun s i s2 s6 hi => ?_, a6, a7, b⟩
  obtain ⟨r1, r2, r3⟩ := a5 s i s2 s6 hi
  refine ⟨r1, ?_, fun ht => ?_⟩
  · show t_thr (N.2.1 (80 * s + i)) day = t_thr (w_t S s i) day
    cases e : t_thr (w_t S s i) S.2.2.2 with
    | true =>
      obtain ⟨x1, x2⟩ := t_thr_iff.mp e
      obtain ⟨y1, y2⟩ := t_thr_iff.mp (r2.trans e)
      have rb := r3 e
      rw [t_thr_at, t_thr_at, x1, y1]
      by_cases c : 4 ≤ s
      · rw [rb.2.2.2.2.2.1 c]
      · have := rb.2.2.2.2.2.2 (by omega)
        rw [this.1, this.2, decide_eq_true (show day < 2147483647 by omega), decide_eq_true h6]
    | false =>
      have no : ∀ t : w_T, t_thr t S.2.2.2 = false → t_thr t day = false := fun t ht => t_thr_f (fun z => by
        have := t_thr_iff.mpr (show t.1 2 = 0 ∧ S.2.2.2 < t.1 3 from ⟨z.1, by omega⟩)
        rw [ht] at this; cases this)
      rw [no _ (r2.trans e), no _ e]
  · change t_thr (w_t S s i) day = true at ht
    refine r3 (t_thr_iff.mpr ?_)
    have := t_thr_iff.mp ht
    exact ⟨this.1, by omega⟩
