/-! THE MODEL: a DEED is done -/
/-- a DEED as the model keeps it, in the slot x -/
def D_at (M : e_M) (x : Nat) (D : v_D) : Prop := (M 4461 x = m_ac (D.1 3) ∧ M 4462 x = D.1 4 ∧ M 4463 x = D.1 7 ∧ M 4464 x = D.1 9 ∧ M 4465 x = D.1 8 ∧ M 4466 x = D.1 10) ∧ (∀ k : Nat, (k : Int) < D.1 7 → M 4467 (10 * x + k) = D.2.1 k) ∧ ((D.1 11 = 0 → M 4469 x = 0) ∧ (D.1 11 ≠ 0 → M 4468 x = D.1 11 ∧ M 4469 x = D.1 12)) ∧ (j_pts M x = D.2.2.2.1 ∧ M 4470 x = D.1 15 ∧ (0 ≤ D.1 15 ∧ D.1 15 ≤ 6) ∧ (0 < D.1 15 → M 4471 x = D.1 7 - D.1 15) ∧ (D.1 3 = 205 → M 4471 x = 2)) ∧ (j_ps M x = D.2.2.2.2 ∧ M 4474 x = D.1 18 ∧ 0 ≤ D.1 18 ∧ D.1 18 ≤ 12)
theorem D_at_congr {M N : e_M} {x : Nat} {D : v_D} (h : D_at M x D) (f : ∀ b, 4461 ≤ b → b ≤ 4476 → N b = M b) : D_at N x D := by
  unfold D_at j_pts j_ps at *
  rw [f 4461 (by omega) (by omega), f 4462 (by omega) (by omega), f 4463 (by omega) (by omega), f 4464 (by omega) (by omega), f 4465 (by omega) (by omega), f 4466 (by omega) (by omega), f 4467 (by omega) (by omega), f 4468 (by omega) (by omega), f 4469 (by omega) (by omega), f 4470 (by omega) (by omega), f 4471 (by omega) (by omega), f 4472 (by omega) (by omega), f 4473 (by omega) (by omega), f 4474 (by omega) (by omega), f 4475 (by omega) (by omega), f 4476 (by omega) (by omega)]
  exact h
/-- what holds of a World that DEEDS have made (G: of its FIGURES) -/
def I_w (G : w_S → Prop) (V : Nat → v_D) (S : w_S) : Prop := (w_un S ∧ I_C S ∧ w_am S) ∧ ((∀ i : Nat, (i : Int) < S.1 5 → w_thr S 5 i = true → (w_t S 5 i).2.1.length = 1) ∧ ∀ i : Nat, (i : Int) < S.1 3 → (w_t S 3 i).1 5 = -1) ∧ (∀ l : Nat, (l : Int) < S.1 0 → ∀ q ∈ (w_l S l).2.2.2, s_lw q.2) ∧ (∀ i : Nat, (i : Int) < S.1 6 → w_thr S 6 i = true → ∀ l ∈ (w_t S 6 i).2.1, (w_l S l.toNat).1 1 = 0) ∧ (∀ k : Nat, (k : Int) < S.1 7 → x_sok V S (w_t S 7 k)) ∧ 1 ≤ S.1 1 ∧ G S
/-- what a DEED leaves alone of the model's cells -/
def d_keep (M M' : e_M) : Prop := (∀ b, (b < 4480 ∨ b = 4482 ∨ 4521 ≤ b) → b ≠ 4456 → M' b = M b) ∧ ∀ k, (k < 38 ∨ (49 ≤ k ∧ k ≠ 73 ∧ k ≠ 85 ∧ k ≠ 86 ∧ k ≠ 87)) → M' 4456 k = M 4456 k
def n_atv (S : w_S) (nm : Nat → Int) (R : Nat → Nat × Nat) (k : Nat) (v : Int) : Prop := if v = 10 then (∀ s i : Nat, s < 7 → (i : Int) < w_z S s → w_nm S s i ≠ nm k) ∧ (∀ j, j < k → nm j ≠ nm k) else ((R k).1 < 7 ∧ ((R k).2 : Int) < w_z S (R k).1) ∧ w_nm S (R k).1 (R k).2 = nm k ∧ n_fit S v (R k).1 (R k).2 = true
theorem n_get {S : w_S} {nm wt : Nat → Int} {told : Int} {R : Nat → Nat × Nat} {k : Nat} {v : Int} (h : n_ok S nm wt told R) (hk : (k : Int) < told) (hv : wt k = v) (h10 : v ≠ 10) : ((R k).1 < 7 ∧ ((R k).2 : Int) < S.1 (R k).1) ∧ n_fit S v (R k).1 (R k).2 = true := by
  have := h k hk
  unfold n_at at this
  rw [if_neg (by omega), hv] at this
  exact ⟨this.1, this.2.2⟩
theorem n_fit_t {S : w_S} {v : Int} {s i : Nat} (h : n_fit S v s i = true) : w_thr S s i = true := by
  unfold n_fit at h
  rw [Bool.and_eq_true] at h
  exact h.1
theorem n_get1 {S : w_S} {nm wt : Nat → Int} {told : Int} {R : Nat → Nat × Nat} {k : Nat} {v : Int} {s : Nat} (h : n_ok S nm wt told R) (hk : (k : Int) < told) (hv : wt k = v) (es : v = (s : Int)) (h6 : s ≤ 6) : (R k).1 = s ∧ ((R k).2 : Int) < S.1 s ∧ w_thr S s (R k).2 = true := by
  obtain ⟨⟨h1, h2⟩, h3⟩ := n_get h hk hv (by omega)
  have e : (R k).1 = s := by have := (n_fit_s h3).1 (by omega); omega
  rw [e] at h2 h3
  exact ⟨e, h2, n_fit_t h3⟩
theorem n_get11 {S : w_S} {nm wt : Nat → Int} {told : Int} {R : Nat → Nat × Nat} {k : Nat} (h : n_ok S nm wt told R) (hk : (k : Int) < told) (hv : wt k = 11) : ((R k).2 : Int) < S.1 1 ∧ (w_t S 1 (R k).2).1 7 = 0 := by
  obtain ⟨⟨h1, h2⟩, h3⟩ := n_get h hk hv (by omega)
  unfold n_fit at h3
  rw [if_pos rfl, Bool.and_eq_true, Bool.and_eq_true, decide_eq_true_iff, decide_eq_true_iff] at h3
  rw [h3.2.1] at h2
  exact ⟨h2, h3.2.2⟩
theorem n_get12 {S : w_S} {nm wt : Nat → Int} {told : Int} {R : Nat → Nat × Nat} {k : Nat} (h : n_ok S nm wt told R) (hk : (k : Int) < told) (hv : wt k = 12) : ((R k).2 : Int) < S.1 1 ∧ (R k).2 ≠ 0 ∧ (w_t S 1 (R k).2).1 7 = 1 := by
  obtain ⟨⟨h1, h2⟩, h3⟩ := n_get h hk hv (by omega)
  unfold n_fit at h3
  rw [if_neg (by omega), if_pos rfl, Bool.and_eq_true, Bool.and_eq_true, Bool.and_eq_true, decide_eq_true_iff, decide_eq_true_iff, decide_eq_true_iff] at h3
  rw [h3.2.1] at h2
  exact ⟨h2, h3.2.2.1, h3.2.2.2⟩
theorem n_get13 {S : w_S} {nm wt : Nat → Int} {told : Int} {R : Nat → Nat × Nat} {k : Nat} (h : n_ok S nm wt told R) (hk : (k : Int) < told) (hv : wt k = 13) : (4 ≤ (R k).1 ∧ (R k).1 ≤ 6) ∧ ((R k).2 : Int) < S.1 (R k).1 ∧ w_thr S (R k).1 (R k).2 = true := by
  obtain ⟨⟨h1, h2⟩, h3⟩ := n_get h hk hv (by omega)
  exact ⟨(n_fit_s h3).2.2 rfl, h2, n_fit_t h3⟩
/-- where the model is content and the class not, a PERSON is of the wrong kind -/
theorem n_weak {S : w_S} {nm wt : Nat → Int} {told : Int} {R : Nat → Nat × Nat} (hw : n_ok S nm (fun k => wk (wt k)) told R) (hs : ¬ n_ok S nm wt told R) : ∃ k : Nat, (k : Int) < told ∧ ((wt k = 11 ∧ ¬ (w_t S 1 (R k).2).1 7 = 0) ∨ (wt k = 12 ∧ ¬ ((R k).2 ≠ 0 ∧ (w_t S 1 (R k).2).1 7 = 1))) := by
  refine Classical.byContradiction (fun c => hs (fun k hk => ?_))
  have h : n_atv S nm R k (wk (wt k)) := hw k hk
  show n_atv S nm R k (wt k)
  by_cases c11 : wt k = 11
  · have k0 : (w_t S 1 (R k).2).1 7 = 0 := Classical.byContradiction (fun z => c ⟨k, hk, Or.inl ⟨c11, z⟩⟩)
    rw [show wk (wt k) = 1 from if_pos (Or.inl c11)] at h
    unfold n_atv at h ⊢
    rw [if_neg (by omega)] at h
    rw [if_neg (by omega)]
    refine ⟨h.1, h.2.1, ?_⟩
    have hf := h.2.2
    have hs1 := (n_fit_s hf).1 (by omega)
    unfold n_fit
    rw [n_fit_t hf, c11, if_pos rfl, decide_eq_true (show (R k).1 = 1 by omega), decide_eq_true k0]; rfl
  · by_cases c12 : wt k = 12
    · have k0 : (R k).2 ≠ 0 ∧ (w_t S 1 (R k).2).1 7 = 1 := Classical.byContradiction (fun z => c ⟨k, hk, Or.inr ⟨c12, z⟩⟩)
      rw [show wk (wt k) = 1 from if_pos (Or.inr c12)] at h
      unfold n_atv at h ⊢
      rw [if_neg (by omega)] at h
      rw [if_neg (by omega)]
      refine ⟨h.1, h.2.1, ?_⟩
      have hf := h.2.2
      have hs1 := (n_fit_s hf).1 (by omega)
      unfold n_fit
      rw [n_fit_t hf, c12, if_neg (by omega), if_pos rfl, decide_eq_true (show (R k).1 = 1 by omega), decide_eq_true k0.1, decide_eq_true k0.2]; rfl
    · rw [show wk (wt k) = wt k from if_neg (by omega)] at h
      exact h
theorem n_wk {S : w_S} {nm wt : Nat → Int} {told : Int} {R : Nat → Nat × Nat} (h : n_ok S nm wt told R) : n_ok S nm (fun k => wk (wt k)) told R := fun k hk => by
  have t : n_atv S nm R k (wt k) := h k hk
  show n_atv S nm R k (wk (wt k))
  by_cases c : wt k = 10
  · rw [show wk (wt k) = wt k from by rw [c]; rfl]; exact t
  · have n1 : wk (wt k) ≠ 10 := by unfold wk; split <;> omega
    unfold n_atv at t ⊢
    rw [if_neg c] at t
    rw [if_neg n1]
    exact ⟨t.1, t.2.1, n_fit_wk t.2.2⟩
theorem n_R_un {S : w_S} {nm wt : Nat → Int} {told : Int} {R R' : Nat → Nat × Nat} (hun : w_un S) (hw : n_ok S nm (fun k => wk (wt k)) told R) (h : n_ok S nm wt told R') : n_ok S nm wt told R := fun k hk => by
  have h1 := hw k hk
  have h2 := h k hk
  by_cases c : wt k = 10
  · unfold n_at at h2 ⊢
    rw [if_pos c] at h2 ⊢
    exact h2
  · have e : R k = R' k := by
      unfold n_at at h1 h2
      have nk : ¬ wk (wt k) = 10 := by unfold wk; split <;> omega
      dsimp only at h1
      rw [if_neg nk] at h1
      rw [if_neg c] at h2
      obtain ⟨x1, x2⟩ := hun _ _ _ _ h1.1.1 h2.1.1 h1.1.2 h2.1.2 (h1.2.1.trans h2.2.1.symm)
      exact Prod.ext x1 x2
    exact n_at_congr (R := R') e h2
/-- what is wanted of the three ACTS that change FIGURES -/
def G_fig (V : Nat → v_D) (G : w_S → Prop) : Prop := ∀ (M : e_M) (S : w_S) (a : Int) (d x : Nat) (r : Nat → Int) (Q : Int → e_M → Prop), R_all M V S a → m_mo M → I_w G V S → x < 152 → D_at M x (V d) → v_ok (V d) → (V d).1 4 = S.2.2.2 →
  ((V d).1 3 = 206 → M 4520 0 = r 0 → (0 ≤ r 0 ∧ r 0 < S.1 0) → w_thr S 0 (r 0).toNat = true → j_q M V (a + 1) Q (X_split V S r d) → WX12_split x M Q) ∧
  ((V d).1 3 = 207 → M 4520 0 = r 0 → M 4520 1 = r 1 → (0 ≤ r 0 ∧ r 0 < S.1 0) → (0 ≤ r 1 ∧ r 1 < S.1 0) → w_thr S 0 (r 0).toNat = true → w_thr S 0 (r 1).toNat = true → j_q M V (a + 1) Q (X_join V S r d) → WX12_join x M Q) ∧
  ((V d).1 3 = 208 → M 4520 0 = r 0 → M 4520 1 = r 1 → (0 ≤ r 0 ∧ r 0 < S.1 0) → (0 ≤ r 1 ∧ r 1 < S.1 0) → w_thr S 0 (r 0).toNat = true → w_thr S 0 (r 1).toNat = true → j_q M V (a + 1) Q (X_border V S r d) → WX12_border x M Q)
theorem j_q_le {M : e_M} {V : Nat → v_D} {a : Int} {Q : Int → e_M → Prop} {X : Int × w_S} (h : j_q M V (a + 1) Q X) : j_q M V a Q X := fun M' h1 h2 h3 => h M' h1 (R_S_le h2 (by omega)) h3
theorem w_thr0 {S : w_S} {l : Nat} (h : w_thr S 0 l = true) : (w_l S l).1 1 = 0 := by
  unfold w_thr at h
  rw [if_pos rfl] at h
  exact of_decide_eq_true h
theorem m_charge0 {M : e_M} {V : Nat → v_D} {S : w_S} {a : Int} {d x : Nat} {r : Nat → Int} {Q : Int → e_M → Prop} (h : R_all M V S a) (hm : m_mo M) (hx : x < 152) (hnm : M 4467 (10 * x) = (V d).2.1 0) (hnu : M 4464 x = (V d).1 9) (hct : M 4463 x = (V d).1 7) (hl2 : 3 ≤ (V d).1 7 ∧ (V d).1 7 ≤ 8) (ir : ∀ i : Nat, 1 ≤ i → (i : Int) < (V d).1 7 → M 4520 i = r i) (hrl : ∀ i : Nat, 1 ≤ i → (i : Int) < (V d).1 7 - 1 → 0 ≤ r i ∧ r i < S.1 0) (hq : j_q M V (a + 1) Q (X_charge V S r d a)) : WX12_charge x M Q := by
  have hs : ∀ i : Nat, 1 ≤ i → s_fu r 0 (M 4520 0) i = r i := fun i hi => s_fu_ne (by omega)
  refine m_charge (r := s_fu r 0 (M 4520 0)) h hm hx hnm hnu hct hl2 (fun i hi => ?_) (fun i i1 i2 => by rw [hs i i1]; exact hrl i i1 i2) ?_
  · by_cases c : i = 0
    · rw [c, s_fu_eq]
    · rw [hs i (by omega)]; exact ir i (by omega) hi
  · have e : X_charge V S (s_fu r 0 (M 4520 0)) d a = X_charge V S r d a := by
      unfold X_charge
      have e1 : c_dup (s_fu r 0 (M 4520 0)) ((V d).1 7 - 1) = c_dup r ((V d).1 7 - 1) := by
        unfold c_dup
        refine propext ⟨?_, ?_⟩
        · rintro ⟨i, j, j1, j2, i2, e⟩
          rw [hs i (by omega), hs j (by omega)] at e
          exact ⟨i, j, j1, j2, i2, e⟩
        · rintro ⟨i, j, j1, j2, i2, e⟩
          exact ⟨i, j, j1, j2, i2, by rw [hs i (by omega), hs j (by omega)]; exact e⟩
      have e2 : c_abl S (s_fu r 0 (M 4520 0)) ((V d).1 7 - 1) = c_abl S r ((V d).1 7 - 1) := by
        unfold c_abl
        refine propext ⟨fun h i i1 i2 => ?_, fun h i i1 i2 => ?_⟩
        · have := h i i1 i2
          rw [hs i (by omega)] at this; exact this
        · rw [hs i (by omega)]; exact h i i1 i2
      have e3 : c_bar S (s_fu r 0 (M 4520 0)) ((V d).1 7 - 1) = c_bar S r ((V d).1 7 - 1) := by
        unfold c_bar
        refine propext ⟨?_, ?_⟩
        · rintro ⟨i, i1, i2, e⟩
          rw [hs i (by omega)] at e
          exact ⟨i, i1, i2, e⟩
        · rintro ⟨i, i1, i2, e⟩
          exact ⟨i, i1, i2, by rw [hs i (by omega)]; exact e⟩
      have e4 : c_ful S (s_fu r 0 (M 4520 0)) ((V d).1 7 - 1) = c_ful S r ((V d).1 7 - 1) := by
        unfold c_ful
        have : (∃ i : Nat, 1 ≤ i ∧ (i : Int) < (V d).1 7 - 1 ∧ 8 ≤ (w_l S (s_fu r 0 (M 4520 0) i).toNat).2.2.1.length) = (∃ i : Nat, 1 ≤ i ∧ (i : Int) < (V d).1 7 - 1 ∧ 8 ≤ (w_l S (r i).toNat).2.2.1.length) := by
          refine propext ⟨?_, ?_⟩
          · rintro ⟨i, i1, i2, e⟩
            rw [hs i (by omega)] at e
            exact ⟨i, i1, i2, e⟩
          · rintro ⟨i, i1, i2, e⟩
            exact ⟨i, i1, i2, by rw [hs i (by omega)]; exact e⟩
        rw [this]
      have e5 : s_fu r 0 (M 4520 0) ((V d).1 7 - 1).toNat = r ((V d).1 7 - 1).toNat := hs _ (by omega)
      have e6 : (fun k => s_fu r 0 (M 4520 0) (k + 1)) = (fun k => r (k + 1)) := funext (fun k => hs (k + 1) (by omega))
      rw [e1, e2, e3, e4, e5, e6]
    rw [e]; exact hq
theorem m_doneA {G : w_S → Prop} (hG : ∀ S, G S → ∀ l : Nat, (l : Int) < S.1 0 → (w_l S l).1 1 = 0 → g_good (w_l S l).2.1) {V : Nat → v_D} (hF : G_fig V G) {M : e_M} {S : w_S} {a : Int} {d x : Nat} {Q : Int → e_M → Prop} (h : R_all M V S a) (hm : m_mo M) (hx : x < 152) (hD : D_at M x (V d)) (hv : v_ok (V d)) (hday : S.2.2.2 ≤ (V d).1 4) (hI : I_w G V (d_set S ((V d).1 4)))
    {ss r : Nat → Int} (hok : n_ok (d_set S ((V d).1 4)) (V d).2.1 (V d).2.2.1 ((V d).1 7) (fun k => ((ss k).toNat, (r k).toNat))) (hnn : ∀ k : Nat, (k : Int) < (V d).1 7 → (V d).2.2.1 k ≠ 10 → 0 ≤ ss k ∧ 0 ≤ r k)
    (hq : ∀ M', nn_ok M' → R_S V (X_act V (d_set S ((V d).1 4)) ss r d a).2 (n_of M') (a + 1) → d_keep M M' → M' 4456 86 = (V d).1 4 → Q (X_act V (d_set S ((V d).1 4)) ss r d a).1 M') : WX12_done x M Q := by
  obtain ⟨hn, hc, hR, hz, hg, hd⟩ := id h
  have tx : ((x : Nat) : Int).toNat = x := by omega
  obtain ⟨⟨d1, d2, d3, -, -, -⟩, d7, -, -, -⟩ := id hD
  have hv4 := hv.2.2.2.1.1
  unfold WX12_done VX12_done
  rw [tx, d2]
  refine ⟨by omega, fun M1 e1 => ?_⟩
  have f1 : ∀ b, b ≠ 4456 → M1 b = M b := fun b hb => by rw [e1, e_up_row hb]
  have g1 : ∀ k, k ≠ 86 → M1 4456 k = M 4456 k := fun k hk => by rw [e1, e_up_ne (fun z => hk z.2)]
  obtain ⟨u1, u2⟩ := n_upD (M := M) (day := (V d).1 4) hn
  rw [← e1] at u1 u2
  have h1 : R_all M1 V (d_set S ((V d).1 4)) a := ⟨u1, ⟨fun k hk => by rw [f1 4457 (by omega)]; exact hc.1 k hk, fun l m hl hm => by rw [f1 4458 (by omega)]; exact hc.2 l m hl hm⟩, by rw [u2]; exact R_up hR hday (by omega), hz, hg, hv4⟩
  generalize hS1 : d_set S ((V d).1 4) = S1 at *
  have day1 : (V d).1 4 = S1.2.2.2 := by rw [← hS1]; rfl
  obtain ⟨⟨iu, iC, ia⟩, ⟨i5, i3⟩, il, i6, i7, i1p, iG⟩ := id hI
  -- from a memory that differs in what the NAMES stand for
  have fin : ∀ (M3 M' : e_M), (∀ b, b ≠ 4520 → M3 b = M1 b) → j_keep M3 M' → d_keep M M' ∧ M' 4456 86 = (V d).1 4 := fun M3 M' f3 k3 => by
    refine ⟨⟨fun b hb hb6 => ?_, fun k hk => ?_⟩, ?_⟩
    · rw [k3.1 b (by omega), f3 b (by omega), f1 b hb6]
    · rw [k3.2 k (by omega), f3 4456 (by omega), g1 k (by omega)]
    · rw [k3.2 86 (by omega), f3 4456 (by omega), e1, e_up_eq]
  have qj : ∀ M3, (∀ b, b ≠ 4520 → M3 b = M1 b) → j_q M3 V (a + 1) Q (X_act V S1 ss r d a) := fun M3 f3 M' a1 a2 a3 => by
    obtain ⟨b1, b2⟩ := fin M3 M' f3 a3
    exact hq M' a1 a2 b1 b2
  have hl := hv.2.1.1
  have hwt : ∀ k : Nat, (k : Int) < (V d).1 7 → (v_ws ((V d).1 3) ((V d).1 7))[k]? = some ((V d).2.2.1 k) := fun k hk => by
    have := hv.2.1.2 k
    rw [if_pos hk] at this; exact this
  refine m_areNamed (told := (V d).1 7) (nm := (V d).2.1) (wt := (V d).2.2.1) h1 iu hx hv.1 (by rw [f1 4461 (by omega)]; exact d1) (by rw [f1 4463 (by omega)]; exact d3) (by have := hv.2.2.1.1; omega) (fun k hk => by rw [f1 4467 (by omega)]; exact d7 k hk) hwt (fun R0 M3 hR3 i4 f3 => ⟨fun _ => ⟨by omega, ?_⟩, fun z => by omega⟩) (fun hno M3 f3 => ⟨fun z => absurd rfl z, fun _ => absurd (n_wk hok) (hno _)⟩)
  have h3 := R_all_same h1 f3
  have hm3 : m_mo M3 := fun s hs => by rw [f3 4482 (by omega), f1 4482 (by omega)]; exact hm s hs
  have hD3 : D_at M3 x (V d) := D_at_congr hD (fun b b1 b2 => by rw [f3 b (by omega), f1 b (by omega)])
  obtain ⟨⟨D1, D2, D3, D4, D5, D6⟩, D7, Ds, ⟨Dp, D15, D15b, D16, D17⟩, Dq, D18, D18b⟩ := id hD3
  have hnm0 : 0 < (V d).1 7 → M3 4467 (10 * x) = (V d).2.1 0 := fun h0 => by have := D7 0 (by omega); exact this
  generalize hRR : (fun k => ((ss k).toNat, (r k).toNat) : Nat → Nat × Nat) = R at *
  have hs := hok
  have ts : ∀ k, (R k).1 = (ss k).toNat := fun k => by rw [← hRR]
  have tr : ∀ k, (R k).2 = (r k).toNat := fun k => by rw [← hRR]
  have e0R : ∀ k : Nat, (k : Int) < (V d).1 7 → (V d).2.2.1 k ≠ 10 → R0 k = R k := fun k hk c => by
    have h1 := hR3 k hk
    have h2 := hok k hk
    unfold n_at at h1 h2
    have nk : ¬ wk ((V d).2.2.1 k) = 10 := by unfold wk; split <;> omega
    dsimp only at h1
    rw [if_neg nk] at h1
    rw [if_neg c] at h2
    obtain ⟨x1, x2⟩ := iu _ _ _ _ h1.1.1 h2.1.1 h1.1.2 h2.1.2 (h1.2.1.trans h2.2.1.symm)
    exact Prod.ext x1 x2
  have er : ∀ k : Nat, (k : Int) < (V d).1 7 → (V d).2.2.1 k ≠ 10 → ((R k).2 : Int) = r k ∧ ((R k).1 : Int) = ss k := fun k hk hh => by
    have := hnn k hk hh
    rw [ts, tr]
    omega
  have i4' : ∀ k : Nat, (k : Int) < (V d).1 7 → (V d).2.2.1 k ≠ 10 → (V d).2.2.1 k ≠ 13 → M3 4520 k = r k := fun k hk h10 h13 => by
    rw [i4 k hk h10, if_neg h13, e0R k hk h10]; exact (er k hk h10).1
  have hsx := qj M3 f3
  have hac := hv.1
  have hca : (V d).1 3 = 200 ∨ (V d).1 3 = 201 ∨ (V d).1 3 = 202 ∨ (V d).1 3 = 203 ∨ (V d).1 3 = 204 ∨ (V d).1 3 = 205 ∨ (V d).1 3 = 206 ∨ (V d).1 3 = 207 ∨ (V d).1 3 = 208 ∨ (V d).1 3 = 209 ∨ (V d).1 3 = 210 ∨ (V d).1 3 = 211 ∨ (V d).1 3 = 212 ∨ (V d).1 3 = 213 ∨ (V d).1 3 = 214 ∨ (V d).1 3 = 215 ∨ (V d).1 3 = 216 ∨ (V d).1 3 = 217 ∨ (V d).1 3 = 218 ∨ (V d).1 3 = 219 ∨ (V d).1 3 = 220 ∨ (V d).1 3 = 221 := by omega
  rw [D1]
  rcases hca with ca | ca | ca | ca | ca | ca | ca | ca | ca | ca | ca | ca | ca | ca | ca | ca | ca | ca | ca | ca | ca | ca
  · -- 200
    rw [show m_ac ((V d).1 3) = 4 from by rw [ca]; rfl]
    rw [ca] at hl hwt
    have told : (V d).1 7 = 1 := hl
    have w0 : (V d).2.2.1 0 = 10 := (Option.some.inj (hwt 0 (by omega))).symm
    have eX : X_act V S1 ss r d a = X_person V S1 d a := by simp only [X_act, ca, Int.reduceEq, ↓reduceIte]
    rw [eX] at hsx
    simp only [Int.reduceEq, false_implies, not_false_eq_true, forall_const, true_and, not_true_eq_false, and_true]
    exact m_born h3 hm3 hx D5 (hnm0 (by omega)) day1 hv.2.2.2.1.2.2.1 i1p hsx
  · -- 201
    rw [show m_ac ((V d).1 3) = 6 from by rw [ca]; rfl]
    rw [ca] at hl hwt
    have told : (V d).1 7 = 2 := hl
    have w0 : (V d).2.2.1 0 = 10 := (Option.some.inj (hwt 0 (by omega))).symm
    have w1 : (V d).2.2.1 1 = 11 := (Option.some.inj (hwt 1 (by omega))).symm
    have eX : X_act V S1 ss r d a = X_firm V S1 r d a := by simp only [X_act, ca, Int.reduceEq, ↓reduceIte]
    rw [eX] at hsx
    simp only [Int.reduceEq, false_implies, not_false_eq_true, forall_const, true_and, not_true_eq_false, and_true]
    obtain ⟨u1, k1⟩ := n_get11 hs (k := 1) (by omega) w1
    have z1 := er 1 (by omega) (by omega)
    have r1 : 0 ≤ r 1 ∧ r 1 < S1.1 1 := by omega
    have kk1 : (w_t S1 1 (r 1).toNat).1 7 = 0 := by rw [← tr]; exact k1
    have i4_1 := i4' 1 (by omega) (by omega) (by omega)
    exact m_firm h3 hm3 hx (hnm0 (by omega)) i4_1 r1 kk1 i1p hsx
  · -- 202
    rw [show m_ac ((V d).1 3) = 8 from by rw [ca]; rfl]
    rw [ca] at hl hwt
    have told : (V d).1 7 = 2 := hl
    have w0 : (V d).2.2.1 0 = 11 := (Option.some.inj (hwt 0 (by omega))).symm
    have w1 : (V d).2.2.1 1 = 11 := (Option.some.inj (hwt 1 (by omega))).symm
    have eX : X_act V S1 ss r d a = X_guard S1 r := by simp only [X_act, ca, Int.reduceEq, ↓reduceIte]
    rw [eX] at hsx
    simp only [Int.reduceEq, false_implies, not_false_eq_true, forall_const, true_and, not_true_eq_false, and_true]
    obtain ⟨u0, k0⟩ := n_get11 hs (k := 0) (by omega) w0
    have z0 := er 0 (by omega) (by omega)
    have r0 : 0 ≤ r 0 ∧ r 0 < S1.1 1 := by omega
    have kk0 : (w_t S1 1 (r 0).toNat).1 7 = 0 := by rw [← tr]; exact k0
    have i4_0 := i4' 0 (by omega) (by omega) (by omega)
    obtain ⟨u1, k1⟩ := n_get11 hs (k := 1) (by omega) w1
    have z1 := er 1 (by omega) (by omega)
    have r1 : 0 ≤ r 1 ∧ r 1 < S1.1 1 := by omega
    have kk1 : (w_t S1 1 (r 1).toNat).1 7 = 0 := by rw [← tr]; exact k1
    have i4_1 := i4' 1 (by omega) (by omega) (by omega)
    exact m_guard h3 i4_0 i4_1 r0 r1 kk0 kk1 (j_q_le hsx)
  · -- 203
    rw [show m_ac ((V d).1 3) = 9 from by rw [ca]; rfl]
    rw [ca] at hl hwt
    have hp15 := hv.2.2.1.2.1 ca
    have ev : v_ws 203 ((V d).1 7) = 11 :: List.replicate ((V d).1 7 - 1).toNat 1 := rfl
    have p15 : 0 ≤ (V d).1 15 := D15b.1
    have w0 : (V d).2.2.1 0 = 11 := (Option.some.inj (hwt 0 (by omega))).symm
    have wk1 : ∀ k : Nat, ((k + 1 : Nat) : Int) < (V d).1 7 → (V d).2.2.1 (k + 1) = 1 := fun k hk => by
      have := hwt (k + 1) hk
      rw [ev] at this
      exact g_rep (n := ((V d).1 7 - 1).toNat) (k := k) this
    have eX : X_act V S1 ss r d a = X_die V S1 r d := by simp only [X_act, ca, Int.reduceEq, ↓reduceIte]
    rw [eX] at hsx
    simp only [Int.reduceEq, false_implies, not_false_eq_true, forall_const, true_and, not_true_eq_false, and_true]
    obtain ⟨u0, k0⟩ := n_get11 hs (k := 0) (by omega) w0
    have z0 := er 0 (by omega) (by omega)
    have r0 : 0 ≤ r 0 ∧ r 0 < S1.1 1 := by omega
    have kk0 : (w_t S1 1 (r 0).toNat).1 7 = 0 := by rw [← tr]; exact k0
    have i4_0 := i4' 0 (by omega) (by omega) (by omega)
    have hi : ∀ k : Nat, (k : Int) < (V d).1 15 → M3 4520 (1 + k) = r (1 + k) := fun k hk => by
      have := wk1 k (by omega)
      rw [Nat.add_comm 1 k]
      exact i4' (k + 1) (by omega) (by omega) (by omega)
    exact m_death h3 hx i4_0 r0 kk0 Dp D15 D15b (fun _ => hp15) (fun p => by rw [D16 p]; omega) hi hv.2.2.2.2.2.1 il i3 (j_q_le hsx)
  · -- 204
    rw [show m_ac ((V d).1 3) = 10 from by rw [ca]; rfl]
    rw [ca] at hl hwt
    have told : (V d).1 7 = 1 := hl
    have w0 : (V d).2.2.1 0 = 12 := (Option.some.inj (hwt 0 (by omega))).symm
    have eX : X_act V S1 ss r d a = X_close S1 r := by simp only [X_act, ca, Int.reduceEq, ↓reduceIte]
    rw [eX] at hsx
    simp only [Int.reduceEq, false_implies, not_false_eq_true, forall_const, true_and, not_true_eq_false, and_true]
    obtain ⟨u0, nz0, k0⟩ := n_get12 hs (k := 0) (by omega) w0
    have z0 := er 0 (by omega) (by omega)
    have r0 : 0 ≤ r 0 ∧ r 0 < S1.1 1 := by omega
    have kk0 : (w_t S1 1 (r 0).toNat).1 7 = 1 := by rw [← tr]; exact k0
    have i4_0 := i4' 0 (by omega) (by omega) (by omega)
    exact m_close h3 i4_0 r0 kk0 (by omega) i3 (j_q_le hsx)
  · -- 205
    rw [show m_ac ((V d).1 3) = 11 from by rw [ca]; rfl]
    rw [ca] at hl hwt
    have hp15 := hv.2.2.1.2.2.1 ca
    have ev : v_ws 205 ((V d).1 7) = 0 :: 1 :: List.replicate ((V d).1 7 - 2).toNat 1 := rfl
    have p15 : 0 ≤ (V d).1 15 := D15b.1
    have w0 : (V d).2.2.1 0 = 0 := (Option.some.inj (hwt 0 (by omega))).symm
    have w1 : (V d).2.2.1 1 = 1 := (Option.some.inj (hwt 1 (by omega))).symm
    have wk1 : ∀ k : Nat, ((k + 2 : Nat) : Int) < (V d).1 7 → (V d).2.2.1 (k + 2) = 1 := fun k hk => by
      have := hwt (k + 2) hk
      rw [ev] at this
      exact g_rep (n := ((V d).1 7 - 2).toNat) (k := k) this
    have eX : X_act V S1 ss r d a = X_sell V S1 r d a := by simp only [X_act, ca, Int.reduceEq, ↓reduceIte]
    rw [eX] at hsx
    simp only [Int.reduceEq, false_implies, not_false_eq_true, forall_const, true_and, not_true_eq_false, and_true]
    obtain ⟨t0, u0, v0⟩ := n_get1 (s := 0) hs (k := 0) (by omega) w0 rfl (by omega)
    have z0 := er 0 (by omega) (by omega)
    have r0 : 0 ≤ r 0 ∧ r 0 < S1.1 0 := by omega
    have y0 : w_thr S1 0 (r 0).toNat = true := by rw [← tr]; exact v0
    have i4_0 := i4' 0 (by omega) (by omega) (by omega)
    obtain ⟨t1, u1, v1⟩ := n_get1 (s := 1) hs (k := 1) (by omega) w1 rfl (by omega)
    have z1 := er 1 (by omega) (by omega)
    have r1 : 0 ≤ r 1 ∧ r 1 < S1.1 1 := by omega
    have y1 : w_thr S1 1 (r 1).toNat = true := by rw [← tr]; exact v1
    have i4_1 := i4' 1 (by omega) (by omega) (by omega)
    have hi : ∀ k : Nat, (k : Int) < (V d).1 15 → M3 4520 (2 + k) = r (2 + k) := fun k hk => by
      have := wk1 k (by omega)
      rw [Nat.add_comm 2 k]
      exact i4' (k + 2) (by omega) (by omega) (by omega)
    exact m_sell h3 hx i4_0 i4_1 r0 r1 Dp D15 D15b (D17 ca) hi hp15 hv.2.2.2.2.2.1 (fun z => by have := Ds.1 z; omega) (fun z => ⟨Ds.2 z, hv.2.2.2.2.1 z⟩) D4 hsx
  · -- 206
    rw [show m_ac ((V d).1 3) = 14 from by rw [ca]; rfl]
    rw [ca] at hl hwt
    have told : (V d).1 7 = 3 := hl
    have w0 : (V d).2.2.1 0 = 0 := (Option.some.inj (hwt 0 (by omega))).symm
    have w1 : (V d).2.2.1 1 = 10 := (Option.some.inj (hwt 1 (by omega))).symm
    have w2 : (V d).2.2.1 2 = 10 := (Option.some.inj (hwt 2 (by omega))).symm
    have eX : X_act V S1 ss r d a = X_split V S1 r d := by simp only [X_act, ca, Int.reduceEq, ↓reduceIte]
    rw [eX] at hsx
    simp only [Int.reduceEq, false_implies, not_false_eq_true, forall_const, true_and, not_true_eq_false, and_true]
    obtain ⟨t0, u0, v0⟩ := n_get1 (s := 0) hs (k := 0) (by omega) w0 rfl (by omega)
    have z0 := er 0 (by omega) (by omega)
    have r0 : 0 ≤ r 0 ∧ r 0 < S1.1 0 := by omega
    have y0 : w_thr S1 0 (r 0).toNat = true := by rw [← tr]; exact v0
    have i4_0 := i4' 0 (by omega) (by omega) (by omega)
    exact (hF M3 S1 a d x r Q h3 hm3 hI hx hD3 hv day1).1 ca i4_0 r0 y0 hsx
  · -- 207
    rw [show m_ac ((V d).1 3) = 16 from by rw [ca]; rfl]
    rw [ca] at hl hwt
    have told : (V d).1 7 = 3 := hl
    have w0 : (V d).2.2.1 0 = 0 := (Option.some.inj (hwt 0 (by omega))).symm
    have w1 : (V d).2.2.1 1 = 0 := (Option.some.inj (hwt 1 (by omega))).symm
    have w2 : (V d).2.2.1 2 = 10 := (Option.some.inj (hwt 2 (by omega))).symm
    have eX : X_act V S1 ss r d a = X_join V S1 r d := by simp only [X_act, ca, Int.reduceEq, ↓reduceIte]
    rw [eX] at hsx
    simp only [Int.reduceEq, false_implies, not_false_eq_true, forall_const, true_and, not_true_eq_false, and_true]
    obtain ⟨t0, u0, v0⟩ := n_get1 (s := 0) hs (k := 0) (by omega) w0 rfl (by omega)
    have z0 := er 0 (by omega) (by omega)
    have r0 : 0 ≤ r 0 ∧ r 0 < S1.1 0 := by omega
    have y0 : w_thr S1 0 (r 0).toNat = true := by rw [← tr]; exact v0
    have i4_0 := i4' 0 (by omega) (by omega) (by omega)
    obtain ⟨t1, u1, v1⟩ := n_get1 (s := 0) hs (k := 1) (by omega) w1 rfl (by omega)
    have z1 := er 1 (by omega) (by omega)
    have r1 : 0 ≤ r 1 ∧ r 1 < S1.1 0 := by omega
    have y1 : w_thr S1 0 (r 1).toNat = true := by rw [← tr]; exact v1
    have i4_1 := i4' 1 (by omega) (by omega) (by omega)
    exact (hF M3 S1 a d x r Q h3 hm3 hI hx hD3 hv day1).2.1 ca i4_0 i4_1 r0 r1 y0 y1 hsx
  · -- 208
    rw [show m_ac ((V d).1 3) = 17 from by rw [ca]; rfl]
    rw [ca] at hl hwt
    have told : (V d).1 7 = 2 := hl
    have w0 : (V d).2.2.1 0 = 0 := (Option.some.inj (hwt 0 (by omega))).symm
    have w1 : (V d).2.2.1 1 = 0 := (Option.some.inj (hwt 1 (by omega))).symm
    have eX : X_act V S1 ss r d a = X_border V S1 r d := by simp only [X_act, ca, Int.reduceEq, ↓reduceIte]
    rw [eX] at hsx
    simp only [Int.reduceEq, false_implies, not_false_eq_true, forall_const, true_and, not_true_eq_false, and_true]
    obtain ⟨t0, u0, v0⟩ := n_get1 (s := 0) hs (k := 0) (by omega) w0 rfl (by omega)
    have z0 := er 0 (by omega) (by omega)
    have r0 : 0 ≤ r 0 ∧ r 0 < S1.1 0 := by omega
    have y0 : w_thr S1 0 (r 0).toNat = true := by rw [← tr]; exact v0
    have i4_0 := i4' 0 (by omega) (by omega) (by omega)
    obtain ⟨t1, u1, v1⟩ := n_get1 (s := 0) hs (k := 1) (by omega) w1 rfl (by omega)
    have z1 := er 1 (by omega) (by omega)
    have r1 : 0 ≤ r 1 ∧ r 1 < S1.1 0 := by omega
    have y1 : w_thr S1 0 (r 1).toNat = true := by rw [← tr]; exact v1
    have i4_1 := i4' 1 (by omega) (by omega) (by omega)
    exact (hF M3 S1 a d x r Q h3 hm3 hI hx hD3 hv day1).2.2 ca i4_0 i4_1 r0 r1 y0 y1 hsx
  · -- 209
    rw [show m_ac ((V d).1 3) = 18 from by rw [ca]; rfl]
    rw [ca] at hl hwt
    have h93 := hv.2.2.1.2.2.2 ca
    have ev : v_ws 209 ((V d).1 7) = 10 :: (List.replicate ((V d).1 7 - 2).toNat 0 ++ [1]) := rfl
    have w0 : (V d).2.2.1 0 = 10 := (Option.some.inj (hwt 0 (by omega))).symm
    have wk1 : ∀ k : Nat, ((k + 1 : Nat) : Int) < (V d).1 7 → (((k + 1 : Nat) : Int) < (V d).1 7 - 1 → (V d).2.2.1 (k + 1) = 0) ∧ (V d).2.2.1 (k + 1) ≤ 1 ∧ 0 ≤ (V d).2.2.1 (k + 1) := fun k hk => by
      have h := hwt (k + 1) hk
      rw [ev] at h
      have h : (List.replicate ((V d).1 7 - 2).toNat (0 : Int) ++ [1])[k]? = some ((V d).2.2.1 (k + 1)) := h
      by_cases c : k < ((V d).1 7 - 2).toNat
      · rw [List.getElem?_append_left (by rw [List.length_replicate]; exact c)] at h
        have := g_rep h
        omega
      · rw [List.getElem?_append_right (by rw [List.length_replicate]; omega), List.length_replicate] at h
        have e0 : k - ((V d).1 7 - 2).toNat = 0 := by omega
        rw [e0] at h
        have := Option.some.inj (show some (1 : Int) = some ((V d).2.2.1 (k + 1)) from h)
        omega
    have eX : X_act V S1 ss r d a = X_charge V S1 r d a := by simp only [X_act, ca, Int.reduceEq, ↓reduceIte]
    rw [eX] at hsx
    simp only [Int.reduceEq, false_implies, not_false_eq_true, forall_const, true_and, not_true_eq_false, and_true]
    refine m_charge0 h3 hm3 hx (hnm0 (by omega)) D4 D3 ⟨h93, hv.2.2.1.1⟩ (fun i i1 hi => ?_) (fun i i1 i2 => ?_) hsx
    · obtain ⟨k, rfl⟩ : ∃ k, i = k + 1 := ⟨i - 1, by omega⟩
      have := wk1 k hi
      exact i4' (k + 1) hi (by omega) (by omega)
    · obtain ⟨k, rfl⟩ : ∃ k, i = k + 1 := ⟨i - 1, by omega⟩
      have c10 := (wk1 k (by omega)).2.1
      obtain ⟨-, u', -⟩ := n_get1 (s := 0) hs (k := k + 1) (by omega) ((wk1 k (by omega)).1 i2) rfl (by omega)
      have := er (k + 1) (by omega) (by omega)
      omega
  · -- 210
    rw [show m_ac ((V d).1 3) = 19 from by rw [ca]; rfl]
    rw [ca] at hl hwt
    have told : (V d).1 7 = 1 := hl
    have w0 : (V d).2.2.1 0 = 2 := (Option.some.inj (hwt 0 (by omega))).symm
    have eX : X_act V S1 ss r d a = X_pay V S1 r d := by simp only [X_act, ca, Int.reduceEq, ↓reduceIte]
    rw [eX] at hsx
    simp only [Int.reduceEq, false_implies, not_false_eq_true, forall_const, true_and, not_true_eq_false, and_true]
    obtain ⟨t0, u0, v0⟩ := n_get1 (s := 2) hs (k := 0) (by omega) w0 rfl (by omega)
    have z0 := er 0 (by omega) (by omega)
    have r0 : 0 ≤ r 0 ∧ r 0 < S1.1 2 := by omega
    have y0 : w_thr S1 2 (r 0).toNat = true := by rw [← tr]; exact v0
    have i4_0 := i4' 0 (by omega) (by omega) (by omega)
    exact m_pay h3 hx D4 hv.2.2.2.1.2.1 i4_0 r0 y0 (iC.1 _ (by have := r0; omega)) (ia _ (by have := r0.2; show (_ : Int) < S1.1 2; omega)) (j_q_le hsx)
  · -- 211
    rw [show m_ac ((V d).1 3) = 20 from by rw [ca]; rfl]
    rw [ca] at hl hwt
    have told : (V d).1 7 = 2 := hl
    have w0 : (V d).2.2.1 0 = 2 := (Option.some.inj (hwt 0 (by omega))).symm
    have w1 : (V d).2.2.1 1 = 1 := (Option.some.inj (hwt 1 (by omega))).symm
    have eX : X_act V S1 ss r d a = X_assign S1 r := by simp only [X_act, ca, Int.reduceEq, ↓reduceIte]
    rw [eX] at hsx
    simp only [Int.reduceEq, false_implies, not_false_eq_true, forall_const, true_and, not_true_eq_false, and_true]
    obtain ⟨t0, u0, v0⟩ := n_get1 (s := 2) hs (k := 0) (by omega) w0 rfl (by omega)
    have z0 := er 0 (by omega) (by omega)
    have r0 : 0 ≤ r 0 ∧ r 0 < S1.1 2 := by omega
    have y0 : w_thr S1 2 (r 0).toNat = true := by rw [← tr]; exact v0
    have i4_0 := i4' 0 (by omega) (by omega) (by omega)
    obtain ⟨t1, u1, v1⟩ := n_get1 (s := 1) hs (k := 1) (by omega) w1 rfl (by omega)
    have z1 := er 1 (by omega) (by omega)
    have r1 : 0 ≤ r 1 ∧ r 1 < S1.1 1 := by omega
    have y1 : w_thr S1 1 (r 1).toNat = true := by rw [← tr]; exact v1
    have i4_1 := i4' 1 (by omega) (by omega) (by omega)
    exact m_assign h3 i4_0 i4_1 r0 y0 (j_q_le hsx)
  · -- 212
    rw [show m_ac ((V d).1 3) = 21 from by rw [ca]; rfl]
    rw [ca] at hl hwt
    have told : (V d).1 7 = 3 := hl
    have w0 : (V d).2.2.1 0 = 2 := (Option.some.inj (hwt 0 (by omega))).symm
    have w1 : (V d).2.2.1 1 = 2 := (Option.some.inj (hwt 1 (by omega))).symm
    have w2 : (V d).2.2.1 2 = 0 := (Option.some.inj (hwt 2 (by omega))).symm
    have eX : X_act V S1 ss r d a = X_rank S1 r := by simp only [X_act, ca, Int.reduceEq, ↓reduceIte]
    rw [eX] at hsx
    simp only [Int.reduceEq, false_implies, not_false_eq_true, forall_const, true_and, not_true_eq_false, and_true]
    obtain ⟨t0, u0, v0⟩ := n_get1 (s := 2) hs (k := 0) (by omega) w0 rfl (by omega)
    have z0 := er 0 (by omega) (by omega)
    have r0 : 0 ≤ r 0 ∧ r 0 < S1.1 2 := by omega
    have y0 : w_thr S1 2 (r 0).toNat = true := by rw [← tr]; exact v0
    have i4_0 := i4' 0 (by omega) (by omega) (by omega)
    obtain ⟨t1, u1, v1⟩ := n_get1 (s := 2) hs (k := 1) (by omega) w1 rfl (by omega)
    have z1 := er 1 (by omega) (by omega)
    have r1 : 0 ≤ r 1 ∧ r 1 < S1.1 2 := by omega
    have y1 : w_thr S1 2 (r 1).toNat = true := by rw [← tr]; exact v1
    have i4_1 := i4' 1 (by omega) (by omega) (by omega)
    obtain ⟨t2, u2, v2⟩ := n_get1 (s := 0) hs (k := 2) (by omega) w2 rfl (by omega)
    have z2 := er 2 (by omega) (by omega)
    have r2 : 0 ≤ r 2 ∧ r 2 < S1.1 0 := by omega
    have y2 : w_thr S1 0 (r 2).toNat = true := by rw [← tr]; exact v2
    have i4_2 := i4' 2 (by omega) (by omega) (by omega)
    exact m_ranked h3 i4_0 i4_1 i4_2 r2 (j_q_le hsx)
  · -- 213
    rw [show m_ac ((V d).1 3) = 23 from by rw [ca]; rfl]
    rw [ca] at hl hwt
    have told : (V d).1 7 = 2 := hl
    have w0 : (V d).2.2.1 0 = 0 := (Option.some.inj (hwt 0 (by omega))).symm
    have w1 : (V d).2.2.1 1 = 2 := (Option.some.inj (hwt 1 (by omega))).symm
    have eX : X_act V S1 ss r d a = X_free S1 r := by simp only [X_act, ca, Int.reduceEq, ↓reduceIte]
    rw [eX] at hsx
    simp only [Int.reduceEq, false_implies, not_false_eq_true, forall_const, true_and, not_true_eq_false, and_true]
    obtain ⟨t0, u0, v0⟩ := n_get1 (s := 0) hs (k := 0) (by omega) w0 rfl (by omega)
    have z0 := er 0 (by omega) (by omega)
    have r0 : 0 ≤ r 0 ∧ r 0 < S1.1 0 := by omega
    have y0 : w_thr S1 0 (r 0).toNat = true := by rw [← tr]; exact v0
    have i4_0 := i4' 0 (by omega) (by omega) (by omega)
    obtain ⟨t1, u1, v1⟩ := n_get1 (s := 2) hs (k := 1) (by omega) w1 rfl (by omega)
    have z1 := er 1 (by omega) (by omega)
    have r1 : 0 ≤ r 1 ∧ r 1 < S1.1 2 := by omega
    have y1 : w_thr S1 2 (r 1).toNat = true := by rw [← tr]; exact v1
    have i4_1 := i4' 1 (by omega) (by omega) (by omega)
    refine m_freed h3 i4_0 i4_1 r0 r1 y1 (fun z => ?_) (j_q_le hsx)
    have := ((iC.2 (r 0).toNat (by have := r0; omega) (w_thr0 y0)).2 _ z).2
    rw [show (((r 0).toNat : Nat) : Int) = r 0 by have := r0; omega] at this
    exact this
  · -- 214
    rw [show m_ac ((V d).1 3) = 24 from by rw [ca]; rfl]
    rw [ca] at hl hwt
    have told : (V d).1 7 = 3 := hl
    have w0 : (V d).2.2.1 0 = 0 := (Option.some.inj (hwt 0 (by omega))).symm
    have w1 : (V d).2.2.1 1 = 2 := (Option.some.inj (hwt 1 (by omega))).symm
    have w2 : (V d).2.2.1 2 = 1 := (Option.some.inj (hwt 2 (by omega))).symm
    have eX : X_act V S1 ss r d a = X_auction V S1 r d := by simp only [X_act, ca, Int.reduceEq, ↓reduceIte]
    rw [eX] at hsx
    simp only [Int.reduceEq, false_implies, not_false_eq_true, forall_const, true_and, not_true_eq_false, and_true]
    obtain ⟨t0, u0, v0⟩ := n_get1 (s := 0) hs (k := 0) (by omega) w0 rfl (by omega)
    have z0 := er 0 (by omega) (by omega)
    have r0 : 0 ≤ r 0 ∧ r 0 < S1.1 0 := by omega
    have y0 : w_thr S1 0 (r 0).toNat = true := by rw [← tr]; exact v0
    have i4_0 := i4' 0 (by omega) (by omega) (by omega)
    obtain ⟨t1, u1, v1⟩ := n_get1 (s := 2) hs (k := 1) (by omega) w1 rfl (by omega)
    have z1 := er 1 (by omega) (by omega)
    have r1 : 0 ≤ r 1 ∧ r 1 < S1.1 2 := by omega
    have y1 : w_thr S1 2 (r 1).toNat = true := by rw [← tr]; exact v1
    have i4_1 := i4' 1 (by omega) (by omega) (by omega)
    obtain ⟨t2, u2, v2⟩ := n_get1 (s := 1) hs (k := 2) (by omega) w2 rfl (by omega)
    have z2 := er 2 (by omega) (by omega)
    have r2 : 0 ≤ r 2 ∧ r 2 < S1.1 1 := by omega
    have y2 : w_thr S1 1 (r 2).toNat = true := by rw [← tr]; exact v2
    have i4_2 := i4' 2 (by omega) (by omega) (by omega)
    exact m_auction h3 hx D4 hv.2.2.2.1.2.1 i4_0 i4_1 i4_2 r0 (w_thr0 y0) r1 y1 r2 iC ia i5 (j_q_le hsx)
  · -- 215
    rw [show m_ac ((V d).1 3) = 25 from by rw [ca]; rfl]
    rw [ca] at hl hwt
    have told : (V d).1 7 = 3 := hl
    have w0 : (V d).2.2.1 0 = 10 := (Option.some.inj (hwt 0 (by omega))).symm
    have w1 : (V d).2.2.1 1 = 0 := (Option.some.inj (hwt 1 (by omega))).symm
    have w2 : (V d).2.2.1 2 = 0 := (Option.some.inj (hwt 2 (by omega))).symm
    have eX : X_act V S1 ss r d a = X_serve V S1 r (fun k => (g_pt (V d).2.2.2.2 k).1) (fun k => (g_pt (V d).2.2.2.2 k).2) d a := by simp only [X_act, ca, Int.reduceEq, ↓reduceIte]
    rw [eX] at hsx
    simp only [Int.reduceEq, false_implies, not_false_eq_true, forall_const, true_and, not_true_eq_false, and_true]
    obtain ⟨t1, u1, v1⟩ := n_get1 (s := 0) hs (k := 1) (by omega) w1 rfl (by omega)
    have z1 := er 1 (by omega) (by omega)
    have r1 : 0 ≤ r 1 ∧ r 1 < S1.1 0 := by omega
    have y1 : w_thr S1 0 (r 1).toNat = true := by rw [← tr]; exact v1
    have i4_1 := i4' 1 (by omega) (by omega) (by omega)
    obtain ⟨t2, u2, v2⟩ := n_get1 (s := 0) hs (k := 2) (by omega) w2 rfl (by omega)
    have z2 := er 2 (by omega) (by omega)
    have r2 : 0 ≤ r 2 ∧ r 2 < S1.1 0 := by omega
    have y2 : w_thr S1 0 (r 2).toNat = true := by rw [← tr]; exact v2
    have i4_2 := i4' 2 (by omega) (by omega) (by omega)
    exact m_serve h3 hm3 hx (hnm0 (by omega)) D6 D18 Dq hv.2.2.2.2.2.2 D18b i4_1 i4_2 r1 r2 (hG S1 iG _ (by have := r2; omega) (w_thr0 y2)) hsx
  · -- 216
    rw [show m_ac ((V d).1 3) = 29 from by rw [ca]; rfl]
    rw [ca] at hl hwt
    have told : (V d).1 7 = 1 := hl
    have w0 : (V d).2.2.1 0 = 3 := (Option.some.inj (hwt 0 (by omega))).symm
    have eX : X_act V S1 ss r d a = X_waive S1 r := by simp only [X_act, ca, Int.reduceEq, ↓reduceIte]
    rw [eX] at hsx
    simp only [Int.reduceEq, false_implies, not_false_eq_true, forall_const, true_and, not_true_eq_false, and_true]
    obtain ⟨t0, u0, v0⟩ := n_get1 (s := 3) hs (k := 0) (by omega) w0 rfl (by omega)
    have z0 := er 0 (by omega) (by omega)
    have r0 : 0 ≤ r 0 ∧ r 0 < S1.1 3 := by omega
    have y0 : w_thr S1 3 (r 0).toNat = true := by rw [← tr]; exact v0
    have i4_0 := i4' 0 (by omega) (by omega) (by omega)
    exact m_waive h3 i4_0 r0 y0 (j_q_le hsx)
  · -- 217
    rw [show m_ac ((V d).1 3) = 30 from by rw [ca]; rfl]
    rw [ca] at hl hwt
    have told : (V d).1 7 = 3 := hl
    have w0 : (V d).2.2.1 0 = 10 := (Option.some.inj (hwt 0 (by omega))).symm
    have w1 : (V d).2.2.1 1 = 0 := (Option.some.inj (hwt 1 (by omega))).symm
    have w2 : (V d).2.2.1 2 = 1 := (Option.some.inj (hwt 2 (by omega))).symm
    have eX : X_act V S1 ss r d a = X_lease V S1 r d a := by simp only [X_act, ca, Int.reduceEq, ↓reduceIte]
    rw [eX] at hsx
    simp only [Int.reduceEq, false_implies, not_false_eq_true, forall_const, true_and, not_true_eq_false, and_true]
    obtain ⟨t1, u1, v1⟩ := n_get1 (s := 0) hs (k := 1) (by omega) w1 rfl (by omega)
    have z1 := er 1 (by omega) (by omega)
    have r1 : 0 ≤ r 1 ∧ r 1 < S1.1 0 := by omega
    have y1 : w_thr S1 0 (r 1).toNat = true := by rw [← tr]; exact v1
    have i4_1 := i4' 1 (by omega) (by omega) (by omega)
    obtain ⟨t2, u2, v2⟩ := n_get1 (s := 1) hs (k := 2) (by omega) w2 rfl (by omega)
    have z2 := er 2 (by omega) (by omega)
    have r2 : 0 ≤ r 2 ∧ r 2 < S1.1 1 := by omega
    have y2 : w_thr S1 1 (r 2).toNat = true := by rw [← tr]; exact v2
    have i4_2 := i4' 2 (by omega) (by omega) (by omega)
    exact m_lease h3 hm3 hx (hnm0 (by omega)) D5 D4 day1 i4_1 i4_2 r1 r2 hsx
  · -- 218
    rw [show m_ac ((V d).1 3) = 32 from by rw [ca]; rfl]
    rw [ca] at hl hwt
    have told : (V d).1 7 = 3 := hl
    have w0 : (V d).2.2.1 0 = 10 := (Option.some.inj (hwt 0 (by omega))).symm
    have w1 : (V d).2.2.1 1 = 0 := (Option.some.inj (hwt 1 (by omega))).symm
    have w2 : (V d).2.2.1 2 = 1 := (Option.some.inj (hwt 2 (by omega))).symm
    have eX : X_act V S1 ss r d a = X_caution V S1 r d a := by simp only [X_act, ca, Int.reduceEq, ↓reduceIte]
    rw [eX] at hsx
    simp only [Int.reduceEq, false_implies, not_false_eq_true, forall_const, true_and, not_true_eq_false, and_true]
    obtain ⟨t1, u1, v1⟩ := n_get1 (s := 0) hs (k := 1) (by omega) w1 rfl (by omega)
    have z1 := er 1 (by omega) (by omega)
    have r1 : 0 ≤ r 1 ∧ r 1 < S1.1 0 := by omega
    have y1 : w_thr S1 0 (r 1).toNat = true := by rw [← tr]; exact v1
    have i4_1 := i4' 1 (by omega) (by omega) (by omega)
    obtain ⟨t2, u2, v2⟩ := n_get1 (s := 1) hs (k := 2) (by omega) w2 rfl (by omega)
    have z2 := er 2 (by omega) (by omega)
    have r2 : 0 ≤ r 2 ∧ r 2 < S1.1 1 := by omega
    have y2 : w_thr S1 1 (r 2).toNat = true := by rw [← tr]; exact v2
    have i4_2 := i4' 2 (by omega) (by omega) (by omega)
    exact m_caution h3 hm3 hx (hnm0 (by omega)) day1 i4_1 i4_2 hsx
  · -- 219
    rw [show m_ac ((V d).1 3) = 33 from by rw [ca]; rfl]
    rw [ca] at hl hwt
    have told : (V d).1 7 = 3 := hl
    have w0 : (V d).2.2.1 0 = 10 := (Option.some.inj (hwt 0 (by omega))).symm
    have w1 : (V d).2.2.1 1 = 0 := (Option.some.inj (hwt 1 (by omega))).symm
    have w2 : (V d).2.2.1 2 = 1 := (Option.some.inj (hwt 2 (by omega))).symm
    have eX : X_act V S1 ss r d a = X_option V S1 r d a := by simp only [X_act, ca, Int.reduceEq, ↓reduceIte]
    rw [eX] at hsx
    simp only [Int.reduceEq, false_implies, not_false_eq_true, forall_const, true_and, not_true_eq_false, and_true]
    obtain ⟨t1, u1, v1⟩ := n_get1 (s := 0) hs (k := 1) (by omega) w1 rfl (by omega)
    have z1 := er 1 (by omega) (by omega)
    have r1 : 0 ≤ r 1 ∧ r 1 < S1.1 0 := by omega
    have y1 : w_thr S1 0 (r 1).toNat = true := by rw [← tr]; exact v1
    have i4_1 := i4' 1 (by omega) (by omega) (by omega)
    obtain ⟨t2, u2, v2⟩ := n_get1 (s := 1) hs (k := 2) (by omega) w2 rfl (by omega)
    have z2 := er 2 (by omega) (by omega)
    have r2 : 0 ≤ r 2 ∧ r 2 < S1.1 1 := by omega
    have y2 : w_thr S1 1 (r 2).toNat = true := by rw [← tr]; exact v2
    have i4_2 := i4' 2 (by omega) (by omega) (by omega)
    exact m_option h3 hm3 hx (hnm0 (by omega)) D5 day1 i4_1 i4_2 r1 hsx
  · -- 220
    rw [show m_ac ((V d).1 3) = 34 from by rw [ca]; rfl]
    rw [ca] at hl hwt
    have told : (V d).1 7 = 1 := hl
    have w0 : (V d).2.2.1 0 = 6 := (Option.some.inj (hwt 0 (by omega))).symm
    have eX : X_act V S1 ss r d a = X_take V S1 r d := by simp only [X_act, ca, Int.reduceEq, ↓reduceIte]
    rw [eX] at hsx
    simp only [Int.reduceEq, false_implies, not_false_eq_true, forall_const, true_and, not_true_eq_false, and_true]
    obtain ⟨t0, u0, v0⟩ := n_get1 (s := 6) hs (k := 0) (by omega) w0 rfl (by omega)
    have z0 := er 0 (by omega) (by omega)
    have r0 : 0 ≤ r 0 ∧ r 0 < S1.1 6 := by omega
    have y0 : w_thr S1 6 (r 0).toNat = true := by rw [← tr]; exact v0
    have i4_0 := i4' 0 (by omega) (by omega) (by omega)
    exact m_take h3 i4_0 r0 y0 day1 (i6 _ (by have := r0; omega) y0) i7 (j_q_le hsx)
  · -- 221
    rw [show m_ac ((V d).1 3) = 35 from by rw [ca]; rfl]
    rw [ca] at hl hwt
    have told : (V d).1 7 = 1 := hl
    have w0 : (V d).2.2.1 0 = 13 := (Option.some.inj (hwt 0 (by omega))).symm
    have eX : X_act V S1 ss r d a = X_end S1 ss r := by simp only [X_act, ca, Int.reduceEq, ↓reduceIte]
    rw [eX] at hsx
    simp only [Int.reduceEq, false_implies, not_false_eq_true, forall_const, true_and, not_true_eq_false, and_true]
    obtain ⟨s46, u0, v0⟩ := n_get13 hs (k := 0) (by omega) w0
    obtain ⟨z0, z1⟩ := er 0 (by omega) (by omega)
    have i40 : M3 4520 0 = 80 * ss 0 + r 0 := by rw [i4 0 (by omega) (by omega), if_pos w0, e0R 0 (by omega) (by omega), z0, z1]
    exact m_ended h3 (by omega) ⟨by omega, by rw [← ts, ← z0]; exact u0⟩ i40 (by rw [← ts, ← tr]; exact v0) (j_q_le hsx)
theorem m_doneB {G : w_S → Prop} (hG : ∀ S, G S → ∀ l : Nat, (l : Int) < S.1 0 → (w_l S l).1 1 = 0 → g_good (w_l S l).2.1) {V : Nat → v_D} (hF : G_fig V G) {M : e_M} {S : w_S} {a : Int} {d x : Nat} {Q : Int → e_M → Prop} (h : R_all M V S a) (hm : m_mo M) (hx : x < 152) (hD : D_at M x (V d)) (hv : v_ok (V d)) (hday : S.2.2.2 ≤ (V d).1 4) (hI : I_w G V (d_set S ((V d).1 4)))
    (hno0 : ∀ R, ¬ n_ok (d_set S ((V d).1 4)) (V d).2.1 (V d).2.2.1 ((V d).1 7) R) (hq : ∀ M', nn_ok M' → R_S V (d_set S ((V d).1 4)) (n_of M') (a + 1) → d_keep M M' → M' 4456 86 = (V d).1 4 → Q 1 M') : WX12_done x M Q := by
  obtain ⟨hn, hc, hR, hz, hg, hd⟩ := id h
  have tx : ((x : Nat) : Int).toNat = x := by omega
  obtain ⟨⟨d1, d2, d3, -, -, -⟩, d7, -, -, -⟩ := id hD
  have hv4 := hv.2.2.2.1.1
  unfold WX12_done VX12_done
  rw [tx, d2]
  refine ⟨by omega, fun M1 e1 => ?_⟩
  have f1 : ∀ b, b ≠ 4456 → M1 b = M b := fun b hb => by rw [e1, e_up_row hb]
  have g1 : ∀ k, k ≠ 86 → M1 4456 k = M 4456 k := fun k hk => by rw [e1, e_up_ne (fun z => hk z.2)]
  obtain ⟨u1, u2⟩ := n_upD (M := M) (day := (V d).1 4) hn
  rw [← e1] at u1 u2
  have h1 : R_all M1 V (d_set S ((V d).1 4)) a := ⟨u1, ⟨fun k hk => by rw [f1 4457 (by omega)]; exact hc.1 k hk, fun l m hl hm => by rw [f1 4458 (by omega)]; exact hc.2 l m hl hm⟩, by rw [u2]; exact R_up hR hday (by omega), hz, hg, hv4⟩
  generalize hS1 : d_set S ((V d).1 4) = S1 at *
  have day1 : (V d).1 4 = S1.2.2.2 := by rw [← hS1]; rfl
  obtain ⟨⟨iu, iC, ia⟩, ⟨i5, i3⟩, il, i6, i7, i1p, iG⟩ := id hI
  -- from a memory that differs in what the NAMES stand for
  have fin : ∀ (M3 M' : e_M), (∀ b, b ≠ 4520 → M3 b = M1 b) → j_keep M3 M' → d_keep M M' ∧ M' 4456 86 = (V d).1 4 := fun M3 M' f3 k3 => by
    refine ⟨⟨fun b hb hb6 => ?_, fun k hk => ?_⟩, ?_⟩
    · rw [k3.1 b (by omega), f3 b (by omega), f1 b hb6]
    · rw [k3.2 k (by omega), f3 4456 (by omega), g1 k (by omega)]
    · rw [k3.2 86 (by omega), f3 4456 (by omega), e1, e_up_eq]
  have q1 : ∀ M3, (∀ b, b ≠ 4520 → M3 b = M1 b) → Q 1 M3 := fun M3 f3 => by
    obtain ⟨b1, b2⟩ := fin M3 M3 f3 j_keep_refl
    have h3 := R_all_same h1 f3
    exact hq M3 h3.1 (R_S_le h3.2.2.1 (by omega)) b1 b2
  have hl := hv.2.1.1
  have hwt : ∀ k : Nat, (k : Int) < (V d).1 7 → (v_ws ((V d).1 3) ((V d).1 7))[k]? = some ((V d).2.2.1 k) := fun k hk => by
    have := hv.2.1.2 k
    rw [if_pos hk] at this; exact this
  refine m_areNamed (told := (V d).1 7) (nm := (V d).2.1) (wt := (V d).2.2.1) h1 iu hx hv.1 (by rw [f1 4461 (by omega)]; exact d1) (by rw [f1 4463 (by omega)]; exact d3) (by have := hv.2.2.1.1; omega) (fun k hk => by rw [f1 4467 (by omega)]; exact d7 k hk) hwt (fun R0 M3 hR3 i4 f3 => ⟨fun _ => ⟨by omega, ?_⟩, fun z => by omega⟩) (fun hno M3 f3 => ⟨fun z => absurd rfl z, fun _ => q1 M3 f3⟩)
  have h3 := R_all_same h1 f3
  have hm3 : m_mo M3 := fun s hs => by rw [f3 4482 (by omega), f1 4482 (by omega)]; exact hm s hs
  have hD3 : D_at M3 x (V d) := D_at_congr hD (fun b b1 b2 => by rw [f3 b (by omega), f1 b (by omega)])
  obtain ⟨⟨D1, D2, D3, D4, D5, D6⟩, D7, Ds, ⟨Dp, D15, D15b, D16, D17⟩, Dq, D18, D18b⟩ := id hD3
  have hnm0 : 0 < (V d).1 7 → M3 4467 (10 * x) = (V d).2.1 0 := fun h0 => by have := D7 0 (by omega); exact this
  have nos := q1 M3 f3
  have hs := hno0 R0
  have wk0 := n_weak hR3 hs
  have hac := hv.1
  have hca : (V d).1 3 = 200 ∨ (V d).1 3 = 201 ∨ (V d).1 3 = 202 ∨ (V d).1 3 = 203 ∨ (V d).1 3 = 204 ∨ (V d).1 3 = 205 ∨ (V d).1 3 = 206 ∨ (V d).1 3 = 207 ∨ (V d).1 3 = 208 ∨ (V d).1 3 = 209 ∨ (V d).1 3 = 210 ∨ (V d).1 3 = 211 ∨ (V d).1 3 = 212 ∨ (V d).1 3 = 213 ∨ (V d).1 3 = 214 ∨ (V d).1 3 = 215 ∨ (V d).1 3 = 216 ∨ (V d).1 3 = 217 ∨ (V d).1 3 = 218 ∨ (V d).1 3 = 219 ∨ (V d).1 3 = 220 ∨ (V d).1 3 = 221 := by omega
  rw [D1]
  rcases hca with ca | ca | ca | ca | ca | ca | ca | ca | ca | ca | ca | ca | ca | ca | ca | ca | ca | ca | ca | ca | ca | ca
  · -- 200
    rw [show m_ac ((V d).1 3) = 4 from by rw [ca]; rfl]
    rw [ca] at hl hwt
    have told : (V d).1 7 = 1 := hl
    have w0 : (V d).2.2.1 0 = 10 := (Option.some.inj (hwt 0 (by omega))).symm
    simp only [Int.reduceEq, false_implies, not_false_eq_true, forall_const, true_and, not_true_eq_false, and_true]
    exfalso
    obtain ⟨k, hk, hh⟩ := wk0
    have : k = 0 := by omega
    subst this
    omega
  · -- 201
    rw [show m_ac ((V d).1 3) = 6 from by rw [ca]; rfl]
    rw [ca] at hl hwt
    have told : (V d).1 7 = 2 := hl
    have w0 : (V d).2.2.1 0 = 10 := (Option.some.inj (hwt 0 (by omega))).symm
    have w1 : (V d).2.2.1 1 = 11 := (Option.some.inj (hwt 1 (by omega))).symm
    simp only [Int.reduceEq, false_implies, not_false_eq_true, forall_const, true_and, not_true_eq_false, and_true]
    obtain ⟨k, hk, hh⟩ := wk0
    have : k = 0 ∨ k = 1 := by omega
    obtain ⟨-, u1', -⟩ := n_get1 (s := 1) hR3 (k := 1) (by omega) (show wk ((V d).2.2.1 1) = 1 by rw [w1]; rfl) rfl (by omega)
    rcases this with rfl | rfl
    · omega
    · exact m_firm1 (p := (R0 1).2) h3 (by rw [i4 1 (by omega) (by omega), if_neg (by omega)]) u1' (hh.elim (fun z => z.2) (fun z => by omega)) nos
  · -- 202
    rw [show m_ac ((V d).1 3) = 8 from by rw [ca]; rfl]
    rw [ca] at hl hwt
    have told : (V d).1 7 = 2 := hl
    have w0 : (V d).2.2.1 0 = 11 := (Option.some.inj (hwt 0 (by omega))).symm
    have w1 : (V d).2.2.1 1 = 11 := (Option.some.inj (hwt 1 (by omega))).symm
    simp only [Int.reduceEq, false_implies, not_false_eq_true, forall_const, true_and, not_true_eq_false, and_true]
    obtain ⟨k, hk, hh⟩ := wk0
    have : k = 0 ∨ k = 1 := by omega
    obtain ⟨-, u0', -⟩ := n_get1 (s := 1) hR3 (k := 0) (by omega) (show wk ((V d).2.2.1 0) = 1 by rw [w0]; rfl) rfl (by omega)
    obtain ⟨-, u1', -⟩ := n_get1 (s := 1) hR3 (k := 1) (by omega) (show wk ((V d).2.2.1 1) = 1 by rw [w1]; rfl) rfl (by omega)
    refine m_guard1 (p := (R0 0).2) (q := (R0 1).2) h3 (by rw [i4 0 (by omega) (by omega), if_neg (by omega)]) (by rw [i4 1 (by omega) (by omega), if_neg (by omega)]) u0' u1' ?_ nos
    rcases this with rfl | rfl
    · exact fun z => (hh.elim (fun y => y.2) (fun y => by omega)) z.1
    · exact fun z => (hh.elim (fun y => y.2) (fun y => by omega)) z.2
  · -- 203
    rw [show m_ac ((V d).1 3) = 9 from by rw [ca]; rfl]
    rw [ca] at hl hwt
    have hp15 := hv.2.2.1.2.1 ca
    have ev : v_ws 203 ((V d).1 7) = 11 :: List.replicate ((V d).1 7 - 1).toNat 1 := rfl
    have p15 : 0 ≤ (V d).1 15 := D15b.1
    have w0 : (V d).2.2.1 0 = 11 := (Option.some.inj (hwt 0 (by omega))).symm
    have wk1 : ∀ k : Nat, ((k + 1 : Nat) : Int) < (V d).1 7 → (V d).2.2.1 (k + 1) = 1 := fun k hk => by
      have := hwt (k + 1) hk
      rw [ev] at this
      exact g_rep (n := ((V d).1 7 - 1).toNat) (k := k) this
    simp only [Int.reduceEq, false_implies, not_false_eq_true, forall_const, true_and, not_true_eq_false, and_true]
    obtain ⟨k, hk, hh⟩ := wk0
    obtain ⟨-, u0', -⟩ := n_get1 (s := 1) hR3 (k := 0) (by omega) (show wk ((V d).2.2.1 0) = 1 by rw [w0]; rfl) rfl (by omega)
    have k0 : k = 0 := by
      cases k with
      | zero => rfl
      | succ k => have := wk1 k hk; omega
    subst k0
    exact m_death1 (p := (R0 0).2) h3 (by rw [i4 0 (by omega) (by omega), if_neg (by omega)]) u0' (hh.elim (fun z => z.2) (fun z => by omega)) nos
  · -- 204
    rw [show m_ac ((V d).1 3) = 10 from by rw [ca]; rfl]
    rw [ca] at hl hwt
    have told : (V d).1 7 = 1 := hl
    have w0 : (V d).2.2.1 0 = 12 := (Option.some.inj (hwt 0 (by omega))).symm
    simp only [Int.reduceEq, false_implies, not_false_eq_true, forall_const, true_and, not_true_eq_false, and_true]
    obtain ⟨k, hk, hh⟩ := wk0
    obtain ⟨-, u0', -⟩ := n_get1 (s := 1) hR3 (k := 0) (by omega) (show wk ((V d).2.2.1 0) = 1 by rw [w0]; rfl) rfl (by omega)
    have k0 : k = 0 := by omega
    subst k0
    exact m_close1 (p := (R0 0).2) h3 (by rw [i4 0 (by omega) (by omega), if_neg (by omega)]) u0' (hh.elim (fun z => by omega) (fun z => z.2)) nos
  · -- 205
    rw [show m_ac ((V d).1 3) = 11 from by rw [ca]; rfl]
    rw [ca] at hl hwt
    have hp15 := hv.2.2.1.2.2.1 ca
    have ev : v_ws 205 ((V d).1 7) = 0 :: 1 :: List.replicate ((V d).1 7 - 2).toNat 1 := rfl
    have p15 : 0 ≤ (V d).1 15 := D15b.1
    have w0 : (V d).2.2.1 0 = 0 := (Option.some.inj (hwt 0 (by omega))).symm
    have w1 : (V d).2.2.1 1 = 1 := (Option.some.inj (hwt 1 (by omega))).symm
    have wk1 : ∀ k : Nat, ((k + 2 : Nat) : Int) < (V d).1 7 → (V d).2.2.1 (k + 2) = 1 := fun k hk => by
      have := hwt (k + 2) hk
      rw [ev] at this
      exact g_rep (n := ((V d).1 7 - 2).toNat) (k := k) this
    simp only [Int.reduceEq, false_implies, not_false_eq_true, forall_const, true_and, not_true_eq_false, and_true]
    exfalso
    obtain ⟨k, hk, hh⟩ := wk0
    match k, hk, hh with
    | 0, hk, hh => omega
    | 1, hk, hh => omega
    | k + 2, hk, hh => have := wk1 k hk; omega
  · -- 206
    rw [show m_ac ((V d).1 3) = 14 from by rw [ca]; rfl]
    rw [ca] at hl hwt
    have told : (V d).1 7 = 3 := hl
    have w0 : (V d).2.2.1 0 = 0 := (Option.some.inj (hwt 0 (by omega))).symm
    have w1 : (V d).2.2.1 1 = 10 := (Option.some.inj (hwt 1 (by omega))).symm
    have w2 : (V d).2.2.1 2 = 10 := (Option.some.inj (hwt 2 (by omega))).symm
    simp only [Int.reduceEq, false_implies, not_false_eq_true, forall_const, true_and, not_true_eq_false, and_true]
    exfalso
    obtain ⟨k, hk, hh⟩ := wk0
    have : k = 0 ∨ k = 1 ∨ k = 2 := by omega
    rcases this with rfl | rfl | rfl <;> omega
  · -- 207
    rw [show m_ac ((V d).1 3) = 16 from by rw [ca]; rfl]
    rw [ca] at hl hwt
    have told : (V d).1 7 = 3 := hl
    have w0 : (V d).2.2.1 0 = 0 := (Option.some.inj (hwt 0 (by omega))).symm
    have w1 : (V d).2.2.1 1 = 0 := (Option.some.inj (hwt 1 (by omega))).symm
    have w2 : (V d).2.2.1 2 = 10 := (Option.some.inj (hwt 2 (by omega))).symm
    simp only [Int.reduceEq, false_implies, not_false_eq_true, forall_const, true_and, not_true_eq_false, and_true]
    exfalso
    obtain ⟨k, hk, hh⟩ := wk0
    have : k = 0 ∨ k = 1 ∨ k = 2 := by omega
    rcases this with rfl | rfl | rfl <;> omega
  · -- 208
    rw [show m_ac ((V d).1 3) = 17 from by rw [ca]; rfl]
    rw [ca] at hl hwt
    have told : (V d).1 7 = 2 := hl
    have w0 : (V d).2.2.1 0 = 0 := (Option.some.inj (hwt 0 (by omega))).symm
    have w1 : (V d).2.2.1 1 = 0 := (Option.some.inj (hwt 1 (by omega))).symm
    simp only [Int.reduceEq, false_implies, not_false_eq_true, forall_const, true_and, not_true_eq_false, and_true]
    exfalso
    obtain ⟨k, hk, hh⟩ := wk0
    have : k = 0 ∨ k = 1 := by omega
    rcases this with rfl | rfl <;> omega
  · -- 209
    rw [show m_ac ((V d).1 3) = 18 from by rw [ca]; rfl]
    rw [ca] at hl hwt
    have h93 := hv.2.2.1.2.2.2 ca
    have ev : v_ws 209 ((V d).1 7) = 10 :: (List.replicate ((V d).1 7 - 2).toNat 0 ++ [1]) := rfl
    have w0 : (V d).2.2.1 0 = 10 := (Option.some.inj (hwt 0 (by omega))).symm
    have wk1 : ∀ k : Nat, ((k + 1 : Nat) : Int) < (V d).1 7 → (((k + 1 : Nat) : Int) < (V d).1 7 - 1 → (V d).2.2.1 (k + 1) = 0) ∧ (V d).2.2.1 (k + 1) ≤ 1 ∧ 0 ≤ (V d).2.2.1 (k + 1) := fun k hk => by
      have h := hwt (k + 1) hk
      rw [ev] at h
      have h : (List.replicate ((V d).1 7 - 2).toNat (0 : Int) ++ [1])[k]? = some ((V d).2.2.1 (k + 1)) := h
      by_cases c : k < ((V d).1 7 - 2).toNat
      · rw [List.getElem?_append_left (by rw [List.length_replicate]; exact c)] at h
        have := g_rep h
        omega
      · rw [List.getElem?_append_right (by rw [List.length_replicate]; omega), List.length_replicate] at h
        have e0 : k - ((V d).1 7 - 2).toNat = 0 := by omega
        rw [e0] at h
        have := Option.some.inj (show some (1 : Int) = some ((V d).2.2.1 (k + 1)) from h)
        omega
    simp only [Int.reduceEq, false_implies, not_false_eq_true, forall_const, true_and, not_true_eq_false, and_true]
    exfalso
    obtain ⟨k, hk, hh⟩ := wk0
    match k, hk, hh with
    | 0, hk, hh => omega
    | k + 1, hk, hh => have := wk1 k hk; omega
  · -- 210
    rw [show m_ac ((V d).1 3) = 19 from by rw [ca]; rfl]
    rw [ca] at hl hwt
    have told : (V d).1 7 = 1 := hl
    have w0 : (V d).2.2.1 0 = 2 := (Option.some.inj (hwt 0 (by omega))).symm
    simp only [Int.reduceEq, false_implies, not_false_eq_true, forall_const, true_and, not_true_eq_false, and_true]
    exfalso
    obtain ⟨k, hk, hh⟩ := wk0
    have : k = 0 := by omega
    subst this
    omega
  · -- 211
    rw [show m_ac ((V d).1 3) = 20 from by rw [ca]; rfl]
    rw [ca] at hl hwt
    have told : (V d).1 7 = 2 := hl
    have w0 : (V d).2.2.1 0 = 2 := (Option.some.inj (hwt 0 (by omega))).symm
    have w1 : (V d).2.2.1 1 = 1 := (Option.some.inj (hwt 1 (by omega))).symm
    simp only [Int.reduceEq, false_implies, not_false_eq_true, forall_const, true_and, not_true_eq_false, and_true]
    exfalso
    obtain ⟨k, hk, hh⟩ := wk0
    have : k = 0 ∨ k = 1 := by omega
    rcases this with rfl | rfl <;> omega
  · -- 212
    rw [show m_ac ((V d).1 3) = 21 from by rw [ca]; rfl]
    rw [ca] at hl hwt
    have told : (V d).1 7 = 3 := hl
    have w0 : (V d).2.2.1 0 = 2 := (Option.some.inj (hwt 0 (by omega))).symm
    have w1 : (V d).2.2.1 1 = 2 := (Option.some.inj (hwt 1 (by omega))).symm
    have w2 : (V d).2.2.1 2 = 0 := (Option.some.inj (hwt 2 (by omega))).symm
    simp only [Int.reduceEq, false_implies, not_false_eq_true, forall_const, true_and, not_true_eq_false, and_true]
    exfalso
    obtain ⟨k, hk, hh⟩ := wk0
    have : k = 0 ∨ k = 1 ∨ k = 2 := by omega
    rcases this with rfl | rfl | rfl <;> omega
  · -- 213
    rw [show m_ac ((V d).1 3) = 23 from by rw [ca]; rfl]
    rw [ca] at hl hwt
    have told : (V d).1 7 = 2 := hl
    have w0 : (V d).2.2.1 0 = 0 := (Option.some.inj (hwt 0 (by omega))).symm
    have w1 : (V d).2.2.1 1 = 2 := (Option.some.inj (hwt 1 (by omega))).symm
    simp only [Int.reduceEq, false_implies, not_false_eq_true, forall_const, true_and, not_true_eq_false, and_true]
    exfalso
    obtain ⟨k, hk, hh⟩ := wk0
    have : k = 0 ∨ k = 1 := by omega
    rcases this with rfl | rfl <;> omega
  · -- 214
    rw [show m_ac ((V d).1 3) = 24 from by rw [ca]; rfl]
    rw [ca] at hl hwt
    have told : (V d).1 7 = 3 := hl
    have w0 : (V d).2.2.1 0 = 0 := (Option.some.inj (hwt 0 (by omega))).symm
    have w1 : (V d).2.2.1 1 = 2 := (Option.some.inj (hwt 1 (by omega))).symm
    have w2 : (V d).2.2.1 2 = 1 := (Option.some.inj (hwt 2 (by omega))).symm
    simp only [Int.reduceEq, false_implies, not_false_eq_true, forall_const, true_and, not_true_eq_false, and_true]
    exfalso
    obtain ⟨k, hk, hh⟩ := wk0
    have : k = 0 ∨ k = 1 ∨ k = 2 := by omega
    rcases this with rfl | rfl | rfl <;> omega
  · -- 215
    rw [show m_ac ((V d).1 3) = 25 from by rw [ca]; rfl]
    rw [ca] at hl hwt
    have told : (V d).1 7 = 3 := hl
    have w0 : (V d).2.2.1 0 = 10 := (Option.some.inj (hwt 0 (by omega))).symm
    have w1 : (V d).2.2.1 1 = 0 := (Option.some.inj (hwt 1 (by omega))).symm
    have w2 : (V d).2.2.1 2 = 0 := (Option.some.inj (hwt 2 (by omega))).symm
    simp only [Int.reduceEq, false_implies, not_false_eq_true, forall_const, true_and, not_true_eq_false, and_true]
    exfalso
    obtain ⟨k, hk, hh⟩ := wk0
    have : k = 0 ∨ k = 1 ∨ k = 2 := by omega
    rcases this with rfl | rfl | rfl <;> omega
  · -- 216
    rw [show m_ac ((V d).1 3) = 29 from by rw [ca]; rfl]
    rw [ca] at hl hwt
    have told : (V d).1 7 = 1 := hl
    have w0 : (V d).2.2.1 0 = 3 := (Option.some.inj (hwt 0 (by omega))).symm
    simp only [Int.reduceEq, false_implies, not_false_eq_true, forall_const, true_and, not_true_eq_false, and_true]
    exfalso
    obtain ⟨k, hk, hh⟩ := wk0
    have : k = 0 := by omega
    subst this
    omega
  · -- 217
    rw [show m_ac ((V d).1 3) = 30 from by rw [ca]; rfl]
    rw [ca] at hl hwt
    have told : (V d).1 7 = 3 := hl
    have w0 : (V d).2.2.1 0 = 10 := (Option.some.inj (hwt 0 (by omega))).symm
    have w1 : (V d).2.2.1 1 = 0 := (Option.some.inj (hwt 1 (by omega))).symm
    have w2 : (V d).2.2.1 2 = 1 := (Option.some.inj (hwt 2 (by omega))).symm
    simp only [Int.reduceEq, false_implies, not_false_eq_true, forall_const, true_and, not_true_eq_false, and_true]
    exfalso
    obtain ⟨k, hk, hh⟩ := wk0
    have : k = 0 ∨ k = 1 ∨ k = 2 := by omega
    rcases this with rfl | rfl | rfl <;> omega
  · -- 218
    rw [show m_ac ((V d).1 3) = 32 from by rw [ca]; rfl]
    rw [ca] at hl hwt
    have told : (V d).1 7 = 3 := hl
    have w0 : (V d).2.2.1 0 = 10 := (Option.some.inj (hwt 0 (by omega))).symm
    have w1 : (V d).2.2.1 1 = 0 := (Option.some.inj (hwt 1 (by omega))).symm
    have w2 : (V d).2.2.1 2 = 1 := (Option.some.inj (hwt 2 (by omega))).symm
    simp only [Int.reduceEq, false_implies, not_false_eq_true, forall_const, true_and, not_true_eq_false, and_true]
    exfalso
    obtain ⟨k, hk, hh⟩ := wk0
    have : k = 0 ∨ k = 1 ∨ k = 2 := by omega
    rcases this with rfl | rfl | rfl <;> omega
  · -- 219
    rw [show m_ac ((V d).1 3) = 33 from by rw [ca]; rfl]
    rw [ca] at hl hwt
    have told : (V d).1 7 = 3 := hl
    have w0 : (V d).2.2.1 0 = 10 := (Option.some.inj (hwt 0 (by omega))).symm
    have w1 : (V d).2.2.1 1 = 0 := (Option.some.inj (hwt 1 (by omega))).symm
    have w2 : (V d).2.2.1 2 = 1 := (Option.some.inj (hwt 2 (by omega))).symm
    simp only [Int.reduceEq, false_implies, not_false_eq_true, forall_const, true_and, not_true_eq_false, and_true]
    exfalso
    obtain ⟨k, hk, hh⟩ := wk0
    have : k = 0 ∨ k = 1 ∨ k = 2 := by omega
    rcases this with rfl | rfl | rfl <;> omega
  · -- 220
    rw [show m_ac ((V d).1 3) = 34 from by rw [ca]; rfl]
    rw [ca] at hl hwt
    have told : (V d).1 7 = 1 := hl
    have w0 : (V d).2.2.1 0 = 6 := (Option.some.inj (hwt 0 (by omega))).symm
    simp only [Int.reduceEq, false_implies, not_false_eq_true, forall_const, true_and, not_true_eq_false, and_true]
    exfalso
    obtain ⟨k, hk, hh⟩ := wk0
    have : k = 0 := by omega
    subst this
    omega
  · -- 221
    rw [show m_ac ((V d).1 3) = 35 from by rw [ca]; rfl]
    rw [ca] at hl hwt
    have told : (V d).1 7 = 1 := hl
    have w0 : (V d).2.2.1 0 = 13 := (Option.some.inj (hwt 0 (by omega))).symm
    simp only [Int.reduceEq, false_implies, not_false_eq_true, forall_const, true_and, not_true_eq_false, and_true]
    exfalso
    obtain ⟨k, hk, hh⟩ := wk0
    have : k = 0 := by omega
    subst this
    omega
theorem m_done {G : w_S → Prop} (hG : ∀ S, G S → ∀ l : Nat, (l : Int) < S.1 0 → (w_l S l).1 1 = 0 → g_good (w_l S l).2.1) {V : Nat → v_D} (hF : G_fig V G) {M : e_M} {S : w_S} {a : Int} {d x : Nat} {X : Int × w_S} {Q : Int → e_M → Prop} (h : R_all M V S a) (hm : m_mo M) (hx : x < 152) (hD : D_at M x (V d)) (hv : v_ok (V d)) (hday : S.2.2.2 ≤ (V d).1 4) (hI : I_w G V (d_set S ((V d).1 4))) (hX : X_perf V S d a X)
    (hq : ∀ M', nn_ok M' → R_S V X.2 (n_of M') (a + 1) → d_keep M M' → M' 4456 86 = (V d).1 4 → Q X.1 M') : WX12_done x M Q := by
  rcases hX with ⟨e, hno⟩ | ⟨ss, r, hok, hnn, e⟩
  · subst e
    exact m_doneB hG hF h hm hx hD hv hday hI hno hq
  · subst e
    exact m_doneA hG hF h hm hx hD hv hday hI hok hnn hq
