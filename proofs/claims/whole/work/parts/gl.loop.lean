/-! THE MODEL: through all things of the sorts 2 .. 6 -/
def j_tfr (M M' : e_M) : Prop := ∀ b, b ≠ 4485 → b ≠ 4492 → b ≠ 4493 → b ≠ 4494 → b ≠ 4495 → M' b = M b
theorem j_tfr_r {M : e_M} : j_tfr M M := fun _ _ _ _ _ _ => rfl
theorem j_tfr_t {M N K : e_M} (h : j_tfr M N) (k : j_tfr N K) : j_tfr M K := fun b b1 b2 b3 b4 b5 => (k b b1 b2 b3 b4 b5).trans (h b b1 b2 b3 b4 b5)
theorem j_tfr_keep {M N : e_M} (h : j_tfr M N) : j_keep M N := j_keep_of (fun b hb => h b (by omega) (by omega) (by omega) (by omega) (by omega))
theorem j_tfr_fg {M N : e_M} (h : j_tfr M N) {a : Nat} {k : Int} : j_fg N a k = j_fg M a k := by
  unfold j_fg; rw [h 4480 (by omega) (by omega) (by omega) (by omega) (by omega), h 4481 (by omega) (by omega) (by omega) (by omega) (by omega)]
theorem j_tfr_pt {M N : e_M} (h : j_tfr M N) {v : Nat} : n_pt N v = n_pt M v := n_pt_congr (fun b b1 b2 => h b (by omega) (by omega) (by omega) (by omega) (by omega))
def p_st (z : Nat → Int) (s : Nat) (i : Int) (t : Nat) : Bool := decide (160 ≤ t ∧ ((t / 80 < s ∧ ((t % 80 : Nat) : Int) < z (t / 80)) ∨ (t / 80 = s ∧ ((t % 80 : Nat) : Int) < i)))
theorem p_st_2 {z : Nat → Int} {t : Nat} : p_st z 2 0 t = false := decide_eq_false (by
  rintro ⟨h1, h2 | h2⟩
  · omega
  · omega)
theorem p_st_next {z : Nat → Int} {s t : Nat} : p_st z s (z s) t = p_st z (s + 1) 0 t := by
  unfold p_st
  refine decide_eq_decide.mpr ⟨fun h => ⟨h.1, Or.inl ?_⟩, fun h => ⟨h.1, ?_⟩⟩
  · rcases h.2 with k | k
    · exact ⟨by omega, k.2⟩
    · exact ⟨by omega, by rw [k.1]; exact k.2⟩
  · rcases h.2 with k | k
    · by_cases c : t / 80 = s
      · exact Or.inr ⟨c, by rw [← c]; exact k.2⟩
      · exact Or.inl ⟨by omega, k.2⟩
    · omega
theorem p_st_S {z : Nat → Int} {s i t : Nat} (hs : 2 ≤ s) (hi : i < 80) : p_st z s ((i : Int) + 1) t = (p_st z s i t || decide (t = 80 * s + i)) := by
  unfold p_st
  by_cases c : t = 80 * s + i
  · rw [decide_eq_true c, Bool.or_true]
    exact decide_eq_true ⟨by omega, Or.inr ⟨by omega, by omega⟩⟩
  · rw [decide_eq_false c, Bool.or_false]
    refine decide_eq_decide.mpr ⟨fun h => ⟨h.1, ?_⟩, fun h => ⟨h.1, ?_⟩⟩
    · rcases h.2 with k | k
      · exact Or.inl k
      · exact Or.inr ⟨k.1, by omega⟩
    · rcases h.2 with k | k
      · exact Or.inl k
      · exact Or.inr ⟨k.1, by omega⟩
theorem p_st_T {z : Nat → Int} {s i : Nat} (hi : i < 80) : p_st z s i (80 * s + i) = false := decide_eq_false (by
  rintro ⟨h1, h2 | h2⟩
  · omega
  · omega)
theorem p_st_at {z : Nat → Int} {s i : Nat} (hs : s < 7) (hi : i < 80) : p_st z 7 0 (80 * s + i) = decide (2 ≤ s ∧ (i : Int) < z s) := by
  unfold p_st
  have e1 : (80 * s + i) / 80 = s := by omega
  have e2 : (80 * s + i) % 80 = i := by omega
  rw [e1, e2]
  refine decide_eq_decide.mpr ⟨fun h => ?_, fun h => ⟨by omega, Or.inl ⟨hs, h.2⟩⟩⟩
  rcases h.2 with k | k
  · exact ⟨by omega, k.2⟩
  · omega
/-- what is done at each thing is done at all -/
theorem m_srts {M0 : e_M} {N0 : n_S} {z : Nat → Int} {g : Nat → w_T → w_T} {O : Nat → Int → e_M → Prop} {I : Nat → Nat → Int → Int → e_M → Prop} (h0 : nn_ok M0) (e0 : n_of M0 = N0) (hz : ∀ s, s < 7 → 0 ≤ z s ∧ z s ≤ 80)
    (hO : ∀ (d s : Nat) (M : e_M), 2 ≤ s → s ≤ 6 → (∃ j, I d j s 0 M) → O (d + 1) s M)
    (hE : ∀ (d : Nat) (M : e_M), nn_ok M → n_of M = n_pm N0 (p_st z 7 0) g → j_tfr M0 M → O (d + 1) 7 M)
    (hN : ∀ (d j s : Nat) (M : e_M), 2 ≤ s → s ≤ 6 → nn_ok M → (n_of M).1 = N0.1 → O d ((s : Int) + 1) M → I d (j + 1) s (z s) M)
    (hI : ∀ (d j s k : Nat) (M : e_M), 2 ≤ s → s ≤ 6 → (k : Int) < z s → k < 80 → nn_ok M → (n_of M).1 = N0.1 → (n_of M).2.1 (80 * s + k) = N0.2.1 (80 * s + k) → j_tfr M0 M → (∀ M', nn_ok M' → n_of M' = n_setT (n_of M) (80 * s + k) (g (80 * s + k) (N0.2.1 (80 * s + k))) → j_tfr M M' → I d j s ((k : Int) + 1) M') → I d (j + 1) s k M) : ∃ j, O j 2 M0 := by
  refine s_up (σ := e_M) (P := fun dd s N => O dd s N) (n := 7) (i0 := 2) (s := M0) (fun s N => nn_ok N ∧ n_of N = n_pm N0 (p_st z s.toNat 0) g ∧ j_tfr M0 N) (by omega) ⟨h0, by show _ = n_pm N0 (p_st z 2 0) g; rw [n_pm_0 (p := p_st z 2 0) (fun t => p_st_2)]; exact e0, j_tfr_r⟩ (fun d N ⟨h1, h2, h3⟩ => hE d N h1 h2 h3) ?_
  intro d s' N s1 s2 ⟨h1, h2, h3⟩ ih
  obtain ⟨s, es⟩ : ∃ s : Nat, s' = s := ⟨s'.toNat, by omega⟩
  subst es
  have h2 : n_of N = n_pm N0 (p_st z s 0) g := h2
  have zs := hz s (by omega)
  refine hO d s N (by omega) (by omega) ?_
  refine s_up (σ := e_M) (P := fun dd i N' => I d dd s i N') (n := z s) (i0 := 0) (s := N) (fun i N' => nn_ok N' ∧ n_of N' = n_pm N0 (p_st z s i) g ∧ j_tfr M0 N') zs.1 ⟨h1, h2, h3⟩ ?_ ?_
  · intro j N' ⟨k1, k2, k3⟩
    refine hN d j s N' (by omega) (by omega) k1 (by rw [k2]; rfl) (ih N' ⟨k1, ?_, k3⟩)
    rw [k2, show ((s : Int) + 1).toNat = s + 1 by omega]
    congr 1
    funext t
    exact p_st_next
  · intro j i' N' i1 i2 ⟨k1, k2, k3⟩ ih2
    obtain ⟨k, ek⟩ : ∃ k : Nat, i' = k := ⟨i'.toNat, by omega⟩
    subst ek
    have pT : p_st z s k (80 * s + k) = false := p_st_T (by omega)
    have eT : (n_of N').2.1 (80 * s + k) = N0.2.1 (80 * s + k) := by rw [k2, n_pm_at, pT, if_neg (by decide)]
    refine hI d j s k N' (by omega) (by omega) i2 (by omega) k1 (by rw [k2]; rfl) eT k3 (fun M' v1 v2 v3 => ih2 M' ⟨v1, ?_, j_tfr_t k3 v3⟩)
    rw [v2, n_pm_step pT (fun t => p_st_S (by omega) (by omega)), ← k2, eT]
/-! one thing's rows -/
theorem k_len1 {M : e_M} {N0 : n_S} {T : Nat} {y : w_T} (hn : nn_ok M) (hT : T < 560) (e : n_of M = n_setT N0 T y) : j_row M 4492 4493 T = y.2.1 ∧ j_row M 4494 4495 T = y.2.2 ∧ M 4492 T = (y.2.1.length : Int) ∧ M 4494 T = (y.2.2.length : Int) := by
  have y1 : (n_of M).2.1 T = y := by rw [e]; exact n_setT_at
  obtain ⟨r1, r2⟩ := n_r (M := M) hT
  rw [y1] at r1 r2
  have ok := hn.2.1 T hT
  unfold j_ok at ok
  have l1 := congrArg List.length r1
  have l2 := congrArg List.length r2
  unfold j_row at l1 l2
  rw [s_ar_len] at l1 l2
  exact ⟨r1, r2, by omega, by omega⟩
theorem k_offOn {M : e_M} {N0 : n_S} {T : Nat} {t' k : Int} {y : w_T} {Q : e_M → Prop} (et : t' = (T : Int)) (hn : nn_ok M) (hT : T < 560) (e : n_of M = n_setT N0 T y) (hk : 0 ≤ k ∧ k < y.2.1.length) (hq : ∀ M', nn_ok M' → n_of M' = n_setT N0 T (y.1, y.2.1.eraseIdx k.toNat, y.2.2) → j_tfr M M' → Q M') : WX12_offOn t' k M Q := by
  subst et
  obtain ⟨r1, r2, l1, l2⟩ := k_len1 hn hT e
  have tn : ((T : Nat) : Int).toNat = T := by omega
  refine m_offOn (by omega) (by rw [tn]; exact (hn.2.1 T hT).1) (by rw [tn, l1]; exact hk) (fun M' q1 q2 q3 => ?_)
  rw [tn] at q1 q2 q3
  rw [r1] at q1
  obtain ⟨u1, u2⟩ := N_on hn hT q1 q2 q3
  refine hq M' u1 ?_ (fun b b1 b2 b3 b4 b5 => q3.1 b b2 b3)
  rw [u2, e]
  unfold n_on
  rw [n_setT_setT, n_setT_at]
theorem k_inOn {M : e_M} {N0 : n_S} {T : Nat} {t' k x : Int} {y : w_T} {Q : e_M → Prop} (et : t' = (T : Int)) (hn : nn_ok M) (hT : T < 560) (e : n_of M = n_setT N0 T y) (h7 : y.2.1.length < 8) (hk : 0 ≤ k ∧ k ≤ y.2.1.length) (hq : ∀ M', nn_ok M' → n_of M' = n_setT N0 T (y.1, r_in y.2.1 k.toNat x, y.2.2) → j_tfr M M' → Q M') : WX12_inOn t' k x M Q := by
  subst et
  obtain ⟨r1, r2, l1, l2⟩ := k_len1 hn hT e
  have tn : ((T : Nat) : Int).toNat = T := by omega
  refine m_inOn (by omega) (by rw [tn]; exact (hn.2.1 T hT).1) (by rw [tn, l1]; omega) (by rw [tn, l1]; exact hk) (fun M' q1 q2 q3 => ?_)
  rw [tn] at q1 q2 q3
  rw [r1] at q1
  obtain ⟨u1, u2⟩ := N_on hn hT q1 q2 q3
  refine hq M' u1 ?_ (fun b b1 b2 b3 b4 b5 => q3.1 b b2 b3)
  rw [u2, e]
  unfold n_on
  rw [n_setT_setT, n_setT_at]
theorem k_offOf {M : e_M} {N0 : n_S} {T : Nat} {t' k : Int} {y : w_T} {Q : e_M → Prop} (et : t' = (T : Int)) (hn : nn_ok M) (hT : T < 560) (e : n_of M = n_setT N0 T y) (hk : 0 ≤ k ∧ k < y.2.2.length) (hq : ∀ M', nn_ok M' → n_of M' = n_setT N0 T (y.1, y.2.1, y.2.2.eraseIdx k.toNat) → j_tfr M M' → Q M') : WX12_offOf t' k M Q := by
  subst et
  obtain ⟨r1, r2, l1, l2⟩ := k_len1 hn hT e
  have tn : ((T : Nat) : Int).toNat = T := by omega
  refine m_offOf (by omega) (by rw [tn]; exact (hn.2.1 T hT).2) (by rw [tn, l2]; exact hk) (fun M' q1 q2 q3 => ?_)
  rw [tn] at q1 q2 q3
  rw [r2] at q1
  obtain ⟨u1, u2⟩ := N_off hn hT q1 q2 q3
  refine hq M' u1 ?_ (fun b b1 b2 b3 b4 b5 => q3.1 b b4 b5)
  rw [u2, e]
  unfold n_off
  rw [n_setT_setT, n_setT_at]
theorem k_inOf {M : e_M} {N0 : n_S} {T : Nat} {t' k x : Int} {y : w_T} {Q : e_M → Prop} (et : t' = (T : Int)) (hn : nn_ok M) (hT : T < 560) (e : n_of M = n_setT N0 T y) (h7 : y.2.2.length < 8) (hk : 0 ≤ k ∧ k ≤ y.2.2.length) (hq : ∀ M', nn_ok M' → n_of M' = n_setT N0 T (y.1, y.2.1, r_in y.2.2 k.toNat x) → j_tfr M M' → Q M') : WX12_inOf t' k x M Q := by
  subst et
  obtain ⟨r1, r2, l1, l2⟩ := k_len1 hn hT e
  have tn : ((T : Nat) : Int).toNat = T := by omega
  refine m_inOf (by omega) (by rw [tn]; exact (hn.2.1 T hT).2) (by rw [tn, l2]; omega) (by rw [tn, l2]; exact hk) (fun M' q1 q2 q3 => ?_)
  rw [tn] at q1 q2 q3
  rw [r2] at q1
  obtain ⟨u1, u2⟩ := N_off hn hT q1 q2 q3
  refine hq M' u1 ?_ (fun b b1 b2 b3 b4 b5 => q3.1 b b4 b5)
  rw [u2, e]
  unfold n_off
  rw [n_setT_setT, n_setT_at]
theorem k_placeOn {M : e_M} {N0 : n_S} {T : Nat} {t' x : Int} {y : w_T} {Q : Int → Prop} (et : t' = (T : Int)) (hn : nn_ok M) (hT : T < 560) (e : n_of M = n_setT N0 T y) (hq : Q (r_find y.2.1 x)) : WX12_placeOn t' x M Q := by
  subst et
  obtain ⟨r1, -⟩ := k_len1 hn hT e
  have tn : ((T : Nat) : Int).toNat = T := by omega
  refine m_placeOn (by omega) (by rw [tn]; exact (hn.2.1 T hT).1) ?_
  rw [tn, r1]; exact hq
theorem k_placeOf {M : e_M} {N0 : n_S} {T : Nat} {t' x : Int} {y : w_T} {Q : Int → Prop} (et : t' = (T : Int)) (hn : nn_ok M) (hT : T < 560) (e : n_of M = n_setT N0 T y) (hq : Q (r_find y.2.2 x)) : WX12_placeOf t' x M Q := by
  subst et
  obtain ⟨-, r2, -⟩ := k_len1 hn hT e
  have tn : ((T : Nat) : Int).toNat = T := by omega
  refine m_placeOf (by omega) (by rw [tn]; exact (hn.2.1 T hT).2) ?_
  rw [tn, r2]; exact hq
/-- a row parted: what the model does step by step -/
theorem r_part_in {l : List Int} {old a b : Int} (h : 0 ≤ r_find l old) (l8 : l.length ≤ 8) (h7 : 0 ≤ a → 0 ≤ b → l.length < 8) : r_part l old a b = (if a < 0 then (if b < 0 then l.eraseIdx (r_find l old).toNat else r_in (l.eraseIdx (r_find l old).toNat) (r_find l old).toNat b) else r_in (if b < 0 then l.eraseIdx (r_find l old).toNat else r_in (l.eraseIdx (r_find l old).toNat) (r_find l old).toNat b) (r_find l old).toNat a) := by
  have lt := r_find_lt (l := l) (x := old)
  have le : (l.eraseIdx (r_find l old).toNat).length = l.length - 1 := by rw [List.length_eraseIdx]; exact if_pos (by omega)
  unfold r_part
  rw [if_neg (by omega), r_del_in h]
  have e1 : (if b < 0 then l.eraseIdx (r_find l old).toNat else r_ins (l.eraseIdx (r_find l old).toNat) (r_find l old) b) = (if b < 0 then l.eraseIdx (r_find l old).toNat else r_in (l.eraseIdx (r_find l old).toNat) (r_find l old).toNat b) := by
    by_cases c : b < 0
    · rw [if_pos c, if_pos c]
    · rw [if_neg c, if_neg c]
      unfold r_ins
      rw [if_neg (by omega)]
  dsimp only
  rw [e1]
  by_cases c : a < 0
  · rw [if_pos c, if_pos c]
  · rw [if_neg c, if_neg c]
    unfold r_ins
    refine if_neg ?_
    by_cases d : b < 0
    · rw [if_pos d]; omega
    · rw [if_neg d, r_in_len]
      have := h7 (by omega) (by omega)
      omega
theorem r_pov_in {l : List Int} {old a b : Int} {hL hR : Bool} (h : 0 ≤ r_find l old) (ha : 0 ≤ a) (hb : 0 ≤ b) (l8 : l.length ≤ 8) (h7 : hL = true → hR = true → l.length < 8) : r_pov l old a b hL hR = (if hL = true then r_in (if hR = true then r_in (l.eraseIdx (r_find l old).toNat) (r_find l old).toNat b else l.eraseIdx (r_find l old).toNat) (r_find l old).toNat a else (if hR = true then r_in (l.eraseIdx (r_find l old).toNat) (r_find l old).toNat b else l.eraseIdx (r_find l old).toNat)) := by
  unfold r_pov
  rw [if_pos (r_find_mem.mp h), r_part_in h l8]
  · have na : (if false = true then a else (-1 : Int)) < 0 := by rw [if_neg (by decide)]; omega
    have nb : (if false = true then b else (-1 : Int)) < 0 := by rw [if_neg (by decide)]; omega
    have ya : (if true = true then a else (-1 : Int)) = a := if_pos rfl
    have yb : (if true = true then b else (-1 : Int)) = b := if_pos rfl
    have qa : ¬ a < 0 := by omega
    have qb : ¬ b < 0 := by omega
    have ff : ¬ (false = true) := by decide
    have tt : (true = true) := rfl
    cases hL <;> cases hR
    · rw [if_pos na, if_pos nb, if_neg ff, if_neg ff]
    · rw [if_pos na, yb, if_neg qb, if_neg ff, if_pos tt]
    · rw [ya, if_neg qa, if_pos nb, if_pos tt, if_neg ff]
    · rw [ya, yb, if_neg qa, if_neg qb, if_pos tt, if_pos tt]
  · intro h1 h2
    cases hL
    · have : (0 : Int) ≤ -1 := h1
      omega
    · cases hR
      · have : (0 : Int) ≤ -1 := h2
        omega
      · exact h7 rfl rfl
