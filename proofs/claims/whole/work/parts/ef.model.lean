/-! the model's reading: one TOKEN -/
def q_wl : List Int := [4, 6, 8, 9, 10, 11, 14, 16, 17, 18, 19, 20, 21, 23, 24, 25, 29, 30, 32, 33, 34, 35, 1, 2, 0, 3, 5, 7, 12, 13, 15, 22, 26, 27, 28, 31, 36, 37, 38, 39, 40, 41, 42, 43, 44, 45, 46, 47, 48, 49, 50, 51, 52, 53, 54, 55, 56, 57, 58, 59, 60, 61, 62, 63, 64, 65, 66, 67, 68, 69, 70]
/-- the model's number of the class's word -/
def q_wm (k : Int) : Int := (q_wl[(k - 200).toNat]?).getD 0
theorem q_wm_dec : ∀ a : Fin 71, (0 ≤ (q_wl[a.val]?).getD 0 ∧ (q_wl[a.val]?).getD 0 ≤ 70) ∧ ∀ b : Fin 71, (q_wl[a.val]?).getD 0 = (q_wl[b.val]?).getD 0 → a = b := by decide +kernel
theorem q_wm_rng {k : Int} (h : 200 ≤ k ∧ k ≤ 270) : 0 ≤ q_wm k ∧ q_wm k ≤ 70 := (q_wm_dec ⟨(k - 200).toNat, by omega⟩).1
theorem q_wm_inj {k l : Int} (h : 200 ≤ k ∧ k ≤ 270) (h' : 200 ≤ l ∧ l ≤ 270) (e : q_wm k = q_wm l) : k = l := by
  have := (q_wm_dec ⟨(k - 200).toNat, by omega⟩).2 ⟨(l - 200).toNat, by omega⟩ e
  have := congrArg Fin.val this
  dsimp only at this
  omega
def q_sg (k : Int) : Prop := k = 33 ∨ k = 35 ∨ k = 40 ∨ k = 41 ∨ k = 42 ∨ k = 43 ∨ k = 44 ∨ k = 45 ∨ k = 47 ∨ k = 60 ∨ k = 61 ∨ k = 62 ∨ k = 123 ∨ k = 125 ∨ k = 128 ∨ k = 129
/-- the model's number of the class's sign -/
def q_sm (k : Int) : Int := if k = 33 then 289 else if k = 128 then 316 else if k = 129 then 318 else k
theorem q_sm_inj {k l : Int} (h : q_sg k) (h' : q_sg l) (e : q_sm k = q_sm l) : k = l := by
  unfold q_sm q_sg at *
  repeat' split at e
  all_goals omega
/-- the model's TOKEN at hand is the class's -/
def n_tk (M : e_M) (t : Int × Int × Int) : Prop := M 4456 8 = t.2.1 ∧ ((t.1 = 0 ∧ M 4456 7 = 0) ∨ (t.1 = 1 ∧ M 4456 7 = 5) ∨ (t.1 = 2 ∧ M 4456 7 = 1 ∧ M 4456 9 = t.2.2) ∨ (t.1 = 3 ∧ M 4456 7 = 2 ∧ M 4456 9 = t.2.2) ∨ (t.1 = 4 ∧ M 4456 7 = 3 ∧ M 4456 10 < 0 ∧ M 4456 11 = t.2.2) ∨ ((200 ≤ t.1 ∧ t.1 ≤ 270) ∧ M 4456 7 = 3 ∧ M 4456 10 = q_wm t.1) ∨ (q_sg t.1 ∧ M 4456 7 = 4 ∧ M 4456 9 = q_sm t.1))
theorem q_sg_b {k : Int} (h : q_sg k) : 33 ≤ k ∧ k ≤ 129 := by unfold q_sg at h; omega
theorem n_kd {M : e_M} {t : Int × Int × Int} (h : n_tk M t) : (M 4456 7 = 0 ↔ t.1 = 0) ∧ (M 4456 7 = 1 ↔ t.1 = 2) ∧ (M 4456 7 = 2 ↔ t.1 = 3) ∧ (M 4456 7 = 3 ↔ t.1 = 4 ∨ (200 ≤ t.1 ∧ t.1 ≤ 270)) ∧ (M 4456 7 = 4 ↔ q_sg t.1) := by
  rcases h.2 with ⟨a, b⟩ | ⟨a, b⟩ | ⟨a, b, c⟩ | ⟨a, b, c⟩ | ⟨a, b, c⟩ | ⟨a, b, c⟩ | ⟨a, b, c⟩
  · exact ⟨by omega, by omega, by omega, by omega, fun z => absurd z (by omega), fun z => absurd (q_sg_b z) (by omega)⟩
  · exact ⟨by omega, by omega, by omega, by omega, fun z => absurd z (by omega), fun z => absurd (q_sg_b z) (by omega)⟩
  · exact ⟨by omega, by omega, by omega, by omega, fun z => absurd z (by omega), fun z => absurd (q_sg_b z) (by omega)⟩
  · exact ⟨by omega, by omega, by omega, by omega, fun z => absurd z (by omega), fun z => absurd (q_sg_b z) (by omega)⟩
  · exact ⟨by omega, by omega, by omega, by omega, fun z => absurd z (by omega), fun z => absurd (q_sg_b z) (by omega)⟩
  · exact ⟨by omega, by omega, by omega, by omega, fun z => absurd z (by omega), fun z => absurd (q_sg_b z) (by omega)⟩
  · have := q_sg_b a; exact ⟨by omega, by omega, by omega, by omega, fun _ => a, fun _ => b⟩
theorem n_num {M : e_M} {t : Int × Int × Int} (h : n_tk M t) (e : t.1 = 2 ∨ t.1 = 3) : M 4456 9 = t.2.2 := by
  rcases h.2 with ⟨a, b⟩ | ⟨a, b⟩ | ⟨a, b, c⟩ | ⟨a, b, c⟩ | ⟨a, b, c⟩ | ⟨a, b, c⟩ | ⟨a, b, c⟩
  · omega
  · omega
  · exact c
  · exact c
  · omega
  · omega
  · have := q_sg_b a; omega
theorem n_nam {M : e_M} {t : Int × Int × Int} (h : n_tk M t) (e : t.1 = 4) : M 4456 11 = t.2.2 := by
  rcases h.2 with ⟨a, b⟩ | ⟨a, b⟩ | ⟨a, b, c⟩ | ⟨a, b, c⟩ | ⟨a, b, c⟩ | ⟨a, b, c⟩ | ⟨a, b, c⟩
  · omega
  · omega
  · omega
  · omega
  · exact c.2
  · omega
  · have := q_sg_b a; omega
theorem n_wrd {M : e_M} {t : Int × Int × Int} (h : n_tk M t) (e : 200 ≤ t.1) : M 4456 10 = q_wm t.1 := by
  rcases h.2 with ⟨a, b⟩ | ⟨a, b⟩ | ⟨a, b, c⟩ | ⟨a, b, c⟩ | ⟨a, b, c⟩ | ⟨a, b, c⟩ | ⟨a, b, c⟩
  · omega
  · omega
  · omega
  · omega
  · omega
  · exact c
  · have := q_sg_b a; omega
theorem n_sgn {M : e_M} {t : Int × Int × Int} (h : n_tk M t) (e : q_sg t.1) : M 4456 9 = q_sm t.1 := by
  have := q_sg_b e
  rcases h.2 with ⟨a, b⟩ | ⟨a, b⟩ | ⟨a, b, c⟩ | ⟨a, b, c⟩ | ⟨a, b, c⟩ | ⟨a, b, c⟩ | ⟨a, b, c⟩
  · omega
  · omega
  · omega
  · omega
  · omega
  · omega
  · exact c
theorem n_nme {M : e_M} {t : Int × Int × Int} (h : n_tk M t) (e : t.1 = 4) : M 4456 10 < 0 := by
  rcases h.2 with ⟨a, b⟩ | ⟨a, b⟩ | ⟨a, b, c⟩ | ⟨a, b, c⟩ | ⟨a, b, c⟩ | ⟨a, b, c⟩ | ⟨a, b, c⟩
  · omega
  · omega
  · omega
  · omega
  · exact c.1
  · omega
  · have := q_sg_b a; omega
theorem n_isWord {M : e_M} {t : Int × Int × Int} {w k : Int} {Q : Int → Prop} (h : n_tk M t) (hk : 200 ≤ k ∧ k ≤ 270) (hw : q_wm k = w) (q1 : t.1 = k → Q 1) (q0 : t.1 ≠ k → Q 0) : WX12_isWord w M Q := by
  obtain ⟨a0, a1, a2, a3, a4⟩ := n_kd h
  refine ⟨fun g => q0 (fun z => g (a3.mpr (Or.inr (by omega)))), fun g => ⟨fun g2 => q0 (fun z => g2 ?_), fun g2 => q1 ?_⟩⟩
  · rw [n_wrd h (by omega), z, hw]
  · rcases a3.mp g with z | z
    · have := n_nme h z
      have := q_wm_rng hk
      omega
    · rw [n_wrd h z.1, ← hw] at g2
      exact q_wm_inj z hk g2
theorem n_isSign {M : e_M} {t : Int × Int × Int} {c k : Int} {Q : Int → Prop} (h : n_tk M t) (hk : q_sg k) (hc : q_sm k = c) (q1 : t.1 = k → Q 1) (q0 : t.1 ≠ k → Q 0) : WX12_isSign c M Q := by
  obtain ⟨a0, a1, a2, a3, a4⟩ := n_kd h
  refine ⟨fun g => q0 (fun z => g (a4.mpr (by rw [z]; exact hk))), fun g => ⟨fun g2 => q0 (fun z => g2 ?_), fun g2 => q1 ?_⟩⟩
  · rw [n_sgn h (by rw [z]; exact hk), z, hc]
  · have z := a4.mp g
    rw [n_sgn h z, ← hc] at g2
    exact q_sm_inj z hk g2
theorem n_isName {M : e_M} {t : Int × Int × Int} {Q : Int → Prop} (h : n_tk M t) (q1 : t.1 = 4 → Q 1) (q0 : t.1 ≠ 4 → Q 0) : WX12_isName M Q := by
  obtain ⟨a0, a1, a2, a3, a4⟩ := n_kd h
  refine ⟨fun g => q0 (fun z => g (a3.mpr (Or.inl z))), fun g => ⟨fun g2 => q0 (fun z => ?_), fun g2 => q1 ?_⟩⟩
  · have := n_nme h z
    omega
  · rcases a3.mp g with z | z
    · exact z
    · rw [n_wrd h z.1] at g2
      have := q_wm_rng z
      omega
/-- what the reading of TOKENS leaves alone, and what it needs -/
def n_env (B M : e_M) : Prop := (∀ b, (b = 4457 ∨ b = 4458 ∨ b = 4459 ∨ b = 4460) → M b = B b) ∧ M 4456 5 = B 4456 5
def n_rs (B M : e_M) (T : q_Tk) (E : Nat → Int) (n i : Nat) : Prop := n_env B M ∧ i < n ∧ M 4456 6 = E i ∧ n_tk M (T i)
def n_rf (M M' : e_M) : Prop := (∀ b, b ≠ 4456 → M' b = M b) ∧ ∀ k, (k < 6 ∨ 13 < k) → M' 4456 k = M 4456 k
theorem n_rf_r {M : e_M} : n_rf M M := ⟨fun _ _ => rfl, fun _ _ => rfl⟩
theorem n_rf_t {M M' M2 : e_M} (h : n_rf M M') (h' : n_rf M' M2) : n_rf M M2 := ⟨fun b hb => (h'.1 b hb).trans (h.1 b hb), fun k hk => (h'.2 k hk).trans (h.2 k hk)⟩
/-- the model goes from TOKEN to TOKEN as the class's list says -/
def n_hn (B : e_M) (T : q_Tk) (E : Nat → Int) (n : Nat) : Prop := (∀ i, i < n → (T i).1 ≠ 0 → i + 1 < n) ∧ q_tok T ∧ ∀ (i : Nat) (M : e_M) (Q : e_M → Prop), n_rs B M T E n i → i + 1 < n → (∀ M', n_rs B M' T E n (i + 1) → n_rf M M' → M' 4456 12 = M 4456 12 → Q M') → WX12_next M Q
def n_al (B M : e_M) (T : q_Tk) (E : Nat → Int) (n : Nat) (s : q_S) : Prop := s.2.1 = 0 ∧ n_rs B M T E n s.1 ∧ M 4456 12 = 0
def n_de (M : e_M) (s : q_S) : Prop := s.2.1 ≠ 0 ∧ M 4456 12 = s.2.1 ∧ M 4456 13 = s.2.2.1
theorem n_wrong {B M : e_M} {T : q_Tk} {E : Nat → Int} {n : Nat} {s : q_S} {k : Int} {Q : Int → e_M → Prop} (h : n_al B M T E n s) (hk : k ≠ 0) (q0 : ∀ M', n_de M' (q_note T k s) → n_rf M M' → Q 0 M') : WX12_wrong k M Q := by
  refine ⟨fun g => absurd h.2.2 g, fun _ M1 e1 M2 e2 => q0 M2 ?_ ⟨fun b hb => by rw [e2, e_up_row hb, e1, e_up_row hb], fun j hj => by rw [e2, e_up_ne (by omega), e1, e_up_ne (by omega)]⟩⟩
  unfold q_note
  rw [if_pos h.1]
  refine ⟨hk, by rw [e2, e_up_ne (by omega), e1, e_up_eq], ?_⟩
  rw [e2, e_up_eq, e1, e_up_ne (by omega)]
  exact h.2.1.2.2.2.1
theorem n_good0 {B M : e_M} {T : q_Tk} {E : Nat → Int} {n : Nat} {s : q_S} {Q : Int → e_M → Prop} (hn : n_hn B T E n) (h : n_al B M T E n s) (ht : (T s.1).1 ≠ 0) (q1 : ∀ M', n_al B M' T E n (q_take T n s) → n_rf M M' → Q 1 M') (q0 : ∀ M', n_de M' (q_take T n s) → n_rf M M' → Q 0 M') : WX12_good 0 M Q := by
  have hp : M 4456 8 = (T s.1).2.1 := h.2.1.2.2.2.1
  have e0 : q_take T n s = if 600 ≤ (T s.1).2.1 then (s.1, 4, (T s.1).2.1, s.2.2.2) else if s.1 + 1 < n then (s.1 + 1, s.2) else s := if_pos h.1
  have hi := hn.1 s.1 h.2.1.2.1 ht
  unfold WX12_good VX12_good
  rw [hp]
  refine ⟨fun g => ⟨fun _ => ?_, fun z => absurd z (by decide)⟩, fun g => ⟨fun _ => ⟨fun z => absurd z (by decide), fun _ => ?_⟩, fun z => absurd rfl z⟩⟩
  · rw [if_neg (by omega), if_pos hi] at e0
    refine hn.2.2 s.1 M _ h.2.1 hi (fun M' h' f' z' => q1 M' ?_ f')
    rw [e0]
    exact ⟨h.1, h', by rw [z']; exact h.2.2⟩
  · rw [if_pos g] at e0
    refine n_wrong h (by decide) (fun M' h' f' => ⟨Or.inl rfl, q0 M' ?_ f'⟩)
    rw [e0]
    unfold q_note at h'
    rw [if_pos h.1] at h'
    exact h'
theorem n_goodk {B M : e_M} {T : q_Tk} {E : Nat → Int} {n : Nat} {s : q_S} {k : Int} {Q : Int → e_M → Prop} (h : n_al B M T E n s) (hk : 0 < k ∧ k ≤ 4) (q0 : ∀ M', n_de M' (q_note T k s) → n_rf M M' → Q 0 M') : WX12_good k M Q := by
  have fin : WX12_good_24 Q k M := ⟨fun z => by omega, fun _ => n_wrong h (by omega) (fun M' h' f' => ⟨Or.inl rfl, q0 M' h' f'⟩)⟩
  exact ⟨fun _ => fin, fun _ => ⟨fun z => by omega, fun _ => ⟨fun _ => fin, fun z => by omega⟩⟩⟩
theorem n_must {B M : e_M} {T : q_Tk} {E : Nat → Int} {n : Nat} {s : q_S} {w k : Int} {Q : Int → e_M → Prop} (hn : n_hn B T E n) (h : n_al B M T E n s) (hk : 200 ≤ k ∧ k ≤ 270) (hw : q_wm k = w) (q1 : ∀ M', n_al B M' T E n (q_exp T n k s) → n_rf M M' → Q 1 M') (q0 : ∀ M', n_de M' (q_exp T n k s) → n_rf M M' → Q 0 M') : WX12_must w M Q := by
  unfold q_exp at q1 q0
  rw [q_tk0 h.1] at q1 q0
  unfold WX12_must VX12_must
  refine n_isWord h.2.1.2.2.2 hk hw (fun e => ⟨fun z => absurd z (by decide), fun _ => ?_⟩) (fun e => ⟨fun _ => ?_, fun z => absurd rfl z⟩)
  · rw [if_pos e] at q1 q0
    exact n_good0 hn h (by omega) (fun M' a b => ⟨Or.inr rfl, q1 M' a b⟩) (fun M' a b => ⟨Or.inl rfl, q0 M' a b⟩)
  · rw [if_neg e] at q1 q0
    exact n_wrong h (by decide) (fun M' a b => ⟨Or.inl rfl, q0 M' a b⟩)
theorem n_mustSign {B M : e_M} {T : q_Tk} {E : Nat → Int} {n : Nat} {s : q_S} {c k : Int} {Q : Int → e_M → Prop} (hn : n_hn B T E n) (h : n_al B M T E n s) (hk : q_sg k) (hc : q_sm k = c) (q1 : ∀ M', n_al B M' T E n (q_exp T n k s) → n_rf M M' → Q 1 M') (q0 : ∀ M', n_de M' (q_exp T n k s) → n_rf M M' → Q 0 M') : WX12_mustSign c M Q := by
  unfold q_exp at q1 q0
  rw [q_tk0 h.1] at q1 q0
  have := q_sg_b hk
  unfold WX12_mustSign VX12_mustSign
  refine n_isSign h.2.1.2.2.2 hk hc (fun e => ⟨fun z => absurd z (by decide), fun _ => ?_⟩) (fun e => ⟨fun _ => ?_, fun z => absurd rfl z⟩)
  · rw [if_pos e] at q1 q0
    exact n_good0 hn h (by omega) (fun M' a b => ⟨Or.inr rfl, q1 M' a b⟩) (fun M' a b => ⟨Or.inl rfl, q0 M' a b⟩)
  · rw [if_neg e] at q1 q0
    exact n_wrong h (by decide) (fun M' a b => ⟨Or.inl rfl, q0 M' a b⟩)
