/-! Acts: perform -/
def V_eq (V V' : Nat → v_D) (S : w_S) (d : Nat) : Prop := V d = V' d ∧ ∀ s i : Nat, 2 ≤ s → s < 8 → (i : Int) < S.1 s → V ((w_t S s i).1 11).toNat = V' ((w_t S s i).1 11).toNat
theorem w_tm_congr {P P' : Nat → s_Fig} {S : w_S} {old : Int} {L R : s_Fig} (h : ∀ s i : Nat, 2 ≤ s → s < 8 → (i : Int) < S.1 s → P ((w_t S s i).1 11).toNat = P' ((w_t S s i).1 11).toNat) : w_tm P S old L R = w_tm P' S old L R := by
  refine propext ⟨?_, ?_⟩
  · rintro ⟨s, i, s1, s2, s3, s4, s5⟩
    rw [h s i (by omega) (by omega) s3] at s5
    exact ⟨s, i, s1, s2, s3, s4, s5⟩
  · rintro ⟨s, i, s1, s2, s3, s4, s5⟩
    rw [← h s i (by omega) (by omega) s3] at s5
    exact ⟨s, i, s1, s2, s3, s4, s5⟩
theorem w_lost_congr {P P' : Nat → s_Fig} {S : w_S} {one other : Int} {L R : s_Fig} (h : ∀ s i : Nat, 2 ≤ s → s < 8 → (i : Int) < S.1 s → P ((w_t S s i).1 11).toNat = P' ((w_t S s i).1 11).toNat) : w_lost P S one other L R = w_lost P' S one other L R := by
  unfold w_lost t_lost
  refine propext ⟨?_, ?_⟩
  · rintro ⟨i, z1, z2, z3⟩
    rw [h 3 i (by omega) (by omega) z1] at z3
    exact ⟨i, z1, z2, z3⟩
  · rintro ⟨i, z1, z2, z3⟩
    rw [← h 3 i (by omega) (by omega) z1] at z3
    exact ⟨i, z1, z2, z3⟩
theorem w_spl_congr {P P' : Nat → s_Fig} {S S2 : w_S} {old a b day : Int} {L R : s_Fig} (h : ∀ s i : Nat, 2 ≤ s → s < 8 → (i : Int) < S.1 s → P ((w_t S s i).1 11).toNat = P' ((w_t S s i).1 11).toNat) (ht : S2.2.2.1 = S.2.2.1) (hz : ∀ s, 1 ≤ s → S2.1 s = S.1 s) : w_map S2 2 6 (t_spl P old a b day L R) = w_map S2 2 6 (t_spl P' old a b day L R) := by
  refine w_map_congr (by omega) (by omega) (fun s i s1 s2 s3 => ?_)
  have et : w_t S2 s i = w_t S s i := congrFun ht _
  rw [hz s (by omega)] at s3
  rw [et]
  unfold t_spl
  rw [h s i (by omega) (by omega) s3]
theorem X_split_congr {V V' : Nat → v_D} {S : w_S} {r : Nat → Int} {d : Nat} (e : V_eq V V' S d) : X_split V S r d = X_split V' S r d := by
  have h2 : ∀ s i : Nat, 2 ≤ s → s < 8 → (i : Int) < S.1 s → (fun a => (V a).2.2.2.2) ((w_t S s i).1 11).toNat = (fun a => (V' a).2.2.2.2) ((w_t S s i).1 11).toNat := fun s i s1 s2 s3 => congrArg (fun x : v_D => x.2.2.2.2) (e.2 s i s1 s2 s3)
  unfold X_split
  rw [e.1, w_tm_congr (P := fun a => (V a).2.2.2.2) (P' := fun a => (V' a).2.2.2.2) h2]
  congr 1
  congr 1
  congr 1
  congr 1
  refine Prod.ext rfl (w_spl_congr h2 rfl (fun s hs => ?_))
  show s_fu (s_fu _ 0 _) 0 _ s = _
  rw [s_fu_ne (by omega), s_fu_ne (by omega)]
theorem X_border_congr {V V' : Nat → v_D} {S : w_S} {r : Nat → Int} {d : Nat} (e : V_eq V V' S d) : X_border V S r d = X_border V' S r d := by
  have h2 : ∀ s i : Nat, 2 ≤ s → s < 8 → (i : Int) < S.1 s → (fun a => (V a).2.2.2.2) ((w_t S s i).1 11).toNat = (fun a => (V' a).2.2.2.2) ((w_t S s i).1 11).toNat := fun s i s1 s2 s3 => congrArg (fun x : v_D => x.2.2.2.2) (e.2 s i s1 s2 s3)
  have h3 : ∀ o, X_border1 V S r d o = X_border1 V' S r d o := by
    intro o
    cases o with
    | none => rfl
    | some R =>
      show X_border2 V S r d R = X_border2 V' S r d R
      unfold X_border2
      rw [e.1, w_lost_congr (P := fun a => (V a).2.2.2.2) (P' := fun a => (V' a).2.2.2.2) h2]
  unfold X_border
  rw [h3]
theorem w_lat_ex {S : w_S} {o : w_T} {day : Int} : w_lat S o day (-1) ∨ ∃ k : Nat, w_lat S o day k := by
  have key : ∀ n : Nat, (∀ j : Nat, n ≤ j → (j : Int) < w_z S 7 → ¬ t_sok o (w_t S 7 j) day) → w_lat S o day (-1) ∨ ∃ k : Nat, w_lat S o day k := by
    intro n
    induction n with
    | zero => exact fun h => Or.inl (Or.inl ⟨rfl, fun k hk => h k (Nat.zero_le _) hk⟩)
    | succ n ih =>
      intro h
      by_cases c : (n : Int) < w_z S 7 ∧ t_sok o (w_t S 7 n) day
      · exact Or.inr ⟨n, Or.inr ⟨n, rfl, c.1, c.2, fun j j1 j2 => h j (by omega) j2⟩⟩
      · refine ih (fun j j1 j2 => ?_)
        by_cases e : j = n
        · subst e; exact fun t => c ⟨j2, t⟩
        · exact h j (by omega) j2
  exact key (w_z S 7).toNat (fun j j1 j2 => by omega)
theorem X_take_congr {V V' : Nat → v_D} {S : w_S} {r : Nat → Int} {d : Nat} (e : V_eq V V' S d) : X_take V S r d = X_take V' S r d := by
  have h3 : ∀ k : Nat, (k : Int) < S.1 7 → X_take2 V S (w_t S 6 (r 0).toNat) k = X_take2 V' S (w_t S 6 (r 0).toNat) k := by
    intro k hk
    unfold X_take2 X_tko X_tfin
    rw [e.2 7 k (by omega) (by omega) hk]
  unfold X_take
  rw [e.1]
  by_cases c : w_abl S ((w_t S 6 (r 0).toNat).1 5).toNat = false
  · rw [c_if_pos c, c_if_pos c]
  · rw [c_if_neg c, c_if_neg c]
    by_cases c2 : w_lat S (w_t S 6 (r 0).toNat) ((V' d).1 4) (-1)
    · rw [c_if_pos c2, c_if_pos c2]
    · rw [c_if_neg c2, c_if_neg c2]
      have ex : ∃ k : Nat, w_lat S (w_t S 6 (r 0).toNat) ((V' d).1 4) k := by
        have := w_lat_ex (S := S) (o := w_t S 6 (r 0).toNat) (day := (V' d).1 4)
        rcases this with h | ⟨k, h⟩
        · exact absurd h c2
        · exact ⟨k, h⟩
      have sp := Classical.epsilon_spec ex
      refine h3 _ ?_
      rcases sp with ⟨e1, _⟩ | ⟨k', e1, e2, _⟩
      · omega
      · have : Classical.epsilon (fun k : Nat => w_lat S (w_t S 6 (r 0).toNat) ((V' d).1 4) k) = k' := by omega
        rw [this]; exact e2
/-- what a DEED does, when its NAMES stand for r (of sorts ss) -/
noncomputable def X_act (V : Nat → v_D) (S : w_S) (ss r : Nat → Int) (d : Nat) (at_ : Int) : Int × w_S :=
  if (V d).1 3 = 200 then X_person V S d at_ else
  if (V d).1 3 = 201 then X_firm V S r d at_ else
  if (V d).1 3 = 202 then X_guard S r else
  if (V d).1 3 = 203 then X_die V S r d else
  if (V d).1 3 = 204 then X_close S r else
  if (V d).1 3 = 205 then X_sell V S r d at_ else
  if (V d).1 3 = 206 then X_split V S r d else
  if (V d).1 3 = 207 then X_join V S r d else
  if (V d).1 3 = 208 then X_border V S r d else
  if (V d).1 3 = 209 then X_charge V S r d at_ else
  if (V d).1 3 = 210 then X_pay V S r d else
  if (V d).1 3 = 211 then X_assign S r else
  if (V d).1 3 = 212 then X_rank S r else
  if (V d).1 3 = 213 then X_free S r else
  if (V d).1 3 = 214 then X_auction V S r d else
  if (V d).1 3 = 215 then X_serve V S r (fun k => (g_pt (V d).2.2.2.2 k).1) (fun k => (g_pt (V d).2.2.2.2 k).2) d at_ else
  if (V d).1 3 = 216 then X_waive S r else
  if (V d).1 3 = 217 then X_lease V S r d at_ else
  if (V d).1 3 = 218 then X_caution V S r d at_ else
  if (V d).1 3 = 219 then X_option V S r d at_ else
  if (V d).1 3 = 220 then X_take V S r d else X_end S ss r
theorem X_act_congr {V V' : Nat → v_D} {S : w_S} {ss r : Nat → Int} {d : Nat} {at_ : Int} (e : V_eq V V' S d) : X_act V S ss r d at_ = X_act V' S ss r d at_ := by
  unfold X_act
  rw [X_split_congr e, X_border_congr e, X_take_congr e]
  unfold X_person X_firm X_die X_sell X_join X_join1 X_join2 X_charge X_pay X_auction X_serve X_lease X_caution X_option
  rw [e.1]
def d_set (S : w_S) (day : Int) : w_S := (S.1, S.2.1, S.2.2.1, day)
/-- what comes of a DEED: its code, and the World then -/
def X_perf (V : Nat → v_D) (S : w_S) (d : Nat) (at_ : Int) (X : Int × w_S) : Prop :=
  (X = (1, d_set S ((V d).1 4)) ∧ ∀ R, ¬ n_ok (d_set S ((V d).1 4)) (V d).2.1 (V d).2.2.1 ((V d).1 7) R) ∨
  ∃ ss r : Nat → Int, n_ok (d_set S ((V d).1 4)) (V d).2.1 (V d).2.2.1 ((V d).1 7) (fun k => ((ss k).toNat, (r k).toNat)) ∧ (∀ k : Nat, (k : Int) < (V d).1 7 → (V d).2.2.1 k ≠ 10 → 0 ≤ ss k ∧ 0 ≤ r k) ∧ X = X_act V (d_set S ((V d).1 4)) ss r d at_
/-- what the NAMES of an ACT must be -/
def v_ws (a told : Int) : List Int :=
  if a = 200 then [10] else if a = 201 then [10, 11] else if a = 202 then [11, 11] else if a = 203 then 11 :: List.replicate (told - 1).toNat 1 else if a = 204 then [12] else
  if a = 205 then 0 :: 1 :: List.replicate (told - 2).toNat 1 else if a = 206 then [0, 10, 10] else if a = 207 then [0, 0, 10] else if a = 208 then [0, 0] else
  if a = 209 then 10 :: (List.replicate (told - 2).toNat 0 ++ [1]) else if a = 210 then [2] else if a = 211 then [2, 1] else if a = 212 then [2, 2, 0] else if a = 213 then [0, 2] else if a = 214 then [0, 2, 1] else
  if a = 215 then [10, 0, 0] else if a = 216 then [3] else if a = 217 ∨ a = 218 ∨ a = 219 then [10, 0, 1] else if a = 220 then [6] else [13]
/-- a DEED as it is read -/
def v_ok (D : v_D) : Prop := (200 ≤ D.1 3 ∧ D.1 3 ≤ 221) ∧ (D.1 7 = (v_ws (D.1 3) (D.1 7)).length ∧ ∀ k : Nat, (v_ws (D.1 3) (D.1 7))[k]? = if (k : Int) < D.1 7 then some (D.2.2.1 k) else none) ∧
  (D.1 7 ≤ 8 ∧ (D.1 3 = 203 → D.1 7 = D.1 15 + 1) ∧ (D.1 3 = 205 → D.1 7 = D.1 15 + 2) ∧ (D.1 3 = 209 → 3 ≤ D.1 7)) ∧
  ((0 ≤ D.1 4 ∧ D.1 4 ≤ 219144) ∧ (0 ≤ D.1 9 ∧ D.1 9 ≤ 999999) ∧ (0 ≤ D.1 8 ∧ D.1 8 ≤ 219144) ∧ 0 ≤ D.1 10 ∧ D.1 10 ≤ 2) ∧
  (D.1 11 ≠ 0 → (1 ≤ D.1 11 ∧ D.1 11 ≤ 1000) ∧ 1 ≤ D.1 12 ∧ D.1 12 ≤ 1000) ∧ (d_pok D.2.2.2.1 ∧ s_pb D.2.2.2.2)
theorem n_fit_s {S : w_S} {v : Int} {s i : Nat} (h : n_fit S v s i = true) : (0 ≤ v ∧ v ≤ 6 → (s : Int) = v) ∧ (v = 11 ∨ v = 12 → s = 1) ∧ (v = 13 → 4 ≤ s ∧ s ≤ 6) := by
  unfold n_fit at h
  rw [Bool.and_eq_true] at h
  have h := h.2
  refine ⟨fun hv => ?_, fun hv => ?_, fun hv => ?_⟩
  · rw [if_neg (by omega), if_neg (by omega), if_neg (by omega), decide_eq_true_iff] at h
    exact h
  · rcases hv with hv | hv
    · rw [if_pos hv, Bool.and_eq_true, decide_eq_true_iff] at h; exact h.1
    · rw [if_neg (by omega), if_pos hv, Bool.and_eq_true, decide_eq_true_iff] at h; exact h.1
  · rw [if_neg (by omega), if_neg (by omega), if_pos hv, decide_eq_true_iff] at h
    omega
