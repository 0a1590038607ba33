/-! CHARGES and LOTS have one another -/
theorem r_del_keep {l : List Int} {x y : Int} (h : y ∈ l) (hne : y ≠ x) : y ∈ r_del l x := by
  unfold r_del
  rcases r_find_cases l x with ⟨-, e⟩ | ⟨i, hi, hg, -, e⟩
  · rw [e, if_pos (by omega)]; exact h
  · rw [e, if_neg (by omega), show ((i : Nat) : Int).toNat = i by omega]
    obtain ⟨k, hk, ek⟩ := List.getElem_of_mem h
    have gk : l[k]? = some y := by rw [List.getElem?_eq_getElem hk, ek]
    have ne : k ≠ i := fun z => by rw [z, hg] at gk; exact hne (Option.some.inj gk).symm
    by_cases c : k < i
    · exact List.mem_of_getElem? (i := k) (by rw [List.getElem?_eraseIdx, if_pos c]; exact gk)
    · exact List.mem_of_getElem? (i := k - 1) (by rw [List.getElem?_eraseIdx, if_neg (by omega), show k - 1 + 1 = k by omega]; exact gk)
theorem r_del_nodup {l : List Int} {x : Int} (h : l.Nodup) : (r_del l x).Nodup := by
  unfold r_del
  split
  · exact h
  · exact List.Pairwise.sublist (List.eraseIdx_sublist _ _) h
theorem r_del_gone {l : List Int} {x : Int} (h : l.Nodup) : x ∉ r_del l x := by
  unfold r_del
  rcases r_find_cases l x with ⟨hn, e⟩ | ⟨i, hi, hg, -, e⟩
  · rw [e, if_pos (by omega)]; exact hn
  · rw [e, if_neg (by omega), show ((i : Nat) : Int).toNat = i by omega]
    intro hm
    obtain ⟨j, hj, ej⟩ := List.getElem_of_mem hm
    have gj : (l.eraseIdx i)[j]? = some x := by rw [List.getElem?_eq_getElem hj, ej]
    rw [List.getElem?_eraseIdx] at gj
    obtain ⟨a1, a2⟩ := List.getElem?_eq_some_iff.mp hg
    by_cases c : j < i
    · rw [if_pos c] at gj
      obtain ⟨b1, b2⟩ := List.getElem?_eq_some_iff.mp gj
      exact (List.pairwise_iff_getElem.mp h) j i b1 a1 c (b2.trans a2.symm)
    · rw [if_neg c] at gj
      obtain ⟨b1, b2⟩ := List.getElem?_eq_some_iff.mp gj
      exact (List.pairwise_iff_getElem.mp h) i (j + 1) a1 b1 (by omega) (a2.trans b2.symm)
def I_C (S : w_S) : Prop := (∀ c : Nat, (c : Int) < S.1 2 → I_ch S c) ∧ ∀ l : Nat, (l : Int) < S.1 0 → (w_l S l).1 1 = 0 → (w_l S l).2.2.1.Nodup ∧ ∀ c ∈ (w_l S l).2.2.1, 0 ≤ c ∧ (l : Int) ∈ (w_t S 2 c.toNat).2.1
theorem I_C_congr {S S' : w_S} (h : I_C S) (e1 : S'.1 = S.1) (e2 : S'.2.1 = S.2.1) (ht : ∀ c : Nat, (w_t S' 2 c).2.1 = (w_t S 2 c).2.1) (hthr : ∀ c : Nat, (c : Int) < S.1 2 → (w_t S 2 c).2.1 ≠ [] → w_thr S 2 c = true → w_thr S' 2 c = true) : I_C S' := by
  have el : ∀ k, w_l S' k = w_l S k := fun k => congrFun e2 k
  refine ⟨fun c hc => ?_, fun l hl hg => ?_⟩
  · rw [e1] at hc
    obtain ⟨a1, a2, a3⟩ := h.1 c hc
    refine ⟨by rw [ht]; exact a1, fun l hl => ?_, fun hne => ?_⟩
    · rw [ht] at hl
      rw [e1, el]; exact a2 l hl
    · rw [ht] at hne
      exact hthr c hc hne (a3 hne)
  · rw [e1] at hl
    rw [el] at hg ⊢
    obtain ⟨a1, a2⟩ := h.2 l hl hg
    exact ⟨a1, fun c hc => by rw [ht]; exact a2 c hc⟩
theorem w_free_t {S : w_S} {l c k : Nat} : w_t (w_free S l c) 2 k = if k = c then t_leave (w_t S 2 c) l else w_t S 2 k := by
  unfold w_free
  rw [w_leave_eq]
  show s_fu S.2.2.1 (w_F 2 + c) _ (w_F 2 + k) = _
  by_cases e : k = c
  · rw [if_pos e, e, s_fu_eq]; rfl
  · rw [if_neg e, s_fu_ne (by omega)]; rfl
theorem w_free_l {S : w_S} {l c k : Nat} : w_l (w_free S l c) k = if k = l then ((w_l S l).1, (w_l S l).2.1, r_del (w_l S l).2.2.1 c, (w_l S l).2.2.2) else w_l S k := by
  unfold w_free
  rw [w_leave_eq]
  show s_fu S.2.1 l _ k = _
  by_cases e : k = l
  · rw [if_pos e, e, s_fu_eq]; rfl
  · rw [if_neg e, s_fu_ne e]; rfl
theorem w_free_d {S : w_S} {l c : Nat} : (w_free S l c).2.2.2 = S.2.2.2 := by
  unfold w_free
  rw [w_leave_d]; rfl
theorem w_thr2 {S : w_S} {c : Nat} : w_thr S 2 c = t_thr (w_t S 2 c) S.2.2.2 := by unfold w_thr; rw [if_neg (by omega)]; rfl
theorem I_C_free {S : w_S} {l c : Nat} (h : I_C S) (hc : (c : Int) < S.1 2) (hm : (l : Int) ∈ (w_t S 2 c).2.1) : I_C (w_free S l c) := by
  obtain ⟨b1, b2, b3⟩ := h.1 c hc
  refine ⟨fun k hk => ?_, fun k hk hg => ?_⟩
  · rw [w_free_z] at hk
    obtain ⟨a1, a2, a3⟩ := h.1 k hk
    by_cases e : k = c
    · subst e
      have et : w_t (w_free S l k) 2 k = t_leave (w_t S 2 k) l := by rw [w_free_t, if_pos rfl]
      have er : (w_t (w_free S l k) 2 k).2.1 = r_del (w_t S 2 k).2.1 l := by rw [et]; rfl
      refine ⟨by rw [er]; exact r_del_nodup a1, fun x hx => ?_, fun hne => ?_⟩
      · rw [er] at hx
        obtain ⟨c1, c2, c3⟩ := a2 x (r_del_sub hx)
        have ne : x ≠ l := fun z => r_del_gone a1 (by rw [z] at hx; exact hx)
        rw [w_free_z, w_free_l, if_neg (by omega)]
        exact ⟨c1, c2, c3⟩
      · rw [er] at hne
        have t0 := a3 (fun z => by rw [z] at hm; cases hm)
        rw [w_thr2] at t0 ⊢
        rw [w_free_d, et]
        unfold t_leave
        rw [if_neg (fun z => hne (List.length_eq_zero_iff.mp z))]
        exact t0
    · have et : w_t (w_free S l c) 2 k = w_t S 2 k := by rw [w_free_t, if_neg e]
      refine ⟨by rw [et]; exact a1, fun x hx => ?_, fun hne => ?_⟩
      · rw [et] at hx
        obtain ⟨c1, c2, c3⟩ := a2 x hx
        rw [w_free_z, w_free_l]
        refine ⟨c1, c2, ?_⟩
        by_cases ex : x.toNat = l
        · rw [if_pos ex]
          rw [ex] at c3
          exact r_del_keep c3 (by omega)
        · rw [if_neg ex]; exact c3
      · rw [et] at hne
        have t0 := a3 hne
        rw [w_thr2] at t0 ⊢
        rw [w_free_d, et]; exact t0
  · rw [w_free_z] at hk
    have hg0 : (w_l S k).1 1 = 0 := by
      rw [w_free_l] at hg
      by_cases e : k = l
      · rw [if_pos e] at hg; rw [e]; exact hg
      · rw [if_neg e] at hg; exact hg
    obtain ⟨a1, a2⟩ := h.2 k hk hg0
    by_cases e : k = l
    · subst e
      rw [w_free_l, if_pos rfl]
      refine ⟨r_del_nodup a1, fun x hx => ?_⟩
      obtain ⟨c1, c2⟩ := a2 x (r_del_sub hx)
      have ne : x ≠ c := fun z => r_del_gone a1 (by rw [z] at hx; exact hx)
      rw [w_free_t, if_neg (by omega)]
      exact ⟨c1, c2⟩
    · rw [w_free_l, if_neg e]
      refine ⟨a1, fun x hx => ?_⟩
      obtain ⟨c1, c2⟩ := a2 x hx
      refine ⟨c1, ?_⟩
      rw [w_free_t]
      by_cases ex : x.toNat = c
      · rw [if_pos ex]
        rw [ex] at c2
        exact r_del_keep c2 (by omega)
      · rw [if_neg ex]; exact c2
theorem w_endc_nil {S : w_S} {c : Nat} (h : (w_t S 2 c).2.1 = []) : w_endc S c = w_put S (w_F 2 + c) 2 1 := by
  unfold w_endc
  rw [show (S.2.2.1 (w_F 2 + c)).2.1 = [] from h]
  show w_put (w_lts S (w_F 2 + c) []) (w_F 2 + c) 2 1 = _
  have : w_lts S (w_F 2 + c) [] = S := by
    unfold w_lts w_setT
    refine Prod.ext rfl (Prod.ext rfl (Prod.ext (funext fun k => ?_) rfl))
    show s_fu S.2.2.1 (w_F 2 + c) _ k = _
    by_cases ck : k = w_F 2 + c
    · rw [ck, s_fu_eq]
      refine Prod.ext rfl (Prod.ext h.symm rfl)
    · rw [s_fu_ne ck]
  rw [this]
theorem I_C_endc {c : Nat} : ∀ {n : Nat} {S : w_S}, (w_t S 2 c).2.1.length = n → I_C S → (c : Int) < S.1 2 → I_C (w_endc S c)
  | 0, S, hl, h, hc => by
    have e0 := List.length_eq_zero_iff.mp hl
    rw [w_endc_nil e0]
    have et : ∀ k, w_t (w_put S (w_F 2 + c) 2 1) 2 k = if k = c then (s_fu (w_t S 2 c).1 2 1, (w_t S 2 c).2) else w_t S 2 k := fun k => by
      show s_fu S.2.2.1 (w_F 2 + c) _ (w_F 2 + k) = _
      by_cases e : k = c
      · rw [if_pos e, e, s_fu_eq]; rfl
      · rw [if_neg e, s_fu_ne (by omega)]; rfl
    refine I_C_congr h rfl rfl (fun k => ?_) (fun k hk hne t => ?_)
    · rw [et]
      by_cases e : k = c
      · rw [if_pos e, e]
      · rw [if_neg e]
    · have ne : k ≠ c := fun z => by rw [z] at hne; exact hne e0
      rw [w_thr2] at t ⊢
      rw [et, if_neg ne]; exact t
  | n + 1, S, hl, h, hc => by
    cases e : (w_t S 2 c).2.1 with
    | nil => rw [e] at hl; cases hl
    | cons l ls =>
      have hr := (h.1 c hc).2.1 l (by rw [e]; exact List.mem_cons_self)
      obtain ⟨j1, j2⟩ := I_ch_free (h.1 c hc) e
      rw [← w_endc_cons e hr.1]
      refine I_C_endc (n := n) ?_ (I_C_free h hc (by rw [e, show ((l.toNat : Nat) : Int) = l by omega]; exact List.mem_cons_self)) (by rw [w_free_z]; exact hc)
      rw [j2]
      rw [e] at hl
      exact Nat.succ.inj hl
