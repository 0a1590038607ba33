/-! every ACT keeps it -/
theorem cP {α : Type} {p : α → Prop} {P : Prop} {a b : α} (h1 : P → p a) (h2 : ¬ P → p b) : p (c_if P a b) := by
  by_cases c : P
  · rw [c_if_pos c]; exact h1 c
  · rw [c_if_neg c]; exact h2 c
theorem r_ins_mem {l : List Int} {k x y : Int} (h : y ∈ r_ins l k x) : y = x ∨ y ∈ l := by
  unfold r_ins at h
  split at h
  · exact Or.inr h
  · exact r_in_mem h
theorem r_add_mem {l : List Int} {x y : Int} (h : y ∈ r_add l x) : y = x ∨ y ∈ l := r_ins_mem h
theorem r_part_mem {l : List Int} {old f s y : Int} (h : y ∈ r_part l old f s) : (y = f ∧ 0 ≤ f) ∨ (y = s ∧ 0 ≤ s) ∨ y ∈ l := by
  unfold r_part at h
  split at h
  · exact Or.inr (Or.inr h)
  · have key : ∀ {y : Int}, y ∈ (if s < 0 then r_del l old else r_ins (r_del l old) (r_find l old) s) → (y = s ∧ 0 ≤ s) ∨ y ∈ l := fun {y} h => by
      split at h
      · exact Or.inr (r_del_sub h)
      · rcases r_ins_mem h with e | e
        · exact Or.inl ⟨e, by omega⟩
        · exact Or.inr (r_del_sub e)
    dsimp only at h
    by_cases c : f < 0
    · rw [if_pos c] at h; exact Or.inr (key h)
    · rw [if_neg c] at h
      rcases r_ins_mem h with e | e
      · exact Or.inl ⟨e, by omega⟩
      · exact Or.inr (key e)
theorem r_part_id {l : List Int} {old f s : Int} (h : old ∉ l) : r_part l old f s = l := by
  unfold r_part
  rw [if_pos]
  have := r_find_no h
  omega
theorem r_pov_mem {l : List Int} {old a b y : Int} {hL hR : Bool} (h : y ∈ r_pov l old a b hL hR) : y = a ∨ y = b ∨ y ∈ l := by
  unfold r_pov at h
  split at h
  · rcases r_part_mem h with ⟨e, e2⟩ | ⟨e, e2⟩ | e
    · cases hL
      · simp at e2
      · exact Or.inl e
    · cases hR
      · simp at e2
      · exact Or.inr (Or.inl e)
    · exact Or.inr (Or.inr e)
  · exact Or.inr (Or.inr h)
theorem r_mrg_mem {l : List Int} {one other into y : Int} (h : y ∈ r_mrg l one other into) : y = into ∨ y ∈ l := by
  unfold r_mrg at h
  split at h
  · have := r_del_sub (r_del_sub h)
    rcases List.mem_or_eq_of_mem_set this with e | e
    · exact Or.inr e
    · exact Or.inl e
  · exact Or.inr h
theorem r_mrg_id {l : List Int} {one other into : Int} (h1 : one ∉ l) (h2 : other ∉ l) : r_mrg l one other into = l := by
  unfold r_mrg
  have : l.findIdx? (fun y => y == one || y == other) = none := List.findIdx?_eq_none_iff.mpr (fun x hx => by
    have a : x ≠ one := fun e => h1 (by rw [← e]; exact hx)
    have b : x ≠ other := fun e => h2 (by rw [← e]; exact hx)
    simp [a, b])
  rw [this]
section acts
variable {V : Nat → v_D} {U : Nat → Prop} {S : w_S} {r : Nat → Int} {d : Nat} {at_ : Int}
theorem I_T_up1 {s : Nat} {t x : w_T} {s' : Nat} (h : I_T V U S.1 s t) : I_T V U (w_addT S s' x).1 s t := I_T_up h (fun r _ => by
  rw [w_z_add]
  split
  · next c => rw [c]; omega
  · omega)
theorem P_person (h : I_P V U S) : I_P V U (X_person V S d at_).2 := by
  unfold X_person
  refine cP (p := fun X : Int × w_S => I_P V U X.2) (fun _ => h) (fun _ => cP (p := fun X : Int × w_S => I_P V U X.2) (fun _ => h) (fun n => ?_))
  have z1 := h.1 1 (by omega)
  have hm : w_mx 1 = 40 := rfl
  refine P_addT h ⟨by omega, by omega⟩ (by omega) (I_T_up1 ⟨⟨?_, fun z => absurd rfl z⟩, ⟨(fun l hl => by cases hl), (fun l hl => by cases hl)⟩, (fun z => by omega), (fun z => by omega), (fun z => by omega), (fun z => by omega), (fun z => by omega)⟩)
  show (-1 : Int) < S.1 1
  omega
theorem P_firm (h : I_P V U S) (h1 : 0 ≤ r 1 ∧ r 1 < S.1 1) : I_P V U (X_firm V S r d at_).2 := by
  unfold X_firm
  refine cP (p := fun X : Int × w_S => I_P V U X.2) (fun _ => h) (fun _ => cP (p := fun X : Int × w_S => I_P V U X.2) (fun _ => h) (fun n => ?_))
  have hm : w_mx 1 = 40 := rfl
  refine P_addT h ⟨by omega, by omega⟩ (by omega) (I_T_up1 ⟨⟨?_, fun z => absurd rfl z⟩, ⟨(fun l hl => by cases hl), (fun l hl => by cases hl)⟩, (fun z => by omega), (fun z => by omega), (fun z => by omega), (fun z => by omega), (fun z => by omega)⟩)
  show r 1 < S.1 1
  omega
theorem P_guard (h : I_P V U S) (h0 : 0 ≤ r 0 ∧ r 0 < S.1 1) (h1 : 0 ≤ r 1 ∧ r 1 < S.1 1) : I_P V U (X_guard S r).2 := by
  unfold X_guard
  refine cP (p := fun X : Int × w_S => I_P V U X.2) (fun _ => h) (fun _ => cP (p := fun X : Int × w_S => I_P V U X.2) (fun _ => h) (fun n => ?_))
  exact P_put h ⟨by omega, by omega⟩ (by omega) (Or.inr (Or.inr (Or.inl ⟨rfl, by omega, h1.1, h1.2⟩)))
theorem P_ends {dead heir : Int} (h : I_P V U S) (hd : 0 ≤ dead) (hh : 0 ≤ heir ∧ heir < S.1 1) : I_P V U (w_map S 2 6 (t_ends dead heir)) := by
  refine P_map h (fun s i s2 s6 s8 hi ht => ?_)
  unfold t_ends
  split
  · next e =>
    split
    · next e2 =>
      subst e2
      have e5 : s_fu (w_t S 2 i).1 5 heir 5 = heir := s_fu_eq
      refine I_T_cg ht rfl (fun z => ?_) (fun k hk => s_fu_ne (show k ≠ 5 by omega)) (Or.inr ⟨by omega, by show 0 ≤ s_fu (w_t S 2 i).1 5 heir 5 ∧ s_fu (w_t S 2 i).1 5 heir 5 < S.1 1; rw [e5]; exact hh⟩) (Or.inl (show s_fu (w_t S 2 i).1 5 heir 6 = (w_t S 2 i).1 6 from s_fu_ne (by omega)))
      have e2 : s_fu (w_t S 2 i).1 5 heir 2 = (w_t S 2 i).1 2 := s_fu_ne (show (2 : Nat) ≠ 5 by omega)
      rw [← e2]; exact z
    · have e2 : s_fu (w_t S s i).1 2 1 2 = 1 := s_fu_eq
      refine I_T_cg ht rfl (fun z => ?_) (fun k hk => s_fu_ne (show k ≠ 2 by omega)) (Or.inl (show s_fu (w_t S s i).1 2 1 5 = (w_t S s i).1 5 from s_fu_ne (by omega))) (Or.inl (show s_fu (w_t S s i).1 2 1 6 = (w_t S s i).1 6 from s_fu_ne (by omega)))
      change s_fu (w_t S s i).1 2 1 2 = 0 at z
      rw [e2] at z
      cases z
  · exact ht
theorem P_close (h : I_P V U S) (h0 : 0 ≤ r 0 ∧ r 0 < S.1 1) : I_P V U (X_close S r).2 := by
  unfold X_close
  refine cP (p := fun X : Int × w_S => I_P V U X.2) (fun _ => h) (fun _ => ?_)
  have k := P_ends (dead := r 0) (heir := 0) h h0.1 ⟨by omega, by omega⟩
  exact P_put k ⟨by omega, by omega⟩ (show ((r 0).toNat : Int) < S.1 1 by omega) (Or.inl ⟨rfl, by decide⟩)
/-- what an heir comes to -/
theorem o_heirs_ok {n1 dead : Int} {o : s_Own} {q : Int × Int × Int} {ps : List (Int × Int)} (ho : o_fine n1 o) (hs : o_sum o = 1) (hl : o.length ≤ 8) (n0 : 0 < n1) (hq : o[(o_fd o dead).toNat]? = some q) (hp : d_pok ps) (hpl : ps.length ≤ 7) (hw : 0 < ps.length → d_wh ps 0 1 = true) (hr : ∀ j, 1 ≤ j → j < 1 + ps.length → 0 ≤ r j ∧ r j < n1) : o_fine n1 (o_heirs o q dead r ps) ∧ o_sum (o_heirs o q dead r ps) = 1 := by
  have hm := ho q (List.mem_of_getElem? hq)
  have er := o_sum_erase hq
  have fe : o_fine n1 (o.eraseIdx (o_fd o dead).toNat) := fun x hx => ho x (List.mem_of_mem_eraseIdx hx)
  have le : (o.eraseIdx (o_fd o dead).toNat).length + 1 ≤ 8 := by
    have il := (List.getElem?_eq_some_iff.mp hq).1
    rw [List.length_eraseIdx, if_pos il]
    omega
  have e2 : o_val q.2 = o_val (q.2.1, q.2.2) := rfl
  unfold o_heirs
  by_cases c : ps.length = 0
  · have e0 : ps = [] := List.length_eq_zero_iff.mp c
    rw [if_pos c, e0]
    have g := o_give_ok (p := 0) (t := q.2.1) (b := q.2.2) fe ⟨by omega, n0⟩ (by omega) hm.2.1 hm.2.2.1
    refine ⟨g.1, ?_⟩
    show o_sum (o_give _ 0 q.2.1 q.2.2) = 1
    rw [g.2, er, hs, e2]
    grind
  · rw [if_neg c]
    have g := o_pts_ok (n1 := n1) (r := r) (k := 1) hm.2.1 hm.2.2.1 hp fe (by omega) (fun j j1 j2 => hr j j1 j2)
    refine ⟨g.1, ?_⟩
    have w := d_wh_sum hp (Int.le_refl 0) (by decide) (hw (by omega))
    have z : o_val ((0 : Int), (1 : Int)) = 0 := by
      unfold o_val
      simp
      grind
    rw [z] at w
    have w' : o_psum ps = 1 := by grind
    rw [g.2, er, hs, e2, w']
    grind
theorem P_die (h : I_P V U S) (hv : v_ok (V d)) (hp : (((V d).2.2.2.1).length : Int) = (V d).1 15) (hac : (V d).1 3 = 203) (h0 : 0 ≤ r 0 ∧ r 0 < S.1 1) (hr : ∀ j : Nat, 1 ≤ j → (j : Int) < (V d).1 7 → x_in S r 1 j) : I_P V U (X_die V S r d).2 := by
  have h7 := hv.2.2.1.2.1 hac
  have h8 := hv.2.2.1.1
  have hpk : d_pok (V d).2.2.2.1 := hv.2.2.2.2.2.1
  have pl6 : (V d).2.2.2.1.length ≤ 7 := by omega
  have nz : 0 < S.1 1 := by omega
  unfold X_die
  refine cP (p := fun X : Int × w_S => I_P V U X.2) (fun _ => h) (fun n1 => cP (p := fun X : Int × w_S => I_P V U X.2) (fun _ => h) (fun n2 => cP (p := fun X : Int × w_S => I_P V U X.2) (fun _ => h) (fun n3 => ?_)))
  have hw : 0 < (V d).2.2.2.1.length → d_wh (V d).2.2.2.1 0 1 = true := fun c => by
    cases e : d_wh (V d).2.2.2.1 0 1 with
    | true => rfl
    | false => exact absurd ⟨by omega, Or.inr e⟩ n1
  have hrr : ∀ j, 1 ≤ j → j < 1 + (V d).2.2.2.1.length → 0 ≤ r j ∧ r j < S.1 1 := fun j j1 j2 => (hr j j1 (by omega)).1
  have k1 : I_P V U (w_hs S (r 0) r (V d).2.2.2.1 (S.1 0).toNat) := by
    refine ⟨h.1, fun i hi => ?_, h.2.2⟩
    have hi : (i : Int) < S.1 0 := hi
    have k := h.2.1 i hi
    show I_L S.1 (if i < (S.1 0).toNat then _ else _)
    rw [if_pos (by omega)]
    cases e : l_heir (S.2.1 i) (r 0) r (V d).2.2.2.1 with
    | none => exact k
    | some o =>
      have e' := e
      unfold l_heir at e
      split at e
      · next c =>
        have hlt := o_fd_lt (l := (S.2.1 i).2.2.2) (p := r 0)
        have hq := List.getElem?_eq_getElem (l := (S.2.1 i).2.2.2) (i := (o_fd (S.2.1 i).2.2.2 (r 0)).toNat) (by omega)
        rw [hq] at e
        have eo := Option.some.inj e
        have g := o_heirs_ok (n1 := S.1 1) (dead := r 0) (r := r) (ps := (V d).2.2.2.1) k.2.2.1.1 k.2.2.1.2 k.2.2.2.2 nz hq hpk pl6 hw hrr
        have eo : o_heirs (S.2.1 i).2.2.2 _ (r 0) r (V d).2.2.2.1 = o := eo
        have g' : o_fine (S.1 1) o ∧ o_sum o = 1 := by rw [← eo]; exact g
        refine ⟨k.1, k.2.1, g', fun q hq => ?_, ?_⟩
        · exact Int.not_lt.mp (fun z => n2 ⟨i, hi, o, e', q, hq, z⟩)
        · exact Nat.not_lt.mp (fun z => n3 ⟨i, hi, o, e', z⟩)
      · cases e
  have k2 := P_ends (dead := r 0) (heir := if 0 < (V d).1 15 then r 1 else 0) k1 h0.1 (by
    by_cases c : 0 < (V d).1 15
    · rw [if_pos c]; exact hrr 1 (Nat.le_refl 1) (by omega)
    · rw [if_neg c]; exact ⟨by omega, show (0 : Int) < S.1 1 by omega⟩)
  exact P_put k2 ⟨by omega, by omega⟩ (show ((r 0).toNat : Int) < S.1 1 by omega) (Or.inl ⟨rfl, by decide⟩)
theorem P_pay (h : I_P V U S) (hv : v_ok (V d)) (h0 : 0 ≤ r 0 ∧ r 0 < S.1 2) : I_P V U (X_pay V S r d).2 := by
  have h9 := hv.2.2.2.1.2.1
  have am := (h.2.2 2 (r 0).toNat (by omega) (by omega) (by omega)).2.2.1 rfl
  unfold X_pay
  refine cP (p := fun X : Int × w_S => I_P V U X.2) (fun _ => h) (fun n1 => cP (p := fun X : Int × w_S => I_P V U X.2) (fun n2 => ?_) (fun n2 => ?_))
  · exact P_put h ⟨by omega, by omega⟩ (by omega) (Or.inr (Or.inr (Or.inr ⟨rfl, by omega, by omega⟩)))
  · have k := P_put (s := 2) (i := (r 0).toNat) (k := 6) (v := 0) h ⟨by omega, by omega⟩ (by omega) (Or.inr (Or.inr (Or.inr ⟨rfl, by omega, by omega⟩)))
    exact P_endc k (show ((r 0).toNat : Int) < S.1 2 by omega)
theorem P_assign (h : I_P V U S) (h0 : 0 ≤ r 0 ∧ r 0 < S.1 2) (h1 : 0 ≤ r 1 ∧ r 1 < S.1 1) : I_P V U (X_assign S r).2 := by
  unfold X_assign
  refine cP (p := fun X : Int × w_S => I_P V U X.2) (fun _ => h) (fun _ => cP (p := fun X : Int × w_S => I_P V U X.2) (fun _ => h) (fun n => ?_))
  exact P_put h ⟨by omega, by omega⟩ (by omega) (Or.inr (Or.inr (Or.inl ⟨rfl, by omega, h1.1, h1.2⟩)))
theorem P_rank (h : I_P V U S) (h2 : 0 ≤ r 2 ∧ r 2 < S.1 0) : I_P V U (X_rank S r).2 := by
  unfold X_rank
  refine cP (p := fun X : Int × w_S => I_P V U X.2) (fun _ => h) (fun n => ?_)
  have n := Classical.not_not.mp n
  have kk := (h.2.1 (r 2).toNat (by omega)).2.1
  refine P_chg h (by omega) (r_ins_le (Nat.le_trans r_del_le (h.2.1 (r 2).toNat (by omega)).1.2)) (fun c hc => ?_)
  rcases r_ins_mem hc with e | e
  · rw [e]
    exact kk _ (r_find_mem.mp (by omega))
  · exact kk c (r_del_sub e)
theorem P_freed (h : I_P V U S) (h0 : 0 ≤ r 0 ∧ r 0 < S.1 0) (h1 : 0 ≤ r 1 ∧ r 1 < S.1 2) : I_P V U (X_free S r).2 := by
  unfold X_free
  exact cP (p := fun X : Int × w_S => I_P V U X.2) (fun _ => h) (fun n => P_free h (by omega) (by omega))
theorem o_one {n1 p : Int} (hp : 0 ≤ p ∧ p < n1) : o_fine n1 [(p, 1, 1)] ∧ o_sum [(p, 1, 1)] = 1 := by
  refine ⟨fun q hq => ?_, ?_⟩
  · rw [List.mem_singleton.mp hq]
    exact ⟨hp, show (0 : Int) ≤ 1 by omega, show (0 : Int) < 1 by omega, show Int.gcd 1 1 = 1 by decide⟩
  · show o_val ((1 : Int), (1 : Int)) + 0 = 1
    unfold o_val
    simp
    grind
theorem I_T_leave {z : Nat → Int} {s : Nat} {t : w_T} {l : Int} (h : I_T V U z s t) (hs : s ≠ 7) : I_T V U z s (t_leave t l) := by
  obtain ⟨g1, g2, g3, g4, g5, g6, g7⟩ := h
  have e : ∀ k, k ≠ 2 → (t_leave t l).1 k = t.1 k := fun k hk => by
    show (if (r_del t.2.1 l).length = 0 then s_fu t.1 2 1 else t.1) k = t.1 k
    split
    · exact s_fu_ne hk
    · rfl
  refine ⟨by rw [e 5 (by omega)]; exact g1, ⟨fun x hx => g2.1 x (r_del_sub hx), g2.2⟩, by rw [e 6 (by omega)]; exact g3, by rw [e 5 (by omega)]; exact g4, fun a b => ?_, fun z => absurd z hs, by rw [e 11 (by omega)]; exact g7⟩
  have b : (if (r_del t.2.1 l).length = 0 then s_fu t.1 2 1 else t.1) 2 = 0 := b
  split at b
  · have e2 : s_fu t.1 2 1 2 = 1 := s_fu_eq
    rw [e2] at b; cases b
  · next c =>
    have l1 := g5 a b
    show (r_del t.2.1 l).length = 1
    have : (r_del t.2.1 l).length ≤ t.2.1.length := by
      unfold r_del
      split
      · exact Nat.le_refl _
      · exact List.length_eraseIdx_le ..
    omega
theorem P_auction (h : I_P V U S) (hv : v_ok (V d)) (h0 : 0 ≤ r 0 ∧ r 0 < S.1 0) (h2 : 0 ≤ r 2 ∧ r 2 < S.1 1) : I_P V U (X_auction V S r d).2 := by
  have h9 := hv.2.2.2.1.2.1
  unfold X_auction
  refine cP (p := fun X : Int × w_S => I_P V U X.2) (fun _ => h) (fun _ => cP (p := fun X : Int × w_S => I_P V U X.2) (fun _ => h) (fun _ => cP (p := fun X : Int × w_S => I_P V U X.2) (fun _ => h) (fun _ => cP (p := fun X : Int × w_S => I_P V U X.2) (fun _ => h) (fun _ => ?_))))
  have hl : ((r 0).toNat : Int) < S.1 0 := by omega
  have k1 := P_ows (o := [(r 2, 1, 1)]) h hl (o_one h2) (fun q hq => by rw [List.mem_singleton.mp hq]; show (1 : Int) ≤ 1000000; omega) (by show 1 ≤ 8; omega)
  have k2 := P_lpt (k := 2) (v := (V d).1 9) k1 hl
  obtain ⟨k3, z3⟩ := P_auc (l := (r 0).toNat) (f := (r_find (w_l S (r 0).toNat).2.2.1 (r 1)).toNat) (k := 8) (left := (V d).1 9) k2 hl h9.1
  unfold w_auction
  refine P_map k3 (fun s i s4 s6 s8 hi ht => ?_)
  unfold t_clr
  split
  · exact I_T_leave ht (by omega)
  · exact ht
end acts
