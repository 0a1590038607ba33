/-! names and all that: every ACT keeps it -/
theorem nodup_set {a : Int} : ∀ {l : List Int} {i : Nat}, l.Nodup → a ∉ l → (l.set i a).Nodup
  | [], _, h, _ => h
  | x :: l, 0, h, ha => by
    rw [List.nodup_cons] at h
    show (a :: l).Nodup
    rw [List.nodup_cons]
    exact ⟨fun z => ha (List.mem_cons_of_mem _ z), h.2⟩
  | x :: l, i + 1, h, ha => by
    rw [List.nodup_cons] at h
    show (x :: l.set i a).Nodup
    rw [List.nodup_cons]
    refine ⟨fun z => ?_, nodup_set h.2 (fun z => ha (List.mem_cons_of_mem _ z))⟩
    rcases List.mem_or_eq_of_mem_set z with e | e
    · exact h.1 e
    · exact ha (by rw [← e]; exact List.mem_cons_self ..)
theorem r_ins_nd {l : List Int} {k x : Int} (h : l.Nodup) (hx : x ∉ l) : (r_ins l k x).Nodup := by
  unfold r_ins
  split
  · exact h
  · unfold r_in
    have p : List.Perm (l.take k.toNat ++ x :: l.drop k.toNat) (x :: l) := by
      have q : List.Perm (l.take k.toNat ++ x :: l.drop k.toNat) (x :: (l.take k.toNat ++ l.drop k.toNat)) := List.perm_middle
      rw [List.take_append_drop] at q
      exact q
    rw [p.nodup_iff, List.nodup_cons]
    exact ⟨hx, h⟩
theorem r_part_nd {l : List Int} {old a b : Int} (h : l.Nodup) (ha : a ∉ l) (hb : b ∉ l) (hab : a ≠ b) (h0 : 0 ≤ a ∧ 0 ≤ b) : (r_part l old a b).Nodup ∧ ∀ x ∈ r_part l old a b, x = a ∨ x = b ∨ (x ∈ l ∧ x ≠ old) := by
  unfold r_part
  split
  · next c =>
    have : old ∉ l := fun z => by
      have := r_find_mem.mpr z
      omega
    exact ⟨h, fun x hx => Or.inr (Or.inr ⟨hx, fun e => this (by rw [← e]; exact hx)⟩)⟩
  · dsimp only
    rw [if_neg (show ¬ b < 0 by omega), if_neg (show ¬ a < 0 by omega)]
    have n1 := r_del_nodup (x := old) h
    have b1 : b ∉ r_del l old := fun z => hb (r_del_sub z)
    have n2 := r_ins_nd (k := r_find l old) n1 b1
    have a2 : a ∉ r_ins (r_del l old) (r_find l old) b := fun z => by
      rcases r_ins_mem z with e | e
      · exact hab e
      · exact ha (r_del_sub e)
    refine ⟨r_ins_nd n2 a2, fun x hx => ?_⟩
    rcases r_ins_mem hx with e | e
    · exact Or.inl e
    · rcases r_ins_mem e with e | e
      · exact Or.inr (Or.inl e)
      · exact Or.inr (Or.inr ⟨r_del_sub e, fun z => by rw [z] at e; exact r_del_gone h e⟩)
theorem r_mrg_nd {l : List Int} {one other into : Int} (h : l.Nodup) (hi : into ∉ l) : (r_mrg l one other into).Nodup ∧ ∀ x ∈ r_mrg l one other into, x = into ∨ (x ∈ l ∧ x ≠ one ∧ x ≠ other) := by
  unfold r_mrg
  cases e : l.findIdx? (fun y => y == one || y == other) with
  | none =>
    have n := List.findIdx?_eq_none_iff.mp e
    refine ⟨h, fun x hx => Or.inr ⟨hx, ?_⟩⟩
    have := n x hx
    simpa using this
  | some i =>
    dsimp only
    have n1 := nodup_set (i := i) h hi
    have n2 := r_del_nodup (x := one) n1
    have n3 := r_del_nodup (x := other) n2
    refine ⟨n3, fun x hx => ?_⟩
    have x2 := r_del_sub hx
    have x1 := r_del_sub x2
    have g1 : x ≠ one := fun z => by rw [z] at x2; exact r_del_gone n1 x2
    have g2 : x ≠ other := fun z => by rw [z] at hx; exact r_del_gone n2 hx
    rcases List.mem_or_eq_of_mem_set x1 with q | q
    · exact Or.inr ⟨q, g1, g2⟩
    · exact Or.inl q
theorem Y_mk {S S' : w_S} (hz : ∀ s, s < 8 → S'.1 s = S.1 s) (hn : ∀ s i : Nat, s < 7 → (i : Int) < S.1 s → w_nm S' s i = w_nm S s i) (h3 : ∀ c : Nat, (c : Int) < S.1 2 → (w_t S' 2 c).1 3 = (w_t S 2 c).1 3) (h6 : ∀ i : Nat, (i : Int) < S.1 6 → (w_t S' 6 i).2.1.Nodup ∧ (w_thr S' 6 i = true → ∀ l ∈ (w_t S' 6 i).2.1, (w_l S' l.toNat).1 1 = 0)) (y : Y_g S) : Y_g S' := by
  obtain ⟨y1, y2, y3, y4⟩ := y
  refine ⟨fun s i s' i' hs hs' hi hi' e => ?_, fun i hi => h6 i (by rw [← hz 6 (by omega)]; exact hi), fun c hc => ?_, by rw [hz 1 (by omega)]; exact y4⟩
  · have hi : (i : Int) < S'.1 s := hi
    have hi' : (i' : Int) < S'.1 s' := hi'
    rw [hz s (by omega)] at hi
    rw [hz s' (by omega)] at hi'
    rw [hn s i hs hi, hn s' i' hs' hi'] at e
    exact y1 s i s' i' hs hs' hi hi' e
  · rw [hz 2 (by omega)] at hc
    rw [h3 c hc]; exact y3 c hc
theorem X_lpt {S : w_S} {l k : Nat} {v : Int} (hk : k ≠ 0 ∧ k ≠ 1) : X_le S (w_lpt S l k v) := by
  have e0 : s_fu (S.2.1 l).1 k v 0 = (S.2.1 l).1 0 := s_fu_ne (fun e => hk.1 e.symm)
  have e1 : s_fu (S.2.1 l).1 k v 1 = (S.2.1 l).1 1 := s_fu_ne (fun e => hk.2 e.symm)
  exact X_setL ⟨e0, e1⟩
section acts
variable {V : Nat → v_D} {U : Nat → Prop} {S : w_S} {r : Nat → Int} {d : Nat} {at_ : Int}
theorem P_o6 (h : I_P V U S) : ∀ i : Nat, (i : Int) < S.1 6 → ∀ l ∈ (w_t S 6 i).2.1, 0 ≤ l ∧ l < S.1 0 := fun i hi => (h.2.2 6 i (by omega) (by omega) hi).2.1.1
/-- a name that is new -/
def x_new (V : Nat → v_D) (S : w_S) (d k : Nat) : Prop := (∀ s i : Nat, s < 7 → (i : Int) < S.1 s → w_nm S s i ≠ (V d).2.1 k) ∧ ∀ j, j < k → (V d).2.1 j ≠ (V d).2.1 k
theorem x_new_of {R : Nat → Nat × Nat} (hv : v_ok (V d)) (hok : n_ok S (V d).2.1 (V d).2.2.1 ((V d).1 7) R) {k : Nat} (hw : (v_ws ((V d).1 3) ((V d).1 7))[k]? = some 10) : x_new V S d k := by
  have t := hv.2.1.2 k
  rw [hw] at t
  by_cases c : (k : Int) < (V d).1 7
  · rw [if_pos c] at t
    have e : (V d).2.2.1 k = 10 := (Option.some.inj t).symm
    have := hok k c
    unfold n_at at this
    rw [if_pos e] at this
    exact this
  · rw [if_neg c] at t; cases t
theorem Y_person (h : I_P V U S) (y : Y_g S) (n : x_new V S d 0) : Y_g (X_person V S d at_).2 := by
  unfold X_person
  refine cP (p := fun X : Int × w_S => Y_g X.2) (fun _ => y) (fun _ => cP (p := fun X : Int × w_S => Y_g X.2) (fun _ => y) (fun c => ?_))
  have hm : w_mx 1 = 40 := rfl
  exact Y_addT h.1 ⟨by omega, by omega⟩ (by omega) (fun _ => n.1) (fun z => by omega) (fun z => by omega) y
theorem Y_firm (h : I_P V U S) (y : Y_g S) (n : x_new V S d 0) : Y_g (X_firm V S r d at_).2 := by
  unfold X_firm
  refine cP (p := fun X : Int × w_S => Y_g X.2) (fun _ => y) (fun _ => cP (p := fun X : Int × w_S => Y_g X.2) (fun _ => y) (fun c => ?_))
  have hm : w_mx 1 = 40 := rfl
  exact Y_addT h.1 ⟨by omega, by omega⟩ (by omega) (fun _ => n.1) (fun z => by omega) (fun z => by omega) y
theorem X_ends {dead heir : Int} (hz : R_z S) : X_le S (w_map S 2 6 (t_ends dead heir)) := X_map hz (fun s t s2 s6 => by
  unfold t_ends
  split
  · split
    · have g : ∀ k, k ≠ 5 → s_fu t.1 5 heir k = t.1 k := fun k hk => s_fu_ne hk
      refine ⟨g 0 (by omega), g 3 (by omega), fun z => ?_, fun _ => List.Sublist.refl _⟩
      rw [← g 2 (by omega)]; exact z
    · have g : ∀ k, k ≠ 2 → s_fu t.1 2 1 k = t.1 k := fun k hk => s_fu_ne hk
      refine ⟨g 0 (by omega), g 3 (by omega), fun z => ?_, fun _ => List.Sublist.refl _⟩
      have e : s_fu t.1 2 1 2 = 1 := s_fu_eq
      change s_fu t.1 2 1 2 = 0 at z
      rw [e] at z; cases z
  · exact T_le_refl)
theorem X_hs {dead : Int} {ps : List (Int × Int)} {k : Nat} : X_le S (w_hs S dead r ps k) := by
  refine ⟨fun _ _ => rfl, fun i _ => ?_, fun _ _ _ _ _ => T_le_refl, rfl⟩
  show L_le (S.2.1 i) (if i < k then _ else S.2.1 i)
  split
  · split
    · exact ⟨rfl, rfl⟩
    · exact L_le_refl
  · exact L_le_refl
/-- ACTS that make nothing and part nothing -/
theorem X_le_guard (h : I_P V U S) (h0 : 0 ≤ r 0 ∧ r 0 < S.1 1) : X_le S (X_guard S r).2 := by
  unfold X_guard
  exact cP (p := fun X : Int × w_S => X_le S X.2) (fun _ => X_le_refl) (fun _ => cP (p := fun X : Int × w_S => X_le S X.2) (fun _ => X_le_refl) (fun _ => X_put h.1 ⟨by omega, by omega⟩ (by omega) ⟨by omega, by omega⟩ (fun z => by omega)))
theorem X_le_die (h : I_P V U S) (h0 : 0 ≤ r 0 ∧ r 0 < S.1 1) : X_le S (X_die V S r d).2 := by
  unfold X_die
  refine cP (p := fun X : Int × w_S => X_le S X.2) (fun _ => X_le_refl) (fun _ => cP (p := fun X : Int × w_S => X_le S X.2) (fun _ => X_le_refl) (fun _ => cP (p := fun X : Int × w_S => X_le S X.2) (fun _ => X_le_refl) (fun _ => ?_)))
  have k1 := X_hs (S := S) (r := r) (dead := r 0) (ps := (V d).2.2.2.1) (k := (S.1 0).toNat)
  have k2 := X_le_trans k1 (X_ends (dead := r 0) (heir := if 0 < (V d).1 15 then r 1 else 0) (X_z k1 h.1))
  exact X_le_trans k2 (X_put (s := 1) (X_z k2 h.1) ⟨by omega, by omega⟩ (by rw [k2.1 1 (by omega)]; omega) ⟨by omega, by omega⟩ (fun _ => by decide))
theorem X_le_close (h : I_P V U S) (h0 : 0 ≤ r 0 ∧ r 0 < S.1 1) : X_le S (X_close S r).2 := by
  unfold X_close
  refine cP (p := fun X : Int × w_S => X_le S X.2) (fun _ => X_le_refl) (fun _ => ?_)
  have k2 := X_ends (dead := r 0) (heir := 0) h.1
  exact X_le_trans k2 (X_put (s := 1) (X_z k2 h.1) ⟨by omega, by omega⟩ (by rw [k2.1 1 (by omega)]; omega) ⟨by omega, by omega⟩ (fun _ => by decide))
theorem X_le_border : X_le S (X_border V S r d).2 := by
  unfold X_border
  refine cP (p := fun X : Int × w_S => X_le S X.2) (fun _ => X_le_refl) (fun _ => cP (p := fun X : Int × w_S => X_le S X.2) (fun _ => X_le_refl) (fun _ => cP (p := fun X : Int × w_S => X_le S X.2) (fun _ => X_le_refl) (fun _ => ?_)))
  cases g_jraw (w_l S (r 0).toNat).2.1 (w_l S (r 1).toNat).2.1 with
  | none => exact X_le_refl
  | some R =>
    unfold X_border1 X_border2
    refine cP (p := fun X : Int × w_S => X_le S X.2) (fun _ => X_le_refl) (fun _ => cP (p := fun X : Int × w_S => X_le S X.2) (fun _ => X_le_refl) (fun _ => ?_))
    have k1 : X_le S (w_fgs S (r 0).toNat (g_cls (g_rawL (g_cls R) (V d).2.2.2.2))) := X_setL ⟨rfl, rfl⟩
    have k2 : X_le (w_fgs S (r 0).toNat (g_cls (g_rawL (g_cls R) (V d).2.2.2.2))) (w_fgs (w_fgs S (r 0).toNat (g_cls (g_rawL (g_cls R) (V d).2.2.2.2))) (r 1).toNat (g_cls (g_rawR (g_cls R) (V d).2.2.2.2))) := X_setL ⟨rfl, rfl⟩
    exact X_le_trans k1 k2
theorem X_le_pay (h : I_P V U S) (h0 : 0 ≤ r 0 ∧ r 0 < S.1 2) : X_le S (X_pay V S r d).2 := by
  unfold X_pay
  refine cP (p := fun X : Int × w_S => X_le S X.2) (fun _ => X_le_refl) (fun _ => cP (p := fun X : Int × w_S => X_le S X.2) (fun _ => ?_) (fun _ => ?_))
  · exact X_put h.1 ⟨by omega, by omega⟩ (by omega) ⟨by omega, by omega⟩ (fun z => by omega)
  · have k1 := X_put (S := S) (s := 2) (i := (r 0).toNat) (k := 6) (v := 0) h.1 ⟨by omega, by omega⟩ (by omega) ⟨by omega, by omega⟩ (fun z => by omega)
    exact X_le_trans k1 (X_endc (X_z k1 h.1) (by rw [k1.1 2 (by omega)]; omega))
theorem X_le_assign (h : I_P V U S) (h0 : 0 ≤ r 0 ∧ r 0 < S.1 2) : X_le S (X_assign S r).2 := by
  unfold X_assign
  exact cP (p := fun X : Int × w_S => X_le S X.2) (fun _ => X_le_refl) (fun _ => cP (p := fun X : Int × w_S => X_le S X.2) (fun _ => X_le_refl) (fun _ => X_put h.1 ⟨by omega, by omega⟩ (by omega) ⟨by omega, by omega⟩ (fun z => by omega)))
theorem X_le_rank : X_le S (X_rank S r).2 := by
  unfold X_rank
  exact cP (p := fun X : Int × w_S => X_le S X.2) (fun _ => X_le_refl) (fun _ => X_setL ⟨rfl, rfl⟩)
theorem X_le_freed (h : I_P V U S) (h1 : 0 ≤ r 1 ∧ r 1 < S.1 2) : X_le S (X_free S r).2 := by
  unfold X_free
  exact cP (p := fun X : Int × w_S => X_le S X.2) (fun _ => X_le_refl) (fun _ => X_free_le h.1 (by omega))
theorem X_le_auction (h : I_P V U S) (h0 : 0 ≤ r 0 ∧ r 0 < S.1 0) : X_le S (X_auction V S r d).2 := by
  unfold X_auction
  refine cP (p := fun X : Int × w_S => X_le S X.2) (fun _ => X_le_refl) (fun _ => cP (p := fun X : Int × w_S => X_le S X.2) (fun _ => X_le_refl) (fun _ => cP (p := fun X : Int × w_S => X_le S X.2) (fun _ => X_le_refl) (fun _ => cP (p := fun X : Int × w_S => X_le S X.2) (fun _ => X_le_refl) (fun _ => ?_))))
  unfold w_auction
  have k1 : X_le S (w_ows S (r 0).toNat [(r 2, 1, 1)]) := X_setL ⟨rfl, rfl⟩
  have k2 : X_le S (w_lpt (w_ows S (r 0).toNat [(r 2, 1, 1)]) (r 0).toNat 2 ((V d).1 9)) := X_le_trans k1 (X_lpt ⟨by omega, by omega⟩)
  have ch : (w_l (w_lpt (w_ows S (r 0).toNat [(r 2, 1, 1)]) (r 0).toNat 2 ((V d).1 9)) (r 0).toNat).2.2.1 = (w_l S (r 0).toNat).2.2.1 := by
    show (s_fu (s_fu S.2.1 (r 0).toNat _) (r 0).toNat _ (r 0).toNat).2.2.1 = _
    rw [s_fu_eq, show (w_ows S (r 0).toNat [(r 2, 1, 1)]).2.1 (r 0).toNat = ((S.2.1 (r 0).toNat).1, (S.2.1 (r 0).toNat).2.1, (S.2.1 (r 0).toNat).2.2.1, [(r 2, 1, 1)]) from s_fu_eq]; rfl
  have k3 := X_le_trans k2 (X_auc (l := (r 0).toNat) (f := (r_find (w_l S (r 0).toNat).2.2.1 (r 1)).toNat) (k := 8) (left := (V d).1 9) (X_z k2 h.1) (fun c hc => by
    rw [ch] at hc
    rw [k2.1 2 (by omega)]
    exact (h.2.1 (r 0).toNat (by omega)).2.1 c hc))
  exact X_le_trans k3 (X_map (X_z k3 h.1) (fun s t _ _ => by
    unfold t_clr
    split
    · exact T_leave
    · exact T_le_refl))
theorem X_le_waive (h : I_P V U S) (h0 : 0 ≤ r 0 ∧ r 0 < S.1 3) : X_le S (X_waive S r).2 := by
  unfold X_waive
  exact cP (p := fun X : Int × w_S => X_le S X.2) (fun _ => X_le_refl) (fun _ => X_put h.1 ⟨by omega, by omega⟩ (by omega) ⟨by omega, by omega⟩ (fun _ => by decide))
theorem X_le_end {ss : Nat → Int} (h : I_P V U S) (h0 : (4 ≤ ss 0 ∧ ss 0 ≤ 6) ∧ 0 ≤ r 0 ∧ r 0 < S.1 (ss 0).toNat) : X_le S (X_end S ss r).2 := by
  unfold X_end
  exact cP (p := fun X : Int × w_S => X_le S X.2) (fun _ => X_le_refl) (fun _ => X_put h.1 ⟨by omega, by omega⟩ (by omega) ⟨by omega, by omega⟩ (fun _ => by decide))
theorem X_le_take (h : I_P V U S) : X_le S (X_take V S r d).2 := by
  unfold X_take
  refine cP (p := fun X : Int × w_S => X_le S X.2) (fun _ => X_le_refl) (fun _ => cP (p := fun X : Int × w_S => X_le S X.2) (fun _ => X_le_refl) (fun n2 => ?_))
  obtain ⟨k, hk⟩ := w_lat_ex.resolve_left n2
  rw [w_lat_eps hk]
  have hk7 : (k : Int) < S.1 7 := by
    rcases hk with ⟨e, -⟩ | ⟨k', e1, e2, -⟩
    · omega
    · have : k = k' := by omega
      rw [this]; exact e2
  unfold X_take2
  refine cP (p := fun X : Int × w_S => X_le S X.2) (fun _ => X_le_refl) (fun _ => cP (p := fun X : Int × w_S => X_le S X.2) (fun _ => X_le_refl) (fun _ => cP (p := fun X : Int × w_S => X_le S X.2) (fun _ => X_le_refl) (fun _ => ?_)))
  have k1 : X_le S (w_ows S (r_get (w_t S 7 k).2.1 0).toNat (X_tfin V S (w_t S 6 (r 0).toNat) (w_t S 7 k))) := X_setL ⟨rfl, rfl⟩
  exact X_le_trans k1 (X_put (s := 7) (X_z k1 h.1) ⟨by omega, by omega⟩ hk7 ⟨by omega, by omega⟩ (fun z => by omega))
theorem Y_sell (h : I_P V U S) (y : Y_g S) : Y_g (X_sell V S r d at_).2 := by
  unfold X_sell
  refine cP (p := fun X : Int × w_S => Y_g X.2) (fun _ => y) (fun _ => cP (p := fun X : Int × w_S => Y_g X.2) (fun _ => y) (fun _ => cP (p := fun X : Int × w_S => Y_g X.2) (fun _ => y) (fun _ => cP (p := fun X : Int × w_S => Y_g X.2) (fun _ => y) (fun _ => cP (p := fun X : Int × w_S => Y_g X.2) (fun _ => y) (fun n5 => ?_)))))
  have k1 : X_le S (w_ows S (r 0).toNat (y_fin S r (V d).2.2.2.1 ((V d).1 11) ((V d).1 12))) := X_setL ⟨rfl, rfl⟩
  have k2 : X_le S (w_lpt (w_ows S (r 0).toNat (y_fin S r (V d).2.2.2.1 ((V d).1 11) ((V d).1 12))) (r 0).toNat 2 ((V d).1 9)) := X_le_trans k1 (X_lpt ⟨by omega, by omega⟩)
  have hm : w_mx 7 = 60 := rfl
  exact Y_addT (X_z k2 h.1) ⟨by omega, by omega⟩ (show S.1 7 < w_mx 7 by omega) (fun z => by omega) (fun z => by omega) (fun z => by omega) (Y_le k2 (P_o6 h) y)
theorem X_chst {c : Int} {i : Nat} : ∀ {ls : List Int} {Y : w_S}, R_z Y → (i : Int) < Y.1 2 → X_le Y (ls.foldl (w_chst (w_F 2 + i) c) Y)
  | [], _, _, _ => X_le_refl
  | l :: ls, Y, hz, hi => by
    have k1 : X_le Y (w_lts Y (w_F 2 + i) (r_add (Y.2.2.1 (w_F 2 + i)).2.1 l)) := X_setT hz ⟨by omega, by omega⟩ hi ⟨rfl, rfl, fun z => z, fun z => by omega⟩
    have k2 : X_le Y (w_chst (w_F 2 + i) c Y l) := X_le_trans k1 (X_setL ⟨rfl, rfl⟩)
    exact X_le_trans k2 (X_chst (X_z k2 hz) hi)
theorem Y_charge (h : I_P V U S) (y : Y_g S) (n : x_new V S d 0) : Y_g (X_charge V S r d at_).2 := by
  unfold X_charge
  refine cP (p := fun X : Int × w_S => Y_g X.2) (fun _ => y) (fun _ => cP (p := fun X : Int × w_S => Y_g X.2) (fun _ => y) (fun _ => cP (p := fun X : Int × w_S => Y_g X.2) (fun _ => y) (fun _ => cP (p := fun X : Int × w_S => Y_g X.2) (fun _ => y) (fun _ => cP (p := fun X : Int × w_S => Y_g X.2) (fun _ => y) (fun n5 => ?_)))))
  have z2 := h.1 2 (by omega)
  have hm : w_mx 2 = 40 := rfl
  have hf : S.1 2 < w_mx 2 := by
    have : ¬ 40 ≤ S.1 2 := fun z => n5 (Or.inl z)
    omega
  have k1 := Y_addT (x := (s_fu (s_fu (w_new S 2 ((V d).2.1 0) d at_).1 5 (r ((V d).1 7 - 1).toNat)) 6 ((V d).1 9), [], [])) h.1 ⟨by omega, by omega⟩ hf (fun _ => n.1) (fun _ => rfl) (fun z => by omega) y
  have e2 : (w_addT S 2 (s_fu (s_fu (w_new S 2 ((V d).2.1 0) d at_).1 5 (r ((V d).1 7 - 1).toNat)) 6 ((V d).1 9), [], [])).1 2 = S.1 2 + 1 := by rw [w_z_add, if_pos rfl]
  have zz : R_z (w_addT S 2 (s_fu (s_fu (w_new S 2 ((V d).2.1 0) d at_).1 5 (r ((V d).1 7 - 1).toNat)) 6 ((V d).1 9), [], [])) := fun s hs => by
    have := h.1 s hs
    rw [w_z_add]
    split
    · next c => subst c; omega
    · exact this
  have e0 : (w_addT S 2 (s_fu (s_fu (w_new S 2 ((V d).2.1 0) d at_).1 5 (r ((V d).1 7 - 1).toNat)) 6 ((V d).1 9), [], [])).1 0 = S.1 0 := by rw [w_z_add, if_neg (by omega)]
  have e6 : (w_addT S 2 (s_fu (s_fu (w_new S 2 ((V d).2.1 0) d at_).1 5 (r ((V d).1 7 - 1).toNat)) 6 ((V d).1 9), [], [])).1 6 = S.1 6 := by rw [w_z_add, if_neg (by omega)]
  refine Y_le (X_chst zz (by rw [e2]; omega)) (fun i hi l hl => ?_) k1
  rw [e6] at hi
  have z6 := h.1 6 (by omega)
  rw [w_t_add ⟨by omega, by omega⟩ ⟨by omega, by omega⟩ (by omega) (by omega), if_neg (by omega)] at hl
  rw [e0]
  exact P_o6 h i hi l hl
theorem Y_serve {x z : Nat → Int} (h : I_P V U S) (y : Y_g S) (n : x_new V S d 0) : Y_g (X_serve V S r x z d at_).2 := by
  unfold X_serve
  refine cP (p := fun X : Int × w_S => Y_g X.2) (fun _ => y) (fun _ => cP (p := fun X : Int × w_S => Y_g X.2) (fun _ => y) (fun _ => cP (p := fun X : Int × w_S => Y_g X.2) (fun _ => y) (fun _ => cP (p := fun X : Int × w_S => Y_g X.2) (fun _ => y) (fun _ => cP (p := fun X : Int × w_S => Y_g X.2) (fun _ => y) (fun n5 => ?_)))))
  have hm : w_mx 3 = 40 := rfl
  exact Y_addT h.1 ⟨by omega, by omega⟩ (by omega) (fun _ => n.1) (fun z => by omega) (fun z => by omega) y
theorem Y_lease (h : I_P V U S) (y : Y_g S) (n : x_new V S d 0) : Y_g (X_lease V S r d at_).2 := by
  unfold X_lease
  refine cP (p := fun X : Int × w_S => Y_g X.2) (fun _ => y) (fun _ => cP (p := fun X : Int × w_S => Y_g X.2) (fun _ => y) (fun _ => cP (p := fun X : Int × w_S => Y_g X.2) (fun _ => y) (fun _ => cP (p := fun X : Int × w_S => Y_g X.2) (fun _ => y) (fun _ => cP (p := fun X : Int × w_S => Y_g X.2) (fun _ => y) (fun n5 => ?_)))))
  have hm : w_mx 4 = 40 := rfl
  exact Y_addT h.1 ⟨by omega, by omega⟩ (by omega) (fun _ => n.1) (fun z => by omega) (fun z => by omega) y
theorem Y_caution (h : I_P V U S) (y : Y_g S) (n : x_new V S d 0) : Y_g (X_caution V S r d at_).2 := by
  unfold X_caution
  refine cP (p := fun X : Int × w_S => Y_g X.2) (fun _ => y) (fun n5 => ?_)
  have hm : w_mx 5 = 40 := rfl
  exact Y_addT h.1 ⟨by omega, by omega⟩ (by omega) (fun _ => n.1) (fun z => by omega) (fun z => by omega) y
theorem Y_option (h : I_P V U S) (y : Y_g S) (n : x_new V S d 0) (h1 : x_in S r 0 1) : Y_g (X_option V S r d at_).2 := by
  unfold X_option
  refine cP (p := fun X : Int × w_S => Y_g X.2) (fun _ => y) (fun _ => cP (p := fun X : Int × w_S => Y_g X.2) (fun _ => y) (fun _ => cP (p := fun X : Int × w_S => Y_g X.2) (fun _ => y) (fun _ => cP (p := fun X : Int × w_S => Y_g X.2) (fun _ => y) (fun n5 => ?_))))
  have hm : w_mx 6 = 30 := rfl
  refine Y_addT h.1 ⟨by omega, by omega⟩ (by omega) (fun _ => n.1) (fun z => by omega) (fun _ => ⟨List.nodup_cons.mpr ⟨(fun z => by cases z), List.nodup_nil⟩, fun l hl => ?_⟩) y
  rcases List.mem_singleton.mp hl with rfl
  exact w_thr0 h1.2
end acts
