/-! names and all that: parting and joining; every ACT -/
section acts
variable {V : Nat → v_D} {U : Nat → Prop} {S : w_S} {r : Nat → Int} {d : Nat} {at_ : Int}
theorem w_nm_addL {x : w_L} {q i : Nat} (h0 : 0 ≤ S.1 0) (hi : (i : Int) < (w_addL S x).1 q) : w_nm (w_addL S x) q i = x.1 0 ∨ ((i : Int) < S.1 q ∧ w_nm (w_addL S x) q i = w_nm S q i) := by
  have sz : (w_addL S x).1 q = if q = 0 then S.1 0 + 1 else S.1 q := rfl
  have lo : ∀ k : Nat, w_l (w_addL S x) k = if k = (S.1 0).toNat then x else w_l S k := fun k => rfl
  rw [sz] at hi
  unfold w_nm
  by_cases c : q = 0
  · subst c
    rw [if_pos rfl] at hi
    rw [if_pos rfl, if_pos rfl, lo]
    by_cases c2 : i = (S.1 0).toNat
    · rw [if_pos c2]; exact Or.inl rfl
    · rw [if_neg c2]; exact Or.inr ⟨by omega, rfl⟩
  · rw [if_neg c] at hi
    rw [if_neg c, if_neg c]
    exact Or.inr ⟨hi, rfl⟩
theorem Y_split (h : I_P V U S) (y : Y_g S) (hv : v_ok (V d)) (n1 : x_new V S d 1) (n2 : x_new V S d 2) (h0 : 0 ≤ r 0 ∧ r 0 < S.1 0) : Y_g (X_split V S r d).2 := by
  unfold X_split
  refine cP (p := fun X : Int × w_S => Y_g X.2) (fun _ => y) (fun _ => cP (p := fun X : Int × w_S => Y_g X.2) (fun _ => y) (fun _ => cP (p := fun X : Int × w_S => Y_g X.2) (fun _ => y) (fun _ => cP (p := fun X : Int × w_S => Y_g X.2) (fun _ => y) (fun n4 => ?_))))
  generalize g_cls (g_rawL (w_l S (r 0).toNat).2.1 (V d).2.2.2.2) = A at *
  generalize g_cls (g_rawR (w_l S (r 0).toNat).2.1 (V d).2.2.2.2) = B at *
  have z0 := h.1 0 (by omega)
  have o6 := P_o6 h
  have y1 : Y_g (w_addL S (l_mk ((V d).2.1 1) (w_l S (r 0).toNat) A)) := Y_addL n1.1 z0.1 o6 y
  have y2 : Y_g (w_addL (w_addL S (l_mk ((V d).2.1 1) (w_l S (r 0).toNat) A)) (l_mk ((V d).2.1 2) (w_l S (r 0).toNat) B)) := by
    refine Y_addL (fun q i q7 hi e => ?_) (show 0 ≤ S.1 0 + 1 by omega) (fun i hi l hl => ?_) y1
    · rcases w_nm_addL z0.1 hi with k | ⟨k1, k2⟩
      · rw [k] at e
        exact n2.2 1 (by omega) e
      · rw [k2] at e
        exact n2.1 q i q7 k1 e
    · have := o6 i hi l hl
      show 0 ≤ l ∧ l < S.1 0 + 1
      omega
  have e0 : (w_addL (w_addL S (l_mk ((V d).2.1 1) (w_l S (r 0).toNat) A)) (l_mk ((V d).2.1 2) (w_l S (r 0).toNat) B)).1 0 = S.1 0 + 1 + 1 := rfl
  have sz : ∀ s, s ≠ 0 → (w_addL (w_addL S (l_mk ((V d).2.1 1) (w_l S (r 0).toNat) A)) (l_mk ((V d).2.1 2) (w_l S (r 0).toNat) B)).1 s = S.1 s := fun s hs => by
    show (if s = 0 then _ else if s = 0 then _ else S.1 s) = S.1 s
    rw [if_neg hs, if_neg hs]
  have lo : ∀ k : Nat, w_l (w_addL (w_addL S (l_mk ((V d).2.1 1) (w_l S (r 0).toNat) A)) (l_mk ((V d).2.1 2) (w_l S (r 0).toNat) B)) k = if k = (S.1 0 + 1).toNat then l_mk ((V d).2.1 2) (w_l S (r 0).toNat) B else if k = (S.1 0).toNat then l_mk ((V d).2.1 1) (w_l S (r 0).toNat) A else w_l S k := fun k => rfl
  have tt : ∀ s i, w_t (w_addL (w_addL S (l_mk ((V d).2.1 1) (w_l S (r 0).toNat) A)) (l_mk ((V d).2.1 2) (w_l S (r 0).toNat) B)) s i = w_t S s i := fun _ _ => rfl
  have zz : R_z (w_addL (w_addL S (l_mk ((V d).2.1 1) (w_l S (r 0).toNat) A)) (l_mk ((V d).2.1 2) (w_l S (r 0).toNat) B)) := fun s hs => by
    by_cases c : s = 0
    · rw [c, e0]
      have : S.1 0 ≤ 78 := Int.not_lt.mp (fun z => n4 (Or.inl z))
      have hm : w_mx 0 = 80 := rfl
      omega
    · rw [sz s c]; exact h.1 s hs
  have dd : (w_addL (w_addL S (l_mk ((V d).2.1 1) (w_l S (r 0).toNat) A)) (l_mk ((V d).2.1 2) (w_l S (r 0).toNat) B)).2.2.2 = S.2.2.2 := rfl
  generalize hW : w_addL (w_addL S (l_mk ((V d).2.1 1) (w_l S (r 0).toNat) A)) (l_mk ((V d).2.1 2) (w_l S (r 0).toNat) B) = W at *
  have wt : ∀ s i : Nat, 1 ≤ s → s < 8 → (i : Int) < W.1 s → w_t (w_map (w_lpt W (r 0).toNat 1 1) 2 6 (t_spl (fun a => (V a).2.2.2.2) (r 0) (S.1 0) (S.1 0 + 1) S.2.2.2 A B)) s i = if 2 ≤ s ∧ s ≤ 6 then t_spl (fun a => (V a).2.2.2.2) (r 0) (S.1 0) (S.1 0 + 1) S.2.2.2 A B s (w_t S s i) else w_t S s i := fun s i s1 s8 hi => by
    rw [w_map_at (show R_z (w_lpt W (r 0).toNat 1 1) from zz) ⟨s1, s8⟩ hi]
    show (if 2 ≤ s ∧ s ≤ 6 then t_spl _ _ _ _ _ _ _ s (w_t W s i) else w_t W s i) = _
    rw [tt]
  have sc : ∀ (s : Nat) (t : w_T), (t_spl (fun a => (V a).2.2.2.2) (r 0) (S.1 0) (S.1 0 + 1) S.2.2.2 A B s t).1 = t.1 := fun s t => by
    unfold t_spl
    split <;> rfl
  have lp : ∀ k : Nat, w_l (w_map (w_lpt W (r 0).toNat 1 1) 2 6 (t_spl (fun a => (V a).2.2.2.2) (r 0) (S.1 0) (S.1 0 + 1) S.2.2.2 A B)) k = if k = (r 0).toNat then (s_fu (w_l W (r 0).toNat).1 1 1, (w_l W (r 0).toNat).2) else w_l W k := fun k => rfl
  refine Y_mk (S := W) (fun _ _ => rfl) (fun s i s7 hi => ?_) (fun c hc => ?_) (fun i hi => ?_) y2
  · unfold w_nm
    by_cases c : s = 0
    · rw [if_pos c, if_pos c, lp]
      split
      · next e =>
        rw [e]
        show s_fu (w_l W (r 0).toNat).1 1 1 0 = (w_l W (r 0).toNat).1 0
        exact s_fu_ne (by omega)
      · rfl
    · rw [if_neg c, if_neg c, wt s i (by omega) (by omega) hi, tt]
      split
      · rw [sc]
      · rfl
  · rw [wt 2 c (by omega) (by omega) hc, tt, if_pos ⟨by omega, by omega⟩, sc]
  · rw [wt 6 i (by omega) (by omega) hi, if_pos ⟨by omega, by omega⟩]
    have hi' : (i : Int) < S.1 6 := by rw [← sz 6 (by omega)]; exact hi
    have k := y.2.1 i hi'
    have rg := o6 i hi'
    have an : S.1 0 ∉ (w_t S 6 i).2.1 := fun z => by have := rg _ z; omega
    have bn : S.1 0 + 1 ∉ (w_t S 6 i).2.1 := fun z => by have := rg _ z; omega
    have pn := r_part_nd (old := r 0) (a := S.1 0) (b := S.1 0 + 1) k.1 an bn (by omega) (by omega)
    have thr : w_thr (w_map (w_lpt W (r 0).toNat 1 1) 2 6 (t_spl (fun a => (V a).2.2.2.2) (r 0) (S.1 0) (S.1 0 + 1) S.2.2.2 A B)) 6 i = t_thr (w_t S 6 i) S.2.2.2 := by
      show t_thr (w_t (w_map (w_lpt W (r 0).toNat 1 1) 2 6 (t_spl (fun a => (V a).2.2.2.2) (r 0) (S.1 0) (S.1 0 + 1) S.2.2.2 A B)) 6 i) W.2.2.2 = _
      rw [wt 6 i (by omega) (by omega) hi, if_pos ⟨by omega, by omega⟩, dd]
      unfold t_thr
      rw [sc]
    rw [thr]
    generalize hZ : w_map (w_lpt W (r 0).toNat 1 1) 2 6 (t_spl (fun a => (V a).2.2.2.2) (r 0) (S.1 0) (S.1 0 + 1) S.2.2.2 A B) = Z at *
    unfold t_spl
    by_cases t0 : t_thr (w_t S 6 i) S.2.2.2 = true
    · rw [if_pos t0]
      refine ⟨pn.1, fun _ l hl => ?_⟩
      rw [lp]
      rcases pn.2 l hl with e | e | ⟨e1, e2⟩
      · rw [if_neg (by omega), lo, if_neg (by omega), if_pos (by rw [e])]; rfl
      · rw [if_neg (by omega), lo, if_pos (by rw [e])]; rfl
      · have b := rg l e1
        rw [if_neg (by omega), lo, if_neg (by omega), if_neg (by omega)]
        exact k.2 t0 l e1
    · rw [if_neg t0]
      exact ⟨k.1, fun z => absurd z t0⟩
theorem Y_join (h : I_P V U S) (y : Y_g S) (n2 : x_new V S d 2) (h0 : 0 ≤ r 0 ∧ r 0 < S.1 0) (h1 : 0 ≤ r 1 ∧ r 1 < S.1 0) : Y_g (X_join V S r d).2 := by
  unfold X_join
  refine cP (p := fun X : Int × w_S => Y_g X.2) (fun _ => y) (fun _ => cP (p := fun X : Int × w_S => Y_g X.2) (fun _ => y) (fun _ => cP (p := fun X : Int × w_S => Y_g X.2) (fun _ => y) (fun _ => cP (p := fun X : Int × w_S => Y_g X.2) (fun _ => y) (fun n4 => cP (p := fun X : Int × w_S => Y_g X.2) (fun _ => y) (fun _ => ?_)))))
  cases g_jraw (w_l S (r 0).toNat).2.1 (w_l S (r 1).toNat).2.1 with
  | none => exact y
  | some R =>
    unfold X_join1 X_join2
    refine cP (p := fun X : Int × w_S => Y_g X.2) (fun _ => y) (fun _ => cP (p := fun X : Int × w_S => Y_g X.2) (fun _ => y) (fun n6 => ?_))
    generalize g_cls R = A at *
    have z0 := h.1 0 (by omega)
    have o6 := P_o6 h
    have y2 : Y_g (w_addL S (l_mk ((V d).2.1 2) (w_l S (r 0).toNat) A)) := Y_addL n2.1 z0.1 o6 y
    have e0 : (w_addL S (l_mk ((V d).2.1 2) (w_l S (r 0).toNat) A)).1 0 = S.1 0 + 1 := rfl
    have sz : ∀ s, s ≠ 0 → (w_addL S (l_mk ((V d).2.1 2) (w_l S (r 0).toNat) A)).1 s = S.1 s := fun s hs => by
      show (if s = 0 then _ else S.1 s) = S.1 s
      rw [if_neg hs]
    have lo : ∀ k : Nat, w_l (w_addL S (l_mk ((V d).2.1 2) (w_l S (r 0).toNat) A)) k = if k = (S.1 0).toNat then l_mk ((V d).2.1 2) (w_l S (r 0).toNat) A else w_l S k := fun k => rfl
    have tt : ∀ s i, w_t (w_addL S (l_mk ((V d).2.1 2) (w_l S (r 0).toNat) A)) s i = w_t S s i := fun _ _ => rfl
    have zz : R_z (w_addL S (l_mk ((V d).2.1 2) (w_l S (r 0).toNat) A)) := fun s hs => by
      by_cases c : s = 0
      · rw [c, e0]
        have hm : w_mx 0 = 80 := rfl
        omega
      · rw [sz s c]; exact h.1 s hs
    have dd : (w_addL S (l_mk ((V d).2.1 2) (w_l S (r 0).toNat) A)).2.2.2 = S.2.2.2 := rfl
    generalize hW : w_addL S (l_mk ((V d).2.1 2) (w_l S (r 0).toNat) A) = W at *
    have wt : ∀ s i : Nat, 1 ≤ s → s < 8 → (i : Int) < W.1 s → w_t (w_map (w_lpt (w_lpt W (r 0).toNat 1 1) (r 1).toNat 1 1) 2 6 (t_mrg (r 0) (r 1) (S.1 0) S.2.2.2)) s i = if 2 ≤ s ∧ s ≤ 6 then t_mrg (r 0) (r 1) (S.1 0) S.2.2.2 s (w_t S s i) else w_t S s i := fun s i s1 s8 hi => by
      rw [w_map_at (show R_z (w_lpt (w_lpt W (r 0).toNat 1 1) (r 1).toNat 1 1) from zz) ⟨s1, s8⟩ hi]
      show (if 2 ≤ s ∧ s ≤ 6 then t_mrg _ _ _ _ s (w_t W s i) else w_t W s i) = _
      rw [tt]
    have sc : ∀ (s : Nat) (t : w_T) (k : Nat), k ≠ 2 ∨ s ≠ 3 → (t_mrg (r 0) (r 1) (S.1 0) S.2.2.2 s t).1 k = t.1 k := fun s t k hk => by
      unfold t_mrg
      split
      · split
        · next c => exact s_fu_ne (by omega)
        · rfl
      · rfl
    have lp : ∀ k : Nat, (w_l (w_map (w_lpt (w_lpt W (r 0).toNat 1 1) (r 1).toNat 1 1) 2 6 (t_mrg (r 0) (r 1) (S.1 0) S.2.2.2)) k).1 0 = (w_l W k).1 0 ∧ (k ≠ (r 0).toNat → k ≠ (r 1).toNat → w_l (w_map (w_lpt (w_lpt W (r 0).toNat 1 1) (r 1).toNat 1 1) 2 6 (t_mrg (r 0) (r 1) (S.1 0) S.2.2.2)) k = w_l W k) := fun k => by
      have a : ∀ (Y : w_S) (l : Nat), (w_l (w_lpt Y l 1 1) k).1 0 = (w_l Y k).1 0 ∧ (k ≠ l → w_l (w_lpt Y l 1 1) k = w_l Y k) := fun Y l => by
        refine ⟨?_, fun hk => s_fu_ne hk⟩
        show (s_fu Y.2.1 l _ k).1 0 = _
        unfold s_fu
        split
        · next c => rw [c]; rfl
        · rfl
      have a1 := a W (r 0).toNat
      have a2 := a (w_lpt W (r 0).toNat 1 1) (r 1).toNat
      exact ⟨a2.1.trans a1.1, fun b0 b1 => (a2.2 b1).trans (a1.2 b0)⟩
    refine Y_mk (S := W) (fun _ _ => rfl) (fun s i s7 hi => ?_) (fun c hc => ?_) (fun i hi => ?_) y2
    · unfold w_nm
      by_cases c : s = 0
      · rw [if_pos c, if_pos c]; exact (lp i).1
      · rw [if_neg c, if_neg c, wt s i (by omega) (by omega) hi, tt]
        split
        · rw [sc _ _ _ (Or.inl (by omega))]
        · rfl
    · rw [wt 2 c (by omega) (by omega) hc, tt, if_pos ⟨by omega, by omega⟩, sc _ _ _ (Or.inl (by omega))]
    · rw [wt 6 i (by omega) (by omega) hi, if_pos ⟨by omega, by omega⟩]
      have hi' : (i : Int) < S.1 6 := by rw [← sz 6 (by omega)]; exact hi
      have k := y.2.1 i hi'
      have rg := o6 i hi'
      have an : S.1 0 ∉ (w_t S 6 i).2.1 := fun z => by have := rg _ z; omega
      have pn := r_mrg_nd (one := r 0) (other := r 1) (into := S.1 0) k.1 an
      have thr : w_thr (w_map (w_lpt (w_lpt W (r 0).toNat 1 1) (r 1).toNat 1 1) 2 6 (t_mrg (r 0) (r 1) (S.1 0) S.2.2.2)) 6 i = t_thr (w_t S 6 i) S.2.2.2 := by
        show t_thr (w_t (w_map (w_lpt (w_lpt W (r 0).toNat 1 1) (r 1).toNat 1 1) 2 6 (t_mrg (r 0) (r 1) (S.1 0) S.2.2.2)) 6 i) W.2.2.2 = _
        rw [wt 6 i (by omega) (by omega) hi, if_pos ⟨by omega, by omega⟩, dd]
        unfold t_thr
        rw [sc _ _ _ (Or.inr (by omega)), sc _ _ _ (Or.inr (by omega))]
      rw [thr]
      generalize hZ : w_map (w_lpt (w_lpt W (r 0).toNat 1 1) (r 1).toNat 1 1) 2 6 (t_mrg (r 0) (r 1) (S.1 0) S.2.2.2) = Z at *
      unfold t_mrg
      by_cases t0 : t_thr (w_t S 6 i) S.2.2.2 = true
      · rw [if_pos t0, if_neg (fun z => by omega)]
        refine ⟨pn.1, fun _ l hl => ?_⟩
        rcases pn.2 l hl with e | ⟨e1, e2, e3⟩
        · have := (lp l.toNat).2 (by omega) (by omega)
          rw [this, lo, if_pos (by rw [e])]; rfl
        · have b := rg l e1
          have := (lp l.toNat).2 (by omega) (by omega)
          rw [this, lo, if_neg (by omega)]
          exact k.2 t0 l e1
      · rw [if_neg t0]
        exact ⟨k.1, fun z => absurd z t0⟩
theorem Y_act {ss : Nat → Int} (h : I_P V U S) (y : Y_g S) (hv : v_ok (V d)) (hok : n_ok S (V d).2.1 (V d).2.2.1 ((V d).1 7) (fun k => ((ss k).toNat, (r k).toNat))) (hnn : ∀ k : Nat, (k : Int) < (V d).1 7 → (V d).2.2.1 k ≠ 10 → 0 ≤ ss k ∧ 0 ≤ r k) : Y_g (X_act V S ss r d at_).2 := by
  have le : ∀ {X : Int × w_S}, X_le S X.2 → Y_g X.2 := fun hX => Y_le hX (P_o6 h) y
  have nw : ∀ k : Nat, (v_ws ((V d).1 3) ((V d).1 7))[k]? = some 10 → x_new V S d k := fun k hk => x_new_of hv hok hk
  exact X_all (p := fun X => Y_g X.2) hv hok hnn (fun e => Y_person h y (nw 0 (by rw [e]; rfl))) (fun e a => Y_firm h y (nw 0 (by rw [e]; rfl))) (fun _ a b => le (X_le_guard h a)) (fun e a b => le (X_le_die h a)) (fun _ a => le (X_le_close h a)) (fun e a b c => Y_sell h y) (fun e a => Y_split h y hv (nw 1 (by rw [e]; rfl)) (nw 2 (by rw [e]; rfl)) a.1) (fun e a b => Y_join h y (nw 2 (by rw [e]; rfl)) a.1 b.1) (fun _ a b => le X_le_border) (fun e a _ c => Y_charge h y (nw 0 (by rw [e]; rfl))) (fun _ a => le (X_le_pay h a.1)) (fun _ a b => le (X_le_assign h a.1)) (fun _ a => le X_le_rank) (fun _ a b => le (X_le_freed h b.1)) (fun _ a _ c => le (X_le_auction h a.1)) (fun e a b => Y_serve h y (nw 0 (by rw [e]; rfl))) (fun _ a => le (X_le_waive h a.1)) (fun e a b => Y_lease h y (nw 0 (by rw [e]; rfl))) (fun e a b => Y_caution h y (nw 0 (by rw [e]; rfl))) (fun e a b => Y_option h y (nw 0 (by rw [e]; rfl)) a) (fun _ a => le (X_le_take h)) (fun _ a => le (X_le_end h a))
end acts
