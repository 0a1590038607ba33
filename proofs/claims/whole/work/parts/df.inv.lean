/-! every ACT keeps it: those that change FIGURES; all -/
section acts
variable {V : Nat → v_D} {U : Nat → Prop} {S : w_S} {r : Nat → Int} {d : Nat} {at_ : Int}
theorem P_addL {x : w_L} (h : I_P V U S) (hf : S.1 0 < 80) (hx : I_L S.1 x) : I_P V U (w_addL S x) ∧ (∀ s, s < 8 → S.1 s ≤ (w_addL S x).1 s) ∧ (w_addL S x).1 0 = S.1 0 + 1 := by
  have sz : ∀ s, (w_addL S x).1 s = if s = 0 then S.1 0 + 1 else S.1 s := fun s => rfl
  have up : ∀ s, s < 8 → S.1 s ≤ (w_addL S x).1 s := fun s _ => by
    rw [sz]
    split
    · next c => rw [c]; omega
    · omega
  have z0 := h.1 0 (by omega)
  have hm : w_mx 0 = 80 := rfl
  refine ⟨⟨fun s hs => ?_, fun i hi => ?_, fun s i s1 s8 hi => ?_⟩, up, rfl⟩
  · have := h.1 s hs
    rw [sz]
    split
    · next c => subst c; omega
    · exact this
  · rw [sz, if_pos rfl] at hi
    show I_L _ (s_fu S.2.1 (S.1 0).toNat x i)
    unfold s_fu
    split
    · exact I_L_up hx up
    · exact I_L_up (h.2.1 i (by omega)) up
  · rw [sz, if_neg (by omega)] at hi
    exact I_T_up (h.2.2 s i s1 s8 hi) up
theorem I_L_mk {called : Int} {like : w_L} {f : s_Fig} {z : Nat → Int} (h : I_L z like) (hf : s_fb f) : I_L z (l_mk called like f) := ⟨⟨hf, h.1.2⟩, h.2.1, h.2.2.1, h.2.2.2.1, h.2.2.2.2⟩
theorem I_bar {l : Int} {i : Nat} (h : I_P V U S) (hb : ¬ w_bar S l (-1)) (hi : (i : Int) < S.1 5) (ht : t_thr (w_t S 5 i) S.2.2.2 = true) : l ∉ (w_t S 5 i).2.1 := fun hm => by
  have := (h.2.2 5 i (by omega) (by omega) hi).1.2 (by omega) (by omega)
  exact hb ⟨i, hi, ht, hm, by omega⟩
theorem P_split (h : I_P V U S) (hv : v_ok (V d)) (h0 : 0 ≤ r 0 ∧ r 0 < S.1 0) : I_P V U (X_split V S r d).2 := by
  have hpb : s_pb (V d).2.2.2.2 := hv.2.2.2.2.2.2
  unfold X_split
  refine cP (p := fun X : Int × w_S => I_P V U X.2) (fun _ => h) (fun _ => cP (p := fun X : Int × w_S => I_P V U X.2) (fun _ => h) (fun n2 => cP (p := fun X : Int × w_S => I_P V U X.2) (fun _ => h) (fun n3 => cP (p := fun X : Int × w_S => I_P V U X.2) (fun _ => h) (fun n4 => ?_))))
  obtain ⟨hc, -, -⟩ := Classical.not_not.mp n3
  have hL := h.2.1 (r 0).toNat (by omega)
  have fL := g_cls_fb (g_rawL_fb hL.1.1 hpb hc)
  have fR := g_cls_fb (g_rawR_fb hL.1.1 hpb hc)
  generalize g_cls (g_rawL (w_l S (r 0).toNat).2.1 (V d).2.2.2.2) = A at *
  generalize g_cls (g_rawR (w_l S (r 0).toNat).2.1 (V d).2.2.2.2) = B at *
  have n78 : S.1 0 ≤ 78 := Int.not_lt.mp (fun z => n4 (Or.inl z))
  obtain ⟨k1, u1, e1⟩ := P_addL (x := l_mk ((V d).2.1 1) (w_l S (r 0).toNat) A) h (by omega) (I_L_mk hL fL)
  obtain ⟨k2, u2, e2⟩ := P_addL (x := l_mk ((V d).2.1 2) (w_l S (r 0).toNat) B) k1 (by rw [e1]; omega) (I_L_mk (I_L_up hL u1) fR)
  have k3 := P_lpt (l := (r 0).toNat) (k := 1) (v := 1) k2 (by rw [e2, e1]; omega)
  refine P_map k3 (fun s i s2 s6 s8 hi ht => ?_)
  have e0 : (w_lpt (w_addL (w_addL S (l_mk ((V d).2.1 1) (w_l S (r 0).toNat) A)) (l_mk ((V d).2.1 2) (w_l S (r 0).toNat) B)) (r 0).toNat 1 1).1 0 = S.1 0 + 2 := by
    show (w_addL (w_addL S (l_mk ((V d).2.1 1) (w_l S (r 0).toNat) A)) (l_mk ((V d).2.1 2) (w_l S (r 0).toNat) B)).1 0 = _
    rw [e2, e1]; omega
  have et : w_t (w_lpt (w_addL (w_addL S (l_mk ((V d).2.1 1) (w_l S (r 0).toNat) A)) (l_mk ((V d).2.1 2) (w_l S (r 0).toNat) B)) (r 0).toNat 1 1) s i = w_t S s i := rfl
  have es : (w_lpt (w_addL (w_addL S (l_mk ((V d).2.1 1) (w_l S (r 0).toNat) A)) (l_mk ((V d).2.1 2) (w_l S (r 0).toNat) B)) (r 0).toNat 1 1).1 s = S.1 s := by
    show (if s = 0 then _ else (if s = 0 then _ else S.1 s)) = S.1 s
    rw [if_neg (by omega), if_neg (by omega)]
  rw [es] at hi
  generalize (w_lpt (w_addL (w_addL S (l_mk ((V d).2.1 1) (w_l S (r 0).toNat) A)) (l_mk ((V d).2.1 2) (w_l S (r 0).toNat) B)) (r 0).toNat 1 1).1 = z at *
  rw [et] at ht ⊢
  have z0 := h.1 0 (by omega)
  unfold t_spl
  by_cases tt : t_thr (w_t S s i) S.2.2.2 = true
  · rw [if_pos tt]
    obtain ⟨g1, ⟨g2, g3⟩, g4, g5, g6, g7, g8⟩ := ht
    refine ⟨g1, ⟨fun x hx => ?_, fun x hx => ?_⟩, g4, g5, fun a b => ?_, fun a => by omega, g8⟩
    · rcases r_part_mem hx with e | e | e
      · omega
      · omega
      · exact g2 x e
    · rw [if_neg (by omega)] at g3 ⊢
      rcases r_pov_mem hx with e | e | e
      · omega
      · omega
      · exact g3 x e
    · subst a
      have := g6 rfl b
      show (r_part (w_t S 5 i).2.1 (r 0) (S.1 0) (S.1 0 + 1)).length = 1
      rw [r_part_id (I_bar h n2 hi tt)]; exact this
  · rw [if_neg tt]; exact ht
theorem P_join (h : I_P V U S) (h0 : 0 ≤ r 0 ∧ r 0 < S.1 0) (h1 : 0 ≤ r 1 ∧ r 1 < S.1 0) : I_P V U (X_join V S r d).2 := by
  unfold X_join
  refine cP (p := fun X : Int × w_S => I_P V U X.2) (fun _ => h) (fun _ => cP (p := fun X : Int × w_S => I_P V U X.2) (fun _ => h) (fun _ => cP (p := fun X : Int × w_S => I_P V U X.2) (fun _ => h) (fun _ => cP (p := fun X : Int × w_S => I_P V U X.2) (fun _ => h) (fun n4 => cP (p := fun X : Int × w_S => I_P V U X.2) (fun _ => h) (fun _ => ?_)))))
  have hL := h.2.1 (r 0).toNat (by omega)
  have hL1 := h.2.1 (r 1).toNat (by omega)
  cases ej : g_jraw (w_l S (r 0).toNat).2.1 (w_l S (r 1).toNat).2.1 with
  | none => exact h
  | some R =>
    have fR := g_cls_fb (g_jraw_fb hL.1.1 hL1.1.1 ej)
    unfold X_join1 X_join2
    refine cP (p := fun X : Int × w_S => I_P V U X.2) (fun _ => h) (fun _ => cP (p := fun X : Int × w_S => I_P V U X.2) (fun _ => h) (fun n6 => ?_))
    generalize g_cls R = A at *
    obtain ⟨k1, u1, e1⟩ := P_addL (x := l_mk ((V d).2.1 2) (w_l S (r 0).toNat) A) h (by omega) (I_L_mk hL fR)
    have k2 := P_lpt (l := (r 0).toNat) (k := 1) (v := 1) k1 (by rw [e1]; omega)
    have k3 := P_lpt (l := (r 1).toNat) (k := 1) (v := 1) k2 (show ((r 1).toNat : Int) < (w_addL S (l_mk ((V d).2.1 2) (w_l S (r 0).toNat) A)).1 0 by rw [e1]; omega)
    refine P_map k3 (fun s i s2 s6 s8 hi ht => ?_)
    have e0 : (w_lpt (w_lpt (w_addL S (l_mk ((V d).2.1 2) (w_l S (r 0).toNat) A)) (r 0).toNat 1 1) (r 1).toNat 1 1).1 0 = S.1 0 + 1 := e1
    have et : w_t (w_lpt (w_lpt (w_addL S (l_mk ((V d).2.1 2) (w_l S (r 0).toNat) A)) (r 0).toNat 1 1) (r 1).toNat 1 1) s i = w_t S s i := rfl
    have es : (w_lpt (w_lpt (w_addL S (l_mk ((V d).2.1 2) (w_l S (r 0).toNat) A)) (r 0).toNat 1 1) (r 1).toNat 1 1).1 s = S.1 s := by
      show (if s = 0 then _ else S.1 s) = S.1 s
      rw [if_neg (by omega)]
    rw [es] at hi
    generalize (w_lpt (w_lpt (w_addL S (l_mk ((V d).2.1 2) (w_l S (r 0).toNat) A)) (r 0).toNat 1 1) (r 1).toNat 1 1).1 = z at *
    rw [et] at ht ⊢
    have z0 := h.1 0 (by omega)
    unfold t_mrg
    by_cases tt : t_thr (w_t S s i) S.2.2.2 = true
    · rw [if_pos tt]
      obtain ⟨g1, ⟨g2, g3⟩, g4, g5, g6, g7, g8⟩ := ht
      have lot : ∀ x ∈ r_mrg (w_t S s i).2.1 (r 0) (r 1) (S.1 0), 0 ≤ x ∧ x < z 0 := fun x hx => by
        rcases r_mrg_mem hx with e | e
        · omega
        · exact g2 x e
      rw [if_neg (by omega)] at g3
      have ovr : ∀ x ∈ r_mrg (w_t S s i).2.2 (r 0) (r 1) (S.1 0), 0 ≤ x ∧ x < z 0 := fun x hx => by
        rcases r_mrg_mem hx with e | e
        · omega
        · exact g3 x e
      split
      · next c =>
        have s3 := c.1
        subst s3
        have f : ∀ k v, k ≠ 2 → s_fu (w_t S 3 i).1 2 v k = (w_t S 3 i).1 k := fun k v hk => s_fu_ne hk
        refine ⟨?_, ⟨lot, fun x hx => ?_⟩, (fun a => by omega), fun a => ?_, (fun a => by omega), (fun a => by omega), fun a => ?_⟩
        · dsimp only
          rw [f 5 _ (by omega)]; exact g1
        · rw [if_neg (by omega)]
          exact ovr x (r_del_sub hx)
        · dsimp only
          rw [f 5 _ (by omega)]; exact g5 a
        · dsimp only
          rw [f 11 _ (by omega)]; exact g8 a
      · refine ⟨g1, ⟨lot, fun x hx => by rw [if_neg (by omega)]; exact ovr x hx⟩, g4, g5, fun a b => ?_, fun a => by omega, g8⟩
        subst a
        have := g6 rfl b
        show (r_mrg (w_t S 5 i).2.1 (r 0) (r 1) (S.1 0)).length = 1
        rw [r_mrg_id (I_bar h (fun z => n4 (Or.inl z)) hi tt) (I_bar h (fun z => n4 (Or.inr z)) hi tt)]; exact this
    · rw [if_neg tt]; exact ht
theorem P_border (h : I_P V U S) (hv : v_ok (V d)) (h0 : 0 ≤ r 0 ∧ r 0 < S.1 0) (h1 : 0 ≤ r 1 ∧ r 1 < S.1 0) : I_P V U (X_border V S r d).2 := by
  have hpb : s_pb (V d).2.2.2.2 := hv.2.2.2.2.2.2
  unfold X_border
  refine cP (p := fun X : Int × w_S => I_P V U X.2) (fun _ => h) (fun _ => cP (p := fun X : Int × w_S => I_P V U X.2) (fun _ => h) (fun _ => cP (p := fun X : Int × w_S => I_P V U X.2) (fun _ => h) (fun _ => ?_)))
  have hL := h.2.1 (r 0).toNat (by omega)
  have hL1 := h.2.1 (r 1).toNat (by omega)
  cases ej : g_jraw (w_l S (r 0).toNat).2.1 (w_l S (r 1).toNat).2.1 with
  | none => exact h
  | some R =>
    have fR := g_cls_fb (g_jraw_fb hL.1.1 hL1.1.1 ej)
    unfold X_border1 X_border2
    refine cP (p := fun X : Int × w_S => I_P V U X.2) (fun _ => h) (fun n5 => cP (p := fun X : Int × w_S => I_P V U X.2) (fun _ => h) (fun n6 => ?_))
    obtain ⟨-, hc, -, -⟩ := Classical.not_not.mp n5
    have k1 := P_fgs (l := (r 0).toNat) h (by omega) (g_cls_fb (g_rawL_fb fR hpb hc))
    exact P_fgs (l := (r 1).toNat) k1 (show ((r 1).toNat : Int) < S.1 0 by omega) (g_cls_fb (g_rawR_fb fR hpb hc))
theorem P_act {ss : Nat → Int} (h : I_P V U S) (hv : v_ok (V d)) (hU : U d) (hlw : (V d).1 11 ≠ 0 → s_lw ((V d).1 11, (V d).1 12)) (hday : 0 ≤ S.2.2.2 ∧ S.2.2.2 ≤ 219144) (hp : (((V d).2.2.2.1).length : Int) = (V d).1 15) (hok : n_ok S (V d).2.1 (V d).2.2.1 ((V d).1 7) (fun k => ((ss k).toNat, (r k).toNat))) (hnn : ∀ k : Nat, (k : Int) < (V d).1 7 → (V d).2.2.1 k ≠ 10 → 0 ≤ ss k ∧ 0 ≤ r k) : I_P V U (X_act V S ss r d at_).2 :=
  X_all (p := fun X => I_P V U X.2) hv hok hnn (fun _ => P_person h) (fun _ a => P_firm h a) (fun _ a b => P_guard h a b) (fun e a b => P_die h hv hp e a b) (fun _ a => P_close h a) (fun e a b c => P_sell h hv hU hlw hday hp e a.1 b.1 c) (fun _ a => P_split h hv a.1) (fun _ a b => P_join h a.1 b.1) (fun _ a b => P_border h hv a.1 b.1) (fun _ a _ c => P_charge h hv hU a c.1) (fun _ a => P_pay h hv a.1) (fun _ a b => P_assign h a.1 b.1) (fun _ a => P_rank h a.1) (fun _ a b => P_freed h a.1 b.1) (fun _ a _ c => P_auction h hv a.1 c.1) (fun _ a b => P_serve h hU a.1 b.1) (fun _ a => P_waive h a.1) (fun _ a b => P_lease h hU a.1 b.1) (fun _ a b => P_caution h hU a.1 b.1) (fun _ a b => P_option h hU a.1 b.1) (fun _ a => P_take h a.1) (fun _ a => P_end h a)
end acts
