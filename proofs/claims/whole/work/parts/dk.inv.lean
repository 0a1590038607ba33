/-! CHARGES and LOTS have one another: the other ACTS -/
section acts
variable {V : Nat → v_D} {U : Nat → Prop} {S : w_S} {r : Nat → Int} {d : Nat} {at_ : Int}
theorem C_die (hp : I_P V U S) (h : I_C S) (hpd : I_P V U (X_die V S r d).2) (h0 : 0 ≤ r 0 ∧ r 0 < S.1 1) : I_C (X_die V S r d).2 := by
  unfold X_die at hpd ⊢
  refine cP (p := fun X : Int × w_S => I_C X.2) (fun _ => h) (fun n1 => cP (p := fun X : Int × w_S => I_C X.2) (fun _ => h) (fun n2 => cP (p := fun X : Int × w_S => I_C X.2) (fun _ => h) (fun n3 => ?_)))
  -- the LOTS keep their CHARGES; only who heirs changes
  have lo : ∀ l : Nat, (w_l (w_hs S (r 0) r (V d).2.2.2.1 (S.1 0).toNat) l).2.2.1 = (w_l S l).2.2.1 ∧ (w_l (w_hs S (r 0) r (V d).2.2.2.1 (S.1 0).toNat) l).1 1 = (w_l S l).1 1 := fun l => by
    show (if l < (S.1 0).toNat then _ else S.2.1 l : w_L).2.2.1 = _ ∧ (if l < (S.1 0).toNat then _ else S.2.1 l : w_L).1 1 = _
    split
    · split
      · exact ⟨rfl, rfl⟩
      · exact ⟨rfl, rfl⟩
    · exact ⟨rfl, rfl⟩
  have wt : ∀ c : Nat, (c : Int) < S.1 2 → (w_t (w_put (w_map (w_hs S (r 0) r (V d).2.2.2.1 (S.1 0).toNat) 2 6 (t_ends (r 0) (if 0 < (V d).1 15 then r 1 else 0))) (w_F 1 + (r 0).toNat) 2 1) 2 c) = t_ends (r 0) (if 0 < (V d).1 15 then r 1 else 0) 2 (w_t S 2 c) := fun c hc => by
    have hi : ((r 0).toNat : Int) < S.1 1 := by omega
    unfold w_put
    rw [w_t_set (s := 1) ⟨by omega, by omega⟩ ⟨by omega, by omega⟩ (R_lt hp.1 (by omega) hi) (R_lt hp.1 (by omega) hc), if_neg (fun z => by omega), w_map_at (show R_z (w_hs S (r 0) r (V d).2.2.2.1 (S.1 0).toNat) from hp.1) ⟨by omega, by omega⟩ hc, if_pos ⟨by omega, by omega⟩]
    rfl
  have te : ∀ t : w_T, (t_ends (r 0) (if 0 < (V d).1 15 then r 1 else 0) 2 t).2.1 = t.2.1 ∧ (t_ends (r 0) (if 0 < (V d).1 15 then r 1 else 0) 2 t).1 2 = t.1 2 ∧ (t_ends (r 0) (if 0 < (V d).1 15 then r 1 else 0) 2 t).1 3 = t.1 3 := fun t => by
    unfold t_ends
    split
    · rw [if_pos rfl]
      have g : ∀ k, k ≠ 5 → s_fu t.1 5 (if 0 < (V d).1 15 then r 1 else 0) k = t.1 k := fun k hk => s_fu_ne hk
      exact ⟨rfl, g 2 (by omega), g 3 (by omega)⟩
    · exact ⟨rfl, rfl, rfl⟩
  refine I_Cc hp h rfl rfl (fun l _ => lo l) (fun c hc => ⟨by rw [wt c hc]; exact (te _).1, fun t => ?_⟩)
  have t : t_thr (w_t S 2 c) S.2.2.2 = true := t
  show t_thr (w_t (w_put (w_map (w_hs S (r 0) r (V d).2.2.2.1 (S.1 0).toNat) 2 6 (t_ends (r 0) (if 0 < (V d).1 15 then r 1 else 0))) (w_F 1 + (r 0).toNat) 2 1) 2 c) S.2.2.2 = true
  rw [wt c hc]
  unfold t_thr at *
  rw [(te _).2.1, (te _).2.2]; exact t
theorem C_sell (hp : I_P V U S) (h : I_C S) : I_C (X_sell V S r d at_).2 := by
  unfold X_sell
  refine cP (p := fun X : Int × w_S => I_C X.2) (fun _ => h) (fun n1 => cP (p := fun X : Int × w_S => I_C X.2) (fun _ => h) (fun n2 => cP (p := fun X : Int × w_S => I_C X.2) (fun _ => h) (fun n3 => cP (p := fun X : Int × w_S => I_C X.2) (fun _ => h) (fun n4 => cP (p := fun X : Int × w_S => I_C X.2) (fun _ => h) (fun n5 => ?_)))))
  have hm : w_mx 7 = 60 := rfl
  have lo : ∀ l : Nat, (w_l (w_lpt (w_ows S (r 0).toNat (y_fin S r (V d).2.2.2.1 ((V d).1 11) ((V d).1 12))) (r 0).toNat 2 ((V d).1 9)) l).2.2.1 = (w_l S l).2.2.1 ∧ (w_l (w_lpt (w_ows S (r 0).toNat (y_fin S r (V d).2.2.2.1 ((V d).1 11) ((V d).1 12))) (r 0).toNat 2 ((V d).1 9)) l).1 1 = (w_l S l).1 1 := fun l => by
    have a : (w_l (w_lpt (w_ows S (r 0).toNat (y_fin S r (V d).2.2.2.1 ((V d).1 11) ((V d).1 12))) (r 0).toNat 2 ((V d).1 9)) l) = s_fu (s_fu S.2.1 (r 0).toNat ((S.2.1 (r 0).toNat).1, (S.2.1 (r 0).toNat).2.1, (S.2.1 (r 0).toNat).2.2.1, y_fin S r (V d).2.2.2.1 ((V d).1 11) ((V d).1 12))) (r 0).toNat (s_fu (s_fu S.2.1 (r 0).toNat ((S.2.1 (r 0).toNat).1, (S.2.1 (r 0).toNat).2.1, (S.2.1 (r 0).toNat).2.2.1, y_fin S r (V d).2.2.2.1 ((V d).1 11) ((V d).1 12)) (r 0).toNat).1 2 ((V d).1 9), (s_fu S.2.1 (r 0).toNat ((S.2.1 (r 0).toNat).1, (S.2.1 (r 0).toNat).2.1, (S.2.1 (r 0).toNat).2.2.1, y_fin S r (V d).2.2.2.1 ((V d).1 11) ((V d).1 12)) (r 0).toNat).2) l := rfl
    by_cases e : l = (r 0).toNat
    · rw [a, e, s_fu_eq, s_fu_eq]
      have e1 : s_fu (S.2.1 (r 0).toNat).1 2 ((V d).1 9) 1 = (S.2.1 (r 0).toNat).1 1 := s_fu_ne (by omega)
      exact ⟨rfl, e1⟩
    · rw [a, s_fu_ne e, s_fu_ne e]; exact ⟨rfl, rfl⟩
  have z7 := hp.1 7 (by omega)
  have y1 : (w_lpt (w_ows S (r 0).toNat (y_fin S r (V d).2.2.2.1 ((V d).1 11) ((V d).1 12))) (r 0).toNat 2 ((V d).1 9)).1 = S.1 := rfl
  have y2 : (w_lpt (w_ows S (r 0).toNat (y_fin S r (V d).2.2.2.1 ((V d).1 11) ((V d).1 12))) (r 0).toNat 2 ((V d).1 9)).2.2 = S.2.2 := rfl
  generalize w_lpt (w_ows S (r 0).toNat (y_fin S r (V d).2.2.2.1 ((V d).1 11) ((V d).1 12))) (r 0).toNat 2 ((V d).1 9) = Y at *
  generalize w_sale S ((V d).2.1 0) d at_ r ((V d).1 15) (y_T S r ((V d).1 11)) (y_B S r ((V d).1 11) ((V d).1 12)) = x
  have wt : ∀ c : Nat, (c : Int) < S.1 2 → w_t (w_addT Y 7 x) 2 c = w_t S 2 c := fun c hc => by
    have := hp.1 2 (by omega)
    rw [w_t_add ⟨by omega, by omega⟩ ⟨by omega, by omega⟩ (by rw [y1]; omega) (by omega), if_neg (by omega)]
    unfold w_t
    rw [y2]
  refine I_Cc hp h ?_ ?_ (fun l _ => lo l) (fun c hc => ⟨by rw [wt c hc], fun t => ?_⟩)
  · rw [w_z_add, if_neg (by omega), y1]
  · rw [w_z_add, if_neg (by omega), y1]
  · have t : t_thr (w_t S 2 c) S.2.2.2 = true := t
    show t_thr (w_t (w_addT Y 7 x) 2 c) Y.2.2.2 = true
    rw [wt c hc, y2]; exact t
theorem C_border (hp : I_P V U S) (h : I_C S) : I_C (X_border V S r d).2 := by
  unfold X_border
  refine cP (p := fun X : Int × w_S => I_C X.2) (fun _ => h) (fun _ => cP (p := fun X : Int × w_S => I_C X.2) (fun _ => h) (fun _ => cP (p := fun X : Int × w_S => I_C X.2) (fun _ => h) (fun _ => ?_)))
  cases g_jraw (w_l S (r 0).toNat).2.1 (w_l S (r 1).toNat).2.1 with
  | none => exact h
  | some R =>
    unfold X_border1 X_border2
    refine cP (p := fun X : Int × w_S => I_C X.2) (fun _ => h) (fun _ => cP (p := fun X : Int × w_S => I_C X.2) (fun _ => h) (fun _ => ?_))
    generalize g_cls (g_rawL (g_cls R) (V d).2.2.2.2) = A
    generalize g_cls (g_rawR (g_cls R) (V d).2.2.2.2) = B
    refine C_lots hp h rfl rfl (fun l => ?_)
    have one : ∀ (Y : w_S) (i : Nat) (F : s_Fig), (w_l (w_fgs Y i F) l).2.2.1 = (w_l Y l).2.2.1 ∧ (w_l (w_fgs Y i F) l).1 1 = (w_l Y l).1 1 := fun Y i F => by
      show (s_fu Y.2.1 i _ l).2.2.1 = _ ∧ (s_fu Y.2.1 i _ l).1 1 = _
      unfold s_fu
      split
      · next c => rw [c]; exact ⟨rfl, rfl⟩
      · exact ⟨rfl, rfl⟩
    have a := one S (r 0).toNat A
    have b := one (w_fgs S (r 0).toNat A) (r 1).toNat B
    exact ⟨b.1.trans a.1, b.2.trans a.2⟩
theorem C_serve {x y : Nat → Int} (hp : I_P V U S) (h : I_C S) : I_C (X_serve V S r x y d at_).2 := by
  unfold X_serve
  have hm : w_mx 3 = 40 := rfl
  exact cP (p := fun X : Int × w_S => I_C X.2) (fun _ => h) (fun _ => cP (p := fun X : Int × w_S => I_C X.2) (fun _ => h) (fun _ => cP (p := fun X : Int × w_S => I_C X.2) (fun _ => h) (fun _ => cP (p := fun X : Int × w_S => I_C X.2) (fun _ => h) (fun _ => cP (p := fun X : Int × w_S => I_C X.2) (fun _ => h) (fun _ => C_addT hp h ⟨by omega, by omega, by omega⟩ (by omega))))))
theorem C_waive (hp : I_P V U S) (h : I_C S) (h0 : 0 ≤ r 0 ∧ r 0 < S.1 3) : I_C (X_waive S r).2 := by
  unfold X_waive
  exact cP (p := fun X : Int × w_S => I_C X.2) (fun _ => h) (fun _ => C_put hp h ⟨by omega, by omega⟩ (by omega) (Or.inl (by omega)))
theorem C_lease (hp : I_P V U S) (h : I_C S) : I_C (X_lease V S r d at_).2 := by
  unfold X_lease
  have hm : w_mx 4 = 40 := rfl
  exact cP (p := fun X : Int × w_S => I_C X.2) (fun _ => h) (fun _ => cP (p := fun X : Int × w_S => I_C X.2) (fun _ => h) (fun _ => cP (p := fun X : Int × w_S => I_C X.2) (fun _ => h) (fun _ => cP (p := fun X : Int × w_S => I_C X.2) (fun _ => h) (fun _ => cP (p := fun X : Int × w_S => I_C X.2) (fun _ => h) (fun _ => C_addT hp h ⟨by omega, by omega, by omega⟩ (by omega))))))
theorem C_caution (hp : I_P V U S) (h : I_C S) : I_C (X_caution V S r d at_).2 := by
  unfold X_caution
  have hm : w_mx 5 = 40 := rfl
  exact cP (p := fun X : Int × w_S => I_C X.2) (fun _ => h) (fun _ => C_addT hp h ⟨by omega, by omega, by omega⟩ (by omega))
theorem C_option (hp : I_P V U S) (h : I_C S) : I_C (X_option V S r d at_).2 := by
  unfold X_option
  have hm : w_mx 6 = 30 := rfl
  exact cP (p := fun X : Int × w_S => I_C X.2) (fun _ => h) (fun _ => cP (p := fun X : Int × w_S => I_C X.2) (fun _ => h) (fun _ => cP (p := fun X : Int × w_S => I_C X.2) (fun _ => h) (fun _ => cP (p := fun X : Int × w_S => I_C X.2) (fun _ => h) (fun _ => C_addT hp h ⟨by omega, by omega, by omega⟩ (by omega)))))
theorem C_end {ss : Nat → Int} (hp : I_P V U S) (h : I_C S) (h0 : (4 ≤ ss 0 ∧ ss 0 ≤ 6) ∧ 0 ≤ r 0 ∧ r 0 < S.1 (ss 0).toNat) : I_C (X_end S ss r).2 := by
  unfold X_end
  exact cP (p := fun X : Int × w_S => I_C X.2) (fun _ => h) (fun _ => C_put hp h ⟨by omega, by omega⟩ (by omega) (Or.inl (by omega)))
theorem C_take (hp : I_P V U S) (h : I_C S) : I_C (X_take V S r d).2 := by
  unfold X_take
  refine cP (p := fun X : Int × w_S => I_C X.2) (fun _ => h) (fun _ => cP (p := fun X : Int × w_S => I_C X.2) (fun _ => h) (fun n2 => ?_))
  obtain ⟨k, hk⟩ := w_lat_ex.resolve_left n2
  rw [w_lat_eps hk]
  have hk7 : (k : Int) < S.1 7 := by
    rcases hk with ⟨e, -⟩ | ⟨k', e1, e2, -⟩
    · omega
    · have : k = k' := by omega
      rw [this]; exact e2
  unfold X_take2
  refine cP (p := fun X : Int × w_S => I_C X.2) (fun _ => h) (fun n3 => cP (p := fun X : Int × w_S => I_C X.2) (fun _ => h) (fun n4 => cP (p := fun X : Int × w_S => I_C X.2) (fun _ => h) (fun n5 => ?_)))
  generalize X_tfin V S (w_t S 6 (r 0).toNat) (w_t S 7 k) = o
  generalize hl : (r_get (w_t S 7 k).2.1 0).toNat = l
  have lo : ∀ q : Nat, (w_l (w_ows S l o) q).2.2.1 = (w_l S q).2.2.1 ∧ (w_l (w_ows S l o) q).1 1 = (w_l S q).1 1 := fun q => by
    show (s_fu S.2.1 l _ q).2.2.1 = _ ∧ (s_fu S.2.1 l _ q).1 1 = _
    unfold s_fu
    split
    · next c => rw [c]; exact ⟨rfl, rfl⟩
    · exact ⟨rfl, rfl⟩
  have wt : ∀ c : Nat, (c : Int) < S.1 2 → w_t (w_put (w_ows S l o) (w_F 7 + k) 8 1) 2 c = w_t S 2 c := fun c hc => by
    unfold w_put
    rw [w_t_set (s := 7) ⟨by omega, by omega⟩ ⟨by omega, by omega⟩ (R_lt hp.1 (by omega) hk7) (R_lt hp.1 (by omega) hc), if_neg (fun z => by omega)]; rfl
  exact I_Cc hp h rfl rfl (fun q _ => lo q) (fun c hc => ⟨by rw [wt c hc], fun t => by
    show t_thr _ S.2.2.2 = true
    rw [wt c hc]; exact t⟩)
end acts
