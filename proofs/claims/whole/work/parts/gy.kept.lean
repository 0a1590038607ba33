/-! kept by every ACT, all of it -/
theorem H_rest_act {V : Nat → v_D} {S : w_S} {ss r : Nat → Int} {d : Nat} {a : Int} (hF : H_fig S) (h : H_rest V S) (hz : R_z S) (hr : w_rg S) (hv : v_ok (V d)) (hday : S.2.2.2 ≤ 219144) (hu : ((V d).2.2.2.2.length : Int) = (V d).1 18 ∧ ((V d).1 3 = 215 → 0 < (V d).1 18)) (h6 : ∀ k : Nat, (V d).1 3 = 206 → k = 0 → x_in S r 0 k) (h78 : ∀ k : Nat, (V d).1 3 = 207 ∨ (V d).1 3 = 208 → k ≤ 1 → x_in S r 0 k) : H_rest V (X_act V S ss r d a).2 := by
  have pb : s_pb (V d).2.2.2.2 := hv.2.2.2.2.2.2
  have hP : ∀ {P : Prop} {c : Int} {Y : Int × w_S}, (¬ P → H_rest V Y.2) → H_rest V (c_if P (c, S) Y).2 := fun {P c Y} k => cP (p := fun X : Int × w_S => H_rest V X.2) (fun _ => h) k
  have m1 : w_mx 1 = 40 := rfl
  have m2 : w_mx 2 = 40 := rfl
  have m3 : w_mx 3 = 40 := rfl
  have m4 : w_mx 4 = 40 := rfl
  have m5 : w_mx 5 = 40 := rfl
  have m6 : w_mx 6 = 30 := rfl
  have m7 : w_mx 7 = 60 := rfl
  have one : ∀ x : Int, [x].Nodup := fun x => List.nodup_cons.mpr ⟨by simp, List.nodup_nil⟩
  unfold X_act
  by_cases c0 : (V d).1 3 = 200
  · rw [if_pos c0]; unfold X_person
    exact hP (fun _ => hP (fun g => K_addT h hz (by omega) (by omega) (fun z => by omega) (fun z => by omega)))
  rw [if_neg c0]
  by_cases c1 : (V d).1 3 = 201
  · rw [if_pos c1]; unfold X_firm
    exact hP (fun _ => hP (fun g => K_addT h hz (by omega) (by omega) (fun z => by omega) (fun z => by omega)))
  rw [if_neg c1]
  by_cases c2 : (V d).1 3 = 202
  · rw [if_pos c2]; unfold X_guard
    exact hP (fun _ => hP (fun _ => K_rest h (K_put (by omega) (fun z => by omega))))
  rw [if_neg c2]
  by_cases c3 : (V d).1 3 = 203
  · rw [if_pos c3]; unfold X_die
    exact hP (fun _ => hP (fun _ => hP (fun _ => K_rest h (K_w_t (K_w_t K_hs (K_map (K_z K_hs hz) (fun _ _ => K_ends))) (K_put (by omega) (fun _ => by omega))))))
  rw [if_neg c3]
  by_cases c4 : (V d).1 3 = 204
  · rw [if_pos c4]; unfold X_close
    exact hP (fun _ => K_rest h (K_w_t (K_map hz (fun _ _ => K_ends)) (K_put (by omega) (fun _ => by omega))))
  rw [if_neg c4]
  by_cases c5 : (V d).1 3 = 205
  · rw [if_pos c5]; unfold X_sell
    refine hP (fun _ => hP (fun _ => hP (fun _ => hP (fun _ => hP (fun g => ?_)))))
    have k : K_w S (w_lpt (w_ows S (r 0).toNat (y_fin S r (V d).2.2.2.1 ((V d).1 11) ((V d).1 12))) (r 0).toNat 2 ((V d).1 9)) := K_w_t (K_ows (fun o => o_pts_nd (o_sub_nd o))) (K_lpt (by omega))
    exact K_addT (K_rest h k) (K_z k hz) (by omega) (by rw [k.2.1]; omega) (fun _ z => by omega) (fun z => by omega)
  rw [if_neg c5]
  by_cases c6 : (V d).1 3 = 206
  · rw [if_pos c6]; exact HR_split hF h hz hr pb (h6 0 c6 rfl)
  rw [if_neg c6]
  by_cases c7 : (V d).1 3 = 207
  · rw [if_pos c7]; exact HR_join hF h hz hr (h78 0 (Or.inl c7) (by omega)) (h78 1 (Or.inl c7) (by omega))
  rw [if_neg c7]
  by_cases c8 : (V d).1 3 = 208
  · rw [if_pos c8]; exact HR_border h hr hday (h78 0 (Or.inr c8) (by omega)) (h78 1 (Or.inr c8) (by omega))
  rw [if_neg c8]
  by_cases c9 : (V d).1 3 = 209
  · rw [if_pos c9]; unfold X_charge
    refine hP (fun _ => hP (fun _ => hP (fun _ => hP (fun _ => hP (fun g => ?_)))))
    have lt : S.1 2 < 40 := by
      have : ¬ 40 ≤ S.1 2 := fun z => g (Or.inl z)
      omega
    have z2 := (hz 2 (by omega)).1
    show H_rest V (w_charge S _ _ _ _ _ _)
    unfold w_charge
    have zT : ∀ t : w_T, R_z (w_addT S 2 t) := fun t s hs => by
      have := hz s hs
      rw [w_z_add]
      by_cases e : s = 2
      · subst e; rw [if_pos rfl]; omega
      · rw [if_neg e]; exact this
    exact K_rest (K_addT h hz (by omega) (by omega) (fun _ _ => ⟨fun z => absurd rfl z, List.nodup_nil⟩) (fun z => by omega)) (K_chst rfl (by omega) (zT _))
  rw [if_neg c9]
  by_cases d0 : (V d).1 3 = 210
  · rw [if_pos d0]; unfold X_pay
    exact hP (fun _ => cP (p := fun X : Int × w_S => H_rest V X.2) (fun _ => K_rest h (K_put (by omega) (fun z => by omega))) (fun _ => K_rest h (K_w_t (K_put (by omega) (fun z => by omega)) K_endc)))
  rw [if_neg d0]
  by_cases d1 : (V d).1 3 = 211
  · rw [if_pos d1]; unfold X_assign
    exact hP (fun _ => hP (fun _ => K_rest h (K_put (by omega) (fun z => by omega))))
  rw [if_neg d1]
  by_cases d2 : (V d).1 3 = 212
  · rw [if_pos d2]; unfold X_rank
    exact hP (fun _ => K_rest h K_chg)
  rw [if_neg d2]
  by_cases d3 : (V d).1 3 = 213
  · rw [if_pos d3]; unfold X_free
    exact hP (fun _ => K_rest h K_free)
  rw [if_neg d3]
  by_cases d4 : (V d).1 3 = 214
  · rw [if_pos d4]; unfold X_auction
    exact hP (fun _ => hP (fun _ => hP (fun _ => hP (fun _ => K_rest h (K_auction hz)))))
  rw [if_neg d4]
  by_cases d5 : (V d).1 3 = 215
  · rw [if_pos d5]; unfold X_serve
    refine hP (fun _ => hP (fun _ => hP (fun _ => hP (fun g => hP (fun g2 => ?_)))))
    have n18 := hu.2 d5
    have wn : ∀ k, k ≠ 4 → (w_new S 3 ((V d).2.1 0) d a).1 k = t_new ((V d).2.1 0) d a (w_t S 3 (S.1 3).toNat).1 k := fun k hk => s_fu_ne hk
    have e11 : (s_fu (w_new S 3 ((V d).2.1 0) d a).1 7 ((V d).1 10)) 11 = (d : Int) := by
      rw [s_fu_ne (by omega), wn 11 (by omega)]; rfl
    have e3 : (s_fu (w_new S 3 ((V d).2.1 0) d a).1 7 ((V d).1 10)) 3 = 1000000 := by
      rw [s_fu_ne (by omega), wn 3 (by omega)]; rfl
    refine K_addT h hz (by omega) (by omega) (fun _ _ => ⟨fun _ => one _, one _⟩) (fun _ => ?_)
    show (s_pb (V ((s_fu (w_new S 3 ((V d).2.1 0) d a).1 7 ((V d).1 10)) 11).toNat).2.2.2.2 ∧ (s_fu (w_new S 3 ((V d).2.1 0) d a).1 7 ((V d).1 10)) 3 = 1000000) ∧ [r 2] ≠ [] ∧ ∀ l ∈ [r 2], g_hold (S.2.1 l.toNat).2.1 (V ((s_fu (w_new S 3 ((V d).2.1 0) d a).1 7 ((V d).1 10)) 11).toNat).2.2.2.2 = true
    rw [e11, e3, show ((d : Nat) : Int).toNat = d by omega]
    refine ⟨⟨pb, rfl⟩, by simp, fun l hl => ?_⟩
    rw [List.mem_singleton.mp hl]
    refine g_hold_iff.mpr ⟨g_pt (V d).2.2.2.2 0, gt_pt_mem (by omega), fun z => g ⟨0, by omega, Or.inr z⟩⟩
  rw [if_neg d5]
  by_cases d6 : (V d).1 3 = 216
  · rw [if_pos d6]; unfold X_waive
    exact hP (fun _ => K_rest h (K_put (by omega) (fun _ => by omega)))
  rw [if_neg d6]
  by_cases d7 : (V d).1 3 = 217
  · rw [if_pos d7]; unfold X_lease
    exact hP (fun _ => hP (fun _ => hP (fun _ => hP (fun _ => hP (fun g => K_addT h hz (by omega) (by omega) (fun _ _ => ⟨fun _ => one _, List.nodup_nil⟩) (fun z => by omega))))))
  rw [if_neg d7]
  by_cases d8 : (V d).1 3 = 218
  · rw [if_pos d8]; unfold X_caution
    exact hP (fun g => K_addT h hz (by omega) (by omega) (fun _ _ => ⟨fun _ => one _, List.nodup_nil⟩) (fun z => by omega))
  rw [if_neg d8]
  by_cases d9 : (V d).1 3 = 219
  · rw [if_pos d9]; unfold X_option
    exact hP (fun _ => hP (fun _ => hP (fun _ => hP (fun g => K_addT h hz (by omega) (by omega) (fun _ _ => ⟨fun _ => one _, List.nodup_nil⟩) (fun z => by omega)))))
  rw [if_neg d9]
  by_cases e0 : (V d).1 3 = 220
  · rw [if_pos e0]; unfold X_take X_take2
    exact hP (fun _ => hP (fun _ => hP (fun _ => hP (fun _ => hP (fun _ => K_rest h (K_w_t (K_ows (fun o => o_give_nd (o_tkf_nd o))) (K_put (by omega) (fun z => by omega))))))))
  rw [if_neg e0]
  unfold X_end
  exact hP (fun _ => K_rest h (K_put (by omega) (fun _ => by omega)))
theorem H_all_kept {V : Nat → v_D} : G_kept V (H_all V) := ⟨fun S day h => h, fun S ss r d a hz hr h hv hday hu h6 h78 => ⟨H_fig_kept.2 S ss r d a hz hr h.1 hv hday hu h6 h78, H_rest_act h.1 h.2 hz hr hv hday hu h6 h78⟩⟩
/-- before all DEEDS -/
theorem H_all_0 {V : Nat → v_D} {A : w_S} {dr : Int} : H_all V (w_0 A dr) := by
  have z0 : (w_0 A dr).1 0 = 1 := rfl
  have zs : ∀ s, 2 ≤ s → s < 8 → (w_0 A dr).1 s = 0 := fun s a b => by
    show w_sz0 A.1 s = 0
    unfold w_sz0
    rw [if_neg (by omega), if_pos b]
  have l0 : (w_0 A dr).2.1 0 = w_land := (s_fu_eq : s_fu A.2.1 0 w_land 0 = _)
  refine ⟨H_fig_0, fun i hi => ?_, fun s i s2 s6 hi => ?_, fun i hi => ?_⟩
  · have : i = 0 := by omega
    subst this
    rw [l0]
    exact List.nodup_cons.mpr ⟨by simp, List.nodup_nil⟩
  · rw [zs s s2 (by omega)] at hi; omega
  · rw [zs 3 (by omega) (by omega)] at hi; omega
