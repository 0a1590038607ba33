/-! THE MODEL: JOIN's things -/
theorem k_onOne {M : e_M} {N0 : n_S} {T : Nat} {t' one other into : Int} {y : w_T} {Q : e_M → Prop} (et : t' = (T : Int)) (hn : nn_ok M) (hT : T < 560) (e : n_of M = n_setT N0 T y) (nd : y.2.1.Nodup) (n0 : one ≠ other) (n1 : into ≠ one) (n2 : into ≠ other) (hq : ∀ M', nn_ok M' → n_of M' = n_setT N0 T (y.1, r_mrg y.2.1 one other into, y.2.2) → j_tfr M M' → Q M') : WX12_onOne t' one other into M Q := by
  have ok := hn.2.1 T hT
  obtain ⟨-, -, L1, L2⟩ := k_len1 hn hT e
  unfold j_ok at ok
  unfold WX12_onOne VX12_onOne
  refine k_placeOn et hn hT e (k_placeOn et hn hT e ?_)
  have m1 := r_find_mem (l := y.2.1) (x := one)
  have m2 := r_find_mem (l := y.2.1) (x := other)
  have lt1 := r_find_lt (l := y.2.1) (x := one)
  have lt2 := r_find_lt (l := y.2.1) (x := other)
  have k84 : (one ∈ y.2.1 ∨ other ∈ y.2.1) → ∀ (M5 : e_M), nn_ok M5 → n_of M5 = n_setT N0 T (y.1, r_del (r_del y.2.1 other) one, y.2.2) → j_tfr M M5 → WX12_onOne_84 Q t' into (r_at y.2.1 one other) M5 := by
    intro yes M5 u1 u2 u3
    have le := r_at_le yes n0
    unfold WX12_onOne_84 VX12_onOne_84
    refine k_inOn et u1 hT u2 (by show (r_del (r_del y.2.1 other) one).length < 8; omega) ⟨le.1, le.2.1⟩ (fun M6 p1 p2 p3 => hq M6 p1 ?_ (j_tfr_t u3 p3))
    rw [p2, r_mrg_in n0 n1 n2 nd yes]
  have k68 : (one ∈ y.2.1 ∨ other ∈ y.2.1) → ∀ (M5 : e_M), nn_ok M5 → n_of M5 = n_setT N0 T (y.1, r_del y.2.1 other, y.2.2) → j_tfr M M5 → WX12_onOne_68 Q t' one into (r_find y.2.1 one) (r_at y.2.1 one other) M5 := by
    intro yes M5 u1 u2 u3
    unfold WX12_onOne_68 VX12_onOne_68
    refine ⟨fun lt => k84 yes M5 u1 ?_ u3, fun ge => k_placeOn et u1 hT u2 (k_offOn et u1 hT u2 ?_ (fun M6 p1 p2 p3 => k84 yes M6 p1 ?_ (j_tfr_t u3 p3)))⟩
    · have no : one ∉ r_del y.2.1 other := fun z => by have := m1.mpr (r_del_sub z); omega
      rw [u2, r_del_no no]
    · exact ⟨r_find_mem.mpr (r_del_keep (m1.mp ge) n0), r_find_lt⟩
    · have i := r_find_mem.mpr (r_del_keep (m1.mp ge) n0)
      rw [p2]
      show n_setT N0 T (y.1, (r_del y.2.1 other).eraseIdx (r_find (r_del y.2.1 other) one).toNat, y.2.2) = _
      rw [← r_del_in i]
  have k54 : (one ∈ y.2.1 ∨ other ∈ y.2.1) → WX12_onOne_54 Q t' one into (r_find y.2.1 one) (r_find y.2.1 other) (r_at y.2.1 one other) M := by
    intro yes
    unfold WX12_onOne_54 VX12_onOne_54
    refine ⟨fun lt => k68 yes M hn ?_ j_tfr_r, fun ge => k_offOn et hn hT e ⟨ge, lt2⟩ (fun M5 u1 u2 u3 => k68 yes M5 u1 ?_ u3)⟩
    · rw [r_del_no (fun z => by have := m2.mpr z; omega)]; exact e
    · rw [u2, r_del_in ge]
  have k27 : (one ∈ y.2.1 ∨ other ∈ y.2.1) → WX12_onOne_27 Q t' one into (r_find y.2.1 one) (r_find y.2.1 other) M := by
    intro yes
    have k := k54 yes
    unfold r_at at k
    unfold WX12_onOne_27 VX12_onOne_27
    refine ⟨fun g1 => ⟨fun g2 => ?_, fun g2 => ?_⟩, fun g1 => ?_⟩
    · rw [if_pos g1, if_pos g2] at k; exact k
    · rw [if_pos g1, if_neg (by omega)] at k; exact k
    · rw [if_neg (by omega)] at k; exact k
  refine ⟨fun ge => k27 (Or.inl (m1.mp ge)), fun lt => ⟨fun ge => k27 (Or.inr (m2.mp ge)), fun lt2' => hq M hn ?_ j_tfr_r⟩⟩
  rw [r_mrg_id (fun z => by have := m1.mpr z; omega) (fun z => by have := m2.mpr z; omega)]
  exact e
theorem k_ofOne {M : e_M} {N0 : n_S} {T : Nat} {t' one other into : Int} {y : w_T} {Q : e_M → Prop} (et : t' = (T : Int)) (hn : nn_ok M) (hT : T < 560) (e : n_of M = n_setT N0 T y) (nd : y.2.2.Nodup) (n0 : one ≠ other) (n1 : into ≠ one) (n2 : into ≠ other) (hq : ∀ M', nn_ok M' → n_of M' = n_setT N0 T (y.1, y.2.1, r_mrg y.2.2 one other into) → j_tfr M M' → Q M') : WX12_ofOne t' one other into M Q := by
  have ok := hn.2.1 T hT
  obtain ⟨-, -, L1, L2⟩ := k_len1 hn hT e
  unfold j_ok at ok
  unfold WX12_ofOne VX12_ofOne
  refine k_placeOf et hn hT e (k_placeOf et hn hT e ?_)
  have m1 := r_find_mem (l := y.2.2) (x := one)
  have m2 := r_find_mem (l := y.2.2) (x := other)
  have lt1 := r_find_lt (l := y.2.2) (x := one)
  have lt2 := r_find_lt (l := y.2.2) (x := other)
  have k84 : (one ∈ y.2.2 ∨ other ∈ y.2.2) → ∀ (M5 : e_M), nn_ok M5 → n_of M5 = n_setT N0 T (y.1, y.2.1, r_del (r_del y.2.2 other) one) → j_tfr M M5 → WX12_ofOne_84 Q t' into (r_at y.2.2 one other) M5 := by
    intro yes M5 u1 u2 u3
    have le := r_at_le yes n0
    unfold WX12_ofOne_84 VX12_ofOne_84
    refine k_inOf et u1 hT u2 (by show (r_del (r_del y.2.2 other) one).length < 8; omega) ⟨le.1, le.2.1⟩ (fun M6 p1 p2 p3 => hq M6 p1 ?_ (j_tfr_t u3 p3))
    rw [p2, r_mrg_in n0 n1 n2 nd yes]
  have k68 : (one ∈ y.2.2 ∨ other ∈ y.2.2) → ∀ (M5 : e_M), nn_ok M5 → n_of M5 = n_setT N0 T (y.1, y.2.1, r_del y.2.2 other) → j_tfr M M5 → WX12_ofOne_68 Q t' one into (r_find y.2.2 one) (r_at y.2.2 one other) M5 := by
    intro yes M5 u1 u2 u3
    unfold WX12_ofOne_68 VX12_ofOne_68
    refine ⟨fun lt => k84 yes M5 u1 ?_ u3, fun ge => k_placeOf et u1 hT u2 (k_offOf et u1 hT u2 ?_ (fun M6 p1 p2 p3 => k84 yes M6 p1 ?_ (j_tfr_t u3 p3)))⟩
    · have no : one ∉ r_del y.2.2 other := fun z => by have := m1.mpr (r_del_sub z); omega
      rw [u2, r_del_no no]
    · exact ⟨r_find_mem.mpr (r_del_keep (m1.mp ge) n0), r_find_lt⟩
    · have i := r_find_mem.mpr (r_del_keep (m1.mp ge) n0)
      rw [p2]
      show n_setT N0 T (y.1, y.2.1, (r_del y.2.2 other).eraseIdx (r_find (r_del y.2.2 other) one).toNat) = _
      rw [← r_del_in i]
  have k54 : (one ∈ y.2.2 ∨ other ∈ y.2.2) → WX12_ofOne_54 Q t' one into (r_find y.2.2 one) (r_find y.2.2 other) (r_at y.2.2 one other) M := by
    intro yes
    unfold WX12_ofOne_54 VX12_ofOne_54
    refine ⟨fun lt => k68 yes M hn ?_ j_tfr_r, fun ge => k_offOf et hn hT e ⟨ge, lt2⟩ (fun M5 u1 u2 u3 => k68 yes M5 u1 ?_ u3)⟩
    · rw [r_del_no (fun z => by have := m2.mpr z; omega)]; exact e
    · rw [u2, r_del_in ge]
  have k27 : (one ∈ y.2.2 ∨ other ∈ y.2.2) → WX12_ofOne_27 Q t' one into (r_find y.2.2 one) (r_find y.2.2 other) M := by
    intro yes
    have k := k54 yes
    unfold r_at at k
    unfold WX12_ofOne_27 VX12_ofOne_27
    refine ⟨fun g1 => ⟨fun g2 => ?_, fun g2 => ?_⟩, fun g1 => ?_⟩
    · rw [if_pos g1, if_pos g2] at k; exact k
    · rw [if_pos g1, if_neg (by omega)] at k; exact k
    · rw [if_neg (by omega)] at k; exact k
  refine ⟨fun ge => k27 (Or.inl (m1.mp ge)), fun lt => ⟨fun ge => k27 (Or.inr (m2.mp ge)), fun lt2' => hq M hn ?_ j_tfr_r⟩⟩
  rw [r_mrg_id (fun z => by have := m1.mpr z; omega) (fun z => by have := m2.mpr z; omega)]
  exact e
def g_mrg (one other into day : Int) (t : Nat) (x : w_T) : w_T := if (t < 400 ∨ 480 ≤ t) ∧ t_thr x day = true then (if 240 ≤ t ∧ t < 320 then ((if (if into ∈ r_mrg x.2.2 one other into then r_del (r_mrg x.2.1 one other into) into else r_mrg x.2.1 one other into).length = 0 then s_fu x.1 2 1 else x.1), (if into ∈ r_mrg x.2.2 one other into then r_del (r_mrg x.2.1 one other into) into else r_mrg x.2.1 one other into), r_mrg x.2.2 one other into) else (x.1, r_mrg x.2.1 one other into, x.2.2)) else x
theorem m_mrg_things {M0 : e_M} {N0 : n_S} {z : Nat → Int} {one other into day : Int} {Q : Int → e_M → Prop} (h0 : nn_ok M0) (e0 : n_of M0 = N0) (hd : M0 4456 86 = day) (hz : ∀ s, s < 7 → 0 ≤ z s ∧ z s ≤ 80) (hs : ∀ s, s < 7 → N0.1 s = z s) (n0 : one ≠ other) (n1 : into ≠ one) (n2 : into ≠ other)
    (nd : ∀ s k : Nat, 2 ≤ s → s ≤ 6 → s ≠ 5 → (k : Int) < z s → t_thr (N0.2.1 (80 * s + k)) day = true → (N0.2.1 (80 * s + k)).2.1.Nodup ∧ (N0.2.1 (80 * s + k)).2.2.Nodup)
    (hq : ∀ M', nn_ok M' → n_of M' = n_pm N0 (p_st z 7 0) (g_mrg one other into day) → j_tfr M0 M' → Q 0 M') : ∃ j, WX12_join_165 Q j one other into 2 M0 := by
  refine m_srts (g := g_mrg one other into day) (O := fun d s M => WX12_join_165 Q d one other into s M) (I := fun d j s i M => WX12_join_175 (WX12_join_165 Q d) Q j one other into s i M) h0 e0 hz (fun d s M s2 s6 hx => ?_) (fun d M h1 h2 h3 => ?_) (fun d j s M s2 s6 hn e1 ho => ?_) (fun d j s k M s2 s6 hk k80 hn e1 eT fr fin => ?_)
  · show WX12_join_165 Q (d + 1) one other into s M
    unfold WX12_join_165 VX12_join_165
    exact ⟨fun z => by omega, fun _ => hx⟩
  · show WX12_join_165 Q (d + 1) one other into 7 M
    unfold WX12_join_165 VX12_join_165
    exact ⟨fun _ => hq M h1 h2 h3, fun z => absurd z (by decide)⟩
  · have sz : M 4483 s = z s := by rw [← n_z (M := M) (show s < 7 by omega), e1, hs s (by omega)]
    show WX12_join_175 (WX12_join_165 Q d) Q (j + 1) one other into s (z s) M
    unfold WX12_join_175 VX12_join_175
    rw [show ((s : Nat) : Int).toNat = s by omega, sz]
    refine ⟨by omega, fun _ => ?_, fun z => by omega⟩
    rw [s_w (by omega) (by omega)]
    exact ho
  · have sz : M 4483 s = z s := by rw [← n_z (M := M) (show s < 7 by omega), e1, hs s (by omega)]
    have hT : 80 * s + k < 560 := by omega
    have et : 80 * (s : Int) + (k : Int) = ((80 * s + k : Nat) : Int) := by omega
    have nd1 := nd s k (by omega) s6
    have e56 : M 4456 = M0 4456 := fr 4456 (by omega) (by omega) (by omega) (by omega) (by omega)
    have gT : ∀ x : w_T, g_mrg one other into day (80 * s + k) x = if s ≠ 5 ∧ t_thr x day = true then (if s = 3 then ((if (if into ∈ r_mrg x.2.2 one other into then r_del (r_mrg x.2.1 one other into) into else r_mrg x.2.1 one other into).length = 0 then s_fu x.1 2 1 else x.1), (if into ∈ r_mrg x.2.2 one other into then r_del (r_mrg x.2.1 one other into) into else r_mrg x.2.1 one other into), r_mrg x.2.2 one other into) else (x.1, r_mrg x.2.1 one other into, x.2.2)) else x := fun x => by
      unfold g_mrg
      by_cases s5 : s = 5
      · rw [if_neg (show ¬ ((80 * s + k < 400 ∨ 480 ≤ 80 * s + k) ∧ t_thr x day = true) by omega), if_neg (show ¬ (s ≠ 5 ∧ t_thr x day = true) from fun c => c.1 s5)]
      · by_cases tt : t_thr x day = true
        · rw [if_pos (show (80 * s + k < 400 ∨ 480 ≤ 80 * s + k) ∧ t_thr x day = true from ⟨by omega, tt⟩), if_pos (show s ≠ 5 ∧ t_thr x day = true from ⟨s5, tt⟩)]
          by_cases s3 : s = 3
          · rw [if_pos (show 240 ≤ 80 * s + k ∧ 80 * s + k < 320 by omega), if_pos s3]
          · rw [if_neg (show ¬ (240 ≤ 80 * s + k ∧ 80 * s + k < 320) by omega), if_neg s3]
        · rw [if_neg (show ¬ ((80 * s + k < 400 ∨ 480 ≤ 80 * s + k) ∧ t_thr x day = true) from fun c => tt c.2), if_neg (show ¬ (s ≠ 5 ∧ t_thr x day = true) from fun c => tt c.2)]
    have base : n_of M = n_setT (n_of M) (80 * s + k) (N0.2.1 (80 * s + k)) := by rw [← eT]; exact n_setT_self.symm
    generalize hx : N0.2.1 (80 * s + k) = x at *
    generalize hN : n_of M = N at *
    generalize hTT : 80 * s + k = T at *
    have f301 : ∀ M', nn_ok M' → n_of M' = n_setT N T (g_mrg one other into day T x) → j_tfr M M' → WX12_join_301 (WX12_join_165 Q d) (WX12_join_175 (WX12_join_165 Q d) Q j) Q one other into s k M' := fun M' v1 v2 v3 => by
      unfold WX12_join_301 VX12_join_301
      rw [s_w (x := (k : Int) + 1) (by omega) (by omega)]
      exact fin M' v1 v2 v3
    show WX12_join_175 (WX12_join_165 Q d) Q (j + 1) one other into s k M
    unfold WX12_join_175 VX12_join_175
    rw [show ((s : Nat) : Int).toNat = s by omega, sz, show M 4456 86 = day by rw [e56]; exact hd]
    refine ⟨by omega, fun z => by omega, fun _ => m_id (by omega) (by omega) ⟨fun e5 => f301 M hn ?_ j_tfr_r, fun n5 => m_isThere (by omega) k80 (fun t => ⟨fun _ => ?_, fun z => absurd z (by decide)⟩) (fun t => ⟨fun z => absurd rfl z, fun _ => f301 M hn ?_ j_tfr_r⟩)⟩⟩
    · rw [hN, gT, if_neg (by omega)]; exact base
    · rw [hN, hTT, eT] at t
      have s5 : s ≠ 5 := by omega
      obtain ⟨nd1, nd2⟩ := nd1 s5 hk t
      refine k_onOne et hn hT (hN.trans base) nd1 n0 n1 n2 (fun M3 v1 v2 v3 => ⟨fun e3 => ?_, fun n3 => f301 M3 v1 ?_ v3⟩)
      · have s3 : s = 3 := by omega
        have g3 := gT x
        rw [if_pos ⟨s5, t⟩, if_pos s3] at g3
        refine k_ofOne et v1 hT v2 nd2 n0 n1 n2 (fun M4 u1 u2 u3 => ?_)
        have u2 : n_of M4 = n_setT N T (x.1, r_mrg x.2.1 one other into, r_mrg x.2.2 one other into) := u2
        have k283 : ∀ (M5 : e_M) (row : List Int), nn_ok M5 → n_of M5 = n_setT N T (x.1, row, r_mrg x.2.2 one other into) → j_tfr M M5 → row = (if into ∈ r_mrg x.2.2 one other into then r_del (r_mrg x.2.1 one other into) into else r_mrg x.2.1 one other into) → WX12_join_283 (WX12_join_165 Q d) (WX12_join_175 (WX12_join_165 Q d) Q j) Q one other into s k (80 * (s : Int) + (k : Int)) M5 := by
          intro M5 row p1 p2 p3 er
          rw [← er] at g3
          obtain ⟨-, -, L1, -⟩ := k_len1 p1 hT p2
          have L1 : M5 4492 T = (row.length : Int) := L1
          unfold WX12_join_283 VX12_join_283
          rw [et, show ((T : Nat) : Int).toNat = T by omega, L1]
          refine ⟨by omega, fun ne => f301 M5 p1 ?_ p3, fun e0 => ⟨⟨by omega, Or.inr rfl⟩, fun M6 e6 => ?_⟩⟩
          · rw [p2, g3, if_neg (show ¬ row.length = 0 by omega)]
          · obtain ⟨w1, w2⟩ := N_put2 (M := M5) (t := T) (v := 1) p1 hT
            rw [← e6] at w1 w2
            refine f301 M6 w1 ?_ (j_tfr_t p3 (fun b b1 _ _ _ _ => by rw [e6, e_up_row b1]))
            rw [w2, p2, n_put_setT, g3, if_pos (show row.length = 0 by omega)]
        refine k_placeOn et u1 hT u2 ⟨fun lt => k283 M4 _ u1 u2 (j_tfr_t v3 u3) ?_, fun ge => k_placeOf et u1 hT u2 ⟨fun lt => k283 M4 _ u1 u2 (j_tfr_t v3 u3) ?_, fun ge2 => k_offOn et u1 hT u2 ⟨ge, r_find_lt⟩ (fun M7 p1 p2 p3 => k283 M7 _ p1 p2 (j_tfr_t v3 (j_tfr_t u3 p3)) ?_)⟩⟩
        · have lt : r_find (r_mrg x.2.1 one other into) into < 0 := lt
          have no : into ∉ r_mrg x.2.1 one other into := fun z => by have := r_find_mem.mpr z; omega
          rw [r_del_no no]
          split <;> rfl
        · have lt : r_find (r_mrg x.2.2 one other into) into < 0 := lt
          rw [if_neg (fun z => by have := r_find_mem.mpr z; omega)]
        · have ge2 : 0 ≤ r_find (r_mrg x.2.2 one other into) into := ge2
          have ge : 0 ≤ r_find (r_mrg x.2.1 one other into) into := ge
          rw [if_pos (r_find_mem.mp ge2), r_del_in ge]
      · have g3 := gT x
        rw [if_pos ⟨s5, t⟩, if_neg (show ¬ s = 3 by omega)] at g3
        rw [v2, g3]
    · rw [hN, hTT, eT] at t
      rw [hN, gT, if_neg (fun c => by rw [t] at c; cases c.2)]
      exact base
