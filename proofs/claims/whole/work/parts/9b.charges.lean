/-! THE MODEL: CHARGES taken off LOTS -/
theorem n_setT_at {N : n_S} {T : Nat} {t : w_T} : (n_setT N T t).2.1 T = t := s_fu_eq
theorem n_setT_setT {N : n_S} {T : Nat} {t u : w_T} : n_setT (n_setT N T t) T u = n_setT N T u := by
  unfold n_setT
  refine Prod.ext rfl (Prod.ext (funext fun k => ?_) rfl)
  show s_fu (s_fu _ _ _) _ _ k = s_fu _ _ _ k
  unfold s_fu
  split <;> rfl
theorem n_put_setT {N : n_S} {T k : Nat} {t : w_T} {v : Int} : n_put (n_setT N T t) T k v = n_setT N T (s_fu t.1 k v, t.2) := by
  unfold n_put
  rw [n_setT_at, n_setT_setT]
theorem R_leave {V : Nat → v_D} {S : w_S} {N : n_S} {a : Int} {s i : Nat} {l : Int} (hR : R_S V S N a) (hz : R_z S) (hs : 2 ≤ s ∧ s ≤ 6) (h3 : s ≠ 3) (hi : (i : Int) < S.1 s) (ht : w_thr S s i = true) : R_S V (w_leave S (w_F s + i) l) (n_setT N (80 * s + i) (t_leave (N.2.1 (80 * s + i)) l)) a := by
  have er : (N.2.1 (80 * s + i)).2.1 = (w_t S s i).2.1 := ((R_rows hR hs hi ht).2.2.2.1 h3).1
  rw [w_leave_eq]
  show R_S V (w_setT S (w_F s + i) (t_leave (w_t S s i) l)) _ a
  by_cases c : (r_del (w_t S s i).2.1 l).length = 0
  · have e1 : t_leave (w_t S s i) l = (s_fu (w_t S s i).1 2 1, r_del (w_t S s i).2.1 l, (w_t S s i).2.2) := by unfold t_leave; rw [if_pos c]
    have e2 : t_leave (N.2.1 (80 * s + i)) l = (s_fu (N.2.1 (80 * s + i)).1 2 1, r_del (w_t S s i).2.1 l, (N.2.1 (80 * s + i)).2.2) := by unfold t_leave; rw [er, if_pos c]
    rw [e1, e2]
    exact R_tend hR hz hs hi ⟨rfl, rfl, rfl⟩ ⟨rfl, rfl⟩ (t_thr_gone rfl) (t_thr_gone rfl)
  · have e1 : t_leave (w_t S s i) l = ((w_t S s i).1, r_del (w_t S s i).2.1 l, (w_t S s i).2.2) := by unfold t_leave; rw [if_neg c]
    have e2 : t_leave (N.2.1 (80 * s + i)) l = ((N.2.1 (80 * s + i)).1, r_del (w_t S s i).2.1 l, (N.2.1 (80 * s + i)).2.2) := by unfold t_leave; rw [er, if_neg c]
    rw [e1, e2]
    exact R_tlots hR hz hs h3 hi
theorem r_del_in {l : List Int} {x : Int} (h : 0 ≤ r_find l x) : r_del l x = l.eraseIdx (r_find l x).toNat := by
  unfold r_del
  rw [if_neg (by omega)]
/-- the end of offLot and offCharge -/
theorem m_offTail {M : e_M} {T : Nat} {l : Int} {Q : e_M → Prop} (hn : nn_ok M) (hT : T < 560) (hl : 0 ≤ r_find ((n_of M).2.1 T).2.1 l)
    (hq : ∀ M', nn_ok M' → n_of M' = n_setT (n_of M) T (t_leave ((n_of M).2.1 T) l) → j_keep M M' → Q M') : WX12_offOn (T : Int) (r_find ((n_of M).2.1 T).2.1 l) M (fun M2 => ((0 ≤ (T : Int) ∧ (T : Int) < 560) ∧ ((¬ (M2 4492 ((T : Int).toNat)) = 0 → (Q M2)) ∧ ((M2 4492 ((T : Int).toNat)) = 0 → (((0 ≤ (T : Int) ∧ (T : Int) < 560) ∧ ((1 : Int) = 0 ∨ (1 : Int) = 1)) ∧ (∀ M3 : e_M, M3 = e_up M2 4485 ((T : Int).toNat) 1 → (Q M3))))))) := by
  have jk := (hn.2.1 T hT).1
  have ej : j_row M 4492 4493 T = ((n_of M).2.1 T).2.1 := (n_r (M := M) (t := T) hT).1
  have jl := j_row_len (c := 4493) jk
  have fl := r_find_lt (l := ((n_of M).2.1 T).2.1) (x := l)
  rw [ej] at jl
  have tt : ((T : Nat) : Int).toNat = T := by omega
  refine m_offOn (by omega) (by rw [tt]; exact jk) (by rw [tt]; omega) (fun M2 r1 r2 r3 => ?_)
  rw [tt] at r1 r2 r3
  rw [ej, ← r_del_in hl] at r1
  obtain ⟨u1, u2⟩ := N_on hn hT r1 r2 r3
  have jl2 := j_row_len (c := 4493) r2
  rw [r1] at jl2
  have kp := j_keep_fr r3 (by omega) (by omega)
  rw [tt]
  refine ⟨by omega, fun ne => hq M2 u1 ?_ kp, fun e => ⟨⟨by omega, Or.inr rfl⟩, fun M3 e3 => ?_⟩⟩
  · rw [u2]
    unfold n_on t_leave
    rw [if_neg (by omega)]
  · obtain ⟨v1, v2⟩ := N_put2 (M := M2) (t := T) (v := 1) u1 hT
    rw [e3]
    refine hq _ v1 ?_ (j_keep_trans kp (j_keep_cell (by omega)))
    rw [v2, u2]
    unfold n_on
    rw [n_put_setT]
    unfold t_leave
    rw [if_pos (by omega)]
theorem m_offLot {M : e_M} {T : Nat} {l : Int} {Q : e_M → Prop} (hn : nn_ok M) (hT : T < 560) (q0 : l ∉ ((n_of M).2.1 T).2.1 → Q M)
    (q1 : l ∈ ((n_of M).2.1 T).2.1 → ∀ M', nn_ok M' → n_of M' = n_setT (n_of M) T (t_leave ((n_of M).2.1 T) l) → j_keep M M' → Q M') : WX12_offLot (T : Int) l M Q := by
  have jk := (hn.2.1 T hT).1
  have ej : j_row M 4492 4493 T = ((n_of M).2.1 T).2.1 := (n_r (M := M) (t := T) hT).1
  have tt : ((T : Nat) : Int).toNat = T := by omega
  unfold WX12_offLot VX12_offLot
  refine m_placeOn (by omega) (by rw [tt]; exact jk) ?_
  rw [tt, ej]
  refine ⟨fun ge => ?_, fun lt => q0 (fun m => by have := r_find_mem.mpr m; omega)⟩
  have := m_offTail (Q := Q) hn hT ge (q1 (r_find_mem.mp ge))
  rw [tt] at this
  exact this
/-- no number of a thing changes, but whether it is over -/
def n_m1 (M M' : e_M) : Prop := ∀ t k, k ≠ 2 → ((n_of M').2.1 t).1 k = ((n_of M).2.1 t).1 k
theorem t_leave_1 {t : w_T} {l : Int} {k : Nat} (hk : k ≠ 2) : (t_leave t l).1 k = t.1 k := by
  unfold t_leave
  dsimp only
  split
  · exact s_fu_ne hk
  · rfl
theorem n_put_1 {N : n_S} {T k t j : Nat} {v : Int} (hk : j ≠ k) : ((n_put N T k v).2.1 t).1 j = (N.2.1 t).1 j := by
  show (s_fu N.2.1 T _ t).1 j = _
  by_cases c : t = T
  · rw [c, s_fu_eq]
    exact s_fu_ne hk
  · rw [s_fu_ne c]
theorem m_offCharge {M : e_M} {V : Nat → v_D} {S : w_S} {a : Int} {c l : Nat} {Q : e_M → Prop} (h : R_all M V S a) (hci : (c : Int) < S.1 2) (hli : (l : Int) < S.1 0) (ht : w_thr S 2 c = true) (m1 : (c : Int) ∈ (w_l S l).2.2.1) (m2 : (l : Int) ∈ (w_t S 2 c).2.1)
    (hq : ∀ M', R_all M' V (w_free S l c) a → j_keep M M' → ((n_of M').2.1 (80 * 2 + c)).2.1 = r_del (w_t S 2 c).2.1 l → n_m1 M M' → Q M') : WX12_offCharge c l M Q := by
  obtain ⟨hn, hc, hR, hz, hg, hd⟩ := id h
  have l80 := R_mx hz (show 0 < 7 by omega) hli
  have c80 := R_mx hz (show 2 < 7 by omega) hci
  have jk := (hn.2.2.1 l l80).2.1
  have ej := (R_lo hR hz hli).2.1
  have jl := j_row_len (c := 4500) jk
  rw [ej] at jl
  have ge := r_find_mem.mpr m1
  have fl := r_find_lt (l := (w_l S l).2.2.1) (x := (c : Int))
  have tl : ((l : Nat) : Int).toNat = l := by omega
  unfold WX12_offCharge VX12_offCharge
  refine m_rankAt (by omega) (by rw [tl]; exact jk) ?_
  rw [tl, ej]
  refine m_offRank (by omega) (by rw [tl]; exact jk) (by rw [tl]; omega) (fun M2 r1 r2 r3 => ?_)
  rw [tl] at r1 r2 r3
  rw [ej, ← r_del_in ge] at r1
  obtain ⟨u1, u2⟩ := N_rk hn l80 r1 r2 r3
  have kp := j_keep_fr r3 (by omega) (by omega)
  have h2 : R_all M2 V (w_chg S l (r_del (w_l S l).2.2.1 c)) a := ⟨u1, j_keep_cm hc kp, by rw [u2]; exact R_chg hR hz hli, hz, w_rg_chg hg (fun x hx => r_del_sub hx), hd⟩
  have jk2 := (u1.2.1 (80 * 2 + c) (by omega)).1
  have er : ((n_of M2).2.1 (80 * 2 + c)).2.1 = (w_t S 2 c).2.1 := ((R_rows (s := 2) h2.2.2.1 (by omega) hci ht).2.2.2.1 (by omega)).1
  have ej2 : j_row M2 4492 4493 (80 * 2 + c) = (w_t S 2 c).2.1 := by rw [(n_r (M := M2) (t := 80 * 2 + c) (by omega)).1, er]
  refine m_idt (t := 80 * 2 + c) (by omega) (by omega) (by omega) (m_placeOn (by omega) (by rw [show (((80 * 2 + c : Nat)) : Int).toNat = 80 * 2 + c by omega]; exact jk2) ?_)
  rw [show (((80 * 2 + c : Nat)) : Int).toNat = 80 * 2 + c by omega, ej2]
  have RR := R_leave (l := (l : Int)) h2.2.2.1 hz (s := 2) (by omega) (by omega) hci ht
  have tail := m_offTail (T := 80 * 2 + c) (l := (l : Int)) (Q := Q) u1 (by omega) (by rw [er]; exact r_find_mem.mpr m2) (fun M' k1 k2 k3 => hq M' ⟨k1, j_keep_cm hc (j_keep_trans kp k3), by rw [k2]; exact RR, fun r hr => by rw [w_free_z]; exact hz r hr, w_rg_free hg, by show 0 ≤ (w_leave _ _ _).2.2.2 ∧ (w_leave _ _ _).2.2.2 ≤ _; rw [w_leave_d]; exact hd⟩ (j_keep_trans kp k3) (by
    rw [k2, n_setT_at]
    show r_del ((n_of M2).2.1 (80 * 2 + c)).2.1 l = _
    rw [er]) (fun t k hk => by
    rw [k2]
    show (s_fu (n_of M2).2.1 (80 * 2 + c) (t_leave ((n_of M2).2.1 (80 * 2 + c)) l) t).1 k = _
    by_cases ct : t = 80 * 2 + c
    · rw [ct, s_fu_eq, t_leave_1 hk, u2]; rfl
    · rw [s_fu_ne ct, u2]; rfl))
  rw [show (((80 * 2 + c : Nat)) : Int).toNat = 80 * 2 + c by omega, er] at tail
  exact tail
/-- CHARGE c has its LOTS, and these have it -/
def I_ch (S : w_S) (c : Nat) : Prop := (w_t S 2 c).2.1.Nodup ∧ (∀ l ∈ (w_t S 2 c).2.1, 0 ≤ l ∧ l < S.1 0 ∧ (c : Int) ∈ (w_l S l.toNat).2.2.1) ∧ ((w_t S 2 c).2.1 ≠ [] → w_thr S 2 c = true)
theorem r_del_hd {l : Int} {ls : List Int} : r_del (l :: ls) l = ls := by
  have e : r_find (l :: ls) l = ((0 : Nat) : Int) := r_find_at rfl (fun j hj => by omega)
  rw [r_del_in (by rw [e]; omega), e]; rfl
theorem w_dels_setT {c : Int} : ∀ {ls : List Int} {S : w_S} {j : Nat} {t : w_T}, w_dels (w_setT S j t) c ls = w_setT (w_dels S c ls) j t
  | [], _, _, _ => rfl
  | l :: ls, S, j, t => by
    show w_dels (w_setT (w_chg S l.toNat (r_del (S.2.1 l.toNat).2.2.1 c)) j t) c ls = _
    rw [w_dels_setT]; rfl
theorem w_lts_setT {Y : w_S} {J : Nat} {t : w_T} {r : List Int} : w_lts (w_setT Y J t) J r = w_setT Y J (t.1, r, t.2.2) := by
  have wse : (w_setT Y J t).2.2.1 J = t := s_fu_eq
  unfold w_lts
  rw [wse, w_setT_setT]
theorem w_put_setT {Y : w_S} {J k : Nat} {t : w_T} {v : Int} : w_put (w_setT Y J t) J k v = w_setT Y J (s_fu t.1 k v, t.2) := by
  have wse : (w_setT Y J t).2.2.1 J = t := s_fu_eq
  unfold w_put
  rw [wse, w_setT_setT]
theorem w_endc_cons {S : w_S} {c : Nat} {l : Int} {ls : List Int} (h : (w_t S 2 c).2.1 = l :: ls) (hl : 0 ≤ l) : w_endc (w_free S l.toNat c) c = w_endc S c := by
  have hT : (S.2.2.1 (w_F 2 + c)).2.1 = l :: ls := h
  have ef : w_free S l.toNat c = w_setT (w_chg S l.toNat (r_del (S.2.1 l.toNat).2.2.1 c)) (w_F 2 + c) (if ls.length = 0 then s_fu (w_t S 2 c).1 2 1 else (w_t S 2 c).1, ls, (w_t S 2 c).2.2) := by
    unfold w_free
    rw [w_leave_eq, show ((l.toNat : Nat) : Int) = l by omega]
    show w_setT _ _ (t_leave (w_t S 2 c) l) = _
    unfold t_leave
    rw [h, r_del_hd]
  rw [ef]
  unfold w_endc
  rw [hT]
  have er : ((w_setT (w_chg S l.toNat (r_del (S.2.1 l.toNat).2.2.1 c)) (w_F 2 + c) (if ls.length = 0 then s_fu (w_t S 2 c).1 2 1 else (w_t S 2 c).1, ls, (w_t S 2 c).2.2)).2.2.1 (w_F 2 + c)) = (if ls.length = 0 then s_fu (w_t S 2 c).1 2 1 else (w_t S 2 c).1, ls, (w_t S 2 c).2.2) := s_fu_eq
  rw [er]
  show w_put (w_lts (w_dels _ c ls) _ []) _ 2 1 = w_put (w_lts (w_dels (w_chg S l.toNat (r_del (S.2.1 l.toNat).2.2.1 c)) c ls) _ []) _ 2 1
  rw [w_dels_setT]
  generalize hY : w_dels (w_chg S l.toNat (r_del (S.2.1 l.toNat).2.2.1 c)) c ls = Y
  have eY : Y.2.2.1 (w_F 2 + c) = w_t S 2 c := by
    rw [← hY, (w_dels_t (c := (c : Int)) (ls := ls)).1]; rfl
  have e2 : s_fu (if ls.length = 0 then s_fu (w_t S 2 c).1 2 1 else (w_t S 2 c).1) 2 1 = s_fu (w_t S 2 c).1 2 1 := by
    funext k
    unfold s_fu
    by_cases ck : k = 2
    · rw [if_pos ck, if_pos ck]
    · rw [if_neg ck, if_neg ck]
      split
      · exact if_neg ck
      · rfl
  rw [w_lts_setT, w_put_setT]
  show _ = w_put (w_setT Y (w_F 2 + c) ((Y.2.2.1 (w_F 2 + c)).1, [], (Y.2.2.1 (w_F 2 + c)).2.2)) (w_F 2 + c) 2 1
  rw [w_put_setT, eY]
  show w_setT Y _ (s_fu (if ls.length = 0 then s_fu (w_t S 2 c).1 2 1 else (w_t S 2 c).1) 2 1, [], (w_t S 2 c).2.2) = w_setT Y _ (s_fu (w_t S 2 c).1 2 1, [], (w_t S 2 c).2.2)
  rw [e2]
theorem I_ch_free {S : w_S} {c : Nat} {l : Int} {ls : List Int} (h : I_ch S c) (e : (w_t S 2 c).2.1 = l :: ls) : I_ch (w_free S l.toNat c) c ∧ (w_t (w_free S l.toNat c) 2 c).2.1 = ls := by
  obtain ⟨h1, h2, h3⟩ := h
  have hl := h2 l (by rw [e]; exact List.mem_cons_self)
  have e1 : w_t (w_free S l.toNat c) 2 c = t_leave (w_t S 2 c) l := by
    unfold w_free
    rw [w_leave_eq, show ((l.toNat : Nat) : Int) = l by omega]
    exact s_fu_eq
  have e2 : (w_t (w_free S l.toNat c) 2 c).2.1 = ls := by
    rw [e1]
    show r_del (w_t S 2 c).2.1 l = ls
    rw [e, r_del_hd]
  rw [e] at h1
  obtain ⟨n1, n2⟩ := List.nodup_cons.mp h1
  refine ⟨⟨by rw [e2]; exact n2, fun k hk => ?_, fun hne => ?_⟩, e2⟩
  · rw [e2] at hk
    obtain ⟨a1, a2, a3⟩ := h2 k (by rw [e]; exact List.mem_cons_of_mem _ hk)
    refine ⟨a1, by rw [w_free_z]; exact a2, ?_⟩
    unfold w_free
    rw [w_leave_eq]
    show (c : Int) ∈ (s_fu S.2.1 l.toNat _ k.toNat).2.2.1
    rw [s_fu_ne (fun z => n1 (by rw [show l = k by omega]; exact hk))]
    exact a3
  · have tt := h3 (by rw [e]; exact List.cons_ne_nil _ _)
    rw [e2] at hne
    have e3 : w_t (w_free S l.toNat c) 2 c = ((w_t S 2 c).1, ls, (w_t S 2 c).2.2) := by
      rw [e1]
      unfold t_leave
      rw [e, r_del_hd, if_neg (fun z => hne (List.length_eq_zero_iff.mp z))]
    unfold w_thr at tt ⊢
    rw [if_neg (by omega)] at tt ⊢
    rw [e3]
    have ed : w_d (w_free S l.toNat c) = w_d S := by
      show (w_free S l.toNat c).2.2.2 = S.2.2.2
      unfold w_free
      rw [w_leave_d]; rfl
    rw [ed]
    exact tt
theorem m_endCharge {M : e_M} {V : Nat → v_D} {S : w_S} {a : Int} {c : Nat} {Q : e_M → Prop} (h : R_all M V S a) (hci : (c : Int) < S.1 2) (hI : I_ch S c) (er : ((n_of M).2.1 (80 * 2 + c)).2.1 = (w_t S 2 c).2.1)
    (hq : ∀ M', R_all M' V (w_endc S c) a → j_keep M M' → n_m1 M M' → Q M') : WX12_endCharge c M Q := by
  have c80 := R_mx h.2.2.2.1 (show 2 < 7 by omega) hci
  have tt : (((80 * 2 + c : Nat)) : Int).toNat = 80 * 2 + c := by omega
  unfold WX12_endCharge VX12_endCharge
  refine m_idt (t := 80 * 2 + c) (by omega) (by omega) (by omega) ?_
  show ∃ j, WX12_endCharge_6 Q j c (((80 * 2 + c : Nat)) : Int) M
  refine ⟨_, s_iter (σ := w_S × e_M) (P := fun dd s => WX12_endCharge_6 Q dd c (((80 * 2 + c : Nat)) : Int) s.2) (fun s => (w_t s.1 2 c).2.1.length) (fun s => R_all s.2 V s.1 a ∧ s.1.1 = S.1 ∧ I_ch s.1 c ∧ ((n_of s.2).2.1 (80 * 2 + c)).2.1 = (w_t s.1 2 c).2.1 ∧ w_endc s.1 c = w_endc S c ∧ j_keep M s.2 ∧ n_m1 M s.2) ?_ _ (S, M) ⟨h, rfl, hI, er, rfl, j_keep_refl, fun _ _ _ => rfl⟩ (Nat.lt_succ_self _)⟩
  intro d2 ⟨S', N⟩ ⟨k1, k2, k3, k4, k5, k6, k7⟩ ih
  dsimp only at k1 k2 k3 k4 k5 k6 k7 ih ⊢
  obtain ⟨hn, hc, hR, hz, hg, hd⟩ := id k1
  have hci' : (c : Int) < S'.1 2 := by rw [k2]; exact hci
  have jk := (hn.2.1 (80 * 2 + c) (by omega)).1
  have ej : j_row N 4492 4493 (80 * 2 + c) = (w_t S' 2 c).2.1 := by rw [(n_r (M := N) (t := 80 * 2 + c) (by omega)).1, k4]
  have jl := j_row_len (c := 4493) jk
  rw [ej] at jl
  unfold WX12_endCharge_6 VX12_endCharge_6
  rw [tt]
  refine ⟨by omega, fun le => ⟨⟨by omega, Or.inr rfl⟩, fun M1 e1 => ?_⟩, fun gt => ?_⟩
  · have er0 : (w_t S' 2 c).2.1 = [] := List.length_eq_zero_iff.mp (by omega)
    obtain ⟨v1, v2⟩ := N_put2 (M := N) (t := 80 * 2 + c) (v := 1) hn (by omega)
    rw [← e1] at v1 v2
    have kp : j_keep N M1 := by rw [e1]; exact j_keep_cell (by omega)
    have ee : w_endc S' c = w_put S' (w_F 2 + c) 2 1 := by
      unfold w_endc
      rw [show (S'.2.2.1 (w_F 2 + c)).2.1 = [] from er0]
      show w_put (w_lts S' (w_F 2 + c) []) (w_F 2 + c) 2 1 = _
      have : w_lts S' (w_F 2 + c) [] = S' := by
        unfold w_lts w_setT
        refine Prod.ext rfl (Prod.ext rfl (Prod.ext (funext fun k => ?_) rfl))
        show s_fu S'.2.2.1 (w_F 2 + c) _ k = _
        by_cases ck : k = w_F 2 + c
        · rw [ck, s_fu_eq]
          refine Prod.ext rfl (Prod.ext er0.symm rfl)
        · rw [s_fu_ne ck]
      rw [this]
    refine hq M1 ⟨v1, j_keep_cm hc kp, ?_, ?_, ?_, ?_⟩ (j_keep_trans k6 kp) (fun t k hk => by rw [v2, n_put_1 hk]; exact k7 t k hk)
    · rw [v2, ← k5, ee]
      exact R_tend (s := 2) hR hz (by omega) hci' ⟨rfl, rfl, rfl⟩ ⟨rfl, rfl⟩ (t_thr_gone rfl) (t_thr_gone rfl)
    · rw [← k5, ee]; exact hz
    · rw [← k5, ee]; exact w_rg_put hg (by omega)
    · rw [← k5, ee]; exact hd
  · cases ers : (w_t S' 2 c).2.1 with
    | nil => rw [ers] at jl; change (0 : Int) = _ at jl; omega
    | cons l ls =>
      have hl := k3.2.1 l (by rw [ers]; exact List.mem_cons_self)
      have e0 : N 4493 (8 * (80 * 2 + c)) = l := by
        have := j_row_at (c := 4493) (n := 4492) (M := N) (t := 80 * 2 + c) (i := 0) (by omega)
        rw [ej, ers] at this
        exact (Option.some.inj this).symm
      obtain ⟨j1, j2⟩ := I_ch_free k3 ers
      have el : l = ((l.toNat : Nat) : Int) := by omega
      rw [s_w (x := 8 * (((80 * 2 + c : Nat)) : Int)) (by omega) (by omega), show (8 * (((80 * 2 + c : Nat)) : Int)).toNat = 8 * (80 * 2 + c) by omega, e0]
      refine ⟨by omega, ?_⟩
      rw [el]
      refine m_offCharge k1 hci' (by omega) (k3.2.2 (by rw [ers]; exact List.cons_ne_nil _ _)) hl.2.2 (by rw [ers, ← el]; exact List.mem_cons_self) (fun M2 q1 q2 q3 q4 => ?_)
      refine ih (w_free S' l.toNat c, M2) ⟨q1, by dsimp only; rw [w_free_z, k2], j1, ?_, ?_, j_keep_trans k6 q2, fun t k hk => (q4 t k hk).trans (k7 t k hk)⟩ ?_
      · dsimp only
        rw [q3, j2, ← el, ers, r_del_hd]
      · dsimp only
        rw [w_endc_cons ers hl.1, k5]
      · dsimp only
        rw [j2, ers]; exact Nat.lt_succ_self _
theorem m_pay {M : e_M} {V : Nat → v_D} {S : w_S} {a : Int} {d x : Nat} {r : Nat → Int} {Q : Int → e_M → Prop} (h : R_all M V S a) (hx : x < 152) (hnu : M 4464 x = (V d).1 9) (hn9 : 0 ≤ (V d).1 9 ∧ (V d).1 9 ≤ 999999) (i0 : M 4520 0 = r 0) (h0 : 0 ≤ r 0 ∧ r 0 < S.1 2) (t0 : w_thr S 2 (r 0).toNat = true) (hI : I_ch S (r 0).toNat) (ham : 0 ≤ (w_t S 2 (r 0).toNat).1 6 ∧ (w_t S 2 (r 0).toNat).1 6 ≤ 999999) (hq : j_q M V a Q (X_pay V S r d)) : WX12_pay x M Q := by
  obtain ⟨hn, hc, hR, hz, hg, hd⟩ := id h
  obtain ⟨c, e0⟩ : ∃ c : Nat, r 0 = c := ⟨(r 0).toNat, by omega⟩
  have ec : (r 0).toNat = c := by omega
  have hci : (c : Int) < S.1 2 := by omega
  have c80 := R_mx hz (show 2 < 7 by omega) hci
  rw [ec] at t0 hI ham
  have rb := R_rows (s := 2) hR (by omega) hci t0
  have e6 := rb.2.1 (Or.inl rfl)
  have er := (rb.2.2.2.1 (by omega)).1
  obtain ⟨-, -, -, -, -, -, c6, -⟩ := n_c (M := M) (t := 80 * 2 + c) (by omega)
  have q6 : (V d).1 9 = 0 ∨ (w_t S 2 c).1 6 < (V d).1 9 → j_q M V a Q (6, S) := fun g => j_qx (c_if_pos (by rw [ec]; exact g)) hq
  have q0 : ¬ ((V d).1 9 = 0 ∨ (w_t S 2 c).1 6 < (V d).1 9) → (V d).1 9 < (w_t S 2 c).1 6 → j_q M V a Q (0, w_put S (w_F 2 + c) 6 ((w_t S 2 c).1 6 - (V d).1 9)) := fun g1 g2 => j_qx ((c_if_neg (by rw [ec]; exact g1)).trans ((c_if_pos (by rw [ec]; exact g2)).trans (by rw [ec]))) hq
  have qe : ¬ ((V d).1 9 = 0 ∨ (w_t S 2 c).1 6 < (V d).1 9) → ¬ (V d).1 9 < (w_t S 2 c).1 6 → j_q M V a Q (0, w_endc (w_put S (w_F 2 + c) 6 0) c) := fun g1 g2 => j_qx ((c_if_neg (by rw [ec]; exact g1)).trans ((c_if_neg (by rw [ec]; exact g2)).trans (by rw [ec]))) hq
  unfold WX12_pay VX12_pay
  rw [show (0 : Int).toNat = 0 from rfl, show ((x : Nat) : Int).toNat = x by omega, i0, e0, hnu]
  refine ⟨by omega, m_idt (t := 80 * 2 + c) (by omega) (by omega) (by omega) ?_⟩
  rw [show (((80 * 2 + c : Nat)) : Int).toNat = 80 * 2 + c by omega, c6, e6]
  refine ⟨by omega, fun z => j_q_no h (q6 (Or.inl z)), fun nz => ⟨by omega, by omega, fun le => ⟨by omega, by omega, by omega, fun M2 f2 => ⟨by omega, fun ne => ?_, fun ez => ⟨by omega, ?_⟩⟩⟩, fun lt => j_q_no h (q6 (Or.inr lt))⟩⟩
  all_goals
    rw [s_w (by omega) (by omega)] at f2
    obtain ⟨u1, u2⟩ := N_put6 (M := M) (t := 80 * 2 + c) (v := (w_t S 2 c).1 6 - (V d).1 9) hn (by omega)
    rw [← f2] at u1 u2
    have k2 : j_keep M M2 := by rw [f2]; exact j_keep_cell (by omega)
    have R2 : R_S V (w_put S (w_F 2 + c) 6 ((w_t S 2 c).1 6 - (V d).1 9)) (n_of M2) a := by
      rw [u2]; exact R_tput (s := 2) hR hz (by omega) hci (Or.inr ⟨rfl, Or.inl rfl⟩)
  · rw [f2, e_up_eq] at ne
    exact q0 (by omega) (by omega) M2 u1 R2 k2
  · rw [f2, e_up_eq] at ez
    rw [ez] at R2
    have i02 : M2 4520 0 = (c : Int) := by rw [k2.1 4520 (by omega), i0, e0]
    rw [i02]
    have et : w_t (w_put S (w_F 2 + c) 6 0) 2 c = (s_fu (w_t S 2 c).1 6 0, (w_t S 2 c).2) := s_fu_eq
    refine m_endCharge (S := w_put S (w_F 2 + c) 6 0) ⟨u1, j_keep_cm hc k2, R2, hz, w_rg_put hg (by omega), hd⟩ hci ⟨?_, ?_, fun hne => ?_⟩ ?_ (fun M' v1 v2 _ => qe (by omega) (by omega) M' v1.1 v1.2.2.1 (j_keep_trans k2 v2))
    · rw [et]; exact hI.1
    · rw [et]; exact hI.2.1
    · have tt := t0
      unfold w_thr at tt ⊢
      rw [if_neg (by omega)] at tt ⊢
      rw [et]
      exact tt
    · rw [u2]
      show ((n_put (n_of M) (80 * 2 + c) 6 _).2.1 (80 * 2 + c)).2.1 = _
      unfold n_put
      rw [n_setT_at, et]
      exact er
theorem m_freed {M : e_M} {V : Nat → v_D} {S : w_S} {a : Int} {r : Nat → Int} {Q : Int → e_M → Prop} (h : R_all M V S a) (i0 : M 4520 0 = r 0) (i1 : M 4520 1 = r 1) (h0 : 0 ≤ r 0 ∧ r 0 < S.1 0) (h1 : 0 ≤ r 1 ∧ r 1 < S.1 2) (t1 : w_thr S 2 (r 1).toNat = true) (hI : r 1 ∈ (w_l S (r 0).toNat).2.2.1 → r 0 ∈ (w_t S 2 (r 1).toNat).2.1) (hq : j_q M V a Q (X_free S r)) : WX12_freed M Q := by
  obtain ⟨hn, hc, hR, hz, hg, hd⟩ := id h
  obtain ⟨l, e0⟩ : ∃ l : Nat, r 0 = l := ⟨(r 0).toNat, by omega⟩
  obtain ⟨c, e1⟩ : ∃ c : Nat, r 1 = c := ⟨(r 1).toNat, by omega⟩
  have el : (r 0).toNat = l := by omega
  have ec : (r 1).toNat = c := by omega
  have hli : (l : Int) < S.1 0 := by omega
  have hci : (c : Int) < S.1 2 := by omega
  have l80 := R_mx hz (show 0 < 7 by omega) hli
  rw [el, ec, e0, e1] at hI
  rw [ec] at t1
  have q9 : (c : Int) ∉ (w_l S l).2.2.1 → j_q M V a Q (9, S) := fun g => j_qx (c_if_pos (by rw [el, e1]; exact g)) hq
  have q0 : (c : Int) ∈ (w_l S l).2.2.1 → j_q M V a Q (0, w_free S l c) := fun g => j_qx ((c_if_neg (by rw [el, e1]; exact fun n => n g)).trans (by rw [el, ec])) hq
  have jk := (hn.2.2.1 l l80).2.1
  have tl : ((l : Nat) : Int).toNat = l := by omega
  unfold WX12_freed VX12_freed
  rw [show (0 : Int).toNat = 0 from rfl, show (1 : Int).toNat = 1 from rfl, i0, i1, e0, e1]
  refine ⟨by omega, by omega, m_rankAt (by omega) (by rw [tl]; exact jk) ?_⟩
  rw [tl, (R_lo hR hz hli).2.1]
  exact ⟨fun ge => ⟨by omega, by omega, m_offCharge h hci hli t1 (r_find_mem.mp ge) (hI (r_find_mem.mp ge)) (fun M' v1 v2 _ _ => q0 (r_find_mem.mp ge) M' v1.1 v1.2.2.1 v2)⟩, fun lt => j_q_no h (q9 (fun m => by have := r_find_mem.mpr m; omega))⟩
/-- one of a row moved before another -/
theorem r_move_get {l : List Int} {i k j : Nat} {x : Int} (hk : k ≤ i) (hi : i < l.length) (hj : j < l.length) : (r_in (l.eraseIdx i) k x)[j]? = if j = k then some x else if k < j ∧ j ≤ i then l[j - 1]? else l[j]? := by
  have hl : (l.eraseIdx i).length = l.length - 1 := by rw [List.length_eraseIdx]; rw [if_pos hi]
  rw [r_in_get (by omega)]
  by_cases c1 : j < k
  · rw [if_pos c1, if_neg (by omega), if_neg (by omega), List.getElem?_eraseIdx, if_pos (by omega)]
  · rw [if_neg c1]
    by_cases c2 : j = k
    · rw [if_pos c2, if_pos c2]
    · rw [if_neg c2, if_neg c2, List.getElem?_eraseIdx]
      by_cases c3 : j ≤ i
      · rw [if_pos (by omega), if_pos (by omega)]
      · rw [if_neg (by omega), if_neg (by omega), show j - 1 + 1 = j by omega]
theorem m_ranked {M : e_M} {V : Nat → v_D} {S : w_S} {a : Int} {r : Nat → Int} {Q : Int → e_M → Prop} (h : R_all M V S a) (i0 : M 4520 0 = r 0) (i1 : M 4520 1 = r 1) (i2 : M 4520 2 = r 2) (h2 : 0 ≤ r 2 ∧ r 2 < S.1 0) (hq : j_q M V a Q (X_rank S r)) : WX12_ranked M Q := by
  obtain ⟨hn, hc, hR, hz, hg, hd⟩ := id h
  obtain ⟨l, e2⟩ : ∃ l : Nat, r 2 = l := ⟨(r 2).toNat, by omega⟩
  have el : (r 2).toNat = l := by omega
  have hli : (l : Int) < S.1 0 := by omega
  have l80 := R_mx hz (show 0 < 7 by omega) hli
  have jk := (hn.2.2.1 l l80).2.1
  have ej := (R_lo hR hz hli).2.1
  have jl := j_row_len (c := 4500) jk
  rw [ej] at jl
  have tl : ((l : Nat) : Int).toNat = l := by omega
  generalize hrow : (w_l S l).2.2.1 = row at *
  have f0 := r_find_lt (l := row) (x := r 0)
  have f1 := r_find_lt (l := row) (x := r 1)
  have q9 : ¬ (0 ≤ r_find row (r 1) ∧ r_find row (r 1) < r_find row (r 0)) → j_q M V a Q (9, S) := fun g => j_qx (c_if_pos (by rw [el, hrow]; exact g)) hq
  have q0 : (0 ≤ r_find row (r 1) ∧ r_find row (r 1) < r_find row (r 0)) → j_q M V a Q (0, w_chg S l (r_ins (r_del row (r 0)) (r_find row (r 1)) (r 0))) := fun g => j_qx ((c_if_neg (by rw [el, hrow]; exact fun n => n g)).trans (by rw [el, hrow])) hq
  unfold WX12_ranked VX12_ranked
  rw [show (0 : Int).toNat = 0 from rfl, show (1 : Int).toNat = 1 from rfl, show (2 : Int).toNat = 2 from rfl, i0, i1, i2, e2]
  refine ⟨by omega, by omega, m_rankAt (by omega) (by rw [tl]; exact jk) ⟨by omega, m_rankAt (by omega) (by rw [tl]; exact jk) ?_⟩⟩
  rw [tl, ej]
  generalize hF0 : r_find row (r 0) = i at *
  generalize hF1 : r_find row (r 1) = k at *
  refine ⟨fun lt => j_q_no h (q9 (by omega)), fun ge => ⟨fun lt => j_q_no h (q9 (by omega)), fun ge2 => ⟨fun lt => ?_, fun le => j_q_no h (q9 (by omega))⟩⟩⟩
  obtain ⟨j0, j8⟩ := id jk
  show ∃ j, WX12_ranked_50 Q j l k i M
  have hat : ∀ j : Nat, (j : Int) < row.length → row[j]? = some (M 4500 (8 * l + j)) := fun j hj => by
    have := j_row_at (c := 4500) (n := 4499) (M := M) (t := l) (i := j) (by omega)
    rw [ej] at this; exact this
  refine ⟨_, s_iter (σ := Int × e_M) (P := fun dd s => WX12_ranked_50 Q dd l k s.1 s.2) (fun s => (s.1 - k).toNat) (fun s => (k ≤ s.1 ∧ s.1 ≤ i) ∧ (∀ b, b ≠ 4500 → s.2 b = M b) ∧ ∀ j : Nat, s.2 4500 j = if 8 * l + s.1.toNat < j ∧ j ≤ 8 * l + i.toNat then M 4500 (j - 1) else M 4500 j) ?_ _ (i, M) ⟨⟨by dsimp only; omega, by dsimp only; omega⟩, fun _ _ => rfl, fun j => by dsimp only; rw [if_neg (by omega)]⟩ (Nat.lt_succ_self _)⟩
  intro d2 ⟨m, N⟩ ⟨⟨n1, n2⟩, n3, n4⟩ ih
  dsimp only at n1 n2 n3 n4 ih ⊢
  unfold WX12_ranked_50 VX12_ranked_50
  rw [show (0 : Int).toNat = 0 from rfl, s_w (x := 8 * (l : Int)) (by omega) (by omega), s_w (x := 8 * (l : Int) + k) (by omega) (by omega), s_w (x := 8 * (l : Int) + m) (by omega) (by omega), s_w (x := 8 * (l : Int) + m - 1) (by omega) (by omega), show (8 * (l : Int) + k).toNat = 8 * l + k.toNat by omega, show (8 * (l : Int) + m).toNat = 8 * l + m.toNat by omega]
  refine ⟨fun le => ⟨by omega, by omega, fun M1 e1 => ?_⟩, fun gt => ⟨by omega, by omega, fun M3 e3 => ?_⟩⟩
  · have em : m = k := by omega
    subst em
    rw [n3 4520 (by omega), i0] at e1
    have c1 : ∀ j : Nat, M1 4500 j = if j = 8 * l + m.toNat then r 0 else if 8 * l + m.toNat < j ∧ j ≤ 8 * l + i.toNat then M 4500 (j - 1) else M 4500 j := fun j => by rw [e1, e_up_at, n4]
    have o1 : ∀ b, b ≠ 4500 → M1 b = M b := fun b hb => by rw [e1, e_up_row hb, n3 b hb]
    have di : r_del row (r 0) = row.eraseIdx i.toNat := by
      rw [r_del_in (by rw [hF0]; omega), hF0]
    have li : i.toNat < row.length := by omega
    have hle : (row.eraseIdx i.toNat).length = row.length - 1 := by rw [List.length_eraseIdx]; rw [if_pos li]
    have ei : r_ins (r_del row (r 0)) m (r 0) = r_in (row.eraseIdx i.toNat) m.toNat (r 0) := by
      unfold r_ins
      rw [di, if_neg (by omega)]
    obtain ⟨u1, u2⟩ := N_rk (M := M) (M' := M1) (l := l) (r := r_in (row.eraseIdx i.toNat) m.toNat (r 0)) hn l80 (by
      unfold j_row
      rw [o1 4499 (by omega)]
      refine j_ar_ext j0 (by rw [r_in_len, hle]; omega) (fun j hj => ?_)
      rw [r_move_get (by omega) li (by omega), c1]
      by_cases b1 : j = m.toNat
      · rw [if_pos b1, if_pos (by omega)]
      · rw [if_neg b1, if_neg (show ¬ (8 * l + j = 8 * l + m.toNat) by omega)]
        by_cases b2 : m.toNat < j ∧ j ≤ i.toNat
        · rw [if_pos b2, if_pos (show 8 * l + m.toNat < 8 * l + j ∧ 8 * l + j ≤ 8 * l + i.toNat by omega), hat _ (by omega), show 8 * l + j - 1 = 8 * l + (j - 1) by omega]
        · rw [if_neg b2, if_neg (show ¬ (8 * l + m.toNat < 8 * l + j ∧ 8 * l + j ≤ 8 * l + i.toNat) by omega), hat _ (by omega)]) (by unfold j_ok; rw [o1 4499 (by omega)]; exact jk) ⟨fun b b1 b2 => o1 b b2, fun u hu => by rw [o1 4499 (by omega)], fun j hj => by rw [c1, if_neg (by omega), if_neg (by omega)]⟩
    refine q0 (by omega) M1 u1 ?_ (j_keep_of (fun b hb => o1 b (by omega)))
    rw [u2, ei]
    exact R_chg hR hz hli
  · rw [s_w (by omega) (by omega)]
    refine ih (m + -1, M3) ⟨by dsimp only; omega, fun b hb => by show M3 b = M b; rw [e3, e_up_row hb, n3 b hb], fun j => ?_⟩ (by dsimp only; omega)
    show M3 4500 j = if 8 * l + (m + -1).toNat < j ∧ _ then _ else _
    rw [e3, e_up_at, n4, n4]
    by_cases c1 : j = 8 * l + m.toNat
    · rw [if_pos c1, if_neg (by omega), if_pos (by omega), c1, show (8 * (l : Int) + m - 1).toNat = 8 * l + m.toNat - 1 by omega]
    · rw [if_neg c1]
      by_cases c2 : 8 * l + m.toNat < j ∧ j ≤ 8 * l + i.toNat
      · rw [if_pos c2, if_pos (by omega)]
      · rw [if_neg c2, if_neg (by omega)]
