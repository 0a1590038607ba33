/-! THE MODEL: CHARGE -/
theorem r_in_end {l : List Int} {x : Int} : r_in l l.length x = l ++ [x] := by unfold r_in; rw [List.take_length, List.drop_length]
theorem r_add_end {l : List Int} {x : Int} (h : l.length < 8) : r_add l x = l ++ [x] := by unfold r_add; exact r_ins_end h
theorem m_addOn {M : e_M} {T : Nat} {l : Int} {Q : e_M → Prop} (hn : nn_ok M) (hT : T < 560) (h8 : ((n_of M).2.1 T).2.1.length < 8) (hq : ∀ M', nn_ok M' → n_of M' = n_on (n_of M) T (((n_of M).2.1 T).2.1 ++ [l]) → j_keep M M' → (∀ b, b ≠ 4492 → b ≠ 4493 → M' b = M b) → Q M') : WX12_inOn (T : Int) (M 4492 T) l M Q := by
  have jk := (hn.2.1 T hT).1
  have ej : j_row M 4492 4493 T = ((n_of M).2.1 T).2.1 := (n_r (M := M) (t := T) hT).1
  have jl := j_row_len (c := 4493) jk
  rw [ej] at jl
  have tt : ((T : Nat) : Int).toNat = T := by omega
  refine m_inOn (t := (T : Int)) (by omega) (by rw [tt]; exact jk) (by rw [tt]; omega) (by rw [tt]; omega) (fun M' r1 r2 r3 => ?_)
  rw [tt] at r1 r2 r3
  rw [ej, show (M 4492 T).toNat = ((n_of M).2.1 T).2.1.length by omega, r_in_end] at r1
  obtain ⟨u1, u2⟩ := N_on hn hT r1 r2 r3
  exact hq M' u1 u2 (j_keep_fr r3 (by omega) (by omega)) (fun b b1 b2 => r3.1 b b1 b2)
theorem m_addRk {M M3 : e_M} {l : Nat} {c : Int} (hn : nn_ok M) (hl : l < 80) (h8 : M 4499 l < 8) (e : M3 = e_up (e_up M 4500 (8 * l + (M 4499 l).toNat) c) 4499 l (M 4499 l + 1)) : nn_ok M3 ∧ n_of M3 = n_rk (n_of M) l (((n_of M).2.2.1 l).2.1 ++ [c]) ∧ j_keep M M3 := by
  obtain ⟨j0, j8⟩ := (hn.2.2.1 l hl).2.1
  have c99 : M3 4499 l = M 4499 l + 1 := by rw [e, e_up_eq]
  have c00 : ∀ j, M3 4500 j = if j = 8 * l + (M 4499 l).toNat then c else M 4500 j := fun j => by rw [e, e_up_row (by omega), e_up_at]
  have er : ((n_of M).2.2.1 l).2.1 = j_row M 4499 4500 l := by rw [n_l hl]; rfl
  have f : j_fr M M3 4499 4500 l := ⟨fun b b1 b2 => by rw [e, e_up_row b1, e_up_row b2], fun u hu => by rw [e, e_up_ne (fun z => hu z.2), e_up_row (by omega)], fun j hj => by rw [c00, if_neg (by omega)]⟩
  have hr : j_row M3 4499 4500 l = j_row M 4499 4500 l ++ [c] := by
    unfold j_row
    have e1 : s_ar (fun k => M3 4500 (8 * l + k)) (M 4499 l) = s_ar (fun k => M 4500 (8 * l + k)) (M 4499 l) := s_ar_congr (fun j hj => by show M3 4500 _ = M 4500 _; rw [c00, if_neg (by omega)])
    have e2 : M3 4500 (8 * l + (M 4499 l).toNat) = c := by rw [c00, if_pos rfl]
    rw [c99, s_ar_succ j0, e1, e2]
  obtain ⟨u1, u2⟩ := N_rk hn hl hr (by unfold j_ok; rw [c99]; omega) f
  exact ⟨u1, by rw [u2, er], j_keep_fr f (by omega) (by omega)⟩
theorem w_chst_at {J : Nat} {c : Int} {S : w_S} {l : Int} : (w_chst J c S l).2.2.1 J = ((S.2.2.1 J).1, r_add (S.2.2.1 J).2.1 l, (S.2.2.1 J).2.2) := s_fu_eq
theorem w_chst_l {J : Nat} {c : Int} {S : w_S} {l : Int} {k : Nat} (h : k ≠ l.toNat) : w_l (w_chst J c S l) k = w_l S k := s_fu_ne h
theorem m_charge {M : e_M} {V : Nat → v_D} {S : w_S} {a : Int} {d x : Nat} {r : Nat → Int} {Q : Int → e_M → Prop} (h : R_all M V S a) (hm : m_mo M) (hx : x < 152) (hnm : M 4467 (10 * x) = (V d).2.1 0) (hnu : M 4464 x = (V d).1 9) (hct : M 4463 x = (V d).1 7) (hl2 : 3 ≤ (V d).1 7 ∧ (V d).1 7 ≤ 8) (ir : ∀ i : Nat, (i : Int) < (V d).1 7 → M 4520 i = r i) (hrl : ∀ i : Nat, 1 ≤ i → (i : Int) < (V d).1 7 - 1 → 0 ≤ r i ∧ r i < S.1 0) (hq : j_q M V (a + 1) Q (X_charge V S r d a)) : WX12_charge x M Q := by
  obtain ⟨hn, hc, hR, hz, hg, hd⟩ := id h
  have h' := R_all_le h (show a ≤ a + 1 by omega)
  have m1 : w_mx 2 = 40 := rfl
  have z1 := hz 2 (by omega)
  have z0 := hz 0 (by omega)
  have m0 : w_mx 0 = 80 := rfl
  have e83 := R_many hR (show 2 < 7 by omega)
  have n1 := R_size hR (show 2 < 7 by omega)
  unfold X_charge at hq
  generalize hn7 : (V d).1 7 = n at *
  have q1 : c_dup r (n - 1) → j_q M V (a + 1) Q (1, S) := fun g => j_qx (c_if_pos g) hq
  have q2 : ¬ c_dup r (n - 1) → ¬ c_abl S r (n - 1) → j_q M V (a + 1) Q (2, S) := fun g1 g2 => j_qx ((c_if_neg g1).trans (c_if_pos g2)) hq
  have q4 : ¬ c_dup r (n - 1) → c_abl S r (n - 1) → c_bar S r (n - 1) → j_q M V (a + 1) Q (4, S) := fun g1 g2 g3 => j_qx ((c_if_neg g1).trans ((c_if_neg (fun y => y g2)).trans (c_if_pos g3))) hq
  have q6 : ¬ c_dup r (n - 1) → c_abl S r (n - 1) → ¬ c_bar S r (n - 1) → (V d).1 9 = 0 → j_q M V (a + 1) Q (6, S) := fun g1 g2 g3 g4 => j_qx ((c_if_neg g1).trans ((c_if_neg (fun y => y g2)).trans ((c_if_neg g3).trans (c_if_pos g4)))) hq
  have q7 : ¬ c_dup r (n - 1) → c_abl S r (n - 1) → ¬ c_bar S r (n - 1) → ¬ (V d).1 9 = 0 → c_ful S r (n - 1) → j_q M V (a + 1) Q (7, S) := fun g1 g2 g3 g4 g5 => j_qx ((c_if_neg g1).trans ((c_if_neg (fun y => y g2)).trans ((c_if_neg g3).trans ((c_if_neg g4).trans (c_if_pos g5))))) hq
  have q0 : ¬ c_dup r (n - 1) → c_abl S r (n - 1) → ¬ c_bar S r (n - 1) → ¬ (V d).1 9 = 0 → ¬ c_ful S r (n - 1) → j_q M V (a + 1) Q (0, _) := fun g1 g2 g3 g4 g5 => j_qx ((c_if_neg g1).trans ((c_if_neg (fun y => y g2)).trans ((c_if_neg g3).trans ((c_if_neg g4).trans (c_if_neg g5))))) hq
  have ri : ∀ i : Int, 1 ≤ i → i < n - 1 → ∃ l : Nat, M 4520 i.toNat = l ∧ r i.toNat = l ∧ (l : Int) < S.1 0 ∧ l < 80 := fun i i1 i2 => by
    have b := hrl i.toNat (by omega) (by omega)
    exact ⟨(r i.toNat).toNat, by rw [ir i.toNat (by omega)]; omega, by omega, by omega, by omega⟩
  have wn : e_w32 (n - 1) = n - 1 := s_w (by omega) (by omega)
  -- the CHARGE is put on its LOTS
  have k142 : ¬ c_dup r (n - 1) → c_abl S r (n - 1) → ¬ c_bar S r (n - 1) → ¬ (V d).1 9 = 0 → S.1 2 < 40 → ∃ j, WX12_charge_142 Q j x n 1 M := by
    intro g1 g2 g3 g4 g40
    refine s_up (σ := Unit) (P := fun dd i _ => WX12_charge_142 Q dd x n i M) (n := n - 1) (i0 := 1) (s := ()) (fun i _ => ∀ j : Nat, 1 ≤ j → (j : Int) < i → ¬ 8 ≤ (w_l S (r j).toNat).2.2.1.length) (by omega) (fun j j1 j2 => by omega) ?_ ?_
    · intro d2 _ hI
      have g5 : ¬ c_ful S r (n - 1) := fun c => c.elim (fun y => by change 40 ≤ S.1 2 at y; omega) (fun ⟨i, i1, i2, i3⟩ => hI i i1 i2 i3)
      have q00 := q0 g1 g2 g3 g4 g5
      unfold WX12_charge_142 VX12_charge_142
      rw [wn, s_w (x := 10 * (x : Int)) (by omega) (by omega), show (10 * (x : Int)).toNat = 10 * x by omega, hnm, show ((x : Nat) : Int).toNat = x by omega]
      refine ⟨fun _ => ⟨by omega, ?_⟩, fun z => by omega⟩
      refine m_made (s := 2) h (by omega) rfl (by omega) (fun M2 k1 k2 k3 => m_idt (t := 80 * 2 + (S.1 2).toNat) (by omega) (by omega) (by omega) ⟨by omega, by omega, fun M4 e4 => ⟨by omega, by omega, fun M5 e5 => ?_⟩⟩)
      have tt : (((80 * 2 + (S.1 2).toNat : Nat)) : Int).toNat = 80 * 2 + (S.1 2).toNat := by omega
      have u4 : M4 4464 x = (V d).1 9 := by rw [e4, e_up_row (by omega), k3.1 4464 (by omega), hnu]
      rw [k3.1 4520 (by omega), ir _ (by omega), tt] at e4
      rw [u4, tt] at e5
      obtain ⟨u1, u2⟩ := N_put5 (M := M2) (t := 80 * 2 + (S.1 2).toNat) (v := r (n - 1).toNat) k1 (by omega)
      rw [← e4, k2, n_put_mk (by rw [n1])] at u2
      rw [← e4] at u1
      obtain ⟨t1, t2⟩ := N_put6 (M := M4) (t := 80 * 2 + (S.1 2).toNat) (v := (V d).1 9) u1 (by omega)
      rw [← e5, u2, n_put_mk (by rw [n1])] at t2
      rw [← e5] at t1
      have kp5 : j_keep M M5 := j_keep_trans k3 (j_keep_trans (j_keep_up e4 (by omega)) (j_keep_up e5 (by omega)))
      unfold w_charge at q00
      generalize hS1 : w_addT S 2 (s_fu (s_fu (w_new S 2 ((V d).2.1 0) d a).1 5 (r (n - 1).toNat)) 6 ((V d).1 9), [], []) = S1 at *
      have R1 : R_S V S1 (n_of M5) (a + 1) := by
        rw [← hS1, t2]
        refine R_mkT hR hz (by omega) (by omega) (by omega) ⟨?_, ?_⟩ (fun z => by omega) (fun _ => ⟨?_, ?_, fun _ => ⟨fun _ => ?_, fun _ => ?_, fun z => by omega, fun _ => ⟨rfl, rfl, rfl⟩, fun z => by omega, fun z => by omega, fun _ => ⟨?_, ?_⟩⟩⟩)
        · simp [s_fu, n_new]
        · simp [s_fu, w_new, t_new]
        · simp [s_fu, n_new, w_new, t_new]
        · unfold t_thr
          simp [s_fu, n_new, w_new, t_new]
          constructor <;> intro _ <;> omega
        · simp [s_fu, n_new, w_new, t_new]
        · simp [s_fu, n_new, w_new, t_new]
        · simp [s_fu, n_new, w_new, t_new]
        · simp [s_fu, n_new, w_new, t_new]
      have s1z : ∀ s, S1.1 s = if s = 2 then S.1 2 + 1 else S.1 s := fun s => by rw [← hS1]; exact w_z_add
      have s1d : S1.2.2.2 = S.2.2.2 := by rw [← hS1]; rfl
      have s1l : ∀ k, w_l S1 k = w_l S k := fun k => by rw [← hS1]; rfl
      have s1J : S1.2.2.1 (w_F 2 + (S.1 2).toNat) = (s_fu (s_fu (w_new S 2 ((V d).2.1 0) d a).1 5 (r (n - 1).toNat)) 6 ((V d).1 9), [], []) := by rw [← hS1]; exact s_fu_eq
      have zz1 : R_z S1 := fun s hs => by
        rw [s1z]
        have := hz s hs
        split
        · subst_vars; omega
        · exact this
      show ∃ j, WX12_charge_227 Q j n (S.1 2) (((80 * 2 + (S.1 2).toNat : Nat)) : Int) 1 M5
      refine s_up (σ := w_S × e_M) (P := fun dd i s => WX12_charge_227 Q dd n (S.1 2) (((80 * 2 + (S.1 2).toNat : Nat)) : Int) i s.2) (n := n - 1) (i0 := 1) (s := (S1, M5)) (fun i s => s.1 = (s_ar (fun k => r (k + 1)) (i - 1)).foldl (w_chst (w_F 2 + (S.1 2).toNat) (S.1 2)) S1 ∧ nn_ok s.2 ∧ R_S V s.1 (n_of s.2) (a + 1) ∧ s.1.1 = S1.1 ∧ s.1.2.2.2 = S.2.2.2 ∧ (s.1.2.2.1 (w_F 2 + (S.1 2).toNat)).1 = (S1.2.2.1 (w_F 2 + (S.1 2).toNat)).1 ∧ ((s.1.2.2.1 (w_F 2 + (S.1 2).toNat)).2.1.length : Int) = i - 1 ∧ (∀ j : Nat, i ≤ (j : Int) → (j : Int) < n - 1 → w_l s.1 (r j).toNat = w_l S (r j).toNat) ∧ j_keep M s.2) (by omega) ⟨rfl, t1, R1, rfl, s1d, rfl, by dsimp only; rw [s1J]; rfl, fun j _ _ => s1l _, kp5⟩ ?_ ?_
      · intro d3 ⟨Si, N⟩ ⟨b1, b2, b3, b4, b5, b6, b7, b8, b9⟩
        dsimp only at b1 b2 b3 b4 b5 b6 b7 b8 b9 ⊢
        unfold WX12_charge_227 VX12_charge_227
        rw [wn]
        refine ⟨fun _ => q00 N b2 ?_ b9, fun z => by omega⟩
        show R_S V ((s_ar (fun k => r (k + 1)) (n - 1 - 1)).foldl (w_chst (w_F 2 + (S.1 2).toNat) (S.1 2)) S1) _ _
        rw [← b1]; exact b3
      · intro d3 i ⟨Si, N⟩ i1 i2 ⟨b1, b2, b3, b4, b5, b6, b7, b8, b9⟩ ih
        dsimp only at b1 b2 b3 b4 b5 b6 b7 b8 b9 ih ⊢
        obtain ⟨l, l1, l2, l3, l4⟩ := ri i i1 i2
        have zi : R_z Si := fun s hs => by rw [b4]; exact zz1 s hs
        have ci : (((S.1 2).toNat : Nat) : Int) < Si.1 2 := by rw [b4, s1z, if_pos rfl]; omega
        have li : (l : Int) < Si.1 0 := by rw [b4, s1z, if_neg (by omega)]; exact l3
        have thr : t_thr (w_t Si 2 (S.1 2).toNat) Si.2.2.2 = true := by
          rw [b5]
          refine t_thr_iff.mpr ⟨?_, ?_⟩
          · show (Si.2.2.1 (w_F 2 + (S.1 2).toNat)).1 2 = 0
            rw [b6, s1J]; simp [s_fu, w_new, t_new]
          · show S.2.2.2 < (Si.2.2.1 (w_F 2 + (S.1 2).toNat)).1 3
            rw [b6, s1J]; simp [s_fu, w_new, t_new]; omega
        have rb := (b3.2.2.2.2.1 2 (S.1 2).toNat (by omega) (by omega) ci).2.2 thr
        have er : ((n_of N).2.1 (80 * 2 + (S.1 2).toNat)).2.1 = (w_t Si 2 (S.1 2).toNat).2.1 := (rb.2.2.2.1 (by omega)).1
        have len : ((n_of N).2.1 (80 * 2 + (S.1 2).toNat)).2.1.length < 8 := by
          rw [er]
          show (Si.2.2.1 (w_F 2 + (S.1 2).toNat)).2.1.length < 8
          omega
        have lenS : (w_t Si 2 (S.1 2).toNat).2.1.length < 8 := by rw [← er]; exact len
        have lr := b8 i.toNat (by omega) (by omega)
        rw [l2, show ((l : Nat) : Int).toNat = l by omega] at lr
        have full := hI i.toNat (by omega) (by omega)
        rw [l2, show ((l : Nat) : Int).toNat = l by omega] at full
        have jlo := R_lo b3 zi li
        unfold WX12_charge_227 VX12_charge_227
        rw [wn, tt, b9.1 4520 (by omega), l1, show ((l : Nat) : Int).toNat = l by omega]
        refine ⟨fun z => by omega, fun _ => ⟨by omega, by omega, m_addOn b2 (by omega) len (fun N1 v1 v2 v3 v4 => ?_)⟩⟩
        have c99 : N1 4499 l = ((w_l S l).2.2.1.length : Int) := by
          rw [v4 4499 (by omega) (by omega), ← lr, ← jlo.2.1]
          exact (j_row_len (c := 4500) (b2.2.2.1 l l4).2.1).symm
        rw [s_w (x := 8 * (l : Int)) (by omega) (by omega), s_w (x := 8 * (l : Int) + N1 4499 l) (by omega) (by omega), show (8 * (l : Int) + N1 4499 l).toNat = 8 * l + (N1 4499 l).toNat by omega]
        refine ⟨by omega, by omega, fun N2 f2 => ⟨by omega, by omega, fun N3 f3 => ?_⟩⟩
        rw [show N2 4499 l = N1 4499 l by rw [f2, e_up_row (by omega)], s_w (by omega) (by omega), f2] at f3
        obtain ⟨w1, w2, w3⟩ := m_addRk v1 l4 (by omega) f3
        rw [s_w (by omega) (by omega)]
        have eL : (w_l Si l).2.2.1 = ((n_of N).2.2.1 l).2.1 := by rw [n_l l4]; exact jlo.2.1.symm
        have RA : R_S V (w_lts Si (w_F 2 + (S.1 2).toNat) ((w_t Si 2 (S.1 2).toNat).2.1 ++ [(l : Int)])) (n_of N1) (a + 1) := by
          rw [v2, er]
          exact R_tlots (s := 2) b3 zi (by omega) (by omega) ci
        have es : w_chst (w_F 2 + (S.1 2).toNat) (S.1 2) Si (l : Int) = w_chg (w_lts Si (w_F 2 + (S.1 2).toNat) ((w_t Si 2 (S.1 2).toNat).2.1 ++ [(l : Int)])) l ((w_l Si l).2.2.1 ++ [S.1 2]) := by
          unfold w_chst
          rw [show ((l : Nat) : Int).toNat = l by omega]
          rw [show r_add (Si.2.2.1 (w_F 2 + (S.1 2).toNat)).2.1 (l : Int) = (w_t Si 2 (S.1 2).toNat).2.1 ++ [(l : Int)] from r_add_end lenS]
          rw [show r_add (Si.2.1 l).2.2.1 (S.1 2) = (w_l Si l).2.2.1 ++ [S.1 2] from r_add_end (by show (w_l Si l).2.2.1.length < 8; rw [lr]; omega)]
        have RB : R_S V (w_chst (w_F 2 + (S.1 2).toNat) (S.1 2) Si (l : Int)) (n_of N3) (a + 1) := by
          rw [es, w2, show ((n_of N1).2.2.1 l).2.1 = (w_l Si l).2.2.1 by rw [eL, v2]; rfl]
          exact R_chg RA zi li
        refine ih (w_chst (w_F 2 + (S.1 2).toNat) (S.1 2) Si (l : Int), N3) ⟨?_, w1, RB, b4, b5, ?_, ?_, fun j j1 j2 => ?_, j_keep_trans b9 (j_keep_trans v3 w3)⟩
        · dsimp only
          rw [show i + 1 - 1 = (i - 1) + 1 by omega, s_ar_succ (by omega), List.foldl_append, ← b1, show (i - 1).toNat + 1 = i.toNat by omega, l2]
          rfl
        · dsimp only
          rw [w_chst_at]; exact b6
        · dsimp only
          rw [w_chst_at]
          show ((r_add (Si.2.2.1 (w_F 2 + (S.1 2).toNat)).2.1 (l : Int)).length : Int) = i + 1 - 1
          rw [r_add_end (show (Si.2.2.1 (w_F 2 + (S.1 2).toNat)).2.1.length < 8 from lenS), List.length_append]
          show (((Si.2.2.1 (w_F 2 + (S.1 2).toNat)).2.1.length + 1 : Nat) : Int) = _
          omega
        · dsimp only
          rw [w_chst_l, b8 j (by omega) j2]
          have b := hrl j (by omega) j2
          intro e
          exact g1 ⟨j, i.toNat, by omega, by omega, j2, by rw [l2]; omega⟩
    · intro d2 i _ i1 i2 hI ih
      obtain ⟨l, l1, l2, l3, l4⟩ := ri i i1 i2
      have jl := j_row_len (c := 4500) (hn.2.2.1 l l4).2.1
      rw [(R_lo hR hz l3).2.1] at jl
      unfold WX12_charge_142 VX12_charge_142
      rw [wn, l1, show ((l : Nat) : Int).toNat = l by omega]
      refine ⟨fun z => by omega, fun _ => ⟨by omega, by omega, fun ne => ?_, fun e => j_q_no h' (q7 g1 g2 g3 g4 (Or.inr ⟨i.toNat, by omega, by omega, by rw [l2, show ((l : Nat) : Int).toNat = l by omega]; omega⟩))⟩⟩
      rw [s_w (by omega) (by omega)]
      refine ih () (fun j j1 j2 => ?_)
      by_cases c : (j : Int) = i
      · have j8 := (hn.2.2.1 l l4).2.1.2
        rw [show j = i.toNat by omega, l2, show ((l : Nat) : Int).toNat = l by omega]; omega
      · exact hI j j1 (by omega)
  have k87 : ¬ c_dup r (n - 1) → c_abl S r (n - 1) → ∃ j, WX12_charge_87 Q j x n 1 M := by
    intro g1 g2
    refine s_up (σ := Unit) (P := fun dd i _ => WX12_charge_87 Q dd x n i M) (n := n - 1) (i0 := 1) (s := ()) (fun i _ => ∀ j : Nat, 1 ≤ j → (j : Int) < i → ¬ w_bar S (r j) (-1)) (by omega) (fun j j1 j2 => by omega) ?_ ?_
    · intro d2 _ hI
      have g3 : ¬ c_bar S r (n - 1) := fun ⟨i, i1, i2, i3⟩ => hI i i1 i2 i3
      unfold WX12_charge_87 VX12_charge_87
      rw [wn, show ((x : Nat) : Int).toNat = x by omega, hnu]
      exact ⟨fun _ => ⟨by omega, fun nz => m_full (s := 2) rfl hm hn (by omega) (by omega) (fun f0 => ⟨fun _ => k142 g1 g2 g3 nz (by omega), fun z => absurd rfl z⟩) (fun f1 => ⟨fun z => by omega, fun _ => j_q_no h' (q7 g1 g2 g3 nz (Or.inl (by show 40 ≤ S.1 2; omega)))⟩), fun z => j_q_no h' (q6 g1 g2 g3 z)⟩, fun z => by omega⟩
    · intro d2 i _ i1 i2 hI ih
      obtain ⟨l, l1, l2, l3, l4⟩ := ri i i1 i2
      unfold WX12_charge_87 VX12_charge_87
      rw [wn, l1]
      refine ⟨fun z => by omega, fun _ => ⟨by omega, m_isBarred h (fun ba => ⟨fun z => by omega, fun _ => j_q_no h' (q4 g1 g2 ⟨i.toNat, by omega, by omega, by rw [l2]; exact ba⟩)⟩) (fun ba => ⟨fun _ => ?_, fun z => absurd rfl z⟩)⟩⟩
      rw [s_w (by omega) (by omega)]
      refine ih () (fun j j1 j2 => ?_)
      by_cases c : (j : Int) = i
      · rw [show j = i.toNat by omega, l2]; exact ba
      · exact hI j j1 (by omega)
  have k57 : ¬ c_dup r (n - 1) → ∃ j, WX12_charge_57 Q j x n 1 M := by
    intro g1
    refine s_up (σ := Unit) (P := fun dd i _ => WX12_charge_57 Q dd x n i M) (n := n - 1) (i0 := 1) (s := ()) (fun i _ => ∀ j : Nat, 1 ≤ j → (j : Int) < i → w_oab S (r j).toNat) (by omega) (fun j j1 j2 => by omega) ?_ ?_
    · intro d2 _ hI
      unfold WX12_charge_57 VX12_charge_57
      rw [wn]
      exact ⟨fun _ => k87 g1 (fun i i1 i2 => hI i i1 i2), fun z => by omega⟩
    · intro d2 i _ i1 i2 hI ih
      obtain ⟨l, l1, l2, l3, l4⟩ := ri i i1 i2
      have el : (r i.toNat).toNat = l := by omega
      unfold WX12_charge_57 VX12_charge_57
      rw [wn, l1]
      refine ⟨fun z => by omega, fun _ => ⟨by omega, m_areAble h l3 (fun ab => ⟨fun _ => ?_, fun z => by omega⟩) (fun ab => ⟨fun z => absurd rfl z, fun _ => j_q_no h' (q2 g1 (fun c => ab (by have := c i.toNat (by omega) (by omega); rw [el] at this; exact this)))⟩)⟩⟩
      rw [s_w (by omega) (by omega)]
      refine ih () (fun j j1 j2 => ?_)
      by_cases c : (j : Int) = i
      · rw [show j = i.toNat by omega, el]; exact ab
      · exact hI j j1 (by omega)
  unfold WX12_charge VX12_charge
  rw [show ((x : Nat) : Int).toNat = x by omega, hct]
  refine ⟨by omega, ?_⟩
  show ∃ j, WX12_charge_9 Q j x n 1 M
  refine s_up (σ := Unit) (P := fun dd i _ => WX12_charge_9 Q dd x n i M) (n := n - 1) (i0 := 1) (s := ()) (fun i _ => ∀ i2 j : Nat, 1 ≤ j → j < i2 → (i2 : Int) < i → r i2 ≠ r j) (by omega) (fun i2 j j1 j2 j3 => by omega) ?_ ?_
  · intro d2 _ hI
    unfold WX12_charge_9 VX12_charge_9
    rw [wn]
    exact ⟨fun _ => k57 (fun ⟨i, j, j1, j2, j3, e⟩ => hI i j j1 j2 j3 e), fun z => by omega⟩
  · intro d2 i _ i1 i2 hI ih
    unfold WX12_charge_9 VX12_charge_9
    rw [wn]
    refine ⟨fun z => by omega, fun _ => ?_⟩
    show ∃ j, WX12_charge_19 (WX12_charge_9 Q d2) Q j x n i 1 M
    refine s_up (σ := Unit) (P := fun dd k _ => WX12_charge_19 (WX12_charge_9 Q d2) Q dd x n i k M) (n := i) (i0 := 1) (s := ()) (fun k _ => ∀ j : Nat, 1 ≤ j → (j : Int) < k → r i.toNat ≠ r j) (by omega) (fun j j1 j2 => by omega) ?_ ?_
    · intro d3 _ hJ
      unfold WX12_charge_19 VX12_charge_19
      refine ⟨fun _ => ?_, fun z => by omega⟩
      rw [s_w (by omega) (by omega)]
      refine ih () (fun i3 j j1 j2 j3 => ?_)
      by_cases c : (i3 : Int) = i
      · rw [show i3 = i.toNat by omega]
        exact hJ j j1 (by omega)
      · exact hI i3 j j1 j2 (by omega)
    · intro d3 k _ k1 k2 hJ ih2
      unfold WX12_charge_19 VX12_charge_19
      rw [ir i.toNat (by omega), ir k.toNat (by omega)]
      refine ⟨fun z => by omega, fun _ => ⟨by omega, by omega, fun ne => ?_, fun e => j_q_no h' (q1 ⟨i.toNat, k.toNat, by omega, by omega, by omega, e.symm⟩)⟩⟩
      rw [s_w (by omega) (by omega)]
      refine ih2 () (fun j j1 j2 => ?_)
      by_cases c : (j : Int) = k
      · rw [show j = k.toNat by omega]; exact fun e => ne e.symm
      · exact hJ j j1 (by omega)
