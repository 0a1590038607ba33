/-! THE MODEL: a row of corners tidied -/
/-- straight corners of R taken out -/
def j_tin (R : s_Fig) (M : e_M) (f n : Nat) (N : e_M) (k : Nat) : Prop := gt_fig (j_fg N f k) ∧ (j_fg N f k).Sublist R ∧ (∀ x ∈ R, x ∉ j_fg N f k → gt_st R x) ∧ (∀ x ∈ j_fg N f k, gt_st (j_fg N f k) x ↔ gt_st R x) ∧ j_rfr M N f n ∧ k ≤ n ∧ s_fb (j_fg N f k)
theorem j_tin_3 {R : s_Fig} {M N : e_M} {f n k : Nat} (h : j_tin R M f n N k) : 3 ≤ k := by
  obtain ⟨v, b, c, r, e⟩ := gt_smp_3 h.1.1 h.1.2.1
  have := congrArg List.length e
  rw [j_fg_len] at this
  rw [this]
  simp
theorem m_tidy {M : e_M} {f n : Nat} {f' n' : Int} {Q : Int → e_M → Prop} (ef : f' = (f : Int)) (en : n' = (n : Int)) (hf : f + n ≤ 4800) (hR : gt_fig (j_fg M f n)) (fb : s_fb (j_fg M f n)) (hq : ∀ (N : e_M) (k : Nat), j_rfr M N f n → k ≤ n → j_fg N f k = g_cls (j_fg M f n) → Q k N) : WX12_tidy f' n' M Q := by
  subst ef en
  generalize eR : j_fg M f n = R at hR hq fb
  have ndR := gt_smp_nd hR.1
  -- all straight corners are out
  have k191 : ∀ (N : e_M) (k : Nat), j_tin R M f n N k → (∀ x ∈ j_fg N f k, ¬ gt_st (j_fg N f k) x) → ∃ j, WX12_tidy_191 Q j f k 0 1 N := by
    intro N k h no
    obtain ⟨t1, t2, t3, t4, t5, t6, t7⟩ := id h
    have k3 := j_tin_3 h
    have lk : (j_fg N f k).length = k := j_fg_len
    refine m_tidy_low (by omega) (by omega) (fun N' u1 u2 => hq N' k (j_rfr_t t5 (j_rfr_le u1 (by omega) (by omega))) t6 ?_)
    have eZ : j_fg N f k = R.filter (gt_ns R) := gt_sub_flt t2 ndR (fun x hx => by
      rw [gt_ns_iff]
      constructor
      · intro m z
        exact no x m ((t4 x m).mpr z)
      · intro ns
        exact Classical.byContradiction (fun w => ns (t3 x hx w)))
    have ll : g_low (j_fg N f k) (k - 1) < k := by
      have := g_low_le (R := j_fg N f k) (k := k - 1)
      omega
    have lo := gt_low (R := j_fg N f k) (k := k - 1)
    rw [u2]
    generalize g_low (j_fg N f k) (k - 1) = L at *
    have hd : (j_fg N f k).drop L = g_pt (j_fg N f k) L :: (j_fg N f k).drop (L + 1) := by
      rw [List.drop_eq_getElem_cons (by omega)]
      unfold g_pt
      rw [List.getElem?_eq_getElem (by omega)]; rfl
    refine gt_tidied hR eZ (List.take_append_drop L _).symm hd (fun x hx => ?_)
    obtain ⟨i, hi⟩ := List.mem_iff_getElem?.mp hx
    have il := (List.getElem?_eq_some_iff.mp hi).1
    have e : g_pt (j_fg N f k) i = x := by unfold g_pt; rw [hi]; rfl
    rw [← e]
    exact lo i (by omega)
  -- one corner out
  have k116 : ∀ (N : e_M) (k i d2 : Nat) (H5 : Int → Int → Int → e_M → Prop), j_tin R M f n N k → i < k → gt_st (j_fg N f k) (g_pt (j_fg N f k) i) → (∀ N', j_tin R M f n N' (k - 1) → WX12_tidy_176 H5 (WX12_tidy_16 H5 Q d2) Q f ((k : Int) - 1) 1 i N') → ∃ j, WX12_tidy_116 H5 (WX12_tidy_16 H5 Q d2) Q j f k i i N := by
    intro N k i d2 H5 h hi hs go
    obtain ⟨t1, t2, t3, t4, t5, t6, t7⟩ := id h
    have k3 := j_tin_3 h
    have lk : (j_fg N f k).length = k := j_fg_len
    refine s_up (σ := e_M) (P := fun dd u N' => WX12_tidy_116 H5 (WX12_tidy_16 H5 Q d2) Q dd f k i u N') (n := (k : Int) - 1) (i0 := (i : Int)) (s := N) (fun u N' => j_rfr N N' f k ∧ ∀ w : Nat, w < k → N' 4480 (f + w) = (if i ≤ w ∧ (w : Int) < u then N 4480 (f + (w + 1)) else N 4480 (f + w)) ∧ N' 4481 (f + w) = (if i ≤ w ∧ (w : Int) < u then N 4481 (f + (w + 1)) else N 4481 (f + w))) (by omega) ⟨j_rfr_r, fun w hw => by rw [if_neg (by omega), if_neg (by omega)]; exact ⟨rfl, rfl⟩⟩ ?_ ?_
    · intro d N' ⟨u1, u2⟩
      unfold WX12_tidy_116 VX12_tidy_116
      rw [s_w (x := (k : Int) - 1) (by omega) (by omega), s_w (x := (k : Int) + -1) (by omega) (by omega), show (k : Int) + -1 = (k : Int) - 1 by omega]
      refine ⟨fun _ => go N' ?_, fun z => by omega⟩
      -- the row without it
      have eN : j_fg N' f (k - 1 : Nat) = (j_fg N f k).eraseIdx i := by
        refine j_fg_e (by rw [List.length_eraseIdx, lk, if_pos hi]) (fun w hw => ?_)
        rw [List.getElem?_eraseIdx, (u2 w (by omega)).1, (u2 w (by omega)).2]
        by_cases c : w < i
        · rw [if_pos c, if_neg (by omega), if_neg (by omega)]
          exact j_fg_nat (by omega)
        · rw [if_neg c, if_pos (by omega), if_pos (by omega)]
          exact j_fg_nat (by omega)
      have sp : j_fg N f k = (j_fg N f k).take i ++ g_pt (j_fg N f k) i :: (j_fg N f k).drop (i + 1) := by
        have hd : (j_fg N f k).drop i = g_pt (j_fg N f k) i :: (j_fg N f k).drop (i + 1) := by
          rw [List.drop_eq_getElem_cons (by omega)]
          unfold g_pt
          rw [List.getElem?_eq_getElem (by omega)]; rfl
        rw [← hd, List.take_append_drop]
      have e2 : j_fg N' f (k - 1 : Nat) = (j_fg N f k).take i ++ (j_fg N f k).drop (i + 1) := by rw [eN, List.eraseIdx_eq_take_drop_succ]
      generalize hb : g_pt (j_fg N f k) i = b at *
      generalize (j_fg N f k).take i = s at *
      generalize (j_fg N f k).drop (i + 1) = t at *
      have er := gt_era (s := s) (t := t) (b := b) (by rw [← sp]; exact t1) (by rw [← sp]; exact hs)
      have nd : (s ++ b :: t).Nodup := by rw [← sp]; exact gt_smp_nd t1.1
      have nb : b ∉ s ++ t := by
        have := (List.perm_middle (a := b) (l₁ := s) (l₂ := t)).nodup_iff.mp nd
        exact (List.nodup_cons.mp this).1
      have sub : (s ++ t).Sublist (j_fg N f k) := by
        rw [sp]
        exact List.Sublist.append (List.Sublist.refl s) (List.sublist_cons_self b t)
      refine ⟨by rw [e2]; exact er.1, by rw [e2]; exact sub.trans t2, fun x hx nx => ?_, fun x hx => ?_, j_rfr_t t5 (j_rfr_le u1 (by omega) (by omega)), by omega, ?_⟩
      · rw [e2] at nx
        by_cases c : x = b
        · rw [c]
          refine (t4 b ?_).mp hs
          rw [sp]; simp
        · refine t3 x hx (fun m => nx ?_)
          rw [sp] at m
          rcases List.mem_append.mp m with z | z
          · exact List.mem_append.mpr (Or.inl z)
          · exact List.mem_append.mpr (Or.inr ((List.mem_cons.mp z).resolve_left c))
      · rw [e2] at hx ⊢
        have nxb : x ≠ b := fun z => nb (by rw [← z]; exact hx)
        rw [er.2 x nxb, ← sp]
        exact t4 x (sub.subset hx)
      · rw [e2]
        exact fun q hq => t7 q (sub.subset hq)
    · intro d u' N' a0 a1 ⟨u1, u2⟩ ih2
      obtain ⟨u, eu⟩ : ∃ u : Nat, u' = u := ⟨u'.toNat, by omega⟩
      subst eu
      unfold WX12_tidy_116 VX12_tidy_116
      rw [s_w (x := (k : Int) - 1) (by omega) (by omega), s_w (x := (f : Int) + (u : Int)) (by omega) (by omega), s_w (x := (f : Int) + (u : Int) + 1) (by omega) (by omega), show ((f : Int) + (u : Int)).toNat = f + u by omega, show ((f : Int) + (u : Int) + 1).toNat = f + (u + 1) by omega]
      refine ⟨fun z => by omega, fun _ => ⟨by omega, by omega, fun M3 e3 => ⟨by omega, by omega, fun M4 e4 => ?_⟩⟩⟩
      rw [s_w (by omega) (by omega)]
      rw [e3, e_up_row (show 4481 ≠ 4480 by omega)] at e4
      have c0 : ∀ j, M4 4480 j = if j = f + u then N' 4480 (f + (u + 1)) else N' 4480 j := fun j => by rw [e4, e_up_row (by omega), e_up_at]
      have c1 : ∀ j, M4 4481 j = if j = f + u then N' 4481 (f + (u + 1)) else N' 4481 j := fun j => by rw [e4, e_up_at, e_up_row (by omega)]
      refine ih2 M4 ⟨⟨fun b b1 b2 => by rw [e4, e_up_row b2, e_up_row b1]; exact u1.1 b b1 b2, fun j hj => by
        rw [c0, c1, if_neg (by omega), if_neg (by omega)]; exact u1.2 j hj⟩, fun w hw => ?_⟩
      rw [c0, c1]
      by_cases c : w = u
      · subst c
        rw [if_pos rfl, if_pos rfl, if_pos (by omega), if_pos (by omega), (u2 (w + 1) (by omega)).1, (u2 (w + 1) (by omega)).2, if_neg (by omega), if_neg (by omega)]
        exact ⟨rfl, rfl⟩
      · rw [if_neg (show ¬ f + w = f + u by omega), if_neg (show ¬ f + w = f + u by omega), (u2 w hw).1, (u2 w hw).2]
        by_cases c2 : i ≤ w ∧ (w : Int) < u
        · rw [if_pos c2, if_pos c2, if_pos (show i ≤ w ∧ (w : Int) < (u : Int) + 1 by omega), if_pos (show i ≤ w ∧ (w : Int) < (u : Int) + 1 by omega)]; exact ⟨rfl, rfl⟩
        · rw [if_neg c2, if_neg c2, if_neg (show ¬ (i ≤ w ∧ (w : Int) < (u : Int) + 1) by omega), if_neg (show ¬ (i ≤ w ∧ (w : Int) < (u : Int) + 1) by omega)]; exact ⟨rfl, rfl⟩
  -- rounds
  have main : ∀ (d : Nat) (s : e_M × Nat × Int), (j_tin R M f n s.1 s.2.1 ∧ ((s.2.2 = 1) ∨ (s.2.2 = 0 ∧ ∀ x ∈ j_fg s.1 f s.2.1, ¬ gt_st (j_fg s.1 f s.2.1) x))) → 2 * s.2.1 + s.2.2.toNat < d → WX12_tidy_5 Q d f s.2.1 s.2.2 s.1 := by
    refine s_iter (σ := e_M × Nat × Int) (P := fun d s => WX12_tidy_5 Q d f s.2.1 s.2.2 s.1) (fun s => 2 * s.2.1 + s.2.2.toNat) (fun s => j_tin R M f n s.1 s.2.1 ∧ ((s.2.2 = 1) ∨ (s.2.2 = 0 ∧ ∀ x ∈ j_fg s.1 f s.2.1, ¬ gt_st (j_fg s.1 f s.2.1) x))) ?_
    rintro d ⟨N0, k0, m0⟩ ⟨h0, hm⟩ ih
    dsimp only at h0 hm ih
    show WX12_tidy_5 Q (d + 1) f k0 m0 N0
    unfold WX12_tidy_5 VX12_tidy_5
    refine ⟨fun z => ?_, fun nz => ?_⟩
    · rcases hm with e | e
      · rw [e] at z; exact absurd z (by decide)
      · exact k191 N0 k0 h0 e.2
    · have em : m0 = 1 := hm.resolve_right (fun e => nz e.1)
      subst em
      show ∃ j, WX12_tidy_16 (WX12_tidy_5 Q d) Q j f k0 0 0 N0
      refine ⟨_, s_iter (σ := e_M × Nat × Int × Nat) (P := fun d2 s => WX12_tidy_16 (WX12_tidy_5 Q d) Q d2 f s.2.1 s.2.2.1 s.2.2.2 s.1) (fun s => s.2.1 - s.2.2.2) (fun s => j_tin R M f n s.1 s.2.1 ∧ s.2.1 ≤ k0 ∧ ((s.2.2.1 = 1 ∧ s.2.1 < k0) ∨ (s.2.2.1 = 0 ∧ ∀ j, j < s.2.2.2 → j < s.2.1 → ¬ gt_st (j_fg s.1 f s.2.1) (g_pt (j_fg s.1 f s.2.1) j)))) ?_ _ (N0, k0, 0, 0) ⟨h0, Nat.le_refl _, Or.inr ⟨rfl, fun j hj => absurd (show j < 0 from hj) (Nat.not_lt_zero j)⟩⟩ (Nat.lt_succ_self _)⟩
      rintro d2 ⟨N, k, mo, i⟩ ⟨h, hk, hmo⟩ ih2
      dsimp only at h hk hmo ih2
      show WX12_tidy_16 (WX12_tidy_5 Q d) Q (d2 + 1) f k mo i N
      obtain ⟨t1, t2, t3, t4, t5, t6, t7⟩ := id h
      have k3 := j_tin_3 h
      have lk : (j_fg N f k).length = k := j_fg_len
      have nb := j_fgb_e t7
      unfold WX12_tidy_16 VX12_tidy_16
      refine ⟨fun le => ?_, fun lt => ⟨fun z => by omega, fun _ => ?_⟩⟩
      · show WX12_tidy_5 Q d f k mo N
        rcases hmo with ⟨e1, e2⟩ | ⟨e1, e2⟩
        · exact ih (N, k, mo) ⟨h, Or.inl e1⟩ (by dsimp only; rw [e1, show (1 : Int).toNat = 1 from rfl]; omega)
        · refine ih (N, k, mo) ⟨h, Or.inr ⟨e1, fun x hx => ?_⟩⟩ (by dsimp only; rw [e1, show (1 : Int).toNat = 1 from rfl, show (0 : Int).toNat = 0 from rfl]; omega)
          obtain ⟨j, hj⟩ := List.mem_iff_getElem?.mp hx
          have jl : j < (j_fg N f k).length := (List.getElem?_eq_some_iff.mp hj).1
          have hj : (j_fg N f k)[j]? = some x := hj
          have e : g_pt (j_fg N f k) j = x := by unfold g_pt; rw [hj]; rfl
          rw [← e]
          exact e2 j (by omega) (by omega)
      · have hi : i < k := by omega
        have hbf := gt_bf hi
        have pm : ((i : Int) + (k : Int) - 1).tmod (k : Int) = ((g_bf k i : Nat) : Int) := by
          rw [Int.tmod_eq_emod_of_nonneg (by omega)]
          unfold g_bf
          by_cases c : 0 < i
          · rw [if_pos c, show (i : Int) + (k : Int) - 1 = ((i : Int) - 1) + (k : Int) by omega, Int.add_emod_right, Int.emod_eq_of_lt (by omega) (by omega)]
            omega
          · rw [if_neg c, Int.emod_eq_of_lt (by omega) (by omega)]
            omega
        have hnx := g_nx_lt (n := k) hi
        have ts : g_kpt (j_fg N f k) i = g_T (g_pt (j_fg N f k) (g_bf k i)) (g_pt (j_fg N f k) i) (g_pt (j_fg N f k) (g_nx k i)) := by unfold g_kpt; rw [lk]
        have tk := gt_kpt t1.1 (i := i) (by omega)
        rw [ts] at tk
        rw [s_w (x := (i : Int) + (k : Int)) (by omega) (by omega), s_w (x := (i : Int) + (k : Int) - 1) (by omega) (by omega), pm, s_w (x := (i : Int) + 1) (by omega) (by omega), g_nx_mod hi, s_w (x := (f : Int) + ((g_bf k i : Nat) : Int)) (by omega) (by omega), s_w (x := (f : Int) + ((g_nx k i : Nat) : Int)) (by omega) (by omega), s_w (x := (f : Int) + (i : Int)) (by omega) (by omega)]
        refine ⟨by omega, fun y1 e1 => ⟨by omega, fun y2 e2 => ?_⟩⟩
        subst e1 e2
        rw [show ((f : Int) + ((g_bf k i : Nat) : Int)).toNat = f + g_bf k i by omega, show ((f : Int) + ((g_nx k i : Nat) : Int)).toNat = f + g_nx k i by omega, show ((f : Int) + (i : Int)).toNat = f + i by omega]
        have pa : (N 4480 (f + g_bf k i), N 4481 (f + g_bf k i)) = g_pt (j_fg N f k) (g_bf k i) := (j_fg_at hbf.1).symm
        have pb : (N 4480 (f + i), N 4481 (f + i)) = g_pt (j_fg N f k) i := (j_fg_at hi).symm
        have pc : (N 4480 (f + g_nx k i), N 4481 (f + g_nx k i)) = g_pt (j_fg N f k) (g_nx k i) := (j_fg_at hnx).symm
        have k176 : ∀ (N' : e_M) (k' : Nat) (mo' : Int), j_tin R M f n N' k' → k' ≤ k → ((mo' = 1 ∧ k' < k0) ∨ (mo' = 0 ∧ ∀ j, j < i + 1 → j < k' → ¬ gt_st (j_fg N' f k') (g_pt (j_fg N' f k') j))) → WX12_tidy_176 (WX12_tidy_5 Q d) (WX12_tidy_16 (WX12_tidy_5 Q d) Q d2) Q f k' mo' i N' := fun N' k' mo' a b c => by
          unfold WX12_tidy_176 VX12_tidy_176
          rw [s_w (by omega) (by omega)]
          have := ih2 (N', k', mo', i + 1) ⟨a, by dsimp only; omega, c⟩ (by dsimp only; omega)
          dsimp only at this
          rw [show ((i + 1 : Nat) : Int) = (i : Int) + 1 by omega] at this
          exact this
        refine ⟨by omega, by omega, by omega, by omega, by omega, by omega, m_turn2 ⟨pa, pb, pc⟩ (g_pt_b t7 _) (g_pt_b t7 _) (g_pt_b t7 _) (fun _ _ => ⟨fun e0 => ?_, fun ne => ?_⟩)⟩
        · refine k116 N k i d2 _ h hi (tk.mp e0) (fun N' h' => ?_)
          have := k176 N' (k - 1) 1 h' (by omega) (Or.inl ⟨rfl, by omega⟩)
          rw [show ((k - 1 : Nat) : Int) = (k : Int) - 1 by omega] at this
          exact this
        · refine k176 N k mo h (Nat.le_refl _) ?_
          rcases hmo with e | ⟨e1, e2⟩
          · exact Or.inl e
          · refine Or.inr ⟨e1, fun j j1 j2 => ?_⟩
            by_cases c : j = i
            · rw [c]; exact fun z => ne (tk.mpr z)
            · exact e2 j (by omega) j2
  have start : j_tin R M f n M n := by
    refine ⟨by rw [eR]; exact hR, by rw [eR]; exact List.Sublist.refl _, fun x hx nx => ?_, fun x hx => by rw [eR], j_rfr_r, Nat.le_refl _, by rw [eR]; exact fb⟩
    rw [eR] at nx
    exact absurd hx nx
  unfold WX12_tidy VX12_tidy
  exact ⟨_, main _ (M, n, 1) ⟨start, Or.inl rfl⟩ (Nat.lt_succ_self _)⟩
