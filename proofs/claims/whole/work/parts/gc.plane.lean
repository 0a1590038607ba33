/-! THE MODEL: on along a border; a row of corners tidied -/
theorem m_along {M : e_M} {f n g m : Nat} {v : gt_P} {f' n' g' m' px py : Int} {Q : Int → e_M → Prop} (ef : f' = (f : Int)) (en : n' = (n : Int)) (eg : g' = (g : Int)) (em : m' = (m : Int)) (ev : (px, py) = v) (hf : f + n ≤ 4800) (hgm : g + m ≤ 4800) (hb : j_fgb M f n) (hb2 : j_fgb M g m) (lv : s_lp v) (q0 : g_str (j_fg M f n) v.1 v.2 = -1 → Q 0 M) (q1 : ∀ (k : Nat) (h : gt_P) (M' : e_M), k < n → v ≠ g_pt (j_fg M f n) (g_nx n k) → gt_O (g_pt (j_fg M f n) k) (g_pt (j_fg M f n) (g_nx n k)) v → gt_O v (g_pt (j_fg M f n) (g_nx n k)) h → (h = g_pt (j_fg M f n) (g_nx n k) ∨ (h ∈ j_fg M g m ∧ h ≠ v)) → (∀ c ∈ j_fg M g m, c ≠ v → gt_O v h c → c = h) → s_lp h → (∀ b, b ≠ 4456 → M' b = M b) → (∀ j, j ≠ 47 → j ≠ 48 → M' 4456 j = M 4456 j) → M' 4456 47 = h.1 → M' 4456 48 = h.2 → Q 1 M') : WX12_along f' n' g' m' px py M Q := by
  subst ef en eg em ev
  have ln : (j_fg M f n).length = n := j_fg_len
  have fb := j_fgb_pt hb
  have gb := j_fgb_pt hb2
  have l1 := lv.1
  have l2 := lv.2
  dsimp only at l1 l2 q0
  unfold WX12_along VX12_along
  refine m_sideOf rfl rfl hf hb l1 l2 ⟨fun ge => ?_, fun lt => q0 (by have := (g_str_lt (F := j_fg M f n) (x := px) (y := py)).1; omega)⟩
  have sl := (g_str_lt (F := j_fg M f n) (x := px) (y := py)).2
  rw [ln] at sl
  have at_ : g_strf (j_fg M f n) px py (g_str (j_fg M f n) px py).toNat = true := (gt_fst_at (f := g_strf (j_fg M f n) px py) (n := (j_fg M f n).length) (by show ¬ g_str (j_fg M f n) px py < 0; omega)).2
  obtain ⟨k, ek⟩ : ∃ k : Nat, g_str (j_fg M f n) px py = k := ⟨(g_str (j_fg M f n) px py).toNat, by omega⟩
  rw [ek] at sl at_ ⊢
  rw [show ((k : Nat) : Int).toNat = k from rfl] at at_
  have hk : k < n := by omega
  have st := gt_strf.mp (show g_strf (j_fg M f n) ((px, py) : gt_P).1 ((px, py) : gt_P).2 k = true from at_)
  rw [ln] at st
  have hnx := g_nx_lt (n := n) hk
  rw [s_w (x := (k : Int) + 1) (by omega) (by omega), g_nx_mod hk, s_w (x := (f : Int) + (g_nx n k : Nat)) (by omega) (by omega)]
  refine ⟨by omega, fun y2 e2 => ?_⟩
  subst e2
  rw [show ((f : Int) + ((g_nx n k : Nat) : Int)).toNat = f + g_nx n k by omega]
  refine ⟨by omega, fun M3 e3 => ⟨by omega, fun M4 e4 => ?_⟩⟩
  have pq : (M 4480 (f + g_nx n k), M 4481 (f + g_nx n k)) = g_pt (j_fg M f n) (g_nx n k) := (j_fg_at hnx).symm
  have lq := g_pt_b fb (g_nx n k)
  have q1 := fun h M' => q1 k h M' hk st.1 st.2
  generalize g_pt (j_fg M f n) (g_nx n k) = q at *
  rw [e3, e_up_row (by omega)] at e4
  refine s_up (σ := e_M) (P := fun dd i N => WX12_along_56 Q dd g m px py i N) (n := (m : Int)) (i0 := 0) (s := M4) (fun i N => ∃ h : gt_P, ((∀ b, b ≠ 4456 → N b = M b) ∧ (∀ j, j ≠ 47 → j ≠ 48 → N 4456 j = M 4456 j) ∧ N 4456 47 = h.1 ∧ N 4456 48 = h.2) ∧ gt_O (px, py) q h ∧ (h = q ∨ (h ∈ j_fg M g m ∧ h ≠ (px, py))) ∧ s_lp h ∧ ∀ j : Nat, (j : Int) < i → g_pt (j_fg M g m) j ≠ (px, py) → gt_O (px, py) h (g_pt (j_fg M g m) j) → g_pt (j_fg M g m) j = h) (by omega) ⟨q, ⟨fun b hb => by rw [e4, e_up_row hb, e_up_row hb], fun j j1 j2 => by rw [e4, e_up_ne (by omega), e_up_ne (by omega)], ?_, ?_⟩, gt_O_r, Or.inl rfl, lq, fun j hj => by omega⟩ ?_ ?_
  · rw [e4, e_up_ne (by omega), e_up_eq]; exact congrArg Prod.fst pq
  · rw [e4, e_up_eq]; exact congrArg Prod.snd pq
  · intro d N ⟨h, ⟨n1, n2, n3, n4⟩, oh, hh, lh, hI⟩
    unfold WX12_along_56 VX12_along_56
    refine ⟨fun _ => q1 h N oh hh (fun c hc nc oc => ?_) lh n1 n2 n3 n4, fun z => by omega⟩
    obtain ⟨j, e⟩ := List.mem_iff_getElem?.mp hc
    have hj := (List.getElem?_eq_some_iff.mp e).1
    have ej : g_pt (j_fg M g m) j = c := by unfold g_pt; rw [e]; rfl
    rw [j_fg_len] at hj
    rw [← ej] at nc oc ⊢
    exact hI j (by omega) nc oc
  · intro d i N i0 i1 ⟨h, ⟨n1, n2, n3, n4⟩, oh, hh, lh, hI⟩ ih
    obtain ⟨j, ej⟩ : ∃ j : Nat, i = j := ⟨i.toNat, by omega⟩
    subst ej
    have hj : j < m := by omega
    have pc : (M 4480 (g + j), M 4481 (g + j)) = g_pt (j_fg M g m) j := (j_fg_at hj).symm
    have lc := g_pt_b gb j
    have mc : g_pt (j_fg M g m) j ∈ j_fg M g m := gt_pt_mem (by rw [j_fg_len]; exact hj)
    have k142 : ∀ N', (∃ h : gt_P, ((∀ b, b ≠ 4456 → N' b = M b) ∧ (∀ j, j ≠ 47 → j ≠ 48 → N' 4456 j = M 4456 j) ∧ N' 4456 47 = h.1 ∧ N' 4456 48 = h.2) ∧ gt_O (px, py) q h ∧ (h = q ∨ (h ∈ j_fg M g m ∧ h ≠ (px, py))) ∧ s_lp h ∧ ∀ j' : Nat, (j' : Int) < (j : Int) + 1 → g_pt (j_fg M g m) j' ≠ (px, py) → gt_O (px, py) h (g_pt (j_fg M g m) j') → g_pt (j_fg M g m) j' = h) → WX12_along_142 (WX12_along_56 Q d) Q g m px py j N' := fun N' hN => by
      unfold WX12_along_142 VX12_along_142
      rw [s_w (by omega) (by omega)]
      exact ih N' hN
    have keep : (g_pt (j_fg M g m) j ≠ (px, py) → ¬ gt_O (px, py) h (g_pt (j_fg M g m) j)) → WX12_along_142 (WX12_along_56 Q d) Q g m px py j N := fun no => k142 N ⟨h, ⟨n1, n2, n3, n4⟩, oh, hh, lh, fun j' h1 h2 h3 => by
      by_cases c : j' = j
      · rw [c] at h2 h3; exact absurd h3 (no h2)
      · exact hI j' (by omega) h2 h3⟩
    unfold WX12_along_56 VX12_along_56
    rw [s_w (x := (g : Int) + (j : Int)) (by omega) (by omega), show ((g : Int) + (j : Int)).toNat = g + j by omega, n1 4480 (by omega), n1 4481 (by omega)]
    have c1 : M 4480 (g + j) = (g_pt (j_fg M g m) j).1 := congrArg Prod.fst pc
    have c2 : M 4481 (g + j) = (g_pt (j_fg M g m) j).2 := congrArg Prod.snd pc
    rw [c1, c2]
    generalize hC : g_pt (j_fg M g m) j = C at *
    have k99 : C ≠ (px, py) → WX12_along_99 (WX12_along_56 Q d) Q g m px py j C.1 C.2 N := fun nc => by
      unfold WX12_along_99 VX12_along_99
      rw [n3, n4]
      refine m_lies2 (a := (px, py)) (b := h) (c := C) ⟨rfl, rfl, rfl⟩ lv lh lc (fun o => ⟨fun _ => fun M2 e2 M3 e3 => ?_, fun z => absurd z (by decide)⟩) (fun o => ⟨fun z => absurd rfl z, fun _ => keep (fun _ z => ?_)⟩)
      · have oc := gt_gO.mp o
        refine k142 M3 ⟨C, ⟨fun b hb => by rw [e3, e_up_row hb, e2, e_up_row hb]; exact n1 b hb, fun j' j1 j2 => by rw [e3, e_up_ne (by omega), e2, e_up_ne (by omega)]; exact n2 j' j1 j2, by rw [e3, e_up_ne (by omega), e2, e_up_eq], by rw [e3, e_up_eq]⟩, gt_O_tr oh oc, Or.inr ⟨mc, nc⟩, lc, fun j' h1 h2 h3 => ?_⟩
        by_cases c : (j' : Int) < j
        · have e := hI j' c h2 (gt_O_tr oc h3)
          rw [e] at h3 ⊢
          exact (gt_O_anti oc h3).symm
        · have : j' = j := by omega
          rw [this]; exact hC
      · rw [gt_gO.mpr z] at o
        cases o
    refine ⟨fun z => by omega, fun _ => ⟨by omega, by omega, fun ne => k99 (fun e => ne (congrArg Prod.fst e)), fun e1 => ⟨fun e2 => keep (fun nc => absurd (Prod.ext e1 e2) nc), fun ne => k99 (fun e => ne (congrArg Prod.snd e))⟩⟩⟩
/-- a row of corners in the model's arrays, the rest as it was -/
def j_rfr (B N : e_M) (f n : Nat) : Prop := (∀ b, b ≠ 4480 → b ≠ 4481 → N b = B b) ∧ ∀ j, (j < f ∨ f + n ≤ j) → N 4480 j = B 4480 j ∧ N 4481 j = B 4481 j
theorem j_rfr_r {B : e_M} {f n : Nat} : j_rfr B B f n := ⟨fun _ _ _ => rfl, fun _ _ => ⟨rfl, rfl⟩⟩
theorem j_rfr_t {B N N' : e_M} {f n : Nat} (h : j_rfr B N f n) (k : j_rfr N N' f n) : j_rfr B N' f n := ⟨fun b b1 b2 => (k.1 b b1 b2).trans (h.1 b b1 b2), fun j hj => ⟨(k.2 j hj).1.trans (h.2 j hj).1, (k.2 j hj).2.trans (h.2 j hj).2⟩⟩
theorem j_rfr_le {B N : e_M} {f n f2 n2 : Nat} (h : j_rfr B N f n) (h1 : f2 ≤ f) (h2 : f + n ≤ f2 + n2) : j_rfr B N f2 n2 := ⟨h.1, fun j hj => h.2 j (by omega)⟩
theorem j_fg_e {M : e_M} {f n : Nat} {l : s_Fig} (hl : l.length = n) (h : ∀ k, k < n → l[k]? = some (M 4480 (f + k), M 4481 (f + k))) : j_fg M f n = l := by
  refine List.ext_getElem? (fun k => ?_)
  by_cases c : k < n
  · rw [j_fg_nat c, h k c]
  · rw [List.getElem?_eq_none (by rw [j_fg_len]; omega), List.getElem?_eq_none (by omega)]
theorem j_fgb_e {M : e_M} {f n : Nat} (h : s_fb (j_fg M f n)) : j_fgb M f n := fun k hk => by
  have := h _ (List.mem_of_getElem? (j_fg_nat (M := M) (f := f) hk))
  exact this
theorem m_tidy_low {M : e_M} {f n : Nat} {Q : Int → e_M → Prop} (h0 : 0 < n) (hf : f + n ≤ 4800) (hq : ∀ N, j_rfr M N f n → j_fg N f n = (j_fg M f n).drop (g_low (j_fg M f n) (n - 1)) ++ (j_fg M f n).take (g_low (j_fg M f n) (n - 1)) → Q n N) : ∃ j, WX12_tidy_191 Q j f n 0 1 M := by
  have ln : (j_fg M f n).length = n := j_fg_len
  have ll : g_low (j_fg M f n) (n - 1) < n := by
    have := g_low_le (R := j_fg M f n) (k := n - 1)
    omega
  -- the turns
  have k273 : ∀ low : Nat, low = g_low (j_fg M f n) (n - 1) → ∃ j, WX12_tidy_273 Q j f n low 0 M := by
    intro low el
    rw [← el] at hq ll
    refine s_up (σ := e_M) (P := fun dd r N => WX12_tidy_273 Q dd f n low r N) (n := (low : Int)) (i0 := 0) (s := M) (fun r N => j_rfr M N f n ∧ ∀ k : Nat, k < n → N 4480 (f + k) = M 4480 (f + g_ro n r.toNat k) ∧ N 4481 (f + k) = M 4481 (f + g_ro n r.toNat k)) (by omega) ⟨j_rfr_r, fun k hk => by
      have : g_ro n 0 k = k := by unfold g_ro; rw [if_pos (by omega)]; omega
      rw [show (0 : Int).toNat = 0 from rfl, this]; exact ⟨rfl, rfl⟩⟩ ?_ ?_
    · intro d N ⟨i1, i2⟩
      unfold WX12_tidy_273 VX12_tidy_273
      refine ⟨fun _ => hq N i1 (j_fg_e (by rw [List.length_append, List.length_drop, List.length_take, ln]; omega) (fun k hk => ?_)), fun z => by omega⟩
      have e := i2 k hk
      rw [show ((low : Nat) : Int).toNat = low from rfl] at e
      rw [e.1, e.2]
      unfold g_ro
      by_cases c : low + k < n
      · rw [if_pos c, List.getElem?_append_left (by rw [List.length_drop, ln]; omega), List.getElem?_drop]
        exact j_fg_nat c
      · rw [if_neg c, List.getElem?_append_right (by rw [List.length_drop, ln]; omega), List.length_drop, ln, List.getElem?_take, if_pos (by omega), show k - (n - low) = low + k - n by omega]
        exact j_fg_nat (by omega)
    · intro d r' N r0 r1 ⟨i1, i2⟩ ih
      obtain ⟨r, er⟩ : ∃ r : Nat, r' = r := ⟨r'.toNat, by omega⟩
      subst er
      have i2 : ∀ k : Nat, k < n → N 4480 (f + k) = M 4480 (f + g_ro n r k) ∧ N 4481 (f + k) = M 4481 (f + g_ro n r k) := i2
      unfold WX12_tidy_273 VX12_tidy_273
      refine ⟨fun z => by omega, fun _ => ⟨by omega, by omega, ?_⟩⟩
      rw [show ((f : Nat) : Int).toNat = f from rfl]
      show ∃ j, WX12_tidy_299 (WX12_tidy_273 Q d) Q j f n low r (N 4480 f) (N 4481 f) 0 N
      refine s_up (σ := e_M) (P := fun dd i N' => WX12_tidy_299 (WX12_tidy_273 Q d) Q dd f n low r (N 4480 f) (N 4481 f) i N') (n := (n : Int) - 1) (i0 := 0) (s := N) (fun i N' => j_rfr N N' f n ∧ ∀ k : Nat, k < n → N' 4480 (f + k) = (if (k : Int) < i then N 4480 (f + (k + 1)) else N 4480 (f + k)) ∧ N' 4481 (f + k) = (if (k : Int) < i then N 4481 (f + (k + 1)) else N 4481 (f + k))) (by omega) ⟨j_rfr_r, fun k hk => by rw [if_neg (by omega), if_neg (by omega)]; exact ⟨rfl, rfl⟩⟩ ?_ ?_
      · intro d2 N' ⟨u1, u2⟩
        unfold WX12_tidy_299 VX12_tidy_299
        rw [s_w (x := (n : Int) - 1) (by omega) (by omega), s_w (x := (f : Int) + (n : Int)) (by omega) (by omega), s_w (x := (f : Int) + (n : Int) - 1) (by omega) (by omega), show ((f : Int) + (n : Int) - 1).toNat = f + (n - 1) by omega]
        refine ⟨fun _ => ⟨by omega, fun M1 e1 => ⟨by omega, fun M2 e2 => ?_⟩⟩, fun z => by omega⟩
        rw [s_w (by omega) (by omega)]
        have c0 : ∀ j, M2 4480 j = if j = f + (n - 1) then N 4480 f else N' 4480 j := fun j => by rw [e2, e_up_row (by omega), e1, e_up_at]
        have c1 : ∀ j, M2 4481 j = if j = f + (n - 1) then N 4481 f else N' 4481 j := fun j => by rw [e2, e_up_at, e1, e_up_row (by omega)]
        have fr : j_rfr N M2 f n := ⟨fun b b1 b2 => by rw [e2, e_up_row b2, e1, e_up_row b1]; exact u1.1 b b1 b2, fun j hj => by
          rw [c0, c1, if_neg (by omega), if_neg (by omega)]; exact u1.2 j hj⟩
        refine ih M2 ⟨j_rfr_t i1 fr, fun k hk => ?_⟩
        rw [show ((r : Int) + 1).toNat = r + 1 by omega, c0, c1]
        by_cases c : k = n - 1
        · subst c
          rw [if_pos rfl, if_pos rfl]
          have := i2 0 h0
          rw [Nat.add_zero] at this
          rw [this.1, this.2]
          have : g_ro n r 0 = g_ro n (r + 1) (n - 1) := by unfold g_ro; rw [if_pos (by omega), if_neg (by omega)]; omega
          rw [this]; exact ⟨rfl, rfl⟩
        · rw [if_neg (by omega), if_neg (by omega), (u2 k hk).1, (u2 k hk).2, if_pos (by omega), if_pos (by omega), (i2 (k + 1) (by omega)).1, (i2 (k + 1) (by omega)).2]
          have : g_ro n r (k + 1) = g_ro n (r + 1) k := by unfold g_ro; rw [show r + (k + 1) = r + 1 + k by omega]
          rw [this]; exact ⟨rfl, rfl⟩
      · intro d2 i' N' a0 a1 ⟨u1, u2⟩ ih2
        obtain ⟨i, ei⟩ : ∃ i : Nat, i' = i := ⟨i'.toNat, by omega⟩
        subst ei
        unfold WX12_tidy_299 VX12_tidy_299
        rw [s_w (x := (n : Int) - 1) (by omega) (by omega), s_w (x := (f : Int) + (i : Int)) (by omega) (by omega), s_w (x := (f : Int) + (i : Int) + 1) (by omega) (by omega), show ((f : Int) + (i : Int)).toNat = f + i by omega, show ((f : Int) + (i : Int) + 1).toNat = f + (i + 1) by omega]
        refine ⟨fun z => by omega, fun _ => ⟨by omega, by omega, fun M3 e3 => ⟨by omega, by omega, fun M4 e4 => ?_⟩⟩⟩
        rw [s_w (by omega) (by omega)]
        rw [e3, e_up_row (show 4481 ≠ 4480 by omega)] at e4
        have c0 : ∀ j, M4 4480 j = if j = f + i then N' 4480 (f + (i + 1)) else N' 4480 j := fun j => by rw [e4, e_up_row (by omega), e_up_at]
        have c1 : ∀ j, M4 4481 j = if j = f + i then N' 4481 (f + (i + 1)) else N' 4481 j := fun j => by rw [e4, e_up_at, e_up_row (by omega)]
        refine ih2 M4 ⟨⟨fun b b1 b2 => by rw [e4, e_up_row b2, e_up_row b1]; exact u1.1 b b1 b2, fun j hj => by
          rw [c0, c1, if_neg (by omega), if_neg (by omega)]; exact u1.2 j hj⟩, fun k hk => ?_⟩
        rw [c0, c1]
        by_cases c : k = i
        · subst c
          rw [if_pos rfl, if_pos rfl, if_pos (by omega), if_pos (by omega), (u2 (k + 1) (by omega)).1, (u2 (k + 1) (by omega)).2, if_neg (by omega), if_neg (by omega)]
          exact ⟨rfl, rfl⟩
        · rw [if_neg (show ¬ f + k = f + i by omega), if_neg (show ¬ f + k = f + i by omega), (u2 k hk).1, (u2 k hk).2]
          by_cases c2 : (k : Int) < i
          · rw [if_pos c2, if_pos c2, if_pos (show (k : Int) < (i : Int) + 1 by omega), if_pos (show (k : Int) < (i : Int) + 1 by omega)]; exact ⟨rfl, rfl⟩
          · rw [if_neg c2, if_neg c2, if_neg (show ¬ (k : Int) < (i : Int) + 1 by omega), if_neg (show ¬ (k : Int) < (i : Int) + 1 by omega)]; exact ⟨rfl, rfl⟩
  -- the lowest
  refine s_up (σ := Nat) (P := fun dd i low => WX12_tidy_191 Q dd f n (low : Int) i M) (n := (n : Int)) (i0 := 1) (s := 0) (fun i low => low = g_low (j_fg M f n) (i.toNat - 1)) (by omega) rfl ?_ ?_
  · intro d low hI
    unfold WX12_tidy_191 VX12_tidy_191
    exact ⟨fun _ => k273 low (by rw [hI, show ((n : Nat) : Int).toNat = n from rfl]), fun z => by omega⟩
  · intro d i' low i0 i1 hI ih
    obtain ⟨i, ei⟩ : ∃ i : Nat, i' = i := ⟨i'.toNat, by omega⟩
    subst ei
    have hI : low = g_low (j_fg M f n) (i - 1) := hI
    have lw : low < n := by
      have := g_low_le (R := j_fg M f n) (k := i - 1)
      omega
    have e1 : g_low (j_fg M f n) i = if g_lo (j_fg M f n) i low = true then i else low := by
      have : i = (i - 1) + 1 := by omega
      rw [this]
      show (if g_lo (j_fg M f n) (i - 1 + 1) (g_low (j_fg M f n) (i - 1)) = true then i - 1 + 1 else g_low (j_fg M f n) (i - 1)) = _
      rw [← hI]
    have lo : g_lo (j_fg M f n) i low = (decide (M 4481 (f + i) < M 4481 (f + low)) || (decide (M 4481 (f + i) = M 4481 (f + low)) && decide (M 4480 (f + i) < M 4480 (f + low)))) := by
      unfold g_lo
      rw [j_fg_at (by omega), j_fg_at lw]
    have k264 : ∀ w : Nat, w = g_low (j_fg M f n) i → WX12_tidy_264 (WX12_tidy_191 Q d) Q f n w i M := fun w ew => by
      unfold WX12_tidy_264 VX12_tidy_264
      rw [s_w (by omega) (by omega)]
      exact ih w (by rw [ew, show ((i : Int) + 1).toNat - 1 = i by omega])
    have yes : g_lo (j_fg M f n) i low = true → WX12_tidy_260 (WX12_tidy_191 Q d) Q f n i M := fun e => k264 i (by rw [e1, if_pos e])
    have no : g_lo (j_fg M f n) i low = false → WX12_tidy_264 (WX12_tidy_191 Q d) Q f n low i M := fun e => k264 low (by rw [e1, if_neg (by rw [e]; simp)])
    rw [lo] at yes no
    unfold WX12_tidy_191 VX12_tidy_191
    rw [s_w (x := (f : Int) + (i : Int)) (by omega) (by omega), s_w (x := (f : Int) + (low : Int)) (by omega) (by omega), show ((f : Int) + (i : Int)).toNat = f + i by omega, show ((f : Int) + (low : Int)).toNat = f + low by omega]
    refine ⟨fun z => by omega, fun _ => ⟨by omega, by omega, fun lt => yes (by rw [decide_eq_true lt]; rfl), fun ge => ⟨by omega, by omega, fun ne => no (by rw [decide_eq_false (by omega), decide_eq_false ne]; rfl), fun eq => ⟨by omega, by omega, fun ge2 => no (by rw [decide_eq_false (by omega), decide_eq_false (show ¬ M 4480 (f + i) < M 4480 (f + low) by omega), Bool.and_false]; rfl), fun lt2 => yes (by rw [decide_eq_true eq, decide_eq_true lt2, Bool.true_and, Bool.or_true])⟩⟩⟩⟩
