/-! the LAND is parted by the FIGURES of the LOTS that are there -/
def H_l (F : s_Fig) : Prop := gt_fig F ∧ s_fb F ∧ F.length ≤ 40 ∧ ∀ x ∈ F, ¬ gt_lo x (g_pt F 0)
def h_land : s_Fig := [(0, 0), (1000, 0), (1000, 1000), (0, 1000)]
def H_tm (c : gt_P → gt_P → Int) (S : w_S) (i : Nat) : Int := if (S.2.1 i).1 1 = 0 then gt_sm c (gt_ed (S.2.1 i).2.1) else 0
def H_fig (S : w_S) : Prop := 0 ≤ S.1 0 ∧ (∀ i : Nat, (i : Int) < S.1 0 → H_l (S.2.1 i).2.1) ∧ ∀ c, gt_cc c → g_sum (H_tm c S) (S.1 0).toNat = gt_sm c (gt_ed h_land)
def H_eq (S S' : w_S) : Prop := S'.1 0 = S.1 0 ∧ ∀ i : Nat, (S'.2.1 i).2.1 = (S.2.1 i).2.1 ∧ (S'.2.1 i).1 1 = (S.2.1 i).1 1
theorem Ge_refl {S : w_S} : H_eq S S := ⟨rfl, fun _ => ⟨rfl, rfl⟩⟩
theorem Ge_trans {S S' S2 : w_S} (h : H_eq S S') (k : H_eq S' S2) : H_eq S S2 := ⟨k.1.trans h.1, fun i => ⟨(k.2 i).1.trans (h.2 i).1, (k.2 i).2.trans (h.2 i).2⟩⟩
theorem H_of {S S' : w_S} (h : H_fig S) (e : H_eq S S') : H_fig S' := by
  obtain ⟨h1, h2, h3⟩ := h
  refine ⟨by rw [e.1]; exact h1, fun i hi => ?_, fun c hc => ?_⟩
  · rw [(e.2 i).1]
    exact h2 i (by rw [e.1] at hi; exact hi)
  · rw [e.1, ← h3 c hc]
    refine gt_gs_cg (fun i _ => ?_)
    unfold H_tm
    rw [(e.2 i).1, (e.2 i).2]
theorem Ge_setL {S : w_S} {i : Nat} {l : w_L} (h1 : l.2.1 = (S.2.1 i).2.1) (h2 : l.1 1 = (S.2.1 i).1 1) : H_eq S (w_setL S i l) := by
  refine ⟨rfl, fun j => ?_⟩
  show (s_fu S.2.1 i l j).2.1 = _ ∧ (s_fu S.2.1 i l j).1 1 = _
  unfold s_fu
  by_cases c : j = i
  · rw [if_pos c, c]; exact ⟨h1, h2⟩
  · rw [if_neg c]; exact ⟨rfl, rfl⟩
theorem Ge_chg {S : w_S} {i : Nat} {r : List Int} : H_eq S (w_chg S i r) := Ge_setL rfl rfl
theorem Ge_ows {S : w_S} {i : Nat} {o : s_Own} : H_eq S (w_ows S i o) := Ge_setL rfl rfl
theorem Ge_lpt {S : w_S} {i k : Nat} {v : Int} (hk : k ≠ 1) : H_eq S (w_lpt S i k v) := Ge_setL rfl (s_fu_ne (by omega))
theorem Ge_put {S : w_S} {j k : Nat} {v : Int} : H_eq S (w_put S j k v) := ⟨rfl, fun _ => ⟨rfl, rfl⟩⟩
theorem Ge_lts {S : w_S} {j : Nat} {r : List Int} : H_eq S (w_lts S j r) := ⟨rfl, fun _ => ⟨rfl, rfl⟩⟩
theorem Ge_map {S : w_S} {lo hi : Nat} {f : Nat → w_T → w_T} : H_eq S (w_map S lo hi f) := ⟨rfl, fun _ => ⟨rfl, rfl⟩⟩
theorem Ge_addT {S : w_S} {s : Nat} {t : w_T} (hs : s ≠ 0) : H_eq S (w_addT S s t) := ⟨s_fu_ne (by omega), fun _ => ⟨rfl, rfl⟩⟩
theorem Ge_hs {S : w_S} {dead : Int} {r : Nat → Int} {ps : List (Int × Int)} {k : Nat} : H_eq S (w_hs S dead r ps k) := by
  refine ⟨rfl, fun i => ?_⟩
  show (if i < k then (match l_heir (S.2.1 i) dead r ps with | some o => ((S.2.1 i).1, (S.2.1 i).2.1, (S.2.1 i).2.2.1, o) | none => S.2.1 i) else S.2.1 i).2.1 = _ ∧ (if i < k then (match l_heir (S.2.1 i) dead r ps with | some o => ((S.2.1 i).1, (S.2.1 i).2.1, (S.2.1 i).2.2.1, o) | none => S.2.1 i) else S.2.1 i).1 1 = _
  split
  · cases l_heir (S.2.1 i) dead r ps with
    | none => exact ⟨rfl, rfl⟩
    | some o => exact ⟨rfl, rfl⟩
  · exact ⟨rfl, rfl⟩
theorem Ge_dels {c : Int} : ∀ {ls : List Int} {S : w_S}, H_eq S (w_dels S c ls)
  | [], _ => Ge_refl
  | l :: ls, S => Ge_trans (Ge_chg (S := S) (i := l.toNat) (r := r_del (S.2.1 l.toNat).2.2.1 c)) (Ge_dels (ls := ls))
theorem Ge_endc {S : w_S} {c : Nat} : H_eq S (w_endc S c) := Ge_trans (Ge_trans Ge_dels Ge_lts) Ge_put
theorem Ge_leave {S : w_S} {j : Nat} {l : Int} : H_eq S (w_leave S j l) := by
  unfold w_leave
  split
  · exact Ge_trans Ge_lts Ge_put
  · exact Ge_lts
theorem Ge_free {S : w_S} {l c : Nat} : H_eq S (w_free S l c) := Ge_trans Ge_chg Ge_leave
theorem Ge_chst {J : Nat} {c : Int} : ∀ {ls : List Int} {S : w_S}, H_eq S (ls.foldl (w_chst J c) S)
  | [], _ => Ge_refl
  | l :: ls, S => Ge_trans (Ge_trans (Ge_lts (S := S) (j := J) (r := r_add (S.2.2.1 J).2.1 l)) Ge_chg) (Ge_chst (ls := ls))
theorem Ge_charge {S : w_S} {called d at_ who num : Int} {ls : List Int} : H_eq S (w_charge S called d at_ who num ls) := Ge_trans (Ge_addT (by omega)) Ge_chst
theorem Ge_auc {l f : Nat} : ∀ {k : Nat} {S : w_S} {left : Int}, H_eq S (w_auc l f k S left)
  | 0, _, _ => Ge_refl
  | k + 1, S, left => by
    unfold w_auc
    split
    · exact Ge_refl
    · refine Ge_trans ?_ (Ge_auc (k := k))
      split
      · exact Ge_trans (Ge_trans Ge_put Ge_free) Ge_endc
      · exact Ge_trans Ge_put Ge_free
theorem Ge_auction {S : w_S} {l f : Nat} {p num made : Int} : H_eq S (w_auction S l f p num made) := Ge_trans (Ge_trans (Ge_trans Ge_ows (Ge_lpt (by omega))) Ge_auc) Ge_map
/-- a sum with some of it changed -/
theorem H_sum1 {f g : Nat → Int} {n l : Nat} (hl : l < n) (h : ∀ i, i < n → i ≠ l → g i = f i) : g_sum g n = g_sum f n - f l + g l := by
  induction n with
  | zero => omega
  | succ n ih =>
    show g_sum g n + g n = g_sum f n + f n - f l + g l
    by_cases c : l = n
    · subst c
      rw [gt_gs_cg (f := g) (g := f) (fun i hi => h i (by omega) (by omega))]
      omega
    · rw [ih (by omega) (fun i hi hne => h i (by omega) hne), h n (by omega) (fun z => c z.symm)]
      omega
theorem H_sum_pos {f : Nat → Int} {n i j : Nat} (h : ∀ k, k < n → 0 ≤ f k) (hi : i < n) (hj : j < n) (hij : i ≠ j) : f i + f j ≤ g_sum f n := by
  have e1 := H_sum1 (f := f) (g := s_fu f i 0) hi (fun k _ hne => s_fu_ne hne)
  have e2 := H_sum1 (f := s_fu f i 0) (g := s_fu (s_fu f i 0) j 0) hj (fun k _ hne => s_fu_ne hne)
  have p : 0 ≤ g_sum (s_fu (s_fu f i 0) j 0) n := (gt_gs_pos (fun k hk => by
    by_cases c : k = j
    · rw [c, s_fu_eq]; omega
    · rw [s_fu_ne c]
      by_cases c2 : k = i
      · rw [c2, s_fu_eq]; omega
      · rw [s_fu_ne c2]; exact h k hk)).1
  rw [s_fu_eq] at e1 e2
  rw [s_fu_ne (fun z => hij z.symm)] at e2
  omega
theorem h_land_fig : gt_fig h_land := by
  have sm : gt_smp h_land := by
    refine gt_smp_mk (by decide) (by decide) (fun e he f hf ne => ?_)
    have he : e ∈ [(((0, 0) : gt_P), ((1000, 0) : gt_P)), ((1000, 0), (1000, 1000)), ((1000, 1000), (0, 1000)), ((0, 1000), (0, 0))] := he
    have hf : f ∈ [(((0, 0) : gt_P), ((1000, 0) : gt_P)), ((1000, 0), (1000, 1000)), ((1000, 1000), (0, 1000)), ((0, 1000), (0, 0))] := hf
    simp only [List.mem_cons, List.not_mem_nil, or_false] at he hf
    rcases he with rfl | rfl | rfl | rfl <;> rcases hf with rfl | rfl | rfl | rfl
    all_goals first
      | exact absurd rfl ne
      | (refine ⟨fun n1 n2 m => ?_, fun q s => ?_⟩
         · first
             | exact absurd rfl n1
             | exact absurd rfl n2
             | (unfold gt_M gt_mt gt_on g_turn at m; dsimp only at m; omega)
         · first
             | (exfalso; revert q; decide)
             | (unfold gt_sd gt_x gt_d at s; dsimp only at s; omega))
  exact ⟨sm, by decide, by decide⟩
/-- of two LOTS that are there: nothing lies in both -/
theorem H_dj {S : w_S} (h : H_fig S) {a b : Nat} (ha : (a : Int) < S.1 0) (hb : (b : Int) < S.1 0) (la : (S.2.1 a).1 1 = 0) (lb : (S.2.1 b).1 1 = 0) (hab : a ≠ b) : gt_dj (S.2.1 a).2.1 (S.2.1 b).2.1 := by
  obtain ⟨h1, h2, h3⟩ := h
  have one : ∀ (K : Int) (z : gt_P) (tr : gt_P → gt_P), 0 < K → (∀ F, gt_fig F → gt_fig (F.map tr)) → gt_cc (fun a b => gt_c z (gt_g K (tr a)) (gt_g K (tr b))) → gt_w (((S.2.1 a).2.1.map tr).map (gt_g K)) z + gt_w (((S.2.1 b).2.1.map tr).map (gt_g K)) z ≤ 1 := by
    intro K z tr hK htr hcc
    have e := h3 _ hcc
    have wsm : ∀ F : List gt_P, gt_w ((F.map tr).map (gt_g K)) z = gt_sm (fun a b => gt_c z (gt_g K (tr a)) (gt_g K (tr b))) (gt_ed F) := fun F => by
      rw [gt_w_sm, gt_ed_map, gt_ed_map, gt_sm_map, gt_sm_map]
    have ld := gt_fig_w (htr _ h_land_fig) hK z
    rw [wsm] at ld
    have pos : ∀ k, k < (S.1 0).toNat → 0 ≤ H_tm (fun a b => gt_c z (gt_g K (tr a)) (gt_g K (tr b))) S k := fun k hk => by
      unfold H_tm
      split
      · have := gt_fig_w (htr _ (h2 k (by omega)).1) hK z
        rw [wsm] at this
        omega
      · omega
    have s := H_sum_pos pos (show a < (S.1 0).toNat by omega) (show b < (S.1 0).toNat by omega) hab
    rw [e] at s
    unfold H_tm at s
    rw [if_pos la, if_pos lb, ← wsm, ← wsm] at s
    omega
  have mid : ∀ F : List gt_P, F.map (fun p => p) = F := fun F => List.map_id' F
  intro K z hK
  constructor
  · have := one K z (fun p => p) hK (fun F hF => by rw [mid]; exact hF) (gt_cc_g (gt_cc_c z) hK)
    rw [mid, mid] at this
    exact this
  · exact one K z gt_n hK (fun F hF => gt_n_fig hF) (gt_cc_n (gt_cc_g (gt_cc_c z) hK))
theorem H_pr {F G : s_Fig} (hF : gt_fig F) (hG : gt_fig G) (lF : F.length ≤ 40) (lG : G.length ≤ 40) (dj : gt_dj F G) : gt_pr (gt_aug F G) (gt_aug G F) := by
  obtain ⟨a1, a2, a3, a4, a5⟩ := gt_aug_all hF lG
  obtain ⟨b1, b2, b3, b4, b5⟩ := gt_aug_all hG lF
  have ne : ∀ {F A : List gt_P}, gt_fig F → gt_ref F A → gt_fig A := fun {F A} h r => by
    refine ⟨r.1, fun z => ?_, by rw [r.2.1]; exact h.2.2⟩
    obtain ⟨v, b, c, l, e⟩ := gt_smp_3 h.1 h.2.1
    have := r.2.2.2.2 v (by rw [e]; exact List.mem_cons_self ..)
    rw [z] at this
    cases this
  refine ⟨⟨ne hF a1, ne hG b1⟩, gt_dj_ref dj a1 b1, fun e he c hc o => ?_, fun e he c hc o => ?_⟩
  · rcases b2 c hc with k | k
    · exact a3 e he c k o
    · exact gt_vtx a1.1 (a1.2.2.2.2 c k) he o
  · rcases a2 c hc with k | k
    · exact b3 e he c k o
    · exact gt_vtx b1.1 (b1.2.2.2.2 c k) he o
/-- what the class's close gives is a FIGURE as wanted -/
theorem H_cls {R : s_Fig} (h : gt_fig R) (b : s_fb R) (k : (g_cls R).length ≤ 40) : H_l (g_cls R) := by
  obtain ⟨c1, c2, c3, ⟨s, t, e1, e2⟩, v, r, e3, e4⟩ := gt_cls h
  refine ⟨c1, gt_cls_fb h b, k, fun x hx => ?_⟩
  have e0 : g_pt (g_cls R) 0 = v := by rw [e3]; rfl
  rw [e0]
  refine e4 x ?_
  rw [e2] at hx
  rw [e1]
  rcases List.mem_append.mp hx with z | z
  · exact List.mem_append.mpr (Or.inr (List.mem_filter.mp z).1)
  · exact List.mem_append.mpr (Or.inl (List.mem_filter.mp z).1)
/-- the raw borders lie in the LAND -/
theorem H_raw {F ps : s_Fig} (b : s_fb F) (hc : g_cut F ps) (hp : s_pb ps) : s_fb (g_rawL F ps) ∧ s_fb (g_rawR F ps) := by
  have lp : ∀ q ∈ ps, s_lp q := fun q hq => by
    obtain ⟨i, hi⟩ := List.mem_iff_getElem?.mp hq
    have il := (List.getElem?_eq_some_iff.mp hi).1
    have e : g_pt ps i = q := by unfold g_pt; rw [hi]; rfl
    have w := hc.2.1 i il
    rw [e] at w
    have bb := hp q hq
    exact g_where_lp b bb.1.1 bb.2.1 (fun z => by rw [z] at w; split at w <;> omega)
  constructor
  · intro q hq
    rcases List.mem_append.mp hq with z | z
    · exact lp q z
    · exact gt_bord_fb b q z
  · intro q hq
    rcases List.mem_append.mp hq with z | z
    · exact lp q (List.mem_reverse.mp z)
    · exact gt_bord_fb b q z
theorem H_jraw_fb {F G R : s_Fig} (hF : gt_fig F) (hG : gt_fig G) (fF : s_fb F) (fG : s_fb G) (lF : F.length ≤ 40) (lG : G.length ≤ 40) (h : gt_pr (gt_aug F G) (gt_aug G F)) (hR : g_jraw F G = some R) : s_fb R := by
  have w := (gt_jraw hF hG lF lG h).1 R hR
  obtain ⟨a1, a2, -⟩ := gt_aug_all hF lG
  obtain ⟨b1, b2, -⟩ := gt_aug_all hG lF
  intro q hq
  obtain ⟨b, hb⟩ := gt_out hq
  rcases gt_J_in (w.1.2.2 _ hb) with k | k
  · rcases a2 q (gt_ed_mem k).1 with z | z
    · exact fF q z
    · exact fG q z
  · rcases b2 q (gt_ed_mem k).1 with z | z
    · exact fG q z
    · exact fF q z
/-- the lowest corner of both -/
theorem H_lo {F G : s_Fig} (hF : gt_fig F) (hG : gt_fig G) (lF : F.length ≤ 40) (lG : G.length ≤ 40) (loF : ∀ x ∈ F, ¬ gt_lo x (g_pt F 0)) (loG : ∀ x ∈ G, ¬ gt_lo x (g_pt G 0)) : ∃ s, (s ∈ gt_aug F G ∨ s ∈ gt_aug G F) ∧ ∀ x, x ∈ gt_aug F G ∨ x ∈ gt_aug G F → ¬ gt_lo x s := by
  obtain ⟨a1, a2, -⟩ := gt_aug_all hF lG
  obtain ⟨b1, b2, -⟩ := gt_aug_all hG lF
  have mem : ∀ {F : s_Fig}, gt_fig F → g_pt F 0 ∈ F := fun {F} h => gt_pt_mem (List.length_pos_iff.mpr h.2.1)
  have inFG : ∀ v, v ∈ gt_aug F G ∨ v ∈ gt_aug G F → v ∈ F ∨ v ∈ G := fun v hv => by
    rcases hv with k | k
    · exact a2 v k
    · exact (b2 v k).symm
  by_cases c : (g_pt F 0).2 < (g_pt G 0).2 ∨ ((g_pt F 0).2 = (g_pt G 0).2 ∧ (g_pt F 0).1 ≤ (g_pt G 0).1)
  · refine ⟨g_pt F 0, Or.inl (a1.2.2.2.2 _ (mem hF)), fun x hx z => ?_⟩
    rcases inFG x hx with k | k
    · exact loF x k z
    · have := loG x k
      unfold gt_lo at this z
      omega
  · refine ⟨g_pt G 0, Or.inr (b1.2.2.2.2 _ (mem hG)), fun x hx z => ?_⟩
    rcases inFG x hx with k | k
    · have := loF x k
      unfold gt_lo at this z
      omega
    · exact loG x k z
theorem H_join {F G R : s_Fig} (gF : H_l F) (gG : H_l G) (h : gt_pr (gt_aug F G) (gt_aug G F)) (hR : g_jraw F G = some R) : gt_fig R ∧ s_fb R ∧ ∀ c, gt_cc c → gt_sm c (gt_ed R) = gt_sm c (gt_ed F) + gt_sm c (gt_ed G) := by
  obtain ⟨s, hs, lo⟩ := H_lo gF.1 gG.1 gF.2.2.1 gG.2.2.1 gF.2.2.2 gG.2.2.2
  have J := (gt_joins (N := 1000) gF.1 gG.1 gF.2.2.1 gG.2.2.1 (fun p hp => gF.2.1 p hp) (fun p hp => gG.2.1 p hp) h hs lo).1 R hR
  exact ⟨J.1.1, H_jraw_fb gF.1 gG.1 gF.2.1 gG.2.1 gF.2.2.1 gG.2.2.1 h hR, J.1.2⟩
