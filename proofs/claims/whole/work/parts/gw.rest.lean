/-! what FIGURES need is kept by SPLIT, JOIN and BORDER too -/
theorem r_ins_len2 {l : List Int} {k x : Int} : l.length ≤ (r_ins l k x).length := by
  unfold r_ins
  split
  · omega
  · rw [r_in_len]; omega
theorem r_ins_ne {l : List Int} {k x : Int} (h : 0 ≤ k ∧ k ≤ l.length) : (r_ins l k x).length ≠ 0 := by
  unfold r_ins
  split
  · omega
  · rw [r_in_len]; omega
theorem r_part_nd2 {l : List Int} {old a b : Int} (h : l.Nodup) (ha : 0 ≤ a → a ∉ l) (hb : 0 ≤ b → b ∉ l) (hab : a ≠ b ∨ a < 0 ∨ b < 0) : (r_part l old a b).Nodup := by
  unfold r_part
  split
  · exact h
  · dsimp only
    have n1 := r_del_nodup (x := old) h
    have n2 : (if b < 0 then r_del l old else r_ins (r_del l old) (r_find l old) b).Nodup := by
      split
      · exact n1
      · exact r_ins_nd n1 (fun z => hb (by omega) (r_del_sub z))
    by_cases c : a < 0
    · rw [if_pos c]; exact n2
    · rw [if_neg c]
      refine r_ins_nd n2 (fun z => ?_)
      split at z
      · exact ha (by omega) (r_del_sub z)
      · rcases r_ins_mem z with e | e
        · omega
        · exact ha (by omega) (r_del_sub e)
theorem r_pov_nd {l : List Int} {old a b : Int} {hL hR : Bool} (h : l.Nodup) (ha : a ∉ l) (hb : b ∉ l) (hab : a ≠ b) : (r_pov l old a b hL hR).Nodup := by
  unfold r_pov
  split
  · refine r_part_nd2 h (fun z => ?_) (fun z => ?_) ?_
    · split at z
      · next e => rw [if_pos e]; exact ha
      · omega
    · split at z
      · next e => rw [if_pos e]; exact hb
      · omega
    · by_cases e : hL = true
      · rw [if_pos e]
        by_cases f : hR = true
        · rw [if_pos f]; exact Or.inl hab
        · rw [if_neg f]; right; right; omega
      · rw [if_neg e]; right; left; omega
  · exact h
theorem r_pov_ne {l : List Int} {old a b : Int} {hL hR : Bool} (hm : old ∈ l) (hh : hL = true ∨ hR = true) (ha : 0 ≤ a) (hb : 0 ≤ b) : (r_pov l old a b hL hR).length ≠ 0 := by
  have ge := r_find_mem.mpr hm
  have lt := r_find_lt (l := l) (x := old)
  have dl : (r_del l old).length = l.length - 1 := by rw [r_del_len, if_pos hm]
  unfold r_pov
  rw [if_pos hm]
  unfold r_part
  rw [if_neg (by omega)]
  dsimp only
  by_cases e : hL = true
  · rw [if_pos e, if_neg (show ¬ a < 0 by omega)]
    generalize (if hR = true then b else (-1 : Int)) = B
    refine r_ins_ne ⟨ge, ?_⟩
    by_cases f : B < 0
    · rw [if_pos f]; omega
    · rw [if_neg f]
      have := r_ins_len2 (l := r_del l old) (k := r_find l old) (x := B)
      omega
  · have f : hR = true := hh.resolve_left e
    rw [if_neg e, if_pos (show (-1 : Int) < 0 by omega), if_pos f, if_neg (show ¬ b < 0 by omega)]
    exact r_ins_ne ⟨ge, by omega⟩
theorem r_pov_mem2 {l : List Int} {old a b y : Int} {hL hR : Bool} (h : y ∈ r_pov l old a b hL hR) : (y = a ∧ hL = true) ∨ (y = b ∧ hR = true) ∨ y ∈ l := by
  unfold r_pov at h
  split at h
  · rcases r_part_mem h with ⟨e, f⟩ | ⟨e, f⟩ | e
    · split at f
      · next g => rw [if_pos g] at e; exact Or.inl ⟨e, g⟩
      · omega
    · split at f
      · next g => rw [if_pos g] at e; exact Or.inr (Or.inl ⟨e, g⟩)
      · omega
    · exact Or.inr (Or.inr e)
  · exact Or.inr (Or.inr h)
theorem hold_cover {F A B ps : s_Fig} (hF : gt_fig F) (hA : gt_fig A) (hB : gt_fig B) (sm : ∀ c, gt_cc c → gt_sm c (gt_ed A) + gt_sm c (gt_ed B) = gt_sm c (gt_ed F)) (h : g_hold F ps = true) : g_hold A ps = true ∨ g_hold B ps = true := by
  obtain ⟨q, hq, w⟩ := g_hold_iff.mp h
  rcases gt_cover hF hA hB sm w with k | k
  · exact Or.inl (g_hold_iff.mpr ⟨q, hq, k⟩)
  · exact Or.inr (g_hold_iff.mpr ⟨q, hq, k⟩)
theorem hold_cover2 {F G R ps : s_Fig} (hF : gt_fig F) (hG : gt_fig G) (hR : gt_fig R) (sm : ∀ c, gt_cc c → gt_sm c (gt_ed R) = gt_sm c (gt_ed F) + gt_sm c (gt_ed G)) (h : g_hold F ps = true) : g_hold R ps = true := by
  obtain ⟨q, hq, w⟩ := g_hold_iff.mp h
  exact g_hold_iff.mpr ⟨q, hq, gt_cover2 hF hG hR sm w⟩
theorem HR_split {V : Nat → v_D} {S : w_S} {r : Nat → Int} {d : Nat} (h : H_fig S) (k : H_rest V S) (hz : R_z S) (hr : w_rg S) (hv : s_pb (V d).2.2.2.2) (h0 : x_in S r 0 0) : H_rest V (X_split V S r d).2 := by
  unfold X_split
  refine cP (p := fun X : Int × w_S => H_rest V X.2) (fun _ => k) (fun _ => cP (p := fun X : Int × w_S => H_rest V X.2) (fun _ => k) (fun _ => cP (p := fun X : Int × w_S => H_rest V X.2) (fun _ => k) (fun g => cP (p := fun X : Int × w_S => H_rest V X.2) (fun _ => k) (fun g2 => ?_))))
  have g := Classical.not_not.mp g
  obtain ⟨k1, k2, k3⟩ := k
  obtain ⟨l, el⟩ : ∃ l : Nat, r 0 = l := ⟨(r 0).toNat, by have := h0.1.1; omega⟩
  have tl : (r 0).toNat = l := by omega
  have hl : (l : Int) < S.1 0 := by have := h0.1.2; omega
  rw [tl] at g g2 ⊢
  rw [el] at g2 ⊢
  have HF : H_l (w_l S l).2.1 := h.2.1 l hl
  obtain ⟨gL, gR, sm⟩ := H_cutok HF g.1 hv g.2.1 g.2.2
  generalize g_cls (g_rawL (w_l S l).2.1 (V d).2.2.2.2) = L at *
  generalize g_cls (g_rawR (w_l S l).2.1 (V d).2.2.2.2) = R at *
  obtain ⟨n, en⟩ : ∃ n : Nat, S.1 0 = n := ⟨(S.1 0).toNat, by omega⟩
  have c78 : S.1 0 ≤ 78 := by
    have : ¬ 78 < S.1 0 := fun z => g2 (Or.inl z)
    omega
  have wlz : ∀ (X : w_S) (l k : Nat) (v : Int), (w_lpt X l k v).1 = X.1 := fun _ _ _ _ => rfl
  have ez : (w_addL S (l_mk ((V d).2.1 1) (w_l S l) L)).1 0 = S.1 0 + 1 := by rw [w_z_addL, if_pos rfl]
  have z1 := R_z_addL (x := l_mk ((V d).2.1 1) (w_l S l) L) hz (by omega)
  have z2 := R_z_addL (x := l_mk ((V d).2.1 2) (w_l S l) R) z1 (by omega)
  have lots : ∀ i, (w_lpt (w_addL (w_addL S (l_mk ((V d).2.1 1) (w_l S l) L)) (l_mk ((V d).2.1 2) (w_l S l) R)) l 1 1).2.1 i = if i = l then (s_fu (S.2.1 l).1 1 1, (S.2.1 l).2) else if i = n + 1 then l_mk ((V d).2.1 2) (w_l S l) R else if i = n then l_mk ((V d).2.1 1) (w_l S l) L else S.2.1 i := fun i => by
    have lo : ∀ i, (w_addL (w_addL S (l_mk ((V d).2.1 1) (w_l S l) L)) (l_mk ((V d).2.1 2) (w_l S l) R)).2.1 i = if i = n + 1 then l_mk ((V d).2.1 2) (w_l S l) R else if i = n then l_mk ((V d).2.1 1) (w_l S l) L else S.2.1 i := fun i => by
      show s_fu (s_fu S.2.1 (S.1 0).toNat _) ((w_addL S (l_mk ((V d).2.1 1) (w_l S l) L)).1 0).toNat _ i = _
      rw [ez]
      unfold s_fu
      rw [show (S.1 0 + 1).toNat = n + 1 by omega, show (S.1 0).toNat = n by omega]
    show s_fu (w_addL (w_addL S _) _).2.1 l _ i = _
    unfold s_fu
    by_cases c : i = l
    · rw [if_pos c, if_pos c, lo, if_neg (by omega), if_neg (by omega)]
    · rw [if_neg c, if_neg c, lo]
  have sz0 : (w_lpt (w_addL (w_addL S (l_mk ((V d).2.1 1) (w_l S l) L)) (l_mk ((V d).2.1 2) (w_l S l) R)) l 1 1).1 0 = S.1 0 + 1 + 1 := by rw [wlz, w_z_addL, if_pos rfl, ez]
  have szs : ∀ s, s ≠ 0 → (w_lpt (w_addL (w_addL S (l_mk ((V d).2.1 1) (w_l S l) L)) (l_mk ((V d).2.1 2) (w_l S l) R)) l 1 1).1 s = S.1 s := fun s hs => by rw [wlz, w_z_addL, if_neg hs, w_z_addL, if_neg hs]
  have wt : ∀ s i, w_t (w_lpt (w_addL (w_addL S (l_mk ((V d).2.1 1) (w_l S l) L)) (l_mk ((V d).2.1 2) (w_l S l) R)) l 1 1) s i = w_t S s i := fun _ _ => rfl
  have z3 : R_z (w_lpt (w_addL (w_addL S (l_mk ((V d).2.1 1) (w_l S l) L)) (l_mk ((V d).2.1 2) (w_l S l) R)) l 1 1) := z2
  generalize w_lpt (w_addL (w_addL S (l_mk ((V d).2.1 1) (w_l S l) L)) (l_mk ((V d).2.1 2) (w_l S l) R)) l 1 1 = T at *
  have at_ : ∀ s i : Nat, 2 ≤ s → s ≤ 6 → (i : Int) < S.1 s → w_t (w_map T 2 6 (t_spl (fun a => (V a).2.2.2.2) l (S.1 0) (S.1 0 + 1) S.2.2.2 L R)) s i = t_spl (fun a => (V a).2.2.2.2) l (S.1 0) (S.1 0 + 1) S.2.2.2 L R s (w_t S s i) := fun s i s2 s6 hi => by
    rw [w_map_at z3 (by omega) (by rw [szs s (by omega)]; exact hi), if_pos ⟨s2, s6⟩, wt]
  refine ⟨fun i hi => ?_, fun s i s2 s6 hi => ?_, fun i hi => ?_⟩
  · have hi : (i : Int) < T.1 0 := hi
    rw [sz0] at hi
    show o_nd (T.2.1 i).2.2.2
    have old := k1 l hl
    rw [lots]
    by_cases c1 : i = l
    · rw [if_pos c1]; exact old
    · rw [if_neg c1]
      by_cases c2 : i = n + 1
      · rw [if_pos c2]; exact old
      · rw [if_neg c2]
        by_cases c3 : i = n
        · rw [if_pos c3]; exact old
        · rw [if_neg c3]; exact k1 i (by omega)
  · have hi : (i : Int) < T.1 s := hi
    rw [szs s (by omega)] at hi
    rw [at_ s i s2 s6 hi]
    obtain ⟨a1, a2⟩ := k2 s i s2 s6 hi
    have b := (hr.2 s i (by omega) (by omega) hi).2
    have b1 : ∀ x ∈ (w_t S s i).2.1, x < S.1 0 := fun x hx => (b.1 x hx).2
    have b2 : ∀ x ∈ (w_t S s i).2.2, x < S.1 0 := fun x hx => by
      have := (b.2 x hx).2
      rw [if_neg (show ¬ s = 7 by omega)] at this
      exact this
    unfold t_spl
    by_cases tt : t_thr (w_t S s i) S.2.2.2 = true
    · rw [if_pos tt]
      exact ⟨fun ns => r_part_nd2 (a1 ns) (fun _ z => by have := b1 _ z; omega) (fun _ z => by have := b1 _ z; omega) (Or.inl (by omega)), r_pov_nd a2 (fun z => by have := b2 _ z; omega) (fun z => by have := b2 _ z; omega) (by omega)⟩
    · rw [if_neg tt]; exact ⟨a1, a2⟩
  · have hi : (i : Int) < T.1 3 := hi
    rw [szs 3 (by omega)] at hi
    rw [at_ 3 i (by omega) (by omega) hi]
    obtain ⟨a1, a2⟩ := k3 i hi
    have b := (hr.2 3 i (by omega) (by omega) hi).2
    have b2 : ∀ x ∈ (w_t S 3 i).2.2, 0 ≤ x ∧ x < S.1 0 := fun x hx => b.2 x hx
    rw [t_spl_1]
    refine ⟨a1, fun z => ?_⟩
    obtain ⟨c1, c2⟩ := a2 z
    generalize hps : (V ((w_t S 3 i).1 11).toNat).2.2.2.2 = ps at *
    have keep : ∀ x ∈ (w_t S 3 i).2.2, g_hold (T.2.1 x.toNat).2.1 ps = true := fun x hx => by
      have bx := b2 x hx
      have e := lots x.toNat
      rw [e]
      by_cases c : x.toNat = l
      · rw [if_pos c]; have := c2 x hx; rw [c] at this; exact this
      · rw [if_neg c, if_neg (by omega), if_neg (by omega)]; exact c2 x hx
    show (t_spl (fun a => (V a).2.2.2.2) l (S.1 0) (S.1 0 + 1) S.2.2.2 L R 3 (w_t S 3 i)).2.2 ≠ [] ∧ ∀ x ∈ (t_spl (fun a => (V a).2.2.2.2) l (S.1 0) (S.1 0 + 1) S.2.2.2 L R 3 (w_t S 3 i)).2.2, g_hold (T.2.1 x.toNat).2.1 ps = true
    unfold t_spl
    by_cases tt : t_thr (w_t S 3 i) S.2.2.2 = true
    · rw [if_pos tt]
      dsimp only
      rw [hps]
      refine ⟨?_, fun x hx => ?_⟩
      · by_cases m : (l : Int) ∈ (w_t S 3 i).2.2
        · have hh : g_hold (w_l S l).2.1 ps = true := c2 l m
          have := r_pov_ne (a := S.1 0) (b := S.1 0 + 1) m (hold_cover HF.1 gL.1 gR.1 sm hh) (by omega) (by omega)
          exact fun e => this (by rw [e]; rfl)
        · unfold r_pov
          rw [if_neg m]; exact c1
      · rcases r_pov_mem2 hx with ⟨e, f⟩ | ⟨e, f⟩ | e
        · have e' := lots x.toNat
          rw [if_neg (by omega), if_neg (by omega), if_pos (by omega)] at e'
          rw [e']; exact f
        · have e' := lots x.toNat
          rw [if_neg (by omega), if_pos (by omega)] at e'
          rw [e']; exact f
        · exact keep x e
    · rw [if_neg tt]; exact ⟨c1, keep⟩
