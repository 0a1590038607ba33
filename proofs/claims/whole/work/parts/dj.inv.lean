/-! CHARGES and LOTS have one another: kept -/
theorem r_in_iff {l : List Int} {k : Nat} {x y : Int} : y ∈ r_in l k x ↔ y = x ∨ y ∈ l := by
  unfold r_in
  have p : List.Perm (l.take k ++ x :: l.drop k) (x :: l) := by
    have q : List.Perm (l.take k ++ x :: l.drop k) (x :: (l.take k ++ l.drop k)) := List.perm_middle
    rw [List.take_append_drop] at q
    exact q
  rw [p.mem_iff, List.mem_cons]
theorem r_ins_iff {l : List Int} {k x y : Int} (h8 : l.length < 8) (hk : 0 ≤ k ∧ k ≤ l.length) : y ∈ r_ins l k x ↔ y = x ∨ y ∈ l := by
  unfold r_ins
  rw [if_neg (by omega)]
  exact r_in_iff
theorem r_part_iff {l : List Int} {old a b x : Int} (h : l.Nodup) (h8 : old ∈ l → l.length < 8) (h0 : 0 ≤ a ∧ 0 ≤ b) : x ∈ r_part l old a b ↔ ((x = a ∨ x = b) ∧ old ∈ l) ∨ (x ∈ l ∧ x ≠ old) := by
  by_cases c : old ∈ l
  · have f := r_find_mem.mpr c
    have fl := r_find_lt (l := l) (x := old)
    have dl := r_del_len (l := l) (x := old)
    rw [if_pos c] at dl
    have l8 := h8 c
    have e : r_part l old a b = r_ins (r_ins (r_del l old) (r_find l old) b) (r_find l old) a := by
      unfold r_part
      rw [if_neg (by omega)]
      dsimp only
      rw [if_neg (show ¬ b < 0 by omega), if_neg (show ¬ a < 0 by omega)]
    have il : (r_ins (r_del l old) (r_find l old) b).length = l.length := by
      unfold r_ins
      rw [if_neg (by omega), r_in_len]
      omega
    have dm : ∀ y, y ∈ r_del l old ↔ y ∈ l ∧ y ≠ old := fun y => ⟨fun hy => ⟨r_del_sub hy, fun z => by rw [z] at hy; exact r_del_gone h hy⟩, fun hy => r_del_keep hy.1 hy.2⟩
    rw [e, r_ins_iff (by omega) (by omega), r_ins_iff (by omega) (by omega), dm]
    constructor
    · rintro (q | q | q)
      · exact Or.inl ⟨Or.inl q, c⟩
      · exact Or.inl ⟨Or.inr q, c⟩
      · exact Or.inr q
    · rintro (⟨q | q, -⟩ | q)
      · exact Or.inl q
      · exact Or.inr (Or.inl q)
      · exact Or.inr (Or.inr q)
  · rw [r_part_id c]
    constructor
    · exact fun hx => Or.inr ⟨hx, fun z => c (by rw [← z]; exact hx)⟩
    · rintro (⟨-, q⟩ | q)
      · exact absurd q c
      · exact q.1
theorem r_mrg_iff {l : List Int} {one other into x : Int} (h : l.Nodup) (hi : into ∉ l) (n1 : into ≠ one) (n2 : into ≠ other) : x ∈ r_mrg l one other into ↔ (x = into ∧ (one ∈ l ∨ other ∈ l)) ∨ (x ∈ l ∧ x ≠ one ∧ x ≠ other) := by
  unfold r_mrg
  cases e : l.findIdx? (fun y => y == one || y == other) with
  | none =>
    have n := List.findIdx?_eq_none_iff.mp e
    have o1 : one ∉ l := fun z => by have := n one z; simp at this
    have o2 : other ∉ l := fun z => by have := n other z; simp at this
    constructor
    · exact fun hx => Or.inr ⟨hx, fun z => o1 (by rw [← z]; exact hx), fun z => o2 (by rw [← z]; exact hx)⟩
    · rintro (⟨-, q | q⟩ | q)
      · exact absurd q o1
      · exact absurd q o2
      · exact q.1
  | some i =>
    dsimp only
    obtain ⟨il, ip, -⟩ := List.findIdx?_eq_some_iff_getElem.mp e
    have ip : l[i] = one ∨ l[i] = other := by simpa using ip
    have hm := List.getElem_mem il
    have have_ : one ∈ l ∨ other ∈ l := ip.imp (fun q => by rw [← q]; exact hm) (fun q => by rw [← q]; exact hm)
    have nd1 := nodup_set (i := i) h hi
    have nd2 := r_del_nodup (x := one) nd1
    have into1 : into ∈ l.set i into := List.mem_iff_getElem?.mpr ⟨i, by rw [List.getElem?_set_self il]⟩
    constructor
    · intro hx
      have x2 := r_del_sub hx
      have x1 := r_del_sub x2
      have g1 : x ≠ one := fun z => by rw [z] at x2; exact r_del_gone nd1 x2
      have g2 : x ≠ other := fun z => by rw [z] at hx; exact r_del_gone nd2 hx
      rcases List.mem_or_eq_of_mem_set x1 with q | q
      · exact Or.inr ⟨q, g1, g2⟩
      · exact Or.inl ⟨q, have_⟩
    · rintro (⟨q, -⟩ | ⟨q, g1, g2⟩)
      · rw [q]; exact r_del_keep (r_del_keep into1 n1) n2
      · refine r_del_keep (r_del_keep ?_ g1) g2
        obtain ⟨j, hj⟩ := List.mem_iff_getElem?.mp q
        have ne : i ≠ j := fun z => by
          subst z
          rw [List.getElem?_eq_getElem il] at hj
          have := Option.some.inj hj
          rcases ip with p | p
          · exact g1 (by rw [← this]; exact p)
          · exact g2 (by rw [← this]; exact p)
        exact List.mem_iff_getElem?.mpr ⟨j, by rw [List.getElem?_set_ne ne]; exact hj⟩
section acts
variable {V : Nat → v_D} {U : Nat → Prop} {S : w_S} {r : Nat → Int} {d : Nat} {at_ : Int}
theorem I_Cc {S' : w_S} (hp : I_P V U S) (h : I_C S) (e0 : S'.1 0 = S.1 0) (e2 : S'.1 2 = S.1 2) (hl : ∀ l : Nat, (l : Int) < S.1 0 → (w_l S' l).2.2.1 = (w_l S l).2.2.1 ∧ (w_l S' l).1 1 = (w_l S l).1 1) (ht : ∀ c : Nat, (c : Int) < S.1 2 → (w_t S' 2 c).2.1 = (w_t S 2 c).2.1 ∧ (w_thr S 2 c = true → w_thr S' 2 c = true)) : I_C S' := by
  refine ⟨fun c hc => ?_, fun l hl' hg => ?_⟩
  · rw [e2] at hc
    obtain ⟨a1, a2, a3⟩ := h.1 c hc
    have t := ht c hc
    refine ⟨by rw [t.1]; exact a1, fun l hl' => ?_, fun hne => ?_⟩
    · rw [t.1] at hl'
      have k := a2 l hl'
      rw [e0, (hl l.toNat (by omega)).1]; exact k
    · rw [t.1] at hne
      exact t.2 (a3 hne)
  · rw [e0] at hl'
    have k := hl l hl'
    rw [k.2] at hg
    obtain ⟨a1, a2⟩ := h.2 l hl' hg
    rw [k.1]
    refine ⟨a1, fun c hc => ?_⟩
    have b := a2 c hc
    have rg := (hp.2.1 l hl').2.1 c hc
    exact ⟨b.1, by rw [(ht c.toNat (by omega)).1]; exact b.2⟩
theorem C_addT {s : Nat} {x : w_T} (hp : I_P V U S) (h : I_C S) (hs : 1 ≤ s ∧ s < 8 ∧ s ≠ 2) (hf : S.1 s < w_mx s) : I_C (w_addT S s x) := by
  have zs := hp.1 s hs.2.1
  have ew : ∀ c : Nat, (c : Int) < S.1 2 → w_t (w_addT S s x) 2 c = w_t S 2 c := fun c hc => by
    have := hp.1 2 (by omega)
    rw [w_t_add ⟨hs.1, hs.2.1⟩ ⟨by omega, by omega⟩ (by omega) (by omega), if_neg (by omega)]
  refine I_Cc hp h ?_ (by rw [w_z_add, if_neg (by omega)]) (fun l _ => ⟨rfl, rfl⟩) (fun c hc => ⟨by rw [ew c hc], fun t => ?_⟩)
  · rw [w_z_add, if_neg (by omega)]
  · show t_thr (w_t (w_addT S s x) 2 c) S.2.2.2 = true
    rw [ew c hc]; exact t
theorem C_put {s i k : Nat} {v : Int} (hp : I_P V U S) (h : I_C S) (hs : 1 ≤ s ∧ s < 8) (hi : (i : Int) < S.1 s) (hk : s ≠ 2 ∨ (k ≠ 2 ∧ k ≠ 3)) : I_C (w_put S (w_F s + i) k v) := by
  have ew : ∀ c : Nat, (c : Int) < S.1 2 → (w_t (w_put S (w_F s + i) k v) 2 c).2 = (w_t S 2 c).2 ∧ ∀ j, j = 2 ∨ j = 3 → (w_t (w_put S (w_F s + i) k v) 2 c).1 j = (w_t S 2 c).1 j := fun c hc => by
    unfold w_put
    rw [w_t_set hs ⟨by omega, by omega⟩ (R_lt hp.1 hs.2 hi) (R_lt hp.1 (by omega) hc)]
    by_cases q : 2 = s ∧ c = i
    · rw [if_pos q, q.1, q.2]
      exact ⟨rfl, fun j hj => s_fu_ne (by omega)⟩
    · rw [if_neg q]; exact ⟨rfl, fun _ _ => rfl⟩
  refine I_Cc hp h rfl rfl (fun l _ => ⟨rfl, rfl⟩) (fun c hc => ⟨by rw [(ew c hc).1], fun t => ?_⟩)
  have t : t_thr (w_t S 2 c) S.2.2.2 = true := t
  show t_thr (w_t (w_put S (w_F s + i) k v) 2 c) S.2.2.2 = true
  unfold t_thr at *
  rw [(ew c hc).2 2 (Or.inl rfl), (ew c hc).2 3 (Or.inr rfl)]
  exact t
theorem C_map {lo hi : Nat} {f : Nat → w_T → w_T} (hp : I_P V U S) (h : I_C S) (hf : ∀ t, lo ≤ 2 → 2 ≤ hi → (f 2 t).2.1 = t.2.1 ∧ (f 2 t).1 2 = t.1 2 ∧ (f 2 t).1 3 = t.1 3) : I_C (w_map S lo hi f) := by
  have ew : ∀ c : Nat, (c : Int) < S.1 2 → (w_t (w_map S lo hi f) 2 c).2.1 = (w_t S 2 c).2.1 ∧ (w_t (w_map S lo hi f) 2 c).1 2 = (w_t S 2 c).1 2 ∧ (w_t (w_map S lo hi f) 2 c).1 3 = (w_t S 2 c).1 3 := fun c hc => by
    rw [w_map_at hp.1 ⟨by omega, by omega⟩ hc]
    split
    · next q => exact hf _ q.1 q.2
    · exact ⟨rfl, rfl, rfl⟩
  refine I_Cc hp h rfl rfl (fun l _ => ⟨rfl, rfl⟩) (fun c hc => ⟨(ew c hc).1, fun t => ?_⟩)
  have t : t_thr (w_t S 2 c) S.2.2.2 = true := t
  show t_thr (w_t (w_map S lo hi f) 2 c) S.2.2.2 = true
  unfold t_thr at *
  rw [(ew c hc).2.1, (ew c hc).2.2]
  exact t
theorem C_lots {S' : w_S} (hp : I_P V U S) (h : I_C S) (e1 : S'.1 = S.1) (e2 : S'.2.2 = S.2.2) (hl : ∀ l : Nat, (w_l S' l).2.2.1 = (w_l S l).2.2.1 ∧ (w_l S' l).1 1 = (w_l S l).1 1) : I_C S' := by
  refine I_Cc hp h (by rw [e1]) (by rw [e1]) (fun l _ => hl l) (fun c _ => ?_)
  have et : w_t S' 2 c = w_t S 2 c := by unfold w_t; rw [e2]
  refine ⟨by rw [et], fun t => ?_⟩
  have t : t_thr (w_t S 2 c) S.2.2.2 = true := t
  show t_thr (w_t S' 2 c) S'.2.2.2 = true
  rw [et, e2]; exact t
theorem C_setL {i : Nat} {x : w_L} (hp : I_P V U S) (h : I_C S) (e1 : x.2.2.1 = (w_l S i).2.2.1) (e2 : x.1 1 = (w_l S i).1 1) : I_C (w_setL S i x) := by
  refine C_lots hp h rfl rfl (fun l => ?_)
  show (s_fu S.2.1 i x l).2.2.1 = _ ∧ (s_fu S.2.1 i x l).1 1 = _
  unfold s_fu
  split
  · next c => rw [c]; exact ⟨e1, e2⟩
  · exact ⟨rfl, rfl⟩
theorem C_lpt {l k : Nat} {v : Int} (hp : I_P V U S) (h : I_C S) (hk : k ≠ 1) : I_C (w_lpt S l k v) := by
  have e : s_fu (S.2.1 l).1 k v 1 = (S.2.1 l).1 1 := s_fu_ne (fun z => hk z.symm)
  exact C_setL hp h rfl e
theorem C_ends {dead heir : Int} (hp : I_P V U S) (h : I_C S) (hd : 0 ≤ dead) : I_C (w_map S 2 6 (t_ends dead heir)) := C_map hp h (fun t _ _ => by
  unfold t_ends
  split
  · rw [if_pos rfl]
    have g : ∀ k, k ≠ 5 → s_fu t.1 5 heir k = t.1 k := fun k hk => s_fu_ne hk
    exact ⟨rfl, g 2 (by omega), g 3 (by omega)⟩
  · exact ⟨rfl, rfl, rfl⟩)
theorem C_guard (hp : I_P V U S) (h : I_C S) (h0 : 0 ≤ r 0 ∧ r 0 < S.1 1) : I_C (X_guard S r).2 := by
  unfold X_guard
  exact cP (p := fun X : Int × w_S => I_C X.2) (fun _ => h) (fun _ => cP (p := fun X : Int × w_S => I_C X.2) (fun _ => h) (fun _ => C_put hp h ⟨by omega, by omega⟩ (by omega) (Or.inl (by omega))))
theorem C_person (hp : I_P V U S) (h : I_C S) : I_C (X_person V S d at_).2 := by
  unfold X_person
  have hm : w_mx 1 = 40 := rfl
  exact cP (p := fun X : Int × w_S => I_C X.2) (fun _ => h) (fun _ => cP (p := fun X : Int × w_S => I_C X.2) (fun _ => h) (fun _ => C_addT hp h ⟨by omega, by omega, by omega⟩ (by omega)))
theorem C_firm (hp : I_P V U S) (h : I_C S) : I_C (X_firm V S r d at_).2 := by
  unfold X_firm
  have hm : w_mx 1 = 40 := rfl
  exact cP (p := fun X : Int × w_S => I_C X.2) (fun _ => h) (fun _ => cP (p := fun X : Int × w_S => I_C X.2) (fun _ => h) (fun _ => C_addT hp h ⟨by omega, by omega, by omega⟩ (by omega)))
theorem C_close (hp : I_P V U S) (h : I_C S) (h0 : 0 ≤ r 0 ∧ r 0 < S.1 1) : I_C (X_close S r).2 := by
  unfold X_close
  refine cP (p := fun X : Int × w_S => I_C X.2) (fun _ => h) (fun _ => ?_)
  exact C_put (s := 1) (P_ends hp h0.1 ⟨by omega, by omega⟩) (C_ends hp h h0.1) ⟨by omega, by omega⟩ (show ((r 0).toNat : Int) < S.1 1 by omega) (Or.inl (by omega))
theorem C_pay (hp : I_P V U S) (h : I_C S) (h0 : 0 ≤ r 0 ∧ r 0 < S.1 2) : I_C (X_pay V S r d).2 := by
  unfold X_pay
  refine cP (p := fun X : Int × w_S => I_C X.2) (fun _ => h) (fun _ => cP (p := fun X : Int × w_S => I_C X.2) (fun _ => ?_) (fun _ => ?_))
  · exact C_put hp h ⟨by omega, by omega⟩ (by omega) (Or.inr ⟨by omega, by omega⟩)
  · exact I_C_endc rfl (C_put (s := 2) (i := (r 0).toNat) (k := 6) (v := 0) hp h ⟨by omega, by omega⟩ (by omega) (Or.inr ⟨by omega, by omega⟩)) (show ((r 0).toNat : Int) < S.1 2 by omega)
theorem C_assign (hp : I_P V U S) (h : I_C S) (h0 : 0 ≤ r 0 ∧ r 0 < S.1 2) : I_C (X_assign S r).2 := by
  unfold X_assign
  exact cP (p := fun X : Int × w_S => I_C X.2) (fun _ => h) (fun _ => cP (p := fun X : Int × w_S => I_C X.2) (fun _ => h) (fun _ => C_put hp h ⟨by omega, by omega⟩ (by omega) (Or.inr ⟨by omega, by omega⟩)))
/-- the CHARGES of a LOT in another order -/
theorem C_rank (hp : I_P V U S) (h : I_C S) (h2 : x_in S r 0 2) : I_C (X_rank S r).2 := by
  unfold X_rank
  refine cP (p := fun X : Int × w_S => I_C X.2) (fun _ => h) (fun n => ?_)
  have n := Classical.not_not.mp n
  have hl : ((r 2).toNat : Int) < S.1 0 := by have := h2.1; omega
  have g := w_thr0 h2.2
  obtain ⟨a1, a2⟩ := h.2 (r 2).toNat hl g
  have hm : r 0 ∈ (w_l S (r 2).toNat).2.2.1 := r_find_mem.mp (by omega)
  have dl := r_del_len (l := (w_l S (r 2).toNat).2.2.1) (x := r 0)
  rw [if_pos hm] at dl
  have fl := r_find_lt (l := (w_l S (r 2).toNat).2.2.1) (x := r 0)
  have nd := r_ins_nd (k := r_find (w_l S (r 2).toNat).2.2.1 (r 1)) (r_del_nodup (x := r 0) a1) (r_del_gone a1)
  -- at most 8 of them: what stands there is the same
  have l8 := (hp.2.1 (r 2).toNat hl).1.2
  have pos : 0 < (w_l S (r 2).toNat).2.2.1.length := List.length_pos_of_mem hm
  have fr := r_find_lt (l := (w_l S (r 2).toNat).2.2.1) (x := r 0)
  have mem : ∀ c, c ∈ r_ins (r_del (w_l S (r 2).toNat).2.2.1 (r 0)) (r_find (w_l S (r 2).toNat).2.2.1 (r 1)) (r 0) ↔ c ∈ (w_l S (r 2).toNat).2.2.1 := fun c => by
    rw [r_ins_iff (by omega) (by omega)]
    constructor
    · rintro (e | e)
      · rw [e]; exact hm
      · exact r_del_sub e
    · intro hc
      by_cases e : c = r 0
      · exact Or.inl e
      · exact Or.inr (r_del_keep hc e)
  have lo : ∀ l : Nat, w_l (w_chg S (r 2).toNat (r_ins (r_del (w_l S (r 2).toNat).2.2.1 (r 0)) (r_find (w_l S (r 2).toNat).2.2.1 (r 1)) (r 0))) l = if l = (r 2).toNat then ((w_l S (r 2).toNat).1, (w_l S (r 2).toNat).2.1, r_ins (r_del (w_l S (r 2).toNat).2.2.1 (r 0)) (r_find (w_l S (r 2).toNat).2.2.1 (r 1)) (r 0), (w_l S (r 2).toNat).2.2.2) else w_l S l := fun l => rfl
  refine ⟨fun c hc => ?_, fun l hl' hg => ?_⟩
  · obtain ⟨b1, b2, b3⟩ := h.1 c hc
    refine ⟨b1, fun l hl' => ?_, b3⟩
    have k := b2 l hl'
    refine ⟨k.1, k.2.1, ?_⟩
    rw [lo]
    by_cases e : l.toNat = (r 2).toNat
    · rw [if_pos e]
      show _ ∈ r_ins _ _ _
      rw [mem, ← e]; exact k.2.2
    · rw [if_neg e]; exact k.2.2
  · rw [lo] at hg ⊢
    by_cases e : l = (r 2).toNat
    · rw [if_pos e]
      refine ⟨nd, fun c hc => ?_⟩
      rw [e]
      exact a2 c ((mem c).mp hc)
    · rw [if_neg e] at hg ⊢
      exact h.2 l hl' hg
theorem C_freed (hp : I_P V U S) (h : I_C S) (h0 : x_in S r 0 0) (h1 : 0 ≤ r 1 ∧ r 1 < S.1 2) : I_C (X_free S r).2 := by
  unfold X_free
  refine cP (p := fun X : Int × w_S => I_C X.2) (fun _ => h) (fun n => ?_)
  have n := Classical.not_not.mp n
  have hl : ((r 0).toNat : Int) < S.1 0 := by have := h0.1; omega
  have k := (h.2 (r 0).toNat hl (w_thr0 h0.2)).2 (r 1) n
  exact I_C_free h (by omega) k.2
theorem C_auc {l f : Nat} : ∀ {k : Nat} {S : w_S} {left : Int}, I_P V U S → I_C S → (l : Int) < S.1 0 → (w_l S l).1 1 = 0 → 0 ≤ left → I_C (w_auc l f k S left)
  | 0, _, _, _, h, _, _, _ => h
  | k + 1, S, left, hp, h, hl, g, h0 => by
    unfold w_auc
    split
    · exact h
    · next c =>
      have hm : (S.2.1 l).2.2.1[f]?.getD 0 ∈ (w_l S l).2.2.1 := by
        rw [List.getElem?_eq_getElem (by omega)]
        exact List.getElem_mem _
      have hr := (hp.2.1 l hl).2.1 _ hm
      have hrow := ((h.2 l hl g).2 _ hm).2
      generalize (S.2.1 l).2.2.1[f]?.getD 0 = x at *
      have hx : (x.toNat : Int) < S.1 2 := by omega
      have am := (hp.2.2 2 x.toNat (by omega) (by omega) hx).2.2.1 rfl
      have mn : 0 ≤ e_min left ((w_t S 2 x.toNat).1 6) ∧ e_min left ((w_t S 2 x.toNat).1 6) ≤ left ∧ e_min left ((w_t S 2 x.toNat).1 6) ≤ (w_t S 2 x.toNat).1 6 := by unfold e_min; split <;> omega
      dsimp only
      generalize e_min left ((w_t S 2 x.toNat).1 6) = part at *
      have p1 := P_put (k := 6) (v := (w_t S 2 x.toNat).1 6 - part) hp ⟨by omega, by omega⟩ hx (Or.inr (Or.inr (Or.inr ⟨rfl, by omega, by omega⟩)))
      have c1 := C_put (s := 2) (i := x.toNat) (k := 6) (v := (w_t S 2 x.toNat).1 6 - part) hp h ⟨by omega, by omega⟩ hx (Or.inr ⟨by omega, by omega⟩)
      have p2 := P_free (l := l) (c := x.toNat) p1 hl hx
      have row : (l : Int) ∈ (w_t (w_put S (w_F 2 + x.toNat) 6 ((w_t S 2 x.toNat).1 6 - part)) 2 x.toNat).2.1 := by
        show (l : Int) ∈ (s_fu S.2.2.1 (w_F 2 + x.toNat) _ (w_F 2 + x.toNat)).2.1
        rw [s_fu_eq]; exact hrow
      have c2 := I_C_free (l := l) (c := x.toNat) c1 hx row
      have x1 := X_put (s := 2) (i := x.toNat) (k := 6) (v := (w_t S 2 x.toNat).1 6 - part) hp.1 ⟨by omega, by omega⟩ hx ⟨by omega, by omega⟩ (fun z => by omega)
      have x2 := X_le_trans x1 (X_free_le (l := l) (c := x.toNat) (X_z x1 hp.1) (by rw [x1.1 2 (by omega)]; exact hx))
      split
      · have x3 := X_le_trans x2 (X_endc (c := x.toNat) (X_z x2 hp.1) (by rw [x2.1 2 (by omega)]; exact hx))
        have hx2 : (x.toNat : Int) < (w_free (w_put S (w_F 2 + x.toNat) 6 ((w_t S 2 x.toNat).1 6 - part)) l x.toNat).1 2 := by rw [x2.1 2 (by omega)]; exact hx
        exact C_auc (P_endc p2 hx2) (I_C_endc rfl c2 hx2) (by rw [x3.1 0 (by omega)]; exact hl) (by rw [(x3.2.1 l hl).2]; exact g) (by omega)
      · exact C_auc p2 c2 (by rw [x2.1 0 (by omega)]; exact hl) (by rw [(x2.2.1 l hl).2]; exact g) (by omega)
theorem C_auction (hp : I_P V U S) (h : I_C S) (hv : v_ok (V d)) (h0 : x_in S r 0 0) (h2 : 0 ≤ r 2 ∧ r 2 < S.1 1) : I_C (X_auction V S r d).2 := by
  have h9 := hv.2.2.2.1.2.1
  unfold X_auction
  refine cP (p := fun X : Int × w_S => I_C X.2) (fun _ => h) (fun _ => cP (p := fun X : Int × w_S => I_C X.2) (fun _ => h) (fun _ => cP (p := fun X : Int × w_S => I_C X.2) (fun _ => h) (fun _ => cP (p := fun X : Int × w_S => I_C X.2) (fun _ => h) (fun _ => ?_))))
  have hl : ((r 0).toNat : Int) < S.1 0 := by have := h0.1; omega
  have p1 := P_ows (o := [(r 2, 1, 1)]) hp hl (o_one h2) (fun q hq => by rw [List.mem_singleton.mp hq]; show (1 : Int) ≤ 1000000; omega) (by show 1 ≤ 8; omega)
  have p2 := P_lpt (k := 2) (v := (V d).1 9) p1 hl
  have c1 : I_C (w_ows S (r 0).toNat [(r 2, 1, 1)]) := C_setL hp h rfl rfl
  have c2 : I_C (w_lpt (w_ows S (r 0).toNat [(r 2, 1, 1)]) (r 0).toNat 2 ((V d).1 9)) := C_lpt p1 c1 (by omega)
  have k1 : X_le S (w_ows S (r 0).toNat [(r 2, 1, 1)]) := X_setL ⟨rfl, rfl⟩
  have k2 : X_le S (w_lpt (w_ows S (r 0).toNat [(r 2, 1, 1)]) (r 0).toNat 2 ((V d).1 9)) := X_le_trans k1 (X_lpt ⟨by omega, by omega⟩)
  have c3 := C_auc (l := (r 0).toNat) (f := (r_find (w_l S (r 0).toNat).2.2.1 (r 1)).toNat) (k := 8) (left := (V d).1 9) p2 c2 hl (by rw [(k2.2.1 _ hl).2]; exact w_thr0 h0.2) h9.1
  have p3 := (P_auc (l := (r 0).toNat) (f := (r_find (w_l S (r 0).toNat).2.2.1 (r 1)).toNat) (k := 8) (left := (V d).1 9) p2 hl h9.1).1
  exact C_map p3 c3 (fun t a b => by omega)
end acts
