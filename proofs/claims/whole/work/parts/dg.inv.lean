/-! what an ACT leaves of names, of what is gone -/
def L_le (l l' : w_L) : Prop := l'.1 0 = l.1 0 ∧ l'.1 1 = l.1 1
def T_le (s : Nat) (t t' : w_T) : Prop := t'.1 0 = t.1 0 ∧ t'.1 3 = t.1 3 ∧ (t'.1 2 = 0 → t.1 2 = 0) ∧ (s = 6 → List.Sublist t'.2.1 t.2.1)
def X_le (S S' : w_S) : Prop := (∀ s, s < 8 → S'.1 s = S.1 s) ∧ (∀ i : Nat, (i : Int) < S.1 0 → L_le (w_l S i) (w_l S' i)) ∧ (∀ s i : Nat, 1 ≤ s → s < 8 → (i : Int) < S.1 s → T_le s (w_t S s i) (w_t S' s i)) ∧ S'.2.2.2 = S.2.2.2
theorem L_le_refl {l : w_L} : L_le l l := ⟨rfl, rfl⟩
theorem T_le_refl {s : Nat} {t : w_T} : T_le s t t := ⟨rfl, rfl, fun h => h, fun _ => List.Sublist.refl _⟩
theorem T_le_trans {s : Nat} {t u v : w_T} (h : T_le s t u) (k : T_le s u v) : T_le s t v := ⟨k.1.trans h.1, k.2.1.trans h.2.1, fun z => h.2.2.1 (k.2.2.1 z), fun z => (k.2.2.2 z).trans (h.2.2.2 z)⟩
theorem X_le_refl {S : w_S} : X_le S S := ⟨fun _ _ => rfl, fun _ _ => L_le_refl, fun _ _ _ _ _ => T_le_refl, rfl⟩
theorem X_le_trans {S T W : w_S} (h : X_le S T) (k : X_le T W) : X_le S W := ⟨fun s hs => (k.1 s hs).trans (h.1 s hs), fun i hi => by
  have a := h.2.1 i hi
  have b := k.2.1 i (by rw [h.1 0 (by omega)]; exact hi)
  exact ⟨b.1.trans a.1, b.2.trans a.2⟩, fun s i s1 s8 hi => T_le_trans (h.2.2.1 s i s1 s8 hi) (k.2.2.1 s i s1 s8 (by rw [h.1 s s8]; exact hi)), k.2.2.2.trans h.2.2.2⟩
theorem X_setT {S : w_S} {s i : Nat} {t : w_T} (hz : R_z S) (hs : 1 ≤ s ∧ s < 8) (hi : (i : Int) < S.1 s) (ht : T_le s (w_t S s i) t) : X_le S (w_setT S (w_F s + i) t) := by
  refine ⟨fun _ _ => rfl, fun _ _ => L_le_refl, fun q j q1 q8 hj => ?_, rfl⟩
  rw [w_t_set hs ⟨q1, q8⟩ (R_lt hz hs.2 hi) (R_lt hz q8 hj)]
  by_cases c : q = s ∧ j = i
  · rw [if_pos c, c.1, c.2]; exact ht
  · rw [if_neg c]; exact T_le_refl
theorem X_setL {S : w_S} {i : Nat} {l : w_L} (hl : L_le (w_l S i) l) : X_le S (w_setL S i l) := by
  refine ⟨fun _ _ => rfl, fun j _ => ?_, fun _ _ _ _ _ => T_le_refl, rfl⟩
  show L_le (S.2.1 j) (s_fu S.2.1 i l j)
  unfold s_fu
  split
  · next c => rw [c]; exact hl
  · exact L_le_refl
theorem X_put {S : w_S} {s i k : Nat} {v : Int} (hz : R_z S) (hs : 1 ≤ s ∧ s < 8) (hi : (i : Int) < S.1 s) (hk : k ≠ 0 ∧ k ≠ 3) (h2 : k = 2 → v ≠ 0) : X_le S (w_put S (w_F s + i) k v) := by
  refine X_setT hz hs hi ⟨s_fu_ne (fun e => hk.1 e.symm), s_fu_ne (fun e => hk.2 e.symm), fun z => ?_, fun _ => List.Sublist.refl _⟩
  change s_fu (S.2.2.1 (w_F s + i)).1 k v 2 = 0 at z
  by_cases c : k = 2
  · subst c
    rw [s_fu_eq] at z
    exact absurd z (h2 rfl)
  · rw [s_fu_ne (fun e => c e.symm)] at z
    exact z
theorem X_map {S : w_S} {lo hi : Nat} {f : Nat → w_T → w_T} (hz : R_z S) (hf : ∀ s t, lo ≤ s → s ≤ hi → T_le s t (f s t)) : X_le S (w_map S lo hi f) := by
  refine ⟨fun _ _ => rfl, fun _ _ => L_le_refl, fun s i s1 s8 hj => ?_, rfl⟩
  rw [w_map_at hz ⟨s1, s8⟩ hj]
  split
  · next c => exact hf s _ c.1 c.2
  · exact T_le_refl
theorem r_del_subl {l : List Int} {x : Int} : List.Sublist (r_del l x) l := by
  unfold r_del
  split
  · exact List.Sublist.refl _
  · exact List.eraseIdx_sublist ..
theorem T_leave {s : Nat} {t : w_T} {l : Int} : T_le s t (t_leave t l) := by
  refine ⟨?_, ?_, fun z => ?_, fun _ => r_del_subl⟩
  · show (if (r_del t.2.1 l).length = 0 then s_fu t.1 2 1 else t.1) 0 = t.1 0
    split
    · exact s_fu_ne (by omega)
    · rfl
  · show (if (r_del t.2.1 l).length = 0 then s_fu t.1 2 1 else t.1) 3 = t.1 3
    split
    · exact s_fu_ne (by omega)
    · rfl
  · change (if (r_del t.2.1 l).length = 0 then s_fu t.1 2 1 else t.1) 2 = 0 at z
    split at z
    · have e : s_fu t.1 2 1 2 = 1 := s_fu_eq
      rw [e] at z; cases z
    · exact z
theorem X_free_le {S : w_S} {l c : Nat} (hz : R_z S) (hc : (c : Int) < S.1 2) : X_le S (w_free S l c) := by
  unfold w_free
  rw [w_leave_eq]
  refine X_le_trans (X_setL (i := l) (l := ((S.2.1 l).1, (S.2.1 l).2.1, r_del (S.2.1 l).2.2.1 c, (S.2.1 l).2.2.2)) ⟨rfl, rfl⟩) ?_
  exact X_setT (S := w_chg S l (r_del (S.2.1 l).2.2.1 c)) hz ⟨by omega, by omega⟩ hc T_leave
theorem X_dels {c : Int} : ∀ {ls : List Int} {S : w_S}, X_le S (w_dels S c ls)
  | [], _ => X_le_refl
  | x :: ls, S => X_le_trans (X_setL (i := x.toNat) (l := ((S.2.1 x.toNat).1, (S.2.1 x.toNat).2.1, r_del (S.2.1 x.toNat).2.2.1 c, (S.2.1 x.toNat).2.2.2)) ⟨rfl, rfl⟩) (X_dels (ls := ls))
theorem X_z {S S' : w_S} (h : X_le S S') (hz : R_z S) : R_z S' := fun s hs => by rw [h.1 s hs]; exact hz s hs
theorem X_endc {S : w_S} {c : Nat} (hz : R_z S) (hc : (c : Int) < S.1 2) : X_le S (w_endc S c) := by
  have k1 := X_dels (c := (c : Int)) (ls := (S.2.2.1 (w_F 2 + c)).2.1) (S := S)
  have e2 : (c : Int) < (w_dels S (c : Int) (S.2.2.1 (w_F 2 + c)).2.1).1 2 := by rw [k1.1 2 (by omega)]; exact hc
  have k2 := X_setT (s := 2) (i := c) (t := (((w_dels S (c : Int) (S.2.2.1 (w_F 2 + c)).2.1).2.2.1 (w_F 2 + c)).1, [], ((w_dels S (c : Int) (S.2.2.1 (w_F 2 + c)).2.1).2.2.1 (w_F 2 + c)).2.2)) (X_z k1 hz) ⟨by omega, by omega⟩ e2 ⟨rfl, rfl, fun z => z, fun z => by omega⟩
  have k12 := X_le_trans k1 k2
  exact X_le_trans k12 (X_put (s := 2) (X_z k12 hz) ⟨by omega, by omega⟩ (by rw [k12.1 2 (by omega)]; exact hc) ⟨by omega, by omega⟩ (fun _ => by decide))
theorem X_auc {l f : Nat} : ∀ {k : Nat} {S : w_S} {left : Int}, R_z S → (∀ c ∈ (w_l S l).2.2.1, 0 ≤ c ∧ c < S.1 2) → X_le S (w_auc l f k S left)
  | 0, _, _, _, _ => X_le_refl
  | k + 1, S, left, hz, hc => by
    unfold w_auc
    split
    · exact X_le_refl
    · next c =>
      have hm : (S.2.1 l).2.2.1[f]?.getD 0 ∈ (w_l S l).2.2.1 := by
        rw [List.getElem?_eq_getElem (by omega)]
        exact List.getElem_mem _
      have hr := hc _ hm
      generalize (S.2.1 l).2.2.1[f]?.getD 0 = x at *
      have hx : (x.toNat : Int) < S.1 2 := by omega
      dsimp only
      generalize (w_t S 2 x.toNat).1 6 - e_min left ((w_t S 2 x.toNat).1 6) = v
      generalize left - e_min left ((w_t S 2 x.toNat).1 6) = rest
      have k1 := X_put (s := 2) (i := x.toNat) (k := 6) (v := v) hz ⟨by omega, by omega⟩ hx ⟨by omega, by omega⟩ (fun z => by omega)
      have k2 := X_le_trans k1 (X_free_le (l := l) (c := x.toNat) (X_z k1 hz) (by rw [k1.1 2 (by omega)]; exact hx))
      have sub : ∀ {Y : w_S} {c : Nat}, (w_l (w_free Y l c) l).2.2.1 = r_del (w_l Y l).2.2.1 c := fun {Y c} => by rw [w_free_l, if_pos rfl]
      have c2 : ∀ y ∈ (w_l (w_free (w_put S (w_F 2 + x.toNat) 6 v) l x.toNat) l).2.2.1, y ∈ (w_l S l).2.2.1 := fun y hy => by
        rw [sub] at hy
        exact r_del_sub hy
      split
      · have k3 := X_le_trans k2 (X_endc (c := x.toNat) (X_z k2 hz) (by rw [k2.1 2 (by omega)]; exact hx))
        refine X_le_trans k3 (X_auc (X_z k3 hz) (fun y hy => ?_))
        rw [k3.1 2 (by omega)]
        refine hc y (c2 y ?_)
        -- what is left of the row
        have : ∀ (c : Int) (ls : List Int) (Y : w_S) (y : Int), y ∈ (w_l (w_dels Y c ls) l).2.2.1 → y ∈ (w_l Y l).2.2.1 := fun c ls => by
          induction ls with
          | nil => exact fun _ _ h => h
          | cons x ls ih =>
            intro Y y h
            have h1 := ih _ y h
            change y ∈ (s_fu Y.2.1 x.toNat _ l).2.2.1 at h1
            unfold s_fu at h1
            split at h1
            · next e => rw [e]; exact r_del_sub h1
            · exact h1
        exact this _ _ _ y hy
      · refine X_le_trans k2 (X_auc (X_z k2 hz) (fun y hy => ?_))
        rw [k2.1 2 (by omega)]
        exact hc y (c2 y hy)
/-- names are one's own; OPTIONS that are there are on LOTS that are; CHARGES have no end; there is crown -/
def Y_g (S : w_S) : Prop := w_un S ∧ (∀ i : Nat, (i : Int) < S.1 6 → (w_t S 6 i).2.1.Nodup ∧ (w_thr S 6 i = true → ∀ l ∈ (w_t S 6 i).2.1, (w_l S l.toNat).1 1 = 0)) ∧ (∀ c : Nat, (c : Int) < S.1 2 → (w_t S 2 c).1 3 = 1000000) ∧ 1 ≤ S.1 1
theorem X_nm {S S' : w_S} (h : X_le S S') {s i : Nat} (hs : s < 7) (hi : (i : Int) < S.1 s) : w_nm S' s i = w_nm S s i := by
  unfold w_nm
  by_cases c : s = 0
  · subst c
    rw [if_pos rfl, if_pos rfl]; exact (h.2.1 i hi).1
  · rw [if_neg c, if_neg c]; exact (h.2.2.1 s i (by omega) (by omega) hi).1
theorem Y_le {S S' : w_S} (h : X_le S S') (hr : ∀ i : Nat, (i : Int) < S.1 6 → ∀ l ∈ (w_t S 6 i).2.1, 0 ≤ l ∧ l < S.1 0) (y : Y_g S) : Y_g S' := by
  obtain ⟨y1, y2, y3, y4⟩ := y
  refine ⟨fun s i s' i' hs hs' hi hi' e => ?_, fun i hi => ?_, fun c hc => ?_, by rw [h.1 1 (by omega)]; exact y4⟩
  · have hi : (i : Int) < S'.1 s := hi
    have hi' : (i' : Int) < S'.1 s' := hi'
    rw [h.1 s (by omega)] at hi
    rw [h.1 s' (by omega)] at hi'
    rw [X_nm h hs hi, X_nm h hs' hi'] at e
    exact y1 s i s' i' hs hs' hi hi' e
  · rw [h.1 6 (by omega)] at hi
    have t := h.2.2.1 6 i (by omega) (by omega) hi
    have k := y2 i hi
    refine ⟨(t.2.2.2 rfl).nodup k.1, fun tt l hl => ?_⟩
    have hl' := (t.2.2.2 rfl).subset hl
    have tt : t_thr (w_t S' 6 i) S'.2.2.2 = true := tt
    have t0 : w_thr S 6 i = true := by
      show t_thr (w_t S 6 i) S.2.2.2 = true
      unfold t_thr at tt ⊢
      rw [Bool.and_eq_true, decide_eq_true_iff, decide_eq_true_iff] at tt ⊢
      exact ⟨t.2.2.1 tt.1, by rw [← h.2.2.2, ← t.2.1]; exact tt.2⟩
    have b := hr i hi l hl'
    rw [(h.2.1 l.toNat (by omega)).2]
    exact k.2 t0 l hl'
  · rw [h.1 2 (by omega)] at hc
    rw [(h.2.2.1 2 c (by omega) (by omega) hc).2.1]; exact y3 c hc
theorem Y_addT {S : w_S} {s : Nat} {x : w_T} (hz : R_z S) (hs : 1 ≤ s ∧ s < 8) (hf : S.1 s < w_mx s) (hn : s < 7 → ∀ q i : Nat, q < 7 → (i : Int) < S.1 q → w_nm S q i ≠ x.1 0) (h2 : s = 2 → x.1 3 = 1000000) (h6 : s = 6 → x.2.1.Nodup ∧ ∀ l ∈ x.2.1, (w_l S l.toNat).1 1 = 0) (y : Y_g S) : Y_g (w_addT S s x) := by
  obtain ⟨y1, y2, y3, y4⟩ := y
  have zs := hz s hs.2
  have sz : ∀ r, (w_addT S s x).1 r = if r = s then S.1 s + 1 else S.1 r := fun r => w_z_add
  -- where the old ones are, and the new one
  have old : ∀ {r i : Nat}, 1 ≤ r → r < 8 → (i : Int) < (w_addT S s x).1 r → ¬ (r = s ∧ i = (S.1 s).toNat) → (i : Int) < S.1 r ∧ w_t (w_addT S s x) r i = w_t S r i := fun {r i} r1 r8 hi hne => by
    rw [sz] at hi
    have zr := hz r r8
    have hi' : (i : Int) < S.1 r := by
      split at hi
      · next c =>
        subst c
        have : ¬ i = (S.1 r).toNat := fun z => hne ⟨rfl, z⟩
        omega
      · exact hi
    refine ⟨hi', ?_⟩
    rw [w_t_add hs ⟨r1, r8⟩ (by omega) (by omega), if_neg hne]
  have new : w_t (w_addT S s x) s (S.1 s).toNat = x := by
    rw [w_t_add hs hs (by omega) (by omega), if_pos ⟨rfl, rfl⟩]
  have nm : ∀ {r i : Nat}, r < 7 → (i : Int) < (w_addT S s x).1 r → (r = s ∧ i = (S.1 s).toNat ∧ w_nm (w_addT S s x) r i = x.1 0) ∨ (¬ (r = s ∧ i = (S.1 s).toNat) ∧ (i : Int) < S.1 r ∧ w_nm (w_addT S s x) r i = w_nm S r i) := fun {r i} r7 hi => by
    by_cases c : r = s ∧ i = (S.1 s).toNat
    · refine Or.inl ⟨c.1, c.2, ?_⟩
      unfold w_nm
      rw [if_neg (by omega), c.1, c.2, new]
    · refine Or.inr ⟨c, ?_⟩
      by_cases r0 : r = 0
      · subst r0
        rw [sz, if_neg (by omega)] at hi
        exact ⟨hi, rfl⟩
      · obtain ⟨a, b⟩ := old (by omega) (by omega) hi c
        refine ⟨a, ?_⟩
        unfold w_nm
        rw [if_neg r0, if_neg r0, b]
  refine ⟨fun q i q' i' hq hq' hi hi' e => ?_, fun i hi => ?_, fun c hc => ?_, ?_⟩
  · rcases nm hq hi with ⟨a1, a2, a3⟩ | ⟨a0, a1, a2⟩
    · rcases nm hq' hi' with ⟨b1, b2, b3⟩ | ⟨b0, b1, b2⟩
      · exact ⟨a1.trans b1.symm, a2.trans b2.symm⟩
      · rw [a3, b2] at e
        exact absurd e.symm (hn (by omega) q' i' hq' b1)
    · rcases nm hq' hi' with ⟨b1, b2, b3⟩ | ⟨b0, b1, b2⟩
      · rw [a2, b3] at e
        exact absurd e (hn (by omega) q i hq a1)
      · rw [a2, b2] at e
        exact y1 q i q' i' hq hq' a1 b1 e
  · by_cases c : 6 = s ∧ i = (S.1 s).toNat
    · have e : w_t (w_addT S s x) 6 i = x := by rw [c.2, c.1]; exact new
      rw [e]
      exact ⟨(h6 c.1.symm).1, fun _ l hl => (h6 c.1.symm).2 l hl⟩
    · obtain ⟨a, b⟩ := old (by omega) (by omega) hi c
      have k := y2 i a
      rw [b]
      refine ⟨k.1, fun tt => k.2 ?_⟩
      have tt : t_thr (w_t (w_addT S s x) 6 i) S.2.2.2 = true := tt
      rw [b] at tt
      exact tt
  · by_cases c' : 2 = s ∧ c = (S.1 s).toNat
    · have e : w_t (w_addT S s x) 2 c = x := by rw [c'.2, c'.1]; exact new
      rw [e]; exact h2 c'.1.symm
    · obtain ⟨a, b⟩ := old (by omega) (by omega) hc c'
      rw [b]; exact y3 c a
  · rw [sz]
    split
    · next c => rw [← c]; omega
    · exact y4
theorem Y_addL {S : w_S} {x : w_L} (hn : ∀ q i : Nat, q < 7 → (i : Int) < S.1 q → w_nm S q i ≠ x.1 0) (h0 : 0 ≤ S.1 0) (hr : ∀ i : Nat, (i : Int) < S.1 6 → ∀ l ∈ (w_t S 6 i).2.1, 0 ≤ l ∧ l < S.1 0) (y : Y_g S) : Y_g (w_addL S x) := by
  obtain ⟨y1, y2, y3, y4⟩ := y
  have sz : ∀ r, (w_addL S x).1 r = if r = 0 then S.1 0 + 1 else S.1 r := fun r => rfl
  have lo : ∀ k : Nat, w_l (w_addL S x) k = if k = (S.1 0).toNat then x else w_l S k := fun k => rfl
  have nm : ∀ {r i : Nat}, r < 7 → (i : Int) < (w_addL S x).1 r → (r = 0 ∧ i = (S.1 0).toNat ∧ w_nm (w_addL S x) r i = x.1 0) ∨ (¬ (r = 0 ∧ i = (S.1 0).toNat) ∧ (i : Int) < S.1 r ∧ w_nm (w_addL S x) r i = w_nm S r i) := fun {r i} r7 hi => by
    rw [sz] at hi
    by_cases c : r = 0
    · subst c
      rw [if_pos rfl] at hi
      by_cases c2 : i = (S.1 0).toNat
      · refine Or.inl ⟨rfl, c2, ?_⟩
        unfold w_nm
        rw [if_pos rfl, lo, if_pos c2]
      · refine Or.inr ⟨fun z => c2 z.2, by omega, ?_⟩
        unfold w_nm
        rw [if_pos rfl, if_pos rfl, lo, if_neg c2]
    · rw [if_neg c] at hi
      refine Or.inr ⟨fun z => c z.1, hi, ?_⟩
      unfold w_nm
      rw [if_neg c, if_neg c]; rfl
  refine ⟨fun q i q' i' hq hq' hi hi' e => ?_, fun i hi => ?_, fun c hc => y3 c hc, y4⟩
  · rcases nm hq hi with ⟨a1, a2, a3⟩ | ⟨a0, a1, a2⟩
    · rcases nm hq' hi' with ⟨b1, b2, b3⟩ | ⟨b0, b1, b2⟩
      · exact ⟨a1.trans b1.symm, a2.trans b2.symm⟩
      · rw [a3, b2] at e
        exact absurd e.symm (hn q' i' hq' b1)
    · rcases nm hq' hi' with ⟨b1, b2, b3⟩ | ⟨b0, b1, b2⟩
      · rw [a2, b3] at e
        exact absurd e (hn q i hq a1)
      · rw [a2, b2] at e
        exact y1 q i q' i' hq hq' a1 b1 e
  · have hi : (i : Int) < S.1 6 := hi
    have k := y2 i hi
    refine ⟨k.1, fun tt l hl => ?_⟩
    have b := hr i hi l hl
    rw [lo, if_neg (by omega)]
    exact k.2 tt l hl
