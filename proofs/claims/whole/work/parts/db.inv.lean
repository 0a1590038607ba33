/-! what holds of every World: of each LOT, of each thing -/
def I_L (z : Nat → Int) (l : w_L) : Prop := (s_fb l.2.1 ∧ l.2.2.1.length ≤ 8) ∧ (∀ c ∈ l.2.2.1, 0 ≤ c ∧ c < z 2) ∧ (o_fine (z 1) l.2.2.2 ∧ o_sum l.2.2.2 = 1) ∧ (∀ q ∈ l.2.2.2, q.2.2 ≤ 1000000) ∧ l.2.2.2.length ≤ 8
def I_sl (V : Nat → v_D) (z : Nat → Int) (t : w_T) : Prop := x_sok V (z, (fun _ => w_Ln), (fun _ => w_Tn), 0) t ∧ o_psum (V (t.1 11).toNat).2.2.2.1 = 1
def I_T (V : Nat → v_D) (U : Nat → Prop) (z : Nat → Int) (s : Nat) (t : w_T) : Prop := (t.1 5 < z 1 ∧ (s ≠ 1 → s ≠ 3 → 0 ≤ t.1 5)) ∧ ((∀ l ∈ t.2.1, 0 ≤ l ∧ l < z 0) ∧ ∀ l ∈ t.2.2, 0 ≤ l ∧ l < z (if s = 7 then 1 else 0)) ∧ (s = 2 → 0 ≤ t.1 6 ∧ t.1 6 ≤ 999999) ∧ (s = 3 → t.1 5 = -1) ∧ (s = 5 → t.1 2 = 0 → t.2.1.length = 1) ∧ (s = 7 → I_sl V z t) ∧ (2 ≤ s → U (t.1 11).toNat)
def I_P (V : Nat → v_D) (U : Nat → Prop) (S : w_S) : Prop := R_z S ∧ (∀ i : Nat, (i : Int) < S.1 0 → I_L S.1 (w_l S i)) ∧ ∀ s i : Nat, 1 ≤ s → s < 8 → (i : Int) < S.1 s → I_T V U S.1 s (w_t S s i)
theorem I_P_rg {V : Nat → v_D} {U : Nat → Prop} {S : w_S} (h : I_P V U S) : w_rg S := by
  refine ⟨fun i hi => ?_, fun s i s1 s8 hi => ?_⟩
  · have k := h.2.1 i hi
    refine ⟨k.1.1, k.2.1, fun q hq => (k.2.2.1.1 q hq).1, fun q hq => ?_⟩
    have f := k.2.2.1.1 q hq
    exact ⟨f.2.1, o_le k.2.2.1.1 k.2.2.1.2 q hq, f.2.2.1, k.2.2.2.1 q hq⟩
  · have k := h.2.2 s i s1 s8 hi
    exact ⟨k.1, k.2.1.1, k.2.1.2⟩
theorem I_L_up {z z' : Nat → Int} {l : w_L} (h : I_L z l) (hz : ∀ s, s < 8 → z s ≤ z' s) : I_L z' l := by
  obtain ⟨h1, h2, ⟨h3, h3'⟩, h4, h5⟩ := h
  have z1 := hz 1 (by omega)
  have z2 := hz 2 (by omega)
  exact ⟨h1, fun c hc => ⟨(h2 c hc).1, by have := (h2 c hc).2; omega⟩, ⟨fun q hq => ⟨⟨(h3 q hq).1.1, by have := (h3 q hq).1.2; omega⟩, (h3 q hq).2⟩, h3'⟩, h4, h5⟩
theorem I_T_up {V : Nat → v_D} {U : Nat → Prop} {z z' : Nat → Int} {s : Nat} {t : w_T} (h : I_T V U z s t) (hz : ∀ s, s < 8 → z s ≤ z' s) : I_T V U z' s t := by
  obtain ⟨h1, ⟨h2, h3⟩, h4, h5, h6, h7, h8⟩ := h
  have z0 := hz 0 (by omega)
  have z1 := hz 1 (by omega)
  refine ⟨⟨by omega, h1.2⟩, ⟨fun l hl => ⟨(h2 l hl).1, by have := (h2 l hl).2; omega⟩, fun l hl => ?_⟩, h4, h5, h6, fun e => ?_, h8⟩
  · have k := h3 l hl
    refine ⟨k.1, ?_⟩
    by_cases c : s = 7
    · rw [if_pos c] at k ⊢; omega
    · rw [if_neg c] at k ⊢; omega
  · obtain ⟨⟨a1, a2, a3, a4, a5, a6, a7, a8⟩, a9⟩ := h7 e
    exact ⟨⟨a1, a2, a3, a4, a5, a6, a7, a8.1, by have k := a8.2; show _ < z' 0; change _ < z 0 at k; omega⟩, a9⟩
theorem P_setT {V : Nat → v_D} {U : Nat → Prop} {S : w_S} {s i : Nat} {t : w_T} (h : I_P V U S) (hs : 1 ≤ s ∧ s < 8) (hi : (i : Int) < S.1 s) (ht : I_T V U S.1 s t) : I_P V U (w_setT S (w_F s + i) t) := by
  refine ⟨h.1, h.2.1, fun r j r1 r8 hj => ?_⟩
  have hj : (j : Int) < S.1 r := hj
  rw [w_t_set hs ⟨r1, r8⟩ (R_lt h.1 hs.2 hi) (R_lt h.1 r8 hj)]
  by_cases c : r = s ∧ j = i
  · rw [if_pos c, c.1]; exact ht
  · rw [if_neg c]; exact h.2.2 r j r1 r8 hj
theorem P_setL {V : Nat → v_D} {U : Nat → Prop} {S : w_S} {i : Nat} {l : w_L} (h : I_P V U S) (hl : I_L S.1 l) : I_P V U (w_setL S i l) := by
  refine ⟨h.1, fun j hj => ?_, h.2.2⟩
  show I_L S.1 (s_fu S.2.1 i l j)
  unfold s_fu
  split
  · exact hl
  · exact h.2.1 j hj
theorem P_addT {V : Nat → v_D} {U : Nat → Prop} {S : w_S} {s : Nat} {t : w_T} (h : I_P V U S) (hs : 1 ≤ s ∧ s < 8) (hf : S.1 s < w_mx s) (ht : I_T V U (w_addT S s t).1 s t) : I_P V U (w_addT S s t) := by
  have up : ∀ r, r < 8 → S.1 r ≤ (w_addT S s t).1 r := fun r _ => by
    rw [w_z_add]
    split
    · next c => rw [c]; omega
    · omega
  have hz := h.1 s hs.2
  refine ⟨fun r hr => ?_, fun i hi => ?_, fun r j r1 r8 hj => ?_⟩
  · have := h.1 r hr
    rw [w_z_add]
    split
    · next c => subst c; omega
    · exact this
  · have e : (w_addT S s t).1 0 = S.1 0 := by rw [w_z_add, if_neg (by omega)]
    rw [e] at hi
    exact I_L_up (h.2.1 i hi) up
  · have jm : j < w_mx r := by
      have := h.1 r r8
      rw [w_z_add] at hj
      split at hj
      · next c => subst c; omega
      · omega
    rw [w_t_add hs ⟨r1, r8⟩ (by omega) jm]
    by_cases c : r = s ∧ j = (S.1 s).toNat
    · rw [if_pos c, c.1]; exact ht
    · rw [if_neg c]
      refine I_T_up (h.2.2 r j r1 r8 ?_) up
      rw [w_z_add] at hj
      split at hj
      · next e => subst e; omega
      · exact hj
theorem P_map {V : Nat → v_D} {U : Nat → Prop} {S : w_S} {lo hi : Nat} {f : Nat → w_T → w_T} (h : I_P V U S) (hf : ∀ s i : Nat, lo ≤ s → s ≤ hi → s < 8 → (i : Int) < S.1 s → I_T V U S.1 s (w_t S s i) → I_T V U S.1 s (f s (w_t S s i))) : I_P V U (w_map S lo hi f) := by
  refine ⟨h.1, h.2.1, fun s i s1 s8 hj => ?_⟩
  have hj : (i : Int) < S.1 s := hj
  rw [w_map_at h.1 ⟨s1, s8⟩ hj]
  split
  · next c => exact hf s i c.1 c.2 s8 hj (h.2.2 s i s1 s8 hj)
  · exact h.2.2 s i s1 s8 hj
theorem P_d {V : Nat → v_D} {U : Nat → Prop} {S : w_S} {day : Int} (h : I_P V U S) : I_P V U (d_set S day) := h
theorem I_T_cg {V : Nat → v_D} {U : Nat → Prop} {z : Nat → Int} {s : Nat} {t t' : w_T} (h : I_T V U z s t) (e2 : t'.2 = t.2) (h2 : t'.1 2 = 0 → t.1 2 = 0) (e : ∀ k, k = 4 ∨ k = 11 ∨ k = 12 ∨ k = 13 → t'.1 k = t.1 k) (h5 : t'.1 5 = t.1 5 ∨ (s ≠ 3 ∧ 0 ≤ t'.1 5 ∧ t'.1 5 < z 1)) (h6 : t'.1 6 = t.1 6 ∨ (0 ≤ t'.1 6 ∧ t'.1 6 ≤ 999999)) : I_T V U z s t' := by
  obtain ⟨g1, g2, g3, g4, g5, g6, g7⟩ := h
  refine ⟨?_, by rw [e2]; exact g2, fun z => ?_, fun z => ?_, fun a b => by rw [e2]; exact g5 a (h2 b), fun z => ?_, fun z => by rw [e 11 (by omega)]; exact g7 z⟩
  · rcases h5 with q | q
    · rw [q]; exact g1
    · exact ⟨q.2.2, fun _ _ => q.2.1⟩
  · rcases h6 with q | q
    · rw [q]; exact g3 z
    · exact q
  · rcases h5 with q | q
    · rw [q]; exact g4 z
    · exact absurd z q.1
  · have k := g6 z
    unfold I_sl x_sok at *
    rw [e 4 (by omega), e 11 (by omega), e 12 (by omega), e 13 (by omega), e2]
    exact k
/-- a scalar of a thing -/
theorem P_put {V : Nat → v_D} {U : Nat → Prop} {S : w_S} {s i k : Nat} {v : Int} (h : I_P V U S) (hs : 1 ≤ s ∧ s < 8) (hi : (i : Int) < S.1 s) (hk : (k = 2 ∧ v ≠ 0) ∨ k = 8 ∨ (k = 5 ∧ s ≠ 3 ∧ 0 ≤ v ∧ v < S.1 1) ∨ (k = 6 ∧ 0 ≤ v ∧ v ≤ 999999)) : I_P V U (w_put S (w_F s + i) k v) := by
  refine P_setT h hs hi ?_
  have ht : I_T V U S.1 s (w_t S s i) := h.2.2 s i hs.1 hs.2 hi
  have g : ∀ j, j ≠ k → s_fu (S.2.2.1 (w_F s + i)).1 k v j = (w_t S s i).1 j := fun j hj => s_fu_ne hj
  have g0 : s_fu (S.2.2.1 (w_F s + i)).1 k v k = v := s_fu_eq
  refine I_T_cg ht rfl (fun z => ?_) (fun j hj => g j (by omega)) ?_ ?_
  · by_cases c : k = 2
    · exfalso
      have : v ≠ 0 := by omega
      subst c
      change s_fu (S.2.2.1 (w_F s + i)).1 2 v 2 = 0 at z
      rw [g0] at z
      exact this z
    · change s_fu (S.2.2.1 (w_F s + i)).1 k v 2 = 0 at z
      rw [g 2 (fun w => c w.symm)] at z
      exact z
  · by_cases c : k = 5
    · refine Or.inr ?_
      have : k = 5 ∧ s ≠ 3 ∧ 0 ≤ v ∧ v < S.1 1 := by omega
      subst c
      show s ≠ 3 ∧ 0 ≤ s_fu (S.2.2.1 (w_F s + i)).1 5 v 5 ∧ s_fu (S.2.2.1 (w_F s + i)).1 5 v 5 < S.1 1
      rw [g0]; exact this.2
    · exact Or.inl (g 5 (fun z => c z.symm))
  · by_cases c : k = 6
    · refine Or.inr ?_
      have : 0 ≤ v ∧ v ≤ 999999 := by omega
      subst c
      show 0 ≤ s_fu (S.2.2.1 (w_F s + i)).1 6 v 6 ∧ s_fu (S.2.2.1 (w_F s + i)).1 6 v 6 ≤ 999999
      rw [g0]; exact this
    · exact Or.inl (g 6 (fun z => c z.symm))
/-- a thing's LOTS (not a CAUTION's, not a SALE's) -/
theorem P_lts {V : Nat → v_D} {U : Nat → Prop} {S : w_S} {s i : Nat} {r : List Int} (h : I_P V U S) (hs : 1 ≤ s ∧ s < 8) (hi : (i : Int) < S.1 s) (h57 : s ≠ 5 ∧ s ≠ 7) (hr : ∀ l ∈ r, 0 ≤ l ∧ l < S.1 0) : I_P V U (w_lts S (w_F s + i) r) := by
  refine P_setT h hs hi ?_
  obtain ⟨h1, h2, h3, h4, h5, h6, h7⟩ : I_T V U S.1 s (w_t S s i) := h.2.2 s i hs.1 hs.2 hi
  exact ⟨h1, ⟨hr, h2.2⟩, h3, h4, fun z => absurd z h57.1, fun z => absurd z h57.2, h7⟩
theorem r_del_le {l : List Int} {x : Int} : (r_del l x).length ≤ l.length := by
  rw [r_del_len]
  split <;> omega
theorem r_ins_le {l : List Int} {k x : Int} (h : l.length ≤ 8) : (r_ins l k x).length ≤ 8 := by
  unfold r_ins
  split
  · exact h
  · rw [r_in_len]; omega
theorem P_chg {V : Nat → v_D} {U : Nat → Prop} {S : w_S} {l : Nat} {r : List Int} (h : I_P V U S) (hl : (l : Int) < S.1 0) (h8 : r.length ≤ 8) (hr : ∀ c ∈ r, 0 ≤ c ∧ c < S.1 2) : I_P V U (w_chg S l r) := by
  refine P_setL h ?_
  have k := h.2.1 l hl
  exact ⟨⟨k.1.1, h8⟩, hr, k.2.2⟩
theorem P_ows {V : Nat → v_D} {U : Nat → Prop} {S : w_S} {l : Nat} {o : s_Own} (h : I_P V U S) (hl : (l : Int) < S.1 0) (h1 : o_fine (S.1 1) o ∧ o_sum o = 1) (h2 : ∀ q ∈ o, q.2.2 ≤ 1000000) (h3 : o.length ≤ 8) : I_P V U (w_ows S l o) := by
  refine P_setL h ?_
  have k := h.2.1 l hl
  exact ⟨k.1, k.2.1, h1, h2, h3⟩
theorem P_lpt {V : Nat → v_D} {U : Nat → Prop} {S : w_S} {l k : Nat} {v : Int} (h : I_P V U S) (hl : (l : Int) < S.1 0) : I_P V U (w_lpt S l k v) := P_setL h (h.2.1 l hl)
theorem P_fgs {V : Nat → v_D} {U : Nat → Prop} {S : w_S} {l : Nat} {f : s_Fig} (h : I_P V U S) (hl : (l : Int) < S.1 0) (hf : s_fb f) : I_P V U (w_fgs S l f) := by
  refine P_setL h ?_
  have k := h.2.1 l hl
  exact ⟨⟨hf, k.1.2⟩, k.2⟩
theorem P_leave {V : Nat → v_D} {U : Nat → Prop} {S : w_S} {s i : Nat} {l : Int} (h : I_P V U S) (hs : 1 ≤ s ∧ s < 8) (hi : (i : Int) < S.1 s) (h57 : s ≠ 5 ∧ s ≠ 7) : I_P V U (w_leave S (w_F s + i) l) := by
  have k := (h.2.2 s i hs.1 hs.2 hi).2.1.1
  have g := P_lts (r := r_del (S.2.2.1 (w_F s + i)).2.1 l) h hs hi h57 (fun x hx => k x (r_del_sub hx))
  unfold w_leave
  split
  · exact P_put g hs hi (Or.inl ⟨rfl, by decide⟩)
  · exact g
theorem P_free {V : Nat → v_D} {U : Nat → Prop} {S : w_S} {l c : Nat} (h : I_P V U S) (hl : (l : Int) < S.1 0) (hc : (c : Int) < S.1 2) : I_P V U (w_free S l c) := P_leave (P_chg h hl (Nat.le_trans r_del_le (h.2.1 l hl).1.2) (fun x hx => (h.2.1 l hl).2.1 x (r_del_sub hx))) ⟨by omega, by omega⟩ hc ⟨by omega, by omega⟩
theorem P_dels {V : Nat → v_D} {U : Nat → Prop} {c : Int} : ∀ {ls : List Int} {S : w_S}, I_P V U S → (∀ l ∈ ls, 0 ≤ l ∧ l < S.1 0) → I_P V U (w_dels S c ls)
  | [], _, h, _ => h
  | x :: ls, S, h, hl => by
    have hx := hl x (List.mem_cons_self ..)
    exact P_dels (ls := ls) (P_chg h (by omega) (Nat.le_trans r_del_le (h.2.1 x.toNat (by omega)).1.2) (fun y hy => (h.2.1 x.toNat (by omega)).2.1 y (r_del_sub hy))) (fun y hy => hl y (List.mem_cons_of_mem _ hy))
theorem P_endc {V : Nat → v_D} {U : Nat → Prop} {S : w_S} {c : Nat} (h : I_P V U S) (hc : (c : Int) < S.1 2) : I_P V U (w_endc S c) := by
  have k := (h.2.2 2 c (by omega) (by omega) hc).2.1.1
  have g := P_dels (c := (c : Int)) h k
  have ez : (w_dels S (c : Int) (w_t S 2 c).2.1).1 = S.1 := (w_dels_t (c := (c : Int)) (ls := (S.2.2.1 (w_F 2 + c)).2.1) (S := S)).2
  have hc' : (c : Int) < (w_dels S (c : Int) (w_t S 2 c).2.1).1 2 := by rw [ez]; exact hc
  exact P_put (P_lts g ⟨by omega, by omega⟩ hc' ⟨by omega, by omega⟩ (fun l hl => by cases hl)) ⟨by omega, by omega⟩ hc' (Or.inl ⟨rfl, by decide⟩)
theorem P_auc {V : Nat → v_D} {U : Nat → Prop} {l f : Nat} : ∀ {k : Nat} {S : w_S} {left : Int}, I_P V U S → (l : Int) < S.1 0 → 0 ≤ left → I_P V U (w_auc l f k S left) ∧ (w_auc l f k S left).1 = S.1
  | 0, _, _, h, _, _ => ⟨h, rfl⟩
  | k + 1, S, left, h, hl, h0 => by
    unfold w_auc
    split
    · exact ⟨h, rfl⟩
    · next c =>
      have hm : (S.2.1 l).2.2.1[f]?.getD 0 ∈ (w_l S l).2.2.1 := by
        rw [List.getElem?_eq_getElem (by omega)]
        exact List.getElem_mem _
      have hr := (h.2.1 l hl).2.1 _ hm
      generalize (S.2.1 l).2.2.1[f]?.getD 0 = x at *
      have hx : (x.toNat : Int) < S.1 2 := by omega
      have am := (h.2.2 2 x.toNat (by omega) (by omega) hx).2.2.1 rfl
      have mn : 0 ≤ e_min left ((w_t S 2 x.toNat).1 6) ∧ e_min left ((w_t S 2 x.toNat).1 6) ≤ left ∧ e_min left ((w_t S 2 x.toNat).1 6) ≤ (w_t S 2 x.toNat).1 6 := by unfold e_min; split <;> omega
      dsimp only
      generalize e_min left ((w_t S 2 x.toNat).1 6) = part at *
      have g1 := P_put (k := 6) (v := (w_t S 2 x.toNat).1 6 - part) h ⟨by omega, by omega⟩ hx (Or.inr (Or.inr (Or.inr ⟨rfl, by omega, by omega⟩)))
      have g2 := P_free (l := l) (c := x.toNat) g1 hl hx
      have z2 : (w_free (w_put S (w_F 2 + x.toNat) 6 ((w_t S 2 x.toNat).1 6 - part)) l x.toNat).1 = S.1 := by
        unfold w_free
        rw [w_leave_eq]; rfl
      split
      · have g3 := P_endc (c := x.toNat) g2 (by rw [z2]; exact hx)
        have z3 := w_endc_z (S := w_free (w_put S (w_F 2 + x.toNat) 6 ((w_t S 2 x.toNat).1 6 - part)) l x.toNat) (c := x.toNat)
        have ih := P_auc (l := l) (f := f) (k := k) (left := left - part) g3 (by rw [z3, z2]; exact hl) (by omega)
        exact ⟨ih.1, by rw [ih.2, z3, z2]⟩
      · have ih := P_auc (l := l) (f := f) (k := k) (left := left - part) g2 (by rw [z2]; exact hl) (by omega)
        exact ⟨ih.1, by rw [ih.2, z2]⟩
