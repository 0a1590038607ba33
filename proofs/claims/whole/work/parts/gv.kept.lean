/-! kept by every ACT: OWNERS are told apart, rows too, a SERVE's LOTS have its POINTS -/
def o_nd (l : s_Own) : Prop := (l.map (fun q => q.1)).Nodup
theorem nd_snoc {α : Type} {x : α} : ∀ {l : List α}, l.Nodup → x ∉ l → (l ++ [x]).Nodup
  | [], _, _ => List.nodup_cons.mpr ⟨by simp, List.nodup_nil⟩
  | a :: l, h, n => by
    rw [List.nodup_cons] at h
    show (a :: (l ++ [x])).Nodup
    rw [List.nodup_cons]
    refine ⟨fun z => ?_, nd_snoc h.2 (fun z => n (List.mem_cons_of_mem _ z))⟩
    rcases List.mem_append.mp z with z | z
    · exact h.1 z
    · exact n (by rw [List.mem_singleton.mp z]; exact List.mem_cons_self ..)
theorem map_set_fst {β : Type} : ∀ {l : List (Int × β)} {i : Nat} {q : Int × β} {b : β}, l[i]? = some q → (l.set i (q.1, b)).map (fun q => q.1) = l.map (fun q => q.1)
  | [], _, _, _, h => by cases h
  | a :: l, 0, q, b, h => by
    have e : a = q := Option.some.inj h
    rw [e]; rfl
  | a :: l, i + 1, q, b, h => by
    show a.1 :: (l.set i (q.1, b)).map (fun q => q.1) = a.1 :: l.map (fun q => q.1)
    rw [map_set_fst (show l[i]? = some q from h)]
theorem o_add_nd {l : s_Own} {i : Nat} {t b : Int} (h : o_nd l) : o_nd (o_add l i t b) := by
  unfold o_add
  split
  · next q hq => unfold o_nd; rw [map_set_fst hq]; exact h
  · exact h
theorem o_give_nd {l : s_Own} {p t b : Int} (h : o_nd l) : o_nd (o_give l p t b) := by
  unfold o_give
  by_cases c : 0 ≤ o_fd l p
  · rw [if_pos c]; exact o_add_nd h
  · rw [if_neg c]
    by_cases d : 14 ≤ l.length
    · rw [if_pos d]; exact h
    · rw [if_neg d]
      refine o_add_nd ?_
      unfold o_nd
      rw [List.map_append]
      exact nd_snoc h (fun z => c (r_find_mem.mpr z))
theorem o_era_nd {l : s_Own} {i : Nat} (h : o_nd l) : o_nd (l.eraseIdx i) := List.Pairwise.sublist ((List.eraseIdx_sublist l i).map _) h
theorem o_sub_nd {l : s_Own} {i : Nat} {t b : Int} (h : o_nd l) : o_nd (o_sub l i t b) := by
  unfold o_sub
  split
  · next q hq =>
    split
    · exact o_era_nd h
    · unfold o_nd; rw [map_set_fst hq]; exact h
  · exact h
theorem o_pts_nd {r : Nat → Int} {t b : Int} : ∀ {ps : List (Int × Int)} {k : Nat} {o : s_Own}, o_nd o → o_nd (o_pts r t b k ps o)
  | [], _, _, h => h
  | p :: ps, k, o, h => o_pts_nd (ps := ps) (k := k + 1) (o_give_nd h)
theorem o_tkf_nd : ∀ {gs : List (Int × Int × Int)} {o : s_Own}, o_nd o → o_nd (o_tkf gs o)
  | [], _, h => h
  | _ :: gs, _, h => o_tkf_nd (gs := gs) (o_sub_nd h)
theorem o_heirs_nd {o : s_Own} {q : Int × Int × Int} {dead : Int} {r : Nat → Int} {ps : List (Int × Int)} (h : o_nd o) : o_nd (o_heirs o q dead r ps) := by
  unfold o_heirs
  refine o_pts_nd ?_
  split
  · exact o_give_nd (o_era_nd h)
  · exact o_era_nd h
/-! what a step may do -/
def K_t (s : Nat) (t t' : w_T) : Prop := t'.1 11 = t.1 11 ∧ (s = 3 → (t'.2.2 = t.2.2 ∧ t'.1 3 = t.1 3) ∧ (t'.1 2 = 0 → t.1 2 = 0)) ∧ (s ≠ 2 → t.2.1.Nodup → t'.2.1.Nodup) ∧ (t.2.2.Nodup → t'.2.2.Nodup)
theorem K_t_r {s : Nat} {t : w_T} : K_t s t t := ⟨rfl, fun _ => ⟨⟨rfl, rfl⟩, fun h => h⟩, fun _ h => h, fun h => h⟩
theorem K_t_t {s : Nat} {t u v : w_T} (h : K_t s t u) (k : K_t s u v) : K_t s t v := ⟨k.1.trans h.1, fun e => ⟨⟨(k.2.1 e).1.1.trans (h.2.1 e).1.1, (k.2.1 e).1.2.trans (h.2.1 e).1.2⟩, fun z => (h.2.1 e).2 ((k.2.1 e).2 z)⟩, fun e z => k.2.2.1 e (h.2.2.1 e z), fun z => k.2.2.2 (h.2.2.2 z)⟩
def K_w (S S' : w_S) : Prop := H_eq S S' ∧ S'.1 = S.1 ∧ (∀ i : Nat, o_nd (S.2.1 i).2.2.2 → o_nd (S'.2.1 i).2.2.2) ∧ ∀ s i : Nat, 2 ≤ s → s ≤ 6 → (i : Int) < S.1 s → K_t s (w_t S s i) (w_t S' s i)
theorem K_w_r {S : w_S} : K_w S S := ⟨Ge_refl, rfl, fun _ h => h, fun _ _ _ _ _ => K_t_r⟩
theorem K_w_t {S T U : w_S} (h : K_w S T) (k : K_w T U) : K_w S U := ⟨Ge_trans h.1 k.1, k.2.1.trans h.2.1, fun i z => k.2.2.1 i (h.2.2.1 i z), fun s i s2 s6 hi => K_t_t (h.2.2.2 s i s2 s6 hi) (k.2.2.2 s i s2 s6 (by rw [h.2.1]; exact hi))⟩
theorem K_z {S T : w_S} (h : K_w S T) (hz : R_z S) : R_z T := fun s hs => by rw [h.2.1]; exact hz s hs
theorem K_setL {S : w_S} {i : Nat} {l : w_L} (h1 : l.2.1 = (S.2.1 i).2.1) (h2 : l.1 1 = (S.2.1 i).1 1) (h3 : o_nd (S.2.1 i).2.2.2 → o_nd l.2.2.2) : K_w S (w_setL S i l) := by
  refine ⟨Ge_setL h1 h2, rfl, fun j hj => ?_, fun _ _ _ _ _ => K_t_r⟩
  show o_nd (s_fu S.2.1 i l j).2.2.2
  unfold s_fu
  by_cases c : j = i
  · rw [if_pos c]; rw [c] at hj; exact h3 hj
  · rw [if_neg c]; exact hj
theorem K_chg {S : w_S} {i : Nat} {r : List Int} : K_w S (w_chg S i r) := K_setL rfl rfl (fun h => h)
theorem K_ows {S : w_S} {i : Nat} {o : s_Own} (h : o_nd (S.2.1 i).2.2.2 → o_nd o) : K_w S (w_ows S i o) := K_setL rfl rfl h
theorem K_lpt {S : w_S} {i k : Nat} {v : Int} (hk : k ≠ 1) : K_w S (w_lpt S i k v) := K_setL rfl (s_fu_ne (by omega)) (fun h => h)
theorem K_setT {S : w_S} {j : Nat} {t : w_T} (h : ∀ s, K_t s (S.2.2.1 j) t) : K_w S (w_setT S j t) := by
  refine ⟨⟨rfl, fun _ => ⟨rfl, rfl⟩⟩, rfl, fun _ h => h, fun s i _ _ _ => ?_⟩
  show K_t s (S.2.2.1 (w_F s + i)) (s_fu S.2.2.1 j t (w_F s + i))
  unfold s_fu
  by_cases c : w_F s + i = j
  · rw [if_pos c, c]; exact h s
  · rw [if_neg c]; exact K_t_r
theorem K_put {S : w_S} {j k : Nat} {v : Int} (hk : k ≠ 11 ∧ k ≠ 3) (h2 : k = 2 → v ≠ 0) : K_w S (w_put S j k v) := K_setT (fun s => ⟨s_fu_ne (by omega), fun _ => ⟨⟨rfl, s_fu_ne (by omega)⟩, fun z => by
  have z : s_fu (S.2.2.1 j).1 k v 2 = 0 := z
  by_cases c : k = 2
  · subst c
    rw [s_fu_eq] at z
    exact absurd z (h2 rfl)
  · rw [s_fu_ne (by omega)] at z
    exact z⟩, fun _ h => h, fun h => h⟩)
theorem K_lts {S : w_S} {j : Nat} {r : List Int} (h : (S.2.2.1 j).2.1.Nodup → r.Nodup) : K_w S (w_lts S j r) := K_setT (fun s => ⟨rfl, fun _ => ⟨⟨rfl, rfl⟩, fun z => z⟩, fun _ => h, fun h => h⟩)
theorem K_lts2 {S : w_S} {c : Nat} {r : List Int} (hz : R_z S) (hc : c < w_mx 2) : K_w S (w_lts S (w_F 2 + c) r) := by
  refine ⟨⟨rfl, fun _ => ⟨rfl, rfl⟩⟩, rfl, fun _ h => h, fun s i s2 s6 hi => ?_⟩
  have e : w_t (w_lts S (w_F 2 + c) r) s i = if s = 2 ∧ i = c then ((S.2.2.1 (w_F 2 + c)).1, r, (S.2.2.1 (w_F 2 + c)).2.2) else w_t S s i := w_t_set (by omega) (by omega) hc (R_lt hz (by omega) hi)
  rw [e]
  by_cases k : s = 2 ∧ i = c
  · rw [if_pos k]
    obtain ⟨k1, k2⟩ := k
    subst k1 k2
    exact ⟨rfl, fun z => by omega, fun z => absurd rfl z, fun h => h⟩
  · rw [if_neg k]; exact K_t_r
theorem K_map {S : w_S} {lo up : Nat} {f : Nat → w_T → w_T} (hz : R_z S) (hf : ∀ s t, K_t s t (f s t)) : K_w S (w_map S lo up f) := by
  refine ⟨Ge_map, rfl, fun _ h => h, fun s i s2 s6 hi => ?_⟩
  rw [w_map_at hz (by omega) hi]
  by_cases c : lo ≤ s ∧ s ≤ up
  · rw [if_pos c]; exact hf s _
  · rw [if_neg c]; exact K_t_r
theorem K_hs {S : w_S} {dead : Int} {r : Nat → Int} {ps : List (Int × Int)} {k : Nat} : K_w S (w_hs S dead r ps k) := by
  refine ⟨Ge_hs, rfl, fun i h => ?_, fun _ _ _ _ _ => K_t_r⟩
  show o_nd (if i < k then (match l_heir (S.2.1 i) dead r ps with | some o => ((S.2.1 i).1, (S.2.1 i).2.1, (S.2.1 i).2.2.1, o) | none => S.2.1 i) else S.2.1 i).2.2.2
  split
  · cases e : l_heir (S.2.1 i) dead r ps with
    | none => exact h
    | some o =>
      show o_nd o
      unfold l_heir at e
      split at e
      · obtain ⟨q, hq, eo⟩ := Option.map_eq_some_iff.mp e
        rw [← eo]; exact o_heirs_nd h
      · cases e
  · exact h
theorem K_dels {c : Int} : ∀ {ls : List Int} {S : w_S}, K_w S (w_dels S c ls)
  | [], _ => K_w_r
  | l :: ls, S => K_w_t (K_chg (S := S) (i := l.toNat) (r := r_del (S.2.1 l.toNat).2.2.1 c)) (K_dels (ls := ls))
theorem K_endc {S : w_S} {c : Nat} : K_w S (w_endc S c) := K_w_t (K_w_t K_dels (K_lts (fun _ => List.nodup_nil))) (K_put (by omega) (fun _ => by omega))
theorem K_leave {S : w_S} {j : Nat} {l : Int} : K_w S (w_leave S j l) := by
  unfold w_leave
  split
  · exact K_w_t (K_lts (fun h => r_del_nodup h)) (K_put (by omega) (fun _ => by omega))
  · exact K_lts (fun h => r_del_nodup h)
theorem K_free {S : w_S} {l c : Nat} : K_w S (w_free S l c) := K_w_t K_chg K_leave
theorem K_chst {J c : Nat} {x : Int} (eJ : J = w_F 2 + c) (hc : c < w_mx 2) : ∀ {ls : List Int} {S : w_S}, R_z S → K_w S (ls.foldl (w_chst J x) S)
  | [], _, _ => K_w_r
  | l :: ls, S, hz => by
    have k : K_w S (w_chst J x S l) := by
      unfold w_chst
      rw [eJ]
      exact K_w_t (K_lts2 hz hc) K_chg
    exact K_w_t k (K_chst eJ hc (K_z k hz))
theorem K_auc {l f : Nat} : ∀ {k : Nat} {S : w_S} {left : Int}, K_w S (w_auc l f k S left)
  | 0, _, _ => K_w_r
  | k + 1, S, left => by
    unfold w_auc
    split
    · exact K_w_r
    · refine K_w_t ?_ (K_auc (k := k))
      split
      · exact K_w_t (K_w_t (K_put (by omega) (fun z => by omega)) K_free) K_endc
      · exact K_w_t (K_put (by omega) (fun z => by omega)) K_free
theorem K_ends {dead heir : Int} {s : Nat} {t : w_T} : K_t s t (t_ends dead heir s t) := by
  have e1 : ∀ k, k ≠ 5 → s_fu t.1 5 heir k = t.1 k := fun k hk => s_fu_ne hk
  have e2 : ∀ k, k ≠ 2 → s_fu t.1 2 1 k = t.1 k := fun k hk => s_fu_ne hk
  unfold t_ends
  by_cases c : t.1 5 = dead
  · rw [if_pos c]
    by_cases s2 : s = 2
    · rw [if_pos s2]
      exact ⟨e1 11 (by omega), fun z => by omega, fun _ h => h, fun h => h⟩
    · rw [if_neg s2]
      refine ⟨e2 11 (by omega), fun _ => ⟨⟨rfl, e2 3 (by omega)⟩, fun z => ?_⟩, fun _ h => h, fun h => h⟩
      have z : s_fu t.1 2 1 2 = 0 := z
      rw [s_fu_eq] at z
      omega
  · rw [if_neg c]; exact K_t_r
theorem K_clr {sold made day : Int} {s : Nat} {t : w_T} : K_t s t (t_clr sold made day s t) := by
  unfold t_clr
  split
  · unfold t_leave
    refine ⟨?_, fun _ => ⟨⟨rfl, ?_⟩, fun z => ?_⟩, fun _ h => r_del_nodup h, fun h => h⟩
    · show (if (r_del t.2.1 sold).length = 0 then s_fu t.1 2 1 else t.1) 11 = t.1 11
      split
      · exact s_fu_ne (by omega)
      · rfl
    · show (if (r_del t.2.1 sold).length = 0 then s_fu t.1 2 1 else t.1) 3 = t.1 3
      split
      · exact s_fu_ne (by omega)
      · rfl
    · have z : (if (r_del t.2.1 sold).length = 0 then s_fu t.1 2 1 else t.1) 2 = 0 := z
      split at z
      · rw [s_fu_eq] at z; omega
      · exact z
  · exact K_t_r
theorem K_auction {S : w_S} {l f : Nat} {p num made : Int} (hz : R_z S) : K_w S (w_auction S l f p num made) := by
  have k : K_w S (w_auc l f 8 (w_lpt (w_ows S l [(p, 1, 1)]) l 2 num) num) := K_w_t (K_w_t (K_ows (o := [(p, 1, 1)]) (fun _ => show [p].Nodup from List.nodup_cons.mpr ⟨by simp, List.nodup_nil⟩)) (K_lpt (by omega))) K_auc
  exact K_w_t k (K_map (K_z k hz) (fun _ _ => K_clr))
/-- what is kept, besides FIGURES -/
def H_rest (V : Nat → v_D) (S : w_S) : Prop := H_on S ∧ H_nd S ∧ H_sv V S
theorem K_rest {V : Nat → v_D} {S T : w_S} (h : H_rest V S) (k : K_w S T) : H_rest V T := by
  obtain ⟨h1, h2, h3⟩ := h
  obtain ⟨k1, k2, k3, k4⟩ := k
  refine ⟨fun i hi => k3 i (h1 i (by rw [← k2]; exact hi)), fun s i s2 s6 hi => ?_, fun i hi => ?_⟩
  · rw [k2] at hi
    obtain ⟨a1, a2⟩ := h2 s i s2 s6 hi
    have kt := k4 s i s2 s6 hi
    exact ⟨fun n => kt.2.2.1 n (a1 n), kt.2.2.2 a2⟩
  · rw [k2] at hi
    obtain ⟨a1, a2⟩ := h3 i hi
    have kt := k4 3 i (by omega) (by omega) hi
    rw [kt.1, (kt.2.1 rfl).1.1, (kt.2.1 rfl).1.2]
    refine ⟨a1, fun z => ⟨(a2 ((kt.2.1 rfl).2 z)).1, fun l hl => ?_⟩⟩
    rw [(k1.2 l.toNat).1]
    exact (a2 ((kt.2.1 rfl).2 z)).2 l hl
/-- one thing more -/
theorem K_addT {V : Nat → v_D} {S : w_S} {s : Nat} {t : w_T} (h : H_rest V S) (hz : R_z S) (hs : 1 ≤ s ∧ s < 8) (hf : S.1 s < w_mx s) (hn : (2 ≤ s → s ≤ 6 → (s ≠ 2 → t.2.1.Nodup) ∧ t.2.2.Nodup)) (h3 : s = 3 → (s_pb (V (t.1 11).toNat).2.2.2.2 ∧ t.1 3 = 1000000) ∧ t.2.2 ≠ [] ∧ ∀ l ∈ t.2.2, g_hold (S.2.1 l.toNat).2.1 (V (t.1 11).toNat).2.2.2.2 = true) : H_rest V (w_addT S s t) := by
  obtain ⟨h1, h2, h4⟩ := h
  have z0 := (hz s hs.2).1
  have wz : ∀ r, (w_addT S s t).1 r = if r = s then S.1 s + 1 else S.1 r := fun r => w_z_add
  have key : ∀ r i : Nat, 2 ≤ r → r ≤ 6 → (i : Int) < (w_addT S s t).1 r → (r = s ∧ i = (S.1 s).toNat ∧ w_t (w_addT S s t) r i = t) ∨ ((i : Int) < S.1 r ∧ w_t (w_addT S s t) r i = w_t S r i) := fun r i r2 r6 hi => by
    rw [wz] at hi
    by_cases c : r = s ∧ i = (S.1 s).toNat
    · left
      refine ⟨c.1, c.2, ?_⟩
      rw [w_t_add hs (by omega) (by omega) (by rw [c.1, c.2]; omega), if_pos c]
    · right
      have hi' : (i : Int) < S.1 r := by
        by_cases e : r = s
        · subst e
          rw [if_pos rfl] at hi
          have : i ≠ (S.1 r).toNat := fun z => c ⟨rfl, z⟩
          omega
        · rw [if_neg e] at hi; exact hi
      exact ⟨hi', by rw [w_t_add hs (by omega) (by omega) (R_lt hz (by omega) hi'), if_neg c]⟩
  refine ⟨fun i hi => ?_, fun r i r2 r6 hi => ?_, fun i hi => ?_⟩
  · rw [wz, if_neg (by omega)] at hi
    exact h1 i hi
  · rcases key r i r2 r6 hi with ⟨e1, e2, e3⟩ | ⟨e1, e2⟩
    · rw [e3]
      subst e1
      exact hn r2 r6
    · rw [e2]; exact h2 r i r2 r6 e1
  · rcases key 3 i (by omega) (by omega) hi with ⟨e1, e2, e3⟩ | ⟨e1, e2⟩
    · rw [e3]
      obtain ⟨b1, b2, b3⟩ := h3 e1.symm
      exact ⟨b1, fun _ => ⟨b2, b3⟩⟩
    · rw [e2]; exact h4 i e1
