/-! CHARGES and LOTS have one another: a new CHARGE, LOTS parted and joined -/
section acts
variable {V : Nat → v_D} {U : Nat → Prop} {S : w_S} {r : Nat → Int} {d : Nat} {at_ : Int}
theorem C_new {x : w_T} (hp : I_P V U S) (h : I_C S) (hf : S.1 2 < 40) (hx : x.2.1 = []) : I_C (w_addT S 2 x) := by
  have z2 := hp.1 2 (by omega)
  have hm : w_mx 2 = 40 := rfl
  have e0 : (w_addT S 2 x).1 0 = S.1 0 := by rw [w_z_add, if_neg (by omega)]
  have e2 : (w_addT S 2 x).1 2 = S.1 2 + 1 := by rw [w_z_add, if_pos rfl]
  have wt : ∀ c : Nat, (c : Int) < S.1 2 + 1 → w_t (w_addT S 2 x) 2 c = if c = (S.1 2).toNat then x else w_t S 2 c := fun c hc => by
    rw [w_t_add ⟨by omega, by omega⟩ ⟨by omega, by omega⟩ (by omega) (by omega)]
    by_cases q : c = (S.1 2).toNat
    · rw [if_pos ⟨rfl, q⟩, if_pos q]
    · rw [if_neg (fun z => q z.2), if_neg q]
  refine ⟨fun c hc => ?_, fun l hl hg => ?_⟩
  · rw [e2] at hc
    have w := wt c hc
    by_cases q : c = (S.1 2).toNat
    · rw [if_pos q] at w
      unfold I_ch
      rw [w, hx]
      exact ⟨List.nodup_nil, (fun l hl => by cases hl), fun z => absurd rfl z⟩
    · rw [if_neg q] at w
      obtain ⟨a1, a2, a3⟩ := h.1 c (by omega)
      refine ⟨by rw [w]; exact a1, fun l hl => ?_, fun hne => ?_⟩
      · rw [w] at hl
        have k := a2 l hl
        rw [e0]; exact k
      · rw [w] at hne
        show t_thr (w_t (w_addT S 2 x) 2 c) S.2.2.2 = true
        rw [w]; exact a3 hne
  · rw [e0] at hl
    obtain ⟨a1, a2⟩ := h.2 l hl hg
    refine ⟨a1, fun c hc => ?_⟩
    have b := a2 c hc
    have rg := (hp.2.1 l hl).2.1 c hc
    refine ⟨b.1, ?_⟩
    rw [wt c.toNat (by omega), if_neg (by omega)]; exact b.2
theorem C_chst {c : Int} {i : Nat} (ec : c = i) : ∀ {ls : List Int} {Y : w_S}, R_z Y → I_C Y → (i : Int) < Y.1 2 → w_thr Y 2 i = true → ls.Nodup → (w_t Y 2 i).2.1.length + ls.length ≤ 8 → (∀ l ∈ ls, (0 ≤ l ∧ l < Y.1 0) ∧ (w_l Y l.toNat).1 1 = 0 ∧ l ∉ (w_t Y 2 i).2.1 ∧ c ∉ (w_l Y l.toNat).2.2.1 ∧ (w_l Y l.toNat).2.2.1.length < 8) → I_C (ls.foldl (w_chst (w_F 2 + i) c) Y)
  | [], _, _, h, _, _, _, _, _ => h
  | l :: ls, Y, hz, h, hi, ht, hn, h8, hl => by
    obtain ⟨l1, l2, l3, l4, l5⟩ := hl l (List.mem_cons_self ..)
    rw [List.length_cons] at h8
    rw [List.nodup_cons] at hn
    have row : r_add (w_t Y 2 i).2.1 l = (w_t Y 2 i).2.1 ++ [l] := r_add_end (by omega)
    have chg : r_add (w_l Y l.toNat).2.2.1 c = (w_l Y l.toNat).2.2.1 ++ [c] := r_add_end l5
    have wt : ∀ k : Nat, (k : Int) < Y.1 2 → w_t (w_chst (w_F 2 + i) c Y l) 2 k = if k = i then ((w_t Y 2 i).1, (w_t Y 2 i).2.1 ++ [l], (w_t Y 2 i).2.2) else w_t Y 2 k := fun k hk => by
      show w_t (w_setT Y (w_F 2 + i) ((w_t Y 2 i).1, r_add (w_t Y 2 i).2.1 l, (w_t Y 2 i).2.2)) 2 k = _
      rw [w_t_set ⟨by omega, by omega⟩ ⟨by omega, by omega⟩ (R_lt hz (by omega) hi) (R_lt hz (by omega) hk), row]
      by_cases q : k = i
      · rw [if_pos ⟨rfl, q⟩, if_pos q]
      · rw [if_neg (fun z => q z.2), if_neg q]
    have wl : ∀ k : Nat, w_l (w_chst (w_F 2 + i) c Y l) k = if k = l.toNat then ((w_l Y l.toNat).1, (w_l Y l.toNat).2.1, (w_l Y l.toNat).2.2.1 ++ [c], (w_l Y l.toNat).2.2.2) else w_l Y k := fun k => by
      show s_fu Y.2.1 l.toNat ((w_l Y l.toNat).1, (w_l Y l.toNat).2.1, r_add (w_l Y l.toNat).2.2.1 c, (w_l Y l.toNat).2.2.2) k = _
      rw [chg]; rfl
    have ez : (w_chst (w_F 2 + i) c Y l).1 = Y.1 := rfl
    have sub : ∀ {q : Nat} {x : Int}, x ∈ (w_l Y q).2.2.1 → x ∈ (w_l (w_chst (w_F 2 + i) c Y l) q).2.2.1 := fun {q x} hx => by
      rw [wl]
      split
      · next e => rw [e] at hx; exact List.mem_append.mpr (Or.inl hx)
      · exact hx
    have subr : ∀ {k : Nat} {x : Int}, (k : Int) < Y.1 2 → x ∈ (w_t Y 2 k).2.1 → x ∈ (w_t (w_chst (w_F 2 + i) c Y l) 2 k).2.1 := fun {k x} hk hx => by
      rw [wt k hk]
      split
      · next e => rw [e] at hx; exact List.mem_append.mpr (Or.inl hx)
      · exact hx
    have thr : ∀ k : Nat, (k : Int) < Y.1 2 → w_thr Y 2 k = true → w_thr (w_chst (w_F 2 + i) c Y l) 2 k = true := fun k hk t => by
      have t : t_thr (w_t Y 2 k) Y.2.2.2 = true := t
      show t_thr (w_t (w_chst (w_F 2 + i) c Y l) 2 k) Y.2.2.2 = true
      rw [wt k hk]
      split
      · next e => rw [e] at t; exact t
      · exact t
    have step : I_C (w_chst (w_F 2 + i) c Y l) := by
      refine ⟨fun k hk => ?_, fun q hq hg => ?_⟩
      · rw [ez] at hk
        obtain ⟨a1, a2, a3⟩ := h.1 k hk
        unfold I_ch
        rw [wt k hk, ez]
        by_cases e : k = i
        · rw [if_pos e]
          rw [e] at a1 a2
          refine ⟨?_, fun x hx => ?_, fun _ => by rw [e]; exact thr i hi ht⟩
          · show ((w_t Y 2 i).2.1 ++ [l]).Nodup
            rw [List.nodup_append]
            exact ⟨a1, List.nodup_cons.mpr ⟨(fun z => by cases z), List.nodup_nil⟩, fun a ha b hb e => l3 (by rw [← List.mem_singleton.mp hb, ← e]; exact ha)⟩
          · rcases List.mem_append.mp hx with hx | hx
            · have b := a2 x hx
              exact ⟨b.1, b.2.1, by rw [e]; exact sub b.2.2⟩
            · rw [List.mem_singleton.mp hx]
              refine ⟨l1.1, l1.2, ?_⟩
              rw [wl, if_pos rfl, e, ← ec]
              exact List.mem_append.mpr (Or.inr (List.mem_cons_self ..))
        · rw [if_neg e]
          exact ⟨a1, fun x hx => ⟨(a2 x hx).1, (a2 x hx).2.1, sub (a2 x hx).2.2⟩, fun hne => thr k hk (a3 hne)⟩
      · rw [ez] at hq
        have hg' : (w_l Y q).1 1 = 0 := by
          rw [wl] at hg
          split at hg
          · next e => rw [e]; exact hg
          · exact hg
        obtain ⟨a1, a2⟩ := h.2 q hq hg'
        -- a CHARGE told of is one
        have old : ∀ x ∈ (w_l Y q).2.2.1, 0 ≤ x ∧ (q : Int) ∈ (w_t (w_chst (w_F 2 + i) c Y l) 2 x.toNat).2.1 := fun x hx => by
          have b := a2 x hx
          refine ⟨b.1, ?_⟩
          by_cases hk : ((x.toNat : Nat) : Int) < Y.1 2
          · exact subr hk b.2
          · -- beyond all: its cell is not touched
            show (q : Int) ∈ (s_fu Y.2.2.1 (w_F 2 + i) _ (w_F 2 + x.toNat)).2.1
            rw [s_fu_ne (by omega)]; exact b.2
        rw [wl]
        by_cases e : q = l.toNat
        · rw [if_pos e]
          rw [e] at a1
          refine ⟨?_, fun x hx => ?_⟩
          · show ((w_l Y l.toNat).2.2.1 ++ [c]).Nodup
            rw [List.nodup_append]
            exact ⟨a1, List.nodup_cons.mpr ⟨(fun z => by cases z), List.nodup_nil⟩, fun a ha b hb e => l4 (by rw [← List.mem_singleton.mp hb, ← e]; exact ha)⟩
          · rcases List.mem_append.mp hx with hx | hx
            · exact old x (by rw [e]; exact hx)
            · rw [List.mem_singleton.mp hx]
              refine ⟨by omega, ?_⟩
              have ct : c.toNat = i := by omega
              rw [ct, wt i hi, if_pos rfl]
              refine List.mem_append.mpr (Or.inr ?_)
              rw [show (q : Int) = l by omega]; exact List.mem_cons_self ..
        · rw [if_neg e]; exact ⟨a1, old⟩
    refine C_chst ec (ls := ls) (Y := w_chst (w_F 2 + i) c Y l) hz step hi (thr i hi ht) hn.2 ?_ (fun x hx => ?_)
    · rw [wt i hi, if_pos rfl, List.length_append]
      show _ + 1 + _ ≤ 8
      omega
    · obtain ⟨x1, x2, x3, x4, x5⟩ := hl x (List.mem_cons_of_mem _ hx)
      have ne : x ≠ l := fun z => hn.1 (by rw [← z]; exact hx)
      rw [wl, if_neg (by omega), wt i hi, if_pos rfl]
      refine ⟨x1, x2, fun z => ?_, x4, x5⟩
      rcases List.mem_append.mp z with z | z
      · exact x3 z
      · exact ne (List.mem_singleton.mp z)
theorem C_charge (hp : I_P V U S) (h : I_C S) (hr : ∀ j : Nat, 1 ≤ j → (j : Int) < (V d).1 7 - 1 → x_in S r 0 j) (h7 : 3 ≤ (V d).1 7 ∧ (V d).1 7 ≤ 8) (hday : 0 ≤ S.2.2.2 ∧ S.2.2.2 ≤ 219144) : I_C (X_charge V S r d at_).2 := by
  unfold X_charge
  refine cP (p := fun X : Int × w_S => I_C X.2) (fun _ => h) (fun n1 => cP (p := fun X : Int × w_S => I_C X.2) (fun _ => h) (fun _ => cP (p := fun X : Int × w_S => I_C X.2) (fun _ => h) (fun _ => cP (p := fun X : Int × w_S => I_C X.2) (fun _ => h) (fun _ => cP (p := fun X : Int × w_S => I_C X.2) (fun _ => h) (fun n5 => ?_)))))
  have z2 := hp.1 2 (by omega)
  have hm : w_mx 2 = 40 := rfl
  have f40 : S.1 2 < 40 := Int.not_le.mp (fun z => n5 (Or.inl z))
  generalize hx : (s_fu (s_fu (w_new S 2 ((V d).2.1 0) d at_).1 5 (r ((V d).1 7 - 1).toNat)) 6 ((V d).1 9), ([] : List Int), ([] : List Int)) = x
  have xr : x.2.1 = [] := by rw [← hx]
  have x2 : x.1 2 = 0 := by rw [← hx]; rfl
  have x3 : x.1 3 = 1000000 := by rw [← hx]; rfl
  have e2 : (w_addT S 2 x).1 2 = S.1 2 + 1 := by rw [w_z_add, if_pos rfl]
  have e0 : (w_addT S 2 x).1 0 = S.1 0 := by rw [w_z_add, if_neg (by omega)]
  have wt : w_t (w_addT S 2 x) 2 (S.1 2).toNat = x := by
    rw [w_t_add ⟨by omega, by omega⟩ ⟨by omega, by omega⟩ (by omega) (by omega), if_pos ⟨rfl, rfl⟩]
  have zz : R_z (w_addT S 2 x) := fun s hs => by
    have := hp.1 s hs
    rw [w_z_add]
    split
    · next c => subst c; omega
    · exact this
  have e : w_charge S ((V d).2.1 0) d at_ (r ((V d).1 7 - 1).toNat) ((V d).1 9) (s_ar (fun k => r (k + 1)) ((V d).1 7 - 1 - 1)) = (s_ar (fun k => r (k + 1)) ((V d).1 7 - 1 - 1)).foldl (w_chst (w_F 2 + (S.1 2).toNat) (S.1 2)) (w_addT S 2 x) := by rw [← hx]; rfl
  show I_C (w_charge S ((V d).2.1 0) d at_ (r ((V d).1 7 - 1).toNat) ((V d).1 9) (s_ar (fun k => r (k + 1)) ((V d).1 7 - 1 - 1)))
  rw [e]
  refine C_chst (by omega) zz (C_new hp h f40 xr) (by rw [e2]; omega) ?_ ?_ ?_ (fun l hl => ?_)
  · show t_thr (w_t (w_addT S 2 x) 2 (S.1 2).toNat) S.2.2.2 = true
    rw [wt]
    unfold t_thr
    rw [x2, x3, decide_eq_true rfl, decide_eq_true (by omega)]; rfl
  · unfold s_ar
    rw [List.Nodup, List.pairwise_map]
    refine (List.pairwise_iff_getElem.mpr (fun i j hi hj hij => ?_))
    rw [List.getElem_range, List.getElem_range]
    rw [List.length_range] at hi hj
    intro e
    exact n1 ⟨j + 1, i + 1, by omega, by omega, by omega, e.symm⟩
  · rw [wt, xr, s_ar_len]
    show 0 + _ ≤ 8
    omega
  · obtain ⟨i, i1, i2⟩ := s_ar_mem.mp hl
    have k := hr (i + 1) (by omega) (by omega)
    have i2 : r (i + 1) = l := i2
    have kr : x_in S r 0 (i + 1) := hr (i + 1) (by omega) (by omega)
    unfold x_in at kr
    rw [i2] at kr
    have lo : w_l (w_addT S 2 x) l.toNat = w_l S l.toNat := rfl
    rw [e0, lo, wt, xr]
    refine ⟨kr.1, w_thr0 kr.2, (fun z => by cases z), fun z => ?_, Nat.not_le.mp (fun z => n5 (Or.inr ⟨i + 1, by omega, by omega, by rw [i2]; exact z⟩))⟩
    have := (hp.2.1 l.toNat (by omega)).2.1 _ z
    omega
end acts
