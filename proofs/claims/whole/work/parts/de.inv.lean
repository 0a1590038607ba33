/-! every ACT keeps it: the others -/
theorem o_fd_q {o : s_Own} {p : Int} (h : 0 ≤ o_fd o p) : o[(o_fd o p).toNat]? = some ((o[(o_fd o p).toNat]?).getD (0, 0, 1)) := by
  have hlt := o_fd_lt (l := o) (p := p)
  rw [List.getElem?_eq_getElem (by omega)]; rfl
section acts
variable {V : Nat → v_D} {U : Nat → Prop} {S : w_S} {r : Nat → Int} {d : Nat} {at_ : Int}
/-- what a sale leaves -/
theorem y_fin_ok {ps : List (Int × Int)} {sT sB told : Int} (hL : I_L S.1 (w_l S (r 0).toNat)) (hc : y_can S r) (hk : y_ok S r ps told sT sB) (hp : d_pok ps) (hpl : ps.length ≤ 6) (hs : sT ≠ 0 → (1 ≤ sT ∧ sT ≤ 1000) ∧ 1 ≤ sB ∧ sB ≤ 1000) (hlw : sT ≠ 0 → s_lw (sT, sB)) (hr : ∀ j, 2 ≤ j → j < 2 + ps.length → 0 ≤ r j ∧ r j < S.1 1) : (o_fine (S.1 1) (y_fin S r ps sT sB) ∧ o_sum (y_fin S r ps sT sB) = 1) ∧ ((0 ≤ y_T S r sT ∧ y_T S r sT ≤ 1000000) ∧ (0 < y_B S r sT sB ∧ y_B S r sT sB ≤ 1000000) ∧ s_lw (y_T S r sT, y_B S r sT sB)) ∧ o_psum ps = 1 := by
  obtain ⟨-, hL2, ⟨hf, hsum⟩, hb, hlen⟩ := hL
  have hq := o_fd_q hc.2
  have eq : ((w_l S (r 0).toNat).2.2.2[(o_fd (w_l S (r 0).toNat).2.2.2 (r 1)).toNat]?).getD (0, 0, 1) = y_q S r := rfl
  rw [eq] at hq
  have hm := hf _ (List.mem_of_getElem? hq)
  have hle := o_le hf hsum _ (List.mem_of_getElem? hq)
  have hbd := hb _ (List.mem_of_getElem? hq)
  have tb : (0 ≤ y_T S r sT ∧ y_T S r sT ≤ 1000000) ∧ (0 < y_B S r sT sB ∧ y_B S r sT sB ≤ 1000000) ∧ s_lw (y_T S r sT, y_B S r sT sB) := by
    unfold y_T y_B
    by_cases c : sT = 0
    · rw [if_pos c, if_pos c]
      exact ⟨by omega, by omega, hm.2.2.2⟩
    · rw [if_neg c, if_neg c]
      have := hs c
      exact ⟨by omega, by omega, hlw c⟩
  have w := d_wh_sum hp (Int.le_refl 0) (by decide) hk.2.2
  have z : o_val ((0 : Int), (1 : Int)) = 0 := by
    unfold o_val
    simp
    grind
  rw [z] at w
  have w' : o_psum ps = 1 := by grind
  have g := o_sub_ok (t := y_T S r sT) (b := y_B S r sT sB) hf hq tb.2.1.1 hk.1
  have gl := o_sub_len (l := (w_l S (r 0).toNat).2.2.2) (i := (o_fd (w_l S (r 0).toNat).2.2.2 (r 1)).toNat) (t := y_T S r sT) (b := y_B S r sT sB)
  have f := o_pts_ok (n1 := S.1 1) (r := r) (k := 2) tb.1.1 tb.2.1.1 hp g.1 (by omega) hr
  refine ⟨⟨f.1, ?_⟩, tb, w'⟩
  show o_sum (o_pts r _ _ 2 ps _) = 1
  rw [f.2, g.2, hsum, w']
  grind
theorem P_sell (h : I_P V U S) (hv : v_ok (V d)) (hU : U d) (hlw : (V d).1 11 ≠ 0 → s_lw ((V d).1 11, (V d).1 12)) (hday : 0 ≤ S.2.2.2 ∧ S.2.2.2 ≤ 219144) (hp : (((V d).2.2.2.1).length : Int) = (V d).1 15) (hac : (V d).1 3 = 205) (h0 : 0 ≤ r 0 ∧ r 0 < S.1 0) (h1 : 0 ≤ r 1 ∧ r 1 < S.1 1) (hr : ∀ j : Nat, 2 ≤ j → (j : Int) < (V d).1 7 → x_in S r 1 j) : I_P V U (X_sell V S r d at_).2 := by
  have h7 := hv.2.2.1.2.2.1 hac
  have h8 := hv.2.2.1.1
  have hpk : d_pok (V d).2.2.2.1 := hv.2.2.2.2.2.1
  have hl : ((r 0).toNat : Int) < S.1 0 := by omega
  unfold X_sell
  refine cP (p := fun X : Int × w_S => I_P V U X.2) (fun _ => h) (fun n1 => cP (p := fun X : Int × w_S => I_P V U X.2) (fun _ => h) (fun n2 => cP (p := fun X : Int × w_S => I_P V U X.2) (fun _ => h) (fun n3 => cP (p := fun X : Int × w_S => I_P V U X.2) (fun _ => h) (fun n4 => cP (p := fun X : Int × w_S => I_P V U X.2) (fun _ => h) (fun n5 => ?_)))))
  have c1 := Classical.not_not.mp n1
  have c2 := Classical.not_not.mp n2
  obtain ⟨f1, ⟨t1, t2, t3⟩, f3⟩ := y_fin_ok (ps := (V d).2.2.2.1) (h.2.1 _ hl) c1 c2 hpk (by omega) hv.2.2.2.2.1 hlw (fun j j1 j2 => (hr j j1 (by omega)).1)
  have k1 := P_ows (l := (r 0).toNat) h hl f1 (fun q hq => Int.not_lt.mp (fun z => n4 ⟨q, hq, z⟩)) (by omega)
  have k2 := P_lpt (k := 2) (v := (V d).1 9) k1 hl
  have hm : w_mx 7 = 60 := rfl
  refine P_addT k2 ⟨by omega, by omega⟩ (show S.1 7 < w_mx 7 by omega) (I_T_up1 (S := w_lpt (w_ows S (r 0).toNat (y_fin S r (V d).2.2.2.1 ((V d).1 11) ((V d).1 12))) (r 0).toNat 2 ((V d).1 9)) ?_)
  have e11 : ((w_sale S ((V d).2.1 0) d at_ r ((V d).1 15) (y_T S r ((V d).1 11)) (y_B S r ((V d).1 11) ((V d).1 12))).1 11).toNat = d := show ((d : Int)).toNat = d by omega
  refine ⟨⟨h1.2, fun _ _ => h1.1⟩, ⟨fun l hl => ?_, fun b hb => ?_⟩, (fun z => by omega), (fun z => by omega), (fun z => by omega), fun _ => ⟨⟨hday, t1, t2, t3, by rw [e11]; exact hpk, ?_, ?_, h0⟩, by rw [e11]; exact f3⟩, fun _ => by rw [e11]; exact hU⟩
  · rcases List.mem_singleton.mp hl with rfl
    exact h0
  · obtain ⟨i, i1, i2⟩ := s_ar_mem.mp hb
    rw [← i2, if_pos rfl]
    exact (hr (i + 2) (by omega) (by omega)).1
  · rw [e11]
    show (s_ar (fun i => r (i + 2)) ((V d).1 15)).length = _
    rw [s_ar_len]; omega
  · show (s_ar (fun i => r (i + 2)) ((V d).1 15)).Nodup
    unfold s_ar
    rw [List.Nodup, List.pairwise_map]
    refine (List.pairwise_iff_getElem.mpr (fun i j hi hj hij => ?_))
    rw [List.getElem_range, List.getElem_range]
    rw [List.length_range] at hi hj
    intro e
    exact c2.2.1 ⟨j + 2, by omega, by omega, Or.inr ⟨i + 2, by omega, by omega, e.symm⟩⟩
theorem P_chst {c : Int} {i : Nat} {z : Nat → Int} : ∀ {ls : List Int} {Y : w_S}, I_P V U Y → Y.1 = z → (i : Int) < z 2 → (0 ≤ c ∧ c < z 2) → (∀ l ∈ ls, 0 ≤ l ∧ l < z 0) → I_P V U (ls.foldl (w_chst (w_F 2 + i) c) Y)
  | [], _, h, _, _, _, _ => h
  | l :: ls, Y, h, ez, hi, hc, hl => by
    have hl0 := hl l (List.mem_cons_self ..)
    have kt := (h.2.2 2 i (by omega) (by omega) (by rw [ez]; exact hi)).2.1.1
    have k1 := P_lts (s := 2) (i := i) (r := r_add (Y.2.2.1 (w_F 2 + i)).2.1 l) h ⟨by omega, by omega⟩ (by rw [ez]; exact hi) ⟨by omega, by omega⟩ (fun x hx => by
      rcases r_add_mem hx with e | e
      · rw [e, ez]; exact hl0
      · exact kt x e)
    have k2 := P_chg (l := l.toNat) (r := r_add (Y.2.1 l.toNat).2.2.1 c) k1 (show ((l.toNat : Nat) : Int) < Y.1 0 by rw [ez]; omega) (r_ins_le (h.2.1 l.toNat (by rw [ez]; omega)).1.2) (fun x hx => by
      rcases r_add_mem hx with e | e
      · rw [e]; show 0 ≤ c ∧ c < Y.1 2; rw [ez]; exact hc
      · exact (h.2.1 l.toNat (by rw [ez]; omega)).2.1 x e)
    exact P_chst (ls := ls) (Y := w_chst (w_F 2 + i) c Y l) k2 ez hi hc (fun x hx => hl x (List.mem_cons_of_mem _ hx))
theorem P_charge (h : I_P V U S) (hv : v_ok (V d)) (hU : U d) (hr : ∀ j : Nat, 1 ≤ j → (j : Int) < (V d).1 7 - 1 → x_in S r 0 j) (hw : 0 ≤ r ((V d).1 7 - 1).toNat ∧ r ((V d).1 7 - 1).toNat < S.1 1) : I_P V U (X_charge V S r d at_).2 := by
  have h9 := hv.2.2.2.1.2.1
  unfold X_charge
  refine cP (p := fun X : Int × w_S => I_P V U X.2) (fun _ => h) (fun _ => cP (p := fun X : Int × w_S => I_P V U X.2) (fun _ => h) (fun _ => cP (p := fun X : Int × w_S => I_P V U X.2) (fun _ => h) (fun _ => cP (p := fun X : Int × w_S => I_P V U X.2) (fun _ => h) (fun _ => cP (p := fun X : Int × w_S => I_P V U X.2) (fun _ => h) (fun n5 => ?_)))))
  have z2 := h.1 2 (by omega)
  have hm : w_mx 2 = 40 := rfl
  have hf : S.1 2 < w_mx 2 := by
    have : ¬ 40 ≤ S.1 2 := fun z => n5 (Or.inl z)
    omega
  have k1 : I_P V U (w_addT S 2 (s_fu (s_fu (w_new S 2 ((V d).2.1 0) d at_).1 5 (r ((V d).1 7 - 1).toNat)) 6 ((V d).1 9), [], [])) := P_addT h ⟨by omega, by omega⟩ hf (I_T_up1 ⟨⟨hw.2, fun _ _ => hw.1⟩, ⟨(fun l hl => by cases hl), (fun l hl => by cases hl)⟩, (fun _ => h9), (fun z => by omega), (fun z => by omega), (fun z => by omega), fun _ => show U ((d : Int)).toNat by rw [show ((d : Int)).toNat = d by omega]; exact hU⟩)
  have e2 : (w_addT S 2 (s_fu (s_fu (w_new S 2 ((V d).2.1 0) d at_).1 5 (r ((V d).1 7 - 1).toNat)) 6 ((V d).1 9), [], [])).1 2 = S.1 2 + 1 := by rw [w_z_add, if_pos rfl]
  have e0 : (w_addT S 2 (s_fu (s_fu (w_new S 2 ((V d).2.1 0) d at_).1 5 (r ((V d).1 7 - 1).toNat)) 6 ((V d).1 9), [], [])).1 0 = S.1 0 := by rw [w_z_add, if_neg (by omega)]
  refine P_chst k1 rfl (by rw [e2]; omega) (by rw [e2]; omega) (fun l hl => ?_)
  obtain ⟨i, i1, i2⟩ := s_ar_mem.mp hl
  rw [e0, ← i2]
  exact (hr (i + 1) (by omega) (by omega)).1
theorem P_serve {x y : Nat → Int} (h : I_P V U S) (hU : U d) (h1 : 0 ≤ r 1 ∧ r 1 < S.1 0) (h2 : 0 ≤ r 2 ∧ r 2 < S.1 0) : I_P V U (X_serve V S r x y d at_).2 := by
  unfold X_serve
  refine cP (p := fun X : Int × w_S => I_P V U X.2) (fun _ => h) (fun _ => cP (p := fun X : Int × w_S => I_P V U X.2) (fun _ => h) (fun _ => cP (p := fun X : Int × w_S => I_P V U X.2) (fun _ => h) (fun _ => cP (p := fun X : Int × w_S => I_P V U X.2) (fun _ => h) (fun _ => cP (p := fun X : Int × w_S => I_P V U X.2) (fun _ => h) (fun n5 => ?_)))))
  have z1 := h.1 1 (by omega)
  have hm : w_mx 3 = 40 := rfl
  refine P_addT h ⟨by omega, by omega⟩ (by omega) (I_T_up1 ⟨⟨show (-1 : Int) < S.1 1 by omega, fun _ z => absurd rfl z⟩, ⟨fun l hl => ?_, fun l hl => ?_⟩, (fun z => by omega), (fun _ => rfl), (fun z => by omega), (fun z => by omega), fun _ => show U ((d : Int)).toNat by rw [show ((d : Int)).toNat = d by omega]; exact hU⟩)
  · rcases List.mem_singleton.mp hl with rfl
    exact h1
  · rcases List.mem_singleton.mp hl with rfl
    rw [if_neg (by omega)]; exact h2
theorem P_waive (h : I_P V U S) (h0 : 0 ≤ r 0 ∧ r 0 < S.1 3) : I_P V U (X_waive S r).2 := by
  unfold X_waive
  exact cP (p := fun X : Int × w_S => I_P V U X.2) (fun _ => h) (fun _ => P_put h ⟨by omega, by omega⟩ (by omega) (Or.inl ⟨rfl, by decide⟩))
theorem P_term {s : Nat} {called until_ l p : Int} {g : Nat → Int} (h : I_P V U S) (hs : 4 ≤ s ∧ s ≤ 6) (hf : S.1 s < w_mx s) (hU : U d) (hl : 0 ≤ l ∧ l < S.1 0) (hp : 0 ≤ p ∧ p < S.1 1) (hg : ∀ k, k = 5 ∨ k = 11 → g k = (t_term S s called d at_ l p until_).1 k) : I_P V U (w_addT S s (g, (t_term S s called d at_ l p until_).2)) := by
  have e5 : g 5 = p := by rw [hg 5 (by omega)]; rfl
  have e11 : (g 11).toNat = d := by
    rw [hg 11 (by omega)]
    show ((d : Int)).toNat = d
    omega
  refine P_addT h ⟨by omega, by omega⟩ hf (I_T_up1 ⟨⟨by show g 5 < _; rw [e5]; exact hp.2, fun _ _ => by show 0 ≤ g 5; rw [e5]; exact hp.1⟩, ⟨fun x hx => ?_, (fun x hx => by cases hx)⟩, (fun z => by omega), (fun z => by omega), (fun _ _ => rfl), (fun z => by omega), fun _ => by show U (g 11).toNat; rw [e11]; exact hU⟩)
  rcases List.mem_singleton.mp hx with rfl
  exact hl
theorem P_lease (h : I_P V U S) (hU : U d) (h1 : 0 ≤ r 1 ∧ r 1 < S.1 0) (h2 : 0 ≤ r 2 ∧ r 2 < S.1 1) : I_P V U (X_lease V S r d at_).2 := by
  unfold X_lease
  refine cP (p := fun X : Int × w_S => I_P V U X.2) (fun _ => h) (fun _ => cP (p := fun X : Int × w_S => I_P V U X.2) (fun _ => h) (fun _ => cP (p := fun X : Int × w_S => I_P V U X.2) (fun _ => h) (fun _ => cP (p := fun X : Int × w_S => I_P V U X.2) (fun _ => h) (fun _ => cP (p := fun X : Int × w_S => I_P V U X.2) (fun _ => h) (fun n5 => ?_)))))
  have hm : w_mx 4 = 40 := rfl
  exact P_term h ⟨by omega, by omega⟩ (by omega) hU h1 h2 (fun k hk => s_fu_ne (by omega))
theorem P_caution (h : I_P V U S) (hU : U d) (h1 : 0 ≤ r 1 ∧ r 1 < S.1 0) (h2 : 0 ≤ r 2 ∧ r 2 < S.1 1) : I_P V U (X_caution V S r d at_).2 := by
  unfold X_caution
  refine cP (p := fun X : Int × w_S => I_P V U X.2) (fun _ => h) (fun n5 => ?_)
  have hm : w_mx 5 = 40 := rfl
  exact P_term h ⟨by omega, by omega⟩ (by omega) hU h1 h2 (fun k hk => rfl)
theorem P_option (h : I_P V U S) (hU : U d) (h1 : 0 ≤ r 1 ∧ r 1 < S.1 0) (h2 : 0 ≤ r 2 ∧ r 2 < S.1 1) : I_P V U (X_option V S r d at_).2 := by
  unfold X_option
  refine cP (p := fun X : Int × w_S => I_P V U X.2) (fun _ => h) (fun _ => cP (p := fun X : Int × w_S => I_P V U X.2) (fun _ => h) (fun _ => cP (p := fun X : Int × w_S => I_P V U X.2) (fun _ => h) (fun _ => cP (p := fun X : Int × w_S => I_P V U X.2) (fun _ => h) (fun n5 => ?_))))
  have hm : w_mx 6 = 30 := rfl
  exact P_term h ⟨by omega, by omega⟩ (by omega) hU h1 h2 (fun k hk => rfl)
theorem P_end {ss : Nat → Int} (h : I_P V U S) (h0 : (4 ≤ ss 0 ∧ ss 0 ≤ 6) ∧ 0 ≤ r 0 ∧ r 0 < S.1 (ss 0).toNat) : I_P V U (X_end S ss r).2 := by
  unfold X_end
  exact cP (p := fun X : Int × w_S => I_P V U X.2) (fun _ => h) (fun _ => P_put h ⟨by omega, by omega⟩ (by omega) (Or.inl ⟨rfl, by decide⟩))
theorem P_take (h : I_P V U S) (h0 : 0 ≤ r 0 ∧ r 0 < S.1 6) : I_P V U (X_take V S r d).2 := by
  unfold X_take
  refine cP (p := fun X : Int × w_S => I_P V U X.2) (fun _ => h) (fun _ => cP (p := fun X : Int × w_S => I_P V U X.2) (fun _ => h) (fun n2 => ?_))
  obtain ⟨k, hk⟩ := w_lat_ex.resolve_left n2
  rw [w_lat_eps hk]
  have hk7 : (k : Int) < S.1 7 := by
    rcases hk with ⟨e, -⟩ | ⟨k', e1, e2, -⟩
    · omega
    · have : k = k' := by omega
      rw [this]; exact e2
  have ho := h.2.2 6 (r 0).toNat (by omega) (by omega) (by omega)
  have hs := h.2.2 7 k (by omega) (by omega) hk7
  obtain ⟨⟨a1, a2, a3, a4, a5, a6, a7, a8⟩, a9⟩ := hs.2.2.2.2.2.1 rfl
  change 0 ≤ r_get (w_t S 7 k).2.1 0 ∧ r_get (w_t S 7 k).2.1 0 < S.1 0 at a8
  have hL := h.2.1 (r_get (w_t S 7 k).2.1 0).toNat (by omega)
  unfold X_take2
  refine cP (p := fun X : Int × w_S => I_P V U X.2) (fun _ => h) (fun n3 => cP (p := fun X : Int × w_S => I_P V U X.2) (fun _ => h) (fun n4 => cP (p := fun X : Int × w_S => I_P V U X.2) (fun _ => h) (fun n5 => ?_)))
  have tk := Classical.not_not.mp n3
  have gp : ∀ g ∈ o_gs (w_t S 7 k).2.2 ((w_t S 7 k).1 12) ((w_t S 7 k).1 13) (V ((w_t S 7 k).1 11).toNat).2.2.2.1, 0 < g.2.2 := fun g hg => by
    unfold o_gs at hg
    obtain ⟨i, hi⟩ := List.mem_iff_getElem?.mp hg
    rw [List.getElem?_zipWith] at hi
    cases e1 : (w_t S 7 k).2.2[i]? with
    | none => rw [e1] at hi; simp at hi
    | some b =>
      cases e2 : (V ((w_t S 7 k).1 11).toNat).2.2.2.1[i]? with
      | none => rw [e1, e2] at hi; simp at hi
      | some p =>
        rw [e1, e2] at hi
        have := Option.some.inj hi
        rw [← this]
        have pp := a5 p (List.mem_of_getElem? e2)
        exact Int.mul_pos a3.1 (by omega)
  have g := o_tkf_ok gp tk hL.2.2.1.1
  have gs := o_gs_sum (T := (w_t S 7 k).1 12) (B := (w_t S 7 k).1 13) a6
  have gl := o_tkf_len (gs := o_gs (w_t S 7 k).2.2 ((w_t S 7 k).1 12) ((w_t S 7 k).1 13) (V ((w_t S 7 k).1 11).toNat).2.2.2.1) (o := (w_l S (r_get (w_t S 7 k).2.1 0).toNat).2.2.2)
  have hlen := hL.2.2.2.2
  have f := o_give_ok (p := (w_t S 6 (r 0).toNat).1 5) (t := (w_t S 7 k).1 12) (b := (w_t S 7 k).1 13) g.1 ⟨ho.1.2 (by omega) (by omega), ho.1.1⟩ (by omega) a2.1 a3.1
  have fs : o_sum (X_tfin V S (w_t S 6 (r 0).toNat) (w_t S 7 k)) = 1 := by
    show o_sum (o_give _ _ _ _) = 1
    rw [f.2, g.2, gs, hL.2.2.1.2, a9]
    grind
  have k1 := P_ows (l := (r_get (w_t S 7 k).2.1 0).toNat) (o := X_tfin V S (w_t S 6 (r 0).toNat) (w_t S 7 k)) h (by omega) ⟨f.1, fs⟩ (fun q hq => Int.not_lt.mp (fun z => n4 ⟨q, hq, z⟩)) (by omega)
  exact P_put k1 ⟨by omega, by omega⟩ hk7 (Or.inr (Or.inl rfl))
end acts
