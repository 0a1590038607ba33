/-! CHARGES and LOTS have one another: LOTS parted and joined; all ACTS -/
section acts
variable {V : Nat → v_D} {U : Nat → Prop} {S : w_S} {r : Nat → Int} {d : Nat} {at_ : Int}
theorem C_split (hp : I_P V U S) (h : I_C S) (h0 : x_in S r 0 0) : I_C (X_split V S r d).2 := by
  unfold X_split
  refine cP (p := fun X : Int × w_S => I_C X.2) (fun _ => h) (fun _ => cP (p := fun X : Int × w_S => I_C X.2) (fun _ => h) (fun _ => cP (p := fun X : Int × w_S => I_C X.2) (fun _ => h) (fun _ => cP (p := fun X : Int × w_S => I_C X.2) (fun _ => h) (fun n4 => ?_))))
  generalize g_cls (g_rawL (w_l S (r 0).toNat).2.1 (V d).2.2.2.2) = A at *
  generalize g_cls (g_rawR (w_l S (r 0).toNat).2.1 (V d).2.2.2.2) = B at *
  have z0 := hp.1 0 (by omega)
  have hl : ((r 0).toNat : Int) < S.1 0 := by have := h0.1; omega
  have r0 := h0.1
  have g0 := w_thr0 h0.2
  obtain ⟨o1, o2⟩ := h.2 (r 0).toNat hl g0
  have er : ((r 0).toNat : Int) = r 0 := by omega
  rw [er] at o2
  have nt : ∀ c : Nat, (c : Int) < S.1 2 → w_thr S 2 c = true → r 0 ∈ (w_t S 2 c).2.1 → (w_t S 2 c).2.1.length < 8 := fun c hc t m => Nat.not_le.mp (fun z => n4 (Or.inr ⟨2, c, by omega, by omega, hc, t, Or.inl ⟨z, m⟩⟩))
  generalize hW : w_addL (w_addL S (l_mk ((V d).2.1 1) (w_l S (r 0).toNat) A)) (l_mk ((V d).2.1 2) (w_l S (r 0).toNat) B) = W
  have e0 : W.1 0 = S.1 0 + 1 + 1 := by rw [← hW]; rfl
  have sz : ∀ s, s ≠ 0 → W.1 s = S.1 s := fun s hs => by
    rw [← hW]
    show (if s = 0 then _ else if s = 0 then _ else S.1 s) = S.1 s
    rw [if_neg hs, if_neg hs]
  have lo : ∀ k : Nat, w_l W k = if k = (S.1 0 + 1).toNat then l_mk ((V d).2.1 2) (w_l S (r 0).toNat) B else if k = (S.1 0).toNat then l_mk ((V d).2.1 1) (w_l S (r 0).toNat) A else w_l S k := fun k => by rw [← hW]; rfl
  have tt : ∀ s i, w_t W s i = w_t S s i := fun _ _ => by rw [← hW]; rfl
  have zz : R_z W := fun s hs => by
    by_cases c : s = 0
    · rw [c, e0]
      have : S.1 0 ≤ 78 := Int.not_lt.mp (fun z => n4 (Or.inl z))
      have hm : w_mx 0 = 80 := rfl
      omega
    · rw [sz s c]; exact hp.1 s hs
  have dd : W.2.2.2 = S.2.2.2 := by rw [← hW]; rfl
  have s2 : W.1 2 = S.1 2 := sz 2 (by omega)
  generalize hf : t_spl (fun a => (V a).2.2.2.2) (r 0) (S.1 0) (S.1 0 + 1) S.2.2.2 A B = f
  -- a CHARGE's row, its scalars
  have wt : ∀ c : Nat, (c : Int) < S.1 2 → (w_t (w_map (w_lpt W (r 0).toNat 1 1) 2 6 f) 2 c).1 = (w_t S 2 c).1 ∧ (∀ x, x ∈ (w_t (w_map (w_lpt W (r 0).toNat 1 1) 2 6 f) 2 c).2.1 ↔ ((x = S.1 0 ∨ x = S.1 0 + 1) ∧ r 0 ∈ (w_t S 2 c).2.1) ∨ (x ∈ (w_t S 2 c).2.1 ∧ x ≠ r 0)) ∧ (w_t (w_map (w_lpt W (r 0).toNat 1 1) 2 6 f) 2 c).2.1.Nodup := fun c hc => by
    have e : w_t (w_map (w_lpt W (r 0).toNat 1 1) 2 6 f) 2 c = f 2 (w_t S 2 c) := by
      rw [w_map_at (show R_z (w_lpt W (r 0).toNat 1 1) from zz) ⟨by omega, by omega⟩ (show (c : Int) < W.1 2 by rw [s2]; exact hc), if_pos ⟨by omega, by omega⟩]
      show f 2 (w_t W 2 c) = _
      rw [tt]
    rw [e, ← hf]
    obtain ⟨a1, a2, a3⟩ := h.1 c hc
    unfold t_spl
    by_cases t0 : t_thr (w_t S 2 c) S.2.2.2 = true
    · rw [if_pos t0]
      have an : S.1 0 ∉ (w_t S 2 c).2.1 := fun z => by have := (a2 _ z).2.1; omega
      have bn : S.1 0 + 1 ∉ (w_t S 2 c).2.1 := fun z => by have := (a2 _ z).2.1; omega
      exact ⟨rfl, fun x => r_part_iff a1 (fun m => nt c hc t0 m) (by omega), (r_part_nd a1 an bn (by omega) (by omega)).1⟩
    · rw [if_neg t0]
      have nil : (w_t S 2 c).2.1 = [] := Classical.byContradiction (fun z => t0 (a3 z))
      refine ⟨rfl, fun x => ?_, a1⟩
      rw [nil]
      constructor
      · intro z; cases z
      · rintro (⟨-, z⟩ | ⟨z, -⟩)
        · cases z
        · cases z
  have lp : ∀ k : Nat, w_l (w_map (w_lpt W (r 0).toNat 1 1) 2 6 f) k = if k = (r 0).toNat then (s_fu (w_l W (r 0).toNat).1 1 1, (w_l W (r 0).toNat).2) else w_l W k := fun k => rfl
  -- a LOT's CHARGES
  have ch : ∀ k : Nat, (w_l (w_map (w_lpt W (r 0).toNat 1 1) 2 6 f) k).2.2.1 = if k = (S.1 0 + 1).toNat ∨ k = (S.1 0).toNat then (w_l S (r 0).toNat).2.2.1 else (w_l S k).2.2.1 := fun k => by
    rw [lp]
    by_cases c : k = (r 0).toNat
    · rw [if_pos c, lo, if_neg (by omega), if_neg (by omega), if_neg (by omega), c]
    · rw [if_neg c, lo]
      by_cases c1 : k = (S.1 0 + 1).toNat
      · rw [if_pos c1, if_pos (Or.inl c1)]; rfl
      · rw [if_neg c1]
        by_cases c2 : k = (S.1 0).toNat
        · rw [if_pos c2, if_pos (Or.inr c2)]; rfl
        · rw [if_neg c2, if_neg (by omega)]
  have zw : (w_map (w_lpt W (r 0).toNat 1 1) 2 6 f).1 = W.1 := rfl
  refine ⟨fun c hc => ?_, fun l hl' hg => ?_⟩
  · rw [zw, s2] at hc
    obtain ⟨a1, a2, a3⟩ := h.1 c hc
    obtain ⟨w1, w2, w3⟩ := wt c hc
    refine ⟨w3, fun x hx => ?_, fun hne => ?_⟩
    · rw [zw, e0, ch]
      rcases (w2 x).mp hx with ⟨e | e, m⟩ | ⟨m, e⟩
      · rw [if_pos (Or.inr (by omega))]
        have := (a2 _ m).2.2
        exact ⟨by omega, by omega, this⟩
      · rw [if_pos (Or.inl (by omega))]
        have := (a2 _ m).2.2
        exact ⟨by omega, by omega, this⟩
      · have b := a2 x m
        rw [if_neg (by omega)]
        exact ⟨b.1, by omega, b.2.2⟩
    · have ne : (w_t S 2 c).2.1 ≠ [] := fun z => by
        refine hne (List.eq_nil_iff_forall_not_mem.mpr (fun x hx => ?_))
        rcases (w2 x).mp hx with ⟨-, m⟩ | ⟨m, -⟩
        · rw [z] at m; cases m
        · rw [z] at m; cases m
      show t_thr (w_t (w_map (w_lpt W (r 0).toNat 1 1) 2 6 f) 2 c) W.2.2.2 = true
      have t := a3 ne
      have t : t_thr (w_t S 2 c) S.2.2.2 = true := t
      unfold t_thr at *
      rw [w1, dd]; exact t
  · rw [zw, e0] at hl'
    rw [ch]
    by_cases c : l = (S.1 0 + 1).toNat ∨ l = (S.1 0).toNat
    · rw [if_pos c]
      refine ⟨o1, fun x hx => ?_⟩
      have b := o2 x hx
      have rg := (hp.2.1 _ hl).2.1 x hx
      exact ⟨b.1, ((wt x.toNat (by omega)).2.1 l).mpr (Or.inl ⟨by omega, b.2⟩)⟩
    · rw [if_neg c]
      have ne : l ≠ (r 0).toNat := fun z => by
        rw [lp, if_pos z] at hg
        have e : s_fu (w_l W (r 0).toNat).1 1 1 1 = 1 := s_fu_eq
        change s_fu (w_l W (r 0).toNat).1 1 1 1 = 0 at hg
        rw [e] at hg; cases hg
      rw [lp, if_neg ne, lo, if_neg (by omega), if_neg (by omega)] at hg
      obtain ⟨a1, a2⟩ := h.2 l (by omega) hg
      refine ⟨a1, fun x hx => ?_⟩
      have b := a2 x hx
      have rg := (hp.2.1 l (by omega)).2.1 x hx
      exact ⟨b.1, ((wt x.toNat (by omega)).2.1 l).mpr (Or.inr ⟨b.2, by omega⟩)⟩
theorem C_join (hp : I_P V U S) (h : I_C S) (h0 : x_in S r 0 0) (h1 : x_in S r 0 1) : I_C (X_join V S r d).2 := by
  unfold X_join
  refine cP (p := fun X : Int × w_S => I_C X.2) (fun _ => h) (fun n0 => cP (p := fun X : Int × w_S => I_C X.2) (fun _ => h) (fun _ => cP (p := fun X : Int × w_S => I_C X.2) (fun _ => h) (fun _ => cP (p := fun X : Int × w_S => I_C X.2) (fun _ => h) (fun _ => cP (p := fun X : Int × w_S => I_C X.2) (fun _ => h) (fun n5 => ?_)))))
  obtain ⟨eqc, -, -⟩ := Classical.not_not.mp n5
  cases g_jraw (w_l S (r 0).toNat).2.1 (w_l S (r 1).toNat).2.1 with
  | none => exact h
  | some R =>
    unfold X_join1 X_join2
    refine cP (p := fun X : Int × w_S => I_C X.2) (fun _ => h) (fun _ => cP (p := fun X : Int × w_S => I_C X.2) (fun _ => h) (fun n6 => ?_))
    generalize g_cls R = A at *
    have z0 := hp.1 0 (by omega)
    have r0 := h0.1
    have r1 := h1.1
    have hl : ((r 0).toNat : Int) < S.1 0 := by omega
    have hl1 : ((r 1).toNat : Int) < S.1 0 := by omega
    obtain ⟨o1, o2⟩ := h.2 (r 0).toNat hl (w_thr0 h0.2)
    have er : ((r 0).toNat : Int) = r 0 := by omega
    rw [er] at o2
    generalize hW : w_addL S (l_mk ((V d).2.1 2) (w_l S (r 0).toNat) A) = W
    have e0 : W.1 0 = S.1 0 + 1 := by rw [← hW]; rfl
    have sz : ∀ s, s ≠ 0 → W.1 s = S.1 s := fun s hs => by
      rw [← hW]
      show (if s = 0 then _ else S.1 s) = S.1 s
      rw [if_neg hs]
    have lo : ∀ k : Nat, w_l W k = if k = (S.1 0).toNat then l_mk ((V d).2.1 2) (w_l S (r 0).toNat) A else w_l S k := fun k => by rw [← hW]; rfl
    have tt : ∀ s i, w_t W s i = w_t S s i := fun _ _ => by rw [← hW]; rfl
    have zz : R_z W := fun s hs => by
      by_cases c : s = 0
      · rw [c, e0]
        have hm : w_mx 0 = 80 := rfl
        omega
      · rw [sz s c]; exact hp.1 s hs
    have dd : W.2.2.2 = S.2.2.2 := by rw [← hW]; rfl
    have s2 : W.1 2 = S.1 2 := sz 2 (by omega)
    generalize hf : t_mrg (r 0) (r 1) (S.1 0) S.2.2.2 = f
    have wt : ∀ c : Nat, (c : Int) < S.1 2 → (w_t (w_map (w_lpt (w_lpt W (r 0).toNat 1 1) (r 1).toNat 1 1) 2 6 f) 2 c).1 = (w_t S 2 c).1 ∧ (∀ x, x ∈ (w_t (w_map (w_lpt (w_lpt W (r 0).toNat 1 1) (r 1).toNat 1 1) 2 6 f) 2 c).2.1 ↔ (x = S.1 0 ∧ (r 0 ∈ (w_t S 2 c).2.1 ∨ r 1 ∈ (w_t S 2 c).2.1)) ∨ (x ∈ (w_t S 2 c).2.1 ∧ x ≠ r 0 ∧ x ≠ r 1)) ∧ (w_t (w_map (w_lpt (w_lpt W (r 0).toNat 1 1) (r 1).toNat 1 1) 2 6 f) 2 c).2.1.Nodup := fun c hc => by
      have e : w_t (w_map (w_lpt (w_lpt W (r 0).toNat 1 1) (r 1).toNat 1 1) 2 6 f) 2 c = f 2 (w_t S 2 c) := by
        rw [w_map_at (show R_z (w_lpt (w_lpt W (r 0).toNat 1 1) (r 1).toNat 1 1) from zz) ⟨by omega, by omega⟩ (show (c : Int) < W.1 2 by rw [s2]; exact hc), if_pos ⟨by omega, by omega⟩]
        show f 2 (w_t W 2 c) = _
        rw [tt]
      rw [e, ← hf]
      obtain ⟨a1, a2, a3⟩ := h.1 c hc
      unfold t_mrg
      by_cases t0 : t_thr (w_t S 2 c) S.2.2.2 = true
      · rw [if_pos t0, if_neg (fun z => by omega)]
        have an : S.1 0 ∉ (w_t S 2 c).2.1 := fun z => by have := (a2 _ z).2.1; omega
        exact ⟨rfl, fun x => r_mrg_iff a1 an (by omega) (by omega), (r_mrg_nd a1 an).1⟩
      · rw [if_neg t0]
        have nil : (w_t S 2 c).2.1 = [] := Classical.byContradiction (fun z => t0 (a3 z))
        refine ⟨rfl, fun x => ?_, a1⟩
        rw [nil]
        constructor
        · intro z; cases z
        · rintro (⟨-, z | z⟩ | ⟨z, -⟩)
          · cases z
          · cases z
          · cases z
    have pt : ∀ (Y : w_S) (q k : Nat), (w_l (w_lpt Y q 1 1) k).2 = (w_l Y k).2 ∧ (k ≠ q → w_l (w_lpt Y q 1 1) k = w_l Y k) ∧ (k = q → (w_l (w_lpt Y q 1 1) k).1 1 = 1) := fun Y q k => by
      refine ⟨?_, fun hk => s_fu_ne hk, fun hk => ?_⟩
      · show (s_fu Y.2.1 q _ k).2 = _
        unfold s_fu
        split
        · next c => rw [c]; rfl
        · rfl
      · rw [hk]
        show (s_fu Y.2.1 q (s_fu (Y.2.1 q).1 1 1, (Y.2.1 q).2) q).1 1 = 1
        rw [s_fu_eq]
        have e : s_fu (Y.2.1 q).1 1 1 1 = 1 := s_fu_eq
        exact e
    have ch : ∀ k : Nat, (w_l (w_map (w_lpt (w_lpt W (r 0).toNat 1 1) (r 1).toNat 1 1) 2 6 f) k).2.2.1 = if k = (S.1 0).toNat then (w_l S (r 0).toNat).2.2.1 else (w_l S k).2.2.1 := fun k => by
      have e : (w_l (w_map (w_lpt (w_lpt W (r 0).toNat 1 1) (r 1).toNat 1 1) 2 6 f) k).2 = (w_l W k).2 := ((pt (w_lpt W (r 0).toNat 1 1) (r 1).toNat k).1).trans (pt W (r 0).toNat k).1
      rw [e, lo]
      by_cases c2 : k = (S.1 0).toNat
      · rw [if_pos c2, if_pos c2]; rfl
      · rw [if_neg c2, if_neg c2]
    have zw : (w_map (w_lpt (w_lpt W (r 0).toNat 1 1) (r 1).toNat 1 1) 2 6 f).1 = W.1 := rfl
    refine ⟨fun c hc => ?_, fun l hl' hg => ?_⟩
    · rw [zw, s2] at hc
      obtain ⟨a1, a2, a3⟩ := h.1 c hc
      obtain ⟨w1, w2, w3⟩ := wt c hc
      refine ⟨w3, fun x hx => ?_, fun hne => ?_⟩
      · rw [zw, e0, ch]
        rcases (w2 x).mp hx with ⟨e, m⟩ | ⟨m, -, -⟩
        · rw [if_pos (by omega)]
          refine ⟨by omega, by omega, ?_⟩
          rcases m with m | m
          · exact (a2 _ m).2.2
          · rw [eqc]; exact (a2 _ m).2.2
        · have b := a2 x m
          rw [if_neg (by omega)]
          exact ⟨b.1, by omega, b.2.2⟩
      · have ne : (w_t S 2 c).2.1 ≠ [] := fun z => by
          refine hne (List.eq_nil_iff_forall_not_mem.mpr (fun x hx => ?_))
          rcases (w2 x).mp hx with ⟨-, m | m⟩ | ⟨m, -⟩
          · rw [z] at m; cases m
          · rw [z] at m; cases m
          · rw [z] at m; cases m
        show t_thr (w_t (w_map (w_lpt (w_lpt W (r 0).toNat 1 1) (r 1).toNat 1 1) 2 6 f) 2 c) W.2.2.2 = true
        have t : t_thr (w_t S 2 c) S.2.2.2 = true := a3 ne
        unfold t_thr at *
        rw [w1, dd]; exact t
    · rw [zw, e0] at hl'
      rw [ch]
      by_cases c : l = (S.1 0).toNat
      · rw [if_pos c]
        refine ⟨o1, fun x hx => ?_⟩
        have b := o2 x hx
        have rg := (hp.2.1 _ hl).2.1 x hx
        exact ⟨b.1, ((wt x.toNat (by omega)).2.1 l).mpr (Or.inl ⟨by omega, Or.inl b.2⟩)⟩
      · rw [if_neg c]
        have p2 := pt (w_lpt W (r 0).toNat 1 1) (r 1).toNat l
        have p1 := pt W (r 0).toNat l
        have hg : (w_l (w_lpt (w_lpt W (r 0).toNat 1 1) (r 1).toNat 1 1) l).1 1 = 0 := hg
        have ne1 : l ≠ (r 1).toNat := fun z => by
          rw [p2.2.2 z] at hg; cases hg
        rw [p2.2.1 ne1] at hg
        have ne0 : l ≠ (r 0).toNat := fun z => by
          rw [p1.2.2 z] at hg; cases hg
        rw [p1.2.1 ne0, lo, if_neg c] at hg
        obtain ⟨a1, a2⟩ := h.2 l (by omega) hg
        refine ⟨a1, fun x hx => ?_⟩
        have b := a2 x hx
        have rg := (hp.2.1 l (by omega)).2.1 x hx
        exact ⟨b.1, ((wt x.toNat (by omega)).2.1 l).mpr (Or.inr ⟨b.2, by omega, by omega⟩)⟩
theorem C_act {ss : Nat → Int} (hp : I_P V U S) (h : I_C S) (hv : v_ok (V d)) (hps : (((V d).2.2.2.1).length : Int) = (V d).1 15) (hday : 0 ≤ S.2.2.2 ∧ S.2.2.2 ≤ 219144) (hok : n_ok S (V d).2.1 (V d).2.2.1 ((V d).1 7) (fun k => ((ss k).toNat, (r k).toNat))) (hnn : ∀ k : Nat, (k : Int) < (V d).1 7 → (V d).2.2.1 k ≠ 10 → 0 ≤ ss k ∧ 0 ≤ r k) : I_C (X_act V S ss r d at_).2 :=
  X_all (p := fun X => I_C X.2) hv hok hnn (fun _ => C_person hp h) (fun _ a => C_firm hp h) (fun _ a b => C_guard hp h a) (fun e a b => C_die hp h (P_die hp hv hps e a b) a) (fun _ a => C_close hp h a) (fun e a b c => C_sell hp h) (fun _ a => C_split hp h a) (fun _ a b => C_join hp h a b) (fun _ a b => C_border hp h) (fun _ a b c => C_charge hp h a b hday) (fun _ a => C_pay hp h a.1) (fun _ a b => C_assign hp h a.1) (fun _ a => C_rank hp h a) (fun _ a b => C_freed hp h a b.1) (fun _ a _ c => C_auction hp h hv a c.1) (fun _ a b => C_serve hp h) (fun _ a => C_waive hp h a.1) (fun _ a b => C_lease hp h) (fun _ a b => C_caution hp h) (fun _ a b => C_option hp h) (fun _ a => C_take hp h) (fun _ a => C_end hp h a)
end acts
