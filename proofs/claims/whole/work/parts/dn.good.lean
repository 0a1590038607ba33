/-! the invariant of Worlds -/
/-- what is known of a DEED told -/
def U_ok (V : Nat → v_D) (U : Nat → Prop) : Prop := ∀ d, U d → (((V d).2.2.2.1).length : Int) = (V d).1 15 ∧ ((V d).1 11 ≠ 0 → s_lw ((V d).1 11, (V d).1 12)) ∧ (((V d).2.2.2.2.length : Int) = (V d).1 18 ∧ ((V d).1 3 = 215 → 0 < (V d).1 18))
/-- what is wanted of FIGURES: kept by every ACT, whatever the DAY -/
def G_kept (V : Nat → v_D) (G : w_S → Prop) : Prop := (∀ S day, G S → G (d_set S day)) ∧ ∀ S ss r d a, R_z S → w_rg S → G S → v_ok (V d) → S.2.2.2 ≤ 219144 → (((V d).2.2.2.2.length : Int) = (V d).1 18 ∧ ((V d).1 3 = 215 → 0 < (V d).1 18)) → (∀ k : Nat, (V d).1 3 = 206 → k = 0 → x_in S r 0 k) → (∀ k : Nat, (V d).1 3 = 207 ∨ (V d).1 3 = 208 → k ≤ 1 → x_in S r 0 k) → G (X_act V S ss r d a).2
def I_all (V : Nat → v_D) (U : Nat → Prop) (G : w_S → Prop) (_ : Int) (S : w_S) : Prop := I_P V U S ∧ Y_g S ∧ I_C S ∧ (0 ≤ S.2.2.2 ∧ S.2.2.2 ≤ 219144) ∧ G S
theorem Y_d {S : w_S} {day : Int} (y : Y_g S) (hd : S.2.2.2 ≤ day) : Y_g (d_set S day) := by
  obtain ⟨y1, y2, y3, y4⟩ := y
  refine ⟨y1, fun i hi => ⟨(y2 i hi).1, fun t => (y2 i hi).2 ?_⟩, y3, y4⟩
  have t : t_thr (w_t S 6 i) day = true := t
  show t_thr (w_t S 6 i) S.2.2.2 = true
  unfold t_thr at *
  rw [Bool.and_eq_true, decide_eq_true_iff, decide_eq_true_iff] at t ⊢
  exact ⟨t.1, by omega⟩
theorem C_d {S : w_S} {day : Int} (h : I_C S) (y : Y_g S) (hd : day ≤ 219144) : I_C (d_set S day) := by
  refine ⟨fun c hc => ?_, h.2⟩
  obtain ⟨a1, a2, a3⟩ := h.1 c hc
  refine ⟨a1, a2, fun hne => ?_⟩
  have t : t_thr (w_t S 2 c) S.2.2.2 = true := a3 hne
  have t3 := y.2.2.1 c hc
  show t_thr (w_t S 2 c) day = true
  unfold t_thr at *
  rw [Bool.and_eq_true, decide_eq_true_iff, decide_eq_true_iff] at t ⊢
  exact ⟨t.1, by omega⟩
theorem I_all_w {V : Nat → v_D} {U : Nat → Prop} {G : w_S → Prop} {a : Int} {S : w_S} (hG : ∀ S day, G S → G (d_set S day)) (h : I_all V U G a S) {day : Int} (h1 : S.2.2.2 ≤ day) (h2 : day ≤ 219144) : I_w G V (d_set S day) := by
  obtain ⟨hp, y, c, hd, g⟩ := h
  have y' := Y_d y h1
  refine ⟨⟨y.1, C_d c y h2, fun i hi => (hp.2.2 2 i (by omega) (by omega) hi).2.2.1 rfl⟩, ⟨fun i hi t => ?_, fun i hi => (hp.2.2 3 i (by omega) (by omega) hi).2.2.2.1 rfl⟩, fun l hl q hq => ((hp.2.1 l hl).2.2.1.1 q hq).2.2.2, fun i hi t => (y'.2.1 i hi).2 t, fun k hk => ((hp.2.2 7 k (by omega) (by omega) hk).2.2.2.2.2.1 rfl).1, y.2.2.2, hG S day g⟩
  refine (hp.2.2 5 i (by omega) (by omega) hi).2.2.2.2.1 rfl ?_
  have t : t_thr (w_t S 5 i) day = true := t
  unfold t_thr at t
  rw [Bool.and_eq_true, decide_eq_true_iff] at t
  exact t.1
theorem I_all_step {V : Nat → v_D} {U : Nat → Prop} {G : w_S → Prop} (hU : U_ok V U) (hG : G_kept V G) {a : Int} {S : w_S} {d : Nat} {X : Int × w_S} (h : I_all V U G a S) (u : U d) (hv : v_ok (V d)) (hd : S.2.2.2 ≤ (V d).1 4) (hX : X_perf V S d a X) : I_all V U G (a + 1) X.2 := by
  obtain ⟨hp, y, c, hday, g⟩ := h
  have dv := hv.2.2.2.1.1
  have hp' : I_P V U (d_set S ((V d).1 4)) := P_d hp
  have y' := Y_d y hd
  have c' := C_d c y dv.2
  have g' := hG.1 S ((V d).1 4) g
  have e4 := X_perf_d hX
  have day' : 0 ≤ X.2.2.2.2 ∧ X.2.2.2.2 ≤ 219144 := by rw [e4]; exact dv
  rcases hX with ⟨e, -⟩ | ⟨ss, r, hok, hnn, e⟩
  · rw [e]
    exact ⟨hp', y', c', dv, g'⟩
  · obtain ⟨u1, u2, u3⟩ := hU d u
    rw [e] at day' ⊢
    refine ⟨P_act hp' hv u u2 dv u1 hok hnn, Y_act hp' y' hv hok hnn, C_act hp' c' hv u1 dv hok hnn, day', hG.2 _ ss r d a hp'.1 (I_P_rg hp') g' hv dv.2 u3 (fun k e3 ek => ?_) (fun k e3 ek => ?_)⟩
    · have := X_all (p := fun _ => x_in (d_set S ((V d).1 4)) r 0 0) (V := V) (d := d) (at_ := a) hv hok hnn
      subst ek
      refine this ?_ ?_ ?_ ?_ ?_ ?_ ?_ ?_ ?_ ?_ ?_ ?_ ?_ ?_ ?_ ?_ ?_ ?_ ?_ ?_ ?_ ?_
      all_goals intro e
      all_goals first | (exfalso; omega) | skip
      · exact fun a => a
    · have := X_all (p := fun _ => x_in (d_set S ((V d).1 4)) r 0 k) (V := V) (d := d) (at_ := a) hv hok hnn
      have ek : k = 0 ∨ k = 1 := by omega
      refine this ?_ ?_ ?_ ?_ ?_ ?_ ?_ ?_ ?_ ?_ ?_ ?_ ?_ ?_ ?_ ?_ ?_ ?_ ?_ ?_ ?_ ?_
      all_goals intro e
      all_goals first | (exfalso; omega) | skip
      · rcases ek with ek | ek
        · subst ek; exact fun a _ => a
        · subst ek; exact fun _ b => b
      · rcases ek with ek | ek
        · subst ek; exact fun a _ => a
        · subst ek; exact fun _ b => b
theorem I_all_good {V : Nat → v_D} {U : Nat → Prop} {G : w_S → Prop} (hU : U_ok V U) (hG : G_kept V G) : I_good G V U (I_all V U G) := ⟨fun _ _ h => ⟨h.1.1, I_P_rg h.1⟩, fun _ _ _ h h1 h2 => I_all_w hG.1 h h1 h2, fun _ _ _ _ h u hv hd hX => I_all_step hU hG h u hv hd hX⟩
/-- before all DEEDS -/
theorem I_all_0 {V : Nat → v_D} {U : Nat → Prop} {G : w_S → Prop} {A : w_S} {dr : Int} (hg : G (w_0 A dr)) : I_all V U G 1 (w_0 A dr) := by
  have z0 : (w_0 A dr).1 0 = 1 := rfl
  have z1 : (w_0 A dr).1 1 = 1 := rfl
  have zs : ∀ s, 2 ≤ s → s < 8 → (w_0 A dr).1 s = 0 := fun s a b => by
    show w_sz0 A.1 s = 0
    unfold w_sz0
    rw [if_neg (by omega), if_pos b]
  have l0 : w_l (w_0 A dr) 0 = w_land := (s_fu_eq : s_fu A.2.1 0 w_land 0 = _)
  have t0 : w_t (w_0 A dr) 1 0 = (t_crown (t_new 7165912515837165568 dr 0 (A.2.2.1 0).1), [], []) := (s_fu_eq : s_fu A.2.2.1 0 _ 0 = _)
  refine ⟨⟨fun s hs => ?_, fun i hi => ?_, fun s i s1 s8 hi => ?_⟩, ⟨fun s i s' i' hs hs' hi hi' e => ?_, fun i hi => ?_, fun c hc => ?_, by rw [z1]; omega⟩, ⟨fun c hc => ?_, fun l hl hg => ?_⟩, ⟨Int.le_refl 0, show (0 : Int) ≤ 219144 by omega⟩, hg⟩
  · have : s = 0 ∨ s = 1 ∨ 2 ≤ s := by omega
    rcases this with e | e | e
    · subst e
      rw [z0]
      show (0 : Int) ≤ 1 ∧ (1 : Int) ≤ ((80 : Nat) : Int)
      omega
    · subst e
      rw [z1]
      show (0 : Int) ≤ 1 ∧ (1 : Int) ≤ ((40 : Nat) : Int)
      omega
    · rw [zs s e hs]
      omega
  · have : i = 0 := by omega
    subst this
    rw [l0]
    have ow : w_land.2.2.2 = [((0 : Int), (1 : Int), (1 : Int))] := rfl
    refine ⟨⟨?_, by show (0 : Nat) ≤ 8; omega⟩, (fun c hc => by cases hc), by rw [ow, z1]; exact o_one ⟨by omega, by omega⟩, fun q hq => ?_, by rw [ow]; show 1 ≤ 8; omega⟩
    · intro q hq
      have hq : q ∈ [((0 : Int), (0 : Int)), (1000, 0), (1000, 1000), (0, 1000)] := hq
      simp only [List.mem_cons, List.not_mem_nil, or_false] at hq
      rcases hq with rfl | rfl | rfl | rfl <;> decide
    · rw [ow] at hq
      rw [List.mem_singleton.mp hq]
      show (1 : Int) ≤ 1000000
      omega
  · by_cases c : 2 ≤ s
    · rw [zs s c s8] at hi; omega
    · have es : s = 1 := by omega
      subst es
      have : i = 0 := by omega
      subst this
      rw [t0]
      exact ⟨⟨show (-1 : Int) < (w_0 A dr).1 1 by rw [z1]; omega, fun z => absurd rfl z⟩, ⟨(fun l hl => by cases hl), (fun l hl => by cases hl)⟩, (fun z => by omega), (fun z => by omega), (fun z => by omega), (fun z => by omega), (fun z => by omega)⟩
  · have hi : (i : Int) < (w_0 A dr).1 s := hi
    have hi' : (i' : Int) < (w_0 A dr).1 s' := hi'
    have b : ∀ {s i : Nat}, s < 7 → (i : Int) < (w_0 A dr).1 s → s < 2 ∧ i = 0 := fun {s i} hs hi => by
      by_cases c : 2 ≤ s
      · rw [zs s c (by omega)] at hi; omega
      · have : s = 0 ∨ s = 1 := by omega
        rcases this with e | e
        · subst e; omega
        · subst e; omega
    obtain ⟨a1, a2⟩ := b hs hi
    obtain ⟨b1, b2⟩ := b hs' hi'
    subst a2 b2
    have n0 : w_nm (w_0 A dr) 0 0 = 7809644604612935680 := by
      unfold w_nm
      rw [if_pos rfl, l0]; rfl
    have n1 : w_nm (w_0 A dr) 1 0 = 7165912515837165568 := by
      unfold w_nm
      rw [if_neg (by omega), t0]; rfl
    have c1 : s = 0 ∨ s = 1 := by omega
    have c2 : s' = 0 ∨ s' = 1 := by omega
    rcases c1 with c1 | c1 <;> rcases c2 with c2 | c2 <;> subst c1 c2
    · exact ⟨rfl, rfl⟩
    · rw [n0, n1] at e; omega
    · rw [n0, n1] at e; omega
    · exact ⟨rfl, rfl⟩
  · rw [zs 6 (by omega) (by omega)] at hi; omega
  · rw [zs 2 (by omega) (by omega)] at hc; omega
  · rw [zs 2 (by omega) (by omega)] at hc; omega
  · have : l = 0 := by omega
    subst this
    rw [l0]
    exact ⟨List.nodup_nil, fun c hc => by cases hc⟩
/-- what the class wants of it -/
theorem I_all_cls {M : e_M} {w : Nat} {U : Nat → Prop} {G : w_S → Prop} (hU : ∀ d, U d → a_d w d ∧ s_dok M d ∧ v_ok (v_of M d)) : I_cls M w (I_all (v_of M) U G) := by
  intro a S h
  obtain ⟨hp, y, c, hday, g⟩ := h
  refine ⟨I_P_rg hp, y.1, fun i hi => (hp.2.2 2 i (by omega) (by omega) hi).2.2.1 rfl, fun s i s2 s8 hi => ?_, fun k hk => ?_⟩
  · obtain ⟨a1, a2, a3⟩ := hU _ ((hp.2.2 s i (by omega) s8 hi).2.2.2.2.2.2 s2)
    exact ⟨a1, a2, a3.2.2.2.2.2.2⟩
  · have t := hp.2.2 7 k (by omega) (by omega) hk
    obtain ⟨⟨b1, b2, b3, b4, b5, b6, b7, b8⟩, -⟩ := t.2.2.2.2.2.1 rfl
    obtain ⟨a1, a2, a3⟩ := hU _ (t.2.2.2.2.2.2 (by omega))
    exact ⟨b1, b2, b3, ⟨a1, a2, b5⟩, b6, b7⟩
