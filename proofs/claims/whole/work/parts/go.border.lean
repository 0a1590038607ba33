/-! THE MODEL: a border moved -/
theorem N_fig2 {M M' : e_M} {a b : Nat} {A B : s_Fig} (h : nn_ok M) (ha : a < 80) (hb : b < 80) (hab : a ≠ b) (qa : j_fg M' (40 * a) (M' 4496 a) = A) (qb : j_fg M' (40 * b) (M' 4496 b) = B) (la : 0 ≤ M' 4496 a ∧ M' 4496 a ≤ 40) (lb : 0 ≤ M' 4496 b ∧ M' 4496 b ≤ 40) (o : ∀ c, c ≠ 4480 → c ≠ 4481 → c ≠ 4496 → M' c = M c) (f1 : ∀ u, u ≠ a → u ≠ b → M' 4496 u = M 4496 u) (f2 : ∀ j, (j < 40 * a ∨ 40 * a + 40 ≤ j) → (j < 40 * b ∨ 40 * b + 40 ≤ j) → M' 4480 j = M 4480 j ∧ M' 4481 j = M 4481 j) : nn_ok M' ∧ n_of M' = n_fig (n_fig (n_of M) a A) b B := by
  obtain ⟨X, hX⟩ : ∃ X : e_M, X = fun c j => if ((c = 4480 ∨ c = 4481) ∧ 40 * b ≤ j ∧ j < 40 * b + 40) ∨ (c = 4496 ∧ j = b) then M c j else M' c j := ⟨_, rfl⟩
  have x0 : ∀ c, c ≠ 4480 → c ≠ 4481 → c ≠ 4496 → X c = M' c := fun c c1 c2 c3 => by
    funext j
    rw [hX]
    exact if_neg (by omega)
  have x96 : ∀ u, X 4496 u = if u = b then M 4496 u else M' 4496 u := fun u => by
    rw [hX]
    by_cases c : u = b
    · rw [if_pos c]; exact if_pos (Or.inr ⟨rfl, c⟩)
    · rw [if_neg c]; exact if_neg (by omega)
  have x8 : ∀ c j, (c = 4480 ∨ c = 4481) → X c j = if 40 * b ≤ j ∧ j < 40 * b + 40 then M c j else M' c j := fun c j hc => by
    rw [hX]
    by_cases k : 40 * b ≤ j ∧ j < 40 * b + 40
    · rw [if_pos k]; exact if_pos (Or.inl ⟨hc, k⟩)
    · rw [if_neg k]; exact if_neg (by omega)
  have ea : X 4496 a = M' 4496 a := by rw [x96, if_neg hab]
  obtain ⟨u1, u2⟩ := N_fig (M := M) (M' := X) (r := A) h ha (by
    rw [ea, ← qa]
    unfold j_fg
    refine s_ar_congr (fun i hi => ?_)
    rw [x8 _ _ (Or.inl rfl), x8 _ _ (Or.inr rfl), if_neg (by omega), if_neg (by omega)]) (by rw [ea]; exact la) (fun c c1 c2 c3 => by rw [x0 c c1 c2 c3, o c c1 c2 c3]) (fun u hu => by
    rw [x96]
    by_cases c : u = b
    · rw [if_pos c]
    · rw [if_neg c]; exact f1 u hu c) (fun j _ hj => by
    rw [x8 _ _ (Or.inl rfl), x8 _ _ (Or.inr rfl)]
    by_cases c : 40 * b ≤ j ∧ j < 40 * b + 40
    · rw [if_pos c, if_pos c]; exact ⟨rfl, rfl⟩
    · rw [if_neg c, if_neg c]; exact f2 j hj (by omega))
  obtain ⟨v1, v2⟩ := N_fig (M := X) (M' := M') (r := B) u1 hb qb lb (fun c c1 c2 c3 => (x0 c c1 c2 c3).symm) (fun u hu => by rw [x96, if_neg hu]) (fun j _ hj => by
    rw [x8 _ _ (Or.inl rfl), x8 _ _ (Or.inr rfl), if_neg (by omega), if_neg (by omega)]; exact ⟨rfl, rfl⟩)
  exact ⟨v1, by rw [v2, u2]⟩
theorem m_moveFig {M M1 M2 : e_M} {a b nl nr : Nat} {A B : s_Fig} {Q : Int → e_M → Prop} (h : nn_ok M) (ha : a < 80) (hb : b < 80) (hab : a ≠ b) (e42 : M 4456 42 = (nl : Int)) (e43 : M 4456 43 = (nr : Int)) (l40 : nl ≤ 40) (r40 : nr ≤ 40) (eA : j_fg M 3600 nl = A) (eB : j_fg M 4000 nr = B) (e1 : M1 = e_up M 4496 a (M 4456 42)) (e2 : M2 = e_up M1 4496 b (M1 4456 43)) (hq : ∀ M', nn_ok M' → n_of M' = n_fig (n_fig (n_of M) a A) b B → (∀ c, c ≠ 4480 → c ≠ 4481 → c ≠ 4496 → M' c = M c) → Q 0 M') : ∃ j, WX12_border_225 Q j a b 0 M2 := by
  rw [e42] at e1
  have o2 : ∀ c, c ≠ 4496 → M2 c = M c := fun c hc => by rw [e2, e_up_row hc, e1, e_up_row hc]
  have m96 : ∀ u, M2 4496 u = if u = b then (nr : Int) else if u = a then (nl : Int) else M 4496 u := fun u => by
    rw [e2, e_up_at, e1, e_up_row (show 4456 ≠ 4496 by omega), e43, e_up_at]
  refine s_up (σ := e_M) (P := fun dd i N => WX12_border_225 Q dd a b i N) (n := 40) (i0 := 0) (s := M2) (fun i N => (∀ c, c ≠ 4480 → c ≠ 4481 → N c = M2 c) ∧ (∀ j : Nat, (j : Int) < i → (N 4480 (40 * a + j) = M 4480 (3600 + j) ∧ N 4481 (40 * a + j) = M 4481 (3600 + j)) ∧ N 4480 (40 * b + j) = M 4480 (4000 + j) ∧ N 4481 (40 * b + j) = M 4481 (4000 + j)) ∧ ∀ j, (j < 40 * a ∨ 40 * a + 40 ≤ j) → (j < 40 * b ∨ 40 * b + 40 ≤ j) → N 4480 j = M 4480 j ∧ N 4481 j = M 4481 j) (by omega) ⟨fun _ _ _ => rfl, fun j hj => by omega, fun j _ _ => ⟨by rw [o2 4480 (by omega)], by rw [o2 4481 (by omega)]⟩⟩ ?_ ?_
  · intro d N ⟨n1, n2, n3⟩
    unfold WX12_border_225 VX12_border_225
    refine ⟨fun _ => ?_, fun z => absurd z (by decide)⟩
    have ca : N 4496 a = (nl : Int) := by rw [n1 4496 (by omega) (by omega), m96, if_neg hab, if_pos rfl]
    have cb : N 4496 b = (nr : Int) := by rw [n1 4496 (by omega) (by omega), m96, if_pos rfl]
    obtain ⟨u1, u2⟩ := N_fig2 (M := M) (M' := N) (A := A) (B := B) h ha hb hab (by
      rw [ca, ← eA]; unfold j_fg
      exact s_ar_congr (fun i hi => by have := (n2 i (by omega)).1; rw [this.1, this.2])) (by
      rw [cb, ← eB]; unfold j_fg
      exact s_ar_congr (fun i hi => by have := (n2 i (by omega)).2; rw [this.1, this.2])) (by omega) (by omega) (fun c c1 c2 c3 => by rw [n1 c c1 c2, o2 c c3]) (fun u ua ub => by rw [n1 4496 (by omega) (by omega), m96, if_neg ub, if_neg ua]) n3
    exact hq N u1 u2 (fun c c1 c2 c3 => by rw [n1 c c1 c2, o2 c c3])
  · intro d i' N i0 i1 ⟨n1, n2, n3⟩ ih
    obtain ⟨i, ei⟩ : ∃ i : Nat, i' = i := ⟨i'.toNat, by omega⟩
    subst ei
    unfold WX12_border_225 VX12_border_225
    rw [s_w (x := (3600 : Int) + (i : Int)) (by omega) (by omega), s_w (x := (4000 : Int) + (i : Int)) (by omega) (by omega), s_w (x := 40 * (a : Int)) (by omega) (by omega), s_w (x := 40 * (a : Int) + (i : Int)) (by omega) (by omega), s_w (x := 40 * (b : Int)) (by omega) (by omega), s_w (x := 40 * (b : Int) + (i : Int)) (by omega) (by omega), s_w (x := (i : Int) + 1) (by omega) (by omega), show ((3600 : Int) + (i : Int)).toNat = 3600 + i by omega, show ((4000 : Int) + (i : Int)).toNat = 4000 + i by omega, show (40 * (a : Int) + (i : Int)).toNat = 40 * a + i by omega, show (40 * (b : Int) + (i : Int)).toNat = 40 * b + i by omega]
    have h36 := n3 (3600 + i) (by omega) (by omega)
    have h40 := n3 (4000 + i) (by omega) (by omega)
    refine ⟨fun z => by omega, fun _ => ⟨by omega, by omega, fun A1 g1 => ⟨by omega, by omega, fun A2 g2 => ⟨by omega, by omega, fun A3 g3 => ⟨by omega, by omega, fun A4 g4 => ?_⟩⟩⟩⟩⟩
    rw [h36.1] at g1
    rw [g1, e_up_row (show 4481 ≠ 4480 by omega), h36.2] at g2
    have k3 : A2 4480 (4000 + i) = M 4480 (4000 + i) := by rw [g2, e_up_row (by omega), e_up_ne (by omega), h40.1]
    rw [k3] at g3
    have k4 : A3 4481 (4000 + i) = M 4481 (4000 + i) := by rw [g3, e_up_row (by omega), g2, e_up_ne (by omega), e_up_row (by omega), h40.2]
    rw [k4] at g4
    have c0 : ∀ j, A4 4480 j = if j = 40 * b + i then M 4480 (4000 + i) else if j = 40 * a + i then M 4480 (3600 + i) else N 4480 j := fun j => by rw [g4, e_up_row (by omega), g3, e_up_at, g2, e_up_row (by omega), e_up_at]
    have c1 : ∀ j, A4 4481 j = if j = 40 * b + i then M 4481 (4000 + i) else if j = 40 * a + i then M 4481 (3600 + i) else N 4481 j := fun j => by rw [g4, e_up_at, g3, e_up_row (by omega), g2, e_up_at, e_up_row (by omega)]
    refine ih A4 ⟨fun c c1 c2 => by rw [g4, e_up_row c2, g3, e_up_row c1, g2, e_up_row c2, e_up_row c1, n1 c c1 c2], fun j hj => ?_, fun j ja jb => ?_⟩
    · rw [c0, c1, c0, c1]
      by_cases c : j = i
      · rw [if_neg (show ¬ 40 * a + j = 40 * b + i by omega), if_pos (show 40 * a + j = 40 * a + i by omega), if_neg (show ¬ 40 * a + j = 40 * b + i by omega), if_pos (show 40 * a + j = 40 * a + i by omega), if_pos (show 40 * b + j = 40 * b + i by omega), if_pos (show 40 * b + j = 40 * b + i by omega), c]
        exact ⟨⟨rfl, rfl⟩, rfl, rfl⟩
      · rw [if_neg (show ¬ 40 * a + j = 40 * b + i by omega), if_neg (show ¬ 40 * a + j = 40 * a + i by omega), if_neg (show ¬ 40 * a + j = 40 * b + i by omega), if_neg (show ¬ 40 * a + j = 40 * a + i by omega), if_neg (show ¬ 40 * b + j = 40 * b + i by omega), if_neg (show ¬ 40 * b + j = 40 * a + i by omega), if_neg (show ¬ 40 * b + j = 40 * b + i by omega), if_neg (show ¬ 40 * b + j = 40 * a + i by omega)]
        exact n2 j (by omega)
    · rw [c0, c1, if_neg (show ¬ j = 40 * b + i by omega), if_neg (show ¬ j = 40 * a + i by omega), if_neg (show ¬ j = 40 * b + i by omega), if_neg (show ¬ j = 40 * a + i by omega)]
      exact n3 j ja jb
/-- is a SERVE left without its POINTS -/
theorem m_lost {M : e_M} {V : Nat → v_D} {S : w_S} {m : Int} {a b nl nr : Nat} {L R : s_Fig} {Q : Int → e_M → Prop} (h : R_all M V S m) (ha : a < 80) (hb : b < 80) (hpb : ∀ i : Nat, (i : Int) < S.1 3 → s_pb (V ((w_t S 3 i).1 11).toNat).2.2.2.2) (e2 : M 4456 42 = (nl : Int)) (e3 : M 4456 43 = (nr : Int)) (l40 : nl ≤ 400) (r40 : nr ≤ 400) (eL : j_fg M 3600 nl = L) (eR : j_fg M 4000 nr = R) (gL : gt_fig L) (gR : gt_fig R) (bL : s_fb L) (bR : s_fb R) (q5 : w_lost (fun a => (V a).2.2.2.2) S a b L R → Q 5 M) (q0 : ¬ w_lost (fun a => (V a).2.2.2.2) S a b L R → ∀ M1, M1 = e_up M 4496 a (M 4456 42) → ∀ M2, M2 = e_up M1 4496 b (M1 4456 43) → ∃ j, WX12_border_225 Q j a b 0 M2) : ∃ j, WX12_border_106 Q j a b 0 M := by
  obtain ⟨hn, hc, hR, hz, hg, hd⟩ := id h
  have z3 := z80_of hz 3 (by omega)
  have e83 : M 4483 3 = S.1 3 := R_many hR (by omega)
  have day : M 4456 86 = S.2.2.2 := R_day hR
  generalize hP : (fun a => (V a).2.2.2.2) = P at *
  refine s_up (σ := Unit) (P := fun dd i _ => WX12_border_106 Q dd a b i M) (n := S.1 3) (i0 := 0) (s := ()) (fun i _ => ∀ k : Nat, (k : Int) < i → ¬ (w_thr S 3 k = true ∧ t_lost P a b L R (w_t S 3 k))) z3.1 (fun k hk => by omega) ?_ ?_
  · intro d _ hI
    unfold WX12_border_106 VX12_border_106
    rw [show (3 : Int).toNat = 3 from rfl, e83, show ((a : Nat) : Int).toNat = a by omega, show ((b : Nat) : Int).toNat = b by omega]
    refine ⟨by omega, fun _ => ⟨by omega, fun M1 e1 => ⟨by omega, fun M2 e2' => q0 (fun ⟨k, k1, k2, k3⟩ => hI k k1 ⟨k2, k3⟩) M1 e1 M2 e2'⟩⟩, fun z => by omega⟩
  · intro d i' _ i0 i1 hI ih
    obtain ⟨i, ei⟩ : ∃ i : Nat, i' = i := ⟨i'.toNat, by omega⟩
    subst ei
    have i80 : i < 80 := by omega
    have rt := hR.2.2.2.2.1 3 i (by omega) (by omega) i1
    have base : n_of M = n_setT (n_of M) (80 * 3 + i) ((n_of M).2.1 (80 * 3 + i)) := n_setT_self.symm
    have k196 : ¬ (w_thr S 3 i = true ∧ t_lost P a b L R (w_t S 3 i)) → WX12_border_196 (WX12_border_106 Q d) Q a b i M := fun no => by
      unfold WX12_border_196 VX12_border_196
      rw [s_w (by omega) (by omega)]
      refine ih () (fun k hk => ?_)
      by_cases c : k = i
      · rw [c]; exact no
      · exact hI k (by omega)
    unfold WX12_border_106 VX12_border_106
    rw [show (3 : Int).toNat = 3 from rfl, e83, day]
    refine ⟨by omega, fun z => by omega, fun _ => m_idt (t := 80 * 3 + i) (by omega) (by omega) (by omega) (m_isThere (s := 3) (by omega) i80 (fun t => ⟨fun _ => ?_, fun z => absurd z (by decide)⟩) (fun t => ⟨fun z => absurd rfl z, fun _ => k196 (fun c => ?_)⟩))⟩
    · have tx : w_thr S 3 i = true := by rw [w_thr_t (by omega), ← rt.2.1]; exact t
      have rb := (R_rows hR (show 2 ≤ 3 ∧ 3 ≤ 6 by omega) i1 tx).2.2.1 rfl
      have ep : n_pt M i = P ((w_t S 3 i).1 11).toNat := by
        rw [← hP]
        have := hR.2.2.2.2.2.1 i i1
        rw [n_v i80] at this
        exact this
      have pb : s_pb (P ((w_t S 3 i).1 11).toNat) := by rw [← hP]; exact hpb i i1
      have pn := hn.2.2.2.1 i i80
      have lost : t_lost P a b L R (w_t S 3 i) → Q 5 M := fun y => q5 ⟨i, i1, tx, y⟩
      have k168 : ¬ ((a : Int) ∈ (w_t S 3 i).2.2 ∧ g_hold L (P ((w_t S 3 i).1 11).toNat) = false) → WX12_border_168 (WX12_border_106 Q d) Q a b i ((80 * 3 + i : Nat) : Int) M := fun na => by
        unfold WX12_border_168 VX12_border_168
        refine k_placeOn (T := 80 * 3 + i) (by omega) hn (by omega) base ⟨fun lt => k196 (fun c => ?_), fun ge => ?_⟩
        · rcases c.2 with y | y
          · exact na y
          · rw [← rb.2.1] at y
            have := r_find_mem.mpr y.1
            omega
        · refine m_hasPoint (v := i) (f := 4000) (n := nr) rfl rfl e3 i80 (by omega) eR gR bR ep pb pn (fun y2 => ⟨fun _ => k196 (fun c => ?_), fun z => absurd z (by decide)⟩) (fun y2 => ⟨fun z => absurd rfl z, fun _ => lost (Or.inr ⟨by rw [← rb.2.1]; exact r_find_mem.mp ge, y2⟩)⟩)
          rcases c.2 with y | y
          · exact na y
          · rw [y2] at y; cases y.2
      refine k_placeOn (T := 80 * 3 + i) (by omega) hn (by omega) base ⟨fun lt => k168 (fun c => ?_), fun ge => ?_⟩
      · rw [← rb.2.1] at c
        have := r_find_mem.mpr c.1
        omega
      · refine m_hasPoint (v := i) (f := 3600) (n := nl) rfl rfl e2 i80 (by omega) eL gL bL ep pb pn (fun y1 => ⟨fun z => absurd z (by decide), fun _ => k168 (fun c => by rw [y1] at c; cases c.2)⟩) (fun y1 => ⟨fun _ => lost (Or.inl ⟨by rw [← rb.2.1]; exact r_find_mem.mp ge, y1⟩), fun z => absurd rfl z⟩)
    · have tx := c.1
      rw [w_thr_t (by omega), ← rt.2.1, t] at tx
      cases tx
