/-! the class's Plane: whether POINTS are a CUT -/
def g_T (p q r : Int × Int) : Int := g_turn p.1 p.2 q.1 q.2 r.1 r.2
def g_O (p q r : Int × Int) : Bool := g_on p.1 p.2 q.1 q.2 r.1 r.2
/-- two stretches cross -/
def g_X (p q a b : Int × Int) : Bool := decide (g_T p q a * g_T p q b < 0) && decide (g_T a b p * g_T a b q < 0)
theorem g_X_iff {p q a b : Int × Int} : g_X p q a b = true ↔ g_T p q a * g_T p q b < 0 ∧ g_T a b p * g_T a b q < 0 := by unfold g_X; simp
def s_lp (p : Int × Int) : Prop := (0 ≤ p.1 ∧ p.1 ≤ 1000) ∧ 0 ≤ p.2 ∧ p.2 ≤ 1000
theorem s_lp_cb {p : Int × Int} (h : s_lp p) : s_cb p.1 ∧ s_cb p.2 := by unfold s_lp at h; unfold s_cb; omega
theorem g_T_b {p q r : Int × Int} (h1 : s_lp p) (h2 : s_lp q) (h3 : s_lp r) : -2000000 ≤ g_T p q r ∧ g_T p q r ≤ 2000000 := by
  unfold s_lp at *
  unfold g_T g_turn
  have m1 := s_mulb (x := q.1 - p.1) (y := r.2 - p.2) (A := 1000) (B := 1000) (by omega) (by omega) (by omega) (by omega) (by omega) (by omega)
  have m2 := s_mulb (x := q.2 - p.2) (y := r.1 - p.1) (A := 1000) (B := 1000) (by omega) (by omega) (by omega) (by omega) (by omega) (by omega)
  omega
theorem g_TT_w {p q a p2 q2 a2 : Int × Int} (h1 : s_lp p) (h2 : s_lp q) (h3 : s_lp a) (g1 : s_lp p2) (g2 : s_lp q2) (g3 : s_lp a2) : e_w64 (g_T p q a * g_T p2 q2 a2) = g_T p q a * g_T p2 q2 a2 := by
  have b1 := g_T_b h1 h2 h3
  have b2 := g_T_b g1 g2 g3
  have m := s_mulb b1.1 b1.2 b2.1 b2.2 (by omega) (by omega)
  exact s_wj (by omega) (by omega)
/-- a corner, or a stretch, that a stretch of a CUT may not meet -/
def g_inb (F : s_Fig) (p q : Int × Int) (k : Nat) : Bool := (!(decide (g_pt F k = p) || decide (g_pt F k = q)) && g_O p q (g_pt F k)) || g_X p q (g_pt F k) (g_pt F (g_nx F.length k))
def g_ins (F : s_Fig) (p q : Int × Int) : Prop := (∀ k, k < F.length → g_inb F p q k = false) ∧ g_where F (p.1 + q.1) (p.2 + q.2) 2 = 2
theorem s_fb_lp {M : e_M} {a i : Nat} (h : s_fb (s_fig M a)) (hi : (i : Int) < M a 2) : s_lp (M (a + 1) i, M (a + 2) i) := s_fb_at h hi
theorem c_isInside {M : e_M} {a d : Nat} {i : Int} {Q : Int → Prop} (h : s_fok M a) (hb : s_fb (s_fig M a)) (hd : s_dok M d) (hi : 0 ≤ i ∧ i + 1 < M d 18) (hp : s_lp (g_pt (s_dps M d) i.toNat)) (hp2 : s_lp (g_pt (s_dps M d) (i.toNat + 1))) (q1 : g_ins (s_fig M a) (g_pt (s_dps M d) i.toNat) (g_pt (s_dps M d) (i.toNat + 1)) → Q 1) (q0 : ¬ g_ins (s_fig M a) (g_pt (s_dps M d) i.toNat) (g_pt (s_dps M d) (i.toNat + 1)) → Q 0) : WX5_isInside a d i M Q := by
  obtain ⟨n0, n12⟩ := hd.2.2
  have hl := s_fig_len h
  obtain ⟨h0, h40⟩ := id h
  have e1 : g_pt (s_dps M d) i.toNat = (M (d + 5) i.toNat, M (d + 6) i.toNat) := by unfold g_pt; rw [s_dps_at (by omega)]; rfl
  have e2 : g_pt (s_dps M d) (i.toNat + 1) = (M (d + 5) (i.toNat + 1), M (d + 6) (i.toNat + 1)) := by unfold g_pt; rw [s_dps_at (by omega)]; rfl
  rw [e1] at hp q1 q0
  rw [e2] at hp2 q1 q0
  unfold WX5_isInside VX5_isInside
  rw [s_w (x := i + 1) (by omega) (by omega), show (i + 1).toNat = i.toNat + 1 by omega]
  refine ⟨by omega, by omega, by omega, fun y1 f1 => ⟨by omega, fun y2 f2 => ?_⟩⟩
  subst f1
  subst f2
  generalize M (d + 5) i.toNat = px at *
  generalize M (d + 6) i.toNat = py at *
  generalize M (d + 5) (i.toNat + 1) = qx at *
  generalize M (d + 6) (i.toNat + 1) = qy at *
  obtain ⟨c1, c2⟩ := s_lp_cb hp
  obtain ⟨c3, c4⟩ := s_lp_cb hp2
  have hp' := hp
  have hp2' := hp2
  unfold s_lp at hp' hp2'
  dsimp only at c1 c2 c3 c4 hp' hp2'
  refine s_up (σ := Unit) (P := fun dd k _ => WX5_isInside_39 M Q dd a px py qx qy k) (n := M a 2) (i0 := 0) (s := ()) (fun k _ => ∀ j : Nat, (j : Int) < k → g_inb (s_fig M a) (px, py) (qx, qy) j = false) h0 (fun j hj => by omega) ?_ ?_
  · intro d2 _ hi2
    unfold WX5_isInside_39 VX5_isInside_39
    rw [s_w (x := px + qx) (by omega) (by omega), s_w (x := py + qy) (by omega) (by omega)]
    refine ⟨fun _ => c_where h hb (by omega) (by omega) (by omega) ⟨fun ne => q0 (fun c => ne c.2), fun e => q1 ⟨fun k hk => hi2 k (by omega), e⟩⟩, fun z => by omega⟩
  · intro d2 k _ k1 k2 hi2 ih
    unfold WX5_isInside_39 VX5_isInside_39
    refine ⟨fun z => by omega, fun _ => c_next h ⟨k1, k2⟩ ?_⟩
    have hk := g_nx_lt (n := (s_fig M a).length) (i := k.toNat) (by omega)
    have p1 : g_pt (s_fig M a) k.toNat = (M (a + 1) k.toNat, M (a + 2) k.toNat) := g_pt_fig (by omega)
    have p2 : g_pt (s_fig M a) (g_nx (s_fig M a).length k.toNat) = (M (a + 1) (g_nx (s_fig M a).length k.toNat), M (a + 2) (g_nx (s_fig M a).length k.toNat)) := g_pt_fig (by omega)
    have l1 := s_fb_lp (i := k.toNat) hb (by omega)
    have l2 := s_fb_lp (i := g_nx (s_fig M a).length k.toNat) hb (by omega)
    generalize hn : g_nx (s_fig M a).length k.toNat = m at *
    have go : g_inb (s_fig M a) (px, py) (qx, qy) k.toNat = false → WX5_isInside_226 M (WX5_isInside_39 M Q d2) Q a px py qx qy k := by
      intro e
      show WX5_isInside_39 M Q d2 a px py qx qy (e_w32 (k + 1))
      rw [s_w (by omega) (by omega)]
      refine ih () (fun j hj => ?_)
      by_cases c : (j : Int) = k
      · rw [show j = k.toNat by omega]; exact e
      · exact hi2 j (by omega)
    have bad : g_inb (s_fig M a) (px, py) (qx, qy) k.toNat = true → Q 0 := fun e => q0 (fun c => by rw [c.1 k.toNat (by omega)] at e; cases e)
    unfold g_inb at go bad
    rw [hn, p1, p2] at go bad
    obtain ⟨c5, c6⟩ := s_lp_cb l1
    obtain ⟨c7, c8⟩ := s_lp_cb l2
    dsimp only at c5 c6 c7 c8
    have rk : 0 ≤ k ∧ k < 40 := by omega
    have rm : 0 ≤ (m : Int) ∧ (m : Int) < 40 := by omega
    have k134 : ((!(decide ((M (a + 1) k.toNat, M (a + 2) k.toNat) = (px, py)) || decide ((M (a + 1) k.toNat, M (a + 2) k.toNat) = (qx, qy)))) && g_O (px, py) (qx, qy) (M (a + 1) k.toNat, M (a + 2) k.toNat)) = false → WX5_isInside_134 M (WX5_isInside_39 M Q d2) Q a px py qx qy k (m : Int) (M (a + 1) k.toNat) (M (a + 2) k.toNat) := by
      intro e
      rw [e, Bool.false_or] at go bad
      unfold WX5_isInside_134 VX5_isInside_134
      rw [show ((m : Nat) : Int).toNat = m by omega]
      refine ⟨rm, rm, c_turn c1 c2 c3 c4 c5 c6 (c_turn c1 c2 c3 c4 c7 c8 ?_)⟩
      have w1 : e_w64 (g_turn px py qx qy (M (a + 1) k.toNat) (M (a + 2) k.toNat) * g_turn px py qx qy (M (a + 1) m) (M (a + 2) m)) = g_T (px, py) (qx, qy) (M (a + 1) k.toNat, M (a + 2) k.toNat) * g_T (px, py) (qx, qy) (M (a + 1) m, M (a + 2) m) := by have z := g_TT_w hp hp2 l1 hp hp2 l2; exact z
      have w2 : e_w64 (g_turn (M (a + 1) k.toNat) (M (a + 2) k.toNat) (M (a + 1) m) (M (a + 2) m) px py * g_turn (M (a + 1) k.toNat) (M (a + 2) k.toNat) (M (a + 1) m) (M (a + 2) m) qx qy) = g_T (M (a + 1) k.toNat, M (a + 2) k.toNat) (M (a + 1) m, M (a + 2) m) (px, py) * g_T (M (a + 1) k.toNat, M (a + 2) k.toNat) (M (a + 1) m, M (a + 2) m) (qx, qy) := by have z := g_TT_w l1 l2 hp l1 l2 hp2; exact z
      rw [w1]
      refine ⟨fun ge => go ?_, fun lt => c_turn c5 c6 c7 c8 c1 c2 (c_turn c5 c6 c7 c8 c3 c4 ?_)⟩
      · cases x : g_X (px, py) (qx, qy) (M (a + 1) k.toNat, M (a + 2) k.toNat) (M (a + 1) m, M (a + 2) m) with
        | false => rfl
        | true => have := (g_X_iff.mp x).1; omega
      · rw [w2]
        refine ⟨fun ge => go ?_, fun lt2 => bad (g_X_iff.mpr ⟨lt, lt2⟩)⟩
        cases x : g_X (px, py) (qx, qy) (M (a + 1) k.toNat, M (a + 2) k.toNat) (M (a + 1) m, M (a + 2) m) with
        | false => rfl
        | true => have := (g_X_iff.mp x).2; omega
    have k107 : ∀ f : Int, (f ≠ 0 → (decide ((M (a + 1) k.toNat, M (a + 2) k.toNat) = (px, py)) || decide ((M (a + 1) k.toNat, M (a + 2) k.toNat) = (qx, qy))) = true) → (f = 0 → (decide ((M (a + 1) k.toNat, M (a + 2) k.toNat) = (px, py)) || decide ((M (a + 1) k.toNat, M (a + 2) k.toNat) = (qx, qy))) = false) → WX5_isInside_107 M (WX5_isInside_39 M Q d2) Q a px py qx qy k (m : Int) (M (a + 1) k.toNat) (M (a + 2) k.toNat) f := by
      intro f f1 f0
      unfold WX5_isInside_107 VX5_isInside_107
      refine ⟨fun ne => k134 (by rw [f1 ne]; rfl), fun e => c_isOn c1 c2 c3 c4 c5 c6 (fun o => ⟨fun z => by omega, fun _ => bad ?_⟩) (fun o => ⟨fun _ => k134 ?_, fun z => absurd rfl z⟩)⟩
      · rw [f0 e, show g_O (px, py) (qx, qy) (M (a + 1) k.toNat, M (a + 2) k.toNat) = true from o]; rfl
      · rw [show g_O (px, py) (qx, qy) (M (a + 1) k.toNat, M (a + 2) k.toNat) = false from o, Bool.and_false]
    have k88 : ¬ (M (a + 1) k.toNat = px ∧ M (a + 2) k.toNat = py) → WX5_isInside_88 M (WX5_isInside_39 M Q d2) Q a px py qx qy k (m : Int) (M (a + 1) k.toNat) (M (a + 2) k.toNat) := by
      intro ne
      have d1 : decide ((M (a + 1) k.toNat, M (a + 2) k.toNat) = (px, py)) = false := decide_eq_false (fun z => ne ⟨congrArg Prod.fst z, congrArg Prod.snd z⟩)
      unfold WX5_isInside_88 VX5_isInside_88
      have no : ¬ (M (a + 1) k.toNat = qx ∧ M (a + 2) k.toNat = qy) → WX5_isInside_106 M (WX5_isInside_39 M Q d2) Q a px py qx qy k (m : Int) (M (a + 1) k.toNat) (M (a + 2) k.toNat) := fun ne2 => k107 0 (fun z => absurd rfl z) (fun _ => by
        rw [d1, Bool.false_or]
        exact decide_eq_false (fun z => ne2 ⟨congrArg Prod.fst z, congrArg Prod.snd z⟩))
      refine ⟨fun z => no (fun c => z c.1), fun e => ⟨fun z => no (fun c => z c.2), fun e2 => k107 1 (fun _ => ?_) (fun z => by omega)⟩⟩
      rw [d1, Bool.false_or, e, e2]
      exact decide_eq_true rfl
    refine ⟨rk, rk, fun z => k88 (fun c => z c.1), fun e => ⟨fun e2 => k107 1 (fun _ => ?_) (fun z => by omega), fun z => k88 (fun c => z c.2)⟩⟩
    rw [e, e2, decide_eq_true (p := (px, py) = (px, py)) rfl]; rfl
/-- two stretches of a CUT that meet where they may not -/
def g_mt2 (adj : Bool) (a b c e : Int × Int) : Bool := (g_O a b e || g_O c e a) || (!adj && ((g_O a b c || g_O c e b) || (decide (g_T a b c * g_T a b e < 0) && decide (g_T c e a * g_T c e b < 0))))
def g_mtj (ps : s_Fig) (i j : Nat) : Bool := g_mt2 (decide (j = i + 1)) (g_pt ps i) (g_pt ps (i + 1)) (g_pt ps j) (g_pt ps (j + 1))
def g_mt (ps : s_Fig) (i : Nat) : Prop := g_pt ps i = g_pt ps (i + 1) ∨ ∃ j, i < j ∧ j + 1 < ps.length ∧ g_mtj ps i j = true
theorem c_meetsLater {M : e_M} {d : Nat} {i : Int} {Q : Int → Prop} (hd : s_dok M d) (hi : 0 ≤ i ∧ i + 1 < M d 18) (hp : ∀ k : Nat, (k : Int) < M d 18 → s_lp (g_pt (s_dps M d) k)) (q1 : g_mt (s_dps M d) i.toNat → Q 1) (q0 : ¬ g_mt (s_dps M d) i.toNat → Q 0) : WX5_meetsLater d i M Q := by
  obtain ⟨n0, n12⟩ := hd.2.2
  have hl := s_dps_len hd
  have ep : ∀ k : Nat, (k : Int) < M d 18 → g_pt (s_dps M d) k = (M (d + 5) k, M (d + 6) k) := fun k hk => by unfold g_pt; rw [s_dps_at hk]; rfl
  have hpi := hp i.toNat (by omega)
  have hpi1 := hp (i.toNat + 1) (by omega)
  have e1 := ep i.toNat (by omega)
  have e2 := ep (i.toNat + 1) (by omega)
  obtain ⟨c1, c2⟩ := s_lp_cb hpi
  obtain ⟨c3, c4⟩ := s_lp_cb hpi1
  unfold WX5_meetsLater VX5_meetsLater
  rw [s_w (x := i + 1) (by omega) (by omega), show (i + 1).toNat = i.toNat + 1 by omega]
  have rest : g_pt (s_dps M d) i.toNat ≠ g_pt (s_dps M d) (i.toNat + 1) → WX5_meetsLater_48 M Q d i (M (d + 5) i.toNat) (M (d + 6) i.toNat) (M (d + 5) (i.toNat + 1)) (M (d + 6) (i.toNat + 1)) := by
    intro ne
    show ∃ j, WX5_meetsLater_53 M Q j d i (M (d + 5) i.toNat) (M (d + 6) i.toNat) (M (d + 5) (i.toNat + 1)) (M (d + 6) (i.toNat + 1)) (e_w32 (i + 1))
    rw [s_w (x := i + 1) (by omega) (by omega)]
    refine s_up (σ := Unit) (P := fun dd k _ => WX5_meetsLater_53 M Q dd d i (M (d + 5) i.toNat) (M (d + 6) i.toNat) (M (d + 5) (i.toNat + 1)) (M (d + 6) (i.toNat + 1)) k) (n := M d 18 - 1) (i0 := i + 1) (s := ()) (fun k _ => ∀ j : Nat, i < j → (j : Int) < k → g_mtj (s_dps M d) i.toNat j = false) (by omega) (fun j h1 h2 => by omega) ?_ ?_
    · intro d2 _ hj
      unfold WX5_meetsLater_53 VX5_meetsLater_53
      rw [s_w (x := M d 18 - 1 + 1) (by omega) (by omega)]
      refine ⟨fun _ => q0 ?_, fun z => by omega⟩
      rintro (z | ⟨j, j1, j2, j3⟩)
      · exact ne z
      · rw [hj j (by omega) (by omega)] at j3; cases j3
    · intro d2 k _ k1 k2 hj ih
      have e3 := ep k.toNat (by omega)
      have e4 := ep (k.toNat + 1) (by omega)
      have hpk := hp k.toNat (by omega)
      have hpk1 := hp (k.toNat + 1) (by omega)
      obtain ⟨c5, c6⟩ := s_lp_cb hpk
      obtain ⟨c7, c8⟩ := s_lp_cb hpk1
      have k263 : ∀ f : Int, (f = 0 → g_mtj (s_dps M d) i.toNat k.toNat = false) → (f ≠ 0 → g_mtj (s_dps M d) i.toNat k.toNat = true) → WX5_meetsLater_263 M (WX5_meetsLater_53 M Q d2) Q d i (M (d + 5) i.toNat) (M (d + 6) i.toNat) (M (d + 5) (i.toNat + 1)) (M (d + 6) (i.toNat + 1)) k f := by
        intro f f0 f1
        unfold WX5_meetsLater_263 VX5_meetsLater_263
        refine ⟨fun e => ?_, fun ne2 => q1 (Or.inr ⟨k.toNat, by omega, by omega, f1 ne2⟩)⟩
        rw [s_w (by omega) (by omega)]
        refine ih () (fun j h1 h2 => ?_)
        by_cases c : (j : Int) = k
        · rw [show j = k.toNat by omega]; exact f0 e
        · exact hj j h1 (by omega)
      unfold g_mtj at k263
      rw [e1] at c1 c2 hpi k263
      rw [e2] at c3 c4 hpi1 k263
      rw [e3] at c5 c6 hpk k263
      rw [e4] at c7 c8 hpk1 k263
      dsimp only at c1 c2 c3 c4 c5 c6 c7 c8
      unfold WX5_meetsLater_53 VX5_meetsLater_53
      rw [s_w (x := k + 1) (by omega) (by omega), show (k + 1).toNat = k.toNat + 1 by omega]
      generalize M (d + 5) i.toNat = ax at *
      generalize M (d + 6) i.toNat = ay at *
      generalize M (d + 5) (i.toNat + 1) = bx at *
      generalize M (d + 6) (i.toNat + 1) = b_ at *
      generalize hcx : M (d + 5) k.toNat = cx at *
      generalize hcy : M (d + 6) k.toNat = cy at *
      refine ⟨fun z => by omega, fun _ => ⟨by omega, by omega, by omega, fun y1 f1 => ⟨by omega, fun y2 f2 => ?_⟩⟩⟩
      rw [← f1] at c7 hpk1 k263
      rw [← f2] at c8 hpk1 k263
      have k141 : ∀ f : Int, (f = 0 → (g_O (ax, ay) (bx, b_) (y1, y2) || g_O (cx, cy) (y1, y2) (ax, ay)) = false) → (f ≠ 0 → (g_O (ax, ay) (bx, b_) (y1, y2) || g_O (cx, cy) (y1, y2) (ax, ay)) = true) → WX5_meetsLater_141 M (WX5_meetsLater_53 M Q d2) Q d i ax ay bx b_ k cx cy y1 y2 f := by
        intro f f0 f1
        unfold g_mt2 at k263
        unfold WX5_meetsLater_141 VX5_meetsLater_141
        rw [s_w (x := i + 1) (by omega) (by omega)]
        refine ⟨fun le => k263 f (fun e => ?_) (fun e => ?_), fun lt => ?_⟩
        · rw [f0 e, decide_eq_true (show k.toNat = i.toNat + 1 by omega)]; rfl
        · rw [f1 e]; rfl
        · rw [decide_eq_false (show ¬ k.toNat = i.toNat + 1 by omega), Bool.not_false, Bool.true_and] at k263
          refine ⟨fun ne2 => k263 1 (fun z => by omega) (fun _ => by rw [f1 ne2]; rfl), fun e => c_isOn c1 c2 c3 c4 c5 c6 (fun o => ⟨fun _ => k263 1 (fun z => by omega) (fun _ => ?_), fun z => by omega⟩) (fun o => ⟨fun z => absurd rfl z, fun _ => c_isOn c5 c6 c7 c8 c3 c4 (fun o2 => ⟨fun _ => k263 1 (fun z => by omega) (fun _ => ?_), fun z => by omega⟩) (fun o2 => ⟨fun z => absurd rfl z, fun _ => ?_⟩)⟩)⟩
          · rw [show g_O (ax, ay) (bx, b_) (cx, cy) = true from o]; simp
          · rw [show g_O (cx, cy) (y1, y2) (bx, b_) = true from o2]; simp
          · rw [f0 e, show g_O (ax, ay) (bx, b_) (cx, cy) = false from o, show g_O (cx, cy) (y1, y2) (bx, b_) = false from o2, Bool.false_or, Bool.false_or, Bool.false_or] at k263
            have w1 : e_w64 (g_turn ax ay bx b_ cx cy * g_turn ax ay bx b_ y1 y2) = g_T (ax, ay) (bx, b_) (cx, cy) * g_T (ax, ay) (bx, b_) (y1, y2) := by have z := g_TT_w hpi hpi1 hpk hpi hpi1 hpk1; exact z
            have w2 : e_w64 (g_turn cx cy y1 y2 ax ay * g_turn cx cy y1 y2 bx b_) = g_T (cx, cy) (y1, y2) (ax, ay) * g_T (cx, cy) (y1, y2) (bx, b_) := by have z := g_TT_w hpk hpk1 hpi hpk hpk1 hpi1; exact z
            refine c_turn c1 c2 c3 c4 c5 c6 (c_turn c1 c2 c3 c4 c7 c8 ?_)
            rw [w1]
            refine ⟨fun ge => k263 0 (fun _ => ?_) (fun z => absurd rfl z), fun lt2 => c_turn c5 c6 c7 c8 c1 c2 (c_turn c5 c6 c7 c8 c3 c4 ?_)⟩
            · rw [decide_eq_false (Int.not_lt.mpr ge)]; rfl
            · rw [w2]
              refine ⟨fun ge => k263 0 (fun _ => ?_) (fun z => absurd rfl z), fun lt3 => k263 1 (fun z => by omega) (fun _ => ?_)⟩
              · rw [decide_eq_false (Int.not_lt.mpr ge), Bool.and_false]
              · rw [decide_eq_true lt2, decide_eq_true lt3]; rfl
      refine c_isOn c1 c2 c3 c4 c7 c8 (fun o => ⟨fun _ => k141 1 (fun z => by omega) (fun _ => ?_), fun z => by omega⟩) (fun o => ⟨fun z => absurd rfl z, fun _ => c_isOn c5 c6 c7 c8 c1 c2 (fun o2 => ⟨fun z => by omega, fun _ => k141 1 (fun z => by omega) (fun _ => ?_)⟩) (fun o2 => ⟨fun _ => k141 0 (fun _ => ?_) (fun z => absurd rfl z), fun z => absurd rfl z⟩)⟩)
      · rw [show g_O (ax, ay) (bx, b_) (y1, y2) = true from o]; rfl
      · rw [show g_O (cx, cy) (y1, y2) (ax, ay) = true from o2, Bool.or_true]
      · rw [show g_O (ax, ay) (bx, b_) (y1, y2) = false from o, show g_O (cx, cy) (y1, y2) (ax, ay) = false from o2]; rfl
  refine ⟨by omega, by omega, by omega, fun y1 f1 => ⟨by omega, fun y2 f2 => ?_⟩⟩
  rw [f1, f2]
  rw [e1, e2] at rest
  refine ⟨fun z => rest (fun c => z (congrArg Prod.fst c)), fun f3 => ⟨fun z => rest (fun c => z (congrArg Prod.snd c)), fun f4 => q1 (Or.inl ?_)⟩⟩
  rw [e1, e2, f3, f4]
