/-! the class's Plane: edges, laid and dropped -/
abbrev g_E : Type := (Int × Int) × (Int × Int)
def g_far (c p : Int × Int) : Int := ((c.1 - p.1).natAbs : Int) + ((c.2 - p.2).natAbs : Int)
def g_nrc (F : s_Fig) (p q : Int × Int) (k : Nat) (s : Int × Int) : Bool := (!(decide (g_far (g_pt F k) p = 0) || decide (g_pt F k = q)) && (decide (s.1 < 0) || decide (g_far (g_pt F k) p < s.2))) && g_O p q (g_pt F k)
def g_nrst (F : s_Fig) (p q : Int × Int) : Nat → Int × Int
  | 0 => (-1, 0)
  | k + 1 => if g_nrc F p q k (g_nrst F p q k) = true then ((k : Int), g_far (g_pt F k) p) else g_nrst F p q k
theorem g_nrst_b {F : s_Fig} {p q : Int × Int} : ∀ {k : Nat}, -1 ≤ (g_nrst F p q k).1 ∧ (g_nrst F p q k).1 < k
  | 0 => by unfold g_nrst; dsimp only; omega
  | k + 1 => by
    have := g_nrst_b (F := F) (p := p) (q := q) (k := k)
    unfold g_nrst
    split
    · dsimp only; omega
    · omega
theorem c_nearestOn {M : e_M} {a : Nat} {px py qx qy : Int} {Q : Int → Prop} (h : s_fok M a) (hb : s_fb (s_fig M a)) (hp : s_lp (px, py)) (hq : s_lp (qx, qy)) (q1 : Q (g_nrst (s_fig M a) (px, py) (qx, qy) (s_fig M a).length).1) : WX5_nearestOn a px py qx qy M Q := by
  have hl := s_fig_len h
  obtain ⟨h0, h40⟩ := id h
  obtain ⟨c1, c2⟩ := s_lp_cb hp
  obtain ⟨c3, c4⟩ := s_lp_cb hq
  have hp' := hp
  unfold s_lp at hp'
  dsimp only at c1 c2 c3 c4 hp'
  unfold WX5_nearestOn VX5_nearestOn
  refine s_up (σ := Int × Int) (P := fun dd k s => WX5_nearestOn_9 M Q dd a px py qx qy s.1 s.2 k) (n := M a 2) (i0 := 0) (s := (-1, 0)) (fun k s => s = g_nrst (s_fig M a) (px, py) (qx, qy) k.toNat) h0 rfl ?_ ?_
  · intro d2 s es
    unfold WX5_nearestOn_9 VX5_nearestOn_9
    refine ⟨fun _ => ?_, fun z => by omega⟩
    rw [es, show (M a 2).toNat = (s_fig M a).length by omega]
    exact q1
  · intro d2 k s k1 k2 es ih
    have bk := s_fb_at (i := k.toNat) hb (by omega)
    have pk : g_pt (s_fig M a) k.toNat = (M (a + 1) k.toNat, M (a + 2) k.toNat) := g_pt_fig (by omega)
    have ek : g_nrst (s_fig M a) (px, py) (qx, qy) (k.toNat + 1) = if g_nrc (s_fig M a) (px, py) (qx, qy) k.toNat s = true then ((k.toNat : Int), g_far (M (a + 1) k.toNat, M (a + 2) k.toNat) (px, py)) else s := by
      rw [es, ← pk]; rfl
    unfold g_nrc at ek
    rw [pk] at ek
    obtain ⟨c5, c6⟩ := s_fb_cb (i := k.toNat) hb (by omega)
    have no : (((!(decide (g_far (M (a + 1) k.toNat, M (a + 2) k.toNat) (px, py) = 0) || decide ((M (a + 1) k.toNat, M (a + 2) k.toNat) = (qx, qy))) && (decide (s.1 < 0) || decide (g_far (M (a + 1) k.toNat, M (a + 2) k.toNat) (px, py) < s.2))) && g_O (px, py) (qx, qy) (M (a + 1) k.toNat, M (a + 2) k.toNat)) = false) → WX5_nearestOn_118 M (WX5_nearestOn_9 M Q d2) Q a px py qx qy s.1 s.2 k := by
      intro e
      show WX5_nearestOn_9 M Q d2 a px py qx qy s.1 s.2 (e_w32 (k + 1))
      rw [s_w (by omega) (by omega)]
      refine ih s ?_
      rw [show (k + 1).toNat = k.toNat + 1 by omega, ek, if_neg (by rw [e]; exact Bool.false_ne_true)]
    have yes : (((!(decide (g_far (M (a + 1) k.toNat, M (a + 2) k.toNat) (px, py) = 0) || decide ((M (a + 1) k.toNat, M (a + 2) k.toNat) = (qx, qy))) && (decide (s.1 < 0) || decide (g_far (M (a + 1) k.toNat, M (a + 2) k.toNat) (px, py) < s.2))) && g_O (px, py) (qx, qy) (M (a + 1) k.toNat, M (a + 2) k.toNat)) = true) → WX5_nearestOn_118 M (WX5_nearestOn_9 M Q d2) Q a px py qx qy k (g_far (M (a + 1) k.toNat, M (a + 2) k.toNat) (px, py)) k := by
      intro e
      show WX5_nearestOn_9 M Q d2 a px py qx qy k (g_far (M (a + 1) k.toNat, M (a + 2) k.toNat) (px, py)) (e_w32 (k + 1))
      rw [s_w (by omega) (by omega)]
      refine ih (k, _) ?_
      rw [show (k + 1).toNat = k.toNat + 1 by omega, ek, if_pos e, show ((k.toNat : Nat) : Int) = k by omega]
      rfl
    generalize hcx : M (a + 1) k.toNat = cx at *
    generalize hcy : M (a + 2) k.toNat = cy at *
    have ef : g_far (cx, cy) (px, py) = ((cx - px).natAbs : Int) + ((cy - py).natAbs : Int) := rfl
    generalize hf : g_far (cx, cy) (px, py) = f at *
    unfold WX5_nearestOn_9 VX5_nearestOn_9
    rw [hcx, hcy]
    refine ⟨fun z => by omega, fun _ => ⟨by omega, by omega, fun y1 e1 => ?_⟩⟩
    rw [s_w (x := cx - px) (by omega) (by omega), s_w (x := cy - py) (by omega) (by omega), s_abs (by omega) (by omega), s_abs (by omega) (by omega), s_w (by omega) (by omega), ← ef] at e1
    subst e1
    have k95 : (decide (y1 = 0) || decide ((cx, cy) = (qx, qy))) = false → (decide (s.1 < 0) || decide (y1 < s.2)) = true → WX5_nearestOn_95 M (WX5_nearestOn_9 M Q d2) Q a px py qx qy s.1 s.2 k cx cy y1 := by
      intro e e2
      rw [e, e2] at no yes
      unfold WX5_nearestOn_95 VX5_nearestOn_95
      refine c_isOn c1 c2 c3 c4 c5 c6 (fun o => ⟨fun z => by omega, fun _ => yes ?_⟩) (fun o => ⟨fun _ => no ?_, fun z => absurd rfl z⟩)
      · rw [show g_O (px, py) (qx, qy) (cx, cy) = true from o]; rfl
      · rw [show g_O (px, py) (qx, qy) (cx, cy) = false from o]; rfl
    have k76 : ∀ g : Int, (g ≠ 0 → (decide (y1 = 0) || decide ((cx, cy) = (qx, qy))) = true) → (g = 0 → (decide (y1 = 0) || decide ((cx, cy) = (qx, qy))) = false) → WX5_nearestOn_76 M (WX5_nearestOn_9 M Q d2) Q a px py qx qy s.1 s.2 k cx cy y1 g := by
      intro g g1 g0
      unfold WX5_nearestOn_76 VX5_nearestOn_76
      refine ⟨fun ne => no (by rw [g1 ne]; rfl), fun e => ⟨fun lt => k95 (g0 e) (by rw [decide_eq_true lt]; rfl), fun ge => ⟨fun le => no ?_, fun lt => k95 (g0 e) (by rw [decide_eq_true lt, Bool.or_true])⟩⟩⟩
      rw [decide_eq_false (Int.not_lt.mpr ge), decide_eq_false (Int.not_lt.mpr le), Bool.or_false, Bool.and_false, Bool.false_and]
    have k75 : y1 ≠ 0 → ¬ (cx = qx ∧ cy = qy) → WX5_nearestOn_75 M (WX5_nearestOn_9 M Q d2) Q a px py qx qy s.1 s.2 k cx cy y1 := fun n1 n2 => k76 0 (fun z => absurd rfl z) (fun _ => by
      rw [decide_eq_false n1, Bool.false_or]
      exact decide_eq_false (fun z => n2 ⟨congrArg Prod.fst z, congrArg Prod.snd z⟩))
    refine ⟨fun e => k76 1 (fun _ => by rw [decide_eq_true e]; rfl) (fun z => by omega), fun ne => ⟨fun n2 => k75 ne (fun z => n2 z.1), fun e2 => ⟨fun n3 => k75 ne (fun z => n3 z.2), fun e3 => k76 1 (fun _ => ?_) (fun z => by omega)⟩⟩⟩
    rw [e2, e3, decide_eq_true (p := (qx, qy) = (qx, qy)) rfl, Bool.or_true]
def p_edg (M : e_M) : List g_E := s_ar (fun k => ((M 4438 k, M 4439 k), (M 4440 k, M 4441 k))) (M 4426 11)
def p_eok (M : e_M) : Prop := 0 ≤ M 4426 11 ∧ M 4426 11 ≤ 160
def p_ez (M : e_M) : Prop := ∀ k : Nat, (k : Int) < M 4426 11 → M 4442 k = 0
theorem p_edg_len {M : e_M} (h : p_eok M) : ((p_edg M).length : Int) = M 4426 11 := by unfold p_edg; rw [s_ar_len]; have := h.1; omega
theorem p_edg_at {M : e_M} {i : Nat} (h : (i : Int) < M 4426 11) : (p_edg M)[i]? = some ((M 4438 i, M 4439 i), (M 4440 i, M 4441 i)) := s_ar_get (f := fun k => ((M 4438 k, M 4439 k), (M 4440 k, M 4441 k))) (by omega)
def q_fr (M M' : e_M) : Prop := (∀ b, b ≠ 4426 → (b < 4438 ∨ 4442 < b) → M' b = M b) ∧ ∀ k, k ≠ 11 → M' 4426 k = M 4426 k
theorem q_fr_trans {M N L : e_M} (h1 : q_fr M N) (h2 : q_fr N L) : q_fr M L := ⟨fun b b1 b2 => by rw [h2.1 b b1 b2, h1.1 b b1 b2], fun k hk => by rw [h2.2 k hk, h1.2 k hk]⟩
theorem q_fr_refl {M : e_M} : q_fr M M := ⟨fun _ _ _ => rfl, fun _ _ => rfl⟩
theorem t_160 {α : Type} {X Y : List α} : (X.take 160 ++ Y).take 160 = (X ++ Y).take 160 := by
  rw [List.take_append, List.take_append, List.take_take, Nat.min_self, List.length_take, show 160 - min 160 X.length = 160 - X.length by omega]
theorem t_id {α : Type} {X : List α} (h : X.length ≤ 160) : X.take 160 = X := List.take_of_length_le h
theorem c_layEdge {M : e_M} {px py qx qy : Int} {Q : e_M → Prop} (h : p_eok M) (hz : p_ez M) (hq : ∀ M', p_edg M' = (p_edg M ++ [((px, py), (qx, qy))]).take 160 → p_eok M' → p_ez M' → q_fr M M' → Q M') : WX5_layEdge px py qx qy M Q := by
  obtain ⟨h0, h1⟩ := id h
  have hl := p_edg_len h
  unfold WX5_layEdge VX5_layEdge
  refine ⟨fun ge => hq M ?_ h hz q_fr_refl, fun lt => ⟨⟨h0, lt⟩, fun M1 e1 => ?_⟩⟩
  · rw [List.take_append, t_id (by omega), show 160 - (p_edg M).length = 0 by omega, List.take_zero, List.append_nil]
  have a1 : M1 4426 = M 4426 := by rw [e1, e_up_row (by omega)]
  refine ⟨by rw [a1]; exact ⟨h0, lt⟩, fun M2 e2 => ?_⟩
  have a2 : M2 4426 = M 4426 := by rw [e2, e_up_row (by omega), a1]
  refine ⟨by rw [a2]; exact ⟨h0, lt⟩, fun M3 e3 => ?_⟩
  have a3 : M3 4426 = M 4426 := by rw [e3, e_up_row (by omega), a2]
  refine ⟨by rw [a3]; exact ⟨h0, lt⟩, fun M4 e4 => ?_⟩
  have a4 : M4 4426 = M 4426 := by rw [e4, e_up_row (by omega), a3]
  refine ⟨⟨by rw [a4]; exact ⟨h0, lt⟩, Or.inl rfl⟩, fun M5 e5 M6 e6 => ?_⟩
  have a5 : M5 4426 = M 4426 := by rw [e5, e_up_row (by omega), a4]
  have a6 : M6 4426 11 = M 4426 11 + 1 := by rw [e6, e_up_eq, a5, s_w (by omega) (by omega)]
  rw [a1] at e2
  rw [a2] at e3
  rw [a3] at e4
  rw [a4] at e5
  have k38 : ∀ j, M6 4438 j = if j = (M 4426 11).toNat then px else M 4438 j := fun j => by rw [e6, e_up_row (by omega), e5, e_up_row (by omega), e4, e_up_row (by omega), e3, e_up_row (by omega), e2, e_up_row (by omega), e1, e_up_at]
  have k39 : ∀ j, M6 4439 j = if j = (M 4426 11).toNat then py else M 4439 j := fun j => by rw [e6, e_up_row (by omega), e5, e_up_row (by omega), e4, e_up_row (by omega), e3, e_up_row (by omega), e2, e_up_at, e1, e_up_row (by omega)]
  have k40 : ∀ j, M6 4440 j = if j = (M 4426 11).toNat then qx else M 4440 j := fun j => by rw [e6, e_up_row (by omega), e5, e_up_row (by omega), e4, e_up_row (by omega), e3, e_up_at, e2, e_up_row (by omega), e1, e_up_row (by omega)]
  have k41 : ∀ j, M6 4441 j = if j = (M 4426 11).toNat then qy else M 4441 j := fun j => by rw [e6, e_up_row (by omega), e5, e_up_row (by omega), e4, e_up_at, e3, e_up_row (by omega), e2, e_up_row (by omega), e1, e_up_row (by omega)]
  have k42 : ∀ j, M6 4442 j = if j = (M 4426 11).toNat then 0 else M 4442 j := fun j => by rw [e6, e_up_row (by omega), e5, e_up_at, e4, e_up_row (by omega), e3, e_up_row (by omega), e2, e_up_row (by omega), e1, e_up_row (by omega)]
  refine hq M6 ?_ ⟨by omega, by omega⟩ (fun k hk => ?_) ⟨fun b b1 b2 => ?_, fun k hk => ?_⟩
  · rw [t_id (by rw [List.length_append, List.length_singleton]; omega)]
    unfold p_edg
    rw [a6, s_ar_succ h0]
    congr 1
    · refine s_ar_congr (fun j hj => ?_)
      rw [k38, k39, k40, k41, if_neg (by omega), if_neg (by omega), if_neg (by omega), if_neg (by omega)]
    · rw [k38, k39, k40, k41, if_pos rfl, if_pos rfl, if_pos rfl, if_pos rfl]
  · rw [k42]
    split
    · rfl
    · exact hz k (by omega)
  · rw [e6, e_up_row b1, e5, e_up_row (by omega), e4, e_up_row (by omega), e3, e_up_row (by omega), e2, e_up_row (by omega), e1, e_up_row (by omega)]
  · rw [e6, e_up_ne (fun z => hk z.2), a5]
/-- a stretch parted at the corners of a FIGURE -/
def g_cutE (G : s_Fig) (q : Int × Int) : Nat → Int × Int → List g_E
  | 0, p => [(p, q)]
  | n + 1, p => if (g_nrst G p q G.length).1 < 0 then [(p, q)] else (p, g_pt G (g_nrst G p q G.length).1.toNat) :: g_cutE G q n (g_pt G (g_nrst G p q G.length).1.toNat)
def g_edgs (F G : s_Fig) : Nat → List g_E
  | 0 => []
  | i + 1 => g_edgs F G i ++ g_cutE G (g_pt F (g_nx F.length i)) 41 (g_pt F i)
theorem c_layEdges {M : e_M} {a b : Nat} {Q : e_M → Prop} (ha : s_fok M a) (hb : s_fok M b) (fa : s_fb (s_fig M a)) (fb : s_fb (s_fig M b)) (da : a + 2 < 4426 ∨ 4442 < a) (db : b + 2 < 4426 ∨ 4442 < b) (h : p_eok M) (hz : p_ez M) (hq : ∀ M', p_edg M' = (p_edg M ++ g_edgs (s_fig M a) (s_fig M b) (s_fig M a).length).take 160 → p_eok M' → p_ez M' → q_fr M M' → Q M') : WX5_layEdges a b M Q := by
  have hl := s_fig_len ha
  have hlb := s_fig_len hb
  obtain ⟨h0, h40⟩ := id ha
  have b40 := hb.2
  have same : ∀ L : e_M, q_fr M L → (L a = M a ∧ L (a + 1) = M (a + 1) ∧ L (a + 2) = M (a + 2) ∧ s_fig L a = s_fig M a ∧ s_fok L a) ∧ L (b + 1) = M (b + 1) ∧ L (b + 2) = M (b + 2) ∧ s_fig L b = s_fig M b ∧ s_fok L b := by
    intro L f
    have x0 := f.1 a (by omega) (by omega)
    have x1 := f.1 (a + 1) (by omega) (by omega)
    have x2 := f.1 (a + 2) (by omega) (by omega)
    have y0 := f.1 b (by omega) (by omega)
    have y1 := f.1 (b + 1) (by omega) (by omega)
    have y2 := f.1 (b + 2) (by omega) (by omega)
    exact ⟨⟨x0, x1, x2, s_fig_congr (by rw [x0]) x1 x2, by unfold s_fok; rw [x0]; exact ha⟩, y1, y2, s_fig_congr (by rw [y0]) y1 y2, by unfold s_fok; rw [y0]; exact hb⟩
  have el := p_edg_len h
  unfold WX5_layEdges VX5_layEdges
  refine s_up (σ := e_M) (P := fun dd i L => WX5_layEdges_2 Q dd a b i L) (n := M a 2) (i0 := 0) (s := M) (fun i L => p_edg L = (p_edg M ++ g_edgs (s_fig M a) (s_fig M b) i.toNat).take 160 ∧ p_eok L ∧ p_ez L ∧ q_fr M L) h0 ⟨by show _ = (p_edg M ++ []).take 160; have := h.2; rw [List.append_nil, t_id (by omega)], h, hz, q_fr_refl⟩ ?_ ?_
  · intro d2 L ⟨l1, l2, l3, l4⟩
    obtain ⟨⟨s1, -⟩, -⟩ := same L l4
    unfold WX5_layEdges_2 VX5_layEdges_2
    rw [s1]
    refine ⟨fun _ => hq L ?_ l2 l3 l4, fun z => by omega⟩
    rw [l1, show (M a 2).toNat = (s_fig M a).length by omega]
  · intro d2 i L k1 k2 ⟨l1, l2, l3, l4⟩ ih
    obtain ⟨⟨s1, s2, s3, s4, s5⟩, -⟩ := same L l4
    unfold WX5_layEdges_2 VX5_layEdges_2
    rw [s1]
    refine ⟨fun z => by omega, fun _ => c_next s5 ⟨k1, by rw [s1]; exact k2⟩ ?_⟩
    have hk := g_nx_lt (n := (s_fig M a).length) (i := i.toNat) (by omega)
    rw [s2, s3, s4]
    have p1 : g_pt (s_fig M a) i.toNat = (M (a + 1) i.toNat, M (a + 2) i.toNat) := g_pt_fig (by omega)
    have p2 : g_pt (s_fig M a) (g_nx (s_fig M a).length i.toNat) = (M (a + 1) (g_nx (s_fig M a).length i.toNat), M (a + 2) (g_nx (s_fig M a).length i.toNat)) := g_pt_fig (by omega)
    have lp1 := g_pt_b fa i.toNat
    have lp2 := g_pt_b fa (g_nx (s_fig M a).length i.toNat)
    have eS : g_edgs (s_fig M a) (s_fig M b) (i.toNat + 1) = g_edgs (s_fig M a) (s_fig M b) i.toNat ++ g_cutE (s_fig M b) (g_pt (s_fig M a) (g_nx (s_fig M a).length i.toNat)) 41 (g_pt (s_fig M a) i.toNat) := rfl
    rw [p1, p2] at eS
    rw [p1] at lp1
    rw [p2] at lp2
    generalize hn : g_nx (s_fig M a).length i.toNat = m at *
    have rm : 0 ≤ (m : Int) ∧ (m : Int) < 40 := by omega
    refine ⟨by omega, by omega, ?_⟩
    have em : ((m : Nat) : Int).toNat = m := by omega
    refine s_up (σ := (Int × Int) × e_M) (P := fun dd k s => WX5_layEdges_36 (WX5_layEdges_2 Q d2) Q dd a b i (m : Int) s.1.1 s.1.2 k s.2) (n := 41) (i0 := 0) (s := ((M (a + 1) i.toNat, M (a + 2) i.toNat), L)) (fun k s => s_lp s.1 ∧ (p_edg s.2 ++ g_cutE (s_fig M b) (M (a + 1) m, M (a + 2) m) (41 - k).toNat s.1).take 160 = (p_edg M ++ g_edgs (s_fig M a) (s_fig M b) (i.toNat + 1)).take 160 ∧ p_eok s.2 ∧ p_ez s.2 ∧ q_fr M s.2) (by omega) ⟨lp1, ?_, l2, l3, l4⟩ ?_ ?_
    · show (p_edg L ++ g_cutE (s_fig M b) (M (a + 1) m, M (a + 2) m) 41 (M (a + 1) i.toNat, M (a + 2) i.toNat)).take 160 = _
      rw [l1, t_160, eS, List.append_assoc]
    · intro d3 ⟨⟨px, py⟩, N⟩ ⟨n0, n1, n2, n3, n4⟩
      dsimp only at n0 n1 n2 n3 n4 ⊢
      obtain ⟨⟨s1, s2, s3, s4, s5⟩, -⟩ := same N n4
      unfold WX5_layEdges_36 VX5_layEdges_36
      refine ⟨fun _ => ?_, fun z => by omega⟩
      unfold WX5_layEdges_121 VX5_layEdges_121
      rw [s2, s3, em]
      refine ⟨rm, rm, c_layEdge n2 n3 (fun G g1 g2 g3 g4 => ?_)⟩
      rw [s_w (by omega) (by omega)]
      refine ih G ⟨?_, g2, g3, q_fr_trans n4 g4⟩
      rw [g1, show (i + 1).toNat = i.toNat + 1 by omega]
      exact n1
    · intro d3 k ⟨⟨px, py⟩, N⟩ j1 j2 ⟨n0, n1, n2, n3, n4⟩ ih2
      dsimp only at n0 n1 n2 n3 n4 ⊢
      obtain ⟨⟨s1, s2, s3, s4, s5⟩, t1, t2, t3, t4⟩ := same N n4
      unfold WX5_layEdges_36 VX5_layEdges_36
      rw [s2, s3, em]
      refine ⟨fun z => by omega, fun _ => ⟨rm, rm, c_nearestOn t4 (by rw [t3]; exact fb) n0 lp2 ?_⟩⟩
      rw [t3]
      have hb_ := g_nrst_b (F := s_fig M b) (p := (px, py)) (q := (M (a + 1) m, M (a + 2) m)) (k := (s_fig M b).length)
      rw [show (41 - k).toNat = (41 - (k + 1)).toNat + 1 by omega] at n1
      unfold g_cutE at n1
      refine ⟨fun ge => ?_, fun lt => ?_⟩
      · rw [if_neg (Int.not_lt.mpr ge)] at n1
        have pr : g_pt (s_fig M b) (g_nrst (s_fig M b) (px, py) (M (a + 1) m, M (a + 2) m) (s_fig M b).length).1.toNat = (M (b + 1) (g_nrst (s_fig M b) (px, py) (M (a + 1) m, M (a + 2) m) (s_fig M b).length).1.toNat, M (b + 2) (g_nrst (s_fig M b) (px, py) (M (a + 1) m, M (a + 2) m) (s_fig M b).length).1.toNat) := g_pt_fig (by omega)
        have lpr := g_pt_b fb (g_nrst (s_fig M b) (px, py) (M (a + 1) m, M (a + 2) m) (s_fig M b).length).1.toNat
        rw [pr] at n1 lpr
        generalize (g_nrst (s_fig M b) (px, py) (M (a + 1) m, M (a + 2) m) (s_fig M b).length).1 = r at *
        have rr : 0 ≤ r ∧ r < 40 := by omega
        rw [t1, t2]
        refine ⟨rr, rr, c_layEdge n2 n3 (fun G g1 g2 g3 g4 => ⟨rr, rr, ?_⟩)⟩
        obtain ⟨-, u1, u2, -⟩ := same G (q_fr_trans n4 g4)
        rw [u1, u2, s_w (by omega) (by omega)]
        refine ih2 ((M (b + 1) r.toNat, M (b + 2) r.toNat), G) ⟨lpr, ?_, g2, g3, q_fr_trans n4 g4⟩
        show (p_edg G ++ g_cutE _ _ (41 - (k + 1)).toNat _).take 160 = _
        rw [g1, t_160, List.append_assoc]
        exact n1
      · rw [if_pos lt] at n1
        unfold WX5_layEdges_121 VX5_layEdges_121
        rw [s2, s3, em]
        refine ⟨rm, rm, c_layEdge n2 n3 (fun G g1 g2 g3 g4 => ?_)⟩
        rw [s_w (by omega) (by omega)]
        refine ih G ⟨?_, g2, g3, q_fr_trans n4 g4⟩
        rw [g1, show (i + 1).toNat = i.toNat + 1 by omega]
        exact n1
