/-! the class's Plane: points laid, and closed to a FIGURE -/
theorem g_pt_b {F : s_Fig} (hF : s_fb F) (i : Nat) : s_lp (g_pt F i) := by
  unfold g_pt
  cases e : F[i]? with
  | none => show s_lp (0, 0); unfold s_lp; dsimp only; omega
  | some q => exact hF q (List.mem_of_getElem? e)
theorem g_par_ex {f : Nat → Bool} : ∀ {n : Nat}, g_par f n = true → ∃ i, i < n ∧ f i = true
  | 0, h => by cases h
  | n + 1, h => by
    cases e : f n with
    | true => exact ⟨n, by omega, e⟩
    | false =>
      have h2 : (g_par f n != f n) = true := h
      rw [e, Bool.bne_false] at h2
      obtain ⟨i, i1, i2⟩ := g_par_ex h2
      exact ⟨i, by omega, i2⟩
/-- a point that is in a FIGURE or on it is within the LAND -/
theorem g_where_lp {F : s_Fig} {px py : Int} (hF : s_fb F) (hx : 0 ≤ px) (hy : 0 ≤ py) (h : g_where F px py 1 ≠ 0) : s_lp (px, py) := by
  unfold g_where at h
  unfold s_lp
  dsimp only
  by_cases c : g_any (g_ed F 1 (fun ax ay bx b => g_on ax ay bx b px py)) F.length = true
  · obtain ⟨i, i1, i2⟩ := g_any_iff.mp c
    unfold g_ed at i2
    have a1 := g_pt_b hF i
    have a2 := g_pt_b hF (g_nx F.length i)
    unfold s_lp at a1 a2
    have := g_on_iff.mp i2
    omega
  · rw [if_neg c] at h
    by_cases c2 : g_par (g_ed F 1 (fun ax ay bx b => g_cr ax ay bx b px py)) F.length = true
    · obtain ⟨i, i1, i2⟩ := g_par_ex c2
      unfold g_ed at i2
      rw [Int.mul_one, Int.mul_one, Int.mul_one, Int.mul_one] at i2
      have a1 := g_pt_b hF i
      have a2 := g_pt_b hF (g_nx F.length i)
      unfold s_lp at a1 a2
      generalize g_pt F i = p at *
      generalize g_pt F (g_nx F.length i) = q at *
      obtain ⟨ax, ay⟩ := p
      obtain ⟨bx, b⟩ := q
      dsimp only at a1 a2 i2
      unfold g_cr g_turn at i2
      rw [Bool.and_eq_true] at i2
      obtain ⟨j1, j2⟩ := i2
      have j1' : ¬ (py < ay ↔ py < b) := by
        intro z
        by_cases c1 : py < ay <;> by_cases c3 : py < b <;> simp [c1, c3] at j1 z
      by_cases px1 : px ≤ 1000
      · refine ⟨by omega, hy, by omega⟩
      · exfalso
        by_cases lt : ay < b
        · rw [if_pos lt, decide_eq_true_iff] at j2
          have u1 : 0 ≤ py - ay := by omega
          have u2 : py - ay < b - ay := by omega
          have m1 : (bx - ax) * (py - ay) ≤ (px - ax) * (py - ay) := Int.mul_le_mul_of_nonneg_right (by omega) u1
          have m2 : (px - ax) * (py - ay) < (px - ax) * (b - ay) := Int.mul_lt_mul_of_pos_left u2 (by omega)
          rw [Int.mul_comm (b - ay) (px - ax)] at j2
          omega
        · rw [if_neg lt, decide_eq_true_iff] at j2
          have u1 : 0 < ay - py := by omega
          have u2 : ay - py ≤ ay - b := by omega
          have m1 : (bx - ax) * (ay - py) ≤ (px - ax) * (ay - py) := Int.mul_le_mul_of_nonneg_right (by omega) (by omega)
          have m2 : (px - ax) * (ay - py) ≤ (px - ax) * (ay - b) := Int.mul_le_mul_of_nonneg_left u2 (by omega)
          have m3 : (bx - ax) * (py - ay) = -((bx - ax) * (ay - py)) := by rw [← Int.mul_neg]; congr 1; omega
          have m4 : (b - ay) * (px - ax) = -((px - ax) * (ay - b)) := by rw [← Int.mul_neg, Int.mul_comm]; congr 1; omega
          omega
    · rw [if_neg c2] at h; exact absurd rfl h
/-! what is laid -/
def p_raw (M : e_M) : s_Fig := s_ar (fun k => (M 4436 k, M 4437 k)) (M 4426 5)
def p_rok (M : e_M) : Prop := 0 ≤ M 4426 5 ∧ M 4426 5 ≤ 160
theorem p_raw_len {M : e_M} (h : p_rok M) : ((p_raw M).length : Int) = M 4426 5 := by unfold p_raw; rw [s_ar_len]; have := h.1; omega
theorem p_raw_at {M : e_M} {i : Nat} (h : (i : Int) < M 4426 5) : (p_raw M)[i]? = some (M 4436 i, M 4437 i) := s_ar_get (f := fun k => (M 4436 k, M 4437 k)) (by omega)
theorem p_raw_pt {M : e_M} {i : Nat} (h : (i : Int) < M 4426 5) : g_pt (p_raw M) i = (M 4436 i, M 4437 i) := by unfold g_pt; rw [p_raw_at h]; rfl
def p_fr (M M' : e_M) : Prop := (∀ b, b ≠ 4426 → b ≠ 4436 → b ≠ 4437 → M' b = M b) ∧ ∀ k, k ≠ 5 → M' 4426 k = M 4426 k
theorem p_fr_trans {M N L : e_M} (h1 : p_fr M N) (h2 : p_fr N L) : p_fr M L := ⟨fun b b1 b2 b3 => by rw [h2.1 b b1 b2 b3, h1.1 b b1 b2 b3], fun k hk => by rw [h2.2 k hk, h1.2 k hk]⟩
theorem c_lay {M : e_M} {x y : Int} {Q : e_M → Prop} (h : p_rok M) (hq : ∀ M', p_raw M' = (if M 4426 5 < 160 then p_raw M ++ [(x, y)] else p_raw M) → p_rok M' → p_fr M M' → Q M') : WX5_lay x y M Q := by
  obtain ⟨h0, h1⟩ := id h
  unfold WX5_lay VX5_lay
  refine ⟨fun ge => hq M (by rw [if_neg (by omega)]) h ⟨fun _ _ _ _ => rfl, fun _ _ => rfl⟩, fun lt => ⟨⟨h0, lt⟩, fun M1 e1 => ?_⟩⟩
  have a1 : M1 4426 = M 4426 := by rw [e1, e_up_row (by omega)]
  refine ⟨by rw [a1]; exact ⟨h0, lt⟩, fun M2 e2 M3 e3 => ?_⟩
  have a2 : M2 4426 = M 4426 := by rw [e2, e_up_row (by omega), a1]
  have a3 : M3 4426 5 = M 4426 5 + 1 := by rw [e3, e_up_eq, a2, s_w (by omega) (by omega)]
  refine hq M3 ?_ ⟨by omega, by omega⟩ ⟨fun b b0 b1 b2 => by rw [e3, e_up_row b0, e2, e_up_row b2, e1, e_up_row b1], fun k hk => by rw [e3, e_up_ne (fun z => hk z.2), a2]⟩
  rw [if_pos lt]
  unfold p_raw
  rw [a3, s_ar_succ h0]
  have k1 : ∀ j, M3 4436 j = if j = (M 4426 5).toNat then x else M 4436 j := fun j => by rw [e3, e_up_row (by omega), e2, e_up_row (by omega), e1, e_up_at]
  have k2 : ∀ j, M3 4437 j = if j = (M 4426 5).toNat then y else M 4437 j := fun j => by rw [e3, e_up_row (by omega), e2, e_up_at, a1, e1, e_up_row (by omega)]
  congr 1
  · refine s_ar_congr (fun j hj => ?_)
    rw [k1, k2, if_neg (by omega), if_neg (by omega)]
  · rw [k1, k2, if_pos rfl, if_pos rfl]
theorem c_layCutF {M : e_M} {d : Nat} {Q : e_M → Prop} (hd : s_dok M d) (hdo : d + 6 < 4426 ∨ 4437 < d) (hq : ∀ M', p_raw M' = s_dps M d → p_rok M' → p_fr M M' → Q M') : WX5_layCut d 0 1 M Q := by
  obtain ⟨n0, n12⟩ := hd.2.2
  have hl := s_dps_len hd
  unfold WX5_layCut VX5_layCut
  intro M1 e1
  have a1 : ∀ b, b ≠ 4426 → M1 b = M b := fun b hb => by rw [e1, e_up_row hb]
  refine s_up (σ := e_M) (P := fun dd i L => WX5_layCut_8 Q dd d 1 i L) (n := M d 18) (i0 := 0) (s := M1) (fun i L => p_raw L = (s_dps M d).take i.toNat ∧ p_rok L ∧ p_fr M L) n0 ⟨?_, ?_, ⟨fun b b1 _ _ => a1 b b1, fun k hk => by rw [e1, e_up_ne (fun z => hk z.2)]⟩⟩ ?_ ?_
  · unfold p_raw; rw [e1, e_up_eq]; rfl
  · unfold p_rok; rw [e1, e_up_eq]; omega
  · intro d2 L ⟨l1, l2, l3⟩
    unfold WX5_layCut_8 VX5_layCut_8
    rw [l3.1 d (by omega) (by omega) (by omega)]
    refine ⟨fun z => by omega, fun _ => ⟨fun _ => hq L ?_ l2 l3, fun z => by omega⟩⟩
    rw [l1, List.take_of_length_le (by omega)]
  · intro d2 i L k1 k2 ⟨l1, l2, l3⟩ ih
    have ll := p_raw_len l2
    rw [l1, List.length_take] at ll
    unfold WX5_layCut_8 VX5_layCut_8
    rw [l3.1 d (by omega) (by omega) (by omega), l3.1 (d + 5) (by omega) (by omega) (by omega), l3.1 (d + 6) (by omega) (by omega) (by omega)]
    refine ⟨fun z => by omega, fun _ => ⟨fun z => by omega, fun _ => ⟨by omega, by omega, c_lay l2 (fun G g1 g2 g3 => ?_)⟩⟩⟩
    rw [s_w (by omega) (by omega)]
    refine ih G ⟨?_, g2, p_fr_trans l3 g3⟩
    rw [g1, if_pos (by omega), l1, show (i + 1).toNat = i.toNat + 1 by omega, List.take_add_one, s_dps_at (by omega)]
    rfl
theorem c_layCutB {M : e_M} {d : Nat} {Q : e_M → Prop} (hd : s_dok M d) (hn : 0 < M d 18) (hdo : d + 6 < 4426 ∨ 4437 < d) (hq : ∀ M', p_raw M' = (s_dps M d).reverse → p_rok M' → p_fr M M' → Q M') : WX5_layCut d (M d 18 - 1) (-1) M Q := by
  obtain ⟨n0, n12⟩ := hd.2.2
  have hl := s_dps_len hd
  unfold WX5_layCut VX5_layCut
  intro M1 e1
  have a1 : ∀ b, b ≠ 4426 → M1 b = M b := fun b hb => by rw [e1, e_up_row hb]
  show ∃ j, WX5_layCut_8 Q j d (-1) (M d 18 - 1) M1
  refine ⟨_, s_iter (σ := Int × e_M) (P := fun dd s => WX5_layCut_8 Q dd d (-1) s.1 s.2) (fun s => (s.1 + 1).toNat) (fun s => -1 ≤ s.1 ∧ s.1 < M d 18 ∧ p_raw s.2 = ((s_dps M d).drop (s.1 + 1).toNat).reverse ∧ p_rok s.2 ∧ p_fr M s.2) ?_ _ (M d 18 - 1, M1) ⟨by show -1 ≤ M d 18 - 1; omega, by show M d 18 - 1 < M d 18; omega, ?_, ?_, ⟨fun b b1 _ _ => a1 b b1, fun k hk => by show M1 4426 k = _; rw [e1, e_up_ne (fun z => hk z.2)]⟩⟩ (Nat.lt_succ_self _)⟩
  · intro d2 ⟨i, L⟩ ⟨i1, i2, l1, l2, l3⟩ ih
    dsimp only at i1 i2 l1 l2 l3 ih ⊢
    unfold WX5_layCut_8 VX5_layCut_8
    rw [l3.1 d (by omega) (by omega) (by omega), l3.1 (d + 5) (by omega) (by omega) (by omega), l3.1 (d + 6) (by omega) (by omega) (by omega)]
    refine ⟨fun lt => hq L ?_ l2 l3, fun ge => ⟨fun z => by omega, fun _ => ⟨by omega, by omega, c_lay l2 (fun G g1 g2 g3 => ?_)⟩⟩⟩
    · rw [l1, show (i + 1).toNat = 0 by omega, List.drop_zero]
    · rw [s_w (by omega) (by omega)]
      refine ih (i + -1, G) ⟨by show -1 ≤ i + -1; omega, by show i + -1 < M d 18; omega, ?_, g2, p_fr_trans l3 g3⟩ (by show (i + -1 + 1).toNat < (i + 1).toNat; omega)
      have ll := p_raw_len l2
      rw [l1, List.length_reverse, List.length_drop] at ll
      show p_raw G = ((s_dps M d).drop (i + -1 + 1).toNat).reverse
      obtain ⟨hlt, hge⟩ := List.getElem?_eq_some_iff.mp (s_dps_at (M := M) (d := d) (i := i.toNat) (by omega))
      rw [g1, if_pos (by omega), l1, show (i + -1 + 1).toNat = i.toNat by omega, List.drop_eq_getElem_cons hlt, hge, List.reverse_cons, show (i + 1).toNat = i.toNat + 1 by omega]
  · show p_raw M1 = _
    rw [List.drop_eq_nil_of_le (by show _ ≤ (M d 18 - 1 + 1).toNat; omega)]
    unfold p_raw; rw [e1, e_up_eq]; rfl
  · show p_rok M1
    unfold p_rok; rw [e1, e_up_eq]; omega
/-- the corners that come behind one, so many, but for a point -/
def g_brd (F : s_Fig) (q : Int × Int) : Nat → Nat → s_Fig
  | 0, _ => []
  | n + 1, c => (if g_pt F (g_nx F.length c) = q then [] else [g_pt F (g_nx F.length c)]) ++ g_brd F q n (g_nx F.length c)
theorem g_brd_S {F : s_Fig} {q : Int × Int} {n c : Nat} : g_brd F q (n + 1) c = (if g_pt F (g_nx F.length c) = q then [] else [g_pt F (g_nx F.length c)]) ++ g_brd F q n (g_nx F.length c) := rfl
theorem g_brd_len {F : s_Fig} {q : Int × Int} : ∀ {n c : Nat}, (g_brd F q n c).length ≤ n
  | 0, _ => Nat.le_refl 0
  | n + 1, c => by
    unfold g_brd
    have := g_brd_len (F := F) (q := q) (n := n) (c := g_nx F.length c)
    rw [List.length_append]
    split
    · rw [List.length_nil]; omega
    · rw [List.length_singleton]; omega
def g_ah (F : s_Fig) (p q : Int × Int) (c : Nat) : Int := (((q.1 - (g_pt F c).1).natAbs : Int) + ((q.2 - (g_pt F c).2).natAbs : Int)) - ((p.1 - (g_pt F c).1).natAbs : Int) - ((p.2 - (g_pt F c).2).natAbs : Int)
def g_bst (F : s_Fig) (p q : Int × Int) : Int := if g_str F q.1 q.2 - g_str F p.1 p.2 < 0 ∨ (g_str F q.1 q.2 - g_str F p.1 p.2 = 0 ∧ g_ah F p q (g_str F p.1 p.2).toNat < 0) then g_str F q.1 q.2 - g_str F p.1 p.2 + F.length else g_str F q.1 q.2 - g_str F p.1 p.2
def g_bord (F : s_Fig) (p q : Int × Int) : s_Fig := if g_str F p.1 p.2 < 0 ∨ g_str F q.1 q.2 < 0 then [] else g_brd F q (g_bst F p q).toNat (g_str F p.1 p.2).toNat
theorem g_fst_lt {f : Nat → Bool} {n : Nat} : -1 ≤ g_fst f n ∧ g_fst f n < n := by
  unfold g_fst
  cases e : (List.range n).find? f with
  | none => dsimp only; omega
  | some i =>
    have := List.mem_of_find?_eq_some e
    rw [List.mem_range] at this
    dsimp only; omega
theorem g_str_lt {F : s_Fig} {x y : Int} : -1 ≤ g_str F x y ∧ g_str F x y < F.length := g_fst_lt
theorem s_abs {x : Int} (h1 : -2147483648 < x) (h2 : x < 2147483648) : e_abs x = (x.natAbs : Int) := by
  unfold e_abs
  split
  · omega
  · rw [s_w (by omega) (by omega)]; omega
theorem c_layBorder {M : e_M} {a : Nat} {px py qx qy : Int} {Q : e_M → Prop} (h : s_fok M a) (hb : s_fb (s_fig M a)) (ha : ∀ k, k ≤ 2 → a + k ≠ 4426 ∧ a + k ≠ 4436 ∧ a + k ≠ 4437) (hp : s_lp (px, py)) (hp2 : s_lp (qx, qy)) (hr : p_rok M) (hr2 : M 4426 5 ≤ 100) (hq : ∀ M', p_raw M' = p_raw M ++ g_bord (s_fig M a) (px, py) (qx, qy) → p_rok M' → p_fr M M' → Q M') : WX5_layBorder a px py qx qy M Q := by
  have hl := s_fig_len h
  obtain ⟨h0, h40⟩ := id h
  obtain ⟨c1, c2⟩ := s_lp_cb hp
  obtain ⟨c3, c4⟩ := s_lp_cb hp2
  have hp' := hp
  have hp2' := hp2
  unfold s_lp at hp' hp2'
  dsimp only at c1 c2 c3 c4 hp' hp2'
  have rl := p_raw_len hr
  have a0 := ha 0 (by omega)
  have a1 := ha 1 (by omega)
  have a2 := ha 2 (by omega)
  rw [Nat.add_zero] at a0
  have f0 := g_str_lt (F := s_fig M a) (x := px) (y := py)
  have t0 := g_str_lt (F := s_fig M a) (x := qx) (y := qy)
  unfold WX5_layBorder VX5_layBorder
  refine c_stretchOf h hb c1 c2 (c_stretchOf h hb c3 c4 ⟨fun lt => hq M ?_ hr ⟨fun _ _ _ _ => rfl, fun _ _ => rfl⟩, fun ge => ⟨fun ge2 => ?_, fun lt => hq M ?_ hr ⟨fun _ _ _ _ => rfl, fun _ _ => rfl⟩⟩⟩)
  · unfold g_bord; rw [if_pos (Or.inl lt), List.append_nil]
  case refine_3 => unfold g_bord; rw [if_pos (Or.inr lt), List.append_nil]
  have eB : g_bord (s_fig M a) (px, py) (qx, qy) = g_brd (s_fig M a) (qx, qy) (g_bst (s_fig M a) (px, py) (qx, qy)).toNat (g_str (s_fig M a) px py).toNat := by
    unfold g_bord; rw [if_neg (by dsimp only; omega)]
  rw [eB] at hq
  have bf := s_fb_at (i := (g_str (s_fig M a) px py).toNat) hb (by omega)
  have pf : g_pt (s_fig M a) (g_str (s_fig M a) px py).toNat = (M (a + 1) (g_str (s_fig M a) px py).toNat, M (a + 2) (g_str (s_fig M a) px py).toNat) := g_pt_fig (by omega)
  have go : ∀ st : Int, 0 ≤ st → st ≤ 80 → st = g_bst (s_fig M a) (px, py) (qx, qy) → WX5_layBorder_115 Q a qx qy (g_str (s_fig M a) px py) st M := by
    intro st s0 s40 es
    rw [← es] at hq
    show ∃ j, WX5_layBorder_122 Q j a qx qy st (g_str (s_fig M a) px py) 0 M
    have s41 : st ≤ (s_fig M a).length := by
      rw [es]; unfold g_bst; dsimp only; split <;> omega
    refine s_up (σ := Int × e_M) (P := fun dd i s => WX5_layBorder_122 Q dd a qx qy st s.1 i s.2) (n := st) (i0 := 0) (s := (g_str (s_fig M a) px py, M)) (fun i s => (0 ≤ s.1 ∧ s.1 < M a 2) ∧ p_raw s.2 ++ g_brd (s_fig M a) (qx, qy) (st - i).toNat s.1.toNat = p_raw M ++ g_brd (s_fig M a) (qx, qy) st.toNat (g_str (s_fig M a) px py).toNat ∧ p_rok s.2 ∧ s.2 4426 5 ≤ M 4426 5 + i ∧ p_fr M s.2) s0 ⟨by dsimp only; omega, by rw [Int.sub_zero], hr, by dsimp only; omega, ⟨fun _ _ _ _ => rfl, fun _ _ => rfl⟩⟩ ?_ ?_
    · intro d2 ⟨c, L⟩ ⟨l0, l1, l2, l4, l3⟩
      dsimp only at l0 l1 l2 l3 l4 ⊢
      unfold WX5_layBorder_122 VX5_layBorder_122
      refine ⟨fun _ => hq L ?_ l2 l3, fun z => by omega⟩
      rw [← l1, Int.sub_self]
      show _ = _ ++ []
      rw [List.append_nil]
    · intro d2 i ⟨c, L⟩ k1 k2 ⟨l0, l1, l2, l4, l3⟩ ih
      dsimp only at l0 l1 l2 l3 l4 ⊢
      have eF : s_fig L a = s_fig M a := s_fig_congr (by rw [l3.1 a a0.1 a0.2.1 a0.2.2]) (l3.1 _ a1.1 a1.2.1 a1.2.2) (l3.1 _ a2.1 a2.2.1 a2.2.2)
      have ea : L a = M a := l3.1 a a0.1 a0.2.1 a0.2.2
      have hL : s_fok L a := by unfold s_fok; rw [ea]; exact h
      unfold WX5_layBorder_122 VX5_layBorder_122
      refine ⟨fun z => by omega, fun _ => c_next hL (by rw [ea]; exact l0) ?_⟩
      have hm := g_nx_lt (n := (s_fig M a).length) (i := c.toNat) (by omega)
      rw [eF, l3.1 (a + 1) a1.1 a1.2.1 a1.2.2, l3.1 (a + 2) a2.1 a2.2.1 a2.2.2]
      have pm : g_pt (s_fig M a) (g_nx (s_fig M a).length c.toNat) = (M (a + 1) (g_nx (s_fig M a).length c.toNat), M (a + 2) (g_nx (s_fig M a).length c.toNat)) := g_pt_fig (by omega)
      rw [show (st - i).toNat = (st - (i + 1)).toNat + 1 by omega, g_brd_S] at l1
      rw [pm] at l1
      generalize hn : g_nx (s_fig M a).length c.toNat = m at *
      rw [show ((m : Nat) : Int).toNat = m by omega]
      have rm : 0 ≤ (m : Int) ∧ (m : Int) < 40 := by omega
      have nxt : ∀ G, p_raw G = (if (M (a + 1) m, M (a + 2) m) = (qx, qy) then p_raw L else p_raw L ++ [(M (a + 1) m, M (a + 2) m)]) → p_rok G → G 4426 5 ≤ M 4426 5 + (i + 1) → p_fr M G → WX5_layBorder_179 (WX5_layBorder_122 Q d2) Q a qx qy st (m : Int) i G := by
        intro G g1 g2 g4 g3
        show WX5_layBorder_122 Q d2 a qx qy st (m : Int) (e_w32 (i + 1)) G
        rw [s_w (by omega) (by omega)]
        refine ih ((m : Int), G) ⟨by dsimp only; omega, ?_, g2, g4, g3⟩
        show p_raw G ++ g_brd (s_fig M a) (qx, qy) (st - (i + 1)).toNat ((m : Int)).toNat = _
        rw [← l1, g1, show ((m : Nat) : Int).toNat = m by omega]
        split
        · rw [List.nil_append]
        · rw [List.append_assoc]
      have k161 : (M (a + 1) m, M (a + 2) m) ≠ (qx, qy) → WX5_layBorder_161 (WX5_layBorder_122 Q d2) Q a qx qy st (m : Int) i L := by
        intro ne
        unfold WX5_layBorder_161 VX5_layBorder_161
        rw [l3.1 (a + 1) a1.1 a1.2.1 a1.2.2, l3.1 (a + 2) a2.1 a2.2.1 a2.2.2, show ((m : Nat) : Int).toNat = m by omega]
        refine ⟨rm, rm, c_lay l2 (fun G g1 g2 g3 => nxt G ?_ g2 ?_ (p_fr_trans l3 g3))⟩
        · rw [g1, if_pos (by omega), if_neg ne]
        · have q1 := p_raw_len g2
          have q2 := p_raw_len l2
          rw [g1, if_pos (by omega), List.length_append, List.length_singleton] at q1
          omega
      exact ⟨rm, fun ne => k161 (fun z => ne (congrArg Prod.fst z)), fun e1 => ⟨rm, fun e2 => nxt L (by rw [e1, e2, if_pos rfl]) l2 (by omega) l3, fun ne => k161 (fun z => ne (congrArg Prod.snd z))⟩⟩
  have rf : 0 ≤ g_str (s_fig M a) px py ∧ g_str (s_fig M a) px py < 40 := by omega
  refine ⟨rf, rf, rf, rf, fun y3 e3 => ?_⟩
  rw [s_w (x := g_str (s_fig M a) qx qy - g_str (s_fig M a) px py) (by omega) (by omega)]
  have e3' : y3 = g_ah (s_fig M a) (px, py) (qx, qy) (g_str (s_fig M a) px py).toNat := by
    rw [e3]
    unfold g_ah
    rw [pf]
    dsimp only
    generalize M (a + 1) (g_str (s_fig M a) px py).toNat = fx at *
    generalize M (a + 2) (g_str (s_fig M a) px py).toNat = fy at *
    rw [s_w (x := qx - fx) (by omega) (by omega), s_w (x := qy - fy) (by omega) (by omega), s_w (x := px - fx) (by omega) (by omega), s_w (x := py - fy) (by omega) (by omega), s_abs (by omega) (by omega), s_abs (by omega) (by omega), s_abs (by omega) (by omega), s_abs (by omega) (by omega), s_w (x := ((qx - fx).natAbs : Int) + ((qy - fy).natAbs : Int)) (by omega) (by omega), s_w (x := ((qx - fx).natAbs : Int) + ((qy - fy).natAbs : Int) - ((px - fx).natAbs : Int)) (by omega) (by omega), s_w (by omega) (by omega)]
  have yes : (g_str (s_fig M a) qx qy - g_str (s_fig M a) px py < 0 ∨ (g_str (s_fig M a) qx qy - g_str (s_fig M a) px py = 0 ∧ y3 < 0)) → WX5_layBorder_106 Q a qx qy (g_str (s_fig M a) px py) (g_str (s_fig M a) qx qy - g_str (s_fig M a) px py) M := by
    intro c
    show WX5_layBorder_115 Q a qx qy (g_str (s_fig M a) px py) (e_w32 (g_str (s_fig M a) qx qy - g_str (s_fig M a) px py + M a 2)) M
    rw [s_w (by omega) (by omega)]
    refine go _ (by omega) (by omega) ?_
    unfold g_bst
    dsimp only
    rw [e3'] at c
    rw [if_pos c, hl]
  have no : ¬ (g_str (s_fig M a) qx qy - g_str (s_fig M a) px py < 0 ∨ (g_str (s_fig M a) qx qy - g_str (s_fig M a) px py = 0 ∧ y3 < 0)) → WX5_layBorder_115 Q a qx qy (g_str (s_fig M a) px py) (g_str (s_fig M a) qx qy - g_str (s_fig M a) px py) M := by
    intro c
    refine go _ (by omega) (by omega) ?_
    unfold g_bst
    dsimp only
    rw [e3'] at c
    rw [if_neg c]
  exact ⟨fun lt => yes (Or.inl lt), fun ge' => ⟨fun ne => no (by omega), fun e => ⟨fun y0 => no (by omega), fun y0 => yes (Or.inr ⟨e, y0⟩)⟩⟩⟩
